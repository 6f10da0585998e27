section
variable {X : zX} {S : zx_S} {C : zx_C} {q : Int32 → zx_C → Prop} {e : Nat} {E : zT}
theorem lp178 (hS : zs_5 S e) (hE : zME C e E) (hW : zWF E) (z1 z2 : Value) : ∀ j t s : Nat, t < 2 ^ j → j ≤ 31 → s + 2 * j ≤ 1000 → q (zi (((s + mDig (eN E) j t) % eN E : Nat))) C → zW X 0 178 70 [.ref e, z1, z2, .int (zi s), .int (zi t)] [] S C (zQi q) := by
  have hn := hW.1
  have hne : ¬ zi (eN E) = zi 0 := by rw [zi_eq (by omega) (by omega) (by omega) (by omega)]; omega
  have hend : ∀ s : Nat, s ≤ 1000 → q (zi ((s % eN E : Nat))) C → zW X 0 178 70 [.ref e, z1, z2, .int (zi s), .int (zi (0 : Nat))] [] S C (zQi q) := by
    intro s hs hq
    refine vc178_70 (a1 := 0) (a2 := 0) hS ?_
    rw [zi_0, zlt_f (by omega), hE.1]
    refine ⟨hne, ?_⟩
    rw [zi_div (by omega) (by omega) (by omega) (by omega), zi_mul, zi_sub, zi_em, ← Int.natCast_emod]
    exact hq
  intro j
  induction j with
  | zero =>
    intro t s ht hj hs hq
    have h0 : t = 0 := by have : t < 1 := ht; omega
    subst h0
    exact hend s (by omega) hq
  | succ j ih =>
    intro t s ht hj hs hq
    by_cases h0 : t = 0
    · subst h0
      exact hend s (by omega) hq
    · have h5 : 2 ^ (j + 1) ≤ 2 ^ 31 := Nat.pow_le_pow_right (by decide) hj
      have h6 : t / eN E < 2 ^ j := by
        refine Nat.div_lt_of_lt_mul ?_
        have : 2 ^ (j + 1) = 2 * 2 ^ j := by rw [Nat.pow_succ]; omega
        have h8 : 2 * 2 ^ j ≤ eN E * 2 ^ j := Nat.mul_le_mul_right _ (by omega)
        omega
      refine vc178_70 (a1 := 0) (a2 := 0) hS ?_
      rw [zi_0, zlt_t (by omega), hE.1]
      refine ⟨hne, hne, ?_⟩
      simp only [mDig, if_neg h0] at hq
      have h2 : t % eN E < eN E := Nat.mod_lt _ (by omega)
      rw [zi_div (by omega) (by omega) (by omega) (by omega), zi_mul, zi_sub, zi_em, zi_add, ← Int.natCast_emod, ← Int.natCast_ediv, ← Int.natCast_add]
      exact ih (t / eN E) (s + t % eN E) h6 (by omega) (by omega) (by rw [Nat.add_assoc]; exact hq)
/-- whoseBy -/
theorem sp178 (hS : zs_5 S e) (hE : zME C e E) (hW : zWF E) {l t : Nat} (hl : l ≤ 3) (ht : t < 2147483648) : zCd X 0 178 [.ref e, .int (zi l), .int (zi t)] S C (zQi q) = q (zi (mAt E l t)) C := by
  refine zc_eI (fun q h => vc178 hS ?_) q
  have hn := hW.1
  have ho := hW.2.2.2.2.1
  have hl4 : l = 0 ∨ l = 1 ∨ l = 2 ∨ l = 3 := by omega
  have hne : ¬ zi (eN E) = zi 0 := by rw [zi_eq (by omega) (by omega) (by omega) (by omega)]; omega
  have hne2 : ¬ zi (2 * eN E) = zi 0 := by rw [zi_eq (by omega) (by omega) (by omega) (by omega)]; omega
  rw [hE.1, hE.2.2.2.2.2.1, zi_0, zi_1, zi_2, zi_3, zi_mul, zeq_i (by omega), zeq_i (by omega), zeq_i (by omega)]
  rcases hl4 with h4 | h4 | h4 | h4 <;> subst h4
  · rw [if_pos (by rfl)]
    refine ⟨hne, ?_⟩
    rw [zi_div (by omega) (by omega) (by omega) (by omega), zi_mul, zi_sub, zi_em, ← Int.natCast_emod]
    exact h
  · rw [if_neg (by decide), if_pos (by rfl)]
    refine ⟨hne2, ?_⟩
    have h5 : t % (2 * eN E) < 2 * eN E := Nat.mod_lt _ (by omega)
    rw [zi_div (by omega) (by omega) (by omega) (by omega), zi_mul, zi_sub, zi_em, show (2 * (eN E : Int)) = ((2 * eN E : Nat) : Int) by omega, ← Int.natCast_emod, zlt_i (by omega), zi_sub, zi_sub]
    have h6 : mAt E 1 t = (if t % (2 * eN E) < eN E then ((t % (2 * eN E) : Nat) : Int) else ((2 * eN E - 1 - t % (2 * eN E) : Nat) : Int)) := rfl
    rw [h6] at h
    split
    · rw [if_pos (by omega)] at h
      exact h
    · rw [if_neg (by omega)] at h
      rw [show (((2 * eN E : Nat) : Int) - 1 - ((t % (2 * eN E) : Nat) : Int)) = ((2 * eN E - 1 - t % (2 * eN E) : Nat) : Int) by omega]
      exact h
  · rw [if_neg (by decide), if_neg (by decide), if_neg (by decide)]
    refine lp178 hS hE hW _ _ 31 t 0 (by omega) (by omega) (by omega) ?_
    rw [Nat.zero_add]
    exact h
  · rw [if_neg (by decide), if_neg (by decide), if_pos (by rfl)]
    have h5 : t % eO E < eO E := Nat.mod_lt _ (by omega)
    refine ⟨by rw [zi_eq (by omega) (by omega) (by omega) (by omega)]; omega, ?_⟩
    rw [zi_div (by omega) (by omega) (by omega) (by omega), zi_mul, zi_sub, zi_em, ← Int.natCast_emod]
    refine ⟨zi_in (by omega) (by omega) (by omega), ?_⟩
    rw [zi_ix (by omega) (by omega), Int.toNat_natCast, hE.2.2.2.2.2.2.1 _ h5]
    exact h
end
