/-- bitCount, as the code reckons it -/
theorem bz_cnt0 : ∀ m : Fin 256, ∀ a1 : Int32, a1 = zi (m.val : Nat) → (((((((a1 - ((Int32.toUInt32 a1 >>> (Int32.toUInt32 1 &&& Int32.toUInt32 31)).toInt32 &&& 1431655765)) &&& 858993459) + ((Int32.toUInt32 (a1 - ((Int32.toUInt32 a1 >>> (Int32.toUInt32 1 &&& Int32.toUInt32 31)).toInt32 &&& 1431655765)) >>> (Int32.toUInt32 2 &&& Int32.toUInt32 31)).toInt32 &&& 858993459)) + (Int32.toUInt32 (((a1 - ((Int32.toUInt32 a1 >>> (Int32.toUInt32 1 &&& Int32.toUInt32 31)).toInt32 &&& 1431655765)) &&& 858993459) + ((Int32.toUInt32 (a1 - ((Int32.toUInt32 a1 >>> (Int32.toUInt32 1 &&& Int32.toUInt32 31)).toInt32 &&& 1431655765)) >>> (Int32.toUInt32 2 &&& Int32.toUInt32 31)).toInt32 &&& 858993459)) >>> (Int32.toUInt32 4 &&& Int32.toUInt32 31)).toInt32) &&& 252645135) + (Int32.toUInt32 (((((a1 - ((Int32.toUInt32 a1 >>> (Int32.toUInt32 1 &&& Int32.toUInt32 31)).toInt32 &&& 1431655765)) &&& 858993459) + ((Int32.toUInt32 (a1 - ((Int32.toUInt32 a1 >>> (Int32.toUInt32 1 &&& Int32.toUInt32 31)).toInt32 &&& 1431655765)) >>> (Int32.toUInt32 2 &&& Int32.toUInt32 31)).toInt32 &&& 858993459)) + (Int32.toUInt32 (((a1 - ((Int32.toUInt32 a1 >>> (Int32.toUInt32 1 &&& Int32.toUInt32 31)).toInt32 &&& 1431655765)) &&& 858993459) + ((Int32.toUInt32 (a1 - ((Int32.toUInt32 a1 >>> (Int32.toUInt32 1 &&& Int32.toUInt32 31)).toInt32 &&& 1431655765)) >>> (Int32.toUInt32 2 &&& Int32.toUInt32 31)).toInt32 &&& 858993459)) >>> (Int32.toUInt32 4 &&& Int32.toUInt32 31)).toInt32) &&& 252645135) >>> (Int32.toUInt32 8 &&& Int32.toUInt32 31)).toInt32) + (Int32.toUInt32 ((((((a1 - ((Int32.toUInt32 a1 >>> (Int32.toUInt32 1 &&& Int32.toUInt32 31)).toInt32 &&& 1431655765)) &&& 858993459) + ((Int32.toUInt32 (a1 - ((Int32.toUInt32 a1 >>> (Int32.toUInt32 1 &&& Int32.toUInt32 31)).toInt32 &&& 1431655765)) >>> (Int32.toUInt32 2 &&& Int32.toUInt32 31)).toInt32 &&& 858993459)) + (Int32.toUInt32 (((a1 - ((Int32.toUInt32 a1 >>> (Int32.toUInt32 1 &&& Int32.toUInt32 31)).toInt32 &&& 1431655765)) &&& 858993459) + ((Int32.toUInt32 (a1 - ((Int32.toUInt32 a1 >>> (Int32.toUInt32 1 &&& Int32.toUInt32 31)).toInt32 &&& 1431655765)) >>> (Int32.toUInt32 2 &&& Int32.toUInt32 31)).toInt32 &&& 858993459)) >>> (Int32.toUInt32 4 &&& Int32.toUInt32 31)).toInt32) &&& 252645135) + (Int32.toUInt32 (((((a1 - ((Int32.toUInt32 a1 >>> (Int32.toUInt32 1 &&& Int32.toUInt32 31)).toInt32 &&& 1431655765)) &&& 858993459) + ((Int32.toUInt32 (a1 - ((Int32.toUInt32 a1 >>> (Int32.toUInt32 1 &&& Int32.toUInt32 31)).toInt32 &&& 1431655765)) >>> (Int32.toUInt32 2 &&& Int32.toUInt32 31)).toInt32 &&& 858993459)) + (Int32.toUInt32 (((a1 - ((Int32.toUInt32 a1 >>> (Int32.toUInt32 1 &&& Int32.toUInt32 31)).toInt32 &&& 1431655765)) &&& 858993459) + ((Int32.toUInt32 (a1 - ((Int32.toUInt32 a1 >>> (Int32.toUInt32 1 &&& Int32.toUInt32 31)).toInt32 &&& 1431655765)) >>> (Int32.toUInt32 2 &&& Int32.toUInt32 31)).toInt32 &&& 858993459)) >>> (Int32.toUInt32 4 &&& Int32.toUInt32 31)).toInt32) &&& 252645135) >>> (Int32.toUInt32 8 &&& Int32.toUInt32 31)).toInt32) >>> (Int32.toUInt32 16 &&& Int32.toUInt32 31)).toInt32) &&& 63 = zi ((mCnt m.val 8 : Nat)) := by
  intro m a1 h
  subst h
  revert m
  decide +kernel
section
variable {X : zX} {S : zx_S} {C : zx_C} {q : Int32 → zx_C → Prop} {e : Nat} {E : zT}
/-- Integer.bitCount -/
theorem sp44 {m : Nat} (hm : m < 256) : zCd X 0 44 [.int (zi m)] S C (zQi q) = q (zi (mCnt m 8)) C := by
  refine zc_eI (fun q h => vc44 ?_) q
  rw [bz_cnt0 ⟨m, hm⟩ _ rfl]
  exact h
end
theorem mCnt_le (m n : Nat) : mCnt m n ≤ n := by
  induction n with
  | zero => exact Nat.le_refl 0
  | succ n ih => simp only [mCnt]; split <;> omega
/-- the sum of the digits -/
def mDig (n : Nat) : Nat → Nat → Nat
  | 0, _ => 0
  | f + 1, t => if t = 0 then 0 else t % n + mDig n f (t / n)
theorem mDig_le {n : Nat} (hn : n = 2 ∨ n = 3) (f t : Nat) : mDig n f t ≤ 2 * f := by
  induction f generalizing t with
  | zero => exact Nat.le_refl 0
  | succ f ih =>
    simp only [mDig]
    split
    · omega
    · have := ih (t / n)
      have h2 : t % n < n := Nat.mod_lt _ (by omega)
      omega
/-- whose a turn is -/
def mAt (E : zT) (l t : Nat) : Int := if l = 0 then ((t % eN E : Nat) : Int) else if l = 1 then (if t % (2 * eN E) < eN E then ((t % (2 * eN E) : Nat) : Int) else ((2 * eN E - 1 - t % (2 * eN E) : Nat) : Int)) else if l = 2 then ((mDig (eN E) 31 t % eN E : Nat) : Int) else eo E (t % eO E)
theorem mAt_b {E : zT} (hW : zWF E) (l t : Nat) : 0 ≤ mAt E l t ∧ mAt E l t < eN E := by
  have h1 := hW.1
  have h2 := hW.2.2.2.2.1
  have h3 := hW.2.2.2.2.2.1 (t % eO E) (Nat.mod_lt _ (by omega))
  have h4 : ∀ x, x % eN E < eN E := fun x => Nat.mod_lt _ (by omega)
  have h5 : t % (2 * eN E) < 2 * eN E := Nat.mod_lt _ (by omega)
  unfold mAt
  split
  · have := h4 t; omega
  · split
    · split <;> omega
    · split
      · have := h4 (mDig (eN E) 31 t); omega
      · exact h3
section
variable {X : zX} {S : zx_S} {C : zx_C} {q : Int32 → zx_C → Prop} {e : Nat} {E : zT}
theorem lp47 {n : Nat} (hn : n = 2 ∨ n = 3) (z0 : Value) : ∀ j i t s : Nat, i + j = 31 → t < 2147483648 → q (zi ((s + mDig n j t : Nat))) C → zW X 0 47 7 [z0, .int (zi n), .int (zi s), .int (zi t), .int (zi i)] [] S C (zQi q) := by
  intro j
  induction j with
  | zero =>
    intro i t s hi ht hq
    refine vc47_7 (a1 := 0) (a2 := 0) ?_
    rw [zi_31, zlt_f (by omega)]
    exact hq
  | succ j ih =>
    intro i t s hi ht hq
    refine vc47_7 (a1 := 0) (a2 := 0) ?_
    rw [zi_31, zlt_t (by omega)]
    by_cases h0 : t = 0
    · rw [zi_0, zlt_f (by omega)]
      subst h0
      exact hq
    · have hne : ¬ zi (n : Int) = zi 0 := by rw [zi_eq (by omega) (by omega) (by omega) (by omega)]; omega
      rw [zi_0, zlt_t (by omega), zi_s, zi_1, zlt_t (by omega)]
      refine ⟨hne, hne, ?_⟩
      simp only [mDig, if_neg h0] at hq
      rw [zi_div (by omega) (by omega) (by omega) (by omega), zi_mul, zi_sub, zi_em, zi_add, ← Int.natCast_emod, ← Int.natCast_ediv, ← Int.natCast_add]
      have h2 : t % n < n := Nat.mod_lt _ (by omega)
      have h3 : t / n ≤ t := Nat.div_le_self _ _
      exact ih (i + 1) (t / n) (s + t % n) (by omega) (by omega) (by rw [Nat.add_assoc]; exact hq)
theorem sp47 {n : Nat} (hn : n = 2 ∨ n = 3) {t : Nat} (ht : t < 2147483648) : zCd X 0 47 [.int (zi t), .int (zi n)] S C (zQi q) = q (zi ((mDig n 31 t : Nat))) C := by
  refine zc_eI (fun q h => vc47 (lp47 hn _ 31 0 t 0 (by omega) ht ?_)) q
  rw [Nat.zero_add]
  exact h
theorem sp46 (hS : zs_0 S e) (hE : zXE C e E) (hW : zWF E) {l t : Nat} (hl : l ≤ 3) (ht : t < 2147483648) : zCd X 1 46 [.ref e, .int (zi l), .int (zi t)] S C (zQi q) = q (zi (mAt E l t)) C := by
  refine zc_eI (fun q h => vc46 hS ?_) q
  have hn := hW.1
  have ho := hW.2.2.2.2.1
  have hl4 : l = 0 ∨ l = 1 ∨ l = 2 ∨ l = 3 := by omega
  rw [hE.1, hE.2.2.2.2.2.1, zi_toInt (by omega) (by omega)]
  have hor : (if (0 : Int32) < zi (eO E) then ¬ zi (eO E) = 0 ∧ zCd X 0 11 [.ref (e + 1), .int (zi t - zi t / zi (eO E) * zi (eO E))] S C (zQi fun r C2 => q r C2) else q 0 C) = q (zi (eo E (t % eO E))) C := by
    have h5 : t % eO E < eO E := Nat.mod_lt _ (by omega)
    rw [zi_0, zlt_t (by omega), zi_div (by omega) (by omega) (by omega) (by omega), zi_mul, zi_sub, zi_em, ← Int.natCast_emod, sp11 (za_0_6 hS) (by omega) (by omega) (by omega), Int.toNat_natCast, hE.2.2.2.2.2.2.1 _ h5]
    refine propext ⟨fun h => h.2, fun h => ⟨?_, h⟩⟩
    rw [zi_eq (by omega) (by omega) (by omega) (by omega)]
    omega
  have hne3 : ¬ (2 * 3 : Int32) = 0 := by decide
  have hne2 : ¬ (2 * 2 : Int32) = 0 := by decide
  rcases hn with hn | hn
  · rw [hn, zi_2, zlt_f (by omega)]
    rcases hl4 with h4 | h4 | h4 | h4 <;> subst h4
    · rw [if_pos (by rfl), zi_div (by omega) (by omega) (by omega) (by omega), zi_mul, zi_sub, zi_em]
      simp only [mAt, hn] at h
      exact h
    · rw [if_neg (by decide), if_pos (by rfl)]
      refine ⟨hne2, ?_⟩
      rw [show (zi 2 * zi 2 : Int32) = zi 4 from rfl, zi_div (by omega) (by omega) (by omega) (by omega), zi_mul, zi_sub, zi_em, zlt_i (by omega), zi_1, zi_sub, zi_sub]
      simp only [mAt, hn] at h
      rw [if_neg (by decide), if_pos trivial] at h
      split
      · rw [if_pos (by omega)] at h
        exact h
      · rw [if_neg (by omega)] at h
        rw [show (4 - 1 - (t : Int) % 4) = ((2 * 2 - 1 - t % (2 * 2) : Nat) : Int) by omega]
        exact h
    · rw [if_neg (by decide), if_neg (by decide), if_pos (by rfl)]
      rw [show (2 : Int) = ((2 : Nat) : Int) from rfl, sp47 (Or.inl rfl) ht]
      have := mDig_le (Or.inl rfl : 2 = 2 ∨ 2 = 3) 31 t
      rw [zi_div (by omega) (by omega) (by omega) (by omega), zi_mul, zi_sub, zi_em]
      simp only [mAt, hn] at h
      exact h
    · rw [if_neg (by decide), if_neg (by decide), if_neg (by decide)]
      rw [hor]
      exact h
  · rw [hn, zi_2, zlt_t (by omega)]
    rcases hl4 with h4 | h4 | h4 | h4 <;> subst h4
    · rw [if_pos (by rfl), zi_3, zi_div (by omega) (by omega) (by omega) (by omega), zi_mul, zi_sub, zi_em]
      simp only [mAt, hn] at h
      exact h
    · rw [if_neg (by decide), if_pos (by rfl)]
      refine ⟨hne3, ?_⟩
      rw [show (zi 2 * 3 : Int32) = zi 6 from rfl, zi_3, zi_div (by omega) (by omega) (by omega) (by omega), zi_mul, zi_sub, zi_em, zlt_i (by omega), zi_1, zi_sub, zi_sub]
      simp only [mAt, hn] at h
      rw [if_neg (by decide), if_pos trivial] at h
      split
      · rw [if_pos (by omega)] at h
        exact h
      · rw [if_neg (by omega)] at h
        rw [show (6 - 1 - (t : Int) % 6) = ((2 * 3 - 1 - t % (2 * 3) : Nat) : Int) by omega]
        exact h
    · rw [if_neg (by decide), if_neg (by decide), if_pos (by rfl)]
      rw [zi_3, show (3 : Int) = ((3 : Nat) : Int) from rfl, sp47 (Or.inr rfl) ht]
      have := mDig_le (Or.inr rfl : 3 = 2 ∨ 3 = 3) 31 t
      rw [zi_div (by omega) (by omega) (by omega) (by omega), zi_mul, zi_sub, zi_em]
      simp only [mAt, hn] at h
      exact h
    · rw [if_neg (by decide), if_neg (by decide), if_neg (by decide), hor]
      exact h
end
