/-- what lies at an estate of the model -/
def zME (C : zx_C) (e : Nat) (E : zT) : Prop := C.1 e 10 = zi (eN E) ∧ C.1 e 11 = zi (eT E) ∧ C.1 e 14 = zi (eL E) ∧ C.1 e 18 = zi (eV E) ∧ C.1 e 19 = eD E ∧ C.1 e 16 = zi (eO E) ∧ (∀ i, i < eO E → C.1 (e + 28) i = zi (eo E i)) ∧ (∀ s, s < 3 → C.1 (e + 29) s = zi (eb E s)) ∧ (∀ k, k < eT E → C.1 (e + 27) k = zi (ew E k)) ∧ ∀ s k, s < eN E → k < eT E → C.1 (e + 19 + k) s = zi (eu E s k)
section
variable {X : zX} {S : zx_S} {C : zx_C} {q : Int32 → zx_C → Prop} {e : Nat} {E : zT}
/-- isSide -/
theorem sp168 (hS : zs_5 S e) (hE : zME C e E) (hW : zWF E) {a : Int} (ha : -2147483648 ≤ a ∧ a < 2147483648) : zCd X 1 168 [.ref e, .int (zi a)] S C (zQi q) = q (zb (0 ≤ a ∧ a < eN E)) C := by
  refine zc_eI (fun q h => vc168 hS ?_) q
  have hn := hW.1
  rw [hE.1, zi_1, zi_sub, zl_zi ha, zl_zi (by omega), sp159, zl_toInt (by omega), zl_toInt (by omega)]
  rw [show (0 : Int64).toInt = 0 from rfl]
  refine ⟨?_, ?_⟩
  · by_cases h2 : 0 ≤ a ∧ a ≤ (eN E : Int) - 1
    · right; exact zbT h2
    · left; exact zbF h2
  · by_cases h2 : 0 ≤ a ∧ a < (eN E : Int)
    · rw [zbT h2] at h; rw [zbT (by omega)]; exact h
    · rw [zbF h2] at h; rw [zbF (by omega)]; exact h
/-- isThing -/
theorem sp190 (hS : zs_5 S e) (hE : zME C e E) (hW : zWF E) {a : Int} (ha : -2147483648 ≤ a ∧ a < 2147483648) : zCd X 1 190 [.ref e, .int (zi a)] S C (zQi q) = q (zb (0 ≤ a ∧ a < eT E)) C := by
  refine zc_eI (fun q h => vc190 hS ?_) q
  have hn := hW.2.1
  rw [hE.2.1, zi_1, zi_sub, zl_zi ha, zl_zi (by omega), sp159, zl_toInt (by omega), zl_toInt (by omega)]
  rw [show (0 : Int64).toInt = 0 from rfl]
  refine ⟨?_, ?_⟩
  · by_cases h2 : 0 ≤ a ∧ a ≤ (eT E : Int) - 1
    · right; exact zbT h2
    · left; exact zbF h2
  · by_cases h2 : 0 ≤ a ∧ a < (eT E : Int)
    · rw [zbT h2] at h; rw [zbT (by omega)]; exact h
    · rw [zbF h2] at h; rw [zbF (by omega)]; exact h
theorem lp172 (hS : zs_5 S e) (hE : zME C e E) (hW : zWF E) : ∀ j i : Nat, i + j = eT E → q (zi (mOwn E (-1))) C → zW X 0 172 4 [.ref e, .int (zi (mSet (fun k => decide (ew E k = -1)) i)), .int (zi i)] [] S C (zQi q) := by
  have h1 := hW.1
  have h2 := hW.2.1
  intro j
  induction j with
  | zero =>
    intro i hi hq
    refine vc172_4 hS ?_
    rw [hE.2.1, zlt_f (by omega)]
    rw [show i = eT E by omega]
    exact hq
  | succ j ih =>
    intro i hi hq
    refine vc172_4 hS ?_
    have hi2 : i < eT E := by omega
    have h3 := hW.2.2.2.2.2.2.2.1 i hi2
    rw [hE.2.1, zlt_t (by omega)]
    refine ⟨zi_in (by omega) (by omega) (by omega), ?_⟩
    rw [zi_ix (by omega) (by omega), Int.toNat_natCast, hE.2.2.2.2.2.2.2.2.1 i hi2, zi_m1, zeq_i (by omega), zi_s, bz_or (by omega) (mSet_lt _ _)]
    have ih2 := ih (i + 1) (by omega) hq
    simp only [mSet] at ih2
    by_cases hw : ew E i = -1
    · rw [if_pos (decide_eq_true hw)] at ih2
      rw [if_pos hw]
      exact ih2
    · rw [if_neg (by simp [hw]), Nat.add_zero] at ih2
      rw [if_neg hw, show ∀ x : Int32, x ||| 0 = x from fun x => Int32.or_zero]
      exact ih2
/-- left -/
theorem sp172 (hS : zs_5 S e) (hE : zME C e E) (hW : zWF E) : zCd X 0 172 [.ref e] S C (zQi q) = q (zi (mOwn E (-1))) C :=
  zc_eI (fun _ h => vc172 hS (lp172 hS hE hW (eT E) 0 (by omega) h)) q
end
