def zl (a : Int) : Int64 := Int64.ofInt a
theorem zl_toInt {a : Int} (h : -9223372036854775808 ≤ a ∧ a < 9223372036854775808) : (zl a).toInt = a := Int64.toInt_ofInt_of_le h.1 h.2
theorem zl_of (x : Int64) : zl x.toInt = x := Int64.ofInt_toInt x
theorem zl_zi {a : Int} (h : -2147483648 ≤ a ∧ a < 2147483648) : (zi a).toInt64 = zl a := by
  refine Int64.toInt_inj.mp ?_
  rw [zl_toInt (by omega), Int32.toInt_toInt64, zi_toInt h.1 h.2]
theorem lg_lt {x y : Int64} {p r : Prop} : (if lg_cmp x y < (0 : Int32) then p else r) = (if x.toInt < y.toInt then p else r) := by
  unfold lg_cmp
  by_cases h1 : y < x
  · rw [if_pos h1]
    have := Int64.lt_iff_toInt_lt.mp h1
    rw [if_neg (by decide), if_neg (by omega)]
  · rw [if_neg h1]
    have h2 : ¬ y.toInt < x.toInt := fun q => h1 (Int64.lt_iff_toInt_lt.mpr q)
    by_cases h3 : x = y
    · rw [if_pos h3, if_neg (by decide), if_neg (by rw [h3]; omega)]
    · have h4 : ¬ x.toInt = y.toInt := fun q => h3 (Int64.toInt_inj.mp q)
      rw [if_neg h3, if_pos (by decide), if_pos (by omega)]
theorem lg_gt {x y : Int64} {p r : Prop} : (if (0 : Int32) < lg_cmp x y then p else r) = (if y.toInt < x.toInt then p else r) := by
  unfold lg_cmp
  by_cases h1 : y < x
  · rw [if_pos h1]
    have := Int64.lt_iff_toInt_lt.mp h1
    rw [if_pos (by decide), if_pos (by omega)]
  · rw [if_neg h1]
    have h2 : ¬ y.toInt < x.toInt := fun q => h1 (Int64.lt_iff_toInt_lt.mpr q)
    by_cases h3 : x = y
    · rw [if_pos h3, if_neg (by decide), if_neg (by rw [h3]; omega)]
    · rw [if_neg h3, if_neg (by decide), if_neg (by omega)]
theorem lg_eq {x y : Int64} {p r : Prop} : (if lg_cmp x y = (0 : Int32) then p else r) = (if x.toInt = y.toInt then p else r) := by
  unfold lg_cmp
  by_cases h1 : y < x
  · rw [if_pos h1]
    have := Int64.lt_iff_toInt_lt.mp h1
    rw [if_neg (by decide), if_neg (by omega)]
  · rw [if_neg h1]
    by_cases h3 : x = y
    · rw [if_pos h3, if_pos rfl, if_pos (by rw [h3])]
    · have h4 : ¬ x.toInt = y.toInt := fun q => h3 (Int64.toInt_inj.mp q)
      rw [if_neg h3, if_neg (by decide), if_neg h4]
/-- the lowest bits -/
def mFit (l : Nat) (v : Int64) : Int64 := if l = 0 then v.toInt32.toInt8.toInt32.toInt64 else if l = 1 then v.toInt32.toInt16.toInt32.toInt64 else if l = 2 then v.toInt32.toInt64 else if l = 3 then v else if v.toInt = 0 then 0 else 1
section
variable {X : zX} {S : zx_S} {C : zx_C} {q : Int64 → zx_C → Prop}
theorem mFit_0 {l : Nat} (hl : l ≤ 4) {v : Int64} (h : q (mFit l v) C) : if (zi l).toInt = 0 then (q (Int32.toInt64 (Int8.toInt32 (Int32.toInt8 (Int64.toInt32 v)))) C) else (if (zi l).toInt = 0 + 1 then (q (Int32.toInt64 (Int16.toInt32 (Int32.toInt16 (Int64.toInt32 v)))) C) else (if (zi l).toInt = 0 + 1 + 1 then (q (Int32.toInt64 (Int64.toInt32 v)) C) else (if (zi l).toInt = 0 + 1 + 1 + 1 then (q v C) else (if ((lg_cmp v 0) : Int32) = 0 then (q 0 C) else (q 1 C))))) := by
  rw [zi_toInt (by omega) (by omega), lg_eq]
  unfold mFit at h
  have hz : (0 : Int64).toInt = 0 := rfl
  by_cases h0 : l = 0
  · rw [if_pos h0] at h; rw [if_pos (by omega)]; exact h
  · rw [if_neg h0] at h; rw [if_neg (by omega)]
    by_cases h1 : l = 1
    · rw [if_pos h1] at h; rw [if_pos (by omega)]; exact h
    · rw [if_neg h1] at h; rw [if_neg (by omega)]
      by_cases h2 : l = 2
      · rw [if_pos h2] at h; rw [if_pos (by omega)]; exact h
      · rw [if_neg h2] at h; rw [if_neg (by omega)]
        by_cases h3 : l = 3
        · rw [if_pos h3] at h; rw [if_pos (by omega)]; exact h
        · rw [if_neg h3] at h; rw [if_neg (by omega), hz]
          by_cases h4 : v.toInt = 0
          · rw [if_pos h4] at h; rw [if_pos h4]; exact h
          · rw [if_neg h4] at h; rw [if_neg h4]; exact h
/-- lowestBits -/
theorem sp17 {l : Nat} (hl : l ≤ 4) {v : Int64} : zCd X 0 17 [.int (zi l), .long v] S C (zQl q) = q (mFit l v) C :=
  zc_eL (fun _ h => vc17 (mFit_0 hl h)) q
/-- fit -/
theorem sp163 {l : Nat} (hl : l ≤ 4) {v : Int64} : zCd X 0 163 [.int (zi l), .long v] S C (zQl q) = q (mFit l v) C :=
  zc_eL (fun _ h => vc163 (mFit_0 hl h)) q
end
section
variable {X : zX} {S : zx_S} {C : zx_C} {q : Int32 → zx_C → Prop} {e : Nat} {E : zT}
/-- in -/
theorem sp159 {x y z : Int64} : zCd X 0 159 [.long x, .long y, .long z] S C (zQi q) = q (zb (y.toInt ≤ x.toInt ∧ x.toInt ≤ z.toInt)) C := by
  refine zc_eI (fun q h => vc159 ?_) q
  rw [lg_lt, lg_gt]
  split
  · rwa [zbF (by omega)] at h
  · split
    · rwa [zbF (by omega)] at h
    · rwa [zbT (by omega)] at h
/-- refuse -/
theorem sp10 (hS : zs_4 S e) {n : Int} (hn : -6 ≤ n ∧ n ≤ -2) : zCd X 1 10 [.ref e, .int (zi n)] S C (zQi q) = q (zi n) (zp C (e + 23) (-2 - n).toNat (C.1 (e + 23) (-2 - n).toNat + 1)) := by
  refine zc_eI (fun q h => vc10 hS ?_) q
  rw [zi_m2, zi_sub, sp11 (za_4_5 hS) (by omega) (by omega) (by omega), sp12 (za_4_5 hS) (by omega) (by omega) (by omega)]
  exact h
/-- refuse, of the other -/
theorem sp160 (hS : zs_5 S e) {n : Int} (hn : -6 ≤ n ∧ n ≤ -2) : zCd X 0 160 [.ref e, .int (zi n)] S C (zQi q) = q (zi n) (zp C (e + 17) (-n).toNat (C.1 (e + 17) (-n).toNat + 1)) := by
  refine zc_eI (fun q h => vc160 hS ?_) q
  rw [zi_neg, zi_ix (by omega) (by omega)]
  exact ⟨zi_in (by omega) (by omega) (by omega), zi_in (by omega) (by omega) (by omega), h⟩
/-- isUnder -/
theorem sp35 {a b : Int} (ha : -2147483648 ≤ a ∧ a < 2147483648) (hb : -2147483648 ≤ b ∧ b < 2147483648) : zCd X 0 35 [.int (zi a), .int (zi b)] S C (zQi q) = q (if a = b ∨ b = 0 ∨ (b = 1 ∧ (a = 2 ∨ a = 3 ∨ a = 5)) then zi 1 else zi 0) C := by
  refine zc_eI (fun q h => vc35 ?_) q
  rw [zi_0, zi_1, zi_2, zi_3, zi_5, zeq_i (by omega), zeq_i (by omega), zeq_i (by omega), zeq_i (by omega), zeq_i (by omega), zeq_i (by omega)]
  split
  · rwa [if_pos (by omega)] at h
  · split
    · rwa [if_pos (by omega)] at h
    · split
      · split
        · rwa [if_pos (by omega)] at h
        · split
          · rwa [if_pos (by omega)] at h
          · split
            · rwa [if_pos (by omega)] at h
            · rwa [if_neg (by omega)] at h
      · rwa [if_neg (by omega)] at h
end
