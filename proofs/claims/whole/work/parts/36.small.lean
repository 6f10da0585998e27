def mUnder (b w : Int) : Prop := b = w ∨ w = 0 ∨ (w = 1 ∧ (b = 2 ∨ b = 3 ∨ b = 5))
theorem zi_lg {p : Int32 → Prop} (h : ∀ a : Int, -2147483648 ≤ a ∧ a < 2147483648 → p (zi a)) (y : Int32) : p y := by
  have := h y.toInt ⟨Int32.le_toInt y, Int32.toInt_lt y⟩
  rwa [zi_of] at this
/-- what two owners gain -/
def mGain (E : zT) (i j : Nat) : Int :=
  if ew E i = -1 then 0 else if ew E j = -1 then 0 else if ew E i = ew E j then 0 else
  if 0 < eu E (ew E i).toNat j - eu E (ew E i).toNat i then (if 0 < eu E (ew E j).toNat i - eu E (ew E j).toNat j then (eu E (ew E i).toNat j - eu E (ew E i).toNat i) + (eu E (ew E j).toNat i - eu E (ew E j).toNat j) else 0) else 0
def mPow (b : Int64) : Nat → Int64
  | 0 => 1
  | n + 1 => mPow b n * b
section
variable {X : zX} {S : zx_S} {C : zx_C} {q : Int32 → zx_C → Prop} {e : Nat} {E : zT}
/-- isShelf -/
theorem sp8 {a : Int} (ha : -2147483648 ≤ a ∧ a < 2147483648) : zCd X 0 8 [.int (zi a)] S C (zQi q) = q (zb (0 ≤ a ∧ a < 8)) C := by
  refine zc_eI (fun q h => vc8 ?_) q
  rw [zi_0, zi_1, zi_8, zlt_i (by omega), zlt_i (by omega)]
  split
  · rwa [zbF (by omega)] at h
  · split
    · rwa [zbT (by omega)] at h
    · rwa [zbF (by omega)] at h
/-- isSort -/
theorem sp9 {a : Int} (ha : -2147483648 ≤ a ∧ a < 2147483648) : zCd X 0 9 [.int (zi a)] S C (zQi q) = q (zb (0 ≤ a ∧ a ≤ 4)) C := by
  refine zc_eI (fun q h => vc9 ?_) q
  rw [zi_0, zi_1, zi_4, zlt_i (by omega), zlt_i (by omega)]
  split
  · rwa [zbF (by omega)] at h
  · split
    · rwa [zbF (by omega)] at h
    · rwa [zbT (by omega)] at h
/-- isBent -/
theorem sp32 {a : Int} (ha : -2147483648 ≤ a ∧ a < 2147483648) : zCd X 0 32 [.int (zi a)] S C (zQi q) = q (zb (0 ≤ a ∧ a ≤ 5)) C := by
  refine zc_eI (fun q h => vc32 ?_) q
  rw [zi_0, zi_1, zi_5, zlt_i (by omega), zlt_i (by omega)]
  split
  · rwa [zbF (by omega)] at h
  · split
    · rwa [zbF (by omega)] at h
    · rwa [zbT (by omega)] at h
/-- isWorth -/
theorem sp70 {a : Int} (ha : -2147483648 ≤ a ∧ a < 2147483648) : zCd X 0 70 [.int (zi a)] S C (zQi q) = q (zb (0 ≤ a ∧ a ≤ 99)) C := by
  refine zc_eI (fun q h => vc70 ?_) q
  rw [zi_0, zi_1, zi_99, zlt_i (by omega), zlt_i (by omega)]
  split
  · rwa [zbF (by omega)] at h
  · split
    · rwa [zbF (by omega)] at h
    · rwa [zbT (by omega)] at h
/-- isLaw -/
theorem sp75 {a : Int} (ha : -2147483648 ≤ a ∧ a < 2147483648) : zCd X 0 75 [.int (zi a)] S C (zQi q) = q (zb (0 ≤ a ∧ a ≤ 3)) C := by
  refine zc_eI (fun q h => vc75 ?_) q
  rw [zi_0, zi_1, zi_3, zlt_i (by omega), zlt_i (by omega)]
  split
  · rwa [zbF (by omega)] at h
  · split
    · rwa [zbF (by omega)] at h
    · rwa [zbT (by omega)] at h
/-- gainOfTrade -/
theorem sp144 (hS : zs_0 S e) (hE : zXE C e E) (hW : zWF E) {i j : Nat} (hi : i < eT E) (hj : j < eT E) : zCd X 2 144 [.ref e, .int (zi i), .int (zi j)] S C (zQi q) = q (zi (mGain E i j)) C := by
  refine zc_eI (fun q h => vc144 hS ?_) q
  have hn := hW.1
  have h1 := hW.2.2.2.2.2.2.2.1 i hi
  have h2 := hW.2.2.2.2.2.2.2.1 j hj
  rw [sp80 hS hE hW hi, sp80 hS hE hW hj, zi_0, zi_m1, zeq_i (by omega), zeq_i (by omega), zeq_i (by omega)]
  unfold mGain at h
  by_cases c1 : ew E i = -1
  · rw [if_pos c1] at h ⊢; exact h
  · rw [if_neg c1] at h ⊢
    by_cases c2 : ew E j = -1
    · rw [if_pos c2] at h ⊢; exact h
    · rw [if_neg c2] at h ⊢
      by_cases c3 : ew E i = ew E j
      · rw [if_pos c3] at h ⊢; exact h
      · rw [if_neg c3] at h ⊢
        have k1 : ew E i = ((ew E i).toNat : Int) := by omega
        have k2 : ew E j = ((ew E j).toNat : Int) := by omega
        have w := hW.2.2.2.2.2.2.2.2
        have w1 := w (ew E i).toNat j (by omega) hj
        have w2 := w (ew E i).toNat i (by omega) hi
        have w3 := w (ew E j).toNat i (by omega) hi
        have w4 := w (ew E j).toNat j (by omega) hj
        rw [k1, k2, sp41 hS hE hW (by omega) hj, sp41 hS hE hW (by omega) hi, sp41 hS hE hW (by omega) hi, sp41 hS hE hW (by omega) hj, zi_sub, zi_sub, zi_add, zlt_i (by omega), zlt_i (by omega)]
        split
        · next c4 =>
          rw [if_pos c4] at h
          split
          · next c5 => rw [if_pos c5] at h; exact h
          · next c5 => rw [if_neg c5] at h; exact h
        · next c4 => rw [if_neg c4] at h; exact h
end
section
variable {X : zX} {S : zx_S} {C : zx_C} {q : Int64 → zx_C → Prop}
theorem lp115 {b : Int64} {p : Nat} (hp : p < 100) : ∀ j i : Nat, i + j = p → q (mPow b p) C → zW X 0 115 5 [.long b, .retAddr 1, .int (zi p), .long (mPow b i), .retAddr 1, .int (zi i)] [] S C (zQl q) := by
  intro j
  induction j with
  | zero =>
    intro i hi hq
    refine vc115_5 (a1 := 0) (a2 := 0) ?_
    rw [zlt_f (by omega), show i = p by omega]
    exact hq
  | succ j ih =>
    intro i hi hq
    refine vc115_5 (a1 := 0) (a2 := 0) ?_
    rw [zlt_t (by omega), zi_s]
    exact ih (i + 1) (by omega) hq
/-- power -/
theorem sp115 {b : Int64} {p : Nat} (hp : p < 100) : zCd X 0 115 [.long b, .int (zi p)] S C (zQl q) = q (mPow b p) C :=
  zc_eL (fun _ h => vc115 (lp115 hp p 0 (by omega) h)) q
end
