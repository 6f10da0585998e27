/-- sets of things, as bits -/
def mSet (p : Nat → Bool) : Nat → Nat
  | 0 => 0
  | n + 1 => mSet p n + if p n then 2 ^ n else 0
theorem mSet_lt (p : Nat → Bool) (n : Nat) : mSet p n < 2 ^ n := by
  induction n with
  | zero => exact Nat.one_pos
  | succ n ih =>
    have h : 2 ^ (n + 1) = 2 ^ n + 2 ^ n := by omega
    simp only [mSet]
    split <;> omega
theorem mSet_bit (p : Nat → Bool) (n k : Nat) : (mSet p n).testBit k = (decide (k < n) && p k) := by
  induction n with
  | zero => simp [mSet]
  | succ n ih =>
    simp only [mSet]
    rcases Nat.lt_trichotomy k n with h | h | h
    · by_cases hp : p n = true
      · rw [if_pos hp, Nat.add_comm, Nat.testBit_two_pow_add_gt h, ih]
        simp [h, Nat.lt_succ_of_lt h]
      · rw [if_neg hp, Nat.add_zero, ih]
        simp [h, Nat.lt_succ_of_lt h]
    · subst h
      by_cases hp : p k = true
      · rw [if_pos hp, Nat.add_comm, Nat.testBit_two_pow_add_eq, Nat.testBit_lt_two_pow (mSet_lt p k)]
        simp [hp]
      · rw [if_neg hp, Nat.add_zero, Nat.testBit_lt_two_pow (mSet_lt p k)]
        simp [hp]
    · have h2 : 2 ^ (n + 1) ≤ 2 ^ k := Nat.pow_le_pow_right (by decide) h
      have h3 := mSet_lt p (n + 1)
      simp only [mSet] at h3
      rw [Nat.testBit_lt_two_pow (by omega)]
      simp [show ¬ k < n + 1 by omega]
theorem bz_or0 : ∀ k : Fin 8, ∀ m : Fin 256, m.val < 2 ^ k.val → zi (m.val : Nat) ||| ((1 : Int32) <<< (zi (k.val : Nat) &&& 31)) = zi ((m.val + 2 ^ k.val : Nat)) := by decide +kernel
theorem bz_or {k m : Nat} (hk : k < 8) (hm : m < 2 ^ k) : zi m ||| ((1 : Int32) <<< (zi k &&& 31)) = zi ((m + 2 ^ k : Nat)) :=
  have h : 2 ^ k ≤ 2 ^ 7 := Nat.pow_le_pow_right (by decide) (by omega)
  bz_or0 ⟨k, hk⟩ ⟨m, by omega⟩ hm
theorem bz_has0 : ∀ k : Fin 8, ∀ m : Fin 256, (zi (m.val : Nat) >>> (zi (k.val : Nat) &&& 31)) &&& 1 = zb (m.val.testBit k.val = true) := by decide +kernel
theorem bz_has {k m : Nat} (hk : k < 8) (hm : m < 256) : (zi m >>> (zi k &&& 31)) &&& 1 = zb (m.testBit k = true) := bz_has0 ⟨k, hk⟩ ⟨m, hm⟩
/-- a set without a thing -/
def wo (m k : Nat) : Nat := if m.testBit k then m - 2 ^ k else m
theorem wo_bit0 : ∀ m : Fin 256, ∀ k j : Fin 8, (wo m.val k.val).testBit j.val = (m.val.testBit j.val && decide (j.val ≠ k.val)) := by decide +kernel
theorem wo_le (m k : Nat) : wo m k ≤ m := by
  unfold wo
  split
  · exact Nat.sub_le _ _
  · exact Nat.le_refl _
theorem wo_lt {m k : Nat} (h : m.testBit k = true) : wo m k < m := by
  unfold wo
  rw [if_pos h]
  have h2 : 2 ^ k ≤ m := Nat.le_of_not_lt fun h3 => by rw [Nat.testBit_lt_two_pow h3] at h; cases h
  have h3 : 0 < 2 ^ k := Nat.pow_pos (by decide)
  omega
theorem wo_bit {m k j : Nat} (hm : m < 256) (hk : k < 8) (hj : j < 8) : (wo m k).testBit j = (m.testBit j && decide (j ≠ k)) := wo_bit0 ⟨m, hm⟩ ⟨k, hk⟩ ⟨j, hj⟩
theorem bz_wo0 : ∀ k : Fin 8, ∀ m : Fin 256, zi (m.val : Nat) &&& (((1 : Int32) <<< (zi (k.val : Nat) &&& 31)) ^^^ (-1)) = zi ((wo m.val k.val : Nat)) := by decide +kernel
theorem bz_wo {k m : Nat} (hk : k < 8) (hm : m < 256) : zi m &&& (((1 : Int32) <<< (zi k &&& 31)) ^^^ (-1)) = zi ((wo m k : Nat)) := bz_wo0 ⟨k, hk⟩ ⟨m, hm⟩
/-- how many -/
def mCnt (m : Nat) : Nat → Nat
  | 0 => 0
  | n + 1 => mCnt m n + if m.testBit n then 1 else 0
section
variable {X : zX} {S : zx_S} {C : zx_C} {q : Int32 → zx_C → Prop} {e : Nat} {E : zT}
/-- isIn -/
theorem sp53 {k m : Nat} (hk : k < 8) (hm : m < 256) : zCd X 0 53 [.int (zi m), .int (zi k)] S C (zQi q) = q (zb (m.testBit k = true)) C := by
  refine zc_eI (fun q h => vc53 ?_) q
  rw [bz_has hk hm, zi_0, zi_1, zb_i]
  split
  · next h2 => rwa [zbT h2] at h
  · next h2 => rwa [zbF h2] at h
/-- without -/
theorem sp61 {k m : Nat} (hk : k < 8) (hm : m < 256) : zCd X 0 61 [.int (zi m), .int (zi k)] S C (zQi q) = q (zi (wo m k)) C := by
  refine zc_eI (fun q h => vc61 ?_) q
  rwa [bz_wo hk hm]
end
/-- things of an owner -/
def mOwn (E : zT) (o : Int) : Nat := mSet (fun k => decide (ew E k = o)) (eT E)
theorem mOwn_lt {E : zT} (hW : zWF E) (o : Int) : mOwn E o < 256 :=
  have h : 2 ^ eT E ≤ 2 ^ 8 := Nat.pow_le_pow_right (by decide) hW.2.1
  Nat.lt_of_lt_of_le (mSet_lt _ _) h
section
variable {X : zX} {S : zx_S} {C : zx_C} {q : Int32 → zx_C → Prop} {e : Nat} {E : zT}
theorem lp43 (hS : zs_0 S e) (hE : zXE C e E) (hW : zWF E) {o : Int} (ho : -1 ≤ o ∧ o < 3) : ∀ j i : Nat, i + j = eT E → q (zi (mOwn E o)) C → zW X 1 43 4 [.ref e, .int (zi o), .int (zi (mSet (fun k => decide (ew E k = o)) i)), .int (zi i)] [] S C (zQi q) := by
  have h1 := hW.1
  have h2 := hW.2.1
  intro j
  induction j with
  | zero =>
    intro i hi hq
    refine vc43_4 (a1 := 0) hS ?_
    rw [hE.2.1, zlt_f (by omega)]
    rw [show i = eT E by omega]
    exact hq
  | succ j ih =>
    intro i hi hq
    refine vc43_4 (a1 := 0) hS ?_
    have hi2 : i < eT E := by omega
    have h3 := hW.2.2.2.2.2.2.2.1 i hi2
    rw [hE.2.1, zlt_t (by omega), sp11 (za_0_8 hS) (by omega) (by omega) (by omega)]
    rw [Int.toNat_natCast, hE.2.2.2.2.2.2.2.2.1 i hi2, zeq_i (by omega), zi_s, bz_or (by omega) (mSet_lt _ _)]
    have ih2 := ih (i + 1) (by omega) hq
    simp only [mSet] at ih2
    by_cases hw : ew E i = o
    · rw [if_pos (decide_eq_true hw)] at ih2
      rw [if_pos hw]
      exact ih2
    · rw [if_neg (by simp [hw]), Nat.add_zero] at ih2
      rw [if_neg hw]
      exact ih2
/-- setOf -/
theorem sp43 (hS : zs_0 S e) (hE : zXE C e E) (hW : zWF E) {o : Int} (ho : -1 ≤ o ∧ o < 3) : zCd X 1 43 [.ref e, .int (zi o)] S C (zQi q) = q (zi (mOwn E o)) C :=
  zc_eI (fun _ h => vc43 hS (lp43 hS hE hW ho (eT E) 0 (by omega) h)) q
end
