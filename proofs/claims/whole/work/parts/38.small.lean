/-- what a seed gives -/
def mSeed (s : Int32) : Int32 := s * 1103515245 + 12345
def mHigh (s : Int32) : Int := ((Int32.toUInt32 s >>> (Int32.toUInt32 16 &&& Int32.toUInt32 31)).toInt32).toInt
theorem mHigh_b (s : Int32) : 0 ≤ mHigh s ∧ mHigh s < 65536 := by
  have h1 : (Int32.toUInt32 s >>> (Int32.toUInt32 16 &&& Int32.toUInt32 31)).toNat < 65536 := by
    have h2 : (Int32.toUInt32 16 &&& Int32.toUInt32 31) = (16 : UInt32) := by decide
    rw [h2, UInt32.toNat_shiftRight]
    have h3 := (Int32.toUInt32 s).toNat_lt
    have h4 : (16 : UInt32).toNat % 32 = 16 := rfl
    rw [h4, Nat.shiftRight_eq_div_pow]
    omega
  have h5 : mHigh s = ((Int32.toUInt32 s >>> (Int32.toUInt32 16 &&& Int32.toUInt32 31)).toNat : Int) := by
    unfold mHigh
    generalize (Int32.toUInt32 s >>> (Int32.toUInt32 16 &&& Int32.toUInt32 31)) = u at h1
    show (u.toBitVec.toInt) = (u.toBitVec.toNat : Int)
    rw [BitVec.toInt_eq_toNat_of_lt]
    have : u.toBitVec.toNat = u.toNat := rfl
    omega
  omega
section
variable {X : zX} {S : zx_S} {C : zx_C} {q : Int32 → zx_C → Prop} {e : Nat} {E : zT}
/-- draw -/
theorem sp150 (hS : zs_0 S e) : zCd X 0 150 [.ref e, .int (zi 100)] S C (zQi q) = q (zi (mHigh (mSeed (C.1 e 4)) % 100)) (zp C e 4 (mSeed (C.1 e 4))) := by
  refine zc_eI (fun q h => vc150 hS ?_) q
  have hb := mHigh_b (mSeed (C.1 e 4))
  rw [zi_0, zlt_t (by omega)]
  refine ⟨by decide, ?_⟩
  rw [zp_hit]
  show q (((Int32.toUInt32 (mSeed (C.1 e 4)) >>> (Int32.toUInt32 16 &&& Int32.toUInt32 31)).toInt32) - ((Int32.toUInt32 (mSeed (C.1 e 4)) >>> (Int32.toUInt32 16 &&& Int32.toUInt32 31)).toInt32) / zi 100 * zi 100) (zp C e 4 (mSeed (C.1 e 4)))
  rw [← zi_of ((Int32.toUInt32 (mSeed (C.1 e 4)) >>> (Int32.toUInt32 16 &&& Int32.toUInt32 31)).toInt32)]
  show q (zi (mHigh (mSeed (C.1 e 4))) - zi (mHigh (mSeed (C.1 e 4))) / zi 100 * zi 100) (zp C e 4 (mSeed (C.1 e 4)))
  rw [zi_div (by omega) (by omega) (by omega) (by omega), zi_mul, zi_sub, zi_em]
  exact h
/-- isUnder, of the other -/
theorem sp170 {a b : Int} (ha : -2147483648 ≤ a ∧ a < 2147483648) (hb : -2147483648 ≤ b ∧ b < 2147483648) : zCd X 0 170 [.int (zi a), .int (zi b)] S C (zQi q) = q (if a = b ∨ b = 0 ∨ (b = 1 ∧ (a = 2 ∨ a = 3 ∨ a = 5)) then zi 1 else zi 0) C := by
  refine zc_eI (fun q h => vc170 ?_) q
  rw [zi_0, zi_1, zi_2, zi_3, zi_5, zeq_i (by omega), zeq_i (by omega), zeq_i (by omega), zeq_i (by omega), zeq_i (by omega), zeq_i (by omega)]
  split
  · rwa [if_pos (by omega)] at h
  · split
    · rwa [if_pos (by omega)] at h
    · split
      · split
        · rwa [if_pos (by omega)] at h
        · split
          · rwa [if_pos (by omega)] at h
          · split
            · rwa [if_pos (by omega)] at h
            · rwa [if_neg (by omega)] at h
      · rwa [if_neg (by omega)] at h
/-- has -/
theorem sp174 {k m : Nat} (hk : k < 8) (hm : m < 256) : zCd X 0 174 [.int (zi m), .int (zi k)] S C (zQi q) = q (zb (m.testBit k = true)) C := by
  refine zc_eI (fun q h => vc174 ?_) q
  rw [bz_has hk hm, zi_0, zi_1, zb_i]
  split
  · next h2 => rwa [zbT h2] at h
  · next h2 => rwa [zbF h2] at h
theorem lp183 {m : Nat} (hm : m < 256) : ∀ j i : Nat, i + j = 8 → q (zi (mCnt m 8)) C → zW X 0 183 4 [.int (zi m), .int (zi (mCnt m i)), .int (zi i)] [] S C (zQi q) := by
  intro j
  induction j with
  | zero =>
    intro i hi hq
    refine vc183_4 (a1 := 0) ?_
    rw [zi_8, zlt_f (by omega), show i = 8 by omega]
    exact hq
  | succ j ih =>
    intro i hi hq
    refine vc183_4 (a1 := 0) ?_
    rw [zi_8, zlt_t (by omega), zi_s, bz_has (by omega) hm]
    have ih2 := ih (i + 1) (by omega) hq
    simp only [mCnt] at ih2
    by_cases hb : m.testBit i = true
    · rw [if_pos hb] at ih2
      rw [zbT hb, zi_add]
      exact ih2
    · rw [if_neg hb, Nat.add_zero] at ih2
      rw [zbF hb, zi_add, Int.add_zero]
      exact ih2
/-- bits -/
theorem sp183 {m : Nat} (hm : m < 256) : zCd X 0 183 [.int (zi m)] S C (zQi q) = q (zi (mCnt m 8)) C :=
  zc_eI (fun _ h => vc183 (lp183 hm 8 0 (by omega) h)) q
end
