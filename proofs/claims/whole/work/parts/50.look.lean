/-! LOOKING AHEAD, as the model has it -/
def mTop0 (f : Nat → Int) : Option Nat → Int
  | none => 0
  | some b => f b
section
variable {X : zX} {S : zx_S} {C : zx_C} {q : Int32 → zx_C → Prop} {e V i0 s : Nat} {M : zD}
theorem lq175 (hS : zs_5 S e) (hM : zTN X S C e V M i0 s) (hD : zWD M) {d m : Nat} (hd : 2 ≤ d) (hs : s < dN M) (hm : m < 2 ^ dT M) (ih0 : ∀ k, k < dT M → m.testBit k = true → ∀ q : Int32 → zx_C → Prop, zCd X d 176 [.ref e, .int (zi s), .int (zi (wo m k)), .int (zi ((V + (mTurn M m + 1) : Nat) : Int))] S C (zQi q) = q (zi (mSt M s (wo m k))) C) : ∀ (j i : Nat) (z7 : Value), i + j = dT M → q (zi (zo (mLook M s m))) C → zW X (d + 1) 175 9 [.ref e, .int (zi s), .int (zi m), .int (zi ((V + mTurn M m : Nat) : Int)), .int (zi (zo (mArg (ltf (fun k => dU M s k + mSt M s (wo m k))) m i))), .int (zi (mTop0 (fun k => dU M s k + mSt M s (wo m k)) (mArg (ltf (fun k => dU M s k + mSt M s (wo m k))) m i))), .int (zi i), z7] [] S C (zQi q) := by
  have hm2 := pow_256 hm hD.2.1
  have hT := hD.2.1
  have hn := hD.1
  intro j
  induction j with
  | zero =>
    intro i z7 hi hq
    refine vc175_9 (a1 := 0) (a2 := 0) (a3 := 0) hd hS ?_
    rw [hM.1, zlt_f (by omega)]
    have h8 : mLook M s m = mArg (ltf (fun k => dU M s k + mSt M s (wo m k))) m (dT M) := mArg_8 hm hT
    rw [h8, ← show i = dT M by omega] at hq
    exact hq
  | succ j ih =>
    intro i z7 hi hq
    refine vc175_9 (a1 := 0) (a2 := 0) (a3 := 0) hd hS ?_
    have hiT : i < dT M := by omega
    rw [hM.1, zlt_t (by omega), sp174 (by omega) hm2, zi_s]
    have ih2 := fun z7 => ih (i + 1) z7 (by omega) hq
    by_cases hb : m.testBit i = true
    · rw [zb_t hb]
      refine ⟨zi_in (by omega) (by omega) (by omega), zi_in (by omega) (by omega) (by omega), ?_⟩
      rw [bz_wo (by omega) hm2, zi_s, show (((V + mTurn M m + 1 : Nat)) : Int) = ((V + (mTurn M m + 1) : Nat) : Int) by omega, ih0 i hiT hb, zi_ix (by omega) (by omega), zi_ix (by omega) (by omega), Int.toNat_natCast, Int.toNat_natCast, hM.2.2.2.1 i hiT, zi_add]
      simp only [mArg] at ih2
      rw [if_pos hb] at ih2
      have b1 := hD.2.2.2.2.2.2 s i hs hiT
      have b2 := mSt_b hD hs (Nat.lt_of_le_of_lt (wo_le m i) hm)
      cases hc : mArg (ltf (fun k => dU M s k + mSt M s (wo m k))) m i with
      | none =>
        rw [hc] at ih2
        rw [zo_n, zi_m1, if_pos rfl]
        exact ih2 _
      | some b =>
        rw [hc] at ih2
        have hin := mArg_in i b hc
        have b3 := hD.2.2.2.2.2.2 s b hs (by omega)
        have b4 := mSt_b hD hs (Nat.lt_of_le_of_lt (wo_le m b) hm)
        rw [zo_s, zi_m1, zeq_f (by omega)]
        show if zi (dU M s b + mSt M s (wo m b)) < zi (dU M s i + mSt M s (wo m i)) then _ else _
        rw [zlt_i (by omega)]
        dsimp only at ih2
        have hl : ltf (fun k => dU M s k + mSt M s (wo m k)) b i = decide (dU M s b + mSt M s (wo m b) < dU M s i + mSt M s (wo m i)) := rfl
        rw [hl] at ih2
        by_cases c : dU M s b + mSt M s (wo m b) < dU M s i + mSt M s (wo m i)
        · rw [if_pos (decide_eq_true c)] at ih2
          rw [if_pos c]
          exact ih2 _
        · rw [if_neg (by simp only [decide_eq_true_eq]; exact c)] at ih2
          rw [if_neg c]
          exact ih2 _
    · rw [zb_f hb]
      rw [mArg_n hb] at ih2
      exact ih2 _
theorem lq_look (hS : zs_5 S e) (hM : zTN X S C e V M i0 s) (hD : zWD M) (hs : s < dN M) : ∀ c : Nat, (∀ m, mCnt m 8 = c → mSub m (dL M) → i0 ≤ mTurn M m + 1 → ∀ d, 2 * c + 1 ≤ d → 2 ≤ d → ∀ q : Int32 → zx_C → Prop, zCd X (d + 1) 175 [.ref e, .int (zi s), .int (zi m), .int (zi ((V + mTurn M m : Nat) : Int))] S C (zQi q) = q (zi (zo (mLook M s m))) C) ∧ (∀ m, mCnt m 8 = c → mSub m (dL M) → i0 ≤ mTurn M m → ∀ d, 2 * c + 2 ≤ d → ∀ q : Int32 → zx_C → Prop, zCd X (d + 1) 176 [.ref e, .int (zi s), .int (zi m), .int (zi ((V + mTurn M m : Nat) : Int))] S C (zQi q) = q (zi (mSt M s m)) C) := by
  have hn := hD.1
  have hT := hD.2.1
  have hall : ∀ m, mSub m (dL M) → m < 2 ^ dT M ∧ m < 256 := fun m hm => ⟨Nat.lt_of_le_of_lt (mSub_le hm) hD.2.2.1, pow_256 (Nat.lt_of_le_of_lt (mSub_le hm) hD.2.2.1) hD.2.1⟩
  intro c
  induction c with
  | zero =>
    refine ⟨fun m hc hm h0 d hd hd2 q => ?_, fun m hc hm h0 d hd q => ?_⟩
    · have hz := mCnt_e (hall m hm).2 hc
      subst hz
      refine zc_eI (fun q h => vc175 hd2 hS ?_) q
      exact lq175 hS hM hD hd2 hs (hall 0 hm).1 (fun k _ hb => by rw [Nat.zero_testBit] at hb; cases hb) (dT M) 0 _ (by omega) h
    · have hz := mCnt_e (hall m hm).2 hc
      subst hz
      refine zc_eI (fun q h => vc176 (by omega) hS ?_) q
      rw [mSt_z] at h
      rw [zi_0, show zi ((0 : Nat) : Int) = zi 0 from rfl, if_pos rfl]
      exact h
  | succ c ih =>
    have hlk : ∀ m, mCnt m 8 = c + 1 → mSub m (dL M) → i0 ≤ mTurn M m + 1 → ∀ d, 2 * (c + 1) + 1 ≤ d → 2 ≤ d → ∀ q : Int32 → zx_C → Prop, zCd X (d + 1) 175 [.ref e, .int (zi s), .int (zi m), .int (zi ((V + mTurn M m : Nat) : Int))] S C (zQi q) = q (zi (zo (mLook M s m))) C := by
      intro m hc hm h0 d hd hd2 q
      have hm2 := hall m hm
      refine zc_eI (fun q h => vc175 hd2 hS ?_) q
      refine lq175 hS hM hD hd2 hs hm2.1 (fun k hk hb q => ?_) (dT M) 0 _ (by omega) h
      have h1 := mCnt_wo hm2.2 (by omega) hb
      have h2 := mTurn_wo hm2.2 (by omega) hb hm
      have h3 := ih.2 (wo m k) (by omega) (mSub_t (mSub_wo hm2.2 (by omega)) hm) (by omega) (d - 1) (by omega) q
      rw [h2, show d - 1 + 1 = d by omega] at h3
      exact h3
    refine ⟨hlk, fun m hc hm h0 d hd q => ?_⟩
    have hm2 := hall m hm
    have hz : m ≠ 0 := fun q => by rw [q, mCnt_z] at hc; omega
    have hlt := mTurn_lt hD hm hz
    have hwn := hD.2.2.2.2.1 _ hlt
    have hC := hD.2.2.2.1
    have hst := mSt_s (M := M) (s := s) hm2.2 hz
    have hrec : ∀ k, k < 8 → m.testBit k = true → ∀ q : Int32 → zx_C → Prop, zCd X d 176 [.ref e, .int (zi s), .int (zi (wo m k)), .int (zi ((V + mTurn M m + 1 : Nat) : Int))] S C (zQi q) = q (zi (mSt M s (wo m k))) C := fun k hk hb q => by
      have h1 := mCnt_wo hm2.2 hk hb
      have h2 := mTurn_wo hm2.2 hk hb hm
      have h3 := ih.2 (wo m k) (by omega) (mSub_t (mSub_wo hm2.2 hk) hm) (by omega) (d - 1) (by omega) q
      rw [h2, show d - 1 + 1 = d by omega] at h3
      exact h3
    refine zc_eI (fun q h => vc176 (by omega) hS ?_) q
    rw [zi_0, zeq_f (by omega), hM.2.2.2.2 (mTurn M m) h0 (by omega), if_pos hlt, zi_m1, zeq_f (by omega), zeq_i (by omega)]
    by_cases cw : dW M (mTurn M m) = s
    · rw [if_pos cw] at hst
      rw [if_pos (by omega)]
      have h4 := hlk m hc hm (by omega) (d - 1) (by omega) (by omega)
      rw [show d - 1 + 1 = d by omega] at h4
      obtain ⟨k, hk, hk8, hkb⟩ := mArg_some (lt := ltf (fun k => dU M s k + mSt M s (wo m k))) hm2.2 hz
      have hk2 : mLook M s m = some k := hk
      rw [hk2] at hst
      rw [h4, hk2, zo_s]
      refine ⟨zi_in (by omega) (by omega) (by omega), zi_in (by omega) (by omega) (by omega), ?_⟩
      have hkT := bit_lt hm2.1 hkb
      rw [← zi_m1, bz_wo hk8 hm2.2, zi_s, hrec k hk8 hkb, zi_ix (by omega) (by omega), zi_ix (by omega) (by omega), Int.toNat_natCast, Int.toNat_natCast, hM.2.2.2.1 k hkT, zi_add]
      rw [hst] at h
      exact h
    · rw [if_neg cw] at hst
      rw [if_neg (by omega)]
      refine ⟨zi_in (by omega) (by omega) (by omega), ?_⟩
      have hB := hD.2.2.2.2.2.1 (dW M (mTurn M m)) (by omega)
      rw [zi_ix (by omega) (by omega), Int.toNat_natCast, hM.2.1 _ (by omega), zi_5, zeq_i (by omega)]
      obtain ⟨k, hk2, hk8, hkb⟩ := mBlind_some (M := M) (s := dW M (mTurn M m)) (b := mBB M (dW M (mTurn M m))) hm2.2 hz
      rw [hk2] at hst
      have hd1 : d = d - 1 + 1 := by omega
      by_cases c5 : dB M (dW M (mTurn M m)) = 5
      · have hbb : mBB M (dW M (mTurn M m)) = 1 := if_pos c5
        rw [hbb] at hk2
        have h5 := fun q => sp173 (X := X) (S := S) (C := C) (q := q) hS hM hD (d := d - 1) (by omega) hwn (b := 1) (by omega) hm (by omega)
        rw [← hd1, hk2] at h5
        rw [if_pos c5, zi_1, h5, zo_s, ← zi_1, ← zi_m1, bz_wo hk8 hm2.2, zi_s, hrec k hk8 hkb]
        rw [hst] at h
        exact h
      · have hbb : mBB M (dW M (mTurn M m)) = dB M (dW M (mTurn M m)) := if_neg c5
        rw [hbb] at hk2
        have h5 := fun q => sp173 (X := X) (S := S) (C := C) (q := q) hS hM hD (d := d - 1) (by omega) hwn (b := dB M (dW M (mTurn M m))) (by omega) hm (by omega)
        rw [← hd1, hk2] at h5
        rw [if_neg c5]
        refine ⟨zi_in (by omega) (by omega) (by omega), ?_⟩
        rw [h5, zo_s, ← zi_m1, bz_wo hk8 hm2.2, zi_s, hrec k hk8 hkb]
        rw [hst] at h
        exact h
/-- looking -/
theorem sp175 (hS : zs_5 S e) (hM : zTN X S C e V M i0 s) (hD : zWD M) {d m : Nat} (hs : s < dN M) (hm : mSub m (dL M)) (h0 : i0 ≤ mTurn M m + 1) (hd : 17 ≤ d) : zCd X (d + 1) 175 [.ref e, .int (zi s), .int (zi m), .int (zi ((V + mTurn M m : Nat) : Int))] S C (zQi q) = q (zi (zo (mLook M s m))) C :=
  have h8 := mCnt_le m 8
  (lq_look hS hM hD hs (mCnt m 8)).1 m rfl hm h0 d (by omega) (by omega) q
/-- takenBy: what a side takes -/
theorem sp173c (hS : zs_5 S e) (hM : zTN X S C e V M i0 s) (hD : zWD M) {m : Nat} {b : Int} (hs : s < dN M) (hb : 0 ≤ b ∧ b ≤ 5) (hm : mSub m (dL M)) (h0 : i0 ≤ mTurn M m + 1) : zCd X 32 173 [.ref e, .int (zi s), .int (zi s), .int (zi b), .int (zi m), .int (zi ((V + mTurn M m : Nat) : Int))] S C (zQi q) = q (zi (zo (mChoose M s b m))) C := by
  by_cases c : b = 5
  · have hch : mChoose M s b m = mLook M s m := if_pos c
    rw [hch]
    subst c
    by_cases hz : m = 0
    · subst hz
      have hl : mLook M s 0 = none := mArg_none (fun j _ => Nat.zero_testBit j)
      rw [hl]
      refine zc_eI (fun q h => vc173 (d := 31) (by omega) hS ?_) q
      rw [zi_0, if_pos rfl]
      exact h
    · refine zc_eI (fun q h => vc173 (d := 31) (by omega) hS ?_) q
      have hm2 := pow_256 (Nat.lt_of_le_of_lt (mSub_le hm) hD.2.2.1) hD.2.1
      rw [zi_0, zeq_f (by omega), zi_5, if_neg (by decide), if_neg (by decide), if_pos rfl, sp175 hS hM hD hs hm h0 (by omega)]
      exact h
  · have hch : mChoose M s b m = mBlind M s b m := if_neg c
    rw [hch]
    exact sp173 hS hM hD (d := 31) (by omega) hs (by omega) hm h0
end
