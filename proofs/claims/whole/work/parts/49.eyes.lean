/-! CHOOSING, as the model has it -/
/-- what the model goes by, from turn V on, in the eyes of y; turns from i0 on are right -/
def zTN (X : zX) (S : zx_S) (C : zx_C) (e : Nat) (V : Nat) (M : zD) (i0 y : Nat) : Prop := C.1 e 11 = zi (dT M) ∧ (∀ s, s < 3 → C.1 (e + 29) s = zi (dB M s)) ∧ (∀ (s k : Nat), s < dN M → k < dT M → ∀ q : Int32 → zx_C → Prop, zCd X 0 181 [.ref e, .int (zi y), .int (zi s), .int (zi k)] S C (zQi q) = q (zi (dU M s k)) C) ∧ (∀ k, k < dT M → C.1 (e + 19 + k) y = zi (dU M y k)) ∧ ∀ j : Nat, i0 ≤ j → j < 32 → ∀ q : Int32 → zx_C → Prop, zCd X 1 177 [.ref e, .int (zi ((V + j : Nat) : Int))] S C (zQi q) = q (zi (if j < dC M then (dW M j : Int) else -1)) C
theorem bits_0 {m : Nat} (hm : m < 256) (h : ∀ k, k < 8 → m.testBit k = false) : m = 0 := by
  refine Nat.eq_of_testBit_eq fun k => ?_
  rw [Nat.zero_testBit]
  by_cases hk : k < 8
  · exact h k hk
  · exact Nat.testBit_lt_two_pow (Nat.lt_of_lt_of_le hm (Nat.pow_le_pow_right (n := 2) (i := 8) (by decide) (by omega)))
theorem mBlind_z {M : zD} {s : Nat} {b : Int} : mBlind M s b 0 = none := by
  cases h : mBlind M s b 0 with
  | none => rfl
  | some k =>
    have := mBlind_in (by decide) h
    rw [Nat.zero_testBit] at this
    cases this.2
theorem mTurn_wo {M : zD} {m k : Nat} (hm : m < 256) (hk : k < 8) (hb : m.testBit k = true) (hs : mSub m (dL M)) : mTurn M (wo m k) = mTurn M m + 1 := by
  have h1 := mCnt_wo hm hk hb
  have h2 := mSub_cnt hs 8
  unfold mTurn
  omega
section
variable {X : zX} {S : zx_S} {C : zx_C} {q : Int32 → zx_C → Prop} {e V i0 y : Nat} {M : zD}
theorem lq179 (hS : zs_5 S e) (hM : zTN X S C e V M i0 y) (hD : zWD M) {s i : Nat} (hs : s < 3) (hi : i ≤ 7) (h0 : i0 ≤ i + 1) : ∀ (j k : Nat) (z4 : Value), k + j = 25 → 1 ≤ k → q (zi (zo (mRiv (dW M) s (min (dC M) (i + 25) - (i + k)) (i + k)))) C → zW X 2 179 2 [.ref e, .int (zi s), .int (zi ((V + i : Nat) : Int)), .int (zi k), z4] [] S C (zQi q) := by
  have hn := hD.1
  have hC := hD.2.2.2.1
  intro j
  induction j with
  | zero =>
    intro k z4 hk h1 hq
    refine vc179_2 (a1 := 0) (a2 := 0) hS ?_
    rw [zi_24, zlt_t (by omega)]
    rw [show min (dC M) (i + 25) - (i + k) = 0 by omega] at hq
    exact hq
  | succ j ih =>
    intro k z4 hk h1 hq
    refine vc179_2 (a1 := 0) (a2 := 0) hS ?_
    rw [zi_24, zlt_f (by omega), zi_add, show (((V + i : Nat) : Int) + (k : Int)) = ((V + (i + k) : Nat) : Int) by omega, hM.2.2.2.2 (i + k) (by omega) (by omega), zi_s]
    by_cases c : i + k < dC M
    · have hw := hD.2.2.2.2.1 (i + k) c
      rw [if_pos c, zi_m1, zeq_f (by omega), zeq_i (by omega)]
      obtain ⟨f, hf⟩ : ∃ f, min (dC M) (i + 25) - (i + k) = f + 1 := ⟨min (dC M) (i + 25) - (i + k) - 1, by omega⟩
      rw [hf] at hq
      simp only [mRiv] at hq
      by_cases c2 : dW M (i + k) = s
      · rw [if_pos c2] at hq
        rw [if_pos (by omega)]
        refine ih (k + 1) _ (by omega) (by omega) ?_
        rw [show min (dC M) (i + 25) - (i + (k + 1)) = f by omega]
        exact hq
      · rw [if_neg c2] at hq
        rw [if_neg (by omega)]
        exact hq
    · rw [if_neg c, zi_m1, if_pos rfl]
      refine ih (k + 1) _ (by omega) (by omega) ?_
      rw [show min (dC M) (i + 25) - (i + k) = 0 by omega] at hq
      rw [show min (dC M) (i + 25) - (i + (k + 1)) = 0 by omega]
      exact hq
/-- rivalOf -/
theorem sp179 (hS : zs_5 S e) (hM : zTN X S C e V M i0 y) (hD : zWD M) {s i : Nat} (hs : s < 3) (hi : i ≤ 7) (h0 : i0 ≤ i + 1) : zCd X 2 179 [.ref e, .int (zi s), .int (zi ((V + i : Nat) : Int))] S C (zQi q) = q (zi (zo (mRv M s i))) C :=
  zc_eI (fun _ h => vc179 hS (lq179 hS hM hD hs hi h0 24 1 _ (by omega) (by omega) h)) q
theorem lq180 (hS : zs_5 S e) (hM : zTN X S C e V M i0 y) (hD : zWD M) {s m : Nat} (hs : s < dN M) (hm : m < 2 ^ dT M) : ∀ (j i : Nat), i + j = dT M → q (zi (zo (mGr (dU M s) m))) C → zW X 1 180 6 [.ref e, .int (zi y), .int (zi s), .int (zi m), .int (zi (zo (mArg (ltf (dU M s)) m i))), .int (zi i)] [] S C (zQi q) := by
  have hm2 := pow_256 hm hD.2.1
  have hT := hD.2.1
  intro j
  induction j with
  | zero =>
    intro i hi hq
    refine vc180_6 (a1 := 0) (a2 := 0) (a3 := 0) hS ?_
    rw [hM.1, zlt_f (by omega)]
    have h8 : mGr (dU M s) m = mArg (ltf (dU M s)) m (dT M) := mArg_8 hm hT
    rw [h8, ← show i = dT M by omega] at hq
    exact hq
  | succ j ih =>
    intro i hi hq
    refine vc180_6 (a1 := 0) (a2 := 0) (a3 := 0) hS ?_
    rw [hM.1, zlt_t (by omega), sp174 (by omega) hm2, zi_s]
    have ih2 := ih (i + 1) (by omega) hq
    by_cases hb : m.testBit i = true
    · rw [zb_t hb]
      simp only [mArg] at ih2
      rw [if_pos hb] at ih2
      cases hc : mArg (ltf (dU M s)) m i with
      | none =>
        rw [hc] at ih2
        rw [zo_n, zi_m1, if_pos rfl]
        exact ih2
      | some b =>
        rw [hc] at ih2
        have hin := mArg_in i b hc
        have b1 := hD.2.2.2.2.2.2 s i hs (by omega)
        have b2 := hD.2.2.2.2.2.2 s b hs (by omega)
        rw [zo_s, zi_m1, zeq_f (by omega), hM.2.2.1 s i hs (by omega), hM.2.2.1 s b hs (by omega), zlt_i (by omega)]
        dsimp only at ih2
        have hl : ltf (dU M s) b i = decide (dU M s b < dU M s i) := rfl
        rw [hl] at ih2
        by_cases c : dU M s b < dU M s i
        · rw [if_pos (decide_eq_true c)] at ih2
          rw [if_pos c]
          exact ih2
        · rw [if_neg (by simp only [decide_eq_true_eq]; exact c)] at ih2
          rw [if_neg c]
          exact ih2
    · rw [zb_f hb]
      rw [mArg_n hb] at ih2
      exact ih2
/-- bestOf -/
theorem sp180 (hS : zs_5 S e) (hM : zTN X S C e V M i0 y) (hD : zWD M) {s m : Nat} (hs : s < dN M) (hm : m < 2 ^ dT M) : zCd X 1 180 [.ref e, .int (zi y), .int (zi s), .int (zi m)] S C (zQi q) = q (zi (zo (mGr (dU M s) m))) C :=
  zc_eI (fun _ h => vc180 hS (lq180 hS hM hD hs hm (dT M) 0 (by omega) h)) q
theorem lq182 (hS : zs_5 S e) (hM : zTN X S C e V M i0 y) (hD : zWD M) {s r m : Nat} (hs : s < dN M) (hr : r < dN M) (hm : m < 2 ^ dT M) : ∀ (j i : Nat) (z7 z8 : Value), i + j = dT M → q (zi (zo (mArg (mSpo M s r) m 8))) C → zW X 1 182 6 [.ref e, .int (zi y), .int (zi s), .int (zi r), .int (zi m), .int (zi (zo (mArg (mSpo M s r) m i))), .int (zi i), z7, z8] [] S C (zQi q) := by
  have hm2 := pow_256 hm hD.2.1
  have hT := hD.2.1
  intro j
  induction j with
  | zero =>
    intro i z7 z8 hi hq
    refine vc182_6 (a1 := 0) (a2 := 0) (a3 := 0) (a4 := 0) hS ?_
    rw [hM.1, zlt_f (by omega)]
    have h8 : mArg (mSpo M s r) m 8 = mArg (mSpo M s r) m (dT M) := mArg_8 hm hT
    rw [h8, ← show i = dT M by omega] at hq
    exact hq
  | succ j ih =>
    intro i z7 z8 hi hq
    refine vc182_6 (a1 := 0) (a2 := 0) (a3 := 0) (a4 := 0) hS ?_
    rw [hM.1, zlt_t (by omega), sp174 (by omega) hm2, zi_s]
    have ih2 := fun z7 z8 => ih (i + 1) z7 z8 (by omega) hq
    by_cases hb : m.testBit i = true
    · rw [zb_t hb]
      simp only [mArg] at ih2
      rw [if_pos hb] at ih2
      cases hc : mArg (mSpo M s r) m i with
      | none =>
        rw [hc] at ih2
        rw [zo_n, zi_m1, if_pos rfl, if_pos (by decide), if_neg (by decide)]
        exact ih2 _ _
      | some b =>
        rw [hc] at ih2
        have hin := mArg_in i b hc
        have b1 := hD.2.2.2.2.2.2 s i hs (by omega)
        have b2 := hD.2.2.2.2.2.2 s b hs (by omega)
        have b3 := hD.2.2.2.2.2.2 r i hr (by omega)
        have b4 := hD.2.2.2.2.2.2 r b hr (by omega)
        rw [zo_s, zi_m1, zeq_f (by omega), hM.2.2.1 r i hr (by omega), hM.2.2.1 r b hr (by omega), hM.2.2.1 s i hs (by omega), hM.2.2.1 s b hs (by omega), zi_sub, zi_0, zi_1, zlt_i (a := 0) (b := dU M r i - dU M r b) (by omega), zeq_i (a := dU M r i - dU M r b) (b := 0) (by omega), zlt_i (a := dU M s b) (b := dU M s i) (by omega)]
        dsimp only at ih2
        have hl : mSpo M s r b i = decide (dU M r b < dU M r i ∨ (dU M r b = dU M r i ∧ dU M s b < dU M s i)) := rfl
        rw [hl] at ih2
        by_cases c : 0 < dU M r i - dU M r b
        · rw [if_pos (decide_eq_true (by omega))] at ih2
          rw [if_pos c, if_neg (by decide)]
          exact ih2 _ _
        · rw [if_neg c]
          by_cases c2 : dU M r i - dU M r b = 0
          · rw [if_pos c2]
            by_cases c3 : dU M s b < dU M s i
            · rw [if_pos (decide_eq_true (by omega))] at ih2
              rw [if_pos c3, if_neg (by decide)]
              exact ih2 _ _
            · rw [if_neg (by simp only [decide_eq_true_eq]; omega)] at ih2
              rw [if_neg c3, if_pos rfl]
              exact ih2 _ _
          · rw [if_neg (by simp only [decide_eq_true_eq]; omega)] at ih2
            rw [if_neg c2, if_pos rfl]
            exact ih2 _ _
    · rw [zb_f hb]
      rw [mArg_n hb] at ih2
      exact ih2 _ _
/-- spoiling -/
theorem sp182 (hS : zs_5 S e) (hM : zTN X S C e V M i0 y) (hD : zWD M) {s r m : Nat} (hs : s < dN M) (hr : r < dN M) (hm : m < 2 ^ dT M) : zCd X 1 182 [.ref e, .int (zi y), .int (zi s), .int (zi r), .int (zi m)] S C (zQi q) = q (zi (zo (mArg (mSpo M s r) m 8))) C :=
  zc_eI (fun _ h => vc182 hS (lq182 hS hM hD hs hr hm (dT M) 0 _ _ (by omega) h)) q
theorem lq184 (hS : zs_5 S e) (hM : zTN X S C e V M i0 y) (hD : zWD M) {r m : Nat} (hr : r < dN M) (hm : m < 2 ^ dT M) (z2 : Value) : ∀ (j i : Nat), i + j = dT M → q (zi (zo (mArg (mLea M r) m 8))) C → zW X 1 184 6 [.ref e, .int (zi y), z2, .int (zi r), .int (zi m), .int (zi (zo (mArg (mLea M r) m i))), .int (zi i)] [] S C (zQi q) := by
  have hm2 := pow_256 hm hD.2.1
  have hT := hD.2.1
  intro j
  induction j with
  | zero =>
    intro i hi hq
    refine vc184_6 (a1 := 0) (a2 := 0) (a3 := 0) (a4 := 0) hS ?_
    rw [hM.1, zlt_f (by omega)]
    have h8 : mArg (mLea M r) m 8 = mArg (mLea M r) m (dT M) := mArg_8 hm hT
    rw [h8, ← show i = dT M by omega] at hq
    exact hq
  | succ j ih =>
    intro i hi hq
    refine vc184_6 (a1 := 0) (a2 := 0) (a3 := 0) (a4 := 0) hS ?_
    rw [hM.1, zlt_t (by omega), sp174 (by omega) hm2, zi_s]
    have ih2 := ih (i + 1) (by omega) hq
    by_cases hb : m.testBit i = true
    · rw [zb_t hb]
      simp only [mArg] at ih2
      rw [if_pos hb] at ih2
      cases hc : mArg (mLea M r) m i with
      | none =>
        rw [hc] at ih2
        rw [zo_n, zi_m1, if_pos rfl]
        exact ih2
      | some b =>
        rw [hc] at ih2
        have hin := mArg_in i b hc
        have b3 := hD.2.2.2.2.2.2 r i hr (by omega)
        have b4 := hD.2.2.2.2.2.2 r b hr (by omega)
        rw [zo_s, zi_m1, zeq_f (by omega), hM.2.2.1 r i hr (by omega), hM.2.2.1 r b hr (by omega), zlt_i (by omega)]
        dsimp only at ih2
        have hl : mLea M r b i = decide (dU M r i ≤ dU M r b) := rfl
        rw [hl] at ih2
        by_cases c : dU M r b < dU M r i
        · rw [if_neg (by simp only [decide_eq_true_eq]; omega)] at ih2
          rw [if_pos c]
          exact ih2
        · rw [if_pos (by simp only [decide_eq_true_eq]; omega)] at ih2
          rw [if_neg c]
          exact ih2
    · rw [zb_f hb]
      rw [mArg_n hb] at ih2
      exact ih2
/-- leastOf -/
theorem sp184 (hS : zs_5 S e) (hM : zTN X S C e V M i0 y) (hD : zWD M) {s r m : Nat} (hr : r < dN M) (hm : m < 2 ^ dT M) : zCd X 1 184 [.ref e, .int (zi y), .int (zi s), .int (zi r), .int (zi m)] S C (zQi q) = q (zi (zo (mArg (mLea M r) m 8))) C :=
  zc_eI (fun _ h => vc184 hS (lq184 hS hM hD hr hm _ (dT M) 0 (by omega) h)) q
theorem lq173a (hS : zs_5 S e) {d m : Nat} (hd : 2 ≤ d) (hm : m < 256) (h0 : m ≠ 0) (z0 z1 z2 z5 : Value) : ∀ j i : Nat, i + j = 8 → (∀ k, k < i → m.testBit k = false) → q (zi (zo (mArg (fun _ _ => false) m 8))) C → zW X (d + 1) 173 32 [z0, z1, z2, .int (zi 0), .int (zi m), z5, .int (zi i)] [] S C (zQi q) := by
  intro j
  induction j with
  | zero =>
    intro i hi g hq
    exact absurd (bits_0 hm (fun k hk => g k (by omega))) h0
  | succ j ih =>
    intro i hi g hq
    refine vc173_32 (a1 := 0) (a2 := 0) (a3 := 0) (a4 := 0) (a5 := 0) hd hS ?_
    rw [sp174 (by omega) hm]
    by_cases hb : m.testBit i = true
    · rw [zb_t hb]
      rw [mArg_first hb g 8 (by omega)] at hq
      exact hq
    · rw [zb_f hb, zi_0, if_pos rfl, zi_s]
      refine ih (i + 1) (by omega) (fun k hk => ?_) hq
      by_cases hk2 : k = i
      · rw [hk2]; exact Bool.eq_false_iff.mpr hb
      · exact g k (by omega)
theorem lq173b (hS : zs_5 S e) {d m : Nat} (hd : 2 ≤ d) (hm : m < 256) (h0 : m ≠ 0) (z0 z1 z2 z5 : Value) : ∀ i : Nat, i ≤ 8 → (∀ k, i ≤ k → k < 8 → m.testBit k = false) → q (zi (zo (mArg (fun _ _ => true) m 8))) C → zW X (d + 1) 173 32 [z0, z1, z2, .int (zi 4), .int (zi m), z5, .int (zi ((i : Int) - 1))] [] S C (zQi q) := by
  intro i
  induction i with
  | zero =>
    intro hi g hq
    exact absurd (bits_0 hm (fun k hk => g k (by omega) hk)) h0
  | succ i ih =>
    intro hi g hq
    refine vc173_32 (a1 := 0) (a2 := 0) (a3 := 0) (a4 := 0) (a5 := 0) hd hS ?_
    rw [show (((i + 1 : Nat) : Int) - 1) = (i : Int) by omega, sp174 (by omega) hm]
    by_cases hb : m.testBit i = true
    · rw [zb_t hb]
      rw [mArg_last hb (by omega) (fun k h1 h2 => g k (by omega) h2)] at hq
      exact hq
    · rw [zb_f hb, if_neg (by decide), zi_m1, zi_add, show ((i : Int) + -1) = (i : Int) - 1 by omega]
      refine ih (by omega) (fun k hk h8 => ?_) hq
      by_cases hk2 : k = i
      · rw [hk2]; exact Bool.eq_false_iff.mpr hb
      · exact g k (by omega) h8
/-- takenBy, of all that don't look -/
theorem sp173 (hS : zs_5 S e) (hM : zTN X S C e V M i0 y) (hD : zWD M) {d s m : Nat} {b : Int} (hd : 2 ≤ d) (hs : s < dN M) (hb : 0 ≤ b ∧ b ≤ 4) (hm : mSub m (dL M)) (h0 : i0 ≤ mTurn M m + 1) : zCd X (d + 1) 173 [.ref e, .int (zi y), .int (zi s), .int (zi b), .int (zi m), .int (zi ((V + mTurn M m : Nat) : Int))] S C (zQi q) = q (zi (zo (mBlind M s b m))) C := by
  refine zc_eI (fun q h => vc173 hd hS ?_) q
  have hn := hD.1
  have hT := hD.2.1
  have hmT : m < 2 ^ dT M := Nat.lt_of_le_of_lt (mSub_le hm) hD.2.2.1
  have hm2 := pow_256 hmT hD.2.1
  by_cases hz : m = 0
  · subst hz
    rw [mBlind_z] at h
    rw [zi_0, if_pos rfl]
    exact h
  · have hc := mSub_cnt hm 8
    have hc8 := mCnt_le (dL M) 8
    have hcp := mCnt_p hm2 hz
    have ht : mTurn M m ≤ 7 := by unfold mTurn; omega
    rw [zi_m1, zi_0, zeq_f (by omega)]
    unfold mBlind at h
    by_cases c0 : b = 0
    · rw [if_pos c0] at h
      subst c0
      rw [if_pos rfl, if_pos rfl]
      exact lq173a hS hd hm2 hz _ _ _ _ 8 0 (by omega) (fun k hk => absurd hk (Nat.not_lt_zero k)) h
    · rw [if_neg c0] at h
      rw [zeq_f (by omega), zi_4]
      by_cases c4 : b = 4
      · rw [if_pos c4] at h
        subst c4
        rw [if_pos rfl, if_neg (by decide), hM.1, zi_1, zi_sub]
        exact lq173b hS hd hm2 hz _ _ _ _ (dT M) hT (fun k h1 h2 => Nat.testBit_lt_two_pow (Nat.lt_of_lt_of_le hmT (Nat.pow_le_pow_right (by decide) h1))) h
      · rw [if_neg c4] at h
        rw [zeq_f (by omega), zi_5, zeq_f (by omega), zi_1, zeq_i (by omega)]
        by_cases c1 : b = 1
        · rw [if_neg (by omega), if_neg (by omega)] at h
          rw [if_pos c1, if_pos rfl, sp180 hS hM hD hs hmT]
          exact h
        · rw [if_neg c1, sp179 hS hM hD (by omega) ht h0, zi_2, zeq_i (a := b) (b := 2) (by omega)]
          by_cases c2 : b = 2
          · rw [if_pos c2] at h
            rw [if_pos c2]
            cases hr : mRv M s (mTurn M m) with
            | none =>
              rw [hr] at h
              rw [zo_n, if_pos rfl, sp180 hS hM hD hs hmT]
              exact h
            | some r =>
              rw [hr] at h
              have hrn := mRv_lt hD hr
              rw [zo_s, zeq_f (by omega), sp182 hS hM hD hs hrn hmT]
              exact h
          · have c3 : b = 3 := by omega
            rw [if_neg c2, if_pos c3] at h
            rw [if_neg c2]
            cases hr : mRv M s (mTurn M m) with
            | none =>
              rw [hr] at h
              rw [zo_n, if_pos rfl, sp180 hS hM hD hs hmT]
              exact h
            | some r =>
              rw [hr] at h
              have hrn := mRv_lt hD hr
              have hmc := mCnt_le m 8
              rw [zo_s, zeq_f (by omega), sp183 hm2, sp184 hS hM hD hrn hmT]
              dsimp only at h
              unfold mWait at h
              by_cases c5 : 1 < mCnt m 8
              · rw [if_pos c5] at h
                obtain ⟨x, hx, hx8, hxb⟩ := mArg_some (lt := mLea M r) hm2 hz
                rw [hx] at h
                rw [hx, zo_s, ← zi_1, ← zi_m1, bz_wo hx8 hm2, zi_1, zeq_f (by omega), sp180 hS hM hD hs (Nat.lt_of_le_of_lt (wo_le m x) hmT)]
                exact h
              · rw [if_neg c5] at h
                rw [show zi (mCnt m 8 : Int) = zi 1 by rw [show (mCnt m 8 : Int) = 1 by omega], if_pos rfl, sp180 hS hM hD hs hmT]
                exact h
end
