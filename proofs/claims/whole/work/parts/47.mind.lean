theorem zMd_of {C C1 : zx_C} {e : Nat} {M : zD} (h : zMd C e M) (h1 : ∀ b k, e ≤ b → b < e + 5 → C1.1 b k = C.1 b k) : zMd C1 e M := by
  obtain ⟨v1, v2, v3, v4, v5, v6⟩ := h
  refine ⟨fun s k hs hk => ?_, fun s hs => ?_, fun i hi => ?_, ?_, ?_, ?_⟩
  · rw [h1 _ _ (by omega) (by omega)]; exact v1 s k hs hk
  · rw [h1 _ _ (by omega) (by omega)]; exact v2 s hs
  · rw [h1 _ _ (by omega) (by omega)]; exact v3 i hi
  · rw [h1 _ _ (by omega) (by omega)]; exact v4
  · rw [h1 _ _ (by omega) (by omega)]; exact v5
  · rw [h1 _ _ (by omega) (by omega)]; exact v6
/-- the game -/
def mGml (M : zD) : Nat → Nat → Nat → Int
  | 0, _, _ => 0
  | f + 1, m, x => match mGr (fun k => dU M (dW M (mTurn M m)) k + mGml M f (wo m k) (dW M (mTurn M m))) m with
    | none => 0
    | some k => (if x = dW M (mTurn M m) then dU M (dW M (mTurn M m)) k else 0) + mGml M f (wo m k) x
def mGm (M : zD) (m x : Nat) : Int := mGml M (mCnt m 8) m x
def mGt (M : zD) (m : Nat) : Option Nat := mGr (fun k => dU M (dW M (mTurn M m)) k + mGm M (wo m k) (dW M (mTurn M m))) m
theorem mGm_z (M : zD) (x : Nat) : mGm M 0 x = 0 := by
  unfold mGm
  rw [mCnt_z]
  rfl
theorem mGm_s {M : zD} {m x : Nat} (hm : m < 256) (h0 : m ≠ 0) : mGm M m x = match mGt M m with
    | none => 0
    | some k => (if x = dW M (mTurn M m) then dU M (dW M (mTurn M m)) k else 0) + mGm M (wo m k) x := by
  have hp := mCnt_p hm h0
  obtain ⟨f, hf⟩ : ∃ f, mCnt m 8 = f + 1 := ⟨mCnt m 8 - 1, by omega⟩
  have hw : ∀ k, k < 8 → m.testBit k = true → mCnt (wo m k) 8 = f := fun k hk hb => by have := mCnt_wo hm hk hb; omega
  have hl : mGr (fun k => dU M (dW M (mTurn M m)) k + mGml M f (wo m k) (dW M (mTurn M m))) m = mGt M m := mGr_c (fun k hk hb => by
    show _ = dU M (dW M (mTurn M m)) k + mGm M (wo m k) (dW M (mTurn M m))
    unfold mGm
    rw [hw k hk hb])
  have h1 : mGm M m x = mGml M (f + 1) m x := by unfold mGm; rw [hf]
  rw [h1]
  simp only [mGml]
  rw [hl]
  cases hk : mGt M m with
  | none => rfl
  | some k =>
    have := mArg_in 8 k hk
    dsimp only
    unfold mGm
    rw [hw k this.1 this.2]
theorem mGml_b {M : zD} (hM : zWD M) {x : Nat} : ∀ f m : Nat, m < 2 ^ dT M → (∀ y, mSub y m → y ≠ 0 → mTurn M y < dC M) → 0 ≤ mGml M f m x ∧ mGml M f m x ≤ 99 * f := by
  intro f
  induction f with
  | zero => intro m _ _; exact ⟨Int.le_refl 0, Int.le_refl 0⟩
  | succ f ih =>
    intro m hm ht
    have hm2 := pow_256 hm hM.2.1
    simp only [mGml]
    split
    · omega
    · next k hk =>
      have h1 := mArg_in 8 k hk
      have hm0 : m ≠ 0 := fun q => by rw [q, Nat.zero_testBit] at h1; cases h1.2
      have h2 := ih (wo m k) (Nat.lt_of_le_of_lt (wo_le m k) hm) (fun y hy => ht y (mSub_t hy (mSub_wo hm2 h1.1)))
      have h3 := hM.2.2.2.2.2.2 (dW M (mTurn M m)) k (hM.2.2.2.2.1 _ (ht m (mSub_r m) hm0)) (bit_lt hm h1.2)
      split <;> omega
theorem mTurn_lt {M : zD} (hM : zWD M) {m : Nat} (hm : mSub m (dL M)) (h0 : m ≠ 0) : mTurn M m < dC M := by
  have h1 := mCnt_p (pow_256 (Nat.lt_of_le_of_lt (mSub_le hm) hM.2.2.1) hM.2.1) h0
  have h2 := hM.2.2.2.1
  have h3 := mSub_cnt hm 8
  unfold mTurn
  omega
/-- other turns -/
abbrev dTo (M : zD) (W : Nat → Nat) : zD := (M.1, dU M, dB M, W)
theorem mRiv_c {W W' : Nat → Nat} {s : Nat} : ∀ f i : Nat, (∀ j, i ≤ j → j < i + f → W j = W' j) → mRiv W s f i = mRiv W' s f i := by
  intro f
  induction f with
  | zero => intro i _; rfl
  | succ f ih =>
    intro i h
    simp only [mRiv]
    rw [h i (Nat.le_refl i) (by omega), ih (i + 1) (fun j h1 h2 => h j (by omega) (by omega))]
theorem mRv_c {M : zD} {W' : Nat → Nat} {s i : Nat} (h : ∀ j, i + 1 ≤ j → j < dC M → dW M j = W' j) : mRv M s i = mRv (dTo M W') s i := by
  show mRiv (dW M) s (min (dC M) (i + 25) - (i + 1)) (i + 1) = mRiv W' s (min (dC M) (i + 25) - (i + 1)) (i + 1)
  exact mRiv_c _ _ (fun j h1 h2 => h j h1 (by omega))
theorem mBlind_c {M : zD} {W' : Nat → Nat} {s : Nat} {b : Int} {m : Nat} (h : ∀ j, mTurn M m + 1 ≤ j → j < dC M → dW M j = W' j) : mBlind M s b m = mBlind (dTo M W') s b m := by
  have hr : mRv M s (mTurn M m) = mRv (dTo M W') s (mTurn (dTo M W') m) := mRv_c h
  unfold mBlind
  rw [hr]
  rfl
theorem mStl_c {M : zD} {W' : Nat → Nat} {t0 s : Nat} (hD : zWD M) (h : ∀ j, t0 ≤ j → j < dC M → dW M j = W' j) : ∀ f m : Nat, mCnt m 8 = f → mSub m (dL M) → (m ≠ 0 → t0 ≤ mTurn M m) → mStl M s f m = mStl (dTo M W') s f m := by
  intro f
  induction f with
  | zero => intro m _ _ _; rfl
  | succ f ih =>
    intro m hf hm ht
    have hm2 : m < 256 := pow_256 (Nat.lt_of_le_of_lt (mSub_le hm) hD.2.2.1) hD.2.1
    have h0 : m ≠ 0 := fun q => by rw [q, mCnt_z] at hf; omega
    have hT := mTurn_lt hD hm h0
    have ht0 := ht h0
    have hw : ∀ k, k < 8 → m.testBit k = true → mStl M s f (wo m k) = mStl (dTo M W') s f (wo m k) := fun k hk hb =>
      have hc := mCnt_wo hm2 hk hb
      ih (wo m k) (by omega) (mSub_t (mSub_wo hm2 hk) hm) (fun _ => by unfold mTurn at ht0 ⊢; omega)
    have e1 : dW M (mTurn M m) = W' (mTurn M m) := h _ ht0 hT
    have e2 : mGr (fun k => dU M s k + mStl M s f (wo m k)) m = mGr (fun k => dU (dTo M W') s k + mStl (dTo M W') s f (wo m k)) m := mGr_c (fun k hk hb => by
      show dU M s k + mStl M s f (wo m k) = dU M s k + mStl (dTo M W') s f (wo m k)
      rw [hw k hk hb])
    have e3 : ∀ (x : Nat) (b : Int), mBlind M x b m = mBlind (dTo M W') x b m := fun x b => mBlind_c (fun j h1 h2 => h j (by omega) h2)
    simp only [mStl]
    rw [e1]
    by_cases c : W' (mTurn M m) = s
    · rw [if_pos c, if_pos (show dW (dTo M W') (mTurn (dTo M W') m) = s from c), e2]
      cases hk : mGr (fun k => dU (dTo M W') s k + mStl (dTo M W') s f (wo m k)) m with
      | none => rfl
      | some k =>
        have := mArg_in 8 k hk
        show dU M s k + mStl M s f (wo m k) = dU M s k + mStl (dTo M W') s f (wo m k)
        rw [hw k this.1 this.2]
    · rw [if_neg c, if_neg (show ¬ dW (dTo M W') (mTurn (dTo M W') m) = s from c)]
      have e4 : mBlind M (W' (mTurn M m)) (mBB M (W' (mTurn M m))) m = mBlind (dTo M W') (dW (dTo M W') (mTurn (dTo M W') m)) (mBB (dTo M W') (dW (dTo M W') (mTurn (dTo M W') m))) m := e3 _ _
      rw [e4]
      cases hk : mBlind (dTo M W') (dW (dTo M W') (mTurn (dTo M W') m)) (mBB (dTo M W') (dW (dTo M W') (mTurn (dTo M W') m))) m with
      | none => rfl
      | some k =>
        have := mBlind_in hm2 hk
        show mStl M s f (wo m k) = mStl (dTo M W') s f (wo m k)
        rw [hw k this.1 this.2]
theorem mSt_c {M : zD} {W' : Nat → Nat} {t0 s m : Nat} (hD : zWD M) (h : ∀ j, t0 ≤ j → j < dC M → dW M j = W' j) (hm : mSub m (dL M)) (ht : m ≠ 0 → t0 ≤ mTurn M m) : mSt M s m = mSt (dTo M W') s m := mStl_c hD h (mCnt m 8) m rfl hm ht
theorem mChoose_c {M : zD} {W' : Nat → Nat} {t0 s m : Nat} {b : Int} (hD : zWD M) (h : ∀ j, t0 ≤ j → j < dC M → dW M j = W' j) (hm : mSub m (dL M)) (ht : t0 ≤ mTurn M m + 1) : mChoose M s b m = mChoose (dTo M W') s b m := by
  have hm2 : m < 256 := pow_256 (Nat.lt_of_le_of_lt (mSub_le hm) hD.2.2.1) hD.2.1
  unfold mChoose
  by_cases c : b = 5
  · rw [if_pos c, if_pos c]
    unfold mLook
    refine mGr_c (fun k hk hb => ?_)
    have hc := mCnt_wo hm2 hk hb
    have hs := mSub_cnt hm 8
    show dU M s k + mSt M s (wo m k) = dU M s k + mSt (dTo M W') s (wo m k)
    rw [mSt_c (W' := W') hD h (mSub_t (mSub_wo hm2 hk) hm) (fun _ => by unfold mTurn at ht ⊢; omega)]
  · rw [if_neg c, if_neg c]
    exact mBlind_c (fun j h1 h2 => h j (by omega) h2)
theorem mGm_b {M : zD} (hM : zWD M) {m x : Nat} (hm : mSub m (dL M)) : 0 ≤ mGm M m x ∧ mGm M m x ≤ 792 := by
  have h1 := mGml_b hM (x := x) (mCnt m 8) m (Nat.lt_of_le_of_lt (mSub_le hm) hM.2.2.1) (fun y hy h0 => mTurn_lt hM (mSub_t hy hm) h0)
  have h2 := mCnt_le m 8
  unfold mGm
  omega
section
variable {X : zX} {S : zx_S} {C : zx_C} {q : Int32 → zx_C → Prop} {e : Nat} {M : zD}
theorem lq65 (hS : zs_1 S e) (hM : zMd C e M) (hD : zWD M) {s m : Nat} (hs : s < dN M) (hm : m < 2 ^ dT M) {F : Nat → Int} (hF : ∀ k, k < dT M → m.testBit k = true → C.1 (e + 5) (s * 256 + wo m k) = zi (F k) ∧ 0 ≤ F k ∧ F k ≤ 792) : ∀ (j i : Nat) (z6 : Value), i + j = 8 → q (zi (zo (mGr (fun k => dU M s k + F k) m))) C → zW X 1 65 8 [.ref e, .int (zi s), .int (zi m), .int (zi (mTop (fun k => dU M s k + F k) (mArg (ltf (fun k => dU M s k + F k)) m i))), .int (zi (zo (mArg (ltf (fun k => dU M s k + F k)) m i))), .int (zi i), z6] [] S C (zQi q) := by
  have hm2 := pow_256 hm hD.2.1
  have hT := hD.2.1
  have hn := hD.1
  intro j
  induction j with
  | zero =>
    intro i z6 hi hq
    refine vc65_8 (a1 := 0) (a2 := 0) hS ?_
    rw [zi_8, zlt_f (by omega), show i = 8 by omega]
    exact hq
  | succ j ih =>
    intro i z6 hi hq
    refine vc65_8 (a1 := 0) (a2 := 0) hS ?_
    rw [zi_8, zlt_t (by omega), sp53 (by omega) hm2, zi_s]
    by_cases hb : m.testBit i = true
    · have hk := bit_lt hm hb
      have b1 := hD.2.2.2.2.2.2 s i hs hk
      have b2 := hF i hk hb
      rw [zb_t hb, sp59 hS hM hD hs hk, sp61 (by omega) hm2, sp66 hS (by omega) (Nat.lt_of_le_of_lt (wo_le m i) hm2), b2.1, zi_add]
      have hst := mGr_s (f := fun k => dU M s k + F k) hb (show (0 : Int) ≤ dU M s i + F i by omega)
      have hi2 := fun z => ih (i + 1) z (by omega) hq
      rw [hst] at hi2
      have htop : -1 ≤ mTop (fun k => dU M s k + F k) (mArg (ltf (fun k => dU M s k + F k)) m i) ∧ mTop (fun k => dU M s k + F k) (mArg (ltf (fun k => dU M s k + F k)) m i) < 100000 := by
        cases hc : mArg (ltf (fun k => dU M s k + F k)) m i with
        | none => show (-1 : Int) ≤ -1 ∧ (-1 : Int) < 100000; omega
        | some b =>
          have hin := mArg_in i b hc
          have hkb := bit_lt hm hin.2
          have c1 := hD.2.2.2.2.2.2 s b hs hkb
          have c2 := hF b hkb hin.2
          show (-1 : Int) ≤ dU M s b + F b ∧ dU M s b + F b < 100000
          omega
      rw [zlt_i (by omega)]
      by_cases c : mTop (fun k => dU M s k + F k) (mArg (ltf (fun k => dU M s k + F k)) m i) < dU M s i + F i
      · rw [if_pos c]
        rw [if_pos c] at hi2
        exact hi2 _
      · rw [if_neg c]
        rw [if_neg c] at hi2
        exact hi2 _
    · rw [zb_f hb]
      have hi2 := ih (i + 1) z6 (by omega) hq
      rw [mArg_n hb] at hi2
      exact hi2
/-- farthest -/
theorem sp65 (hS : zs_1 S e) (hM : zMd C e M) (hD : zWD M) {s m : Nat} (hs : s < dN M) (hm : m < 2 ^ dT M) {F : Nat → Int} (hF : ∀ k, k < dT M → m.testBit k = true → C.1 (e + 5) (s * 256 + wo m k) = zi (F k) ∧ 0 ≤ F k ∧ F k ≤ 792) : zCd X 1 65 [.ref e, .int (zi s), .int (zi m)] S C (zQi q) = q (zi (zo (mGr (fun k => dU M s k + F k) m))) C :=
  zc_eI (fun _ h => vc65 hS (lq65 hS hM hD hs hm hF 8 0 _ (by omega) h)) q
end
section
variable {X : zX} {S : zx_S} {C : zx_C} {q : zx_C → Prop} {e : Nat} {M : zD}
theorem lq62 (hS : zs_1 S e) (hD : zWD M) {s L c : Nat} (hs : s < dN M) (hc : c ≤ 8) (hLc : L < c) : ∀ (j v : Nat) (C0 : zx_C) (z5 z6 z7 z8 z9 : Value), v + j = dL M + 1 → 1 ≤ v → zMd C0 e M → (∀ x, x < 256 → mSub x (dL M) → (mCnt x 8 ≤ L ∨ (x < v ∧ mCnt x 8 ≤ c)) → C0.1 (e + 5) (s * 256 + x) = zi (mSt M s x)) → zW X 3 62 12 [.ref e, .int (zi s), .int (zi c), .int (zi L), .int (zi v), z5, z6, z7, z8, z9] [] S C0 (zQv (fun C1 => (∀ x, x < 256 → mSub x (dL M) → mCnt x 8 ≤ c → C1.1 (e + 5) (s * 256 + x) = zi (mSt M s x)) ∧ C1.1 (e + 6) s = zi c ∧ (∀ b k, b ≠ e + 5 → ¬ (b = e + 6 ∧ k = s) → C1.1 b k = C0.1 b k) ∧ (∀ k, (k ≤ s * 256 ∨ s * 256 + 256 ≤ k) → C1.1 (e + 5) k = C0.1 (e + 5) k) ∧ C1.2 = C0.2)) := by
  have hn := hD.1
  have hL2 : dL M < 256 := pow_256 hD.2.2.1 hD.2.1
  intro j
  induction j with
  | zero =>
    intro v C0 z5 z6 z7 z8 z9 hv h1 g1 g2
    refine vc62_12 (a1 := 0) (a2 := 0) hS ?_
    rw [g1.2.2.2.2.1, zlt_t (by omega), zlx_t (by omega), sp12 (za_1_8 hS) (by omega) (by omega) (by omega), Int.toNat_natCast]
    refine ⟨fun x hx hxs hxc => ?_, zp_hit _ _ _ _, fun b k hb hk => zp_miss _ _ _ _ (by omega), fun k hk => zp_ne (by omega), rfl⟩
    rw [zp_ne (by omega)]
    exact g2 x hx hxs (Or.inr ⟨by have := mSub_le hxs; omega, hxc⟩)
  | succ j ih =>
    intro v C0 z5 z6 z7 z8 z9 hv h1 g1 g2
    refine vc62_12 (a1 := 0) (a2 := 0) hS ?_
    have hv2 : v < 256 := by omega
    have hmc8 := mCnt_le v 8
    rw [g1.2.2.2.2.1, zlt_f (by omega), zi_256, zlt_t (by omega), zlt_t (by omega), sp44 hv2, g1.2.2.2.2.1]
    have hlift : ∀ (w : Int32) (y5 y6 y7 y8 y9 : Value), w = zi (mSt M s v) → zW X 3 62 12 [.ref e, .int (zi s), .int (zi c), .int (zi L), .int (zi ((v + 1 : Nat) : Int)), y5, y6, y7, y8, y9] [] S (zp C0 (e + 5) (s * 256 + v) w) (zQv (fun C1 => (∀ x, x < 256 → mSub x (dL M) → mCnt x 8 ≤ c → C1.1 (e + 5) (s * 256 + x) = zi (mSt M s x)) ∧ C1.1 (e + 6) s = zi c ∧ (∀ b k, b ≠ e + 5 → ¬ (b = e + 6 ∧ k = s) → C1.1 b k = C0.1 b k) ∧ (∀ k, (k ≤ s * 256 ∨ s * 256 + 256 ≤ k) → C1.1 (e + 5) k = C0.1 (e + 5) k) ∧ C1.2 = C0.2)) := by
      intro w y5 y6 y7 y8 y9 hw
      refine zW_mono (ih (v + 1) _ y5 y6 y7 y8 y9 (by omega) (by omega) (zMd_of g1 (fun b k _ _ => zp_ne (by omega))) (fun x hx hxL hxc => ?_)) (fun r C1 w2 => ⟨w2.1, w2.2.1, w2.2.2.1, fun b k hb hk => ?_, fun k hk => ?_, w2.2.2.2.2.2⟩)
      · by_cases cx : x = v
        · subst cx
          rw [zp_hit]
          exact hw
        · rw [zp_nf (by omega)]
          exact g2 x hx hxL (by omega)
      · rw [w2.2.2.2.1 b k hb hk, zp_ne hb]
      · rw [w2.2.2.2.2.1 k hk, zp_nf (by omega)]
    have hskip : (mSub v (dL M) → ¬ (L < mCnt v 8 ∧ mCnt v 8 ≤ c)) → ∀ y5 y6 y7 y8 y9 : Value, zW X 3 62 12 [.ref e, .int (zi s), .int (zi c), .int (zi L), .int (zi ((v + 1 : Nat) : Int)), y5, y6, y7, y8, y9] [] S C0 (zQv (fun C1 => (∀ x, x < 256 → mSub x (dL M) → mCnt x 8 ≤ c → C1.1 (e + 5) (s * 256 + x) = zi (mSt M s x)) ∧ C1.1 (e + 6) s = zi c ∧ (∀ b k, b ≠ e + 5 → ¬ (b = e + 6 ∧ k = s) → C1.1 b k = C0.1 b k) ∧ (∀ k, (k ≤ s * 256 ∨ s * 256 + 256 ≤ k) → C1.1 (e + 5) k = C0.1 (e + 5) k) ∧ C1.2 = C0.2)) := by
      intro hno y5 y6 y7 y8 y9
      refine ih (v + 1) _ y5 y6 y7 y8 y9 (by omega) (by omega) g1 (fun x hx hxL hxc => ?_)
      refine g2 x hx hxL ?_
      by_cases cx : x = v
      · subst cx
        have := hno hxL
        omega
      · omega
    by_cases hsub : mSub v (dL M)
    · rw [zi_0, if_pos ((bz_sub hv2 hL2).mpr hsub)]
      by_cases cL : L < mCnt v 8
      · rw [zlt_t (by omega)]
        by_cases cc : c < mCnt v 8
        · rw [zlt_t (by omega), zi_s]
          exact hskip (fun _ => by omega) _ _ _ _ _
        · rw [zlt_f (by omega)]
          have hv0 : v ≠ 0 := by omega
          have hvT : v < 2 ^ dT M := Nat.lt_of_le_of_lt (mSub_le hsub) hD.2.2.1
          have hlt := hD.2.2.2.2.1 _ (mTurn_lt hD hsub hv0)
          have hms := mSt_s (M := M) (s := s) hv2 hv0
          have hF : ∀ k, k < dT M → v.testBit k = true → C0.1 (e + 5) (s * 256 + wo v k) = zi (mSt M s (wo v k)) ∧ 0 ≤ mSt M s (wo v k) ∧ mSt M s (wo v k) ≤ 792 := fun k hk hb =>
            have h8 := hD.2.1
            have hwc := mCnt_wo hv2 (show k < 8 by omega) hb
            have hwl := wo_lt hb
            ⟨g2 _ (by omega) (mSub_t (mSub_wo hv2 (by omega)) hsub) (Or.inr ⟨hwl, by omega⟩), mSt_b hD hs (Nat.lt_of_le_of_lt (wo_le v k) hvT)⟩
          rw [sp63 hS g1 hD hv2 hv0 (mSub_cnt hsub 8), sp64 hS g1 (by omega)]
          by_cases cw : dW M (mTurn M v) = s
          · rw [if_pos cw] at hms
            rw [cw, if_pos rfl, sp65 hS g1 hD hs hvT hF, if_pos rfl]
            obtain ⟨k, hk, hk8, hkb⟩ := mArg_some (lt := ltf (fun k => dU M s k + mSt M s (wo v k))) hv2 hv0
            have hk2 : mLook M s v = some k := hk
            have hk3 : mGr (fun k => dU M s k + mSt M s (wo v k)) v = some k := hk
            rw [hk2] at hms
            rw [hk3, zo_s]
            have hkT := bit_lt hvT hkb
            rw [sp59 hS g1 hD hs hkT, sp61 hk8 hv2, sp66 hS (by omega) (Nat.lt_of_le_of_lt (wo_le v k) hv2), (hF k hkT hkb).1, zi_add, zi_mul, zi_add, sp12 (za_1_7 hS) (by omega) (by omega) (by omega), zi_s, show ((s : Int) * 256 + v).toNat = s * 256 + v by omega]
            exact hlift _ _ _ _ _ _ (by rw [hms])
          · rw [if_neg cw] at hms
            have hne : ¬ zi ((dW M (mTurn M v) : Nat) : Int) = zi (s : Int) := by
              rw [zi_eq (by omega) (by omega) (by omega) (by omega)]; omega
            rw [if_neg hne]
            have hB := hD.2.2.2.2.2.1 (dW M (mTurn M v)) (by omega)
            obtain ⟨k, hk2, hk8, hkb⟩ := mBlind_some (M := M) (s := dW M (mTurn M v)) (b := mBB M (dW M (mTurn M v))) hv2 hv0
            have hkT := bit_lt hvT hkb
            rw [hk2] at hms
            have fin : ∀ y5 y6 y7 y8 y9 : Value, zCd X 0 61 [.int (zi v), .int (zi (k : Int))] S C0 (zQi (fun r17 C17 => zCd X 0 66 [.ref e, .int (zi s), .int r17] S C17 (zQi (fun r18 C18 => zCd X 0 12 [.ref (e + 5), .int ((zi s * zi 256) + zi v), .int (zi 0 + r18)] S C18 (zQv (fun C19 => zW X 3 62 12 [.ref e, .int (zi s), .int (zi c), .int (zi L), .int (zi v + 1), y5, y6, y7, y8, y9] [] S C19 (zQv (fun C1 => (∀ x, x < 256 → mSub x (dL M) → mCnt x 8 ≤ c → C1.1 (e + 5) (s * 256 + x) = zi (mSt M s x)) ∧ C1.1 (e + 6) s = zi c ∧ (∀ b k, b ≠ e + 5 → ¬ (b = e + 6 ∧ k = s) → C1.1 b k = C0.1 b k) ∧ (∀ k, (k ≤ s * 256 ∨ s * 256 + 256 ≤ k) → C1.1 (e + 5) k = C0.1 (e + 5) k) ∧ C1.2 = C0.2)))))))) := by
              intro y5 y6 y7 y8 y9
              rw [sp61 hk8 hv2, sp66 hS (by omega) (Nat.lt_of_le_of_lt (wo_le v k) hv2), (hF k hkT hkb).1, zi_add, zi_mul, zi_add, sp12 (za_1_7 hS) (by omega) (by omega) (by omega), zi_s, show ((s : Int) * 256 + v).toNat = s * 256 + v by omega]
              exact hlift _ _ _ _ _ _ (by rw [hms, Int.zero_add])
            by_cases c5 : dB M (dW M (mTurn M v)) = 5
            · have hbb : mBB M (dW M (mTurn M v)) = 1 := if_pos c5
              rw [hbb] at hk2
              rw [c5, zi_5, if_pos rfl, zi_1, sp51 hS g1 hD hlt (by omega) hsub, if_neg hne, hk2, ← zi_1]
              exact fin _ _ _ _ _
            · have hbb : mBB M (dW M (mTurn M v)) = dB M (dW M (mTurn M v)) := if_neg c5
              rw [hbb] at hk2
              rw [zi_5, zeq_f (by omega), sp51 hS g1 hD hlt hB hsub, if_neg hne, hk2]
              exact fin _ _ _ _ _
      · rw [zlt_f (by omega), zi_s]
        exact hskip (fun _ => by omega) _ _ _ _ _
    · rw [zi_0, if_neg (fun q => hsub ((bz_sub hv2 hL2).mp q)), zi_s]
      exact hskip (fun q => absurd q hsub) _ _ _ _ _
/-- lookAhead -/
theorem sp62 (hS : zs_1 S e) (hM : zMd C e M) (hD : zWD M) (hl : zMl C e M) {s : Nat} {c : Int} (hs : s < dN M) (hc : -1 ≤ c ∧ c ≤ 7) : zCd X 3 62 [.ref e, .int (zi s), .int (zi c)] S C (zQv (fun C1 => zMd C1 e M ∧ zMl C1 e M ∧ (∀ x, x < 256 → mSub x (dL M) → (mCnt x 8 : Int) ≤ c → C1.1 (e + 5) (s * 256 + x) = zi (mSt M s x)) ∧ (∀ b k, (b ≠ e + 5 ∨ k = 0 ∨ k = 256 ∨ k = 512) → b ≠ e + 6 → C1.1 b k = C.1 b k) ∧ C1.2 = C.2)) := by
  refine vc62 hS ?_
  have hn := hD.1
  have hL256 : dL M < 256 := pow_256 hD.2.2.1 hD.2.1
  obtain ⟨z0, L, hL, hL1, hL2⟩ := hl s (by omega)
  rw [sp11 (za_1_8 hS) (by omega) (by omega) (by omega), Int.toNat_natCast, hL1]
  by_cases cL : (L : Int) < c
  · obtain ⟨cn, hcn⟩ : ∃ cn : Nat, c = (cn : Int) := ⟨c.toNat, by omega⟩
    subst hcn
    refine zW_mono (lq62 (L := L) (c := cn) hS hD hs (by omega) (by omega) (dL M) 1 C _ _ _ _ _ (by omega) (by omega) hM (fun x hx hxs hd => ?_)) (fun r C1 w => ?_)
    · refine hL2 hs x hx hxs ?_
      rcases hd with hd | hd
      · exact hd
      · have hx0 : x = 0 := by omega
        rw [hx0, mCnt_z]
        exact Nat.zero_le _
    · obtain ⟨e0, w1, w2, w3, w4, w5⟩ := w
      refine ⟨e0, zMd_of hM (fun b k _ _ => w3 b k (by omega) (by omega)), fun t ht => ?_, fun x hx hxs hxc => w1 x hx hxs (by omega), fun b k hb hb6 => ?_, w5⟩
      · by_cases ct : t = s
        · subst ct
          exact ⟨by rw [w4 _ (Or.inl (Nat.le_refl _))]; exact z0, cn, by omega, w2, fun _ => w1⟩
        · obtain ⟨y0, L', hL', hL1', hL2'⟩ := hl t ht
          refine ⟨by rw [w4 _ (by omega)]; exact y0, L', hL', ?_, fun hT x hx hxs hxc => ?_⟩
          · rw [w3 _ _ (by omega) (by omega)]; exact hL1'
          · rw [w4 _ (by omega)]
            exact hL2' hT x hx hxs hxc
      · by_cases cb : b = e + 5
        · subst cb
          exact w4 k (by omega)
        · exact w3 b k cb (by omega)
  · have fin : (fun C1 => zMd C1 e M ∧ zMl C1 e M ∧ (∀ x, x < 256 → mSub x (dL M) → (mCnt x 8 : Int) ≤ c → C1.1 (e + 5) (s * 256 + x) = zi (mSt M s x)) ∧ (∀ b k, (b ≠ e + 5 ∨ k = 0 ∨ k = 256 ∨ k = 512) → b ≠ e + 6 → C1.1 b k = C.1 b k) ∧ C1.2 = C.2) (zp C (e + 6) s (zi L)) := by
      refine ⟨zMd_of hM (fun b k _ _ => zp_ne (by omega)), fun t ht => ?_, fun x hx hxs hxc => ?_, fun b k hb hb6 => zp_ne hb6, rfl⟩
      · obtain ⟨y0, L', hL', hL1', hL2'⟩ := hl t ht
        refine ⟨by rw [zp_ne (by omega)]; exact y0, L', hL', ?_, fun hT x hx hxs hxc => ?_⟩
        · by_cases ct : t = s
          · subst ct
            rw [zp_hit, ← hL1]
            exact hL1'
          · rw [zp_nf ct]; exact hL1'
        · rw [zp_ne (by omega)]
          exact hL2' hT x hx hxs hxc
      · rw [zp_ne (by omega)]
        exact hL2 hs x hx hxs (by omega)
    refine vc62_12 (a1 := 0) (a2 := 0) hS ?_
    rw [hM.2.2.2.2.1, zi_1, zi_256]
    by_cases cd : (dL M : Int) < 1
    · rw [zlt_t (by omega), zlx_f (by omega), sp12 (za_1_8 hS) (by omega) (by omega) (by omega), Int.toNat_natCast]
      exact fin
    · rw [zlt_f (by omega), zlt_t (by omega), zlt_f (by omega), zlx_f (by omega), sp12 (za_1_8 hS) (by omega) (by omega) (by omega), Int.toNat_natCast]
      exact fin
end
section
variable {X : zX} {S : zx_S} {C : zx_C} {q : Int32 → zx_C → Prop} {e : Nat} {M : zD}
/-- choose -/
theorem sp50 (hS : zs_1 S e) (hM : zMd C e M) (hD : zWD M) (hl : zMl C e M) {s m : Nat} {b : Int} (hs : s < dN M) (hb : 0 ≤ b ∧ b ≤ 5) (hm : mSub m (dL M)) : zCd X 4 50 [.ref e, .int (zi s), .int (zi b), .int (zi m)] S C (zQi (fun r C1 => r = zi (zo (mChoose M s b m)) ∧ zMd C1 e M ∧ zMl C1 e M ∧ (∀ b k, (b ≠ e + 5 ∨ k = 0 ∨ k = 256 ∨ k = 512) → b ≠ e + 6 → C1.1 b k = C.1 b k) ∧ C1.2 = C.2)) := by
  refine vc50 hS ?_
  have hn := hD.1
  have hmT : m < 2 ^ dT M := Nat.lt_of_le_of_lt (mSub_le hm) hD.2.2.1
  have hm2 := pow_256 hmT hD.2.1
  have hmc8 := mCnt_le m 8
  rw [zi_5, zeq_i (by omega)]
  by_cases c : b = 5
  · rw [if_pos c, sp44 hm2, zi_1, zi_sub]
    have hch : mChoose M s b m = mLook M s m := if_pos c
    rw [hch]
    refine zc_mV (sp62 hS hM hD hl hs (c := (mCnt m 8 : Int) - 1) (by omega)) (fun C1 h1 => ?_)
    obtain ⟨a1, a2, a3, a4, a5⟩ := h1
    have hF : ∀ k, k < dT M → m.testBit k = true → C1.1 (e + 5) (s * 256 + wo m k) = zi (mSt M s (wo m k)) ∧ 0 ≤ mSt M s (wo m k) ∧ mSt M s (wo m k) ≤ 792 := fun k hk hb => by
      have h8 := hD.2.1
      have hwc := mCnt_wo hm2 (show k < 8 by omega) hb
      exact ⟨a3 _ (Nat.lt_of_le_of_lt (wo_le m k) hm2) (mSub_t (mSub_wo hm2 (by omega)) hm) (by omega), mSt_b hD hs (Nat.lt_of_le_of_lt (wo_le m k) hmT)⟩
    rw [sp65 hS a1 hD hs hmT hF]
    exact ⟨rfl, a1, a2, a4, a5⟩
  · rw [if_neg c, sp51 hS hM hD hs hb hm]
    have hch : mChoose M s b m = mBlind M s b m := if_neg c
    rw [hch]
    exact ⟨rfl, hM, hl, fun _ _ _ _ => rfl, rfl⟩
/-- the bents by which a side would take a thing -/
def mBents (M : zD) (s k m : Nat) : Nat := mSet (fun b => decide (mChoose M s b m = some k)) 6
theorem zo_eq {o : Option Nat} {k : Nat} : (zo o = (k : Int)) = (o = some k) := by
  cases o with
  | none => simp only [zo]; refine propext ⟨fun h => by omega, fun h => by cases h⟩
  | some j => simp only [zo]; refine propext ⟨fun h => by rw [show j = k by omega], fun h => by cases h; rfl⟩
theorem zo_b {o : Option Nat} (h : ∀ k, o = some k → k < 1000) : -1 ≤ zo o ∧ zo o < 1000 := by
  cases o with
  | none => exact ⟨Int.le_refl _, by decide⟩
  | some k => have := h k rfl; simp only [zo]; omega
theorem lq140 (hS : zs_1 S e) (hD : zWD M) {s k m : Nat} (hs : s < dN M) (hk : k < 100) (hm : mSub m (dL M)) : ∀ (j i : Nat) (C0 : zx_C), i + j = 6 → zMd C0 e M → zMl C0 e M → zW X 5 140 6 [.ref e, .int (zi s), .int (zi k), .int (zi m), .int (zi (mSet (fun b => decide (mChoose M s b m = some k)) i)), .int (zi i)] [] S C0 (zQi (fun r C1 => r = zi (mBents M s k m) ∧ zMd C1 e M ∧ zMl C1 e M ∧ (∀ b k, (b ≠ e + 5 ∨ k = 0 ∨ k = 256 ∨ k = 512) → b ≠ e + 6 → C1.1 b k = C0.1 b k) ∧ C1.2 = C0.2)) := by
  have hm2 := pow_256 (Nat.lt_of_le_of_lt (mSub_le hm) hD.2.2.1) hD.2.1
  intro j
  induction j with
  | zero =>
    intro i C0 hi g1 g2
    refine vc140_6 (a1 := 0) (a2 := 0) (a3 := 0) hS ?_
    rw [zi_5, zlt_t (by omega), show i = 6 by omega]
    exact ⟨rfl, g1, g2, fun _ _ _ _ => rfl, rfl⟩
  | succ j ih =>
    intro i C0 hi g1 g2
    refine vc140_6 (a1 := 0) (a2 := 0) (a3 := 0) hS ?_
    rw [zi_5, zlt_f (by omega)]
    refine zc_mI (sp50 hS g1 hD g2 hs (by omega) hm) (fun r C1 h1 => ?_)
    obtain ⟨hr, a1, a2, a3, a4⟩ := h1
    have hzb := zo_b (o := mChoose M s i m) (fun k h => by have := mChoose_in hm2 h; omega)
    rw [hr, zeq_i (by omega), zi_s, bz_or (by omega) (mSet_lt _ _)]
    have ih2 := ih (i + 1) C1 (by omega) a1 a2
    simp only [mSet] at ih2
    have fin : ∀ (r : Int32) (C2 : zx_C), (r = zi (mBents M s k m) ∧ zMd C2 e M ∧ zMl C2 e M ∧ (∀ b k, (b ≠ e + 5 ∨ k = 0 ∨ k = 256 ∨ k = 512) → b ≠ e + 6 → C2.1 b k = C1.1 b k) ∧ C2.2 = C1.2) → (r = zi (mBents M s k m) ∧ zMd C2 e M ∧ zMl C2 e M ∧ (∀ b k, (b ≠ e + 5 ∨ k = 0 ∨ k = 256 ∨ k = 512) → b ≠ e + 6 → C2.1 b k = C0.1 b k) ∧ C2.2 = C0.2) := fun r C2 w => ⟨w.1, w.2.1, w.2.2.1, fun b k h5 h6 => (w.2.2.2.1 b k h5 h6).trans (a3 b k h5 h6), w.2.2.2.2.trans a4⟩
    by_cases c : mChoose M s i m = some k
    · rw [if_pos (decide_eq_true c)] at ih2
      rw [if_pos (by rw [zo_eq]; exact c)]
      exact zW_mono ih2 (fun v C2 w => by obtain ⟨x, e1, e2⟩ := w; exact ⟨x, e1, fin _ _ e2⟩)
    · rw [if_neg (by simp only [decide_eq_true_eq]; exact c), Nat.add_zero] at ih2
      rw [if_neg (by rw [zo_eq]; exact c)]
      exact zW_mono ih2 (fun v C2 w => by obtain ⟨x, e1, e2⟩ := w; exact ⟨x, e1, fin _ _ e2⟩)
/-- bentsTaking -/
theorem sp140 (hS : zs_1 S e) (hM : zMd C e M) (hD : zWD M) (hl : zMl C e M) {s k m : Nat} (hs : s < dN M) (hk : k < 100) (hm : mSub m (dL M)) : zCd X 5 140 [.ref e, .int (zi s), .int (zi k), .int (zi m)] S C (zQi (fun r C1 => r = zi (mBents M s k m) ∧ zMd C1 e M ∧ zMl C1 e M ∧ (∀ b k, (b ≠ e + 5 ∨ k = 0 ∨ k = 256 ∨ k = 512) → b ≠ e + 6 → C1.1 b k = C.1 b k) ∧ C1.2 = C.2)) :=
  vc140 hS (lq140 hS hD hs hk hm 6 0 C (by omega) hM hl)
end
/-- the first turn is told -/
def dFirst (M : zD) (s : Nat) : zD := (M.1, dU M, dB M, (fun i => if i = 0 then s else dW M i))
/-- at the first turn it doesn't matter whose it is -/
theorem mChoose_first {M : zD} (hD : zWD M) {s x : Nat} {b : Int} : mChoose M s b (dL M) = mChoose (dFirst M x) s b (dL M) :=
  mChoose_c (W' := fun i => if i = 0 then x else dW M i) (t0 := 1) hD (fun j h1 _ => (if_neg (by omega)).symm) (mSub_r _) (by omega)
section
variable {X : zX} {S : zx_S} {C : zx_C} {q : zx_C → Prop} {e : Nat} {M : zD}
/-- expectNothing -/
theorem sp49 (hS : zs_1 S e) : zCd X 2 49 [.ref e] S C (zQv (fun C1 => C1.1 e 4 = zi 0 ∧ (∀ s, s < 3 → C1.1 (e + 6) s = zi 0) ∧ (∀ b k, b ≠ e + 6 → ¬ (b = e ∧ k = 4) → C1.1 b k = C.1 b k) ∧ C1.2 = C.2)) := by
  refine vc49 hS ?_
  refine zc_mV (sp48 hS) (fun C1 h1 => ⟨?_, h1.1, fun b k hb hk => ?_, h1.2.2⟩)
  · rw [h1.2.1 _ _ (by omega), zp_hit]; rfl
  · rw [h1.2.1 _ _ hb, zp_miss _ _ _ _ (by omega)]
theorem lq132a (hS : zs_1 S e) {a n : Nat} (ha : a < 900000 ∧ S.1 a = (10, 8)) (hn : n ≤ 8) (K : ∀ sh : Nat, sh ≤ n → (sh = 0 ∨ C.1 e 4 = zi n) → (∀ t, t < sh → C.1 a (n - 1 - t) = C.1 (e + 4) (n - 1 - t)) → zW X 1 132 48 [.ref e, .ref a, .int (zi n), .int (zi sh), .int 0] [] S C (zQv q)) : ∀ (j i : Nat) (z4 : Value), i + j = n → (i = 0 ∨ C.1 e 4 = zi n) → (∀ t, t < i → C.1 a (n - 1 - t) = C.1 (e + 4) (n - 1 - t)) → zW X 1 132 2 [.ref e, .ref a, .int (zi n), .int (zi i), z4] [] S C (zQv q) := by
  intro j
  induction j with
  | zero =>
    intro i z4 hi g1 g2
    refine vc132_2 (a2 := 0) hS ha ?_
    rw [zlt_f (by omega)]
    exact K i (by omega) g1 g2
  | succ j ih =>
    intro i z4 hi g1 g2
    refine vc132_2 (a2 := 0) hS ha ?_
    rw [zlt_t (by omega)]
    by_cases c : C.1 e 4 = zi n
    · rw [if_pos c, zi_s, zi_1, zi_sub, zi_sub, sp11 ha (by omega) (by omega) (by omega), sp11 (za_1_3 hS) (by omega) (by omega) (by omega), show ((n : Int) - 1 - i).toNat = n - 1 - i by omega]
      by_cases c2 : C.1 a (n - 1 - i) = C.1 (e + 4) (n - 1 - i)
      · rw [if_pos c2]
        refine ih (i + 1) z4 (by omega) (Or.inr c) (fun t ht => ?_)
        by_cases c3 : t = i
        · rw [c3]; exact c2
        · exact g2 t (by omega)
      · rw [if_neg c2]
        exact K i (by omega) g1 g2
    · rw [if_neg c]
      exact K i (by omega) g1 g2
theorem lq132b (hS : zs_1 S e) {a n sh : Nat} (ha : a < 900000 ∧ S.1 a = (10, 8)) (hd : a < e ∨ e + 7 ≤ a) : ∀ (j i : Nat) (C0 : zx_C), i + j = 3 → (∀ s, s < i → C0.1 (e + 6) s = if C.1 (e + 6) s < zi sh then C.1 (e + 6) s else zi sh) → (∀ s, i ≤ s → C0.1 (e + 6) s = C.1 (e + 6) s) → (∀ b k, b ≠ e + 6 → C0.1 b k = C.1 b k) → C0.2 = C.2 → zW X 1 132 48 [.ref e, .ref a, .int (zi n), .int (zi sh), .int (zi i)] [] S C0 (zQv (fun C1 => (∀ i, i < 8 → C1.1 (e + 4) i = C.1 a i) ∧ C1.1 e 4 = zi n ∧ (∀ s, s < 3 → C1.1 (e + 6) s = if C.1 (e + 6) s < zi sh then C.1 (e + 6) s else zi sh) ∧ (∀ b k, b ≠ e + 4 → b ≠ e + 6 → ¬ (b = e ∧ k = 4) → C1.1 b k = C.1 b k) ∧ C1.2 = C.2)) := by
  intro j
  induction j with
  | zero =>
    intro i C0 hi g1 g2 g3 g4
    refine vc132_48 (a2 := 0) hS ha ?_
    rw [zi_3, zlt_f (by omega)]
    refine zc_mV (sp39 ha (za_1_3 hS) (by omega) (by omega) (by omega)) (fun C1 h1 => ⟨fun i hi => ?_, zp_hit _ _ _ _, fun s hs => ?_, fun b k hb hb2 hk => ?_, h1.2.2.trans g4⟩)
    · rw [zp_ne (by omega), h1.1 i hi (by omega)]; exact g3 _ _ (by omega)
    · rw [zp_ne (by omega), h1.2.1 _ _ (by omega)]; exact g1 s (by omega)
    · rw [zp_miss _ _ _ _ (by omega), h1.2.1 _ _ hb]; exact g3 _ _ hb2
  | succ j ih =>
    intro i C0 hi g1 g2 g3 g4
    refine vc132_48 (a2 := 0) hS ha ?_
    rw [zi_3, zlt_t (by omega), sp11 (za_1_8 hS) (by omega) (by omega) (by omega), sp12 (za_1_8 hS) (by omega) (by omega) (by omega), zi_s, Int.toNat_natCast, g2 i (Nat.le_refl i)]
    refine ih (i + 1) _ (by omega) (fun s hs => ?_) (fun s hs => ?_) (fun b k hb => by rw [zp_ne hb, g3 b k hb]) g4
    · by_cases c : s = i
      · subst c; rw [zp_hit]
      · rw [zp_nf c]; exact g1 s (by omega)
    · rw [zp_nf (by omega)]; exact g2 s (by omega)
/-- expectRow -/
theorem sp132 (hS : zs_1 S e) {a n : Nat} (ha : a < 900000 ∧ S.1 a = (10, 8)) (hd : a < e ∨ e + 7 ≤ a) (hn : n ≤ 8) : zCd X 1 132 [.ref e, .ref a, .int (zi n)] S C (zQv (fun C1 => ∃ sh : Nat, sh ≤ n ∧ (sh = 0 ∨ C.1 e 4 = zi n) ∧ (∀ t, t < sh → C.1 a (n - 1 - t) = C.1 (e + 4) (n - 1 - t)) ∧ (∀ i, i < 8 → C1.1 (e + 4) i = C.1 a i) ∧ C1.1 e 4 = zi n ∧ (∀ s, s < 3 → C1.1 (e + 6) s = if C.1 (e + 6) s < zi sh then C.1 (e + 6) s else zi sh) ∧ (∀ b k, b ≠ e + 4 → b ≠ e + 6 → ¬ (b = e ∧ k = 4) → C1.1 b k = C.1 b k) ∧ C1.2 = C.2)) := by
  refine vc132 hS ha ?_
  refine lq132a hS ha hn (fun sh h1 h2 h3 => ?_) n 0 _ (Nat.zero_add _) (Or.inl rfl) (fun t ht => absurd ht (Nat.not_lt_zero t))
  exact zW_mono (lq132b (C := C) (sh := sh) hS ha hd 3 0 C (by omega) (fun s hs => absurd hs (Nat.not_lt_zero s)) (fun _ _ => rfl) (fun _ _ _ => rfl) rfl) (fun r C1 w => ⟨w.1, sh, h1, h2, h3, w.2⟩)
/-- what was found for the end that two rows share holds on -/
theorem zMl_sh {C1 : zx_C} {W' : Nat → Nat} {sh : Nat} (hD : zWD M) (hC : dC M = mCnt (dL M) 8) (hl : zMl C e M) (heq : ∀ t, t < sh → dW M (dC M - 1 - t) = W' (dC M - 1 - t)) (hsh : sh ≤ dC M) (h5 : ∀ k, C1.1 (e + 5) k = C.1 (e + 5) k) (h6 : ∀ s, s < 3 → C1.1 (e + 6) s = if C.1 (e + 6) s < zi sh then C.1 (e + 6) s else zi sh) : zMl C1 e (dTo M W') := by
  have h8 := mCnt_le (dL M) 8
  intro s hs
  obtain ⟨z0, L, hL, hL1, hL2⟩ := hl s hs
  refine ⟨by rw [h5]; exact z0, min sh L, by omega, ?_, fun hn x hx hxs hxc => ?_⟩
  · rw [h6 s hs, hL1, zmin_i (by omega), show (if (L : Int) < (sh : Int) then (L : Int) else (sh : Int)) = ((min sh L : Nat) : Int) by split <;> omega]
  · rw [h5, hL2 hn x hx hxs (by omega)]
    rw [mSt_c (W' := W') (t0 := dC M - sh) hD (fun j h1 h2 => ?_) hxs (fun h0 => ?_)]
    · have h3 := heq (dC M - 1 - j) (by omega)
      rwa [show dC M - 1 - (dC M - 1 - j) = j by omega] at h3
    · have h4 := mCnt_p hx h0
      unfold mTurn
      omega
end
