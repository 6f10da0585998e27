/-! WHAT THE MODEL THINKS: whose turn it is now, a run -/
def zFM (C C1 : zx_C) (e : Nat) : Prop := (∀ b k, ¬ (b = e ∧ 29 ≤ k) → (b < e + 31 ∨ e + 295 ≤ b) → C1.1 b k = C.1 b k) ∧ C1.2 = C.2
theorem zFM_r (C : zx_C) (e : Nat) : zFM C C e := ⟨fun _ _ _ _ => rfl, rfl⟩
theorem zFM_t {C C1 C2 : zx_C} {e : Nat} (h1 : zFM C C1 e) (h2 : zFM C1 C2 e) : zFM C C2 e := ⟨fun b k g1 g2 => (h2.1 b k g1 g2).trans (h1.1 b k g1 g2), h2.2.trans h1.2⟩
theorem zME_of {C C1 : zx_C} {e : Nat} {E : zT} (hW : zWF E) (h : zME C e E) (h1 : ∀ b k, ¬ (b = e ∧ 29 ≤ k) → e ≤ b → b < e + 30 → C1.1 b k = C.1 b k) : zME C1 e E := by
  have hT := hW.2.1
  obtain ⟨v1, v2, v3, v4, v5, v6, v7, v8, v9, v10⟩ := h
  refine ⟨?_, ?_, ?_, ?_, ?_, ?_, fun i hi => ?_, fun s hs => ?_, fun k hk => ?_, fun s k hs hk => ?_⟩
  · rw [h1 _ _ (by omega) (by omega) (by omega)]; exact v1
  · rw [h1 _ _ (by omega) (by omega) (by omega)]; exact v2
  · rw [h1 _ _ (by omega) (by omega) (by omega)]; exact v3
  · rw [h1 _ _ (by omega) (by omega) (by omega)]; exact v4
  · rw [h1 _ _ (by omega) (by omega) (by omega)]; exact v5
  · rw [h1 _ _ (by omega) (by omega) (by omega)]; exact v6
  · rw [h1 _ _ (by omega) (by omega) (by omega)]; exact v7 i hi
  · rw [h1 _ _ (by omega) (by omega) (by omega)]; exact v8 s hs
  · rw [h1 _ _ (by omega) (by omega) (by omega)]; exact v9 k hk
  · rw [h1 _ _ (by omega) (by omega) (by omega)]; exact v10 s k hs hk
theorem zFM_E {C C1 : zx_C} {e : Nat} {E : zT} (hW : zWF E) (h1 : zFM C C1 e) (h : zME C e E) : zME C1 e E := zME_of hW h (fun b k h2 h3 h4 => h1.1 b k h2 (by omega))
/-- by what the turns are known: by a law, or told -/
def zWN (C : zx_C) (e : Nat) (E : zT) (V : Nat) (M : zD) : Prop := (∃ l : Nat, l ≤ 3 ∧ C.1 e 29 = zi l ∧ dC M = 32 ∧ ∀ i, dW M i = (mAt E l (V + i)).toNat) ∨ (C.1 e 29 = zi (-1) ∧ C.1 e 32 = zi V ∧ C.1 e 31 = zi (dC M) ∧ dC M ≤ 8 ∧ ∀ i, i < dC M → C.1 (e + 31) i = zi (dW M i))
theorem zWN_of {C C1 : zx_C} {e V : Nat} {E : zT} {M : zD} (h : zWN C e E V M) (h1 : ∀ k, k < 36 → C1.1 e k = C.1 e k) (h2 : ∀ k, C1.1 (e + 31) k = C.1 (e + 31) k) : zWN C1 e E V M := by
  rcases h with ⟨l, g1, g2, g3⟩ | ⟨g1, g2, g3, g4, g5⟩
  · exact Or.inl ⟨l, g1, by rw [h1 _ (by omega)]; exact g2, g3⟩
  · exact Or.inr ⟨by rw [h1 _ (by omega)]; exact g1, by rw [h1 _ (by omega)]; exact g2, by rw [h1 _ (by omega)]; exact g3, g4, fun i hi => by rw [h2]; exact g5 i hi⟩
/-- the worths in somebody's eyes -/
def mEye (E : zT) (sh : Int) (w : Nat → Int) (y s k : Nat) : Int := if (s : Int) = sh ∧ y ≠ s then w k else eu E s k
def dEye (E : zT) (M : zD) (sh : Int) (w : Nat → Int) (y : Nat) : zD := (M.1, mEye E sh w y, M.2.2)
section
variable {X : zX} {S : zx_S} {C : zx_C} {q : Int32 → zx_C → Prop} {e V : Nat} {E : zT} {M : zD}
/-- whoseNow -/
theorem sp177 (hS : zs_5 S e) (hE : zME C e E) (hW : zWF E) (hN : zWN C e E V M) (hV : V ≤ 1000000000) {j : Nat} (hj : j < 32) : zCd X 1 177 [.ref e, .int (zi ((V + j : Nat) : Int))] S C (zQi q) = q (zi (if j < dC M then (dW M j : Int) else -1)) C := by
  refine zc_eI (fun q h => vc177 hS ?_) q
  rcases hN with ⟨l, g1, g2, g3, g4⟩ | ⟨g1, g2, g3, g4, g5⟩
  · have hb := mAt_b hW l (V + j)
    rw [if_pos (by omega), g4, Int.toNat_of_nonneg hb.1] at h
    rw [g2, zi_0, zlt_f (by omega), sp178 hS hE hW g1 (by omega)]
    exact h
  · rw [g1, zi_0, zlt_t (by omega), g2, g3, zi_sub, zi_1, zi_sub, zl_zi (by omega), zl_zi (by omega), sp159, zl_toInt (by omega), zl_toInt (by omega), show (0 : Int64).toInt = 0 from rfl]
    by_cases c : j < dC M
    · rw [if_pos c] at h
      rw [← zi_0, zb_t (by omega), g2, zi_sub]
      refine ⟨zi_in (by omega) (by omega) (by omega), ?_⟩
      rw [zi_ix (by omega) (by omega), show (((V + j : Nat) : Int) - (V : Int)).toNat = j by omega, g5 j c]
      exact h
    · rw [if_neg c] at h
      rw [← zi_0, zb_f (by omega), ← zi_1, zi_m1]
      exact h
/-- seenBy -/
theorem sp181 (hS : zs_5 S e) (hE : zME C e E) (hW : zWF E) {sh : Int} {w : Nat → Int} (h1 : -1 ≤ sh ∧ sh < 3) (h33 : C.1 e 33 = zi sh) (hw : 0 ≤ sh → ∀ k, k < eT E → C.1 (e + 32) k = zi (w k)) {y s k : Nat} (hy : y < 3) (hs : s < eN E) (hk : k < eT E) : zCd X 0 181 [.ref e, .int (zi y), .int (zi s), .int (zi k)] S C (zQi q) = q (zi (mEye E sh w y s k)) C := by
  refine zc_eI (fun q h => vc181 hS ?_) q
  have hn := hW.1
  have hT := hW.2.1
  rw [h33, zeq_i (by omega), zeq_i (by omega)]
  have hv : vp_in (zi k) 8 := zi_in (by omega) (by omega) (by omega)
  have hv2 : vp_in (zi s) 3 := zi_in (by omega) (by omega) (by omega)
  unfold mEye at h
  by_cases c : (s : Int) = sh
  · rw [if_pos c]
    by_cases c2 : (y : Int) = (s : Int)
    · rw [if_neg (by omega)] at h
      rw [if_pos c2, zi_ix (by omega) (by omega), zi_ix (by omega) (by omega), Int.toNat_natCast, Int.toNat_natCast, hE.2.2.2.2.2.2.2.2.2 s k hs hk]
      exact ⟨hv, hv2, h⟩
    · rw [if_pos (by omega)] at h
      rw [if_neg c2, zi_ix (by omega) (by omega), Int.toNat_natCast, hw (by omega) k hk]
      exact ⟨hv, h⟩
  · rw [if_neg (by omega)] at h
    rw [if_neg c, zi_ix (by omega) (by omega), zi_ix (by omega) (by omega), Int.toNat_natCast, Int.toNat_natCast, hE.2.2.2.2.2.2.2.2.2 s k hs hk]
    exact ⟨hv, hv2, h⟩
theorem zTN_of (hS : zs_5 S e) (hE : zME C e E) (hW : zWF E) (hN : zWN C e E V M) (hV : V ≤ 1000000000) {sh : Int} {w : Nat → Int} (h1 : -1 ≤ sh ∧ sh < 3) (h33 : C.1 e 33 = zi sh) (hw : 0 ≤ sh → ∀ k, k < eT E → C.1 (e + 32) k = zi (w k)) (hn : dN M = eN E) (hT : dT M = eT E) (hB : dB M = eb E) {y : Nat} (hy : y < eN E) : zTN X S C e V (dEye E M sh w y) 0 y := by
  have hn2 := hW.1
  refine ⟨?_, fun s hs => ?_, fun s k hs hk q => ?_, fun k hk => ?_, fun j _ hj q => sp177 hS hE hW hN hV hj⟩
  · show _ = zi (dT M)
    rw [hT]; exact hE.2.1
  · show _ = zi (dB M s)
    rw [hB]; exact hE.2.2.2.2.2.2.2.1 s hs
  · have hs2 : s < dN M := hs
    have hk2 : k < dT M := hk
    exact sp181 hS hE hW h1 h33 hw (by omega) (by omega) (by omega)
  · have hk2 : k < dT M := hk
    show _ = zi (mEye E sh w y y k)
    unfold mEye
    rw [if_neg (by omega)]
    exact hE.2.2.2.2.2.2.2.2.2 y k hy (by omega)
theorem zWD_eye {sh : Int} {w : Nat → Int} (hW : zWF E) (hD : zWD M) (hn : dN M = eN E) (hT : dT M = eT E) (hw : 0 ≤ sh → ∀ k, k < eT E → 0 ≤ w k ∧ w k ≤ 99) (y : Nat) : zWD (dEye E M sh w y) := by
  refine ⟨hD.1, hD.2.1, hD.2.2.1, hD.2.2.2.1, hD.2.2.2.2.1, hD.2.2.2.2.2.1, fun s k hs hk => ?_⟩
  have hs2 : s < dN M := hs
  have hk2 : k < dT M := hk
  show 0 ≤ mEye E sh w y s k ∧ mEye E sh w y s k ≤ 99
  unfold mEye
  by_cases c : (s : Int) = sh ∧ y ≠ s
  · rw [if_pos c]; exact hw (by omega) k (by omega)
  · rw [if_neg c]; exact hW.2.2.2.2.2.2.2.2 s k (by omega) (by omega)
end
/-- what the sides choose, each by what it sees -/
def mCm (E : zT) (M : zD) (sh : Int) (w : Nat → Int) (s m : Nat) : Option Nat := mChoose (dEye E M sh w s) s (dB M s) m
theorem mCm_some {E : zT} {M : zD} {sh : Int} {w : Nat → Int} {s m : Nat} (hm : m < 256) (h0 : m ≠ 0) : ∃ k, mCm E M sh w s m = some k ∧ k < 8 ∧ m.testBit k = true := mChoose_some hm h0
def zRm (C : zx_C) (e : Nat) (ch : Nat → Nat → Option Nat) (M : zD) (G : Nat → Int) : Prop := (∀ i, i < mCnt (dL M) 8 → C.1 (e + 33) i = zi (zo (mTak ch M i))) ∧ C.1 e 36 = zi (mCnt (dL M) 8) ∧ ∀ s, s < dN M → C.1 (e + 34) s = zi (mEnd ch M G s (mCnt (dL M) 8))
section
variable {X : zX} {S : zx_S} {C : zx_C} {q : zx_C → Prop} {e V : Nat} {E : zT} {M : zD}
theorem lq224a (hS : zs_5 S e) (hW : zWF E) (hD : zWD M) (hV : eV E = V) {sh : Int} {w : Nat → Int} (h1 : -1 ≤ sh ∧ sh < 3) (hw99 : 0 ≤ sh → ∀ k, k < eT E → 0 ≤ w k ∧ w k ≤ 99) (hn : dN M = eN E) (hT : dT M = eT E) (hB : dB M = eb E) (hU : dU M = eu E) (G : Nat → Int) : ∀ (j i : Nat) (C0 : zx_C) (z2 z3 : Value), i + j = mCnt (dL M) 8 → zME C0 e E → zWN C0 e E V M → C0.1 e 33 = zi sh → (0 ≤ sh → ∀ k, k < eT E → C0.1 (e + 32) k = zi (w k)) → (∀ t, t < i → C0.1 (e + 33) t = zi (zo (mTak (mCm E M sh w) M t))) → C0.1 e 36 = zi i → (∀ s, s < dN M → C0.1 (e + 34) s = zi (mEnd (mCm E M sh w) M G s i)) → zW X 33 224 42 [.ref e, .int (zi (mRun (mCm E M sh w) M i)), z2, z3] [] S C0 (zQv (fun C1 => zRm C1 e (mCm E M sh w) M G ∧ (∀ b k, ¬ (b = e ∧ k = 36) → b ≠ e + 33 → b ≠ e + 34 → C1.1 b k = C0.1 b k) ∧ C1.2 = C0.2)) := by
  have hch : ∀ s m, m < 256 → m ≠ 0 → ∃ k, mCm E M sh w s m = some k ∧ k < 8 ∧ m.testBit k = true := fun s m hm h0 => mCm_some hm h0
  have hn2 := hD.1
  have hT2 := hD.2.1
  have hc8 := mCnt_le (dL M) 8
  have hC := hD.2.2.2.1
  have hV9 := hW.2.2.2.1
  intro j
  induction j with
  | zero =>
    intro i C0 z2 z3 hi g0 g1 g2 g3 g4 g5 g6
    refine vc224_42 hS ?_
    have hr := mRun_ok hD hch i (by omega)
    have hrT : mRun (mCm E M sh w) M i < 2 ^ dT M := Nat.lt_of_le_of_lt (mSub_le hr.1) hD.2.2.1
    have hz := mCnt_e (pow_256 hrT hT2) (by omega)
    rw [hz, zi_0, show zi ((0 : Nat) : Int) = zi 0 from rfl, if_pos rfl]
    have hi2 : mCnt (dL M) 8 = i := by omega
    exact ⟨⟨fun t ht => g4 t (by omega), by rw [hi2]; exact g5, fun s hs => by rw [hi2]; exact g6 s hs⟩, fun _ _ _ _ _ => rfl, rfl⟩
  | succ j ih =>
    intro i C0 z2 z3 hi g0 g1 g2 g3 g4 g5 g6
    refine vc224_42 hS ?_
    have hr := mRun_ok hD hch i (by omega)
    have hrT : mRun (mCm E M sh w) M i < 2 ^ dT M := Nat.lt_of_le_of_lt (mSub_le hr.1) hD.2.2.1
    have hr2 := pow_256 hrT hT2
    have hz : mRun (mCm E M sh w) M i ≠ 0 := fun q => by rw [q, mCnt_z] at hr; omega
    obtain ⟨k, hk, hkT, hkb, hnext⟩ := mTak_ok hD hch (i := i) (by omega)
    have ht : mTurn M (mRun (mCm E M sh w) M i) = i := by unfold mTurn; omega
    have hwn := hD.2.2.2.2.1 i (by omega)
    have hBb := hD.2.2.2.2.2.1 (dW M i) (by omega)
    have hv3 : vp_in (zi ((dW M i : Nat) : Int)) 3 := zi_in (by omega) (by omega) (by omega)
    have hvk : vp_in (zi (k : Int)) 8 := zi_in (by omega) (by omega) (by omega)
    have hTN := zTN_of (X := X) hS g0 hW g1 (by omega) h1 g2 g3 hn hT hB (y := dW M i) (by omega)
    have hDe := zWD_eye (sh := sh) (w := w) hW hD hn hT hw99 (dW M i)
    have hcl := fun q => sp173c (X := X) (S := S) (C := C0) (q := q) hS hTN hDe (m := mRun (mCm E M sh w) M i) (b := dB M (dW M i)) hwn hBb hr.1 (by omega)
    have htk : mChoose (dEye E M sh w (dW M i)) (dW M i) (dB M (dW M i)) (mRun (mCm E M sh w) M i) = some k := hk
    have ht2 : mTurn (dEye E M sh w (dW M i)) (mRun (mCm E M sh w) M i) = i := ht
    rw [ht2, htk] at hcl
    have hb29 : C0.1 (e + 29) (dW M i) = zi (dB M (dW M i)) := by rw [hB]; exact g0.2.2.2.2.2.2.2.1 _ (by omega)
    rw [zi_0, zeq_f (by omega), g0.2.2.2.1, hV, g5, zi_add, show ((V : Int) + (i : Int)) = ((V + i : Nat) : Int) by omega, sp177 hS g0 hW g1 (by omega) (by omega), if_pos (by omega)]
    refine ⟨hv3, ?_⟩
    rw [zi_ix (by omega) (by omega), Int.toNat_natCast, hb29, g0.2.2.2.1, hV, g5, zi_add, show ((V : Int) + (i : Int)) = ((V + i : Nat) : Int) by omega, hcl, zo_s, g5]
    refine ⟨zi_in (by omega) (by omega) (by omega), hv3, hvk, hv3, hv3, ?_⟩
    rw [bz_wo (by omega) hr2, ← hnext, zi_s, zi_ix (by omega) (by omega), zi_ix (by omega) (by omega), Int.toNat_natCast, Int.toNat_natCast]
    have hgain : (zp (zp C0 e 36 (zi ((i + 1 : Nat) : Int))) (e + 33) i (zi k)).1 (e + 34) (dW M i) = zi (mEnd (mCm E M sh w) M G (dW M i) i) := by
      rw [zp_ne (by omega), zp_ne (by omega)]; exact g6 _ hwn
    have hworth : (zp (zp C0 e 36 (zi ((i + 1 : Nat) : Int))) (e + 33) i (zi k)).1 (e + 19 + k) (dW M i) = zi (dU M (dW M i) k) := by
      rw [zp_ne (by omega), zp_ne (by omega), hU]; exact g0.2.2.2.2.2.2.2.2.2 _ k (by omega) (by omega)
    rw [hgain, hworth, zi_add]
    refine zW_mono (ih (i + 1) _ _ _ (by omega) (zME_of hW g0 (fun b k hb h2 h3 => ?_)) (zWN_of g1 (fun k hk => ?_) (fun k => ?_)) ?_ (fun hs k hk => ?_) (fun t ht => ?_) ?_ (fun s hs => ?_)) (fun r C1 w2 => ⟨w2.1, w2.2.1, fun b k hb h2 h3 => ?_, w2.2.2.2⟩)
    · rw [zp_ne (by omega), zp_ne (by omega), zp_miss _ _ _ _ (by omega)]
    · rw [zp_ne (by omega), zp_ne (by omega), zp_nf (by omega)]
    · rw [zp_ne (by omega), zp_ne (by omega), zp_ne (by omega)]
    · rw [zp_ne (by omega), zp_ne (by omega), zp_nf (by omega)]; exact g2
    · rw [zp_ne (by omega), zp_ne (by omega), zp_ne (by omega)]; exact g3 hs k hk
    · rw [zp_ne (by omega)]
      by_cases c : t = i
      · subst c
        rw [zp_hit, hk, zo_s]
      · rw [zp_nf c, zp_ne (by omega)]
        exact g4 t (by omega)
    · rw [zp_ne (by omega), zp_ne (by omega), zp_hit]
    · have he : mEnd (mCm E M sh w) M G s (i + 1) = mEnd (mCm E M sh w) M G s i + mWon (mCm E M sh w) M s i := by
        unfold mEnd
        simp only [zsum]
        omega
      have hwon : mWon (mCm E M sh w) M s i = if dW M i = s then dU M s k else 0 := by
        unfold mWon
        rw [hk]
      rw [he, hwon]
      by_cases c : dW M i = s
      · rw [if_pos c, ← c, zp_hit]
      · rw [if_neg c, zp_nf (by omega), zp_ne (by omega), zp_ne (by omega), g6 s hs, Int.add_zero]
    · rw [w2.2.2.1 b k hb h2 h3, zp_ne h3, zp_ne h2, zp_miss _ _ _ _ (by omega)]
theorem lq224b (hS : zs_5 S e) (hW : zWF E) (z2 z3 : Value) : ∀ (j i : Nat) (C0 : zx_C), i + j = eN E → zME C0 e E → (∀ s, s < i → C0.1 (e + 34) s = zi (mHas E s)) → (∀ C1 : zx_C, zME C1 e E → (∀ s, s < eN E → C1.1 (e + 34) s = zi (mHas E s)) → (∀ b k, b ≠ e + 34 → C1.1 b k = C0.1 b k) → C1.2 = C0.2 → zW X 33 224 42 [.ref e, .int (zi (mOwn E (-1))), z2, z3] [] S (zp C1 e 36 0) (zQv q)) → zW X 33 224 2 [.ref e, .int (zi i), z2, z3] [] S C0 (zQv q) := by
  have hn := hW.1
  intro j
  induction j with
  | zero =>
    intro i C0 hi g0 g1 K
    refine vc224_2 hS ?_
    rw [g0.1, zlt_f (by omega), sp172 hS (zME_of hW g0 (fun b k hb h2 h3 => zp_miss _ _ _ _ (by omega))) hW]
    exact K C0 g0 (fun s hs => g1 s (by omega)) (fun _ _ _ => rfl) rfl
  | succ j ih =>
    intro i C0 hi g0 g1 K
    refine vc224_2 hS ?_
    rw [g0.1, zlt_t (by omega), sp215 hS g0 hW (by omega), sp216 hS g0 hW (by omega) (mOwn_lt hW _), mWorth_has, zi_s]
    refine ⟨zi_in (by omega) (by omega) (by omega), ?_⟩
    rw [zi_ix (by omega) (by omega), Int.toNat_natCast]
    refine ih (i + 1) _ (by omega) (zME_of hW g0 (fun b k hb h2 h3 => zp_ne (by omega))) (fun s hs => ?_) (fun C1 b1 b2 b3 b4 => K C1 b1 b2 (fun b k hb => by rw [b3 b k hb, zp_ne hb]) b4)
    by_cases c : s = i
    · subst c
      rw [zp_hit]
    · rw [zp_nf c]
      exact g1 s (by omega)
/-- goesRun -/
theorem sp224 (hS : zs_5 S e) (hE : zME C e E) (hW : zWF E) (hD : zWD M) (hN : zWN C e E (eV E) M) {sh : Int} {w : Nat → Int} (h1 : -1 ≤ sh ∧ sh < 3) (h33 : C.1 e 33 = zi sh) (hw : 0 ≤ sh → ∀ k, k < eT E → C.1 (e + 32) k = zi (w k)) (hw99 : 0 ≤ sh → ∀ k, k < eT E → 0 ≤ w k ∧ w k ≤ 99) (hn : dN M = eN E) (hT : dT M = eT E) (hL : dL M = mOwn E (-1)) (hB : dB M = eb E) (hU : dU M = eu E) : zCd X 33 224 [.ref e] S C (zQv (fun C1 => zRm C1 e (mCm E M sh w) M (mHas E) ∧ (∀ b k, ¬ (b = e ∧ k = 36) → b ≠ e + 33 → b ≠ e + 34 → C1.1 b k = C.1 b k) ∧ C1.2 = C.2)) := by
  refine vc224 hS ?_
  refine lq224b hS hW _ _ (eN E) 0 C (by omega) hE (fun s hs => absurd hs (Nat.not_lt_zero s)) (fun C1 b1 b2 b3 b4 => ?_)
  rw [← hL]
  refine zW_mono (lq224a hS hW hD rfl h1 hw99 hn hT hB hU (mHas E) (mCnt (dL M) 8) 0 _ _ _ (by omega) (zME_of hW b1 (fun b k hb h2 h3 => zp_miss _ _ _ _ (by omega))) (zWN_of hN (fun k hk => ?_) (fun k => ?_)) ?_ (fun hs k hk => ?_) (fun t ht => absurd ht (Nat.not_lt_zero t)) (zp_hit _ _ _ _) (fun s hs => ?_)) (fun r C2 w2 => ⟨w2.1, w2.2.1, fun b k hb h2 h3 => ?_, ?_⟩)
  · rw [zp_nf (by omega), b3 _ _ (by omega)]
  · rw [zp_ne (by omega), b3 _ _ (by omega)]
  · rw [zp_nf (by omega), b3 _ _ (by omega)]; exact h33
  · rw [zp_ne (by omega), b3 _ _ (by omega)]; exact hw hs k hk
  · rw [zp_ne (by omega), b2 s (by omega)]
    show zi (mHas E s) = zi (mHas E s + 0)
    rw [Int.add_zero]
  · rw [w2.2.2.1 b k hb h2 h3, zp_miss _ _ _ _ (by omega), b3 _ _ h3]
  · rw [w2.2.2.2]
    exact b4
end
