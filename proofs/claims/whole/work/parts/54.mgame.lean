/-! WHAT THE MODEL THINKS: how unequal, a run by a law, the game -/
theorem mCm_law {E : zT} {M : zD} {w : Nat → Int} (hU : dU M = eu E) {a : Int} : mCm E M (-1) w = mCh M M a := by
  funext s m
  have h1 : dEye E M (-1) w s = M := by
    unfold dEye
    have : mEye E (-1) w s = dU M := by
      funext x k
      rw [hU]
      exact if_neg (by omega)
    rw [this]
  unfold mCm mCh
  rw [h1]
  split <;> rfl
section
variable {X : zX} {S : zx_S} {C : zx_C} {q : Int32 → zx_C → Prop} {e : Nat} {E : zT}
theorem lq227 (hS : zs_5 S e) {n : Nat} {F : Nat → Int} (hn : n = 2 ∨ n = 3) (h0 : C.1 e 10 = zi n) (hF : ∀ s, s < n → C.1 (e + 34) s = zi (F s)) (hb : ∀ s, s < n → 0 ≤ F s ∧ F s ≤ 100000) : ∀ j i : Nat, i + 1 + j = n → q (zi (mSpread F n)) C → zW X 0 227 16 [.ref e, .int (zi (mMin F i)), .int (zi (mMax F i)), .int (zi ((i + 1 : Nat) : Int))] [] S C (zQi q) := by
  intro j
  induction j with
  | zero =>
    intro i hi hq
    refine vc227_16 hS ?_
    rw [h0, zlt_f (by omega), zi_sub]
    unfold mSpread at hq
    rw [show n - 1 = i by omega] at hq
    exact hq
  | succ j ih =>
    intro i hi hq
    refine vc227_16 hS ?_
    have m1 := mMax_b (f := F) (a := 0) (b := 100000) i (fun k hk => hb k (by omega))
    have m2 := mMin_b (f := F) (a := 0) (b := 100000) i (fun k hk => hb k (by omega))
    have m3 := hb (i + 1) (by omega)
    have hv : vp_in (zi ((i + 1 : Nat) : Int)) 3 := zi_in (by omega) (by omega) (by omega)
    have ih2 := ih (i + 1) (by omega) hq
    simp only [mMin, mMax] at ih2
    rw [h0, zlt_t (by omega), zi_ix (by omega) (by omega), Int.toNat_natCast, hF (i + 1) (by omega), zi_s, zlt_i (by omega), zlt_i (by omega)]
    refine ⟨hv, ?_⟩
    by_cases c1 : F (i + 1) < mMin F i
    · rw [if_pos c1]
      rw [if_pos c1] at ih2
      refine ⟨hv, hv, ?_⟩
      by_cases c2 : mMax F i < F (i + 1)
      · rw [if_pos c2]
        rw [if_pos c2] at ih2
        exact ⟨hv, ih2⟩
      · rw [if_neg c2]
        rw [if_neg c2] at ih2
        exact ih2
    · rw [if_neg c1]
      rw [if_neg c1] at ih2
      refine ⟨hv, ?_⟩
      rw [zlt_i (by omega)]
      by_cases c2 : mMax F i < F (i + 1)
      · rw [if_pos c2]
        rw [if_pos c2] at ih2
        exact ⟨hv, ih2⟩
      · rw [if_neg c2]
        rw [if_neg c2] at ih2
        exact ih2
/-- unequalNow -/
theorem sp227 (hS : zs_5 S e) {n : Nat} {F : Nat → Int} (hn : n = 2 ∨ n = 3) (h0 : C.1 e 10 = zi n) (hF : ∀ s, s < n → C.1 (e + 34) s = zi (F s)) (hb : ∀ s, s < n → 0 ≤ F s ∧ F s ≤ 100000) : zCd X 0 227 [.ref e] S C (zQi q) = q (zi (mSpread F n)) C := by
  refine zc_eI (fun q h => vc227 hS ?_) q
  have hv : vp_in 0 3 := zi_in (a := 0) (by omega) (by omega) (by omega)
  refine ⟨hv, hv, ?_⟩
  rw [zi_0, zi_ix (by omega) (by omega), show (0 : Int).toNat = 0 from rfl, hF 0 (by omega)]
  exact lq227 hS hn h0 hF hb (n - 1) 0 (by omega) h
end
section
variable {X : zX} {S : zx_S} {C : zx_C} {q : zx_C → Prop} {e : Nat} {E : zT}
theorem zWN_law {C : zx_C} {e : Nat} {E : zT} {l : Nat} (hl : l ≤ 3) (h : C.1 e 29 = zi l) : zWN C e E (eV E) (dLaw E l) := Or.inl ⟨l, hl, h, rfl, fun _ => rfl⟩
/-- runBy -/
theorem sp223 (hS : zs_5 S e) (hE : zME C e E) (hW : zWF E) {l : Nat} (hl : l ≤ 3) : zCd X 34 223 [.ref e, .int (zi l)] S C (zQv (fun C1 => zRm C1 e (mCh (dLaw E l) (dLaw E l) (-1)) (dLaw E l) (mHas E) ∧ zFM C C1 e)) := by
  refine vc223 hS (vc171 hS ?_)
  have hE1 : zME (zp (zp C e 29 (zi l)) e 33 (-1)) e E := zME_of hW hE (fun b k hb h2 h3 => by rw [zp_miss _ _ _ _ (by omega), zp_miss _ _ _ _ (by omega)])
  refine zc_mV (sp224 (w := fun _ => 0) (sh := -1) hS hE1 hW (zWD_law hW l) (zWN_law hl (by rw [zp_nf (by omega), zp_hit])) (by omega) (by rw [zp_hit, zi_m1]) (fun h => by omega) (fun h => by omega) rfl rfl rfl rfl rfl) (fun C1 h1 => ?_)
  rw [mCm_law rfl (a := -1)] at h1
  refine ⟨h1.1, fun b k hb hb2 => ?_, h1.2.2⟩
  rw [h1.2.1 b k (by omega) (by omega) (by omega), zp_miss _ _ _ _ (by omega), zp_miss _ _ _ _ (by omega)]
end
/-- what stands of the game for a set: nothing, or all -/
def zGd (C : zx_C) (e : Nat) (M : zD) (y : Nat) : Prop := (C.1 (e + 35) y = zi (-1) ∧ ∀ s, s < 3 → C.1 (e + 37 + y) s = zi 0) ∨ (y ≠ 0 ∧ C.1 (e + 35) y = zi (zo (mGt M y)) ∧ ∀ s, s < dN M → C.1 (e + 37 + y) s = zi (mGm M y s))
def zGn (C : zx_C) (e : Nat) (M : zD) (y : Nat) : Prop := (y ≠ 0 → C.1 (e + 35) y = zi (zo (mGt M y))) ∧ ∀ s, s < dN M → C.1 (e + 37 + y) s = zi (mGm M y s)
theorem zGd_of {C C1 : zx_C} {e y : Nat} {M : zD} (h : zGd C e M y) (h1 : C1.1 (e + 35) y = C.1 (e + 35) y) (h2 : ∀ s, C1.1 (e + 37 + y) s = C.1 (e + 37 + y) s) : zGd C1 e M y := by
  rcases h with ⟨a, b⟩ | ⟨a, b, c⟩
  · exact Or.inl ⟨h1.trans a, fun s hs => (h2 s).trans (b s hs)⟩
  · exact Or.inr ⟨a, h1.trans b, fun s hs => (h2 s).trans (c s hs)⟩
/-- of the set that is gone through: the best so far -/
def zGp (C : zx_C) (e : Nat) (M : zD) (m w : Nat) : Option Nat → Prop
  | none => C.1 (e + 35) m = zi (-1) ∧ ∀ s, s < 3 → C.1 (e + 37 + m) s = zi 0
  | some b => C.1 (e + 35) m = zi b ∧ ∀ s, s < dN M → C.1 (e + 37 + m) s = zi ((if s = w then dU M w b else 0) + mGm M (wo m b) s)
theorem zGp_of {C C1 : zx_C} {e m w : Nat} {M : zD} {o : Option Nat} (h : zGp C e M m w o) (h1 : C1.1 (e + 35) m = C.1 (e + 35) m) (h2 : ∀ s, C1.1 (e + 37 + m) s = C.1 (e + 37 + m) s) : zGp C1 e M m w o := by
  cases o with
  | none => exact ⟨h1.trans h.1, fun s hs => (h2 s).trans (h.2 s hs)⟩
  | some b => exact ⟨h1.trans h.1, fun s hs => (h2 s).trans (h.2 s hs)⟩
section
variable {X : zX} {S : zx_S} {C : zx_C} {q : zx_C → Prop} {e V : Nat} {E : zT} {M : zD}
theorem lq231b (hS : zs_5 S e) {d m r w k n : Nat} {t v : Int32} (hd : 1 ≤ d) (hm : m < 256) (hr : r < 256) (hrm : r ≠ m) (hn : n ≤ 3) (hw : w < 3) (hk : k < 8) (K : ∀ (C1 : zx_C) (y7 : Value), (∀ s, s < n → C1.1 (e + 37 + m) s = C.1 (e + 37 + r) s) → (∀ b x, b ≠ e + 37 + m → C1.1 b x = C.1 b x) → C1.2 = C.2 → zW X (d + 1) 231 24 [.ref e, .int (zi m), .int t, .int (zi w), .int (zi ((k + 1 : Nat) : Int)), .int (zi r), .int v, y7] [] S (zp C1 (e + 37 + m) w v) (zQv q)) : ∀ (j x : Nat) (C0 : zx_C), x + j = n → C0.1 e 10 = zi n → (∀ s, s < x → C0.1 (e + 37 + m) s = C.1 (e + 37 + r) s) → (∀ b x, b ≠ e + 37 + m → C0.1 b x = C.1 b x) → C0.2 = C.2 → zW X (d + 1) 231 116 [.ref e, .int (zi m), .int t, .int (zi w), .int (zi k), .int (zi r), .int v, .int (zi x)] [] S C0 (zQv q) := by
  have hvm : vp_in (zi (m : Int)) 256 := zi_in (by omega) (by omega) (by omega)
  have hvr : vp_in (zi (r : Int)) 256 := zi_in (by omega) (by omega) (by omega)
  have hvw : vp_in (zi (w : Int)) 3 := zi_in (by omega) (by omega) (by omega)
  intro j
  induction j with
  | zero =>
    intro x C0 hx g0 g1 g2 g3
    refine vc231_116 (a1 := 0) (a2 := 0) hd hS ?_
    rw [g0, zlt_f (by omega), zi_s, zi_ix (by omega) (by omega), zi_ix (by omega) (by omega), Int.toNat_natCast, Int.toNat_natCast]
    exact ⟨hvm, hvw, K C0 _ (fun s hs => g1 s (by omega)) g2 g3⟩
  | succ j ih =>
    intro x C0 hx g0 g1 g2 g3
    refine vc231_116 (a1 := 0) (a2 := 0) hd hS ?_
    have hvx : vp_in (zi (x : Int)) 3 := zi_in (by omega) (by omega) (by omega)
    rw [g0, zlt_t (by omega), zi_s, zi_ix (by omega) (by omega), zi_ix (by omega) (by omega), zi_ix (by omega) (by omega), Int.toNat_natCast, Int.toNat_natCast, Int.toNat_natCast]
    refine ⟨hvm, hvr, hvx, hvx, ih (x + 1) _ (by omega) (by rw [zp_ne (by omega)]; exact g0) (fun s hs => ?_) (fun b y hb => ?_) g3⟩
    · by_cases c : s = x
      · subst c
        rw [zp_hit]
        exact g2 _ _ (by omega)
      · rw [zp_nf c]
        exact g1 s (by omega)
    · rw [zp_ne hb]
      exact g2 b y hb
theorem lq231a (hS : zs_5 S e) (hW : zWF E) (hD : zWD M) (hn : dN M = eN E) (hT : dT M = eT E) (hU : dU M = eu E) (hV : V ≤ 1000000000) {d m w : Nat} (hd : 1 ≤ d) (hm : mSub m (dL M)) (hz : m ≠ 0) (hw : w = dW M (mTurn M m))
    (hrec : ∀ k, k < 8 → m.testBit k = true → ∀ C0 : zx_C, zME C0 e E → zWN C0 e E V M → (∀ y, mSub y (wo m k) → zGd C0 e M y) → zCd X d 231 [.ref e, .int (zi (wo m k)), .int (zi ((V + mTurn M m + 1 : Nat) : Int))] S C0 (zQv (fun C1 => zGn C1 e M (wo m k) ∧ (∀ y, mSub y (wo m k) → zGd C1 e M y) ∧ (∀ y, y < 256 → ¬ mSub y (wo m k) → C1.1 (e + 35) y = C0.1 (e + 35) y ∧ ∀ s, C1.1 (e + 37 + y) s = C0.1 (e + 37 + y) s) ∧ (∀ b k, b ≠ e + 35 → (b < e + 37 ∨ e + 293 ≤ b) → C1.1 b k = C0.1 b k) ∧ C1.2 = C0.2))) :
    ∀ (j i : Nat) (C0 : zx_C) (z5 z6 z7 : Value), i + j = dT M → zME C0 e E → zWN C0 e E V M → (∀ y, mSub y m → y ≠ m → zGd C0 e M y) → zGp C0 e M m w (mArg (ltf (fun k => dU M w k + mGm M (wo m k) w)) m i) → zW X (d + 1) 231 24 [.ref e, .int (zi m), .int (zi ((V + mTurn M m : Nat) : Int)), .int (zi w), .int (zi i), z5, z6, z7] [] S C0 (zQv (fun C1 => zGn C1 e M m ∧ (∀ y, mSub y m → zGd C1 e M y) ∧ (∀ y, y < 256 → ¬ mSub y m → C1.1 (e + 35) y = C0.1 (e + 35) y ∧ ∀ s, C1.1 (e + 37 + y) s = C0.1 (e + 37 + y) s) ∧ (∀ b k, b ≠ e + 35 → (b < e + 37 ∨ e + 293 ≤ b) → C1.1 b k = C0.1 b k) ∧ C1.2 = C0.2)) := by
  have hmT : m < 2 ^ dT M := Nat.lt_of_le_of_lt (mSub_le hm) hD.2.2.1
  have hm2 := pow_256 hmT hD.2.1
  have hn2 := hD.1
  have hT2 := hD.2.1
  have hlt := mTurn_lt hD hm hz
  have hwn : w < dN M := by rw [hw]; exact hD.2.2.2.2.1 _ hlt
  have hC := hD.2.2.2.1
  have hvm : vp_in (zi (m : Int)) 256 := zi_in (by omega) (by omega) (by omega)
  have hvw : vp_in (zi (w : Int)) 3 := zi_in (by omega) (by omega) (by omega)
  intro j
  induction j with
  | zero =>
    intro i C0 z5 z6 z7 hi g0 g1 g2 g3
    refine vc231_24 (a1 := 0) (a2 := 0) hd hS ?_
    rw [g0.2.1, zlt_f (by omega)]
    have h8 : mGt M m = mArg (ltf (fun k => dU M w k + mGm M (wo m k) w)) m i := by
      rw [show i = dT M by omega, hw]
      exact mArg_8 hmT hT2
    rw [← h8] at g3
    obtain ⟨k, hk, hk8, hkb⟩ := mArg_some (lt := ltf (fun k => dU M (dW M (mTurn M m)) k + mGm M (wo m k) (dW M (mTurn M m)))) hm2 hz
    have hk2 : mGt M m = some k := hk
    rw [hk2] at g3
    obtain ⟨p1, p2⟩ := g3
    have hgs : ∀ s, s < dN M → C0.1 (e + 37 + m) s = zi (mGm M m s) := fun s hs => by
      have := mGm_s (M := M) (x := s) hm2 hz
      rw [hk2] at this
      rw [p2 s hs, this, hw]
    have hdone : zGn C0 e M m := ⟨fun _ => by rw [hk2]; exact p1, hgs⟩
    refine ⟨hdone, fun y hy => ?_, fun _ _ _ => ⟨rfl, fun _ => rfl⟩, fun _ _ _ _ => rfl, rfl⟩
    by_cases c : y = m
    · subst c
      exact Or.inr ⟨hz, hdone.1 hz, hdone.2⟩
    · exact g2 y hy c
  | succ j ih =>
    intro i C0 z5 z6 z7 hi g0 g1 g2 g3
    refine vc231_24 (a1 := 0) (a2 := 0) hd hS ?_
    have hiT : i < dT M := by omega
    have hvi : vp_in (zi (i : Int)) 8 := zi_in (by omega) (by omega) (by omega)
    rw [g0.2.1, zlt_t (by omega), sp174 (by omega) hm2, zi_s, zi_s]
    by_cases hb : m.testBit i = true
    · rw [zb_t hb]
      have hr256 : wo m i < 256 := Nat.lt_of_le_of_lt (wo_le m i) hm2
      have hrm : wo m i ≠ m := fun q => by have := wo_lt hb; omega
      have hrsub : mSub (wo m i) m := mSub_wo hm2 (by omega)
      have hnsub : ¬ mSub m (wo m i) := fun q => by have := mSub_le q; have := wo_lt hb; omega
      rw [bz_wo (by omega) hm2]
      refine zc_mV (hrec i (by omega) hb C0 g0 g1 (fun y hy => g2 y (mSub_t hy hrsub) (fun q => by rw [q] at hy; exact hnsub hy))) (fun C2 h2 => ?_)
      obtain ⟨b1, b2, b3, b4, b5⟩ := h2
      have hE2 : zME C2 e E := zME_of hW g0 (fun b k h2 h3 h4 => b4 b k (by omega) (by omega))
      have hN2 : zWN C2 e E V M := zWN_of g1 (fun k hk => b4 _ _ (by omega) (by omega)) (fun k => b4 _ _ (by omega) (by omega))
      have gp2 := zGp_of g3 (b3 m hm2 hnsub).1 (b3 m hm2 hnsub).2
      have gd2 : ∀ y, mSub y m → y ≠ m → zGd C2 e M y := fun y hy hym => by
        by_cases c : mSub y (wo m i)
        · exact b2 y c
        · have h256 : y < 256 := Nat.lt_of_le_of_lt (mSub_le hy) hm2
          exact zGd_of (g2 y hy hym) (b3 y h256 c).1 (b3 y h256 c).2
      have hvr : vp_in (zi ((wo m i : Nat) : Int)) 256 := zi_in (by omega) (by omega) (by omega)
      refine ⟨hvi, hvw, hvr, hvw, hvm, ?_⟩
      have u1 : C2.1 (e + 19 + i) w = zi (dU M w i) := by rw [hU]; exact hE2.2.2.2.2.2.2.2.2.2 w i (by omega) (by omega)
      have u2 : C2.1 (e + 37 + wo m i) w = zi (mGm M (wo m i) w) := b1.2 w hwn
      rw [zi_ix (by omega) (by omega), zi_ix (by omega) (by omega), zi_ix (by omega) (by omega), zi_ix (by omega) (by omega), Int.toNat_natCast, Int.toNat_natCast, Int.toNat_natCast, Int.toNat_natCast, u1, u2, zi_add]
      have x1 := hD.2.2.2.2.2.2 w i hwn hiT
      have x2 := mGm_b hD (m := wo m i) (x := w) (mSub_t hrsub hm)
      have ihs := fun C3 z5 z6 z7 => ih (i + 1) C3 z5 z6 z7 (by omega)
      -- taking i
      have take : mArg (ltf (fun k => dU M w k + mGm M (wo m k) w)) m (i + 1) = some i → zW X (d + 1) 231 116 [.ref e, .int (zi m), .int (zi ((V + mTurn M m : Nat) : Int)), .int (zi w), .int (zi i), .int (zi (wo m i : Nat)), .int (zi (dU M w i + mGm M (wo m i) w)), .int 0] [] S (zp C2 (e + 35) m (zi i)) (zQv (fun C1 => zGn C1 e M m ∧ (∀ y, mSub y m → zGd C1 e M y) ∧ (∀ y, y < 256 → ¬ mSub y m → C1.1 (e + 35) y = C0.1 (e + 35) y ∧ ∀ s, C1.1 (e + 37 + y) s = C0.1 (e + 37 + y) s) ∧ (∀ b k, b ≠ e + 35 → (b < e + 37 ∨ e + 293 ≤ b) → C1.1 b k = C0.1 b k) ∧ C1.2 = C0.2)) := by
        intro harg
        refine lq231b (C := zp C2 (e + 35) m (zi i)) (n := dN M) hS hd hm2 hr256 hrm (by omega) (by omega) (by omega) (fun C3 y7 c1 c2 c3 => ?_) (dN M) 0 _ (by omega) (by rw [zp_ne (by omega), hn]; exact hE2.1) (fun s hs => absurd hs (Nat.not_lt_zero s)) (fun _ _ _ => rfl) rfl
        have o1 : ∀ b k, b ≠ e + 37 + m → b ≠ e + 35 → (zp C3 (e + 37 + m) w (zi (dU M w i + mGm M (wo m i) w))).1 b k = C2.1 b k := fun b k h1 h2 => by
          rw [zp_ne h1, c2 b k h1, zp_ne h2]
        have o2 : ∀ y, y ≠ m → (zp C3 (e + 37 + m) w (zi (dU M w i + mGm M (wo m i) w))).1 (e + 35) y = C2.1 (e + 35) y := fun y h1 => by
          rw [zp_ne (by omega), c2 _ _ (by omega), zp_nf h1]
        refine zW_mono (ihs _ _ _ _ (zME_of hW hE2 (fun b k h2 h3 h4 => o1 b k (by omega) (by omega))) (zWN_of hN2 (fun k hk => o1 _ _ (by omega) (by omega)) (fun k => o1 _ _ (by omega) (by omega))) (fun y hy hym => zGd_of (gd2 y hy hym) (o2 y hym) (fun s => o1 _ _ (by omega) (by omega))) ?_) (fun r C4 w4 => ⟨w4.1, w4.2.1, w4.2.2.1, fun y h256 hyn => ?_, fun b k hb1 hb2 => ?_, ?_⟩)
        · rw [harg]
          refine ⟨?_, fun s hs => ?_⟩
          · rw [zp_ne (by omega), c2 _ _ (by omega), zp_hit]
          · by_cases cs : s = w
            · subst cs
              rw [zp_hit, if_pos rfl]
            · rw [zp_nf cs, c1 s hs, zp_ne (by omega), if_neg cs, Int.zero_add]
              exact b1.2 s hs
        · have hym : y ≠ m := fun q => by rw [q] at hyn; exact hyn (mSub_r m)
          have hyr : ¬ mSub y (wo m i) := fun q => hyn (mSub_t q hrsub)
          have w5 := w4.2.2.2.1 y h256 hyn
          exact ⟨by rw [w5.1, o2 y hym, (b3 y h256 hyr).1], fun s => by rw [w5.2 s, o1 _ _ (by omega) (by omega), (b3 y h256 hyr).2 s]⟩
        · rw [w4.2.2.2.2.1 b k hb1 hb2, o1 b k (by omega) hb1, b4 b k hb1 hb2]
        · rw [w4.2.2.2.2.2]
          exact c3.trans b5
      cases hc : mArg (ltf (fun k => dU M w k + mGm M (wo m k) w)) m i with
      | none =>
        rw [hc] at gp2
        rw [gp2.1, zi_m1, if_pos rfl]
        exact ⟨hvm, take (by simp only [mArg]; rw [if_pos hb, hc])⟩
      | some b =>
        rw [hc] at gp2
        have hin := mArg_in i b hc
        have x3 := hD.2.2.2.2.2.2 w b hwn (by omega)
        have x4 := mGm_b hD (m := wo m b) (x := w) (mSub_t (mSub_wo hm2 (by omega)) hm)
        have gw := gp2.2 w hwn
        rw [if_pos rfl] at gw
        rw [gp2.1, zi_m1, zeq_f (by omega)]
        refine ⟨hvm, hvw, ?_⟩
        rw [gw, zlt_i (by omega)]
        have hl : ltf (fun k => dU M w k + mGm M (wo m k) w) b i = decide (dU M w b + mGm M (wo m b) w < dU M w i + mGm M (wo m i) w) := rfl
        by_cases c : dU M w b + mGm M (wo m b) w < dU M w i + mGm M (wo m i) w
        · rw [if_pos c]
          exact ⟨hvm, take (by simp only [mArg]; rw [if_pos hb, hc]; dsimp only; rw [hl, if_pos (decide_eq_true c)])⟩
        · rw [if_neg c]
          have hstay : mArg (ltf (fun k => dU M w k + mGm M (wo m k) w)) m (i + 1) = some b := by
            simp only [mArg]
            rw [if_pos hb, hc]
            dsimp only
            rw [hl, if_neg (by simp only [decide_eq_true_eq]; exact c)]
          rw [hstay] at ihs
          refine zW_mono (ihs C2 _ _ _ hE2 hN2 gd2 gp2) (fun r C4 w4 => ⟨w4.1, w4.2.1, w4.2.2.1, fun y h256 hyn => ?_, fun b k hb1 hb2 => ?_, w4.2.2.2.2.2.trans b5⟩)
          · have hyr : ¬ mSub y (wo m i) := fun q => hyn (mSub_t q hrsub)
            have w5 := w4.2.2.2.1 y h256 hyn
            exact ⟨by rw [w5.1, (b3 y h256 hyr).1], fun s => by rw [w5.2 s, (b3 y h256 hyr).2 s]⟩
          · rw [w4.2.2.2.2.1 b k hb1 hb2, b4 b k hb1 hb2]
    · rw [zb_f hb]
      rw [← mArg_n hb] at g3
      exact ih (i + 1) C0 _ _ _ (by omega) g0 g1 g2 g3
theorem lq231 (hS : zs_5 S e) (hW : zWF E) (hD : zWD M) (hn : dN M = eN E) (hT : dT M = eT E) (hU : dU M = eu E) (hV : V ≤ 1000000000) : ∀ (c m : Nat), mCnt m 8 = c → mSub m (dL M) → ∀ d, c + 1 ≤ d → ∀ C0 : zx_C, zME C0 e E → zWN C0 e E V M → (∀ y, mSub y m → zGd C0 e M y) → zCd X (d + 1) 231 [.ref e, .int (zi m), .int (zi ((V + mTurn M m : Nat) : Int))] S C0 (zQv (fun C1 => zGn C1 e M m ∧ (∀ y, mSub y m → zGd C1 e M y) ∧ (∀ y, y < 256 → ¬ mSub y m → C1.1 (e + 35) y = C0.1 (e + 35) y ∧ ∀ s, C1.1 (e + 37 + y) s = C0.1 (e + 37 + y) s) ∧ (∀ b k, b ≠ e + 35 → (b < e + 37 ∨ e + 293 ≤ b) → C1.1 b k = C0.1 b k) ∧ C1.2 = C0.2)) := by
  have hn2 := hD.1
  intro c
  induction c with
  | zero =>
    intro m hc hm d hd C0 g0 g1 g2
    have hmT : m < 2 ^ dT M := Nat.lt_of_le_of_lt (mSub_le hm) hD.2.2.1
    have hz := mCnt_e (pow_256 hmT hD.2.1) hc
    subst hz
    refine vc231 (by omega) hS ⟨zi_in (by omega) (by omega) (by omega), ?_⟩
    rw [zi_ix (by omega) (by omega), Int.toNat_natCast]
    rcases g2 0 (mSub_r 0) with ⟨a, b⟩ | ⟨a, -⟩
    · rw [zi_0, show zi ((0 : Nat) : Int) = zi 0 from rfl, a, zi_m1, if_pos rfl, if_pos rfl]
      refine ⟨⟨fun q => absurd rfl q, fun s hs => ?_⟩, g2, fun _ _ _ => ⟨rfl, fun _ => rfl⟩, fun _ _ _ _ => rfl, rfl⟩
      rw [mGm_z]
      exact b s (by omega)
    · exact absurd rfl a
  | succ c ih =>
    intro m hc hm d hd C0 g0 g1 g2
    have hmT : m < 2 ^ dT M := Nat.lt_of_le_of_lt (mSub_le hm) hD.2.2.1
    have hm2 := pow_256 hmT hD.2.1
    have hz : m ≠ 0 := fun q => by rw [q, mCnt_z] at hc; omega
    have hlt := mTurn_lt hD hm hz
    have hC := hD.2.2.2.1
    refine vc231 (by omega) hS ⟨zi_in (by omega) (by omega) (by omega), ?_⟩
    rw [zi_ix (by omega) (by omega), Int.toNat_natCast]
    rcases g2 m (mSub_r m) with ⟨a, b⟩ | ⟨a, b, b3⟩
    · rw [a, zi_m1, if_pos rfl, zi_0, zeq_f (by omega), sp177 hS g0 hW g1 hV (by omega), if_pos hlt]
      refine lq231a hS hW hD hn hT hU hV (by omega) hm hz rfl (fun k hk hb C1 e0 e1 e2 => ?_) (dT M) 0 C0 _ _ _ (by omega) g0 g1 (fun y hy _ => g2 y hy) ⟨a, b⟩
      have h1 := mCnt_wo hm2 hk hb
      have h2 := mTurn_wo hm2 hk hb hm
      have h3 := ih (wo m k) (by omega) (mSub_t (mSub_wo hm2 hk) hm) (d - 1) (by omega) C1 e0 e1 e2
      rw [h2, show d - 1 + 1 = d by omega] at h3
      exact h3
    · obtain ⟨k, hk, hk8, hkb⟩ := mArg_some (lt := ltf (fun k => dU M (dW M (mTurn M m)) k + mGm M (wo m k) (dW M (mTurn M m)))) hm2 hz
      have hk2 : mGt M m = some k := hk
      have b' := b
      rw [hk2, zo_s] at b'
      rw [b', zi_m1, zeq_f (by omega)]
      exact ⟨⟨fun _ => b, b3⟩, g2, fun _ _ _ => ⟨rfl, fun _ => rfl⟩, fun _ _ _ _ => rfl, rfl⟩
theorem lq230b (hS : zs_5 S e) {z1 : Value} {y : Nat} (hy : y < 256) (K : ∀ (C1 : zx_C) (z3 : Value), (∀ s, s < 3 → C1.1 (e + 37 + y) s = zi 0) → (∀ b k, b ≠ e + 37 + y → C1.1 b k = C.1 b k) → C1.2 = C.2 → zW X 32 230 7 [.ref e, z1, .int (zi ((y + 1 : Nat) : Int)), z3] [] S C1 (zQv q)) : ∀ (j i : Nat) (C0 : zx_C), i + j = 3 → (∀ s, s < i → C0.1 (e + 37 + y) s = zi 0) → (∀ b k, b ≠ e + 37 + y → C0.1 b k = C.1 b k) → C0.2 = C.2 → zW X 32 230 23 [.ref e, z1, .int (zi y), .int (zi i)] [] S C0 (zQv q) := by
  intro j
  induction j with
  | zero =>
    intro i C0 hi g1 g2 g3
    refine vc230_23 (a1 := 0) hS ?_
    rw [zi_3, zlt_f (by omega), zi_s]
    exact K C0 _ (fun s hs => g1 s (by omega)) g2 g3
  | succ j ih =>
    intro i C0 hi g1 g2 g3
    refine vc230_23 (a1 := 0) hS ?_
    rw [zi_3, zlt_t (by omega), zi_s, zi_ix (by omega) (by omega), zi_ix (by omega) (by omega), Int.toNat_natCast, Int.toNat_natCast]
    refine ⟨zi_in (by omega) (by omega) (by omega), zi_in (by omega) (by omega) (by omega), ih (i + 1) _ (by omega) (fun s hs => ?_) (fun b k hb => ?_) g3⟩
    · by_cases c : s = i
      · subst c
        rw [zp_hit, zi_0]
      · rw [zp_nf c]
        exact g1 s (by omega)
    · rw [zp_ne hb, g2 b k hb]
theorem lq230a (hS : zs_5 S e) {z1 : Value} (K : ∀ C1 : zx_C, (∀ y, y < 256 → C1.1 (e + 35) y = zi (-1) ∧ ∀ s, s < 3 → C1.1 (e + 37 + y) s = zi 0) → (∀ b k, b ≠ e + 35 → (b < e + 37 ∨ e + 293 ≤ b) → C1.1 b k = C.1 b k) → C1.2 = C.2 → zCd X 0 172 [.ref e] S C1 (zQi (fun r1 C1 => zCd X 31 231 [.ref e, .int r1, .int (C1.1 e 18)] S C1 (zQv (fun C2 => q C2))))) : ∀ (j y : Nat) (C0 : zx_C) (z3 : Value), y + j = 256 → (∀ x, x < y → C0.1 (e + 35) x = zi (-1) ∧ ∀ s, s < 3 → C0.1 (e + 37 + x) s = zi 0) → (∀ b k, b ≠ e + 35 → (b < e + 37 ∨ e + 293 ≤ b) → C0.1 b k = C.1 b k) → C0.2 = C.2 → zW X 32 230 7 [.ref e, z1, .int (zi y), z3] [] S C0 (zQv q) := by
  intro j
  induction j with
  | zero =>
    intro y C0 z3 hy g1 g2 g3
    refine vc230_7 (a1 := 0) hS ?_
    rw [zi_256, zlt_f (by omega)]
    exact K C0 (fun x hx => g1 x (by omega)) g2 g3
  | succ j ih =>
    intro y C0 z3 hy g1 g2 g3
    refine vc230_7 (a1 := 0) hS ?_
    rw [zi_256, zlt_t (by omega), zi_ix (by omega) (by omega), Int.toNat_natCast, zi_m1]
    refine ⟨zi_in (by omega) (by omega) (by omega), ?_⟩
    refine lq230b (C := zp C0 (e + 35) y (zi (-1))) hS (by omega) (fun C1 z3 b1 b2 b3 => ?_) 3 0 _ (by omega) (fun s hs => absurd hs (Nat.not_lt_zero s)) (fun _ _ _ => rfl) rfl
    refine ih (y + 1) C1 z3 (by omega) (fun x hx => ?_) (fun b k hb hb2 => ?_) (b3.trans g3)
    · by_cases c : x = y
      · subst c
        exact ⟨by rw [b2 _ _ (by omega), zp_hit], b1⟩
      · have h5 := g1 x (by omega)
        exact ⟨by rw [b2 _ _ (by omega), zp_nf c]; exact h5.1, fun s hs => by rw [b2 _ _ (by omega), zp_ne (by omega)]; exact h5.2 s hs⟩
    · rw [b2 _ _ (by omega), zp_ne hb, g2 b k hb hb2]
/-- gameBy -/
theorem sp230 (hS : zs_5 S e) (hE : zME C e E) (hW : zWF E) {l : Nat} (hl : l ≤ 3) : zCd X 32 230 [.ref e, .int (zi l)] S C (zQv (fun C1 => zGn C1 e (dLaw E l) (mOwn E (-1)) ∧ zFM C C1 e)) := by
  refine vc230 hS (vc171 hS ?_)
  have hE1 : zME (zp (zp C e 29 (zi l)) e 33 (-1)) e E := zME_of hW hE (fun b k hb h2 h3 => by rw [zp_miss _ _ _ _ (by omega), zp_miss _ _ _ _ (by omega)])
  have hD := zWD_law hW l
  refine lq230a (C := zp (zp C e 29 (zi l)) e 33 (-1)) hS (fun C1 b1 b2 b3 => ?_) 256 0 _ _ (by omega) (fun x hx => absurd hx (Nat.not_lt_zero x)) (fun _ _ _ _ => rfl) rfl
  have hE2 : zME C1 e E := zME_of hW hE1 (fun b k h2 h3 h4 => b2 b k (by omega) (by omega))
  have hN2 : zWN C1 e E (eV E) (dLaw E l) := zWN_law hl (by rw [b2 _ _ (by omega) (by omega), zp_nf (by omega), zp_hit])
  have h8 := mCnt_le (mOwn E (-1)) 8
  have hrec := lq231 (X := X) hS hW hD rfl rfl rfl hW.2.2.2.1 (mCnt (mOwn E (-1)) 8) (mOwn E (-1)) rfl (mSub_r _) 30 (by omega) C1 hE2 hN2 (fun y hy => Or.inl (b1 y (Nat.lt_of_le_of_lt (mSub_le hy) (mOwn_lt hW _))))
  have ht : mTurn (dLaw E l) (mOwn E (-1)) = 0 := by
    show mCnt (mOwn E (-1)) 8 - mCnt (mOwn E (-1)) 8 = 0
    omega
  rw [ht] at hrec
  rw [sp172 hS hE2 hW, hE2.2.2.2.1]
  refine zc_mV hrec (fun C2 w => ⟨w.1, fun b k hb hb2 => ?_, w.2.2.2.2.trans b3⟩)
  rw [w.2.2.2.1 b k (by omega) (by omega), b2 b k (by omega) (by omega), zp_miss _ _ _ _ (by omega), zp_miss _ _ _ _ (by omega)]
end
