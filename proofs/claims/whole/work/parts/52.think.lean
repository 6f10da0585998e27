/-! WHAT THE CLASS THINKS: a run by a law, what a side would take, the game, how unequal -/
/-- what thinking leaves as it was -/
def zFX (C C1 : zx_C) (e : Nat) : Prop := (∀ b k, ¬ (b = e ∧ k = 10) → (b < e + 24 ∨ e + 42 ≤ b ∨ ((b = e + 29 ∨ b = e + 36) ∧ (k = 0 ∨ k = 256 ∨ k = 512))) → C1.1 b k = C.1 b k) ∧ C1.2 = C.2
/-- of no things nothing, in both minds -/
def zZz (C : zx_C) (e : Nat) : Prop := zMz C (e + 24) ∧ zMz C (e + 31)
theorem zZz_of {C C1 : zx_C} {e : Nat} (h : zZz C e) (h1 : ∀ b k, (b = e + 29 ∨ b = e + 36) → (k = 0 ∨ k = 256 ∨ k = 512) → C1.1 b k = C.1 b k) : zZz C1 e :=
  ⟨zMz_of h.1 (fun k hk => h1 _ _ (by omega) hk), zMz_of h.2 (fun k hk => h1 _ _ (by omega) hk)⟩
theorem zFX_z {C C1 : zx_C} {e : Nat} (h1 : zFX C C1 e) (h : zZz C e) : zZz C1 e := zZz_of h (fun b k hb hk => h1.1 b k (by omega) (by omega))
theorem zFX_r (C : zx_C) (e : Nat) : zFX C C e := ⟨fun _ _ _ _ => rfl, rfl⟩
theorem zFX_t {C C1 C2 : zx_C} {e : Nat} (h1 : zFX C C1 e) (h2 : zFX C1 C2 e) : zFX C C2 e := ⟨fun b k g1 g2 => (h2.1 b k g1 g2).trans (h1.1 b k g1 g2), h2.2.trans h1.2⟩
theorem zFX_E {C C1 : zx_C} {e : Nat} {E : zT} (h1 : zFX C C1 e) (h : zXE C (e + 1) E) : zXE C1 (e + 1) E := zXE_of h (fun b k _ _ => h1.1 b k (by omega) (by omega))
theorem mCh_same {M : zD} {a b : Int} : mCh M M a = mCh M M b := by
  funext s m
  unfold mCh
  split <;> split <;> rfl
section
variable {X : zX} {S : zx_S} {C : zx_C} {q : Int32 → zx_C → Prop} {e : Nat} {E : zT}
theorem lq124 (hS : zs_4 S e) {n : Nat} {F : Nat → Int} (hn : n = 2 ∨ n = 3) (h0 : C.1 (e + 1) 0 = zi n) (hF : ∀ s, s < 3 → C.1 (e + 39) s = zi (F s)) (hb : ∀ s, s < 3 → 0 ≤ F s ∧ F s ≤ 100000) : ∀ j i : Nat, i + 1 + j = n → q (zi (mSpread F n)) C → zW X 1 124 13 [.ref e, .int (zi (mMax F i)), .int (zi (mMin F i)), .int (zi ((i + 1 : Nat) : Int))] [] S C (zQi q) := by
  intro j
  induction j with
  | zero =>
    intro i hi hq
    refine vc124_13 hS ?_
    rw [h0, zlt_f (by omega), zi_sub]
    unfold mSpread at hq
    rw [show n - 1 = i by omega] at hq
    exact hq
  | succ j ih =>
    intro i hi hq
    refine vc124_13 hS ?_
    have m1 := mMax_b (f := F) (a := 0) (b := 100000) i (fun k hk => hb k (by omega))
    have m2 := mMin_b (f := F) (a := 0) (b := 100000) i (fun k hk => hb k (by omega))
    have m3 := hb (i + 1) (by omega)
    rw [h0, zlt_t (by omega), sp11 (za_4_11 hS) (by omega) (by omega) (by omega), sp11 (za_4_11 hS) (by omega) (by omega) (by omega), Int.toNat_natCast, hF (i + 1) (by omega), zi_s, zmax_i (by omega), zmax_i (by omega)]
    exact ih (i + 1) (by omega) hq
/-- spread -/
theorem sp124 (hS : zs_4 S e) {n : Nat} {F : Nat → Int} (hn : n = 2 ∨ n = 3) (h0 : C.1 (e + 1) 0 = zi n) (hF : ∀ s, s < 3 → C.1 (e + 39) s = zi (F s)) (hb : ∀ s, s < 3 → 0 ≤ F s ∧ F s ≤ 100000) : zCd X 1 124 [.ref e] S C (zQi q) = q (zi (mSpread F n)) C := by
  refine zc_eI (fun q h => vc124 hS ?_) q
  rw [zi_0, sp11 (za_4_11 hS) (by omega) (by omega) (by omega), show (0 : Int).toNat = 0 from rfl, hF 0 (by omega)]
  exact lq124 hS hn h0 hF hb (n - 1) 0 (by omega) h
theorem lq155 (hS : zs_4 S e) (hE : zXE C (e + 1) E) (hW : zWF E) : ∀ (j i : Nat) (C0 : zx_C), i + j = 3 → (∀ s, s < i → C0.1 (e + 39) s = zi (mHas E s)) → (∀ b k, b ≠ e + 39 → C0.1 b k = C.1 b k) → C0.2 = C.2 → zW X 3 155 2 [.ref e, .int (zi i)] [] S C0 (zQi (fun r C1 => r = zi (mSpread (mHas E) (eN E)) ∧ zFX C C1 e)) := by
  have hn := hW.1
  intro j
  induction j with
  | zero =>
    intro i C0 hi g1 g2 g3
    refine vc155_2 hS ?_
    have hE0 : zXE C0 (e + 1) E := zXE_of hE (fun b k _ _ => g2 b k (by omega))
    rw [zi_3, zlt_f (by omega), sp124 hS hW.1 hE0.1 (fun s hs => g1 s (by omega)) (fun s hs => by have := mHas_b hW (s := s); omega)]
    exact ⟨rfl, fun b k _ hb => g2 b k (by omega), g3⟩
  | succ j ih =>
    intro i C0 hi g1 g2 g3
    refine vc155_2 hS ?_
    have hE0 : zXE C0 (e + 1) E := zXE_of hE (fun b k _ _ => g2 b k (by omega))
    rw [zi_3, zlt_t (by omega), sp40 (zo_4_0 hS) hE0 hW (by omega), sp12 (za_4_11 hS) (by omega) (by omega) (by omega), zi_s, Int.toNat_natCast]
    refine ih (i + 1) _ (by omega) (fun s hs => ?_) (fun b k hb => ?_) g3
    · by_cases c : s = i
      · subst c
        rw [zp_hit]
      · rw [zp_nf c]
        exact g1 s (by omega)
    · rw [zp_ne hb, g2 b k hb]
/-- spreadNow -/
theorem sp155 (hS : zs_4 S e) (hE : zXE C (e + 1) E) (hW : zWF E) : zCd X 3 155 [.ref e] S C (zQi (fun r C1 => r = zi (mSpread (mHas E) (eN E)) ∧ zFX C C1 e)) :=
  vc155 hS (lq155 hS hE hW 3 0 C (by omega) (fun s hs => absurd hs (Nat.not_lt_zero s)) (fun _ _ _ => rfl) rfl)
/-- wouldTake -/
theorem sp37 (hS : zs_4 S e) (hE : zXE C (e + 1) E) (hz : zZz C e) (hW : zWF E) {s : Nat} {b : Int} (hs : s < eN E) (hb : 0 ≤ b ∧ b ≤ 5) : zCd X 5 37 [.ref e, .int (zi s), .int (zi b)] S C (zQi (fun r C1 => r = zi (zo (mChoose (dFirst (dLaw E (eL E)) s) s b (mOwn E (-1)))) ∧ zFX C C1 e)) := by
  refine vc37 hS ?_
  refine sq_think (zo_4_7 hS) (zo_4_0 hS) (by omega) hE hW hW.2.2.1 (f := fun C1 => C1.1 (e + 1) 2) (fun C1 h => by rw [h _ _ (by omega)]; exact hE.2.2.1) (fun C1 a1 a2 a3 a4 a5 => ?_)
  have hD := zWD_law hW (eL E)
  have h5 : C1.1 (e + 24) 5 = zi (mOwn E (-1)) := a1.2.2.2.2.1
  rw [h5]
  have hz1 : zMz C1 (e + 24) := zMz_of hz.1 (fun k _ => a4 _ _ (by omega))
  refine zc_mI (sp50 (zo_4_7 hS) a1 hD (zMl_0 a3 hz1) hs hb (mSub_r _)) (fun r C3 h3 => ?_)
  obtain ⟨r1, r2, r3, r4, r5⟩ := h3
  refine ⟨r1.trans ?_, fun b k _ hb => ?_, r5.trans a5⟩
  · exact congrArg (fun o => zi (zo o)) (mChoose_first (x := s) (s := s) (b := b) hD)
  · rw [r4 b k (by omega) (by omega), a4 b k (by omega)]
/-- the rival of a side whose turn it were now -/
theorem sq116 (hS : zs_4 S e) (hE : zXE C (e + 1) E) (hW : zWF E) {s : Nat} (hs : s < eN E) : zCd X 2 45 [.ref (e + 24), .ref (e + 1), .int (C.1 (e + 1) 2)] S C (zQv (fun C3 => zCd X 1 56 [.ref (e + 24), .int (zi s), .int 0] S C3 (zQi (fun r C1 => r = zi (zo (mRv (dLaw E (eL E)) s 0)) ∧ zFX C C1 e)))) := by
  have hn := hW.1
  rw [hE.2.2.1]
  refine zc_mV (sp45 (zo_4_7 hS) (zo_4_0 hS) (by omega) hE hW hW.2.2.1) (fun C1 h1 => ?_)
  obtain ⟨b1, b2, b3, b4, b5⟩ := h1
  have hT : ∀ i, i < dC (dLaw E (eL E)) → C1.1 (e + 24 + 4) i = zi (dW (dLaw E (eL E)) i) := fun i hi => by
    rw [b1 i hi]
    have := mAt_b hW (eL E) (eV E + i)
    show _ = zi (((mAt E (eL E) (eV E + i)).toNat : Nat) : Int)
    rw [Int.toNat_of_nonneg this.1]
  have h56 := fun q => sp56t (X := X) (S := S) (C := C1) (q := q) (zo_4_7 hS) hT b2 (zWD_law hW (eL E)) (s := s) (i := 0) (by omega) (by omega)
  rw [zi_0, show zi (0 : Int) = zi ((0 : Nat) : Int) from rfl, h56]
  exact ⟨rfl, fun b k _ hb => b4 b k (by omega) (by omega) (by omega), b5⟩
end
section
variable {X : zX} {S : zx_S} {C : zx_C} {q : zx_C → Prop} {e : Nat} {E : zT}
/-- runByLaw -/
theorem sp119 (hS : zs_4 S e) (hE : zXE C (e + 1) E) (hz : zZz C e) (hW : zWF E) {l : Nat} (hl : l ≤ 3) : zCd X 6 119 [.ref e, .int (zi l)] S C (zQv (fun C1 => zRn C1 e (mCh (dLaw E l) (dLaw E l) (-1)) (dLaw E l) (mHas E) ∧ zMd C1 (e + 24) (dLaw E l) ∧ zMl C1 (e + 24) (dLaw E l) ∧ (∀ s, s < 3 → C1.1 (e + 27) s = zi (mHas E s)) ∧ zFX C C1 e)) := by
  refine vc119 hS ?_
  refine sq_think (zo_4_7 hS) (zo_4_0 hS) (by omega) hE hW hl (f := fun _ => zi l) (fun C1 h => rfl) (fun C1 a1 a2 a3 a4 a5 => ?_)
  have hD := zWD_law hW l
  have hM := zMl_0 (M := dLaw E l) a3 (zMz_of hz.1 (fun k _ => a4 _ _ (by omega)))
  rw [zi_m1]
  refine zc_mV (sp120 hS (zo_4_7 hS) (Or.inl rfl) (by omega) hD hD rfl (fun _ => rfl) (G := mHas E) a2 ⟨a1, hM, a1, hM⟩) (fun C2 h2 => ?_)
  obtain ⟨b1, b2, b3, b4⟩ := h2
  refine ⟨b1, b2.1, b2.2.1, fun s hs => ?_, fun b k hb hb2 => ?_, b4.trans a5⟩
  · rw [b3 _ _ (by omega) (by omega)]
    exact a2 s hs
  · rw [b3 b k hb (by omega), a4 b k (by omega)]
end
section
variable {X : zX} {S : zx_S} {C : zx_C} {q : Int32 → zx_C → Prop} {e : Nat} {E : zT}
/-- what a side has at the end of the game -/
def mGe (E : zT) (l s : Nat) : Int := mHas E s + mGm (dLaw E l) (mOwn E (-1)) s
theorem mGe_b {E : zT} (hW : zWF E) (l s : Nat) : 0 ≤ mGe E l s ∧ mGe E l s ≤ 1584 := by
  have h1 := mHas_b hW (s := s)
  have h2 := mGm_b (zWD_law hW l) (m := mOwn E (-1)) (x := s) (mSub_r _)
  unfold mGe
  omega
theorem lq126 (hS : zs_4 S e) {l : Nat} (z1 : Value) (r : Int32) (hM5 : C.1 (e + 24) 5 = zi (mOwn E (-1))) (hW : zWF E) (hO : ∀ s, s < 3 → C.1 (e + 27) s = zi (mHas E s)) (hs5 : ∀ s, s < 3 → C.1 (e + 29) (s * 256 + mOwn E (-1)) = zi (mGm (dLaw E l) (mOwn E (-1)) s)) : ∀ (j i : Nat) (C0 : zx_C), i + j = 3 → (∀ s, s < i → C0.1 (e + 39) s = zi (mGe E l s)) → (∀ b k, b ≠ e + 39 → C0.1 b k = C.1 b k) → C0.2 = C.2 → zW X 4 126 33 [.ref e, z1, .int r, .int (zi i)] [] S C0 (zQi (fun r1 C1 => r1 = r ∧ (∀ s, s < 3 → C1.1 (e + 39) s = zi (mGe E l s)) ∧ (∀ b k, b ≠ e + 39 → C1.1 b k = C.1 b k) ∧ C1.2 = C.2)) := by
  intro j
  induction j with
  | zero =>
    intro i C0 hi g1 g2 g3
    refine vc126_33 (a1 := 0) hS ?_
    rw [zi_3, zlt_f (by omega)]
    exact ⟨rfl, fun s hs => g1 s (by omega), g2, g3⟩
  | succ j ih =>
    intro i C0 hi g1 g2 g3
    refine vc126_33 (a1 := 0) hS ?_
    have ha : C0.1 (e + 24 + 3) i = zi (mHas E i) := (g2 _ _ (by omega)).trans (hO i (by omega))
    have hb : C0.1 (e + 24) 5 = zi (mOwn E (-1)) := (g2 _ _ (by omega)).trans hM5
    have hc : C0.1 (e + 24 + 5) (i * 256 + mOwn E (-1)) = zi (mGm (dLaw E l) (mOwn E (-1)) i) := (g2 _ _ (by omega)).trans (hs5 i (by omega))
    rw [zi_3, zlt_t (by omega), sp121 (zo_4_7 hS) (by omega), ha, hb, sp66 (zo_4_7 hS) (by omega) (mOwn_lt hW _), hc, zi_add, sp12 (za_4_11 hS) (by omega) (by omega) (by omega), zi_s, Int.toNat_natCast]
    refine ih (i + 1) _ (by omega) (fun s hs => ?_) (fun b k hb => ?_) g3
    · by_cases c : s = i
      · subst c
        rw [zp_hit]
        rfl
      · rw [zp_nf c]
        exact g1 s (by omega)
    · rw [zp_ne hb, g2 b k hb]
/-- playGame -/
theorem sp126 (hS : zs_4 S e) (hE : zXE C (e + 1) E) (hz : zZz C e) (hW : zWF E) {l : Nat} (hl : l ≤ 3) : zCd X 4 126 [.ref e, .int (zi l)] S C (zQi (fun r C1 => r = zi (zo (mGt (dLaw E l) (mOwn E (-1)))) ∧ (∀ s, s < 3 → C1.1 (e + 39) s = zi (mGe E l s)) ∧ zFX C C1 e)) := by
  refine vc126 hS ?_
  refine sq_think (zo_4_7 hS) (zo_4_0 hS) (by omega) hE hW hl (f := fun _ => zi l) (fun C1 h => rfl) (fun C1 a1 a2 a3 a4 a5 => ?_)
  have hD := zWD_law hW l
  refine zc_mI (sp127 (zo_4_7 hS) a1 hD (zMz_of hz.1 (fun k _ => a4 _ _ (by omega)))) (fun r C2 h2 => ?_)
  obtain ⟨b1, b2, b3, b4⟩ := h2
  subst b1
  refine zW_mono (lq126 (C := C2) (E := E) (l := l) hS _ _ ?_ hW (fun s hs => ?_) (fun s hs => b2 s hs) 3 0 C2 (by omega) (fun s hs => absurd hs (Nat.not_lt_zero s)) (fun _ _ _ => rfl) rfl) (fun r C3 w => ?_)
  · rw [b3 _ _ (by omega)]
    exact a1.2.2.2.2.1
  · rw [b3 _ _ (by omega)]
    exact a2 s hs
  · obtain ⟨y, e1, w1, w2, w3, w4⟩ := w
    refine ⟨y, e1, w1, w2, fun b k _ hb => ?_, w4.trans (b4.trans a5)⟩
    rw [w3 b k (by omega), b3 b k (by omega), a4 b k (by omega)]
end
