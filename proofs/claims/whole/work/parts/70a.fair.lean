/-! FAIREST, as the class goes on from order to order -/
/-- where the least unequal order stands, as the class has it -/
def zFa (C : zx_C) (e : Nat) (E : zT) (o : Option (Int × Nat)) : Prop := ∀ vb, o = some vb → ∀ k, k < mCnt (mOwn E (-1)) 8 → C.1 (e + 41) k = zi (mDg (eN E) (mCnt (mOwn E (-1)) 8) vb.2 k)
/-- what the mind knows besides the turns -/
def zGg (C : zx_C) (e : Nat) (E : zT) : Prop := (∀ s k, s < eN E → k < eT E → C.1 (e + 25) (s * 8 + k) = zi (eu E s k)) ∧ (∀ s, s < 3 → C.1 (e + 26) s = zi (eb E s)) ∧ C.1 (e + 24) 5 = zi (mOwn E (-1)) ∧ C.1 (e + 24) 6 = zi (mCnt (mOwn E (-1)) 8) ∧ ∀ s, s < 3 → C.1 (e + 27) s = zi (mHas E s)
/-- what was looked into -/
def zLk (C : zx_C) (e : Nat) (E : zT) : Prop := zMz C (e + 24) ∧ ((∀ s, s < 3 → C.1 (e + 30) s = zi 0) ∨ ∃ f : Nat → Nat, (∀ k, k < mCnt (mOwn E (-1)) 8 → f k < eN E) ∧ zMd C (e + 24) (dRow E f) ∧ zMl C (e + 24) (dRow E f))
theorem zGg_of {C C1 : zx_C} {e : Nat} {E : zT} (h : zGg C e E) (h1 : ∀ b k, e + 24 ≤ b → b < e + 31 → C1.1 b k = C.1 b k) : zGg C1 e E :=
  ⟨fun s k hs hk => by rw [h1 _ _ (by omega) (by omega)]; exact h.1 s k hs hk, fun s hs => by rw [h1 _ _ (by omega) (by omega)]; exact h.2.1 s hs, by rw [h1 _ _ (by omega) (by omega)]; exact h.2.2.1, by rw [h1 _ _ (by omega) (by omega)]; exact h.2.2.2.1, fun s hs => by rw [h1 _ _ (by omega) (by omega)]; exact h.2.2.2.2 s hs⟩
theorem zLk_of {C C1 : zx_C} {e : Nat} {E : zT} (h : zLk C e E) (h1 : ∀ b k, e + 24 ≤ b → b < e + 31 → C1.1 b k = C.1 b k) : zLk C1 e E := by
  refine ⟨zMz_of h.1 (fun k _ => h1 _ _ (by omega) (by omega)), ?_⟩
  rcases h.2 with g | ⟨f, g1, g2, g3⟩
  · exact Or.inl (fun s hs => by rw [h1 _ _ (by omega) (by omega)]; exact g s hs)
  · exact Or.inr ⟨f, g1, zMd_of g2 (fun b k _ _ => h1 b k (by omega) (by omega)), zMl_of g3 (fun b k _ _ => h1 b k (by omega) (by omega))⟩
theorem zFa_of {C C1 : zx_C} {e : Nat} {E : zT} {o : Option (Int × Nat)} (h : zFa C e E o) (h1 : ∀ k, C1.1 (e + 41) k = C.1 (e + 41) k) : zFa C1 e E o := fun vb hvb k hk => by rw [h1]; exact h vb hvb k hk
section
variable {X : zX} {S : zx_S} {C : zx_C} {q : Int32 → zx_C → Prop} {e : Nat} {E : zT}
/-- one order: expected, gone through, how unequal -/
theorem ev130 (hS : zs_4 S e) (hW : zWF E) {R : Nat} (hE : zXE C (e + 1) E) (gg : zGg C e E) (lk : zLk C e E) (h40 : ∀ k, k < mCnt (mOwn E (-1)) 8 → C.1 (e + 40) k = zi (mDg (eN E) (mCnt (mOwn E (-1)) 8) R k)) (K : ∀ C2 : zx_C, zXE C2 (e + 1) E → zGg C2 e E → zLk C2 e E → (∀ k, C2.1 (e + 40) k = C.1 (e + 40) k) → (∀ k, C2.1 (e + 41) k = C.1 (e + 41) k) → zFX C C2 e → q (zi (mUr E (mDg (eN E) (mCnt (mOwn E (-1)) 8) R))) C2) : zCd X 1 132 [.ref (e + 24), .ref (e + 40), .int (zi (mCnt (mOwn E (-1)) 8))] S C (zQv (fun C9 => zCd X 5 120 [.ref e, .ref (e + 24), .int (-1)] S C9 (zQv (fun C10 => zCd X 1 124 [.ref e] S C10 (zQi q))))) := by
  have h8 := mCnt_le (mOwn E (-1)) 8
  have hn := hW.1
  have hDr := zWD_row hW (f := mDg (eN E) (mCnt (mOwn E (-1)) 8) R) (fun k _ => mDg_lt hW.1)
  refine zc_mV (sp132 (zo_4_7 hS) (za_4_12 hS) (by omega) h8) (fun C2 u => ?_)
  obtain ⟨sh, s1, s2, s3, u1, u2, u3, u4, u5⟩ := u
  have hM2 : zMd C2 (e + 24) (dRow E (mDg (eN E) (mCnt (mOwn E (-1)) 8) R)) := by
    refine ⟨fun s k hs hk => ?_, fun s hs => ?_, fun i hi => ?_, u2, ?_, ?_⟩
    · rw [u4 _ _ (by omega) (by omega) (by omega)]; exact gg.1 s k hs hk
    · rw [u4 _ _ (by omega) (by omega) (by omega)]; exact gg.2.1 s hs
    · have hi2 : i < mCnt (mOwn E (-1)) 8 := hi
      rw [u1 i (by omega)]; exact h40 i hi
    · rw [u4 _ _ (by omega) (by omega) (by omega)]; exact gg.2.2.1
    · rw [u4 _ _ (by omega) (by omega) (by omega)]; exact gg.2.2.2.1
  have h5 : ∀ k, C2.1 (e + 24 + 5) k = C.1 (e + 24 + 5) k := fun k => u4 _ _ (by omega) (by omega) (by omega)
  have hl2 : zMl C2 (e + 24) (dRow E (mDg (eN E) (mCnt (mOwn E (-1)) 8) R)) := by
    rcases lk.2 with g | ⟨f, g1, g2, g3⟩
    · refine zMl_0 (fun s hs => ?_) (zMz_of lk.1 (fun k _ => h5 k))
      have g' : C.1 (e + 24 + 6) s = zi 0 := g s hs
      rw [u3 s hs, g']
      by_cases c : sh = 0
      · subst c
        rw [zlx_f (by omega)]
        rfl
      · rw [zlx_t (by omega)]
    · refine zMl_sh (M := dRow E f) (W' := mDg (eN E) (mCnt (mOwn E (-1)) 8) R) (sh := sh) (zWD_row hW g1) rfl g3 (fun t ht => ?_) s1 h5 u3
      show f (mCnt (mOwn E (-1)) 8 - 1 - t) = mDg (eN E) (mCnt (mOwn E (-1)) 8) R (mCnt (mOwn E (-1)) 8 - 1 - t)
      have e1 : C.1 (e + 24 + 4) (mCnt (mOwn E (-1)) 8 - 1 - t) = zi (f (mCnt (mOwn E (-1)) 8 - 1 - t)) := g2.2.2.1 _ (by show mCnt (mOwn E (-1)) 8 - 1 - t < mCnt (mOwn E (-1)) 8; omega)
      have e2 := s3 t ht
      rw [h40 _ (by omega), e1] at e2
      have b1 := g1 (mCnt (mOwn E (-1)) 8 - 1 - t) (by omega)
      have b2 := mDg_lt (n := eN E) (p := mCnt (mOwn E (-1)) 8) (N := R) (i := mCnt (mOwn E (-1)) 8 - 1 - t) hW.1
      rw [zi_eq (by omega) (by omega) (by omega) (by omega)] at e2
      omega
  rw [zi_m1]
  refine zc_mV (sp120 hS (zo_4_7 hS) (Or.inl rfl) (by omega) hDr hDr rfl (fun _ => rfl) (G := mHas E) (fun s hs => by rw [u4 _ _ (by omega) (by omega) (by omega)]; exact gg.2.2.2.2 s hs) ⟨hM2, hl2, hM2, hl2⟩) (fun C3 t => ?_)
  obtain ⟨t1, t2, t3, t4⟩ := t
  have hf3 : zFX C C3 e := ⟨fun b k h1 h2 => by rw [t3 b k h1 (by omega), u4 b k (by omega) (by omega) (by omega)], t4.trans u5⟩
  have hE3 := zFX_E hf3 hE
  rw [sp124 hS hW.1 hE3.1 (fun s hs => t1.2.2 s hs) (fun s _ => by have := mUr_e hW (f := mDg (eN E) (mCnt (mOwn E (-1)) 8) R) (fun k _ => mDg_lt hW.1) s; omega)]
  refine K C3 hE3 ⟨t2.1.1, t2.1.2.1, t2.1.2.2.2.2.1, t2.1.2.2.2.2.2, fun s hs => ?_⟩ ⟨zMl_z t2.2.1, Or.inr ⟨_, fun k _ => mDg_lt hW.1, t2.1, t2.2.1⟩⟩ (fun k => ?_) (fun k => ?_) hf3
  · rw [t3 _ _ (by omega) (by omega), u4 _ _ (by omega) (by omega) (by omega)]; exact gg.2.2.2.2 s hs
  · rw [t3 _ _ (by omega) (by omega), u4 _ _ (by omega) (by omega) (by omega)]
  · rw [t3 _ _ (by omega) (by omega), u4 _ _ (by omega) (by omega) (by omega)]
/-- better than what stood, or not -/
theorem tl130 (hS : zs_4 S e) (hW : zWF E) {R : Nat} {u : Int} (hu : 0 ≤ u ∧ u ≤ 1584) (hR : R < eN E ^ mCnt (mOwn E (-1)) 8) {o : Option (Int × Nat)} (ho : ∀ vb, o = some vb → 0 ≤ vb.1 ∧ vb.1 ≤ 1584 ∧ vb.2 < eN E ^ mCnt (mOwn E (-1)) 8) (h40 : ∀ k, k < mCnt (mOwn E (-1)) 8 → C.1 (e + 40) k = zi (mDg (eN E) (mCnt (mOwn E (-1)) 8) R k)) (hfa : zFa C e E o) (b2 nx : Value) (K : ∀ (C3 : zx_C) (z6 : Value), (∀ b k, b ≠ e + 41 → C3.1 b k = C.1 b k) → C3.2 = C.2 → zFa C3 e E (mBet o u R) → zW X 6 130 39 [.ref e, .int (zi (mCnt (mOwn E (-1)) 8)), b2, .retAddr 1, .int (zi (zLs (mBet o u R))), nx, z6] [] S C3 (zQi q)) : (if (zi u : Int32) < zi (zLs o) then (zCd X 0 39 [.ref (e + 40), .ref (e + 41)] S C (zQv (fun C12 => zW X 6 130 39 [.ref e, .int (zi (mCnt (mOwn E (-1)) 8)), b2, .retAddr 1, .int (zi u), nx, .int (zi u)] [] S C12 (zQi q)))) else (if (zi u : Int32) = zi (zLs o) then (zCd X 1 256 [.ref (e + 40), .ref (e + 41), .int (zi (mCnt (mOwn E (-1)) 8))] S C (zQi (fun r13 C13 => if (r13 : Int32) = 0 then (zW X 6 130 39 [.ref e, .int (zi (mCnt (mOwn E (-1)) 8)), b2, .retAddr 1, .int (zi (zLs o)), nx, .int (zi u)] [] S C13 (zQi q)) else (zCd X 0 39 [.ref (e + 40), .ref (e + 41)] S C13 (zQv (fun C14 => zW X 6 130 39 [.ref e, .int (zi (mCnt (mOwn E (-1)) 8)), b2, .retAddr 1, .int (zi u), nx, .int (zi u)] [] S C14 (zQi q))))))) else (zW X 6 130 39 [.ref e, .int (zi (mCnt (mOwn E (-1)) 8)), b2, .retAddr 1, .int (zi (zLs o)), nx, .int (zi u)] [] S C (zQi q)))) := by
  have h8 := mCnt_le (mOwn E (-1)) 8
  have hn := hW.1
  have take : mBet o u R = some (u, R) → zCd X 0 39 [.ref (e + 40), .ref (e + 41)] S C (zQv (fun C12 => zW X 6 130 39 [.ref e, .int (zi (mCnt (mOwn E (-1)) 8)), b2, .retAddr 1, .int (zi u), nx, .int (zi u)] [] S C12 (zQi q))) := fun hb => by
    refine zc_mV (sp39 (za_4_12 hS) (za_4_13 hS) (by omega) (by omega) (by omega)) (fun C4 v => ?_)
    obtain ⟨v1, v2, v3⟩ := v
    rw [hb] at K
    refine K C4 _ v2 v3 (fun vb hvb k hk => ?_)
    cases hvb
    rw [v1 k (by omega) (by omega)]
    exact h40 k hk
  cases o with
  | none =>
    show if (zi u : Int32) < zi 1000000 then _ else _
    rw [zlt_t (by omega)]
    exact take rfl
  | some vb =>
    have hb := ho vb rfl
    have hm := mBet_s (w := vb) (u := u) (R := R)
    show if (zi u : Int32) < zi vb.1 then _ else (if (zi u : Int32) = zi vb.1 then _ else _)
    have hkeep : mBet (some vb) u R = some vb → ∀ z6 : Value, zW X 6 130 39 [.ref e, .int (zi (mCnt (mOwn E (-1)) 8)), b2, .retAddr 1, .int (zi (zLs (some vb))), nx, z6] [] S C (zQi q) := fun hb z6 => by
      have k1 := K C z6 (fun _ _ _ => rfl) rfl
      rw [hb] at k1
      exact k1 hfa
    by_cases c : u < vb.1
    · rw [zlt_t (by omega)]
      exact take (hm.trans (if_pos (Or.inl c)))
    · rw [zlt_f (by omega)]
      by_cases c2 : u = vb.1
      · rw [zeq_t c2, sp256 (za_4_12 hS) (za_4_13 hS) hW.1 h8 hR hb.2.2 h40 (hfa vb rfl)]
        by_cases c3 : R < vb.2
        · rw [zb_t c3]
          exact take (hm.trans (if_pos (Or.inr ⟨c2, c3⟩)))
        · rw [zb_f c3]
          exact hkeep (hm.trans (if_neg (by omega))) _
      · rw [zeq_f (by omega)]
        exact hkeep (hm.trans (if_neg (by omega))) _
theorem lq130 (hS : zs_4 S e) (hW : zWF E) : ∀ (j N : Nat) (C0 : zx_C) (z6 : Value), N + j = eN E ^ mCnt (mOwn E (-1)) 8 → zXE C0 (e + 1) E → zGg C0 e E → zLk C0 e E → zFa C0 e E (mFx E N) → zW X 6 130 39 [.ref e, .int (zi (mCnt (mOwn E (-1)) 8)), .long (zl ((eN E ^ mCnt (mOwn E (-1)) 8 : Nat) : Int)), .retAddr 1, .int (zi (zLs (mFx E N))), .int (zi N), z6] [] S C0 (zQi (fun r C1 => r = zi (zLs (mFx E (eN E ^ mCnt (mOwn E (-1)) 8))) ∧ zFa C1 e E (mFx E (eN E ^ mCnt (mOwn E (-1)) 8)) ∧ zFX C0 C1 e)) := by
  have h8 := mCnt_le (mOwn E (-1)) 8
  have hnp := npow_b hW.1 h8
  have hn := hW.1
  intro j
  induction j with
  | zero =>
    intro N C0 z6 hN g0 g1 g2 g3
    refine vc130_39 (a1 := 0) hS ?_
    rw [lg_lt, zl_zi (by omega), zl_toInt (by omega), zl_toInt (by omega), if_neg (by omega), show N = eN E ^ mCnt (mOwn E (-1)) 8 by omega]
    rw [show N = eN E ^ mCnt (mOwn E (-1)) 8 by omega] at g3
    exact ⟨rfl, g3, zFX_r _ _⟩
  | succ j ih =>
    intro N C0 z6 hN g0 g1 g2 g3
    refine vc130_39 (a1 := 0) hS ?_
    have hls : 0 ≤ zLs (mFx E N) ∧ zLs (mFx E N) ≤ 1000000 := by
      cases hf : mFx E N with
      | none => show (0 : Int) ≤ 1000000 ∧ (1000000 : Int) ≤ 1000000; omega
      | some vb => have := mFx_b hW hf; show 0 ≤ vb.1 ∧ vb.1 ≤ 1000000; omega
    rw [lg_lt, zl_zi (by omega), zl_toInt (by omega), zl_toInt (by omega), if_pos (by omega), zi_s]
    refine zc_mI (sp131 hS hW.1 h8 (N := N) (by omega) g0.1) (fun r C1 w => ?_)
    obtain ⟨w1, w2, w3, w4⟩ := w
    have hE1 : zXE C1 (e + 1) E := zXE_of g0 (fun b k _ _ => w3 b k (by omega))
    have hf1 : zFX C0 C1 e := ⟨fun b k _ hb => w3 b k (by omega), w4⟩
    have gg1 : zGg C1 e E := zGg_of g1 (fun b k _ _ => w3 b k (by omega))
    have lk1 : zLk C1 e E := zLk_of g2 (fun b k _ _ => w3 b k (by omega))
    have fa1 : zFa C1 e E (mFx E N) := zFa_of g3 (fun k => w3 _ _ (by omega))
    have hR := rvN_lt (n := eN E) (p := mCnt (mOwn E (-1)) 8) (N := N) hW.1
    rw [w1]
    by_cases cE : mEv (eN E) (mCnt (mOwn E (-1)) 8) (mDg (eN E) (mCnt (mOwn E (-1)) 8) (rvN (eN E) (mCnt (mOwn E (-1)) 8) N))
    · have hnx := mFx_t cE
      have hub := mUr_b hW (f := mDg (eN E) (mCnt (mOwn E (-1)) 8) (rvN (eN E) (mCnt (mOwn E (-1)) 8) N)) (fun k _ => mDg_lt hW.1)
      have go := fun q => ev130 (X := X) (C := C1) (q := q) (R := rvN (eN E) (mCnt (mOwn E (-1)) 8) N) hS hW hE1 gg1 lk1 w2
      have ih2 := fun C2 z6 => ih (N + 1) C2 z6 (by omega)
      rw [hnx] at ih2
      have step : zCd X 1 132 [.ref (e + 24), .ref (e + 40), .int (zi (mCnt (mOwn E (-1)) 8))] S C1 (zQv (fun C9 => zCd X 5 120 [.ref e, .ref (e + 24), .int (-1)] S C9 (zQv (fun C10 => zCd X 1 124 [.ref e] S C10 (zQi (fun r11 C11 => if (r11 : Int32) < zi (zLs (mFx E N)) then (zCd X 0 39 [.ref (e + 40), .ref (e + 41)] S C11 (zQv (fun C12 => zW X 6 130 39 [.ref e, .int (zi (mCnt (mOwn E (-1)) 8)), .long (zl ((eN E ^ mCnt (mOwn E (-1)) 8 : Nat) : Int)), .retAddr 1, .int r11, .int (zi ((N + 1 : Nat) : Int)), .int r11] [] S C12 (zQi (fun r C1 => r = zi (zLs (mFx E (eN E ^ mCnt (mOwn E (-1)) 8))) ∧ zFa C1 e E (mFx E (eN E ^ mCnt (mOwn E (-1)) 8)) ∧ zFX C0 C1 e))))) else (if (r11 : Int32) = zi (zLs (mFx E N)) then (zCd X 1 256 [.ref (e + 40), .ref (e + 41), .int (zi (mCnt (mOwn E (-1)) 8))] S C11 (zQi (fun r13 C13 => if (r13 : Int32) = 0 then (zW X 6 130 39 [.ref e, .int (zi (mCnt (mOwn E (-1)) 8)), .long (zl ((eN E ^ mCnt (mOwn E (-1)) 8 : Nat) : Int)), .retAddr 1, .int (zi (zLs (mFx E N))), .int (zi ((N + 1 : Nat) : Int)), .int r11] [] S C13 (zQi (fun r C1 => r = zi (zLs (mFx E (eN E ^ mCnt (mOwn E (-1)) 8))) ∧ zFa C1 e E (mFx E (eN E ^ mCnt (mOwn E (-1)) 8)) ∧ zFX C0 C1 e))) else (zCd X 0 39 [.ref (e + 40), .ref (e + 41)] S C13 (zQv (fun C14 => zW X 6 130 39 [.ref e, .int (zi (mCnt (mOwn E (-1)) 8)), .long (zl ((eN E ^ mCnt (mOwn E (-1)) 8 : Nat) : Int)), .retAddr 1, .int r11, .int (zi ((N + 1 : Nat) : Int)), .int r11] [] S C14 (zQi (fun r C1 => r = zi (zLs (mFx E (eN E ^ mCnt (mOwn E (-1)) 8))) ∧ zFa C1 e E (mFx E (eN E ^ mCnt (mOwn E (-1)) 8)) ∧ zFX C0 C1 e)))))))) else (zW X 6 130 39 [.ref e, .int (zi (mCnt (mOwn E (-1)) 8)), .long (zl ((eN E ^ mCnt (mOwn E (-1)) 8 : Nat) : Int)), .retAddr 1, .int (zi (zLs (mFx E N))), .int (zi ((N + 1 : Nat) : Int)), .int r11] [] S C11 (zQi (fun r C1 => r = zi (zLs (mFx E (eN E ^ mCnt (mOwn E (-1)) 8))) ∧ zFa C1 e E (mFx E (eN E ^ mCnt (mOwn E (-1)) 8)) ∧ zFX C0 C1 e)))))))))) := by
        refine go _ (fun C2 k1 k2 k3 k4 k5 k6 => ?_)
        refine tl130 (C := C2) hS hW hub hR (fun vb hvb => mFx_b hW hvb) (fun k hk => (k4 k).trans (w2 k hk)) (zFa_of fa1 k5) _ _ (fun C3 z6 y1 y2 y3 => ?_)
        have hf3 : zFX C0 C3 e := zFX_t (zFX_t hf1 k6) ⟨fun b k h1 h2 => y1 b k (by omega), y2⟩
        exact zW_mono (ih2 C3 z6 (zXE_of k1 (fun b k _ _ => y1 b k (by omega))) (zGg_of k2 (fun b k _ _ => y1 b k (by omega))) (zLk_of k3 (fun b k _ _ => y1 b k (by omega))) y3) (fun v C5 t => by obtain ⟨y, e1, y1, y2, y3⟩ := t; exact ⟨y, e1, y1, y2, zFX_t hf3 y3⟩)
      rw [zb_t cE]
      by_cases c0 : zLs (mFx E N) = 0
      · rw [if_pos (show zi (zLs (mFx E N)) = 0 by rw [c0]; rfl)]
        obtain ⟨vb, hvb⟩ : ∃ vb, mFx E N = some vb := by
          cases hf : mFx E N with
          | none => rw [hf] at c0; exact absurd c0 (by show ¬ (1000000 : Int) = 0; omega)
          | some vb => exact ⟨vb, rfl⟩
        have hvb2 := mFx_b hW hvb
        rw [sp256 (za_4_12 hS) (za_4_13 hS) hW.1 h8 hR hvb2.2.2 w2 (fa1 vb hvb)]
        by_cases c1 : rvN (eN E) (mCnt (mOwn E (-1)) 8) N < vb.2
        · rw [zb_t c1]
          exact step
        · rw [zb_f c1]
          have hsame : mBet (mFx E N) (mUr E (mDg (eN E) (mCnt (mOwn E (-1)) 8) (rvN (eN E) (mCnt (mOwn E (-1)) 8) N))) (rvN (eN E) (mCnt (mOwn E (-1)) 8) N) = mFx E N := by
            have c0' : vb.1 = 0 := by rw [hvb] at c0; exact c0
            rw [hvb, mBet_s, if_neg (by omega)]
          rw [hsame] at ih2
          exact zW_mono (ih2 C1 z6 hE1 gg1 lk1 fa1) (fun v C5 t => by obtain ⟨y, e1, y1, y2, y3⟩ := t; exact ⟨y, e1, y1, y2, zFX_t hf1 y3⟩)
      · rw [if_neg (show ¬ zi (zLs (mFx E N)) = 0 from fun q => c0 (by rw [zi_0, zi_eq (by omega) (by omega) (by omega) (by omega)] at q; exact q))]
        exact step
    · have hnx := mFx_f cE
      have ih2 := fun C2 z6 => ih (N + 1) C2 z6 (by omega)
      rw [hnx] at ih2
      rw [zb_f cE]
      exact zW_mono (ih2 C1 z6 hE1 gg1 lk1 fa1) (fun v C5 t => by obtain ⟨y, e1, y1, y2, y3⟩ := t; exact ⟨y, e1, y1, y2, zFX_t hf1 y3⟩)
/-- findFairest -/
theorem sp130 (hS : zs_4 S e) (hE : zXE C (e + 1) E) (hz : zZz C e) (hW : zWF E) : zCd X 6 130 [.ref e, .int (zi (mCnt (mOwn E (-1)) 8))] S C (zQi (fun r C1 => r = zi (zLs (mFr E (eN E ^ mCnt (mOwn E (-1)) 8))) ∧ zFa C1 e E (mFr E (eN E ^ mCnt (mOwn E (-1)) 8)) ∧ zFX C C1 e)) := by
  have h8 := mCnt_le (mOwn E (-1)) 8
  have hn := hW.1
  refine vc130 hS ?_
  refine zc_mV (sp38 (zo_4_7 hS) (zo_4_0 hS) (by omega) hE hW) (fun C1 w => ?_)
  obtain ⟨a1, a2, a3, a4, a5, a6, a7⟩ := w
  refine zc_mV (sp49 (zo_4_7 hS)) (fun C2 u => ?_)
  obtain ⟨u1, u2, u3, u4⟩ := u
  have fr : ∀ b k, b ≠ e + 30 → ¬ (b = e + 24 ∧ k = 4) → C2.1 b k = C1.1 b k := fun b k h1 h2 => u3 b k (by omega) (by omega)
  have hE2 : zXE C2 (e + 1) E := zXE_of hE (fun b k _ _ => by rw [fr b k (by omega) (by omega), a6 b k (by omega)])
  have hf : zFX C C2 e := ⟨fun b k _ hb => by rw [fr b k (by omega) (by omega), a6 b k (by omega)], u4.trans a7⟩
  have gg : zGg C2 e E := ⟨fun s k hs hk => by rw [fr _ _ (by omega) (by omega)]; exact a1 s k hs hk, fun s hs => by rw [fr _ _ (by omega) (by omega)]; exact a2 s hs, by rw [fr _ _ (by omega) (by omega)]; exact a4, by rw [fr _ _ (by omega) (by omega)]; exact a5, fun s hs => by rw [fr _ _ (by omega) (by omega)]; exact a3 s hs⟩
  have lk : zLk C2 e E := ⟨(zFX_z hf hz).1, Or.inl u2⟩
  rw [hE2.1, zl_zi (by omega), sp115 (by omega), mPow_zl]
  have h0 : (1000000 : Int32) = zi (zLs (mFx E 0)) := rfl
  rw [h0, ← mFx_all hW]
  exact zW_mono (lq130 hS hW _ 0 C2 _ (Nat.zero_add _) hE2 gg lk (fun vb h => by cases h)) (fun v C2 t => by obtain ⟨y, e1, y1, y2, y3⟩ := t; exact ⟨y, e1, y1, y2, zFX_t hf y3⟩)
end
