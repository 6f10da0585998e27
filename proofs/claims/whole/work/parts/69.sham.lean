/-! THE CALLS, both sides: sham -/
/-- the told worths of one side -/
def mUt (E : zT) (x : Nat) (w : Nat → Int) (s k : Nat) : Int := if s = x then w k else eu E s k
def dSham (E : zT) (x : Nat) (w : Nat → Int) : zD := ((dLaw E (eL E)).1, mUt E x w, (dLaw E (eL E)).2.2)
theorem zWD_sham {E : zT} (hW : zWF E) {x : Nat} {w : Nat → Int} (hw : ∀ k, k < eT E → 0 ≤ w k ∧ w k ≤ 99) : zWD (dSham E x w) := by
  have hD := zWD_law hW (eL E)
  refine ⟨hD.1, hD.2.1, hD.2.2.1, hD.2.2.2.1, hD.2.2.2.2.1, hD.2.2.2.2.2.1, fun s k hs hk => ?_⟩
  have hs2 : s < eN E := hs
  have hk2 : k < eT E := hk
  show 0 ≤ (if s = x then w k else eu E s k) ∧ (if s = x then w k else eu E s k) ≤ 99
  by_cases c : s = x
  · rw [if_pos c]; exact hw k hk2
  · rw [if_neg c]; exact hW.2.2.2.2.2.2.2.2 s k hs2 hk2
theorem mCm_sham {E : zT} {x : Nat} {w : Nat → Int} : mCm E (dLaw E (eL E)) (x : Int) w = mCh (dLaw E (eL E)) (dSham E x w) (x : Int) := by
  funext s m
  unfold mCm mCh
  by_cases c : (s : Int) = (x : Int)
  · rw [if_pos c]
    have : dEye E (dLaw E (eL E)) x w s = dLaw E (eL E) := by
      unfold dEye
      have : mEye E x w s = eu E := by
        funext y k
        exact if_neg (by omega)
      rw [this]
      rfl
    rw [this]
  · rw [if_neg c]
    have : dEye E (dLaw E (eL E)) x w s = dSham E x w := by
      unfold dEye dSham
      have : mEye E x w s = mUt E x w := by
        funext y k
        unfold mEye mUt
        by_cases c2 : y = x
        · rw [if_pos (by omega), if_pos c2]
        · rw [if_neg (by omega), if_neg c2]
      rw [this]
    rw [this]
section
variable {X : zX} {S : zx_S} {C : zx_C} {q : Int32 → zx_C → Prop} {e a : Nat} {D : zDD} {E : zT} {H : zH}
theorem lq134 (hS : zs_4 S e) (hH : zXS C (e + 18) H) (hWH : zWH H) (hW : zWF E) (hE : zXE C (e + 1) E) {s x : Nat} (hs : s < 8) (hx : x < eN E) (hr : 0 ≤ hk H s ∧ hk H s ≤ 4) (hz1 : (eT E : Int) ≤ hz H s) (hU : ∀ y k, y < eN E → k < eT E → C.1 (e + 32) (y * 8 + k) = zi (eu E y k)) (z3 : Value) (i4 : Int32) (K : ∀ C1 : zx_C, (∀ y k, y < eN E → k < eT E → C1.1 (e + 32) (y * 8 + k) = zi (mUt E x (fun k => (hl H s k).toInt) y k)) → (∀ b k, b ≠ e + 32 → C1.1 b k = C.1 b k) → C1.2 = C.2 → zCd X 2 45 [.ref (e + 31), .ref (e + 1), .int (C1.1 (e + 1) 2)] S C1 (zQv (fun C3 => zCd X 5 120 [.ref e, .ref (e + 31), .int (zi x)] S C3 (zQv (fun C4 => zCd X 0 11 [.ref (e + 39), .int (zi x)] S C4 (zQi (fun r5 C5 => q (r5 - i4) C5))))))) : ∀ (j i : Nat) (C0 : zx_C), i + j = eT E → (∀ y k, y < eN E → k < eT E → C0.1 (e + 32) (y * 8 + k) = zi (if y = x ∧ k < i then (hl H s k).toInt else eu E y k)) → (∀ b k, b ≠ e + 32 → C0.1 b k = C.1 b k) → C0.2 = C.2 → zW X 7 134 118 [.ref e, .int (zi x), .int (zi s), z3, .int i4, .int (zi i)] [] S C0 (zQi q) := by
  have hN := hW.1
  have hT := hW.2.1
  intro j
  induction j with
  | zero =>
    intro i C0 hi g1 g2 g3
    refine vc134_118 (a1 := 0) (a2 := 0) hS ?_
    have hE1 : C0.1 (e + 1) 1 = zi (eT E) := by rw [g2 _ _ (by omega)]; exact hE.2.1
    rw [hE1, zlt_f (by omega)]
    refine K C0 (fun y k hy hk => ?_) g2 g3
    rw [g1 y k hy hk]
    unfold mUt
    by_cases c : y = x
    · rw [if_pos ⟨c, by omega⟩, if_pos c]
    · rw [if_neg (fun h => c h.1), if_neg c]
  | succ j ih =>
    intro i C0 hi g1 g2 g3
    refine vc134_118 (a1 := 0) (a2 := 0) hS ?_
    have hE1 : C0.1 (e + 1) 1 = zi (eT E) := by rw [g2 _ _ (by omega)]; exact hE.2.1
    have hH0 : zXS C0 (e + 18) H := zXS_of hH (fun b k _ _ => g2 b k (by omega)) (fun b k _ _ => by rw [g3])
    rw [hE1, zlt_t (by omega), sp23 (zo_4_4 hS) hH0 hWH hs (by omega), show mElem H s (i : Int) = hl H s i from if_pos ⟨by omega, hr.1, hr.2, by omega⟩, l2i, zi_8, zi_mul, zi_add, sp12 (za_1_0 (zo_4_8 hS)) (by omega) (by omega) (by omega), zi_s, show ((x : Int) * 8 + i).toNat = x * 8 + i by omega]
    refine ih (i + 1) _ (by omega) (fun y k hy hk => ?_) (fun b k hb => ?_) g3
    · by_cases c : y = x ∧ k = i
      · rw [if_pos ⟨c.1, by omega⟩, c.1, c.2]
        exact zp_hit _ _ _ _
      · rw [zp_nf (by omega), g1 y k hy hk]
        by_cases c2 : y = x ∧ k < i
        · rw [if_pos c2, if_pos ⟨c2.1, by omega⟩]
        · rw [if_neg c2, if_neg (by omega)]
    · rw [zp_ne (by omega), g2 b k hb]
theorem lq236a (hS : zs_5 S a) (hE : zME C a E) (hW : zWF E) {s : Nat} (hs : s < 8) (x : Int32) (z3 z5 : Value) {f : Nat → Int} (hf : ∀ k, k < eT E → (C.2 (a + 5 + s) k).toInt = f k) (K1 : (∀ k, k < eT E → 0 ≤ f k ∧ f k ≤ 99) → zCd X 34 223 [.ref a, .int (C.1 a 14)] S C (zQv (fun C4 => vp_in x 3 ∧ (zW X 35 236 142 [.ref a, .int x, .int (zi s), z3, .int (C4.1 (a + 34) (Int32.toNatClampNeg x)), .int 0] [] S C4 (zQi q))))) (K2 : ¬ (∀ k, k < eT E → 0 ≤ f k ∧ f k ≤ 99) → zCd X 0 160 [.ref a, .int (-2)] S C (zQi (fun r3 C3 => q ((-10000000) + r3) C3))) : ∀ (j i : Nat), i + j = eT E → (∀ k, k < i → 0 ≤ f k ∧ f k ≤ 99) → zW X 35 236 78 [.ref a, .int x, .int (zi s), z3, .int (zi i), z5] [] S C (zQi q) := by
  have hT := hW.2.1
  intro j
  induction j with
  | zero =>
    intro i hi g1
    refine vc236_78 (a1 := 0) (a2 := 0) hS ?_
    rw [hE.2.1, zlt_f (by omega)]
    exact K1 (fun k hk => g1 k (by omega))
  | succ j ih =>
    intro i hi g1
    refine vc236_78 (a1 := 0) (a2 := 0) hS ?_
    rw [hE.2.1, zlt_t (by omega), zi_s, zi_ix (by omega) (by omega), zi_ix (by omega) (by omega), Int.toNat_natCast, Int.toNat_natCast, sp159, show (0 : Int64).toInt = 0 from rfl, show (99 : Int64).toInt = 99 from rfl, hf i (by omega)]
    refine ⟨zi_in (by omega) (by omega) (by omega), zi_in (by omega) (by omega) (by omega), ?_⟩
    by_cases c : 0 ≤ f i ∧ f i ≤ 99
    · rw [zb_t c]
      refine ih (i + 1) (by omega) (fun k hk => ?_)
      by_cases c2 : k = i
      · subst c2; exact c
      · exact g1 k (by omega)
    · rw [zb_f c]
      exact K2 (fun h => c (h i (by omega)))
theorem lq236b (hS : zs_5 S a) (hE : zME C a E) (hW : zWF E) {s : Nat} (hs : s < 8) (x i4 : Int32) (z3 : Value) {f : Nat → Int} (hf : ∀ k, k < eT E → (C.2 (a + 5 + s) k).toInt = f k) (K : ∀ C1 : zx_C, (∀ k, k < eT E → C1.1 (a + 32) k = zi (f k)) → (∀ b k, b ≠ a + 32 → C1.1 b k = C.1 b k) → C1.2 = C.2 → zCd X 33 224 [.ref a] S (zp C1 a 33 x) (zQv (fun C2 => vp_in x 3 ∧ (q (((Prod.fst (zp C2 a 33 (-1))) (a + 34) (Int32.toNatClampNeg x)) - i4) (zp C2 a 33 (-1)))))) : ∀ (j i : Nat) (C0 : zx_C), i + j = eT E → (∀ k, k < i → C0.1 (a + 32) k = zi (f k)) → (∀ b k, b ≠ a + 32 → C0.1 b k = C.1 b k) → C0.2 = C.2 → zW X 35 236 142 [.ref a, .int x, .int (zi s), z3, .int i4, .int (zi i)] [] S C0 (zQi q) := by
  have hT := hW.2.1
  intro j
  induction j with
  | zero =>
    intro i C0 hi g1 g2 g3
    refine vc236_142 (a1 := 0) (a2 := 0) hS ?_
    have hE1 : C0.1 a 11 = zi (eT E) := by rw [g2 _ _ (by omega)]; exact hE.2.1
    rw [hE1, zlt_f (by omega)]
    exact K C0 (fun k hk => g1 k (by omega)) g2 g3
  | succ j ih =>
    intro i C0 hi g1 g2 g3
    refine vc236_142 (a1 := 0) (a2 := 0) hS ?_
    have hE1 : C0.1 a 11 = zi (eT E) := by rw [g2 _ _ (by omega)]; exact hE.2.1
    rw [hE1, zlt_t (by omega), zi_s, zi_ix (by omega) (by omega), zi_ix (by omega) (by omega), Int.toNat_natCast, Int.toNat_natCast, l2i, g3, hf i (by omega)]
    refine ⟨zi_in (by omega) (by omega) (by omega), zi_in (by omega) (by omega) (by omega), zi_in (by omega) (by omega) (by omega), ih (i + 1) _ (by omega) (fun k hk => ?_) (fun b k hb => ?_) g3⟩
    · by_cases c : k = i
      · subst c; exact zp_hit _ _ _ _
      · rw [zp_nf c]; exact g1 k (by omega)
    · rw [zp_ne hb, g2 b k hb]
theorem z_1e7 (n : Int) : (-10000000 : Int32) + zi n = zi (-10000000 + n) := by
  show zi (-10000000) + zi n = _
  rw [zi_add]
/-- runBy, with what it thinks by -/
theorem sp223b (hS : zs_5 S e) (hE : zME C e E) (hW : zWF E) {l : Nat} (hl : l ≤ 3) : zCd X 34 223 [.ref e, .int (zi l)] S C (zQv (fun C1 => zRm C1 e (mCh (dLaw E l) (dLaw E l) (-1)) (dLaw E l) (mHas E) ∧ zFM C C1 e ∧ C1.1 e 29 = zi l)) := by
  refine vc223 hS (vc171 hS ?_)
  have hE1 : zME (zp (zp C e 29 (zi l)) e 33 (-1)) e E := zME_of hW hE (fun b k hb h2 h3 => by rw [zp_miss _ _ _ _ (by omega), zp_miss _ _ _ _ (by omega)])
  refine zc_mV (sp224 (w := fun _ => 0) (sh := -1) hS hE1 hW (zWD_law hW l) (zWN_law hl (by rw [zp_nf (by omega), zp_hit])) (by omega) (by rw [zp_hit, zi_m1]) (fun h => by omega) (fun h => by omega) rfl rfl rfl rfl rfl) (fun C1 h1 => ?_)
  rw [mCm_law rfl (a := -1)] at h1
  refine ⟨h1.1, ⟨fun b k hb hb2 => ?_, h1.2.2⟩, ?_⟩
  · rw [h1.2.1 b k (by omega) (by omega) (by omega), zp_miss _ _ _ _ (by omega), zp_miss _ _ _ _ (by omega)]
  · rw [h1.2.1 _ _ (by omega) (by omega) (by omega), zp_nf (by omega), zp_hit]
/-- sham -/
theorem cl_sham (hX : zs_4 S e) (hM : zs_5 S a) (hW : zWI D) {x s : Int} (hx : -2147483648 ≤ x ∧ x < 2147483648) (hs : -2147483648 ≤ s ∧ s < 2147483648) : zBI X S e a D 7 134 [.int (zi x), .int (zi s)] 35 236 [.int (zi x), .int (zi s)] := by
  have hWH := hW.2.2.1
  have hN := hW.1.1
  have hT := hW.1.2.1
  have xr : ∀ (n : Int) (C : zx_C), -6 ≤ n ∧ n ≤ -2 → zIX C e D → zCd X 1 10 [.ref e, .int (zi n)] S C (zQi (fun r2 C2 => (-10000000) + r2 = zi (-10000000 + n) ∧ zIX C2 e (zRf D n) ∧ zOut C C2 e (e + 42))) := fun n C hn hI => zc_mI (xrf hX hI hn) (fun r C2 w => ⟨by rw [w.1, z_1e7], w.2⟩)
  have mr : ∀ (n : Int) (C : zx_C), -6 ≤ n ∧ n ≤ -2 → zIM S C a D → zCd X 0 160 [.ref a, .int (zi n)] S C (zQi (fun r2 C2 => (-10000000) + r2 = zi (-10000000 + n) ∧ zIM S C2 a (zRf D n) ∧ zOut C C2 a (a + 295))) := fun n C hn hI => zc_mI (mrf hM hW hI hn) (fun r C2 w => ⟨by rw [w.1, z_1e7], w.2⟩)
  by_cases c1 : 0 ≤ s ∧ s < 8
  · obtain ⟨s, rfl⟩ : ∃ k : Nat, s = k := ⟨s.toNat, by omega⟩
    have hw := hWH s (by omega)
    have hv : vp_in (zi (s : Int)) 8 := zi_in (by omega) (by omega) (by omega)
    by_cases c2 : 0 ≤ x ∧ x < eN (gE D)
    · obtain ⟨x, rfl⟩ : ∃ k : Nat, x = k := ⟨x.toNat, by omega⟩
      have hvx : vp_in (zi (x : Int)) 3 := zi_in (by omega) (by omega) (by omega)
      by_cases c3 : hk (gH D) s = -1
      · refine ⟨zi (-10000000 + -4), zRf D (-4), hW, fun C hI => vc134 hX ?_, fun C hI => vc236 hM ?_⟩
        · rw [sp8 hs, zb_t c1, sp27 (zo_4_0 hX) hI.1 hW.1 hx, zb_t c2, sp19 (zo_4_4 hX) hI.2.2.1 hWH (by omega), if_pos c3, zi_0, if_neg (by decide)]
          exact xr (-4) C (by omega) hI
        · rw [spin (l := 0) (m := 7) hs rfl rfl, zb_t (by omega), sp168 hM hI.1 hW.1 hx, zb_t c2, sp162 hM hI.2.2.1 hWH (by omega), if_pos c3, zi_0, if_neg (by decide)]
          exact mr (-4) C (by omega) hI
      · by_cases c4 : hk (gH D) s ≤ 4
        · by_cases c5 : (eT (gE D) : Int) ≤ hz (gH D) s ∧ ∀ k, k < eT (gE D) → 0 ≤ (hl (gH D) s k).toInt ∧ (hl (gH D) s k).toInt < (100 : Nat)
          · have hw99 : ∀ k, k < eT (gE D) → 0 ≤ (hl (gH D) s k).toInt ∧ (hl (gH D) s k).toInt ≤ 99 := fun k hk => by have := c5.2 k hk; omega
            have hD1 := zWD_law hW.1 (eL (gE D))
            have hD2 := zWD_sham hW.1 (x := x) (w := fun k => (hl (gH D) s k).toInt) hw99
            have hr : 0 ≤ hk (gH D) s ∧ hk (gH D) s ≤ 4 := by omega
            refine ⟨zi (mEnd (mCh (dLaw (gE D) (eL (gE D))) (dSham (gE D) x (fun k => (hl (gH D) s k).toInt)) (x : Int)) (dLaw (gE D) (eL (gE D))) (mHas (gE D)) x (mCnt (dL (dLaw (gE D) (eL (gE D)))) 8) - mEnd (mCh (dLaw (gE D) (eL (gE D))) (dLaw (gE D) (eL (gE D))) (-1)) (dLaw (gE D) (eL (gE D))) (mHas (gE D)) x (mCnt (dL (dLaw (gE D) (eL (gE D)))) 8)), D, hW, fun C hI => vc134 hX ?_, fun C hI => vc236 hM ?_⟩
            · rw [sp8 hs, zb_t c1, sp27 (zo_4_0 hX) hI.1 hW.1 hx, zb_t c2, sp19 (zo_4_4 hX) hI.2.2.1 hWH (by omega), if_neg c3, if_pos c4, zi_0, if_pos rfl, hI.1.2.1, show (100 : Int32) = zi ((100 : Nat) : Int) from rfl, sp77 (zo_4_4 hX) hI.2.2.1 hWH (by omega) (by omega) (by omega) hr, ← zi_0, zb_t c5, hI.1.2.2.1]
              refine zc_mV (sp119 hX hI.1 hI.2.2.2.2.2.2 hW.1 hW.1.2.2.1) (fun C1 w => ?_)
              obtain ⟨w1, w2, w3, w4, w5⟩ := w
              have hI1 := zIX_T hI w5
              rw [sp11 (za_4_11 hX) (by omega) (by omega) (by omega), Int.toNat_natCast, w1.2.2 x (by omega)]
              refine zc_mV (sp38 (zo_4_8 hX) (zo_4_0 hX) (by omega) hI1.1 hW.1) (fun C2 u => ?_)
              obtain ⟨u1, u2, u3, u4, u5, u6, u7⟩ := u
              have hE2 : zXE C2 (e + 1) (gE D) := zXE_of hI1.1 (fun b k _ _ => u6 b k (by omega))
              refine lq134 (C := C2) hX (zXS_of hI1.2.2.1 (fun b k _ _ => u6 b k (by omega)) (fun b k _ _ => by rw [u7])) hWH hW.1 hE2 (by omega) (by omega) hr c5.1 (fun y k hy hk => u1 y k hy hk) _ _ (fun C3 b1 b2 b3 => ?_) (eT (gE D)) 0 C2 (Nat.zero_add _) (fun y k hy hk => by rw [if_neg (by omega)]; exact u1 y k hy hk) (fun _ _ _ => rfl) rfl
              have hE3 : zXE C3 (e + 1) (gE D) := zXE_of hE2 (fun b k _ _ => b2 b k (by omega))
              rw [hE3.2.2.1]
              refine zc_mV (sp45 (zo_4_8 hX) (zo_4_0 hX) (by omega) hE3 hW.1 hW.1.2.2.1) (fun C4 v => ?_)
              obtain ⟨v1, v2, v3, v4, v5⟩ := v
              have fr : ∀ b k, (b < e + 31 ∨ e + 38 ≤ b ∨ b = e + 36) → C4.1 b k = C1.1 b k := fun b k hb => by rw [v4 b k (by omega) (by omega) (by omega), b2 b k (by omega), u6 b k (by omega)]
              have hMd2 : zMd C4 (e + 31) (dSham (gE D) x (fun k => (hl (gH D) s k).toInt)) := by
                refine ⟨fun y k hy hk => ?_, fun y hy => ?_, fun i hi => ?_, v2, ?_, ?_⟩
                · rw [v4 _ _ (by omega) (by omega) (by omega)]; exact b1 y k hy hk
                · rw [v4 _ _ (by omega) (by omega) (by omega), b2 _ _ (by omega)]; exact u2 y hy
                · rw [v1 i hi]
                  have := mAt_b hW.1 (eL (gE D)) (eV (gE D) + i)
                  show _ = zi (((mAt (gE D) (eL (gE D)) (eV (gE D) + i)).toNat : Nat) : Int)
                  rw [Int.toNat_of_nonneg this.1]
                · rw [v4 _ _ (by omega) (by omega) (by omega), b2 _ _ (by omega)]; exact u4
                · rw [v4 _ _ (by omega) (by omega) (by omega), b2 _ _ (by omega)]; exact u5
              refine zc_mV (sp120 hX (zo_4_8 hX) (Or.inr rfl) (by omega) hD1 hD2 rfl (fun h => by omega) (G := mHas (gE D)) (fun t ht => by rw [fr _ _ (by omega)]; exact w4 t ht) ⟨zMd_of w2 (fun b k _ _ => fr b k (by omega)), zMl_of w3 (fun b k _ _ => fr b k (by omega)), hMd2, zMl_0 v3 (zMz_of hI1.2.2.2.2.2.2.2 (fun k _ => fr _ _ (by omega)))⟩) (fun C5 t => ?_)
              obtain ⟨t1, t2, t3, t4⟩ := t
              rw [sp11 (za_4_11 hX) (by omega) (by omega) (by omega), Int.toNat_natCast, t1.2.2 x (by omega), zi_sub]
              have hf : zFX C C5 e := zFX_t w5 ⟨fun b k h1 h2 => by rw [t3 b k h1 (by omega), fr b k (by omega)], by rw [t4, v5, b3, u7]⟩
              exact ⟨rfl, zIX_T hI hf, zFX_out hf⟩
            · have f2 := (hI.2.2.1 s (by omega)).2.1 hr.1 hr.2
              have hf : ∀ k, k < eT (gE D) → (C.2 (a + 5 + s) k).toInt = (hl (gH D) s k).toInt := fun k hk => by rw [f2.2.2.2 k (by omega)]
              rw [spin (l := 0) (m := 7) hs rfl rfl, zb_t (by omega), sp168 hM hI.1 hW.1 hx, zb_t c2, sp162 hM hI.2.2.1 hWH (by omega), if_neg c3, if_pos c4, zi_0, if_pos rfl, zi_ix (by omega) (by omega), Int.toNat_natCast, f2.2.2.1, hI.1.2.1, zlt_f (by omega)]
              refine ⟨hv, lq236a hM hI.1 hW.1 (by omega) _ _ _ hf (fun _ => ?_) (fun h => absurd hw99 h) (eT (gE D)) 0 (Nat.zero_add _) (fun k hk => absurd hk (Nat.not_lt_zero k))⟩
              rw [hI.1.2.2.1]
              refine zc_mV (sp223b hM hI.1 hW.1 hW.1.2.2.1) (fun C1 w => ⟨hvx, ?_⟩)
              obtain ⟨w1, w2, n29⟩ := w
              have hI1 := zIM_T hW hI w2
              have hf1 : ∀ k, k < eT (gE D) → (C1.2 (a + 5 + s) k).toInt = (hl (gH D) s k).toInt := fun k hk => by rw [w2.2]; exact hf k hk
              rw [zi_ix (by omega) (by omega), Int.toNat_natCast, w1.2.2 x (by show x < eN (gE D); omega)]
              refine lq236b (C := C1) hM hI1.1 hW.1 (by omega) _ _ _ hf1 (fun C2 b1 b2 b3 => ?_) (eT (gE D)) 0 C1 (Nat.zero_add _) (fun k hk => absurd hk (Nat.not_lt_zero k)) (fun _ _ _ => rfl) rfl
              have hf2 : zFM C1 (zp C2 a 33 (zi x)) a := ⟨fun b k h1 h2 => by rw [zp_miss _ _ _ _ (by omega), b2 b k (by omega)], b3⟩
              have hE2 := zFM_E hW.1 hf2 hI1.1
              have h29 : (zp C2 a 33 (zi x)).1 a 29 = C1.1 a 29 := by rw [zp_nf (by omega), b2 _ _ (by omega)]
              refine zc_mV (sp224 (sh := (x : Int)) (w := fun k => (hl (gH D) s k).toInt) hM hE2 hW.1 hD1 (zWN_law hW.1.2.2.1 (by rw [h29]; exact n29)) (by omega) (zp_hit _ _ _ _) (fun _ k hk => by rw [zp_ne (by omega)]; exact b1 k hk) (fun _ => hw99) rfl rfl rfl rfl rfl) (fun C3 t => ⟨hvx, ?_⟩)
              obtain ⟨t1, t2, t3⟩ := t
              rw [mCm_sham] at t1
              rw [zi_ix (by omega) (by omega), Int.toNat_natCast, zp_ne (by omega), t1.2.2 x (by show x < eN (gE D); omega), zi_sub]
              have hf3 : zFM C (zp C3 a 33 (-1)) a := zFM_t w2 (zFM_t hf2 ⟨fun b k h1 h2 => by rw [zp_miss _ _ _ _ (by omega), t2 b k (by omega) (by omega) (by omega)], t3⟩)
              exact ⟨rfl, zIM_T hW hI hf3, zFM_out hf3⟩
          · refine ⟨zi (-10000000 + -2), zRf D (-2), hW, fun C hI => vc134 hX ?_, fun C hI => vc236 hM ?_⟩
            · rw [sp8 hs, zb_t c1, sp27 (zo_4_0 hX) hI.1 hW.1 hx, zb_t c2, sp19 (zo_4_4 hX) hI.2.2.1 hWH (by omega), if_neg c3, if_pos c4, z_m2, zi_0, if_pos rfl, hI.1.2.1, show (100 : Int32) = zi ((100 : Nat) : Int) from rfl, sp77 (zo_4_4 hX) hI.2.2.1 hWH (by omega) (by omega) (by omega) (by omega), ← zi_0, zb_f c5]
              exact xr (-2) C (by omega) hI
            · have f2 := (hI.2.2.1 s (by omega)).2.1 (by omega) (by omega)
              rw [spin (l := 0) (m := 7) hs rfl rfl, zb_t (by omega), sp168 hM hI.1 hW.1 hx, zb_t c2, sp162 hM hI.2.2.1 hWH (by omega), if_neg c3, if_pos c4, z_m2, zi_0, if_pos rfl, zi_ix (by omega) (by omega), Int.toNat_natCast, f2.2.2.1, hI.1.2.1]
              refine ⟨hv, ?_⟩
              by_cases c6 : hz (gH D) s < eT (gE D)
              · rw [zlt_t (by omega)]; exact mr (-2) C (by omega) hI
              · rw [zlt_f (by omega)]
                have hf : ∀ k, k < eT (gE D) → (C.2 (a + 5 + s) k).toInt = (hl (gH D) s k).toInt := fun k hk => by rw [f2.2.2.2 k (by omega)]
                exact lq236a hM hI.1 hW.1 (by omega) _ _ _ hf (fun h => absurd ⟨by omega, fun k hk => by have := h k hk; omega⟩ c5) (fun _ => mr (-2) C (by omega) hI) (eT (gE D)) 0 (Nat.zero_add _) (fun k hk => absurd hk (Nat.not_lt_zero k))
        · refine ⟨zi (-10000000 + -3), zRf D (-3), hW, fun C hI => vc134 hX ?_, fun C hI => vc236 hM ?_⟩
          · rw [sp8 hs, zb_t c1, sp27 (zo_4_0 hX) hI.1 hW.1 hx, zb_t c2, sp19 (zo_4_4 hX) hI.2.2.1 hWH (by omega), if_neg c3, if_neg c4, zi_0, if_neg (by decide)]
            exact xr (-3) C (by omega) hI
          · rw [spin (l := 0) (m := 7) hs rfl rfl, zb_t (by omega), sp168 hM hI.1 hW.1 hx, zb_t c2, sp162 hM hI.2.2.1 hWH (by omega), if_neg c3, if_neg c4, zi_0, if_neg (by decide)]
            exact mr (-3) C (by omega) hI
    · refine ⟨zi (-10000000 + -2), zRf D (-2), hW, fun C hI => vc134 hX ?_, fun C hI => vc236 hM ?_⟩
      · rw [sp8 hs, zb_t c1, sp27 (zo_4_0 hX) hI.1 hW.1 hx, zb_f c2, z_m2]; exact xr (-2) C (by omega) hI
      · rw [spin (l := 0) (m := 7) hs rfl rfl, zb_t (by omega), sp168 hM hI.1 hW.1 hx, zb_f c2, z_m2]; exact mr (-2) C (by omega) hI
  · refine ⟨zi (-10000000 + -2), zRf D (-2), hW, fun C hI => vc134 hX ?_, fun C hI => vc236 hM ?_⟩
    · rw [sp8 hs, zb_f c1, z_m2]; exact xr (-2) C (by omega) hI
    · rw [spin (l := 0) (m := 7) hs rfl rfl, zb_f (by omega), z_m2]; exact mr (-2) C (by omega) hI
end
