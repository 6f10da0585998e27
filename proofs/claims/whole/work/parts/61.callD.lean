/-! THE CALLS, both sides: rival, takes, says, run, gets, unequal, best, game, opening -/
theorem dEye_law {E : zT} {l : Nat} {w : Nat → Int} {y : Nat} : dEye E (dLaw E l) (-1) w y = dLaw E l := by
  unfold dEye
  have : mEye E (-1) w y = eu E := by
    funext x k
    exact if_neg (by omega)
  rw [this]
  rfl
theorem zWD_first {M : zD} (hD : zWD M) {s : Nat} (hs : s < dN M) : zWD (dFirst M s) := by
  refine ⟨hD.1, hD.2.1, hD.2.2.1, hD.2.2.2.1, fun i hi => ?_, hD.2.2.2.2.2.1, hD.2.2.2.2.2.2⟩
  show (if i = 0 then s else dW M i) < dN M
  by_cases c : i = 0
  · rw [if_pos c]; exact hs
  · rw [if_neg c]; exact hD.2.2.2.2.1 i hi
section
variable {X : zX} {S : zx_S} {C : zx_C} {q : Int32 → zx_C → Prop} {e a : Nat} {D : zDD} {E : zT}
theorem zTN_law (hS : zs_5 S a) (hE : zME C a E) (hW : zWF E) {l : Nat} (hl : l ≤ 3) (h29 : C.1 a 29 = zi l) (h33 : C.1 a 33 = zi (-1)) {y : Nat} (hy : y < eN E) : zTN X S C a (eV E) (dLaw E l) 0 y := by
  have := zTN_of (X := X) (M := dLaw E l) (sh := -1) (w := fun _ => 0) hS hE hW (zWN_law hl h29) hW.2.2.2.1 (by omega) h33 (fun h => by omega) rfl rfl rfl hy
  rwa [dEye_law] at this
theorem zTN_first {V s y : Nat} {M : zD} (h : zTN X S C a V M 0 y) : zTN X S C a V (dFirst M s) 1 y := by
  refine ⟨h.1, h.2.1, h.2.2.1, h.2.2.2.1, fun j hj h32 q => ?_⟩
  have := h.2.2.2.2 j (by omega) h32 q
  show _ = q (zi (if j < dC M then (((if j = 0 then s else dW M j) : Nat) : Int) else -1)) C
  rw [if_neg (show ¬ j = 0 by omega)]
  exact this
theorem zFM_begin {v w : Int32} : zFM C (zp (zp C a 29 v) a 33 w) a := ⟨fun b k h1 h2 => by rw [zp_miss _ _ _ _ (by omega), zp_miss _ _ _ _ (by omega)], rfl⟩
/-- what a side takes now, of the model, once begun -/
theorem mtake (hS : zs_5 S a) (hE : zME C a E) (hW : zWF E) (h29 : C.1 a 29 = zi (eL E)) (h33 : C.1 a 33 = zi (-1)) {s : Nat} {b : Int} (hs : s < eN E) (hb : 0 ≤ b ∧ b ≤ 5) : zCd X 32 173 [.ref a, .int (zi s), .int (zi s), .int (zi b), .int (zi (mOwn E (-1))), .int (zi (eV E))] S C (zQi q) = q (zi (zo (mChoose (dFirst (dLaw E (eL E)) s) s b (mOwn E (-1))))) C := by
  have h1 := zTN_first (s := s) (zTN_law (X := X) hS hE hW hW.2.2.1 h29 h33 hs)
  have ht : mTurn (dFirst (dLaw E (eL E)) s) (mOwn E (-1)) = 0 := by
    show mCnt (mOwn E (-1)) 8 - mCnt (mOwn E (-1)) 8 = 0
    omega
  have h2 := sp173c (X := X) (S := S) (C := C) (q := q) hS h1 (zWD_first (zWD_law hW (eL E)) hs) (m := mOwn E (-1)) (b := b) hs hb (mSub_r _) (by omega)
  rw [ht] at h2
  exact h2
/-- rival -/
theorem cl_rival (hX : zs_4 S e) (hM : zs_5 S a) (hW : zWI D) {s : Int} (hs : -2147483648 ≤ s ∧ s < 2147483648) : zBI X S e a D 3 116 [.int (zi s)] 3 220 [.int (zi s)] := by
  have hn := hW.1.1
  by_cases c1 : 0 ≤ s ∧ s < eN (gE D)
  · obtain ⟨s, rfl⟩ : ∃ y : Nat, s = y := ⟨s.toNat, by omega⟩
    refine ⟨zi (zo (mRv (dLaw (gE D) (eL (gE D))) s 0)), D, hW, fun C hI => vc116 hX ?_, fun C hI => vc220 hM ?_⟩
    · rw [sp27 (zo_4_0 hX) hI.1 hW.1 hs, zb_t c1]
      have h := sq116 (X := X) hX hI.1 hW.1 (s := s) (by omega)
      refine zc_mV h (fun C1 h1 => zc_mI h1 (fun r C3 w => ⟨w.1, zIX_T hI w.2, zFX_out w.2⟩))
    · rw [sp168 hM hI.1 hW.1 hs, zb_t c1, hI.1.2.2.1]
      refine vc171 hM ?_
      have hf : zFM C (zp (zp C a 29 (zi (eL (gE D)))) a 33 (-1)) a := zFM_begin
      have hE1 := zFM_E hW.1 hf hI.1
      have h1 := zTN_law (X := X) hM hE1 hW.1 hW.1.2.2.1 (by rw [zp_nf (by omega), zp_hit]) (by rw [zp_hit, zi_m1]) (y := s) (by omega)
      have h2 := fun q => sp179 (X := X) (S := S) (q := q) hM h1 (zWD_law hW.1 _) (s := s) (i := 0) (by omega) (by omega) (by omega)
      rw [Nat.add_zero] at h2
      rw [hE1.2.2.2.1, h2]
      exact ⟨rfl, zIM_T hW hI hf, zFM_out hf⟩
  · refine ⟨zi (-2), zRf D (-2), hW, fun C hI => vc116 hX ?_, fun C hI => vc220 hM ?_⟩
    · rw [sp27 (zo_4_0 hX) hI.1 hW.1 hs, zb_f c1, z_m2]; exact xrf hX hI (by omega)
    · rw [sp168 hM hI.1 hW.1 hs, zb_f c1, z_m2]; exact mrf hM hW hI (by omega)
/-- takes -/
theorem cl_takes (hX : zs_4 S e) (hM : zs_5 S a) (hW : zWI D) {s : Int} (hs : -2147483648 ≤ s ∧ s < 2147483648) : zBI X S e a D 6 117 [.int (zi s)] 33 221 [.int (zi s)] := by
  have hn := hW.1.1
  have hlt := mOwn_lt hW.1 (-1)
  by_cases c1 : 0 ≤ s ∧ s < eN (gE D)
  · obtain ⟨s, rfl⟩ : ∃ y : Nat, s = y := ⟨s.toNat, by omega⟩
    by_cases c2 : mOwn (gE D) (-1) = 0
    · refine ⟨zi (-5), zRf D (-5), hW, fun C hI => vc117 hX ?_, fun C hI => vc221 hM ?_⟩
      · rw [sp27 (zo_4_0 hX) hI.1 hW.1 hs, zb_t c1, zi_m1, sp43 (zo_4_0 hX) hI.1 hW.1 (by omega), zi_0, zeq_t (by omega), z_m5]; exact xrf hX hI (by omega)
      · rw [sp168 hM hI.1 hW.1 hs, zb_t c1, sp172 hM hI.1 hW.1, zi_0, zeq_t (by omega), z_m5]; exact mrf hM hW hI (by omega)
    · have hB := hW.1.2.2.2.2.2.2.1 s (by omega)
      have hvs : vp_in (zi (s : Int)) 3 := zi_in (by omega) (by omega) (by omega)
      refine ⟨zi (zo (mChoose (dFirst (dLaw (gE D) (eL (gE D))) s) s (eb (gE D) s) (mOwn (gE D) (-1)))), D, hW, fun C hI => vc117 hX ?_, fun C hI => vc221 hM ?_⟩
      · rw [sp27 (zo_4_0 hX) hI.1 hW.1 hs, zb_t c1, zi_m1, sp43 (zo_4_0 hX) hI.1 hW.1 (by omega), zi_0, zeq_f (by omega), sp29 (zo_4_0 hX) hI.1 (by omega)]
        refine zc_mI (sp37 hX hI.1 hI.2.2.2.2.2.2 hW.1 (by omega) hB) (fun r C3 w => ⟨w.1, zIX_T hI w.2, zFX_out w.2⟩)
      · rw [sp168 hM hI.1 hW.1 hs, zb_t c1, sp172 hM hI.1 hW.1, zi_0, zeq_f (by omega), hI.1.2.2.1]
        refine vc171 hM ⟨hvs, ?_⟩
        have hf : zFM C (zp (zp C a 29 (zi (eL (gE D)))) a 33 (-1)) a := zFM_begin
        have hE1 := zFM_E hW.1 hf hI.1
        rw [sp172 hM hE1 hW.1, zi_ix (by omega) (by omega), Int.toNat_natCast, hE1.2.2.2.2.2.2.2.1 s (by omega), hE1.2.2.2.1, mtake hM hE1 hW.1 (by rw [zp_nf (by omega), zp_hit]) (by rw [zp_hit, zi_m1]) (by omega) hB]
        exact ⟨rfl, zIM_T hW hI hf, zFM_out hf⟩
  · refine ⟨zi (-2), zRf D (-2), hW, fun C hI => vc117 hX ?_, fun C hI => vc221 hM ?_⟩
    · rw [sp27 (zo_4_0 hX) hI.1 hW.1 hs, zb_f c1, z_m2]; exact xrf hX hI (by omega)
    · rw [sp168 hM hI.1 hW.1 hs, zb_f c1, z_m2]; exact mrf hM hW hI (by omega)
/-- run -/
theorem cl_run (hX : zs_4 S e) (hM : zs_5 S a) (hW : zWI D) {l i : Int} (hl : -2147483648 ≤ l ∧ l < 2147483648) (hi : -2147483648 ≤ i ∧ i < 2147483648) : zBI X S e a D 7 118 [.int (zi l), .int (zi i)] 35 222 [.int (zi l), .int (zi i)] := by
  have hlt := mOwn_lt hW.1 (-1)
  have hc8 := mCnt_le (mOwn (gE D) (-1)) 8
  by_cases c1 : 0 ≤ l ∧ l ≤ 3
  · obtain ⟨l, rfl⟩ : ∃ y : Nat, l = y := ⟨l.toNat, by omega⟩
    by_cases c2 : i < 0
    · refine ⟨zi (-2), zRf D (-2), hW, fun C hI => vc118 hX ?_, fun C hI => vc222 hM ?_⟩
      · rw [sp75 hl, zb_t c1, zi_0, z_m2, zlt_t (by omega)]; exact xrf hX hI (by omega)
      · rw [spin (l := 0) (m := 3) hl rfl rfl, zb_t (by omega), zi_0, z_m2, zlt_t (by omega)]; exact mrf hM hW hI (by omega)
    · by_cases c3 : i < mCnt (mOwn (gE D) (-1)) 8
      · obtain ⟨i, rfl⟩ : ∃ y : Nat, i = y := ⟨i.toNat, by omega⟩
        refine ⟨zi (zo (mTak (mCh (dLaw (gE D) l) (dLaw (gE D) l) (-1)) (dLaw (gE D) l) i)), D, hW, fun C hI => vc118 hX ?_, fun C hI => vc222 hM ?_⟩
        · rw [sp75 hl, zb_t c1, zi_0, zlt_f (by omega), zi_m1, sp43 (zo_4_0 hX) hI.1 hW.1 (by omega), sp44 hlt, zlt_t (by omega)]
          refine zc_mV (sp119 hX hI.1 hI.2.2.2.2.2.2 hW.1 (by omega)) (fun C1 w => ?_)
          rw [sp11 (za_4_9 hX) (by omega) (by omega) (by omega), Int.toNat_natCast]
          exact ⟨w.1.1 i (by show i < mCnt (mOwn (gE D) (-1)) 8; omega), zIX_T hI w.2.2.2.2, zFX_out w.2.2.2.2⟩
        · rw [spin (l := 0) (m := 3) hl rfl rfl, zb_t (by omega), zi_0, zlt_f (by omega), sp172 hM hI.1 hW.1, sp183 hlt, zlt_t (by omega)]
          refine zc_mV (sp223 hM hI.1 hW.1 (by omega)) (fun C1 w => ⟨zi_in (by omega) (by omega) (by omega), ?_⟩)
          rw [zi_ix (by omega) (by omega), Int.toNat_natCast]
          exact ⟨w.1.1 i (by show i < mCnt (mOwn (gE D) (-1)) 8; omega), zIM_T hW hI w.2, zFM_out w.2⟩
      · refine ⟨zi (-5), zRf D (-5), hW, fun C hI => vc118 hX ?_, fun C hI => vc222 hM ?_⟩
        · rw [sp75 hl, zb_t c1, zi_0, z_m5, zlt_f (by omega), zi_m1, sp43 (zo_4_0 hX) hI.1 hW.1 (by omega), sp44 hlt, zlt_f (by omega)]; exact xrf hX hI (by omega)
        · rw [spin (l := 0) (m := 3) hl rfl rfl, zb_t (by omega), zi_0, z_m5, zlt_f (by omega), sp172 hM hI.1 hW.1, sp183 hlt, zlt_f (by omega)]; exact mrf hM hW hI (by omega)
  · refine ⟨zi (-2), zRf D (-2), hW, fun C hI => vc118 hX ?_, fun C hI => vc222 hM ?_⟩
    · rw [sp75 hl, zb_f c1, z_m2]; exact xrf hX hI (by omega)
    · rw [spin (l := 0) (m := 3) hl rfl rfl, zb_f (by omega), z_m2]; exact mrf hM hW hI (by omega)
/-- gets -/
theorem cl_gets (hX : zs_4 S e) (hM : zs_5 S a) (hW : zWI D) {l s : Int} (hl : -2147483648 ≤ l ∧ l < 2147483648) (hs : -2147483648 ≤ s ∧ s < 2147483648) : zBI X S e a D 7 122 [.int (zi l), .int (zi s)] 35 225 [.int (zi l), .int (zi s)] := by
  have hn := hW.1.1
  by_cases c1 : 0 ≤ l ∧ l ≤ 3
  · obtain ⟨l, rfl⟩ : ∃ y : Nat, l = y := ⟨l.toNat, by omega⟩
    by_cases c2 : 0 ≤ s ∧ s < eN (gE D)
    · obtain ⟨s, rfl⟩ : ∃ y : Nat, s = y := ⟨s.toNat, by omega⟩
      refine ⟨zi (mEnd (mCh (dLaw (gE D) l) (dLaw (gE D) l) (-1)) (dLaw (gE D) l) (mHas (gE D)) s (mCnt (dL (dLaw (gE D) l)) 8)), D, hW, fun C hI => vc122 hX ?_, fun C hI => vc225 hM ?_⟩
      · rw [sp75 hl, zb_t c1, sp27 (zo_4_0 hX) hI.1 hW.1 hs, zb_t c2]
        refine zc_mV (sp119 hX hI.1 hI.2.2.2.2.2.2 hW.1 (by omega)) (fun C1 w => ?_)
        rw [sp11 (za_4_11 hX) (by omega) (by omega) (by omega), Int.toNat_natCast]
        exact ⟨w.1.2.2 s (by omega), zIX_T hI w.2.2.2.2, zFX_out w.2.2.2.2⟩
      · rw [spin (l := 0) (m := 3) hl rfl rfl, zb_t (by omega), sp168 hM hI.1 hW.1 hs, zb_t c2]
        refine zc_mV (sp223 hM hI.1 hW.1 (by omega)) (fun C1 w => ⟨zi_in (by omega) (by omega) (by omega), ?_⟩)
        rw [zi_ix (by omega) (by omega), Int.toNat_natCast]
        exact ⟨w.1.2.2 s (by show s < eN (gE D); omega), zIM_T hW hI w.2, zFM_out w.2⟩
    · refine ⟨zi (-2), zRf D (-2), hW, fun C hI => vc122 hX ?_, fun C hI => vc225 hM ?_⟩
      · rw [sp75 hl, zb_t c1, sp27 (zo_4_0 hX) hI.1 hW.1 hs, zb_f c2, z_m2]; exact xrf hX hI (by omega)
      · rw [spin (l := 0) (m := 3) hl rfl rfl, zb_t (by omega), sp168 hM hI.1 hW.1 hs, zb_f c2, z_m2]; exact mrf hM hW hI (by omega)
  · refine ⟨zi (-2), zRf D (-2), hW, fun C hI => vc122 hX ?_, fun C hI => vc225 hM ?_⟩
    · rw [sp75 hl, zb_f c1, z_m2]; exact xrf hX hI (by omega)
    · rw [spin (l := 0) (m := 3) hl rfl rfl, zb_f (by omega), z_m2]; exact mrf hM hW hI (by omega)
/-- how unequal a run by a law is -/
def mUn (E : zT) (l : Nat) : Int := mSpread (fun s => mEnd (mCh (dLaw E l) (dLaw E l) (-1)) (dLaw E l) (mHas E) s (mCnt (dL (dLaw E l)) 8)) (eN E)
theorem mUe_b {E : zT} (hW : zWF E) (l s : Nat) : 0 ≤ mEnd (mCh (dLaw E l) (dLaw E l) (-1)) (dLaw E l) (mHas E) s (mCnt (dL (dLaw E l)) 8) ∧ mEnd (mCh (dLaw E l) (dLaw E l) (-1)) (dLaw E l) (mHas E) s (mCnt (dL (dLaw E l)) 8) ≤ 1584 :=
  mEnd_b (zWD_law hW l) (fun s m hm h0 => mCh_some hm h0) (mHas_b hW)
theorem mUn_b {E : zT} (hW : zWF E) (l : Nat) : 0 ≤ mUn E l ∧ mUn E l ≤ 1584 :=
  mSpread_b (fun k _ => mUe_b hW l k) (by have := hW.1; omega)
/-- a run by a law, then how unequal: the class -/
theorem xun (hS : zs_4 S e) (hE : zXE C (e + 1) E) (hz : zZz C e) (hW : zWF E) {l : Nat} (hl : l ≤ 3) : zCd X 6 119 [.ref e, .int (zi l)] S C (zQv (fun C1 => zCd X 1 124 [.ref e] S C1 (zQi (fun r C2 => r = zi (mUn E l) ∧ zFX C C2 e)))) := by
  refine zc_mV (sp119 hS hE hz hW hl) (fun C1 w => ?_)
  rw [sp124 hS hW.1 (zFX_E w.2.2.2.2 hE).1 (fun s hs => w.1.2.2 s hs) (fun s _ => by have := mUe_b hW l s; omega)]
  exact ⟨rfl, w.2.2.2.2⟩
/-- .. the model -/
theorem mun (hS : zs_5 S a) (hE : zME C a E) (hW : zWF E) {l : Nat} (hl : l ≤ 3) : zCd X 34 223 [.ref a, .int (zi l)] S C (zQv (fun C1 => zCd X 0 227 [.ref a] S C1 (zQi (fun r C2 => r = zi (mUn E l) ∧ zFM C C2 a)))) := by
  refine zc_mV (sp223 hS hE hW hl) (fun C1 w => ?_)
  rw [sp227 hS hW.1 (zFM_E hW w.2 hE).1 (fun s hs => w.1.2.2 s hs) (fun s _ => by have := mUe_b hW l s; omega)]
  exact ⟨rfl, w.2⟩
/-- unequal -/
theorem cl_unequal (hX : zs_4 S e) (hM : zs_5 S a) (hW : zWI D) {l : Int} (hl : -2147483648 ≤ l ∧ l < 2147483648) : zBI X S e a D 7 123 [.int (zi l)] 35 226 [.int (zi l)] := by
  by_cases c1 : 0 ≤ l ∧ l ≤ 3
  · obtain ⟨l, rfl⟩ : ∃ y : Nat, l = y := ⟨l.toNat, by omega⟩
    refine ⟨zi (mUn (gE D) l), D, hW, fun C hI => vc123 hX ?_, fun C hI => vc226 hM ?_⟩
    · rw [sp75 hl, zb_t c1]
      refine zc_mV (xun hX hI.1 hI.2.2.2.2.2.2 hW.1 (by omega)) (fun C1 w => zc_mI w (fun r C2 w => ⟨w.1, zIX_T hI w.2, zFX_out w.2⟩))
    · rw [spin (l := 0) (m := 3) hl rfl rfl, zb_t (by omega)]
      refine zc_mV (mun hM hI.1 hW.1 (by omega)) (fun C1 w => zc_mI w (fun r C2 w => ⟨w.1, zIM_T hW hI w.2, zFM_out w.2⟩))
  · refine ⟨zi (-2), zRf D (-2), hW, fun C hI => vc123 hX ?_, fun C hI => vc226 hM ?_⟩
    · rw [sp75 hl, zb_f c1, z_m2]; exact xrf hX hI (by omega)
    · rw [spin (l := 0) (m := 3) hl rfl rfl, zb_f (by omega), z_m2]; exact mrf hM hW hI (by omega)
/-- the least unequal law of the first n, and how unequal -/
def mBl (E : zT) : Nat → Nat × Int
  | 0 => (0, 1000000)
  | n + 1 => if mUn E n < (mBl E n).2 then (n, mUn E n) else mBl E n
theorem mBl_b {E : zT} (hW : zWF E) (n : Nat) : (mBl E n).1 ≤ n ∧ 0 ≤ (mBl E n).2 ∧ (mBl E n).2 ≤ 1000000 := by
  induction n with
  | zero => exact ⟨Nat.le_refl 0, (by decide : (0 : Int) ≤ 1000000), Int.le_refl 1000000⟩
  | succ n ih =>
    have := mUn_b hW n
    simp only [mBl]
    split
    · exact ⟨by show n ≤ n + 1; omega, by show 0 ≤ mUn E n; omega, by show mUn E n ≤ 1000000; omega⟩
    · omega
theorem lq133 (hS : zs_4 S e) (hW : zWF E) : ∀ (j i : Nat) (C0 : zx_C) (z4 : Value), i + j = 4 → zXE C0 (e + 1) E → zZz C0 e → zW X 7 133 8 [.ref e, .int (zi (mBl E i).1), .int (zi (mBl E i).2), .int (zi i), z4] [] S C0 (zQi (fun r C1 => r = zi (mBl E 4).1 ∧ zFX C0 C1 e)) := by
  intro j
  induction j with
  | zero =>
    intro i C0 z4 hi g gz
    refine vc133_8 hS ?_
    rw [zi_3, zlt_t (by omega), show i = 4 by omega]
    exact ⟨rfl, zFX_r _ _⟩
  | succ j ih =>
    intro i C0 z4 hi g gz
    refine vc133_8 hS ?_
    rw [zi_3, zlt_f (by omega)]
    refine zc_mV (xun hS g gz hW (l := i) (by omega)) (fun C1 w => zc_mI w (fun r C2 w => ?_))
    have hb := mBl_b hW i
    have hu := mUn_b hW i
    have ih2 := fun z4 => ih (i + 1) C2 z4 (by omega) (zFX_E w.2 g) (zFX_z w.2 gz)
    simp only [mBl] at ih2
    rw [w.1, zlt_i (by omega), zi_s]
    by_cases c : mUn E i < (mBl E i).2
    · rw [if_pos c]
      simp only [if_pos c] at ih2
      exact zW_mono (ih2 _) (fun v C3 u => by obtain ⟨y, e1, u1, u2⟩ := u; exact ⟨y, e1, u1, zFX_t w.2 u2⟩)
    · rw [if_neg c]
      simp only [if_neg c] at ih2
      exact zW_mono (ih2 _) (fun v C3 u => by obtain ⟨y, e1, u1, u2⟩ := u; exact ⟨y, e1, u1, zFX_t w.2 u2⟩)
theorem lq228 (hS : zs_5 S a) (hW : zWF E) : ∀ (j i : Nat) (C0 : zx_C) (v : Int) (z4 : Value), i + j = 4 → (0 < i → v = (mBl E i).2) → zME C0 a E → zW X 35 228 6 [.ref a, .int (zi (mBl E i).1), .int (zi v), .int (zi i), z4] [] S C0 (zQi (fun r C1 => r = zi (mBl E 4).1 ∧ zFM C0 C1 a)) := by
  intro j
  induction j with
  | zero =>
    intro i C0 v z4 hi hv g
    refine vc228_6 hS ?_
    rw [zi_4, zlt_f (by omega), show i = 4 by omega]
    exact ⟨rfl, zFM_r _ _⟩
  | succ j ih =>
    intro i C0 v z4 hi hv g
    refine vc228_6 hS ?_
    rw [zi_4, zlt_t (by omega)]
    refine zc_mV (mun hS g hW (l := i) (by omega)) (fun C1 w => zc_mI w (fun r C2 w => ?_))
    have hb := mBl_b hW i
    have hu := mUn_b hW i
    have ih2 := fun v z4 hv => ih (i + 1) C2 v z4 (by omega) hv (zFM_E hW w.2 g)
    simp only [mBl] at ih2
    rw [w.1, zi_0, zeq_i (by omega), zi_s]
    by_cases c0 : (i : Int) = 0
    · have hi0 : i = 0 := by omega
      subst hi0
      have c : mUn E 0 < (mBl E 0).2 := by
        show mUn E 0 < 1000000
        omega
      rw [if_pos c0]
      simp only [if_pos c] at ih2
      exact zW_mono (ih2 _ _ (fun _ => rfl)) (fun v C3 u => by obtain ⟨y, e1, u1, u2⟩ := u; exact ⟨y, e1, u1, zFM_t w.2 u2⟩)
    · have hv2 := hv (by omega)
      rw [if_neg c0, hv2, zlt_i (by omega)]
      by_cases c : mUn E i < (mBl E i).2
      · rw [if_pos c]
        simp only [if_pos c] at ih2
        exact zW_mono (ih2 _ _ (fun _ => rfl)) (fun v C3 u => by obtain ⟨y, e1, u1, u2⟩ := u; exact ⟨y, e1, u1, zFM_t w.2 u2⟩)
      · rw [if_neg c]
        simp only [if_neg c] at ih2
        exact zW_mono (ih2 _ _ (fun _ => rfl)) (fun v C3 u => by obtain ⟨y, e1, u1, u2⟩ := u; exact ⟨y, e1, u1, zFM_t w.2 u2⟩)
/-- best -/
theorem cl_best (hX : zs_4 S e) (hM : zs_5 S a) (hW : zWI D) : zBI X S e a D 7 133 [] 35 228 [] := by
  refine ⟨zi (mBl (gE D) 4).1, D, hW, fun C hI => vc133 hX ?_, fun C hI => vc228 hM ?_⟩
  · exact zW_mono (lq133 hX hW.1 4 0 C _ (by omega) hI.1 hI.2.2.2.2.2.2) (fun v C3 u => by obtain ⟨y, e1, u1, u2⟩ := u; exact ⟨y, e1, u1, zIX_T hI u2, zFX_out u2⟩)
  · exact zW_mono (lq228 hM hW.1 4 0 C 0 _ (by omega) (fun h => by omega) hI.1) (fun v C3 u => by obtain ⟨y, e1, u1, u2⟩ := u; exact ⟨y, e1, u1, zIM_T hW hI u2, zFM_out u2⟩)
/-- opening -/
theorem cl_opening (hX : zs_4 S e) (hM : zs_5 S a) (hW : zWI D) {l : Int} (hl : -2147483648 ≤ l ∧ l < 2147483648) : zBI X S e a D 5 128 [.int (zi l)] 33 232 [.int (zi l)] := by
  have hlt := mOwn_lt hW.1 (-1)
  by_cases c1 : 0 ≤ l ∧ l ≤ 3
  · obtain ⟨l, rfl⟩ : ∃ y : Nat, l = y := ⟨l.toNat, by omega⟩
    by_cases c2 : mOwn (gE D) (-1) = 0
    · refine ⟨zi (-5), zRf D (-5), hW, fun C hI => vc128 hX ?_, fun C hI => vc232 hM ?_⟩
      · rw [sp75 hl, zb_t c1, zi_m1, sp43 (zo_4_0 hX) hI.1 hW.1 (by omega), zi_0, zeq_t (by omega), z_m5]; exact xrf hX hI (by omega)
      · rw [spin (l := 0) (m := 3) hl rfl rfl, zb_t (by omega), sp172 hM hI.1 hW.1, zi_0, zeq_t (by omega), z_m5]; exact mrf hM hW hI (by omega)
    · refine ⟨zi (zo (mGt (dLaw (gE D) l) (mOwn (gE D) (-1)))), D, hW, fun C hI => vc128 hX ?_, fun C hI => vc232 hM ?_⟩
      · rw [sp75 hl, zb_t c1, zi_m1, sp43 (zo_4_0 hX) hI.1 hW.1 (by omega), zi_0, zeq_f (by omega)]
        refine zc_mI (sp126 hX hI.1 hI.2.2.2.2.2.2 hW.1 (by omega)) (fun r C1 w => ⟨w.1, zIX_T hI w.2.2, zFX_out w.2.2⟩)
      · rw [spin (l := 0) (m := 3) hl rfl rfl, zb_t (by omega), sp172 hM hI.1 hW.1, zi_0, zeq_f (by omega)]
        refine zc_mV (sp230 hM hI.1 hW.1 (by omega)) (fun C1 w => ?_)
        rw [sp172 hM (zFM_E hW.1 w.2 hI.1) hW.1, zi_ix (by omega) (by omega), Int.toNat_natCast]
        exact ⟨zi_in (by omega) (by omega) (by omega), w.1.1 c2, zIM_T hW hI w.2, zFM_out w.2⟩
  · refine ⟨zi (-2), zRf D (-2), hW, fun C hI => vc128 hX ?_, fun C hI => vc232 hM ?_⟩
    · rw [sp75 hl, zb_f c1, z_m2]; exact xrf hX hI (by omega)
    · rw [spin (l := 0) (m := 3) hl rfl rfl, zb_f (by omega), z_m2]; exact mrf hM hW hI (by omega)
theorem lq229 (hS : zs_5 S a) (hW : zWF E) {l : Nat} (z1 : Value) (x : Int32) : ∀ (j i : Nat) (C0 : zx_C), i + j = eN E → zME C0 a E → zGn C0 a (dLaw E l) (mOwn E (-1)) → (∀ s, s < i → C0.1 (a + 34) s = zi (mGe E l s)) → (∀ C1 : zx_C, zME C1 a E → (∀ s, s < eN E → C1.1 (a + 34) s = zi (mGe E l s)) → (∀ b k, b ≠ a + 34 → C1.1 b k = C0.1 b k) → C1.2 = C0.2 → if x = -1 then zCd X 0 227 [.ref a] S C1 (zQi (fun r5 C5 => q r5 C5)) else vp_in x 3 ∧ q (C1.1 (a + 34) (Int32.toNatClampNeg x)) C1) → zW X 33 229 39 [.ref a, z1, .int x, .int (zi i)] [] S C0 (zQi q) := by
  have hn := hW.1
  have hlt := mOwn_lt hW (-1)
  intro j
  induction j with
  | zero =>
    intro i C0 hi g0 g1 g2 K
    refine vc229_39 (a1 := 0) (a2 := 0) hS ?_
    rw [g0.1, zlt_f (by omega)]
    exact K C0 g0 (fun s hs => g2 s (by omega)) (fun _ _ _ => rfl) rfl
  | succ j ih =>
    intro i C0 hi g0 g1 g2 K
    refine vc229_39 (a1 := 0) (a2 := 0) hS ?_
    have hvi : vp_in (zi (i : Int)) 3 := zi_in (by omega) (by omega) (by omega)
    rw [g0.1, zlt_t (by omega), sp215 hS g0 hW (by omega), sp216 hS g0 hW (by omega) (mOwn_lt hW _), mWorth_has, sp172 hS g0 hW, zi_s]
    refine ⟨zi_in (by omega) (by omega) (by omega), hvi, hvi, ?_⟩
    rw [zi_ix (by omega) (by omega), zi_ix (by omega) (by omega), Int.toNat_natCast, Int.toNat_natCast, g1.2 i (by show i < eN E; omega), zi_add]
    refine ih (i + 1) _ (by omega) (zME_of hW g0 (fun b k _ _ _ => zp_ne (by omega))) ⟨fun h => by rw [zp_ne (by omega)]; exact g1.1 h, fun s hs => by rw [zp_ne (by omega)]; exact g1.2 s hs⟩ (fun s hs => ?_) (fun C1 b1 b2 b3 b4 => K C1 b1 b2 (fun b k hb => by rw [b3 b k hb, zp_ne hb]) b4)
    by_cases c : s = i
    · subst c
      rw [zp_hit]
      rfl
    · rw [zp_nf c]
      exact g2 s (by omega)
/-- game -/
theorem cl_game (hX : zs_4 S e) (hM : zs_5 S a) (hW : zWI D) {l s : Int} (hl : -2147483648 ≤ l ∧ l < 2147483648) (hs : -2147483648 ≤ s ∧ s < 2147483648) : zBI X S e a D 5 125 [.int (zi l), .int (zi s)] 33 229 [.int (zi l), .int (zi s)] := by
  have hn := hW.1.1
  by_cases c1 : 0 ≤ l ∧ l ≤ 3
  · obtain ⟨l, rfl⟩ : ∃ y : Nat, l = y := ⟨l.toNat, by omega⟩
    by_cases c2 : s = -1 ∨ (0 ≤ s ∧ s < eN (gE D))
    · refine ⟨zi (if s = -1 then mSpread (mGe (gE D) l) (eN (gE D)) else mGe (gE D) l s.toNat), D, hW, fun C hI => vc125 hX ?_, fun C hI => vc229 hM ?_⟩
      · have fin : zCd X 4 126 [.ref e, .int (zi l)] S C (zQi (fun r C1 => if zi s = zi (-1) then zCd X 1 124 [.ref e] S C1 (zQi (fun r C1 => r = zi (if s = -1 then mSpread (mGe (gE D) l) (eN (gE D)) else mGe (gE D) l s.toNat) ∧ zIX C1 e D ∧ zOut C C1 e (e + 42))) else zCd X 0 11 [.ref (e + 39), .int (zi s)] S C1 (zQi (fun r C1 => r = zi (if s = -1 then mSpread (mGe (gE D) l) (eN (gE D)) else mGe (gE D) l s.toNat) ∧ zIX C1 e D ∧ zOut C C1 e (e + 42))))) := by
          refine zc_mI (sp126 hX hI.1 hI.2.2.2.2.2.2 hW.1 (by omega)) (fun r C1 w => ?_)
          rw [zeq_i (by omega)]
          by_cases c3 : s = -1
          · rw [if_pos c3, if_pos c3, sp124 hX hW.1.1 (zFX_E w.2.2 hI.1).1 (fun s hs => w.2.1 s hs) (fun s _ => by have := mGe_b hW.1 l s; omega)]
            exact ⟨rfl, zIX_T hI w.2.2, zFX_out w.2.2⟩
          · rw [if_neg c3, if_neg c3, sp11 (za_4_11 hX) (by omega) (by omega) (by omega)]
            exact ⟨w.2.1 _ (by omega), zIX_T hI w.2.2, zFX_out w.2.2⟩
        rw [sp75 hl, zb_t c1, zi_m1, sp27 (zo_4_0 hX) hI.1 hW.1 hs]
        by_cases c3 : s = -1
        · rw [zeq_t c3]; exact fin
        · rw [zeq_f (by omega), zb_t (by omega)]; exact fin
      · have fin : zCd X 32 230 [.ref a, .int (zi l)] S C (zQv (fun C3 => zW X 33 229 39 [.ref a, .int (zi l), .int (zi s), .int 0] [] S C3 (zQi (fun r C1 => r = zi (if s = -1 then mSpread (mGe (gE D) l) (eN (gE D)) else mGe (gE D) l s.toNat) ∧ zIM S C1 a D ∧ zOut C C1 a (a + 295))))) := by
          refine zc_mV (sp230 hM hI.1 hW.1 (by omega)) (fun C1 w => ?_)
          refine lq229 hM hW.1 _ _ (eN (gE D)) 0 C1 (by omega) (zFM_E hW.1 w.2 hI.1) w.1 (fun s hs => absurd hs (Nat.not_lt_zero s)) (fun C2 b1 b2 b3 b4 => ?_)
          have hf : zFM C C2 a := zFM_t w.2 ⟨fun b k h1 h2 => b3 b k (by omega), b4⟩
          rw [zi_m1, zeq_i (by omega)]
          by_cases c3 : s = -1
          · rw [if_pos c3, if_pos c3, sp227 hM hW.1.1 b1.1 b2 (fun s _ => by have := mGe_b hW.1 l s; omega)]
            exact ⟨rfl, zIM_T hW hI hf, zFM_out hf⟩
          · rw [if_neg c3, if_neg c3, zi_ix (by omega) (by omega)]
            exact ⟨zi_in (by omega) (by omega) (by omega), b2 _ (by omega), zIM_T hW hI hf, zFM_out hf⟩
        rw [spin (l := 0) (m := 3) hl rfl rfl, zb_t (by omega), zi_m1, sp168 hM hI.1 hW.1 hs]
        by_cases c3 : s = -1
        · rw [zeq_t c3]; exact fin
        · rw [zeq_f (by omega), zb_t (by omega)]; exact fin
    · refine ⟨zi (-2), zRf D (-2), hW, fun C hI => vc125 hX ?_, fun C hI => vc229 hM ?_⟩
      · rw [sp75 hl, zb_t c1, zi_m1, z_m2, zeq_f (by omega), sp27 (zo_4_0 hX) hI.1 hW.1 hs, zb_f (by omega)]; exact xrf hX hI (by omega)
      · rw [spin (l := 0) (m := 3) hl rfl rfl, zb_t (by omega), zi_m1, z_m2, zeq_f (by omega), sp168 hM hI.1 hW.1 hs, zb_f (by omega)]; exact mrf hM hW hI (by omega)
  · refine ⟨zi (-2), zRf D (-2), hW, fun C hI => vc125 hX ?_, fun C hI => vc229 hM ?_⟩
    · rw [sp75 hl, zb_f c1, z_m2]; exact xrf hX hI (by omega)
    · rw [spin (l := 0) (m := 3) hl rfl rfl, zb_f (by omega), z_m2]; exact mrf hM hW hI (by omega)
end
