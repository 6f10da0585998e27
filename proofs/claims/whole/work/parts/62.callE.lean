/-! THE CALLS, both sides: says, swap, pick, again, trades -/
section
variable {X : zX} {S : zx_S} {C : zx_C} {q : Int32 → zx_C → Prop} {e a : Nat} {D : zDD} {E : zT}
/-- says -/
theorem cl_says (hX : zs_4 S e) (hM : zs_5 S a) (hW : zWI D) {s b : Int} (hs : -2147483648 ≤ s ∧ s < 2147483648) (hbr : -2147483648 ≤ b ∧ b < 2147483648) : zBI X S e a D 6 31 [.int (zi s), .int (zi b)] 33 169 [.int (zi s), .int (zi b)] := by
  have hn := hW.1.1
  have hWH := hW.2.2.1
  by_cases c1 : 0 ≤ s ∧ s < 8
  · obtain ⟨s, rfl⟩ : ∃ k : Nat, s = k := ⟨s.toNat, by omega⟩
    have hw := hWH s (by omega)
    have hv : vp_in (zi (s : Int)) 8 := zi_in (by omega) (by omega) (by omega)
    by_cases c2 : 0 ≤ b ∧ b ≤ 5
    · by_cases c3 : hk (gH D) s = -1
      · refine ⟨zi (-4), zRf D (-4), hW, fun C hI => vc31 hX ?_, fun C hI => vc169 hM ?_⟩
        · rw [sp8 hs, zb_t c1, sp32 hbr, zb_t c2, sp33 (zo_4_4 hX) hI.2.2.1 hWH (by omega), if_pos c3, zi_0, if_neg (by decide)]
          exact xrf hX hI (by omega)
        · have f1 := (hI.2.2.1 s (by omega)).1 c3
          rw [spin (l := 0) (m := 7) hs rfl rfl, zb_t (by omega), spin (l := 0) (m := 5) hbr rfl rfl, zb_t (by omega), zi_ix (by omega) (by omega), Int.toNat_natCast, f1, zi_1, zi_2, zi_0, z_m4, if_neg (by decide), if_neg (by decide), if_pos rfl]
          exact ⟨hv, hv, hv, mrf hM hW hI (by omega)⟩
      · by_cases c4 : hk (gH D) s ≤ 4
        · refine ⟨zi (-3), zRf D (-3), hW, fun C hI => vc31 hX ?_, fun C hI => vc169 hM ?_⟩
          · rw [sp8 hs, zb_t c1, sp32 hbr, zb_t c2, sp33 (zo_4_4 hX) hI.2.2.1 hWH (by omega), if_neg c3, if_pos c4, zi_0, if_neg (by decide)]
            exact xrf hX hI (by omega)
          · have f2 := (hI.2.2.1 s (by omega)).2.1 (by omega) c4
            rw [spin (l := 0) (m := 7) hs rfl rfl, zb_t (by omega), spin (l := 0) (m := 5) hbr rfl rfl, zb_t (by omega), zi_ix (by omega) (by omega), Int.toNat_natCast, f2.1, zi_1, if_pos rfl, z_m3]
            exact ⟨hv, mrf hM hW hI (by omega)⟩
        · by_cases c5 : hk (gH D) s - 10 = b ∨ b = 0 ∨ (b = 1 ∧ (hk (gH D) s - 10 = 2 ∨ hk (gH D) s - 10 = 3 ∨ hk (gH D) s - 10 = 5))
          · by_cases c6 : hb (gH D) s < eN (gE D)
            · obtain ⟨x, hx⟩ : ∃ k : Nat, hb (gH D) s = k := ⟨(hb (gH D) s).toNat, by omega⟩
              refine ⟨zi (zo (mChoose (dFirst (dLaw (gE D) (eL (gE D))) x) x (hk (gH D) s - 10) (mOwn (gE D) (-1)))), D, hW, fun C hI => vc31 hX ?_, fun C hI => vc169 hM ?_⟩
              · rw [sp8 hs, zb_t c1, sp32 hbr, zb_t c2, sp33 (zo_4_4 hX) hI.2.2.1 hWH (by omega), if_neg c3, if_neg c4, zi_0, if_pos rfl, sp34 (zo_4_4 hX) hI.2.2.1 (by omega), sp35 (by omega) hbr, if_pos c5, if_neg (by decide), sp36 (zo_4_4 hX) hI.2.2.1 (by omega) (by omega), hx, sp27 (zo_4_0 hX) hI.1 hW.1 (by omega), ← zi_0, zb_t (by omega)]
                refine zc_mI (sp37 hX hI.1 hI.2.2.2.2.2.2 hW.1 (by omega) (by omega)) (fun r C3 w => ⟨w.1, zIX_T hI w.2, zFX_out w.2⟩)
              · have f3 := (hI.2.2.1 s (by omega)).2.2 (by omega)
                rw [spin (l := 0) (m := 7) hs rfl rfl, zb_t (by omega), spin (l := 0) (m := 5) hbr rfl rfl, zb_t (by omega), zi_ix (by omega) (by omega), Int.toNat_natCast, f3.1, zi_1, zi_2, zi_0, if_neg (by decide), if_pos rfl, f3.2.1, sp170 (by omega) hbr, if_pos c5, if_neg (by decide), f3.1, if_neg (by decide), f3.2.2, hx, sp168 hM hI.1 hW.1 (by omega), ← zi_0, zb_t (by omega), hI.1.2.2.1]
                refine ⟨hv, hv, hv, hv, hv, vc171 hM ⟨hv, hv, hv, ?_⟩⟩
                have hf : zFM C (zp (zp C a 29 (zi (eL (gE D)))) a 33 (-1)) a := zFM_begin
                have hE1 := zFM_E hW.1 hf hI.1
                have f4 := ((zIM_T hW hI hf).2.2.1 s (by omega)).2.2 (by omega)
                rw [sp172 hM hE1 hW.1, f4.2.1, f4.2.2, hx, hE1.2.2.2.1, mtake hM hE1 hW.1 (by rw [zp_nf (by omega), zp_hit]) (by rw [zp_hit, zi_m1]) (by omega) (by omega)]
                exact ⟨rfl, zIM_T hW hI hf, zFM_out hf⟩
            · refine ⟨zi (-2), zRf D (-2), hW, fun C hI => vc31 hX ?_, fun C hI => vc169 hM ?_⟩
              · rw [sp8 hs, zb_t c1, sp32 hbr, zb_t c2, sp33 (zo_4_4 hX) hI.2.2.1 hWH (by omega), if_neg c3, if_neg c4, zi_0, if_pos rfl, sp34 (zo_4_4 hX) hI.2.2.1 (by omega), sp35 (by omega) hbr, if_pos c5, if_neg (by decide), sp36 (zo_4_4 hX) hI.2.2.1 (by omega) (by omega), sp27 (zo_4_0 hX) hI.1 hW.1 (by omega), ← zi_0, zb_f (by omega), z_m2]
                exact xrf hX hI (by omega)
              · have f3 := (hI.2.2.1 s (by omega)).2.2 (by omega)
                rw [spin (l := 0) (m := 7) hs rfl rfl, zb_t (by omega), spin (l := 0) (m := 5) hbr rfl rfl, zb_t (by omega), zi_ix (by omega) (by omega), Int.toNat_natCast, f3.1, z_m2, zi_1, zi_2, zi_0, if_neg (by decide), if_pos rfl, f3.2.1, sp170 (by omega) hbr, if_pos c5, if_neg (by decide), f3.1, if_neg (by decide), f3.2.2, sp168 hM hI.1 hW.1 (by omega), ← zi_0, zb_f (by omega)]
                exact ⟨hv, hv, hv, hv, hv, mrf hM hW hI (by omega)⟩
          · refine ⟨zi (-3), zRf D (-3), hW, fun C hI => vc31 hX ?_, fun C hI => vc169 hM ?_⟩
            · rw [sp8 hs, zb_t c1, sp32 hbr, zb_t c2, sp33 (zo_4_4 hX) hI.2.2.1 hWH (by omega), if_neg c3, if_neg c4, zi_0, if_pos rfl, sp34 (zo_4_4 hX) hI.2.2.1 (by omega), sp35 (by omega) hbr, if_neg c5, if_pos rfl, z_m3]
              exact xrf hX hI (by omega)
            · have f3 := (hI.2.2.1 s (by omega)).2.2 (by omega)
              rw [spin (l := 0) (m := 7) hs rfl rfl, zb_t (by omega), spin (l := 0) (m := 5) hbr rfl rfl, zb_t (by omega), zi_ix (by omega) (by omega), Int.toNat_natCast, f3.1, z_m3, zi_1, zi_2, zi_0, if_neg (by decide), if_pos rfl, f3.2.1, sp170 (by omega) hbr, if_neg c5, if_pos rfl]
              exact ⟨hv, hv, hv, mrf hM hW hI (by omega)⟩
    · refine ⟨zi (-2), zRf D (-2), hW, fun C hI => vc31 hX ?_, fun C hI => vc169 hM ?_⟩
      · rw [sp8 hs, zb_t c1, sp32 hbr, zb_f c2, z_m2]; exact xrf hX hI (by omega)
      · rw [spin (l := 0) (m := 7) hs rfl rfl, zb_t (by omega), spin (l := 0) (m := 5) hbr rfl rfl, zb_f (by omega), z_m2]; exact mrf hM hW hI (by omega)
  · refine ⟨zi (-2), zRf D (-2), hW, fun C hI => vc31 hX ?_, fun C hI => vc169 hM ?_⟩
    · rw [sp8 hs, zb_f c1, z_m2]; exact xrf hX hI (by omega)
    · rw [spin (l := 0) (m := 7) hs rfl rfl, zb_f (by omega), z_m2]; exact mrf hM hW hI (by omega)
/-- swap -/
theorem cl_swap (hX : zs_4 S e) (hM : zs_5 S a) (hW : zWI D) {k j : Int} (hk : -2147483648 ≤ k ∧ k < 2147483648) (hj : -2147483648 ≤ j ∧ j < 2147483648) : zBI X S e a D 2 145 [.int (zi k), .int (zi j)] 2 245 [.int (zi k), .int (zi j)] := by
  have hn := hW.1.1
  have hT := hW.1.2.1
  by_cases c1 : 0 ≤ k ∧ k < eT (gE D)
  · by_cases c2 : 0 ≤ j ∧ j < eT (gE D)
    · by_cases c3 : k = j
      · refine ⟨zi (-2), zRf D (-2), hW, fun C hI => vc145 hX ?_, fun C hI => vc245 hM ?_⟩
        · rw [sp42 (zo_4_0 hX) hI.1 hW.1 hk, zb_t c1, sp42 (zo_4_0 hX) hI.1 hW.1 hj, zb_t c2, z_m2, zeq_t c3]; exact xrf hX hI (by omega)
        · rw [sp190 hM hI.1 hW.1 hk, zb_t c1, sp190 hM hI.1 hW.1 hj, zb_t c2, z_m2, zeq_t c3]; exact mrf hM hW hI (by omega)
      · obtain ⟨k, rfl⟩ : ∃ x : Nat, k = x := ⟨k.toNat, by omega⟩
        obtain ⟨j, rfl⟩ : ∃ x : Nat, j = x := ⟨j.toNat, by omega⟩
        have hvk : vp_in (zi (k : Int)) 8 := zi_in (by omega) (by omega) (by omega)
        have hvj : vp_in (zi (j : Int)) 8 := zi_in (by omega) (by omega) (by omega)
        have ok := hW.1.2.2.2.2.2.2.2.1 k (by omega)
        have oj := hW.1.2.2.2.2.2.2.2.1 j (by omega)
        have hxk : Int32.toNatClampNeg (zi (k : Int)) = k := by rw [zi_ix (by omega) (by omega), Int.toNat_natCast]
        have hxj : Int32.toNatClampNeg (zi (j : Int)) = j := by rw [zi_ix (by omega) (by omega), Int.toNat_natCast]
        by_cases c4 : ew (gE D) k = ew (gE D) j
        · refine ⟨zi 0, D, hW, fun C hI => vc145 hX ?_, fun C hI => vc245 hM ?_⟩
          · rw [sp42 (zo_4_0 hX) hI.1 hW.1 hk, zb_t c1, sp42 (zo_4_0 hX) hI.1 hW.1 hj, zb_t c2, zeq_f (by omega), sp80 (zo_4_0 hX) hI.1 hW.1 (by omega), sp80 (zo_4_0 hX) hI.1 hW.1 (by omega), zeq_t c4]
            exact ⟨rfl, hI, zOut_r _ _ _⟩
          · rw [sp190 hM hI.1 hW.1 hk, zb_t c1, sp190 hM hI.1 hW.1 hj, zb_t c2, zeq_f (by omega), hxk, hxj, hI.1.2.2.2.2.2.2.2.2.1 k (by omega), hI.1.2.2.2.2.2.2.2.2.1 j (by omega), c4, zi_m1, zi_1, zi_0]
            refine ⟨hvk, ?_⟩
            by_cases c5 : ew (gE D) j = -1
            · rw [zeq_t c5]
              refine ⟨hvj, ?_⟩
              rw [zeq_t c5, if_pos rfl, if_pos rfl]
              exact ⟨hvk, hvj, rfl, hI, zOut_r _ _ _⟩
            · rw [zeq_f (by omega)]
              refine ⟨hvj, ?_⟩
              rw [zeq_f (by omega), if_pos rfl, if_pos rfl]
              exact ⟨hvk, hvj, rfl, hI, zOut_r _ _ _⟩
        · by_cases c5 : ew (gE D) k = -1 ∨ ew (gE D) j = -1
          · refine ⟨zi (-5), zRf D (-5), hW, fun C hI => vc145 hX ?_, fun C hI => vc245 hM ?_⟩
            · rw [sp42 (zo_4_0 hX) hI.1 hW.1 hk, zb_t c1, sp42 (zo_4_0 hX) hI.1 hW.1 hj, zb_t c2, zeq_f (by omega), sp80 (zo_4_0 hX) hI.1 hW.1 (by omega), sp80 (zo_4_0 hX) hI.1 hW.1 (by omega), zeq_f (by omega), zi_m1, zeq_i (by omega), zeq_i (a := ew (gE D) j) (b := -1) (by omega), z_m5]
              by_cases c6 : ew (gE D) k = -1
              · rw [if_pos c6]; exact xrf hX hI (by omega)
              · rw [if_neg c6, if_pos (by omega)]; exact xrf hX hI (by omega)
            · rw [sp190 hM hI.1 hW.1 hk, zb_t c1, sp190 hM hI.1 hW.1 hj, zb_t c2, zeq_f (by omega), hxk, hxj, hI.1.2.2.2.2.2.2.2.2.1 k (by omega), hI.1.2.2.2.2.2.2.2.2.1 j (by omega), zi_m1, z_m5]
              refine ⟨hvk, ?_⟩
              by_cases c6 : ew (gE D) k = -1
              · rw [zeq_t c6]
                refine ⟨hvj, ?_⟩
                rw [zeq_f (by omega), if_neg (by decide)]
                exact mrf hM hW hI (by omega)
              · rw [zeq_f (by omega)]
                refine ⟨hvj, ?_⟩
                rw [zeq_t (by omega), if_neg (by decide)]
                exact mrf hM hW hI (by omega)
          · refine ⟨zi 1, (sOwn (sOwn (gE D) k (ew (gE D) j)) j (ew (gE D) k), D.2), zWI_E hW (wOwn (wOwn hW.1 (by omega)) (by show -1 ≤ ew (gE D) k ∧ ew (gE D) k < eN (gE D); omega)), fun C hI => vc145 hX ?_, fun C hI => vc245 hM ?_⟩
            · rw [sp42 (zo_4_0 hX) hI.1 hW.1 hk, zb_t c1, sp42 (zo_4_0 hX) hI.1 hW.1 hj, zb_t c2, zeq_f (by omega), sp80 (zo_4_0 hX) hI.1 hW.1 (by omega), sp80 (zo_4_0 hX) hI.1 hW.1 (by omega), zeq_f (by omega), zi_m1, zeq_f (by omega), zeq_f (by omega), sp12 (za_0_8 (zo_4_0 hX)) (by omega) (by omega) (by omega), sp12 (za_0_8 (zo_4_0 hX)) (by omega) (by omega) (by omega), Int.toNat_natCast, Int.toNat_natCast]
              have u1 := xup hI (f := e + 1 + 3) (i := k) (v := zi (ew (gE D) j)) (by omega) (xE_Own hI.1)
              have u2 := xup u1.1 (f := e + 1 + 3) (i := j) (v := zi (ew (gE D) k)) (by omega) (xE_Own u1.1.1)
              exact ⟨rfl, u2.1, zOut_t u1.2 u2.2⟩
            · rw [sp190 hM hI.1 hW.1 hk, zb_t c1, sp190 hM hI.1 hW.1 hj, zb_t c2, zeq_f (by omega), hxk, hxj, hI.1.2.2.2.2.2.2.2.2.1 k (by omega), hI.1.2.2.2.2.2.2.2.2.1 j (by omega), zi_m1, zeq_f (by omega), zeq_f (by omega), if_pos (show (0 : Int32) = 0 from rfl), zeq_f (by omega)]
              have u1 := mup hW hI (f := a + 27) (i := k) (v := zi (ew (gE D) j)) (by omega) (mE_Own hW.1 hI.1)
              have hW1 : zWI (sOwn (gE D) k (ew (gE D) j), D.2) := zWI_E hW (wOwn hW.1 (by omega))
              have u2 := mup hW1 u1.1 (f := a + 27) (i := j) (v := zi (ew (gE D) k)) (by omega) (mE_Own hW1.1 u1.1.1)
              exact ⟨hvk, hvj, hvk, hvj, hvk, hvj, hvk, hvj, rfl, u2.1, zOut_t u1.2 u2.2⟩
    · refine ⟨zi (-2), zRf D (-2), hW, fun C hI => vc145 hX ?_, fun C hI => vc245 hM ?_⟩
      · rw [sp42 (zo_4_0 hX) hI.1 hW.1 hk, zb_t c1, sp42 (zo_4_0 hX) hI.1 hW.1 hj, zb_f c2, z_m2]; exact xrf hX hI (by omega)
      · rw [sp190 hM hI.1 hW.1 hk, zb_t c1, sp190 hM hI.1 hW.1 hj, zb_f c2, z_m2]; exact mrf hM hW hI (by omega)
  · refine ⟨zi (-2), zRf D (-2), hW, fun C hI => vc145 hX ?_, fun C hI => vc245 hM ?_⟩
    · rw [sp42 (zo_4_0 hX) hI.1 hW.1 hk, zb_f c1, z_m2]; exact xrf hX hI (by omega)
    · rw [sp190 hM hI.1 hW.1 hk, zb_f c1, z_m2]; exact mrf hM hW hI (by omega)
theorem wTake {E : zT} (h : zWF E) {k : Nat} (hV : eV E < 1000000000) : zWF (sTake E k) := by
  refine ⟨h.1, h.2.1, h.2.2.1, hV, h.2.2.2.2.1, h.2.2.2.2.2.1, h.2.2.2.2.2.2.1, fun j hj => ?_, h.2.2.2.2.2.2.2.2⟩
  show -1 ≤ (if j = k then mAt E (eL E) (eV E) else ew E j) ∧ (if j = k then mAt E (eL E) (eV E) else ew E j) < eN E
  have hb := mAt_b h (eL E) (eV E)
  by_cases c : j = k
  · rw [if_pos c]; omega
  · rw [if_neg c]; exact h.2.2.2.2.2.2.2.1 j hj
theorem sTake_eq {E : zT} {k : Nat} : sTake E k = sTurn (sOwn E k (mAt E (eL E) (eV E))) (eV E + 1) := rfl
/-- pick -/
theorem cl_pick (hX : zs_4 S e) (hM : zs_5 S a) (hW : zWI D) {k : Int} (hk : -2147483648 ≤ k ∧ k < 2147483648) : zBI X S e a D 3 146 [.int (zi k)] 2 246 [.int (zi k)] := by
  have hn := hW.1.1
  have hT := hW.1.2.1
  have hV := hW.1.2.2.2.1
  by_cases c1 : 0 ≤ k ∧ k < eT (gE D)
  · obtain ⟨k, rfl⟩ : ∃ x : Nat, k = x := ⟨k.toNat, by omega⟩
    have hvk : vp_in (zi (k : Int)) 8 := zi_in (by omega) (by omega) (by omega)
    have ok := hW.1.2.2.2.2.2.2.2.1 k (by omega)
    have hxk : Int32.toNatClampNeg (zi (k : Int)) = k := by rw [zi_ix (by omega) (by omega), Int.toNat_natCast]
    by_cases c2 : ew (gE D) k = -1
    · by_cases c3 : eV (gE D) < 1000000000
      · have hWt := wTake (k := k) hW.1 c3
        refine ⟨zi (mAt (gE D) (eL (gE D)) (eV (gE D))), (sTake (gE D) k, D.2), zWI_E hW hWt, fun C hI => vc146 hX ?_, fun C hI => vc246 hM ?_⟩
        · rw [sp42 (zo_4_0 hX) hI.1 hW.1 hk, zb_t c1, sp80 (zo_4_0 hX) hI.1 hW.1 (by omega), zi_m1, zeq_t c2, hI.1.2.2.2.1, z_9, zlt_t (by omega)]
          refine zc_mV (sp142 (zo_4_0 hX) hI.1 hW.1 (by omega)) (fun C1 w => ?_)
          rw [sp80 (zo_4_0 hX) w.1 hWt (by show k < eT (gE D); omega)]
          refine ⟨?_, zIX_E hI w.1 (fun b k hb => w.2.1 b k (by omega)) w.2.2, fun b k hb => w.2.1 b k (by omega), fun b k _ => by rw [w.2.2]⟩
          exact congrArg zi (if_pos rfl)
        · rw [sp190 hM hI.1 hW.1 hk, zb_t c1, hxk, hI.1.2.2.2.2.2.2.2.2.1 k (by omega), zi_m1, zeq_t c2, hI.1.2.2.2.1, z_9, zeq_f (by omega), hI.1.2.2.1, sp178 hM hI.1 hW.1 hW.1.2.2.1 (by omega)]
          refine ⟨hvk, hvk, hvk, ?_⟩
          rw [zp_ne (by omega), zp_hit, zp_ne (by omega), hI.1.2.2.2.1, zi_s]
          have u1 := mup hW hI (f := a + 27) (i := k) (v := zi (mAt (gE D) (eL (gE D)) (eV (gE D)))) (by omega) (mE_Own hW.1 hI.1)
          have hW1 : zWI (sOwn (gE D) k (mAt (gE D) (eL (gE D)) (eV (gE D))), D.2) := zWI_E hW (wOwn hW.1 (by have := mAt_b hW.1 (eL (gE D)) (eV (gE D)); omega))
          have u2 := mup hW1 u1.1 (f := a) (i := 18) (v := zi ((eV (gE D) + 1 : Nat) : Int)) (by omega) (mE_Turn u1.1.1)
          exact ⟨rfl, u2.1, zOut_t u1.2 u2.2⟩
      · refine ⟨zi (-5), zRf D (-5), hW, fun C hI => vc146 hX ?_, fun C hI => vc246 hM ?_⟩
        · rw [sp42 (zo_4_0 hX) hI.1 hW.1 hk, zb_t c1, sp80 (zo_4_0 hX) hI.1 hW.1 (by omega), zi_m1, zeq_t c2, hI.1.2.2.2.1, z_9, zlt_f (by omega), z_m5]; exact xrf hX hI (by omega)
        · rw [sp190 hM hI.1 hW.1 hk, zb_t c1, hxk, hI.1.2.2.2.2.2.2.2.2.1 k (by omega), zi_m1, zeq_t c2, hI.1.2.2.2.1, z_9, zeq_t (by omega), z_m5]
          exact ⟨hvk, mrf hM hW hI (by omega)⟩
    · refine ⟨zi (-5), zRf D (-5), hW, fun C hI => vc146 hX ?_, fun C hI => vc246 hM ?_⟩
      · rw [sp42 (zo_4_0 hX) hI.1 hW.1 hk, zb_t c1, sp80 (zo_4_0 hX) hI.1 hW.1 (by omega), zi_m1, zeq_f (by omega), z_m5]; exact xrf hX hI (by omega)
      · rw [sp190 hM hI.1 hW.1 hk, zb_t c1, hxk, hI.1.2.2.2.2.2.2.2.2.1 k (by omega), zi_m1, zeq_f (by omega), z_m5]
        exact ⟨hvk, mrf hM hW hI (by omega)⟩
  · refine ⟨zi (-2), zRf D (-2), hW, fun C hI => vc146 hX ?_, fun C hI => vc246 hM ?_⟩
    · rw [sp42 (zo_4_0 hX) hI.1 hW.1 hk, zb_f c1, z_m2]; exact xrf hX hI (by omega)
    · rw [sp190 hM hI.1 hW.1 hk, zb_f c1, z_m2]; exact mrf hM hW hI (by omega)
end
