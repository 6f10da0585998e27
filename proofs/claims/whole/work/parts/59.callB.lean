/-! THE CALLS, both sides: show, law, turn, seed, bent, own, worth, feed, wipe, thingOf, sideOf, whose -/
section
variable {X : zX} {S : zx_S} {C : zx_C} {q : Int32 → zx_C → Prop} {e a : Nat} {D : zDD}
/-- an estate's put, taken up -/
theorem xup (hI : zIX C e D) {f i : Nat} {v : Int32} {E : zT} (hf : e + 1 ≤ f ∧ f < e + 6) (hE : zXE (zp C f i v) (e + 1) E) : zIX (zp C f i v) e (E, D.2) ∧ zOut C (zp C f i v) e (e + 42) :=
  ⟨zIX_E hI hE (fun b k hb => zp_ne (by omega)) rfl, fun b k hb => zp_ne (by omega), fun _ _ _ => rfl⟩
theorem mup (hW : zWI D) (hI : zIM S C a D) {f i : Nat} {v : Int32} {E : zT} (hf : (f = a ∧ 10 ≤ i ∧ i ≤ 19) ∨ (a + 19 ≤ f ∧ f < a + 30)) (hE : zME (zp C f i v) a E) : zIM S (zp C f i v) a (E, D.2) ∧ zOut C (zp C f i v) a (a + 295) :=
  ⟨zIM_E hW hI hE (fun b k h1 h2 => zp_miss _ _ _ _ (by omega)) rfl, fun b k hb => zp_ne (by omega), fun _ _ _ => rfl⟩
/-- law -/
theorem cl_law (hX : zs_4 S e) (hM : zs_5 S a) (hW : zWI D) {v : Int} (hv : -2147483648 ≤ v ∧ v < 2147483648) : zBI X S e a D 2 74 [.int (zi v)] 1 192 [.int (zi v)] := by
  by_cases c1 : 0 ≤ v ∧ v ≤ 3
  · obtain ⟨v, rfl⟩ : ∃ k : Nat, v = k := ⟨v.toNat, by omega⟩
    refine ⟨zi (eL (gE D)), (sLaw (gE D) v, D.2), zWI_E hW (wLaw hW.1 (by omega)), fun C hI => vc74 hX ?_, fun C hI => vc192 hM ?_⟩
    · rw [sp75 hv, zb_t c1, hI.1.2.2.1]
      exact ⟨rfl, xup hI (by omega) (xE_Law hI.1)⟩
    · rw [spin (l := 0) (m := 3) hv rfl rfl, zb_t (by omega), hI.1.2.2.1]
      exact ⟨rfl, mup hW hI (by omega) (mE_Law hI.1)⟩
  · refine ⟨zi (-2), zRf D (-2), hW, fun C hI => vc74 hX ?_, fun C hI => vc192 hM ?_⟩
    · rw [sp75 hv, zb_f c1, z_m2]; exact xrf hX hI (by omega)
    · rw [spin (l := 0) (m := 3) hv rfl rfl, zb_f (by omega), z_m2]; exact mrf hM hW hI (by omega)
/-- turn -/
theorem z_9 : (1000000000 : Int32) = zi 1000000000 := rfl
theorem cl_turn (hX : zs_4 S e) (hM : zs_5 S a) (hW : zWI D) {v : Int} (hv : -2147483648 ≤ v ∧ v < 2147483648) : zBI X S e a D 2 78 [.int (zi v)] 1 194 [.int (zi v)] := by
  by_cases c1 : 0 ≤ v ∧ v ≤ 1000000000
  · obtain ⟨v, rfl⟩ : ∃ k : Nat, v = k := ⟨v.toNat, by omega⟩
    refine ⟨zi (eV (gE D)), (sTurn (gE D) v, D.2), zWI_E hW (wTurn hW.1 (by omega)), fun C hI => vc78 hX ?_, fun C hI => vc194 hM ?_⟩
    · rw [zi_0, z_9, zlt_f (by omega), zlt_f (by omega), hI.1.2.2.2.1]
      exact ⟨rfl, xup hI (by omega) (xE_Turn hI.1)⟩
    · rw [spin (l := 0) (m := 1000000000) hv rfl rfl, zb_t (by omega), hI.1.2.2.2.1]
      exact ⟨rfl, mup hW hI (by omega) (mE_Turn hI.1)⟩
  · refine ⟨zi (-2), zRf D (-2), hW, fun C hI => vc78 hX ?_, fun C hI => vc194 hM ?_⟩
    · rw [zi_0, z_9, z_m2]
      by_cases c2 : v < 0
      · rw [zlt_t (by omega)]; exact xrf hX hI (by omega)
      · rw [zlt_f (by omega), zlt_t (by omega)]; exact xrf hX hI (by omega)
    · rw [spin (l := 0) (m := 1000000000) hv rfl rfl, zb_f (by omega), z_m2]; exact mrf hM hW hI (by omega)
/-- seed -/
theorem cl_seed (hX : zs_4 S e) (hM : zs_5 S a) (hW : zWI D) {v : Int32} : zBI X S e a D 0 151 [.int v] 0 252 [.int v] := by
  refine ⟨eD (gE D), (sSeed (gE D) v, D.2), zWI_E hW (wSeed hW.1), fun C hI => vc151 hX ?_, fun C hI => vc252 hM ?_⟩
  · rw [hI.1.2.2.2.2.1]
    exact ⟨rfl, xup hI (by omega) (xE_Seed hI.1)⟩
  · rw [hI.1.2.2.2.2.1]
    exact ⟨rfl, mup hW hI (by omega) (mE_Seed hI.1)⟩
/-- bent -/
theorem cl_bent (hX : zs_4 S e) (hM : zs_5 S a) (hW : zWI D) {s v : Int} (hs : -2147483648 ≤ s ∧ s < 2147483648) (hv : -2147483648 ≤ v ∧ v < 2147483648) : zBI X S e a D 2 73 [.int (zi s), .int (zi v)] 2 191 [.int (zi s), .int (zi v)] := by
  have hn := hW.1.1
  by_cases c1 : 0 ≤ s ∧ s < eN (gE D)
  · by_cases c2 : 0 ≤ v ∧ v ≤ 5
    · obtain ⟨s, rfl⟩ : ∃ k : Nat, s = k := ⟨s.toNat, by omega⟩
      have hvs : vp_in (zi (s : Int)) 3 := zi_in (by omega) (by omega) (by omega)
      refine ⟨zi (eb (gE D) s), (sBent (gE D) s v, D.2), zWI_E hW (wBent hW.1 c2), fun C hI => vc73 hX ?_, fun C hI => vc191 hM ?_⟩
      · rw [sp27 (zo_4_0 hX) hI.1 hW.1 hs, zb_t c1, sp32 hv, zb_t c2, sp29 (zo_4_0 hX) hI.1 (by omega), sp12 (za_0_7 (zo_4_0 hX)) (by omega) (by omega) (by omega), Int.toNat_natCast]
        exact ⟨rfl, xup hI (by omega) (xE_Bent hI.1)⟩
      · rw [sp168 hM hI.1 hW.1 hs, zb_t c1, spin (l := 0) (m := 5) hv rfl rfl, zb_t (by omega), zi_ix (by omega) (by omega), Int.toNat_natCast, hI.1.2.2.2.2.2.2.2.1 s (by omega)]
        exact ⟨hvs, hvs, rfl, mup hW hI (by omega) (mE_Bent hW.1 hI.1)⟩
    · refine ⟨zi (-2), zRf D (-2), hW, fun C hI => vc73 hX ?_, fun C hI => vc191 hM ?_⟩
      · rw [sp27 (zo_4_0 hX) hI.1 hW.1 hs, zb_t c1, sp32 hv, zb_f c2, z_m2]; exact xrf hX hI (by omega)
      · rw [sp168 hM hI.1 hW.1 hs, zb_t c1, spin (l := 0) (m := 5) hv rfl rfl, zb_f (by omega), z_m2]; exact mrf hM hW hI (by omega)
  · refine ⟨zi (-2), zRf D (-2), hW, fun C hI => vc73 hX ?_, fun C hI => vc191 hM ?_⟩
    · rw [sp27 (zo_4_0 hX) hI.1 hW.1 hs, zb_f c1, z_m2]; exact xrf hX hI (by omega)
    · rw [sp168 hM hI.1 hW.1 hs, zb_f c1, z_m2]; exact mrf hM hW hI (by omega)
/-- own -/
theorem cl_own (hX : zs_4 S e) (hM : zs_5 S a) (hW : zWI D) {k s : Int} (hk : -2147483648 ≤ k ∧ k < 2147483648) (hs : -2147483648 ≤ s ∧ s < 2147483648) : zBI X S e a D 2 79 [.int (zi k), .int (zi s)] 2 195 [.int (zi k), .int (zi s)] := by
  have hn := hW.1.1
  have hT := hW.1.2.1
  by_cases c1 : 0 ≤ k ∧ k < eT (gE D)
  · by_cases c2 : s = -1 ∨ (0 ≤ s ∧ s < eN (gE D))
    · obtain ⟨k, rfl⟩ : ∃ x : Nat, k = x := ⟨k.toNat, by omega⟩
      have hvk : vp_in (zi (k : Int)) 8 := zi_in (by omega) (by omega) (by omega)
      refine ⟨zi (ew (gE D) k), (sOwn (gE D) k s, D.2), zWI_E hW (wOwn hW.1 (by omega)), fun C hI => vc79 hX ?_, fun C hI => vc195 hM ?_⟩
      · rw [sp42 (zo_4_0 hX) hI.1 hW.1 hk, zb_t c1, zi_m1, zeq_i (by omega), sp27 (zo_4_0 hX) hI.1 hW.1 hs, sp80 (zo_4_0 hX) hI.1 hW.1 (by omega), sp12 (za_0_8 (zo_4_0 hX)) (by omega) (by omega) (by omega), Int.toNat_natCast]
        by_cases c3 : s = -1
        · rw [if_pos c3]
          exact ⟨rfl, xup hI (by omega) (xE_Own hI.1)⟩
        · rw [if_neg c3, zb_t (by omega)]
          exact ⟨rfl, xup hI (by omega) (xE_Own hI.1)⟩
      · rw [sp190 hM hI.1 hW.1 hk, zb_t c1, zi_m1, zeq_i (by omega), sp168 hM hI.1 hW.1 hs, zi_ix (by omega) (by omega), Int.toNat_natCast, hI.1.2.2.2.2.2.2.2.2.1 k (by omega)]
        by_cases c3 : s = -1
        · rw [if_pos c3]
          exact ⟨hvk, hvk, rfl, mup hW hI (by omega) (mE_Own hW.1 hI.1)⟩
        · rw [if_neg c3, zb_t (by omega)]
          exact ⟨hvk, hvk, rfl, mup hW hI (by omega) (mE_Own hW.1 hI.1)⟩
    · refine ⟨zi (-2), zRf D (-2), hW, fun C hI => vc79 hX ?_, fun C hI => vc195 hM ?_⟩
      · rw [sp42 (zo_4_0 hX) hI.1 hW.1 hk, zb_t c1, z_m2, zi_m1, zeq_f (by omega), sp27 (zo_4_0 hX) hI.1 hW.1 hs, zb_f (by omega)]; exact xrf hX hI (by omega)
      · rw [sp190 hM hI.1 hW.1 hk, zb_t c1, z_m2, zi_m1, zeq_f (by omega), sp168 hM hI.1 hW.1 hs, zb_f (by omega)]; exact mrf hM hW hI (by omega)
  · refine ⟨zi (-2), zRf D (-2), hW, fun C hI => vc79 hX ?_, fun C hI => vc195 hM ?_⟩
    · rw [sp42 (zo_4_0 hX) hI.1 hW.1 hk, zb_f c1, z_m2]; exact xrf hX hI (by omega)
    · rw [sp190 hM hI.1 hW.1 hk, zb_f c1, z_m2]; exact mrf hM hW hI (by omega)
/-- worth -/
theorem cl_worth (hX : zs_4 S e) (hM : zs_5 S a) (hW : zWI D) {s k v : Int} (hs : -2147483648 ≤ s ∧ s < 2147483648) (hk : -2147483648 ≤ k ∧ k < 2147483648) (hv : -2147483648 ≤ v ∧ v < 2147483648) : zBI X S e a D 2 72 [.int (zi s), .int (zi k), .int (zi v)] 2 189 [.int (zi s), .int (zi k), .int (zi v)] := by
  have hn := hW.1.1
  have hT := hW.1.2.1
  by_cases c1 : 0 ≤ s ∧ s < eN (gE D)
  · by_cases c2 : 0 ≤ k ∧ k < eT (gE D)
    · by_cases c3 : 0 ≤ v ∧ v ≤ 99
      · obtain ⟨s, rfl⟩ : ∃ x : Nat, s = x := ⟨s.toNat, by omega⟩
        obtain ⟨k, rfl⟩ : ∃ x : Nat, k = x := ⟨k.toNat, by omega⟩
        have hvk : vp_in (zi (k : Int)) 8 := zi_in (by omega) (by omega) (by omega)
        have hvs : vp_in (zi (s : Int)) 3 := zi_in (by omega) (by omega) (by omega)
        refine ⟨zi (eu (gE D) s k), (sWorth (gE D) s k v, D.2), zWI_E hW (wWorth hW.1 c3), fun C hI => vc72 hX ?_, fun C hI => vc189 hM ?_⟩
        · rw [sp27 (zo_4_0 hX) hI.1 hW.1 hs, zb_t c1, sp42 (zo_4_0 hX) hI.1 hW.1 hk, zb_t c2, sp70 hv, zb_t c3, sp41 (zo_4_0 hX) hI.1 hW.1 (by omega) (by omega), zi_8, zi_mul, zi_add, sp12 (za_0_9 (zo_4_0 hX)) (by omega) (by omega) (by omega), show ((s : Int) * 8 + k).toNat = s * 8 + k by omega]
          exact ⟨rfl, xup hI (by omega) (xE_Worth hW.1 (by omega) hI.1)⟩
        · rw [sp168 hM hI.1 hW.1 hs, zb_t c1, sp190 hM hI.1 hW.1 hk, zb_t c2, spin (l := 0) (m := 99) hv rfl rfl, zb_t (by omega), zi_ix (by omega) (by omega), zi_ix (by omega) (by omega), Int.toNat_natCast, Int.toNat_natCast, hI.1.2.2.2.2.2.2.2.2.2 s k (by omega) (by omega)]
          exact ⟨hvk, hvs, hvk, hvs, rfl, mup hW hI (by omega) (mE_Worth hW.1 (by omega) hI.1)⟩
      · refine ⟨zi (-2), zRf D (-2), hW, fun C hI => vc72 hX ?_, fun C hI => vc189 hM ?_⟩
        · rw [sp27 (zo_4_0 hX) hI.1 hW.1 hs, zb_t c1, sp42 (zo_4_0 hX) hI.1 hW.1 hk, zb_t c2, sp70 hv, zb_f c3, z_m2]; exact xrf hX hI (by omega)
        · rw [sp168 hM hI.1 hW.1 hs, zb_t c1, sp190 hM hI.1 hW.1 hk, zb_t c2, spin (l := 0) (m := 99) hv rfl rfl, zb_f (by omega), z_m2]; exact mrf hM hW hI (by omega)
    · refine ⟨zi (-2), zRf D (-2), hW, fun C hI => vc72 hX ?_, fun C hI => vc189 hM ?_⟩
      · rw [sp27 (zo_4_0 hX) hI.1 hW.1 hs, zb_t c1, sp42 (zo_4_0 hX) hI.1 hW.1 hk, zb_f c2, z_m2]; exact xrf hX hI (by omega)
      · rw [sp168 hM hI.1 hW.1 hs, zb_t c1, sp190 hM hI.1 hW.1 hk, zb_f c2, z_m2]; exact mrf hM hW hI (by omega)
  · refine ⟨zi (-2), zRf D (-2), hW, fun C hI => vc72 hX ?_, fun C hI => vc189 hM ?_⟩
    · rw [sp27 (zo_4_0 hX) hI.1 hW.1 hs, zb_f c1, z_m2]; exact xrf hX hI (by omega)
    · rw [sp168 hM hI.1 hW.1 hs, zb_f c1, z_m2]; exact mrf hM hW hI (by omega)
/-- thingOf -/
theorem cl_thingOf (hX : zs_4 S e) (hM : zs_5 S a) (hW : zWI D) {k x : Int} (hk : -2147483648 ≤ k ∧ k < 2147483648) (hx : -2147483648 ≤ x ∧ x < 2147483648) : zBI X S e a D 2 109 [.int (zi k), .int (zi x)] 2 213 [.int (zi k), .int (zi x)] := by
  have hn := hW.1.1
  have hT := hW.1.2.1
  by_cases c1 : 0 ≤ k ∧ k < eT (gE D)
  · obtain ⟨k, rfl⟩ : ∃ y : Nat, k = y := ⟨k.toNat, by omega⟩
    have hvk : vp_in (zi (k : Int)) 8 := zi_in (by omega) (by omega) (by omega)
    by_cases c2 : 0 ≤ x ∧ x ≤ eN (gE D)
    · refine ⟨zi (if x = 0 then ew (gE D) k else eu (gE D) (x - 1).toNat k), D, hW, fun C hI => vc109 hX ?_, fun C hI => vc213 hM ?_⟩
      · rw [sp42 (zo_4_0 hX) hI.1 hW.1 hk, zb_t c1, hI.1.1, zi_0, zi_1, zlt_f (by omega), zlt_f (by omega), zeq_i (by omega), zi_sub, sp80 (zo_4_0 hX) hI.1 hW.1 (by omega)]
        by_cases c3 : x = 0
        · rw [if_pos c3, if_pos c3]
          exact ⟨rfl, hI, zOut_r _ _ _⟩
        · rw [if_neg c3, if_neg c3, show zi (x - 1) = zi ((x - 1).toNat : Int) by rw [Int.toNat_of_nonneg (by omega)], sp41 (zo_4_0 hX) hI.1 hW.1 (by omega) (by omega)]
          exact ⟨rfl, hI, zOut_r _ _ _⟩
      · rw [sp190 hM hI.1 hW.1 hk, zb_t c1, hI.1.1, zl_zi (a := (eN (gE D) : Int)) (by omega), spin (l := 0) (m := eN (gE D)) hx rfl (zl_toInt (by omega)), zb_t (by omega), zi_0, zi_1, zeq_i (by omega), zi_sub, zi_ix (by omega) (by omega), zi_ix (by omega) (by omega), Int.toNat_natCast, hI.1.2.2.2.2.2.2.2.2.1 k (by omega)]
        by_cases c3 : x = 0
        · rw [if_pos c3, if_pos c3]
          exact ⟨hvk, rfl, hI, zOut_r _ _ _⟩
        · rw [if_neg c3, if_neg c3, hI.1.2.2.2.2.2.2.2.2.2 _ k (by omega) (by omega)]
          exact ⟨hvk, zi_in (by omega) (by omega) (by omega), rfl, hI, zOut_r _ _ _⟩
    · refine ⟨zi (-2), zRf D (-2), hW, fun C hI => vc109 hX ?_, fun C hI => vc213 hM ?_⟩
      · rw [sp42 (zo_4_0 hX) hI.1 hW.1 hk, zb_t c1, hI.1.1, z_m2, zi_0]
        by_cases c4 : x < 0
        · rw [zlt_t (by omega)]; exact xrf hX hI (by omega)
        · rw [zlt_f (by omega), zlt_t (by omega)]; exact xrf hX hI (by omega)
      · rw [sp190 hM hI.1 hW.1 hk, zb_t c1, hI.1.1, zl_zi (a := (eN (gE D) : Int)) (by omega), spin (l := 0) (m := eN (gE D)) hx rfl (zl_toInt (by omega)), zb_f (by omega), z_m2]; exact mrf hM hW hI (by omega)
  · refine ⟨zi (-2), zRf D (-2), hW, fun C hI => vc109 hX ?_, fun C hI => vc213 hM ?_⟩
    · rw [sp42 (zo_4_0 hX) hI.1 hW.1 hk, zb_f c1, z_m2]; exact xrf hX hI (by omega)
    · rw [sp190 hM hI.1 hW.1 hk, zb_f c1, z_m2]; exact mrf hM hW hI (by omega)
/-- sideOf -/
theorem cl_sideOf (hX : zs_4 S e) (hM : zs_5 S a) (hW : zWI D) {s x : Int} (hs : -2147483648 ≤ s ∧ s < 2147483648) (hx : -2147483648 ≤ x ∧ x < 2147483648) : zBI X S e a D 3 110 [.int (zi s), .int (zi x)] 2 214 [.int (zi s), .int (zi x)] := by
  have hn := hW.1.1
  by_cases c1 : 0 ≤ s ∧ s < eN (gE D)
  · obtain ⟨s, rfl⟩ : ∃ y : Nat, s = y := ⟨s.toNat, by omega⟩
    have hvs : vp_in (zi (s : Int)) 3 := zi_in (by omega) (by omega) (by omega)
    by_cases c2 : 0 ≤ x ∧ x ≤ 2
    · refine ⟨zi (if x = 0 then eb (gE D) s else if x = 1 then mHas (gE D) s else mOwn (gE D) s), D, hW, fun C hI => vc110 hX ?_, fun C hI => vc214 hM ?_⟩
      · rw [sp27 (zo_4_0 hX) hI.1 hW.1 hs, zb_t c1, zi_0, zi_1, zi_2, zlt_f (by omega), zlt_f (by omega), zeq_i (by omega), zeq_i (a := x) (b := 1) (by omega), sp29 (zo_4_0 hX) hI.1 (by omega), sp40 (zo_4_0 hX) hI.1 hW.1 (by omega), sp43 (zo_4_0 hX) hI.1 hW.1 (by omega)]
        by_cases c3 : x = 0
        · rw [if_pos c3, if_pos c3]
          exact ⟨rfl, hI, zOut_r _ _ _⟩
        · rw [if_neg c3, if_neg c3]
          by_cases c4 : x = 1
          · rw [if_pos c4, if_pos c4]
            exact ⟨rfl, hI, zOut_r _ _ _⟩
          · rw [if_neg c4, if_neg c4]
            exact ⟨rfl, hI, zOut_r _ _ _⟩
      · rw [sp168 hM hI.1 hW.1 hs, zb_t c1, spin (l := 0) (m := 2) hx rfl rfl, zb_t (by omega), zi_0, zi_1, zeq_i (by omega), zeq_i (a := x) (b := 1) (by omega), zi_ix (by omega) (by omega), Int.toNat_natCast, hI.1.2.2.2.2.2.2.2.1 s (by omega), sp215 hM hI.1 hW.1 (by omega), sp215 hM hI.1 hW.1 (by omega), sp216 hM hI.1 hW.1 (by omega) (mOwn_lt hW.1 _), mWorth_has]
        by_cases c3 : x = 0
        · rw [if_pos c3, if_pos c3]
          exact ⟨hvs, rfl, hI, zOut_r _ _ _⟩
        · rw [if_neg c3, if_neg c3]
          by_cases c4 : x = 1
          · rw [if_pos c4, if_pos c4]
            exact ⟨rfl, hI, zOut_r _ _ _⟩
          · rw [if_neg c4, if_neg c4]
            exact ⟨rfl, hI, zOut_r _ _ _⟩
    · refine ⟨zi (-2), zRf D (-2), hW, fun C hI => vc110 hX ?_, fun C hI => vc214 hM ?_⟩
      · rw [sp27 (zo_4_0 hX) hI.1 hW.1 hs, zb_t c1, z_m2, zi_0, zi_2]
        by_cases c4 : x < 0
        · rw [zlt_t (by omega)]; exact xrf hX hI (by omega)
        · rw [zlt_f (by omega), zlt_t (by omega)]; exact xrf hX hI (by omega)
      · rw [sp168 hM hI.1 hW.1 hs, zb_t c1, spin (l := 0) (m := 2) hx rfl rfl, zb_f (by omega), z_m2]; exact mrf hM hW hI (by omega)
  · refine ⟨zi (-2), zRf D (-2), hW, fun C hI => vc110 hX ?_, fun C hI => vc214 hM ?_⟩
    · rw [sp27 (zo_4_0 hX) hI.1 hW.1 hs, zb_f c1, z_m2]; exact xrf hX hI (by omega)
    · rw [sp168 hM hI.1 hW.1 hs, zb_f c1, z_m2]; exact mrf hM hW hI (by omega)
/-- whose -/
theorem cl_whose (hX : zs_4 S e) (hM : zs_5 S a) (hW : zWI D) {l t : Int} (hl : -2147483648 ≤ l ∧ l < 2147483648) (ht : -2147483648 ≤ t ∧ t < 2147483648) : zBI X S e a D 2 111 [.int (zi l), .int (zi t)] 1 217 [.int (zi l), .int (zi t)] := by
  by_cases c1 : 0 ≤ l ∧ l ≤ 3
  · by_cases c2 : 0 ≤ t ∧ t ≤ 1000000000
    · obtain ⟨l, rfl⟩ : ∃ y : Nat, l = y := ⟨l.toNat, by omega⟩
      obtain ⟨t, rfl⟩ : ∃ y : Nat, t = y := ⟨t.toNat, by omega⟩
      refine ⟨zi (mAt (gE D) l t), D, hW, fun C hI => vc111 hX ?_, fun C hI => vc217 hM ?_⟩
      · rw [sp75 hl, zb_t c1, zi_0, z_9, zlt_f (by omega), zlt_f (by omega), sp46 (zo_4_0 hX) hI.1 hW.1 (by omega) (by omega)]
        exact ⟨rfl, hI, zOut_r _ _ _⟩
      · rw [spin (l := 0) (m := 3) hl rfl rfl, zb_t (by omega), spin (l := 0) (m := 1000000000) ht rfl rfl, zb_t (by omega), sp178 hM hI.1 hW.1 (by omega) (by omega)]
        exact ⟨rfl, hI, zOut_r _ _ _⟩
    · refine ⟨zi (-2), zRf D (-2), hW, fun C hI => vc111 hX ?_, fun C hI => vc217 hM ?_⟩
      · rw [sp75 hl, zb_t c1, z_m2, zi_0, z_9]
        by_cases c4 : t < 0
        · rw [zlt_t (by omega)]; exact xrf hX hI (by omega)
        · rw [zlt_f (by omega), zlt_t (by omega)]; exact xrf hX hI (by omega)
      · rw [spin (l := 0) (m := 3) hl rfl rfl, zb_t (by omega), spin (l := 0) (m := 1000000000) ht rfl rfl, zb_f (by omega), z_m2]; exact mrf hM hW hI (by omega)
  · refine ⟨zi (-2), zRf D (-2), hW, fun C hI => vc111 hX ?_, fun C hI => vc217 hM ?_⟩
    · rw [sp75 hl, zb_f c1, z_m2]; exact xrf hX hI (by omega)
    · rw [spin (l := 0) (m := 3) hl rfl rfl, zb_f (by omega), z_m2]; exact mrf hM hW hI (by omega)
end
