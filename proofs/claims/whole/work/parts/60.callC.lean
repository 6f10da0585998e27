/-! THE CALLS, both sides: show, sides, thing, feed, wipe -/
section
variable {X : zX} {S : zx_S} {C : zx_C} {q : zx_C → Prop} {e : Nat} {E : zT}
/-- addThing, of the model -/
theorem sp188 (hS : zs_5 S e) (hE : zME C e E) (hW : zWF E) (hT : eT E < 8) {a b c : Int} : zCd X 0 188 [.ref e, .int (zi a), .int (zi b), .int (zi c)] S C (zQv (fun C1 => zME C1 e (sThing E a b c) ∧ (∀ b k, ¬ (b = e ∧ 10 ≤ k ∧ k ≤ 19) → (b < e + 19 ∨ e + 30 ≤ b) → C1.1 b k = C.1 b k) ∧ C1.2 = C.2)) := by
  refine vc188 hS ?_
  have hn := hW.1
  have m11 : ∀ (D : zx_C) (t i : Nat) (v : Int32), (zp D (e + 19 + t) i v).1 e 11 = D.1 e 11 := fun D t i v => zp_ne (by omega)
  have m10 : ∀ (D : zx_C) (t i : Nat) (v : Int32), (zp D (e + 19 + t) i v).1 e 10 = D.1 e 10 := fun D t i v => zp_ne (by omega)
  have m27 : ∀ (D : zx_C) (i : Nat) (v : Int32), (zp D (e + 27) i v).1 e 11 = D.1 e 11 := fun D i v => zp_ne (by omega)
  have hx0 : Int32.toNatClampNeg 0 = 0 := rfl
  have hx1 : Int32.toNatClampNeg 1 = 1 := rfl
  have hx2 : Int32.toNatClampNeg 2 = 2 := rfl
  have hxT : Int32.toNatClampNeg (zi (eT E : Int)) = eT E := by rw [zi_ix (by omega) (by omega), Int.toNat_natCast]
  simp only [m11, m10, m27, hE.1, hE.2.1, hx0, hx1, hx2, hxT]
  have v8 : vp_in (zi (eT E : Int)) 8 := zi_in (by omega) (by omega) (by omega)
  have w0 : vp_in 0 3 := zi_in (a := 0) (by omega) (by omega) (by omega)
  have w1 : vp_in 1 3 := zi_in (a := 1) (by omega) (by omega) (by omega)
  have w2 : vp_in 2 3 := zi_in (a := 2) (by omega) (by omega) (by omega)
  have fin : ∀ c2 : Int32, (eN E = 3 → c2 = zi c) → zME (zp (zp (zp (zp (zp C (e + 19 + eT E) 0 (zi a)) (e + 19 + eT E) 1 (zi b)) (e + 19 + eT E) 2 c2) (e + 27) (eT E) (-1)) e 11 (zi (eT E) + 1)) e (sThing E a b c) ∧ (∀ b' k, ¬ (b' = e ∧ 10 ≤ k ∧ k ≤ 19) → (b' < e + 19 ∨ e + 30 ≤ b') → (zp (zp (zp (zp (zp C (e + 19 + eT E) 0 (zi a)) (e + 19 + eT E) 1 (zi b)) (e + 19 + eT E) 2 c2) (e + 27) (eT E) (-1)) e 11 (zi (eT E) + 1)).1 b' k = C.1 b' k) ∧ (zp (zp (zp (zp (zp C (e + 19 + eT E) 0 (zi a)) (e + 19 + eT E) 1 (zi b)) (e + 19 + eT E) 2 c2) (e + 27) (eT E) (-1)) e 11 (zi (eT E) + 1)).2 = C.2 := by
    intro c2 hc2
    obtain ⟨v1, v2, v3, v4, v5, v6, v7, v8, v9, v10⟩ := hE
    refine ⟨⟨?_, ?_, ?_, ?_, ?_, ?_, fun i hi => ?_, fun s hs => ?_, fun k hk => ?_, fun s k hs hk => ?_⟩, fun b' k h1 h2 => ?_, rfl⟩
    · rw [zp_nf (by omega), zp_ne (by omega), zp_ne (by omega), zp_ne (by omega), zp_ne (by omega)]; exact v1
    · rw [zp_hit, zi_s]; rfl
    · rw [zp_nf (by omega), zp_ne (by omega), zp_ne (by omega), zp_ne (by omega), zp_ne (by omega)]; exact v3
    · rw [zp_nf (by omega), zp_ne (by omega), zp_ne (by omega), zp_ne (by omega), zp_ne (by omega)]; exact v4
    · rw [zp_nf (by omega), zp_ne (by omega), zp_ne (by omega), zp_ne (by omega), zp_ne (by omega)]; exact v5
    · rw [zp_nf (by omega), zp_ne (by omega), zp_ne (by omega), zp_ne (by omega), zp_ne (by omega)]; exact v6
    · rw [zp_ne (by omega), zp_ne (by omega), zp_ne (by omega), zp_ne (by omega), zp_ne (by omega)]; exact v7 i hi
    · rw [zp_ne (by omega), zp_ne (by omega), zp_ne (by omega), zp_ne (by omega), zp_ne (by omega)]; exact v8 s hs
    · have hk2 : k < eT E + 1 := hk
      rw [zp_ne (by omega)]
      by_cases hk3 : k = eT E
      · subst hk3
        rw [zp_hit, zi_m1]
        exact congrArg zi (if_pos rfl).symm
      · rw [zp_nf hk3, zp_ne (by omega), zp_ne (by omega), zp_ne (by omega), v9 k (by omega)]
        exact congrArg zi (if_neg hk3).symm
    · have hk2 : k < eT E + 1 := hk
      have hs2 : s < eN E := hs
      have hsc : s = 0 ∨ s = 1 ∨ s = 2 := by omega
      rw [zp_ne (by omega), zp_ne (by omega)]
      by_cases hk3 : k = eT E
      · subst hk3
        have hu : eu (sThing E a b c) s (eT E) = if s = 0 then a else if s = 1 then b else c := if_pos rfl
        rw [hu]
        rcases hsc with h | h | h <;> subst h
        · rw [zp_nf (by omega), zp_nf (by omega), zp_hit]; rfl
        · rw [zp_nf (by omega), zp_hit]; rfl
        · rw [zp_hit, hc2 (by omega)]; rfl
      · have hu : eu (sThing E a b c) s k = eu E s k := if_neg hk3
        rw [zp_ne (by omega), zp_ne (by omega), zp_ne (by omega), hu]
        exact v10 s k hs2 (by omega)
    · rw [zp_miss _ _ _ _ (by omega), zp_ne (by omega), zp_ne (by omega), zp_ne (by omega), zp_ne (by omega)]
  refine ⟨v8, w0, v8, w1, v8, ?_⟩
  rw [zi_3, zeq_i (by omega)]
  by_cases c3 : (eN E : Int) = 3
  · rw [if_pos c3]
    exact ⟨w2, v8, fin _ (fun _ => rfl)⟩
  · rw [if_neg c3]
    exact ⟨w2, v8, fin _ (fun q => by omega)⟩
theorem lq186 (hS : zs_5 S e) (z1 : Value) : ∀ (j i : Nat) (C0 : zx_C), i + j = 3 → (∀ k, k < i → C0.1 (e + 29) k = zi 0) → (∀ b k, b ≠ e + 29 → C0.1 b k = C.1 b k) → C0.2 = C.2 → zW X 0 186 19 [.ref e, z1, .int (zi i)] [] S C0 (zQv (fun C1 => (∀ k, k < 3 → C1.1 (e + 29) k = zi 0) ∧ (∀ b k, b ≠ e + 29 → C1.1 b k = C.1 b k) ∧ C1.2 = C.2)) := by
  intro j
  induction j with
  | zero =>
    intro i C0 hi g1 g2 g3
    refine vc186_19 (a1 := 0) hS ?_
    rw [zi_3, zlt_f (by omega)]
    exact ⟨fun k hk => g1 k (by omega), g2, g3⟩
  | succ j ih =>
    intro i C0 hi g1 g2 g3
    refine vc186_19 (a1 := 0) hS ?_
    rw [zi_3, zlt_t (by omega), zi_s, zi_ix (by omega) (by omega), Int.toNat_natCast]
    refine ⟨zi_in (by omega) (by omega) (by omega), ih (i + 1) _ (by omega) (fun k hk => ?_) (fun b k hb => ?_) g3⟩
    · by_cases hk2 : k = i
      · subst hk2
        rw [zp_hit, zi_0]
      · rw [zp_nf hk2]
        exact g1 k (by omega)
    · rw [zp_ne hb, g2 b k hb]
/-- becomeSides, of the model -/
theorem sp186 (hS : zs_5 S e) (hE : zME C e E) (hT : eT E = 0) {n : Nat} : zCd X 0 186 [.ref e, .int (zi n)] S C (zQv (fun C1 => zME C1 e (sSides E n) ∧ (∀ b k, ¬ (b = e ∧ 10 ≤ k ∧ k ≤ 19) → (b < e + 19 ∨ e + 30 ≤ b) → C1.1 b k = C.1 b k) ∧ C1.2 = C.2)) := by
  refine vc186 hS ⟨zi_in (a := 0) (by omega) (by omega) (by omega), ?_⟩
  refine zW_mono (lq186 hS _ 3 0 _ (by omega) (fun k hk => absurd hk (Nat.not_lt_zero k)) (fun _ _ _ => rfl) rfl) (fun v C1 w => ⟨w.1, ?_⟩)
  obtain ⟨-, g1, g2, g3⟩ := w
  obtain ⟨v1, v2, v3, v4, v5, v6, v7, v8, v9, v10⟩ := hE
  refine ⟨⟨?_, ?_, ?_, ?_, ?_, ?_, fun i hi => ?_, fun s hs => g1 s hs, fun k hk => ?_, fun s k hs hk => ?_⟩, fun b k h1 h2 => ?_, g3⟩
  · rw [g2 _ _ (by omega), zp_ne (by omega), zp_nf (by omega), zp_hit]; rfl
  · rw [g2 _ _ (by omega), zp_ne (by omega), zp_nf (by omega), zp_nf (by omega)]; exact v2
  · rw [g2 _ _ (by omega), zp_ne (by omega), zp_nf (by omega), zp_nf (by omega)]; exact v3
  · rw [g2 _ _ (by omega), zp_ne (by omega), zp_nf (by omega), zp_nf (by omega)]; exact v4
  · rw [g2 _ _ (by omega), zp_ne (by omega), zp_nf (by omega), zp_nf (by omega)]; exact v5
  · rw [g2 _ _ (by omega), zp_ne (by omega), zp_hit, zi_1]; rfl
  · have hi0 : i = 0 := by have : i < 1 := hi; omega
    subst hi0
    rw [g2 _ _ (by omega)]
    exact zp_hit _ _ _ _
  · have hk2 : k < eT E := hk
    omega
  · have hk2 : k < eT E := hk
    omega
  · rw [g2 _ _ (by omega), zp_ne (by omega), zp_miss _ _ _ _ (by omega), zp_miss _ _ _ _ (by omega)]
end
section
variable {X : zX} {S : zx_S} {C : zx_C} {q : Int32 → zx_C → Prop} {e a : Nat} {D : zDD}
/-- sides -/
theorem cl_sides (hX : zs_4 S e) (hM : zs_5 S a) (hW : zWI D) {n : Int} (hn : -2147483648 ≤ n ∧ n < 2147483648) : zBI X S e a D 2 67 [.int (zi n)] 1 185 [.int (zi n)] := by
  have hT := hW.1.2.1
  by_cases c1 : 2 ≤ n ∧ n ≤ 3
  · by_cases c2 : eT (gE D) = 0
    · obtain ⟨n, rfl⟩ : ∃ k : Nat, n = k := ⟨n.toNat, by omega⟩
      refine ⟨zi (eN (gE D)), (sSides (gE D) n, D.2), zWI_E hW (wSides hW.1 c2 (by omega)), fun C hI => vc67 hX ?_, fun C hI => vc185 hM ?_⟩
      · rw [zi_2, zi_3, zi_0, zlt_f (by omega), zlt_f (by omega), hI.1.2.1, zlt_f (by omega), hI.1.1]
        refine zc_mV (sp68 (zo_4_0 hX) hI.1 c2) (fun C1 w => ⟨rfl, zIX_E hI w.1 (fun b k hb => w.2.1 b k (by omega)) w.2.2, fun b k hb => w.2.1 b k (by omega), fun b k _ => by rw [w.2.2]⟩)
      · rw [spin (l := 2) (m := 3) hn rfl rfl, zb_t (by omega), hI.1.2.1, zi_0, zlt_f (by omega), hI.1.1]
        refine zc_mV (sp186 hM hI.1 c2) (fun C1 w => ⟨rfl, zIM_E hW hI w.1 w.2.1 w.2.2, fun b k hb => w.2.1 b k (by omega) (by omega), fun b k _ => by rw [w.2.2]⟩)
    · refine ⟨zi (-5), zRf D (-5), hW, fun C hI => vc67 hX ?_, fun C hI => vc185 hM ?_⟩
      · rw [zi_2, zi_3, zi_0, zlt_f (by omega), zlt_f (by omega), hI.1.2.1, zlt_t (by omega), z_m5]; exact xrf hX hI (by omega)
      · rw [spin (l := 2) (m := 3) hn rfl rfl, zb_t (by omega), hI.1.2.1, zi_0, zlt_t (by omega), z_m5]; exact mrf hM hW hI (by omega)
  · refine ⟨zi (-2), zRf D (-2), hW, fun C hI => vc67 hX ?_, fun C hI => vc185 hM ?_⟩
    · rw [z_m2, zi_2, zi_3]
      by_cases c4 : n < 2
      · rw [zlt_t (by omega)]; exact xrf hX hI (by omega)
      · rw [zlt_f (by omega), zlt_t (by omega)]; exact xrf hX hI (by omega)
    · rw [spin (l := 2) (m := 3) hn rfl rfl, zb_f (by omega), z_m2]; exact mrf hM hW hI (by omega)
/-- thing -/
theorem cl_thing (hX : zs_4 S e) (hM : zs_5 S a) (hW : zWI D) {x y z : Int} (hx : -2147483648 ≤ x ∧ x < 2147483648) (hy : -2147483648 ≤ y ∧ y < 2147483648) (hz : -2147483648 ≤ z ∧ z < 2147483648) : zBI X S e a D 2 69 [.int (zi x), .int (zi y), .int (zi z)] 1 187 [.int (zi x), .int (zi y), .int (zi z)] := by
  have hn := hW.1.1
  have hT := hW.1.2.1
  by_cases c1 : 0 ≤ x ∧ x ≤ 99
  · by_cases c2 : 0 ≤ y ∧ y ≤ 99
    · by_cases c3 : eN (gE D) = 3 → (0 ≤ z ∧ z ≤ 99)
      · by_cases c4 : eT (gE D) = 8
        · refine ⟨zi (-6), zRf D (-6), hW, fun C hI => vc69 hX ?_, fun C hI => vc187 hM ?_⟩
          · rw [sp70 hx, zb_t c1, sp70 hy, zb_t c2, hI.1.1, hI.1.2.1, zi_2, zi_8, zlt_i (by omega), z_m6, zlt_f (by omega), sp70 hz]
            by_cases c5 : (2 : Int) < eN (gE D)
            · rw [if_pos c5, zb_t (c3 (by omega)), hI.1.2.1, zlt_f (by omega)]; exact xrf hX hI (by omega)
            · rw [if_neg c5]; exact xrf hX hI (by omega)
          · rw [spin (l := 0) (m := 99) hx rfl rfl, zb_t (by omega), spin (l := 0) (m := 99) hy rfl rfl, zb_t (by omega), hI.1.1, hI.1.2.1, zi_3, zi_8, zeq_i (by omega), z_m6, show zi (eT (gE D) : Int) = zi 8 by rw [c4]; rfl, if_pos (show zi 8 = zi 8 from rfl), spin (l := 0) (m := 99) hz rfl rfl]
            by_cases c5 : (eN (gE D) : Int) = 3
            · rw [if_pos c5, zb_t (c3 (by omega)), hI.1.2.1, show zi (eT (gE D) : Int) = zi 8 by rw [c4]; rfl, if_pos rfl]; exact mrf hM hW hI (by omega)
            · rw [if_neg c5]; exact mrf hM hW hI (by omega)
        · refine ⟨zi (eT (gE D)), (sThing (gE D) x y z, D.2), zWI_E hW (wThing hW.1 (by omega) c1 c2 c3), fun C hI => vc69 hX ?_, fun C hI => vc187 hM ?_⟩
          · have fin : zCd X 1 71 [.ref (e + 1), .int (zi x), .int (zi y), .int (zi z)] S C (zQv (fun C7 => (C7.1 (e + 1) 1) - 1 = zi (eT (gE D)) ∧ zIX C7 e (sThing (gE D) x y z, D.2) ∧ zOut C C7 e (e + 42))) := by
              refine zc_mV (sp71 (zo_4_0 hX) hI.1 hW.1 (by omega)) (fun C1 w => ⟨?_, zIX_E hI w.1 (fun b k hb => w.2.1 b k (by omega)) w.2.2, fun b k hb => w.2.1 b k (by omega), fun b k _ => by rw [w.2.2]⟩)
              rw [w.1.2.1, zi_1, zi_sub]
              show zi (((eT (gE D) + 1 : Nat) : Int) - 1) = _
              rw [show (((eT (gE D) + 1 : Nat) : Int) - 1) = (eT (gE D) : Int) by omega]
            rw [sp70 hx, zb_t c1, sp70 hy, zb_t c2, hI.1.1, hI.1.2.1, zi_2, zi_8, zlt_i (by omega), zlt_t (by omega), sp70 hz]
            by_cases c5 : (2 : Int) < eN (gE D)
            · rw [if_pos c5, zb_t (c3 (by omega)), hI.1.2.1, zlt_t (by omega)]; exact fin
            · rw [if_neg c5]; exact fin
          · have fin : zCd X 0 188 [.ref a, .int (zi x), .int (zi y), .int (zi z)] S C (zQv (fun C7 => (C7.1 a 11) - 1 = zi (eT (gE D)) ∧ zIM S C7 a (sThing (gE D) x y z, D.2) ∧ zOut C C7 a (a + 295))) := by
              refine zc_mV (sp188 hM hI.1 hW.1 (by omega)) (fun C1 w => ⟨?_, zIM_E hW hI w.1 w.2.1 w.2.2, fun b k hb => w.2.1 b k (by omega) (by omega), fun b k _ => by rw [w.2.2]⟩)
              rw [w.1.2.1, zi_1, zi_sub]
              show zi (((eT (gE D) + 1 : Nat) : Int) - 1) = _
              rw [show (((eT (gE D) + 1 : Nat) : Int) - 1) = (eT (gE D) : Int) by omega]
            rw [spin (l := 0) (m := 99) hx rfl rfl, zb_t (by omega), spin (l := 0) (m := 99) hy rfl rfl, zb_t (by omega), hI.1.1, hI.1.2.1, zi_3, zi_8, zeq_i (by omega), zeq_f (by omega), spin (l := 0) (m := 99) hz rfl rfl]
            by_cases c5 : (eN (gE D) : Int) = 3
            · rw [if_pos c5, zb_t (c3 (by omega)), hI.1.2.1, zeq_f (by omega)]; exact fin
            · rw [if_neg c5]; exact fin
      · have c6 : eN (gE D) = 3 := by
          refine Classical.byContradiction fun q => c3 fun h => absurd h q
        have c7 : ¬ (0 ≤ z ∧ z ≤ 99) := fun q => c3 fun _ => q
        refine ⟨zi (-2), zRf D (-2), hW, fun C hI => vc69 hX ?_, fun C hI => vc187 hM ?_⟩
        · rw [sp70 hx, zb_t c1, sp70 hy, zb_t c2, hI.1.1, z_m2, zi_2, zlt_t (by omega), sp70 hz, zb_f c7]; exact xrf hX hI (by omega)
        · rw [spin (l := 0) (m := 99) hx rfl rfl, zb_t (by omega), spin (l := 0) (m := 99) hy rfl rfl, zb_t (by omega), hI.1.1, zi_3, zeq_t (by omega), spin (l := 0) (m := 99) hz rfl rfl, zb_f c7, z_m2]; exact mrf hM hW hI (by omega)
    · refine ⟨zi (-2), zRf D (-2), hW, fun C hI => vc69 hX ?_, fun C hI => vc187 hM ?_⟩
      · rw [sp70 hx, zb_t c1, sp70 hy, zb_f c2, z_m2]; exact xrf hX hI (by omega)
      · rw [spin (l := 0) (m := 99) hx rfl rfl, zb_t (by omega), spin (l := 0) (m := 99) hy rfl rfl, zb_f (by omega), z_m2]; exact mrf hM hW hI (by omega)
  · refine ⟨zi (-2), zRf D (-2), hW, fun C hI => vc69 hX ?_, fun C hI => vc187 hM ?_⟩
    · rw [sp70 hx, zb_f c1, z_m2]; exact xrf hX hI (by omega)
    · rw [spin (l := 0) (m := 99) hx rfl rfl, zb_f (by omega), z_m2]; exact mrf hM hW hI (by omega)
/-- feed -/
theorem cl_feed (hX : zs_4 S e) (hM : zs_5 S a) (hW : zWI D) {v : Int} (hv : -2147483648 ≤ v ∧ v < 2147483648) : zBI X S e a D 2 81 [.int (zi v)] 1 196 [.int (zi v)] := by
  have hN := hW.2.2.2.2.1
  by_cases c1 : 0 ≤ v ∧ v ≤ 255
  · by_cases c2 : gn D = 250
    · refine ⟨zi (-6), zRf D (-6), hW, fun C hI => vc81 hX ?_, fun C hI => vc196 hM ?_⟩
      · rw [zi_0, zi_255, zi_250, z_m6, zlt_f (by omega), zlt_f (by omega), hI.2.2.2.1, zlt_f (by omega)]; exact xrf hX hI (by omega)
      · rw [spin (l := 0) (m := 255) hv rfl rfl, zb_t (by omega), hI.2.2.2.1, zi_250, zeq_t (by omega), z_m6]; exact mrf hM hW hI (by omega)
    · refine ⟨zi ((gn D + 1 : Nat) : Int), (gE D, gK D, gH D, (gn D + 1, fun i => if i = gn D then v else gb D i), gr D), ⟨hW.1, hW.2.1, hW.2.2.1, hW.2.2.2.1, by show gn D + 1 ≤ 250; omega, fun i hi => ?_⟩, fun C hI => vc81 hX ?_, fun C hI => vc196 hM ?_⟩
      · have hi2 : i < gn D + 1 := hi
        show 0 ≤ (if i = gn D then v else gb D i) ∧ (if i = gn D then v else gb D i) ≤ 255
        by_cases c : i = gn D
        · rw [if_pos c]; exact c1
        · rw [if_neg c]; exact hW.2.2.2.2.2 i (by omega)
      · obtain ⟨g1, g2, g3, g4, g5, g6, g7⟩ := hI
        rw [zi_0, zi_255, zi_250, zlt_f (by omega), zlt_f (by omega), g4, zlt_t (by omega), sp12 (za_3_0 (zo_4_3 hX)) (by omega) (by omega) (by omega), zp_hit, zp_ne (by omega), g4, zi_s, Int.toNat_natCast]
        refine ⟨rfl, ⟨zXE_of g1 (fun b k _ _ => ?_), zXk_of g2 ?_ (fun b k _ _ => ?_), zXS_of g3 (fun b k _ _ => ?_) (fun b k _ _ => rfl), zp_hit _ _ _ _, fun i hi => ?_, fun j hj => ?_, zZz_of g7 (fun b k hb _ => by rw [zp_ne (by omega), zp_ne (by omega)])⟩, fun b k hb => ?_, fun _ _ _ => rfl⟩
        · rw [zp_ne (by omega), zp_ne (by omega)]
        · rw [zp_ne (by omega), zp_ne (by omega)]
        · rw [zp_ne (by omega), zp_ne (by omega)]
        · rw [zp_ne (by omega), zp_ne (by omega)]
        · have hi2 : i < gn D + 1 := hi
          show _ = zi (if i = gn D then v else gb D i)
          rw [zp_ne (by omega)]
          by_cases c : i = gn D
          · rw [if_pos c, c]; exact zp_hit _ _ _ _
          · rw [if_neg c, zp_nf c]; exact g5 i (by omega)
        · rw [zp_ne (by omega), zp_ne (by omega)]; exact g6 j hj
        · rw [zp_ne (by omega), zp_ne (by omega)]
      · obtain ⟨g1, g2, g3, g4, g5, g6, g7⟩ := hI
        rw [spin (l := 0) (m := 255) hv rfl rfl, zb_t (by omega), g4, zi_250, zeq_f (by omega)]
        refine ⟨zi_in (by omega) (by omega) (by omega), ?_⟩
        rw [zi_s, zi_ix (by omega) (by omega), Int.toNat_natCast, zp_ne (by omega), zp_hit]
        refine ⟨rfl, ⟨?_, zMk_of hW.2.1 g2 (fun b k hb => ?_), zMS_of g3 (fun b k _ _ => ?_) (fun b k _ _ => ?_) (fun b k _ _ => rfl), ?_, fun i hi => ?_, fun j hj => ?_, g7⟩, fun b k hb => ?_, fun _ _ _ => rfl⟩
        · have hT := hW.1.2.1
          obtain ⟨v1, v2, v3, v4, v5, v6, v7, v8, v9, v10⟩ := g1
          refine ⟨?_, ?_, ?_, ?_, ?_, ?_, fun i hi => ?_, fun s hs => ?_, fun k hk => ?_, fun s k hs hk => ?_⟩
          · rw [zp_ne (by omega), zp_nf (by omega)]; exact v1
          · rw [zp_ne (by omega), zp_nf (by omega)]; exact v2
          · rw [zp_ne (by omega), zp_nf (by omega)]; exact v3
          · rw [zp_ne (by omega), zp_nf (by omega)]; exact v4
          · rw [zp_ne (by omega), zp_nf (by omega)]; exact v5
          · rw [zp_ne (by omega), zp_nf (by omega)]; exact v6
          · rw [zp_ne (by omega), zp_ne (by omega)]; exact v7 i hi
          · rw [zp_ne (by omega), zp_ne (by omega)]; exact v8 s hs
          · rw [zp_ne (by omega), zp_ne (by omega)]; exact v9 k hk
          · rw [zp_ne (by omega), zp_ne (by omega)]; exact v10 s k hs hk
        · rw [zp_ne (by omega), zp_ne (by omega)]
        · rw [zp_ne (by omega), zp_ne (by omega)]
        · rw [zp_ne (by omega), zp_ne (by omega)]
        · rw [zp_ne (by omega), zp_hit]
        · have hi2 : i < gn D + 1 := hi
          show _ = zi (if i = gn D then v else gb D i)
          by_cases c : i = gn D
          · rw [if_pos c, c]; exact zp_hit _ _ _ _
          · rw [if_neg c, zp_nf c, zp_ne (by omega)]; exact g5 i (by omega)
        · rw [zp_ne (by omega), zp_ne (by omega)]; exact g6 j hj
        · rw [zp_ne (by omega), zp_ne (by omega)]
  · refine ⟨zi (-2), zRf D (-2), hW, fun C hI => vc81 hX ?_, fun C hI => vc196 hM ?_⟩
    · rw [z_m2, zi_0, zi_255]
      by_cases c4 : v < 0
      · rw [zlt_t (by omega)]; exact xrf hX hI (by omega)
      · rw [zlt_f (by omega), zlt_t (by omega)]; exact xrf hX hI (by omega)
    · rw [spin (l := 0) (m := 255) hv rfl rfl, zb_f (by omega), z_m2]; exact mrf hM hW hI (by omega)
/-- an empty tape -/
def sWipe (D : zDD) : zDD := (gE D, gK D, gH D, (0, gb D), gr D)
theorem zIX_wipe (h : zIX C e D) : zIX (zp C (e + 16) 1 0) e (sWipe D) := by
  obtain ⟨g1, g2, g3, g4, g5, g6, g7⟩ := h
  refine ⟨zXE_of g1 (fun b k _ _ => zp_ne (by omega)), zXk_of g2 (zp_ne (by omega)) (fun b k _ _ => zp_ne (by omega)), zXS_of g3 (fun b k _ _ => zp_ne (by omega)) (fun b k _ _ => rfl), zp_hit _ _ _ _, fun i hi => absurd hi (Nat.not_lt_zero i), fun j hj => ?_, zZz_of g7 (fun b k hb _ => zp_ne (by omega))⟩
  rw [zp_ne (by omega)]
  exact g6 j hj
theorem zIM_wipe (hW : zWI D) (h : zIM S C a D) : zIM S (zp C a 8 0) a (sWipe D) := by
  obtain ⟨g1, g2, g3, g4, g5, g6, g7⟩ := h
  have hT := hW.1.2.1
  refine ⟨?_, zMk_of hW.2.1 g2 (fun b k hb => zp_ne (by omega)), zMS_of g3 (fun b k _ _ => zp_ne (by omega)) (fun b k _ _ => zp_ne (by omega)) (fun b k _ _ => rfl), zp_hit _ _ _ _, fun i hi => absurd hi (Nat.not_lt_zero i), fun j hj => ?_, g7⟩
  · obtain ⟨v1, v2, v3, v4, v5, v6, v7, v8, v9, v10⟩ := g1
    refine ⟨?_, ?_, ?_, ?_, ?_, ?_, fun i hi => ?_, fun s hs => ?_, fun k hk => ?_, fun s k hs hk => ?_⟩
    · rw [zp_nf (by omega)]; exact v1
    · rw [zp_nf (by omega)]; exact v2
    · rw [zp_nf (by omega)]; exact v3
    · rw [zp_nf (by omega)]; exact v4
    · rw [zp_nf (by omega)]; exact v5
    · rw [zp_nf (by omega)]; exact v6
    · rw [zp_ne (by omega)]; exact v7 i hi
    · rw [zp_ne (by omega)]; exact v8 s hs
    · rw [zp_ne (by omega)]; exact v9 k hk
    · rw [zp_ne (by omega)]; exact v10 s k hs hk
  · rw [zp_ne (by omega)]
    exact g6 j hj
theorem zWI_wipe (h : zWI D) : zWI (sWipe D) := ⟨h.1, h.2.1, h.2.2.1, h.2.2.2.1, Nat.zero_le _, fun i hi => absurd hi (Nat.not_lt_zero i)⟩
/-- wipe -/
theorem cl_wipe (hX : zs_4 S e) (hM : zs_5 S a) (hW : zWI D) : zBI X S e a D 0 82 [] 0 197 [] := by
  refine ⟨zi (gn D), sWipe D, zWI_wipe hW, fun C hI => vc82 hX ?_, fun C hI => vc197 hM ?_⟩
  · rw [hI.2.2.2.1]
    exact ⟨rfl, zIX_wipe hI, fun b k hb => zp_ne (by omega), fun _ _ _ => rfl⟩
  · rw [hI.2.2.2.1]
    exact ⟨rfl, zIM_wipe hW hI, fun b k hb => zp_ne (by omega), fun _ _ _ => rfl⟩
/-- show -/
theorem cl_show (hX : zs_4 S e) (hM : zs_5 S a) (hW : zWI D) {s x : Int} (hs : -2147483648 ≤ s ∧ s < 2147483648) (hx : -2147483648 ≤ x ∧ x < 2147483648) : zBI X S e a D 2 26 [.int (zi s), .int (zi x)] 2 167 [.int (zi s), .int (zi x)] := by
  have hn := hW.1.1
  have hWH := hW.2.2.1
  by_cases c1 : 0 ≤ s ∧ s < 8
  · obtain ⟨s, rfl⟩ : ∃ k : Nat, s = k := ⟨s.toNat, by omega⟩
    have hv : vp_in (zi (s : Int)) 8 := zi_in (by omega) (by omega) (by omega)
    by_cases c2 : x = -1
    · subst c2
      refine ⟨zi 1, (gE D, gK D, sHide (gH D) s, D.2.2.2), ⟨hW.1, hW.2.1, zWH_hide hWH, zFH_hide hW.2.2.2.1, hW.2.2.2.2⟩, fun C hI => vc26 hX ?_, fun C hI => vc167 hM ?_⟩
      · rw [sp8 hs, zb_t c1, zi_m1, if_pos rfl, if_pos rfl]
        refine zc_mV (sp28 (zo_4_4 hX) hI.2.2.1 (by omega)) (fun C1 w => ⟨rfl, zIX_H hI w.1 (fun b k hb => w.2.1 b k (by omega)), fun b k hb => w.2.1 b k (by omega), fun b k _ => by rw [w.2.2]⟩)
      · rw [spin (l := 0) (m := 7) hs rfl rfl, zb_t (by omega), zi_m1, if_pos rfl, if_pos rfl]
        refine ⟨hv, ?_⟩
        rw [if_pos rfl, zi_ix (by omega) (by omega), Int.toNat_natCast]
        refine ⟨rfl, zIM_H hW hI (fun t ht => ?_) (fun b k hb => zp_ne (by omega)), fun b k hb => zp_ne (by omega), fun _ _ _ => rfl⟩
        obtain ⟨f1, f2, f3⟩ := hI.2.2.1 t ht
        show ((if t = s then -1 else hk (gH D) t) = -1 → _) ∧ (0 ≤ (if t = s then -1 else hk (gH D) t) → (if t = s then -1 else hk (gH D) t) ≤ 4 → _ ∧ _ = zi (if t = s then -1 else hk (gH D) t) ∧ _ ∧ _) ∧ (10 ≤ (if t = s then -1 else hk (gH D) t) → _ ∧ _ = zi ((if t = s then -1 else hk (gH D) t) - 10) ∧ _)
        by_cases c : t = s
        · subst c
          rw [if_pos rfl]
          refine ⟨fun _ => ?_, fun q => by omega, fun q => by omega⟩
          rw [zp_hit, zi_0]
        · rw [if_neg c]
          refine ⟨fun q => ?_, fun q1 q2 => ⟨?_, ?_, ?_, fun i hi => (f2 q1 q2).2.2.2 i hi⟩, fun q => ⟨?_, ?_, ?_⟩⟩
          · rw [zp_nf c]; exact f1 q
          · rw [zp_nf c]; exact (f2 q1 q2).1
          · rw [zp_ne (by omega)]; exact (f2 q1 q2).2.1
          · rw [zp_ne (by omega)]; exact (f2 q1 q2).2.2.1
          · rw [zp_nf c]; exact (f3 q).1
          · rw [zp_ne (by omega)]; exact (f3 q).2.1
          · rw [zp_ne (by omega)]; exact (f3 q).2.2
    · by_cases c3 : 0 ≤ x ∧ x < eN (gE D)
      · obtain ⟨x, rfl⟩ : ∃ k : Nat, x = k := ⟨x.toNat, by omega⟩
        have hB := hW.1.2.2.2.2.2.2.1 x (by omega)
        have hvx : vp_in (zi (x : Int)) 3 := zi_in (by omega) (by omega) (by omega)
        refine ⟨zi 1, (gE D, gK D, sShow (gH D) s x (eb (gE D) x), D.2.2.2), ⟨hW.1, hW.2.1, zWH_show hWH (by omega) hB, zFH_show hW.2.2.2.1 hB, hW.2.2.2.2⟩, fun C hI => vc26 hX ?_, fun C hI => vc167 hM ?_⟩
        · rw [sp8 hs, zb_t c1, zi_m1, zeq_f (by omega), sp27 (zo_4_0 hX) hI.1 hW.1 hx, zb_t c3, zeq_f (by omega), sp29 (zo_4_0 hX) hI.1 (by omega)]
          refine zc_mV (sp30 (zo_4_4 hX) hI.2.2.1 (by omega) hB) (fun C1 w => ⟨rfl, zIX_H hI w.1 (fun b k hb => w.2.1 b k (by omega)), fun b k hb => w.2.1 b k (by omega), fun b k _ => by rw [w.2.2]⟩)
        · rw [spin (l := 0) (m := 7) hs rfl rfl, zb_t (by omega), zi_m1, zeq_f (by omega), sp168 hM hI.1 hW.1 hx, zb_t c3, zeq_f (by omega)]
          refine ⟨hv, ?_⟩
          rw [zeq_f (by omega), zi_ix (by omega) (by omega), zi_ix (by omega) (by omega), Int.toNat_natCast, Int.toNat_natCast, zp_ne (by omega), hI.1.2.2.2.2.2.2.2.1 x (by omega)]
          refine ⟨hvx, hv, hv, rfl, zIM_H hW hI (fun t ht => ?_) (fun b k hb => ?_), fun b k hb => ?_, fun _ _ _ => rfl⟩
          · obtain ⟨f1, f2, f3⟩ := hI.2.2.1 t ht
            show ((if t = s then 10 + eb (gE D) x else hk (gH D) t) = -1 → _) ∧ (0 ≤ (if t = s then 10 + eb (gE D) x else hk (gH D) t) → (if t = s then 10 + eb (gE D) x else hk (gH D) t) ≤ 4 → _ ∧ _ = zi (if t = s then 10 + eb (gE D) x else hk (gH D) t) ∧ _ ∧ _) ∧ (10 ≤ (if t = s then 10 + eb (gE D) x else hk (gH D) t) → _ ∧ _ = zi ((if t = s then 10 + eb (gE D) x else hk (gH D) t) - 10) ∧ _ = zi (if t = s then (x : Int) else hb (gH D) t))
            by_cases c : t = s
            · subst c
              rw [if_pos rfl, if_pos rfl]
              refine ⟨fun q => by omega, fun q q2 => by omega, fun q => ⟨?_, ?_, ?_⟩⟩
              · rw [zp_ne (by omega), zp_ne (by omega), zp_hit, zi_2]
              · rw [zp_ne (by omega), zp_hit, show 10 + eb (gE D) x - 10 = eb (gE D) x by omega]
              · rw [zp_hit]
            · rw [if_neg c, if_neg c]
              refine ⟨fun q => ?_, fun q1 q2 => ⟨?_, ?_, ?_, fun i hi => (f2 q1 q2).2.2.2 i hi⟩, fun q => ⟨?_, ?_, ?_⟩⟩
              · rw [zp_ne (by omega), zp_ne (by omega), zp_nf c]; exact f1 q
              · rw [zp_ne (by omega), zp_ne (by omega), zp_nf c]; exact (f2 q1 q2).1
              · rw [zp_ne (by omega), zp_ne (by omega), zp_ne (by omega)]; exact (f2 q1 q2).2.1
              · rw [zp_ne (by omega), zp_ne (by omega), zp_ne (by omega)]; exact (f2 q1 q2).2.2.1
              · rw [zp_ne (by omega), zp_ne (by omega), zp_nf c]; exact (f3 q).1
              · rw [zp_ne (by omega), zp_nf c, zp_ne (by omega)]; exact (f3 q).2.1
              · rw [zp_nf c, zp_ne (by omega), zp_ne (by omega)]; exact (f3 q).2.2
          · rw [zp_ne (by omega), zp_ne (by omega), zp_ne (by omega)]
          · rw [zp_ne (by omega), zp_ne (by omega), zp_ne (by omega)]
      · refine ⟨zi (-2), zRf D (-2), hW, fun C hI => vc26 hX ?_, fun C hI => vc167 hM ?_⟩
        · rw [sp8 hs, zb_t c1, zi_m1, z_m2, zeq_f (by omega), sp27 (zo_4_0 hX) hI.1 hW.1 hx, zb_f c3]; exact xrf hX hI (by omega)
        · rw [spin (l := 0) (m := 7) hs rfl rfl, zb_t (by omega), zi_m1, z_m2, zeq_f (by omega), sp168 hM hI.1 hW.1 hx, zb_f c3]; exact mrf hM hW hI (by omega)
  · refine ⟨zi (-2), zRf D (-2), hW, fun C hI => vc26 hX ?_, fun C hI => vc167 hM ?_⟩
    · rw [sp8 hs, zb_f c1, z_m2]; exact xrf hX hI (by omega)
    · rw [spin (l := 0) (m := 7) hs rfl rfl, zb_f (by omega), z_m2]; exact mrf hM hW hI (by omega)
end
