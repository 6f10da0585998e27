/-! THE CALLS, both sides: row, set, element, holds, show -/
theorem zWH_row {H : zH} (h : zWH H) {s : Nat} {l n : Int} (hl4 : 0 ≤ l ∧ l ≤ 4) (hn : 0 ≤ n ∧ n ≤ 40) : zWH (sRow H s l n) := by
  intro t ht
  have hw := h t ht
  show (if t = s then l else hk H t) = -1 ∨ (0 ≤ (if t = s then l else hk H t) ∧ (if t = s then l else hk H t) ≤ 4 ∧ 0 ≤ (if t = s then n else hz H t) ∧ (if t = s then n else hz H t) ≤ 40) ∨ (10 ≤ (if t = s then l else hk H t) ∧ (if t = s then l else hk H t) ≤ 15 ∧ 0 ≤ hb H t ∧ hb H t ≤ 2)
  by_cases c : t = s
  · rw [if_pos c, if_pos c]; omega
  · rw [if_neg c, if_neg c]; omega
theorem zFH_row {H : zH} (h : zFH H) {s : Nat} {l n : Int} : zFH (sRow H s l n) := by
  intro t ht g1 g2 i hi
  show mFit (if t = s then l else hk H t).toNat (if t = s then 0 else hl H t i) = if t = s then 0 else hl H t i
  have g3 : 0 ≤ (if t = s then l else hk H t) := g1
  have g4 : (if t = s then l else hk H t) ≤ 4 := g2
  have hi2 : (i : Int) < (if t = s then n else hz H t) := hi
  by_cases c : t = s
  · rw [if_pos c, if_pos c]; exact mFit_z
  · rw [if_neg c] at g3 g4 hi2
    rw [if_neg c, if_neg c]; exact h t ht g3 g4 i hi2
theorem zWH_hide {H : zH} (h : zWH H) {s : Nat} : zWH (sHide H s) := by
  intro t ht
  have hw := h t ht
  show (if t = s then -1 else hk H t) = -1 ∨ (0 ≤ (if t = s then -1 else hk H t) ∧ (if t = s then -1 else hk H t) ≤ 4 ∧ 0 ≤ hz H t ∧ hz H t ≤ 40) ∨ (10 ≤ (if t = s then -1 else hk H t) ∧ (if t = s then -1 else hk H t) ≤ 15 ∧ 0 ≤ hb H t ∧ hb H t ≤ 2)
  by_cases c : t = s
  · rw [if_pos c]; omega
  · rw [if_neg c]; omega
theorem zFH_hide {H : zH} (h : zFH H) {s : Nat} : zFH (sHide H s) := by
  intro t ht g1 g2 i hi
  have g3 : 0 ≤ (if t = s then -1 else hk H t) := g1
  have g4 : (if t = s then -1 else hk H t) ≤ 4 := g2
  have hi2 : (i : Int) < hz H t := hi
  show mFit (if t = s then -1 else hk H t).toNat (hl H t i) = hl H t i
  by_cases c : t = s
  · rw [if_pos c] at g3; omega
  · rw [if_neg c] at g3 g4 ⊢
    exact h t ht g3 g4 i hi2
theorem zWH_show {H : zH} (h : zWH H) {s : Nat} {x b : Int} (hx : 0 ≤ x ∧ x ≤ 2) (hb5 : 0 ≤ b ∧ b ≤ 5) : zWH (sShow H s x b) := by
  intro t ht
  have hw := h t ht
  show (if t = s then 10 + b else hk H t) = -1 ∨ (0 ≤ (if t = s then 10 + b else hk H t) ∧ (if t = s then 10 + b else hk H t) ≤ 4 ∧ 0 ≤ hz H t ∧ hz H t ≤ 40) ∨ (10 ≤ (if t = s then 10 + b else hk H t) ∧ (if t = s then 10 + b else hk H t) ≤ 15 ∧ 0 ≤ (if t = s then x else hb H t) ∧ (if t = s then x else hb H t) ≤ 2)
  by_cases c : t = s
  · rw [if_pos c, if_pos c]; omega
  · rw [if_neg c, if_neg c]; omega
theorem zFH_show {H : zH} (h : zFH H) {s : Nat} {x b : Int} (hb5 : 0 ≤ b ∧ b ≤ 5) : zFH (sShow H s x b) := by
  intro t ht g1 g2 i hi
  have g3 : 0 ≤ (if t = s then 10 + b else hk H t) := g1
  have g4 : (if t = s then 10 + b else hk H t) ≤ 4 := g2
  have hi2 : (i : Int) < hz H t := hi
  show mFit (if t = s then 10 + b else hk H t).toNat (hl H t i) = hl H t i
  by_cases c : t = s
  · rw [if_pos c] at g4; omega
  · rw [if_neg c] at g3 g4 ⊢
    exact h t ht g3 g4 i hi2
theorem zFH_put {H : zH} (h : zFH H) {s i : Nat} {v : Int64} : zFH (sPut H s i (mFit (hk H s).toNat v)) := by
  intro t ht g1 g2 j hj
  have hj2 : (j : Int) < hz H t := hj
  show mFit (hk H t).toNat (if t = s ∧ j = i then mFit (hk H s).toNat v else hl H t j) = if t = s ∧ j = i then mFit (hk H s).toNat v else hl H t j
  by_cases c : t = s ∧ j = i
  · rw [if_pos c, c.1]; exact mFit_f
  · rw [if_neg c]; exact h t ht g1 g2 j hj2
section
variable {X : zX} {S : zx_S} {C : zx_C} {q : Int32 → zx_C → Prop} {e a : Nat} {D : zDD} {H : zH}
theorem sp15r (hS : zs_2 S e) (hH : zXS C e H) (hW : zWH H) {s : Nat} (hs : s < 8) (hr : 0 ≤ hk H s ∧ hk H s ≤ 4) : zCd X 2 15 [.ref e, .int (zi s)] S C (zQi q) = q (zi (hz H s)) C := by
  rw [sp15 hS hH hW hs, if_pos hr]
/-- in, of an int -/
theorem spin {k l m : Int} {L N : Int64} (hk : -2147483648 ≤ k ∧ k < 2147483648) (hL : L.toInt = l) (hN : N.toInt = m) : zCd X 0 159 [.long (Int32.toInt64 (zi k)), .long L, .long N] S C (zQi q) = q (zb (l ≤ k ∧ k ≤ m)) C := by
  rw [zl_zi hk, sp159, zl_toInt (by omega), hL, hN]
/-- noRow -/
theorem sp162 (hS : zs_5 S e) (hH : zMS C e H) (hW : zWH H) {s : Nat} (hs : s < 8) : zCd X 1 162 [.ref e, .int (zi s)] S C (zQi q) = q (zi (if hk H s = -1 then -4 else if hk H s ≤ 4 then 0 else -3)) C := by
  refine zc_eI (fun q h => vc162 hS ?_) q
  have hw := hW s hs
  obtain ⟨g1, g2, g3⟩ := hH s hs
  have hv : vp_in (zi (s : Int)) 8 := zi_in (by omega) (by omega) (by omega)
  rw [spin (l := 0) (m := 7) (by omega) rfl rfl, zb_t (by omega), zi_ix (by omega) (by omega), Int.toNat_natCast]
  refine ⟨hv, ?_⟩
  by_cases c1 : hk H s = -1
  · rw [if_pos c1] at h
    rw [g1 c1, zi_2, zeq_f (by omega)]
    refine ⟨hv, ?_⟩
    rw [zi_0, if_pos rfl]
    exact h
  · rw [if_neg c1] at h
    by_cases c2 : hk H s ≤ 4
    · rw [if_pos c2] at h
      rw [(g2 (by omega) c2).1, zi_2, zeq_f (by omega)]
      refine ⟨hv, ?_⟩
      rw [zi_0, zeq_f (by omega)]
      exact h
    · rw [if_neg c2] at h
      rw [(g3 (by omega)).1, zi_2, if_pos rfl]
      exact h
theorem lq158 (hS : zs_5 S e) {s : Nat} (hs : s < 8) (z2 z3 : Value) : ∀ (j i : Nat) (C0 : zx_C), i + j = 40 → (∀ k, k < i → C0.2 (e + 5 + s) k = 0) → zW X 1 158 67 [.ref e, .int (zi s), z2, z3, .int (zi i)] [] S C0 (zQi (fun r C1 => r = zi 1 ∧ (∀ k, k < 40 → C1.2 (e + 5 + s) k = 0) ∧ C1.1 = C0.1 ∧ ∀ b k, b ≠ e + 5 + s → C1.2 b k = C0.2 b k)) := by
  intro j
  induction j with
  | zero =>
    intro i C0 hi g1
    refine vc158_67 (a1 := 0) (a2 := 0) (a3 := 0) hS ?_
    rw [zi_40, zlt_f (by omega)]
    exact ⟨rfl, fun k hk => g1 k (by omega), rfl, fun _ _ _ => rfl⟩
  | succ j ih =>
    intro i C0 hi g1
    refine vc158_67 (a1 := 0) (a2 := 0) (a3 := 0) hS ?_
    rw [zi_40, zlt_t (by omega), zi_ix (by omega) (by omega), zi_ix (by omega) (by omega), Int.toNat_natCast, Int.toNat_natCast, zi_s]
    refine ⟨zi_in (by omega) (by omega) (by omega), zi_in (by omega) (by omega) (by omega), ?_⟩
    refine zW_mono (ih (i + 1) _ (by omega) (fun k hk => ?_)) (fun v C1 w => by obtain ⟨r, e1, w1, w2, w3, w4⟩ := w; exact ⟨r, e1, w1, w2, w3, fun b k hb => by rw [w4 b k hb, zpl_at, if_neg (by omega)]⟩)
    rw [zpl_at]
    by_cases c : k = i
    · rw [if_pos ⟨rfl, c⟩]
    · rw [if_neg (by omega)]
      exact g1 k (by omega)
/-- row -/
theorem cl_row (hX : zs_4 S e) (hM : zs_5 S a) (hW : zWI D) {s l n : Int} (hs : -2147483648 ≤ s ∧ s < 2147483648) (hl4 : -2147483648 ≤ l ∧ l < 2147483648) (hn : -2147483648 ≤ n ∧ n < 2147483648) : zBI X S e a D 5 7 [.int (zi s), .int (zi l), .int (zi n)] 1 158 [.int (zi s), .int (zi l), .int (zi n)] := by
  by_cases c1 : 0 ≤ s ∧ s < 8
  · by_cases c2 : 0 ≤ l ∧ l ≤ 4
    · by_cases c3 : 0 ≤ n ∧ n ≤ 40
      · obtain ⟨s, rfl⟩ : ∃ k : Nat, s = k := ⟨s.toNat, by omega⟩
        obtain ⟨n, rfl⟩ : ∃ k : Nat, n = k := ⟨n.toNat, by omega⟩
        refine ⟨zi 1, (gE D, gK D, sRow (gH D) s l n, D.2.2.2), ⟨hW.1, hW.2.1, zWH_row hW.2.2.1 c2 c3, zFH_row hW.2.2.2.1, hW.2.2.2.2⟩, fun C hI => vc7 hX ?_, fun C hI => vc158 hM ?_⟩
        · rw [sp8 hs, zb_t c1, sp9 hl4, zb_t c2, zi_0, zi_40, zlt_f (by omega), zlt_f (by omega)]
          refine zc_mV (sp13 (zo_4_4 hX) hI.2.2.1 hW.2.2.1 (by omega) c2 (by omega)) (fun C1 w => ⟨rfl, zIX_H hI w.1 (fun b k hb => w.2.1 b k (by omega)), fun b k hb => w.2.1 b k (by omega), fun b k hb => w.2.2 b k (by omega)⟩)
        · have hv : vp_in (zi (s : Int)) 8 := zi_in (by omega) (by omega) (by omega)
          rw [spin (l := 0) (m := 7) hs rfl rfl, zb_t (by omega), spin (l := 0) (m := 4) hl4 rfl rfl, zb_t (by omega), spin (l := 0) (m := 40) hn rfl rfl, zb_t (by omega), zi_ix (by omega) (by omega), Int.toNat_natCast]
          refine ⟨hv, hv, hv, ?_⟩
          refine zW_mono (lq158 hM (by omega) _ _ 40 0 _ (by omega) (fun k hk => absurd hk (Nat.not_lt_zero k))) (fun v C1 w => ?_)
          obtain ⟨r, e1, w1, w2, w3, w4⟩ := w
          have hfr : ∀ b k, b ≠ a + 1 → b ≠ a + 2 → b ≠ a + 3 → C1.1 b k = C.1 b k := fun b k h1 h2 h3 => by rw [w3, zp_ne h3, zp_ne h2, zp_ne h1]
          refine ⟨r, e1, w1, zIM_H hW hI (fun t ht => ?_) (fun b k hb => hfr b k (by omega) (by omega) (by omega)), fun b k hb => hfr b k (by omega) (by omega) (by omega), fun b k hb => w4 b k (by omega)⟩
          obtain ⟨g1, g2, g3⟩ := hI.2.2.1 t ht
          show ((if t = s then l else hk (gH D) t) = -1 → _) ∧ (0 ≤ (if t = s then l else hk (gH D) t) → (if t = s then l else hk (gH D) t) ≤ 4 → _ ∧ _ = zi (if t = s then l else hk (gH D) t) ∧ _ = zi (if t = s then (n : Int) else hz (gH D) t) ∧ ∀ i : Nat, (i : Int) < (if t = s then (n : Int) else hz (gH D) t) → _ = if t = s then 0 else hl (gH D) t i) ∧ (10 ≤ (if t = s then l else hk (gH D) t) → _ ∧ _ = zi ((if t = s then l else hk (gH D) t) - 10) ∧ _)
          by_cases c : t = s
          · subst c
            rw [if_pos rfl, if_pos rfl]
            refine ⟨fun q => by omega, fun _ _ => ⟨?_, ?_, ?_, fun i hi => ?_⟩, fun q => by omega⟩
            · rw [w3, zp_ne (by omega), zp_ne (by omega), zp_hit, zi_1]
            · rw [w3, zp_ne (by omega), zp_hit]
            · rw [w3, zp_hit]
            · rw [if_pos rfl]
              exact w2 i (by omega)
          · rw [if_neg c, if_neg c, w3]
            refine ⟨fun q => ?_, fun q1 q2 => ⟨?_, ?_, ?_, fun i hi => by rw [w4 _ _ (by omega), if_neg c]; exact (g2 q1 q2).2.2.2 i hi⟩, fun q => ⟨?_, ?_, ?_⟩⟩
            · rw [zp_ne (by omega), zp_ne (by omega), zp_nf c]; exact g1 q
            · rw [zp_ne (by omega), zp_ne (by omega), zp_nf c]; exact (g2 q1 q2).1
            · rw [zp_ne (by omega), zp_nf c, zp_ne (by omega)]; exact (g2 q1 q2).2.1
            · rw [zp_nf c, zp_ne (by omega), zp_ne (by omega)]; exact (g2 q1 q2).2.2.1
            · rw [zp_ne (by omega), zp_ne (by omega), zp_nf c]; exact (g3 q).1
            · rw [zp_ne (by omega), zp_ne (by omega), zp_ne (by omega)]; exact (g3 q).2.1
            · rw [zp_ne (by omega), zp_ne (by omega), zp_ne (by omega)]; exact (g3 q).2.2
      · refine ⟨zi (-2), zRf D (-2), hW, fun C hI => vc7 hX ?_, fun C hI => vc158 hM ?_⟩
        · rw [sp8 hs, zb_t c1, sp9 hl4, zb_t c2, z_m2, zi_0, zi_40]
          by_cases c4 : n < 0
          · rw [zlt_t (by omega)]; exact xrf hX hI (by omega)
          · rw [zlt_f (by omega), zlt_t (by omega)]; exact xrf hX hI (by omega)
        · rw [spin (l := 0) (m := 7) hs rfl rfl, zb_t (by omega), spin (l := 0) (m := 4) hl4 rfl rfl, zb_t (by omega), spin (l := 0) (m := 40) hn rfl rfl, zb_f (by omega), z_m2]
          exact mrf hM hW hI (by omega)
    · refine ⟨zi (-2), zRf D (-2), hW, fun C hI => vc7 hX ?_, fun C hI => vc158 hM ?_⟩
      · rw [sp8 hs, zb_t c1, sp9 hl4, zb_f c2, z_m2]; exact xrf hX hI (by omega)
      · rw [spin (l := 0) (m := 7) hs rfl rfl, zb_t (by omega), spin (l := 0) (m := 4) hl4 rfl rfl, zb_f (by omega), z_m2]
        exact mrf hM hW hI (by omega)
  · refine ⟨zi (-2), zRf D (-2), hW, fun C hI => vc7 hX ?_, fun C hI => vc158 hM ?_⟩
    · rw [sp8 hs, zb_f c1, z_m2]; exact xrf hX hI (by omega)
    · rw [spin (l := 0) (m := 7) hs rfl rfl, zb_f (by omega), z_m2]
      exact mrf hM hW hI (by omega)
/-- noRow, no shelf -/
theorem sp162n (hS : zs_5 S e) {s : Int} (hs : -2147483648 ≤ s ∧ s < 2147483648) (hn : ¬ (0 ≤ s ∧ s < 8)) : zCd X 1 162 [.ref e, .int (zi s)] S C (zQi q) = q (zi (-2)) C := by
  refine zc_eI (fun q h => vc162 hS ?_) q
  rw [spin (l := 0) (m := 7) hs rfl rfl, zb_f (by omega)]
  exact h
/-- set -/
theorem cl_set (hX : zs_4 S e) (hM : zs_5 S a) (hW : zWI D) {s i : Int} {v : Int64} (hs : -2147483648 ≤ s ∧ s < 2147483648) (hi : -2147483648 ≤ i ∧ i < 2147483648) : zBI X S e a D 4 18 [.int (zi s), .int (zi i), .long v] 2 161 [.int (zi s), .int (zi i), .long v] := by
  have hWH := hW.2.2.1
  by_cases c1 : 0 ≤ s ∧ s < 8
  · obtain ⟨s, rfl⟩ : ∃ k : Nat, s = k := ⟨s.toNat, by omega⟩
    have hw := hWH s (by omega)
    have hv : vp_in (zi (s : Int)) 8 := zi_in (by omega) (by omega) (by omega)
    by_cases c2 : hk (gH D) s = -1
    · refine ⟨zi (-4), zRf D (-4), hW, fun C hI => vc18 hX ?_, fun C hI => vc161 hM ?_⟩
      · rw [sp8 hs, zb_t c1, sp19 (zo_4_4 hX) hI.2.2.1 hWH (by omega), if_pos c2, zi_0, if_neg (by decide)]
        exact xrf hX hI (by omega)
      · rw [sp162 hM hI.2.2.1 hWH (by omega), if_pos c2, zi_0, if_neg (by decide)]
        exact mrf hM hW hI (by omega)
    · by_cases c3 : hk (gH D) s ≤ 4
      · by_cases c4 : 0 ≤ i ∧ i < hz (gH D) s
        · obtain ⟨i, rfl⟩ : ∃ k : Nat, i = k := ⟨i.toNat, by omega⟩
          refine ⟨zi 1, (gE D, gK D, sPut (gH D) s i (mFit (hk (gH D) s).toNat v), D.2.2.2), ⟨hW.1, hW.2.1, hWH, zFH_put hW.2.2.2.1, hW.2.2.2.2⟩, fun C hI => vc18 hX ?_, fun C hI => vc161 hM ?_⟩
          · rw [sp8 hs, zb_t c1, sp19 (zo_4_4 hX) hI.2.2.1 hWH (by omega), if_neg c2, if_pos c3, zi_0, if_pos rfl, zlt_f (by omega), sp15r (zo_4_4 hX) hI.2.2.1 hWH (by omega) (by omega), zlt_t (by omega), sp14 (zo_4_4 hX) hI.2.2.1 hWH (by omega) (by omega) c4.2]
            refine ⟨rfl, zIX_H hI (zXS_put hI.2.2.1 hWH (by omega) _) (fun b k hb => rfl), fun b k hb => rfl, fun b k hb => ?_⟩
            rw [zpl_at, if_neg (by omega)]
          · have g2 := (hI.2.2.1 s (by omega)).2.1 (by omega) c3
            rw [sp162 hM hI.2.2.1 hWH (by omega), if_neg c2, if_pos c3, zi_0, if_pos rfl, zi_ix (by omega) (by omega), Int.toNat_natCast, g2.2.2.1, zi_1, zi_sub]
            refine ⟨hv, ?_⟩
            rw [zl_zi (a := hz (gH D) s - 1) (by omega), spin (l := 0) (m := hz (gH D) s - 1) hi rfl (zl_toInt (by omega)), ← zi_0, zb_t (by omega)]
            refine ⟨hv, hv, ?_⟩
            rw [g2.2.1, show zi (hk (gH D) s) = zi ((hk (gH D) s).toNat : Int) by rw [Int.toNat_of_nonneg (by omega)], sp163 (by omega), zi_ix (by omega) (by omega), Int.toNat_natCast]
            refine ⟨zi_in (by omega) (by omega) (by omega), rfl, zIM_H hW hI (fun t ht => ?_) (fun b k hb => rfl), fun b k hb => rfl, fun b k hb => by rw [zpl_at, if_neg (by omega)]⟩
            obtain ⟨f1, f2, f3⟩ := hI.2.2.1 t ht
            refine ⟨f1, fun q1 q2 => ⟨(f2 q1 q2).1, (f2 q1 q2).2.1, (f2 q1 q2).2.2.1, fun j hj => ?_⟩, f3⟩
            rw [zpl_at]
            show _ = if t = s ∧ j = i then mFit (hk (gH D) s).toNat v else hl (gH D) t j
            by_cases c : t = s ∧ j = i
            · rw [if_pos c, if_pos (by omega)]
            · rw [if_neg c, if_neg (by omega)]
              exact (f2 q1 q2).2.2.2 j hj
        · refine ⟨zi (-2), zRf D (-2), hW, fun C hI => vc18 hX ?_, fun C hI => vc161 hM ?_⟩
          · rw [sp8 hs, zb_t c1, sp19 (zo_4_4 hX) hI.2.2.1 hWH (by omega), if_neg c2, if_pos c3, z_m2, zi_0, if_pos rfl, sp15r (zo_4_4 hX) hI.2.2.1 hWH (by omega) (by omega)]
            by_cases c5 : i < 0
            · rw [zlt_t (by omega)]; exact xrf hX hI (by omega)
            · rw [zlt_f (by omega), zlt_f (by omega)]; exact xrf hX hI (by omega)
          · have g2 := (hI.2.2.1 s (by omega)).2.1 (by omega) c3
            rw [sp162 hM hI.2.2.1 hWH (by omega), if_neg c2, if_pos c3, zi_0, if_pos rfl, zi_ix (by omega) (by omega), Int.toNat_natCast, g2.2.2.1, z_m2, zi_1, zi_sub]
            refine ⟨hv, ?_⟩
            rw [zl_zi (a := hz (gH D) s - 1) (by omega), spin (l := 0) (m := hz (gH D) s - 1) hi rfl (zl_toInt (by omega)), ← zi_0, zb_f (by omega)]
            exact mrf hM hW hI (by omega)
      · refine ⟨zi (-3), zRf D (-3), hW, fun C hI => vc18 hX ?_, fun C hI => vc161 hM ?_⟩
        · rw [sp8 hs, zb_t c1, sp19 (zo_4_4 hX) hI.2.2.1 hWH (by omega), if_neg c2, if_neg c3, zi_0, if_neg (by decide)]
          exact xrf hX hI (by omega)
        · rw [sp162 hM hI.2.2.1 hWH (by omega), if_neg c2, if_neg c3, zi_0, if_neg (by decide)]
          exact mrf hM hW hI (by omega)
  · refine ⟨zi (-2), zRf D (-2), hW, fun C hI => vc18 hX ?_, fun C hI => vc161 hM ?_⟩
    · rw [sp8 hs, zb_f c1, z_m2]; exact xrf hX hI (by omega)
    · rw [sp162n hM hs c1, zi_0, if_neg (by decide)]
      exact mrf hM hW hI (by omega)
/-- element -/
theorem cl_element (hX : zs_4 S e) (hM : zs_5 S a) (hW : zWI D) {s i : Int} (hs : -2147483648 ≤ s ∧ s < 2147483648) (hi : -2147483648 ≤ i ∧ i < 2147483648) : zBL X S e a D 4 24 [.int (zi s), .int (zi i)] 1 165 [.int (zi s), .int (zi i)] := by
  have hWH := hW.2.2.1
  by_cases c1 : 0 ≤ s ∧ s < 8
  · obtain ⟨s, rfl⟩ : ∃ k : Nat, s = k := ⟨s.toNat, by omega⟩
    have hw := hWH s (by omega)
    have hv : vp_in (zi (s : Int)) 8 := zi_in (by omega) (by omega) (by omega)
    refine ⟨mElem (gH D) s i, D, hW, fun C hI => vc24 hX ?_, fun C hI => vc165 hM ?_⟩
    · rw [sp23 (zo_4_4 hX) hI.2.2.1 hWH (by omega) hi]
      exact ⟨rfl, hI, zOut_r _ _ _⟩
    · obtain ⟨f1, f2, f3⟩ := hI.2.2.1 s (by omega)
      rw [spin (l := 0) (m := 7) hs rfl rfl, zb_t (by omega), zi_ix (by omega) (by omega), Int.toNat_natCast]
      refine ⟨hv, ?_⟩
      by_cases c2 : 0 ≤ hk (gH D) s ∧ hk (gH D) s ≤ 4
      · have g2 := f2 c2.1 c2.2
        rw [g2.1, zi_1, if_pos rfl, g2.2.2.1, zi_sub]
        refine ⟨hv, ?_⟩
        rw [zl_zi (a := hz (gH D) s - 1) (by omega), spin (l := 0) (m := hz (gH D) s - 1) hi rfl (zl_toInt (by omega))]
        by_cases c4 : 0 ≤ i ∧ i < hz (gH D) s
        · rw [zb_t (by omega), zi_ix (by omega) (by omega), g2.2.2.2 i.toNat (by omega)]
          exact ⟨hv, zi_in (by omega) (by omega) (by omega), (if_pos (by omega)).symm, hI, zOut_r _ _ _⟩
        · rw [zb_f (by omega)]
          exact ⟨(if_neg (by omega)).symm, hI, zOut_r _ _ _⟩
      · have hne : ¬ C.1 (a + 1) s = (1 : Int32) := by
          by_cases c3 : hk (gH D) s = -1
          · rw [f1 c3, zi_1]; decide
          · rw [(f3 (by omega)).1, zi_1]; decide
        rw [if_neg hne]
        exact ⟨(if_neg (by omega)).symm, hI, zOut_r _ _ _⟩
  · refine ⟨0, D, hW, fun C hI => vc24 hX (vc23 (zo_4_4 hX) ?_), fun C hI => vc165 hM ?_⟩
    · have h16 : zCd X 2 15 [.ref (e + 18), .int (zi s)] S C (zQi (fun r (C1 : zx_C) => r = zi 0 ∧ C1 = C)) := by
        refine vc15 (zo_4_4 hX) ?_
        rw [sp16n (zo_4_4 hX) hs c1, sp9 (by omega), zb_f (by omega)]
        exact ⟨rfl, rfl⟩
      by_cases c5 : i < 0
      · rw [zi_0, zlt_t (by omega), if_pos rfl]
        exact ⟨rfl, hI, zOut_r _ _ _⟩
      · rw [zi_0, zlt_f (by omega)]
        refine zc_mI h16 (fun r C1 w => ?_)
        rw [w.1, w.2, zlt_f (by omega), if_pos rfl]
        exact ⟨rfl, hI, zOut_r _ _ _⟩
    · rw [spin (l := 0) (m := 7) hs rfl rfl, zb_f (by omega)]
      exact ⟨rfl, hI, zOut_r _ _ _⟩
/-- holds -/
theorem cl_holds (hX : zs_4 S e) (hM : zs_5 S a) (hW : zWI D) {s : Int} (hs : -2147483648 ≤ s ∧ s < 2147483648) : zBI X S e a D 2 25 [.int (zi s)] 1 166 [.int (zi s)] := by
  have hWH := hW.2.2.1
  by_cases c1 : 0 ≤ s ∧ s < 8
  · obtain ⟨s, rfl⟩ : ∃ k : Nat, s = k := ⟨s.toNat, by omega⟩
    have hw := hWH s (by omega)
    have hv : vp_in (zi (s : Int)) 8 := zi_in (by omega) (by omega) (by omega)
    refine ⟨zi (hk (gH D) s), D, hW, fun C hI => vc25 hX ?_, fun C hI => vc166 hM ?_⟩
    · rw [sp16 (zo_4_4 hX) hI.2.2.1 (by omega)]
      exact ⟨rfl, hI, zOut_r _ _ _⟩
    · obtain ⟨f1, f2, f3⟩ := hI.2.2.1 s (by omega)
      rw [spin (l := 0) (m := 7) hs rfl rfl, zb_t (by omega), zi_ix (by omega) (by omega), Int.toNat_natCast]
      refine ⟨hv, ?_⟩
      by_cases c2 : hk (gH D) s = -1
      · rw [f1 c2, zi_0, if_pos rfl, c2]
        exact ⟨rfl, hI, zOut_r _ _ _⟩
      · by_cases c3 : hk (gH D) s ≤ 4
        · have g2 := f2 (by omega) c3
          rw [g2.1, zi_0, zeq_f (by omega)]
          refine ⟨hv, ?_⟩
          rw [zi_1, if_pos rfl, g2.2.1]
          exact ⟨hv, rfl, hI, zOut_r _ _ _⟩
        · have g3 := f3 (by omega)
          rw [g3.1, zi_0, zeq_f (by omega)]
          refine ⟨hv, ?_⟩
          rw [zi_1, zeq_f (by omega), g3.2.1, zi_10, zi_add, show 10 + (hk (gH D) s - 10) = hk (gH D) s by omega]
          exact ⟨hv, rfl, hI, zOut_r _ _ _⟩
  · refine ⟨zi (-1), D, hW, fun C hI => vc25 hX ?_, fun C hI => vc166 hM ?_⟩
    · rw [sp16n (zo_4_4 hX) hs c1]
      exact ⟨rfl, hI, zOut_r _ _ _⟩
    · rw [spin (l := 0) (m := 7) hs rfl rfl, zb_f (by omega)]
      exact ⟨rfl, hI, zOut_r _ _ _⟩
end
