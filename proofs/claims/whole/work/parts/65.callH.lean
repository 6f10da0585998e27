/-! THE CALLS, both sides: copy, order -/
section
variable {X : zX} {S : zx_S} {C : zx_C} {q : Int32 → zx_C → Prop} {e a : Nat} {D : zDD} {E : zT} {H : zH}
theorem lq164a (hS : zs_5 S a) {p r i j n : Nat} (hp : p < 8) (hr : r < 8) (hi : i + n ≤ 40) (hj : j + n ≤ 40) (K : ∀ C1 : zx_C, (∀ k, k < n → C1.2 (a + 13) k = C.2 (a + 5 + p) (i + k)) → C1.1 = C.1 → (∀ b k, b ≠ a + 13 → C1.2 b k = C.2 b k) → zW X 1 164 225 [.ref a, .int (zi p), .int (zi r), .int (zi i), .int (zi j), .int (zi n), .int 0] [] S C1 (zQi q)) : ∀ (t m : Nat) (C0 : zx_C), m + t = n → (∀ k, k < m → C0.2 (a + 13) k = C.2 (a + 5 + p) (i + k)) → C0.1 = C.1 → (∀ b k, b ≠ a + 13 → C0.2 b k = C.2 b k) → zW X 1 164 191 [.ref a, .int (zi p), .int (zi r), .int (zi i), .int (zi j), .int (zi n), .int (zi m)] [] S C0 (zQi q) := by
  intro t
  induction t with
  | zero =>
    intro m C0 hm g1 g2 g3
    refine vc164_191 (a1 := 0) (a2 := 0) (a3 := 0) (a4 := 0) (a5 := 0) hS ?_
    rw [zlt_f (by omega)]
    exact K C0 (fun k hk => g1 k (by omega)) g2 g3
  | succ t ih =>
    intro m C0 hm g1 g2 g3
    refine vc164_191 (a1 := 0) (a2 := 0) (a3 := 0) (a4 := 0) (a5 := 0) hS ?_
    rw [zlt_t (by omega), zi_add, zi_s, zi_ix (by omega) (by omega), zi_ix (by omega) (by omega), zi_ix (by omega) (by omega), Int.toNat_natCast, Int.toNat_natCast, show ((i : Int) + m).toNat = i + m by omega]
    refine ⟨zi_in (by omega) (by omega) (by omega), zi_in (by omega) (by omega) (by omega), zi_in (by omega) (by omega) (by omega), ih (m + 1) _ (by omega) (fun k hk => ?_) g2 (fun b k hb => ?_)⟩
    · rw [zpl_at]
      by_cases c : k = m
      · rw [if_pos ⟨rfl, c⟩, c, g3 _ _ (by omega)]
      · rw [if_neg (by omega)]
        exact g1 k (by omega)
    · rw [zpl_at, if_neg (by omega)]
      exact g3 b k hb
theorem lq164b (hS : zs_5 S a) {r j n : Nat} (hr : r < 8) (hj : j + n ≤ 40) (z1 z3 : Value) (V : Nat → Int64) (hV : ∀ k, k < n → C.2 (a + 13) k = V k) (K : ∀ C1 : zx_C, (∀ x, C1.2 (a + 5 + r) x = if j ≤ x ∧ x < j + n then V (x - j) else C.2 (a + 5 + r) x) → C1.1 = C.1 → (∀ b k, b ≠ a + 5 + r → C1.2 b k = C.2 b k) → q (zi n) C1) : ∀ (t m : Nat) (C0 : zx_C), m + t = n → (∀ x, C0.2 (a + 5 + r) x = if j ≤ x ∧ x < j + m then V (x - j) else C.2 (a + 5 + r) x) → C0.1 = C.1 → (∀ b k, b ≠ a + 5 + r → C0.2 b k = C.2 b k) → zW X 1 164 225 [.ref a, z1, .int (zi r), z3, .int (zi j), .int (zi n), .int (zi m)] [] S C0 (zQi q) := by
  intro t
  induction t with
  | zero =>
    intro m C0 hm g1 g2 g3
    refine vc164_225 (a1 := 0) (a2 := 0) (a3 := 0) (a4 := 0) (a5 := 0) hS ?_
    rw [zlt_f (by omega)]
    rw [show m = n by omega] at g1
    exact K C0 g1 g2 g3
  | succ t ih =>
    intro m C0 hm g1 g2 g3
    refine vc164_225 (a1 := 0) (a2 := 0) (a3 := 0) (a4 := 0) (a5 := 0) hS ?_
    rw [zlt_t (by omega), zi_add, zi_s, zi_ix (by omega) (by omega), zi_ix (by omega) (by omega), zi_ix (by omega) (by omega), Int.toNat_natCast, Int.toNat_natCast, show ((j : Int) + m).toNat = j + m by omega, g3 _ _ (by omega), hV m (by omega)]
    refine ⟨zi_in (by omega) (by omega) (by omega), zi_in (by omega) (by omega) (by omega), zi_in (by omega) (by omega) (by omega), ih (m + 1) _ (by omega) (fun x => ?_) g2 (fun b k hb => ?_)⟩
    · rw [zpl_at]
      by_cases c : x = j + m
      · rw [if_pos ⟨rfl, c⟩, if_pos (by omega), c, Nat.add_sub_cancel_left]
      · rw [if_neg (by omega), g1 x]
        by_cases c2 : j ≤ x ∧ x < j + m
        · rw [if_pos c2, if_pos (by omega)]
        · rw [if_neg c2, if_neg (by omega)]
    · rw [zpl_at, if_neg (by omega)]
      exact g3 b k hb
theorem zFH_copy {H : zH} (h : zFH H) {p r i j n : Nat} (hp : p < 8) (hkp : 0 ≤ hk H p ∧ hk H p ≤ 4) (hkr : hk H r = hk H p) (hi : (i : Int) + n ≤ hz H p) : zFH (sCopy H p r i j n) := by
  intro t ht g1 g2 x hx
  have hx2 : (x : Int) < hz H t := hx
  show mFit (hk H t).toNat (if t = r ∧ j ≤ x ∧ x < j + n then hl H p (i + (x - j)) else hl H t x) = if t = r ∧ j ≤ x ∧ x < j + n then hl H p (i + (x - j)) else hl H t x
  by_cases c : t = r ∧ j ≤ x ∧ x < j + n
  · rw [if_pos c, c.1, hkr]
    exact h p hp hkp.1 hkp.2 _ (by omega)
  · rw [if_neg c]; exact h t ht g1 g2 x hx2
/-- copy -/
theorem cl_copy (hX : zs_4 S e) (hM : zs_5 S a) (hW : zWI D) {p r i j n : Int} (hp : -2147483648 ≤ p ∧ p < 2147483648) (hr : -2147483648 ≤ r ∧ r < 2147483648) (hi : -2147483648 ≤ i ∧ i < 2147483648) (hj : -2147483648 ≤ j ∧ j < 2147483648) (hn : -2147483648 ≤ n ∧ n < 2147483648) : zBI X S e a D 5 20 [.int (zi p), .int (zi r), .int (zi i), .int (zi j), .int (zi n)] 1 164 [.int (zi p), .int (zi r), .int (zi i), .int (zi j), .int (zi n)] := by
  have hWH := hW.2.2.1
  by_cases c1 : 0 ≤ p ∧ p < 8
  · by_cases c2 : 0 ≤ r ∧ r < 8
    · obtain ⟨p, rfl⟩ : ∃ k : Nat, p = k := ⟨p.toNat, by omega⟩
      obtain ⟨r, rfl⟩ : ∃ k : Nat, r = k := ⟨r.toNat, by omega⟩
      have wp := hWH p (by omega)
      have wr := hWH r (by omega)
      have vp : vp_in (zi (p : Int)) 8 := zi_in (by omega) (by omega) (by omega)
      have vr : vp_in (zi (r : Int)) 8 := zi_in (by omega) (by omega) (by omega)
      have xp : Int32.toNatClampNeg (zi (p : Int)) = p := by rw [zi_ix (by omega) (by omega), Int.toNat_natCast]
      have xr : Int32.toNatClampNeg (zi (r : Int)) = r := by rw [zi_ix (by omega) (by omega), Int.toNat_natCast]
      by_cases c3 : 4 < hk (gH D) p ∨ 4 < hk (gH D) r
      · refine ⟨zi (-3), zRf D (-3), hW, fun C hI => vc20 hX ?_, fun C hI => vc164 hM ?_⟩
        · rw [sp8 hp, zb_t c1, sp8 hr, zb_t c2, sp21 (zo_4_4 hX) hI.2.2.1 hWH (by omega) (by omega), if_pos c3, zi_0, if_neg (by decide)]
          exact xrf hX hI (by omega)
        · obtain ⟨f1, f2, f3⟩ := hI.2.2.1 p (by omega)
          obtain ⟨h1, h2, h3⟩ := hI.2.2.1 r (by omega)
          rw [spin (l := 0) (m := 7) hp rfl rfl, zb_t (by omega), spin (l := 0) (m := 7) hr rfl rfl, zb_t (by omega), xp, xr, z_m3, zi_2]
          refine ⟨vp, ?_⟩
          by_cases c4 : 4 < hk (gH D) p
          · rw [(f3 (by omega)).1, if_pos rfl]
            exact mrf hM hW hI (by omega)
          · have hne : ¬ C.1 (a + 1) p = zi 2 := by
              by_cases c5 : hk (gH D) p = -1
              · rw [f1 c5]; decide
              · rw [(f2 (by omega) (by omega)).1]; decide
            rw [if_neg hne, (h3 (by omega)).1, if_pos rfl]
            exact ⟨vr, mrf hM hW hI (by omega)⟩
      · by_cases c4 : hk (gH D) p = -1 ∨ hk (gH D) r = -1
        · refine ⟨zi (-4), zRf D (-4), hW, fun C hI => vc20 hX ?_, fun C hI => vc164 hM ?_⟩
          · rw [sp8 hp, zb_t c1, sp8 hr, zb_t c2, sp21 (zo_4_4 hX) hI.2.2.1 hWH (by omega) (by omega), if_neg c3, if_pos c4, zi_0, if_neg (by decide)]
            exact xrf hX hI (by omega)
          · obtain ⟨f1, f2, f3⟩ := hI.2.2.1 p (by omega)
            obtain ⟨h1, h2, h3⟩ := hI.2.2.1 r (by omega)
            rw [spin (l := 0) (m := 7) hp rfl rfl, zb_t (by omega), spin (l := 0) (m := 7) hr rfl rfl, zb_t (by omega), xp, xr, z_m4]
            have ne2r : ¬ C.1 (a + 1) r = 2 := by
              by_cases c5 : hk (gH D) r = -1
              · rw [h1 c5]; decide
              · rw [(h2 (by omega) (by omega)).1]; decide
            refine ⟨vp, ?_⟩
            by_cases c5 : hk (gH D) p = -1
            · have g := f1 c5
              rw [if_neg (by rw [g]; decide), if_neg ne2r, if_neg (by rw [g]; decide), if_pos (show C.1 (a + 1) p = 0 by rw [g]; rfl)]
              exact ⟨vr, vp, vp, mrf hM hW hI (by omega)⟩
            · have g := (f2 (by omega) (by omega)).1
              have g2 := h1 (by omega)
              rw [if_neg (by rw [g]; decide), if_neg ne2r, if_pos (show C.1 (a + 1) p = 1 by rw [g]; rfl), if_neg (show ¬ C.1 (a + 1) r = 1 by rw [g2]; decide), if_neg (show ¬ C.1 (a + 1) p = 0 by rw [g]; decide), if_pos (show C.1 (a + 1) r = 0 by rw [g2]; rfl)]
              exact ⟨vr, vp, vr, vp, vr, mrf hM hW hI (by omega)⟩
        · by_cases c5 : hk (gH D) p = hk (gH D) r
          · have kp : 0 ≤ hk (gH D) p ∧ hk (gH D) p ≤ 4 := by omega
            have kr : 0 ≤ hk (gH D) r ∧ hk (gH D) r ≤ 4 := by omega
            have hmodel : ∀ C, zIM S C a D → ∀ Q : Int32 → zx_C → Prop, (if zi n < 0 then zCd X 0 160 [.ref a, .int (-2)] S C (zQi fun r C1 => Q r C1) else if zi i < 0 then zCd X 0 160 [.ref a, .int (-2)] S C (zQi fun r C1 => Q r C1) else if zi j < 0 then zCd X 0 160 [.ref a, .int (-2)] S C (zQi fun r C1 => Q r C1) else vp_in (zi p) 8 ∧ (if C.1 (a + 3) p < zi n then zCd X 0 160 [.ref a, .int (-2)] S C (zQi fun r C1 => Q r C1) else vp_in (zi r) 8 ∧ (if C.1 (a + 3) r < zi n then zCd X 0 160 [.ref a, .int (-2)] S C (zQi fun r C1 => Q r C1) else vp_in (zi p) 8 ∧ (if C.1 (a + 3) p - zi n < zi i then zCd X 0 160 [.ref a, .int (-2)] S C (zQi fun r C1 => Q r C1) else vp_in (zi r) 8 ∧ (if C.1 (a + 3) r - zi n < zi j then zCd X 0 160 [.ref a, .int (-2)] S C (zQi fun r C1 => Q r C1) else zW X 1 164 191 [.ref a, .int (zi p), .int (zi r), .int (zi i), .int (zi j), .int (zi n), .int 0] [] S C (zQi Q)))))) → zCd X 1 164 [.ref a, .int (zi p), .int (zi r), .int (zi i), .int (zi j), .int (zi n)] S C (zQi Q) := by
              intro C hI Q hQ
              refine vc164 hM ?_
              obtain ⟨g1, g2, -⟩ := (hI.2.2.1 p (by omega)).2.1 kp.1 kp.2
              obtain ⟨g3, g4, -⟩ := (hI.2.2.1 r (by omega)).2.1 kr.1 kr.2
              rw [spin (l := 0) (m := 7) hp rfl rfl, zb_t (by omega), spin (l := 0) (m := 7) hr rfl rfl, zb_t (by omega), xp, xr, if_neg (show ¬ C.1 (a + 1) p = 2 by rw [g1]; decide), if_neg (show ¬ C.1 (a + 1) r = 2 by rw [g3]; decide), if_pos (show C.1 (a + 1) p = 1 by rw [g1]; rfl), if_pos (show C.1 (a + 1) r = 1 by rw [g3]; rfl), if_pos (show C.1 (a + 2) p = C.1 (a + 2) r by rw [g2, g4, c5]), if_neg (show ¬ C.1 (a + 1) p = 0 by rw [g1]; decide), if_neg (show ¬ C.1 (a + 1) r = 0 by rw [g3]; decide)]
              exact ⟨vp, vr, vp, vr, vp, vr, vp, vr, hQ⟩
            by_cases c6 : 0 ≤ n ∧ 0 ≤ i ∧ 0 ≤ j ∧ i + n ≤ hz (gH D) p ∧ j + n ≤ hz (gH D) r
            · obtain ⟨i, rfl⟩ : ∃ k : Nat, i = k := ⟨i.toNat, by omega⟩
              obtain ⟨j, rfl⟩ : ∃ k : Nat, j = k := ⟨j.toNat, by omega⟩
              obtain ⟨n, rfl⟩ : ∃ k : Nat, n = k := ⟨n.toNat, by omega⟩
              refine ⟨zi n, (gE D, gK D, sCopy (gH D) p r i j n, D.2.2.2), ⟨hW.1, hW.2.1, hWH, zFH_copy hW.2.2.2.1 (by omega) kp c5.symm (by omega), hW.2.2.2.2⟩, fun C hI => vc20 hX ?_, fun C hI => hmodel C hI _ ?_⟩
              · rw [sp8 hp, zb_t c1, sp8 hr, zb_t c2, sp21 (zo_4_4 hX) hI.2.2.1 hWH (by omega) (by omega), if_neg c3, if_neg c4, if_pos c5, zi_0, if_pos rfl, zlt_f (by omega), zlt_f (by omega), zlt_f (by omega), sp15r (zo_4_4 hX) hI.2.2.1 hWH (by omega) kp, zi_sub, zlt_f (by omega), sp15r (zo_4_4 hX) hI.2.2.1 hWH (by omega) kr, zi_sub, zlt_f (by omega)]
                refine zc_mV (sp22 (zo_4_4 hX) hI.2.2.1 hWH hW.2.2.2.1 (by omega) (by omega) kp c5.symm (by omega) (by omega)) (fun C1 w => ⟨rfl, zIX_H hI w.1 (fun b k hb => by rw [w.2.1]), fun b k hb => by rw [w.2.1], fun b k hb => w.2.2 b k (by omega)⟩)
              · obtain ⟨g1, g2, g5, g6⟩ := (hI.2.2.1 p (by omega)).2.1 kp.1 kp.2
                obtain ⟨g3, g4, g7, g8⟩ := (hI.2.2.1 r (by omega)).2.1 kr.1 kr.2
                rw [zi_0, zlt_f (by omega), zlt_f (by omega), zlt_f (by omega), g5, g7, zlt_f (by omega), zlt_f (by omega), zi_sub, zi_sub, zlt_f (by omega), zlt_f (by omega)]
                refine ⟨vp, vr, vp, vr, ?_⟩
                refine lq164a (C := C) hM (by omega) (by omega) (by omega) (by omega) (fun C1 b1 b2 b3 => ?_) n 0 C (Nat.zero_add _) (fun k hk => absurd hk (Nat.not_lt_zero k)) rfl (fun _ _ _ => rfl)
                refine lq164b (C := C1) hM (by omega) (by omega) _ _ (fun k => hl (gH D) p (i + k)) (fun k hk => by rw [b1 k hk]; exact g6 (i + k) (by omega)) (fun C2 d1 d2 d3 => ?_) n 0 C1 (Nat.zero_add _) (fun x => by rw [if_neg (by omega)]) rfl (fun _ _ _ => rfl)
                have hc1 : C2.1 = C.1 := d2.trans b2
                refine ⟨rfl, zIM_H hW hI (fun t ht => ?_) (fun b k hb => by rw [hc1]), fun b k hb => by rw [hc1], fun b k hb => ?_⟩
                · obtain ⟨f1, f2, f3⟩ := hI.2.2.1 t ht
                  rw [hc1]
                  refine ⟨f1, fun q1 q2 => ⟨(f2 q1 q2).1, (f2 q1 q2).2.1, (f2 q1 q2).2.2.1, fun x hx => ?_⟩, f3⟩
                  show _ = if t = r ∧ j ≤ x ∧ x < j + n then hl (gH D) p (i + (x - j)) else hl (gH D) t x
                  by_cases ct : t = r
                  · subst ct
                    rw [d1 x]
                    by_cases c7 : j ≤ x ∧ x < j + n
                    · rw [if_pos c7, if_pos ⟨rfl, c7⟩]
                    · rw [if_neg c7, if_neg (fun q => c7 q.2), b3 _ _ (by omega)]
                      exact (f2 q1 q2).2.2.2 x hx
                  · rw [if_neg (fun q => ct q.1), d3 _ _ (by omega), b3 _ _ (by omega)]
                    exact (f2 q1 q2).2.2.2 x hx
                · rw [d3 _ _ (by omega), b3 _ _ (by omega)]
            · refine ⟨zi (-2), zRf D (-2), hW, fun C hI => vc20 hX ?_, fun C hI => hmodel C hI _ ?_⟩
              · rw [sp8 hp, zb_t c1, sp8 hr, zb_t c2, sp21 (zo_4_4 hX) hI.2.2.1 hWH (by omega) (by omega), if_neg c3, if_neg c4, if_pos c5, z_m2, zi_0, if_pos rfl]
                by_cases d1 : i < 0
                · rw [zlt_t (by omega)]; exact xrf hX hI (by omega)
                · rw [zlt_f (by omega)]
                  by_cases d2 : j < 0
                  · rw [zlt_t (by omega)]; exact xrf hX hI (by omega)
                  · rw [zlt_f (by omega)]
                    by_cases d3 : n < 0
                    · rw [zlt_t (by omega)]; exact xrf hX hI (by omega)
                    · rw [zlt_f (by omega), sp15r (zo_4_4 hX) hI.2.2.1 hWH (by omega) kp, zi_sub]
                      by_cases d4 : hz (gH D) p - i < n
                      · rw [zlt_t (by omega)]; exact xrf hX hI (by omega)
                      · rw [zlt_f (by omega), sp15r (zo_4_4 hX) hI.2.2.1 hWH (by omega) kr, zi_sub, zlt_t (by omega)]; exact xrf hX hI (by omega)
              · obtain ⟨g1, g2, g5, g6⟩ := (hI.2.2.1 p (by omega)).2.1 kp.1 kp.2
                obtain ⟨g3, g4, g7, g8⟩ := (hI.2.2.1 r (by omega)).2.1 kr.1 kr.2
                rw [z_m2, zi_0, g5, g7, zi_sub, zi_sub]
                by_cases d1 : n < 0
                · rw [zlt_t (by omega)]; exact mrf hM hW hI (by omega)
                · rw [zlt_f (by omega)]
                  by_cases d2 : i < 0
                  · rw [zlt_t (by omega)]; exact mrf hM hW hI (by omega)
                  · rw [zlt_f (by omega)]
                    by_cases d3 : j < 0
                    · rw [zlt_t (by omega)]; exact mrf hM hW hI (by omega)
                    · rw [zlt_f (by omega)]
                      refine ⟨vp, ?_⟩
                      by_cases d4 : hz (gH D) p < n
                      · rw [zlt_t (by omega)]; exact mrf hM hW hI (by omega)
                      · rw [zlt_f (by omega)]
                        refine ⟨vr, ?_⟩
                        by_cases d5 : hz (gH D) r < n
                        · rw [zlt_t (by omega)]; exact mrf hM hW hI (by omega)
                        · rw [zlt_f (by omega)]
                          refine ⟨vp, ?_⟩
                          by_cases d6 : hz (gH D) p - n < i
                          · rw [zlt_t (by omega)]; exact mrf hM hW hI (by omega)
                          · rw [zlt_f (by omega), zlt_t (by omega)]
                            exact ⟨vr, mrf hM hW hI (by omega)⟩
          · refine ⟨zi (-3), zRf D (-3), hW, fun C hI => vc20 hX ?_, fun C hI => vc164 hM ?_⟩
            · rw [sp8 hp, zb_t c1, sp8 hr, zb_t c2, sp21 (zo_4_4 hX) hI.2.2.1 hWH (by omega) (by omega), if_neg c3, if_neg c4, if_neg c5, zi_0, if_neg (by decide)]
              exact xrf hX hI (by omega)
            · obtain ⟨g1, g2, -⟩ := (hI.2.2.1 p (by omega)).2.1 (by omega) (by omega)
              obtain ⟨g3, g4, -⟩ := (hI.2.2.1 r (by omega)).2.1 (by omega) (by omega)
              rw [spin (l := 0) (m := 7) hp rfl rfl, zb_t (by omega), spin (l := 0) (m := 7) hr rfl rfl, zb_t (by omega), xp, xr, z_m3, if_neg (show ¬ C.1 (a + 1) p = 2 by rw [g1]; decide), if_neg (show ¬ C.1 (a + 1) r = 2 by rw [g3]; decide), if_pos (show C.1 (a + 1) p = 1 by rw [g1]; rfl), if_pos (show C.1 (a + 1) r = 1 by rw [g3]; rfl), if_neg (show ¬ C.1 (a + 2) p = C.1 (a + 2) r by rw [g2, g4, zi_eq (by omega) (by omega) (by omega) (by omega)]; exact c5)]
              exact ⟨vp, vr, vp, vr, vp, vr, mrf hM hW hI (by omega)⟩
    · refine ⟨zi (-2), zRf D (-2), hW, fun C hI => vc20 hX ?_, fun C hI => vc164 hM ?_⟩
      · rw [sp8 hp, zb_t c1, sp8 hr, zb_f c2, z_m2]; exact xrf hX hI (by omega)
      · rw [spin (l := 0) (m := 7) hp rfl rfl, zb_t (by omega), spin (l := 0) (m := 7) hr rfl rfl, zb_f (by omega), z_m2]; exact mrf hM hW hI (by omega)
  · refine ⟨zi (-2), zRf D (-2), hW, fun C hI => vc20 hX ?_, fun C hI => vc164 hM ?_⟩
    · rw [sp8 hp, zb_f c1, z_m2]; exact xrf hX hI (by omega)
    · rw [spin (l := 0) (m := 7) hp rfl rfl, zb_f (by omega), z_m2]; exact mrf hM hW hI (by omega)
end
