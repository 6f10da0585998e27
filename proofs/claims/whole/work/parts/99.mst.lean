/-! STATEMENTS of the model: the five short ones, and which one it is (by program: wip/whole/gen99.py) -/
section
variable {X : zX} {S : zx_S} {C : zx_C} {a n : Nat} {b : Nat → Int} {τ : zTk} {E : zT} {q : Int32 → zx_C → Prop}
theorem ms_sides (hS : zs_5 S a) (hT : zMP C a n b) (hF : zMF2 C a b τ) (hv : zTv n b τ) (hE : zME C a E) (hW : zWF E) (hE0 : eT E = 0) (hq : ∀ r C1, zMs C C1 a n b (oSides n b E (tN n b τ.2.2)) r → q r C1) : (zCd X 3 208 [.ref a, .int 2, .int 3] S C (zQi (fun r30 C30 => if (r30 : Int32) = 0 then ((r30 = 0 ∨ r30 = 1) ∧ (q r30 C30)) else (vp_in 0 3 ∧ (zCd X 0 186 [.ref a, .int (C30.1 (a + 30) (Int32.toNatClampNeg 0))] S C30 (zQv (fun C31 => (r30 = 0 ∨ r30 = 1) ∧ (q r30 C31)))))))) := by
  have v4 := hv.2.2.2.1
  have hN := hW.1
  have hT8 := hW.2.1
  have hv1 := tN_v (b := b) v4
  have hv2 := tN_v (b := b) hv1.2.2.2.1
  have w0 : vp_in 0 3 := zi_in (a := 0) (by omega) (by omega) (by omega)
  have w1 : vp_in 1 3 := zi_in (a := 1) (by omega) (by omega) (by omega)
  have x0 : Int32.toNatClampNeg 0 = 0 := rfl
  have x1 : Int32.toNatClampNeg 1 = 1 := rfl
  rw [x0]
  refine zc_mI (sp208 (lo := 2) (hi := 3) hS hT hF hv (by omega) (by omega)) (fun r C1 h => ?_)
  obtain ⟨h1, h2, h3, h4⟩ := h
  have f1 : ∀ c k, ¬ (c = a ∧ 22 ≤ k ∧ k ≤ 26) → c ≠ a + 30 → C1.1 c k = C.1 c k := fun c k q1 q2 => h3 c k q1 (by omega)
  by_cases c : rK b (tN n b τ.2.2) 2 3
  · obtain ⟨r1, r2, r3⟩ := h1 c
    subst r1
    rw [if_neg (by decide)]
    have hnn : rV b (tN n b τ.2.2) = ((rV b (tN n b τ.2.2)).toNat : Int) := by have := c.2.2.1; omega
    rw [show C1.1 (a + 30) 0 = zi (((rV b (tN n b τ.2.2)).toNat : Int)) by rw [← hnn]; exact r3]
    refine ⟨w0, zc_mV (sp186 hS (zME_o hW hE (fun c k q1 q2 => f1 c k (by omega) (by omega))) hE0) (fun C4 u => ⟨Or.inr rfl, hq _ _ ?_⟩)⟩
    unfold oSides
    rw [if_pos c]
    exact ⟨⟨rfl, zMF2_of r2 (fun k _ _ => u.2.1 _ _ (by omega) (by omega)), u.1⟩, fun c k q1 q2 => by rw [u.2.1 c k (by omega) (by omega), f1 c k (by omega) (by omega)], u.2.2.trans h4⟩
  · obtain ⟨r1, r2, r3⟩ := h2 c
    subst r1
    rw [if_pos (by decide)]
    refine ⟨Or.inl rfl, hq _ _ ?_⟩
    unfold oSides
    rw [if_neg c]
    exact ⟨⟨rfl, r2⟩, fun c k q1 q2 => f1 c k (by omega) (by omega), h4⟩

theorem ms_law (hS : zs_5 S a) (hT : zMP C a n b) (hF : zMF2 C a b τ) (hv : zTv n b τ) (hE : zME C a E) (hW : zWF E) (hq : ∀ r C1, zMs C C1 a n b (oLaw n b E (tN n b τ.2.2)) r → q r C1) : (zCd X 3 208 [.ref a, .int 0, .int 3] S C (zQi (fun r15 C15 => if (r15 : Int32) = 0 then ((r15 = 0 ∨ r15 = 1) ∧ (q r15 (zp C15 a 14 (C15.1 a 14)))) else (vp_in 0 3 ∧ ((r15 = 0 ∨ r15 = 1) ∧ (q r15 (zp C15 a 14 (C15.1 (a + 30) (Int32.toNatClampNeg 0))))))))) := by
  have v4 := hv.2.2.2.1
  have hN := hW.1
  have hT8 := hW.2.1
  have hv1 := tN_v (b := b) v4
  have hv2 := tN_v (b := b) hv1.2.2.2.1
  have w0 : vp_in 0 3 := zi_in (a := 0) (by omega) (by omega) (by omega)
  have w1 : vp_in 1 3 := zi_in (a := 1) (by omega) (by omega) (by omega)
  have x0 : Int32.toNatClampNeg 0 = 0 := rfl
  have x1 : Int32.toNatClampNeg 1 = 1 := rfl
  rw [x0]
  refine zc_mI (sp208 (lo := 0) (hi := 3) hS hT hF hv (by omega) (by omega)) (fun r C1 h => ?_)
  obtain ⟨h1, h2, h3, h4⟩ := h
  have f1 : ∀ c k, ¬ (c = a ∧ 22 ≤ k ∧ k ≤ 26) → c ≠ a + 30 → C1.1 c k = C.1 c k := fun c k q1 q2 => h3 c k q1 (by omega)
  by_cases c : rK b (tN n b τ.2.2) 0 3
  · obtain ⟨r1, r2, r3⟩ := h1 c
    subst r1
    rw [if_neg (by decide)]
    have hnn : rV b (tN n b τ.2.2) = ((rV b (tN n b τ.2.2)).toNat : Int) := by have := c.2.2.1; omega
    rw [show C1.1 (a + 30) 0 = zi (((rV b (tN n b τ.2.2)).toNat : Int)) by rw [← hnn]; exact r3]
    refine ⟨w0, Or.inr rfl, hq _ _ ?_⟩
    unfold oLaw
    rw [if_pos c]
    exact ⟨⟨rfl, zMF2_of r2 (fun k _ _ => zp_nf (by omega)), mE_Law (zME_o hW hE (fun c k q1 q2 => f1 c k (by omega) (by omega)))⟩, fun c k q1 q2 => by rw [zp_miss _ _ _ _ (by omega), f1 c k (by omega) (by omega)], h4⟩
  · obtain ⟨r1, r2, r3⟩ := h2 c
    subst r1
    rw [if_pos (by decide)]
    refine ⟨Or.inl rfl, hq _ _ ?_⟩
    unfold oLaw
    rw [if_neg c]
    exact ⟨⟨rfl, by rw [zp_nf (by omega)]; exact r2⟩, fun c k q1 q2 => by rw [zp_miss _ _ _ _ (by omega), f1 c k (by omega) (by omega)], h4⟩

theorem ms_turn (hS : zs_5 S a) (hT : zMP C a n b) (hF : zMF2 C a b τ) (hv : zTv n b τ) (hE : zME C a E) (hW : zWF E) (hq : ∀ r C1, zMs C C1 a n b (oTurn n b E (tN n b τ.2.2)) r → q r C1) : (zCd X 3 208 [.ref a, .int 0, .int 9999] S C (zQi (fun r11 C11 => if (r11 : Int32) = 0 then ((r11 = 0 ∨ r11 = 1) ∧ (q r11 (zp C11 a 18 (C11.1 a 18)))) else (vp_in 0 3 ∧ ((r11 = 0 ∨ r11 = 1) ∧ (q r11 (zp C11 a 18 (C11.1 (a + 30) (Int32.toNatClampNeg 0))))))))) := by
  have v4 := hv.2.2.2.1
  have hN := hW.1
  have hT8 := hW.2.1
  have hv1 := tN_v (b := b) v4
  have hv2 := tN_v (b := b) hv1.2.2.2.1
  have w0 : vp_in 0 3 := zi_in (a := 0) (by omega) (by omega) (by omega)
  have w1 : vp_in 1 3 := zi_in (a := 1) (by omega) (by omega) (by omega)
  have x0 : Int32.toNatClampNeg 0 = 0 := rfl
  have x1 : Int32.toNatClampNeg 1 = 1 := rfl
  rw [x0]
  refine zc_mI (sp208 (lo := 0) (hi := 9999) hS hT hF hv (by omega) (by omega)) (fun r C1 h => ?_)
  obtain ⟨h1, h2, h3, h4⟩ := h
  have f1 : ∀ c k, ¬ (c = a ∧ 22 ≤ k ∧ k ≤ 26) → c ≠ a + 30 → C1.1 c k = C.1 c k := fun c k q1 q2 => h3 c k q1 (by omega)
  by_cases c : rK b (tN n b τ.2.2) 0 9999
  · obtain ⟨r1, r2, r3⟩ := h1 c
    subst r1
    rw [if_neg (by decide)]
    have hnn : rV b (tN n b τ.2.2) = ((rV b (tN n b τ.2.2)).toNat : Int) := by have := c.2.2.1; omega
    rw [show C1.1 (a + 30) 0 = zi (((rV b (tN n b τ.2.2)).toNat : Int)) by rw [← hnn]; exact r3]
    refine ⟨w0, Or.inr rfl, hq _ _ ?_⟩
    unfold oTurn
    rw [if_pos c]
    exact ⟨⟨rfl, zMF2_of r2 (fun k _ _ => zp_nf (by omega)), mE_Turn (zME_o hW hE (fun c k q1 q2 => f1 c k (by omega) (by omega)))⟩, fun c k q1 q2 => by rw [zp_miss _ _ _ _ (by omega), f1 c k (by omega) (by omega)], h4⟩
  · obtain ⟨r1, r2, r3⟩ := h2 c
    subst r1
    rw [if_pos (by decide)]
    refine ⟨Or.inl rfl, hq _ _ ?_⟩
    unfold oTurn
    rw [if_neg c]
    exact ⟨⟨rfl, by rw [zp_nf (by omega)]; exact r2⟩, fun c k q1 q2 => by rw [zp_miss _ _ _ _ (by omega), f1 c k (by omega) (by omega)], h4⟩

theorem ms_bent (hS : zs_5 S a) (hT : zMP C a n b) (hF : zMF2 C a b τ) (hv : zTv n b τ) (hE : zME C a E) (hW : zWF E) (hq : ∀ r C1, zMs C C1 a n b (oBent n b E (tN n b τ.2.2)) r → q r C1) : (zCd X 3 208 [.ref a, .int 0, .int ((C.1 a 10) - 1)] S C (zQi (fun r12 C12 => if (r12 : Int32) = 0 then (if (0 : Int32) = 0 then (q 0 C12) else (vp_in 0 3 ∧ (vp_in 1 3 ∧ (vp_in (C12.1 (a + 30) (Int32.toNatClampNeg 0)) 3 ∧ (q 0 (zp C12 (a + 29) (Int32.toNatClampNeg (C12.1 (a + 30) (Int32.toNatClampNeg 0))) (C12.1 (a + 30) (Int32.toNatClampNeg 1)))))))) else (zCd X 2 209 [.ref a, .int 1, .int 0, .int 5] S C12 (zQi (fun r13 C13 => if (r13 : Int32) = 0 then (if (0 : Int32) = 0 then (q 0 C13) else (vp_in 0 3 ∧ (vp_in 1 3 ∧ (vp_in (C13.1 (a + 30) (Int32.toNatClampNeg 0)) 3 ∧ (q 0 (zp C13 (a + 29) (Int32.toNatClampNeg (C13.1 (a + 30) (Int32.toNatClampNeg 0))) (C13.1 (a + 30) (Int32.toNatClampNeg 1)))))))) else (if (1 : Int32) = 0 then (q 1 C13) else (vp_in 0 3 ∧ (vp_in 1 3 ∧ (vp_in (C13.1 (a + 30) (Int32.toNatClampNeg 0)) 3 ∧ (q 1 (zp C13 (a + 29) (Int32.toNatClampNeg (C13.1 (a + 30) (Int32.toNatClampNeg 0))) (C13.1 (a + 30) (Int32.toNatClampNeg 1)))))))))))))) := by
  have v4 := hv.2.2.2.1
  have hN := hW.1
  have hT8 := hW.2.1
  have hv1 := tN_v (b := b) v4
  have hv2 := tN_v (b := b) hv1.2.2.2.1
  have w0 : vp_in 0 3 := zi_in (a := 0) (by omega) (by omega) (by omega)
  have w1 : vp_in 1 3 := zi_in (a := 1) (by omega) (by omega) (by omega)
  have x0 : Int32.toNatClampNeg 0 = 0 := rfl
  have x1 : Int32.toNatClampNeg 1 = 1 := rfl
  rw [x0, x1]
  rw [show C.1 a 10 - 1 = zi ((eN E : Int) - 1) by rw [hE.1, zi_1, zi_sub]]
  refine zc_mI (sp208 (lo := 0) (hi := (eN E : Int) - 1) hS hT hF hv (by omega) (by omega)) (fun r C1 h => ?_)
  obtain ⟨h1, h2, h3, h4⟩ := h
  have f1 : ∀ c k, ¬ (c = a ∧ 22 ≤ k ∧ k ≤ 26) → c ≠ a + 30 → C1.1 c k = C.1 c k := fun c k q1 q2 => h3 c k q1 (by omega)
  by_cases c : rK b (tN n b τ.2.2) 0 ((eN E : Int) - 1)
  · obtain ⟨r1, r2, r3⟩ := h1 c
    subst r1
    rw [if_neg (by decide)]
    have hT1 : zMP C1 a n b := zMP_of hT (f1 _ _ (by omega) (by omega)) (fun k => f1 _ _ (by omega) (by omega))
    refine zc_mI (sp209 (i := 1) (lo := 0) (hi := 5) hS hT1 r2 hv2 (by omega) (by omega) (by omega)) (fun r' C2 h' => ?_)
    obtain ⟨h1', h2', h3', h4'⟩ := h'
    have f2 : ∀ c k, ¬ (c = a ∧ 22 ≤ k ∧ k ≤ 26) → c ≠ a + 30 → C2.1 c k = C.1 c k := fun c k q1 q2 => by rw [h3' c k q1 (by omega), f1 c k q1 q2]
    have l2 : C2.2 = C.2 := h4'.trans h4
    have t0 : C2.1 (a + 30) 0 = zi (rV b (tN n b τ.2.2)) := by rw [h3' _ _ (by omega) (by omega)]; exact r3
    by_cases c' : rK b (tN n b (tN n b τ.2.2).2.2) 0 5
    · obtain ⟨r1', r2', r3'⟩ := h1' c'
      subst r1'
      have cl := c.2.2
      have cl' := c'.2.2
      rw [if_neg (by decide), if_neg (by decide), show C2.1 (a + 30) 0 = zi (rV b (tN n b τ.2.2)) from t0, show C2.1 (a + 30) 1 = zi (rV b (tN n b (tN n b τ.2.2).2.2)) from r3', zi_ix (by omega) (by omega)]
      refine ⟨w0, w1, zi_in (by omega) (by omega) (by omega), hq _ _ ?_⟩
      unfold oBent
      rw [if_pos c, if_pos c']
      exact ⟨⟨rfl, zMF2_of r2' (fun k _ _ => zp_ne (by omega)), mE_Bent hW (zME_o hW hE (fun c k q1 q2 => f2 c k (by omega) (by omega)))⟩, fun c k q1 q2 => by rw [zp_ne (by omega), f2 c k (by omega) (by omega)], l2⟩
    · obtain ⟨r1', r2', r3'⟩ := h2' c'
      subst r1'
      rw [if_pos (by decide), if_pos (by decide)]
      refine hq _ _ ?_
      unfold oBent
      rw [if_pos c, if_neg c']
      exact ⟨⟨rfl, r2'⟩, fun c k q1 q2 => f2 c k (by omega) (by omega), l2⟩
  · obtain ⟨r1, r2, r3⟩ := h2 c
    subst r1
    rw [if_pos (by decide), if_pos (by decide)]
    refine hq _ _ ?_
    unfold oBent
    rw [if_neg c]
    exact ⟨⟨rfl, r2⟩, fun c k q1 q2 => f1 c k (by omega) (by omega), h4⟩

theorem ms_owns (hS : zs_5 S a) (hT : zMP C a n b) (hF : zMF2 C a b τ) (hv : zTv n b τ) (hE : zME C a E) (hW : zWF E) (hq : ∀ r C1, zMs C C1 a n b (oOwns n b E (tN n b τ.2.2)) r → q r C1) : (zCd X 3 208 [.ref a, .int 0, .int ((C.1 a 10) - 1)] S C (zQi (fun r9 C9 => if (r9 : Int32) = 0 then (if (0 : Int32) = 0 then (q 0 C9) else (vp_in 1 3 ∧ (vp_in 0 3 ∧ (vp_in (C9.1 (a + 30) (Int32.toNatClampNeg 1)) 8 ∧ (q 0 (zp C9 (a + 27) (Int32.toNatClampNeg (C9.1 (a + 30) (Int32.toNatClampNeg 1))) (C9.1 (a + 30) (Int32.toNatClampNeg 0)))))))) else (zCd X 2 209 [.ref a, .int 1, .int 0, .int ((C9.1 a 11) - 1)] S C9 (zQi (fun r10 C10 => if (r10 : Int32) = 0 then (if (0 : Int32) = 0 then (q 0 C10) else (vp_in 1 3 ∧ (vp_in 0 3 ∧ (vp_in (C10.1 (a + 30) (Int32.toNatClampNeg 1)) 8 ∧ (q 0 (zp C10 (a + 27) (Int32.toNatClampNeg (C10.1 (a + 30) (Int32.toNatClampNeg 1))) (C10.1 (a + 30) (Int32.toNatClampNeg 0)))))))) else (if (1 : Int32) = 0 then (q 1 C10) else (vp_in 1 3 ∧ (vp_in 0 3 ∧ (vp_in (C10.1 (a + 30) (Int32.toNatClampNeg 1)) 8 ∧ (q 1 (zp C10 (a + 27) (Int32.toNatClampNeg (C10.1 (a + 30) (Int32.toNatClampNeg 1))) (C10.1 (a + 30) (Int32.toNatClampNeg 0)))))))))))))) := by
  have v4 := hv.2.2.2.1
  have hN := hW.1
  have hT8 := hW.2.1
  have hv1 := tN_v (b := b) v4
  have hv2 := tN_v (b := b) hv1.2.2.2.1
  have w0 : vp_in 0 3 := zi_in (a := 0) (by omega) (by omega) (by omega)
  have w1 : vp_in 1 3 := zi_in (a := 1) (by omega) (by omega) (by omega)
  have x0 : Int32.toNatClampNeg 0 = 0 := rfl
  have x1 : Int32.toNatClampNeg 1 = 1 := rfl
  rw [x0, x1]
  rw [show C.1 a 10 - 1 = zi ((eN E : Int) - 1) by rw [hE.1, zi_1, zi_sub]]
  refine zc_mI (sp208 (lo := 0) (hi := (eN E : Int) - 1) hS hT hF hv (by omega) (by omega)) (fun r C1 h => ?_)
  obtain ⟨h1, h2, h3, h4⟩ := h
  have f1 : ∀ c k, ¬ (c = a ∧ 22 ≤ k ∧ k ≤ 26) → c ≠ a + 30 → C1.1 c k = C.1 c k := fun c k q1 q2 => h3 c k q1 (by omega)
  by_cases c : rK b (tN n b τ.2.2) 0 ((eN E : Int) - 1)
  · obtain ⟨r1, r2, r3⟩ := h1 c
    subst r1
    rw [if_neg (by decide)]
    rw [show C1.1 a 11 - 1 = zi ((eT E : Int) - 1) by rw [f1 _ _ (by omega) (by omega), hE.2.1, zi_1, zi_sub]]
    have hT1 : zMP C1 a n b := zMP_of hT (f1 _ _ (by omega) (by omega)) (fun k => f1 _ _ (by omega) (by omega))
    refine zc_mI (sp209 (i := 1) (lo := 0) (hi := (eT E : Int) - 1) hS hT1 r2 hv2 (by omega) (by omega) (by omega)) (fun r' C2 h' => ?_)
    obtain ⟨h1', h2', h3', h4'⟩ := h'
    have f2 : ∀ c k, ¬ (c = a ∧ 22 ≤ k ∧ k ≤ 26) → c ≠ a + 30 → C2.1 c k = C.1 c k := fun c k q1 q2 => by rw [h3' c k q1 (by omega), f1 c k q1 q2]
    have l2 : C2.2 = C.2 := h4'.trans h4
    have t0 : C2.1 (a + 30) 0 = zi (rV b (tN n b τ.2.2)) := by rw [h3' _ _ (by omega) (by omega)]; exact r3
    by_cases c' : rK b (tN n b (tN n b τ.2.2).2.2) 0 ((eT E : Int) - 1)
    · obtain ⟨r1', r2', r3'⟩ := h1' c'
      subst r1'
      have cl := c.2.2
      have cl' := c'.2.2
      rw [if_neg (by decide), if_neg (by decide), show C2.1 (a + 30) 0 = zi (rV b (tN n b τ.2.2)) from t0, show C2.1 (a + 30) 1 = zi (rV b (tN n b (tN n b τ.2.2).2.2)) from r3', zi_ix (by omega) (by omega)]
      refine ⟨w1, w0, zi_in (by omega) (by omega) (by omega), hq _ _ ?_⟩
      unfold oOwns
      rw [if_pos c, if_pos c']
      exact ⟨⟨rfl, zMF2_of r2' (fun k _ _ => zp_ne (by omega)), mE_Own hW (zME_o hW hE (fun c k q1 q2 => f2 c k (by omega) (by omega)))⟩, fun c k q1 q2 => by rw [zp_ne (by omega), f2 c k (by omega) (by omega)], l2⟩
    · obtain ⟨r1', r2', r3'⟩ := h2' c'
      subst r1'
      rw [if_pos (by decide), if_pos (by decide)]
      refine hq _ _ ?_
      unfold oOwns
      rw [if_pos c, if_neg c']
      exact ⟨⟨rfl, r2'⟩, fun c k q1 q2 => f2 c k (by omega) (by omega), l2⟩
  · obtain ⟨r1, r2, r3⟩ := h2 c
    subst r1
    rw [if_pos (by decide), if_pos (by decide)]
    refine hq _ _ ?_
    unfold oOwns
    rw [if_neg c]
    exact ⟨⟨rfl, r2⟩, fun c k q1 q2 => f1 c k (by omega) (by omega), h4⟩

/-- statement -/
theorem sp206 (hS : zs_5 S a) (hT : zMP C a n b) (hF : zMF2 C a b τ) (hv : zTv n b τ) (hE : zME C a E) (hW : zWF E) : zCd X 5 206 [.ref a] S C (zQi (fun r C1 => zMs C C1 a n b (oSt n b E τ) r)) := by
  refine vc206 hS ?_
  have hk : τ.1 ≤ 5 ∧ τ.2.1 ≤ τ.2.2 ∧ τ.2.2 ≤ n := ⟨hv.1, hv.2.2.1, hv.2.2.2.1⟩
  have hT8 := hW.2.1
  have z8 : eT E < 8 → C.1 a 11 < 8 := fun d => by
    rw [hE.2.1, show (8 : Int32) = zi 8 from rfl, zi_lt (by omega) (by omega) (by omega) (by omega)]
    omega
  have n8 : ¬ eT E < 8 → ¬ C.1 a 11 < 8 := fun d => by
    rw [hE.2.1, show (8 : Int32) = zi 8 from rfl, zi_lt (by omega) (by omega) (by omega) (by omega)]
    omega
  have n0 : ¬ eT E = 0 → ¬ C.1 a 11 = 0 := fun d => by
    rw [hE.2.1, zi_0, zi_eq (by omega) (by omega) (by omega) (by omega)]
    omega
  unfold oSt
  rw [sp207 (w := 0) hS (by decide) hT hF hk]
  by_cases c0 : tW b τ 0
  · rw [zb_t c0]
    by_cases d0 : eT E = 0
    · rw [if_pos (show C.1 a 11 = 0 by rw [hE.2.1, d0]; rfl), if_pos (⟨c0, d0⟩ : tW b τ 0 ∧ eT E = 0)]
      exact ms_sides hS hT hF hv hE hW d0 (fun r C1 h => h)
    have nn : ¬ (tW b τ 0 ∧ eT E = 0) := fun h => d0 h.2
    rw [if_neg (n0 d0), if_neg nn, sp207 (w := 1) hS (by decide) hT hF hk]
    by_cases c1 : tW b τ 1
    · rw [zb_t c1]
      by_cases d1 : eT E < 8
      · rw [if_pos (z8 d1), if_pos (⟨c1, d1⟩ : tW b τ 1 ∧ eT E < 8)]
        exact zc_mI (sp211 hS hT hF hv hE hW d1) (fun r C1 h => ⟨zMs_01 h, h⟩)
      have n1 : ¬ (tW b τ 1 ∧ eT E < 8) := fun h => d1 h.2
      rw [if_neg (n8 d1), if_neg n1, sp207 (w := 2) hS (by decide) hT hF hk]
      by_cases c2 : tW b τ 2
      · rw [zb_t c2, if_pos c2]
        exact ms_law hS hT hF hv hE hW (fun r C1 h => h)
      rw [zb_f c2, if_neg c2, sp207 (w := 3) hS (by decide) hT hF hk]
      by_cases c3 : tW b τ 3
      · rw [zb_t c3, if_pos c3]
        exact zc_mI (sp212 hS hT hF hv hE hW) (fun r C1 h => ⟨zMs_01 h, h⟩)
      rw [zb_f c3, if_neg c3, sp207 (w := 4) hS (by decide) hT hF hk]
      by_cases c4 : tW b τ 4
      · rw [zb_t c4, if_pos c4]
        exact ms_bent hS hT hF hv hE hW (fun r C1 h => h)
      rw [zb_f c4, if_neg c4, sp207 (w := 5) hS (by decide) hT hF hk]
      by_cases c5 : tW b τ 5
      · rw [zb_t c5, if_pos c5]
        exact ms_turn hS hT hF hv hE hW (fun r C1 h => h)
      rw [zb_f c5, if_neg c5, sp207 (w := 6) hS (by decide) hT hF hk]
      by_cases c6 : tW b τ 6
      · rw [zb_t c6, if_pos c6]
        exact ms_owns hS hT hF hv hE hW (fun r C1 h => h)
      rw [zb_f c6, if_neg c6, sp210 hS]
      exact ⟨Or.inl rfl, ⟨rfl, by rw [zp_hit]; exact hF.2.1⟩, fun c k q1 q2 => zp_miss _ _ _ _ (by omega), rfl⟩
    have n1 : ¬ (tW b τ 1 ∧ eT E < 8) := fun h => c1 h.1
    rw [zb_f c1, if_neg n1, sp207 (w := 2) hS (by decide) hT hF hk]
    by_cases c2 : tW b τ 2
    · rw [zb_t c2, if_pos c2]
      exact ms_law hS hT hF hv hE hW (fun r C1 h => h)
    rw [zb_f c2, if_neg c2, sp207 (w := 3) hS (by decide) hT hF hk]
    by_cases c3 : tW b τ 3
    · rw [zb_t c3, if_pos c3]
      exact zc_mI (sp212 hS hT hF hv hE hW) (fun r C1 h => ⟨zMs_01 h, h⟩)
    rw [zb_f c3, if_neg c3, sp207 (w := 4) hS (by decide) hT hF hk]
    by_cases c4 : tW b τ 4
    · rw [zb_t c4, if_pos c4]
      exact ms_bent hS hT hF hv hE hW (fun r C1 h => h)
    rw [zb_f c4, if_neg c4, sp207 (w := 5) hS (by decide) hT hF hk]
    by_cases c5 : tW b τ 5
    · rw [zb_t c5, if_pos c5]
      exact ms_turn hS hT hF hv hE hW (fun r C1 h => h)
    rw [zb_f c5, if_neg c5, sp207 (w := 6) hS (by decide) hT hF hk]
    by_cases c6 : tW b τ 6
    · rw [zb_t c6, if_pos c6]
      exact ms_owns hS hT hF hv hE hW (fun r C1 h => h)
    rw [zb_f c6, if_neg c6, sp210 hS]
    exact ⟨Or.inl rfl, ⟨rfl, by rw [zp_hit]; exact hF.2.1⟩, fun c k q1 q2 => zp_miss _ _ _ _ (by omega), rfl⟩
  have nn : ¬ (tW b τ 0 ∧ eT E = 0) := fun h => c0 h.1
  rw [zb_f c0, if_neg nn, sp207 (w := 1) hS (by decide) hT hF hk]
  by_cases c1 : tW b τ 1
  · rw [zb_t c1]
    by_cases d1 : eT E < 8
    · rw [if_pos (z8 d1), if_pos (⟨c1, d1⟩ : tW b τ 1 ∧ eT E < 8)]
      exact zc_mI (sp211 hS hT hF hv hE hW d1) (fun r C1 h => ⟨zMs_01 h, h⟩)
    have n1 : ¬ (tW b τ 1 ∧ eT E < 8) := fun h => d1 h.2
    rw [if_neg (n8 d1), if_neg n1, sp207 (w := 2) hS (by decide) hT hF hk]
    by_cases c2 : tW b τ 2
    · rw [zb_t c2, if_pos c2]
      exact ms_law hS hT hF hv hE hW (fun r C1 h => h)
    rw [zb_f c2, if_neg c2, sp207 (w := 3) hS (by decide) hT hF hk]
    by_cases c3 : tW b τ 3
    · rw [zb_t c3, if_pos c3]
      exact zc_mI (sp212 hS hT hF hv hE hW) (fun r C1 h => ⟨zMs_01 h, h⟩)
    rw [zb_f c3, if_neg c3, sp207 (w := 4) hS (by decide) hT hF hk]
    by_cases c4 : tW b τ 4
    · rw [zb_t c4, if_pos c4]
      exact ms_bent hS hT hF hv hE hW (fun r C1 h => h)
    rw [zb_f c4, if_neg c4, sp207 (w := 5) hS (by decide) hT hF hk]
    by_cases c5 : tW b τ 5
    · rw [zb_t c5, if_pos c5]
      exact ms_turn hS hT hF hv hE hW (fun r C1 h => h)
    rw [zb_f c5, if_neg c5, sp207 (w := 6) hS (by decide) hT hF hk]
    by_cases c6 : tW b τ 6
    · rw [zb_t c6, if_pos c6]
      exact ms_owns hS hT hF hv hE hW (fun r C1 h => h)
    rw [zb_f c6, if_neg c6, sp210 hS]
    exact ⟨Or.inl rfl, ⟨rfl, by rw [zp_hit]; exact hF.2.1⟩, fun c k q1 q2 => zp_miss _ _ _ _ (by omega), rfl⟩
  have n1 : ¬ (tW b τ 1 ∧ eT E < 8) := fun h => c1 h.1
  rw [zb_f c1, if_neg n1, sp207 (w := 2) hS (by decide) hT hF hk]
  by_cases c2 : tW b τ 2
  · rw [zb_t c2, if_pos c2]
    exact ms_law hS hT hF hv hE hW (fun r C1 h => h)
  rw [zb_f c2, if_neg c2, sp207 (w := 3) hS (by decide) hT hF hk]
  by_cases c3 : tW b τ 3
  · rw [zb_t c3, if_pos c3]
    exact zc_mI (sp212 hS hT hF hv hE hW) (fun r C1 h => ⟨zMs_01 h, h⟩)
  rw [zb_f c3, if_neg c3, sp207 (w := 4) hS (by decide) hT hF hk]
  by_cases c4 : tW b τ 4
  · rw [zb_t c4, if_pos c4]
    exact ms_bent hS hT hF hv hE hW (fun r C1 h => h)
  rw [zb_f c4, if_neg c4, sp207 (w := 5) hS (by decide) hT hF hk]
  by_cases c5 : tW b τ 5
  · rw [zb_t c5, if_pos c5]
    exact ms_turn hS hT hF hv hE hW (fun r C1 h => h)
  rw [zb_f c5, if_neg c5, sp207 (w := 6) hS (by decide) hT hF hk]
  by_cases c6 : tW b τ 6
  · rw [zb_t c6, if_pos c6]
    exact ms_owns hS hT hF hv hE hW (fun r C1 h => h)
  rw [zb_f c6, if_neg c6, sp210 hS]
  exact ⟨Or.inl rfl, ⟨rfl, by rw [zp_hit]; exact hF.2.1⟩, fun c k q1 q2 => zp_miss _ _ _ _ (by omega), rfl⟩
end
