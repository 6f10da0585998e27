/-! READALL of the model -/
def zRq (C C1 : zx_C) (a : Nat) (o : Nat ⊕ (zT × Nat)) (r : Int32) : Prop := (match o with
  | .inl β => r = zi 0 ∧ C1.1 a 26 = zi (β : Int)
  | .inr q => r = zi 1 ∧ C1.1 a 28 = zi (q.2 : Int) ∧ zME C1 a q.1) ∧ (∀ c k, ¬ (c = a ∧ 10 ≤ k ∧ k ≤ 28) → (c < a + 19 ∨ a + 31 ≤ c) → C1.1 c k = C.1 c k) ∧ C1.2 = C.2
section
variable {X : zX} {S : zx_S} {C : zx_C} {a n : Nat} {b : Nat → Int} {E : zT}
theorem lq202x (hS : zs_5 S a) {j s : Nat} {C1 : zx_C} {E : zT} {τ : zTk} (hF : zMF2 C1 a b τ) (hv : zTv n b τ) (h28 : C1.1 a 28 = zi ((s + 1 : Nat) : Int)) (hE : zME C1 a E) (c3 : ¬ τ.1 = 3) (fr : ∀ c k, ¬ (c = a ∧ 10 ≤ k ∧ k ≤ 28) → (c < a + 19 ∨ a + 31 ≤ c) → C1.1 c k = C.1 c k) (fl : C1.2 = C.2) : zW X 6 202 23 [.ref a] [] S C1 (zQi (fun r C2 => zRq C C2 a (if τ.1 = 3 then oRd n b j E τ.2.2 (s + 1) else if τ.1 = 0 then .inr (E, s + 1) else .inl τ.2.1) r)) := by
  have t2 := tK_2 hv.1
  refine vc202_23 hS ?_
  rw [if_neg c3]
  by_cases c0 : τ.1 = 0
  · rw [if_pos c0, if_pos (show C1.1 a 23 = 0 by rw [hF.1, c0]; rfl)]
    exact ⟨⟨rfl, h28, hE⟩, fr, fl⟩
  · rw [if_neg c0, if_neg (show ¬ C1.1 a 23 = 0 from zk_n (v := 0) t2.1 (by omega) (by omega) hF.1), if_neg (show ¬ C1.1 a 23 = 3 from zk_n (v := 3) t2.1 (by omega) (by omega) hF.1), sp210 hS]
    exact ⟨Or.inl rfl, ⟨rfl, by rw [zp_hit]; exact hF.2.1⟩, fun c k q1 q2 => by rw [zp_miss _ _ _ _ (by omega)]; exact fr c k q1 q2, fl⟩
theorem lq202 (hS : zs_5 S a) : ∀ (j s : Nat) (C1 : zx_C) (E : zT) (τ : zTk), (τ.1 = 3 → n + 1 ≤ τ.2.2 + j) → zMP C1 a n b → zMF2 C1 a b τ → zTv n b τ → C1.1 a 28 = zi ((s + 1 : Nat) : Int) → zME C1 a E → zWF E → (∀ c k, ¬ (c = a ∧ 10 ≤ k ∧ k ≤ 28) → (c < a + 19 ∨ a + 31 ≤ c) → C1.1 c k = C.1 c k) → C1.2 = C.2 → zW X 6 202 23 [.ref a] [] S C1 (zQi (fun r C2 => zRq C C2 a (if τ.1 = 3 then oRd n b j E τ.2.2 (s + 1) else if τ.1 = 0 then .inr (E, s + 1) else .inl τ.2.1) r)) := by
  intro j
  induction j with
  | zero =>
    intro s C1 E τ hj hT hF hv h28 hE hW fr fl
    have v4 := hv.2.2.2.1
    by_cases c3 : τ.1 = 3
    · have := hj c3
      omega
    · exact lq202x hS hF hv h28 hE c3 fr fl
  | succ j ih =>
    intro s C1 E τ hj hT hF hv h28 hE hW fr fl
    have v4 := hv.2.2.2.1
    by_cases c3 : τ.1 = 3
    · have hj2 := hj c3
      obtain ⟨p1, p2, p3⟩ := tN_p (b := b) v4
      have hv2 := tN_v (b := b) v4
      have ok := oSt_ok (b := b) hW hv2
      refine vc202_23 hS ?_
      rw [if_neg (show ¬ C1.1 a 23 = 0 by rw [hF.1, c3]; decide), if_pos (show C1.1 a 23 = 3 by rw [hF.1, c3]; rfl), if_pos c3]
      refine zc_mV (sp203 (b := b) (n := n) hS hT v4 hF.2.2.1) (fun C2 g => ?_)
      have hT2 : zMP C2 a n b := zMP_of hT (g.2.1 _ _ (by omega)) (fun k => g.2.1 _ _ (by omega))
      refine zc_mI (sp206 hS hT2 g.1 hv2 (zME_o hW hE (fun c k q1 q2 => g.2.1 c k (by omega))) hW) (fun r C3 w => ?_)
      have fr3 : ∀ c k, ¬ (c = a ∧ 10 ≤ k ∧ k ≤ 26) → (c < a + 19 ∨ a + 31 ≤ c) → C3.1 c k = C1.1 c k := fun c k q1 q2 => by rw [w.2.1 c k q1 q2, g.2.1 c k (by omega)]
      have fl3 : C3.2 = C.2 := w.2.2.trans (g.2.2.trans fl)
      cases ho : oSt n b E (tN n b τ.2.2) with
      | inl β =>
        rw [ho] at w
        obtain ⟨⟨w0, w1⟩, w2, w3⟩ := w
        rw [oRd_l ho, if_pos (show r = 0 from w0)]
        exact ⟨⟨rfl, w1⟩, fun c k q1 q2 => by rw [fr3 c k (by omega) q2, fr c k q1 q2], fl3⟩
      | inr u =>
        rw [ho] at w ok
        obtain ⟨⟨w0, w1, w4⟩, w2, w3⟩ := w
        obtain ⟨k1, k2, k3⟩ := ok
        rw [oRd_r ho, if_neg (show ¬ r = 0 by rw [w0]; decide), fr3 a 28 (by omega) (by omega), h28, zi_s]
        have fs : ∀ c k, ¬ (c = a ∧ k = 28) → (zp C3 a 28 (zi ((s + 1 + 1 : Nat) : Int))).1 c k = C3.1 c k := fun c k q => zp_miss _ _ _ _ (fun q1 q2 => q ⟨q1, q2⟩)
        have hT3 : zMP (zp C3 a 28 (zi ((s + 1 + 1 : Nat) : Int))) a n b := zMP_of hT2 (by rw [fs _ _ (by omega), w2 _ _ (by omega) (by omega)]) (fun k => by rw [fs _ _ (by omega), w2 _ _ (by omega) (by omega)])
        exact ih (s + 1) _ u.1 u.2 (fun q => by have := k2.2.2.2.2.1 (by omega); omega) hT3 (zMF2_of w1 (fun k _ _ => fs _ _ (by omega))) k2 (zp_hit _ _ _ _) (zME_o k1 w4 (fun c k q1 q2 => fs c k (by omega))) k1 (fun c k q1 q2 => by rw [fs c k (by omega), fr3 c k (by omega) q2, fr c k q1 q2]) fl3
    · exact lq202x hS hF hv h28 hE c3 fr fl
/-- readAll -/
theorem sp202 (hS : zs_5 S a) (hT : zMP C a n b) (hE : zME C a E) (hW : zWF E) : zCd X 6 202 [.ref a] S C (zQi (fun r C1 => zRq C C1 a (oRd n b (n + 1) E 0 0) r)) := by
  refine vc202 hS ?_
  have fs : ∀ c k, ¬ (c = a ∧ (k = 28 ∨ k = 22)) → (zp (zp C a 28 1) a 22 0).1 c k = C.1 c k := fun c k q1 => by rw [zp_miss _ _ _ _ (by omega), zp_miss _ _ _ _ (by omega)]
  have z22 : (zp (zp C a 28 1) a 22 0).1 a 22 = zi ((0 : Nat) : Int) := zp_hit _ _ _ _
  have z28 : (zp (zp C a 28 1) a 22 0).1 a 28 = zi ((0 + 1 : Nat) : Int) := by rw [zp_nf (by omega), zp_hit]; rfl
  have l0 : (zp (zp C a 28 1) a 22 0).2 = C.2 := rfl
  generalize zp (zp C a 28 1) a 22 0 = C0 at fs z22 z28 l0 ⊢
  have hT0 : zMP C0 a n b := zMP_of hT (fs _ _ (by omega)) (fun k => fs _ _ (by omega))
  refine zc_mV (sp203 (b := b) (n := n) hS hT0 (Nat.zero_le n) z22) (fun C2 g => ?_)
  have hv2 := tN_v (b := b) (Nat.zero_le n)
  have ok := oSt_ok (b := b) hW hv2
  have hT2 : zMP C2 a n b := zMP_of hT0 (g.2.1 _ _ (by omega)) (fun k => g.2.1 _ _ (by omega))
  refine zc_mI (sp206 hS hT2 g.1 hv2 (zME_o hW hE (fun c k q1 q2 => by rw [g.2.1 c k (by omega), fs c k (by omega)])) hW) (fun r C3 w => ?_)
  have fr3 : ∀ c k, ¬ (c = a ∧ 10 ≤ k ∧ k ≤ 28) → (c < a + 19 ∨ a + 31 ≤ c) → C3.1 c k = C.1 c k := fun c k q1 q2 => by rw [w.2.1 c k (by omega) q2, g.2.1 c k (by omega), fs c k (by omega)]
  have fl3 : C3.2 = C.2 := w.2.2.trans (g.2.2.trans l0)
  cases ho : oSt n b E (tN n b 0) with
  | inl β =>
    rw [ho] at w
    obtain ⟨⟨w0, w1⟩, w2, w3⟩ := w
    rw [oRd_l ho, if_pos (show r = 0 from w0)]
    exact ⟨⟨rfl, w1⟩, fr3, fl3⟩
  | inr u =>
    rw [ho] at w ok
    obtain ⟨⟨w0, w1, w4⟩, w2, w3⟩ := w
    obtain ⟨k1, k2, k3⟩ := ok
    rw [oRd_r ho, if_neg (show ¬ r = 0 by rw [w0]; decide)]
    have h28 : C3.1 a 28 = zi ((0 + 1 : Nat) : Int) := by rw [w2 _ _ (by omega) (by omega), g.2.1 _ _ (by omega)]; exact z28
    have hT3 : zMP C3 a n b := zMP_of hT2 (w2 _ _ (by omega) (by omega)) (fun k => w2 _ _ (by omega) (by omega))
    exact lq202 (C := C) hS n 0 C3 u.1 u.2 (fun q => by have := k2.2.2.2.2.1 (by omega); omega) hT3 w1 k2 h28 w4 k1 fr3 fl3
end
