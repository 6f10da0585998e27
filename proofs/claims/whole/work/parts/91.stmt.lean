/-! BENT of the class -/
section
variable {X : zX} {S : zx_S} {C : zx_C} {t e n : Nat} {b : Nat → Int} {τ : zTk} {E : zT}
theorem sp106 (hS : zs_3 S t) (h0 : zs_0 S e) (ht : e + 5 ≤ t) (hT : zTP C t n b) (hF : zTF C t τ) (hv : zTv n b τ) (h2 : C.1 t 2 = zi (-1)) (hE : zXE C e E) (hW : zWF E) : zCd X 4 106 [.ref t, .ref e] S C (zQv (fun C1 => zCs C C1 t e (oBent n b E (tN n b τ.2.2)))) := by
  refine vc106 hS h0 ?_
  have v4 := hv.2.2.2.1
  have hN := hW.1
  have hn := hT.2.2.1
  refine zc_mV (sp86 (b := b) (n := n) hS hT v4 hF.2.2) (fun C1 g => ?_)
  have hT1 : zTP C1 t n b := zTP_of hT (g.2.1 _ _ (by omega)) (fun k => g.2.1 _ _ (by omega))
  rw [show C1.1 e 0 = zi (eN E) by rw [g.2.1 _ _ (by omega)]; exact hE.1, zi_m1, zi_1, zi_sub, zi_0]
  have hv1 := tN_v (b := b) v4
  refine zc_mI (sp102 (lo := 0) (hi := (eN E : Int) - 1) hS hT1 g.1 hv1 (by rw [g.2.1 _ _ (by omega)]; exact h2) (by omega) (by omega)) (fun r C2 h => ?_)
  obtain ⟨h3, h4, h5, h6⟩ := h
  have fr : ∀ c k, ¬ (c = t ∧ 2 ≤ k ∧ k ≤ 5) → C2.1 c k = C.1 c k := fun c k hk => by rw [h5 c k hk, g.2.1 c k (by omega)]
  have hT2 : zTP C2 t n b := zTP_of hT1 (h5 _ _ (by omega)) (fun k => h5 _ _ (by omega))
  unfold oBent
  by_cases c : rK b (tN n b τ.2.2) 0 ((eN E : Int) - 1)
  · obtain ⟨r1, r2, r3⟩ := h3 c
    have v5 := hv1.2.2.2.1
    have hv2 := tN_v (b := b) v5
    rw [if_pos c, r1, show (5 : Int32) = zi 5 from rfl]
    refine zc_mI (sp102 (lo := 0) (hi := 5) hS hT2 r2 hv2 r3 (by omega) (by omega)) (fun r' C3 h' => ?_)
    obtain ⟨h3', h4', h5', h6'⟩ := h'
    have fr' : ∀ c k, ¬ (c = t ∧ 2 ≤ k ∧ k ≤ 5) → C3.1 c k = C.1 c k := fun c k hk => by rw [h5' c k hk, fr c k hk]
    by_cases c' : rK b (tN n b (tN n b τ.2.2).2.2) 0 5
    · obtain ⟨r1', r2', r3'⟩ := h3' c'
      have cl := c.2.2
      have hnn : rV b (tN n b τ.2.2) = ((rV b (tN n b τ.2.2)).toNat : Int) := by omega
      rw [if_pos c', r3', if_pos rfl, r1', sp12 (za_0_7 h0) (by omega) (by omega) (by omega)]
      exact ⟨⟨by rw [zp_ne (by omega)]; exact r3', ⟨by rw [zp_ne (by omega)]; exact r2'.1, by rw [zp_ne (by omega)]; exact r2'.2.1, by rw [zp_ne (by omega)]; exact r2'.2.2⟩, xE_Bent (zXE_of hE (fun c k _ _ => fr' c k (by omega)))⟩, fun c k hk hc => by rw [zp_ne (by omega)]; exact fr' c k hk, h6'.trans (h6.trans g.2.2)⟩
    · obtain ⟨r1', r2', r3'⟩ := h4' c'
      have hle := hv2.2.2
      rw [if_neg c', r2', zeq_f (by omega)]
      exact ⟨Or.inl r2', fun c k hk _ => fr' c k hk, h6'.trans (h6.trans g.2.2)⟩
  · obtain ⟨r1, r2, r3⟩ := h4 c
    have hle := hv1.2.2
    rw [if_neg c, sp102f hS (by omega) r2, r2, zeq_f (by omega)]
    exact ⟨Or.inl r2, fun c k hk _ => fr c k hk, h6.trans g.2.2⟩
end
