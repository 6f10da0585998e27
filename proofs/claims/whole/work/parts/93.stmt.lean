/-! THING of the class -/
def oThing (n : Nat) (b : Nat → Int) (E : zT) (ν : zTk) : zSo := if rK b ν 0 99 then (if rK b (tN n b ν.2.2) 0 99 then (if eN E = 3 then (if rK b (tN n b (tN n b ν.2.2).2.2) 0 99 then .inr (sThing E (rV b ν) (rV b (tN n b ν.2.2)) (rV b (tN n b (tN n b ν.2.2).2.2)), tN n b (tN n b (tN n b ν.2.2).2.2).2.2) else .inl (tN n b (tN n b ν.2.2).2.2).2.1) else .inr (sThing E (rV b ν) (rV b (tN n b ν.2.2)) 0, tN n b (tN n b ν.2.2).2.2)) else .inl (tN n b ν.2.2).2.1) else .inl ν.2.1
section
variable {X : zX} {S : zx_S} {C : zx_C} {t e n : Nat} {b : Nat → Int} {τ : zTk} {E : zT}
theorem sp103 (hS : zs_3 S t) (h0 : zs_0 S e) (ht : e + 5 ≤ t) (hT : zTP C t n b) (hF : zTF C t τ) (hv : zTv n b τ) (h2 : C.1 t 2 = zi (-1)) (hE : zXE C e E) (hW : zWF E) (hE8 : eT E < 8) : zCd X 4 103 [.ref t, .ref e] S C (zQv (fun C1 => zCs C C1 t e (oThing n b E (tN n b τ.2.2)))) := by
  refine vc103 hS h0 ?_
  have v4 := hv.2.2.2.1
  have hN := hW.1
  have hn := hT.2.2.1
  refine zc_mV (sp86 (b := b) (n := n) hS hT v4 hF.2.2) (fun C1 g => ?_)
  have hT1 : zTP C1 t n b := zTP_of hT (g.2.1 _ _ (by omega)) (fun k => g.2.1 _ _ (by omega))
  have hv1 := tN_v (b := b) v4
  rw [show (99 : Int32) = zi 99 from rfl, zi_m1, show (2 : Int32) = zi 2 from rfl, zi_0]
  refine zc_mI (sp102 (lo := 0) (hi := 99) hS hT1 g.1 hv1 (by rw [g.2.1 _ _ (by omega)]; exact h2) (by omega) (by omega)) (fun r C2 h => ?_)
  obtain ⟨h3, h4, h5, h6⟩ := h
  have fr : ∀ c k, ¬ (c = t ∧ 2 ≤ k ∧ k ≤ 5) → C2.1 c k = C.1 c k := fun c k hk => by rw [h5 c k hk, g.2.1 c k (by omega)]
  have hT2 : zTP C2 t n b := zTP_of hT1 (h5 _ _ (by omega)) (fun k => h5 _ _ (by omega))
  unfold oThing
  by_cases c : rK b (tN n b τ.2.2) 0 99
  · obtain ⟨r1, r2, r3⟩ := h3 c
    have hv2 := tN_v (b := b) hv1.2.2.2.1
    rw [if_pos c, r1]
    refine zc_mI (sp102 (lo := 0) (hi := 99) hS hT2 r2 hv2 r3 (by omega) (by omega)) (fun r' C3 h' => ?_)
    obtain ⟨h3', h4', h5', h6'⟩ := h'
    have fr' : ∀ c k, ¬ (c = t ∧ 2 ≤ k ∧ k ≤ 5) → C3.1 c k = C.1 c k := fun c k hk => by rw [h5' c k hk, fr c k hk]
    have hT3 : zTP C3 t n b := zTP_of hT2 (h5' _ _ (by omega)) (fun k => h5' _ _ (by omega))
    rw [show C3.1 e 0 = zi (eN E) by rw [fr' _ _ (by omega)]; exact hE.1]
    by_cases c' : rK b (tN n b (tN n b τ.2.2).2.2) 0 99
    · obtain ⟨r1', r2', r3'⟩ := h3' c'
      have hv3 := tN_v (b := b) hv2.2.2.2.1
      rw [if_pos c', r1']
      by_cases cN : eN E = 3
      · rw [zlt_t (by omega), if_pos cN]
        refine zc_mI (sp102 (lo := 0) (hi := 99) hS hT3 r2' hv3 r3' (by omega) (by omega)) (fun r'' C4 h'' => ?_)
        obtain ⟨h3'', h4'', h5'', h6''⟩ := h''
        have fr'' : ∀ c k, ¬ (c = t ∧ 2 ≤ k ∧ k ≤ 5) → C4.1 c k = C.1 c k := fun c k hk => by rw [h5'' c k hk, fr' c k hk]
        by_cases c'' : rK b (tN n b (tN n b (tN n b τ.2.2).2.2).2.2) 0 99
        · obtain ⟨r1'', r2'', r3''⟩ := h3'' c''
          rw [if_pos c'', r3'', if_pos rfl, r1'']
          refine zc_mV (sp71 h0 (zXE_of hE (fun c k _ _ => fr'' c k (by omega))) hW hE8) (fun C5 u => ?_)
          exact ⟨⟨by rw [u.2.1 _ _ (by omega)]; exact r3'', ⟨by rw [u.2.1 _ _ (by omega)]; exact r2''.1, by rw [u.2.1 _ _ (by omega)]; exact r2''.2.1, by rw [u.2.1 _ _ (by omega)]; exact r2''.2.2⟩, u.1⟩, fun c k hk hc => by rw [u.2.1 c k hc]; exact fr'' c k hk, u.2.2.trans (h6''.trans (h6'.trans (h6.trans g.2.2)))⟩
        · obtain ⟨r1'', r2'', r3''⟩ := h4'' c''
          have hle := hv3.2.2
          rw [if_neg c'', r2'', zeq_f (by omega)]
          exact ⟨Or.inl r2'', fun c k hk _ => fr'' c k hk, h6''.trans (h6'.trans (h6.trans g.2.2))⟩
      · rw [zlt_f (by omega), if_neg cN, r3', if_pos rfl]
        refine zc_mV (sp71 h0 (zXE_of hE (fun c k _ _ => fr' c k (by omega))) hW hE8) (fun C5 u => ?_)
        exact ⟨⟨by rw [u.2.1 _ _ (by omega)]; exact r3', ⟨by rw [u.2.1 _ _ (by omega)]; exact r2'.1, by rw [u.2.1 _ _ (by omega)]; exact r2'.2.1, by rw [u.2.1 _ _ (by omega)]; exact r2'.2.2⟩, u.1⟩, fun c k hk hc => by rw [u.2.1 c k hc]; exact fr' c k hk, u.2.2.trans (h6'.trans (h6.trans g.2.2))⟩
    · obtain ⟨r1', r2', r3'⟩ := h4' c'
      have hle := hv2.2.2
      rw [if_neg c']
      have e1 : zCs C C3 t e (.inl (tN n b (tN n b τ.2.2).2.2).2.1) := ⟨Or.inl r2', fun c k hk _ => fr' c k hk, h6'.trans (h6.trans g.2.2)⟩
      by_cases cN : eN E = 3
      · rw [zlt_t (by omega), sp102f hS (by omega) r2', r2', zeq_f (by omega)]
        exact e1
      · rw [zlt_f (by omega), r2', zeq_f (by omega)]
        exact e1
  · obtain ⟨r1, r2, r3⟩ := h4 c
    have hle := hv1.2.2
    rw [if_neg c, sp102f hS (by omega) r2, show C2.1 e 0 = zi (eN E) by rw [fr _ _ (by omega)]; exact hE.1]
    have e1 : zCs C C2 t e (.inl (tN n b τ.2.2).2.1) := ⟨Or.inl r2, fun c k hk _ => fr c k hk, h6.trans g.2.2⟩
    by_cases cN : eN E = 3
    · rw [zlt_t (by omega), sp102f hS (by omega) r2, r2, zeq_f (by omega)]
      exact e1
    · rw [zlt_f (by omega), r2, zeq_f (by omega)]
      exact e1
end
