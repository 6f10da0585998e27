/-! SIDES and BENT of the class -/
def oSides (n : Nat) (b : Nat → Int) (E : zT) (ν : zTk) : zSo := if rK b ν 2 3 then .inr (sSides E (rV b ν).toNat, tN n b ν.2.2) else .inl ν.2.1
def oBent (n : Nat) (b : Nat → Int) (E : zT) (ν : zTk) : zSo := if rK b ν 0 ((eN E : Int) - 1) then (if rK b (tN n b ν.2.2) 0 5 then .inr (sBent E (rV b ν).toNat (rV b (tN n b ν.2.2)), tN n b (tN n b ν.2.2).2.2) else .inl (tN n b ν.2.2).2.1) else .inl ν.2.1
section
variable {X : zX} {S : zx_S} {C : zx_C} {t e n : Nat} {b : Nat → Int} {τ : zTk} {E : zT}
theorem sp101 (hS : zs_3 S t) (h0 : zs_0 S e) (ht : e + 5 ≤ t) (hT : zTP C t n b) (hF : zTF C t τ) (hv : zTv n b τ) (h2 : C.1 t 2 = zi (-1)) (hE : zXE C e E) (hE0 : eT E = 0) : zCd X 4 101 [.ref t, .ref e] S C (zQv (fun C1 => zCs C C1 t e (oSides n b E (tN n b τ.2.2)))) := by
  refine vc101 hS h0 ?_
  have v4 := hv.2.2.2.1
  refine zc_mV (sp86 (b := b) (n := n) hS hT v4 hF.2.2) (fun C1 g => ?_)
  have hT1 : zTP C1 t n b := zTP_of hT (g.2.1 _ _ (by omega)) (fun k => g.2.1 _ _ (by omega))
  rw [show (2 : Int32) = zi 2 from rfl, show (3 : Int32) = zi 3 from rfl]
  refine zc_mI (sp102 (lo := 2) (hi := 3) hS hT1 g.1 (tN_v v4) (by rw [g.2.1 _ _ (by omega)]; exact h2) (by omega) (by omega)) (fun r C2 h => ?_)
  obtain ⟨h3, h4, h5, h6⟩ := h
  have fr : ∀ c k, ¬ (c = t ∧ 2 ≤ k ∧ k ≤ 5) → C2.1 c k = C.1 c k := fun c k hk => by rw [h5 c k hk, g.2.1 c k (by omega)]
  unfold oSides
  by_cases c : rK b (tN n b τ.2.2) 2 3
  · obtain ⟨r1, r2, r3⟩ := h3 c
    rw [if_pos c, r3, if_pos (by decide), r1]
    have hnn : rV b (tN n b τ.2.2) = ((rV b (tN n b τ.2.2)).toNat : Int) := by have := c.2.2.1; omega
    rw [hnn]
    refine zc_mV (sp68 h0 (zXE_of hE (fun c k _ _ => fr c k (by omega))) hE0) (fun C3 u => ?_)
    rw [Int.toNat_natCast]
    exact ⟨⟨by rw [u.2.1 _ _ (by omega)]; exact r3, ⟨by rw [u.2.1 _ _ (by omega)]; exact r2.1, by rw [u.2.1 _ _ (by omega)]; exact r2.2.1, by rw [u.2.1 _ _ (by omega)]; exact r2.2.2⟩, u.1⟩, fun c k hk hc => by rw [u.2.1 c k hc]; exact fr c k hk, u.2.2.trans (h6.trans g.2.2)⟩
  · obtain ⟨r1, r2, r3⟩ := h4 c
    have hle := (tN_v (b := b) v4).2.2
    have hn := hT.2.2.1
    rw [if_neg c, r2, zi_m1, zeq_f (by omega)]
    exact ⟨Or.inl r2, fun c k hk _ => fr c k hk, h6.trans g.2.2⟩
end
