/-! STATEMENTS of the class: what one comes to (a fault's place, or the estate and the token behind it) -/
abbrev zSo := Nat ⊕ (zT × zTk)
def zCs (C C1 : zx_C) (t e : Nat) (o : zSo) : Prop := (match o with
  | .inl β => C1.1 t 2 = zi (β : Int) ∨ (C1.1 t 2 = zi (-1) ∧ C1.1 t 3 = zi 2 ∧ C1.1 t 4 = zi (β : Int))
  | .inr p => C1.1 t 2 = zi (-1) ∧ zTF C1 t p.2 ∧ zXE C1 e p.1) ∧ (∀ c k, ¬ (c = t ∧ 2 ≤ k ∧ k ≤ 5) → (c < e ∨ e + 5 ≤ c) → C1.1 c k = C.1 c k) ∧ C1.2 = C.2
def oLaw (n : Nat) (b : Nat → Int) (E : zT) (ν : zTk) : zSo := if rK b ν 0 3 then .inr (sLaw E (rV b ν).toNat, tN n b ν.2.2) else .inl ν.2.1
def oTurn (n : Nat) (b : Nat → Int) (E : zT) (ν : zTk) : zSo := if rK b ν 0 9999 then .inr (sTurn E (rV b ν).toNat, tN n b ν.2.2) else .inl ν.2.1
section
variable {X : zX} {S : zx_S} {C : zx_C} {t e n : Nat} {b : Nat → Int} {τ : zTk} {E : zT}
/-- LAW -/
theorem sp104 (hS : zs_3 S t) (h0 : zs_0 S e) (ht : e + 5 ≤ t) (hT : zTP C t n b) (hF : zTF C t τ) (hv : zTv n b τ) (h2 : C.1 t 2 = zi (-1)) (hE : zXE C e E) : zCd X 4 104 [.ref t, .ref e] S C (zQv (fun C1 => zCs C C1 t e (oLaw n b E (tN n b τ.2.2)))) := by
  refine vc104 hS h0 ?_
  have v4 := hv.2.2.2.1
  refine zc_mV (sp86 (b := b) (n := n) hS hT v4 hF.2.2) (fun C1 g => ?_)
  have hT1 : zTP C1 t n b := zTP_of hT (g.2.1 _ _ (by omega)) (fun k => g.2.1 _ _ (by omega))
  refine zc_mI (sp102 (lo := 0) (hi := 3) hS hT1 g.1 (tN_v v4) (by rw [g.2.1 _ _ (by omega)]; exact h2) (by omega) (by omega)) (fun r C2 h => ?_)
  obtain ⟨h3, h4, h5, h6⟩ := h
  have fr : ∀ c k, ¬ (c = t ∧ 2 ≤ k ∧ k ≤ 5) → C2.1 c k = C.1 c k := fun c k hk => by rw [h5 c k hk, g.2.1 c k (by omega)]
  unfold oLaw
  by_cases c : rK b (tN n b τ.2.2) 0 3
  · obtain ⟨r1, r2, r3⟩ := h3 c
    rw [if_pos c, r3, if_pos (by decide), r1]
    have hnn : rV b (tN n b τ.2.2) = ((rV b (tN n b τ.2.2)).toNat : Int) := by have := c.2.2.1; omega
    rw [hnn]
    refine ⟨⟨by rw [zp_ne (by omega)]; exact r3, ⟨by rw [zp_ne (by omega)]; exact r2.1, by rw [zp_ne (by omega)]; exact r2.2.1, by rw [zp_ne (by omega)]; exact r2.2.2⟩, ?_⟩, fun c k hk hc => by rw [zp_ne (by omega)]; exact fr c k hk, h6.trans g.2.2⟩
    rw [Int.toNat_natCast]
    exact xE_Law (zXE_of hE (fun c k _ _ => fr c k (by omega)))
  · obtain ⟨r1, r2, r3⟩ := h4 c
    have hle := (tN_v (b := b) v4).2.2
    have hn := hT.2.2.1
    rw [if_neg c, r2, zi_m1, zeq_f (by omega)]
    exact ⟨Or.inl r2, fun c k hk _ => fr c k hk, h6.trans g.2.2⟩
/-- TURN -/
theorem sp107 (hS : zs_3 S t) (h0 : zs_0 S e) (ht : e + 5 ≤ t) (hT : zTP C t n b) (hF : zTF C t τ) (hv : zTv n b τ) (h2 : C.1 t 2 = zi (-1)) (hE : zXE C e E) : zCd X 4 107 [.ref t, .ref e] S C (zQv (fun C1 => zCs C C1 t e (oTurn n b E (tN n b τ.2.2)))) := by
  refine vc107 hS h0 ?_
  have v4 := hv.2.2.2.1
  refine zc_mV (sp86 (b := b) (n := n) hS hT v4 hF.2.2) (fun C1 g => ?_)
  have hT1 : zTP C1 t n b := zTP_of hT (g.2.1 _ _ (by omega)) (fun k => g.2.1 _ _ (by omega))
  refine zc_mI (sp102 (lo := 0) (hi := 9999) hS hT1 g.1 (tN_v v4) (by rw [g.2.1 _ _ (by omega)]; exact h2) (by omega) (by omega)) (fun r C2 h => ?_)
  obtain ⟨h3, h4, h5, h6⟩ := h
  have fr : ∀ c k, ¬ (c = t ∧ 2 ≤ k ∧ k ≤ 5) → C2.1 c k = C.1 c k := fun c k hk => by rw [h5 c k hk, g.2.1 c k (by omega)]
  unfold oTurn
  by_cases c : rK b (tN n b τ.2.2) 0 9999
  · obtain ⟨r1, r2, r3⟩ := h3 c
    rw [if_pos c, r3, if_pos (by decide), r1]
    have hnn : rV b (tN n b τ.2.2) = ((rV b (tN n b τ.2.2)).toNat : Int) := by have := c.2.2.1; omega
    rw [hnn]
    refine ⟨⟨by rw [zp_ne (by omega)]; exact r3, ⟨by rw [zp_ne (by omega)]; exact r2.1, by rw [zp_ne (by omega)]; exact r2.2.1, by rw [zp_ne (by omega)]; exact r2.2.2⟩, ?_⟩, fun c k hk hc => by rw [zp_ne (by omega)]; exact fr c k hk, h6.trans g.2.2⟩
    rw [Int.toNat_natCast]
    exact xE_Turn (zXE_of hE (fun c k _ _ => fr c k (by omega)))
  · obtain ⟨r1, r2, r3⟩ := h4 c
    have hle := (tN_v (b := b) v4).2.2
    have hn := hT.2.2.1
    rw [if_neg c, r2, zi_m1, zeq_f (by omega)]
    exact ⟨Or.inl r2, fun c k hk _ => fr c k hk, h6.trans g.2.2⟩
end
