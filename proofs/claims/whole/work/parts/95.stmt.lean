/-! A STATEMENT of the class (by program: wip/whole/gen95.py) -/
def oSt (n : Nat) (b : Nat → Int) (E : zT) (τ : zTk) : zSo := if tW b τ 0 ∧ eT E = 0 then oSides n b E (tN n b τ.2.2) else if tW b τ 1 ∧ eT E < 8 then oThing n b E (tN n b τ.2.2) else if tW b τ 2 then oLaw n b E (tN n b τ.2.2) else if tW b τ 3 then oOrder n b E (tN n b τ.2.2) else if tW b τ 4 then oBent n b E (tN n b τ.2.2) else if tW b τ 5 then oTurn n b E (tN n b τ.2.2) else if tW b τ 6 then oOwns n b E (tN n b τ.2.2) else .inl τ.2.1
section
variable {X : zX} {S : zx_S} {C : zx_C} {t e n : Nat} {b : Nat → Int} {τ : zTk} {E : zT}
theorem sp88 (hS : zs_3 S t) (h0 : zs_0 S e) (ht : e + 5 ≤ t) (hT : zTP C t n b) (hF : zTF C t τ) (hv : zTv n b τ) (h2 : C.1 t 2 = zi (-1)) (hE : zXE C e E) (hW : zWF E) : zCd X 5 88 [.ref t, .ref e] S C (zQv (fun C1 => zCs C C1 t e (oSt n b E τ))) := by
  refine vc88 hS h0 ?_
  have hk : τ.1 ≤ 5 ∧ τ.2.1 ≤ τ.2.2 ∧ τ.2.2 ≤ n := ⟨hv.1, hv.2.2.1, hv.2.2.2.1⟩
  have hT8 := hW.2.1
  have z8 : eT E < 8 → C.1 e 1 < 8 := fun d => by
    rw [hE.2.1, show (8 : Int32) = zi 8 from rfl, zi_lt (by omega) (by omega) (by omega) (by omega)]
    omega
  have n8 : ¬ eT E < 8 → ¬ C.1 e 1 < 8 := fun d => by
    rw [hE.2.1, show (8 : Int32) = zi 8 from rfl, zi_lt (by omega) (by omega) (by omega) (by omega)]
    omega
  have n0 : ¬ eT E = 0 → ¬ C.1 e 1 = 0 := fun d => by
    rw [hE.2.1, zi_0, zi_eq (by omega) (by omega) (by omega) (by omega)]
    omega
  unfold oSt
  rw [sp89 (w := 0) hS (by decide) hT hF hk]
  by_cases c0 : tW b τ 0
  · rw [zb_t c0]
    by_cases d0 : eT E = 0
    · rw [if_pos (show C.1 e 1 = 0 by rw [hE.2.1, d0]; rfl), if_pos (⟨c0, d0⟩ : tW b τ 0 ∧ eT E = 0)]
      exact sp101 hS h0 ht hT hF hv h2 hE d0
    have nn : ¬ (tW b τ 0 ∧ eT E = 0) := fun h => d0 h.2
    rw [if_neg (n0 d0), if_neg nn, sp89 (w := 1) hS (by decide) hT hF hk]
    by_cases c1 : tW b τ 1
    · rw [zb_t c1]
      by_cases d1 : eT E < 8
      · rw [if_pos (z8 d1), if_pos (⟨c1, d1⟩ : tW b τ 1 ∧ eT E < 8)]
        exact sp103 hS h0 ht hT hF hv h2 hE hW d1
      have n1 : ¬ (tW b τ 1 ∧ eT E < 8) := fun h => d1 h.2
      rw [if_neg (n8 d1), if_neg n1, sp89 (w := 2) hS (by decide) hT hF hk]
      by_cases c2 : tW b τ 2
      · rw [zb_t c2, if_pos c2]
        exact sp104 hS h0 ht hT hF hv h2 hE
      rw [zb_f c2, if_neg c2, sp89 (w := 3) hS (by decide) hT hF hk]
      by_cases c3 : tW b τ 3
      · rw [zb_t c3, if_pos c3]
        exact sp105 hS h0 ht hT hF hv h2 hE hW
      rw [zb_f c3, if_neg c3, sp89 (w := 4) hS (by decide) hT hF hk]
      by_cases c4 : tW b τ 4
      · rw [zb_t c4, if_pos c4]
        exact sp106 hS h0 ht hT hF hv h2 hE hW
      rw [zb_f c4, if_neg c4, sp89 (w := 5) hS (by decide) hT hF hk]
      by_cases c5 : tW b τ 5
      · rw [zb_t c5, if_pos c5]
        exact sp107 hS h0 ht hT hF hv h2 hE
      rw [zb_f c5, if_neg c5, sp89 (w := 6) hS (by decide) hT hF hk]
      by_cases c6 : tW b τ 6
      · rw [zb_t c6, if_pos c6]
        exact sp108 hS h0 ht hT hF hv h2 hE hW
      rw [zb_f c6, if_neg c6]
      exact ⟨Or.inl (by rw [zp_hit]; exact hF.2.1), fun c k hk _ => zp_miss _ _ _ _ (by omega), rfl⟩
    have n1 : ¬ (tW b τ 1 ∧ eT E < 8) := fun h => c1 h.1
    rw [zb_f c1, if_neg n1, sp89 (w := 2) hS (by decide) hT hF hk]
    by_cases c2 : tW b τ 2
    · rw [zb_t c2, if_pos c2]
      exact sp104 hS h0 ht hT hF hv h2 hE
    rw [zb_f c2, if_neg c2, sp89 (w := 3) hS (by decide) hT hF hk]
    by_cases c3 : tW b τ 3
    · rw [zb_t c3, if_pos c3]
      exact sp105 hS h0 ht hT hF hv h2 hE hW
    rw [zb_f c3, if_neg c3, sp89 (w := 4) hS (by decide) hT hF hk]
    by_cases c4 : tW b τ 4
    · rw [zb_t c4, if_pos c4]
      exact sp106 hS h0 ht hT hF hv h2 hE hW
    rw [zb_f c4, if_neg c4, sp89 (w := 5) hS (by decide) hT hF hk]
    by_cases c5 : tW b τ 5
    · rw [zb_t c5, if_pos c5]
      exact sp107 hS h0 ht hT hF hv h2 hE
    rw [zb_f c5, if_neg c5, sp89 (w := 6) hS (by decide) hT hF hk]
    by_cases c6 : tW b τ 6
    · rw [zb_t c6, if_pos c6]
      exact sp108 hS h0 ht hT hF hv h2 hE hW
    rw [zb_f c6, if_neg c6]
    exact ⟨Or.inl (by rw [zp_hit]; exact hF.2.1), fun c k hk _ => zp_miss _ _ _ _ (by omega), rfl⟩
  have nn : ¬ (tW b τ 0 ∧ eT E = 0) := fun h => c0 h.1
  rw [zb_f c0, if_neg nn, sp89 (w := 1) hS (by decide) hT hF hk]
  by_cases c1 : tW b τ 1
  · rw [zb_t c1]
    by_cases d1 : eT E < 8
    · rw [if_pos (z8 d1), if_pos (⟨c1, d1⟩ : tW b τ 1 ∧ eT E < 8)]
      exact sp103 hS h0 ht hT hF hv h2 hE hW d1
    have n1 : ¬ (tW b τ 1 ∧ eT E < 8) := fun h => d1 h.2
    rw [if_neg (n8 d1), if_neg n1, sp89 (w := 2) hS (by decide) hT hF hk]
    by_cases c2 : tW b τ 2
    · rw [zb_t c2, if_pos c2]
      exact sp104 hS h0 ht hT hF hv h2 hE
    rw [zb_f c2, if_neg c2, sp89 (w := 3) hS (by decide) hT hF hk]
    by_cases c3 : tW b τ 3
    · rw [zb_t c3, if_pos c3]
      exact sp105 hS h0 ht hT hF hv h2 hE hW
    rw [zb_f c3, if_neg c3, sp89 (w := 4) hS (by decide) hT hF hk]
    by_cases c4 : tW b τ 4
    · rw [zb_t c4, if_pos c4]
      exact sp106 hS h0 ht hT hF hv h2 hE hW
    rw [zb_f c4, if_neg c4, sp89 (w := 5) hS (by decide) hT hF hk]
    by_cases c5 : tW b τ 5
    · rw [zb_t c5, if_pos c5]
      exact sp107 hS h0 ht hT hF hv h2 hE
    rw [zb_f c5, if_neg c5, sp89 (w := 6) hS (by decide) hT hF hk]
    by_cases c6 : tW b τ 6
    · rw [zb_t c6, if_pos c6]
      exact sp108 hS h0 ht hT hF hv h2 hE hW
    rw [zb_f c6, if_neg c6]
    exact ⟨Or.inl (by rw [zp_hit]; exact hF.2.1), fun c k hk _ => zp_miss _ _ _ _ (by omega), rfl⟩
  have n1 : ¬ (tW b τ 1 ∧ eT E < 8) := fun h => c1 h.1
  rw [zb_f c1, if_neg n1, sp89 (w := 2) hS (by decide) hT hF hk]
  by_cases c2 : tW b τ 2
  · rw [zb_t c2, if_pos c2]
    exact sp104 hS h0 ht hT hF hv h2 hE
  rw [zb_f c2, if_neg c2, sp89 (w := 3) hS (by decide) hT hF hk]
  by_cases c3 : tW b τ 3
  · rw [zb_t c3, if_pos c3]
    exact sp105 hS h0 ht hT hF hv h2 hE hW
  rw [zb_f c3, if_neg c3, sp89 (w := 4) hS (by decide) hT hF hk]
  by_cases c4 : tW b τ 4
  · rw [zb_t c4, if_pos c4]
    exact sp106 hS h0 ht hT hF hv h2 hE hW
  rw [zb_f c4, if_neg c4, sp89 (w := 5) hS (by decide) hT hF hk]
  by_cases c5 : tW b τ 5
  · rw [zb_t c5, if_pos c5]
    exact sp107 hS h0 ht hT hF hv h2 hE
  rw [zb_f c5, if_neg c5, sp89 (w := 6) hS (by decide) hT hF hk]
  by_cases c6 : tW b τ 6
  · rw [zb_t c6, if_pos c6]
    exact sp108 hS h0 ht hT hF hv h2 hE hW
  rw [zb_f c6, if_neg c6]
  exact ⟨Or.inl (by rw [zp_hit]; exact hF.2.1), fun c k hk _ => zp_miss _ _ _ _ (by omega), rfl⟩
end
