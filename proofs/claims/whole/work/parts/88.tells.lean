/-! WRONG, NUMBER, TELLS of the model -/
section
variable {X : zX} {S : zx_S} {C : zx_C} {a n : Nat} {b : Nat → Int} {τ : zTk} {lo hi : Int}
/-- wrong -/
theorem sp210 (hS : zs_5 S a) {q : Int32 → zx_C → Prop} : zCd X 0 210 [.ref a] S C (zQi q) = q 0 (zp C a 26 (C.1 a 24)) :=
  zc_eI (fun _ h => vc210 hS h) q
def zNp (C C1 : zx_C) (a n : Nat) (b : Nat → Int) (τ : zTk) (i : Nat) (lo hi : Int) (r : Int32) : Prop := (rK b τ lo hi → r = zi 1 ∧ zMF2 C1 a b (tN n b τ.2.2) ∧ C1.1 (a + 30) i = zi (rV b τ)) ∧ (¬ rK b τ lo hi → r = zi 0 ∧ C1.1 a 26 = zi τ.2.1 ∧ zMF2 C1 a b τ) ∧ (∀ c k, ¬ (c = a ∧ 22 ≤ k ∧ k ≤ 26) → ¬ (c = a + 30 ∧ k = i) → C1.1 c k = C.1 c k) ∧ C1.2 = C.2
theorem zNp_n {i : Nat} (hF : zMF2 C a b τ) (h : ¬ rK b τ lo hi) : zNp C (zp C a 26 (C.1 a 24)) a n b τ i lo hi 0 :=
  ⟨fun q => absurd q h, fun _ => ⟨rfl, by rw [zp_hit]; exact hF.2.1, by rw [zp_nf (by omega)]; exact hF.1, by rw [zp_nf (by omega)]; exact hF.2.1, by rw [zp_nf (by omega)]; exact hF.2.2.1, by rw [zp_nf (by omega)]; exact hF.2.2.2⟩, fun c k hk _ => zp_miss _ _ _ _ (by omega), rfl⟩
/-- number -/
theorem sp209 (hS : zs_5 S a) (hT : zMP C a n b) (hF : zMF2 C a b τ) (hv : zTv n b τ) {i : Nat} (hi3 : i < 3) (hlo : -2147483648 ≤ lo ∧ lo < 2147483648) (hhi : -2147483648 ≤ hi ∧ hi ≤ 9999) : zCd X 2 209 [.ref a, .int (zi i), .int (zi lo), .int (zi hi)] S C (zQi (fun r C1 => zNp C C1 a n b τ i lo hi r)) := by
  have hn := hT.2.2.1
  have hv' := hv
  obtain ⟨v1, v2, v3, v4, v5, v6⟩ := hv'
  have hk : tK τ.1 ≤ 5 ∧ (tK τ.1 = 2 ↔ τ.1 = 2) := by
    unfold tK
    split <;> omega
  refine vc209 hS ?_
  rw [hF.1, show (2 : Int32) = zi 2 from rfl, zeq_i (by omega)]
  by_cases c1 : τ.1 = 2
  · have hfg : tF b τ = kF b τ.2.1 (τ.2.2 - τ.2.1) := if_pos c1
    have hrg : 0 ≤ tF b τ ∧ tF b τ ≤ 100000 := by
      rw [hfg]
      unfold kF
      split
      · rename_i c
        have := kV_4 (b := b) (β := τ.2.1) c (v6 c1)
        omega
      · omega
    rw [if_pos (by omega), hF.2.2.2, zl_zi (by omega), zl_zi (by omega), zl_zi (by omega), sp159, zl_toInt (by omega), zl_toInt (by omega), zl_toInt (by omega)]
    by_cases c2 : lo ≤ tF b τ ∧ tF b τ ≤ hi
    · have hl4 : τ.2.2 - τ.2.1 ≤ 4 := by
        rw [hfg] at c2
        unfold kF at c2
        by_cases c : τ.2.2 - τ.2.1 ≤ 4
        · exact c
        · rw [if_neg c] at c2
          omega
      have hrv : tF b τ = rV b τ := by
        rw [hfg]
        unfold kF
        rw [if_pos hl4]
        rfl
      have ok : rK b τ lo hi := ⟨c1, hl4, by rw [← hrv]; exact c2.1, by rw [← hrv]; exact c2.2⟩
      rw [zb_t c2]
      refine ⟨zi_in (by omega) (by omega) (by omega), ?_⟩
      rw [zi_ix (by omega) (by omega), Int.toNat_natCast]
      refine zc_mV (sp203 (b := b) (n := n) hS (zMP_of hT (zp_ne (by omega)) (fun k => zp_ne (by omega))) v4 (by rw [zp_ne (by omega)]; exact hF.2.2.1)) (fun C1 g => ?_)
      refine ⟨fun _ => ⟨rfl, g.1, ?_⟩, fun q => absurd ok q, fun c k h1 h2 => ?_, g.2.2⟩
      · rw [g.2.1 _ _ (by omega), zp_hit, ← hrv]
        exact hF.2.2.2
      · rw [g.2.1 c k (by omega), zp_miss _ _ _ _ (by omega)]
    · have no : ¬ rK b τ lo hi := fun g => c2 (by
        have : tF b τ = rV b τ := by
          rw [hfg]
          unfold kF
          rw [if_pos g.2.1]
          rfl
        rw [this]
        exact ⟨g.2.2.1, g.2.2.2⟩)
      rw [zb_f c2, sp210 hS]
      exact ⟨Or.inl rfl, zNp_n hF no⟩
  · rw [if_neg (by omega), sp210 hS]
    exact ⟨Or.inl rfl, zNp_n hF (fun g => c1 g.1)⟩
end
section
variable {X : zX} {S : zx_S} {C : zx_C} {a n : Nat} {b : Nat → Int} {τ : zTk} {lo hi : Int}
/-- tells: the next token, as a number -/
theorem sp208 (hS : zs_5 S a) (hT : zMP C a n b) (hF : zMF2 C a b τ) (hv : zTv n b τ) (hlo : -2147483648 ≤ lo ∧ lo < 2147483648) (hhi : -2147483648 ≤ hi ∧ hi ≤ 9999) : zCd X 3 208 [.ref a, .int (zi lo), .int (zi hi)] S C (zQi (fun r C1 => zNp C C1 a n b (tN n b τ.2.2) 0 lo hi r)) := by
  refine vc208 hS ?_
  have v4 := hv.2.2.2.1
  refine zc_mV (sp203 (b := b) (n := n) hS hT v4 hF.2.2.1) (fun C1 g => ?_)
  have hT1 : zMP C1 a n b := zMP_of hT (g.2.1 _ _ (by omega)) (fun k => g.2.1 _ _ (by omega))
  refine zc_mI (sp209 (i := 0) hS hT1 g.1 (tN_v v4) (by omega) hlo hhi) (fun r C2 h => ?_)
  obtain ⟨h1, h2, h3, h4⟩ := h
  refine ⟨?_, h1, h2, fun c k q1 q2 => by rw [h3 c k q1 q2, g.2.1 c k (by omega)], h4.trans g.2.2⟩
  by_cases c : rK b (tN n b τ.2.2) lo hi
  · rw [(h1 c).1]; exact Or.inr rfl
  · rw [(h2 c).1]; exact Or.inl rfl
end
