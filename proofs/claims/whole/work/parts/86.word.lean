/-! ISWORD, both -/
abbrev tE (b : Nat → Int) (β w : Nat) : Prop := ∀ i, i < wL w → b (β + i) = wB w i
abbrev tW (b : Nat → Int) (τ : zTk) (w : Nat) : Prop := τ.1 = 1 ∧ τ.2.2 = τ.2.1 + wL w ∧ tE b τ.2.1 w
section
variable {X : zX} {S : zx_S} {C : zx_C} {t a n w : Nat} {b : Nat → Int} {τ : zTk} {q : Int32 → zx_C → Prop}
theorem wB_rg (hw : w < 7) {i : Nat} (hi : i < wL w) : 0 ≤ wB w i ∧ wB w i ≤ 255 := by
  have hl := wL_le w hw
  have := (wB_ok w hw i (by omega) hi).1
  omega
theorem lq89 (hS : zs_3 S t) (hw : w < 7) (hT : zTP C t n b) {β : Nat} (h4 : C.1 t 4 = zi β) (hn : β + wL w ≤ n) (hq : q (zb (tE b β w)) C) : ∀ (j i : Nat), i + j = wL w → (∀ k, k < i → b (β + k) = wB w k) → zW X 4 89 32 [.ref t, .ref (2000000 + w), .int (zi i)] [] S C (zQi q) := by
  intro j
  have hl := wL_le w hw
  have hn2 := hT.2.2.1
  induction j with
  | zero =>
    intro i hi he
    refine vc89_32 hS hw ?_
    rw [sp90 hw, zlt_f (by omega)]
    rw [zbT (fun k hk => he k (by omega))] at hq
    exact hq
  | succ j ih =>
    intro i hi he
    refine vc89_32 hS hw ?_
    have hb := hT.2.2.2 (β + i) (by omega)
    have hB := wB_rg hw (show i < wL w by omega)
    rw [sp90 hw, zlt_t (by omega), sp92 hw (by omega), h4, zi_add, sp11 (za_3_0 hS) (by omega) (by omega) (by omega), show ((β : Int) + (i : Int)).toNat = β + i by omega, hT.2.1 _ (by omega), zeq_i (by omega)]
    by_cases c : wB w i = b (β + i)
    · rw [if_pos c, zi_s]
      refine ih (i + 1) (by omega) (fun k hk => ?_)
      by_cases ck : k = i
      · subst ck; exact c.symm
      · exact he k (by omega)
    · rw [if_neg c]
      rw [zbF (fun h => c (h i (by omega)).symm)] at hq
      exact hq
/-- isWord, the class -/
theorem sp89 (hS : zs_3 S t) (hw : w < 7) (hT : zTP C t n b) (hF : zTF C t τ) (h1 : τ.1 ≤ 5 ∧ τ.2.1 ≤ τ.2.2 ∧ τ.2.2 ≤ n) : zCd X 4 89 [.ref t, .ref (2000000 + w)] S C (zQi q) = q (zb (tW b τ w)) C := by
  refine zc_eI (fun q h => vc89 hS hw ?_) q
  have hl := wL_le w hw
  have hn2 := hT.2.2.1
  obtain ⟨f3, f4, f5⟩ := hF
  rw [f3, show (1 : Int32) = zi 1 from rfl, zeq_i (by omega)]
  by_cases c1 : τ.1 = 1
  · rw [if_pos (by omega), sp90 hw, f4, f5, zi_sub, zeq_i (by omega)]
    by_cases c2 : τ.2.2 = τ.2.1 + wL w
    · rw [if_pos (by omega)]
      refine lq89 (i := 0) hS hw hT f4 (by omega) ?_ (wL w) (by omega) (fun k hk => absurd hk (Nat.not_lt_zero k))
      by_cases c3 : tE b τ.2.1 w
      · rw [zbT c3]
        rw [zbT (⟨c1, c2, c3⟩ : tW b τ w)] at h
        exact h
      · rw [zbF c3]
        rw [zbF (fun g : tW b τ w => c3 g.2.2)] at h
        exact h
    · rw [if_neg (by omega)]
      rw [zbF (fun g : tW b τ w => c2 g.2.1)] at h
      exact h
  · rw [if_neg (by omega)]
    rw [zbF (fun g : tW b τ w => c1 g.1)] at h
    exact h
theorem lq207 (hS : zs_5 S a) (hw : w < 7) (hT : zMP C a n b) {β : Nat} (h4 : C.1 a 24 = zi β) (hn : β + wL w ≤ n) (hq : q (zb (tE b β w)) C) : ∀ (j i : Nat), i + j = wL w → (∀ k, k < i → b (β + k) = wB w k) → zW X 4 207 28 [.ref a, .ref (2000000 + w), .int (zi i)] [] S C (zQi q) := by
  intro j
  have hl := wL_le w hw
  have hn2 := hT.2.2.1
  induction j with
  | zero =>
    intro i hi he
    refine vc207_28 hS hw ?_
    rw [sp90 hw, zlt_f (by omega)]
    rw [zbT (fun k hk => he k (by omega))] at hq
    exact hq
  | succ j ih =>
    intro i hi he
    refine vc207_28 hS hw ?_
    have hb := hT.2.2.2 (β + i) (by omega)
    have hB := wB_rg hw (show i < wL w by omega)
    rw [sp90 hw, zlt_t (by omega), h4, zi_add]
    refine ⟨zi_in (by omega) (by omega) (by omega), ?_⟩
    rw [sp92 hw (by omega), zi_ix (by omega) (by omega), show ((β : Int) + (i : Int)).toNat = β + i by omega, hT.2.1 _ (by omega), zeq_i (by omega)]
    by_cases c : b (β + i) = wB w i
    · rw [if_pos c, zi_s]
      refine ih (i + 1) (by omega) (fun k hk => ?_)
      by_cases ck : k = i
      · subst ck; exact c
      · exact he k (by omega)
    · rw [if_neg c]
      rw [zbF (fun h => c (h i (by omega)))] at hq
      exact hq
/-- isWord, the model -/
theorem sp207 (hS : zs_5 S a) (hw : w < 7) (hT : zMP C a n b) (hF : zMF2 C a b τ) (h1 : τ.1 ≤ 5 ∧ τ.2.1 ≤ τ.2.2 ∧ τ.2.2 ≤ n) : zCd X 4 207 [.ref a, .ref (2000000 + w)] S C (zQi q) = q (zb (tW b τ w)) C := by
  refine zc_eI (fun q h => vc207 hS hw ?_) q
  have hl := wL_le w hw
  have hn2 := hT.2.2.1
  obtain ⟨f3, f4, f5, -⟩ := hF
  have hk : tK τ.1 ≤ 5 ∧ (tK τ.1 = 1 ↔ τ.1 = 1) := by
    unfold tK
    split <;> omega
  rw [f3, show (1 : Int32) = zi 1 from rfl, zeq_i (by omega)]
  by_cases c1 : τ.1 = 1
  · rw [if_pos (by omega), sp90 hw, f4, f5, zi_sub, zeq_i (by omega)]
    by_cases c2 : τ.2.2 = τ.2.1 + wL w
    · rw [if_pos (by omega)]
      refine lq207 (i := 0) hS hw hT f4 (by omega) ?_ (wL w) (by omega) (fun k hk => absurd hk (Nat.not_lt_zero k))
      by_cases c3 : tE b τ.2.1 w
      · rw [zbT c3]
        rw [zbT (⟨c1, c2, c3⟩ : tW b τ w)] at h
        exact h
      · rw [zbF c3]
        rw [zbF (fun g : tW b τ w => c3 g.2.2)] at h
        exact h
    · rw [if_neg (by omega)]
      rw [zbF (fun g : tW b τ w => c2 g.2.1)] at h
      exact h
  · rw [if_neg (by omega)]
    rw [zbF (fun g : tW b τ w => c1 g.1)] at h
    exact h
end
