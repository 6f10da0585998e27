/-! READNUMBER of the class -/
def zTv (n : Nat) (b : Nat → Int) (τ : zTk) : Prop := τ.1 ≤ 5 ∧ τ.1 ≠ 4 ∧ τ.2.1 ≤ τ.2.2 ∧ τ.2.2 ≤ n ∧ (τ.1 ≠ 0 → τ.2.1 < τ.2.2) ∧ (τ.1 = 2 → ∀ i, i < τ.2.2 - τ.2.1 → 48 ≤ b (τ.2.1 + i) ∧ b (τ.2.1 + i) ≤ 57)
theorem tR_dig {n : Nat} {b : Nat → Int} {κ : Nat} : ∀ j p i, p ≤ i → i < tR n b κ j p → tA n b i = κ
  | 0, p, i, h1, h2 => by
    have h3 : i < p := h2
    omega
  | j + 1, p, i, h1, h2 => by
    unfold tR at h2
    by_cases c : tA n b p = κ
    · rw [if_pos c] at h2
      by_cases c2 : i = p
      · rw [c2]; exact c
      · exact tR_dig j (p + 1) i (by omega) h2
    · rw [if_neg c] at h2
      omega
theorem tN_v {n : Nat} {b : Nat → Int} {p : Nat} (h : p ≤ n) : zTv n b (tN n b p) := by
  obtain ⟨h1, h2, h3, h4, h5, h6⟩ := tN_le (b := b) h
  refine ⟨h5, h4, h2, h3, h6, fun hk i hi => ?_⟩
  have hlt := h6 (by omega)
  refine (tA_2 (n := n) (by omega)).mp ?_
  have hM : tN n b p = tM n b (tS n b (n - p) p) := rfl
  rw [hM] at hk hi h3 hlt ⊢
  generalize tS n b (n - p) p = β at hk hi h3 hlt ⊢
  have hk2 : tA n b β = 2 := hk
  rw [tM_1 hk2 (Or.inr rfl)] at hi h3 hlt ⊢
  dsimp only at hi h3 hlt ⊢
  by_cases c : i = 0
  · rw [c]; exact hk2
  · exact tR_dig (n - (β + 1)) (β + 1) (β + i) (by omega) (by omega)
theorem kV_4 {b : Nat → Int} {β l : Nat} (hl : l ≤ 4) (h : ∀ i, i < l → 48 ≤ b (β + i) ∧ b (β + i) ≤ 57) : 0 ≤ kV b β l ∧ kV b β l ≤ 9999 := by
  have h1 := kV_rg (n := 0) (b := b) (β := β) l h
  have : l = 0 ∨ l = 1 ∨ l = 2 ∨ l = 3 ∨ l = 4 := by omega
  rcases this with rfl | rfl | rfl | rfl | rfl
  · have : (10 : Int) ^ 0 = 1 := by decide
    omega
  · have : (10 : Int) ^ 1 = 10 := by decide
    omega
  · have : (10 : Int) ^ 2 = 100 := by decide
    omega
  · have : (10 : Int) ^ 3 = 1000 := by decide
    omega
  · have : (10 : Int) ^ 4 = 10000 := by decide
    omega
/-- may the token be a number from lo to hi; which -/
def rV (b : Nat → Int) (τ : zTk) : Int := kV b τ.2.1 (τ.2.2 - τ.2.1)
abbrev rK (b : Nat → Int) (τ : zTk) (lo hi : Int) : Prop := τ.1 = 2 ∧ τ.2.2 - τ.2.1 ≤ 4 ∧ lo ≤ rV b τ ∧ rV b τ ≤ hi
section
variable {X : zX} {S : zx_S} {C : zx_C} {t n : Nat} {b : Nat → Int} {τ : zTk} {lo hi : Int}
def zRp (C C1 : zx_C) (t n : Nat) (b : Nat → Int) (τ : zTk) (lo hi : Int) (r : Int32) : Prop := (rK b τ lo hi → r = zi (rV b τ) ∧ zTF C1 t (tN n b τ.2.2) ∧ C1.1 t 2 = zi (-1)) ∧ (¬ rK b τ lo hi → r = zi (-1) ∧ C1.1 t 2 = zi τ.2.1 ∧ zTF C1 t τ) ∧ (∀ c k, ¬ (c = t ∧ 2 ≤ k ∧ k ≤ 5) → C1.1 c k = C.1 c k) ∧ C1.2 = C.2
theorem zRp_n (hF : zTF C t τ) (h : ¬ rK b τ lo hi) : zRp C (zp C t 2 (C.1 t 4)) t n b τ lo hi (-1) :=
  ⟨fun q => absurd q h, fun _ => ⟨rfl, by rw [zp_hit]; exact hF.2.1, by rw [zp_nf (by omega)]; exact hF.1, by rw [zp_nf (by omega)]; exact hF.2.1, by rw [zp_nf (by omega)]; exact hF.2.2⟩, fun c k hk => zp_miss _ _ _ _ (by omega), rfl⟩
theorem lq102 (hS : zs_3 S t) (hT : zTP C t n b) (hF : zTF C t τ) (hv : zTv n b τ) (h2 : C.1 t 2 = zi (-1)) (hlo : -2147483648 ≤ lo ∧ lo < 2147483648) (hhi : -2147483648 ≤ hi ∧ hi < 2147483648) (hk : τ.1 = 2) (hl : τ.2.2 - τ.2.1 ≤ 4) : ∀ (j l : Nat), l + j = τ.2.2 - τ.2.1 → zW X 3 102 46 [.ref t, .int (zi lo), .int (zi hi), .int (zi (kV b τ.2.1 l)), .int 1, .int (zi ((τ.2.1 + l : Nat) : Int))] [] S C (zQi (fun r C1 => zRp C C1 t n b τ lo hi r)) := by
  intro j
  obtain ⟨v1, v2, v3, v4, v5, v6⟩ := hv
  have hn := hT.2.2.1
  induction j with
  | zero =>
    intro l hj
    have hb := kV_4 (b := b) (β := τ.2.1) hl (v6 hk)
    refine vc102_46 (a1 := 0) (a2 := 0) hS ?_
    rw [if_neg (by decide), hF.2.2, zlt_f (by omega), if_neg (by decide), show l = τ.2.2 - τ.2.1 by omega, zlt_i (by omega)]
    by_cases c1 : kV b τ.2.1 (τ.2.2 - τ.2.1) < lo
    · rw [if_pos c1]
      exact zRp_n hF (fun g => absurd g.2.2.1 (by show ¬ lo ≤ kV b τ.2.1 (τ.2.2 - τ.2.1); omega))
    · rw [if_neg c1, zlt_i (by omega)]
      by_cases c2 : hi < kV b τ.2.1 (τ.2.2 - τ.2.1)
      · rw [if_pos c2]
        exact zRp_n hF (fun g => absurd g.2.2.2 (by show ¬ kV b τ.2.1 (τ.2.2 - τ.2.1) ≤ hi; omega))
      · rw [if_neg c2]
        have ok : rK b τ lo hi := ⟨hk, hl, by show lo ≤ kV b τ.2.1 (τ.2.2 - τ.2.1); omega, by show kV b τ.2.1 (τ.2.2 - τ.2.1) ≤ hi; omega⟩
        refine zc_mV (sp86 hS hT v4 hF.2.2) (fun C1 g => ?_)
        exact ⟨fun _ => ⟨rfl, g.1, by rw [g.2.1 _ _ (by omega)]; exact h2⟩, fun q => absurd ok q, fun c k hk => g.2.1 c k (by omega), g.2.2⟩
  | succ j ih =>
    intro l hj
    have hd := v6 hk l (by omega)
    refine vc102_46 (a1 := 0) (a2 := 0) hS ?_
    rw [if_neg (by decide), hF.2.2, zlt_t (by omega), sp11 (za_3_0 hS) (by omega) (by omega) (by omega), Int.toNat_natCast, hT.2.1 _ (by omega), zi_s, show (10 : Int32) = zi 10 from rfl, show (48 : Int32) = zi 48 from rfl, zi_mul, zi_add, zi_sub]
    exact ih (l + 1) (by omega)
/-- readNumber -/
theorem sp102 (hS : zs_3 S t) (hT : zTP C t n b) (hF : zTF C t τ) (hv : zTv n b τ) (h2 : C.1 t 2 = zi (-1)) (hlo : -2147483648 ≤ lo ∧ lo < 2147483648) (hhi : -2147483648 ≤ hi ∧ hi < 2147483648) : zCd X 3 102 [.ref t, .int (zi lo), .int (zi hi)] S C (zQi (fun r C1 => zRp C C1 t n b τ lo hi r)) := by
  have hn := hT.2.2.1
  have hv' := hv
  obtain ⟨v1, v2, v3, v4, v5, v6⟩ := hv'
  refine vc102 hS ?_
  rw [h2, if_pos (by decide), hF.1, show (2 : Int32) = zi 2 from rfl, zeq_i (by omega)]
  by_cases c1 : τ.1 = 2
  · rw [if_pos (by omega), hF.2.2, hF.2.1, zi_sub, show (4 : Int32) = zi 4 from rfl]
    by_cases c2 : τ.2.2 - τ.2.1 ≤ 4
    · rw [zlt_f (by omega)]
      exact lq102 hS hT hF hv h2 hlo hhi c1 c2 (τ.2.2 - τ.2.1) 0 (by omega)
    · rw [zlt_t (by omega)]
      refine vc102_46 (a1 := 0) (a2 := 0) hS ?_
      rw [if_pos rfl, if_pos rfl]
      exact zRp_n hF (fun g => c2 g.2.1)
  · rw [if_neg (by omega)]
    refine vc102_46 (a1 := 0) (a2 := 0) hS ?_
    rw [if_pos rfl, if_pos rfl]
    exact zRp_n hF (fun g => c1 g.1)
/-- .. behind a fault -/
theorem sp102f (hS : zs_3 S t) {f : Nat} (hf : f ≤ 250) (h2 : C.1 t 2 = zi f) {x y : Int32} {q : Int32 → zx_C → Prop} : zCd X 3 102 [.ref t, .int x, .int y] S C (zQi q) = q (zi (-1)) C := by
  refine zc_eI (fun q h => vc102 hS ?_) q
  rw [h2, zi_m1, zeq_f (by omega)]
  exact h
end
