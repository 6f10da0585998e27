/-! NEXTTOKEN of the class -/
def tM (n : Nat) (b : Nat → Int) (β : Nat) : zTk := (tA n b β, β, if tA n b β = 0 then β else if tA n b β = 1 ∨ tA n b β = 2 then tR n b (tA n b β) (n - (β + 1)) (β + 1) else β + 1)
theorem tM_0 {n : Nat} {b : Nat → Int} {β : Nat} (h : tA n b β = 0) : tM n b β = (0, β, β) := by
  unfold tM
  rw [if_pos h, h]
theorem tM_1 {n : Nat} {b : Nat → Int} {β κ : Nat} (h : tA n b β = κ) (hκ : κ = 1 ∨ κ = 2) : tM n b β = (κ, β, tR n b κ (n - (β + 1)) (β + 1)) := by
  unfold tM
  rw [h, if_neg (by omega), if_pos hκ]
theorem tM_3 {n : Nat} {b : Nat → Int} {β : Nat} (h : tA n b β = 3 ∨ tA n b β = 5) : tM n b β = (tA n b β, β, β + 1) := by
  unfold tM
  rw [if_neg (by omega), if_neg (by omega)]
section
variable {X : zX} {S : zx_S} {C : zx_C} {t n : Nat} {b : Nat → Int}
theorem lq86t (hS : zs_3 S t) {p : Nat} {C1 : zx_C} {z1 : Value} (hpn : p ≤ n) (hT : zTP C1 t n b) (h5 : C1.1 t 5 = zi p) (h4 : tA n b p ≠ 4) {q : zx_C → Prop} (K : ∀ C2 : zx_C, zTF C2 t (tM n b p) → (∀ c k, ¬ (c = t ∧ 3 ≤ k ∧ k ≤ 5) → C2.1 c k = C1.1 c k) → C2.2 = C1.2 → q C2) : zW X 2 86 0 [.ref t, z1] [] S C1 (zQv q) := by
  have hn := hT.2.2.1
  have hle := tA_le (n := n) (b := b) (i := p)
  have hp : p ≤ 250 := by omega
  refine vc86_0 hS ?_
  rw [h5, hT.1]
  by_cases c : p < n
  · rw [zlt_t (by omega), sp87 hS hT hp, if_neg (fun h => h4 (by
      have := (zi_eq (a := (tA n b p : Int)) (b := 4) (by omega) (by omega) (by omega) (by omega)).mp h
      omega))]
    rw [zp_nf (by omega), h5, sp87 hS (zTP_of hT (zp_nf (by omega)) (fun k => zp_ne (by omega))) hp, zp_hit]
    have hcase : tA n b p = 0 ∨ tA n b p = 1 ∨ tA n b p = 2 ∨ (tA n b p = 3 ∨ tA n b p = 5) := by omega
    rcases hcase with hκ | hκ | hκ | hκ
    · rw [hκ, if_neg (by decide), if_neg (by decide), if_pos (by decide)]
      refine vc86_95 hS ?_
      rw [if_pos (by decide)]
      refine K _ ?_ (fun c k hk => by rw [zp_miss _ _ _ _ (by omega), zp_miss _ _ _ _ (by omega)]) rfl
      rw [tM_0 hκ]
      exact ⟨zp_hit _ _ _ _, by rw [zp_nf (by omega), zp_hit], by rw [zp_nf (by omega), zp_nf (by omega)]; exact h5⟩
    · rw [hκ, if_pos (by decide), if_neg (by decide), zp_nf (by omega), zp_nf (by omega), h5, zi_s]
      have hlt : p < n := by
        have := mt (tA_0 (n := n) (b := b) (i := p)).mpr (by omega)
        omega
      refine lq86b (b := b) hS (Or.inl rfl) (n - (p + 1)) (p + 1) _ (by omega) (zTP_of hT (by rw [zp_nf (by omega), zp_nf (by omega), zp_nf (by omega)]) (fun k => by rw [zp_ne (by omega), zp_ne (by omega), zp_ne (by omega)])) (by rw [zp_nf (by omega), zp_hit]) (zp_hit _ _ _ _) (fun C2 k1 k2 k3 => ?_)
      refine K C2 ?_ (fun c k hk => by rw [k2 c k (by omega), zp_miss _ _ _ _ (by omega), zp_miss _ _ _ _ (by omega), zp_miss _ _ _ _ (by omega)]) k3
      rw [tM_1 hκ (Or.inl rfl)]
      exact ⟨by rw [k2 _ _ (by omega), zp_nf (by omega), zp_hit], by rw [k2 _ _ (by omega), zp_nf (by omega), zp_nf (by omega), zp_hit], k1⟩
    · rw [hκ, if_neg (by decide), if_pos (by decide), if_neg (by decide), zp_nf (by omega), zp_nf (by omega), h5, zi_s]
      have hlt : p < n := by
        have := mt (tA_0 (n := n) (b := b) (i := p)).mpr (by omega)
        omega
      refine lq86b (b := b) hS (Or.inr rfl) (n - (p + 1)) (p + 1) _ (by omega) (zTP_of hT (by rw [zp_nf (by omega), zp_nf (by omega), zp_nf (by omega)]) (fun k => by rw [zp_ne (by omega), zp_ne (by omega), zp_ne (by omega)])) (by rw [zp_nf (by omega), zp_hit]) (zp_hit _ _ _ _) (fun C2 k1 k2 k3 => ?_)
      refine K C2 ?_ (fun c k hk => by rw [k2 c k (by omega), zp_miss _ _ _ _ (by omega), zp_miss _ _ _ _ (by omega), zp_miss _ _ _ _ (by omega)]) k3
      rw [tM_1 hκ (Or.inr rfl)]
      exact ⟨by rw [k2 _ _ (by omega), zp_nf (by omega), zp_hit], by rw [k2 _ _ (by omega), zp_nf (by omega), zp_nf (by omega), zp_hit], k1⟩
    · have e1 : ¬ zi ((tA n b p : Nat) : Int) = 1 := by rcases hκ with q | q <;> rw [q] <;> decide
      have e2 : ¬ zi ((tA n b p : Nat) : Int) = 2 := by rcases hκ with q | q <;> rw [q] <;> decide
      have e0 : ¬ zi ((tA n b p : Nat) : Int) = 0 := by rcases hκ with q | q <;> rw [q] <;> decide
      rw [if_neg e1, if_neg e2, if_neg e0, zp_nf (by omega), zp_nf (by omega), h5, zi_s]
      refine vc86_95 hS ?_
      rw [if_pos (by decide)]
      refine K _ ?_ (fun c k hk => by rw [zp_miss _ _ _ _ (by omega), zp_miss _ _ _ _ (by omega), zp_miss _ _ _ _ (by omega)]) rfl
      rw [tM_3 hκ]
      exact ⟨by rw [zp_nf (by omega), zp_hit], by rw [zp_nf (by omega), zp_nf (by omega), zp_hit], zp_hit _ _ _ _⟩
  · rw [zlt_f (by omega)]
    rw [zp_nf (by omega), h5, sp87 hS (zTP_of hT (zp_nf (by omega)) (fun k => zp_ne (by omega))) hp, zp_hit]
    have hcase : tA n b p = 0 ∨ tA n b p = 1 ∨ tA n b p = 2 ∨ (tA n b p = 3 ∨ tA n b p = 5) := by omega
    rcases hcase with hκ | hκ | hκ | hκ
    · rw [hκ, if_neg (by decide), if_neg (by decide), if_pos (by decide)]
      refine vc86_95 hS ?_
      rw [if_pos (by decide)]
      refine K _ ?_ (fun c k hk => by rw [zp_miss _ _ _ _ (by omega), zp_miss _ _ _ _ (by omega)]) rfl
      rw [tM_0 hκ]
      exact ⟨zp_hit _ _ _ _, by rw [zp_nf (by omega), zp_hit], by rw [zp_nf (by omega), zp_nf (by omega)]; exact h5⟩
    · rw [hκ, if_pos (by decide), if_neg (by decide), zp_nf (by omega), zp_nf (by omega), h5, zi_s]
      have hlt : p < n := by
        have := mt (tA_0 (n := n) (b := b) (i := p)).mpr (by omega)
        omega
      refine lq86b (b := b) hS (Or.inl rfl) (n - (p + 1)) (p + 1) _ (by omega) (zTP_of hT (by rw [zp_nf (by omega), zp_nf (by omega), zp_nf (by omega)]) (fun k => by rw [zp_ne (by omega), zp_ne (by omega), zp_ne (by omega)])) (by rw [zp_nf (by omega), zp_hit]) (zp_hit _ _ _ _) (fun C2 k1 k2 k3 => ?_)
      refine K C2 ?_ (fun c k hk => by rw [k2 c k (by omega), zp_miss _ _ _ _ (by omega), zp_miss _ _ _ _ (by omega), zp_miss _ _ _ _ (by omega)]) k3
      rw [tM_1 hκ (Or.inl rfl)]
      exact ⟨by rw [k2 _ _ (by omega), zp_nf (by omega), zp_hit], by rw [k2 _ _ (by omega), zp_nf (by omega), zp_nf (by omega), zp_hit], k1⟩
    · rw [hκ, if_neg (by decide), if_pos (by decide), if_neg (by decide), zp_nf (by omega), zp_nf (by omega), h5, zi_s]
      have hlt : p < n := by
        have := mt (tA_0 (n := n) (b := b) (i := p)).mpr (by omega)
        omega
      refine lq86b (b := b) hS (Or.inr rfl) (n - (p + 1)) (p + 1) _ (by omega) (zTP_of hT (by rw [zp_nf (by omega), zp_nf (by omega), zp_nf (by omega)]) (fun k => by rw [zp_ne (by omega), zp_ne (by omega), zp_ne (by omega)])) (by rw [zp_nf (by omega), zp_hit]) (zp_hit _ _ _ _) (fun C2 k1 k2 k3 => ?_)
      refine K C2 ?_ (fun c k hk => by rw [k2 c k (by omega), zp_miss _ _ _ _ (by omega), zp_miss _ _ _ _ (by omega), zp_miss _ _ _ _ (by omega)]) k3
      rw [tM_1 hκ (Or.inr rfl)]
      exact ⟨by rw [k2 _ _ (by omega), zp_nf (by omega), zp_hit], by rw [k2 _ _ (by omega), zp_nf (by omega), zp_nf (by omega), zp_hit], k1⟩
    · have e1 : ¬ zi ((tA n b p : Nat) : Int) = 1 := by rcases hκ with q | q <;> rw [q] <;> decide
      have e2 : ¬ zi ((tA n b p : Nat) : Int) = 2 := by rcases hκ with q | q <;> rw [q] <;> decide
      have e0 : ¬ zi ((tA n b p : Nat) : Int) = 0 := by rcases hκ with q | q <;> rw [q] <;> decide
      rw [if_neg e1, if_neg e2, if_neg e0, zp_nf (by omega), zp_nf (by omega), h5, zi_s]
      refine vc86_95 hS ?_
      rw [if_pos (by decide)]
      refine K _ ?_ (fun c k hk => by rw [zp_miss _ _ _ _ (by omega), zp_miss _ _ _ _ (by omega), zp_miss _ _ _ _ (by omega)]) rfl
      rw [tM_3 hκ]
      exact ⟨by rw [zp_nf (by omega), zp_hit], by rw [zp_nf (by omega), zp_nf (by omega), zp_hit], zp_hit _ _ _ _⟩
theorem lq86a (hS : zs_3 S t) {z1 : Value} {q : zx_C → Prop} : ∀ (j p : Nat) (C1 : zx_C), p + j = n → zTP C1 t n b → C1.1 t 5 = zi p → (∀ C2 : zx_C, zTF C2 t (tM n b (tS n b j p)) → (∀ c k, ¬ (c = t ∧ 3 ≤ k ∧ k ≤ 5) → C2.1 c k = C1.1 c k) → C2.2 = C1.2 → q C2) → zW X 2 86 0 [.ref t, z1] [] S C1 (zQv q) := by
  intro j
  induction j with
  | zero =>
    intro p C1 hp hT h5 K
    exact lq86t hS (by omega) hT h5 (by rw [tA_0.mpr (by omega)]; omega) K
  | succ j ih =>
    intro p C1 hp hT h5 K
    have hn := hT.2.2.1
    unfold tS at K
    by_cases c : tA n b p = 4
    · rw [if_pos c] at K
      refine vc86_0 hS ?_
      rw [h5, hT.1, zlt_t (by omega), sp87 hS hT (by omega), c, if_pos (by decide), h5, zi_s]
      exact ih (p + 1) _ (by omega) (zTP_of hT (zp_nf (by omega)) (fun k => zp_ne (by omega))) (zp_hit _ _ _ _) (fun C2 k1 k2 k3 => K C2 k1 (fun c k hk => by rw [k2 c k hk, zp_miss _ _ _ _ (by omega)]) k3)
    · rw [if_neg c] at K
      exact lq86t hS (by omega) hT h5 c K
/-- nextToken -/
theorem sp86 (hS : zs_3 S t) (hT : zTP C t n b) {p : Nat} (hp : p ≤ n) (h5 : C.1 t 5 = zi p) : zCd X 2 86 [.ref t] S C (zQv (fun C1 => zTF C1 t (tN n b p) ∧ (∀ c k, ¬ (c = t ∧ 3 ≤ k ∧ k ≤ 5) → C1.1 c k = C.1 c k) ∧ C1.2 = C.2)) :=
  vc86 hS (lq86a hS (n - p) p C (by omega) hT h5 (fun _ k1 k2 k3 => ⟨k1, k2, k3⟩))
end
