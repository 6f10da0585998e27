/-! LOOK -/
theorem tR_s {n : Nat} {b : Nat → Int} {κ p : Nat} (h : p < n) (h1 : tA n b p = κ) : tR n b κ (n - p) p = tR n b κ (n - (p + 1)) (p + 1) := by
  rw [show n - p = (n - (p + 1)) + 1 by omega]
  show (if tA n b p = κ then tR n b κ (n - (p + 1)) (p + 1) else p) = _
  rw [if_pos h1]
section
variable {X : zX} {S : zx_S} {C : zx_C} {a n : Nat} {b : Nat → Int}
theorem lq203t (hS : zs_5 S a) {p : Nat} {C1 : zx_C} (hpn : p ≤ n) (hT : zMP C1 a n b) (h5 : C1.1 a 22 = zi p) (h4 : tA n b p ≠ 4) {q : zx_C → Prop} (K : ∀ C2 : zx_C, zMF2 C2 a b (tM n b p) → (∀ c k, ¬ (c = a ∧ 22 ≤ k ∧ k ≤ 25) → C2.1 c k = C1.1 c k) → C2.2 = C1.2 → q C2) : zW X 1 203 0 [.ref a] [] S C1 (zQv q) := by
  have hn := hT.2.2.1
  refine vc203_0 hS ?_
  by_cases c : p < n
  · have hbp := hT.2.2.2 p c
    rw [h5, hT.1, zlt_t (by omega), zi_ix (by omega) (by omega), Int.toNat_natCast, hT.2.1 p c]
    refine ⟨zi_in (by omega) (by omega) (by omega), ?_⟩
    rw [show (32 : Int32) = zi 32 from rfl, zeq_i (by omega), if_neg (fun h => h4 ((tA_4 c).mpr h))]
    generalize hCt : zp (zp C1 a 24 (zi (p : Int))) a 25 0 = Ct
    have f22 : Ct.1 a 22 = zi p := by rw [← hCt, zp_nf (by omega), zp_nf (by omega)]; exact h5
    have f8 : Ct.1 a 8 = zi n := by rw [← hCt, zp_nf (by omega), zp_nf (by omega)]; exact hT.1
    have f24 : Ct.1 a 24 = zi p := by rw [← hCt, zp_nf (by omega), zp_hit]
    have f25 : Ct.1 a 25 = zi 0 := by rw [← hCt, zp_hit]; rfl
    have ff : ∀ c k, ¬ (c = a ∧ 22 ≤ k ∧ k ≤ 25) → Ct.1 c k = C1.1 c k := fun c k hk => by rw [← hCt, zp_miss _ _ _ _ (by omega), zp_miss _ _ _ _ (by omega)]
    have fl : Ct.2 = C1.2 := by rw [← hCt]; rfl
    have fT : zMP Ct a n b := zMP_of hT (ff _ _ (by omega)) (fun k => ff _ _ (by omega))
    rw [f22, f8]
    rw [zeq_f (by omega), zi_ix (by omega) (by omega), Int.toNat_natCast, fT.2.1 p c]
    refine ⟨zi_in (by omega) (by omega) (by omega), ?_⟩
    rw [sp204 (fT.2.2.2 p c)]
    by_cases c1 : tA n b p = 1
    · rw [zb_t ((tA_1 c).mp c1)]
      refine lq203w (b := b) hS (n - p) p _ (by omega) (zMP_of fT (zp_nf (by omega)) (fun k => zp_ne (by omega))) (by rw [zp_nf (by omega)]; exact f22) (fun C2 k1 k2 k3 => ?_)
      refine K C2 ?_ (fun c k hk => by rw [k2 c k (by omega), zp_miss _ _ _ _ (by omega), ff c k hk]) (k3.trans fl)
      rw [tR_s c c1] at k1
      rw [tM_1 c1 (Or.inl rfl)]
      exact ⟨by rw [k2 _ _ (by omega), zp_hit]; rfl, by rw [k2 _ _ (by omega), zp_nf (by omega)]; exact f24, k1, by rw [k2 _ _ (by omega), zp_nf (by omega)]; exact f25⟩
    · rw [zb_f (mt (tA_1 c).mpr c1), f22, zi_ix (by omega) (by omega), Int.toNat_natCast, fT.2.1 p c]
      refine ⟨zi_in (by omega) (by omega) (by omega), ?_⟩
      rw [sp205 (fT.2.2.2 p c)]
      by_cases c2 : tA n b p = 2
      · rw [zb_t ((tA_2 c).mp c2)]
        refine lq203d (b := b) (β := p) hS (n - p) p _ (by omega) (Nat.le_refl _) (fun i hi => by omega) (zMP_of fT (zp_nf (by omega)) (fun k => zp_ne (by omega))) (by rw [zp_nf (by omega)]; exact f22) (by rw [zp_nf (by omega)]; exact f24) (by rw [zp_nf (by omega), Nat.sub_self]; exact f25) (fun C2 k0 k1 k2 k3 => ?_)
        refine K C2 ?_ (fun c k hk => by rw [k2 c k (by omega), zp_miss _ _ _ _ (by omega), ff c k hk]) (k3.trans fl)
        rw [tR_s c c2] at k0 k1
        rw [tM_1 c2 (Or.inr rfl)]
        exact ⟨by rw [k2 _ _ (by omega), zp_hit]; rfl, by rw [k2 _ _ (by omega), zp_nf (by omega)]; exact f24, k0, k1⟩
      · rw [zb_f (mt (tA_2 c).mpr c2), f22, zi_ix (by omega) (by omega), Int.toNat_natCast, fT.2.1 p c]
        refine ⟨zi_in (by omega) (by omega) (by omega), ?_⟩
        have hb := fT.2.2.2 p c
        have n0 : tA n b p ≠ 0 := fun h => by have := tA_0.mp h; omega
        have hle := tA_le (n := n) (b := b) (i := p)
        rw [show (59 : Int32) = zi 59 from rfl, zeq_i (by omega), zp_nf (by omega), zp_nf (by omega), f22, zi_s]
        by_cases c3 : b p = 59
        · have h3 := (tA_3 c).mpr c3
          rw [if_pos c3]
          refine K _ ?_ (fun c k hk => by rw [zp_miss _ _ _ _ (by omega), zp_miss _ _ _ _ (by omega), ff c k hk]) fl
          rw [tM_3 (Or.inl h3), h3]
          exact ⟨by rw [zp_nf (by omega), zp_hit]; rfl, by rw [zp_nf (by omega), zp_nf (by omega)]; exact f24, zp_hit _ _ _ _, by rw [zp_nf (by omega), zp_nf (by omega)]; exact f25⟩
        · have h3 := mt (tA_3 c).mp c3
          have h5' : tA n b p = 5 := by omega
          rw [if_neg c3]
          refine K _ ?_ (fun c k hk => by rw [zp_miss _ _ _ _ (by omega), zp_miss _ _ _ _ (by omega), ff c k hk]) fl
          rw [tM_3 (Or.inr h5'), h5']
          exact ⟨by rw [zp_nf (by omega), zp_hit]; rfl, by rw [zp_nf (by omega), zp_nf (by omega)]; exact f24, zp_hit _ _ _ _, by rw [zp_nf (by omega), zp_nf (by omega)]; exact f25⟩
  · rw [h5, hT.1, zlt_f (by omega)]
    generalize hCt : zp (zp C1 a 24 (zi (p : Int))) a 25 0 = Ct
    have f22 : Ct.1 a 22 = zi p := by rw [← hCt, zp_nf (by omega), zp_nf (by omega)]; exact h5
    have f8 : Ct.1 a 8 = zi n := by rw [← hCt, zp_nf (by omega), zp_nf (by omega)]; exact hT.1
    have f24 : Ct.1 a 24 = zi p := by rw [← hCt, zp_nf (by omega), zp_hit]
    have f25 : Ct.1 a 25 = zi 0 := by rw [← hCt, zp_hit]; rfl
    have ff : ∀ c k, ¬ (c = a ∧ 22 ≤ k ∧ k ≤ 25) → Ct.1 c k = C1.1 c k := fun c k hk => by rw [← hCt, zp_miss _ _ _ _ (by omega), zp_miss _ _ _ _ (by omega)]
    have fl : Ct.2 = C1.2 := by rw [← hCt]; rfl
    have fT : zMP Ct a n b := zMP_of hT (ff _ _ (by omega)) (fun k => ff _ _ (by omega))
    rw [f22, f8]
    rw [zeq_t (by omega)]
    refine K _ ?_ (fun c k hk => by rw [zp_miss _ _ _ _ (by omega), ff c k hk]) fl
    rw [tM_0 (tA_0.mpr (by omega))]
    exact ⟨zp_hit _ _ _ _, by rw [zp_nf (by omega)]; exact f24, by rw [zp_nf (by omega)]; exact f22, by rw [zp_nf (by omega)]; exact f25⟩
theorem lq203a (hS : zs_5 S a) {q : zx_C → Prop} : ∀ (j p : Nat) (C1 : zx_C), p + j = n → zMP C1 a n b → C1.1 a 22 = zi p → (∀ C2 : zx_C, zMF2 C2 a b (tM n b (tS n b j p)) → (∀ c k, ¬ (c = a ∧ 22 ≤ k ∧ k ≤ 25) → C2.1 c k = C1.1 c k) → C2.2 = C1.2 → q C2) → zW X 1 203 0 [.ref a] [] S C1 (zQv q) := by
  intro j
  induction j with
  | zero =>
    intro p C1 hp hT h5 K
    exact lq203t hS (by omega) hT h5 (by rw [tA_0.mpr (by omega)]; omega) K
  | succ j ih =>
    intro p C1 hp hT h5 K
    have hn := hT.2.2.1
    unfold tS at K
    by_cases c : tA n b p = 4
    · rw [if_pos c] at K
      have hb := (tA_4 (b := b) (show p < n by omega)).mp c
      refine vc203_0 hS ?_
      rw [h5, hT.1, zlt_t (by omega), zi_ix (by omega) (by omega), Int.toNat_natCast, hT.2.1 p (by omega), hb]
      refine ⟨zi_in (by omega) (by omega) (by omega), ?_⟩
      rw [if_pos (by decide), zi_s]
      exact ih (p + 1) _ (by omega) (zMP_of hT (zp_nf (by omega)) (fun k => zp_ne (by omega))) (zp_hit _ _ _ _) (fun C2 k1 k2 k3 => K C2 k1 (fun c k hk => by rw [k2 c k hk, zp_miss _ _ _ _ (by omega)]) k3)
    · rw [if_neg c] at K
      exact lq203t hS (by omega) hT h5 c K
/-- look -/
theorem sp203 (hS : zs_5 S a) (hT : zMP C a n b) {p : Nat} (hp : p ≤ n) (h5 : C.1 a 22 = zi p) : zCd X 1 203 [.ref a] S C (zQv (fun C1 => zMF2 C1 a b (tN n b p) ∧ (∀ c k, ¬ (c = a ∧ 22 ≤ k ∧ k ≤ 25) → C1.1 c k = C.1 c k) ∧ C1.2 = C.2)) :=
  vc203 hS (lq203a hS (n - p) p C (by omega) hT h5 (fun _ k1 k2 k3 => ⟨k1, k2, k3⟩))
end
