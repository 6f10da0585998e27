/-! LOOK of the model -/
def zMP (C : zx_C) (a n : Nat) (b : Nat → Int) : Prop := C.1 a 8 = zi n ∧ (∀ i, i < n → C.1 (a + 16) i = zi (b i)) ∧ n ≤ 250 ∧ ∀ i, i < n → 0 ≤ b i ∧ b i ≤ 255
theorem zMP_of {C C1 : zx_C} {a n : Nat} {b : Nat → Int} (h : zMP C a n b) (h1 : C1.1 a 8 = C.1 a 8) (h2 : ∀ k, C1.1 (a + 16) k = C.1 (a + 16) k) : zMP C1 a n b := ⟨h1.trans h.1, fun i hi => (h2 i).trans (h.2.1 i hi), h.2.2⟩
/-- what digits say -/
def kV (b : Nat → Int) (β : Nat) : Nat → Int
  | 0 => 0
  | l + 1 => 10 * kV b β l + b (β + l) - 48
def kF (b : Nat → Int) (β l : Nat) : Int := if l ≤ 4 then kV b β l else 100000
def tF (b : Nat → Int) (τ : zTk) : Int := if τ.1 = 2 then kF b τ.2.1 (τ.2.2 - τ.2.1) else 0
def tK (κ : Nat) : Nat := if κ = 5 then 4 else κ
/-- the token as the model has it -/
def zMF2 (C : zx_C) (a : Nat) (b : Nat → Int) (τ : zTk) : Prop := C.1 a 23 = zi (tK τ.1) ∧ C.1 a 24 = zi τ.2.1 ∧ C.1 a 22 = zi τ.2.2 ∧ C.1 a 25 = zi (tF b τ)
theorem tA_1 {n : Nat} {b : Nat → Int} {i : Nat} (h : i < n) : tA n b i = 1 ↔ (97 ≤ b i ∧ b i ≤ 122) := by
  unfold tA
  rw [if_pos h]
  refine ⟨fun q => ?_, fun q => if_pos q⟩
  split at q
  · assumption
  · split at q
    · omega
    · split at q
      · omega
      · split at q <;> omega
theorem tA_2 {n : Nat} {b : Nat → Int} {i : Nat} (h : i < n) : tA n b i = 2 ↔ (48 ≤ b i ∧ b i ≤ 57) := by
  unfold tA
  rw [if_pos h]
  refine ⟨fun q => ?_, fun q => by rw [if_neg (by omega), if_pos q]⟩
  split at q
  · omega
  · split at q
    · assumption
    · split at q
      · omega
      · split at q <;> omega
theorem tA_3 {n : Nat} {b : Nat → Int} {i : Nat} (h : i < n) : tA n b i = 3 ↔ b i = 59 := by
  unfold tA
  rw [if_pos h]
  refine ⟨fun q => ?_, fun q => by rw [if_neg (by omega), if_neg (by omega), if_pos q]⟩
  split at q
  · omega
  · split at q
    · omega
    · split at q
      · assumption
      · split at q <;> omega
theorem tA_4 {n : Nat} {b : Nat → Int} {i : Nat} (h : i < n) : tA n b i = 4 ↔ b i = 32 := by
  unfold tA
  rw [if_pos h]
  refine ⟨fun q => ?_, fun q => by rw [if_neg (by omega), if_neg (by omega), if_neg (by omega), if_pos q]⟩
  split at q
  · omega
  · split at q
    · omega
    · split at q
      · omega
      · split at q
        · assumption
        · omega
theorem kV_rg {b : Nat → Int} {n β : Nat} : ∀ l, (∀ i, i < l → 48 ≤ b (β + i) ∧ b (β + i) ≤ 57) → 0 ≤ kV b β l ∧ kV b β l < 10 ^ l
  | 0, _ => ⟨Int.le_refl _, by show (0 : Int) < 10 ^ 0; decide⟩
  | l + 1, h => by
    have ih := kV_rg (n := n) l (fun i hi => h i (by omega))
    have hl := h l (by omega)
    unfold kV
    rw [Int.pow_succ]
    omega
section
variable {X : zX} {S : zx_S} {C : zx_C} {a n : Nat} {b : Nat → Int}
theorem sp204 {v : Int} (hv : 0 ≤ v ∧ v ≤ 255) {q : Int32 → zx_C → Prop} : zCd X 0 204 [.int (zi v)] S C (zQi q) = q (zb (97 ≤ v ∧ v ≤ 122)) C := by
  refine zc_eI (fun q h => vc204 ?_) q
  rw [show (97 : Int32) = zi 97 from rfl, show (122 : Int32) = zi 122 from rfl]
  by_cases c1 : v < 97
  · rw [zlt_t (by omega)]
    unfold zb at h
    rw [if_neg (by omega)] at h
    exact h
  · rw [zlt_f (by omega)]
    by_cases c2 : 122 < v
    · rw [zlt_t (by omega)]
      unfold zb at h
      rw [if_neg (by omega)] at h
      exact h
    · rw [zlt_f (by omega)]
      unfold zb at h
      rw [if_pos (by omega)] at h
      exact h
theorem sp205 {v : Int} (hv : 0 ≤ v ∧ v ≤ 255) {q : Int32 → zx_C → Prop} : zCd X 0 205 [.int (zi v)] S C (zQi q) = q (zb (48 ≤ v ∧ v ≤ 57)) C := by
  refine zc_eI (fun q h => vc205 ?_) q
  rw [show (48 : Int32) = zi 48 from rfl, show (57 : Int32) = zi 57 from rfl]
  by_cases c1 : v < 48
  · rw [zlt_t (by omega)]
    unfold zb at h
    rw [if_neg (by omega)] at h
    exact h
  · rw [zlt_f (by omega)]
    by_cases c2 : 57 < v
    · rw [zlt_t (by omega)]
      unfold zb at h
      rw [if_neg (by omega)] at h
      exact h
    · rw [zlt_f (by omega)]
      unfold zb at h
      rw [if_pos (by omega)] at h
      exact h
theorem lq203w (hS : zs_5 S a) {q : zx_C → Prop} : ∀ (j p : Nat) (C1 : zx_C), p + j = n → zMP C1 a n b → C1.1 a 22 = zi p → (∀ C2 : zx_C, C2.1 a 22 = zi (tR n b 1 j p) → (∀ c k, ¬ (c = a ∧ k = 22) → C2.1 c k = C1.1 c k) → C2.2 = C1.2 → q C2) → zW X 1 203 90 [.ref a] [] S C1 (zQv q) := by
  intro j
  induction j with
  | zero =>
    intro p C1 hp hT h5 K
    have hn := hT.2.2.1
    refine vc203_90 hS ?_
    rw [h5, hT.1, zlt_f (by omega)]
    exact K C1 h5 (fun _ _ _ => rfl) rfl
  | succ j ih =>
    intro p C1 hp hT h5 K
    have hn := hT.2.2.1
    refine vc203_90 hS ?_
    rw [h5, hT.1, zlt_t (by omega), zi_ix (by omega) (by omega), Int.toNat_natCast, hT.2.1 p (by omega)]
    refine ⟨zi_in (by omega) (by omega) (by omega), ?_⟩
    rw [sp204 (hT.2.2.2 p (by omega))]
    unfold tR at K
    by_cases c : tA n b p = 1
    · rw [zb_t ((tA_1 (b := b) (show p < n by omega)).mp c)]
      rw [if_pos c] at K
      rw [h5, zi_s]
      exact ih (p + 1) _ (by omega) (zMP_of hT (zp_nf (by omega)) (fun k => zp_ne (by omega))) (zp_hit _ _ _ _) (fun C2 k1 k2 k3 => K C2 k1 (fun c k hk => by rw [k2 c k hk, zp_miss _ _ _ _ (by omega)]) k3)
    · rw [zb_f (mt (tA_1 (b := b) (show p < n by omega)).mpr c)]
      rw [if_neg c] at K
      exact K C1 h5 (fun _ _ _ => rfl) rfl
theorem lq203d (hS : zs_5 S a) {β : Nat} {q : zx_C → Prop} : ∀ (j p : Nat) (C1 : zx_C), p + j = n → β ≤ p → (∀ i, i < p - β → 48 ≤ b (β + i) ∧ b (β + i) ≤ 57) → zMP C1 a n b → C1.1 a 22 = zi p → C1.1 a 24 = zi β → C1.1 a 25 = zi (kF b β (p - β)) → (∀ C2 : zx_C, C2.1 a 22 = zi (tR n b 2 j p) → C2.1 a 25 = zi (kF b β (tR n b 2 j p - β)) → (∀ c k, ¬ (c = a ∧ (k = 22 ∨ k = 25)) → C2.1 c k = C1.1 c k) → C2.2 = C1.2 → q C2) → zW X 1 203 149 [.ref a] [] S C1 (zQv q) := by
  intro j
  induction j with
  | zero =>
    intro p C1 hp hb hd hT h5 h4 h6 K
    have hn := hT.2.2.1
    refine vc203_149 hS ?_
    rw [h5, hT.1, zlt_f (by omega)]
    exact K C1 h5 h6 (fun _ _ _ => rfl) rfl
  | succ j ih =>
    intro p C1 hp hb hd hT h5 h4 h6 K
    have hn := hT.2.2.1
    have hbp := hT.2.2.2 p (by omega)
    refine vc203_149 hS ?_
    rw [h5, hT.1, zlt_t (by omega), zi_ix (by omega) (by omega), Int.toNat_natCast, hT.2.1 p (by omega)]
    refine ⟨zi_in (by omega) (by omega) (by omega), ?_⟩
    rw [sp205 hbp]
    unfold tR at K
    by_cases c : tA n b p = 2
    · have cd := (tA_2 (b := b) (show p < n by omega)).mp c
      rw [zb_t cd]
      rw [if_pos c] at K
      have hd2 : ∀ i, i < p + 1 - β → 48 ≤ b (β + i) ∧ b (β + i) ≤ 57 := by
        intro i hi
        by_cases ci : i < p - β
        · exact hd i ci
        · rw [show β + i = p by omega]; exact cd
      rw [h5, h4, zi_sub, show (4 : Int32) = zi 4 from rfl]
      by_cases c4 : (p : Int) - (β : Int) < 4
      · rw [zlt_t (by omega)]
        refine ⟨zi_in (by omega) (by omega) (by omega), ?_⟩
        rw [zi_ix (by omega) (by omega), Int.toNat_natCast, hT.2.1 p (by omega), h6, zp_nf (by omega), h5, zi_s, show (10 : Int32) = zi 10 from rfl, show (48 : Int32) = zi 48 from rfl, zi_mul, zi_add, zi_sub]
        refine ih (p + 1) _ (by omega) (by omega) hd2 (zMP_of hT (by rw [zp_nf (by omega), zp_nf (by omega)]) (fun k => by rw [zp_ne (by omega), zp_ne (by omega)])) (zp_hit _ _ _ _) (by rw [zp_nf (by omega), zp_nf (by omega)]; exact h4) ?_ (fun C2 k0 k1 k2 k3 => K C2 k0 k1 (fun c k hk => by rw [k2 c k hk, zp_miss _ _ _ _ (by omega), zp_miss _ _ _ _ (by omega)]) k3)
        rw [zp_nf (by omega), zp_hit]
        congr 1
        unfold kF
        rw [if_pos (by omega), if_pos (by omega), show p + 1 - β = (p - β) + 1 by omega]
        show _ = 10 * kV b β (p - β) + b (β + (p - β)) - 48
        rw [show β + (p - β) = p by omega]
        omega
      · rw [zlt_f (by omega), zp_nf (by omega), h5, zi_s]
        refine ih (p + 1) _ (by omega) (by omega) hd2 (zMP_of hT (by rw [zp_nf (by omega), zp_nf (by omega)]) (fun k => by rw [zp_ne (by omega), zp_ne (by omega)])) (zp_hit _ _ _ _) (by rw [zp_nf (by omega), zp_nf (by omega)]; exact h4) ?_ (fun C2 k0 k1 k2 k3 => K C2 k0 k1 (fun c k hk => by rw [k2 c k hk, zp_miss _ _ _ _ (by omega), zp_miss _ _ _ _ (by omega)]) k3)
        rw [zp_nf (by omega), zp_hit]
        unfold kF
        rw [if_neg (by omega)]
        rfl
    · have cd := mt (tA_2 (b := b) (show p < n by omega)).mpr c
      rw [zb_f cd]
      rw [if_neg c] at K
      exact K C1 h5 h6 (fun _ _ _ => rfl) rfl
end
