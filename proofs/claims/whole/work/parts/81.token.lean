/-! TOKENS: what stands on the tape -/
def tA (n : Nat) (b : Nat → Int) (i : Nat) : Nat := if i < n then (if 97 ≤ b i ∧ b i ≤ 122 then 1 else if 48 ≤ b i ∧ b i ≤ 57 then 2 else if b i = 59 then 3 else if b i = 32 then 4 else 5) else 0
def tS (n : Nat) (b : Nat → Int) : Nat → Nat → Nat
  | 0, p => p
  | j + 1, p => if tA n b p = 4 then tS n b j (p + 1) else p
def tR (n : Nat) (b : Nat → Int) (k : Nat) : Nat → Nat → Nat
  | 0, p => p
  | j + 1, p => if tA n b p = k then tR n b k j (p + 1) else p
abbrev zTk := Nat × Nat × Nat
def tN (n : Nat) (b : Nat → Int) (p : Nat) : zTk := (tA n b (tS n b (n - p) p), tS n b (n - p) p, if tA n b (tS n b (n - p) p) = 0 then tS n b (n - p) p else if tA n b (tS n b (n - p) p) = 1 ∨ tA n b (tS n b (n - p) p) = 2 then tR n b (tA n b (tS n b (n - p) p)) (n - (tS n b (n - p) p + 1)) (tS n b (n - p) p + 1) else tS n b (n - p) p + 1)
theorem tA_le {n : Nat} {b : Nat → Int} {i : Nat} : tA n b i ≤ 5 := by
  unfold tA
  split
  · split
    · omega
    · split
      · omega
      · split
        · omega
        · split <;> omega
  · omega
theorem tA_0 {n : Nat} {b : Nat → Int} {i : Nat} : tA n b i = 0 ↔ n ≤ i := by
  unfold tA
  by_cases c : i < n
  · rw [if_pos c]
    refine ⟨fun h => ?_, fun h => by omega⟩
    split at h
    · omega
    · split at h
      · omega
      · split at h
        · omega
        · split at h <;> omega
  · rw [if_neg c]
    exact ⟨fun _ => by omega, fun _ => rfl⟩
theorem tS_le {n : Nat} {b : Nat → Int} : ∀ j p, p + j = n → p ≤ tS n b j p ∧ tS n b j p ≤ n ∧ tA n b (tS n b j p) ≠ 4
  | 0, p, h => ⟨Nat.le_refl _, by show p ≤ n; omega, by
      show tA n b p ≠ 4
      rw [tA_0.mpr (by omega)]; omega⟩
  | j + 1, p, h => by
    unfold tS
    by_cases c : tA n b p = 4
    · rw [if_pos c]
      have := tS_le (n := n) (b := b) j (p + 1) (by omega)
      exact ⟨by omega, this.2⟩
    · rw [if_neg c]
      exact ⟨Nat.le_refl _, by omega, c⟩
theorem tR_le {n : Nat} {b : Nat → Int} {k : Nat} : ∀ j p, p + j = n → p ≤ tR n b k j p ∧ tR n b k j p ≤ n
  | 0, p, h => ⟨Nat.le_refl _, by show p ≤ n; omega⟩
  | j + 1, p, h => by
    unfold tR
    by_cases c : tA n b p = k
    · rw [if_pos c]
      have := tR_le (n := n) (b := b) (k := k) j (p + 1) (by omega)
      exact ⟨by omega, this.2⟩
    · rw [if_neg c]
      exact ⟨Nat.le_refl _, by omega⟩
theorem tN_le {n : Nat} {b : Nat → Int} {p : Nat} (h : p ≤ n) : p ≤ (tN n b p).2.1 ∧ (tN n b p).2.1 ≤ (tN n b p).2.2 ∧ (tN n b p).2.2 ≤ n ∧ (tN n b p).1 ≠ 4 ∧ (tN n b p).1 ≤ 5 ∧ ((tN n b p).1 ≠ 0 → (tN n b p).2.1 < (tN n b p).2.2) := by
  obtain ⟨h1, h2, h3⟩ := tS_le (n := n) (b := b) (n - p) p (by omega)
  unfold tN
  dsimp only
  generalize tS n b (n - p) p = β at h1 h2 h3 ⊢
  have h5 := tA_le (n := n) (b := b) (i := β)
  by_cases c : tA n b β = 0
  · rw [if_pos c]
    exact ⟨h1, Nat.le_refl _, h2, h3, h5, fun q => absurd c q⟩
  · rw [if_neg c]
    have hb : β < n := by
      have := mt (tA_0 (n := n) (b := b) (i := β)).mpr c
      omega
    by_cases c2 : tA n b β = 1 ∨ tA n b β = 2
    · rw [if_pos c2]
      have := tR_le (n := n) (b := b) (k := tA n b β) (n - (β + 1)) (β + 1) (by omega)
      exact ⟨h1, by omega, this.2, h3, h5, fun _ => by omega⟩
    · rw [if_neg c2]
      exact ⟨h1, by omega, by omega, h3, h5, fun _ => by omega⟩
/-- the class's tape -/
def zTP (C : zx_C) (t n : Nat) (b : Nat → Int) : Prop := C.1 t 1 = zi n ∧ (∀ i, i < n → C.1 (t + 1) i = zi (b i)) ∧ n ≤ 250 ∧ ∀ i, i < n → 0 ≤ b i ∧ b i ≤ 255
def zTF (C : zx_C) (t : Nat) (τ : zTk) : Prop := C.1 t 3 = zi τ.1 ∧ C.1 t 4 = zi τ.2.1 ∧ C.1 t 5 = zi τ.2.2
theorem zTP_of {C C1 : zx_C} {t n : Nat} {b : Nat → Int} (h : zTP C t n b) (h1 : C1.1 t 1 = C.1 t 1) (h2 : ∀ k, C1.1 (t + 1) k = C.1 (t + 1) k) : zTP C1 t n b := ⟨h1.trans h.1, fun i hi => (h2 i).trans (h.2.1 i hi), h.2.2⟩
section
variable {X : zX} {S : zx_S} {C : zx_C} {t n : Nat} {b : Nat → Int}
theorem sp87 (hS : zs_3 S t) (hT : zTP C t n b) {i : Nat} (hi : i ≤ 250) {q : Int32 → zx_C → Prop} : zCd X 1 87 [.ref t, .int (zi i)] S C (zQi q) = q (zi (tA n b i)) C := by
  refine zc_eI (fun q h => vc87 hS ?_) q
  obtain ⟨g1, g2, g3, g4⟩ := hT
  unfold tA at h
  rw [g1]
  by_cases c : i < n
  · rw [zlt_t (by omega), sp11 (za_3_0 hS) (by omega) (by omega) (by omega), Int.toNat_natCast, g2 i c]
    rw [if_pos c] at h
    have hb := g4 i c
    generalize b i = v at h hb
    rw [show (97 : Int32) = zi 97 from rfl, show (122 : Int32) = zi 122 from rfl, show (48 : Int32) = zi 48 from rfl, show (57 : Int32) = zi 57 from rfl, show (59 : Int32) = zi 59 from rfl, show (32 : Int32) = zi 32 from rfl]
    by_cases c1 : 97 ≤ v ∧ v ≤ 122
    · rw [if_pos c1] at h
      rw [zlt_f (by omega), zlt_f (by omega)]; exact h
    · rw [if_neg c1] at h
      by_cases c2 : 48 ≤ v ∧ v ≤ 57
      · rw [if_pos c2] at h
        rw [zlt_t (by omega), zlt_f (by omega), zlt_f (by omega)]; exact h
      · rw [if_neg c2] at h
        have tail : (if zi v = zi 59 then q 3 C else (if zi v = zi 32 then q 4 C else q 5 C)) := by
          rw [zeq_i (by omega)]
          by_cases c3 : v = 59
          · rw [if_pos c3] at h ⊢; exact h
          · rw [if_neg c3] at h ⊢
            rw [zeq_i (by omega)]
            by_cases c4 : v = 32
            · rw [if_pos c4] at h ⊢; exact h
            · rw [if_neg c4] at h ⊢; exact h
        by_cases d1 : v < 97
        · rw [zlt_t (by omega)]
          by_cases d2 : v < 48
          · rw [zlt_t (by omega)]; exact tail
          · rw [zlt_f (by omega), zlt_t (by omega)]; exact tail
        · rw [zlt_f (by omega), zlt_t (by omega), zlt_f (by omega), zlt_t (by omega)]; exact tail
  · rw [zlt_f (by omega)]
    rw [if_neg c] at h
    exact h
/-- the run of a word or a number -/
theorem lq86b (hS : zs_3 S t) {κ : Nat} (hκ : κ = 1 ∨ κ = 2) {q : zx_C → Prop} : ∀ (j p : Nat) (C1 : zx_C), p + j = n → zTP C1 t n b → C1.1 t 3 = zi κ → C1.1 t 5 = zi p → (∀ C2 : zx_C, C2.1 t 5 = zi (tR n b κ j p) → (∀ c k, ¬ (c = t ∧ k = 5) → C2.1 c k = C1.1 c k) → C2.2 = C1.2 → q C2) → zW X 2 86 95 [.ref t, .int 1] [] S C1 (zQv q) := by
  intro j
  induction j with
  | zero =>
    intro p C1 hp hT h3 h5 K
    have hn := hT.2.2.1
    refine vc86_95 hS ?_
    rw [if_neg (by decide), h5, hT.1, zlt_f (by omega)]
    exact K C1 h5 (fun _ _ _ => rfl) rfl
  | succ j ih =>
    intro p C1 hp hT h3 h5 K
    have hn := hT.2.2.1
    have ha := tA_le (n := n) (b := b) (i := p)
    refine vc86_95 hS ?_
    rw [if_neg (by decide), h5, hT.1, zlt_t (by omega), sp87 hS hT (by omega), h3, zeq_i (by omega)]
    unfold tR at K
    by_cases c : tA n b p = κ
    · rw [if_pos (by omega)]
      rw [if_pos c] at K
      rw [h5, zi_s]
      refine ih (p + 1) _ (by omega) (zTP_of hT (zp_nf (by omega)) (fun k => zp_ne (by omega))) (by rw [zp_nf (by omega)]; exact h3) (zp_hit _ _ _ _) (fun C2 k1 k2 k3 => K C2 k1 (fun c k hk => by rw [k2 c k hk, zp_miss _ _ _ _ (by omega)]) k3)
    · rw [if_neg (by omega)]
      rw [if_neg c] at K
      exact K C1 h5 (fun _ _ _ => rfl) rfl
end
