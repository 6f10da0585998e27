/-- as many sides -/
def sSides (E : zT) (n : Nat) : zT := ((n, eT E, eL E, eV E, eD E, 1), (fun _ => 0), (fun _ => 0), ew E, eu E)
/-- one thing more -/
def sThing (E : zT) (a b c : Int) : zT := ((eN E, eT E + 1, eL E, eV E, eD E, eO E), eo E, eb E, (fun k => if k = eT E then -1 else ew E k), (fun s k => if k = eT E then (if s = 0 then a else if s = 1 then b else c) else eu E s k))
/-- a pick in truth -/
def sTake (E : zT) (k : Nat) : zT := ((eN E, eT E, eL E, eV E + 1, eD E, eO E), eo E, eb E, (fun j => if j = k then mAt E (eL E) (eV E) else ew E j), eu E)
/-- a drawn seed -/
def sDraw (E : zT) : zT := ((eN E, eT E, eL E, eV E, eD E * 1103515245 + 12345, eO E), eo E, eb E, ew E, eu E)
section
variable {X : zX} {S : zx_S} {C : zx_C} {q : zx_C → Prop} {e : Nat} {E : zT}
theorem lp68 (hS : zs_0 S e) (z1 : Value) : ∀ (j i : Nat) (C0 : zx_C), i + j = 3 → (∀ k, k < i → C0.1 (e + 2) k = zi 0) → (∀ b k, b ≠ e + 2 → C0.1 b k = C.1 b k) → C0.2 = C.2 → zW X 1 68 21 [.ref e, z1, .int (zi i)] [] S C0 (zQv (fun C1 => (∀ k, k < 3 → C1.1 (e + 2) k = zi 0) ∧ (∀ b k, b ≠ e + 2 → C1.1 b k = C.1 b k) ∧ C1.2 = C.2)) := by
  intro j
  induction j with
  | zero =>
    intro i C0 hi g1 g2 g3
    refine vc68_21 (a1 := 0) hS ?_
    rw [zi_3, zlt_f (by omega)]
    exact ⟨fun k hk => g1 k (by omega), g2, g3⟩
  | succ j ih =>
    intro i C0 hi g1 g2 g3
    refine vc68_21 (a1 := 0) hS ?_
    rw [zi_3, zlt_t (by omega), sp12 (za_0_7 hS) (by omega) (by omega) (by omega), zi_s, Int.toNat_natCast]
    refine ih (i + 1) _ (by omega) (fun k hk => ?_) (fun b k hb => ?_) g3
    · by_cases hk2 : k = i
      · subst hk2
        rw [zp_hit, zi_0]
      · rw [zp_nf hk2]
        exact g1 k (by omega)
    · rw [zp_ne hb, g2 b k hb]
/-- becomeSides -/
theorem sp68 (hS : zs_0 S e) (hE : zXE C e E) (hT : eT E = 0) {n : Nat} : zCd X 1 68 [.ref e, .int (zi n)] S C (zQv (fun C1 => zXE C1 e (sSides E n) ∧ (∀ b k, (b < e ∨ e + 5 ≤ b) → C1.1 b k = C.1 b k) ∧ C1.2 = C.2)) := by
  refine vc68 hS ?_
  rw [zi_0, sp12 (za_0_6 hS) (by omega) (by omega) (by omega)]
  refine zW_mono (lp68 hS _ 3 0 _ (by omega) (fun k hk => absurd hk (Nat.not_lt_zero k)) (fun _ _ _ => rfl) rfl) (fun v C1 w => ⟨w.1, ?_⟩)
  obtain ⟨-, g1, g2, g3⟩ := w
  obtain ⟨v1, v2, v3, v4, v5, v6, v7, v8, v9, v10⟩ := hE
  refine ⟨⟨?_, ?_, ?_, ?_, ?_, ?_, fun i hi => ?_, fun s hs => g1 s hs, fun k hk => ?_, fun s k hs hk => ?_⟩, fun b k hb => ?_, g3⟩
  · rw [g2 _ _ (by omega)]; simp [zp_at, sSides]
  · rw [g2 _ _ (by omega)]; simpa [zp_at, sSides] using v2
  · rw [g2 _ _ (by omega)]; simpa [zp_at, sSides] using v3
  · rw [g2 _ _ (by omega)]; simpa [zp_at, sSides] using v4
  · rw [g2 _ _ (by omega)]; simpa [zp_at, sSides] using v5
  · rw [g2 _ _ (by omega)]; simp [zp_at, sSides, zi_1]
  · have hi0 : i = 0 := by have : i < 1 := hi; omega
    subst hi0
    rw [g2 _ _ (by omega)]; simp [zp_at, sSides]
  · rw [g2 _ _ (by omega), zp_ne (by omega), zp_ne (by omega), zp_ne (by omega)]
    exact v9 k hk
  · have hk2 : k < eT E := hk
    omega
  · rw [g2 _ _ (by omega), zp_ne (by omega), zp_ne (by omega), zp_ne (by omega)]
/-- addThing -/
theorem sp71 (hS : zs_0 S e) (hE : zXE C e E) (hW : zWF E) (hT : eT E < 8) {a b c : Int} : zCd X 1 71 [.ref e, .int (zi a), .int (zi b), .int (zi c)] S C (zQv (fun C1 => zXE C1 e (sThing E a b c) ∧ (∀ b k, (b < e ∨ e + 5 ≤ b) → C1.1 b k = C.1 b k) ∧ C1.2 = C.2)) := by
  refine vc71 hS ?_
  obtain ⟨v1, v2, v3, v4, v5, v6, v7, v8, v9, v10⟩ := hE
  have hn := hW.1
  have m4 : ∀ (D : zx_C) (i : Nat) (v : Int32), (zp D (e + 4) i v).1 e 1 = D.1 e 1 := fun D i v => zp_ne (by omega)
  rw [v2, sp12 (za_0_9 hS) (by omega) (by omega) (by omega), m4, v2, zi_8, zi_add, sp12 (za_0_9 hS) (by omega) (by omega) (by omega), m4, m4, v2, zi_16, zi_add, sp12 (za_0_9 hS) (by omega) (by omega) (by omega), m4, m4, m4, v2, sp12 (za_0_8 hS) (by omega) (by omega) (by omega), zp_ne (by omega), m4, m4, m4, v2, zi_s]
  rw [Int.toNat_natCast, show (8 + (eT E : Int)).toNat = 8 + eT E by omega, show (16 + (eT E : Int)).toNat = 16 + eT E by omega]
  refine ⟨⟨?_, ?_, ?_, ?_, ?_, ?_, fun i hi => ?_, fun s hs => ?_, fun k hk => ?_, fun s k hs hk => ?_⟩, fun b k hb => ?_, rfl⟩
  · rw [zp_nf (by omega), zp_ne (by omega), zp_ne (by omega), zp_ne (by omega), zp_ne (by omega)]; exact v1
  · rw [zp_hit]; rfl
  · rw [zp_nf (by omega), zp_ne (by omega), zp_ne (by omega), zp_ne (by omega), zp_ne (by omega)]; exact v3
  · rw [zp_nf (by omega), zp_ne (by omega), zp_ne (by omega), zp_ne (by omega), zp_ne (by omega)]; exact v4
  · rw [zp_nf (by omega), zp_ne (by omega), zp_ne (by omega), zp_ne (by omega), zp_ne (by omega)]; exact v5
  · rw [zp_nf (by omega), zp_ne (by omega), zp_ne (by omega), zp_ne (by omega), zp_ne (by omega)]; exact v6
  · rw [zp_ne (by omega), zp_ne (by omega), zp_ne (by omega), zp_ne (by omega), zp_ne (by omega)]; exact v7 i hi
  · rw [zp_ne (by omega), zp_ne (by omega), zp_ne (by omega), zp_ne (by omega), zp_ne (by omega)]; exact v8 s hs
  · have hk2 : k < eT E + 1 := hk
    rw [zp_ne (by omega)]
    by_cases hk3 : k = eT E
    · subst hk3
      rw [zp_hit, zi_m1]
      exact congrArg zi (if_pos rfl).symm
    · rw [zp_nf hk3, zp_ne (by omega), zp_ne (by omega), zp_ne (by omega), v9 k (by omega)]
      exact congrArg zi (if_neg hk3).symm
  · have hk2 : k < eT E + 1 := hk
    have hs2 : s < eN E := hs
    have hsc : s = 0 ∨ s = 1 ∨ s = 2 := by omega
    rw [zp_ne (by omega), zp_ne (by omega)]
    by_cases hk3 : k = eT E
    · subst hk3
      have hu : eu (sThing E a b c) s (eT E) = if s = 0 then a else if s = 1 then b else c := if_pos rfl
      rw [hu]
      rcases hsc with h | h | h <;> subst h
      · rw [zp_nf (by omega), zp_nf (by omega), show 0 * 8 + eT E = eT E by omega, zp_hit]; rfl
      · rw [zp_nf (by omega), show 1 * 8 + eT E = 8 + eT E by omega, zp_hit]; rfl
      · rw [show 2 * 8 + eT E = 16 + eT E by omega, zp_hit]; rfl
    · have hu : eu (sThing E a b c) s k = eu E s k := if_neg hk3
      rw [zp_nf (by omega), zp_nf (by omega), zp_nf (by omega), hu]
      exact v10 s k hs2 (by omega)
  · rw [zp_ne (by omega), zp_ne (by omega), zp_ne (by omega), zp_ne (by omega), zp_ne (by omega)]
/-- takeInTruth -/
theorem sp142 (hS : zs_0 S e) (hE : zXE C e E) (hW : zWF E) {k : Nat} (hk : k < eT E) : zCd X 2 142 [.ref e, .int (zi k)] S C (zQv (fun C1 => zXE C1 e (sTake E k) ∧ (∀ b k, (b < e ∨ e + 5 ≤ b) → C1.1 b k = C.1 b k) ∧ C1.2 = C.2)) := by
  refine vc142 hS ?_
  have hV := hW.2.2.2.1
  have hT := hW.2.1
  have hE0 := hE
  obtain ⟨v1, v2, v3, v4, v5, v6, v7, v8, v9, v10⟩ := hE
  rw [v3, v4, sp46 hS hE0 hW hW.2.2.1 (by omega), sp12 (za_0_8 hS) (by omega) (by omega) (by omega), Int.toNat_natCast, zp_ne (by omega), v4, zi_s]
  refine ⟨⟨?_, ?_, ?_, ?_, ?_, ?_, fun i hi => ?_, fun s hs => ?_, fun j hj => ?_, fun s k hs hk => ?_⟩, fun b k hb => ?_, rfl⟩
  · rw [zp_nf (by omega), zp_ne (by omega)]; exact v1
  · rw [zp_nf (by omega), zp_ne (by omega)]; exact v2
  · rw [zp_nf (by omega), zp_ne (by omega)]; exact v3
  · rw [zp_hit]; rfl
  · rw [zp_nf (by omega), zp_ne (by omega)]; exact v5
  · rw [zp_nf (by omega), zp_ne (by omega)]; exact v6
  · rw [zp_ne (by omega), zp_ne (by omega)]; exact v7 i hi
  · rw [zp_ne (by omega), zp_ne (by omega)]; exact v8 s hs
  · rw [zp_ne (by omega)]
    by_cases hj2 : j = k
    · subst hj2
      rw [zp_hit]
      exact congrArg zi (if_pos rfl).symm
    · rw [zp_nf hj2, v9 j hj]
      exact congrArg zi (if_neg hj2).symm
  · rw [zp_ne (by omega), zp_ne (by omega)]; exact v10 s k hs hk
  · rw [zp_ne (by omega), zp_ne (by omega)]
end
