theorem zp_ne {C : zx_C} {a i b j : Nat} {v : Int32} (h : b ≠ a) : (zp C a i v).1 b j = C.1 b j := zp_miss C a i v (fun q => absurd q h)
theorem zp_nf {C : zx_C} {a i b j : Nat} {v : Int32} (h : j ≠ i) : (zp C a i v).1 b j = C.1 b j := zp_miss C a i v (fun _ => h)
section
variable {X : zX} {S : zx_S} {C : zx_C} {q : zx_C → Prop} {e : Nat} {E : zT}
theorem lp39 {a1 n1 a2 n2 : Nat} (h1 : a1 < 900000 ∧ S.1 a1 = (10, n1)) (h2 : a2 < 900000 ∧ S.1 a2 = (10, n2)) (hn : a1 ≠ a2) (hb1 : n1 < 2147483648) (hb2 : n2 < 2147483648) : ∀ (j i : Nat) (C0 : zx_C), i + j = n1 → i ≤ n2 → (∀ k, k < i → C0.1 a2 k = C.1 a1 k) → (∀ b k, b ≠ a2 → C0.1 b k = C.1 b k) → C0.2 = C.2 → zW X 0 39 10 [.ref a1, .ref a2, .int (zi i)] [] S C0 (zQv (fun C1 => (∀ k, k < n1 → k < n2 → C1.1 a2 k = C.1 a1 k) ∧ (∀ b k, b ≠ a2 → C1.1 b k = C.1 b k) ∧ C1.2 = C.2)) := by
  intro j
  induction j with
  | zero =>
    intro i C0 hi hi2 g1 g2 g3
    refine vc39_10 h1 h2 ?_
    rw [zi_nat, zi_nat, zlt_f (by omega)]
    exact ⟨fun k hk _ => g1 k (by omega), g2, g3⟩
  | succ j ih =>
    intro i C0 hi hi2 g1 g2 g3
    refine vc39_10 h1 h2 ?_
    rw [zi_nat, zi_nat, zlt_t (by omega)]
    by_cases hc : i < n2
    · rw [zlt_t (by omega)]
      refine ⟨zi_in (by omega) (by omega) hb1, zi_in (by omega) (by omega) hb2, ?_⟩
      rw [zi_s, zi_ix (by omega) (by omega), Int.toNat_natCast]
      refine ih (i + 1) _ (by omega) (by omega) (fun k hk => ?_) (fun b k hb => ?_) g3
      · by_cases hk2 : k = i
        · subst hk2
          rw [zp_hit, g2 _ _ hn]
        · rw [zp_nf hk2]
          exact g1 k (by omega)
      · rw [zp_ne hb, g2 b k hb]
    · rw [zlt_f (by omega)]
      exact ⟨fun k _ hk => g1 k (by omega), g2, g3⟩
/-- copyAll -/
theorem sp39 {a1 n1 a2 n2 : Nat} (h1 : a1 < 900000 ∧ S.1 a1 = (10, n1)) (h2 : a2 < 900000 ∧ S.1 a2 = (10, n2)) (hn : a1 ≠ a2) (hb1 : n1 < 2147483648) (hb2 : n2 < 2147483648) : zCd X 0 39 [.ref a1, .ref a2] S C (zQv (fun C1 => (∀ k, k < n1 → k < n2 → C1.1 a2 k = C.1 a1 k) ∧ (∀ b k, b ≠ a2 → C1.1 b k = C.1 b k) ∧ C1.2 = C.2)) :=
  vc39 h1 h2 (lp39 h1 h2 hn hb1 hb2 n1 0 C (by omega) (by omega) (fun k hk => absurd hk (Nat.not_lt_zero k)) (fun _ _ _ => rfl) rfl)
/-- become -/
theorem sp84 {a : Nat} (hS : zs_0 S e) (hA : zs_0 S a) (hd : e + 5 ≤ a ∨ a + 5 ≤ e) (hE : zXE C a E) (hW : zWF E) : zCd X 1 84 [.ref e, .ref a] S C (zQv (fun C1 => zXE C1 e E ∧ (∀ b k, (b < e ∨ e + 5 ≤ b) → C1.1 b k = C.1 b k) ∧ C1.2 = C.2)) := by
  refine vc84 hS hA ?_
  have hne : a ≠ e := by omega
  simp only [zp_ne hne]
  obtain ⟨w1, w2, -, -, ⟨-, w3⟩, -⟩ := hW
  obtain ⟨v1, v2, v3, v4, v5, v6, v7, v8, v9, v10⟩ := hE
  refine zc_mV (sp39 (za_0_6 hA) (za_0_6 hS) (by omega) (by omega) (by omega)) (fun C1 h1 => ?_)
  refine zc_mV (sp39 (za_0_7 hA) (za_0_7 hS) (by omega) (by omega) (by omega)) (fun C2 h2 => ?_)
  refine zc_mV (sp39 (za_0_8 hA) (za_0_8 hS) (by omega) (by omega) (by omega)) (fun C3 h3 => ?_)
  refine zc_mV (sp39 (za_0_9 hA) (za_0_9 hS) (by omega) (by omega) (by omega)) (fun C4 h4 => ?_)
  have hk : ∀ b k, b < e ∨ e + 5 ≤ b → C4.1 b k = C.1 b k := by
    intro b k hb
    rw [h4.2.1 _ _ (by omega), h3.2.1 _ _ (by omega), h2.2.1 _ _ (by omega), h1.2.1 _ _ (by omega)]
    simp only [zp_ne (show b ≠ e by omega)]
  have hf : ∀ k, C4.1 e k = (zp (zp (zp (zp (zp (zp C e 0 (C.1 a 0)) e 1 (C.1 a 1)) e 2 (C.1 a 2)) e 3 (C.1 a 3)) e 4 (C.1 a 4)) e 5 (C.1 a 5)).1 e k := by
    intro k
    rw [h4.2.1 _ _ (by omega), h3.2.1 _ _ (by omega), h2.2.1 _ _ (by omega), h1.2.1 _ _ (by omega)]
  refine ⟨⟨?_, ?_, ?_, ?_, ?_, ?_, fun i hi => ?_, fun s hs => ?_, fun k hk => ?_, fun s k hs hk => ?_⟩, hk, ?_⟩
  · rw [hf, ← v1]; simp [zp_at]
  · rw [hf, ← v2]; simp [zp_at]
  · rw [hf, ← v3]; simp [zp_at]
  · rw [hf, ← v4]; simp [zp_at]
  · rw [hf, ← v5]; simp [zp_at]
  · rw [hf, ← v6]; simp [zp_at]
  · rw [h4.2.1 _ _ (by omega), h3.2.1 _ _ (by omega), h2.2.1 _ _ (by omega), h1.1 i (by omega) (by omega)]
    simp only [zp_ne (show a + 1 ≠ e by omega)]
    exact v7 i hi
  · rw [h4.2.1 _ _ (by omega), h3.2.1 _ _ (by omega), h2.1 s hs hs, h1.2.1 _ _ (by omega)]
    simp only [zp_ne (show a + 2 ≠ e by omega)]
    exact v8 s hs
  · rw [h4.2.1 _ _ (by omega), h3.1 k (by omega) (by omega), h2.2.1 _ _ (by omega), h1.2.1 _ _ (by omega)]
    simp only [zp_ne (show a + 3 ≠ e by omega)]
    exact v9 k hk
  · rw [h4.1 (s * 8 + k) (by omega) (by omega), h3.2.1 _ _ (by omega), h2.2.1 _ _ (by omega), h1.2.1 _ _ (by omega)]
    simp only [zp_ne (show a + 4 ≠ e by omega)]
    exact v10 s k hs hk
  · rw [h4.2.2, h3.2.2, h2.2.2, h1.2.2]
    rfl
end
