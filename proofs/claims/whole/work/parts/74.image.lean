/-! TAKEFROM, IMAGE, BACK -/
section
variable {X : zX} {S : zx_S} {C : zx_C} {e a1 : Nat} {E : zT}
theorem lq201 {a1 n1 a2 n2 : Nat} (h1 : a1 < 900000 ∧ S.1 a1 = (10, n1)) (h2 : a2 < 900000 ∧ S.1 a2 = (10, n2)) (hn : a1 ≠ a2) (hb1 : n1 ≤ n2) (hb2 : n2 < 2147483648) : ∀ (j i : Nat) (C0 : zx_C), i + j = n1 → (∀ k, k < i → C0.1 a2 k = C.1 a1 k) → (∀ b k, b ≠ a2 → C0.1 b k = C.1 b k) → C0.2 = C.2 → zW X 0 201 2 [.ref a1, .ref a2, .int (zi i)] [] S C0 (zQv (fun C1 => (∀ k, k < n1 → C1.1 a2 k = C.1 a1 k) ∧ (∀ b k, b ≠ a2 → C1.1 b k = C.1 b k) ∧ C1.2 = C.2)) := by
  intro j
  induction j with
  | zero =>
    intro i C0 hi g1 g2 g3
    refine vc201_2 h1 h2 ?_
    rw [zi_nat, zlt_f (by omega)]
    exact ⟨fun k hk => g1 k (by omega), g2, g3⟩
  | succ j ih =>
    intro i C0 hi g1 g2 g3
    refine vc201_2 h1 h2 ?_
    rw [zi_nat, zlt_t (by omega)]
    refine ⟨zi_in (by omega) (by omega) (by omega), zi_in (by omega) (by omega) hb2, ?_⟩
    rw [zi_s, zi_ix (by omega) (by omega), Int.toNat_natCast]
    refine ih (i + 1) _ (by omega) (fun k hk => ?_) (fun b k hb => ?_) g3
    · by_cases hk2 : k = i
      · subst hk2
        rw [zp_hit, g2 _ _ hn]
      · rw [zp_nf hk2]
        exact g1 k (by omega)
    · rw [zp_ne hb, g2 b k hb]
/-- over -/
theorem sp201 {a1 n1 a2 n2 : Nat} (h1 : a1 < 900000 ∧ S.1 a1 = (10, n1)) (h2 : a2 < 900000 ∧ S.1 a2 = (10, n2)) (hn : a1 ≠ a2) (hb1 : n1 ≤ n2) (hb2 : n2 < 2147483648) : zCd X 0 201 [.ref a1, .ref a2] S C (zQv (fun C1 => (∀ k, k < n1 → C1.1 a2 k = C.1 a1 k) ∧ (∀ b k, b ≠ a2 → C1.1 b k = C.1 b k) ∧ C1.2 = C.2)) :=
  vc201 h1 h2 (lq201 h1 h2 hn hb1 hb2 n1 0 C (by omega) (fun k hk => absurd hk (Nat.not_lt_zero k)) (fun _ _ _ => rfl) rfl)
theorem lq200 (hS : zs_5 S e) (h1 : zs_5 S a1) (hd : e + 295 ≤ a1 ∨ a1 + 295 ≤ e) (hE : zME C a1 E) (hW : zWF E) : ∀ (j i : Nat) (C1 : zx_C), i + j = 8 → (∀ t, t < i → ∀ s, s < 3 → C1.1 (e + 19 + t) s = C.1 (a1 + 19 + t) s) → C1.1 e 10 = C.1 a1 10 → C1.1 e 11 = C.1 a1 11 → (∀ b k, ¬ (b = e ∧ 10 ≤ k ∧ k ≤ 11) → (b < e + 19 ∨ e + 27 ≤ b) → C1.1 b k = C.1 b k) → C1.2 = C.2 →
    zW X 1 200 18 [.ref e, .ref a1, .int (zi i)] [] S C1 (zQv (fun C2 => zME C2 e E ∧ (∀ b k, ¬ (b = e ∧ 10 ≤ k ∧ k ≤ 19) → (b < e + 19 ∨ e + 30 ≤ b) → C2.1 b k = C.1 b k) ∧ C2.2 = C.2)) := by
  intro j
  induction j with
  | zero =>
    intro i C1 hi g1 g2 g3 g4 g5
    refine vc200_18 hS h1 ?_
    rw [show (8 : Int32) = zi ((8 : Nat) : Int) from rfl, zlt_f (by omega)]
    refine zc_mV (sp201 (za_5_13 h1) (za_5_13 hS) (by omega) (by omega) (by omega)) (fun C4 h4 => ?_)
    refine zc_mV (sp201 (za_5_15 h1) (za_5_15 hS) (by omega) (by omega) (by omega)) (fun C5 h5 => ?_)
    refine zc_mV (sp201 (za_5_17 h1) (za_5_17 hS) (by omega) (by omega) (by omega)) (fun C6 h6 => ?_)
    have hT := hW.2.1
    have hO := hW.2.2.2.2.1
    have hN := hW.1
    obtain ⟨v1, v2, v3, v4, v5, v6, v7, v8, v9, v10⟩ := hE
    have k4 : ∀ b k, ¬ (b = e ∧ 10 ≤ k ∧ k ≤ 11) → (b < e + 19 ∨ e + 28 ≤ b) → C4.1 b k = C.1 b k := fun b k q1 q2 => by rw [h4.2.1 _ _ (by omega), g4 b k q1 (by omega)]
    have k5 : ∀ b k, ¬ (b = e ∧ 10 ≤ k ∧ k ≤ 14) → (b < e + 19 ∨ e + 29 ≤ b) → C5.1 b k = C.1 b k := fun b k q1 q2 => by rw [h5.2.1 _ _ (by omega), zp_miss _ _ _ _ (by omega), k4 b k (by omega) (by omega)]
    have k6 : ∀ b k, ¬ (b = e ∧ 10 ≤ k ∧ k ≤ 16) → (b < e + 19 ∨ e + 30 ≤ b) → C6.1 b k = C.1 b k := fun b k q1 q2 => by rw [h6.2.1 _ _ (by omega), zp_miss _ _ _ _ (by omega), k5 b k (by omega) (by omega)]
    refine ⟨⟨?_, ?_, ?_, ?_, ?_, ?_, fun i hi => ?_, fun s hs => ?_, fun k hk => ?_, fun s k hs hk => ?_⟩, fun b k q1 q2 => ?_, ?_⟩
    · rw [zp_nf (by omega), zp_nf (by omega), h6.2.1 _ _ (by omega), zp_nf (by omega), h5.2.1 _ _ (by omega), zp_nf (by omega), h4.2.1 _ _ (by omega), g2]; exact v1
    · rw [zp_nf (by omega), zp_nf (by omega), h6.2.1 _ _ (by omega), zp_nf (by omega), h5.2.1 _ _ (by omega), zp_nf (by omega), h4.2.1 _ _ (by omega), g3]; exact v2
    · rw [zp_nf (by omega), zp_nf (by omega), h6.2.1 _ _ (by omega), zp_nf (by omega), h5.2.1 _ _ (by omega), zp_hit, k4 _ _ (by omega) (by omega)]; exact v3
    · rw [zp_nf (by omega), zp_hit, k6 _ _ (by omega) (by omega)]; exact v4
    · rw [zp_hit, zp_ne (by omega), k6 _ _ (by omega) (by omega)]; exact v5
    · rw [zp_nf (by omega), zp_nf (by omega), h6.2.1 _ _ (by omega), zp_hit, k5 _ _ (by omega) (by omega)]; exact v6
    · rw [zp_ne (by omega), zp_ne (by omega), h6.2.1 _ _ (by omega), zp_ne (by omega), h5.1 i (by omega), zp_ne (by omega), k4 _ _ (by omega) (by omega)]; exact v7 i hi
    · rw [zp_ne (by omega), zp_ne (by omega), h6.1 s (by omega), zp_ne (by omega), k5 _ _ (by omega) (by omega)]; exact v8 s hs
    · rw [zp_ne (by omega), zp_ne (by omega), h6.2.1 _ _ (by omega), zp_ne (by omega), h5.2.1 _ _ (by omega), zp_ne (by omega), h4.1 k (by omega), g4 _ _ (by omega) (by omega)]; exact v9 k hk
    · rw [zp_ne (by omega), zp_ne (by omega), h6.2.1 _ _ (by omega), zp_ne (by omega), h5.2.1 _ _ (by omega), zp_ne (by omega), h4.2.1 _ _ (by omega), g1 k (by omega) s (by omega)]; exact v10 s k hs hk
    · rw [zp_miss _ _ _ _ (by omega), zp_miss _ _ _ _ (by omega), k6 b k (by omega) (by omega)]
    · show C6.2 = C.2
      rw [h6.2.2, ← g5, ← h4.2.2]
      exact h5.2.2
  | succ j ih =>
    intro i C1 hi g1 g2 g3 g4 g5
    refine vc200_18 hS h1 ?_
    rw [show (8 : Int32) = zi ((8 : Nat) : Int) from rfl, zlt_t (by omega), zi_s, zi_ix (by omega) (by omega), Int.toNat_natCast]
    refine ⟨zi_in (by omega) (by omega) (by omega), zi_in (by omega) (by omega) (by omega), ?_⟩
    refine zc_mV (sp201 (zb_5_12 h1 (show i < 8 by omega)).2 (zb_5_12 hS (show i < 8 by omega)).2 (by omega) (by omega) (by omega)) (fun C3 h3 => ?_)
    refine ih (i + 1) C3 (by omega) (fun t ht s hs => ?_) ?_ ?_ (fun b k q1 q2 => ?_) (h3.2.2.trans g5)
    · by_cases c : t = i
      · subst c
        rw [h3.1 s hs, g4 _ _ (by omega) (by omega)]
      · rw [h3.2.1 _ _ (by omega), g1 t (by omega) s hs]
    · rw [h3.2.1 _ _ (by omega), g2]
    · rw [h3.2.1 _ _ (by omega), g3]
    · rw [h3.2.1 _ _ (by omega), g4 b k q1 q2]
/-- takeFrom -/
theorem sp200 (hS : zs_5 S e) (h1 : zs_5 S a1) (hd : e + 295 ≤ a1 ∨ a1 + 295 ≤ e) (hE : zME C a1 E) (hW : zWF E) : zCd X 1 200 [.ref e, .ref a1] S C (zQv (fun C2 => zME C2 e E ∧ (∀ b k, ¬ (b = e ∧ 10 ≤ k ∧ k ≤ 19) → (b < e + 19 ∨ e + 30 ≤ b) → C2.1 b k = C.1 b k) ∧ C2.2 = C.2)) := by
  refine vc200 hS h1 ?_
  have hne : a1 ≠ e := by omega
  simp only [zp_ne hne]
  exact lq200 hS h1 hd hE hW 8 0 _ (by omega) (fun t ht => absurd ht (Nat.not_lt_zero t)) (by rw [zp_nf (by omega), zp_hit]) (by rw [zp_hit]) (fun b k q1 q2 => by rw [zp_miss _ _ _ _ (by omega), zp_miss _ _ _ _ (by omega)]) rfl
end
/-- how much the models take -/
def zSz (S : zx_S) (a : Nat) : Prop := ∃ u v : Nat, ((S.2.1 a 20 = none ∧ u = 0) ∨ ((∃ k, S.2.1 a 20 = some k ∧ k + 295 ≤ S.2.2.1) ∧ u = 1)) ∧ ((S.2.1 a 21 = none ∧ v = 0) ∨ ((∃ k, S.2.1 a 21 = some k ∧ k + 295 ≤ S.2.2.1) ∧ v = 1)) ∧ S.2.2.1 = a + 295 * (1 + u + v) ∧ S.2.2.2 ≤ 3000 * (2 + u + v)
/-- what the model's own new cells leave -/
def zSg (S S1 : zx_S) (a : Nat) : Prop := S.2.2.1 ≤ S1.2.2.1 ∧ (∀ b, b < S.2.2.1 → S1.1 b = S.1 b) ∧ ∀ b k, b < S.2.2.1 → ¬ (b = a ∧ (k = 20 ∨ k = 21)) → S1.2.1 b k = S.2.1 b k
/-- a model's call that may make an object -/
def zMI (X : zX) (a : Nat) (D : zDD) (dm mm : Nat) (am : List Value) (R : Int32) (D' : zDD) : Prop := ∀ (S : zx_S) (C : zx_C), zs_5 S a → zSz S a → zIM S C a D → zE X dm mm 0 (zx_ent (zt_mt mm).2.2.1 (.ref a :: am)) [] (S, C) (fun r H' => r = some (.int R) ∧ zs_5 H'.1 a ∧ zSz H'.1 a ∧ zSg S H'.1 a ∧ zIM H'.1 H'.2 a D' ∧ (∀ b k, b < a → H'.2.1 b k = C.1 b k) ∧ ∀ b k, b < a → H'.2.2 b k = C.2 b k)
