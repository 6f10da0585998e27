/-! READESTATE of the class -/
def zRs (C C1 : zx_C) (t e : Nat) (o : Nat ⊕ (zT × Nat)) (r : Int32) : Prop := (match o with
  | .inl β => C1.1 t 2 = zi (β : Int)
  | .inr q => r = zi (q.2 : Int) ∧ C1.1 t 2 = zi (-1) ∧ zXE C1 e q.1) ∧ (∀ c k, ¬ (c = t ∧ 2 ≤ k ∧ k ≤ 5) → (c < e ∨ e + 5 ≤ c) → C1.1 c k = C.1 c k) ∧ C1.2 = C.2
section
variable {X : zX} {S : zx_S} {C : zx_C} {t e n : Nat} {b : Nat → Int} {E : zT}
theorem lq85x (hS : zs_3 S t) (h0 : zs_0 S e) {C1 : zx_C} {z m y : Int32} {q : Int32 → zx_C → Prop} {β : Nat} (hb : β ≤ 250) (h2 : C1.1 t 2 = zi (β : Int)) (h : q z C1) : zW X 6 85 17 [.ref t, .ref e, .int z, .int m, .int y] [] S C1 (zQi q) := by
  have hne : ¬ C1.1 t 2 = -1 := by
    rw [h2, zi_m1]
    intro w
    have := (zi_eq (a := (β : Int)) (b := -1) (by omega) (by omega) (by omega) (by omega)).mp w
    omega
  refine vc85_17 hS h0 ?_
  by_cases c1 : C1.1 t 1 < y
  · rw [if_pos c1, if_neg hne]; exact h
  · rw [if_neg c1]
    by_cases c2 : m = 0
    · rw [if_pos c2, if_neg hne]; exact h
    · rw [if_neg c2, if_neg hne, if_neg hne]; exact h
theorem lq85e (hS : zs_3 S t) (h0 : zs_0 S e) {C1 : zx_C} {z y : Int32} {q : Int32 → zx_C → Prop} (h2 : C1.1 t 2 = zi (-1)) (h3 : ¬ C1.1 t 3 = 0) (h : q z (zp C1 t 2 (C1.1 t 4))) : zW X 6 85 17 [.ref t, .ref e, .int z, .int 0, .int y] [] S C1 (zQi q) := by
  have he : C1.1 t 2 = -1 := h2
  refine vc85_17 hS h0 ?_
  by_cases c1 : C1.1 t 1 < y
  · rw [if_pos c1, if_pos he, if_neg h3]; exact h
  · rw [if_neg c1, if_pos rfl, if_pos he, if_neg h3]; exact h
theorem lq85k (hS : zs_3 S t) (h0 : zs_0 S e) {C1 : zx_C} {z y : Int32} {q : Int32 → zx_C → Prop} (h2 : C1.1 t 2 = zi (-1)) (h3 : C1.1 t 3 = 0) (h : q z C1) : zW X 6 85 17 [.ref t, .ref e, .int z, .int 0, .int y] [] S C1 (zQi q) := by
  have he : C1.1 t 2 = -1 := h2
  refine vc85_17 hS h0 ?_
  by_cases c1 : C1.1 t 1 < y
  · rw [if_pos c1, if_pos he, if_pos h3]; exact h
  · rw [if_neg c1, if_pos rfl, if_pos he, if_pos h3]; exact h
theorem zk_n {k v : Nat} (hk : k ≤ 5) (hv : v ≤ 5) (h : ¬ k = v) {x : Int32} (hx : x = zi (k : Int)) : ¬ x = zi (v : Int) := by
  rw [hx]
  intro w
  have := (zi_eq (a := (k : Int)) (b := (v : Int)) (by omega) (by omega) (by omega) (by omega)).mp w
  omega
theorem lq85 (hS : zs_3 S t) (h0 : zs_0 S e) (ht : e + 5 ≤ t) : ∀ (j p i s : Nat) (C1 : zx_C) (E : zT), n + 1 ≤ p + j → p ≤ n → i ≤ p → zTP C1 t n b → C1.1 t 5 = zi p → C1.1 t 2 = zi (-1) → zXE C1 e E → zWF E → (∀ c k, ¬ (c = t ∧ 2 ≤ k ∧ k ≤ 5) → (c < e ∨ e + 5 ≤ c) → C1.1 c k = C.1 c k) → C1.2 = C.2 → zW X 6 85 17 [.ref t, .ref e, .int (zi s), .int 1, .int (zi i)] [] S C1 (zQi (fun r C2 => zRs C C2 t e (oRd n b j E p s) r)) := by
  intro j
  induction j with
  | zero =>
    intro p i s C1 E hj hp hi hT h5 h2 hE hW fr fl
    omega
  | succ j ih =>
    intro p i s C1 E hj hp hi hT h5 h2 hE hW fr fl
    have hn := hT.2.2.1
    have hv := tN_v (b := b) hp
    obtain ⟨p1, p2, p3⟩ := tN_p (b := b) hp
    refine vc85_17 hS h0 ?_
    rw [hT.1, zlt_f (by omega), if_neg (by decide), if_pos (show C1.1 t 2 = -1 from h2)]
    refine zc_mV (sp86 (b := b) (n := n) hS hT hp h5) (fun C2 g => ?_)
    have hT2 : zTP C2 t n b := zTP_of hT (g.2.1 _ _ (by omega)) (fun k => g.2.1 _ _ (by omega))
    refine zc_mV (sp88 (E := E) hS h0 ht hT2 g.1 hv (by rw [g.2.1 _ _ (by omega)]; exact h2) (zXE_of hE (fun c k _ _ => g.2.1 c k (by omega))) hW) (fun C3 w => ?_)
    obtain ⟨w1, w2, w3⟩ := w
    have fr3 : ∀ c k, ¬ (c = t ∧ 2 ≤ k ∧ k ≤ 5) → (c < e ∨ e + 5 ≤ c) → C3.1 c k = C.1 c k := fun c k q1 q2 => by rw [w2 c k q1 q2, g.2.1 c k (by omega), fr c k q1 q2]
    have fl3 : C3.2 = C.2 := w3.trans (g.2.2.trans fl)
    have hT3 : zTP C3 t n b := zTP_of hT2 (w2 _ _ (by omega) (by omega)) (fun k => w2 _ _ (by omega) (by omega))
    have ok := oSt_ok (b := b) hW hv
    rw [zi_s, zi_s]
    cases ho : oSt n b E (tN n b p) with
    | inl β =>
      rw [ho] at w1 ok
      rw [oRd_l ho]
      have hb : β ≤ n := ok
      rcases w1 with q | ⟨q1, q2, q3⟩
      · by_cases c : C3.1 t 3 = 3
        · rw [if_pos c]
          exact lq85x (β := β) hS h0 (by omega) q ⟨q, fr3, fl3⟩
        · rw [if_neg c]
          exact lq85x (β := β) hS h0 (by omega) q ⟨q, fr3, fl3⟩
      · rw [if_neg (show ¬ C3.1 t 3 = 3 by rw [q2]; decide)]
        exact lq85e hS h0 q1 (by rw [q2]; decide) ⟨by rw [zp_hit]; exact q3, fun c k k1 k2 => by rw [zp_miss _ _ _ _ (by omega)]; exact fr3 c k k1 k2, fl3⟩
    | inr u =>
      rw [ho] at w1 ok
      rw [oRd_r ho]
      obtain ⟨q1, q2, q3⟩ := w1
      obtain ⟨k1, k2, k3⟩ := ok
      have hk5 := k2.1
      by_cases c : u.2.1 = 3
      · have hlt := k2.2.2.2.2.1 (by omega)
        rw [if_pos c, if_pos (show C3.1 t 3 = 3 by rw [q2.1, c]; rfl)]
        exact ih u.2.2.2 (i + 1) (s + 1) C3 u.1 (by omega) k2.2.2.2.1 (by omega) hT3 q2.2.2 q1 q3 k1 fr3 fl3
      · rw [if_neg c, if_neg (show ¬ C3.1 t 3 = 3 from zk_n (v := 3) hk5 (by omega) c q2.1)]
        by_cases d : u.2.1 = 0
        · rw [if_pos d]
          exact lq85k hS h0 q1 (by rw [q2.1, d]; rfl) ⟨⟨rfl, q1, q3⟩, fr3, fl3⟩
        · rw [if_neg d]
          exact lq85e hS h0 q1 (zk_n (v := 0) hk5 (by omega) d q2.1) ⟨by rw [zp_hit]; exact q2.2.1, fun c k k1 k2 => by rw [zp_miss _ _ _ _ (by omega)]; exact fr3 c k k1 k2, fl3⟩
/-- readEstate -/
theorem sp85 (hS : zs_3 S t) (h0 : zs_0 S e) (ht : e + 5 ≤ t) (hT : zTP C t n b) (hE : zXE C e E) (hW : zWF E) : zCd X 6 85 [.ref t, .ref e] S C (zQi (fun r C1 => zRs C C1 t e (oRd n b (n + 1) E 0 0) r)) := by
  refine vc85 hS h0 ?_
  have fs : ∀ c k, ¬ (c = t ∧ (k = 2 ∨ k = 5)) → (zp (zp C t 2 (-1)) t 5 0).1 c k = C.1 c k := fun c k q1 => by rw [zp_miss _ _ _ _ (by omega), zp_miss _ _ _ _ (by omega)]
  exact lq85 (C := C) hS h0 ht (n + 1) 0 0 0 _ E (by omega) (Nat.zero_le _) (Nat.le_refl _) (zTP_of hT (fs _ _ (by omega)) (fun k => fs _ _ (by omega))) (zp_hit _ _ _ _) (by rw [zp_nf (by omega), zp_hit]; rfl) (zXE_of hE (fun c k _ _ => fs c k (by omega))) hW (fun c k q1 q2 => fs c k (by omega)) rfl
end
/-! ESTATE of the class -/
def eDn (D : zDD) (E : zT) : zDD := (E, gK D, gH D, (0, gb D), gr D)
section
variable {X : zX} {S : zx_S} {C : zx_C} {e : Nat} {D : zDD}
theorem zTP_0 {t n m : Nat} {b : Nat → Int} (h1 : C.1 t 1 = zi (n : Int)) (h2 : ∀ i, i < n → C.1 m i = zi (b i)) (hm : m = t + 1) (hn : n ≤ 250) (hb : ∀ i, i < n → 0 ≤ b i ∧ b i ≤ 255) : zTP C t n b := by
  subst hm
  exact ⟨h1, h2, hn, hb⟩
theorem zIX_e {C1 : zx_C} {E : zT} (h : zIX C e D) (hE : zXE C1 (e + 1) E) (ht : C1.1 (e + 16) 1 = zi 0) (h1 : ∀ b k, ¬ (b = e + 16 ∧ 1 ≤ k ∧ k ≤ 5) → (b < e + 1 ∨ e + 6 ≤ b) → (b < e + 11 ∨ e + 16 ≤ b) → C1.1 b k = C.1 b k) (h2 : C1.2 = C.2) : zIX C1 e (eDn D E) := by
  obtain ⟨g1, g2, g3, g4, g5, g6, g7⟩ := h
  refine ⟨hE, zXk_of g2 (h1 _ _ (by omega) (by omega) (by omega)) (fun b k _ _ => h1 b k (by omega) (by omega) (by omega)), zXS_of g3 (fun b k _ _ => h1 b k (by omega) (by omega) (by omega)) (fun b k _ _ => by rw [h2]), ht, fun i hi => absurd hi (Nat.not_lt_zero i), fun j hj => ?_, zZz_of g7 (fun b k hb _ => h1 b k (by omega) (by omega) (by omega))⟩
  rw [h1 _ _ (by omega) (by omega) (by omega)]; exact g6 j hj
theorem x83i (hX : zs_4 S e) (hW : zWI D) (hI : zIX C e D) {β : Nat} (ho : oRd (gn D) (gb D) (gn D + 1) (gE D) 0 0 = .inl β) : zCd X 7 83 [.ref e] S C (zQi (fun r C1 => r = zi (-20 - (β : Int)) ∧ zIX C1 e (zRf (eDn D (gE D)) (-2)) ∧ zOut C C1 e (e + 42))) := by
  have hI0 := hI
  obtain ⟨g1, g2, g3, g4, g5, g6, g7⟩ := hI0
  refine vc83 hX ?_
  refine zc_mV (sp84 (zo_4_2 hX) (zo_4_0 hX) (Or.inr (by omega)) g1 hW.1) (fun C1 h => ?_)
  have hT : zTP C1 (e + 16) (gn D) (gb D) := zTP_0 (m := e + 17) (by rw [h.2.1 _ _ (by omega)]; exact g4) (fun i hi => by rw [h.2.1 _ _ (by omega)]; exact g5 i hi) rfl hW.2.2.2.2.1 hW.2.2.2.2.2
  refine zc_mI (sp85 (zo_4_3 hX) (zo_4_2 hX) (by omega) hT h.1 hW.1) (fun r C2 w => ?_)
  have ok := oRd_ok (b := gb D) (gn D + 1) (gE D) 0 0 hW.1 (Nat.zero_le (gn D))
  rw [ho] at w ok
  obtain ⟨w1, w2, w3⟩ := w
  have hb : β ≤ gn D := ok
  have hn := hW.2.2.2.2.1
  have w1' : C2.1 (e + 16) 2 = zi (β : Int) := w1
  have f1 : ∀ c k, ¬ (c = e + 16 ∧ 1 ≤ k ∧ k ≤ 5) → (c < e + 1 ∨ e + 6 ≤ c) → (c < e + 11 ∨ e + 16 ≤ c) → (zp C2 (e + 16) 1 0).1 c k = C.1 c k := fun c k q1 q2 q3 => by rw [zp_miss _ _ _ _ (by omega), w2 c k (by omega) (by omega), h.2.1 c k (by omega)]
  have hIz : zIX (zp C2 (e + 16) 1 0) e (eDn D (gE D)) := zIX_e hI (zXE_of g1 (fun c k _ _ => by rw [zp_ne (by omega), w2 c k (by omega) (by omega), h.2.1 c k (by omega)])) (zp_hit _ _ _ _) f1 (w3.trans h.2.2)
  rw [if_neg (show ¬ (zp C2 (e + 16) 1 0).1 (e + 16) 2 = -1 by
    rw [zp_nf (by omega), w1', zi_m1]
    intro q
    have := (zi_eq (a := (β : Int)) (b := -1) (by omega) (by omega) (by omega) (by omega)).mp q
    omega), z_m2, sp10 hX (by omega)]
  refine ⟨?_, zIX_rf hIz (by omega), fun c k hk => ?_, fun c k hk => ?_⟩
  · rw [zp_ne (by omega), zp_nf (by omega), w1', zi_m20, zi_sub]
  · rw [zp_ne (by omega), zp_ne (by omega), w2 c k (by omega) (by omega), h.2.1 c k (by omega)]
  · show C2.2 c k = C.2 c k
    rw [w3, h.2.2]
theorem x83s (hX : zs_4 S e) (hW : zWI D) (hI : zIX C e D) {q : zT × Nat} (ho : oRd (gn D) (gb D) (gn D + 1) (gE D) 0 0 = .inr q) : zCd X 7 83 [.ref e] S C (zQi (fun r C1 => r = zi (q.2 : Int) ∧ zIX C1 e (eDn D q.1) ∧ zOut C C1 e (e + 42))) := by
  have hI0 := hI
  obtain ⟨g1, g2, g3, g4, g5, g6, g7⟩ := hI0
  refine vc83 hX ?_
  refine zc_mV (sp84 (zo_4_2 hX) (zo_4_0 hX) (Or.inr (by omega)) g1 hW.1) (fun C1 h => ?_)
  have hT : zTP C1 (e + 16) (gn D) (gb D) := zTP_0 (m := e + 17) (by rw [h.2.1 _ _ (by omega)]; exact g4) (fun i hi => by rw [h.2.1 _ _ (by omega)]; exact g5 i hi) rfl hW.2.2.2.2.1 hW.2.2.2.2.2
  refine zc_mI (sp85 (zo_4_3 hX) (zo_4_2 hX) (by omega) hT h.1 hW.1) (fun r C2 w => ?_)
  have ok := oRd_ok (b := gb D) (gn D + 1) (gE D) 0 0 hW.1 (Nat.zero_le (gn D))
  rw [ho] at w ok
  obtain ⟨⟨w0, w1, w4⟩, w2, w3⟩ := w
  have hWq : zWF q.1 := ok
  rw [if_pos (show (zp C2 (e + 16) 1 0).1 (e + 16) 2 = -1 by rw [zp_nf (by omega), w1]; rfl)]
  refine zc_mV (sp84 (zo_4_0 hX) (zo_4_2 hX) (Or.inl (by omega)) (zXE_of w4 (fun c k _ _ => zp_ne (by omega))) hWq) (fun C3 u => ?_)
  have f0 : ∀ c k, ¬ (c = e + 16 ∧ 1 ≤ k ∧ k ≤ 5) → (c < e + 1 ∨ e + 6 ≤ c) → (c < e + 11 ∨ e + 16 ≤ c) → C3.1 c k = C.1 c k := fun c k q1 q2 q3 => by rw [u.2.1 c k (by omega), zp_miss _ _ _ _ (by omega), w2 c k (by omega) (by omega), h.2.1 c k (by omega)]
  have l0 : C3.2 = C.2 := u.2.2.trans (w3.trans h.2.2)
  exact ⟨w0, zIX_e hI u.1 (by rw [u.2.1 _ _ (by omega), zp_hit]; rfl) f0 l0, fun c k hk => f0 c k (by omega) (by omega) (by omega), fun c k hk => by rw [l0]⟩
end
