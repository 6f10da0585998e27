/-! ESTATE of the model -/
set_option maxRecDepth 20000 in
theorem zf198 (pc : Nat) : zt_code 198 pc = zt_fd zl_198 pc := rfl
set_option maxRecDepth 20000 in
theorem zf199 (pc : Nat) : zt_code 199 pc = zt_fd zl_199 pc := rfl
/-- the object that the estate is kept in meanwhile -/
theorem zIM_R {S S1 : zx_S} {C C2 : zx_C} {a t : Nat} {D : zDD} (hW : zWI D) (h : zIM S C a D) (h21 : S1.2.1 a 21 = some t) (ht : zs_5 S1 t) (hta : a + 295 ≤ t) (h20 : S1.2.1 a 20 = S.2.1 a 20) (hk : ∀ k, S.2.1 a 20 = some k → zs_5 S k → zs_5 S1 k ∧ (k + 295 ≤ t ∨ t + 295 ≤ k) ∧ ∀ b x, k ≤ b → b < k + 295 → C2.1 b x = C.1 b x) (hC : ∀ b x, b < a + 295 → C2.1 b x = C.1 b x) (hL : ∀ b x, b < a + 295 → C2.2 b x = C.2 b x) : zIM S1 C2 a D := by
  obtain ⟨g1, g2, g3, g4, g5, g6, g7⟩ := h
  refine ⟨zME_of hW.1 g1 (fun b x _ _ q => hC b x (by omega)), ?_, zMS_of g3 (fun b x _ _ => hC b x (by omega)) (fun b x _ _ => hC b x (by omega)) (fun b x _ _ => hL b x (by omega)), ?_, fun i hi => ?_, fun j hj => ?_, Or.inr ⟨t, h21, ht, hta⟩⟩
  · cases hK : gK D with
    | none =>
      rw [hK] at g2
      exact h20.trans g2
    | some K =>
      rw [hK] at g2
      obtain ⟨k, q1, q2, q3, q4, q5⟩ := g2
      obtain ⟨k1, k2, k3⟩ := hk k q1 q2
      refine ⟨k, h20.trans q1, k1, q3, fun t' h' => ?_, zME_of (hW.2.1 K hK) q5 (fun b x _ q6 q7 => k3 b x (by omega) (by omega))⟩
      rw [h21] at h'
      cases h'
      exact k2
  · rw [hC _ _ (by omega)]; exact g4
  · rw [hC _ _ (by omega)]; exact g5 i hi
  · rw [hC _ _ (by omega)]; exact g6 j hj
section
variable {X : zX} {a : Nat} {D : zDD}
theorem lq199 {S : zx_S} {C : zx_C} {t : Nat} {E : zT} (hS : zs_5 S a) (h21 : S.2.1 a 21 = some t) (ht : zs_5 S t) (hta : a + 295 ≤ t) (hE : zME C a E) (hW : zWF E) : zW X 2 199 18 [.ref a] [] S C (fun r C1 => r = some (.ref t) ∧ zME C1 t E ∧ (∀ b x, ¬ (b = t ∧ 10 ≤ x ∧ x ≤ 19) → (b < t + 19 ∨ t + 30 ≤ b) → C1.1 b x = C.1 b x) ∧ C1.2 = C.2) := by
  refine zw_aload_n (n := 19) ((zf199 18).trans rfl) rfl rfl ?_
  refine zw_getr (n := 22) ((zf199 19).trans rfl) rfl (zj_5 hS).1 (zj_5 hS).2 h21 ?_
  refine zw_aload_n (n := 23) ((zf199 22).trans rfl) rfl rfl ?_
  refine zw_cV (n := 26) (d' := 1) ((zf199 23).trans rfl) (zs_V rfl rfl rfl rfl (by decide) (zj_5 ht).1 (zq_5 ht)) (by rw [ml_200]; rfl) (by decide) rfl (zc_mV (sp200 ht hS (by omega) hE hW) (fun C1 h => ?_))
  refine zw_aload_n (n := 27) ((zf199 26).trans rfl) rfl rfl ?_
  refine zw_getr (n := 30) ((zf199 27).trans rfl) rfl (zj_5 hS).1 (zj_5 hS).2 h21 ?_
  exact zE_ret ((zf199 30).trans rfl) rfl ⟨rfl, rfl, h⟩
/-- what fresh leaves -/
def zFr (S : zx_S) (C : zx_C) (a : Nat) (D : zDD) (t : Nat) (H' : zx_H) : Prop := zs_5 H'.1 a ∧ zSz H'.1 a ∧ zSg S H'.1 a ∧ zs_5 H'.1 t ∧ a + 295 ≤ t ∧ zME H'.2 t (gE D) ∧ zIM H'.1 H'.2 a D ∧ (∀ b k, b < a → H'.2.1 b k = C.1 b k) ∧ ∀ b k, b < a → H'.2.2 b k = C.2 b k
theorem m199 (ha : a ≤ 600000) (hW : zWI D) {S : zx_S} {C : zx_C} (hS : zs_5 S a) (hz : zSz S a) (hI : zIM S C a D) : zE X 2 199 0 [.ref a] [] (S, C) (fun r H' => ∃ t, r = some (.ref t) ∧ zFr S C a D t H') := by
  have hz' := hz
  obtain ⟨u, v, hu, hv, hcn, hsl⟩ := hz'
  have hu1 : u ≤ 1 := by rcases hu with ⟨_, q⟩ | ⟨_, q⟩ <;> omega
  have hv1 : v ≤ 1 := by rcases hv with ⟨_, q⟩ | ⟨_, q⟩ <;> omega
  have hkb : ∀ k, S.2.1 a 20 = some k → k + 295 ≤ S.2.2.1 := fun k q => by
    rcases hu with ⟨w, _⟩ | ⟨⟨k', w, w'⟩, _⟩
    · rw [q] at w; cases w
    · rw [q] at w; cases w; exact w'
  cases hr : S.2.1 a 21 with
  | none =>
    refine zmk_n (d := 0) hS hr (by omega) ((zf199 0).trans rfl) ((zf199 1).trans rfl) ((zf199 4).trans rfl) ((zf199 7).trans rfl) ((zf199 8).trans rfl) ((zf199 11).trans rfl) ((zf199 12).trans rfl) ((zf199 15).trans rfl) (fun H' J => ?_) (by omega)
    obtain ⟨p1, p2, p3, p4, p5, p6⟩ := zmk_f hS (Or.inr rfl) hr hz ha J
    have hE1 : zME (zx_putr H' a 21 S.2.2.1).2 a (gE D) := zME_of hW.1 hI.1 (fun b x _ _ q => J.2.2.2.2.1 b x (by omega))
    refine zE_mono (lq199 p2 p5 p1 p6 hE1 hW.1) (fun r H2 w => ?_)
    obtain ⟨w1, w2, w4, w5, w6⟩ := w
    have c1 : ∀ b x, b < S.2.2.1 → H2.2.1 b x = C.1 b x := fun b x hb => by rw [w5 b x (by omega) (by omega)]; exact J.2.2.2.2.1 b x hb
    have c2 : ∀ b x, b < S.2.2.1 → H2.2.2 b x = C.2 b x := fun b x hb => by rw [w6]; exact J.2.2.2.2.2.1 b x hb
    have r20 : (zx_putr H' a 21 S.2.2.1).1.2.1 a 20 = S.2.1 a 20 := (if_neg (by omega) : (zx_putr H' a 21 S.2.2.1).1.2.1 a 20 = H'.1.2.1 a 20).trans (J.2.2.2.1 a 20 (by omega))
    refine ⟨S.2.2.1, w2, ?_⟩
    unfold zFr
    rw [w1]
    refine ⟨p2, p3, p4, p1, p6, w4, zIM_R hW hI p5 p1 p6 r20 (fun k q1 q2 => ?_) (fun b x hb => c1 b x (by omega)) (fun b x hb => c2 b x (by omega)), fun b x hb => c1 b x (by omega), fun b x hb => c2 b x (by omega)⟩
    have hb := hkb k q1
    have hka : a + 295 ≤ k := by
      have h2 := hI.2.1
      cases hK : gK D with
      | none => rw [hK] at h2; rw [show S.2.1 a 20 = none from h2] at q1; cases q1
      | some K =>
        rw [hK] at h2
        obtain ⟨k', z1, z2, z3, -⟩ := h2
        rw [q1] at z1
        cases z1
        exact z3
    exact ⟨zs_5_of q2 (fun b z1 z2 => p4.2.1 b (by omega)) (fun b x z1 z2 z3 => p4.2.2 b x (by omega) (by omega)), Or.inl hb, fun b x z1 z2 => c1 b x (by omega)⟩
  | some t =>
    have htt : zs_5 S t ∧ a + 295 ≤ t := by
      rcases hI.2.2.2.2.2.2 with q | ⟨t', q1, q2, q3⟩
      · rw [hr] at q; cases q
      · rw [hr] at q1; cases q1; exact ⟨q2, q3⟩
    have hta := htt.2
    refine zmk_s hS hr ((zf199 0).trans rfl) ((zf199 1).trans rfl) ((zf199 4).trans rfl) ?_
    refine zE_mono (lq199 hS hr htt.1 hta hI.1 hW.1) (fun r H2 w => ?_)
    obtain ⟨w1, w2, w4, w5, w6⟩ := w
    refine ⟨t, w2, ?_⟩
    unfold zFr
    rw [w1]
    refine ⟨hS, hz, ⟨Nat.le_refl _, fun _ _ => rfl, fun _ _ _ _ => rfl⟩, htt.1, hta, w4, zIM_R hW hI hr htt.1 hta rfl (fun k q1 q2 => ?_) (fun b x hb => w5 b x (by omega) (by omega)) (fun b x hb => by rw [w6]), fun b x hb => w5 b x (by omega) (by omega), fun b x hb => by rw [w6]⟩
    have hkt : k + 295 ≤ t ∨ t + 295 ≤ k := by
      have h2 := hI.2.1
      cases hK : gK D with
      | none => rw [hK] at h2; rw [show S.2.1 a 20 = none from h2] at q1; cases q1
      | some K =>
        rw [hK] at h2
        obtain ⟨k', z1, z2, z3, z4, -⟩ := h2
        rw [q1] at z1
        cases z1
        exact z4 t hr
    exact ⟨q2, hkt, fun b x z1 z2 => w5 b x (by omega) (by omega)⟩
theorem zIM_e {S : zx_S} {C C1 : zx_C} {E : zT} (hW : zWI D) (h : zIM S C a D) (hE : zME C1 a E) (ht : C1.1 a 8 = zi 0) (h1 : ∀ b k, ¬ (b = a ∧ 8 ≤ k ∧ k ≤ 28) → (b < a + 19 ∨ a + 31 ≤ b) → C1.1 b k = C.1 b k) (h2 : C1.2 = C.2) : zIM S C1 a (eDn D E) := by
  obtain ⟨g1, g2, g3, g4, g5, g6, g7⟩ := h
  refine ⟨hE, zMk_of hW.2.1 g2 (fun b k hb => h1 b k (by omega) (by omega)), zMS_of g3 (fun b k _ _ => h1 b k (by omega) (by omega)) (fun b k _ _ => h1 b k (by omega) (by omega)) (fun b k _ _ => by rw [h2]), ht, fun i hi => absurd hi (Nat.not_lt_zero i), fun j hj => ?_, g7⟩
  rw [h1 _ _ (by omega) (by omega)]; exact g6 j hj
/-- what estate answers, and leaves -/
def zEr (o : Nat ⊕ (zT × Nat)) : Int := match o with
  | .inl β => -20 - (β : Int)
  | .inr q => (q.2 : Int)
def zEd (D : zDD) (o : Nat ⊕ (zT × Nat)) : zDD := match o with
  | .inl _ => zRf (eDn D (gE D)) (-2)
  | .inr q => eDn D q.1
theorem lq198 {S : zx_S} {C : zx_C} {t : Nat} (hW : zWI D) (hS : zs_5 S a) (ht : zs_5 S t) (hta : a + 295 ≤ t) (hEt : zME C t (gE D)) (hI : zIM S C a D) : zW X 7 198 4 [.ref a, .retAddr 0, .retAddr 0] [.ref t] S C (fun r C1 => r = some (.int (zi (zEr (oRd (gn D) (gb D) (gn D + 1) (gE D) 0 0)))) ∧ zIM S C1 a (zEd D (oRd (gn D) (gb D) (gn D + 1) (gE D) 0 0)) ∧ (∀ b k, b < a → C1.1 b k = C.1 b k) ∧ ∀ b k, b < a → C1.2 b k = C.2 b k) := by
  have hI0 := hI
  obtain ⟨g1, g2, g3, g4, g5, g6, g7⟩ := hI0
  have hT : zMP C a (gn D) (gb D) := ⟨g4, g5, hW.2.2.2.2.1, hW.2.2.2.2.2⟩
  refine zw_astore_n (n := 5) (ls2 := [.ref a, .ref t, .retAddr 0]) ((zf198 4).trans rfl) rfl rfl rfl ?_
  refine zw_aload_n (n := 6) ((zf198 5).trans rfl) rfl rfl ?_
  refine zw_cI (n := 9) (d' := 6) ((zf198 6).trans rfl) (zs_V rfl rfl rfl rfl (by decide) (zj_5 hS).1 (zq_5 hS)) (by rw [ml_202]; rfl) (by decide) rfl (zc_mI (sp202 hS hT g1 hW.1) (fun r C2 w => ?_))
  refine zw_istore_n (n := 10) (ls2 := [.ref a, .ref t, .int r]) ((zf198 9).trans rfl) rfl rfl rfl ?_
  refine zw_aload_n (n := 11) ((zf198 10).trans rfl) rfl rfl ?_
  refine zw_iconst (n := 12) ((zf198 11).trans rfl) rfl zk_i_0 ?_
  refine zw_puti (n := 15) ((zf198 12).trans rfl) rfl (zj_5 hS).1 (zj_5 hS).2 ?_
  refine zw_iload_n (n := 16) ((zf198 15).trans rfl) rfl rfl ?_
  refine zw_if_ne (n := 19) ((zf198 16).trans rfl) rfl ?_
  have ok := oRd_ok (b := gb D) (gn D + 1) (gE D) 0 0 hW.1 (Nat.zero_le (gn D))
  have fs : ∀ c k, ¬ (c = a ∧ k = 8) → (zp C2 a 8 0).1 c k = C2.1 c k := fun c k q => zp_miss _ _ _ _ (fun q1 q2 => q ⟨q1, q2⟩)
  have z8 : (zp C2 a 8 0).1 a 8 = zi 0 := zp_hit _ _ _ _
  have f1 : ∀ b k, ¬ (b = a ∧ 8 ≤ k ∧ k ≤ 28) → (b < a + 19 ∨ a + 31 ≤ b) → (zp C2 a 8 0).1 b k = C.1 b k := fun c k q1 q2 => by rw [fs c k (by omega), w.2.1 c k (by omega) q2]
  have l0 : (zp C2 a 8 0).2 = C.2 := w.2.2
  generalize zp C2 a 8 0 = C3 at fs z8 f1 l0 ⊢
  cases ho : oRd (gn D) (gb D) (gn D + 1) (gE D) 0 0 with
  | inl β =>
    rw [ho] at w ok
    obtain ⟨⟨w0, w1⟩, w2, w3⟩ := w
    rw [if_pos (show r = 0 from w0)]
    have h26 : C3.1 a 26 = zi (β : Int) := (fs _ _ (by omega)).trans w1
    have hEt3 : zME C3 t (gE D) := zME_of hW.1 hEt (fun b x q1 q2 q3 => f1 b x (by omega) (by omega))
    refine zw_aload_n (n := 20) ((zf198 19).trans rfl) rfl rfl ?_
    refine zw_aload_n (n := 21) ((zf198 20).trans rfl) rfl rfl ?_
    refine zw_cV (n := 24) (d' := 1) ((zf198 21).trans rfl) (zs_V rfl rfl rfl rfl (by decide) (zj_5 hS).1 (zq_5 hS)) (by rw [ml_200]; rfl) (by decide) rfl (zc_mV (sp200 hS ht (by omega) hEt3 hW.1) (fun C4 h => ?_))
    refine zw_aload_n (n := 25) ((zf198 24).trans rfl) rfl rfl ?_
    refine zw_bipush (n := 27) ((zf198 25).trans rfl) rfl zk_b_m2 ?_
    refine zw_cI (n := 30) (d' := 0) ((zf198 27).trans rfl) (zs_V rfl rfl rfl rfl (by decide) (zj_5 hS).1 (zq_5 hS)) (by rw [ml_160]; rfl) (by decide) rfl ?_
    rw [z_m2, sp160 hS (by omega)]
    have hI4 : zIM S C4 a (eDn D (gE D)) := zIM_e hW hI h.1 (by rw [h.2.1 _ _ (by omega) (by omega)]; exact z8) (fun b k q1 q2 => by rw [h.2.1 b k (by omega) (by omega), f1 b k q1 q2]) (h.2.2.trans l0)
    refine zw_pop (n := 31) ((zf198 30).trans rfl) rfl rfl ?_
    refine zw_bipush (n := 33) ((zf198 31).trans rfl) rfl zk_b_m20 ?_
    refine zw_aload_n (n := 34) ((zf198 33).trans rfl) rfl rfl ?_
    refine zw_geti (n := 37) ((zf198 34).trans rfl) rfl (zj_5 hS).1 (zj_5 hS).2 ?_
    rw [zp_ne (by omega), h.2.1 a 26 (by omega) (by omega), h26, zi_m20]
    refine zw_isub (n := 38) ((zf198 37).trans rfl) rfl ?_
    rw [zi_sub]
    have hW' : zWI (eDn D (gE D)) := ⟨hW.1, hW.2.1, hW.2.2.1, hW.2.2.2.1, Nat.zero_le _, fun i hi => absurd hi (Nat.not_lt_zero i)⟩
    exact zw_iret ((zf198 38).trans rfl) rfl ⟨rfl, zIM_rf hW' hI4 (by omega), fun b k hb => by rw [zp_ne (by omega), h.2.1 b k (by omega) (by omega), f1 b k (by omega) (by omega)], fun b k hb => by show C4.2 b k = C.2 b k; rw [h.2.2, l0]⟩
  | inr q =>
    rw [ho] at w ok
    obtain ⟨⟨w0, w1, w4⟩, w2, w3⟩ := w
    rw [if_neg (show ¬ r = 0 by rw [w0]; decide)]
    have hWq : zWF q.1 := ok
    refine zw_aload_n (n := 40) ((zf198 39).trans rfl) rfl rfl ?_
    refine zw_geti (n := 43) ((zf198 40).trans rfl) rfl (zj_5 hS).1 (zj_5 hS).2 ?_
    rw [fs a 28 (by omega), w1]
    exact zw_iret ((zf198 43).trans rfl) rfl ⟨rfl, zIM_e hW hI (zME_o hWq w4 (fun b k q1 q2 => fs b k (by omega))) z8 f1 l0, fun b k hb => f1 b k (by omega) (by omega), fun b k hb => by rw [l0]⟩
end
section
variable {X : zX} {S : zx_S} {e a : Nat} {D : zDD}
theorem m198 (ha : a ≤ 600000) (hW : zWI D) : zMJ X S a D 7 198 [] (fun r => r = some (.int (zi (zEr (oRd (gn D) (gb D) (gn D + 1) (gE D) 0 0))))) (zEd D (oRd (gn D) (gb D) (gn D + 1) (gE D) 0 0)) := by
  intro C hS hz hI
  rw [ml_198]
  show zE X 7 198 0 [.ref a, .retAddr 0, .retAddr 0] [] (S, C) _
  refine zE_next (pc' := 1) (ls' := [.ref a, .retAddr 0, .retAddr 0]) (st' := [.ref a]) (H' := (S, C)) ((zf198 0).trans rfl) rfl ?_
  refine zE_call (d := 6) (m' := 199) (as := [.ref a]) (rest := []) ((zf198 1).trans rfl) (zs_V rfl rfl rfl rfl (by decide) (zj_5 hS).1 (zq_5 hS)) (by rw [ml_199]; rfl) ?_
  rw [ml_199]
  refine zE_deep (d := 2) (by omega) (zE_mono (m199 ha hW hS hz hI) (fun r H' w => ?_))
  obtain ⟨t, rfl, w1, w2, w3, w4, w5, w6, w7, w8, w9⟩ := w
  obtain ⟨S1, C1⟩ := H'
  show zE X 7 198 4 [.ref a, .retAddr 0, .retAddr 0] [.ref t] (S1, C1) _
  refine zE_mono (lq198 hW w1 w4 w5 w6 w7) (fun r H2 u => ?_)
  obtain ⟨u1, u2, u3, u4, u5⟩ := u
  exact ⟨u2, by rw [u1]; exact w1, by rw [u1]; exact w2, by rw [u1]; exact w3, by rw [u1]; exact u3, fun b k hb => (u4 b k hb).trans (w8 b k hb), fun b k hb => (u5 b k hb).trans (w9 b k hb)⟩
theorem zWI_ed (hW : zWI D) : zWI (zEd D (oRd (gn D) (gb D) (gn D + 1) (gE D) 0 0)) := by
  have ok := oRd_ok (b := gb D) (gn D + 1) (gE D) 0 0 hW.1 (Nat.zero_le (gn D))
  cases ho : oRd (gn D) (gb D) (gn D + 1) (gE D) 0 0 with
  | inl β => exact ⟨hW.1, hW.2.1, hW.2.2.1, hW.2.2.2.1, Nat.zero_le _, fun i hi => absurd hi (Nat.not_lt_zero i)⟩
  | inr q =>
    rw [ho] at ok
    exact ⟨ok, hW.2.1, hW.2.2.1, hW.2.2.2.1, Nat.zero_le _, fun i hi => absurd hi (Nat.not_lt_zero i)⟩
/-- estate -/
theorem cl_estate (hX : zs_4 S e) (hW : zWI D) (ha : a ≤ 600000) : zBX X S e a D 7 83 [] 7 198 [] := by
  refine ⟨zi (zEr (oRd (gn D) (gb D) (gn D + 1) (gE D) 0 0)), zEd D (oRd (gn D) (gb D) (gn D + 1) (gE D) 0 0), zWI_ed hW, fun C hI => ?_, m198 ha hW⟩
  cases ho : oRd (gn D) (gb D) (gn D + 1) (gE D) 0 0 with
  | inl β => exact x83i hX hW hI ho
  | inr q => exact x83s hX hW hI ho
end
/-- the law, from its entry -/
theorem law_whole {L : Nat} {xs : Nat → Int32} (hL : L ≤ 3072) : zE (some (L, xs)) 65 0 0 [.ref 3000000, .retAddr 0, .retAddr 0, .retAddr 0] [] zH00 zQe := law_all (fun _ _ h4 _ hW => cl_estate h4 hW (by decide)) hL (Nat.le_refl 64)
