/-! IMAGE AND BACK, both -/
set_option maxRecDepth 20000 in
theorem zf253 (pc : Nat) : zt_code 253 pc = zt_fd zl_253 pc := rfl
set_option maxRecDepth 20000 in
theorem zf254 (pc : Nat) : zt_code 254 pc = zt_fd zl_254 pc := rfl
theorem zs_C {X : zX} {pc : Nat} {ls st : List Value} {H : zx_H} {j m' na e : Nat} {as rest : List Value} (h1 : Nat.ble na st.length = true) (h2 : (st.take na).reverse = .ref e :: as) (h3 : st.drop na = rest) (h4 : Nat.ble ((rest.map fun v => v.category).sum) 8 = true) (he : e < 900000) (hk : (H.1.1 e).1 < 6) : zx_step (zt_P X) (.invokespecial j, m', na, 100) pc ls st H = some (.inr (.inr (m', .ref e :: as, rest))) := by
  have hrc : zx_rc (zt_P X) H 100 (.ref e :: as) = true := by
    unfold zx_rc
    rw [if_neg (by omega)]
    dsimp only
    rw [if_pos rfl, decide_eq_true he, decide_eq_true hk]
    rfl
  show zx_call (zt_P X) (.invokespecial j, m', na, 100) st H = _
  unfold zx_call
  dsimp only
  rw [h2, h3, if_pos ⟨Nat.le_of_ble_eq_true h1, hrc, Nat.le_of_ble_eq_true h4⟩]
/-- the object made when it isn't there yet -/
theorem zmk_n {X : zX} {S : zx_S} {C : zx_C} {a m f d j1 j2 j3 w : Nat} {q4 : Int} {Q : Option Value → zx_H → Prop} (hS : zs_5 S a) (hr : S.2.1 a f = none) (hc : S.2.2.1 ≤ 700000)
    (h0 : zt_code m 0 = some (.aload_n 0, 0, 0, 0)) (h1 : zt_code m 1 = some (.getfield j1, 5, f, 1)) (h4 : zt_code m 4 = some (.ifnonnull q4, 0, 18, 0)) (h7 : zt_code m 7 = some (.aload_n 0, 0, 0, 0)) (h8 : zt_code m 8 = some (.new w, 5, 0, 0)) (h11 : zt_code m 11 = some (.dup, 0, 0, 0)) (h12 : zt_code m 12 = some (.invokespecial j2, 157, 1, 100)) (h15 : zt_code m 15 = some (.putfield j3, 5, f, 1))
    (K : ∀ H', zJ (S, C) H' S.2.2.1 zKm → zE X (d + 2) m 18 [.ref a] [] (zx_putr H' a f S.2.2.1) Q) (ha : a < S.2.2.1) : zE X (d + 2) m 0 [.ref a] [] (S, C) Q := by
  have hk := zj_5 hS
  refine zE_next (pc' := 1) (ls' := [.ref a]) (st' := [.ref a]) (H' := (S, C)) h0 rfl ?_
  refine zE_next (pc' := 4) (ls' := [.ref a]) (st' := [.null]) (H' := (S, C)) h1 (by
    show (if a < 900000 ∧ (S.1 a).1 = 5 then zx_n (1 + 3) [.ref a] (va_rf (S.2.1 a f) :: []) (S, C) else none) = _
    rw [if_pos hk, hr]
    rfl) ?_
  refine zE_next (pc' := 7) (ls' := [.ref a]) (st' := []) (H' := (S, C)) h4 rfl ?_
  refine zE_next (pc' := 8) (ls' := [.ref a]) (st' := [.ref a]) (H' := (S, C)) h7 rfl ?_
  refine zE_next (pc' := 11) (ls' := [.ref a]) (st' := [.ref S.2.2.1, .ref a]) (H' := zx_new (S, C) (5, 0) 43) h8 (by
    show (if S.2.2.1 < 800000 then _ else none) = _
    rw [if_pos (by omega)]
    rfl) ?_
  refine zE_next (pc' := 12) (ls' := [.ref a]) (st' := [.ref S.2.2.1, .ref S.2.2.1, .ref a]) (H' := zx_new (S, C) (5, 0) 43) h11 rfl ?_
  obtain ⟨H', g1, J⟩ := mk157 X (S, C) hc
  have hkk : (zx_new (S, C) (5, 0) 43).1.1 S.2.2.1 = (5, 0) := if_pos rfl
  refine zE_call (m' := 157) (as := [.ref S.2.2.1]) (rest := [.ref S.2.2.1, .ref a]) h12 (zs_C rfl rfl rfl rfl (by omega) (by rw [hkk]; decide)) (by rw [ml_157]; rfl) ?_
  rw [ml_157]
  refine ⟨200, none, H', zr_dmono X (by omega) g1, ?_⟩
  have hka : H'.1.1 a = S.1 a := J.2.2.1 a ha
  refine zE_next (pc' := 18) (ls' := [.ref a]) (st' := []) (H' := zx_putr H' a f S.2.2.1) h15 (by
    show (if a < 900000 ∧ S.2.2.1 < 900000 ∧ (H'.1.1 a).1 = 5 then zx_n (12 + 3 + 3) [.ref a] [] (zx_putr H' a f S.2.2.1) else none) = _
    rw [if_pos ⟨hk.1, by omega, by rw [hka]; exact hk.2⟩]
    rfl) ?_
  exact K H' J
/-- it is there -/
theorem zmk_s {X : zX} {S : zx_S} {C : zx_C} {a k m f d j1 : Nat} {q4 : Int} {Q : Option Value → zx_H → Prop} (hS : zs_5 S a) (hr : S.2.1 a f = some k)
    (h0 : zt_code m 0 = some (.aload_n 0, 0, 0, 0)) (h1 : zt_code m 1 = some (.getfield j1, 5, f, 1)) (h4 : zt_code m 4 = some (.ifnonnull q4, 0, 18, 0))
    (K : zE X d m 18 [.ref a] [] (S, C) Q) : zE X d m 0 [.ref a] [] (S, C) Q := by
  have hk := zj_5 hS
  refine zE_next (pc' := 1) (ls' := [.ref a]) (st' := [.ref a]) (H' := (S, C)) h0 rfl ?_
  refine zE_next (pc' := 4) (ls' := [.ref a]) (st' := [.ref k]) (H' := (S, C)) h1 (by
    show (if a < 900000 ∧ (S.1 a).1 = 5 then zx_n (1 + 3) [.ref a] (va_rf (S.2.1 a f) :: []) (S, C) else none) = _
    rw [if_pos hk, hr]
    rfl) ?_
  exact zE_next (pc' := 18) (ls' := [.ref a]) (st' := []) (H' := (S, C)) h4 rfl K
theorem zn_e1 {p q a u : Nat} (h1 : p = q + 295) (h2 : q = a + 295 * (1 + u + 0)) : p = a + 295 * (1 + u + 1) := by rw [h1, h2, Nat.mul_add 295 (1 + u) 1, Nat.mul_one, Nat.add_assoc, Nat.add_zero (1 + u)]
theorem zn_e2 {p q u : Nat} (h1 : p ≤ q + 3000) (h2 : q ≤ 3000 * (2 + u + 0)) : p ≤ 3000 * (2 + u + 1) := by omega
theorem zmk_f {S : zx_S} {C : zx_C} {a f : Nat} {H' : zx_H} (hS : zs_5 S a) (hf : f = 20 ∨ f = 21) (hr : S.2.1 a f = none) (hz : zSz S a) (ha : a ≤ 600000) (J : zJ (S, C) H' S.2.2.1 zKm) : zs_5 (zx_putr H' a f S.2.2.1).1 S.2.2.1 ∧ zs_5 (zx_putr H' a f S.2.2.1).1 a ∧ zSz (zx_putr H' a f S.2.2.1).1 a ∧ zSg S (zx_putr H' a f S.2.2.1).1 a ∧ (zx_putr H' a f S.2.2.1).1.2.1 a f = some S.2.2.1 ∧ a + 295 ≤ S.2.2.1 := by
  obtain ⟨u, v, hu, hv, hcn, hsl⟩ := hz
  have hl := zKm_l
  have hu1 : u ≤ 1 := by rcases hu with ⟨_, q⟩ | ⟨_, q⟩ <;> omega
  have hv1 : v ≤ 1 := by rcases hv with ⟨_, q⟩ | ⟨_, q⟩ <;> omega
  have hac : a < S.2.2.1 := by omega
  have hac2 : a + 295 ≤ S.2.2.1 := by omega
  have hcn' : H'.1.2.2.1 = S.2.2.1 + 295 := by rw [J.1, hl.1]
  have hsl' : H'.1.2.2.2 ≤ S.2.2.2 + 3000 := by
    have h2 : H'.1.2.2.2 = S.2.2.2 + zKm.2.2.2 := J.2.1
    omega
  have rf : ∀ b k, ¬ (b = a ∧ k = f) → (zx_putr H' a f S.2.2.1).1.2.1 b k = H'.1.2.1 b k := fun b k q => if_neg q
  have rt : (zx_putr H' a f S.2.2.1).1.2.1 a f = some S.2.2.1 := if_pos ⟨rfl, rfl⟩
  refine ⟨zs_5_of (zs5_mk J (by omega)) (fun _ _ _ => rfl) (fun b k q1 q2 q3 => rf b k (fun q => absurd q.1 (Nat.ne_of_gt (Nat.lt_of_lt_of_le hac q1)))), zs_5_of hS (fun b q1 q2 => J.2.2.1 b (by omega)) (fun b k q1 q2 q3 => (rf b k (fun q => by rcases hf with r | r; exact (q3 q.1).1 (q.2.trans r); exact (q3 q.1).2 (q.2.trans r))).trans (J.2.2.2.1 b k (Nat.lt_of_lt_of_le q2 hac2))), ?_, ⟨?_, fun b hb => J.2.2.1 b hb, fun b k hb q => (rf b k (fun r => q ⟨r.1, by rcases hf with z | z; exact Or.inl (r.2.trans z); exact Or.inr (r.2.trans z)⟩)).trans (J.2.2.2.1 b k hb)⟩, rt, by omega⟩
  · rcases hf with rfl | rfl
    · have hu0 : u = 0 := by
        rcases hu with ⟨_, q⟩ | ⟨⟨k, q, _⟩, _⟩
        · exact q
        · rw [hr] at q; cases q
      subst hu0
      have r21 : (zx_putr H' a 20 S.2.2.1).1.2.1 a 21 = S.2.1 a 21 := (rf a 21 (by omega)).trans (J.2.2.2.1 a 21 (by omega))
      refine ⟨1, v, Or.inr ⟨⟨_, rt, by show _ ≤ H'.1.2.2.1; omega⟩, rfl⟩, ?_, by show H'.1.2.2.1 = _; omega, by show H'.1.2.2.2 ≤ _; omega⟩
      rw [r21]
      rcases hv with q | ⟨⟨k, q1, q2⟩, q3⟩
      · exact Or.inl q
      · exact Or.inr ⟨⟨k, q1, by show _ ≤ H'.1.2.2.1; omega⟩, q3⟩
    · have hv0 : v = 0 := by
        rcases hv with ⟨_, q⟩ | ⟨⟨k, q, _⟩, _⟩
        · exact q
        · rw [hr] at q; cases q
      subst hv0
      have r20 : (zx_putr H' a 21 S.2.2.1).1.2.1 a 20 = S.2.1 a 20 := (rf a 20 (by omega)).trans (J.2.2.2.1 a 20 (by omega))
      have e1 : H'.1.2.2.1 = a + 295 * (1 + u + 1) := zn_e1 hcn' hcn
      have e2 : H'.1.2.2.2 ≤ 3000 * (2 + u + 1) := zn_e2 hsl' hsl
      have e3 : S.2.2.1 + 295 ≤ H'.1.2.2.1 := Nat.le_of_eq hcn'.symm
      refine ⟨u, 1, ?_, Or.inr ⟨⟨_, rt, e3⟩, rfl⟩, e1, e2⟩
      rw [r20]
      rcases hu with q | ⟨⟨k, q1, q2⟩, q3⟩
      · exact Or.inl q
      · exact Or.inr ⟨⟨k, q1, by show _ ≤ H'.1.2.2.1; omega⟩, q3⟩
  · show S.2.2.1 ≤ H'.1.2.2.1
    omega
theorem zIM_K {S S1 : zx_S} {C C2 : zx_C} {a k : Nat} {D : zDD} (hW : zWI D) (h : zIM S C a D) (h21 : S1.2.1 a 21 = none ∨ ∃ t, S1.2.1 a 21 = some t ∧ zs_5 S1 t ∧ a + 295 ≤ t) (h20 : S1.2.1 a 20 = some k) (hk : zs_5 S1 k) (hka : a + 295 ≤ k) (hkt : ∀ t, S1.2.1 a 21 = some t → k + 295 ≤ t ∨ t + 295 ≤ k) (hE : zME C2 k (gE D)) (hC : ∀ b x, b < a + 295 → C2.1 b x = C.1 b x) (hL : ∀ b x, b < a + 295 → C2.2 b x = C.2 b x) : zIM S1 C2 a (gE D, some (gE D), D.2.2) := by
  obtain ⟨g1, g2, g3, g4, g5, g6, g7⟩ := h
  refine ⟨zME_of hW.1 g1 (fun b x _ _ q => hC b x (by omega)), ⟨k, h20, hk, hka, hkt, hE⟩, zMS_of g3 (fun b x _ _ => hC b x (by omega)) (fun b x _ _ => hC b x (by omega)) (fun b x _ _ => hL b x (by omega)), ?_, fun i hi => ?_, fun j hj => ?_, h21⟩
  · rw [hC _ _ (by omega)]; exact g4
  · rw [hC _ _ (by omega)]; exact g5 i hi
  · rw [hC _ _ (by omega)]; exact g6 j hj
section
variable {X : zX} {a : Nat} {D : zDD}
theorem zMI_of {dm mm : Nat} {am : List Value} {R : Int32} {D' : zDD} (h : ∀ S C, zs_5 S a → zIM S C a D → zCd X dm mm (.ref a :: am) S C (zQi (fun r C1 => r = R ∧ zIM S C1 a D' ∧ (∀ b k, b < a → C1.1 b k = C.1 b k) ∧ ∀ b k, b < a → C1.2 b k = C.2 b k))) : zMI X a D dm mm am R D' := by
  intro S C hS hz hI
  refine zE_mono (h S C hS hI) (fun r H' w => ?_)
  obtain ⟨w1, x, w2, w3, w4, w5, w6⟩ := w
  refine ⟨by rw [w2, w3], by rw [w1]; exact hS, by rw [w1]; exact hz, by rw [w1]; exact ⟨Nat.le_refl _, fun _ _ => rfl, fun _ _ _ _ => rfl⟩, by rw [w1]; exact w4, w5, w6⟩
theorem lq253 {S : zx_S} {C : zx_C} {k : Nat} {E : zT} (hS : zs_5 S a) (h20 : S.2.1 a 20 = some k) (hk : zs_5 S k) (hka : a + 295 ≤ k) (hE : zME C a E) (hW : zWF E) : zW X 2 253 18 [.ref a] [] S C (zQi (fun r C1 => r = zi 1 ∧ zME C1 k E ∧ (∀ b x, ¬ (b = k ∧ 10 ≤ x ∧ x ≤ 19) → (b < k + 19 ∨ k + 30 ≤ b) → C1.1 b x = C.1 b x) ∧ C1.2 = C.2)) := by
  refine zw_aload_n (n := 19) ((zf253 18).trans rfl) rfl rfl ?_
  refine zw_getr (n := 22) ((zf253 19).trans rfl) rfl (zj_5 hS).1 (zj_5 hS).2 h20 ?_
  refine zw_aload_n (n := 23) ((zf253 22).trans rfl) rfl rfl ?_
  refine zw_cV (n := 26) (d' := 1) ((zf253 23).trans rfl) (zs_V rfl rfl rfl rfl (by decide) (zj_5 hk).1 (zq_5 hk)) (by rw [ml_200]; rfl) (by decide) rfl (zc_mV (sp200 hk hS (by omega) hE hW) (fun C1 h => ?_))
  refine zw_iconst (n := 27) ((zf253 26).trans rfl) rfl zk_i_1 ?_
  exact zw_iret ((zf253 27).trans rfl) rfl ⟨_, rfl, rfl, h⟩
/-- image, the model -/
theorem m253 (ha : a ≤ 600000) (hW : zWI D) : zMI X a D 2 253 [] (zi 1) (gE D, some (gE D), D.2.2) := by
  intro S C hS hz hI
  rw [ml_253]
  show zE X 2 253 0 [.ref a] [] (S, C) _
  cases hr : S.2.1 a 20 with
  | none =>
    have hz' := hz
    obtain ⟨u, v, hu, hv, hcn, hsl⟩ := hz'
    have hu1 : u ≤ 1 := by rcases hu with ⟨_, q⟩ | ⟨_, q⟩ <;> omega
    have hv1 : v ≤ 1 := by rcases hv with ⟨_, q⟩ | ⟨_, q⟩ <;> omega
    refine zmk_n (d := 0) hS hr (by omega) ((zf253 0).trans rfl) ((zf253 1).trans rfl) ((zf253 4).trans rfl) ((zf253 7).trans rfl) ((zf253 8).trans rfl) ((zf253 11).trans rfl) ((zf253 12).trans rfl) ((zf253 15).trans rfl) (fun H' J => ?_) (by omega)
    obtain ⟨p1, p2, p3, p4, p5, p6⟩ := zmk_f hS (Or.inl rfl) hr hz ha J
    have hE1 : zME (zx_putr H' a 20 S.2.2.1).2 a (gE D) := zME_of hW.1 hI.1 (fun b x _ _ q => J.2.2.2.2.1 b x (by omega))
    refine zE_mono (lq253 p2 p5 p1 p6 hE1 hW.1) (fun r H2 w => ?_)
    obtain ⟨w1, x, w2, w3, w4, w5, w6⟩ := w
    have c1 : ∀ b x, b < S.2.2.1 → H2.2.1 b x = C.1 b x := fun b x hb => by rw [w5 b x (by omega) (by omega)]; exact J.2.2.2.2.1 b x hb
    have c2 : ∀ b x, b < S.2.2.1 → H2.2.2 b x = C.2 b x := fun b x hb => by rw [w6]; exact J.2.2.2.2.2.1 b x hb
    have r21 : (zx_putr H' a 20 S.2.2.1).1.2.1 a 21 = S.2.1 a 21 := (if_neg (by omega) : (zx_putr H' a 20 S.2.2.1).1.2.1 a 21 = H'.1.2.1 a 21).trans (J.2.2.2.1 a 21 (by omega))
    rw [w1]
    refine ⟨by rw [w2, w3], p2, p3, p4, zIM_K hW hI ?_ p5 p1 p6 (fun t ht => ?_) w4 (fun b x hb => c1 b x (by omega)) (fun b x hb => c2 b x (by omega)), fun b x hb => c1 b x (by omega), fun b x hb => c2 b x (by omega)⟩
    · show (zx_putr H' a 20 S.2.2.1).1.2.1 a 21 = none ∨ ∃ t, (zx_putr H' a 20 S.2.2.1).1.2.1 a 21 = some t ∧ zs_5 (zx_putr H' a 20 S.2.2.1).1 t ∧ a + 295 ≤ t
      rw [r21]
      rcases hI.2.2.2.2.2.2 with q | ⟨t, q1, q2, q3⟩
      · exact Or.inl q
      · have ht : t + 295 ≤ S.2.2.1 := by
          rcases hv with ⟨q, _⟩ | ⟨⟨k, q, q'⟩, _⟩
          · rw [q1] at q; cases q
          · rw [q1] at q; cases q; exact q'
        exact Or.inr ⟨t, q1, zs_5_of q2 (fun b z1 z2 => p4.2.1 b (by omega)) (fun b k z1 z2 z3 => p4.2.2 b k (by omega) (by omega)), q3⟩
    · have ht : S.2.1 a 21 = some t := r21.symm.trans ht
      rcases hv with ⟨q, _⟩ | ⟨⟨k, q, q'⟩, _⟩
      · rw [ht] at q; cases q
      · rw [ht] at q; cases q; exact Or.inr q'
  | some k =>
    have hk : zs_5 S k ∧ a + 295 ≤ k ∧ ∀ t, S.2.1 a 21 = some t → k + 295 ≤ t ∨ t + 295 ≤ k := by
      have h2 := hI.2.1
      cases hK : gK D with
      | none => rw [hK] at h2; rw [show S.2.1 a 20 = none from h2] at hr; cases hr
      | some K =>
        rw [hK] at h2
        obtain ⟨k', q1, q2, q3, q4, -⟩ := h2
        rw [hr] at q1
        cases q1
        exact ⟨q2, q3, q4⟩
    refine zmk_s hS hr ((zf253 0).trans rfl) ((zf253 1).trans rfl) ((zf253 4).trans rfl) ?_
    refine zE_mono (lq253 hS hr hk.1 hk.2.1 hI.1 hW.1) (fun r H2 w => ?_)
    obtain ⟨w1, x, w2, w3, w4, w5, w6⟩ := w
    rw [w1]
    have hka := hk.2.1
    exact ⟨by rw [w2, w3], hS, hz, ⟨Nat.le_refl _, fun _ _ => rfl, fun _ _ _ _ => rfl⟩, zIM_K hW hI hI.2.2.2.2.2.2 hr hk.1 hk.2.1 hk.2.2 w4 (fun b x hb => w5 b x (by omega) (by omega)) (fun b x hb => by rw [w6]), fun b x hb => w5 b x (by omega) (by omega), fun b x hb => by rw [w6]⟩
end
section
variable {X : zX} {S : zx_S} {C : zx_C} {e : Nat} {D : zDD}
/-- image, the class -/
theorem x152 (hX : zs_4 S e) (hW : zWI D) (hI : zIX C e D) : zCd X 2 152 [.ref e] S C (zQi (fun r C1 => r = zi 1 ∧ zIX C1 e (gE D, some (gE D), D.2.2) ∧ zOut C C1 e (e + 42))) := by
  refine vc152 hX ?_
  refine zc_mV (sp84 (zo_4_1 hX) (zo_4_0 hX) (Or.inr (by omega)) hI.1 hW.1) (fun C1 h => ?_)
  obtain ⟨g1, g2, g3, g4, g5, g6, g7⟩ := hI
  have hf : ∀ b k, ¬ (b = e ∧ k = 6) → (b < e + 6 ∨ e + 11 ≤ b) → (zp C1 e 6 1).1 b k = C.1 b k := fun b k q1 q2 => by rw [zp_miss _ _ _ _ (by omega), h.2.1 b k (by omega)]
  refine ⟨rfl, ⟨zXE_of g1 (fun b k _ _ => hf b k (by omega) (by omega)), ⟨zp_hit _ _ _ _, zXE_of h.1 (fun b k _ _ => zp_ne (by omega))⟩, zXS_of g3 (fun b k _ _ => hf b k (by omega) (by omega)) (fun b k _ _ => by show C1.2 b k = _; rw [h.2.2]), ?_, fun i hi => ?_, fun j hj => ?_, zZz_of g7 (fun b k hb _ => hf b k (by omega) (by omega))⟩, fun b k hb => hf b k (by omega) (by omega), fun b k hb => by show C1.2 b k = _; rw [h.2.2]⟩
  · rw [hf _ _ (by omega) (by omega)]; exact g4
  · rw [hf _ _ (by omega) (by omega)]; exact g5 i hi
  · rw [hf _ _ (by omega) (by omega)]; exact g6 j hj
end
