/-! STATEMENTS of the model -/
def zMs (C C1 : zx_C) (a n : Nat) (b : Nat → Int) (o : zSo) (r : Int32) : Prop := (match o with
  | .inl β => r = zi 0 ∧ C1.1 a 26 = zi (β : Int)
  | .inr p => r = zi 1 ∧ zMF2 C1 a b p.2 ∧ zME C1 a p.1) ∧ (∀ c k, ¬ (c = a ∧ 10 ≤ k ∧ k ≤ 26) → (c < a + 19 ∨ a + 31 ≤ c) → C1.1 c k = C.1 c k) ∧ C1.2 = C.2
theorem zMs_01 {C C1 : zx_C} {a n : Nat} {b : Nat → Int} {o : zSo} {r : Int32} (h : zMs C C1 a n b o r) : r = 0 ∨ r = 1 := by
  cases o with
  | inl β => exact Or.inl h.1.1
  | inr p => exact Or.inr h.1.1
theorem zME_o {C C1 : zx_C} {e : Nat} {E : zT} (hW : zWF E) (h : zME C e E) (h1 : ∀ b k, ¬ (b = e ∧ (k < 10 ∨ 22 ≤ k)) → b < e + 30 → C1.1 b k = C.1 b k) : zME C1 e E := by
  have hT := hW.2.1
  obtain ⟨v1, v2, v3, v4, v5, v6, v7, v8, v9, v10⟩ := h
  refine ⟨?_, ?_, ?_, ?_, ?_, ?_, fun i hi => ?_, fun s hs => ?_, fun k hk => ?_, fun s k hs hk => ?_⟩
  · rw [h1 _ _ (by omega) (by omega)]; exact v1
  · rw [h1 _ _ (by omega) (by omega)]; exact v2
  · rw [h1 _ _ (by omega) (by omega)]; exact v3
  · rw [h1 _ _ (by omega) (by omega)]; exact v4
  · rw [h1 _ _ (by omega) (by omega)]; exact v5
  · rw [h1 _ _ (by omega) (by omega)]; exact v6
  · rw [h1 _ _ (by omega) (by omega)]; exact v7 i hi
  · rw [h1 _ _ (by omega) (by omega)]; exact v8 s hs
  · rw [h1 _ _ (by omega) (by omega)]; exact v9 k hk
  · rw [h1 _ _ (by omega) (by omega)]; exact v10 s k hs hk
theorem zMF2_of {C C1 : zx_C} {a : Nat} {b : Nat → Int} {τ : zTk} (h : zMF2 C a b τ) (h1 : ∀ k, 22 ≤ k → k ≤ 25 → C1.1 a k = C.1 a k) : zMF2 C1 a b τ := ⟨(h1 _ (by omega) (by omega)).trans h.1, (h1 _ (by omega) (by omega)).trans h.2.1, (h1 _ (by omega) (by omega)).trans h.2.2.1, (h1 _ (by omega) (by omega)).trans h.2.2.2⟩
theorem mE_Ord {C C1 : zx_C} {a m : Nat} {E : zT} {f : Nat → Int} (hW : zWF E) (h : zME C a E) (h1 : ∀ b k, ¬ (b = a ∧ 22 ≤ k) → b ≠ a + 28 → b < a + 30 → C1.1 b k = C.1 b k) (hf : ∀ k, k < m → C1.1 (a + 28) k = zi (f k)) : zME (zp C1 a 16 (zi (m : Int))) a (sOrd E m f) := by
  have hT := hW.2.1
  obtain ⟨v1, v2, v3, v4, v5, v6, v7, v8, v9, v10⟩ := h
  refine ⟨?_, ?_, ?_, ?_, ?_, ?_, fun i hi => ?_, fun s hs => ?_, fun k hk => ?_, fun s k hs hk => ?_⟩
  · rw [zp_nf (by omega), h1 _ _ (by omega) (by omega) (by omega)]; exact v1
  · rw [zp_nf (by omega), h1 _ _ (by omega) (by omega) (by omega)]; exact v2
  · rw [zp_nf (by omega), h1 _ _ (by omega) (by omega) (by omega)]; exact v3
  · rw [zp_nf (by omega), h1 _ _ (by omega) (by omega) (by omega)]; exact v4
  · rw [zp_nf (by omega), h1 _ _ (by omega) (by omega) (by omega)]; exact v5
  · rw [zp_hit]; rfl
  · rw [zp_ne (by omega)]; exact hf i hi
  · rw [zp_ne (by omega), h1 _ _ (by omega) (by omega) (by omega)]; exact v8 s hs
  · have hk2 : k < eT E := hk
    rw [zp_ne (by omega), h1 _ _ (by omega) (by omega) (by omega)]; exact v9 k hk
  · have hk2 : k < eT E := hk
    rw [zp_ne (by omega), h1 _ _ (by omega) (by omega) (by omega)]; exact v10 s k hs hk
theorem tK_2 {κ : Nat} (h : κ ≤ 5) : tK κ ≤ 5 ∧ (tK κ = 2 ↔ κ = 2) ∧ (tK κ = 3 ↔ κ = 3) ∧ (tK κ = 0 ↔ κ = 0) := by
  unfold tK
  split <;> omega
section
variable {X : zX} {S : zx_S} {C : zx_C} {a n : Nat} {b : Nat → Int} {τ : zTk} {E : zT}
/-- THING -/
theorem sp211 (hS : zs_5 S a) (hT : zMP C a n b) (hF : zMF2 C a b τ) (hv : zTv n b τ) (hE : zME C a E) (hW : zWF E) (hE8 : eT E < 8) : zCd X 4 211 [.ref a] S C (zQi (fun r C1 => zMs C C1 a n b (oThing n b E (tN n b τ.2.2)) r)) := by
  have w0 : vp_in 0 3 := zi_in (a := 0) (by omega) (by omega) (by omega)
  have w1 : vp_in 1 3 := zi_in (a := 1) (by omega) (by omega) (by omega)
  have w2 : vp_in 2 3 := zi_in (a := 2) (by omega) (by omega) (by omega)
  have x0 : Int32.toNatClampNeg 0 = 0 := rfl
  have x1 : Int32.toNatClampNeg 1 = 1 := rfl
  have x2 : Int32.toNatClampNeg 2 = 2 := rfl
  have v4 := hv.2.2.2.1
  have hN := hW.1
  have hv1 := tN_v (b := b) v4
  have hv2 := tN_v (b := b) hv1.2.2.2.1
  have hv3 := tN_v (b := b) hv2.2.2.2.1
  refine vc211 hS ⟨w2, ?_⟩
  rw [x0, x1, x2]
  have f0 : ∀ c k, ¬ (c = a + 30 ∧ k = 2) → (zp C (a + 30) 2 0).1 c k = C.1 c k := fun c k q => zp_miss _ _ _ _ (fun q1 q2 => q ⟨q1, q2⟩)
  have z2 : (zp C (a + 30) 2 0).1 (a + 30) 2 = zi 0 := zp_hit _ _ _ _
  have l0 : (zp C (a + 30) 2 0).2 = C.2 := rfl
  generalize zp C (a + 30) 2 0 = C0 at f0 z2 l0 ⊢
  have hT0 : zMP C0 a n b := zMP_of hT (f0 _ _ (by omega)) (fun k => f0 _ _ (by omega))
  refine zc_mI (sp208 (lo := 0) (hi := 99) hS hT0 (zMF2_of hF (fun k _ _ => f0 _ _ (by omega))) hv (by omega) (by omega)) (fun r C1 h => ?_)
  obtain ⟨h1, h2, h3, h4⟩ := h
  have f1 : ∀ c k, ¬ (c = a ∧ 22 ≤ k ∧ k ≤ 26) → ¬ (c = a + 30 ∧ (k = 2 ∨ k = 0)) → C1.1 c k = C.1 c k := fun c k q1 q2 => by rw [h3 c k q1 (by omega), f0 c k (by omega)]
  have l1 : C1.2 = C.2 := h4.trans l0
  have z21 : C1.1 (a + 30) 2 = zi 0 := by rw [h3 _ _ (by omega) (by omega)]; exact z2
  unfold oThing
  by_cases c : rK b (tN n b τ.2.2) 0 99
  · obtain ⟨r1, r2, r3⟩ := h1 c
    subst r1
    rw [if_neg (by decide), if_pos c]
    have hT1 : zMP C1 a n b := zMP_of hT (f1 _ _ (by omega) (by omega)) (fun k => f1 _ _ (by omega) (by omega))
    refine zc_mI (sp209 (i := 1) (lo := 0) (hi := 99) hS hT1 r2 hv2 (by omega) (by omega) (by omega)) (fun r' C2 h' => ?_)
    obtain ⟨h1', h2', h3', h4'⟩ := h'
    have f2 : ∀ c k, ¬ (c = a ∧ 22 ≤ k ∧ k ≤ 26) → ¬ (c = a + 30 ∧ (k = 2 ∨ k = 0 ∨ k = 1)) → C2.1 c k = C.1 c k := fun c k q1 q2 => by rw [h3' c k q1 (by omega), f1 c k q1 (by omega)]
    have l2 : C2.2 = C.2 := h4'.trans l1
    have z22 : C2.1 (a + 30) 2 = zi 0 := by rw [h3' _ _ (by omega) (by omega)]; exact z21
    have z02 : C2.1 (a + 30) 0 = zi (rV b (tN n b τ.2.2)) := by rw [h3' _ _ (by omega) (by omega)]; exact r3
    by_cases c' : rK b (tN n b (tN n b τ.2.2).2.2) 0 99
    · obtain ⟨r1', r2', r3'⟩ := h1' c'
      subst r1'
      rw [if_neg (by decide), if_pos c', show C2.1 a 10 = zi (eN E) by rw [f2 _ _ (by omega) (by omega)]; exact hE.1]
      have hT2 : zMP C2 a n b := zMP_of hT (f2 _ _ (by omega) (by omega)) (fun k => f2 _ _ (by omega) (by omega))
      by_cases cN : eN E = 3
      · rw [if_pos (show zi (eN E : Int) = 3 by rw [cN]; rfl), if_pos cN]
        refine zc_mI (sp209 (i := 2) (lo := 0) (hi := 99) hS hT2 r2' hv3 (by omega) (by omega) (by omega)) (fun r'' C3 h'' => ?_)
        obtain ⟨h1'', h2'', h3'', h4''⟩ := h''
        have f3 : ∀ c k, ¬ (c = a ∧ 22 ≤ k ∧ k ≤ 26) → ¬ (c = a + 30 ∧ (k = 2 ∨ k = 0 ∨ k = 1)) → C3.1 c k = C.1 c k := fun c k q1 q2 => by rw [h3'' c k q1 (by omega), f2 c k q1 (by omega)]
        have l3 : C3.2 = C.2 := h4''.trans l2
        by_cases c'' : rK b (tN n b (tN n b (tN n b τ.2.2).2.2).2.2) 0 99
        · obtain ⟨r1'', r2'', r3''⟩ := h1'' c''
          subst r1''
          have t0 : C3.1 (a + 30) 0 = zi (rV b (tN n b τ.2.2)) := by rw [h3'' _ _ (by omega) (by omega)]; exact z02
          have t1 : C3.1 (a + 30) 1 = zi (rV b (tN n b (tN n b τ.2.2).2.2)) := by rw [h3'' _ _ (by omega) (by omega)]; exact r3'
          rw [if_neg (by decide), if_pos c'', t0, t1, show C3.1 (a + 30) 2 = _ from r3'']
          refine ⟨w0, w1, w2, zc_mV (sp188 hS (zME_o hW hE (fun c k q1 q2 => f3 c k (by omega) (by omega))) hW hE8) (fun C4 u => ?_)⟩
          exact ⟨⟨rfl, zMF2_of r2'' (fun k _ _ => u.2.1 _ _ (by omega) (by omega)), u.1⟩, fun c k q1 q2 => by rw [u.2.1 c k (by omega) (by omega), f3 c k (by omega) (by omega)], u.2.2.trans l3⟩
        · obtain ⟨r1'', r2'', r3''⟩ := h2'' c''
          subst r1''
          rw [if_pos (by decide), if_neg c'']
          exact ⟨⟨rfl, r2''⟩, fun c k q1 q2 => f3 c k (by omega) (by omega), l3⟩
      · rw [if_neg (show ¬ zi (eN E : Int) = 3 by
          intro q
          have := (zi_eq (a := (eN E : Int)) (b := 3) (by omega) (by omega) (by omega) (by omega)).mp q
          omega), if_neg cN, z02, z22, show C2.1 (a + 30) 1 = _ from r3']
        refine ⟨w0, w1, w2, zc_mV (sp188 hS (zME_o hW hE (fun c k q1 q2 => f2 c k (by omega) (by omega))) hW hE8) (fun C4 u => ?_)⟩
        exact ⟨⟨rfl, zMF2_of r2' (fun k _ _ => u.2.1 _ _ (by omega) (by omega)), u.1⟩, fun c k q1 q2 => by rw [u.2.1 c k (by omega) (by omega), f2 c k (by omega) (by omega)], u.2.2.trans l2⟩
    · obtain ⟨r1', r2', r3'⟩ := h2' c'
      subst r1'
      rw [if_pos (by decide), if_neg c']
      exact ⟨⟨rfl, r2'⟩, fun c k q1 q2 => f2 c k (by omega) (by omega), l2⟩
  · obtain ⟨r1, r2, r3⟩ := h2 c
    subst r1
    rw [if_pos (by decide), if_neg c]
    exact ⟨⟨rfl, r2⟩, fun c k q1 q2 => f1 c k (by omega) (by omega), l1⟩
/-- ORDER -/
theorem lq212 (hS : zs_5 S a) (hE : zME C a E) (hW : zWF E) : ∀ (j i : Nat) (C1 : zx_C) (f : Nat → Int) (ν : zTk), i + j = 12 → zMP C1 a n b → zMF2 C1 a b ν → zTv n b ν → (∀ k, k < i → C1.1 (a + 28) k = zi (f k)) → (∀ c k, ¬ (c = a ∧ 22 ≤ k ∧ k ≤ 26) → c ≠ a + 28 → c ≠ a + 30 → C1.1 c k = C.1 c k) → C1.2 = C.2 → zW X 3 212 6 [.ref a, .int (zi i)] [] S C1 (zQi (fun r C2 => zMs C C2 a n b (oOrd n b E j i f ν) r)) := by
  have hN := hW.1
  intro j
  induction j with
  | zero =>
    intro i C1 f ν hj hT hF hv hf fr fl
    refine vc212_6 hS ?_
    rw [zi_12, zeq_t (by omega), sp210 hS]
    exact ⟨Or.inl rfl, ⟨rfl, by rw [zp_hit]; exact hF.2.1⟩, fun c k q1 q2 => by rw [zp_miss _ _ _ _ (by omega), fr c k (by omega) (by omega) (by omega)], fl⟩
  | succ j ih =>
    intro i C1 f ν hj hT hF hv hf fr fl
    have v4 := hv.2.2.2.1
    have hv2 := tN_v (b := b) v4
    have he0 : C1.1 a 10 - 1 = zi ((eN E : Int) - 1) := by rw [fr _ _ (by omega) (by omega) (by omega), hE.1, zi_1, zi_sub]
    refine vc212_6 hS ?_
    rw [zi_12, zeq_f (by omega), he0]
    refine zc_mI (sp209 (i := 0) (lo := 0) (hi := (eN E : Int) - 1) hS hT hF hv (by omega) (by omega) (by omega)) (fun r C2 h => ?_)
    obtain ⟨h1, h2, h3, h4⟩ := h
    have f2 : ∀ c k, ¬ (c = a ∧ 22 ≤ k ∧ k ≤ 26) → c ≠ a + 28 → c ≠ a + 30 → C2.1 c k = C.1 c k := fun c k q1 q2 q3 => by rw [h3 c k q1 (by omega), fr c k q1 q2 q3]
    have l2 : C2.2 = C.2 := h4.trans fl
    rw [oOrd_s]
    by_cases c : rK b ν 0 ((eN E : Int) - 1)
    · obtain ⟨r1, r2, r3⟩ := h1 c
      subst r1
      rw [if_neg (by decide), if_pos c, zi_ix (by omega) (by omega), Int.toNat_natCast, show Int32.toNatClampNeg 0 = 0 from rfl, show C2.1 (a + 30) 0 = zi (rV b ν) from r3, zi_s]
      refine ⟨zi_in (a := 0) (by omega) (by omega) (by omega), zi_in (by omega) (by omega) (by omega), ?_⟩
      have fs : ∀ c k, ¬ (c = a + 28 ∧ k = i) → (zp C2 (a + 28) i (zi (rV b ν))).1 c k = C2.1 c k := fun c k q => zp_miss _ _ _ _ (fun q1 q2 => q ⟨q1, q2⟩)
      have fi : (zp C2 (a + 28) i (zi (rV b ν))).1 (a + 28) i = zi (rV b ν) := zp_hit _ _ _ _
      have ln : (zp C2 (a + 28) i (zi (rV b ν))).2 = C.2 := l2
      generalize zp C2 (a + 28) i (zi (rV b ν)) = Cn at fs fi ln ⊢
      have fn : ∀ c k, ¬ (c = a ∧ 22 ≤ k ∧ k ≤ 26) → c ≠ a + 28 → c ≠ a + 30 → Cn.1 c k = C.1 c k := fun c k q1 q2 q3 => by rw [fs c k (by omega), f2 c k q1 q2 q3]
      have gF : zMF2 Cn a b (tN n b ν.2.2) := zMF2_of r2 (fun k _ _ => fs _ _ (by omega))
      have hf2 : ∀ k, k < i + 1 → Cn.1 (a + 28) k = zi (if k = i then rV b ν else f k) := by
        intro k hk
        by_cases d : k = i
        · subst d
          rw [if_pos rfl]; exact fi
        · rw [if_neg d, fs _ _ (by omega), h3 _ _ (by omega) (by omega)]
          exact hf k (by omega)
      have t2 := tK_2 hv2.1
      by_cases d : (tN n b ν.2.2).1 = 2
      · rw [if_pos d, if_pos (show Cn.1 a 23 = 2 by rw [gF.1, d]; rfl)]
        exact ih (i + 1) Cn _ _ (by omega) (zMP_of hT (by rw [fs _ _ (by omega), h3 _ _ (by omega) (by omega)]) (fun k => by rw [fs _ _ (by omega), h3 _ _ (by omega) (by omega)])) gF hv2 hf2 fn ln
      · rw [if_neg d, if_neg (show ¬ Cn.1 a 23 = 2 from zk_n (v := 2) t2.1 (by omega) (by omega) gF.1)]
        exact ⟨⟨rfl, zMF2_of gF (fun k _ _ => zp_nf (by omega)), mE_Ord hW hE (fun c k q1 q2 q3 => fn c k (by omega) q2 (by omega)) hf2⟩, fun c k q1 q2 => by rw [zp_miss _ _ _ _ (by omega), fn c k (by omega) (by omega) (by omega)], ln⟩
    · obtain ⟨r1, r2, r3⟩ := h2 c
      subst r1
      rw [if_pos (by decide), if_neg c, sp210 hS]
      exact ⟨Or.inl rfl, ⟨rfl, by rw [zp_hit]; exact r3.2.1⟩, fun c k q1 q2 => by rw [zp_miss _ _ _ _ (by omega), f2 c k (by omega) (by omega) (by omega)], l2⟩
theorem sp212 (hS : zs_5 S a) (hT : zMP C a n b) (hF : zMF2 C a b τ) (hv : zTv n b τ) (hE : zME C a E) (hW : zWF E) : zCd X 3 212 [.ref a] S C (zQi (fun r C1 => zMs C C1 a n b (oOrder n b E (tN n b τ.2.2)) r)) := by
  refine vc212 hS ?_
  have v4 := hv.2.2.2.1
  refine zc_mV (sp203 (b := b) (n := n) hS hT v4 hF.2.2.1) (fun C1 g => ?_)
  have hT1 : zMP C1 a n b := zMP_of hT (g.2.1 _ _ (by omega)) (fun k => g.2.1 _ _ (by omega))
  exact lq212 (C := C) hS hE hW 12 0 C1 (eo E) (tN n b τ.2.2) (by omega) hT1 g.1 (tN_v v4) (fun k hk => absurd hk (Nat.not_lt_zero k)) (fun c k q1 _ _ => g.2.1 c k (by omega)) g.2.2
end
