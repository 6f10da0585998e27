/-! ORDER of the class -/
def sOrd (E : zT) (m : Nat) (f : Nat → Int) : zT := ((eN E, eT E, eL E, eV E, eD E, m), f, E.2.2)
def oOrd (n : Nat) (b : Nat → Int) (E : zT) : Nat → Nat → (Nat → Int) → zTk → zSo
  | 0, _, _, ν => .inl ν.2.1
  | j + 1, i, f, ν => if rK b ν 0 ((eN E : Int) - 1) then (if (tN n b ν.2.2).1 = 2 then oOrd n b E j (i + 1) (fun k => if k = i then rV b ν else f k) (tN n b ν.2.2) else .inr (sOrd E (i + 1) (fun k => if k = i then rV b ν else f k), tN n b ν.2.2)) else .inl ν.2.1
def oOrder (n : Nat) (b : Nat → Int) (E : zT) (ν : zTk) : zSo := oOrd n b E 12 0 (eo E) ν
theorem oOrd_s {n : Nat} {b : Nat → Int} {E : zT} {j i : Nat} {f : Nat → Int} {ν : zTk} : oOrd n b E (j + 1) i f ν = if rK b ν 0 ((eN E : Int) - 1) then (if (tN n b ν.2.2).1 = 2 then oOrd n b E j (i + 1) (fun k => if k = i then rV b ν else f k) (tN n b ν.2.2) else .inr (sOrd E (i + 1) (fun k => if k = i then rV b ν else f k), tN n b ν.2.2)) else .inl ν.2.1 := rfl
theorem xE_Ord {C : zx_C} {e i m : Nat} {E : zT} {f : Nat → Int} {v : Int} (him : i ≤ m) (h : zXE C e (sOrd E m f)) : zXE (zp (zp C (e + 1) i (zi v)) e 5 (zi ((i + 1 : Nat) : Int))) e (sOrd E (i + 1) (fun k => if k = i then v else f k)) := by
  obtain ⟨v1, v2, v3, v4, v5, v6, v7, v8, v9, v10⟩ := h
  refine ⟨?_, ?_, ?_, ?_, ?_, ?_, fun k hk => ?_, fun s hs => ?_, fun k hk => ?_, fun s k hs hk => ?_⟩
  · rw [zp_nf (by omega), zp_ne (by omega)]; exact v1
  · rw [zp_nf (by omega), zp_ne (by omega)]; exact v2
  · rw [zp_nf (by omega), zp_ne (by omega)]; exact v3
  · rw [zp_nf (by omega), zp_ne (by omega)]; exact v4
  · rw [zp_nf (by omega), zp_ne (by omega)]; exact v5
  · rw [zp_hit]; rfl
  · have hk2 : k < i + 1 := hk
    show _ = zi (if k = i then v else f k)
    rw [zp_ne (by omega)]
    by_cases c : k = i
    · subst c
      rw [if_pos rfl, zp_hit]
    · rw [if_neg c, zp_nf c]; exact v7 k (by show k < m; omega)
  · rw [zp_ne (by omega), zp_ne (by omega)]; exact v8 s hs
  · rw [zp_ne (by omega), zp_ne (by omega)]; exact v9 k hk
  · rw [zp_ne (by omega), zp_ne (by omega)]; exact v10 s k hs hk
section
variable {X : zX} {S : zx_S} {C : zx_C} {t e n : Nat} {b : Nat → Int} {τ : zTk} {E : zT}
theorem lq105z (hS : zs_3 S t) (h0 : zs_0 S e) {C1 : zx_C} {z : Int32} {q : zx_C → Prop} (h : q C1) : zW X 4 105 8 [.ref t, .ref e, .int 0, .int z] [] S C1 (zQv q) := by
  refine vc105_8 hS h0 ?_
  by_cases c : z < 12
  · rw [if_pos c, if_pos rfl]; exact h
  · rw [if_neg c]; exact h
theorem lq105 (hS : zs_3 S t) (h0 : zs_0 S e) (ht : e + 5 ≤ t) (hN : eN E = 2 ∨ eN E = 3) : ∀ (j i : Nat) (C1 : zx_C) (f : Nat → Int) (ν : zTk), i + j = 12 → (i = 0 ∨ ν.1 = 2) → zTP C1 t n b → zTF C1 t ν → zTv n b ν → C1.1 t 2 = zi (-1) → (∃ m, i ≤ m ∧ zXE C1 e (sOrd E m f)) → (∀ c k, ¬ (c = t ∧ 2 ≤ k ∧ k ≤ 5) → (c < e ∨ e + 5 ≤ c) → C1.1 c k = C.1 c k) → C1.2 = C.2 → zW X 4 105 8 [.ref t, .ref e, .int 1, .int (zi i)] [] S C1 (zQv (fun C2 => zCs C C2 t e (oOrd n b E j i f ν))) := by
  intro j
  induction j with
  | zero =>
    intro i C1 f ν hj hi hT hF hv h2 hE fr fl
    refine vc105_8 hS h0 ?_
    rw [zi_12, zlt_f (by omega)]
    exact ⟨Or.inr ⟨h2, by rw [hF.1, show ν.1 = 2 by omega]; rfl, hF.2.1⟩, fr, fl⟩
  | succ j ih =>
    intro i C1 f ν hj hi hT hF hv h2 hE fr fl
    obtain ⟨m, him, hE⟩ := hE
    have hn := hT.2.2.1
    have v4 := hv.2.2.2.1
    have hle := hv.2.2
    have he0 : C1.1 e 0 - 1 = zi ((eN E : Int) - 1) := by rw [show C1.1 e 0 = zi (eN E) from hE.1, zi_1, zi_sub]
    refine vc105_8 hS h0 ?_
    rw [zi_12, zlt_t (by omega), if_neg (by decide), he0]
    refine zc_mI (sp102 (lo := 0) (hi := (eN E : Int) - 1) hS hT hF hv h2 (by omega) (by omega)) (fun r C2 h => ?_)
    obtain ⟨h3, h4, h5, h6⟩ := h
    rw [sp12 (za_0_6 h0) (by omega) (by omega) (by omega), Int.toNat_natCast, zi_s]
    have hEe : zXE C2 e (sOrd E m f) := zXE_of hE (fun c k _ _ => h5 c k (by omega))
    have fs : ∀ c k, ¬ (c = e ∧ k = 5) → ¬ (c = e + 1 ∧ k = i) → (zp (zp C2 (e + 1) i r) e 5 (zi ((i + 1 : Nat) : Int))).1 c k = C2.1 c k := fun c k q1 q2 => by rw [zp_miss _ _ _ _ (fun a1 a2 => q1 ⟨a1, a2⟩), zp_miss _ _ _ _ (fun a1 a2 => q2 ⟨a1, a2⟩)]
    have fr2 : ∀ c k, ¬ (c = t ∧ 2 ≤ k ∧ k ≤ 5) → (c < e ∨ e + 5 ≤ c) → (zp (zp C2 (e + 1) i r) e 5 (zi ((i + 1 : Nat) : Int))).1 c k = C.1 c k := fun c k q1 q2 => by rw [fs c k (by omega) (by omega), h5 c k q1, fr c k q1 q2]
    have fl2 : (zp (zp C2 (e + 1) i r) e 5 (zi ((i + 1 : Nat) : Int))).2 = C.2 := h6.trans fl
    have hT2 : zTP (zp (zp C2 (e + 1) i r) e 5 (zi ((i + 1 : Nat) : Int))) t n b := zTP_of hT (by rw [fs _ _ (by omega) (by omega), h5 _ _ (by omega)]) (fun k => by rw [fs _ _ (by omega) (by omega), h5 _ _ (by omega)])
    by_cases c : rK b ν 0 ((eN E : Int) - 1)
    · obtain ⟨r1, r2, r3⟩ := h3 c
      subst r1
      have hv2 := tN_v (b := b) v4
      have hE2 := xE_Ord (v := rV b ν) him hEe
      rw [oOrd_s, if_pos c]
      generalize zp (zp C2 (e + 1) i (zi (rV b ν))) e 5 (zi ((i + 1 : Nat) : Int)) = Cn at fs fr2 fl2 hT2 hE2 ⊢
      have g2 : Cn.1 t 2 = zi (-1) := (fs _ _ (by omega) (by omega)).trans r3
      have gF : zTF Cn t (tN n b ν.2.2) := ⟨(fs _ _ (by omega) (by omega)).trans r2.1, (fs _ _ (by omega) (by omega)).trans r2.2.1, (fs _ _ (by omega) (by omega)).trans r2.2.2⟩
      by_cases d : (tN n b ν.2.2).1 = 2
      · rw [if_pos d, if_pos (show Cn.1 t 2 = -1 from g2), if_pos (show Cn.1 t 3 = 2 by rw [gF.1, d]; rfl)]
        exact ih (i + 1) Cn _ _ (by omega) (Or.inr d) hT2 gF hv2 g2 ⟨i + 1, Nat.le_refl _, hE2⟩ fr2 fl2
      · have hk5 := hv2.1
        rw [if_neg d, if_pos (show Cn.1 t 2 = -1 from g2), if_neg (show ¬ Cn.1 t 3 = 2 by
          rw [gF.1]
          intro q
          have := (zi_eq (a := ((tN n b ν.2.2).1 : Int)) (b := 2) (by omega) (by omega) (by omega) (by omega)).mp q
          omega)]
        exact lq105z hS h0 ⟨⟨g2, gF, hE2⟩, fr2, fl2⟩
    · obtain ⟨r1, r2, r3⟩ := h4 c
      rw [oOrd_s, if_neg c]
      generalize zp (zp C2 (e + 1) i r) e 5 (zi ((i + 1 : Nat) : Int)) = Cn at fs fr2 fl2 hT2 ⊢
      have g2 : Cn.1 t 2 = zi (ν.2.1 : Int) := (fs _ _ (by omega) (by omega)).trans r2
      rw [if_neg (show ¬ Cn.1 t 2 = -1 by
          rw [g2, zi_m1]
          intro q
          have := (zi_eq (a := (ν.2.1 : Int)) (b := -1) (by omega) (by omega) (by omega) (by omega)).mp q
          omega)]
      exact lq105z hS h0 ⟨Or.inl g2, fr2, fl2⟩
/-- ORDER -/
theorem sp105 (hS : zs_3 S t) (h0 : zs_0 S e) (ht : e + 5 ≤ t) (hT : zTP C t n b) (hF : zTF C t τ) (hv : zTv n b τ) (h2 : C.1 t 2 = zi (-1)) (hE : zXE C e E) (hW : zWF E) : zCd X 4 105 [.ref t, .ref e] S C (zQv (fun C1 => zCs C C1 t e (oOrder n b E (tN n b τ.2.2)))) := by
  refine vc105 hS h0 ?_
  have v4 := hv.2.2.2.1
  refine zc_mV (sp86 (b := b) (n := n) hS hT v4 hF.2.2) (fun C1 g => ?_)
  have hT1 : zTP C1 t n b := zTP_of hT (by rw [g.2.1 _ _ (by omega)]) (fun k => by rw [g.2.1 _ _ (by omega)])
  have hE1 : zXE C1 e E := zXE_of hE (fun c k _ _ => g.2.1 c k (by omega))
  exact lq105 (C := C) hS h0 ht hW.1 12 0 C1 (eo E) (tN n b τ.2.2) (by omega) (Or.inl rfl) hT1 g.1 (tN_v v4) (by rw [g.2.1 _ _ (by omega)]; exact h2) ⟨eO E, Nat.zero_le _, hE1⟩ (fun c k q1 q2 => g.2.1 c k (by omega)) g.2.2
end
