/-! THE CALLS, both sides: runs, powers, status, copy, order -/
section
variable {X : zX} {S : zx_S} {C : zx_C} {q : Int32 → zx_C → Prop} {e a : Nat} {D : zDD} {E : zT}
/-- how long the run is by then, how long the longest -/
def mRl (E : zT) (l : Nat) : Nat → Nat × Nat
  | 0 => (0, 0)
  | t + 1 => ((if 0 < t ∧ mAt E l t = mAt E l (t - 1) then (mRl E l t).1 + 1 else 1), max (mRl E l t).2 (if 0 < t ∧ mAt E l t = mAt E l (t - 1) then (mRl E l t).1 + 1 else 1))
theorem mRl_b {E : zT} {l : Nat} (t : Nat) : (mRl E l t).1 ≤ t ∧ (mRl E l t).2 ≤ t := by
  induction t with
  | zero => exact ⟨Nat.le_refl 0, Nat.le_refl 0⟩
  | succ t ih =>
    simp only [mRl]
    split <;> omega
theorem lq112 (hS : zs_4 S e) (hE : zXE C (e + 1) E) (hW : zWF E) {l m : Nat} (hl : l ≤ 3) (hm : m ≤ 4000) : ∀ (j t : Nat) (z7 : Value), t + j = m → q (zi (mRl E l m).2) C → zW X 2 112 37 [.ref e, .int (zi l), .int (zi m), .int (zi (mRl E l t).2), .int (zi (mRl E l t).1), .int (zi (if t = 0 then -1 else mAt E l (t - 1))), .int (zi t), z7] [] S C (zQi q) := by
  have hn := hW.1
  intro j
  induction j with
  | zero =>
    intro t z7 ht hq
    refine vc112_37 (a1 := 0) (a2 := 0) hS ?_
    rw [zlt_f (by omega), show t = m by omega]
    exact hq
  | succ j ih =>
    intro t z7 ht hq
    refine vc112_37 (a1 := 0) (a2 := 0) hS ?_
    have hb := mRl_b (E := E) (l := l) t
    have h1 := mAt_b hW l t
    have h2 := mAt_b hW l (t - 1)
    have ih2 := fun z => ih (t + 1) z (by omega) hq
    simp only [mRl] at ih2
    rw [if_neg (show ¬ t + 1 = 0 by omega), Nat.add_sub_cancel] at ih2
    rw [zlt_t (by omega), sp46 (zo_4_0 hS) hE hW hl (by omega), zeq_i (by split <;> omega), zi_1, zi_add, zi_add, zmax_i (by omega), zmax_i (by omega), show ((t : Int) + 1) = ((t + 1 : Nat) : Int) by omega]
    by_cases c : 0 < t ∧ mAt E l t = mAt E l (t - 1)
    · simp only [if_pos c] at ih2
      rw [if_pos (by rw [if_neg (by omega)]; exact c.2), show (if ((mRl E l t).2 : Int) < ((mRl E l t).1 : Int) + 1 then ((mRl E l t).1 : Int) + 1 else ((mRl E l t).2 : Int)) = ((max (mRl E l t).2 ((mRl E l t).1 + 1) : Nat) : Int) by split <;> omega, show (((mRl E l t).1 : Int) + 1) = (((mRl E l t).1 + 1 : Nat) : Int) by omega]
      exact ih2 _
    · simp only [if_neg c] at ih2
      rw [if_neg (by split <;> omega), show (if ((mRl E l t).2 : Int) < 1 then (1 : Int) else ((mRl E l t).2 : Int)) = ((max (mRl E l t).2 1 : Nat) : Int) by split <;> omega]
      exact ih2 _
theorem lq218 (hS : zs_5 S a) (hE : zME C a E) (hW : zWF E) {l m : Nat} (hl : l ≤ 3) (hm : m ≤ 4000) : ∀ (j t : Nat), t + j = m → q (zi (mRl E l m).2) C → zW X 1 218 39 [.ref a, .int (zi l), .int (zi m), .int (zi (mRl E l t).1), .int (zi (mRl E l t).2), .int (zi t)] [] S C (zQi q) := by
  have hn := hW.1
  intro j
  induction j with
  | zero =>
    intro t ht hq
    refine vc218_39 (a1 := 0) (a2 := 0) hS ?_
    rw [zlt_f (by omega), show t = m by omega]
    exact hq
  | succ j ih =>
    intro t ht hq
    refine vc218_39 (a1 := 0) (a2 := 0) hS ?_
    have hb := mRl_b (E := E) (l := l) t
    have h1 := mAt_b hW l t
    have h2 := mAt_b hW l (t - 1)
    have ih2 := ih (t + 1) (by omega) hq
    simp only [mRl] at ih2
    have one : ¬ (0 < t ∧ mAt E l t = mAt E l (t - 1)) → (if zi (mRl E l t).2 < 1 then zW X 1 218 39 [.ref a, .int (zi l), .int (zi m), .int 1, .int 1, .int (zi t + 1)] [] S C (zQi q) else zW X 1 218 39 [.ref a, .int (zi l), .int (zi m), .int 1, .int (zi (mRl E l t).2), .int (zi t + 1)] [] S C (zQi q)) := by
      intro c
      simp only [if_neg c] at ih2
      rw [zi_s, zi_1, zlt_i (by omega)]
      by_cases c2 : ((mRl E l t).2 : Int) < 1
      · rw [if_pos c2]
        rw [show max (mRl E l t).2 1 = 1 by omega] at ih2
        exact ih2
      · rw [if_neg c2]
        rw [show max (mRl E l t).2 1 = (mRl E l t).2 by omega] at ih2
        exact ih2
    rw [zlt_t (by omega), zi_0, zlt_i (by omega)]
    by_cases c0 : (0 : Int) < (t : Int)
    · rw [if_pos c0, sp178 hS hE hW hl (by omega), show zi (t : Int) - 1 = zi ((t - 1 : Nat) : Int) by rw [zi_1, zi_sub, show ((t : Int) - 1) = ((t - 1 : Nat) : Int) by omega], sp178 hS hE hW hl (by omega), zeq_i (by omega)]
      by_cases c : mAt E l t = mAt E l (t - 1)
      · have cc : 0 < t ∧ mAt E l t = mAt E l (t - 1) := ⟨by omega, c⟩
        simp only [if_pos cc] at ih2
        rw [if_pos c, zi_s, zi_s, zlt_i (by omega)]
        by_cases c2 : ((mRl E l t).2 : Int) < (((mRl E l t).1 + 1 : Nat) : Int)
        · rw [if_pos c2]
          rw [show max (mRl E l t).2 ((mRl E l t).1 + 1) = (mRl E l t).1 + 1 by omega] at ih2
          exact ih2
        · rw [if_neg c2]
          rw [show max (mRl E l t).2 ((mRl E l t).1 + 1) = (mRl E l t).2 by omega] at ih2
          exact ih2
      · rw [if_neg c]
        exact one (fun q => c q.2)
    · rw [if_neg c0]
      exact one (fun q => by omega)
/-- runs -/
theorem cl_runs (hX : zs_4 S e) (hM : zs_5 S a) (hW : zWI D) {l m : Int} (hl : -2147483648 ≤ l ∧ l < 2147483648) (hm : -2147483648 ≤ m ∧ m < 2147483648) : zBI X S e a D 2 112 [.int (zi l), .int (zi m)] 1 218 [.int (zi l), .int (zi m)] := by
  by_cases c1 : 0 ≤ l ∧ l ≤ 3
  · obtain ⟨l, rfl⟩ : ∃ y : Nat, l = y := ⟨l.toNat, by omega⟩
    by_cases c2 : 1 ≤ m ∧ m ≤ 4000
    · obtain ⟨m, rfl⟩ : ∃ y : Nat, m = y := ⟨m.toNat, by omega⟩
      refine ⟨zi (mRl (gE D) l m).2, D, hW, fun C hI => vc112 hX ?_, fun C hI => vc218 hM ?_⟩
      · rw [sp75 hl, zb_t c1, zi_m1, zi_1, show (4000 : Int32) = zi 4000 from rfl, zlt_f (by omega), zlt_f (by omega)]
        exact lq112 hX hI.1 hW.1 (by omega) (by omega) m 0 _ (Nat.zero_add _) ⟨rfl, hI, zOut_r _ _ _⟩
      · rw [spin (l := 0) (m := 3) hl rfl rfl, zb_t (by omega), spin (l := 1) (m := 4000) hm rfl rfl, zb_t (by omega)]
        exact lq218 hM hI.1 hW.1 (by omega) (by omega) m 0 (Nat.zero_add _) ⟨rfl, hI, zOut_r _ _ _⟩
    · refine ⟨zi (-2), zRf D (-2), hW, fun C hI => vc112 hX ?_, fun C hI => vc218 hM ?_⟩
      · rw [sp75 hl, zb_t c1, z_m2, zi_m1, zi_1, show (4000 : Int32) = zi 4000 from rfl]
        by_cases c4 : m < 1
        · rw [zlt_t (by omega)]; exact xrf hX hI (by omega)
        · rw [zlt_f (by omega), zlt_t (by omega)]; exact xrf hX hI (by omega)
      · rw [spin (l := 0) (m := 3) hl rfl rfl, zb_t (by omega), spin (l := 1) (m := 4000) hm rfl rfl, zb_f (by omega), z_m2]; exact mrf hM hW hI (by omega)
  · refine ⟨zi (-2), zRf D (-2), hW, fun C hI => vc112 hX ?_, fun C hI => vc218 hM ?_⟩
    · rw [sp75 hl, zb_f c1, z_m2]; exact xrf hX hI (by omega)
    · rw [spin (l := 0) (m := 3) hl rfl rfl, zb_f (by omega), z_m2]; exact mrf hM hW hI (by omega)
/-- how many shelves hold something, of the model -/
theorem lq255b (hS : zs_5 S a) {H : zH} (hH : zMS C a H) (hW : zWH H) (z1 : Value) : ∀ j i : Nat, i + j = 8 → q (zi (mHeld H 8)) C → zW X 2 255 135 [.ref a, z1, .int (zi (mHeld H i)), .int (zi i)] [] S C (zQi q) := by
  intro j
  induction j with
  | zero =>
    intro i hi hq
    refine vc255_135 (a1 := 0) hS ?_
    rw [zi_8, zlt_f (by omega), show i = 8 by omega]
    exact hq
  | succ j ih =>
    intro i hi hq
    have hw := hW i (by omega)
    obtain ⟨f1, f2, f3⟩ := hH i (by omega)
    refine vc255_135 (a1 := 0) hS ?_
    rw [zi_8, zlt_t (by omega), zi_ix (by omega) (by omega), Int.toNat_natCast]
    refine ⟨zi_in (by omega) (by omega) (by omega), ?_⟩
    have ih2 := ih (i + 1) (by omega) hq
    simp only [mHeld] at ih2
    by_cases c : hk H i = -1
    · rw [if_pos c] at ih2
      rw [f1 c, zi_0, if_pos rfl, zi_add, zi_s, Int.add_zero]
      exact ih2
    · rw [if_neg c] at ih2
      have hne : ¬ C.1 (a + 1) i = 0 := by
        by_cases c2 : hk H i ≤ 4
        · rw [(f2 (by omega) c2).1]; decide
        · rw [(f3 (by omega)).1]; decide
      rw [if_neg hne, zi_s, zi_s]
      exact ih2
theorem lq255a (hS : zs_5 S a) (hW : zWF E) (z1 z2 : Value) : ∀ (j i : Nat) (C0 : zx_C), i + j = eN E → zME C0 a E → (∀ s, s < i → C0.1 (a + 34) s = zi (mHas E s)) → zW X 2 255 88 [.ref a, z1, z2, .int (zi i)] [] S C0 (zQi (fun r C1 => r = zi (mSpread (mHas E) (eN E)) ∧ zFM C0 C1 a)) := by
  have hn := hW.1
  intro j
  induction j with
  | zero =>
    intro i C0 hi g0 g1
    refine vc255_88 (a1 := 0) hS ?_
    rw [g0.1, zlt_f (by omega), sp227 hS hW.1 g0.1 (fun s hs => g1 s (by omega)) (fun s _ => by have := mHas_b hW (s := s); omega)]
    exact ⟨rfl, zFM_r _ _⟩
  | succ j ih =>
    intro i C0 hi g0 g1
    refine vc255_88 (a1 := 0) hS ?_
    rw [g0.1, zlt_t (by omega), sp215 hS g0 hW (by omega), sp216 hS g0 hW (by omega) (mOwn_lt hW _), mWorth_has, zi_s]
    refine ⟨zi_in (by omega) (by omega) (by omega), ?_⟩
    rw [zi_ix (by omega) (by omega), Int.toNat_natCast]
    have hf : zFM C0 (zp C0 (a + 34) i (zi (mHas E i))) a := ⟨fun b k h1 h2 => zp_ne (by omega), rfl⟩
    refine zW_mono (ih (i + 1) _ (by omega) (zFM_E hW hf g0) (fun s hs => ?_)) (fun v C3 u => by obtain ⟨y, e1, u1, u2⟩ := u; exact ⟨y, e1, u1, zFM_t hf u2⟩)
    by_cases c : s = i
    · subst c
      rw [zp_hit]
    · rw [zp_nf c]
      exact g1 s (by omega)
/-- status -/
theorem cl_status (hX : zs_4 S e) (hM : zs_5 S a) (hW : zWI D) {w : Int} (hw : -2147483648 ≤ w ∧ w < 2147483648) : zBI X S e a D 4 154 [.int (zi w)] 2 255 [.int (zi w)] := by
  have hwt : (zi w).toInt = w := zi_toInt hw.1 hw.2
  by_cases w0 : w = 0
  · refine ⟨zi (eN (gE D)), D, hW, fun C hI => vc154 hX ?_, fun C hI => vc255 hM ?_⟩
    · rw [hwt, if_pos w0]; exact ⟨hI.1.1, hI, zOut_r _ _ _⟩
    · rw [hwt, if_pos w0]; exact ⟨hI.1.1, hI, zOut_r _ _ _⟩
  by_cases w1 : w = 0 + 1
  · refine ⟨zi (eT (gE D)), D, hW, fun C hI => vc154 hX ?_, fun C hI => vc255 hM ?_⟩
    · rw [hwt, if_neg w0, if_pos w1]; exact ⟨hI.1.2.1, hI, zOut_r _ _ _⟩
    · rw [hwt, if_neg w0, if_pos w1]; exact ⟨hI.1.2.1, hI, zOut_r _ _ _⟩
  by_cases w2 : w = 0 + 1 + 1
  · refine ⟨zi (mOwn (gE D) (-1)), D, hW, fun C hI => vc154 hX ?_, fun C hI => vc255 hM ?_⟩
    · rw [hwt, if_neg w0, if_neg w1, if_pos w2, zi_m1, sp43 (zo_4_0 hX) hI.1 hW.1 (by omega)]; exact ⟨rfl, hI, zOut_r _ _ _⟩
    · rw [hwt, if_neg w0, if_neg w1, if_pos w2, sp172 hM hI.1 hW.1]; exact ⟨rfl, hI, zOut_r _ _ _⟩
  by_cases w3 : w = 0 + 1 + 1 + 1
  · refine ⟨zi (eL (gE D)), D, hW, fun C hI => vc154 hX ?_, fun C hI => vc255 hM ?_⟩
    · rw [hwt, if_neg w0, if_neg w1, if_neg w2, if_pos w3]; exact ⟨hI.1.2.2.1, hI, zOut_r _ _ _⟩
    · rw [hwt, if_neg w0, if_neg w1, if_neg w2, if_pos w3]; exact ⟨hI.1.2.2.1, hI, zOut_r _ _ _⟩
  by_cases w4 : w = 0 + 1 + 1 + 1 + 1
  · refine ⟨zi (eV (gE D)), D, hW, fun C hI => vc154 hX ?_, fun C hI => vc255 hM ?_⟩
    · rw [hwt, if_neg w0, if_neg w1, if_neg w2, if_neg w3, if_pos w4]; exact ⟨hI.1.2.2.2.1, hI, zOut_r _ _ _⟩
    · rw [hwt, if_neg w0, if_neg w1, if_neg w2, if_neg w3, if_pos w4]; exact ⟨hI.1.2.2.2.1, hI, zOut_r _ _ _⟩
  by_cases w5 : w = 0 + 1 + 1 + 1 + 1 + 1
  · refine ⟨zi (eO (gE D)), D, hW, fun C hI => vc154 hX ?_, fun C hI => vc255 hM ?_⟩
    · rw [hwt, if_neg w0, if_neg w1, if_neg w2, if_neg w3, if_neg w4, if_pos w5]; exact ⟨hI.1.2.2.2.2.2.1, hI, zOut_r _ _ _⟩
    · rw [hwt, if_neg w0, if_neg w1, if_neg w2, if_neg w3, if_neg w4, if_pos w5]; exact ⟨hI.1.2.2.2.2.2.1, hI, zOut_r _ _ _⟩
  by_cases w6 : w = 0 + 1 + 1 + 1 + 1 + 1 + 1
  · refine ⟨zi (mSpread (mHas (gE D)) (eN (gE D))), D, hW, fun C hI => vc154 hX ?_, fun C hI => vc255 hM ?_⟩
    · rw [hwt, if_neg w0, if_neg w1, if_neg w2, if_neg w3, if_neg w4, if_neg w5, if_pos w6]
      exact zc_mI (sp155 hX hI.1 hW.1) (fun r C1 u => ⟨u.1, zIX_T hI u.2, zFX_out u.2⟩)
    · rw [hwt, if_neg w0, if_neg w1, if_neg w2, if_neg w3, if_neg w4, if_neg w5, if_pos w6]
      exact zW_mono (lq255a hM hW.1 _ _ (eN (gE D)) 0 C (Nat.zero_add _) hI.1 (fun s hs => absurd hs (Nat.not_lt_zero s))) (fun v C3 u => by obtain ⟨y, e1, u1, u2⟩ := u; exact ⟨y, e1, u1, zIM_T hW hI u2, zFM_out u2⟩)
  by_cases w7 : w = 0 + 1 + 1 + 1 + 1 + 1 + 1 + 1
  · refine ⟨zi (gn D), D, hW, fun C hI => vc154 hX ?_, fun C hI => vc255 hM ?_⟩
    · rw [hwt, if_neg w0, if_neg w1, if_neg w2, if_neg w3, if_neg w4, if_neg w5, if_neg w6, if_pos w7]; exact ⟨hI.2.2.2.1, hI, zOut_r _ _ _⟩
    · rw [hwt, if_neg w0, if_neg w1, if_neg w2, if_neg w3, if_neg w4, if_neg w5, if_neg w6, if_pos w7]; exact ⟨hI.2.2.2.1, hI, zOut_r _ _ _⟩
  by_cases w8 : w = 0 + 1 + 1 + 1 + 1 + 1 + 1 + 1 + 1
  · refine ⟨eD (gE D), D, hW, fun C hI => vc154 hX ?_, fun C hI => vc255 hM ?_⟩
    · rw [hwt, if_neg w0, if_neg w1, if_neg w2, if_neg w3, if_neg w4, if_neg w5, if_neg w6, if_neg w7, if_pos w8]; exact ⟨hI.1.2.2.2.2.1, hI, zOut_r _ _ _⟩
    · rw [hwt, if_neg w0, if_neg w1, if_neg w2, if_neg w3, if_neg w4, if_neg w5, if_neg w6, if_neg w7, if_pos w8]; exact ⟨hI.1.2.2.2.2.1, hI, zOut_r _ _ _⟩
  by_cases w9 : w = 0 + 1 + 1 + 1 + 1 + 1 + 1 + 1 + 1 + 1
  · refine ⟨zi (mHeld (gH D) 8), D, hW, fun C hI => vc154 hX ?_, fun C hI => vc255 hM ?_⟩
    · rw [hwt, if_neg w0, if_neg w1, if_neg w2, if_neg w3, if_neg w4, if_neg w5, if_neg w6, if_neg w7, if_neg w8, if_pos w9, sp156 (zo_4_4 hX) hI.2.2.1 hW.2.2.1]; exact ⟨rfl, hI, zOut_r _ _ _⟩
    · rw [hwt, if_neg w0, if_neg w1, if_neg w2, if_neg w3, if_neg w4, if_neg w5, if_neg w6, if_neg w7, if_neg w8, if_pos w9]
      exact lq255b hM hI.2.2.1 hW.2.2.1 _ 8 0 rfl ⟨rfl, hI, zOut_r _ _ _⟩
  by_cases c : 12 ≤ w ∧ w ≤ 16
  · refine ⟨gr D (w - 12).toNat, D, hW, fun C hI => vc154 hX ?_, fun C hI => vc255 hM ?_⟩
    · rw [hwt, if_neg w0, if_neg w1, if_neg w2, if_neg w3, if_neg w4, if_neg w5, if_neg w6, if_neg w7, if_neg w8, if_neg w9, zi_12, zi_16, zlt_f (by omega), zlt_f (by omega), zi_sub, sp11 (za_4_5 hX) (by omega) (by omega) (by omega)]
      exact ⟨hI.2.2.2.2.2.1 _ (by omega), hI, zOut_r _ _ _⟩
    · rw [hwt, if_neg w0, if_neg w1, if_neg w2, if_neg w3, if_neg w4, if_neg w5, if_neg w6, if_neg w7, if_neg w8, if_neg w9, spin (l := 12) (m := 16) hw rfl rfl, zb_t (by omega), zi_10, zi_sub, zi_ix (by omega) (by omega), show (w - 10).toNat = (w - 12).toNat + 2 by omega]
      exact ⟨zi_in (by omega) (by omega) (by omega), hI.2.2.2.2.2.1 _ (by omega), hI, zOut_r _ _ _⟩
  · refine ⟨zi (-1), D, hW, fun C hI => vc154 hX ?_, fun C hI => vc255 hM ?_⟩
    · rw [hwt, if_neg w0, if_neg w1, if_neg w2, if_neg w3, if_neg w4, if_neg w5, if_neg w6, if_neg w7, if_neg w8, if_neg w9, zi_12, zi_16]
      by_cases c4 : w < 12
      · rw [zlt_t (by omega)]; exact ⟨rfl, hI, zOut_r _ _ _⟩
      · rw [zlt_f (by omega), zlt_t (by omega)]; exact ⟨rfl, hI, zOut_r _ _ _⟩
    · rw [hwt, if_neg w0, if_neg w1, if_neg w2, if_neg w3, if_neg w4, if_neg w5, if_neg w6, if_neg w7, if_neg w8, if_neg w9, spin (l := 12) (m := 16) hw rfl rfl, zb_f (by omega)]
      exact ⟨rfl, hI, zOut_r _ _ _⟩
end
/-- sums of powers -/
def mPw (E : zT) (l p : Nat) : Nat → Int64
  | 0 => 0
  | t + 1 => if mAt E l t = 0 then mPw E l p t + mPow (zl t) p else if mAt E l t = 1 then mPw E l p t - mPow (zl t) p else mPw E l p t
section
variable {X : zX} {S : zx_S} {C : zx_C} {q : Int64 → zx_C → Prop} {e a : Nat} {D : zDD} {E : zT}
theorem lq114 (hS : zs_4 S e) (hE : zXE C (e + 1) E) (hW : zWF E) {l m p : Nat} (hl : l ≤ 3) (hm : m ≤ 1000) (hp : p ≤ 3) : ∀ (j t : Nat) (z7 : Value), t + j = m → q (mPw E l p m) C → zW X 2 114 45 [.ref e, .int (zi l), .int (zi m), .int (zi p), .long (mPw E l p t), .retAddr 1, .int (zi t), z7] [] S C (zQl q) := by
  have hn := hW.1
  intro j
  induction j with
  | zero =>
    intro t z7 ht hq
    refine vc114_45 (a1 := 0) (a2 := 0) (a3 := 0) hS ?_
    rw [zlt_f (by omega), show t = m by omega]
    exact hq
  | succ j ih =>
    intro t z7 ht hq
    refine vc114_45 (a1 := 0) (a2 := 0) (a3 := 0) hS ?_
    have h1 := mAt_b hW l t
    have ih2 := fun z => ih (t + 1) z (by omega) hq
    simp only [mPw] at ih2
    rw [zlt_t (by omega), sp46 (zo_4_0 hS) hE hW hl (by omega), zi_s, zi_0, zi_1, zeq_i (by omega), zeq_i (a := mAt E l t) (b := 1) (by omega), zl_zi (by omega), sp115 (by omega), sp115 (by omega)]
    by_cases c0 : mAt E l t = 0
    · rw [if_pos c0]
      simp only [if_pos c0] at ih2
      exact ih2 _
    · rw [if_neg c0]
      simp only [if_neg c0] at ih2
      by_cases c1 : mAt E l t = 1
      · rw [if_pos c1]
        simp only [if_pos c1] at ih2
        exact ih2 _
      · rw [if_neg c1]
        simp only [if_neg c1] at ih2
        exact ih2 _
theorem lq219b (hS : zs_5 S a) {l m p t : Nat} {v : Int64} (hp : p ≤ 3) (ht : t ≤ 1000) (K : zW X 1 219 65 [.ref a, .int (zi l), .int (zi m), .int (zi p), .long v, .retAddr 1, .int (zi t), .long (mPow (zl t) p), .retAddr 1, .int (zi p)] [] S C (zQl q)) : ∀ (j k : Nat), k + j = p → zW X 1 219 65 [.ref a, .int (zi l), .int (zi m), .int (zi p), .long v, .retAddr 1, .int (zi t), .long (mPow (zl t) k), .retAddr 1, .int (zi k)] [] S C (zQl q) := by
  intro j
  induction j with
  | zero =>
    intro k hk
    rw [show k = p by omega]
    exact K
  | succ j ih =>
    intro k hk
    refine vc219_65 (a1 := 0) (a2 := 0) (a3 := 0) hS ?_
    rw [zlt_t (by omega), zl_zi (by omega), zi_s]
    exact ih (k + 1) (by omega)
theorem lq219a (hS : zs_5 S a) (hE : zME C a E) (hW : zWF E) {l m p : Nat} (hl : l ≤ 3) (hm : m ≤ 1000) (hp : p ≤ 3) : ∀ (j t : Nat) (z7 z8 z9 : Value), t + j = m → q (mPw E l p m) C → zW X 1 219 53 [.ref a, .int (zi l), .int (zi m), .int (zi p), .long (mPw E l p t), .retAddr 1, .int (zi t), z7, z8, z9] [] S C (zQl q) := by
  have hn := hW.1
  intro j
  induction j with
  | zero =>
    intro t z7 z8 z9 ht hq
    refine vc219_53 (a1 := 0) (a2 := 0) (a3 := 0) hS ?_
    rw [zlt_f (by omega), show t = m by omega]
    exact hq
  | succ j ih =>
    intro t z7 z8 z9 ht hq
    refine vc219_53 (a1 := 0) (a2 := 0) (a3 := 0) hS ?_
    have h1 := mAt_b hW l t
    have ih2 := fun z7 z8 z9 => ih (t + 1) z7 z8 z9 (by omega) hq
    simp only [mPw] at ih2
    rw [zlt_t (by omega)]
    refine lq219b hS hp (by omega) ?_ p 0 (Nat.zero_add _)
    refine vc219_65 (a1 := 0) (a2 := 0) (a3 := 0) hS ?_
    rw [zlt_f (by omega), sp178 hS hE hW hl (by omega), zi_s, zi_0, zi_1, zeq_i (by omega), zeq_i (a := mAt E l t) (b := 1) (by omega)]
    by_cases c0 : mAt E l t = 0
    · rw [if_pos c0]
      simp only [if_pos c0] at ih2
      exact ih2 _ _ _
    · rw [if_neg c0]
      simp only [if_neg c0] at ih2
      by_cases c1 : mAt E l t = 1
      · rw [if_pos c1, ← Int64.sub_eq_add_neg]
        simp only [if_pos c1] at ih2
        exact ih2 _ _ _
      · rw [if_neg c1, Int64.add_zero]
        simp only [if_neg c1] at ih2
        exact ih2 _ _ _
/-- powers -/
theorem cl_powers (hX : zs_4 S e) (hM : zs_5 S a) (hW : zWI D) {l m p : Int} (hl : -2147483648 ≤ l ∧ l < 2147483648) (hm : -2147483648 ≤ m ∧ m < 2147483648) (hp : -2147483648 ≤ p ∧ p < 2147483648) : zBL X S e a D 2 114 [.int (zi l), .int (zi m), .int (zi p)] 1 219 [.int (zi l), .int (zi m), .int (zi p)] := by
  have xr : ∀ C, zIX C e D → zCd X 1 10 [.ref e, .int (zi (-2))] S C (zQi (fun r2 C2 => (-10000000000000) + (Int32.toInt64 r2) = (-10000000000002 : Int64) ∧ zIX C2 e (zRf D (-2)) ∧ zOut C C2 e (e + 42))) := fun C hI => zc_mI (xrf hX hI (by omega)) (fun r C2 w => ⟨by rw [w.1]; decide, w.2⟩)
  have mr : ∀ C, zIM S C a D → zCd X 0 160 [.ref a, .int (zi (-2))] S C (zQi (fun r2 C2 => (-10000000000002 : Int64) = (-10000000000002 : Int64) ∧ zIM S C2 a (zRf D (-2)) ∧ zOut C C2 a (a + 295))) := fun C hI => zc_mI (mrf hM hW hI (by omega)) (fun r C2 w => ⟨rfl, w.2⟩)
  by_cases c1 : 0 ≤ l ∧ l ≤ 3
  · obtain ⟨l, rfl⟩ : ∃ y : Nat, l = y := ⟨l.toNat, by omega⟩
    by_cases c2 : 0 ≤ m ∧ m ≤ 1000
    · by_cases c3 : 0 ≤ p ∧ p ≤ 3
      · obtain ⟨m, rfl⟩ : ∃ y : Nat, m = y := ⟨m.toNat, by omega⟩
        obtain ⟨p, rfl⟩ : ∃ y : Nat, p = y := ⟨p.toNat, by omega⟩
        refine ⟨mPw (gE D) l p m, D, hW, fun C hI => vc114 hX ?_, fun C hI => vc219 hM ?_⟩
        · rw [sp75 hl, zb_t c1, zi_0, zi_3, show (1000 : Int32) = zi 1000 from rfl, zlt_f (by omega), zlt_f (by omega), zlt_f (by omega), zlt_f (by omega)]
          exact lq114 hX hI.1 hW.1 (by omega) (by omega) (by omega) m 0 _ (Nat.zero_add _) ⟨rfl, hI, zOut_r _ _ _⟩
        · rw [spin (l := 0) (m := 3) hl rfl rfl, zb_t (by omega), spin (l := 0) (m := 1000) hm rfl rfl, zb_t (by omega), spin (l := 0) (m := 3) hp rfl rfl, zb_t (by omega)]
          exact lq219a hM hI.1 hW.1 (by omega) (by omega) (by omega) m 0 _ _ _ (Nat.zero_add _) ⟨rfl, hI, zOut_r _ _ _⟩
      · refine ⟨-10000000000002, zRf D (-2), hW, fun C hI => vc114 hX ?_, fun C hI => vc219 hM ?_⟩
        · rw [sp75 hl, zb_t c1, z_m2, zi_0, zi_3, show (1000 : Int32) = zi 1000 from rfl, zlt_f (by omega), zlt_f (by omega)]
          by_cases c4 : p < 0
          · rw [zlt_t (by omega)]; exact xr C hI
          · rw [zlt_f (by omega), zlt_t (by omega)]; exact xr C hI
        · rw [spin (l := 0) (m := 3) hl rfl rfl, zb_t (by omega), spin (l := 0) (m := 1000) hm rfl rfl, zb_t (by omega), spin (l := 0) (m := 3) hp rfl rfl, zb_f (by omega), z_m2]; exact mr C hI
    · refine ⟨-10000000000002, zRf D (-2), hW, fun C hI => vc114 hX ?_, fun C hI => vc219 hM ?_⟩
      · rw [sp75 hl, zb_t c1, z_m2, zi_0, show (1000 : Int32) = zi 1000 from rfl]
        by_cases c4 : m < 0
        · rw [zlt_t (by omega)]; exact xr C hI
        · rw [zlt_f (by omega), zlt_t (by omega)]; exact xr C hI
      · rw [spin (l := 0) (m := 3) hl rfl rfl, zb_t (by omega), spin (l := 0) (m := 1000) hm rfl rfl, zb_f (by omega), z_m2]; exact mr C hI
  · refine ⟨-10000000000002, zRf D (-2), hW, fun C hI => vc114 hX ?_, fun C hI => vc219 hM ?_⟩
    · rw [sp75 hl, zb_f c1, z_m2]; exact xr C hI
    · rw [spin (l := 0) (m := 3) hl rfl rfl, zb_f (by omega), z_m2]; exact mr C hI
end
