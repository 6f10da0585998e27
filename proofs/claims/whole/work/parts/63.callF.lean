/-! THE CALLS, both sides: trades, again, deal, runs, powers -/
section
variable {X : zX} {S : zx_S} {C : zx_C} {q : Int32 → zx_C → Prop} {e a : Nat} {D : zDD} {E : zT}
theorem mGain_b {E : zT} (hW : zWF E) {i j : Nat} (hi : i < eT E) (hj : j < eT E) : 0 ≤ mGain E i j ∧ mGain E i j ≤ 198 := by
  have h1 := hW.2.2.2.2.2.2.2.1 i hi
  have h2 := hW.2.2.2.2.2.2.2.1 j hj
  unfold mGain
  by_cases c1 : ew E i = -1
  · rw [if_pos c1]; omega
  · rw [if_neg c1]
    by_cases c2 : ew E j = -1
    · rw [if_pos c2]; omega
    · rw [if_neg c2]
      by_cases c3 : ew E i = ew E j
      · rw [if_pos c3]; omega
      · rw [if_neg c3]
        have w := hW.2.2.2.2.2.2.2.2
        have w1 := w (ew E i).toNat j (by omega) hj
        have w2 := w (ew E i).toNat i (by omega) hi
        have w3 := w (ew E j).toNat i (by omega) hi
        have w4 := w (ew E j).toNat j (by omega) hj
        split
        · split <;> omega
        · omega
/-- gainOf -/
theorem sp244 (hS : zs_5 S a) (hE : zME C a E) (hW : zWF E) {i j : Nat} (hi : i < eT E) (hj : j < eT E) : zCd X 0 244 [.ref a, .int (zi i), .int (zi j)] S C (zQi q) = q (zi (mGain E i j)) C := by
  refine zc_eI (fun q h => vc244 hS ?_) q
  have hn := hW.1
  have hT := hW.2.1
  have o1 := hW.2.2.2.2.2.2.2.1 i hi
  have o2 := hW.2.2.2.2.2.2.2.1 j hj
  have vi : vp_in (zi (i : Int)) 8 := zi_in (by omega) (by omega) (by omega)
  have vj : vp_in (zi (j : Int)) 8 := zi_in (by omega) (by omega) (by omega)
  refine ⟨vi, vj, ?_⟩
  rw [zi_ix (by omega) (by omega), zi_ix (by omega) (by omega), Int.toNat_natCast, Int.toNat_natCast, hE.2.2.2.2.2.2.2.2.1 i hi, hE.2.2.2.2.2.2.2.2.1 j hj, zi_m1, zi_0, zeq_i (by omega), zeq_i (by omega), zeq_i (by omega)]
  unfold mGain at h
  by_cases c1 : ew E i = -1
  · rw [if_pos c1] at h ⊢; exact h
  · rw [if_neg c1] at h ⊢
    by_cases c2 : ew E j = -1
    · rw [if_pos c2] at h ⊢; exact h
    · rw [if_neg c2] at h ⊢
      by_cases c3 : ew E i = ew E j
      · rw [if_pos c3] at h ⊢; exact h
      · rw [if_neg c3] at h ⊢
        have vo1 : vp_in (zi (ew E i)) 3 := zi_in (by omega) (by omega) (by omega)
        have vo2 : vp_in (zi (ew E j)) 3 := zi_in (by omega) (by omega) (by omega)
        have w := hW.2.2.2.2.2.2.2.2
        have w1 := w (ew E i).toNat j (by omega) hj
        have w2 := w (ew E i).toNat i (by omega) hi
        have w3 := w (ew E j).toNat i (by omega) hi
        have w4 := w (ew E j).toNat j (by omega) hj
        have u := hE.2.2.2.2.2.2.2.2.2
        rw [zi_ix (a := ew E i) (by omega) (by omega), zi_ix (a := ew E j) (by omega) (by omega), u (ew E i).toNat j (by omega) hj, u (ew E i).toNat i (by omega) hi, u (ew E j).toNat i (by omega) hi, u (ew E j).toNat j (by omega) hj, zlt_i (by omega), zlt_i (by omega), zi_sub, zi_add, zi_sub]
        refine ⟨vj, vo1, vi, vo1, ?_⟩
        by_cases c4 : eu E (ew E i).toNat i < eu E (ew E i).toNat j
        · rw [if_pos (by omega)] at h
          rw [if_pos c4]
          refine ⟨vi, vo2, vj, vo2, ?_⟩
          by_cases c5 : eu E (ew E j).toNat j < eu E (ew E j).toNat i
          · rw [if_pos (by omega)] at h
            rw [if_pos c5]
            refine ⟨vj, vo1, vi, vo1, vi, vo2, vj, vo2, ?_⟩
            rw [show eu E (ew E i).toNat j - eu E (ew E i).toNat i + eu E (ew E j).toNat i - eu E (ew E j).toNat j = eu E (ew E i).toNat j - eu E (ew E i).toNat i + (eu E (ew E j).toNat i - eu E (ew E j).toNat j) by omega]
            exact h
          · rw [if_neg (by omega)] at h
            rw [if_neg c5]
            exact h
        · rw [if_neg (by omega)] at h
          rw [if_neg c4]
          exact h
/-- trades gone through: how many, the greatest gain, which -/
def mTs (E : zT) (i j : Nat) (s : Nat × Int × Option Nat) : Nat × Int × Option Nat := (s.1 + (if 0 < mGain E i j then 1 else 0), if s.2.1 < mGain E i j then (mGain E i j, some (10 * i + j)) else s.2)
def mTi (E : zT) (i : Nat) (s : Nat × Int × Option Nat) : Nat → Nat × Int × Option Nat
  | 0 => s
  | n + 1 => mTs E i (i + 1 + n) (mTi E i s n)
def mTo (E : zT) : Nat → Nat × Int × Option Nat
  | 0 => (0, 0, none)
  | i + 1 => mTi E i (mTo E i) (eT E - (i + 1))
/-- what's kept of it -/
def zTb (s : Nat × Int × Option Nat) (k : Nat) : Prop := s.1 ≤ k ∧ 0 ≤ s.2.1 ∧ s.2.1 ≤ 198 ∧ (s.1 = 0 ↔ s.2.2 = none) ∧ (s.2.1 = 0 ↔ s.2.2 = none) ∧ ∀ x, s.2.2 = some x → x ≤ 100
theorem zTb_s {E : zT} (hW : zWF E) {i j k : Nat} (hi : i < eT E) (hj : j < eT E) {s : Nat × Int × Option Nat} (h : zTb s k) : zTb (mTs E i j s) (k + 1) := by
  obtain ⟨h1, h2, h3, h4, h5, h6⟩ := h
  have hg := mGain_b hW hi hj
  have hT := hW.2.1
  unfold mTs
  by_cases c : s.2.1 < mGain E i j
  · rw [if_pos c, if_pos (show 0 < mGain E i j by omega)]
    refine ⟨by show s.1 + 1 ≤ k + 1; omega, hg.1, hg.2, ⟨fun q => by have : s.1 + 1 = 0 := q; omega, fun q => by cases q⟩, ⟨fun q => by have : mGain E i j = 0 := q; omega, fun q => by cases q⟩, fun x hx => ?_⟩
    cases hx
    omega
  · rw [if_neg c]
    refine ⟨by show s.1 + (if 0 < mGain E i j then 1 else 0) ≤ k + 1; split <;> omega, h2, h3, ?_, h5, h6⟩
    show s.1 + (if 0 < mGain E i j then 1 else 0) = 0 ↔ s.2.2 = none
    by_cases c2 : 0 < mGain E i j
    · rw [if_pos c2]
      refine ⟨fun q => by omega, fun q => ?_⟩
      have := h5.mpr q
      omega
    · rw [if_neg c2]
      exact h4
def z5 : Option Nat → Int
  | none => -5
  | some k => (k : Int)
theorem lq143b (hS : zs_4 S e) (hE : zXE C (e + 1) E) (hW : zWF E) {i : Nat} (hi : i < eT E) (x : Int32) {s0 : Nat × Int × Option Nat} {k0 : Nat} (h0 : zTb s0 k0) (hk0 : k0 ≤ 100) (K : ∀ (j' z' : Value), zTb (mTi E i s0 (eT E - (i + 1))) (k0 + 8) → zW X 3 143 27 [.ref e, .int x, .int (zi (mTi E i s0 (eT E - (i + 1))).1), .int (zi (mTi E i s0 (eT E - (i + 1))).2.1), .int (zi (z5 (mTi E i s0 (eT E - (i + 1))).2.2)), .int (zi ((i + 1 : Nat) : Int)), j', z'] [] S C (zQi q)) : ∀ (t n : Nat) (z7 : Value), i + 1 + n + t = eT E → zTb (mTi E i s0 n) (k0 + n) → zW X 3 143 45 [.ref e, .int x, .int (zi (mTi E i s0 n).1), .int (zi (mTi E i s0 n).2.1), .int (zi (z5 (mTi E i s0 n).2.2)), .int (zi i), .int (zi ((i + 1 + n : Nat) : Int)), z7] [] S C (zQi q) := by
  have hT := hW.2.1
  intro t
  induction t with
  | zero =>
    intro n z7 hn hb
    refine vc143_45 (a1 := 0) hS ?_
    rw [hE.2.1, zlt_f (by omega), zi_s]
    rw [show eT E - (i + 1) = n by omega] at K
    exact K _ _ ⟨by have := hb.1; omega, hb.2⟩
  | succ t ih =>
    intro n z7 hn hb
    refine vc143_45 (a1 := 0) hS ?_
    have hg := mGain_b hW hi (show i + 1 + n < eT E by omega)
    have hb2 := zTb_s hW hi (show i + 1 + n < eT E by omega) hb
    have ih2 := fun z => ih (n + 1) z (by omega) hb2
    simp only [mTi, mTs] at ih2
    obtain ⟨h1, h2, h3, h4, h5, h6⟩ := hb
    rw [hE.2.1, zlt_t (by omega), sp144 (zo_4_0 hS) hE hW hi (by omega), zi_s, zi_s, zi_0, zi_10, zi_mul, zi_add, zi_add, Int.add_zero, zlt_i (by omega), zlt_i (by omega), zlt_i (by omega)]
    by_cases c : (mTi E i s0 n).2.1 < mGain E i (i + 1 + n)
    · rw [if_pos (show 0 < mGain E i (i + 1 + n) by omega), if_pos c]
      simp only [if_pos c, if_pos (show 0 < mGain E i (i + 1 + n) by omega)] at ih2
      have := ih2 (.int (zi (mGain E i (i + 1 + n))))
      have e5 : z5 (some (10 * i + (i + 1 + n))) = 10 * (i : Int) + ((i + 1 + n : Nat) : Int) := by
        show ((10 * i + (i + 1 + n) : Nat) : Int) = _
        omega
      rw [e5] at this
      exact this
    · simp only [if_neg c] at ih2
      by_cases c2 : 0 < mGain E i (i + 1 + n)
      · rw [if_pos c2, if_neg c]
        simp only [if_pos c2] at ih2
        exact ih2 _
      · rw [if_neg c2, if_neg c]
        simp only [if_neg c2] at ih2
        exact ih2 _

theorem lq143a (hS : zs_4 S e) (hI : zIX C e D) (hW : zWI D) {x : Int} (hx : 0 ≤ x ∧ x ≤ 1) : ∀ (t i : Nat) (z6 z7 : Value), i + t = eT (gE D) → zTb (mTo (gE D) i) (8 * i) → ((x = 0 ∨ (mTo (gE D) (eT (gE D))).1 ≠ 0) → q (zi (if x = 0 then ((mTo (gE D) (eT (gE D))).1 : Int) else z5 (mTo (gE D) (eT (gE D))).2.2)) C) → (x = 1 → (mTo (gE D) (eT (gE D))).1 = 0 → zCd X 1 10 [.ref e, .int (-5)] S C (zQi (fun r1 C1 => q r1 C1))) → zW X 3 143 27 [.ref e, .int (zi x), .int (zi (mTo (gE D) i).1), .int (zi (mTo (gE D) i).2.1), .int (zi (z5 (mTo (gE D) i).2.2)), .int (zi i), z6, z7] [] S C (zQi q) := by
  have hT := hW.1.2.1
  intro t
  induction t with
  | zero =>
    intro i z6 z7 hi hb K1 K2
    refine vc143_27 (a1 := 0) hS ?_
    have hi2 : i = eT (gE D) := by omega
    have hb1 := hb.1
    rw [hI.1.2.1, zlt_f (by omega), zi_0, zeq_i (by omega), zeq_i (by omega), hi2]
    by_cases c : x = 0
    · rw [if_pos c]
      have := K1 (Or.inl c)
      rwa [if_pos c] at this
    · rw [if_neg c]
      by_cases c2 : ((mTo (gE D) (eT (gE D))).1 : Int) = 0
      · rw [if_pos c2]
        exact K2 (by omega) (by omega)
      · rw [if_neg c2]
        have := K1 (Or.inr (by omega))
        rwa [if_neg c] at this
  | succ t ih =>
    intro i z6 z7 hi hb K1 K2
    refine vc143_27 (a1 := 0) hS ?_
    rw [hI.1.2.1, zlt_t (by omega), zi_s]
    exact lq143b (x := zi x) hS hI.1 hW.1 (by omega) hb (by omega) (fun j' z' h => ih (i + 1) j' z' (by omega) (show zTb (mTo (gE D) (i + 1)) (8 * (i + 1)) from h) K1 K2) (eT (gE D) - (i + 1)) 0 z7 (by omega) hb
theorem lq243b (hS : zs_5 S a) (hE : zME C a E) (hW : zWF E) {i : Nat} (hi : i < eT E) (x : Int32) {s0 : Nat × Int × Option Nat} {k0 : Nat} (h0 : zTb s0 k0) (hk0 : k0 ≤ 100) (K : ∀ (j' z' : Value), zTb (mTi E i s0 (eT E - (i + 1))) (k0 + 8) → zW X 1 243 27 [.ref a, .int x, .int (zi (mTi E i s0 (eT E - (i + 1))).1), .int (zi (zo (mTi E i s0 (eT E - (i + 1))).2.2)), .int (zi (mTi E i s0 (eT E - (i + 1))).2.1), .int (zi ((i + 1 : Nat) : Int)), j', z'] [] S C (zQi q)) : ∀ (t n : Nat) (z7 : Value), i + 1 + n + t = eT E → zTb (mTi E i s0 n) (k0 + n) → zW X 1 243 42 [.ref a, .int x, .int (zi (mTi E i s0 n).1), .int (zi (zo (mTi E i s0 n).2.2)), .int (zi (mTi E i s0 n).2.1), .int (zi i), .int (zi ((i + 1 + n : Nat) : Int)), z7] [] S C (zQi q) := by
  have hT := hW.2.1
  intro t
  induction t with
  | zero =>
    intro n z7 hn hb
    refine vc243_42 (a1 := 0) hS ?_
    rw [hE.2.1, zlt_f (by omega), zi_s]
    rw [show eT E - (i + 1) = n by omega] at K
    exact K _ _ ⟨by have := hb.1; omega, hb.2⟩
  | succ t ih =>
    intro n z7 hn hb
    refine vc243_42 (a1 := 0) hS ?_
    have hg := mGain_b hW hi (show i + 1 + n < eT E by omega)
    have hb2 := zTb_s hW hi (show i + 1 + n < eT E by omega) hb
    have ih2 := fun z => ih (n + 1) z (by omega) hb2
    simp only [mTi, mTs] at ih2
    obtain ⟨h1, h2, h3, h4, h5, h6⟩ := hb
    rw [hE.2.1, zlt_t (by omega), sp244 hS hE hW hi (by omega), zi_s, zi_s, zi_0, zi_10, zi_mul, zi_add, zi_add, Int.add_zero, zlt_i (by omega), zlt_i (by omega), zlt_i (by omega)]
    by_cases c : (mTi E i s0 n).2.1 < mGain E i (i + 1 + n)
    · rw [if_pos (show 0 < mGain E i (i + 1 + n) by omega), if_pos c]
      simp only [if_pos c, if_pos (show 0 < mGain E i (i + 1 + n) by omega)] at ih2
      have := ih2 (.int (zi (mGain E i (i + 1 + n))))
      rw [zo_s, show ((10 * i + (i + 1 + n) : Nat) : Int) = 10 * (i : Int) + ((i + 1 + n : Nat) : Int) by omega] at this
      exact this
    · simp only [if_neg c] at ih2
      by_cases c2 : 0 < mGain E i (i + 1 + n)
      · rw [if_pos c2, if_neg c]
        simp only [if_pos c2] at ih2
        exact ih2 _
      · rw [if_neg c2, if_neg c]
        simp only [if_neg c2] at ih2
        exact ih2 _
theorem lq243a (hS : zs_5 S a) (hI : zIM S C a D) (hW : zWI D) {x : Int} (hx : 0 ≤ x ∧ x ≤ 1) : ∀ (t i : Nat) (z6 z7 : Value), i + t = eT (gE D) → zTb (mTo (gE D) i) (8 * i) → ((x = 0 ∨ (mTo (gE D) (eT (gE D))).1 ≠ 0) → q (zi (if x = 0 then ((mTo (gE D) (eT (gE D))).1 : Int) else z5 (mTo (gE D) (eT (gE D))).2.2)) C) → (x = 1 → (mTo (gE D) (eT (gE D))).1 = 0 → zCd X 0 160 [.ref a, .int (-5)] S C (zQi (fun r1 C1 => q r1 C1))) → zW X 1 243 27 [.ref a, .int (zi x), .int (zi (mTo (gE D) i).1), .int (zi (zo (mTo (gE D) i).2.2)), .int (zi (mTo (gE D) i).2.1), .int (zi i), z6, z7] [] S C (zQi q) := by
  have hT := hW.1.2.1
  intro t
  induction t with
  | zero =>
    intro i z6 z7 hi hb K1 K2
    refine vc243_27 (a1 := 0) hS ?_
    have hi2 : i = eT (gE D) := by omega
    rw [hi2] at hb
    obtain ⟨h1, h2, h3, h4, h5, h6⟩ := hb
    have hzb := zo_b (o := (mTo (gE D) (eT (gE D))).2.2) (fun k hk => by have := h6 k hk; omega)
    rw [hI.1.2.1, zlt_f (by omega), zi_m1, zi_0, zeq_i (by omega), hi2, zeq_i (by omega)]
    by_cases c : x = 0
    · rw [if_pos c]
      have := K1 (Or.inl c)
      rwa [if_pos c] at this
    · rw [if_neg c]
      cases ho : (mTo (gE D) (eT (gE D))).2.2 with
      | none =>
        rw [zo_n, if_pos rfl]
        exact K2 (by omega) (h4.mpr ho)
      | some k =>
        rw [zo_s, if_neg (by omega)]
        have := K1 (Or.inr (fun h => by rw [h4.mp h] at ho; cases ho))
        rw [if_neg c, ho] at this
        exact this
  | succ t ih =>
    intro i z6 z7 hi hb K1 K2
    refine vc243_27 (a1 := 0) hS ?_
    rw [hI.1.2.1, zlt_t (by omega), zi_s]
    exact lq243b (x := zi x) hS hI.1 hW.1 (by omega) hb (by omega) (fun j' z' h => ih (i + 1) j' z' (by omega) (show zTb (mTo (gE D) (i + 1)) (8 * (i + 1)) from h) K1 K2) (eT (gE D) - (i + 1)) 0 z7 (by omega) hb
theorem zTb_0 {E : zT} : zTb (mTo E 0) (8 * 0) := ⟨Nat.le_refl 0, Int.le_refl 0, (by decide : (0 : Int) ≤ 198), ⟨fun _ => rfl, fun _ => rfl⟩, ⟨fun _ => rfl, fun _ => rfl⟩, fun x hx => by cases hx⟩
/-- trades -/
theorem cl_trades (hX : zs_4 S e) (hM : zs_5 S a) (hW : zWI D) {x : Int} (hx : -2147483648 ≤ x ∧ x < 2147483648) : zBI X S e a D 3 143 [.int (zi x)] 1 243 [.int (zi x)] := by
  by_cases c1 : 0 ≤ x ∧ x ≤ 1
  · by_cases c2 : x = 0 ∨ (mTo (gE D) (eT (gE D))).1 ≠ 0
    · refine ⟨zi (if x = 0 then ((mTo (gE D) (eT (gE D))).1 : Int) else z5 (mTo (gE D) (eT (gE D))).2.2), D, hW, fun C hI => vc143 hX ?_, fun C hI => vc243 hM ?_⟩
      · rw [show (-5 : Int32) = zi (-5) from rfl, zi_0, zi_1, zlt_f (by omega), zlt_f (by omega)]
        exact lq143a hX hI hW c1 (eT (gE D)) 0 _ _ (by omega) zTb_0 (fun _ => ⟨rfl, hI, zOut_r _ _ _⟩) (fun h1 h2 => by omega)
      · rw [spin (l := 0) (m := 1) hx rfl rfl, zb_t (by omega), zi_m1, zi_0]
        exact lq243a hM hI hW c1 (eT (gE D)) 0 _ _ (by omega) zTb_0 (fun _ => ⟨rfl, hI, zOut_r _ _ _⟩) (fun h1 h2 => by omega)
    · refine ⟨zi (-5), zRf D (-5), hW, fun C hI => vc143 hX ?_, fun C hI => vc243 hM ?_⟩
      · rw [show (-5 : Int32) = zi (-5) from rfl, zi_0, zi_1, zlt_f (by omega), zlt_f (by omega)]
        exact lq143a hX hI hW c1 (eT (gE D)) 0 _ _ (by omega) zTb_0 (fun h => absurd h c2) (fun h1 h2 => xrf (n := -5) hX hI (by omega))
      · rw [spin (l := 0) (m := 1) hx rfl rfl, zb_t (by omega), zi_m1, zi_0]
        exact lq243a hM hI hW c1 (eT (gE D)) 0 _ _ (by omega) zTb_0 (fun h => absurd h c2) (fun h1 h2 => mrf (n := -5) hM hW hI (by omega))
  · refine ⟨zi (-2), zRf D (-2), hW, fun C hI => vc143 hX ?_, fun C hI => vc243 hM ?_⟩
    · rw [z_m2, zi_0, zi_1]
      by_cases c4 : x < 0
      · rw [zlt_t (by omega)]; exact xrf hX hI (by omega)
      · rw [zlt_f (by omega), zlt_t (by omega)]; exact xrf hX hI (by omega)
    · rw [spin (l := 0) (m := 1) hx rfl rfl, zb_f (by omega), z_m2]; exact mrf hM hW hI (by omega)
/-- again -/
def sAgain (E : zT) : zT := ((eN E, eT E, eL E, 0, eD E, eO E), eo E, eb E, (fun _ => -1), eu E)
theorem wAgain {E : zT} (h : zWF E) : zWF (sAgain E) := ⟨h.1, h.2.1, h.2.2.1, Nat.zero_le _, h.2.2.2.2.1, h.2.2.2.2.2.1, h.2.2.2.2.2.2.1, fun k _ => by show (-1 : Int) ≤ -1 ∧ (-1 : Int) < eN E; omega, h.2.2.2.2.2.2.2.2⟩
def mGone (E : zT) : Nat → Nat
  | 0 => 0
  | n + 1 => mGone E n + if ew E n = -1 then 0 else 1
theorem mGone_c {E : zT} : ∀ j, mCnt (mOwn E (-1)) j + mGone E (min j (eT E)) = min j (eT E) := by
  intro j
  induction j with
  | zero => rw [Nat.zero_min]; rfl
  | succ j ih =>
    simp only [mCnt]
    have hb : (mOwn E (-1)).testBit j = (decide (j < eT E) && decide (ew E j = -1)) := mSet_bit _ _ _
    rw [hb]
    by_cases c : j < eT E
    · rw [show min j (eT E) = j by omega] at ih
      rw [show min (j + 1) (eT E) = j + 1 by omega]
      simp only [mGone]
      by_cases c2 : ew E j = -1
      · rw [if_pos (by simp [c, c2]), if_pos c2]; omega
      · rw [if_neg (by simp [c2]), if_neg c2]; omega
    · rw [show min j (eT E) = eT E by omega] at ih
      rw [show min (j + 1) (eT E) = eT E by omega, if_neg (by simp [c])]
      omega
theorem mGone_T {E : zT} (hW : zWF E) : ((mGone E (eT E) : Nat) : Int) = (eT E : Int) - (mCnt (mOwn E (-1)) 8 : Int) := by
  have h := mGone_c (E := E) 8
  have hT := hW.2.1
  rw [show min 8 (eT E) = eT E by omega] at h
  omega
/-- while all is let go -/
def sAg (E : zT) (i : Nat) : zT := (E.1, eo E, eb E, (fun k => if k < i then -1 else ew E k), eu E)
theorem wAg {E : zT} (h : zWF E) {i : Nat} : zWF (sAg E i) := by
  refine ⟨h.1, h.2.1, h.2.2.1, h.2.2.2.1, h.2.2.2.2.1, h.2.2.2.2.2.1, h.2.2.2.2.2.2.1, fun k hk => ?_, h.2.2.2.2.2.2.2.2⟩
  show -1 ≤ (if k < i then -1 else ew E k) ∧ (if k < i then -1 else ew E k) < eN E
  by_cases c : k < i
  · rw [if_pos c]; omega
  · rw [if_neg c]; exact h.2.2.2.2.2.2.2.1 k hk
theorem sAg_s {E : zT} {i : Nat} : sOwn (sAg E i) i (-1) = sAg E (i + 1) := by
  unfold sOwn sAg
  have : (fun k => if k = i then (-1 : Int) else if k < i then -1 else ew E k) = fun k => if k < i + 1 then -1 else ew E k := by
    funext k
    by_cases c : k = i
    · rw [if_pos c, if_pos (by omega)]
    · rw [if_neg c]
      by_cases c2 : k < i
      · rw [if_pos c2, if_pos (by omega)]
      · rw [if_neg c2, if_neg (by omega)]
  exact congrArg (fun f => (E.1, eo E, eb E, f, eu E)) this
theorem sAg_0 {E : zT} : sAg E 0 = E := by
  unfold sAg
  have : (fun k => if k < 0 then (-1 : Int) else ew E k) = ew E := by
    funext k
    exact if_neg (Nat.not_lt_zero k)
  rw [this]
theorem xE_ag {C : zx_C} {e : Nat} {E : zT} (h : zXE C e (sAg E (eT E))) : zXE (zp C e 3 0) e (sAgain E) := by
  have h1 : zXE (zp C e 3 (zi ((0 : Nat) : Int))) e (sTurn (sAg E (eT E)) 0) := xE_Turn h
  obtain ⟨v1, v2, v3, v4, v5, v6, v7, v8, v9, v10⟩ := h1
  refine ⟨v1, v2, v3, v4, v5, v6, v7, v8, fun k hk => ?_, v10⟩
  have hk2 : k < eT E := hk
  have := v9 k hk
  rw [show (zp C e 3 0) = (zp C e 3 (zi ((0 : Nat) : Int))) from rfl, this]
  show zi (if k < eT E then (-1 : Int) else ew E k) = zi (-1)
  rw [if_pos hk2]
theorem mE_ag {C : zx_C} {e : Nat} {E : zT} (h : zME C e (sAg E (eT E))) : zME (zp C e 18 0) e (sAgain E) := by
  have h1 : zME (zp C e 18 (zi ((0 : Nat) : Int))) e (sTurn (sAg E (eT E)) 0) := mE_Turn h
  obtain ⟨v1, v2, v3, v4, v5, v6, v7, v8, v9, v10⟩ := h1
  refine ⟨v1, v2, v3, v4, v5, v6, v7, v8, fun k hk => ?_, v10⟩
  have hk2 : k < eT E := hk
  have := v9 k hk
  rw [show (zp C e 18 0) = (zp C e 18 (zi ((0 : Nat) : Int))) from rfl, this]
  show zi (if k < eT E then (-1 : Int) else ew E k) = zi (-1)
  rw [if_pos hk2]
theorem lq148 (hS : zs_4 S e) (hW : zWF E) (K : ∀ C1 : zx_C, zXE C1 (e + 1) (sAg E (eT E)) → (∀ b k, b ≠ e + 4 → C1.1 b k = C.1 b k) → C1.2 = C.2 → q (zi (mGone E (eT E))) (zp C1 (e + 1) 3 0)) : ∀ (j i : Nat) (C0 : zx_C), i + j = eT E → zXE C0 (e + 1) (sAg E i) → (∀ b k, b ≠ e + 4 → C0.1 b k = C.1 b k) → C0.2 = C.2 → zW X 2 148 4 [.ref e, .int (zi (mGone E i)), .int (zi i)] [] S C0 (zQi q) := by
  have hT := hW.2.1
  have hn := hW.1
  intro j
  induction j with
  | zero =>
    intro i C0 hi g1 g2 g3
    refine vc148_4 hS ?_
    have g11 : C0.1 (e + 1) 1 = zi (eT E) := g1.2.1
    rw [g11, zlt_f (by omega)]
    rw [show i = eT E by omega] at g1 ⊢
    exact K C0 g1 g2 g3
  | succ j ih =>
    intro i C0 hi g1 g2 g3
    refine vc148_4 hS ?_
    have g11 : C0.1 (e + 1) 1 = zi (eT E) := g1.2.1
    have o := hW.2.2.2.2.2.2.2.1 i (by omega)
    have ew1 : ew (sAg E i) i = ew E i := if_neg (Nat.lt_irrefl i)
    have nx := xE_Own (x := i) (v := -1) g1
    rw [sAg_s] at nx
    have ih2 := ih (i + 1) _ (by omega) nx (fun b k hb => by rw [zp_ne (by omega), g2 b k hb]) g3
    simp only [mGone] at ih2
    rw [g11, zlt_t (by omega), sp80 (zo_4_0 hS) g1 (wAg hW) (by show i < eT E; omega), ew1, zi_m1, zeq_i (a := ew E i) (b := -1) (by omega), sp12 (za_0_8 (zo_4_0 hS)) (by omega) (by omega) (by omega), sp12 (za_0_8 (zo_4_0 hS)) (by omega) (by omega) (by omega), zi_s, zi_s, zi_0, zi_add, Int.add_zero, Int.toNat_natCast]
    by_cases c : ew E i = -1
    · rw [if_pos c]
      rw [if_pos c] at ih2
      exact ih2
    · rw [if_neg c]
      rw [if_neg c] at ih2
      exact ih2
theorem lq249 (hS : zs_5 S a) (hW : zWF E) (x : Int32) (K : ∀ C1 : zx_C, zME C1 a (sAg E (eT E)) → (∀ b k, b ≠ a + 27 → C1.1 b k = C.1 b k) → C1.2 = C.2 → q x (zp C1 a 18 0)) : ∀ (j i : Nat) (C0 : zx_C), i + j = eT E → zME C0 a (sAg E i) → (∀ b k, b ≠ a + 27 → C0.1 b k = C.1 b k) → C0.2 = C.2 → zW X 1 249 15 [.ref a, .int x, .int (zi i)] [] S C0 (zQi q) := by
  have hT := hW.2.1
  intro j
  induction j with
  | zero =>
    intro i C0 hi g1 g2 g3
    refine vc249_15 hS ?_
    have g11 : C0.1 a 11 = zi (eT E) := g1.2.1
    rw [g11, zlt_f (by omega)]
    rw [show i = eT E by omega] at g1
    exact K C0 g1 g2 g3
  | succ j ih =>
    intro i C0 hi g1 g2 g3
    refine vc249_15 hS ?_
    have g11 : C0.1 a 11 = zi (eT E) := g1.2.1
    have nx := mE_Own (x := i) (v := -1) (wAg hW) g1
    rw [sAg_s] at nx
    rw [g11, zlt_t (by omega), zi_m1, zi_s, zi_ix (by omega) (by omega), Int.toNat_natCast]
    exact ⟨zi_in (by omega) (by omega) (by omega), ih (i + 1) _ (by omega) nx (fun b k hb => by rw [zp_ne hb, g2 b k hb]) g3⟩
/-- again -/
theorem cl_again (hX : zs_4 S e) (hM : zs_5 S a) (hW : zWI D) : zBI X S e a D 2 148 [] 1 249 [] := by
  refine ⟨zi (mGone (gE D) (eT (gE D))), (sAgain (gE D), D.2), zWI_E hW (wAgain hW.1), fun C hI => vc148 hX ?_, fun C hI => vc249 hM ?_⟩
  · refine lq148 (C := C) hX hW.1 (fun C1 b1 b2 b3 => ?_) (eT (gE D)) 0 C (by omega) (by rw [sAg_0]; exact hI.1) (fun _ _ _ => rfl) rfl
    have hfr : ∀ b k, (b < e + 1 ∨ e + 6 ≤ b) → (zp C1 (e + 1) 3 0).1 b k = C.1 b k := fun b k hb => by rw [zp_ne (by omega), b2 b k (by omega)]
    exact ⟨rfl, zIX_E hI (xE_ag b1) hfr b3, fun b k hb => hfr b k (by omega), fun b k _ => by rw [show (zp C1 (e + 1) 3 0).2 = C.2 from b3]⟩
  · rw [sp172 hM hI.1 hW.1, sp183 (mOwn_lt hW.1 _), hI.1.2.1, zi_sub, ← mGone_T hW.1]
    refine lq249 (C := C) hM hW.1 _ (fun C1 b1 b2 b3 => ?_) (eT (gE D)) 0 C (by omega) (by rw [sAg_0]; exact hI.1) (fun _ _ _ => rfl) rfl
    have hfr : ∀ b k, ¬ (b = a ∧ 10 ≤ k ∧ k ≤ 19) → (b < a + 19 ∨ a + 30 ≤ b) → (zp C1 a 18 0).1 b k = C.1 b k := fun b k h1 h2 => by rw [zp_miss _ _ _ _ (by omega), b2 b k (by omega)]
    exact ⟨rfl, zIM_E hW hI (mE_ag b1) hfr b3, fun b k hb => hfr b k (by omega) (by omega), fun b k _ => by rw [show (zp C1 a 18 0).2 = C.2 from b3]⟩
/-- one thing by draws -/
def mDr (d : Int32) : Int := mHigh d % 100
def sOne (E : zT) : zT := if eN E = 3 then sThing (sSeed E (mSeed (mSeed (mSeed (eD E))))) (mDr (mSeed (eD E))) (mDr (mSeed (mSeed (eD E)))) (mDr (mSeed (mSeed (mSeed (eD E))))) else sThing (sSeed E (mSeed (mSeed (eD E)))) (mDr (mSeed (eD E))) (mDr (mSeed (mSeed (eD E)))) 0
def sDeal (E : zT) : Nat → zT
  | 0 => E
  | n + 1 => sOne (sDeal E n)
theorem mDr_b (d : Int32) : 0 ≤ mDr d ∧ mDr d ≤ 99 := by
  have := mHigh_b d
  unfold mDr
  omega
theorem eT_thing {E : zT} {a b c : Int} : eT (sThing E a b c) = eT E + 1 := rfl
theorem eT_seed {E : zT} {v : Int32} : eT (sSeed E v) = eT E := rfl
theorem eN_seed {E : zT} {v : Int32} : eN (sSeed E v) = eN E := rfl
theorem sSeed_s {E : zT} {v w : Int32} : sSeed (sSeed E v) w = sSeed E w := rfl
theorem wOne {E : zT} (h : zWF E) (hT : eT E < 8) : zWF (sOne E) ∧ eT (sOne E) = eT E + 1 := by
  unfold sOne
  by_cases c : eN E = 3
  · rw [if_pos c]
    exact ⟨wThing (wSeed h) (by rw [eT_seed]; exact hT) (mDr_b _) (mDr_b _) (fun _ => mDr_b _), by rw [eT_thing, eT_seed]⟩
  · rw [if_neg c]
    exact ⟨wThing (wSeed h) (by rw [eT_seed]; exact hT) (mDr_b _) (mDr_b _) (fun q => absurd q (by rw [eN_seed]; exact c)), by rw [eT_thing, eT_seed]⟩
theorem wDeal {E : zT} (h : zWF E) : ∀ n, eT E + n ≤ 8 → zWF (sDeal E n) ∧ eT (sDeal E n) = eT E + n := by
  intro n
  induction n with
  | zero => intro _; exact ⟨h, rfl⟩
  | succ n ih =>
    intro hn
    have h1 := ih (by omega)
    have h2 := wOne h1.1 (by omega)
    exact ⟨h2.1, by rw [show sDeal E (n + 1) = sOne (sDeal E n) from rfl, h2.2, h1.2]; omega⟩
/-- below -/
theorem sp251 (hS : zs_5 S a) : zCd X 0 251 [.ref a, .int (zi 100)] S C (zQi q) = q (zi (mDr (mSeed (C.1 a 19)))) (zp C a 19 (mSeed (C.1 a 19))) := by
  refine zc_eI (fun q h => vc251 hS ⟨by decide, ?_⟩) q
  have hb := mHigh_b (mSeed (C.1 a 19))
  rw [zp_hit]
  show q (((Int32.toUInt32 (mSeed (C.1 a 19)) >>> (Int32.toUInt32 16 &&& Int32.toUInt32 31)).toInt32) - ((Int32.toUInt32 (mSeed (C.1 a 19)) >>> (Int32.toUInt32 16 &&& Int32.toUInt32 31)).toInt32) / zi 100 * zi 100) (zp C a 19 (mSeed (C.1 a 19)))
  rw [← zi_of ((Int32.toUInt32 (mSeed (C.1 a 19)) >>> (Int32.toUInt32 16 &&& Int32.toUInt32 31)).toInt32)]
  show q (zi (mHigh (mSeed (C.1 a 19))) - zi (mHigh (mSeed (C.1 a 19))) / zi 100 * zi 100) (zp C a 19 (mSeed (C.1 a 19)))
  rw [zi_div (by omega) (by omega) (by omega) (by omega), zi_mul, zi_sub, zi_em]
  exact h
theorem lq149 (hS : zs_4 S e) (hW : zWF E) (z1 : Value) {n : Nat} (hn : eT E + n ≤ 8) (K : ∀ C1 : zx_C, zXE C1 (e + 1) (sDeal E n) → (∀ b k, (b < e + 1 ∨ e + 6 ≤ b) → C1.1 b k = C.1 b k) → C1.2 = C.2 → q (zi n) C1) : ∀ (j i : Nat) (C0 : zx_C) (z4 z5 z6 : Value), i + j = n → zXE C0 (e + 1) (sDeal E i) → (∀ b k, (b < e + 1 ∨ e + 6 ≤ b) → C0.1 b k = C.1 b k) → C0.2 = C.2 → zW X 2 149 35 [.ref e, z1, .int (zi n), .int (zi i), z4, z5, z6] [] S C0 (zQi q) := by
  intro j
  induction j with
  | zero =>
    intro i C0 z4 z5 z6 hi g1 g2 g3
    refine vc149_35 (a1 := 0) hS ?_
    rw [zlt_f (by omega)]
    rw [show i = n by omega] at g1
    exact K C0 g1 g2 g3
  | succ j ih =>
    intro i C0 z4 z5 z6 hi g1 g2 g3
    refine vc149_35 (a1 := 0) hS ?_
    have hd := wDeal hW i (by omega)
    have hn2 := hd.1.1
    have hE0 := zo_4_0 hS
    rw [zlt_t (by omega), zi_100, sp150 hE0, sp150 hE0, zp_hit, sp150 hE0, zp_hit, zp_nf (by omega), zp_nf (by omega), g1.1, g1.2.2.2.2.1, zi_2, zlt_i (by omega), zi_s]
    have nx : sDeal E (i + 1) = sOne (sDeal E i) := rfl
    have ih2 := fun C1 z4 z5 z6 => ih (i + 1) C1 z4 z5 z6 (by omega)
    rw [nx] at ih2
    unfold sOne at ih2
    have s2 := xE_Seed (v := mSeed (mSeed (eD (sDeal E i)))) (xE_Seed (v := mSeed (eD (sDeal E i))) g1)
    rw [sSeed_s] at s2
    by_cases c : eN (sDeal E i) = 3
    · rw [if_pos (by omega)]
      simp only [if_pos c] at ih2
      have s3 := xE_Seed (v := mSeed (mSeed (mSeed (eD (sDeal E i))))) s2
      rw [sSeed_s] at s3
      refine zc_mV (sp71 hE0 s3 (wSeed hd.1) (by rw [eT_seed]; omega)) (fun C1 w => ?_)
      refine ih2 C1 _ _ _ w.1 (fun b k hb => ?_) ?_
      · rw [w.2.1 b k (by omega), zp_ne (by omega), zp_ne (by omega), zp_ne (by omega), g2 b k hb]
      · rw [w.2.2]; exact g3
    · rw [if_neg (by omega)]
      simp only [if_neg c] at ih2
      rw [zi_0]
      refine zc_mV (sp71 hE0 s2 (wSeed hd.1) (by rw [eT_seed]; omega)) (fun C1 w => ?_)
      refine ih2 C1 _ _ _ w.1 (fun b k hb => ?_) ?_
      · rw [w.2.1 b k (by omega), zp_ne (by omega), zp_ne (by omega), g2 b k hb]
      · rw [w.2.2]; exact g3
theorem lq250 (hS : zs_5 S a) (hW : zWF E) {n : Nat} (hn : n ≤ 8) (K : ∀ C1 : zx_C, zME C1 a (sDeal E (min n (8 - eT E))) → (∀ b k, ¬ (b = a ∧ 10 ≤ k ∧ k ≤ 19) → (b < a + 19 ∨ a + 30 ≤ b) → C1.1 b k = C.1 b k) → C1.2 = C.2 → q (zi ((min n (8 - eT E) : Nat) : Int)) C1) : ∀ (j i : Nat) (C0 : zx_C) (z4 z5 : Value), i + j = min n (8 - eT E) → zME C0 a (sDeal E i) → (∀ b k, ¬ (b = a ∧ 10 ≤ k ∧ k ≤ 19) → (b < a + 19 ∨ a + 30 ≤ b) → C0.1 b k = C.1 b k) → C0.2 = C.2 → zW X 1 250 21 [.ref a, .int (zi n), .int (zi i), z4, z5] [] S C0 (zQi q) := by
  have hT := hW.2.1
  intro j
  induction j with
  | zero =>
    intro i C0 z4 z5 hi g1 g2 g3
    refine vc250_21 (a1 := 0) hS ?_
    have hd := wDeal hW i (by omega)
    rw [Nat.add_zero] at hi
    have k1 := K C0 (by rw [← hi]; exact g1) g2 g3
    rw [← hi] at k1
    rw [g1.2.1, zi_8, zlt_i (by omega), zlt_i (by omega)]
    by_cases c : i < n
    · rw [if_pos (by omega), if_neg (by omega)]; exact k1
    · rw [if_neg (by omega)]; exact k1
  | succ j ih =>
    intro i C0 z4 z5 hi g1 g2 g3
    refine vc250_21 (a1 := 0) hS ?_
    have hd := wDeal hW i (by omega)
    have hn2 := hd.1.1
    rw [zlt_t (by omega), g1.2.1, zi_8, zlt_t (by omega), zi_100, sp251 hS, sp251 hS, zp_hit, sp251 hS, zp_hit, zp_nf (by omega), zp_nf (by omega), g1.1, g1.2.2.2.2.1, zi_3, zeq_i (by omega), zi_s]
    have nx : sDeal E (i + 1) = sOne (sDeal E i) := rfl
    have ih2 := fun C1 z4 z5 => ih (i + 1) C1 z4 z5 (by omega)
    rw [nx] at ih2
    unfold sOne at ih2
    have s2 := mE_Seed (v := mSeed (mSeed (eD (sDeal E i)))) (mE_Seed (v := mSeed (eD (sDeal E i))) g1)
    rw [sSeed_s] at s2
    by_cases c : eN (sDeal E i) = 3
    · rw [if_pos (by omega)]
      simp only [if_pos c] at ih2
      have s3 := mE_Seed (v := mSeed (mSeed (mSeed (eD (sDeal E i))))) s2
      rw [sSeed_s] at s3
      refine zc_mV (sp188 hS s3 (wSeed hd.1) (by rw [eT_seed]; omega)) (fun C1 w => ?_)
      refine ih2 C1 _ _ w.1 (fun b k h1 h2 => ?_) ?_
      · rw [w.2.1 b k h1 h2, zp_miss _ _ _ _ (by omega), zp_miss _ _ _ _ (by omega), zp_miss _ _ _ _ (by omega), g2 b k h1 h2]
      · rw [w.2.2]; exact g3
    · rw [if_neg (by omega)]
      simp only [if_neg c] at ih2
      rw [zi_0]
      refine zc_mV (sp188 hS s2 (wSeed hd.1) (by rw [eT_seed]; omega)) (fun C1 w => ?_)
      refine ih2 C1 _ _ w.1 (fun b k h1 h2 => ?_) ?_
      · rw [w.2.1 b k h1 h2, zp_miss _ _ _ _ (by omega), zp_miss _ _ _ _ (by omega), g2 b k h1 h2]
      · rw [w.2.2]; exact g3
/-- deal -/
theorem cl_deal (hX : zs_4 S e) (hM : zs_5 S a) (hW : zWI D) {n : Int} (hn : -2147483648 ≤ n ∧ n < 2147483648) : zBI X S e a D 2 149 [.int (zi n)] 1 250 [.int (zi n)] := by
  have hT := hW.1.2.1
  by_cases c1 : 1 ≤ n ∧ n ≤ 8
  · obtain ⟨n, rfl⟩ : ∃ y : Nat, n = y := ⟨n.toNat, by omega⟩
    have hmin : eT (gE D) + min n (8 - eT (gE D)) ≤ 8 := by omega
    refine ⟨zi ((min n (8 - eT (gE D)) : Nat) : Int), (sDeal (gE D) (min n (8 - eT (gE D))), D.2), zWI_E hW (wDeal hW.1 _ hmin).1, fun C hI => vc149 hX ?_, fun C hI => vc250 hM ?_⟩
    · rw [zi_1, zi_8, zlt_f (by omega), zlt_f (by omega), hI.1.2.1, zi_sub, zmin_i (by omega), show (if (8 : Int) - (eT (gE D) : Int) < (n : Int) then (8 : Int) - (eT (gE D) : Int) else (n : Int)) = ((min n (8 - eT (gE D)) : Nat) : Int) by split <;> omega]
      refine lq149 (C := C) hX hW.1 _ hmin (fun C1 b1 b2 b3 => ?_) _ 0 C _ _ _ (Nat.zero_add _) hI.1 (fun _ _ _ => rfl) rfl
      exact ⟨rfl, zIX_E hI b1 b2 b3, fun b k hb => b2 b k (by omega), fun b k _ => by rw [b3]⟩
    · rw [spin (l := 1) (m := 8) hn rfl rfl, zb_t (by omega)]
      refine lq250 (C := C) hM hW.1 (by omega) (fun C1 b1 b2 b3 => ?_) _ 0 C _ _ (Nat.zero_add _) hI.1 (fun _ _ _ _ => rfl) rfl
      exact ⟨rfl, zIM_E hW hI b1 b2 b3, fun b k hb => b2 b k (by omega) (by omega), fun b k _ => by rw [b3]⟩
  · refine ⟨zi (-2), zRf D (-2), hW, fun C hI => vc149 hX ?_, fun C hI => vc250 hM ?_⟩
    · rw [z_m2, zi_1]
      by_cases c4 : n < 1
      · rw [zlt_t (by omega)]; exact xrf hX hI (by omega)
      · rw [zlt_f (by omega), zi_8, zlt_t (by omega)]; exact xrf hX hI (by omega)
    · rw [spin (l := 1) (m := 8) hn rfl rfl, zb_f (by omega), z_m2]; exact mrf hM hW hI (by omega)
end
