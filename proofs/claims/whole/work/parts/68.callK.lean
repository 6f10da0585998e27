/-! THE CALLS, both sides: books, goes -/
/-- owners, and the estate, after so many picks in truth -/
def mOw (E : zT) (ks : Nat → Nat) : Nat → Nat → Int
  | 0, k => ew E k
  | i + 1, k => if k = ks i then mAt E (eL E) (eV E + i) else mOw E ks i k
def sBk (E : zT) (ks : Nat → Nat) (i : Nat) : zT := ((eN E, eT E, eL E, eV E + i, eD E, eO E), eo E, eb E, mOw E ks i, eu E)
theorem sBk_0 {E : zT} {ks : Nat → Nat} : sBk E ks 0 = E := rfl
theorem sBk_s {E : zT} {ks : Nat → Nat} {i : Nat} : sTake (sBk E ks i) (ks i) = sBk E ks (i + 1) := rfl
theorem mAt_bk {E : zT} {ks : Nat → Nat} {i l t : Nat} : mAt (sBk E ks i) l t = mAt E l t := rfl
theorem wBk {E : zT} {ks : Nat → Nat} (h : zWF E) : ∀ i, eV E + i ≤ 1000000000 → zWF (sBk E ks i) := by
  intro i
  induction i with
  | zero => intro _; exact h
  | succ i ih =>
    intro hi
    rw [← sBk_s]
    exact wTake (ih (by omega)) (by show eV E + i < 1000000000; omega)
section
variable {X : zX} {S : zx_S} {C : zx_C} {q : Int32 → zx_C → Prop} {e a : Nat} {D : zDD} {E : zT} {H : zH}
theorem lq141 (hS : zs_4 S e) (hI : zIX C e D) (hW : zWI D) {s n : Nat} (hs : s < 8) (hn : n ≤ 8) (hV : eV (gE D) + n ≤ 1000000000) (hr : 0 ≤ hk (gH D) s ∧ hk (gH D) s ≤ 4) (hz1 : (n : Int) ≤ hz (gH D) s) (hok : ∀ k, k < n → 0 ≤ (hl (gH D) s k).toInt ∧ ((hl (gH D) s k).toInt % 10).toNat < eT (gE D)) (z3 : Value) (K : ∀ C1 : zx_C, zXE C1 (e + 1) (sBk (gE D) (fun k => ((hl (gH D) s k).toInt % 10).toNat) n) → (∀ b k, (b < e + 1 ∨ e + 6 ≤ b) → C1.1 b k = C.1 b k) → C1.2 = C.2 → q (zi n) C1) : ∀ (j i : Nat) (C0 : zx_C), i + j = n → zXE C0 (e + 1) (sBk (gE D) (fun k => ((hl (gH D) s k).toInt % 10).toNat) i) → (∀ b k, (b < e + 1 ∨ e + 6 ≤ b) → C0.1 b k = C.1 b k) → C0.2 = C.2 → zW X 5 141 53 [.ref e, .int (zi s), .int (zi n), z3, .int (zi i)] [] S C0 (zQi q) := by
  intro j
  induction j with
  | zero =>
    intro i C0 hi g1 g2 g3
    refine vc141_53 (a1 := 0) (a2 := 0) hS ?_
    rw [zlt_f (by omega)]
    rw [show i = n by omega] at g1
    exact K C0 g1 g2 g3
  | succ j ih =>
    intro i C0 hi g1 g2 g3
    refine vc141_53 (a1 := 0) (a2 := 0) hS ?_
    have ho := hok i (by omega)
    have hH0 : zXS C0 (e + 18) (gH D) := zXS_of hI.2.2.1 (fun b k _ _ => g2 b k (by omega)) (fun b k _ _ => by rw [g3])
    rw [zlt_t (by omega), sp23 (zo_4_4 hS) hH0 hW.2.2.1 hs (by omega), show mElem (gH D) s (i : Int) = hl (gH D) s i from if_pos ⟨by omega, hr.1, hr.2, by omega⟩, lmod_i ho.1, show zi ((hl (gH D) s i).toInt % 10) = zi (((hl (gH D) s i).toInt % 10).toNat : Int) by rw [Int.toNat_of_nonneg (by omega)], zi_s]
    refine zc_mV (sp142 (zo_4_0 hS) g1 (wBk hW.1 i (by omega)) (k := ((hl (gH D) s i).toInt % 10).toNat) ho.2) (fun C1 w => ?_)
    have w1 : zXE C1 (e + 1) (sBk (gE D) (fun k => ((hl (gH D) s k).toInt % 10).toNat) (i + 1)) := w.1
    exact ih (i + 1) C1 (by omega) w1 (fun b k hb => by rw [w.2.1 b k (by omega), g2 b k hb]) (w.2.2.trans g3)
theorem lq248 (hS : zs_5 S a) (hI : zIM S C a D) (hW : zWI D) {s n : Nat} (hs : s < 8) (hn : n ≤ 8) (hV : eV (gE D) + n ≤ 1000000000) (hr : 0 ≤ hk (gH D) s ∧ hk (gH D) s ≤ 4) (hz1 : (n : Int) ≤ hz (gH D) s) (hok : ∀ k, k < n → 0 ≤ (hl (gH D) s k).toInt ∧ ((hl (gH D) s k).toInt % 10).toNat < eT (gE D) ∧ (hl (gH D) s k).toInt / 10 = mAt (gE D) (eL (gE D)) (eV (gE D) + k)) (z3 : Value) (K : ∀ C1 : zx_C, zME C1 a (sBk (gE D) (fun k => ((hl (gH D) s k).toInt % 10).toNat) n) → (∀ b k, ¬ (b = a ∧ 10 ≤ k ∧ k ≤ 19) → (b < a + 19 ∨ a + 30 ≤ b) → C1.1 b k = C.1 b k) → C1.2 = C.2 → q (zi n) C1) : ∀ (j i : Nat) (C0 : zx_C), i + j = n → zME C0 a (sTurn (sBk (gE D) (fun k => ((hl (gH D) s k).toInt % 10).toNat) i) (eV (gE D))) → (∀ b k, ¬ (b = a ∧ 10 ≤ k ∧ k ≤ 19) → (b < a + 19 ∨ a + 30 ≤ b) → C0.1 b k = C.1 b k) → C0.2 = C.2 → zW X 3 248 56 [.ref a, .int (zi s), .int (zi n), z3, .int (zi i)] [] S C0 (zQi q) := by
  have f2 := (hI.2.2.1 s hs).2.1 hr.1 hr.2
  have hT := hW.1.2.1
  intro j
  induction j with
  | zero =>
    intro i C0 hi g1 g2 g3
    refine vc248_56 (a1 := 0) (a2 := 0) hS ?_
    have g18 : C0.1 a 18 = zi (eV (gE D)) := g1.2.2.2.1
    have hin : i = n := by omega
    subst hin
    rw [zlt_f (by omega), g18, zi_add, show ((eV (gE D) : Int) + (i : Int)) = ((eV (gE D) + i : Nat) : Int) by omega]
    refine K _ ?_ (fun b k h1 h2 => by rw [zp_miss _ _ _ _ (by omega)]; exact g2 b k h1 h2) g3
    exact mE_Turn (v := eV (gE D) + i) g1
  | succ j ih =>
    intro i C0 hi g1 g2 g3
    refine vc248_56 (a1 := 0) (a2 := 0) hS ?_
    have ho := hok i (by omega)
    have hv3 : Int64.toInt32 (hl (gH D) s i / 10) = zi (mAt (gE D) (eL (gE D)) (eV (gE D) + i)) := by
      rw [l2i, ldiv ho.1, ho.2.2]
    rw [zlt_t (by omega), zi_ix (by omega) (by omega), zi_ix (by omega) (by omega), Int.toNat_natCast, Int.toNat_natCast, g3, f2.2.2.2 i (by omega), lmod_i ho.1, show zi ((hl (gH D) s i).toInt % 10) = zi (((hl (gH D) s i).toInt % 10).toNat : Int) by rw [Int.toNat_of_nonneg (by omega)], zi_ix (by omega) (by omega), Int.toNat_natCast, hv3, zi_s]
    refine ⟨zi_in (by omega) (by omega) (by omega), zi_in (by omega) (by omega) (by omega), zi_in (by omega) (by omega) (by omega), zi_in (by omega) (by omega) (by omega), zi_in (by omega) (by omega) (by omega), ?_⟩
    have hWi : zWF (sTurn (sBk (gE D) (fun k => ((hl (gH D) s k).toInt % 10).toNat) i) (eV (gE D))) := wTurn (wBk hW.1 i (by omega)) (by omega)
    have nx := mE_Own (x := ((hl (gH D) s i).toInt % 10).toNat) (v := mAt (gE D) (eL (gE D)) (eV (gE D) + i)) hWi g1
    exact ih (i + 1) _ (by omega) nx (fun b k h1 h2 => by rw [zp_ne (by omega)]; exact g2 b k h1 h2) g3
/-- books -/
theorem cl_books (hX : zs_4 S e) (hM : zs_5 S a) (hW : zWI D) {s n : Int} (hs : -2147483648 ≤ s ∧ s < 2147483648) (hn : -2147483648 ≤ n ∧ n < 2147483648) : zBI X S e a D 5 141 [.int (zi s), .int (zi n)] 3 248 [.int (zi s), .int (zi n)] := by
  have hWH := hW.2.2.1
  have hV0 := hW.1.2.2.2.1
  have hbb := mBt_b (H := gH D) (s := s) (n := n) (m := (0 : Nat))
  by_cases c : mBt (gH D) s n (0 : Nat) = 0
  · obtain ⟨h1, h2, h3, h4, h5, h6, h7⟩ := mBt_0 hWH c
    obtain ⟨s, rfl⟩ : ∃ k : Nat, s = k := ⟨s.toNat, by omega⟩
    obtain ⟨n, rfl⟩ : ∃ k : Nat, n = k := ⟨n.toNat, by omega⟩
    rw [Int.toNat_natCast] at h5 h6 h7
    have hvs : vp_in (zi (s : Int)) 8 := zi_in (by omega) (by omega) (by omega)
    cases hw : mWr (gE D) (hl (gH D) s) (-1) n 0 (mOwn (gE D) (-1)) (eV (gE D)) with
    | none =>
      have hok : ∀ k, k < n → mOk (gE D) (hl (gH D) s k).toInt (eV (gE D) + k) (mBk (hl (gH D) s) (mOwn (gE D) (-1)) k) := fun k hk => mWr_ok n 0 hw k (Nat.zero_le _) (by omega)
      have hok2 : ∀ k, k < n → 0 ≤ (hl (gH D) s k).toInt ∧ ((hl (gH D) s k).toInt % 10).toNat < eT (gE D) ∧ (hl (gH D) s k).toInt / 10 = mAt (gE D) (eL (gE D)) (eV (gE D) + k) := fun k hk =>
        have hb := mBk_ok (mOwn_lt hW.1 (-1)) hok k (by omega)
        ⟨(hok k hk).1, bit_lt (Nat.lt_of_le_of_lt (mSub_le hb.1) (mOwn_p _)) (hok k hk).2.2, (hok k hk).2.1⟩
      by_cases c2 : eV (gE D) + n ≤ 1000000000
      · refine ⟨zi n, (sBk (gE D) (fun k => ((hl (gH D) s k).toInt % 10).toNat) n, D.2), zWI_E hW (wBk hW.1 n c2), fun C hI => vc141 hX ?_, fun C hI => vc248 hM ?_⟩
        · rw [zi_0, show zi (0 : Int) = zi ((0 : Nat) : Int) from rfl, sp136 hX hI.2.2.1 hWH hs hn (by omega), c, if_pos (show zi 0 = zi ((0 : Nat) : Int) from rfl), zi_m1, sp137 hX hI hW (by omega) (by omega) (by omega) ⟨h5, h6⟩ h7, hw, zo_n, if_pos rfl, hI.1.2.2.2.1, z_9, zi_sub, zlt_f (by omega)]
          refine lq141 (C := C) hX hI hW (by omega) (by omega) c2 ⟨h5, h6⟩ h7 (fun k hk => ⟨(hok2 k hk).1, (hok2 k hk).2.1⟩) _ (fun C1 b1 b2 b3 => ?_) n 0 C (Nat.zero_add _) hI.1 (fun _ _ _ => rfl) rfl
          exact ⟨rfl, zIX_E hI b1 b2 b3, fun b k hb => b2 b k (by omega), fun b k _ => by rw [b3]⟩
        · rw [zi_0, show zi (0 : Int) = zi ((0 : Nat) : Int) from rfl, sp238 hM hI.2.2.1 hWH hs hn (by omega), c, if_pos (show zi 0 = zi ((0 : Nat) : Int) from rfl), zi_ix (by omega) (by omega), Int.toNat_natCast, zi_m1, sp239 hM hI hW (by omega) (by omega) (by omega) ⟨h5, h6⟩ h7, hw, zo_n, if_pos rfl, hI.1.2.2.2.1, z_9, zi_add, zlt_f (by omega)]
          refine ⟨hvs, lq248 (C := C) hM hI hW (by omega) (by omega) c2 ⟨h5, h6⟩ h7 hok2 _ (fun C1 b1 b2 b3 => ?_) n 0 C (Nat.zero_add _) hI.1 (fun _ _ _ _ => rfl) rfl⟩
          exact ⟨rfl, zIM_E hW hI b1 b2 b3, fun b k hb => b2 b k (by omega) (by omega), fun b k _ => by rw [b3]⟩
      · refine ⟨zi (-5), zRf D (-5), hW, fun C hI => vc141 hX ?_, fun C hI => vc248 hM ?_⟩
        · rw [zi_0, show zi (0 : Int) = zi ((0 : Nat) : Int) from rfl, sp136 hX hI.2.2.1 hWH hs hn (by omega), c, if_pos (show zi 0 = zi ((0 : Nat) : Int) from rfl), zi_m1, sp137 hX hI hW (by omega) (by omega) (by omega) ⟨h5, h6⟩ h7, hw, zo_n, if_pos rfl, hI.1.2.2.2.1, z_9, zi_sub, zlt_t (by omega), z_m5]
          exact xrf hX hI (by omega)
        · rw [zi_0, show zi (0 : Int) = zi ((0 : Nat) : Int) from rfl, sp238 hM hI.2.2.1 hWH hs hn (by omega), c, if_pos (show zi 0 = zi ((0 : Nat) : Int) from rfl), zi_ix (by omega) (by omega), Int.toNat_natCast, zi_m1, sp239 hM hI hW (by omega) (by omega) (by omega) ⟨h5, h6⟩ h7, hw, zo_n, if_pos rfl, hI.1.2.2.2.1, z_9, zi_add, zlt_t (by omega), z_m5]
          exact ⟨hvs, mrf hM hW hI (by omega)⟩
    | some k =>
      have hk := mWr_lt _ _ _ _ _ hw
      refine ⟨zi (-5), zRf D (-5), hW, fun C hI => vc141 hX ?_, fun C hI => vc248 hM ?_⟩
      · rw [zi_0, show zi (0 : Int) = zi ((0 : Nat) : Int) from rfl, sp136 hX hI.2.2.1 hWH hs hn (by omega), c, if_pos (show zi 0 = zi ((0 : Nat) : Int) from rfl), zi_m1, sp137 hX hI hW (by omega) (by omega) (by omega) ⟨h5, h6⟩ h7, hw, zo_s, zeq_f (by omega), z_m5]
        exact xrf hX hI (by omega)
      · rw [zi_0, show zi (0 : Int) = zi ((0 : Nat) : Int) from rfl, sp238 hM hI.2.2.1 hWH hs hn (by omega), c, if_pos (show zi 0 = zi ((0 : Nat) : Int) from rfl), zi_ix (by omega) (by omega), Int.toNat_natCast, zi_m1, sp239 hM hI hW (by omega) (by omega) (by omega) ⟨h5, h6⟩ h7, hw, zo_s, zeq_f (by omega), z_m5]
        exact ⟨hvs, mrf hM hW hI (by omega)⟩
  · refine ⟨zi (mBt (gH D) s n (0 : Nat)), zRf D (mBt (gH D) s n (0 : Nat)), hW, fun C hI => vc141 hX ?_, fun C hI => vc248 hM ?_⟩
    · rw [zi_0, show zi (0 : Int) = zi ((0 : Nat) : Int) from rfl, sp136 hX hI.2.2.1 hWH hs hn (by omega), zeq_f (by omega)]
      exact xrf hX hI (by omega)
    · rw [zi_0, show zi (0 : Int) = zi ((0 : Nat) : Int) from rfl, sp238 hM hI.2.2.1 hWH hs hn (by omega), zeq_f (by omega)]
      exact mrf hM hW hI (by omega)
/-- what a run by the law as it is takes, as numbers -/
def mKs (E : zT) (i : Nat) : Nat := ((mTak (mCh (dLaw E (eL E)) (dLaw E (eL E)) (-1)) (dLaw E (eL E)) i).getD 0)
theorem mKs_ok {E : zT} (hW : zWF E) {i : Nat} (hi : i < mCnt (mOwn E (-1)) 8) : mTak (mCh (dLaw E (eL E)) (dLaw E (eL E)) (-1)) (dLaw E (eL E)) i = some (mKs E i) ∧ mKs E i < eT E ∧ (mRun (mCh (dLaw E (eL E)) (dLaw E (eL E)) (-1)) (dLaw E (eL E)) i).testBit (mKs E i) = true ∧ mRun (mCh (dLaw E (eL E)) (dLaw E (eL E)) (-1)) (dLaw E (eL E)) (i + 1) = wo (mRun (mCh (dLaw E (eL E)) (dLaw E (eL E)) (-1)) (dLaw E (eL E)) i) (mKs E i) := by
  obtain ⟨k, h1, h2, h3, h4⟩ := mTak_ok (zWD_law hW (eL E)) (ch := mCh (dLaw E (eL E)) (dLaw E (eL E)) (-1)) (fun s m hm h0 => mCh_some hm h0) (i := i) hi
  have : mKs E i = k := by unfold mKs; rw [h1]; rfl
  rw [this]
  exact ⟨h1, h2, h3, h4⟩
theorem mOwn_bk {E : zT} (hW : zWF E) : ∀ i, i ≤ mCnt (mOwn E (-1)) 8 → mOwn (sBk E (mKs E) i) (-1) = mRun (mCh (dLaw E (eL E)) (dLaw E (eL E)) (-1)) (dLaw E (eL E)) i := by
  intro i
  induction i with
  | zero => intro _; rfl
  | succ i ih =>
    intro hi
    have h1 := mKs_ok hW (i := i) (by omega)
    have hr := mRun_ok (zWD_law hW (eL E)) (ch := mCh (dLaw E (eL E)) (dLaw E (eL E)) (-1)) (fun s m hm h0 => mCh_some hm h0) i (by show i ≤ mCnt (mOwn E (-1)) 8; omega)
    have hT := hW.2.1
    have hm : mRun (mCh (dLaw E (eL E)) (dLaw E (eL E)) (-1)) (dLaw E (eL E)) i < 256 := Nat.lt_of_le_of_lt (mSub_le hr.1) (mOwn_lt hW (-1))
    have hb := mAt_b hW (eL E) (eV E + i)
    rw [h1.2.2.2, ← ih (by omega)]
    rw [← ih (by omega)] at hm
    refine Nat.eq_of_testBit_eq fun j => ?_
    have e1 : (mOwn (sBk E (mKs E) (i + 1)) (-1)).testBit j = (decide (j < eT E) && decide ((if j = mKs E i then mAt E (eL E) (eV E + i) else mOw E (mKs E) i j) = -1)) := mSet_bit _ _ _
    have e2 : (mOwn (sBk E (mKs E) i) (-1)).testBit j = (decide (j < eT E) && decide (mOw E (mKs E) i j = -1)) := mSet_bit _ _ _
    by_cases h8 : j < 8
    · rw [wo_bit hm (by omega) h8, e1, e2]
      by_cases c : j = mKs E i
      · rw [if_pos c]
        have : decide (mAt E (eL E) (eV E + i) = -1) = false := decide_eq_false (by omega)
        rw [this]
        simp [c]
      · rw [if_neg c]
        simp [c]
    · have hlt : wo (mOwn (sBk E (mKs E) i) (-1)) (mKs E i) < 2 ^ j := Nat.lt_of_le_of_lt (wo_le _ _) (Nat.lt_of_lt_of_le hm (Nat.pow_le_pow_right (n := 2) (i := 8) (by decide) (by omega)))
      rw [Nat.testBit_lt_two_pow hlt, e1, decide_eq_false (by omega), Bool.false_and]
theorem lq147 (hS : zs_4 S e) (hW : zWF E) {n : Nat} (hn : n ≤ mCnt (mOwn E (-1)) 8) (hV : eV E + n ≤ 1000000000) (ht : ∀ i, i < mCnt (mOwn E (-1)) 8 → C.1 (e + 38) i = zi (mKs E i)) (z1 : Value) (K : ∀ C1 : zx_C, zXE C1 (e + 1) (sBk E (mKs E) n) → (∀ b k, (b < e + 1 ∨ e + 6 ≤ b) → C1.1 b k = C.1 b k) → C1.2 = C.2 → q (zi n) C1) : ∀ (j i : Nat) (C0 : zx_C), i + j = n → zXE C0 (e + 1) (sBk E (mKs E) i) → (∀ b k, (b < e + 1 ∨ e + 6 ≤ b) → C0.1 b k = C.1 b k) → C0.2 = C.2 → zW X 7 147 61 [.ref e, z1, .int (zi n), .int (zi i)] [] S C0 (zQi q) := by
  have hc8 := mCnt_le (mOwn E (-1)) 8
  intro j
  induction j with
  | zero =>
    intro i C0 hi g1 g2 g3
    refine vc147_61 (a1 := 0) hS ?_
    rw [zlt_f (by omega)]
    rw [show i = n by omega] at g1
    exact K C0 g1 g2 g3
  | succ j ih =>
    intro i C0 hi g1 g2 g3
    refine vc147_61 (a1 := 0) hS ?_
    have h1 := mKs_ok hW (i := i) (by omega)
    have h38 : C0.1 (e + 38) i = zi (mKs E i) := by rw [g2 _ _ (by omega)]; exact ht i (by omega)
    rw [zlt_t (by omega), sp11 (za_4_9 hS) (by omega) (by omega) (by omega), Int.toNat_natCast, h38, zi_s]
    refine zc_mV (sp142 (zo_4_0 hS) g1 (wBk hW i (by omega)) (k := mKs E i) h1.2.1) (fun C1 w => ?_)
    have w1 : zXE C1 (e + 1) (sBk E (mKs E) (i + 1)) := w.1
    exact ih (i + 1) C1 (by omega) w1 (fun b k hb => by rw [w.2.1 b k (by omega), g2 b k hb]) (w.2.2.trans g3)
theorem lq247 (hS : zs_5 S a) (hW : zWF E) {n : Nat} (hn : n ≤ 8) (hV : eV E + n ≤ 1000000000) (K : ∀ C1 : zx_C, zME C1 a (sBk E (mKs E) (min n (mCnt (mOwn E (-1)) 8))) → (∀ b k, ¬ (b = a ∧ 10 ≤ k) → (b < a + 19 ∨ (a + 30 ≤ b ∧ b < a + 31) ∨ a + 295 ≤ b) → C1.1 b k = C.1 b k) → C1.2 = C.2 → q (zi ((min n (mCnt (mOwn E (-1)) 8) : Nat) : Int)) C1) : ∀ (j i : Nat) (C0 : zx_C) (z3 : Value), i + j = min n (mCnt (mOwn E (-1)) 8) → zME C0 a (sBk E (mKs E) i) → (∀ b k, ¬ (b = a ∧ 10 ≤ k) → (b < a + 19 ∨ (a + 30 ≤ b ∧ b < a + 31) ∨ a + 295 ≤ b) → C0.1 b k = C.1 b k) → C0.2 = C.2 → zW X 33 247 40 [.ref a, .int (zi n), .int (zi i), z3] [] S C0 (zQi q) := by
  have hc8 := mCnt_le (mOwn E (-1)) 8
  have hN := hW.1
  have hT := hW.2.1
  have hD := zWD_law hW (eL E)
  intro j
  induction j with
  | zero =>
    intro i C0 z3 hi g1 g2 g3
    refine vc247_40 (a1 := 0) hS ?_
    rw [Nat.add_zero] at hi
    have k1 := K C0 (by rw [← hi]; exact g1) g2 g3
    rw [← hi] at k1
    have hWi := wBk (ks := mKs E) hW i (by omega)
    by_cases c : i < n
    · have hr := mRun_ok hD (ch := mCh (dLaw E (eL E)) (dLaw E (eL E)) (-1)) (fun s m hm h0 => mCh_some hm h0) i (by show i ≤ mCnt (mOwn E (-1)) 8; omega)
      have hic : i = mCnt (mOwn E (-1)) 8 := by omega
      have h2 : mCnt (mRun (mCh (dLaw E (eL E)) (dLaw E (eL E)) (-1)) (dLaw E (eL E)) i) 8 + i = mCnt (mOwn E (-1)) 8 := hr.2
      have hz := mCnt_e (Nat.lt_of_le_of_lt (mSub_le hr.1) (mOwn_lt hW (-1))) (by omega)
      rw [zlt_t (by omega), sp172 hS g1 hWi, mOwn_bk hW i (by omega), hz, zi_0, show zi ((0 : Nat) : Int) = zi 0 from rfl, if_pos rfl]
      exact k1
    · rw [zlt_f (by omega)]
      exact k1
  | succ j ih =>
    intro i C0 z3 hi g1 g2 g3
    refine vc247_40 (a1 := 0) hS ?_
    have hWi := wBk (ks := mKs E) hW i (by omega)
    have hr := mRun_ok hD (ch := mCh (dLaw E (eL E)) (dLaw E (eL E)) (-1)) (fun s m hm h0 => mCh_some hm h0) i (by show i ≤ mCnt (mOwn E (-1)) 8; omega)
    have h2 : mCnt (mRun (mCh (dLaw E (eL E)) (dLaw E (eL E)) (-1)) (dLaw E (eL E)) i) 8 + i = mCnt (mOwn E (-1)) 8 := hr.2
    have hm : mRun (mCh (dLaw E (eL E)) (dLaw E (eL E)) (-1)) (dLaw E (eL E)) i < 256 := Nat.lt_of_le_of_lt (mSub_le hr.1) (mOwn_lt hW (-1))
    have hz : mRun (mCh (dLaw E (eL E)) (dLaw E (eL E)) (-1)) (dLaw E (eL E)) i ≠ 0 := fun q => by rw [q, mCnt_z] at h2; omega
    have h1 := mKs_ok hW (i := i) (by omega)
    have hb := mAt_b hW (eL E) (eV E + i)
    have g14 : C0.1 a 14 = zi (eL E) := g1.2.2.1
    rw [zlt_t (by omega), sp172 hS g1 hWi, mOwn_bk hW i (by omega), zi_0, zeq_f (by omega), g14]
    refine vc171 hS ?_
    have hf : zFM C0 (zp (zp C0 a 29 (zi (eL E))) a 33 (-1)) a := zFM_begin
    have hE1 := zFM_E hWi hf g1
    have e14 : (zp (zp C0 a 29 (zi (eL E))) a 33 (-1)).1 a 14 = zi (eL E) := hE1.2.2.1
    have e18 : (zp (zp C0 a 29 (zi (eL E))) a 33 (-1)).1 a 18 = zi ((eV E + i : Nat) : Int) := hE1.2.2.2.1
    have es : zi (mAt E (eL E) (eV E + i)) = zi ((dW (dLaw E (eL E)) i : Nat) : Int) := by
      show _ = zi (((mAt E (eL E) (eV E + i)).toNat : Nat) : Int)
      rw [Int.toNat_of_nonneg hb.1]
    have hwn : dW (dLaw E (eL E)) i < eN E := by
      show (mAt E (eL E) (eV E + i)).toNat < eN E
      omega
    have hvs : vp_in (zi ((dW (dLaw E (eL E)) i : Nat) : Int)) 3 := zi_in (by omega) (by omega) (by omega)
    have hBb := hW.2.2.2.2.2.2.1 (dW (dLaw E (eL E)) i) (by omega)
    have hTN : zTN X S (zp (zp C0 a 29 (zi (eL E))) a 33 (-1)) a (eV E) (dLaw E (eL E)) 0 (dW (dLaw E (eL E)) i) := by
      have hN1 : zWN (zp (zp C0 a 29 (zi (eL E))) a 33 (-1)) a (sBk E (mKs E) i) (eV E) (dLaw E (eL E)) := Or.inl ⟨eL E, hW.2.2.1, by rw [zp_nf (by omega), zp_hit], rfl, fun _ => rfl⟩
      have := zTN_of (X := X) (M := dLaw E (eL E)) (sh := -1) (w := fun _ => 0) hS hE1 hWi hN1 hW.2.2.2.1 (by omega) (by rw [zp_hit, zi_m1]) (fun h => by omega) rfl rfl rfl hwn
      have hd : dEye (sBk E (mKs E) i) (dLaw E (eL E)) (-1) (fun _ => 0) (dW (dLaw E (eL E)) i) = dLaw E (eL E) := by
        unfold dEye
        have : mEye (sBk E (mKs E) i) (-1) (fun _ => 0) (dW (dLaw E (eL E)) i) = eu E := by
          funext x k
          exact if_neg (by omega)
        rw [this]
        rfl
      rwa [hd] at this
    have htn : mTurn (dLaw E (eL E)) (mRun (mCh (dLaw E (eL E)) (dLaw E (eL E)) (-1)) (dLaw E (eL E)) i) = i := by
      show mCnt (mOwn E (-1)) 8 - _ = i
      omega
    have h3 := fun q => sp173c (X := X) (q := q) hS hTN hD (m := mRun (mCh (dLaw E (eL E)) (dLaw E (eL E)) (-1)) (dLaw E (eL E)) i) (b := eb E (dW (dLaw E (eL E)) i)) hwn hBb hr.1 (by omega)
    have hch : mChoose (dLaw E (eL E)) (dW (dLaw E (eL E)) i) (eb E (dW (dLaw E (eL E)) i)) (mRun (mCh (dLaw E (eL E)) (dLaw E (eL E)) (-1)) (dLaw E (eL E)) i) = some (mKs E i) := by
      have h4 := h1.1
      unfold mTak at h4
      have h5 : mCh (dLaw E (eL E)) (dLaw E (eL E)) (-1) (dW (dLaw E (eL E)) i) (mRun (mCh (dLaw E (eL E)) (dLaw E (eL E)) (-1)) (dLaw E (eL E)) i) = mChoose (dLaw E (eL E)) (dW (dLaw E (eL E)) i) (eb E (dW (dLaw E (eL E)) i)) (mRun (mCh (dLaw E (eL E)) (dLaw E (eL E)) (-1)) (dLaw E (eL E)) i) := by
        show mChoose (if ((dW (dLaw E (eL E)) i : Nat) : Int) = -1 then dLaw E (eL E) else dLaw E (eL E)) _ _ _ = _
        rw [if_neg (by omega)]
        rfl
      rw [← h5]
      exact h4
    rw [htn, hch] at h3
    have e29 : (zp (zp C0 a 29 (zi (eL E))) a 33 (-1)).1 (a + 29) (dW (dLaw E (eL E)) i) = zi (eb E (dW (dLaw E (eL E)) i)) := hE1.2.2.2.2.2.2.2.1 _ (by omega)
    rw [e14, e18, sp178 hS hE1 hWi hW.2.2.1 (by omega), mAt_bk, es]
    refine ⟨hvs, ?_⟩
    rw [sp172 hS hE1 hWi, mOwn_bk hW i (by omega), zi_ix (by omega) (by omega), Int.toNat_natCast, e29, e18, h3, zo_s]
    refine ⟨zi_in (by omega) (by omega) (by omega), ?_⟩
    rw [zi_ix (by omega) (by omega), Int.toNat_natCast, zp_ne (show a ≠ a + 27 by omega), e18, zi_s, zi_s]
    have n1 := mE_Own (x := mKs E i) (v := mAt E (eL E) (eV E + i)) hWi hE1
    have n2 := mE_Turn (v := eV E + i + 1) n1
    rw [es] at n2
    refine ih (i + 1) _ _ (by omega) n2 (fun b k h1 h2 => ?_) g3
    rw [zp_miss _ _ _ _ (by omega), zp_ne (by omega), zp_miss _ _ _ _ (by omega), zp_miss _ _ _ _ (by omega)]
    exact g2 b k h1 h2
/-- goes -/
theorem cl_goes (hX : zs_4 S e) (hM : zs_5 S a) (hW : zWI D) {n : Int} (hn : -2147483648 ≤ n ∧ n < 2147483648) : zBI X S e a D 7 147 [.int (zi n)] 33 247 [.int (zi n)] := by
  have hV0 := hW.1.2.2.2.1
  have hc8 := mCnt_le (mOwn (gE D) (-1)) 8
  by_cases c1 : 1 ≤ n ∧ n ≤ 8
  · obtain ⟨n, rfl⟩ : ∃ k : Nat, n = k := ⟨n.toNat, by omega⟩
    by_cases c2 : eV (gE D) + n ≤ 1000000000
    · have hmin : eV (gE D) + min n (mCnt (mOwn (gE D) (-1)) 8) ≤ 1000000000 := by omega
      refine ⟨zi ((min n (mCnt (mOwn (gE D) (-1)) 8) : Nat) : Int), (sBk (gE D) (mKs (gE D)) (min n (mCnt (mOwn (gE D) (-1)) 8)), D.2), zWI_E hW (wBk hW.1 _ hmin), fun C hI => vc147 hX ?_, fun C hI => vc247 hM ?_⟩
      · rw [zi_1, zi_8, z_9, zlt_f (by omega), zlt_f (by omega), hI.1.2.2.2.1, zi_sub, zlt_f (by omega), hI.1.2.2.1]
        refine zc_mV (sp119 hX hI.1 hI.2.2.2.2.2.2 hW.1 hW.1.2.2.1) (fun C1 w => ?_)
        obtain ⟨w1, -, -, -, w5⟩ := w
        have h10 : C1.1 e 10 = zi (mCnt (mOwn (gE D) (-1)) 8) := w1.2.1
        have hI1 := zIX_T hI w5
        rw [h10, zmin_i (by omega), show (if (mCnt (mOwn (gE D) (-1)) 8 : Int) < (n : Int) then (mCnt (mOwn (gE D) (-1)) 8 : Int) else (n : Int)) = ((min n (mCnt (mOwn (gE D) (-1)) 8) : Nat) : Int) by split <;> omega]
        refine lq147 (C := C1) hX hW.1 (Nat.min_le_right _ _) hmin (fun i hi => ?_) _ (fun C2 b1 b2 b3 => ?_) _ 0 C1 (Nat.zero_add _) hI1.1 (fun _ _ _ => rfl) rfl
        · have := w1.1 i hi
          rw [(mKs_ok hW.1 hi).1, zo_s] at this
          exact this
        · have ho := zFX_out w5
          exact ⟨rfl, zIX_E hI1 b1 b2 b3, fun b k hb => (b2 b k (by omega)).trans (ho.1 b k hb), fun b k hb => by rw [b3]; exact ho.2 b k hb⟩
      · rw [spin (l := 1) (m := 8) hn rfl rfl, zb_t (by omega), hI.1.2.2.2.1, z_9, zi_add, zlt_f (by omega)]
        refine lq247 (C := C) hM hW.1 (by omega) c2 (fun C1 b1 b2 b3 => ?_) _ 0 C _ (Nat.zero_add _) hI.1 (fun _ _ _ _ => rfl) rfl
        obtain ⟨g1, g2, g3, g4, g5, g6, g7⟩ := hI
        refine ⟨rfl, ⟨b1, zMk_of hW.2.1 g2 (fun b k hb => b2 b k (by omega) (by omega)), zMS_of g3 (fun b k _ _ => b2 b k (by omega) (by omega)) (fun b k _ _ => b2 b k (by omega) (by omega)) (fun b k _ _ => by rw [b3]), ?_, fun i hi => ?_, fun j hj => ?_, g7⟩, fun b k hb => b2 b k (by omega) (by omega), fun b k _ => by rw [b3]⟩
        · rw [b2 _ _ (by omega) (by omega)]; exact g4
        · rw [b2 _ _ (by omega) (by omega)]; exact g5 i hi
        · rw [b2 _ _ (by omega) (by omega)]; exact g6 j hj
    · refine ⟨zi (-5), zRf D (-5), hW, fun C hI => vc147 hX ?_, fun C hI => vc247 hM ?_⟩
      · rw [zi_1, zi_8, z_9, zlt_f (by omega), zlt_f (by omega), hI.1.2.2.2.1, zi_sub, zlt_t (by omega), z_m5]; exact xrf hX hI (by omega)
      · rw [spin (l := 1) (m := 8) hn rfl rfl, zb_t (by omega), hI.1.2.2.2.1, z_9, zi_add, zlt_t (by omega), z_m5]; exact mrf hM hW hI (by omega)
  · refine ⟨zi (-2), zRf D (-2), hW, fun C hI => vc147 hX ?_, fun C hI => vc247 hM ?_⟩
    · rw [z_m2, zi_1, zi_8]
      by_cases c4 : n < 1
      · rw [zlt_t (by omega)]; exact xrf hX hI (by omega)
      · rw [zlt_f (by omega), zlt_t (by omega)]; exact xrf hX hI (by omega)
    · rw [spin (l := 1) (m := 8) hn rfl rfl, zb_f (by omega), z_m2]; exact mrf hM hW hI (by omega)
end
