/-! THE MIND: what choosers go by, as the class has it -/
def zMd (C : zx_C) (e : Nat) (M : zD) : Prop := (∀ s k, s < dN M → k < dT M → C.1 (e + 1) (s * 8 + k) = zi (dU M s k)) ∧ (∀ s, s < 3 → C.1 (e + 2) s = zi (dB M s)) ∧ (∀ i, i < dC M → C.1 (e + 4) i = zi (dW M i)) ∧ C.1 e 4 = zi (dC M) ∧ C.1 e 5 = zi (dL M) ∧ C.1 e 6 = zi (mCnt (dL M) 8)
/-- what stands of looking ahead -/
def zMl (C : zx_C) (e : Nat) (M : zD) : Prop := ∀ s, s < 3 → C.1 (e + 5) (s * 256) = zi 0 ∧ ∃ L : Nat, L ≤ 8 ∧ C.1 (e + 6) s = zi L ∧ (s < dN M → ∀ x, x < 256 → mSub x (dL M) → mCnt x 8 ≤ L → C.1 (e + 5) (s * 256 + x) = zi (mSt M s x))
/-- of no things nothing -/
def zMz (C : zx_C) (e : Nat) : Prop := ∀ s, s < 3 → C.1 (e + 5) (s * 256) = zi 0
theorem zMz_of {C C1 : zx_C} {e : Nat} (h : zMz C e) (h1 : ∀ k, (k = 0 ∨ k = 256 ∨ k = 512) → C1.1 (e + 5) k = C.1 (e + 5) k) : zMz C1 e := fun s hs => by rw [h1 _ (by omega)]; exact h s hs
theorem zMl_z {C : zx_C} {e : Nat} {M : zD} (h : zMl C e M) : zMz C e := fun s hs => (h s hs).1
theorem zMl_0 {C : zx_C} {e : Nat} {M : zD} (h : ∀ s, s < 3 → C.1 (e + 6) s = zi 0) (hz : zMz C e) : zMl C e M := fun s hs => ⟨hz s hs, 0, by decide, h s hs, fun _ x hx _ hc => by
  have hx0 : x = 0 := mCnt_e hx (by omega)
  subst hx0
  have h0 : s * 256 + 0 = s * 256 := Nat.add_zero _
  rw [h0, mSt_z]
  exact hz s hs⟩
theorem zlx_t {a b : Int} {x y : Int32} (h : -2147483648 ≤ a ∧ a < 2147483648 ∧ -2147483648 ≤ b ∧ b < 2147483648 ∧ a < b) : (if zi a < zi b then x else y) = x :=
  if_pos ((zi_lt h.1 h.2.1 h.2.2.1 h.2.2.2.1).mpr h.2.2.2.2)
theorem zlx_f {a b : Int} {x y : Int32} (h : -2147483648 ≤ a ∧ a < 2147483648 ∧ -2147483648 ≤ b ∧ b < 2147483648 ∧ ¬ a < b) : (if zi a < zi b then x else y) = y :=
  if_neg (fun q => h.2.2.2.2 ((zi_lt h.1 h.2.1 h.2.2.1 h.2.2.2.1).mp q))
theorem zXE_of {C C1 : zx_C} {e : Nat} {E : zT} (h : zXE C e E) (h1 : ∀ b k, e ≤ b → b < e + 5 → C1.1 b k = C.1 b k) : zXE C1 e E := by
  obtain ⟨v1, v2, v3, v4, v5, v6, v7, v8, v9, v10⟩ := h
  refine ⟨?_, ?_, ?_, ?_, ?_, ?_, fun i hi => ?_, fun s hs => ?_, fun k hk => ?_, fun s k hs hk => ?_⟩
  · rw [h1 _ _ (by omega) (by omega)]; exact v1
  · rw [h1 _ _ (by omega) (by omega)]; exact v2
  · rw [h1 _ _ (by omega) (by omega)]; exact v3
  · rw [h1 _ _ (by omega) (by omega)]; exact v4
  · rw [h1 _ _ (by omega) (by omega)]; exact v5
  · rw [h1 _ _ (by omega) (by omega)]; exact v6
  · rw [h1 _ _ (by omega) (by omega)]; exact v7 i hi
  · rw [h1 _ _ (by omega) (by omega)]; exact v8 s hs
  · rw [h1 _ _ (by omega) (by omega)]; exact v9 k hk
  · rw [h1 _ _ (by omega) (by omega)]; exact v10 s k hs hk
theorem zmin_i {a b : Int} (h : -2147483648 ≤ a ∧ a < 2147483648 ∧ -2147483648 ≤ b ∧ b < 2147483648) : (if zi a < zi b then zi a else zi b) = zi (if a < b then a else b) := by
  by_cases c : a < b
  · rw [if_pos c, if_pos ((zi_lt h.1 h.2.1 h.2.2.1 h.2.2.2).mpr c)]
  · rw [if_neg c, if_neg (fun q => c ((zi_lt h.1 h.2.1 h.2.2.1 h.2.2.2).mp q))]
section
variable {X : zX} {S : zx_S} {C : zx_C} {q : zx_C → Prop} {e x : Nat} {E : zT}
theorem lq48 (hS : zs_1 S e) : ∀ (j i : Nat) (C0 : zx_C), i + j = 3 → (∀ s, s < i → C0.1 (e + 6) s = zi 0) → (∀ b k, b ≠ e + 6 → C0.1 b k = C.1 b k) → C0.2 = C.2 → zW X 1 48 2 [.ref e, .int (zi i)] [] S C0 (zQv (fun C1 => (∀ s, s < 3 → C1.1 (e + 6) s = zi 0) ∧ (∀ b k, b ≠ e + 6 → C1.1 b k = C.1 b k) ∧ C1.2 = C.2)) := by
  intro j
  induction j with
  | zero =>
    intro i C0 hi g1 g2 g3
    refine vc48_2 hS ?_
    rw [zi_3, zlt_f (by omega)]
    exact ⟨fun s hs => g1 s (by omega), g2, g3⟩
  | succ j ih =>
    intro i C0 hi g1 g2 g3
    refine vc48_2 hS ?_
    rw [zi_3, zlt_t (by omega), sp12 (za_1_8 hS) (by omega) (by omega) (by omega), zi_s, Int.toNat_natCast]
    refine ih (i + 1) _ (by omega) (fun k hk => ?_) (fun b k hb => ?_) g3
    · by_cases hk2 : k = i
      · subst hk2
        rw [zp_hit, zi_0]
      · rw [zp_nf hk2]
        exact g1 k (by omega)
    · rw [zp_ne hb, g2 b k hb]
/-- forgetLooks -/
theorem sp48 (hS : zs_1 S e) : zCd X 1 48 [.ref e] S C (zQv (fun C1 => (∀ s, s < 3 → C1.1 (e + 6) s = zi 0) ∧ (∀ b k, b ≠ e + 6 → C1.1 b k = C.1 b k) ∧ C1.2 = C.2)) :=
  vc48 hS (lq48 hS 3 0 C (by omega) (fun k hk => absurd hk (Nat.not_lt_zero k)) (fun _ _ _ => rfl) rfl)
theorem lq38 (hS : zs_1 S e) (hA : zs_0 S x) (hd : e + 7 ≤ x ∨ x + 5 ≤ e) (hW : zWF E) : ∀ (j i : Nat) (C0 : zx_C), i + j = 3 → zXE C0 x E → (∀ s, s < i → C0.1 (e + 3) s = zi (mHas E s)) → zW X 3 38 28 [.ref e, .ref x, .int (zi i)] [] S C0 (zQv (fun C1 => (∀ s, s < 3 → C1.1 (e + 3) s = zi (mHas E s)) ∧ C1.1 e 5 = zi (mOwn E (-1)) ∧ C1.1 e 6 = zi (mCnt (mOwn E (-1)) 8) ∧ (∀ b k, b ≠ e + 3 → ¬ (b = e ∧ (k = 5 ∨ k = 6)) → C1.1 b k = C0.1 b k) ∧ C1.2 = C0.2)) := by
  intro j
  induction j with
  | zero =>
    intro i C0 hi g1 g2
    refine vc38_28 hS hA ?_
    rw [zi_3, zlt_f (by omega), zi_m1, sp43 hA g1 hW (by omega), zp_hit, sp44 (mOwn_lt hW _)]
    refine ⟨fun s hs => ?_, ?_, ?_, fun b k hb hk => ?_, rfl⟩
    · rw [zp_ne (by omega), zp_ne (by omega)]; exact g2 s (by omega)
    · rw [zp_nf (by omega), zp_hit]
    · rw [zp_hit]
    · rw [zp_miss _ _ _ _ (by omega), zp_miss _ _ _ _ (by omega)]
  | succ j ih =>
    intro i C0 hi g1 g2
    refine vc38_28 hS hA ?_
    rw [zi_3, zlt_t (by omega), sp40 hA g1 hW (by omega), sp12 (za_1_2 hS) (by omega) (by omega) (by omega), zi_s, Int.toNat_natCast]
    refine zW_mono (ih (i + 1) _ (by omega) (zXE_of g1 (fun b k h1 h2 => zp_ne (by omega))) (fun k hk => ?_)) (fun v C1 w => ⟨w.1, w.2.1, w.2.2.1, w.2.2.2.1, fun b k hb hk => ?_, w.2.2.2.2.2⟩)
    · by_cases hk2 : k = i
      · subst hk2
        rw [zp_hit]
      · rw [zp_nf hk2]
        exact g2 k (by omega)
    · rw [w.2.2.2.2.1 b k hb hk, zp_ne hb]
/-- know -/
theorem sp38 (hS : zs_1 S e) (hA : zs_0 S x) (hd : e + 7 ≤ x ∨ x + 5 ≤ e) (hE : zXE C x E) (hW : zWF E) : zCd X 3 38 [.ref e, .ref x] S C (zQv (fun C1 => (∀ s k, s < eN E → k < eT E → C1.1 (e + 1) (s * 8 + k) = zi (eu E s k)) ∧ (∀ s, s < 3 → C1.1 (e + 2) s = zi (eb E s)) ∧ (∀ s, s < 3 → C1.1 (e + 3) s = zi (mHas E s)) ∧ C1.1 e 5 = zi (mOwn E (-1)) ∧ C1.1 e 6 = zi (mCnt (mOwn E (-1)) 8) ∧ (∀ b k, (b < e ∨ e + 7 ≤ b ∨ b = e + 5) → C1.1 b k = C.1 b k) ∧ C1.2 = C.2)) := by
  refine vc38 hS hA ?_
  refine zc_mV (sp39 (za_0_9 hA) (za_1_0 hS) (by omega) (by omega) (by omega)) (fun C1 h1 => ?_)
  refine zc_mV (sp39 (za_0_7 hA) (za_1_1 hS) (by omega) (by omega) (by omega)) (fun C2 h2 => ?_)
  have hk : ∀ b k, x ≤ b → b < x + 5 → C2.1 b k = C.1 b k := fun b k _ _ => by rw [h2.2.1 _ _ (by omega), h1.2.1 _ _ (by omega)]
  have hn := hW.1
  have hT := hW.2.1
  refine zW_mono (lq38 hS hA hd hW 3 0 C2 (by omega) (zXE_of hE hk) (fun k hk => absurd hk (Nat.not_lt_zero k))) (fun v C3 w => ⟨w.1, fun s k hs hk2 => ?_, fun s hs => ?_, w.2.1, w.2.2.1, w.2.2.2.1, fun b k hb => ?_, ?_⟩)
  · rw [w.2.2.2.2.1 _ _ (by omega) (by omega), h2.2.1 _ _ (by omega), h1.1 (s * 8 + k) (by omega) (by omega)]
    exact hE.2.2.2.2.2.2.2.2.2 s k hs hk2
  · rw [w.2.2.2.2.1 _ _ (by omega) (by omega), h2.1 s hs hs, h1.2.1 _ _ (by omega)]
    exact hE.2.2.2.2.2.2.2.1 s hs
  · rw [w.2.2.2.2.1 _ _ (by omega) (by omega), h2.2.1 _ _ (by omega), h1.2.1 _ _ (by omega)]
  · rw [w.2.2.2.2.2, h2.2.2, h1.2.2]
theorem lq45 (hS : zs_1 S e) (hA : zs_0 S x) (hd : e + 7 ≤ x ∨ x + 5 ≤ e) (hW : zWF E) {l : Nat} (hl : l ≤ 3) : ∀ (j i : Nat) (C0 : zx_C), i + j = 32 → zXE C0 x E → (∀ k, k < i → C0.1 (e + 4) k = zi (mAt E l (eV E + k))) → zW X 2 45 6 [.ref e, .ref x, .int (zi l), .int (zi i)] [] S C0 (zQv (fun C1 => (∀ k, k < 32 → C1.1 (e + 4) k = zi (mAt E l (eV E + k))) ∧ C1.1 e 4 = zi 32 ∧ (∀ s, s < 3 → C1.1 (e + 6) s = zi 0) ∧ (∀ b k, b ≠ e + 4 → b ≠ e + 6 → ¬ (b = e ∧ k = 4) → C1.1 b k = C0.1 b k) ∧ C1.2 = C0.2)) := by
  intro j
  have hV := hW.2.2.2.1
  induction j with
  | zero =>
    intro i C0 hi g1 g2
    refine vc45_6 (a2 := 0) hS hA ?_
    rw [zi_nat, zlt_f (by omega)]
    refine zc_mV (sp48 hS) (fun C1 h1 => ⟨fun k hk => ?_, ?_, h1.1, fun b k hb hb2 hk => ?_, h1.2.2⟩)
    · rw [h1.2.1 _ _ (by omega), zp_ne (by omega)]; exact g2 k (by omega)
    · rw [h1.2.1 _ _ (by omega), zp_hit]; rfl
    · rw [h1.2.1 _ _ (by omega), zp_miss _ _ _ _ (by omega)]
  | succ j ih =>
    intro i C0 hi g1 g2
    refine vc45_6 (a2 := 0) hS hA ?_
    rw [zi_nat, zlt_t (by omega), g1.2.2.2.1, zi_add, show ((eV E : Int) + (i : Int)) = ((eV E + i : Nat) : Int) by omega, sp46 hA g1 hW hl (by omega)]
    refine ⟨zi_in (by omega) (by omega) (by omega), ?_⟩
    rw [zi_s, zi_ix (by omega) (by omega), Int.toNat_natCast]
    refine zW_mono (ih (i + 1) _ (by omega) (zXE_of g1 (fun b k h1 h2 => zp_ne (by omega))) (fun k hk => ?_)) (fun v C1 w => ⟨w.1, w.2.1, w.2.2.1, w.2.2.2.1, fun b k hb hb2 hk => ?_, w.2.2.2.2.2⟩)
    · by_cases hk2 : k = i
      · subst hk2
        rw [zp_hit]
      · rw [zp_nf hk2]
        exact g2 k (by omega)
    · rw [w.2.2.2.2.1 b k hb hb2 hk, zp_ne hb]
/-- expectLaw -/
theorem sp45 (hS : zs_1 S e) (hA : zs_0 S x) (hd : e + 7 ≤ x ∨ x + 5 ≤ e) (hE : zXE C x E) (hW : zWF E) {l : Nat} (hl : l ≤ 3) : zCd X 2 45 [.ref e, .ref x, .int (zi l)] S C (zQv (fun C1 => (∀ k, k < 32 → C1.1 (e + 4) k = zi (mAt E l (eV E + k))) ∧ C1.1 e 4 = zi 32 ∧ (∀ s, s < 3 → C1.1 (e + 6) s = zi 0) ∧ (∀ b k, b ≠ e + 4 → b ≠ e + 6 → ¬ (b = e ∧ k = 4) → C1.1 b k = C.1 b k) ∧ C1.2 = C.2)) :=
  vc45 hS hA (lq45 hS hA hd hW hl 32 0 C (by omega) hE (fun k hk => absurd hk (Nat.not_lt_zero k)))
/-- what is known by a law -/
def dLaw (E : zT) (l : Nat) : zD := ((eN E, eT E, mOwn E (-1), 32), eu E, eb E, (fun i => (mAt E l (eV E + i)).toNat))
theorem mOwn_p {E : zT} (o : Int) : mOwn E o < 2 ^ eT E := mSet_lt _ _
theorem zWD_law {E : zT} (hW : zWF E) (l : Nat) : zWD (dLaw E l) := by
  refine ⟨hW.1, hW.2.1, mOwn_p _, ⟨Nat.le_refl 32, ?_⟩, fun i _ => ?_, hW.2.2.2.2.2.2.1, hW.2.2.2.2.2.2.2.2⟩
  · show mCnt (mOwn E (-1)) 8 ≤ 32
    have := mCnt_le (mOwn E (-1)) 8
    omega
  · show (mAt E l (eV E + i)).toNat < eN E
    have := mAt_b hW l (eV E + i)
    omega
/-- know, and expectLaw -/
theorem sq_think (hS : zs_1 S e) (hA : zs_0 S x) (hd : e + 7 ≤ x ∨ x + 5 ≤ e) (hE : zXE C x E) (hW : zWF E) {l : Nat} (hl : l ≤ 3) {f : zx_C → Int32} (hf : ∀ C1 : zx_C, (∀ b k, (b < e ∨ e + 7 ≤ b) → C1.1 b k = C.1 b k) → f C1 = zi l)
    (h : ∀ C1 : zx_C, zMd C1 e (dLaw E l) → (∀ s, s < 3 → C1.1 (e + 3) s = zi (mHas E s)) → (∀ s, s < 3 → C1.1 (e + 6) s = zi 0) → (∀ b k, (b < e ∨ e + 7 ≤ b ∨ b = e + 5) → C1.1 b k = C.1 b k) → C1.2 = C.2 → q C1) : zCd X 3 38 [.ref e, .ref x] S C (zQv (fun C1 => zCd X 2 45 [.ref e, .ref x, .int (f C1)] S C1 (zQv q))) := by
  refine zc_mV (sp38 hS hA hd hE hW) (fun C1 h1 => ?_)
  obtain ⟨a1, a2, a3, a4, a5, a6, a7⟩ := h1
  rw [hf C1 (fun b k hb => a6 b k (by omega))]
  refine zc_mV (sp45 hS hA hd (zXE_of hE (fun b k _ _ => a6 b k (by omega))) hW hl) (fun C2 h2 => ?_)
  obtain ⟨b1, b2, b3, b4, b5⟩ := h2
  refine h C2 ⟨fun s k hs hk => ?_, fun s hs => ?_, fun i hi => ?_, b2, ?_, ?_⟩ (fun s hs => ?_) b3 (fun b k hb => ?_) (b5.trans a7)
  · rw [b4 _ _ (by omega) (by omega) (by omega)]; exact a1 s k hs hk
  · rw [b4 _ _ (by omega) (by omega) (by omega)]; exact a2 s hs
  · rw [b1 i hi]
    have := mAt_b hW l (eV E + i)
    show _ = zi (((mAt E l (eV E + i)).toNat : Nat) : Int)
    rw [Int.toNat_of_nonneg this.1]
  · rw [b4 _ _ (by omega) (by omega) (by omega)]; exact a4
  · rw [b4 _ _ (by omega) (by omega) (by omega)]; exact a5
  · rw [b4 _ _ (by omega) (by omega) (by omega)]; exact a3 s hs
  · rw [b4 _ _ (by omega) (by omega) (by omega), a6 b k hb]
end
theorem zo_n : zo none = -1 := rfl
theorem zo_s (k : Nat) : zo (some k) = (k : Int) := rfl
section
variable {X : zX} {S : zx_S} {C : zx_C} {q : Int32 → zx_C → Prop} {e : Nat} {M : zD}
/-- turnWhen -/
theorem sp55 (hS : zs_1 S e) (hM : zMd C e M) {m : Nat} (hm : m < 256) (hc : mCnt m 8 ≤ mCnt (dL M) 8) : zCd X 1 55 [.ref e, .int (zi m)] S C (zQi q) = q (zi (mTurn M m)) C := by
  refine zc_eI (fun q h => vc55 hS ?_) q
  rw [sp44 hm, hM.2.2.2.2.2, zi_sub, show ((mCnt (dL M) 8 : Int) - (mCnt m 8 : Int)) = ((mTurn M m : Nat) : Int) by unfold mTurn; omega]
  exact h
/-- moverWhen -/
theorem sp63 (hS : zs_1 S e) (hM : zMd C e M) (hD : zWD M) {m : Nat} (hm : m < 256) (h0 : m ≠ 0) (hc : mCnt m 8 ≤ mCnt (dL M) 8) : zCd X 2 63 [.ref e, .int (zi m)] S C (zQi q) = q (zi (dW M (mTurn M m))) C := by
  refine zc_eI (fun q h => vc63 hS ?_) q
  have h1 := mCnt_p hm h0
  have h2 := hD.2.2.2.1
  have h3 : mTurn M m < dC M := by unfold mTurn; omega
  rw [sp55 hS hM hm hc, sp11 (za_1_3 hS) (by omega) (by omega) (by omega), Int.toNat_natCast, hM.2.2.1 _ h3]
  exact h
/-- bentOf -/
theorem sp64 (hS : zs_1 S e) (hM : zMd C e M) {s : Nat} (hs : s < 3) : zCd X 1 64 [.ref e, .int (zi s)] S C (zQi q) = q (zi (dB M s)) C := by
  refine zc_eI (fun q h => vc64 hS ?_) q
  rw [sp11 (za_1_1 hS) (by omega) (by omega) (by omega), Int.toNat_natCast, hM.2.1 s hs]
  exact h
/-- worthTo -/
theorem sp59 (hS : zs_1 S e) (hM : zMd C e M) (hD : zWD M) {s k : Nat} (hs : s < dN M) (hk : k < dT M) : zCd X 0 59 [.ref e, .int (zi s), .int (zi k)] S C (zQi q) = q (zi (dU M s k)) C := by
  refine zc_eI (fun q h => vc59 hS ?_) q
  have h1 := hD.1
  have h2 := hD.2.1
  rw [zi_8, zi_mul, zi_add, zi_0, zlt_f (by omega), zi_nat, zlt_t (by omega)]
  refine ⟨zi_in (by omega) (by omega) (by omega), ?_⟩
  rw [zi_ix (by omega) (by omega), show ((s : Int) * 8 + k).toNat = s * 8 + k by omega, hM.1 s k hs hk]
  exact h
/-- stillGets -/
theorem sp66 (hS : zs_1 S e) {s m : Nat} (hs : s < 3) (hm : m < 256) : zCd X 0 66 [.ref e, .int (zi s), .int (zi m)] S C (zQi q) = q (C.1 (e + 5) (s * 256 + m)) C := by
  refine zc_eI (fun q h => vc66 hS ?_) q
  rw [zi_256, zi_mul, zi_add, zi_0, zlt_f (by omega), zi_nat, zlt_t (by omega)]
  refine ⟨zi_in (by omega) (by omega) (by omega), ?_⟩
  rw [zi_ix (by omega) (by omega), show ((s : Int) * 256 + m).toNat = s * 256 + m by omega]
  exact h
/-- owned -/
theorem sp121 (hS : zs_1 S e) {s : Nat} (hs : s < 3) : zCd X 1 121 [.ref e, .int (zi s)] S C (zQi q) = q (C.1 (e + 3) s) C := by
  refine zc_eI (fun q h => vc121 hS ?_) q
  rw [sp11 (za_1_2 hS) (by omega) (by omega) (by omega), Int.toNat_natCast]
  exact h
theorem mArg_none {lt : Nat → Nat → Bool} {m n : Nat} (h : ∀ j, j < n → m.testBit j = false) : mArg lt m n = none := by
  cases hc : mArg lt m n with
  | none => rfl
  | some k =>
    have := mArg_in n k hc
    rw [h k this.1] at this
    cases this.2
theorem lq52 {m : Nat} (hm : m < 256) : ∀ j i : Nat, i + j = 8 → (∀ k, k < i → m.testBit k = false) → q (zi (zo (mArg (fun _ _ => false) m 8))) C → zW X 1 52 2 [.int (zi m), .int (zi i)] [] S C (zQi q) := by
  intro j
  induction j with
  | zero =>
    intro i hi g hq
    refine vc52_2 (a1 := 0) ?_
    rw [zi_8, zlt_f (by omega)]
    rw [mArg_none (fun k hk => g k (by omega))] at hq
    exact hq
  | succ j ih =>
    intro i hi g hq
    refine vc52_2 (a1 := 0) ?_
    rw [zi_8, zlt_t (by omega), sp53 (by omega) hm, zi_s]
    by_cases hb : m.testBit i = true
    · rw [zb_t hb]
      rw [mArg_first hb g 8 (by omega)] at hq
      exact hq
    · rw [zb_f hb]
      refine ih (i + 1) (by omega) (fun k hk => ?_) hq
      by_cases hk2 : k = i
      · rw [hk2]; exact Bool.eq_false_iff.mpr hb
      · exact g k (by omega)
/-- first -/
theorem sp52 {m : Nat} (hm : m < 256) : zCd X 1 52 [.int (zi m)] S C (zQi q) = q (zi (zo (mArg (fun _ _ => false) m 8))) C :=
  zc_eI (fun _ h => vc52 (lq52 hm 8 0 (by omega) (fun k hk => absurd hk (Nat.not_lt_zero k)) h)) q
theorem lq54 {m : Nat} (hm : m < 256) : ∀ i : Nat, i ≤ 8 → (∀ k, i ≤ k → k < 8 → m.testBit k = false) → q (zi (zo (mArg (fun _ _ => true) m 8))) C → zW X 1 54 3 [.int (zi m), .int (zi ((i : Int) - 1))] [] S C (zQi q) := by
  intro i
  induction i with
  | zero =>
    intro hi g hq
    refine vc54_3 (a1 := 0) ?_
    rw [zi_0, zlt_t (by omega)]
    rw [mArg_none (fun k hk => g k (by omega) hk)] at hq
    exact hq
  | succ i ih =>
    intro hi g hq
    refine vc54_3 (a1 := 0) ?_
    rw [show (((i + 1 : Nat) : Int) - 1) = (i : Int) by omega, zi_0, zlt_f (by omega), sp53 (by omega) hm, ← zi_0]
    by_cases hb : m.testBit i = true
    · rw [zb_t hb]
      rw [mArg_last hb (by omega) (fun k h1 h2 => g k (by omega) h2)] at hq
      exact hq
    · rw [zb_f hb, zi_m1, zi_add, show ((i : Int) + -1) = (i : Int) - 1 by omega]
      refine ih (by omega) (fun k hk h8 => ?_) hq
      by_cases hk2 : k = i
      · rw [hk2]; exact Bool.eq_false_iff.mpr hb
      · exact g k (by omega) h8
/-- last -/
theorem sp54 {m : Nat} (hm : m < 256) : zCd X 1 54 [.int (zi m)] S C (zQi q) = q (zi (zo (mArg (fun _ _ => true) m 8))) C :=
  zc_eI (fun _ h => vc54 (lq54 hm 8 (by omega) (fun k h1 h2 => by omega) h)) q
theorem lq56 (hS : zs_1 S e) (hT : ∀ i, i < dC M → C.1 (e + 4) i = zi (dW M i)) (hD : zWD M) {s en : Nat} (hs : s < 3) (hen : en ≤ dC M) (z2 : Value) : ∀ f i : Nat, f = en - i → i ≤ 100 → q (zi (zo ((mRiv (dW M) s f i)))) C → zW X 1 56 19 [.ref e, .int (zi s), z2, .int (zi en), .int (zi i)] [] S C (zQi q) := by
  have hc := hD.2.2.2.1
  have hn := hD.1
  intro f
  induction f with
  | zero =>
    intro i hi h2 hq
    refine vc56_19 (a1 := 0) (a2 := 0) hS ?_
    rw [zlt_f (by omega)]
    exact hq
  | succ f ih =>
    intro i hi h2 hq
    refine vc56_19 (a1 := 0) (a2 := 0) hS ?_
    have hi2 : i < dC M := by omega
    have hw := hD.2.2.2.2.1 i hi2
    rw [zlt_t (by omega), sp11 (za_1_3 hS) (by omega) (by omega) (by omega), sp11 (za_1_3 hS) (by omega) (by omega) (by omega), Int.toNat_natCast, hT _ hi2, zeq_i (by omega), zi_s]
    simp only [mRiv] at hq
    by_cases c : dW M i = s
    · rw [if_pos c] at hq
      rw [if_pos (by omega)]
      exact ih (i + 1) (by omega) (by omega) hq
    · rw [if_neg c] at hq
      rw [if_neg (by omega)]
      exact hq
/-- rivalOf: the turns alone -/
theorem sp56t (hS : zs_1 S e) (hT : ∀ i, i < dC M → C.1 (e + 4) i = zi (dW M i)) (h4 : C.1 e 4 = zi (dC M)) (hD : zWD M) {s i : Nat} (hs : s < 3) (hi : i ≤ 8) : zCd X 1 56 [.ref e, .int (zi s), .int (zi i)] S C (zQi q) = q (zi (zo (mRv M s i))) C := by
  refine zc_eI (fun q h => vc56 hS ?_) q
  have hc := hD.2.2.2.1
  rw [zi_24, zi_s, zi_1, zi_add, zi_add, h4, zmin_i (by omega), show (if (i : Int) + 24 + 1 < (dC M : Int) then (i : Int) + 24 + 1 else (dC M : Int)) = ((min (dC M) (i + 25) : Nat) : Int) by split <;> omega]
  exact lq56 hS hT hD hs (Nat.min_le_left _ _) _ _ (i + 1) rfl (by omega) h
/-- rivalOf -/
theorem sp56 (hS : zs_1 S e) (hM : zMd C e M) (hD : zWD M) {s i : Nat} (hs : s < 3) (hi : i ≤ 8) : zCd X 1 56 [.ref e, .int (zi s), .int (zi i)] S C (zQi q) = q (zi (zo (mRv M s i))) C :=
  sp56t hS hM.2.2.1 hM.2.2.2.1 hD hs hi
theorem mRiv_lt {W : Nat → Nat} {s n : Nat} : ∀ f i r : Nat, (∀ j, i ≤ j → j < i + f → W j < n) → mRiv W s f i = some r → r < n := by
  intro f
  induction f with
  | zero => intro i r _ h; cases h
  | succ f ih =>
    intro i r h1 h
    simp only [mRiv] at h
    by_cases c : W i = s
    · rw [if_pos c] at h
      exact ih (i + 1) r (fun j h2 h3 => h1 j (by omega) (by omega)) h
    · rw [if_neg c] at h
      cases h
      exact h1 i (by omega) (by omega)
theorem mRv_lt {s i r : Nat} (hD : zWD M) (h : mRv M s i = some r) : r < dN M :=
  mRiv_lt _ _ r (fun j h1 h2 => hD.2.2.2.2.1 j (by omega)) h
theorem lq58 (hS : zs_1 S e) (hM : zMd C e M) (hD : zWD M) {r s m : Nat} (hr : r < dN M) (hs : s < dN M) (hm : m < 2 ^ dT M) : ∀ (j i : Nat) (z7 : Value), i + j = 8 → q (zi (zo (mGr (fun k => dU M r k * 100 + dU M s k) m))) C → zW X 1 58 9 [.ref e, .int (zi r), .int (zi s), .int (zi m), .int (zi (mTop (fun k => dU M r k * 100 + dU M s k) (mArg (ltf (fun k => dU M r k * 100 + dU M s k)) m i))), .int (zi (zo (mArg (ltf (fun k => dU M r k * 100 + dU M s k)) m i))), .int (zi i), z7] [] S C (zQi q) := by
  have hm2 := pow_256 hm hD.2.1
  have hT := hD.2.1
  intro j
  induction j with
  | zero =>
    intro i z7 hi hq
    refine vc58_9 (a1 := 0) (a2 := 0) (a3 := 0) hS ?_
    rw [zi_8, zlt_f (by omega), show i = 8 by omega]
    exact hq
  | succ j ih =>
    intro i z7 hi hq
    refine vc58_9 (a1 := 0) (a2 := 0) (a3 := 0) hS ?_
    rw [zi_8, zlt_t (by omega), sp53 (by omega) hm2, zi_s]
    by_cases hb : m.testBit i = true
    · have hk := bit_lt hm hb
      have b1 := hD.2.2.2.2.2.2 r i hr hk
      have b2 := hD.2.2.2.2.2.2 s i hs hk
      rw [zb_t hb, sp59 hS hM hD hr hk, sp59 hS hM hD hs hk, zi_100, zi_mul, zi_add]
      have hst := mGr_s (f := fun k => dU M r k * 100 + dU M s k) hb (show (0 : Int) ≤ dU M r i * 100 + dU M s i by omega)
      have hi2 := fun z => ih (i + 1) z (by omega) hq
      rw [hst] at hi2
      have htop : -1 ≤ mTop (fun k => dU M r k * 100 + dU M s k) (mArg (ltf (fun k => dU M r k * 100 + dU M s k)) m i) ∧ mTop (fun k => dU M r k * 100 + dU M s k) (mArg (ltf (fun k => dU M r k * 100 + dU M s k)) m i) < 100000 := by
        cases hc : mArg (ltf (fun k => dU M r k * 100 + dU M s k)) m i with
        | none => show (-1 : Int) ≤ -1 ∧ (-1 : Int) < 100000; omega
        | some b =>
          have hin := mArg_in i b hc
          have hkb := bit_lt hm hin.2
          have c1 := hD.2.2.2.2.2.2 r b hr hkb
          have c2 := hD.2.2.2.2.2.2 s b hs hkb
          show (-1 : Int) ≤ dU M r b * 100 + dU M s b ∧ dU M r b * 100 + dU M s b < 100000
          omega
      rw [zlt_i (by omega)]
      by_cases c : mTop (fun k => dU M r k * 100 + dU M s k) (mArg (ltf (fun k => dU M r k * 100 + dU M s k)) m i) < dU M r i * 100 + dU M s i
      · rw [if_pos c]
        rw [if_pos c] at hi2
        exact hi2 _
      · rw [if_neg c]
        rw [if_neg c] at hi2
        exact hi2 _
    · rw [zb_f hb]
      have hi2 := ih (i + 1) z7 (by omega) hq
      rw [mArg_n hb] at hi2
      exact hi2
/-- greatest -/
theorem sp58 (hS : zs_1 S e) (hM : zMd C e M) (hD : zWD M) {r s m : Nat} (hr : r < dN M) (hs : s < dN M) (hm : m < 2 ^ dT M) : zCd X 1 58 [.ref e, .int (zi r), .int (zi s), .int (zi m)] S C (zQi q) = q (zi (zo (mGr (fun k => dU M r k * 100 + dU M s k) m))) C :=
  zc_eI (fun _ h => vc58 hS (lq58 hS hM hD hr hs hm 8 0 _ (by omega) h)) q
theorem mGr_ss {s m : Nat} : mGr (fun k => dU M s k * 100 + dU M s k) m = mGr (dU M s) m := by
  refine mArg_c 8 (fun b k _ _ _ _ => ?_)
  unfold ltf
  refine decide_eq_decide.mpr ?_
  dsimp only
  omega
theorem mGr_rs {r s m : Nat} (hD : zWD M) (hr : r < dN M) (hs : s < dN M) (hm : m < 2 ^ dT M) : mGr (fun k => dU M r k * 100 + dU M s k) m = mArg (mSpo M s r) m 8 := by
  refine mArg_c 8 (fun b k _ _ hb hk => ?_)
  have b1 := hD.2.2.2.2.2.2 r b hr (bit_lt hm hb)
  have b2 := hD.2.2.2.2.2.2 s b hs (bit_lt hm hb)
  have b3 := hD.2.2.2.2.2.2 r k hr (bit_lt hm hk)
  have b4 := hD.2.2.2.2.2.2 s k hs (bit_lt hm hk)
  unfold ltf mSpo
  refine decide_eq_decide.mpr ?_
  dsimp only
  omega
/-- the least so far -/
def mLow (f : Nat → Int) : Option Nat → Int
  | none => 1000000
  | some b => f b
theorem lq60 (hS : zs_1 S e) (hM : zMd C e M) (hD : zWD M) {r m : Nat} (hr : r < dN M) (hm : m < 2 ^ dT M) : ∀ (j i : Nat), i + j = 8 → q (zi (zo (mArg (mLea M r) m 8))) C → zW X 1 60 9 [.ref e, .int (zi r), .int (zi m), .int (zi (mLow (dU M r) (mArg (mLea M r) m i))), .int (zi (zo (mArg (mLea M r) m i))), .int (zi i)] [] S C (zQi q) := by
  have hm2 := pow_256 hm hD.2.1
  have hT := hD.2.1
  intro j
  induction j with
  | zero =>
    intro i hi hq
    refine vc60_9 (a1 := 0) (a2 := 0) hS ?_
    rw [zi_8, zlt_f (by omega), show i = 8 by omega]
    exact hq
  | succ j ih =>
    intro i hi hq
    refine vc60_9 (a1 := 0) (a2 := 0) hS ?_
    rw [zi_8, zlt_t (by omega), sp53 (by omega) hm2, zi_s]
    by_cases hb : m.testBit i = true
    · have hk := bit_lt hm hb
      have b1 := hD.2.2.2.2.2.2 r i hr hk
      rw [zb_t hb, sp59 hS hM hD hr hk]
      have hi2 := ih (i + 1) (by omega) hq
      have hst : mArg (mLea M r) m (i + 1) = if mLow (dU M r) (mArg (mLea M r) m i) < dU M r i then mArg (mLea M r) m i else some i := by
        simp only [mArg]
        rw [if_pos hb]
        cases mArg (mLea M r) m i with
        | none =>
          show some i = if (1000000 : Int) < dU M r i then none else some i
          rw [if_neg (by omega)]
        | some b =>
          show (if decide (dU M r i ≤ dU M r b) = true then some i else some b) = if dU M r b < dU M r i then some b else some i
          by_cases c : dU M r b < dU M r i
          · rw [if_pos c, if_neg (by simp only [decide_eq_true_eq]; omega)]
          · rw [if_neg c, if_pos (by simp only [decide_eq_true_eq]; omega)]
      rw [hst] at hi2
      have hlow : 0 ≤ mLow (dU M r) (mArg (mLea M r) m i) ∧ mLow (dU M r) (mArg (mLea M r) m i) ≤ 1000000 := by
        cases hc : mArg (mLea M r) m i with
        | none => show (0 : Int) ≤ 1000000 ∧ (1000000 : Int) ≤ 1000000; omega
        | some b =>
          have hin := mArg_in i b hc
          have c1 := hD.2.2.2.2.2.2 r b hr (bit_lt hm hin.2)
          show (0 : Int) ≤ dU M r b ∧ dU M r b ≤ 1000000
          omega
      rw [zlt_i (by omega)]
      by_cases c : mLow (dU M r) (mArg (mLea M r) m i) < dU M r i
      · rw [if_pos c]
        rw [if_pos c] at hi2
        exact hi2
      · rw [if_neg c, sp59 hS hM hD hr hk]
        rw [if_neg c] at hi2
        exact hi2
    · rw [zb_f hb]
      have hi2 := ih (i + 1) (by omega) hq
      rw [mArg_n hb] at hi2
      exact hi2
/-- lastLeast -/
theorem sp60 (hS : zs_1 S e) (hM : zMd C e M) (hD : zWD M) {r m : Nat} (hr : r < dN M) (hm : m < 2 ^ dT M) : zCd X 1 60 [.ref e, .int (zi r), .int (zi m)] S C (zQi q) = q (zi (zo (mArg (mLea M r) m 8))) C :=
  zc_eI (fun _ h => vc60 hS (lq60 hS hM hD hr hm 8 0 (by omega) h)) q
/-- chooseBlind -/
theorem sp51 (hS : zs_1 S e) (hM : zMd C e M) (hD : zWD M) {s m : Nat} {b : Int} (hs : s < dN M) (hb : 0 ≤ b ∧ b ≤ 5) (hm : mSub m (dL M)) : zCd X 2 51 [.ref e, .int (zi s), .int (zi b), .int (zi m)] S C (zQi q) = q (zi (zo (mBlind M s b m))) C := by
  refine zc_eI (fun q h => vc51 hS ?_) q
  have hn := hD.1
  have hT := hD.2.1
  have hmT : m < 2 ^ dT M := Nat.lt_of_le_of_lt (mSub_le hm) hD.2.2.1
  have hm2 := pow_256 hmT hD.2.1
  have hc := mSub_cnt hm 8
  have hc8 := mCnt_le (dL M) 8
  have ht : mTurn M m ≤ 8 := by unfold mTurn; omega
  rw [zi_toInt (by omega) (by omega)]
  unfold mBlind at h
  by_cases c0 : b = 0
  · rw [if_pos c0] at h
    rw [if_pos c0, sp52 hm2]
    exact h
  · rw [if_neg c0] at h
    rw [if_neg c0]
    by_cases c1 : b = 1
    · rw [if_neg (by omega), if_neg (by omega), if_neg (by omega)] at h
      rw [if_pos (by omega), sp58 hS hM hD hs hs hmT, mGr_ss]
      exact h
    · rw [if_neg (by omega)]
      by_cases c2 : b = 2
      · rw [if_neg (by omega), if_pos c2] at h
        rw [if_pos (by omega), sp55 hS hM hm2 hc, sp56 hS hM hD (by omega) ht]
        cases hr : mRv M s (mTurn M m) with
        | none =>
          rw [hr] at h
          rw [zo_n, zi_m1, if_pos rfl, sp58 hS hM hD hs hs hmT, mGr_ss]
          exact h
        | some r =>
          rw [hr] at h
          have hrn := mRv_lt hD hr
          rw [zo_s, zi_m1, zeq_f (by omega), sp58 hS hM hD hrn hs hmT, mGr_rs hD hrn hs hmT]
          exact h
      · rw [if_neg (by omega)]
        by_cases c3 : b = 3
        · rw [if_neg (by omega), if_neg (by omega), if_pos c3] at h
          rw [if_pos (by omega), sp55 hS hM hm2 hc, sp56 hS hM hD (by omega) ht]
          cases hr : mRv M s (mTurn M m) with
          | none =>
            rw [hr] at h
            rw [zo_n, zi_m1, if_pos rfl, if_pos rfl, sp58 hS hM hD hs hs hmT, mGr_ss]
            exact h
          | some r =>
            rw [hr] at h
            have hrn := mRv_lt hD hr
            have hmc := mCnt_le m 8
            rw [zo_s, zi_m1, zeq_f (by omega), sp44 hm2, zi_1, zlt_i (by omega)]
            dsimp only at h
            unfold mWait at h
            by_cases c5 : 1 < mCnt m 8
            · rw [if_pos c5] at h
              rw [if_pos (by omega), if_neg (by decide)]
              have hm0 : m ≠ 0 := fun q => by rw [q, mCnt_z] at c5; omega
              obtain ⟨x, hx, hx8, hxb⟩ := mArg_some (lt := mLea M r) hm2 hm0
              rw [hx] at h
              rw [sp60 hS hM hD hrn hmT, hx, zo_s, sp61 hx8 hm2, sp58 hS hM hD hs hs (Nat.lt_of_le_of_lt (wo_le m x) hmT), mGr_ss]
              exact h
            · rw [if_neg c5] at h
              rw [if_neg (by omega), if_pos (by rfl), sp58 hS hM hD hs hs hmT, mGr_ss]
              exact h
        · rw [if_neg (by omega)]
          by_cases c4 : b = 4
          · rw [if_pos c4] at h
            rw [if_pos (by omega), sp54 hm2]
            exact h
          · rw [if_neg (by omega), if_neg (by omega), if_neg (by omega)] at h
            rw [if_neg (by omega), sp58 hS hM hD hs hs hmT, mGr_ss]
            exact h
end
