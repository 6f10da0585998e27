/-! FAIREST, as the model has it, and the call -/
section
variable {X : zX} {S : zx_S} {C : zx_C} {q : Int32 → zx_C → Prop} {e a : Nat} {D : zDD} {E : zT} {H : zH}
theorem lq235a (hS : zs_5 S a) (i1 : Int32) (z4 : Value) (K : ∀ C1 : zx_C, (∀ s, s < 3 → C1.1 (a + 294) s = zi 0) → (∀ b k, b ≠ a + 294 → C1.1 b k = C.1 b k) → C1.2 = C.2 → zW X 0 235 24 [.ref a, .int i1, .ref (a + 294), .int 0, z4] [] S C1 (zQi q)) : ∀ (j i : Nat) (C0 : zx_C), i + j = 3 → (∀ s, s < i → C0.1 (a + 294) s = zi 0) → (∀ b k, b ≠ a + 294 → C0.1 b k = C.1 b k) → C0.2 = C.2 → zW X 0 235 7 [.ref a, .int i1, .ref (a + 294), .int (zi i), z4] [] S C0 (zQi q) := by
  intro j
  induction j with
  | zero =>
    intro i C0 hi g1 g2 g3
    refine vc235_7 (a1 := 0) hS ?_
    rw [zi_3, zlt_f (by omega)]
    exact K C0 (fun s hs => g1 s (by omega)) g2 g3
  | succ j ih =>
    intro i C0 hi g1 g2 g3
    refine vc235_7 (a1 := 0) hS ?_
    rw [zi_3, zlt_t (by omega), zi_s, zi_ix (by omega) (by omega), Int.toNat_natCast]
    refine ⟨zi_in (by omega) (by omega) (by omega), ih (i + 1) _ (by omega) (fun s hs => ?_) (fun b k hb => by rw [zp_ne hb, g2 b k hb]) g3⟩
    by_cases c : s = i
    · subst c; rw [zp_hit, zi_0]
    · rw [zp_nf c]; exact g1 s (by omega)
theorem lq235b (hS : zs_5 S a) {p : Nat} (hp : p ≤ 8) {f : Nat → Nat} (hf3 : ∀ k, k < p → f k < 3) (hf : ∀ k, k < p → C.1 (a + 31) k = zi (f k)) (z4 : Value) (K : ∀ C1 : zx_C, (∀ s, s < 3 → C1.1 (a + 294) s = zi (mCt f s p)) → (∀ b k, b ≠ a + 294 → C1.1 b k = C.1 b k) → C1.2 = C.2 → zW X 0 235 49 [.ref a, .int (zi p), .ref (a + 294), .int 0, z4] [] S C1 (zQi q)) : ∀ (j i : Nat) (C0 : zx_C), i + j = p → (∀ s, s < 3 → C0.1 (a + 294) s = zi (mCt f s i)) → (∀ b k, b ≠ a + 294 → C0.1 b k = C.1 b k) → C0.2 = C.2 → zW X 0 235 24 [.ref a, .int (zi p), .ref (a + 294), .int (zi i), z4] [] S C0 (zQi q) := by
  intro j
  induction j with
  | zero =>
    intro i C0 hi g1 g2 g3
    refine vc235_24 (a1 := 0) hS ?_
    rw [zlt_f (by omega)]
    rw [show i = p by omega] at g1
    exact K C0 g1 g2 g3
  | succ j ih =>
    intro i C0 hi g1 g2 g3
    refine vc235_24 (a1 := 0) hS ?_
    have h3 := hf3 i (by omega)
    have h31 : C0.1 (a + 31) i = zi (f i) := by rw [g2 _ _ (by omega)]; exact hf i (by omega)
    have hv : vp_in (zi ((f i : Nat) : Int)) 3 := zi_in (by omega) (by omega) (by omega)
    rw [zlt_t (by omega), zi_ix (by omega) (by omega), Int.toNat_natCast, h31, zi_ix (by omega) (by omega), Int.toNat_natCast, g1 (f i) h3, zi_s, zi_s]
    refine ⟨zi_in (by omega) (by omega) (by omega), hv, hv, ih (i + 1) _ (by omega) (fun s hs => ?_) (fun b k hb => by rw [zp_ne hb, g2 b k hb]) g3⟩
    simp only [mCt]
    by_cases c : f i = s
    · rw [if_pos c, ← c, zp_hit]
    · rw [if_neg c, zp_nf (by omega), Nat.add_zero]
      exact g1 s hs
theorem lq235d (hS : zs_5 S a) {n p s : Nat} {f : Nat → Nat} (hs : s < n) (hn : n ≤ 3) (hm : ∀ s, s < 3 → C.1 (a + 294) s = zi (mCt f s p)) (hp : p ≤ 8) (z1 : Value) (K1 : (∀ k, k < s → mCt f s p ≤ mCt f k p + 1 ∧ mCt f k p ≤ mCt f s p + 1) → ∀ y4 : Value, zW X 0 235 49 [.ref a, z1, .ref (a + 294), .int (zi ((s + 1 : Nat) : Int)), y4] [] S C (zQi q)) (K2 : ∀ k, k < s → ¬ (mCt f s p ≤ mCt f k p + 1 ∧ mCt f k p ≤ mCt f s p + 1) → q (zi 0) C) : ∀ (j k : Nat), k + j = s → (∀ t, t < k → mCt f s p ≤ mCt f t p + 1 ∧ mCt f t p ≤ mCt f s p + 1) → zW X 0 235 60 [.ref a, z1, .ref (a + 294), .int (zi s), .int (zi k)] [] S C (zQi q) := by
  have b1 := mCt_le f s p
  intro j
  induction j with
  | zero =>
    intro k hk g
    refine vc235_60 (a1 := 0) hS ?_
    rw [zlt_f (by omega), zi_s]
    exact K1 (fun t ht => g t (by omega)) _
  | succ j ih =>
    intro k hk g
    refine vc235_60 (a1 := 0) hS ?_
    have b2 := mCt_le f k p
    have vs : vp_in (zi (s : Int)) 3 := zi_in (by omega) (by omega) (by omega)
    have vk : vp_in (zi (k : Int)) 3 := zi_in (by omega) (by omega) (by omega)
    rw [zlt_t (by omega), zi_ix (by omega) (by omega), zi_ix (by omega) (by omega), Int.toNat_natCast, Int.toNat_natCast, hm s (by omega), hm k (by omega), zi_sub, zi_sub, zi_s, zi_1, zlt_i (by omega), zlt_i (by omega)]
    refine ⟨vs, vk, ?_⟩
    by_cases c1 : (1 : Int) < (mCt f s p : Int) - (mCt f k p : Int)
    · rw [if_pos c1]
      exact K2 k (by omega) (by omega)
    · rw [if_neg c1]
      refine ⟨vk, vs, ?_⟩
      by_cases c2 : (1 : Int) < (mCt f k p : Int) - (mCt f s p : Int)
      · rw [if_pos c2]
        exact K2 k (by omega) (by omega)
      · rw [if_neg c2]
        refine ih (k + 1) (by omega) (fun t ht => ?_)
        by_cases c : t = k
        · subst c; omega
        · exact g t (by omega)
theorem lq235c (hS : zs_5 S a) {n p : Nat} {f : Nat → Nat} (hn : n = 2 ∨ n = 3) (h10 : C.1 a 10 = zi n) (hf : ∀ k, k < p → f k < n) (hm : ∀ s, s < 3 → C.1 (a + 294) s = zi (mCt f s p)) (hp : p ≤ 8) (z1 : Value) : ∀ (j s : Nat) (z4 : Value), s + j = n → (∀ t k, t < s → k < t → mCt f t p ≤ mCt f k p + 1 ∧ mCt f k p ≤ mCt f t p + 1) → q (zb (mEv n p f)) C → zW X 0 235 49 [.ref a, z1, .ref (a + 294), .int (zi s), z4] [] S C (zQi q) := by
  intro j
  induction j with
  | zero =>
    intro s z4 hs g hq
    refine vc235_49 (a1 := 0) hS ?_
    rw [h10, zlt_f (by omega)]
    rw [zbT ((mEv_pair hn hf).mpr (fun t k h1 h2 => g t k (by omega) h2))] at hq
    exact hq
  | succ j ih =>
    intro s z4 hs g hq
    refine vc235_49 (a1 := 0) hS ?_
    rw [h10, zlt_t (by omega)]
    refine lq235d hS (s := s) (n := n) (by omega) (by omega) hm hp _ (fun h y4 => ih (s + 1) y4 (by omega) (fun t k h1 h2 => ?_) hq) (fun k hk h => ?_) s 0 (Nat.zero_add _) (fun t ht => absurd ht (Nat.not_lt_zero t))
    · by_cases c : t = s
      · subst c; exact h k h2
      · exact g t k (by omega) h2
    · rw [zbF (fun he => h ((mEv_pair hn hf).mp he s k (by omega) hk))] at hq
      exact hq
/-- isEven -/
theorem sp235 (hS : zs_5 S a) {n p : Nat} {f : Nat → Nat} (hn : n = 2 ∨ n = 3) (h10 : C.1 a 10 = zi n) (hf3 : ∀ k, k < p → f k < n) (hf : ∀ k, k < p → C.1 (a + 31) k = zi (f k)) (hp : p ≤ 8) : zCd X 0 235 [.ref a, .int (zi p)] S C (zQi (fun r C1 => r = zb (mEv n p f) ∧ (∀ b k, b ≠ a + 294 → C1.1 b k = C.1 b k) ∧ C1.2 = C.2)) := by
  refine vc235 hS ?_
  refine lq235a (C := C) hS _ _ (fun C1 b1 b2 b3 => ?_) 3 0 C (by omega) (fun s hs => absurd hs (Nat.not_lt_zero s)) (fun _ _ _ => rfl) rfl
  refine lq235b (f := f) (C := C1) hS hp (fun k hk => by have := hf3 k hk; omega) (fun k hk => by rw [b2 _ _ (by omega)]; exact hf k hk) _ (fun C2 d1 d2 d3 => ?_) p 0 C1 (Nat.zero_add _) (fun s hs => by rw [b1 s hs]; rfl) (fun _ _ _ => rfl) rfl
  have hfr : ∀ b k, b ≠ a + 294 → C2.1 b k = C.1 b k := fun b k hb => by rw [d2 b k hb, b2 b k hb]
  exact lq235c hS hn (by rw [hfr _ _ (by omega)]; exact h10) hf3 d1 hp _ n 0 _ (Nat.zero_add _) (fun t k ht => absurd ht (Nat.not_lt_zero t)) ⟨rfl, hfr, d3.trans b3⟩
/-- what stands around the search -/
def zFc (C : zx_C) (a : Nat) (E : zT) : Prop := zME C a E ∧ C.1 a 29 = zi (-1) ∧ C.1 a 32 = zi (eV E) ∧ C.1 a 31 = zi (mCnt (mOwn E (-1)) 8) ∧ C.1 a 33 = zi (-1)
def zLm : Option (Int × Nat) → Int
  | none => -1
  | some vb => vb.1
def zMF (C : zx_C) (a : Nat) (E : zT) (o : Option (Int × Nat)) : Prop := C.1 a 41 = zi (zLm o) ∧ ∀ vb, o = some vb → ∀ k, k < mCnt (mOwn E (-1)) 8 → C.1 (a + 293) k = zi (mDg (eN E) (mCnt (mOwn E (-1)) 8) vb.2 k)
theorem zFc_of {C1 : zx_C} (hW : zWF E) (h : zFc C a E) (h1 : ∀ b k, ¬ (b = a ∧ (k = 36 ∨ k = 41)) → b < a + 31 → C1.1 b k = C.1 b k) : zFc C1 a E :=
  ⟨zME_of hW h.1 (fun b k h2 h3 h4 => h1 b k (by omega) (by omega)), by rw [h1 _ _ (by omega) (by omega)]; exact h.2.1, by rw [h1 _ _ (by omega) (by omega)]; exact h.2.2.1, by rw [h1 _ _ (by omega) (by omega)]; exact h.2.2.2.1, by rw [h1 _ _ (by omega) (by omega)]; exact h.2.2.2.2⟩
end
section
variable {X : zX} {S : zx_S} {C : zx_C} {q : zx_C → Prop} {e a : Nat} {D : zDD} {E : zT} {H : zH}
theorem lq234b (hS : zs_5 S a) {d p : Nat} (hd : 33 ≤ d) (hp : p ≤ 8) {f : Nat → Nat} (hf : ∀ k, k < p → C.1 (a + 31) k = zi (f k)) (z1 z3 : Value) (K : ∀ C1 : zx_C, (∀ k, k < p → C1.1 (a + 293) k = zi (f k)) → (∀ b k, b ≠ a + 293 → C1.1 b k = C.1 b k) → C1.2 = C.2 → q C1) : ∀ (j i : Nat) (C0 : zx_C), i + j = p → (∀ k, k < i → C0.1 (a + 293) k = zi (f k)) → (∀ b k, b ≠ a + 293 → C0.1 b k = C.1 b k) → C0.2 = C.2 → zW X (d + 1) 234 46 [.ref a, z1, .int (zi p), z3, .int (zi i)] [] S C0 (zQv q) := by
  intro j
  induction j with
  | zero =>
    intro i C0 hi g1 g2 g3
    refine vc234_46 (a1 := 0) (a2 := 0) hd hS ?_
    rw [zlt_f (by omega)]
    exact K C0 (fun k hk => g1 k (by omega)) g2 g3
  | succ j ih =>
    intro i C0 hi g1 g2 g3
    refine vc234_46 (a1 := 0) (a2 := 0) hd hS ?_
    have h31 : C0.1 (a + 31) i = zi (f i) := by rw [g2 _ _ (by omega)]; exact hf i (by omega)
    have vi : vp_in (zi (i : Int)) 8 := zi_in (by omega) (by omega) (by omega)
    rw [zlt_t (by omega), zi_ix (by omega) (by omega), Int.toNat_natCast, h31, zi_s]
    refine ⟨vi, vi, ih (i + 1) _ (by omega) (fun k hk => ?_) (fun b k hb => by rw [zp_ne hb, g2 b k hb]) g3⟩
    by_cases c : k = i
    · subst c; exact zp_hit _ _ _ _
    · rw [zp_nf c]; exact g1 k (by omega)
theorem lq234 (hS : zs_5 S a) (hW : zWF E) : ∀ (t i P : Nat) (d : Nat) (C0 : zx_C), i + t = mCnt (mOwn E (-1)) 8 → 33 + t ≤ d → P < eN E ^ i → zFc C0 a E → (∀ k, k < i → C0.1 (a + 31) k = zi (mDg (eN E) i P k)) → zMF C0 a E (mFr E (P * eN E ^ t)) → zCd X (d + 1) 234 [.ref a, .int (zi i), .int (zi (mCnt (mOwn E (-1)) 8))] S C0 (zQv (fun C1 => zFc C1 a E ∧ (∀ k, k < i → C1.1 (a + 31) k = C0.1 (a + 31) k) ∧ zMF C1 a E (mFr E ((P + 1) * eN E ^ t)) ∧ zFM C0 C1 a)) := by
  have h8 := mCnt_le (mOwn E (-1)) 8
  have hn := hW.1
  intro t
  induction t with
  | zero =>
    intro i P d C0 hi hd hP g0 g1 g2
    refine vc234 (by omega) hS ?_
    have hip : i = mCnt (mOwn E (-1)) 8 := by omega
    rw [Nat.pow_zero, Nat.mul_one] at g2
    rw [Nat.pow_zero, Nat.mul_one, zeq_t (by omega)]
    rw [hip] at g1 hP
    have hnp := npow_b hW.1 h8
    have hDr := zWD_row hW (f := mDg (eN E) (mCnt (mOwn E (-1)) 8) P) (fun k _ => mDg_lt hW.1)
    have hub := mUr_b hW (f := mDg (eN E) (mCnt (mOwn E (-1)) 8) P) (fun k _ => mDg_lt hW.1)
    refine zc_mI (sp235 hS hW.1 g0.1.1 (fun k _ => mDg_lt hW.1) g1 h8) (fun r C1 w => ?_)
    obtain ⟨w1, w2, w3⟩ := w
    have f1 : zFM C0 C1 a := ⟨fun b k h1 h2 => w2 b k (by omega), w3⟩
    have c1 : zFc C1 a E := zFc_of hW g0 (fun b k h1 h2 => w2 b k (by omega))
    have m1 : zMF C1 a E (mFr E P) := ⟨by rw [w2 _ _ (by omega)]; exact g2.1, fun vb hvb k hk => by rw [w2 _ _ (by omega)]; exact g2.2 vb hvb k hk⟩
    rw [w1]
    by_cases cE : mEv (eN E) (mCnt (mOwn E (-1)) 8) (mDg (eN E) (mCnt (mOwn E (-1)) 8) P)
    · rw [zb_t cE]
      have hN1 : zWN C1 a E (eV E) (dRow E (mDg (eN E) (mCnt (mOwn E (-1)) 8) P)) := Or.inr ⟨c1.2.1, c1.2.2.1, c1.2.2.2.1, h8, fun i hi => by rw [w2 _ _ (by omega)]; exact g1 i hi⟩
      refine zc_mV (sp224 (w := fun _ => 0) (sh := -1) hS c1.1 hW hDr hN1 (by omega) c1.2.2.2.2 (fun h => by omega) (fun h => by omega) rfl rfl rfl rfl rfl) (fun C2 u => ?_)
      obtain ⟨u1, u2, u3⟩ := u
      rw [mCm_law rfl (a := -1)] at u1
      have c2 : zFc C2 a E := zFc_of hW c1 (fun b k h1 h2 => u2 b k (by omega) (by omega) (by omega))
      have f2 : zFM C0 C2 a := zFM_t f1 ⟨fun b k h1 h2 => u2 b k (by omega) (by omega) (by omega), u3⟩
      have g31 : ∀ k, C2.1 (a + 31) k = C0.1 (a + 31) k := fun k => by rw [u2 _ _ (by omega) (by omega) (by omega), w2 _ _ (by omega)]
      rw [sp227 hS hW.1 c2.1.1 (fun s hs => u1.2.2 s hs) (fun s _ => by have := mUr_e hW (f := mDg (eN E) (mCnt (mOwn E (-1)) 8) P) (fun k _ => mDg_lt hW.1) s; omega)]
      have h41 : C2.1 a 41 = zi (zLm (mFr E P)) := by rw [u2 _ _ (by omega) (by omega) (by omega)]; exact m1.1
      rw [h41]
      have hnx : mFr E (P + 1) = (match mFr E P with
          | none => some (mUr E (mDg (eN E) (mCnt (mOwn E (-1)) 8) P), P)
          | some vb => if mUr E (mDg (eN E) (mCnt (mOwn E (-1)) 8) P) < vb.1 then some (mUr E (mDg (eN E) (mCnt (mOwn E (-1)) 8) P), P) else some vb) := by
        simp only [mFr]
        rw [if_pos cE]
        cases mFr E P <;> rfl
      have take : mFr E (P + 1) = some (mUr E (mDg (eN E) (mCnt (mOwn E (-1)) 8) P), P) → zW X (d + 1) 234 46 [.ref a, .int (zi i), .int (zi (mCnt (mOwn E (-1)) 8)), .int (zi (mUr E (mDg (eN E) (mCnt (mOwn E (-1)) 8) P))), .int 0] [] S (zp C2 a 41 (zi (mUr E (mDg (eN E) (mCnt (mOwn E (-1)) 8) P)))) (zQv (fun C1 => zFc C1 a E ∧ (∀ k, k < i → C1.1 (a + 31) k = C0.1 (a + 31) k) ∧ zMF C1 a E (mFr E (P + 1)) ∧ zFM C0 C1 a)) := by
        intro ht
        refine lq234b (C := zp C2 a 41 (zi (mUr E (mDg (eN E) (mCnt (mOwn E (-1)) 8) P)))) hS (by omega) h8 (fun k hk => by rw [zp_ne (by omega), g31]; exact g1 k hk) _ _ (fun C3 b1 b2 b3 => ?_) _ 0 _ (Nat.zero_add _) (fun k hk => absurd hk (Nat.not_lt_zero k)) (fun _ _ _ => rfl) rfl
        refine ⟨zFc_of hW c2 (fun b k h1 h2 => by rw [b2 b k (by omega), zp_miss _ _ _ _ (by omega)]), fun k _ => by rw [b2 _ _ (by omega), zp_ne (by omega), g31], ?_, zFM_t f2 ⟨fun b k h1 h2 => by rw [b2 b k (by omega), zp_miss _ _ _ _ (by omega)], b3⟩⟩
        rw [ht]
        refine ⟨by rw [b2 _ _ (by omega), zp_hit]; rfl, fun vb hvb k hk => ?_⟩
        cases hvb
        exact b1 k hk
      cases hf : mFr E P with
      | none =>
        rw [hf] at hnx
        show if zi (-1) = -1 then _ else _
        rw [zi_m1, if_pos rfl]
        exact take hnx
      | some vb =>
        have hb := mFr_b hW P vb hf
        rw [hf] at hnx
        dsimp only at hnx
        show if zi vb.1 = -1 then _ else _
        rw [zi_m1, zeq_f (by omega)]
        show if zi (mUr E (mDg (eN E) (mCnt (mOwn E (-1)) 8) P)) < zi vb.1 then _ else _
        rw [zlt_i (by omega)]
        by_cases c : mUr E (mDg (eN E) (mCnt (mOwn E (-1)) 8) P) < vb.1
        · rw [if_pos c]
          rw [if_pos c] at hnx
          exact take hnx
        · rw [if_neg c]
          rw [if_neg c] at hnx
          refine ⟨c2, fun k _ => g31 k, ?_, f2⟩
          rw [hnx, ← hf]
          exact ⟨h41, fun vb hvb k hk => by rw [u2 _ _ (by omega) (by omega) (by omega)]; exact m1.2 vb hvb k hk⟩
    · rw [zb_f cE]
      have hnx : mFr E (P + 1) = mFr E P := by
        simp only [mFr]
        rw [if_neg cE]
      rw [hnx]
      exact ⟨c1, fun k _ => w2 _ _ (by omega), m1, f1⟩
  | succ t ih =>
    intro i P d C0 hi hd hP g0 g1 g2
    refine vc234 (by omega) hS ?_
    rw [zeq_f (by omega)]
    have hpw : eN E ^ (t + 1) = eN E * eN E ^ t := by rw [Nat.pow_succ, Nat.mul_comm]
    have loop : ∀ (j s : Nat) (C2 : zx_C) (z4 : Value), s + j = eN E → zFc C2 a E → (∀ k, k < i → C2.1 (a + 31) k = C0.1 (a + 31) k) → zMF C2 a E (mFr E ((P * eN E + s) * eN E ^ t)) → zFM C0 C2 a → zW X (d + 1) 234 75 [.ref a, .int (zi i), .int (zi (mCnt (mOwn E (-1)) 8)), .int (zi s), z4] [] S C2 (zQv (fun C1 => zFc C1 a E ∧ (∀ k, k < i → C1.1 (a + 31) k = C0.1 (a + 31) k) ∧ zMF C1 a E (mFr E ((P + 1) * eN E ^ (t + 1))) ∧ zFM C0 C1 a)) := by
      intro j
      induction j with
      | zero =>
        intro s C2 z4 hs k0 k1 k2 k3
        refine vc234_75 (a1 := 0) (a2 := 0) (by omega) hS ?_
        rw [k0.1.1, zlt_f (by omega)]
        have : (P * eN E + s) * eN E ^ t = (P + 1) * eN E ^ (t + 1) := by
          rw [show s = eN E by omega, hpw, ← Nat.mul_assoc, Nat.add_mul P 1, Nat.one_mul, Nat.add_mul]
        rw [this] at k2
        exact ⟨k0, k1, k2, k3⟩
      | succ j ihj =>
        intro s C2 z4 hs k0 k1 k2 k3
        refine vc234_75 (a1 := 0) (a2 := 0) (by omega) hS ?_
        rw [k0.1.1, zlt_t (by omega), zi_s, zi_s, zi_ix (by omega) (by omega), Int.toNat_natCast]
        refine ⟨zi_in (by omega) (by omega) (by omega), ?_⟩
        have hP2 : P * eN E + s < eN E ^ (i + 1) := by
          rw [Nat.pow_succ]
          have : (P + 1) * eN E ≤ eN E ^ i * eN E := Nat.mul_le_mul_right _ hP
          rw [Nat.add_mul, Nat.one_mul] at this
          omega
        have c0 : zFc (zp C2 (a + 31) i (zi s)) a E := zFc_of hW k0 (fun b k h1 h2 => zp_ne (by omega))
        have h := ih (i + 1) (P * eN E + s) (d - 1) (zp C2 (a + 31) i (zi s)) (by omega) (by omega) hP2 c0 (fun k hk => ?_) ⟨by rw [zp_ne (by omega)]; exact k2.1, fun vb hvb k hk => by rw [zp_ne (by omega)]; exact k2.2 vb hvb k hk⟩
        · rw [show d - 1 + 1 = d by omega] at h
          refine zc_mV h (fun C3 w => ?_)
          obtain ⟨w1, w2, w3, w4⟩ := w
          have w3' : zMF C3 a E (mFr E ((P * eN E + (s + 1)) * eN E ^ t)) := w3
          refine ihj (s + 1) C3 _ (by omega) w1 (fun k hk => by rw [w2 k (by omega), zp_nf (by omega)]; exact k1 k hk) w3' (zFM_t k3 (zFM_t ⟨fun b k h1 h2 => zp_ne (by omega), rfl⟩ w4))
        · rw [mDg_s hW.1 (by omega) hk]
          by_cases c : k = i
          · rw [if_pos c, c, zp_hit]
          · rw [if_neg c, zp_nf c, k1 k (by omega)]
            exact g1 k (by omega)
    have h0 : (P * eN E + 0) * eN E ^ t = P * eN E ^ (t + 1) := by
      rw [Nat.add_zero, hpw, Nat.mul_assoc]
    exact loop (eN E) 0 C0 _ (Nat.zero_add _) g0 (fun _ _ => rfl) (by rw [h0]; exact g2) (zFM_r _ _)
end
section
variable {X : zX} {S : zx_S} {C : zx_C} {q : Int32 → zx_C → Prop} {e a : Nat} {D : zDD} {E : zT} {H : zH}
/-- fairest -/
theorem cl_fairest (hX : zs_4 S e) (hM : zs_5 S a) (hW : zWI D) {i : Int} (hi : -2147483648 ≤ i ∧ i < 2147483648) : zBI X S e a D 7 129 [.int (zi i)] 64 233 [.int (zi i)] := by
  have h8 := mCnt_le (mOwn (gE D) (-1)) 8
  have hlt := mOwn_lt hW.1 (-1)
  by_cases c1 : i < -1
  · refine ⟨zi (-2), zRf D (-2), hW, fun C hI => vc129 hX ?_, fun C hI => vc233 hM ?_⟩
    · rw [zi_m1, z_m2, zlt_t (by omega)]; exact xrf hX hI (by omega)
    · rw [zi_m1, z_m2, zlt_t (by omega)]; exact mrf hM hW hI (by omega)
  · by_cases c2 : i < mCnt (mOwn (gE D) (-1)) 8
    · obtain ⟨vb, hvb⟩ := mFr_all hW.1
      have hb := mFr_b hW.1 _ vb hvb
      refine ⟨zi (if i = -1 then vb.1 else (mDg (eN (gE D)) (mCnt (mOwn (gE D) (-1)) 8) vb.2 i.toNat : Int)), D, hW, fun C hI => vc129 hX ?_, fun C hI => vc233 hM ?_⟩
      · rw [zi_m1, zlt_f (by omega), sp43 (zo_4_0 hX) hI.1 hW.1 (by omega), sp44 hlt, zlt_t (by omega)]
        refine zc_mI (sp130 hX hI.1 hI.2.2.2.2.2.2 hW.1) (fun r C1 w => ?_)
        obtain ⟨w1, w2, w3⟩ := w
        rw [w1, hvb, zeq_i (by omega)]
        by_cases c3 : i = -1
        · rw [if_pos c3, if_pos c3]
          exact ⟨rfl, zIX_T hI w3, zFX_out w3⟩
        · rw [if_neg c3, if_neg c3, sp11 (za_4_13 hX) (by omega) (by omega) (by omega)]
          exact ⟨w2 vb hvb i.toNat (by omega), zIX_T hI w3, zFX_out w3⟩
      · rw [zi_m1, zlt_f (by omega), sp172 hM hI.1 hW.1, sp183 hlt, zlt_t (by omega)]
        refine vc171 hM ?_
        have hE1 : zME (zp (zp C a 29 (zi (-1))) a 33 (-1)) a (gE D) := zME_of hW.1 hI.1 (fun b k hb h2 h3 => by rw [zp_miss _ _ _ _ (by omega), zp_miss _ _ _ _ (by omega)])
        rw [hE1.2.2.2.1]
        have f1 : zFM C (zp (zp (zp (zp (zp C a 29 (zi (-1))) a 33 (-1)) a 32 (zi (eV (gE D)))) a 31 (zi (mCnt (mOwn (gE D) (-1)) 8))) a 41 (zi (-1))) a := ⟨fun b k h1 h2 => by rw [zp_miss _ _ _ _ (by omega), zp_miss _ _ _ _ (by omega), zp_miss _ _ _ _ (by omega), zp_miss _ _ _ _ (by omega), zp_miss _ _ _ _ (by omega)], rfl⟩
        have c0 : zFc (zp (zp (zp (zp (zp C a 29 (zi (-1))) a 33 (-1)) a 32 (zi (eV (gE D)))) a 31 (zi (mCnt (mOwn (gE D) (-1)) 8))) a 41 (zi (-1))) a (gE D) := by
          refine ⟨zFM_E hW.1 f1 hI.1, ?_, ?_, ?_, ?_⟩
          · rw [zp_nf (by omega), zp_nf (by omega), zp_nf (by omega), zp_nf (by omega), zp_hit]
          · rw [zp_nf (by omega), zp_nf (by omega), zp_hit]
          · rw [zp_nf (by omega), zp_hit]
          · rw [zp_nf (by omega), zp_nf (by omega), zp_nf (by omega), zp_hit, zi_m1]
        have h := lq234 (X := X) hM hW.1 (mCnt (mOwn (gE D) (-1)) 8) 0 0 62 _ (Nat.zero_add _) (by omega) (by rw [Nat.pow_zero]; omega) c0 (fun k hk => absurd hk (Nat.not_lt_zero k)) (by rw [Nat.zero_mul]; exact ⟨zp_hit _ _ _ _, fun vb h => by cases h⟩)
        refine zc_mV h (fun C1 w => ?_)
        obtain ⟨w1, w2, w3, w4⟩ := w
        rw [Nat.zero_add, Nat.one_mul, hvb] at w3
        have hf := zFM_t f1 w4
        rw [zeq_i (by omega)]
        by_cases c3 : i = -1
        · rw [if_pos c3, if_pos c3]
          exact ⟨w3.1, zIM_T hW hI hf, zFM_out hf⟩
        · rw [if_neg c3, if_neg c3, zi_ix (by omega) (by omega)]
          exact ⟨zi_in (by omega) (by omega) (by omega), w3.2 vb rfl i.toNat (by omega), zIM_T hW hI hf, zFM_out hf⟩
    · refine ⟨zi (-5), zRf D (-5), hW, fun C hI => vc129 hX ?_, fun C hI => vc233 hM ?_⟩
      · rw [zi_m1, zlt_f (by omega), sp43 (zo_4_0 hX) hI.1 hW.1 (by omega), sp44 hlt, zlt_f (by omega), z_m5]; exact xrf hX hI (by omega)
      · rw [zi_m1, zlt_f (by omega), sp172 hM hI.1 hW.1, sp183 hlt, zlt_f (by omega), z_m5]; exact mrf hM hW hI (by omega)
end
