/-! THE CALLS, both sides: order; books: whether they're right -/
theorem l2i (v : Int64) : Int64.toInt32 v = zi v.toInt := by
  have h : (zl v.toInt).toInt32 = zi v.toInt := Int64.toInt32_ofInt
  rwa [zl_of] at h
theorem zl_div {x : Int} (h1 : 0 ≤ x) (h2 : x < 9223372036854775808) : zl x / 10 = zl (x / 10) := by
  have h5 : x / 10 ≤ x := Int.ediv_le_self 10 h1
  have h6 : 0 ≤ x / 10 := Int.ediv_nonneg h1 (by omega)
  refine Int64.toInt_inj.mp ?_
  rw [Int64.toInt_div_of_ne_right _ _ (by decide), zl_toInt (by omega), zl_toInt (by omega), show (10 : Int64).toInt = 10 from rfl, Int.tdiv_eq_ediv_of_nonneg h1]
theorem zl_mul (a b : Int) : zl a * zl b = zl (a * b) := (Int64.ofInt_mul a b).symm
theorem zl_sub (a b : Int) : zl a - zl b = zl (a - b) := (Int64.ofInt_sub a b).symm
theorem lx_b (v : Int64) : v.toInt < 9223372036854775808 := Int64.toInt_lt v
theorem ldiv {v : Int64} (h : 0 ≤ v.toInt) : (v / 10).toInt = v.toInt / 10 := by
  have h2 := lx_b v
  have h3 : 0 ≤ v.toInt / 10 := Int.ediv_nonneg h (by omega)
  have h4 := zl_div h h2
  rw [zl_of] at h4
  rw [h4, zl_toInt (by omega)]
theorem lmod {v : Int64} (h : 0 ≤ v.toInt) : v - v / 10 * 10 = zl (v.toInt % 10) := by
  have h2 := lx_b v
  have h4 := zl_div h h2
  rw [zl_of] at h4
  have h5 : zl (v.toInt / 10) * 10 = zl (v.toInt / 10 * 10) := zl_mul _ 10
  have h6 : zl v.toInt - zl (v.toInt / 10 * 10) = zl (v.toInt - v.toInt / 10 * 10) := zl_sub _ _
  rw [zl_of] at h6
  rw [h4, h5, h6, zi_em]
theorem lmod_i {v : Int64} (h : 0 ≤ v.toInt) : Int64.toInt32 (v - v / 10 * 10) = zi (v.toInt % 10) := by
  rw [lmod h]
  exact Int64.toInt32_ofInt
def sOrder (E : zT) (n : Nat) (f : Nat → Int) : zT := ((eN E, eT E, eL E, eV E, eD E, n), f, eb E, ew E, eu E)
theorem wOrder {E : zT} (h : zWF E) {n : Nat} {f : Nat → Int} (hn : 1 ≤ n ∧ n ≤ 12) (hf : ∀ k, k < n → 0 ≤ f k ∧ f k < eN E) : zWF (sOrder E n f) := ⟨h.1, h.2.1, h.2.2.1, h.2.2.2.1, hn, hf, h.2.2.2.2.2.2⟩
section
variable {X : zX} {S : zx_S} {C : zx_C} {q : Int32 → zx_C → Prop} {e a : Nat} {D : zDD} {E : zT} {H : zH}
theorem lq76 (hS : zs_4 S e) (hH : zXS C (e + 18) H) (hWH : zWH H) {s n : Nat} (hs : s < 8) (hn : n ≤ 12) (hr : 0 ≤ hk H s ∧ hk H s ≤ 4) (hz1 : (n : Int) ≤ hz H s) (z3 : Value) (K : ∀ C1 : zx_C, (∀ k, k < n → C1.1 (e + 2) k = zi (hl H s k).toInt) → (∀ b k, b ≠ e + 2 → C1.1 b k = C.1 b k) → C1.2 = C.2 → q (zi n) (zp C1 (e + 1) 5 (zi n))) : ∀ (j i : Nat) (C0 : zx_C), i + j = n → (∀ k, k < i → C0.1 (e + 2) k = zi (hl H s k).toInt) → (∀ b k, b ≠ e + 2 → C0.1 b k = C.1 b k) → C0.2 = C.2 → zW X 5 76 73 [.ref e, .int (zi s), .int (zi n), z3, .int (zi i)] [] S C0 (zQi q) := by
  intro j
  induction j with
  | zero =>
    intro i C0 hi g1 g2 g3
    refine vc76_73 (a1 := 0) (a2 := 0) hS ?_
    rw [zlt_f (by omega)]
    exact K C0 (fun k hk => g1 k (by omega)) g2 g3
  | succ j ih =>
    intro i C0 hi g1 g2 g3
    refine vc76_73 (a1 := 0) (a2 := 0) hS ?_
    have hH0 : zXS C0 (e + 18) H := zXS_of hH (fun b k _ _ => g2 b k (by omega)) (fun b k _ _ => by rw [g3])
    rw [zlt_t (by omega), sp23 (zo_4_4 hS) hH0 hWH hs (by omega), show mElem H s (i : Int) = hl H s i from if_pos ⟨by omega, hr.1, hr.2, by omega⟩, l2i, sp12 (za_0_6 (zo_4_0 hS)) (by omega) (by omega) (by omega), zi_s, Int.toNat_natCast]
    refine ih (i + 1) _ (by omega) (fun k hk => ?_) (fun b k hb => ?_) g3
    · by_cases c : k = i
      · subst c; exact zp_hit _ _ _ _
      · rw [zp_nf c]; exact g1 k (by omega)
    · rw [zp_ne hb, g2 b k hb]
theorem lq193b (hS : zs_5 S a) {s n : Nat} (hs : s < 8) (hn : n ≤ 12) (z3 : Value) {f : Nat → Int} (hf : ∀ k, k < n → (C.2 (a + 5 + s) k).toInt = f k) (K : ∀ C1 : zx_C, (∀ k, k < n → C1.1 (a + 28) k = zi (f k)) → (∀ b k, b ≠ a + 28 → C1.1 b k = C.1 b k) → C1.2 = C.2 → q (zi n) (zp C1 a 16 (zi n))) : ∀ (j i : Nat) (C0 : zx_C), i + j = n → (∀ k, k < i → C0.1 (a + 28) k = zi (f k)) → (∀ b k, b ≠ a + 28 → C0.1 b k = C.1 b k) → C0.2 = C.2 → zW X 2 193 112 [.ref a, .int (zi s), .int (zi n), z3, .int (zi i)] [] S C0 (zQi q) := by
  intro j
  induction j with
  | zero =>
    intro i C0 hi g1 g2 g3
    refine vc193_112 (a1 := 0) (a2 := 0) hS ?_
    rw [zlt_f (by omega)]
    exact K C0 (fun k hk => g1 k (by omega)) g2 g3
  | succ j ih =>
    intro i C0 hi g1 g2 g3
    refine vc193_112 (a1 := 0) (a2 := 0) hS ?_
    rw [zlt_t (by omega), zi_s, zi_ix (by omega) (by omega), zi_ix (by omega) (by omega), Int.toNat_natCast, Int.toNat_natCast, l2i, g3, hf i (by omega)]
    refine ⟨zi_in (by omega) (by omega) (by omega), zi_in (by omega) (by omega) (by omega), zi_in (by omega) (by omega) (by omega), ih (i + 1) _ (by omega) (fun k hk => ?_) (fun b k hb => ?_) g3⟩
    · by_cases c : k = i
      · subst c; exact zp_hit _ _ _ _
      · rw [zp_nf c]; exact g1 k (by omega)
    · rw [zp_ne hb, g2 b k hb]
theorem lq193a (hS : zs_5 S a) (hE : zME C a E) (hW : zWF E) {s n : Nat} (hs : s < 8) (hn : n ≤ 12) (z3 : Value) {f : Nat → Int} (hf : ∀ k, k < n → (C.2 (a + 5 + s) k).toInt = f k) (K1 : (∀ k, k < n → 0 ≤ f k ∧ f k < eN E) → zW X 2 193 112 [.ref a, .int (zi s), .int (zi n), z3, .int 0] [] S C (zQi q)) (K2 : ¬ (∀ k, k < n → 0 ≤ f k ∧ f k < eN E) → zCd X 0 160 [.ref a, .int (-2)] S C (zQi (fun r3 C3 => q r3 C3))) : ∀ (j i : Nat), i + j = n → (∀ k, k < i → 0 ≤ f k ∧ f k < eN E) → zW X 2 193 67 [.ref a, .int (zi s), .int (zi n), z3, .int (zi i)] [] S C (zQi q) := by
  have hn2 := hW.1
  intro j
  induction j with
  | zero =>
    intro i hi g1
    refine vc193_67 (a1 := 0) (a2 := 0) hS ?_
    rw [zlt_f (by omega)]
    exact K1 (fun k hk => g1 k (by omega))
  | succ j ih =>
    intro i hi g1
    refine vc193_67 (a1 := 0) (a2 := 0) hS ?_
    rw [zlt_t (by omega), zi_s, zi_ix (by omega) (by omega), zi_ix (by omega) (by omega), Int.toNat_natCast, Int.toNat_natCast, hE.1, zi_1, zi_sub, zl_zi (by omega), sp159, zl_toInt (by omega), show (0 : Int64).toInt = 0 from rfl, hf i (by omega)]
    refine ⟨zi_in (by omega) (by omega) (by omega), zi_in (by omega) (by omega) (by omega), ?_⟩
    by_cases c : 0 ≤ f i ∧ f i < eN E
    · rw [zb_t (by omega)]
      refine ih (i + 1) (by omega) (fun k hk => ?_)
      by_cases c2 : k = i
      · subst c2; exact c
      · exact g1 k (by omega)
    · rw [zb_f (by omega)]
      exact K2 (fun h => c (h i (by omega)))
/-- order -/
theorem cl_order (hX : zs_4 S e) (hM : zs_5 S a) (hW : zWI D) {s n : Int} (hs : -2147483648 ≤ s ∧ s < 2147483648) (hn : -2147483648 ≤ n ∧ n < 2147483648) : zBI X S e a D 5 76 [.int (zi s), .int (zi n)] 2 193 [.int (zi s), .int (zi n)] := by
  have hWH := hW.2.2.1
  have hN := hW.1.1
  by_cases c1 : 0 ≤ s ∧ s < 8
  · obtain ⟨s, rfl⟩ : ∃ k : Nat, s = k := ⟨s.toNat, by omega⟩
    have hw := hWH s (by omega)
    have hv : vp_in (zi (s : Int)) 8 := zi_in (by omega) (by omega) (by omega)
    by_cases c2 : 1 ≤ n ∧ n ≤ 12
    · obtain ⟨n, rfl⟩ : ∃ k : Nat, n = k := ⟨n.toNat, by omega⟩
      by_cases c3 : hk (gH D) s = -1
      · refine ⟨zi (-4), zRf D (-4), hW, fun C hI => vc76 hX ?_, fun C hI => vc193 hM ?_⟩
        · rw [sp8 hs, zb_t c1, zi_1, zi_12, zlt_f (by omega), zlt_f (by omega), sp19 (zo_4_4 hX) hI.2.2.1 hWH (by omega), if_pos c3, zi_0, if_neg (by decide)]
          exact xrf hX hI (by omega)
        · rw [spin (l := 0) (m := 7) hs rfl rfl, zb_t (by omega), spin (l := 1) (m := 12) hn rfl rfl, zb_t (by omega), sp162 hM hI.2.2.1 hWH (by omega), if_pos c3, zi_0, if_neg (by decide)]
          exact mrf hM hW hI (by omega)
      · by_cases c4 : hk (gH D) s ≤ 4
        · by_cases c5 : (n : Int) ≤ hz (gH D) s ∧ ∀ k, k < n → 0 ≤ (hl (gH D) s k).toInt ∧ (hl (gH D) s k).toInt < eN (gE D)
          · refine ⟨zi n, (sOrder (gE D) n (fun k => (hl (gH D) s k).toInt), D.2), zWI_E hW (wOrder hW.1 (by omega) c5.2), fun C hI => vc76 hX ?_, fun C hI => vc193 hM ?_⟩
            · rw [sp8 hs, zb_t c1, zi_1, zi_12, zlt_f (by omega), zlt_f (by omega), sp19 (zo_4_4 hX) hI.2.2.1 hWH (by omega), if_neg c3, if_pos c4, zi_0, if_pos rfl, hI.1.1, sp77 (zo_4_4 hX) hI.2.2.1 hWH (by omega) (by omega) (by omega) (by omega), ← zi_0, zb_t c5]
              refine lq76 (C := C) hX hI.2.2.1 hWH (by omega) (by omega) (by omega) c5.1 _ (fun C1 b1 b2 b3 => ?_) n 0 C (Nat.zero_add _) (fun k hk => absurd hk (Nat.not_lt_zero k)) (fun _ _ _ => rfl) rfl
              have hfr : ∀ b k, (b < e + 1 ∨ e + 6 ≤ b) → (zp C1 (e + 1) 5 (zi n)).1 b k = C.1 b k := fun b k hb => by rw [zp_ne (by omega), b2 b k (by omega)]
              refine ⟨rfl, zIX_E hI ?_ hfr b3, fun b k hb => hfr b k (by omega), fun b k _ => by rw [show (zp C1 (e + 1) 5 (zi n)).2 = C.2 from b3]⟩
              obtain ⟨v1, v2, v3, v4, v5, v6, v7, v8, v9, v10⟩ := hI.1
              refine ⟨?_, ?_, ?_, ?_, ?_, zp_hit _ _ _ _, fun i hi => ?_, fun t ht => ?_, fun k hk => ?_, fun t k ht hk => ?_⟩
              · rw [zp_nf (by omega), b2 _ _ (by omega)]; exact v1
              · rw [zp_nf (by omega), b2 _ _ (by omega)]; exact v2
              · rw [zp_nf (by omega), b2 _ _ (by omega)]; exact v3
              · rw [zp_nf (by omega), b2 _ _ (by omega)]; exact v4
              · rw [zp_nf (by omega), b2 _ _ (by omega)]; exact v5
              · rw [zp_ne (by omega)]; exact b1 i hi
              · rw [zp_ne (by omega), b2 _ _ (by omega)]; exact v8 t ht
              · rw [zp_ne (by omega), b2 _ _ (by omega)]; exact v9 k hk
              · rw [zp_ne (by omega), b2 _ _ (by omega)]; exact v10 t k ht hk
            · have f2 := (hI.2.2.1 s (by omega)).2.1 (by omega) c4
              rw [spin (l := 0) (m := 7) hs rfl rfl, zb_t (by omega), spin (l := 1) (m := 12) hn rfl rfl, zb_t (by omega), sp162 hM hI.2.2.1 hWH (by omega), if_neg c3, if_pos c4, zi_0, if_pos rfl, zi_ix (by omega) (by omega), Int.toNat_natCast, f2.2.2.1, zlt_f (by omega)]
              refine ⟨hv, ?_⟩
              have hf : ∀ k, k < n → (C.2 (a + 5 + s) k).toInt = (hl (gH D) s k).toInt := fun k hk => by rw [f2.2.2.2 k (by omega)]
              refine lq193a hM hI.1 hW.1 (by omega) (by omega) _ hf (fun _ => ?_) (fun h => absurd c5.2 h) n 0 (Nat.zero_add _) (fun k hk => absurd hk (Nat.not_lt_zero k))
              refine lq193b (C := C) hM (by omega) (by omega) _ hf (fun C1 b1 b2 b3 => ?_) n 0 C (Nat.zero_add _) (fun k hk => absurd hk (Nat.not_lt_zero k)) (fun _ _ _ => rfl) rfl
              have hfr : ∀ b k, ¬ (b = a ∧ 10 ≤ k ∧ k ≤ 19) → (b < a + 19 ∨ a + 30 ≤ b) → (zp C1 a 16 (zi n)).1 b k = C.1 b k := fun b k h1 h2 => by rw [zp_miss _ _ _ _ (by omega), b2 b k (by omega)]
              refine ⟨rfl, zIM_E hW hI ?_ hfr b3, fun b k hb => hfr b k (by omega) (by omega), fun b k _ => by rw [show (zp C1 a 16 (zi n)).2 = C.2 from b3]⟩
              have hT := hW.1.2.1
              obtain ⟨v1, v2, v3, v4, v5, v6, v7, v8, v9, v10⟩ := hI.1
              refine ⟨?_, ?_, ?_, ?_, ?_, zp_hit _ _ _ _, fun i hi => ?_, fun t ht => ?_, fun k hk => ?_, fun t k ht hk => ?_⟩
              · rw [zp_nf (by omega), b2 _ _ (by omega)]; exact v1
              · rw [zp_nf (by omega), b2 _ _ (by omega)]; exact v2
              · rw [zp_nf (by omega), b2 _ _ (by omega)]; exact v3
              · rw [zp_nf (by omega), b2 _ _ (by omega)]; exact v4
              · rw [zp_nf (by omega), b2 _ _ (by omega)]; exact v5
              · rw [zp_ne (by omega)]; exact b1 i hi
              · rw [zp_ne (by omega), b2 _ _ (by omega)]; exact v8 t ht
              · rw [zp_ne (by omega), b2 _ _ (by omega)]; exact v9 k hk
              · have hk2 : k < eT (gE D) := hk
                rw [zp_ne (by omega), b2 _ _ (by omega)]; exact v10 t k ht hk
          · refine ⟨zi (-2), zRf D (-2), hW, fun C hI => vc76 hX ?_, fun C hI => vc193 hM ?_⟩
            · rw [sp8 hs, zb_t c1, z_m2, zi_1, zi_12, zlt_f (by omega), zlt_f (by omega), sp19 (zo_4_4 hX) hI.2.2.1 hWH (by omega), if_neg c3, if_pos c4, zi_0, if_pos rfl, hI.1.1, sp77 (zo_4_4 hX) hI.2.2.1 hWH (by omega) (by omega) (by omega) (by omega), ← zi_0, zb_f c5]
              exact xrf hX hI (by omega)
            · have f2 := (hI.2.2.1 s (by omega)).2.1 (by omega) c4
              rw [spin (l := 0) (m := 7) hs rfl rfl, zb_t (by omega), spin (l := 1) (m := 12) hn rfl rfl, zb_t (by omega), sp162 hM hI.2.2.1 hWH (by omega), if_neg c3, if_pos c4, z_m2, zi_0, if_pos rfl, zi_ix (by omega) (by omega), Int.toNat_natCast, f2.2.2.1]
              refine ⟨hv, ?_⟩
              by_cases c6 : hz (gH D) s < n
              · rw [zlt_t (by omega)]; exact mrf hM hW hI (by omega)
              · rw [zlt_f (by omega)]
                have hf : ∀ k, k < n → (C.2 (a + 5 + s) k).toInt = (hl (gH D) s k).toInt := fun k hk => by rw [f2.2.2.2 k (by omega)]
                exact lq193a hM hI.1 hW.1 (by omega) (by omega) _ hf (fun h => absurd ⟨by omega, h⟩ c5) (fun _ => mrf (n := -2) hM hW hI (by omega)) n 0 (Nat.zero_add _) (fun k hk => absurd hk (Nat.not_lt_zero k))
        · refine ⟨zi (-3), zRf D (-3), hW, fun C hI => vc76 hX ?_, fun C hI => vc193 hM ?_⟩
          · rw [sp8 hs, zb_t c1, zi_1, zi_12, zlt_f (by omega), zlt_f (by omega), sp19 (zo_4_4 hX) hI.2.2.1 hWH (by omega), if_neg c3, if_neg c4, zi_0, if_neg (by decide)]
            exact xrf hX hI (by omega)
          · rw [spin (l := 0) (m := 7) hs rfl rfl, zb_t (by omega), spin (l := 1) (m := 12) hn rfl rfl, zb_t (by omega), sp162 hM hI.2.2.1 hWH (by omega), if_neg c3, if_neg c4, zi_0, if_neg (by decide)]
            exact mrf hM hW hI (by omega)
    · refine ⟨zi (-2), zRf D (-2), hW, fun C hI => vc76 hX ?_, fun C hI => vc193 hM ?_⟩
      · rw [sp8 hs, zb_t c1, z_m2, zi_1, zi_12]
        by_cases c4 : n < 1
        · rw [zlt_t (by omega)]; exact xrf hX hI (by omega)
        · rw [zlt_f (by omega), zlt_t (by omega)]; exact xrf hX hI (by omega)
      · rw [spin (l := 0) (m := 7) hs rfl rfl, zb_t (by omega), spin (l := 1) (m := 12) hn rfl rfl, zb_f (by omega), z_m2]; exact mrf hM hW hI (by omega)
  · refine ⟨zi (-2), zRf D (-2), hW, fun C hI => vc76 hX ?_, fun C hI => vc193 hM ?_⟩
    · rw [sp8 hs, zb_f c1, z_m2]; exact xrf hX hI (by omega)
    · rw [spin (l := 0) (m := 7) hs rfl rfl, zb_f (by omega), z_m2]; exact mrf hM hW hI (by omega)
/-- what troubles a book -/
def mBt (H : zH) (s n m : Int) : Int := if 0 ≤ s ∧ s < 8 ∧ m ≤ n ∧ n ≤ 8 then (if hk H s.toNat = -1 then -4 else if hk H s.toNat ≤ 4 then (if hz H s.toNat < n then -2 else 0) else -3) else -2
theorem mBt_b {H : zH} {s n m : Int} : -6 ≤ mBt H s n m ∧ (mBt H s n m = 0 ∨ mBt H s n m ≤ -2) := by
  unfold mBt
  split
  · split
    · omega
    · split
      · split <;> omega
      · omega
  · omega
theorem mBt_0 {H : zH} (hW : zWH H) {s n m : Int} (h : mBt H s n m = 0) : 0 ≤ s ∧ s < 8 ∧ m ≤ n ∧ n ≤ 8 ∧ 0 ≤ hk H s.toNat ∧ hk H s.toNat ≤ 4 ∧ n ≤ hz H s.toNat := by
  unfold mBt at h
  by_cases c : 0 ≤ s ∧ s < 8 ∧ m ≤ n ∧ n ≤ 8
  · rw [if_pos c] at h
    have hw := hW s.toNat (by omega)
    by_cases c1 : hk H s.toNat = -1
    · rw [if_pos c1] at h; omega
    · rw [if_neg c1] at h
      by_cases c2 : hk H s.toNat ≤ 4
      · rw [if_pos c2] at h
        by_cases c3 : hz H s.toNat < n
        · rw [if_pos c3] at h; omega
        · omega
      · rw [if_neg c2] at h; omega
  · rw [if_neg c] at h; omega
/-- bookTrouble -/
theorem sp136 (hS : zs_4 S e) (hH : zXS C (e + 18) H) (hWH : zWH H) {s n : Int} {m : Nat} (hs : -2147483648 ≤ s ∧ s < 2147483648) (hn : -2147483648 ≤ n ∧ n < 2147483648) (hm : m ≤ 1) : zCd X 3 136 [.ref e, .int (zi s), .int (zi n), .int (zi m)] S C (zQi q) = q (zi (mBt H s n m)) C := by
  refine zc_eI (fun q h => vc136 hS ?_) q
  unfold mBt at h
  by_cases c1 : 0 ≤ s ∧ s < 8
  · rw [sp8 hs, zb_t c1, zlt_i (by omega), zi_8, zlt_i (by omega)]
    by_cases c2 : n < m
    · rw [if_neg (by omega)] at h
      rw [if_pos c2]; exact h
    · rw [if_neg c2]
      by_cases c3 : 8 < n
      · rw [if_neg (by omega)] at h
        rw [if_pos c3]; exact h
      · rw [if_pos (by omega)] at h
        have hw := hWH s.toNat (by omega)
        rw [if_neg c3, show zi s = zi (s.toNat : Int) by rw [Int.toNat_of_nonneg c1.1], sp19 (zo_4_4 hS) hH hWH (by omega)]
        by_cases c4 : hk H s.toNat = -1
        · rw [if_pos c4] at h ⊢
          rw [zi_0, if_neg (by decide)]; exact h
        · rw [if_neg c4] at h ⊢
          by_cases c5 : hk H s.toNat ≤ 4
          · rw [if_pos c5] at h ⊢
            rw [zi_0, if_pos rfl, sp15r (zo_4_4 hS) hH hWH (by omega) (by omega), zlt_i (by omega)]
            by_cases c6 : hz H s.toNat < n
            · rw [if_pos c6] at h ⊢; exact h
            · rw [if_neg c6] at h ⊢; exact h
          · rw [if_neg c5] at h ⊢
            rw [zi_0, if_neg (by decide)]; exact h
  · rw [if_neg (by omega)] at h
    rw [sp8 hs, zb_f c1]; exact h
/-- noBook -/
theorem sp238 (hS : zs_5 S a) (hH : zMS C a H) (hWH : zWH H) {s n : Int} {m : Nat} (hs : -2147483648 ≤ s ∧ s < 2147483648) (hn : -2147483648 ≤ n ∧ n < 2147483648) (hm : m ≤ 1) : zCd X 2 238 [.ref a, .int (zi s), .int (zi n), .int (zi m)] S C (zQi q) = q (zi (mBt H s n m)) C := by
  refine zc_eI (fun q h => vc238 hS ?_) q
  unfold mBt at h
  rw [zl_zi (a := (m : Int)) (by omega)]
  by_cases c1 : 0 ≤ s ∧ s < 8
  · rw [spin (l := 0) (m := 7) hs rfl rfl, zb_t (by omega), spin (l := m) (m := 8) hn (zl_toInt (by omega)) rfl]
    by_cases c2 : (m : Int) ≤ n ∧ n ≤ 8
    · rw [if_pos (by omega)] at h
      have hw := hWH s.toNat (by omega)
      have hv : vp_in (zi (s.toNat : Int)) 8 := zi_in (by omega) (by omega) (by omega)
      rw [zb_t c2, show zi s = zi (s.toNat : Int) by rw [Int.toNat_of_nonneg c1.1], sp162 hS hH hWH (by omega)]
      by_cases c4 : hk H s.toNat = -1
      · rw [if_pos c4] at h ⊢
        rw [zi_0, if_neg (by decide)]; exact h
      · rw [if_neg c4] at h ⊢
        by_cases c5 : hk H s.toNat ≤ 4
        · have f2 := (hH s.toNat (by omega)).2.1 (by omega) c5
          rw [if_pos c5] at h ⊢
          rw [zi_0, if_pos rfl, zi_ix (by omega) (by omega), Int.toNat_natCast, f2.2.2.1, zlt_i (by omega)]
          refine ⟨hv, ?_⟩
          by_cases c6 : hz H s.toNat < n
          · rw [if_pos c6] at h ⊢; exact h
          · rw [if_neg c6] at h ⊢; exact h
        · rw [if_neg c5] at h ⊢
          rw [zi_0, if_neg (by decide)]; exact h
    · rw [if_neg (by omega)] at h
      rw [zb_f c2]; exact h
  · rw [if_neg (by omega)] at h
    rw [spin (l := 0) (m := 7) hs rfl rfl, zb_f (by omega)]; exact h
end
/-- a pick that is right -/
abbrev mOk (E : zT) (x : Int) (t m : Nat) : Prop := 0 ≤ x ∧ x / 10 = mAt E (eL E) t ∧ m.testBit (x % 10).toNat = true
/-- the first wrong -/
def mWr (E : zT) (v : Nat → Int64) (p : Int) : Nat → Nat → Nat → Nat → Option Nat
  | 0, _, _, _ => none
  | f + 1, i, m, t => if (i : Int) = p then mWr E v p f (i + 1) m t else
    if mOk E (v i).toInt t m then mWr E v p f (i + 1) (wo m ((v i).toInt % 10).toNat) (t + 1) else some i
theorem mWr_p {E : zT} {v : Nat → Int64} {p : Int} {f i m t : Nat} (h : (i : Int) = p) : mWr E v p (f + 1) i m t = mWr E v p f (i + 1) m t := by
  simp only [mWr]
  rw [if_pos h]
theorem mWr_t {E : zT} {v : Nat → Int64} {p : Int} {f i m t : Nat} (h : ¬ (i : Int) = p) (hk : mOk E (v i).toInt t m) : mWr E v p (f + 1) i m t = mWr E v p f (i + 1) (wo m ((v i).toInt % 10).toNat) (t + 1) := by
  simp only [mWr]
  rw [if_neg h, if_pos hk]
theorem mWr_f {E : zT} {v : Nat → Int64} {p : Int} {f i m t : Nat} (h : ¬ (i : Int) = p) (hk : ¬ mOk E (v i).toInt t m) : mWr E v p (f + 1) i m t = some i := by
  simp only [mWr]
  rw [if_neg h, if_neg hk]
theorem bz_hasx0 : ∀ k : Fin 10, ∀ m : Fin 256, (zi (m.val : Nat) >>> (zi (k.val : Nat) &&& 31)) &&& 1 = zb (m.val.testBit k.val = true) := by decide +kernel
section
variable {X : zX} {S : zx_S} {C : zx_C} {q : Int32 → zx_C → Prop} {e a : Nat} {D : zDD} {E : zT} {H : zH}
theorem sp53x {k m : Nat} (hk : k < 10) (hm : m < 256) : zCd X 0 53 [.int (zi m), .int (zi k)] S C (zQi q) = q (zb (m.testBit k = true)) C := by
  refine zc_eI (fun q h => vc53 ?_) q
  rw [bz_hasx0 ⟨k, hk⟩ ⟨m, hm⟩, zi_0, zi_1, zb_i]
  split
  · next h2 => rwa [zbT h2] at h
  · next h2 => rwa [zbF h2] at h
theorem lq137 (hS : zs_4 S e) (hI : zIX C e D) (hW : zWI D) {s n : Nat} {p : Int} (hs : s < 8) (hn : n ≤ 8) (hp : -1 ≤ p ∧ p < 9) (hr : 0 ≤ hk (gH D) s ∧ hk (gH D) s ≤ 4) (hz1 : (n : Int) ≤ hz (gH D) s) : ∀ (j i m t : Nat) (z7 z8 z9 : Value), i + j = n → m < 256 → t ≤ 1000000000 + i → q (zi (zo (mWr (gE D) (hl (gH D) s) p j i m t))) C → zW X 4 137 22 [.ref e, .int (zi s), .int (zi n), .int (zi p), .int (zi m), .int (zi t), .int (zi i), z7, z8, z9] [] S C (zQi q) := by
  have hWH := hW.2.2.1
  have hN := hW.1.1
  intro j
  induction j with
  | zero =>
    intro i m t z7 z8 z9 hi hm ht hq
    refine vc137_22 (a1 := 0) (a2 := 0) (a3 := 0) hS ?_
    rw [zlt_f (by omega)]
    exact hq
  | succ j ih =>
    intro i m t z7 z8 z9 hi hm ht hq
    refine vc137_22 (a1 := 0) (a2 := 0) (a3 := 0) hS ?_
    rw [zlt_t (by omega), zeq_i (by omega)]
    by_cases c1 : (i : Int) = p
    · rw [if_pos c1, zi_s]
      rw [mWr_p c1] at hq
      exact ih (i + 1) m t _ _ _ (by omega) hm (by omega) hq
    · have hb := mAt_b hW.1 (eL (gE D)) t
      rw [if_neg c1, sp23 (zo_4_4 hS) hI.2.2.1 hWH hs (by omega), show mElem (gH D) s (i : Int) = hl (gH D) s i from if_pos ⟨by omega, hr.1, hr.2, by omega⟩, lg_lt, show (0 : Int64).toInt = 0 from rfl, hI.1.2.2.1, sp46 (zo_4_0 hS) hI.1 hW.1 hW.1.2.2.1 (by omega), lg_eq, zl_zi (by omega), zl_toInt (by omega)]
      by_cases c2 : (hl (gH D) s i).toInt < 0
      · rw [if_pos c2]
        rw [mWr_f c1 (fun h => by have := h.1; omega)] at hq
        exact hq
      · have hx0 : 0 ≤ (hl (gH D) s i).toInt := by omega
        have hmod : 0 ≤ (hl (gH D) s i).toInt % 10 ∧ (hl (gH D) s i).toInt % 10 < 10 := by omega
        rw [if_neg c2, ldiv hx0, lmod_i hx0, show zi ((hl (gH D) s i).toInt % 10) = zi (((hl (gH D) s i).toInt % 10).toNat : Int) by rw [Int.toNat_of_nonneg hmod.1]]
        by_cases c3 : (hl (gH D) s i).toInt / 10 = mAt (gE D) (eL (gE D)) t
        · rw [if_pos c3, sp53x (by omega) hm]
          by_cases c4 : m.testBit ((hl (gH D) s i).toInt % 10).toNat = true
          · have hk8 : ((hl (gH D) s i).toInt % 10).toNat < 8 := bit_lt (t := 8) hm c4
            rw [zb_t c4, sp61 hk8 hm, zi_s, zi_s]
            rw [mWr_t c1 ⟨hx0, c3, c4⟩] at hq
            exact ih (i + 1) _ (t + 1) _ _ _ (by omega) (Nat.lt_of_le_of_lt (wo_le _ _) hm) (by omega) hq
          · rw [zb_f c4]
            rw [mWr_f c1 (fun h => c4 h.2.2)] at hq
            exact hq
        · rw [if_neg c3]
          rw [mWr_f c1 (fun h => c3 h.2.1)] at hq
          exact hq
/-- firstWrong -/
theorem sp137 (hS : zs_4 S e) (hI : zIX C e D) (hW : zWI D) {s n : Nat} {p : Int} (hs : s < 8) (hn : n ≤ 8) (hp : -1 ≤ p ∧ p < 9) (hr : 0 ≤ hk (gH D) s ∧ hk (gH D) s ≤ 4) (hz1 : (n : Int) ≤ hz (gH D) s) : zCd X 4 137 [.ref e, .int (zi s), .int (zi n), .int (zi p)] S C (zQi q) = q (zi (zo (mWr (gE D) (hl (gH D) s) p n 0 (mOwn (gE D) (-1)) (eV (gE D))))) C := by
  refine zc_eI (fun q h => vc137 hS ?_) q
  have hV := hW.1.2.2.2.1
  rw [zi_m1, sp43 (zo_4_0 hS) hI.1 hW.1 (by omega), hI.1.2.2.2.1]
  exact lq137 hS hI hW hs hn hp hr hz1 n 0 _ _ _ _ _ (Nat.zero_add _) (mOwn_lt hW.1 _) (by omega) h
theorem lq239 (hS : zs_5 S a) (hI : zIM S C a D) (hW : zWI D) {s n : Nat} {p : Int} (hs : s < 8) (hn : n ≤ 8) (hp : -1 ≤ p ∧ p < 9) (hr : 0 ≤ hk (gH D) s ∧ hk (gH D) s ≤ 4) (hz1 : (n : Int) ≤ hz (gH D) s) : ∀ (j i m t : Nat) (z7 : Value), i + j = n → m < 2 ^ eT (gE D) → t ≤ 1000000000 + i → q (zi (zo (mWr (gE D) (hl (gH D) s) p j i m t))) C → zW X 1 239 15 [.ref a, .ref (a + 5 + s), .int (zi n), .int (zi p), .int (zi m), .int (zi t), .int (zi i), z7] [] S C (zQi q) := by
  have hN := hW.1.1
  have hT := hW.1.2.1
  have hrow : a + 5 + s < 900000 ∧ S.1 (a + 5 + s) = (11, 40) := (zb_5_3 hS hs).2
  have f2 := (hI.2.2.1 s hs).2.1 hr.1 hr.2
  intro j
  induction j with
  | zero =>
    intro i m t z7 hi hm ht hq
    refine vc239_15 (a2 := 0) (a3 := 0) hS hrow ?_
    rw [zlt_f (by omega)]
    exact hq
  | succ j ih =>
    intro i m t z7 hi hm ht hq
    have hm2 := pow_256 hm hT
    refine vc239_15 (a2 := 0) (a3 := 0) hS hrow ?_
    have hvi : vp_in (zi (i : Int)) 40 := zi_in (by omega) (by omega) (by omega)
    rw [zlt_t (by omega), zeq_i (by omega)]
    by_cases c1 : (i : Int) = p
    · rw [if_pos c1, zi_s]
      rw [mWr_p c1] at hq
      exact ih (i + 1) m t _ (by omega) hm (by omega) hq
    · have hb := mAt_b hW.1 (eL (gE D)) t
      have h10 : (10 * Int32.toInt64 (zi (eN (gE D))) - 1 : Int64) = zl (10 * eN (gE D) - 1) := by
        rw [zl_zi (by omega)]
        have h1 : (10 : Int64) * zl (eN (gE D)) = zl (10 * eN (gE D)) := zl_mul 10 _
        rw [h1]
        exact zl_sub _ 1
      rw [if_neg c1, zi_ix (by omega) (by omega), Int.toNat_natCast, hI.1.1, h10, f2.2.2.2 i (by omega), sp159, zl_toInt (by omega), show (0 : Int64).toInt = 0 from rfl]
      refine ⟨hvi, ?_⟩
      by_cases c2 : 0 ≤ (hl (gH D) s i).toInt ∧ (hl (gH D) s i).toInt ≤ 10 * eN (gE D) - 1
      · have hx0 := c2.1
        have hmod : 0 ≤ (hl (gH D) s i).toInt % 10 ∧ (hl (gH D) s i).toInt % 10 < 10 := by omega
        rw [zb_t c2, f2.2.2.2 i (by omega), lmod hx0, hI.1.2.1, lg_lt, zl_toInt (by omega), zl_zi (by omega), zl_toInt (by omega)]
        refine ⟨hvi, ?_⟩
        by_cases c3 : (hl (gH D) s i).toInt % 10 < eT (gE D)
        · have e32 : Int64.toInt32 (zl ((hl (gH D) s i).toInt % 10)) = zi (((hl (gH D) s i).toInt % 10).toNat : Int) := by
            rw [Int.toNat_of_nonneg hmod.1]
            exact Int64.toInt32_ofInt
          have hk8 : ((hl (gH D) s i).toInt % 10).toNat < 8 := by omega
          rw [if_pos c3, e32, sp174 hk8 hm2]
          refine ⟨hvi, ?_⟩
          by_cases c4 : m.testBit ((hl (gH D) s i).toInt % 10).toNat = true
          · rw [zb_t c4, if_neg (by decide), hI.1.2.2.1, sp178 hS hI.1 hW.1 hW.1.2.2.1 (by omega), f2.2.2.2 i (by omega), lg_eq, ldiv hx0, zl_zi (by omega), zl_toInt (by omega)]
            refine ⟨hvi, ?_⟩
            by_cases c5 : (hl (gH D) s i).toInt / 10 = mAt (gE D) (eL (gE D)) t
            · rw [if_pos c5, lmod_i hx0, show zi ((hl (gH D) s i).toInt % 10) = zi (((hl (gH D) s i).toInt % 10).toNat : Int) by rw [Int.toNat_of_nonneg hmod.1], bz_wo hk8 hm2, zi_s, zi_s]
              rw [mWr_t c1 ⟨hx0, c5, c4⟩] at hq
              exact ⟨hvi, ih (i + 1) _ (t + 1) _ (by omega) (Nat.lt_of_le_of_lt (wo_le _ _) hm) (by omega) hq⟩
            · rw [if_neg c5]
              rw [mWr_f c1 (fun h => c5 h.2.1)] at hq
              exact hq
          · rw [zb_f c4, if_pos rfl]
            rw [mWr_f c1 (fun h => c4 h.2.2)] at hq
            exact hq
        · rw [if_neg c3, if_pos rfl]
          rw [mWr_f c1 (fun h => by have := bit_lt hm h.2.2; omega)] at hq
          exact hq
      · rw [zb_f c2, if_pos rfl]
        rw [mWr_f c1 (fun h => by have h1 := h.1; have h2 := h.2.1; omega)] at hq
        exact hq
/-- wrongIn -/
theorem sp239 (hS : zs_5 S a) (hI : zIM S C a D) (hW : zWI D) {s n : Nat} {p : Int} (hs : s < 8) (hn : n ≤ 8) (hp : -1 ≤ p ∧ p < 9) (hr : 0 ≤ hk (gH D) s ∧ hk (gH D) s ≤ 4) (hz1 : (n : Int) ≤ hz (gH D) s) : zCd X 1 239 [.ref a, .ref (a + 5 + s), .int (zi n), .int (zi p)] S C (zQi q) = q (zi (zo (mWr (gE D) (hl (gH D) s) p n 0 (mOwn (gE D) (-1)) (eV (gE D))))) C := by
  refine zc_eI (fun q h => vc239 hS (zb_5_3 hS hs).2 ?_) q
  have hV := hW.1.2.2.2.1
  rw [sp172 hS hI.1 hW.1, hI.1.2.2.2.1]
  exact lq239 hS hI hW hs hn hp hr hz1 n 0 _ _ _ (Nat.zero_add _) (mOwn_p _) (by omega) h
end
