/-! THE CALLS, both sides: fairest -/
/-- an order's i-th side, of p picks, as the number tells it -/
def mDg (n p N i : Nat) : Nat := N / n ^ (p - 1 - i) % n
/-- how often a side comes -/
def mCt (f : Nat → Nat) (s : Nat) : Nat → Nat
  | 0 => 0
  | i + 1 => mCt f s i + if f i = s then 1 else 0
theorem mCt_le (f : Nat → Nat) (s n : Nat) : mCt f s n ≤ n := by
  induction n with
  | zero => exact Nat.le_refl 0
  | succ n ih => simp only [mCt]; split <;> omega
theorem mCt_c {f g : Nat → Nat} {s : Nat} : ∀ n, (∀ k, k < n → f k = g k) → mCt f s n = mCt g s n := by
  intro n
  induction n with
  | zero => intro _; rfl
  | succ n ih =>
    intro h
    simp only [mCt]
    rw [ih (fun k hk => h k (by omega)), h n (by omega)]
abbrev mEv (n p : Nat) (f : Nat → Nat) : Prop := ∀ s, s < n → p / n ≤ mCt f s p ∧ mCt f s p ≤ (if p % n = 0 then p / n else p / n + 1)
theorem mCt_2 {f : Nat → Nat} : ∀ p, (∀ k, k < p → f k < 2) → mCt f 0 p + mCt f 1 p = p := by
  intro p
  induction p with
  | zero => intro _; rfl
  | succ p ih =>
    intro h
    have h1 := ih (fun k hk => h k (by omega))
    have h2 := h p (by omega)
    have h3 : f p = 0 ∨ f p = 1 := by omega
    simp only [mCt]
    rcases h3 with h3 | h3 <;> rw [h3] <;> simp <;> omega
theorem mCt_3 {f : Nat → Nat} : ∀ p, (∀ k, k < p → f k < 3) → mCt f 0 p + mCt f 1 p + mCt f 2 p = p := by
  intro p
  induction p with
  | zero => intro _; rfl
  | succ p ih =>
    intro h
    have h1 := ih (fun k hk => h k (by omega))
    have h2 := h p (by omega)
    have h3 : f p = 0 ∨ f p = 1 ∨ f p = 2 := by omega
    simp only [mCt]
    rcases h3 with h3 | h3 | h3 <;> rw [h3] <;> simp <;> omega
/-- no two differ by more than one -/
theorem mEv_pair {n p : Nat} {f : Nat → Nat} (hn : n = 2 ∨ n = 3) (hf : ∀ k, k < p → f k < n) : mEv n p f ↔ ∀ s k, s < n → k < s → mCt f s p ≤ mCt f k p + 1 ∧ mCt f k p ≤ mCt f s p + 1 := by
  rcases hn with hn | hn <;> subst hn
  · have hs := mCt_2 p hf
    constructor
    · intro h s k h1 h2
      have e : s = 1 := by omega
      have e2 : k = 0 := by omega
      subst e; subst e2
      have a0 := h 0 (by omega)
      have a1 := h 1 (by omega)
      by_cases c : p % 2 = 0
      · rw [if_pos c] at a0 a1; omega
      · rw [if_neg c] at a0 a1; omega
    · intro h s h1
      have a := h 1 0 (by omega) (by omega)
      have e : s = 0 ∨ s = 1 := by omega
      by_cases c : p % 2 = 0
      · rw [if_pos c]; rcases e with e | e <;> subst e <;> omega
      · rw [if_neg c]; rcases e with e | e <;> subst e <;> omega
  · have hs := mCt_3 p hf
    constructor
    · intro h s k h1 h2
      have a0 := h 0 (by omega)
      have a1 := h 1 (by omega)
      have a2 := h 2 (by omega)
      have e : s = 1 ∨ s = 2 := by omega
      have e2 : k = 0 ∨ k = 1 := by omega
      by_cases c : p % 3 = 0
      · rw [if_pos c] at a0 a1 a2
        rcases e with e | e <;> rcases e2 with e2 | e2 <;> subst e <;> subst e2 <;> omega
      · rw [if_neg c] at a0 a1 a2
        rcases e with e | e <;> rcases e2 with e2 | e2 <;> subst e <;> subst e2 <;> omega
    · intro h s h1
      have b1 := h 1 0 (by omega) (by omega)
      have b2 := h 2 0 (by omega) (by omega)
      have b3 := h 2 1 (by omega) (by omega)
      have e : s = 0 ∨ s = 1 ∨ s = 2 := by omega
      by_cases c : p % 3 = 0
      · rw [if_pos c]; rcases e with e | e | e <;> subst e <;> omega
      · rw [if_neg c]; rcases e with e | e | e <;> subst e <;> omega
/-- what's known by a told order -/
def dRow (E : zT) (f : Nat → Nat) : zD := ((eN E, eT E, mOwn E (-1), mCnt (mOwn E (-1)) 8), eu E, eb E, f)
theorem zWD_row {E : zT} (hW : zWF E) {f : Nat → Nat} (hf : ∀ k, k < mCnt (mOwn E (-1)) 8 → f k < eN E) : zWD (dRow E f) := by
  have h8 := mCnt_le (mOwn E (-1)) 8
  exact ⟨hW.1, hW.2.1, mOwn_p _, ⟨by show mCnt (mOwn E (-1)) 8 ≤ 32; omega, Nat.le_refl _⟩, hf, hW.2.2.2.2.2.2.1, hW.2.2.2.2.2.2.2.2⟩
def mUr (E : zT) (f : Nat → Nat) : Int := mSpread (fun s => mEnd (mCh (dRow E f) (dRow E f) (-1)) (dRow E f) (mHas E) s (mCnt (dL (dRow E f)) 8)) (eN E)
theorem mUr_e {E : zT} (hW : zWF E) {f : Nat → Nat} (hf : ∀ k, k < mCnt (mOwn E (-1)) 8 → f k < eN E) (s : Nat) : 0 ≤ mEnd (mCh (dRow E f) (dRow E f) (-1)) (dRow E f) (mHas E) s (mCnt (dL (dRow E f)) 8) ∧ mEnd (mCh (dRow E f) (dRow E f) (-1)) (dRow E f) (mHas E) s (mCnt (dL (dRow E f)) 8) ≤ 1584 :=
  mEnd_b (zWD_row hW hf) (fun s m hm h0 => mCh_some hm h0) (mHas_b hW)
theorem mUr_b {E : zT} (hW : zWF E) {f : Nat → Nat} (hf : ∀ k, k < mCnt (mOwn E (-1)) 8 → f k < eN E) : 0 ≤ mUr E f ∧ mUr E f ≤ 1584 :=
  mSpread_b (fun k _ => mUr_e hW hf k) (by have := hW.1; omega)
theorem mDg_lt {n p N i : Nat} (hn : n = 2 ∨ n = 3) : mDg n p N i < n := Nat.mod_lt _ (by omega)
/-- of the first N orders the least unequal, and which -/
def mFr (E : zT) : Nat → Option (Int × Nat)
  | 0 => none
  | N + 1 => if mEv (eN E) (mCnt (mOwn E (-1)) 8) (mDg (eN E) (mCnt (mOwn E (-1)) 8) N) then (match mFr E N with
      | none => some (mUr E (mDg (eN E) (mCnt (mOwn E (-1)) 8) N), N)
      | some vb => if mUr E (mDg (eN E) (mCnt (mOwn E (-1)) 8) N) < vb.1 then some (mUr E (mDg (eN E) (mCnt (mOwn E (-1)) 8) N), N) else some vb)
    else mFr E N
theorem mFr_b {E : zT} (hW : zWF E) : ∀ (N : Nat) (vb : Int × Nat), mFr E N = some vb → 0 ≤ vb.1 ∧ vb.1 ≤ 1584 ∧ vb.2 < N := by
  intro N
  induction N with
  | zero => intro vb h; cases h
  | succ N ih =>
    intro vb h
    have hu := mUr_b hW (f := mDg (eN E) (mCnt (mOwn E (-1)) 8) N) (fun k _ => mDg_lt hW.1)
    simp only [mFr] at h
    by_cases c : mEv (eN E) (mCnt (mOwn E (-1)) 8) (mDg (eN E) (mCnt (mOwn E (-1)) 8) N)
    · rw [if_pos c] at h
      cases hf : mFr E N with
      | none => rw [hf] at h; cases h; exact ⟨hu.1, hu.2, by show N < N + 1; omega⟩
      | some w =>
        rw [hf] at h
        have hw := ih w hf
        dsimp only at h
        by_cases c2 : mUr E (mDg (eN E) (mCnt (mOwn E (-1)) 8) N) < w.1
        · rw [if_pos c2] at h; cases h; exact ⟨hu.1, hu.2, by show N < N + 1; omega⟩
        · rw [if_neg c2] at h; cases h; omega
    · rw [if_neg c] at h
      have := ih vb h
      omega
theorem mFr_0 {E : zT} (hW : zWF E) {N b : Nat} (h : mFr E N = some (0, b)) : ∀ j, mFr E (N + j) = some (0, b) := by
  intro j
  induction j with
  | zero => exact h
  | succ j ih =>
    have hu := mUr_b hW (f := mDg (eN E) (mCnt (mOwn E (-1)) 8) (N + j)) (fun k _ => mDg_lt hW.1)
    show mFr E ((N + j) + 1) = _
    simp only [mFr]
    rw [ih]
    dsimp only
    split
    · rw [if_neg (by omega)]
    · rfl
/-- there is one at all -/
def nEv : Nat → Nat → Nat
  | _, 0 => 0
  | n, p + 1 => nEv n p * n + p % n
theorem nEv_ok2 : ∀ p : Fin 9, nEv 2 p.val < 2 ^ p.val ∧ mEv 2 p.val (mDg 2 p.val (nEv 2 p.val)) := by decide +kernel
theorem nEv_ok3 : ∀ p : Fin 9, nEv 3 p.val < 3 ^ p.val ∧ mEv 3 p.val (mDg 3 p.val (nEv 3 p.val)) := by decide +kernel
theorem mFr_some {E : zT} {N : Nat} (h : mEv (eN E) (mCnt (mOwn E (-1)) 8) (mDg (eN E) (mCnt (mOwn E (-1)) 8) N)) : ∀ j, ∃ vb, mFr E (N + 1 + j) = some vb := by
  intro j
  induction j with
  | zero =>
    show ∃ vb, mFr E (N + 1) = some vb
    simp only [mFr]
    rw [if_pos h]
    cases mFr E N with
    | none => exact ⟨_, rfl⟩
    | some w =>
      dsimp only
      split
      · exact ⟨_, rfl⟩
      · exact ⟨_, rfl⟩
  | succ j ih =>
    obtain ⟨w, hw⟩ := ih
    show ∃ vb, mFr E ((N + 1 + j) + 1) = some vb
    simp only [mFr]
    rw [hw]
    dsimp only
    split
    · split
      · exact ⟨_, rfl⟩
      · exact ⟨_, rfl⟩
    · exact ⟨_, rfl⟩
theorem mFr_all {E : zT} (hW : zWF E) : ∃ vb, mFr E (eN E ^ mCnt (mOwn E (-1)) 8) = some vb := by
  have h8 := mCnt_le (mOwn E (-1)) 8
  have hex : ∃ N, N < eN E ^ mCnt (mOwn E (-1)) 8 ∧ mEv (eN E) (mCnt (mOwn E (-1)) 8) (mDg (eN E) (mCnt (mOwn E (-1)) 8) N) := by
    rcases hW.1 with hn | hn <;> rw [hn]
    · exact ⟨_, nEv_ok2 ⟨mCnt (mOwn E (-1)) 8, by omega⟩⟩
    · exact ⟨_, nEv_ok3 ⟨mCnt (mOwn E (-1)) 8, by omega⟩⟩
  obtain ⟨N, h1, h2⟩ := hex
  obtain ⟨vb, h3⟩ := mFr_some h2 (eN E ^ mCnt (mOwn E (-1)) 8 - (N + 1))
  rw [show N + 1 + (eN E ^ mCnt (mOwn E (-1)) 8 - (N + 1)) = eN E ^ mCnt (mOwn E (-1)) 8 by omega] at h3
  exact ⟨vb, h3⟩
theorem npow_b {n p : Nat} (hn : n = 2 ∨ n = 3) (hp : p ≤ 8) : n ^ p ≤ 6561 := by
  have h1 : n ^ p ≤ n ^ 8 := Nat.pow_le_pow_right (by omega) hp
  have h2 : n ^ 8 ≤ 3 ^ 8 := Nat.pow_le_pow_left (by omega) 8
  have h3 : (3 : Nat) ^ 8 = 6561 := by decide
  omega
theorem mPow_zl (n p : Nat) : mPow (zl n) p = zl ((n ^ p : Nat) : Int) := by
  induction p with
  | zero => rfl
  | succ p ih =>
    show mPow (zl n) p * zl n = _
    rw [ih, zl_mul, Nat.pow_succ, Int.natCast_mul]
/-- how far the least is -/
def zLs : Option (Int × Nat) → Int
  | none => 1000000
  | some vb => vb.1
section
variable {X : zX} {S : zx_S} {C : zx_C} {q : Int32 → zx_C → Prop} {e a : Nat} {D : zDD} {E : zT} {H : zH}
theorem lq131c (hS : zs_4 S e) {n p s : Nat} (hp : p ≤ 8) (hs : s < 3) {f : Nat → Nat} (hf3 : ∀ k, k < p → f k < 3) (hf : ∀ k, k < p → C.1 (e + 40) k = zi (f k)) {sh sh2 : Nat} (hsh : sh ≤ 8 ∧ sh2 ≤ 9) (z1 z4 : Value) (K1 : sh ≤ mCt f s p → mCt f s p ≤ sh2 → ∀ y8 y9 : Value, zW X 1 131 80 [.ref e, z1, .int (zi p), .int (zi n), z4, .int (zi sh), .int (zi sh2), .int (zi ((s + 1 : Nat) : Int)), y8, y9] [] S C (zQi q)) (K2 : ¬ (sh ≤ mCt f s p ∧ mCt f s p ≤ sh2) → q (zi 0) C) : ∀ (j i : Nat), i + j = p → zW X 1 131 92 [.ref e, z1, .int (zi p), .int (zi n), z4, .int (zi sh), .int (zi sh2), .int (zi s), .int (zi (mCt f s i)), .int (zi i)] [] S C (zQi q) := by
  intro j
  induction j with
  | zero =>
    intro i hi
    refine vc131_92 (a1 := 0) (a2 := 0) hS ?_
    have hc := mCt_le f s i
    rw [zlt_f (by omega), zlt_i (by omega), zlt_i (by omega), zi_s]
    rw [show p = i by omega] at K1 K2
    by_cases c1 : (mCt f s i : Int) < sh
    · rw [if_pos c1]
      exact K2 (by omega)
    · rw [if_neg c1]
      by_cases c2 : (sh2 : Int) < mCt f s i
      · rw [if_pos c2]
        exact K2 (by omega)
      · rw [if_neg c2]
        rw [show p = i by omega]
        exact K1 (by omega) (by omega) _ _
  | succ j ih =>
    intro i hi
    refine vc131_92 (a1 := 0) (a2 := 0) hS ?_
    have h3 := hf3 i (by omega)
    have ih2 := ih (i + 1) (by omega)
    simp only [mCt] at ih2
    rw [zlt_t (by omega), sp11 (za_4_12 hS) (by omega) (by omega) (by omega), Int.toNat_natCast, hf i (by omega), zeq_i (by omega), zi_s, zi_s, zi_0, zi_add, Int.add_zero]
    by_cases c : f i = s
    · rw [if_pos c] at ih2
      rw [if_pos (by omega)]
      exact ih2
    · rw [if_neg c] at ih2
      rw [if_neg (by omega)]
      exact ih2
theorem lq131b (hS : zs_4 S e) {n p : Nat} (hn : n = 2 ∨ n = 3) (hp : p ≤ 8) {f : Nat → Nat} (hf3 : ∀ k, k < p → f k < n) (hf : ∀ k, k < p → C.1 (e + 40) k = zi (f k)) (z1 z4 : Value) : ∀ (j s : Nat) (z8 z9 : Value), s + j = n → (∀ t, t < s → p / n ≤ mCt f t p ∧ mCt f t p ≤ (if p % n = 0 then p / n else p / n + 1)) → q (zb (mEv n p f)) C → zW X 1 131 80 [.ref e, z1, .int (zi p), .int (zi n), z4, .int (zi ((p / n : Nat) : Int)), .int (zi (((if p % n = 0 then p / n else p / n + 1) : Nat) : Int)), .int (zi s), z8, z9] [] S C (zQi q) := by
  intro j
  induction j with
  | zero =>
    intro s z8 z9 hs g1 hq
    refine vc131_80 (a1 := 0) (a2 := 0) hS ?_
    rw [zlt_f (by omega)]
    rw [zbT (fun t ht => g1 t (by omega))] at hq
    exact hq
  | succ j ih =>
    intro s z8 z9 hs g1 hq
    refine vc131_80 (a1 := 0) (a2 := 0) hS ?_
    have hd : p / n ≤ 8 := Nat.le_trans (Nat.div_le_self p n) hp
    rw [zlt_t (by omega)]
    refine lq131c hS hp (by omega) (fun k hk => by have := hf3 k hk; omega) hf ⟨hd, by split <;> omega⟩ _ _ (fun k1 k2 y8 y9 => ih (s + 1) y8 y9 (by omega) (fun t ht => ?_) hq) (fun k => ?_) p 0 (Nat.zero_add _)
    · by_cases c : t = s
      · subst c; exact ⟨k1, k2⟩
      · exact g1 t (by omega)
    · rw [zbF (fun h => k (h s (by omega)))] at hq
      exact hq
theorem lq131a (hS : zs_4 S e) {n p N : Nat} (hn : n = 2 ∨ n = 3) (hp : p ≤ 8) (hN : N < 100000) (z1 z6 z7 z8 z9 : Value) (K : ∀ (C1 : zx_C) (y4 : Value), (∀ k, k < p → C1.1 (e + 40) k = zi (mDg n p N k)) → (∀ b k, b ≠ e + 40 → C1.1 b k = C.1 b k) → C1.2 = C.2 → zW X 1 131 80 [.ref e, z1, .int (zi p), .int (zi n), y4, .int (zi ((p / n : Nat) : Int)), .int (zi (((if p % n = 0 then p / n else p / n + 1) : Nat) : Int)), .int 0, z8, z9] [] S C1 (zQi q)) : ∀ (j : Nat) (C0 : zx_C), j ≤ p → (∀ k, j ≤ k → k < p → C0.1 (e + 40) k = zi (mDg n p N k)) → (∀ b k, b ≠ e + 40 → C0.1 b k = C.1 b k) → C0.2 = C.2 → zW X 1 131 25 [.ref e, z1, .int (zi p), .int (zi n), .int (zi ((N / n ^ (p - j) : Nat) : Int)), .int (zi ((j : Int) - 1)), z6, z7, z8, z9] [] S C0 (zQi q) := by
  have hne : ¬ zi (n : Int) = 0 := by
    rw [zi_0, zi_eq (by omega) (by omega) (by omega) (by omega)]; omega
  intro j
  induction j with
  | zero =>
    intro C0 hj g1 g2 g3
    refine vc131_25 (a1 := 0) (a2 := 0) hS ?_
    have hd : p / n ≤ 8 := Nat.le_trans (Nat.div_le_self p n) hp
    rw [zi_0, zlt_t (by omega), zi_div (by omega) (by omega) (by omega) (by omega), zi_mul, zi_sub, zi_em, ← Int.natCast_emod, ← Int.natCast_ediv, zi_s, ← zi_0]
    refine ⟨hne, hne, ?_⟩
    have kk := K C0 (.int (zi ((N / n ^ (p - 0) : Nat) : Int))) (fun k hk => g1 k (Nat.zero_le _) hk) g2 g3
    by_cases c : p % n = 0
    · rw [if_pos c] at kk
      rw [zi_0, zeq_t (by omega), ← zi_0]
      exact kk
    · rw [if_neg c] at kk
      have hlt : p % n < n := Nat.mod_lt _ (by omega)
      rw [zi_0, zeq_f (by omega), ← zi_0]
      exact kk
  | succ j ih =>
    intro C0 hj g1 g2 g3
    refine vc131_25 (a1 := 0) (a2 := 0) hS ?_
    have hle : N / n ^ (p - (j + 1)) ≤ N := Nat.div_le_self _ _
    have hnext : N / n ^ (p - (j + 1)) / n = N / n ^ (p - j) := by
      rw [Nat.div_div_eq_div_mul, ← Nat.pow_succ, show (p - (j + 1)).succ = p - j by omega]
    obtain ⟨Q, hQ⟩ : ∃ Q, N / n ^ (p - (j + 1)) = Q := ⟨_, rfl⟩
    rw [hQ] at hle hnext ⊢
    rw [show (((j + 1 : Nat) : Int) - 1) = (j : Int) by omega, zi_0, zlt_f (by omega), zi_div (by omega) (by omega) (by omega) (by omega), zi_mul, zi_sub, zi_em, ← Int.natCast_emod, ← Int.natCast_ediv, hnext, sp12 (za_4_12 hS) (by omega) (by omega) (by omega), Int.toNat_natCast, ← zi_0]
    refine ⟨hne, hne, ?_⟩
    rw [zi_m1, zi_add, show ((j : Int) + -1) = (j : Int) - 1 by omega]
    refine ih _ (by omega) (fun k h1 h2 => ?_) (fun b k hb => by rw [zp_ne hb, g2 b k hb]) g3
    by_cases c : k = j
    · subst c
      rw [zp_hit]
      unfold mDg
      rw [show p - 1 - k = p - (k + 1) by omega, hQ]
    · rw [zp_nf c]
      exact g1 k (by omega) h2
/-- spellOrder -/
theorem sp131 (hS : zs_4 S e) {n p N : Nat} (hn : n = 2 ∨ n = 3) (hp : p ≤ 8) (hN : N < 100000) (h0 : C.1 (e + 1) 0 = zi n) : zCd X 1 131 [.ref e, .int (zi N), .int (zi p)] S C (zQi (fun r C1 => r = zb (mEv n p (mDg n p N)) ∧ (∀ k, k < p → C1.1 (e + 40) k = zi (mDg n p N k)) ∧ (∀ b k, b ≠ e + 40 → C1.1 b k = C.1 b k) ∧ C1.2 = C.2)) := by
  refine vc131 hS ?_
  have fin : zW X 1 131 25 [.ref e, .int (zi N), .int (zi p), .int (zi n), .int (zi N), .int (zi ((p : Int) - 1)), .retAddr 0, .retAddr 0, .retAddr 0, .retAddr 0] [] S C (zQi (fun r C1 => r = zb (mEv n p (mDg n p N)) ∧ (∀ k, k < p → C1.1 (e + 40) k = zi (mDg n p N k)) ∧ (∀ b k, b ≠ e + 40 → C1.1 b k = C.1 b k) ∧ C1.2 = C.2)) := by
    have h := lq131a (X := X) (C := C) (q := fun r C1 => r = zb (mEv n p (mDg n p N)) ∧ (∀ k, k < p → C1.1 (e + 40) k = zi (mDg n p N k)) ∧ (∀ b k, b ≠ e + 40 → C1.1 b k = C.1 b k) ∧ C1.2 = C.2) hS hn hp hN (.int (zi N)) (.retAddr 0) (.retAddr 0) (.retAddr 0) (.retAddr 0) (fun C1 y4 b1 b2 b3 => lq131b hS hn hp (fun k _ => mDg_lt hn) b1 _ _ n 0 _ _ (Nat.zero_add _) (fun t ht => absurd ht (Nat.not_lt_zero t)) ⟨rfl, b1, b2, b3⟩) p C (Nat.le_refl _) (fun k h1 h2 => by omega) (fun _ _ _ => rfl) rfl
    rw [show N / n ^ (p - p) = N by rw [Nat.sub_self, Nat.pow_zero, Nat.div_one]] at h
    exact h
  rw [h0, zi_1, zi_sub, zi_2, zlt_i (by omega), zi_3]
  rcases hn with hn | hn <;> subst hn
  · rw [if_neg (by omega)]; exact fin
  · rw [if_pos (by omega)]; exact fin
/-- where the least unequal order stands, as the class has it -/
def zFa (C : zx_C) (e : Nat) (E : zT) (o : Option (Int × Nat)) : Prop := ∀ vb, o = some vb → ∀ k, k < mCnt (mOwn E (-1)) 8 → C.1 (e + 41) k = zi (mDg (eN E) (mCnt (mOwn E (-1)) 8) vb.2 k)
theorem lq130 (hS : zs_4 S e) (hW : zWF E) : ∀ (j N : Nat) (C0 : zx_C) (z6 : Value), N + j = eN E ^ mCnt (mOwn E (-1)) 8 → zXE C0 (e + 1) E → zMd C0 (e + 24) (dRow E (fun _ => 0)) ∨ (∃ f, zMd C0 (e + 24) (dRow E f)) ∨ ((∀ s k, s < eN E → k < eT E → C0.1 (e + 25) (s * 8 + k) = zi (eu E s k)) ∧ (∀ s, s < 3 → C0.1 (e + 26) s = zi (eb E s)) ∧ C0.1 (e + 24) 5 = zi (mOwn E (-1)) ∧ C0.1 (e + 24) 6 = zi (mCnt (mOwn E (-1)) 8)) → (∀ s, s < 3 → C0.1 (e + 27) s = zi (mHas E s)) → zFa C0 e E (mFr E N) → zW X 6 130 32 [.ref e, .int (zi (mCnt (mOwn E (-1)) 8)), .long (zl ((eN E ^ mCnt (mOwn E (-1)) 8 : Nat) : Int)), .retAddr 1, .int (zi (zLs (mFr E N))), .int (zi N), z6] [] S C0 (zQi (fun r C1 => r = zi (zLs (mFr E (eN E ^ mCnt (mOwn E (-1)) 8))) ∧ zFa C1 e E (mFr E (eN E ^ mCnt (mOwn E (-1)) 8)) ∧ zFX C0 C1 e)) := by
  have h8 := mCnt_le (mOwn E (-1)) 8
  have hnp := npow_b hW.1 h8
  have hn := hW.1
  intro j
  induction j with
  | zero =>
    intro N C0 z6 hN g0 g1 g2 g3
    refine vc130_32 (a1 := 0) hS ?_
    rw [lg_lt, zl_zi (by omega), zl_toInt (by omega), zl_toInt (by omega), if_neg (by omega), show N = eN E ^ mCnt (mOwn E (-1)) 8 by omega]
    rw [show N = eN E ^ mCnt (mOwn E (-1)) 8 by omega] at g3
    exact ⟨rfl, g3, zFX_r _ _⟩
  | succ j ih =>
    intro N C0 z6 hN g0 g1 g2 g3
    refine vc130_32 (a1 := 0) hS ?_
    have hls : 0 ≤ zLs (mFr E N) ∧ zLs (mFr E N) ≤ 1000000 := by
      cases hf : mFr E N with
      | none => show (0 : Int) ≤ 1000000 ∧ (1000000 : Int) ≤ 1000000; omega
      | some vb => have := mFr_b hW N vb hf; show 0 ≤ vb.1 ∧ vb.1 ≤ 1000000; omega
    rw [lg_lt, zl_zi (by omega), zl_toInt (by omega), zl_toInt (by omega), if_pos (by omega), zi_0, zlt_i (by omega)]
    by_cases c0 : 0 < zLs (mFr E N)
    · rw [if_pos c0]
      have gg : (∀ s k, s < eN E → k < eT E → C0.1 (e + 25) (s * 8 + k) = zi (eu E s k)) ∧ (∀ s, s < 3 → C0.1 (e + 26) s = zi (eb E s)) ∧ C0.1 (e + 24) 5 = zi (mOwn E (-1)) ∧ C0.1 (e + 24) 6 = zi (mCnt (mOwn E (-1)) 8) := by
        rcases g1 with g | ⟨f, g⟩ | g
        · exact ⟨g.1, g.2.1, g.2.2.2.2.1, g.2.2.2.2.2⟩
        · exact ⟨g.1, g.2.1, g.2.2.2.2.1, g.2.2.2.2.2⟩
        · exact g
      refine zc_mI (sp131 hS hW.1 h8 (N := N) (by omega) g0.1) (fun r C1 w => ?_)
      obtain ⟨w1, w2, w3, w4⟩ := w
      have hE1 : zXE C1 (e + 1) E := zXE_of g0 (fun b k _ _ => w3 b k (by omega))
      have hf1 : zFX C0 C1 e := ⟨fun b k _ hb => w3 b k (by omega), w4⟩
      have gg1 : (∀ s k, s < eN E → k < eT E → C1.1 (e + 25) (s * 8 + k) = zi (eu E s k)) ∧ (∀ s, s < 3 → C1.1 (e + 26) s = zi (eb E s)) ∧ C1.1 (e + 24) 5 = zi (mOwn E (-1)) ∧ C1.1 (e + 24) 6 = zi (mCnt (mOwn E (-1)) 8) := ⟨fun s k hs hk => by rw [w3 _ _ (by omega)]; exact gg.1 s k hs hk, fun s hs => by rw [w3 _ _ (by omega)]; exact gg.2.1 s hs, by rw [w3 _ _ (by omega)]; exact gg.2.2.1, by rw [w3 _ _ (by omega)]; exact gg.2.2.2⟩
      have ih2 := fun C2 z6 => ih (N + 1) C2 z6 (by omega)
      simp only [mFr] at ih2
      by_cases cE : mEv (eN E) (mCnt (mOwn E (-1)) 8) (mDg (eN E) (mCnt (mOwn E (-1)) 8) N)
      · simp only [if_pos cE] at ih2
        rw [w1, ← zi_0, zb_t cE]
        refine zc_mV (sp132 (zo_4_7 hS) (za_4_12 hS) (by omega)) (fun C2 u => ?_)
        obtain ⟨u1, u2, u3, u4, u5⟩ := u
        have hM2 : zMd C2 (e + 24) (dRow E (mDg (eN E) (mCnt (mOwn E (-1)) 8) N)) := by
          refine ⟨fun s k hs hk => ?_, fun s hs => ?_, fun i hi => ?_, u2, ?_, ?_⟩
          · rw [u4 _ _ (by omega) (by omega) (by omega)]; exact gg1.1 s k hs hk
          · rw [u4 _ _ (by omega) (by omega) (by omega)]; exact gg1.2.1 s hs
          · have hi2 : i < mCnt (mOwn E (-1)) 8 := hi
            rw [u1 i (by omega)]; exact w2 i hi
          · rw [u4 _ _ (by omega) (by omega) (by omega)]; exact gg1.2.2.1
          · rw [u4 _ _ (by omega) (by omega) (by omega)]; exact gg1.2.2.2
        have hDr := zWD_row hW (f := mDg (eN E) (mCnt (mOwn E (-1)) 8) N) (fun k _ => mDg_lt hW.1)
        have hl0 := zMl_0 (M := dRow E (mDg (eN E) (mCnt (mOwn E (-1)) 8) N)) u3
        rw [zi_m1]
        refine zc_mV (sp120 hS (zo_4_7 hS) (Or.inl rfl) (by omega) hDr hDr rfl (fun _ => rfl) (G := mHas E) (fun s hs => by rw [u4 _ _ (by omega) (by omega) (by omega), w3 _ _ (by omega)]; exact g2 s hs) ⟨hM2, hl0, hM2, hl0⟩) (fun C3 t => ?_)
        obtain ⟨t1, t2, t3, t4⟩ := t
        have hf3 : zFX C0 C3 e := zFX_t hf1 ⟨fun b k h1 h2 => by rw [t3 b k h1 (by omega), u4 b k (by omega) (by omega) (by omega)], t4.trans u5⟩
        have hE3 := zFX_E hf3 g0
        have hub := mUr_b hW (f := mDg (eN E) (mCnt (mOwn E (-1)) 8) N) (fun k _ => mDg_lt hW.1)
        have h27 : ∀ s, s < 3 → C3.1 (e + 27) s = zi (mHas E s) := fun s hs => by rw [t3 _ _ (by omega) (by omega), u4 _ _ (by omega) (by omega) (by omega), w3 _ _ (by omega)]; exact g2 s hs
        have h41 : ∀ k, C3.1 (e + 41) k = C0.1 (e + 41) k := fun k => by rw [t3 _ _ (by omega) (by omega), u4 _ _ (by omega) (by omega) (by omega), w3 _ _ (by omega)]
        have h40 : ∀ k, k < mCnt (mOwn E (-1)) 8 → C3.1 (e + 40) k = zi (mDg (eN E) (mCnt (mOwn E (-1)) 8) N k) := fun k hk => by rw [t3 _ _ (by omega) (by omega), u4 _ _ (by omega) (by omega) (by omega)]; exact w2 k hk
        rw [sp124 hS hW.1 hE3.1 (fun s hs => t1.2.2 s hs) (fun s _ => by have := mUr_e hW (f := mDg (eN E) (mCnt (mOwn E (-1)) 8) N) (fun k _ => mDg_lt hW.1) s; omega)]
        show if zi (mUr E (mDg (eN E) (mCnt (mOwn E (-1)) 8) N)) < zi (zLs (mFr E N)) then _ else _
        rw [zlt_i (by omega), zi_s]
        have take : (match mFr E N with
            | none => some (mUr E (mDg (eN E) (mCnt (mOwn E (-1)) 8) N), N)
            | some vb => if mUr E (mDg (eN E) (mCnt (mOwn E (-1)) 8) N) < vb.1 then some (mUr E (mDg (eN E) (mCnt (mOwn E (-1)) 8) N), N) else some vb) = (if mUr E (mDg (eN E) (mCnt (mOwn E (-1)) 8) N) < zLs (mFr E N) then some (mUr E (mDg (eN E) (mCnt (mOwn E (-1)) 8) N), N) else mFr E N) := by
          cases mFr E N with
          | none =>
            show _ = if mUr E (mDg (eN E) (mCnt (mOwn E (-1)) 8) N) < 1000000 then _ else _
            rw [if_pos (by omega)]
          | some vb => rfl
        have hnx : mFr E (N + 1) = (if mUr E (mDg (eN E) (mCnt (mOwn E (-1)) 8) N) < zLs (mFr E N) then some (mUr E (mDg (eN E) (mCnt (mOwn E (-1)) 8) N), N) else mFr E N) := by
          simp only [mFr]
          rw [if_pos cE]
          cases mFr E N with
          | none =>
            show _ = if mUr E (mDg (eN E) (mCnt (mOwn E (-1)) 8) N) < 1000000 then _ else _
            rw [if_pos (by omega)]
          | some vb => rfl
        have ih3 := fun C2 z6 => ih (N + 1) C2 z6 (by omega)
        rw [hnx] at ih3
        by_cases c : mUr E (mDg (eN E) (mCnt (mOwn E (-1)) 8) N) < zLs (mFr E N)
        · rw [if_pos c]
          simp only [if_pos c] at ih3
          refine zc_mV (sp39 (za_4_12 hS) (za_4_13 hS) (by omega) (by omega) (by omega)) (fun C4 v => ?_)
          obtain ⟨v1, v2, v3⟩ := v
          have hf4 : zFX C0 C4 e := zFX_t hf3 ⟨fun b k h1 h2 => v2 b k (by omega), v3⟩
          refine zW_mono (ih3 C4 _ (zFX_E hf4 g0) (Or.inr (Or.inl ⟨_, zMd_of t2.1 (fun b k _ _ => v2 b k (by omega))⟩)) (fun s hs => by rw [v2 _ _ (by omega)]; exact h27 s hs) (fun vb hvb k hk => ?_)) (fun v C5 t => by obtain ⟨y, e1, y1, y2, y3⟩ := t; exact ⟨y, e1, y1, y2, zFX_t hf4 y3⟩)
          cases hvb
          rw [v1 k (by omega) (by omega)]
          exact h40 k hk
        · rw [if_neg c]
          simp only [if_neg c] at ih3
          refine zW_mono (ih3 C3 _ hE3 (Or.inr (Or.inl ⟨_, t2.1⟩)) h27 (fun vb hvb k hk => by rw [h41]; exact g3 vb hvb k hk)) (fun v C5 t => by obtain ⟨y, e1, y1, y2, y3⟩ := t; exact ⟨y, e1, y1, y2, zFX_t hf3 y3⟩)
      · simp only [if_neg cE] at ih2
        rw [w1, ← zi_0, zb_f cE, zi_s]
        refine zW_mono (ih2 C1 z6 hE1 (Or.inr (Or.inr gg1)) (fun s hs => by rw [w3 _ _ (by omega)]; exact g2 s hs) (fun vb hvb k hk => by rw [w3 _ _ (by omega)]; exact g3 vb hvb k hk)) (fun v C3 t => by obtain ⟨y, e1, t1, t2, t3⟩ := t; exact ⟨y, e1, t1, t2, zFX_t hf1 t3⟩)
    · rw [if_neg c0]
      cases hf : mFr E N with
      | none => rw [hf] at c0; exact absurd (by decide : (0 : Int) < 1000000) c0
      | some vb =>
        have hb := mFr_b hW N vb hf
        rw [hf] at c0
        have hv0 : vb.1 = 0 := by have : ¬ (0 : Int) < vb.1 := c0; omega
        have hvb : vb = (0, vb.2) := by rw [← hv0]
        rw [hvb] at hf
        have hfin := mFr_0 hW hf (eN E ^ mCnt (mOwn E (-1)) 8 - N)
        rw [show N + (eN E ^ mCnt (mOwn E (-1)) 8 - N) = eN E ^ mCnt (mOwn E (-1)) 8 by omega] at hfin
        rw [hfin]
        rw [hf] at g3
        refine ⟨?_, g3, zFX_r _ _⟩
        show zi vb.1 = zi 0
        rw [hv0]
end
