/-! THE CALLS, both sides: fairest -/
/-- an order's i-th side, of p picks, as the number tells it -/
def mDg (n p N i : Nat) : Nat := N / n ^ (p - 1 - i) % n
/-- how often a side comes -/
def mCt (f : Nat → Nat) (s : Nat) : Nat → Nat
  | 0 => 0
  | i + 1 => mCt f s i + if f i = s then 1 else 0
theorem mCt_le (f : Nat → Nat) (s n : Nat) : mCt f s n ≤ n := by
  induction n with
  | zero => exact Nat.le_refl 0
  | succ n ih => simp only [mCt]; split <;> omega
theorem mCt_c {f g : Nat → Nat} {s : Nat} : ∀ n, (∀ k, k < n → f k = g k) → mCt f s n = mCt g s n := by
  intro n
  induction n with
  | zero => intro _; rfl
  | succ n ih =>
    intro h
    simp only [mCt]
    rw [ih (fun k hk => h k (by omega)), h n (by omega)]
abbrev mEv (n p : Nat) (f : Nat → Nat) : Prop := ∀ s, s < n → p / n ≤ mCt f s p ∧ mCt f s p ≤ (if p % n = 0 then p / n else p / n + 1)
theorem mCt_2 {f : Nat → Nat} : ∀ p, (∀ k, k < p → f k < 2) → mCt f 0 p + mCt f 1 p = p := by
  intro p
  induction p with
  | zero => intro _; rfl
  | succ p ih =>
    intro h
    have h1 := ih (fun k hk => h k (by omega))
    have h2 := h p (by omega)
    have h3 : f p = 0 ∨ f p = 1 := by omega
    simp only [mCt]
    rcases h3 with h3 | h3 <;> rw [h3] <;> simp <;> omega
theorem mCt_3 {f : Nat → Nat} : ∀ p, (∀ k, k < p → f k < 3) → mCt f 0 p + mCt f 1 p + mCt f 2 p = p := by
  intro p
  induction p with
  | zero => intro _; rfl
  | succ p ih =>
    intro h
    have h1 := ih (fun k hk => h k (by omega))
    have h2 := h p (by omega)
    have h3 : f p = 0 ∨ f p = 1 ∨ f p = 2 := by omega
    simp only [mCt]
    rcases h3 with h3 | h3 | h3 <;> rw [h3] <;> simp <;> omega
/-- no two differ by more than one -/
theorem mEv_pair {n p : Nat} {f : Nat → Nat} (hn : n = 2 ∨ n = 3) (hf : ∀ k, k < p → f k < n) : mEv n p f ↔ ∀ s k, s < n → k < s → mCt f s p ≤ mCt f k p + 1 ∧ mCt f k p ≤ mCt f s p + 1 := by
  rcases hn with hn | hn <;> subst hn
  · have hs := mCt_2 p hf
    constructor
    · intro h s k h1 h2
      have e : s = 1 := by omega
      have e2 : k = 0 := by omega
      subst e; subst e2
      have a0 := h 0 (by omega)
      have a1 := h 1 (by omega)
      by_cases c : p % 2 = 0
      · rw [if_pos c] at a0 a1; omega
      · rw [if_neg c] at a0 a1; omega
    · intro h s h1
      have a := h 1 0 (by omega) (by omega)
      have e : s = 0 ∨ s = 1 := by omega
      by_cases c : p % 2 = 0
      · rw [if_pos c]; rcases e with e | e <;> subst e <;> omega
      · rw [if_neg c]; rcases e with e | e <;> subst e <;> omega
  · have hs := mCt_3 p hf
    constructor
    · intro h s k h1 h2
      have a0 := h 0 (by omega)
      have a1 := h 1 (by omega)
      have a2 := h 2 (by omega)
      have e : s = 1 ∨ s = 2 := by omega
      have e2 : k = 0 ∨ k = 1 := by omega
      by_cases c : p % 3 = 0
      · rw [if_pos c] at a0 a1 a2
        rcases e with e | e <;> rcases e2 with e2 | e2 <;> subst e <;> subst e2 <;> omega
      · rw [if_neg c] at a0 a1 a2
        rcases e with e | e <;> rcases e2 with e2 | e2 <;> subst e <;> subst e2 <;> omega
    · intro h s h1
      have b1 := h 1 0 (by omega) (by omega)
      have b2 := h 2 0 (by omega) (by omega)
      have b3 := h 2 1 (by omega) (by omega)
      have e : s = 0 ∨ s = 1 ∨ s = 2 := by omega
      by_cases c : p % 3 = 0
      · rw [if_pos c]; rcases e with e | e | e <;> subst e <;> omega
      · rw [if_neg c]; rcases e with e | e | e <;> subst e <;> omega
/-- what's known by a told order -/
def dRow (E : zT) (f : Nat → Nat) : zD := ((eN E, eT E, mOwn E (-1), mCnt (mOwn E (-1)) 8), eu E, eb E, f)
theorem zWD_row {E : zT} (hW : zWF E) {f : Nat → Nat} (hf : ∀ k, k < mCnt (mOwn E (-1)) 8 → f k < eN E) : zWD (dRow E f) := by
  have h8 := mCnt_le (mOwn E (-1)) 8
  exact ⟨hW.1, hW.2.1, mOwn_p _, ⟨by show mCnt (mOwn E (-1)) 8 ≤ 32; omega, Nat.le_refl _⟩, hf, hW.2.2.2.2.2.2.1, hW.2.2.2.2.2.2.2.2⟩
def mUr (E : zT) (f : Nat → Nat) : Int := mSpread (fun s => mEnd (mCh (dRow E f) (dRow E f) (-1)) (dRow E f) (mHas E) s (mCnt (dL (dRow E f)) 8)) (eN E)
theorem mUr_e {E : zT} (hW : zWF E) {f : Nat → Nat} (hf : ∀ k, k < mCnt (mOwn E (-1)) 8 → f k < eN E) (s : Nat) : 0 ≤ mEnd (mCh (dRow E f) (dRow E f) (-1)) (dRow E f) (mHas E) s (mCnt (dL (dRow E f)) 8) ∧ mEnd (mCh (dRow E f) (dRow E f) (-1)) (dRow E f) (mHas E) s (mCnt (dL (dRow E f)) 8) ≤ 1584 :=
  mEnd_b (zWD_row hW hf) (fun s m hm h0 => mCh_some hm h0) (mHas_b hW)
theorem mUr_b {E : zT} (hW : zWF E) {f : Nat → Nat} (hf : ∀ k, k < mCnt (mOwn E (-1)) 8 → f k < eN E) : 0 ≤ mUr E f ∧ mUr E f ≤ 1584 :=
  mSpread_b (fun k _ => mUr_e hW hf k) (by have := hW.1; omega)
theorem mDg_lt {n p N i : Nat} (hn : n = 2 ∨ n = 3) : mDg n p N i < n := Nat.mod_lt _ (by omega)
/-! orders as numbers: the class goes through them by their ends -/
theorem mDg_s {n i P s k : Nat} (hn : n = 2 ∨ n = 3) (hs : s < n) (hk : k < i + 1) : mDg n (i + 1) (P * n + s) k = if k = i then s else mDg n i P k := by
  unfold mDg
  by_cases c : k = i
  · rw [if_pos c, show i + 1 - 1 - k = 0 by omega, Nat.pow_zero, Nat.div_one, Nat.mul_comm, Nat.mul_add_mod, Nat.mod_eq_of_lt hs]
  · rw [if_neg c]
    have h1 : i + 1 - 1 - k = (i - 1 - k) + 1 := by omega
    rw [h1, Nat.pow_succ, Nat.mul_comm (n ^ (i - 1 - k)) n, ← Nat.div_div_eq_div_mul, Nat.mul_comm P n, Nat.mul_add_div (by omega), Nat.div_eq_of_lt hs, Nat.add_zero]
def mV (n : Nat) (f : Nat → Nat) : Nat → Nat
  | 0 => 0
  | k + 1 => mV n f k * n + f k
theorem mV_c {n : Nat} {f g : Nat → Nat} : ∀ p : Nat, (∀ k, k < p → f k = g k) → mV n f p = mV n g p := by
  intro p
  induction p with
  | zero => intro _; rfl
  | succ p ih =>
    intro h
    simp only [mV]
    rw [ih (fun k hk => h k (by omega)), h p (by omega)]
theorem mV_lt {n : Nat} {f : Nat → Nat} : ∀ p : Nat, (∀ k, k < p → f k < n) → mV n f p < n ^ p := by
  intro p
  induction p with
  | zero => intro _; exact Nat.one_pos
  | succ p ih =>
    intro h
    have h1 := ih (fun k hk => h k (by omega))
    have h2 := h p (by omega)
    have h3 : (mV n f p + 1) * n ≤ n ^ p * n := Nat.mul_le_mul_right n h1
    rw [Nat.add_mul, Nat.one_mul] at h3
    show mV n f p * n + f p < n ^ (p + 1)
    rw [Nat.pow_succ]
    omega
theorem mDg_V {n : Nat} {f : Nat → Nat} (hn : n = 2 ∨ n = 3) : ∀ p : Nat, (∀ k, k < p → f k < n) → ∀ k, k < p → mDg n p (mV n f p) k = f k := by
  intro p
  induction p with
  | zero => intro _ k hk; exact absurd hk (Nat.not_lt_zero k)
  | succ p ih =>
    intro h k hk
    show mDg n (p + 1) (mV n f p * n + f p) k = f k
    rw [mDg_s hn (h p (by omega)) hk]
    by_cases c : k = p
    · rw [if_pos c, c]
    · rw [if_neg c]
      exact ih (fun k hk => h k (by omega)) k (by omega)
theorem mV_Dg {n : Nat} (hn : n = 2 ∨ n = 3) : ∀ p R : Nat, R < n ^ p → mV n (mDg n p R) p = R := by
  intro p
  induction p with
  | zero =>
    intro R hR
    rw [Nat.pow_zero] at hR
    show 0 = R
    omega
  | succ p ih =>
    intro R hR
    have h1 : R / n < n ^ p := by
      rw [Nat.pow_succ] at hR
      exact Nat.div_lt_of_lt_mul (by rw [Nat.mul_comm]; exact hR)
    have h2 : R % n < n := Nat.mod_lt _ (by omega)
    have h3 : R / n * n + R % n = R := by rw [Nat.mul_comm]; exact Nat.div_add_mod R n
    have h4 : ∀ k, k < p + 1 → mDg n (p + 1) R k = if k = p then R % n else mDg n p (R / n) k := fun k hk => by
      have h5 := mDg_s (P := R / n) hn h2 hk
      rwa [h3] at h5
    show mV n (mDg n (p + 1) R) p * n + mDg n (p + 1) R p = R
    rw [h4 p (by omega), if_pos rfl, mV_c p (fun k hk => (h4 k (by omega)).trans (if_neg (by omega))), ih (R / n) h1]
    exact h3
theorem mV_lx {n : Nat} {f g : Nat → Nat} {i : Nat} (he : ∀ k, k < i → f k = g k) (hl : f i < g i) : ∀ d : Nat, (∀ k, k < i + 1 + d → f k < n ∧ g k < n) → mV n f (i + 1 + d) < mV n g (i + 1 + d) := by
  intro d
  induction d with
  | zero =>
    intro _
    show mV n f i * n + f i < mV n g i * n + g i
    rw [mV_c i he]
    omega
  | succ d ih =>
    intro h
    have h1 := ih (fun k hk => h k (by omega))
    have h2 := h (i + 1 + d) (by omega)
    have h3 : (mV n f (i + 1 + d) + 1) * n ≤ mV n g (i + 1 + d) * n := Nat.mul_le_mul_right n h1
    rw [Nat.add_mul, Nat.one_mul] at h3
    show mV n f (i + 1 + d) * n + f (i + 1 + d) < mV n g (i + 1 + d) * n + g (i + 1 + d)
    omega
/-- the order that the class's number tells, as the model's number -/
def rvN (n p N : Nat) : Nat := mV n (fun k => mDg n p N (p - 1 - k)) p
theorem rvN_lt {n p N : Nat} (hn : n = 2 ∨ n = 3) : rvN n p N < n ^ p := mV_lt p (fun k _ => mDg_lt hn)
theorem rvN_d {n p N k : Nat} (hn : n = 2 ∨ n = 3) (hk : k < p) : mDg n p (rvN n p N) k = mDg n p N (p - 1 - k) := mDg_V hn p (fun k _ => mDg_lt hn) k hk
theorem rvN_rv {n p R : Nat} (hn : n = 2 ∨ n = 3) (hR : R < n ^ p) : rvN n p (rvN n p R) = R := by
  have h1 : rvN n p (rvN n p R) = mV n (mDg n p R) p := mV_c p (fun k hk => by
    show mDg n p (rvN n p R) (p - 1 - k) = mDg n p R k
    rw [rvN_d hn (by omega), show p - 1 - (p - 1 - k) = k by omega])
  rw [h1, mV_Dg hn p R hR]
/-- of the first N orders the least unequal, and which -/
def mFr (E : zT) : Nat → Option (Int × Nat)
  | 0 => none
  | N + 1 => if mEv (eN E) (mCnt (mOwn E (-1)) 8) (mDg (eN E) (mCnt (mOwn E (-1)) 8) N) then (match mFr E N with
      | none => some (mUr E (mDg (eN E) (mCnt (mOwn E (-1)) 8) N), N)
      | some vb => if mUr E (mDg (eN E) (mCnt (mOwn E (-1)) 8) N) < vb.1 then some (mUr E (mDg (eN E) (mCnt (mOwn E (-1)) 8) N), N) else some vb)
    else mFr E N
theorem mFr_b {E : zT} (hW : zWF E) : ∀ (N : Nat) (vb : Int × Nat), mFr E N = some vb → 0 ≤ vb.1 ∧ vb.1 ≤ 1584 ∧ vb.2 < N := by
  intro N
  induction N with
  | zero => intro vb h; cases h
  | succ N ih =>
    intro vb h
    have hu := mUr_b hW (f := mDg (eN E) (mCnt (mOwn E (-1)) 8) N) (fun k _ => mDg_lt hW.1)
    simp only [mFr] at h
    by_cases c : mEv (eN E) (mCnt (mOwn E (-1)) 8) (mDg (eN E) (mCnt (mOwn E (-1)) 8) N)
    · rw [if_pos c] at h
      cases hf : mFr E N with
      | none => rw [hf] at h; cases h; exact ⟨hu.1, hu.2, by show N < N + 1; omega⟩
      | some w =>
        rw [hf] at h
        have hw := ih w hf
        dsimp only at h
        by_cases c2 : mUr E (mDg (eN E) (mCnt (mOwn E (-1)) 8) N) < w.1
        · rw [if_pos c2] at h; cases h; exact ⟨hu.1, hu.2, by show N < N + 1; omega⟩
        · rw [if_neg c2] at h; cases h; omega
    · rw [if_neg c] at h
      have := ih vb h
      omega
theorem mFr_lt {E : zT} : ∀ {N : Nat} {vb : Int × Nat}, mFr E N = some vb → vb.2 < N := by
  intro N
  induction N with
  | zero => intro vb h; cases h
  | succ N ih =>
    intro vb h
    simp only [mFr] at h
    by_cases c : mEv (eN E) (mCnt (mOwn E (-1)) 8) (mDg (eN E) (mCnt (mOwn E (-1)) 8) N)
    · rw [if_pos c] at h
      cases hf : mFr E N with
      | none => rw [hf] at h; cases h; exact Nat.lt_succ_self _
      | some w =>
        rw [hf] at h
        have hw := ih hf
        dsimp only at h
        by_cases c2 : mUr E (mDg (eN E) (mCnt (mOwn E (-1)) 8) N) < w.1
        · rw [if_pos c2] at h; cases h; exact Nat.lt_succ_self _
        · rw [if_neg c2] at h; cases h; omega
    · rw [if_neg c] at h
      have := ih h
      omega
theorem mFr_0 {E : zT} (hW : zWF E) {N b : Nat} (h : mFr E N = some (0, b)) : ∀ j, mFr E (N + j) = some (0, b) := by
  intro j
  induction j with
  | zero => exact h
  | succ j ih =>
    have hu := mUr_b hW (f := mDg (eN E) (mCnt (mOwn E (-1)) 8) (N + j)) (fun k _ => mDg_lt hW.1)
    show mFr E ((N + j) + 1) = _
    simp only [mFr]
    rw [ih]
    dsimp only
    split
    · rw [if_neg (by omega)]
    · rfl
/-- there is one at all -/
def nEv : Nat → Nat → Nat
  | _, 0 => 0
  | n, p + 1 => nEv n p * n + p % n
theorem nEv_ok2 : ∀ p : Fin 9, nEv 2 p.val < 2 ^ p.val ∧ mEv 2 p.val (mDg 2 p.val (nEv 2 p.val)) := by decide +kernel
theorem nEv_ok3 : ∀ p : Fin 9, nEv 3 p.val < 3 ^ p.val ∧ mEv 3 p.val (mDg 3 p.val (nEv 3 p.val)) := by decide +kernel
theorem mFr_some {E : zT} {N : Nat} (h : mEv (eN E) (mCnt (mOwn E (-1)) 8) (mDg (eN E) (mCnt (mOwn E (-1)) 8) N)) : ∀ j, ∃ vb, mFr E (N + 1 + j) = some vb := by
  intro j
  induction j with
  | zero =>
    show ∃ vb, mFr E (N + 1) = some vb
    simp only [mFr]
    rw [if_pos h]
    cases mFr E N with
    | none => exact ⟨_, rfl⟩
    | some w =>
      dsimp only
      split
      · exact ⟨_, rfl⟩
      · exact ⟨_, rfl⟩
  | succ j ih =>
    obtain ⟨w, hw⟩ := ih
    show ∃ vb, mFr E ((N + 1 + j) + 1) = some vb
    simp only [mFr]
    rw [hw]
    dsimp only
    split
    · split
      · exact ⟨_, rfl⟩
      · exact ⟨_, rfl⟩
    · exact ⟨_, rfl⟩
theorem mFr_all {E : zT} (hW : zWF E) : ∃ vb, mFr E (eN E ^ mCnt (mOwn E (-1)) 8) = some vb := by
  have h8 := mCnt_le (mOwn E (-1)) 8
  have hex : ∃ N, N < eN E ^ mCnt (mOwn E (-1)) 8 ∧ mEv (eN E) (mCnt (mOwn E (-1)) 8) (mDg (eN E) (mCnt (mOwn E (-1)) 8) N) := by
    rcases hW.1 with hn | hn <;> rw [hn]
    · exact ⟨_, nEv_ok2 ⟨mCnt (mOwn E (-1)) 8, by omega⟩⟩
    · exact ⟨_, nEv_ok3 ⟨mCnt (mOwn E (-1)) 8, by omega⟩⟩
  obtain ⟨N, h1, h2⟩ := hex
  obtain ⟨vb, h3⟩ := mFr_some h2 (eN E ^ mCnt (mOwn E (-1)) 8 - (N + 1))
  rw [show N + 1 + (eN E ^ mCnt (mOwn E (-1)) 8 - (N + 1)) = eN E ^ mCnt (mOwn E (-1)) 8 by omega] at h3
  exact ⟨vb, h3⟩
theorem npow_b {n p : Nat} (hn : n = 2 ∨ n = 3) (hp : p ≤ 8) : n ^ p ≤ 6561 := by
  have h1 : n ^ p ≤ n ^ 8 := Nat.pow_le_pow_right (by omega) hp
  have h2 : n ^ 8 ≤ 3 ^ 8 := Nat.pow_le_pow_left (by omega) 8
  have h3 : (3 : Nat) ^ 8 = 6561 := by decide
  omega
theorem mPow_zl (n p : Nat) : mPow (zl n) p = zl ((n ^ p : Nat) : Int) := by
  induction p with
  | zero => rfl
  | succ p ih =>
    show mPow (zl n) p * zl n = _
    rw [ih, zl_mul, Nat.pow_succ, Int.natCast_mul]
theorem mFr_m {E : zT} : ∀ (N : Nat) (vb : Int × Nat), mFr E N = some vb → mEv (eN E) (mCnt (mOwn E (-1)) 8) (mDg (eN E) (mCnt (mOwn E (-1)) 8) vb.2) ∧ vb.1 = mUr E (mDg (eN E) (mCnt (mOwn E (-1)) 8) vb.2) ∧ ∀ M, M < N → mEv (eN E) (mCnt (mOwn E (-1)) 8) (mDg (eN E) (mCnt (mOwn E (-1)) 8) M) → vb.1 < mUr E (mDg (eN E) (mCnt (mOwn E (-1)) 8) M) ∨ (vb.1 = mUr E (mDg (eN E) (mCnt (mOwn E (-1)) 8) M) ∧ vb.2 ≤ M) := by
  intro N
  induction N with
  | zero => intro vb h; cases h
  | succ N ih =>
    intro vb h
    have hn : ∀ N, mFr E N = none → ∀ M, M < N → ¬ mEv (eN E) (mCnt (mOwn E (-1)) 8) (mDg (eN E) (mCnt (mOwn E (-1)) 8) M) := fun N hN M hM he => by
      obtain ⟨w, hw⟩ := mFr_some he (N - (M + 1))
      rw [show M + 1 + (N - (M + 1)) = N by omega, hN] at hw
      cases hw
    simp only [mFr] at h
    by_cases c : mEv (eN E) (mCnt (mOwn E (-1)) 8) (mDg (eN E) (mCnt (mOwn E (-1)) 8) N)
    · rw [if_pos c] at h
      cases hf : mFr E N with
      | none =>
        rw [hf] at h
        cases h
        refine ⟨c, rfl, fun M hM he => ?_⟩
        by_cases cM : M = N
        · subst cM; exact Or.inr ⟨rfl, Nat.le_refl _⟩
        · exact absurd he (hn N hf M (by omega))
      | some w =>
        rw [hf] at h
        obtain ⟨i1, i2, i3⟩ := ih w hf
        dsimp only at h
        by_cases c2 : mUr E (mDg (eN E) (mCnt (mOwn E (-1)) 8) N) < w.1
        · rw [if_pos c2] at h
          cases h
          refine ⟨c, rfl, fun M hM he => ?_⟩
          by_cases cM : M = N
          · subst cM; exact Or.inr ⟨rfl, Nat.le_refl _⟩
          · rcases i3 M (by omega) he with h5 | h5
            · exact Or.inl (by show mUr E _ < _; omega)
            · exact Or.inl (by show mUr E _ < _; omega)
        · rw [if_neg c2] at h
          cases h
          refine ⟨i1, i2, fun M hM he => ?_⟩
          by_cases cM : M = N
          · subst cM
            by_cases c3 : vb.1 < mUr E (mDg (eN E) (mCnt (mOwn E (-1)) 8) M)
            · exact Or.inl c3
            · have hlt := mFr_lt hf
              exact Or.inr ⟨by omega, by omega⟩
          · exact i3 M (by omega) he
    · rw [if_neg c] at h
      obtain ⟨i1, i2, i3⟩ := ih vb h
      refine ⟨i1, i2, fun M hM he => ?_⟩
      by_cases cM : M = N
      · subst cM; exact absurd he c
      · exact i3 M (by omega) he
/-- .. as the class goes on -/
def mBet (o : Option (Int × Nat)) (u : Int) (R : Nat) : Option (Int × Nat) := match o with
  | none => some (u, R)
  | some vb => if u < vb.1 ∨ (u = vb.1 ∧ R < vb.2) then some (u, R) else some vb
def mFx (E : zT) : Nat → Option (Int × Nat)
  | 0 => none
  | N + 1 => if mEv (eN E) (mCnt (mOwn E (-1)) 8) (mDg (eN E) (mCnt (mOwn E (-1)) 8) (rvN (eN E) (mCnt (mOwn E (-1)) 8) N)) then mBet (mFx E N) (mUr E (mDg (eN E) (mCnt (mOwn E (-1)) 8) (rvN (eN E) (mCnt (mOwn E (-1)) 8) N))) (rvN (eN E) (mCnt (mOwn E (-1)) 8) N) else mFx E N
theorem mFx_t {E : zT} {N : Nat} (c : mEv (eN E) (mCnt (mOwn E (-1)) 8) (mDg (eN E) (mCnt (mOwn E (-1)) 8) (rvN (eN E) (mCnt (mOwn E (-1)) 8) N))) : mFx E (N + 1) = mBet (mFx E N) (mUr E (mDg (eN E) (mCnt (mOwn E (-1)) 8) (rvN (eN E) (mCnt (mOwn E (-1)) 8) N))) (rvN (eN E) (mCnt (mOwn E (-1)) 8) N) := by
  simp only [mFx]
  rw [if_pos c]
theorem mFx_f {E : zT} {N : Nat} (c : ¬ mEv (eN E) (mCnt (mOwn E (-1)) 8) (mDg (eN E) (mCnt (mOwn E (-1)) 8) (rvN (eN E) (mCnt (mOwn E (-1)) 8) N))) : mFx E (N + 1) = mFx E N := by
  simp only [mFx]
  rw [if_neg c]
theorem mBet_s {w : Int × Nat} {u : Int} {R : Nat} : mBet (some w) u R = if u < w.1 ∨ (u = w.1 ∧ R < w.2) then some (u, R) else some w := rfl
theorem mFx_m {E : zT} (hn : eN E = 2 ∨ eN E = 3) : ∀ N : Nat, (mFx E N = none → ∀ M, M < N → ¬ mEv (eN E) (mCnt (mOwn E (-1)) 8) (mDg (eN E) (mCnt (mOwn E (-1)) 8) (rvN (eN E) (mCnt (mOwn E (-1)) 8) M))) ∧ ∀ vb, mFx E N = some vb → vb.2 < eN E ^ mCnt (mOwn E (-1)) 8 ∧ mEv (eN E) (mCnt (mOwn E (-1)) 8) (mDg (eN E) (mCnt (mOwn E (-1)) 8) vb.2) ∧ vb.1 = mUr E (mDg (eN E) (mCnt (mOwn E (-1)) 8) vb.2) ∧ ∀ M, M < N → mEv (eN E) (mCnt (mOwn E (-1)) 8) (mDg (eN E) (mCnt (mOwn E (-1)) 8) (rvN (eN E) (mCnt (mOwn E (-1)) 8) M)) → vb.1 < mUr E (mDg (eN E) (mCnt (mOwn E (-1)) 8) (rvN (eN E) (mCnt (mOwn E (-1)) 8) M)) ∨ (vb.1 = mUr E (mDg (eN E) (mCnt (mOwn E (-1)) 8) (rvN (eN E) (mCnt (mOwn E (-1)) 8) M)) ∧ vb.2 ≤ rvN (eN E) (mCnt (mOwn E (-1)) 8) M) := by
  intro N
  induction N with
  | zero => exact ⟨fun _ M hM => absurd hM (Nat.not_lt_zero M), fun vb h => (by cases h)⟩
  | succ N ih =>
    by_cases c : mEv (eN E) (mCnt (mOwn E (-1)) 8) (mDg (eN E) (mCnt (mOwn E (-1)) 8) (rvN (eN E) (mCnt (mOwn E (-1)) 8) N))
    · rw [mFx_t c]
      have hlt := rvN_lt (p := mCnt (mOwn E (-1)) 8) (N := N) hn
      cases hf : mFx E N with
      | none =>
        refine ⟨fun h => (by cases h), fun vb h => ?_⟩
        cases h
        refine ⟨hlt, c, rfl, fun M hM he => ?_⟩
        by_cases cM : M = N
        · subst cM; exact Or.inr ⟨rfl, Nat.le_refl _⟩
        · exact absurd he (ih.1 hf M (by omega))
      | some w =>
        obtain ⟨i0, i1, i2, i3⟩ := ih.2 w hf
        rw [mBet_s]
        by_cases c2 : mUr E (mDg (eN E) (mCnt (mOwn E (-1)) 8) (rvN (eN E) (mCnt (mOwn E (-1)) 8) N)) < w.1 ∨ (mUr E (mDg (eN E) (mCnt (mOwn E (-1)) 8) (rvN (eN E) (mCnt (mOwn E (-1)) 8) N)) = w.1 ∧ rvN (eN E) (mCnt (mOwn E (-1)) 8) N < w.2)
        · rw [if_pos c2]
          refine ⟨fun h => (by cases h), fun vb h => ?_⟩
          cases h
          refine ⟨hlt, c, rfl, fun M hM he => ?_⟩
          by_cases cM : M = N
          · subst cM; exact Or.inr ⟨rfl, Nat.le_refl _⟩
          · have h5 := i3 M (by omega) he
            dsimp only
            omega
        · rw [if_neg c2]
          refine ⟨fun h => (by cases h), fun vb h => ?_⟩
          cases h
          refine ⟨i0, i1, i2, fun M hM he => ?_⟩
          by_cases cM : M = N
          · subst cM
            omega
          · exact i3 M (by omega) he
    · rw [mFx_f c]
      refine ⟨fun h M hM => ?_, fun vb h => ?_⟩
      · by_cases cM : M = N
        · rw [cM]; exact c
        · exact ih.1 h M (by omega)
      · obtain ⟨i0, i1, i2, i3⟩ := ih.2 vb h
        refine ⟨i0, i1, i2, fun M hM he => ?_⟩
        by_cases cM : M = N
        · subst cM; exact absurd he c
        · exact i3 M (by omega) he
theorem mFx_b {E : zT} (hW : zWF E) {N : Nat} {vb : Int × Nat} (h : mFx E N = some vb) : 0 ≤ vb.1 ∧ vb.1 ≤ 1584 ∧ vb.2 < eN E ^ mCnt (mOwn E (-1)) 8 := by
  obtain ⟨i0, -, i2, -⟩ := (mFx_m hW.1 N).2 vb h
  have hu := mUr_b hW (f := mDg (eN E) (mCnt (mOwn E (-1)) 8) vb.2) (fun k _ => mDg_lt hW.1)
  rw [i2]
  exact ⟨hu.1, hu.2, i0⟩
/-- both come to the same -/
theorem mFx_all {E : zT} (hW : zWF E) : mFx E (eN E ^ mCnt (mOwn E (-1)) 8) = mFr E (eN E ^ mCnt (mOwn E (-1)) 8) := by
  obtain ⟨vb, hvb⟩ := mFr_all hW
  obtain ⟨a1, a2, a3⟩ := mFr_m _ vb hvb
  have a4 := (mFr_b hW _ vb hvb).2.2
  have hx := mFx_m hW.1 (eN E ^ mCnt (mOwn E (-1)) 8)
  have hrv := rvN_rv hW.1 a4
  have hlt := rvN_lt (p := mCnt (mOwn E (-1)) 8) (N := vb.2) hW.1
  cases hf : mFx E (eN E ^ mCnt (mOwn E (-1)) 8) with
  | none =>
    have := hx.1 hf _ hlt
    rw [hrv] at this
    exact absurd a1 this
  | some wb =>
    obtain ⟨b0, b1, b2, b3⟩ := hx.2 wb hf
    have h1 := a3 wb.2 b0 b1
    have h2 := b3 _ hlt (by rw [hrv]; exact a1)
    rw [hrv] at h2
    rw [← b2] at h1
    rw [← a2] at h2
    rw [hvb]
    have e1 : wb.1 = vb.1 := by omega
    have e2 : wb.2 = vb.2 := by omega
    exact congrArg some (Prod.ext e1 e2)
/-- how far the least is -/
def zLs : Option (Int × Nat) → Int
  | none => 1000000
  | some vb => vb.1
section
variable {X : zX} {S : zx_S} {C : zx_C} {q : Int32 → zx_C → Prop} {e a : Nat} {D : zDD} {E : zT} {H : zH}
theorem lq131c (hS : zs_4 S e) {n p s : Nat} (hp : p ≤ 8) (hs : s < 3) {f : Nat → Nat} (hf3 : ∀ k, k < p → f k < 3) (hf : ∀ k, k < p → C.1 (e + 40) k = zi (f k)) {sh sh2 : Nat} (hsh : sh ≤ 8 ∧ sh2 ≤ 9) (z1 z4 : Value) (K1 : sh ≤ mCt f s p → mCt f s p ≤ sh2 → ∀ y8 y9 : Value, zW X 1 131 79 [.ref e, z1, .int (zi p), .int (zi n), z4, .int (zi sh), .int (zi sh2), .int (zi ((s + 1 : Nat) : Int)), y8, y9] [] S C (zQi q)) (K2 : ¬ (sh ≤ mCt f s p ∧ mCt f s p ≤ sh2) → q (zi 0) C) : ∀ (j i : Nat), i + j = p → zW X 1 131 91 [.ref e, z1, .int (zi p), .int (zi n), z4, .int (zi sh), .int (zi sh2), .int (zi s), .int (zi (mCt f s i)), .int (zi i)] [] S C (zQi q) := by
  intro j
  induction j with
  | zero =>
    intro i hi
    refine vc131_91 (a1 := 0) (a2 := 0) hS ?_
    have hc := mCt_le f s i
    rw [zlt_f (by omega), zlt_i (by omega), zlt_i (by omega), zi_s]
    rw [show p = i by omega] at K1 K2
    by_cases c1 : (mCt f s i : Int) < sh
    · rw [if_pos c1]
      exact K2 (by omega)
    · rw [if_neg c1]
      by_cases c2 : (sh2 : Int) < mCt f s i
      · rw [if_pos c2]
        exact K2 (by omega)
      · rw [if_neg c2]
        rw [show p = i by omega]
        exact K1 (by omega) (by omega) _ _
  | succ j ih =>
    intro i hi
    refine vc131_91 (a1 := 0) (a2 := 0) hS ?_
    have h3 := hf3 i (by omega)
    have ih2 := ih (i + 1) (by omega)
    simp only [mCt] at ih2
    rw [zlt_t (by omega), sp11 (za_4_12 hS) (by omega) (by omega) (by omega), Int.toNat_natCast, hf i (by omega), zeq_i (by omega), zi_s, zi_s, zi_0, zi_add, Int.add_zero]
    by_cases c : f i = s
    · rw [if_pos c] at ih2
      rw [if_pos (by omega)]
      exact ih2
    · rw [if_neg c] at ih2
      rw [if_neg (by omega)]
      exact ih2
theorem lq131b (hS : zs_4 S e) {n p : Nat} (hn : n = 2 ∨ n = 3) (hp : p ≤ 8) {f : Nat → Nat} (hf3 : ∀ k, k < p → f k < n) (hf : ∀ k, k < p → C.1 (e + 40) k = zi (f k)) (z1 z4 : Value) : ∀ (j s : Nat) (z8 z9 : Value), s + j = n → (∀ t, t < s → p / n ≤ mCt f t p ∧ mCt f t p ≤ (if p % n = 0 then p / n else p / n + 1)) → q (zb (mEv n p f)) C → zW X 1 131 79 [.ref e, z1, .int (zi p), .int (zi n), z4, .int (zi ((p / n : Nat) : Int)), .int (zi (((if p % n = 0 then p / n else p / n + 1) : Nat) : Int)), .int (zi s), z8, z9] [] S C (zQi q) := by
  intro j
  induction j with
  | zero =>
    intro s z8 z9 hs g1 hq
    refine vc131_79 (a1 := 0) (a2 := 0) hS ?_
    rw [zlt_f (by omega)]
    rw [zbT (fun t ht => g1 t (by omega))] at hq
    exact hq
  | succ j ih =>
    intro s z8 z9 hs g1 hq
    refine vc131_79 (a1 := 0) (a2 := 0) hS ?_
    have hd : p / n ≤ 8 := Nat.le_trans (Nat.div_le_self p n) hp
    rw [zlt_t (by omega)]
    refine lq131c hS hp (by omega) (fun k hk => by have := hf3 k hk; omega) hf ⟨hd, by split <;> omega⟩ _ _ (fun k1 k2 y8 y9 => ih (s + 1) y8 y9 (by omega) (fun t ht => ?_) hq) (fun k => ?_) p 0 (Nat.zero_add _)
    · by_cases c : t = s
      · subst c; exact ⟨k1, k2⟩
      · exact g1 t (by omega)
    · rw [zbF (fun h => k (h s (by omega)))] at hq
      exact hq
theorem lq131a (hS : zs_4 S e) {n p N : Nat} (hn : n = 2 ∨ n = 3) (hp : p ≤ 8) (hN : N < 100000) (z1 z6 z7 z8 z9 : Value) (K : ∀ (C1 : zx_C) (y4 : Value), (∀ k, k < p → C1.1 (e + 40) k = zi (mDg n p N (p - 1 - k))) → (∀ b k, b ≠ e + 40 → C1.1 b k = C.1 b k) → C1.2 = C.2 → zW X 1 131 79 [.ref e, z1, .int (zi p), .int (zi n), y4, .int (zi ((p / n : Nat) : Int)), .int (zi (((if p % n = 0 then p / n else p / n + 1) : Nat) : Int)), .int 0, z8, z9] [] S C1 (zQi q)) : ∀ (j i : Nat) (C0 : zx_C), i + j = p → (∀ k, k < i → C0.1 (e + 40) k = zi (mDg n p N (p - 1 - k))) → (∀ b k, b ≠ e + 40 → C0.1 b k = C.1 b k) → C0.2 = C.2 → zW X 1 131 23 [.ref e, z1, .int (zi p), .int (zi n), .int (zi ((N / n ^ i : Nat) : Int)), .int (zi i), z6, z7, z8, z9] [] S C0 (zQi q) := by
  have hne : ¬ zi (n : Int) = 0 := by
    rw [zi_0, zi_eq (by omega) (by omega) (by omega) (by omega)]; omega
  intro j
  induction j with
  | zero =>
    intro i C0 hj g1 g2 g3
    refine vc131_23 (a1 := 0) (a2 := 0) hS ?_
    have hd : p / n ≤ 8 := Nat.le_trans (Nat.div_le_self p n) hp
    rw [zlt_f (by omega), zi_div (by omega) (by omega) (by omega) (by omega), zi_mul, zi_sub, zi_em, ← Int.natCast_emod, ← Int.natCast_ediv, zi_s]
    refine ⟨hne, hne, ?_⟩
    have kk := K C0 (.int (zi ((N / n ^ i : Nat) : Int))) (fun k hk => g1 k (by omega)) g2 g3
    by_cases c : p % n = 0
    · rw [if_pos c] at kk
      rw [zi_0, zeq_t (by omega), ← zi_0]
      exact kk
    · rw [if_neg c] at kk
      have hlt : p % n < n := Nat.mod_lt _ (by omega)
      rw [zi_0, zeq_f (by omega), ← zi_0]
      exact kk
  | succ j ih =>
    intro i C0 hj g1 g2 g3
    refine vc131_23 (a1 := 0) (a2 := 0) hS ?_
    have hle : N / n ^ i ≤ N := Nat.div_le_self _ _
    have hnext : N / n ^ i / n = N / n ^ (i + 1) := by
      rw [Nat.div_div_eq_div_mul, ← Nat.pow_succ]
    obtain ⟨Q, hQ⟩ : ∃ Q, N / n ^ i = Q := ⟨_, rfl⟩
    rw [hQ] at hle hnext ⊢
    rw [zlt_t (by omega), zi_div (by omega) (by omega) (by omega) (by omega), zi_mul, zi_sub, zi_em, ← Int.natCast_emod, ← Int.natCast_ediv, hnext, sp12 (za_4_12 hS) (by omega) (by omega) (by omega), Int.toNat_natCast, zi_s]
    refine ⟨hne, hne, ?_⟩
    refine ih (i + 1) _ (by omega) (fun k h1 => ?_) (fun b k hb => by rw [zp_ne hb, g2 b k hb]) g3
    by_cases c : k = i
    · subst c
      rw [zp_hit]
      unfold mDg
      rw [show p - 1 - (p - 1 - k) = k by omega, hQ]
    · rw [zp_nf c]
      exact g1 k (by omega)
/-- spellOrder -/
theorem sp131 (hS : zs_4 S e) {n p N : Nat} (hn : n = 2 ∨ n = 3) (hp : p ≤ 8) (hN : N < 100000) (h0 : C.1 (e + 1) 0 = zi n) : zCd X 1 131 [.ref e, .int (zi N), .int (zi p)] S C (zQi (fun r C1 => r = zb (mEv n p (mDg n p (rvN n p N))) ∧ (∀ k, k < p → C1.1 (e + 40) k = zi (mDg n p (rvN n p N) k)) ∧ (∀ b k, b ≠ e + 40 → C1.1 b k = C.1 b k) ∧ C1.2 = C.2)) := by
  refine vc131 hS ?_
  have fin : zW X 1 131 23 [.ref e, .int (zi N), .int (zi p), .int (zi n), .int (zi N), .int 0, .retAddr 0, .retAddr 0, .retAddr 0, .retAddr 0] [] S C (zQi (fun r C1 => r = zb (mEv n p (mDg n p (rvN n p N))) ∧ (∀ k, k < p → C1.1 (e + 40) k = zi (mDg n p (rvN n p N) k)) ∧ (∀ b k, b ≠ e + 40 → C1.1 b k = C.1 b k) ∧ C1.2 = C.2)) := by
    have h := lq131a (X := X) (C := C) (q := fun r C1 => r = zb (mEv n p (mDg n p (rvN n p N))) ∧ (∀ k, k < p → C1.1 (e + 40) k = zi (mDg n p (rvN n p N) k)) ∧ (∀ b k, b ≠ e + 40 → C1.1 b k = C.1 b k) ∧ C1.2 = C.2) hS hn hp hN (.int (zi N)) (.retAddr 0) (.retAddr 0) (.retAddr 0) (.retAddr 0) (fun C1 y4 b1 b2 b3 => by
      have b1' : ∀ k, k < p → C1.1 (e + 40) k = zi (mDg n p (rvN n p N) k) := fun k hk => by rw [rvN_d hn hk]; exact b1 k hk
      exact lq131b hS hn hp (fun k _ => mDg_lt hn) b1' _ _ n 0 _ _ (Nat.zero_add _) (fun t ht => absurd ht (Nat.not_lt_zero t)) ⟨rfl, b1', b2, b3⟩) p 0 C (Nat.zero_add _) (fun k hk => absurd hk (Nat.not_lt_zero k)) (fun _ _ _ => rfl) rfl
    rw [show N / n ^ 0 = N by rw [Nat.pow_zero, Nat.div_one]] at h
    exact h
  rw [h0, zi_2, zlt_i (by omega), zi_3]
  rcases hn with hn | hn <;> subst hn
  · rw [if_neg (by omega)]; exact fin
  · rw [if_pos (by omega)]; exact fin
theorem lq256 {a1 a2 n p : Nat} (h1 : a1 < 900000 ∧ S.1 a1 = (10, 8)) (h2 : a2 < 900000 ∧ S.1 a2 = (10, 8)) (hn : n = 2 ∨ n = 3) (hp : p ≤ 8) {f g : Nat → Nat} (hf : ∀ k, k < p → f k < n ∧ C.1 a1 k = zi (f k)) (hg : ∀ k, k < p → g k < n ∧ C.1 a2 k = zi (g k)) : ∀ (j i : Nat), i + j = p → (∀ k, k < i → f k = g k) → q (zb (mV n f p < mV n g p)) C → zW X 1 256 2 [.ref a1, .ref a2, .int (zi p), .int (zi i)] [] S C (zQi q) := by
  intro j
  induction j with
  | zero =>
    intro i hi he hq
    refine vc256_2 (a3 := 0) h1 h2 ?_
    rw [zlt_f (by omega)]
    rw [zbF (by rw [mV_c p (fun k hk => he k (by omega))]; exact Nat.lt_irrefl _)] at hq
    exact hq
  | succ j ih =>
    intro i hi he hq
    refine vc256_2 (a3 := 0) h1 h2 ?_
    have f1 := hf i (by omega)
    have g1 := hg i (by omega)
    rw [zlt_t (by omega), sp11 h1 (by omega) (by omega) (by omega), sp11 h2 (by omega) (by omega) (by omega), Int.toNat_natCast, f1.2, g1.2, zeq_i (by omega), zi_s]
    by_cases c : f i = g i
    · rw [if_pos (by omega)]
      refine ih (i + 1) (by omega) (fun k hk => ?_) hq
      by_cases ck : k = i
      · rw [ck]; exact c
      · exact he k (by omega)
    · rw [if_neg (by omega), sp11 h1 (by omega) (by omega) (by omega), sp11 h2 (by omega) (by omega) (by omega), Int.toNat_natCast, f1.2, g1.2, zlt_i (by omega)]
      by_cases c2 : f i < g i
      · rw [if_pos (by omega)]
        have h3 := mV_lx (n := n) he c2 (p - (i + 1)) (fun k hk => ⟨(hf k (by omega)).1, (hg k (by omega)).1⟩)
        rw [show i + 1 + (p - (i + 1)) = p by omega] at h3
        rw [zbT h3] at hq
        exact hq
      · rw [if_neg (by omega)]
        have h3 := mV_lx (n := n) (fun k hk => (he k hk).symm) (show g i < f i by omega) (p - (i + 1)) (fun k hk => ⟨(hg k (by omega)).1, (hf k (by omega)).1⟩)
        rw [show i + 1 + (p - (i + 1)) = p by omega] at h3
        rw [zbF (by omega)] at hq
        exact hq
/-- isBefore -/
theorem sp256 {a1 a2 n p P R : Nat} (h1 : a1 < 900000 ∧ S.1 a1 = (10, 8)) (h2 : a2 < 900000 ∧ S.1 a2 = (10, 8)) (hn : n = 2 ∨ n = 3) (hp : p ≤ 8) (hP : P < n ^ p) (hR : R < n ^ p) (hf : ∀ k, k < p → C.1 a1 k = zi (mDg n p P k)) (hg : ∀ k, k < p → C.1 a2 k = zi (mDg n p R k)) : zCd X 1 256 [.ref a1, .ref a2, .int (zi p)] S C (zQi q) = q (zb (P < R)) C := by
  refine zc_eI (fun q h => vc256 h1 h2 ?_) q
  refine lq256 h1 h2 hn hp (fun k hk => ⟨mDg_lt hn, hf k hk⟩) (fun k hk => ⟨mDg_lt hn, hg k hk⟩) p 0 (Nat.zero_add _) (fun k hk => absurd hk (Nat.not_lt_zero k)) ?_
  rw [show zb (mV n (mDg n p P) p < mV n (mDg n p R) p) = zb (P < R) by
    unfold zb
    rw [mV_Dg hn p P hP, mV_Dg hn p R hR]]
  exact h
end
