/-! PICKS: the mathematics of choosing -/
/-- the best by a comparing -/
def mArg (lt : Nat → Nat → Bool) (m : Nat) : Nat → Option Nat
  | 0 => none
  | n + 1 => if m.testBit n = true then (match mArg lt m n with
    | none => some n
    | some b => if lt b n = true then some n else some b) else mArg lt m n
def zo : Option Nat → Int
  | none => -1
  | some k => (k : Int)
theorem mArg_in {lt : Nat → Nat → Bool} {m : Nat} : ∀ n b : Nat, mArg lt m n = some b → b < n ∧ m.testBit b = true := by
  intro n
  induction n with
  | zero => intro b h; cases h
  | succ n ih =>
    intro b h
    simp only [mArg] at h
    by_cases hb : m.testBit n = true
    · rw [if_pos hb] at h
      cases hc : mArg lt m n with
      | none => rw [hc] at h; cases h; exact ⟨Nat.lt_succ_self _, hb⟩
      | some c =>
        rw [hc] at h
        have hi := ih c hc
        dsimp only at h
        by_cases hl : lt c n = true
        · rw [if_pos hl] at h; cases h; exact ⟨Nat.lt_succ_self _, hb⟩
        · rw [if_neg hl] at h; cases h; exact ⟨Nat.lt_succ_of_lt hi.1, hi.2⟩
    · rw [if_neg hb] at h
      have hi := ih b h
      exact ⟨Nat.lt_succ_of_lt hi.1, hi.2⟩
theorem mArg_no {lt : Nat → Nat → Bool} {m : Nat} : ∀ n : Nat, mArg lt m n = none → ∀ k, k < n → m.testBit k = false := by
  intro n
  induction n with
  | zero => intro _ k hk; exact absurd hk (Nat.not_lt_zero k)
  | succ n ih =>
    intro h k hk
    simp only [mArg] at h
    by_cases hb : m.testBit n = true
    · rw [if_pos hb] at h
      cases hc : mArg lt m n with
      | none => rw [hc] at h; cases h
      | some c =>
        rw [hc] at h
        dsimp only at h
        by_cases hl : lt c n = true
        · rw [if_pos hl] at h; cases h
        · rw [if_neg hl] at h; cases h
    · rw [if_neg hb] at h
      by_cases hkn : k = n
      · subst hkn; exact Bool.eq_false_iff.mpr hb
      · exact ih h k (by omega)
theorem mArg_c {lt lt' : Nat → Nat → Bool} {m : Nat} : ∀ n : Nat, (∀ b k, b < k → k < n → m.testBit b = true → m.testBit k = true → lt b k = lt' b k) → mArg lt m n = mArg lt' m n := by
  intro n
  induction n with
  | zero => intro _; rfl
  | succ n ih =>
    intro h
    have hi := ih (fun b k hb hk => h b k hb (Nat.lt_succ_of_lt hk))
    simp only [mArg]
    rw [hi]
    by_cases hb : m.testBit n = true
    · rw [if_pos hb, if_pos hb]
      cases hc : mArg lt' m n with
      | none => rfl
      | some c =>
        have hin := mArg_in n c hc
        dsimp only
        rw [h c n hin.1 (Nat.lt_succ_self n) hin.2 hb]
    · rw [if_neg hb, if_neg hb]
theorem mArg_ext {lt : Nat → Nat → Bool} {m t : Nat} (h : m < 2 ^ t) : ∀ j : Nat, mArg lt m (t + j) = mArg lt m t := by
  intro j
  induction j with
  | zero => rfl
  | succ j ih =>
    show (if m.testBit (t + j) = true then _ else mArg lt m (t + j)) = _
    have h2 : m < 2 ^ (t + j) := Nat.lt_of_lt_of_le h (Nat.pow_le_pow_right (by decide) (Nat.le_add_right t j))
    rw [Nat.testBit_lt_two_pow h2, if_neg (by decide), ih]
theorem mArg_8 {lt : Nat → Nat → Bool} {m t : Nat} (h : m < 2 ^ t) (ht : t ≤ 8) : mArg lt m 8 = mArg lt m t := by
  have := mArg_ext (lt := lt) h (8 - t)
  rwa [show t + (8 - t) = 8 by omega] at this
theorem mArg_first {m k : Nat} (hb : m.testBit k = true) (h : ∀ j, j < k → m.testBit j = false) : ∀ n, k < n → mArg (fun _ _ => false) m n = some k := by
  have h0 : ∀ n, n ≤ k → mArg (fun _ _ => false) m n = none := by
    intro n
    induction n with
    | zero => intro _; rfl
    | succ n ih =>
      intro hn
      simp only [mArg]
      rw [h n (by omega), if_neg (by decide)]
      exact ih (by omega)
  intro n
  induction n with
  | zero => intro hk; omega
  | succ n ih =>
    intro hk
    simp only [mArg]
    by_cases hkn : k = n
    · subst hkn
      rw [if_pos hb, h0 k (Nat.le_refl k)]
    · rw [ih (by omega)]
      split <;> rfl
theorem mArg_last {m k n : Nat} (hb : m.testBit k = true) (hk : k < n) (h : ∀ j, k < j → j < n → m.testBit j = false) : mArg (fun _ _ => true) m n = some k := by
  have h1 : mArg (fun _ _ => true) m (k + 1) = some k := by
    simp only [mArg]
    rw [if_pos hb]
    cases mArg (fun _ _ => true) m k with
    | none => rfl
    | some c => rfl
  have h2 : ∀ j, k + 1 + j ≤ n → mArg (fun _ _ => true) m (k + 1 + j) = some k := by
    intro j
    induction j with
    | zero => intro _; exact h1
    | succ j ih =>
      intro hj
      show (if m.testBit (k + 1 + j) = true then _ else mArg (fun _ _ => true) m (k + 1 + j)) = _
      rw [h (k + 1 + j) (by omega) (by omega), if_neg (by decide)]
      exact ih (by omega)
  have := h2 (n - (k + 1)) (by omega)
  rwa [show k + 1 + (n - (k + 1)) = n by omega] at this
theorem mArg_some {lt : Nat → Nat → Bool} {m : Nat} (hm : m < 256) (h0 : m ≠ 0) : ∃ k, mArg lt m 8 = some k ∧ k < 8 ∧ m.testBit k = true := by
  cases hc : mArg lt m 8 with
  | none =>
    exfalso
    refine h0 (Nat.eq_of_testBit_eq fun k => ?_)
    rw [Nat.zero_testBit]
    by_cases hk : k < 8
    · exact mArg_no 8 hc k hk
    · exact Nat.testBit_lt_two_pow (Nat.lt_of_lt_of_le hm (Nat.pow_le_pow_right (n := 2) (i := 8) (by decide) (by omega)))
  | some k => exact ⟨k, rfl, mArg_in 8 k hc⟩
def ltf (f : Nat → Int) : Nat → Nat → Bool := fun b n => decide (f b < f n)
def mTop (f : Nat → Int) : Option Nat → Int
  | none => -1
  | some b => f b
def mGr (f : Nat → Int) (m : Nat) : Option Nat := mArg (ltf f) m 8
theorem mGr_s {f : Nat → Int} {m n : Nat} (hb : m.testBit n = true) (h0 : 0 ≤ f n) : mArg (ltf f) m (n + 1) = if mTop f (mArg (ltf f) m n) < f n then some n else mArg (ltf f) m n := by
  simp only [mArg]
  rw [if_pos hb]
  cases mArg (ltf f) m n with
  | none =>
    show some n = if (-1 : Int) < f n then some n else none
    rw [if_pos (by omega)]
  | some b =>
    show (if decide (f b < f n) = true then some n else some b) = if f b < f n then some n else some b
    simp only [decide_eq_true_eq]
theorem mArg_n {lt : Nat → Nat → Bool} {m n : Nat} (hb : ¬ m.testBit n = true) : mArg lt m (n + 1) = mArg lt m n := by
  simp only [mArg]
  rw [if_neg hb]
theorem mGr_c {f g : Nat → Int} {m : Nat} (h : ∀ k, k < 8 → m.testBit k = true → f k = g k) : mGr f m = mGr g m :=
  mArg_c 8 (fun b k hb hk h1 h2 => by unfold ltf; rw [h b (by omega) h1, h k hk h2])
/-- counts -/
theorem mCnt_wo0 : ∀ m : Fin 256, ∀ k : Fin 8, m.val.testBit k.val = true → mCnt (wo m.val k.val) 8 + 1 = mCnt m.val 8 := by decide +kernel
theorem mCnt_wo {m k : Nat} (hm : m < 256) (hk : k < 8) (hb : m.testBit k = true) : mCnt (wo m k) 8 + 1 = mCnt m 8 := mCnt_wo0 ⟨m, hm⟩ ⟨k, hk⟩ hb
theorem mCnt_z : mCnt 0 8 = 0 := by decide
theorem mCnt_p0 : ∀ m : Fin 256, m.val ≠ 0 → 0 < mCnt m.val 8 := by decide +kernel
theorem mCnt_p {m : Nat} (hm : m < 256) (h0 : m ≠ 0) : 0 < mCnt m 8 := mCnt_p0 ⟨m, hm⟩ h0
theorem mCnt_e {m : Nat} (hm : m < 256) (h0 : mCnt m 8 = 0) : m = 0 := by
  by_cases h : m = 0
  · exact h
  · have := mCnt_p hm h; omega
def mSub (a b : Nat) : Prop := ∀ j, a.testBit j = true → b.testBit j = true
theorem mSub_r (a : Nat) : mSub a a := fun _ h => h
theorem mSub_t {a b c : Nat} (h1 : mSub a b) (h2 : mSub b c) : mSub a c := fun j h => h2 j (h1 j h)
theorem mSub_wo {m k : Nat} (hm : m < 256) (hk : k < 8) : mSub (wo m k) m := by
  intro j h
  by_cases hj : j < 8
  · rw [wo_bit hm hk hj] at h
    exact (Bool.and_eq_true_iff.mp h).1
  · have h2 : wo m k < 2 ^ j := Nat.lt_of_le_of_lt (wo_le m k) (Nat.lt_of_lt_of_le hm (Nat.pow_le_pow_right (n := 2) (i := 8) (by decide) (by omega)))
    rw [Nat.testBit_lt_two_pow h2] at h; cases h
theorem mSub_cnt {a b : Nat} (h : mSub a b) : ∀ n, mCnt a n ≤ mCnt b n := by
  intro n
  induction n with
  | zero => exact Nat.le_refl 0
  | succ n ih =>
    simp only [mCnt]
    by_cases ha : a.testBit n = true
    · rw [if_pos ha, if_pos (h n ha)]; omega
    · rw [if_neg ha]; omega
theorem mSub_le {a b : Nat} (h : mSub a b) : a ≤ b := by
  have : a &&& b = a := by
    refine Nat.eq_of_testBit_eq fun j => ?_
    rw [Nat.testBit_and]
    by_cases ha : a.testBit j = true
    · rw [ha, h j ha]; rfl
    · rw [Bool.eq_false_iff.mpr ha]; rfl
  rw [← this]
  exact Nat.and_le_right
theorem mSub_and {a b : Nat} : (a &&& b = a) ↔ mSub a b := by
  constructor
  · intro h j ha
    rw [← h, Nat.testBit_and] at ha
    exact (Bool.and_eq_true_iff.mp ha).2
  · intro h
    refine Nat.eq_of_testBit_eq fun j => ?_
    rw [Nat.testBit_and]
    by_cases ha : a.testBit j = true
    · rw [ha, h j ha]; rfl
    · rw [Bool.eq_false_iff.mpr ha]; rfl
theorem mSub_0 (b : Nat) : mSub 0 b := fun j h => by rw [Nat.zero_testBit] at h; cases h
/-- the next other side -/
def mRiv (W : Nat → Nat) (s : Nat) : Nat → Nat → Option Nat
  | 0, _ => none
  | f + 1, i => if W i = s then mRiv W s f (i + 1) else some (W i)
/-- what choosers go by: (sides, things, what's left at first, how many turns are known), worths, bents, turns -/
abbrev zD := (Nat × Nat × Nat × Nat) × (Nat → Nat → Int) × (Nat → Int) × (Nat → Nat)
abbrev dN (M : zD) : Nat := M.1.1
abbrev dT (M : zD) : Nat := M.1.2.1
abbrev dL (M : zD) : Nat := M.1.2.2.1
abbrev dC (M : zD) : Nat := M.1.2.2.2
abbrev dU (M : zD) : Nat → Nat → Int := M.2.1
abbrev dB (M : zD) : Nat → Int := M.2.2.1
abbrev dW (M : zD) : Nat → Nat := M.2.2.2
def zWD (M : zD) : Prop := (dN M = 2 ∨ dN M = 3) ∧ dT M ≤ 8 ∧ dL M < 2 ^ dT M ∧ (dC M ≤ 32 ∧ mCnt (dL M) 8 ≤ dC M) ∧ (∀ i, i < dC M → dW M i < dN M) ∧ (∀ s, s < 3 → 0 ≤ dB M s ∧ dB M s ≤ 5) ∧ ∀ s k, s < dN M → k < dT M → 0 ≤ dU M s k ∧ dU M s k ≤ 99
def mTurn (M : zD) (m : Nat) : Nat := mCnt (dL M) 8 - mCnt m 8
def mRv (M : zD) (s i : Nat) : Option Nat := mRiv (dW M) s (min (dC M) (i + 25) - (i + 1)) (i + 1)
def mSpo (M : zD) (s r : Nat) : Nat → Nat → Bool := fun b n => decide (dU M r b < dU M r n ∨ (dU M r b = dU M r n ∧ dU M s b < dU M s n))
def mLea (M : zD) (r : Nat) : Nat → Nat → Bool := fun b n => decide (dU M r n ≤ dU M r b)
def mWait (M : zD) (s r m : Nat) : Option Nat := if 1 < mCnt m 8 then (match mArg (mLea M r) m 8 with
    | none => mGr (dU M s) m
    | some x => mGr (dU M s) (wo m x)) else mGr (dU M s) m
def mBlind (M : zD) (s : Nat) (b : Int) (m : Nat) : Option Nat :=
  if b = 0 then mArg (fun _ _ => false) m 8 else if b = 4 then mArg (fun _ _ => true) m 8
  else if b = 2 then (match mRv M s (mTurn M m) with
    | none => mGr (dU M s) m
    | some r => mArg (mSpo M s r) m 8)
  else if b = 3 then (match mRv M s (mTurn M m) with
    | none => mGr (dU M s) m
    | some r => mWait M s r m)
  else mGr (dU M s) m
def mBB (M : zD) (s : Nat) : Int := if dB M s = 5 then 1 else dB M s
/-- what one who looks still gets -/
def mStl (M : zD) (s : Nat) : Nat → Nat → Int
  | 0, _ => 0
  | f + 1, m => if dW M (mTurn M m) = s then (match mGr (fun k => dU M s k + mStl M s f (wo m k)) m with
      | none => 0
      | some k => dU M s k + mStl M s f (wo m k))
    else (match mBlind M (dW M (mTurn M m)) (mBB M (dW M (mTurn M m))) m with
      | none => 0
      | some k => mStl M s f (wo m k))
def mSt (M : zD) (s m : Nat) : Int := mStl M s (mCnt m 8) m
def mLook (M : zD) (s m : Nat) : Option Nat := mGr (fun k => dU M s k + mSt M s (wo m k)) m
def mChoose (M : zD) (s : Nat) (b : Int) (m : Nat) : Option Nat := if b = 5 then mLook M s m else mBlind M s b m
theorem mSt_z (M : zD) (s : Nat) : mSt M s 0 = 0 := by
  unfold mSt
  rw [mCnt_z]
  rfl
theorem mBlind_in {M : zD} {s : Nat} {b : Int} {m k : Nat} (hm : m < 256) (h : mBlind M s b m = some k) : k < 8 ∧ m.testBit k = true := by
  unfold mBlind at h
  by_cases c0 : b = 0
  · rw [if_pos c0] at h; exact mArg_in 8 k h
  · rw [if_neg c0] at h
    by_cases c4 : b = 4
    · rw [if_pos c4] at h; exact mArg_in 8 k h
    · rw [if_neg c4] at h
      by_cases c2 : b = 2
      · rw [if_pos c2] at h
        cases hr : mRv M s (mTurn M m) with
        | none => rw [hr] at h; exact mArg_in 8 k h
        | some r => rw [hr] at h; exact mArg_in 8 k h
      · rw [if_neg c2] at h
        by_cases c3 : b = 3
        · rw [if_pos c3] at h
          cases hr : mRv M s (mTurn M m) with
          | none => rw [hr] at h; exact mArg_in 8 k h
          | some r =>
            rw [hr] at h
            dsimp only at h
            unfold mWait at h
            by_cases c5 : 1 < mCnt m 8
            · rw [if_pos c5] at h
              cases hx : mArg (mLea M r) m 8 with
              | none => rw [hx] at h; exact mArg_in 8 k h
              | some x =>
                rw [hx] at h
                have hx2 := mArg_in 8 x hx
                have h2 := mArg_in 8 k h
                exact ⟨h2.1, mSub_wo hm hx2.1 k h2.2⟩
            · rw [if_neg c5] at h; exact mArg_in 8 k h
        · rw [if_neg c3] at h; exact mArg_in 8 k h
theorem wo_z {m k : Nat} (hm : m < 256) (hk : k < 8) (hb : m.testBit k = true) (h : 1 < mCnt m 8) : wo m k ≠ 0 := by
  intro h0
  have := mCnt_wo hm hk hb
  rw [h0, mCnt_z] at this
  omega
theorem mBlind_some {M : zD} {s : Nat} {b : Int} {m : Nat} (hm : m < 256) (h0 : m ≠ 0) : ∃ k, mBlind M s b m = some k ∧ k < 8 ∧ m.testBit k = true := by
  cases hk : mBlind M s b m with
  | some k => exact ⟨k, rfl, mBlind_in hm hk⟩
  | none =>
    exfalso
    have hs : ∀ lt : Nat → Nat → Bool, mArg lt m 8 ≠ none := fun lt q => by
      obtain ⟨k, h1, -⟩ := mArg_some (lt := lt) hm h0
      rw [h1] at q; cases q
    unfold mBlind at hk
    by_cases c0 : b = 0
    · rw [if_pos c0] at hk; exact hs _ hk
    · rw [if_neg c0] at hk
      by_cases c4 : b = 4
      · rw [if_pos c4] at hk; exact hs _ hk
      · rw [if_neg c4] at hk
        by_cases c2 : b = 2
        · rw [if_pos c2] at hk
          cases hr : mRv M s (mTurn M m) with
          | none => rw [hr] at hk; exact hs _ hk
          | some r => rw [hr] at hk; exact hs _ hk
        · rw [if_neg c2] at hk
          by_cases c3 : b = 3
          · rw [if_pos c3] at hk
            cases hr : mRv M s (mTurn M m) with
            | none => rw [hr] at hk; exact hs _ hk
            | some r =>
              rw [hr] at hk
              dsimp only at hk
              unfold mWait at hk
              by_cases c5 : 1 < mCnt m 8
              · rw [if_pos c5] at hk
                cases hx : mArg (mLea M r) m 8 with
                | none => exact hs _ hx
                | some x =>
                  rw [hx] at hk
                  have hx2 := mArg_in 8 x hx
                  obtain ⟨k, h1, -⟩ := mArg_some (lt := ltf (dU M s)) (Nat.lt_of_le_of_lt (wo_le m x) hm) (wo_z hm hx2.1 hx2.2 c5)
                  dsimp only at hk
                  unfold mGr at hk
                  rw [h1] at hk; cases hk
              · rw [if_neg c5] at hk; exact hs _ hk
          · rw [if_neg c3] at hk; exact hs _ hk
theorem mLook_in {M : zD} {s m k : Nat} (h : mLook M s m = some k) : k < 8 ∧ m.testBit k = true := mArg_in 8 k h
theorem mChoose_in {M : zD} {s : Nat} {b : Int} {m k : Nat} (hm : m < 256) (h : mChoose M s b m = some k) : k < 8 ∧ m.testBit k = true := by
  unfold mChoose at h
  by_cases c : b = 5
  · rw [if_pos c] at h; exact mLook_in h
  · rw [if_neg c] at h; exact mBlind_in hm h
theorem mChoose_some {M : zD} {s : Nat} {b : Int} {m : Nat} (hm : m < 256) (h0 : m ≠ 0) : ∃ k, mChoose M s b m = some k ∧ k < 8 ∧ m.testBit k = true := by
  unfold mChoose
  by_cases c : b = 5
  · rw [if_pos c]; exact mArg_some hm h0
  · rw [if_neg c]; exact mBlind_some hm h0
theorem mSt_s {M : zD} {s m : Nat} (hm : m < 256) (h0 : m ≠ 0) : mSt M s m = if dW M (mTurn M m) = s then (match mLook M s m with
      | none => 0
      | some k => dU M s k + mSt M s (wo m k))
    else (match mBlind M (dW M (mTurn M m)) (mBB M (dW M (mTurn M m))) m with
      | none => 0
      | some k => mSt M s (wo m k)) := by
  have hp := mCnt_p hm h0
  obtain ⟨f, hf⟩ : ∃ f, mCnt m 8 = f + 1 := ⟨mCnt m 8 - 1, by omega⟩
  have hw : ∀ k, k < 8 → m.testBit k = true → mCnt (wo m k) 8 = f := fun k hk hb => by have := mCnt_wo hm hk hb; omega
  have hl : mGr (fun k => dU M s k + mStl M s f (wo m k)) m = mLook M s m := mGr_c (fun k hk hb => by
    show dU M s k + mStl M s f (wo m k) = dU M s k + mSt M s (wo m k)
    unfold mSt
    rw [hw k hk hb])
  have h1 : mSt M s m = mStl M s (f + 1) m := by unfold mSt; rw [hf]
  rw [h1]
  simp only [mStl]
  rw [hl]
  by_cases c : dW M (mTurn M m) = s
  · rw [if_pos c, if_pos c]
    cases hk : mLook M s m with
    | none => rfl
    | some k =>
      have := mLook_in hk
      dsimp only
      unfold mSt
      rw [hw k this.1 this.2]
  · rw [if_neg c, if_neg c]
    cases hk : mBlind M (dW M (mTurn M m)) (mBB M (dW M (mTurn M m))) m with
    | none => rfl
    | some k =>
      have := mBlind_in hm hk
      dsimp only
      unfold mSt
      rw [hw k this.1 this.2]
theorem bit_lt {m t k : Nat} (hm : m < 2 ^ t) (hb : m.testBit k = true) : k < t := by
  refine Nat.lt_of_not_le fun h => ?_
  rw [Nat.testBit_lt_two_pow (Nat.lt_of_lt_of_le hm (Nat.pow_le_pow_right (by decide) h))] at hb
  cases hb
theorem pow_256 {m t : Nat} (hm : m < 2 ^ t) (ht : t ≤ 8) : m < 256 := Nat.lt_of_lt_of_le hm (Nat.pow_le_pow_right (n := 2) (j := 8) (by decide) ht)
theorem mStl_b {M : zD} (hM : zWD M) {s : Nat} (hs : s < dN M) : ∀ f m : Nat, m < 2 ^ dT M → 0 ≤ mStl M s f m ∧ mStl M s f m ≤ 99 * f := by
  intro f
  induction f with
  | zero => intro m _; exact ⟨Int.le_refl 0, Int.le_refl 0⟩
  | succ f ih =>
    intro m hm
    have hm2 := pow_256 hm hM.2.1
    simp only [mStl]
    by_cases c : dW M (mTurn M m) = s
    · rw [if_pos c]
      split
      · omega
      · next k hk =>
        have h1 := mArg_in 8 k hk
        have h2 := ih (wo m k) (Nat.lt_of_le_of_lt (wo_le m k) hm)
        have h3 := hM.2.2.2.2.2.2 s k hs (bit_lt hm h1.2)
        omega
    · rw [if_neg c]
      split
      · omega
      · next k hk =>
        have h2 := ih (wo m k) (Nat.lt_of_le_of_lt (wo_le m k) hm)
        omega
theorem mSt_b {M : zD} (hM : zWD M) {s m : Nat} (hs : s < dN M) (hm : m < 2 ^ dT M) : 0 ≤ mSt M s m ∧ mSt M s m ≤ 792 := by
  have h1 := mStl_b hM hs (mCnt m 8) m hm
  have h2 := mCnt_le m 8
  unfold mSt
  omega
theorem bz_sub0 : ∀ a b : Fin 256, (zi (a.val : Nat) &&& (zi (b.val : Nat) ^^^ (-1)) = zi 0) ↔ a.val &&& b.val = a.val := by decide +kernel
theorem bz_sub {a b : Nat} (ha : a < 256) (hb : b < 256) : (zi a &&& (zi b ^^^ (-1)) = zi 0) ↔ mSub a b := (bz_sub0 ⟨a, ha⟩ ⟨b, hb⟩).trans mSub_and
