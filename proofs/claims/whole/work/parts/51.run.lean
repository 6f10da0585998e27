/-! A RUN -/
def mRun (ch : Nat → Nat → Option Nat) (M : zD) : Nat → Nat
  | 0 => dL M
  | i + 1 => match ch (dW M i) (mRun ch M i) with
    | none => mRun ch M i
    | some k => wo (mRun ch M i) k
def mTak (ch : Nat → Nat → Option Nat) (M : zD) (i : Nat) : Option Nat := ch (dW M i) (mRun ch M i)
def mWon (ch : Nat → Nat → Option Nat) (M : zD) (s i : Nat) : Int := match mTak ch M i with
  | none => 0
  | some k => if dW M i = s then dU M s k else 0
def mEnd (ch : Nat → Nat → Option Nat) (M : zD) (G : Nat → Int) (s n : Nat) : Int := G s + zsum (mWon ch M s) n
/-- who chooses by what -/
def mCh (M1 M2 : zD) (one : Int) (s m : Nat) : Option Nat := mChoose (if (s : Int) = one then M1 else M2) s (dB M1 s) m
theorem mCh_some {M1 M2 : zD} {one : Int} {s m : Nat} (hm : m < 256) (h0 : m ≠ 0) : ∃ k, mCh M1 M2 one s m = some k ∧ k < 8 ∧ m.testBit k = true := mChoose_some hm h0
theorem mRun_ok {ch : Nat → Nat → Option Nat} {M : zD} (hD : zWD M) (hch : ∀ s m, m < 256 → m ≠ 0 → ∃ k, ch s m = some k ∧ k < 8 ∧ m.testBit k = true) : ∀ i, i ≤ mCnt (dL M) 8 → mSub (mRun ch M i) (dL M) ∧ mCnt (mRun ch M i) 8 + i = mCnt (dL M) 8 := by
  intro i
  induction i with
  | zero => intro _; exact ⟨mSub_r _, rfl⟩
  | succ i ih =>
    intro hi
    have h1 := ih (by omega)
    have hm : mRun ch M i < 256 := pow_256 (Nat.lt_of_le_of_lt (mSub_le h1.1) hD.2.2.1) hD.2.1
    have h0 : mRun ch M i ≠ 0 := fun q => by rw [q, mCnt_z] at h1; omega
    obtain ⟨k, hk, hk8, hkb⟩ := hch (dW M i) (mRun ch M i) hm h0
    simp only [mRun]
    rw [hk]
    have h2 := mCnt_wo hm hk8 hkb
    exact ⟨mSub_t (mSub_wo hm hk8) h1.1, by show mCnt (wo (mRun ch M i) k) 8 + (i + 1) = _; omega⟩
theorem mTak_ok {ch : Nat → Nat → Option Nat} {M : zD} (hD : zWD M) (hch : ∀ s m, m < 256 → m ≠ 0 → ∃ k, ch s m = some k ∧ k < 8 ∧ m.testBit k = true) {i : Nat} (hi : i < mCnt (dL M) 8) : ∃ k, mTak ch M i = some k ∧ k < dT M ∧ (mRun ch M i).testBit k = true ∧ mRun ch M (i + 1) = wo (mRun ch M i) k := by
  have h1 := mRun_ok hD hch i (by omega)
  have hmT : mRun ch M i < 2 ^ dT M := Nat.lt_of_le_of_lt (mSub_le h1.1) hD.2.2.1
  have h0 : mRun ch M i ≠ 0 := fun q => by rw [q, mCnt_z] at h1; omega
  obtain ⟨k, hk, hk8, hkb⟩ := hch (dW M i) (mRun ch M i) (pow_256 hmT hD.2.1) h0
  refine ⟨k, hk, bit_lt hmT hkb, hkb, ?_⟩
  simp only [mRun]
  rw [hk]
theorem mWon_b {ch : Nat → Nat → Option Nat} {M : zD} (hD : zWD M) (hch : ∀ s m, m < 256 → m ≠ 0 → ∃ k, ch s m = some k ∧ k < 8 ∧ m.testBit k = true) {s i : Nat} (hi : i < mCnt (dL M) 8) : 0 ≤ mWon ch M s i ∧ mWon ch M s i ≤ 99 := by
  obtain ⟨k, hk, hkT, -⟩ := mTak_ok hD hch hi
  have hC := hD.2.2.2.1
  have hw := hD.2.2.2.2.1 i (by omega)
  unfold mWon
  rw [hk]
  show 0 ≤ (if dW M i = s then dU M s k else 0) ∧ (if dW M i = s then dU M s k else 0) ≤ 99
  by_cases c : dW M i = s
  · rw [if_pos c]
    exact hD.2.2.2.2.2.2 s k (by omega) hkT
  · rw [if_neg c]; omega
theorem zsum_b2 {f : Nat → Int} {a : Int} : ∀ n : Nat, (∀ k, k < n → 0 ≤ f k ∧ f k ≤ a) → 0 ≤ zsum f n ∧ zsum f n ≤ n * a := by
  intro n
  induction n with
  | zero => intro _; simp [zsum]
  | succ n ih =>
    intro h
    have h1 := h n (by omega)
    have h3 := ih (fun k hk => h k (by omega))
    have h2 : ((n + 1 : Nat) : Int) * a = n * a + a := by rw [Int.natCast_add, Int.add_mul]; simp
    simp only [zsum]
    omega
theorem mEnd_b {ch : Nat → Nat → Option Nat} {M : zD} {G : Nat → Int} (hD : zWD M) (hch : ∀ s m, m < 256 → m ≠ 0 → ∃ k, ch s m = some k ∧ k < 8 ∧ m.testBit k = true) {s : Nat} (hG : 0 ≤ G s ∧ G s ≤ 792) : 0 ≤ mEnd ch M G s (mCnt (dL M) 8) ∧ mEnd ch M G s (mCnt (dL M) 8) ≤ 1584 := by
  have h1 := zsum_b2 (f := mWon ch M s) (a := 99) (mCnt (dL M) 8) (fun k hk => mWon_b hD hch hk)
  have h2 := mCnt_le (dL M) 8
  unfold mEnd
  omega
theorem mHas_b {E : zT} (hW : zWF E) {s : Nat} : 0 ≤ mHas E s ∧ mHas E s ≤ 792 := by
  have h1 := zsum_b2 (f := fun k => if ew E k = s then eu E s k else 0) (a := 99) (eT E) (fun k hk => by
    show 0 ≤ (if ew E k = s then eu E s k else 0) ∧ (if ew E k = s then eu E s k else 0) ≤ 99
    have h3 := hW.2.2.2.2.2.2.2.1 k hk
    by_cases c : ew E k = s
    · rw [if_pos c]
      exact hW.2.2.2.2.2.2.2.2 s k (by omega) hk
    · rw [if_neg c]; omega)
  have h2 := hW.2.1
  unfold mHas
  omega
/-- the greatest, the least, how far apart -/
def mMax (f : Nat → Int) : Nat → Int
  | 0 => f 0
  | k + 1 => if mMax f k < f (k + 1) then f (k + 1) else mMax f k
def mMin (f : Nat → Int) : Nat → Int
  | 0 => f 0
  | k + 1 => if f (k + 1) < mMin f k then f (k + 1) else mMin f k
def mSpread (f : Nat → Int) (n : Nat) : Int := mMax f (n - 1) - mMin f (n - 1)
theorem mMax_b {f : Nat → Int} {a b : Int} : ∀ n : Nat, (∀ k, k ≤ n → a ≤ f k ∧ f k ≤ b) → a ≤ mMax f n ∧ mMax f n ≤ b := by
  intro n
  induction n with
  | zero => intro h; exact h 0 (by omega)
  | succ n ih =>
    intro h
    have h1 := ih (fun k hk => h k (by omega))
    have h2 := h (n + 1) (by omega)
    simp only [mMax]
    split <;> assumption
theorem mMin_b {f : Nat → Int} {a b : Int} : ∀ n : Nat, (∀ k, k ≤ n → a ≤ f k ∧ f k ≤ b) → a ≤ mMin f n ∧ mMin f n ≤ b := by
  intro n
  induction n with
  | zero => intro h; exact h 0 (by omega)
  | succ n ih =>
    intro h
    have h1 := ih (fun k hk => h k (by omega))
    have h2 := h (n + 1) (by omega)
    simp only [mMin]
    split <;> assumption
theorem mMin_max (f : Nat → Int) : ∀ n : Nat, mMin f n ≤ mMax f n := by
  intro n
  induction n with
  | zero => exact Int.le_refl _
  | succ n ih => simp only [mMin, mMax]; split <;> split <;> omega
theorem mSpread_b {f : Nat → Int} {n : Nat} {b : Int} (h : ∀ k, k < 3 → 0 ≤ f k ∧ f k ≤ b) (hn : n ≤ 3) : 0 ≤ mSpread f n ∧ mSpread f n ≤ b := by
  have h1 := mMax_b (f := f) (a := 0) (b := b) (n - 1) (fun k hk => h k (by omega))
  have h2 := mMin_b (f := f) (a := 0) (b := b) (n - 1) (fun k hk => h k (by omega))
  have h3 := mMin_max f (n - 1)
  unfold mSpread
  omega
theorem mSpread_c {f g : Nat → Int} {n : Nat} (h : ∀ k, k < n → f k = g k) (hn : 0 < n) : mSpread f n = mSpread g n := by
  have h1 : ∀ m, m < n → mMax f m = mMax g m ∧ mMin f m = mMin g m := by
    intro m
    induction m with
    | zero => intro _; exact ⟨h 0 hn, h 0 hn⟩
    | succ m ih =>
      intro hm
      have h2 := ih (by omega)
      have h3 := h (m + 1) hm
      simp only [mMax, mMin]
      rw [h2.1, h2.2, h3]
      exact ⟨rfl, rfl⟩
  have h4 := h1 (n - 1) (by omega)
  unfold mSpread
  rw [h4.1, h4.2]
theorem zmax_i {a b : Int} (h : -2147483648 ≤ a ∧ a < 2147483648 ∧ -2147483648 ≤ b ∧ b < 2147483648) {x y : Int} : (if zi a < zi b then zi x else zi y) = zi (if a < b then x else y) := by
  by_cases c : a < b
  · rw [if_pos c, if_pos ((zi_lt h.1 h.2.1 h.2.2.1 h.2.2.2).mpr c)]
  · rw [if_neg c, if_neg (fun q => c ((zi_lt h.1 h.2.1 h.2.2.1 h.2.2.2).mp q))]
/-- two minds at once -/
def zG (C : zx_C) (e o : Nat) (M1 M2 : zD) : Prop := zMd C (e + 24) M1 ∧ zMl C (e + 24) M1 ∧ zMd C o M2 ∧ zMl C o M2
theorem zMl_of {C C1 : zx_C} {e : Nat} {M : zD} (h : zMl C e M) (h1 : ∀ b k, e + 5 ≤ b → b < e + 7 → C1.1 b k = C.1 b k) : zMl C1 e M := by
  intro s hs
  obtain ⟨z0, L, hL, hL1, hL2⟩ := h s hs
  refine ⟨?_, L, hL, ?_, fun hn x hx hxs hxc => ?_⟩
  · rw [h1 _ _ (by omega) (by omega)]; exact z0
  · rw [h1 _ _ (by omega) (by omega)]; exact hL1
  · rw [h1 _ _ (by omega) (by omega)]; exact hL2 hn x hx hxs hxc
theorem zG_of {C C1 : zx_C} {e o : Nat} {M1 M2 : zD} (h : zG C e o M1 M2) (ho : o = e + 24 ∨ o = e + 31) (h1 : ∀ b k, e + 24 ≤ b → b < e + 38 → C1.1 b k = C.1 b k) : zG C1 e o M1 M2 :=
  ⟨zMd_of h.1 (fun b k _ _ => h1 b k (by omega) (by omega)), zMl_of h.2.1 (fun b k _ _ => h1 b k (by omega) (by omega)), zMd_of h.2.2.1 (fun b k _ _ => h1 b k (by omega) (by omega)), zMl_of h.2.2.2 (fun b k _ _ => h1 b k (by omega) (by omega))⟩
/-- what a run leaves -/
def zRn (C : zx_C) (e : Nat) (ch : Nat → Nat → Option Nat) (M : zD) (G : Nat → Int) : Prop := (∀ i, i < mCnt (dL M) 8 → C.1 (e + 38) i = zi (zo (mTak ch M i))) ∧ C.1 e 10 = zi (mCnt (dL M) 8) ∧ ∀ s, s < 3 → C.1 (e + 39) s = zi (mEnd ch M G s (mCnt (dL M) 8))
section
variable {X : zX} {S : zx_S} {C : zx_C} {q : zx_C → Prop} {e o : Nat} {M1 M2 : zD}
theorem lq120a (hS : zs_4 S e) (hO : zs_1 S o) (ho : o = e + 24 ∨ o = e + 31) {one : Int} (h1 : -1 ≤ one ∧ one < 3) (hD1 : zWD M1) (hD2 : zWD M2) (hsame : M2 = (M1.1, dU M2, M1.2.2)) (hoM : o = e + 24 → M1 = M2) (G : Nat → Int) : ∀ (j i : Nat) (C0 : zx_C) (z5 z6 z7 : Value), i + j = 8 → i ≤ mCnt (dL M1) 8 → zG C0 e o M1 M2 → (∀ t, t < i → C0.1 (e + 38) t = zi (zo (mTak (mCh M1 M2 one) M1 t))) → C0.1 e 10 = zi i → (∀ s, s < 3 → C0.1 (e + 39) s = zi (mEnd (mCh M1 M2 one) M1 G s i)) → zW X 5 120 45 [.ref e, .ref o, .int (zi one), .int (zi (mRun (mCh M1 M2 one) M1 i)), .int (zi i), z5, z6, z7] [] S C0 (zQv (fun C1 => zRn C1 e (mCh M1 M2 one) M1 G ∧ zG C1 e o M1 M2 ∧ (∀ b k, ¬ (b = e ∧ k = 10) → (b < e + 24 ∨ e + 40 ≤ b ∨ b = e + 27 ∨ ((b = e + 29 ∨ b = e + 36) ∧ (k = 0 ∨ k = 256 ∨ k = 512))) → C1.1 b k = C0.1 b k) ∧ C1.2 = C0.2)) := by
  have hch : ∀ s m, m < 256 → m ≠ 0 → ∃ k, mCh M1 M2 one s m = some k ∧ k < 8 ∧ m.testBit k = true := fun s m hm h0 => mCh_some hm h0
  have hn := hD1.1
  have hT := hD1.2.1
  have hc8 := mCnt_le (dL M1) 8
  have hC := hD1.2.2.2.1
  have hzm := zo_4_7 hS
  have eL : dL M2 = dL M1 := by rw [hsame]
  have eN2 : dN M2 = dN M1 := by rw [hsame]
  have eB : dB M2 = dB M1 := by rw [hsame]
  intro j
  induction j with
  | zero =>
    intro i C0 z5 z6 z7 hi hic g1 g2 g3 g4
    refine vc120_45 (a2 := 0) hS hO ?_
    rw [zi_8, zlt_f (by omega)]
    have hi2 : mCnt (dL M1) 8 = i := by omega
    refine ⟨⟨fun t ht => g2 t (by omega), by rw [hi2]; exact g3, fun s hs => by rw [hi2]; exact g4 s hs⟩, g1, fun _ _ _ _ => rfl, rfl⟩
  | succ j ih =>
    intro i C0 z5 z6 z7 hi hic g1 g2 g3 g4
    refine vc120_45 (a2 := 0) hS hO ?_
    have hr := mRun_ok hD1 hch i hic
    have hrT : mRun (mCh M1 M2 one) M1 i < 2 ^ dT M1 := Nat.lt_of_le_of_lt (mSub_le hr.1) hD1.2.2.1
    have hr2 := pow_256 hrT hT
    rw [zi_8, zlt_t (by omega)]
    by_cases hz : mRun (mCh M1 M2 one) M1 i = 0
    · rw [hz, zi_0, show zi ((0 : Nat) : Int) = zi 0 from rfl, if_pos rfl]
      have hi2 : mCnt (dL M1) 8 = i := by rw [hz, mCnt_z] at hr; omega
      refine ⟨⟨fun t ht => g2 t (by omega), by rw [hi2]; exact g3, fun s hs => by rw [hi2]; exact g4 s hs⟩, g1, fun _ _ _ _ => rfl, rfl⟩
    · have hcp := mCnt_p hr2 hz
      obtain ⟨k, hk, hkT, hkb, hnext⟩ := mTak_ok hD1 hch (i := i) (by omega)
      have ht : mTurn M1 (mRun (mCh M1 M2 one) M1 i) = i := by unfold mTurn; omega
      have hw := hD1.2.2.2.2.1 i (by omega)
      have hB := hD1.2.2.2.2.2.1 (dW M1 i) (by omega)
      rw [zi_0, zeq_f (by omega), sp63 hzm g1.1 hD1 hr2 hz (by omega), ht, zeq_i (by omega)]
      have tail : ∀ (C3 : zx_C) (own : Nat), zG C3 e o M1 M2 → (∀ b k, (b < e + 24 ∨ e + 38 ≤ b ∨ b = e + 27 ∨ ((b = e + 29 ∨ b = e + 36) ∧ (k = 0 ∨ k = 256 ∨ k = 512))) → C3.1 b k = C0.1 b k) → C3.2 = C0.2 → zCd X 0 12 [.ref (e + 38), .int (zi i), .int (zi (zo (some k)))] S C3 (zQv (fun C4 => zCd X 0 11 [.ref (e + 39), .int (zi (dW M1 i : Nat))] S C4 (zQi (fun r5 C5 => zCd X 0 59 [.ref (e + 24), .int (zi (dW M1 i : Nat)), .int (zi (zo (some k)))] S C5 (zQi (fun r6 C6 => zCd X 0 12 [.ref (e + 39), .int (zi (dW M1 i : Nat)), .int (r5 + r6)] S C6 (zQv (fun C7 => zCd X 0 61 [.int (zi (mRun (mCh M1 M2 one) M1 i : Nat)), .int (zi (zo (some k)))] S C7 (zQi (fun r8 C8 => zW X 5 120 45 [.ref e, .ref o, .int (zi one), .int r8, .int (zi i + 1), .int (zi (dW M1 i : Nat)), .ref own, .int (zi (zo (some k)))] [] S (zp C8 e 10 (zi i + 1)) (zQv (fun C1 => zRn C1 e (mCh M1 M2 one) M1 G ∧ zG C1 e o M1 M2 ∧ (∀ b k, ¬ (b = e ∧ k = 10) → (b < e + 24 ∨ e + 40 ≤ b ∨ b = e + 27 ∨ ((b = e + 29 ∨ b = e + 36) ∧ (k = 0 ∨ k = 256 ∨ k = 512))) → C1.1 b k = C0.1 b k) ∧ C1.2 = C0.2)))))))))))) := by
        intro C3 own d1 d2 d3
        have dG : zG (zp C3 (e + 38) i (zi (k : Int))) e o M1 M2 := zG_of d1 ho (fun b k _ _ => zp_ne (by omega))
        rw [zo_s, sp12 (za_4_9 hS) (by omega) (by omega) (by omega), sp11 (za_4_11 hS) (by omega) (by omega) (by omega), Int.toNat_natCast, Int.toNat_natCast, sp59 hzm dG.1 hD1 hw hkT, zp_ne (by omega), d2 _ _ (by omega), g4 _ (by omega), zi_add, sp12 (za_4_11 hS) (by omega) (by omega) (by omega), Int.toNat_natCast, sp61 (by omega) hr2, zi_s, ← hnext]
        refine zW_mono (ih (i + 1) _ _ _ _ (by omega) (by omega) (zG_of dG ho (fun b k _ _ => by rw [zp_ne (by omega), zp_ne (by omega)])) (fun t ht => ?_) (zp_hit _ _ _ _) (fun s hs => ?_)) (fun r C1 w => ⟨w.1, w.2.1, w.2.2.1, fun b k hb hb2 => ?_, ?_⟩)
        · rw [zp_ne (by omega), zp_ne (by omega)]
          by_cases c : t = i
          · subst c
            rw [zp_hit, hk, zo_s]
          · rw [zp_nf c, d2 _ _ (by omega)]
            exact g2 t (by omega)
        · rw [zp_ne (by omega)]
          have he : mEnd (mCh M1 M2 one) M1 G s (i + 1) = mEnd (mCh M1 M2 one) M1 G s i + mWon (mCh M1 M2 one) M1 s i := by
            unfold mEnd
            simp only [zsum]
            omega
          have hwon : mWon (mCh M1 M2 one) M1 s i = if dW M1 i = s then dU M1 s k else 0 := by
            unfold mWon
            rw [hk]
          rw [he, hwon]
          by_cases c : dW M1 i = s
          · rw [if_pos c, ← c, zp_hit]
          · rw [if_neg c, zp_nf (by omega), zp_ne (by omega), d2 _ _ (by omega), g4 s hs, Int.add_zero]
        · rw [w.2.2.2.1 b k hb hb2, zp_miss _ _ _ _ (by omega), zp_ne (by omega), zp_ne (by omega), d2 _ _ (by omega)]
        · rw [w.2.2.2.2]
          exact d3
      by_cases c : ((dW M1 i : Nat) : Int) = one
      · rw [if_pos c, sp64 hzm g1.1 (by omega)]
        have hkc : mChoose M1 (dW M1 i) (dB M1 (dW M1 i)) (mRun (mCh M1 M2 one) M1 i) = some k := by
          have : mCh M1 M2 one (dW M1 i) (mRun (mCh M1 M2 one) M1 i) = some k := hk
          unfold mCh at this
          rwa [if_pos c] at this
        refine zc_mI (sp50 hzm g1.1 hD1 g1.2.1 hw hB hr.1) (fun r C3 h3 => ?_)
        obtain ⟨r1, r2, r3, r4, r5⟩ := h3
        rw [r1]
        rw [hkc]
        refine tail C3 _ ?_ (fun b k hb => r4 b k (by omega) (by omega)) r5
        refine ⟨r2, r3, ?_, ?_⟩
        · rcases ho with ho | ho
          · have := hoM ho
            rw [ho, ← this]; exact r2
          · exact zMd_of g1.2.2.1 (fun b k _ _ => r4 b k (by omega) (by omega))
        · rcases ho with ho | ho
          · have := hoM ho
            rw [ho, ← this]; exact r3
          · exact zMl_of g1.2.2.2 (fun b k _ _ => r4 b k (by omega) (by omega))
      · rw [if_neg c, sp64 hO g1.2.2.1 (by omega), eB]
        have hkc : mChoose M2 (dW M1 i) (dB M1 (dW M1 i)) (mRun (mCh M1 M2 one) M1 i) = some k := by
          have : mCh M1 M2 one (dW M1 i) (mRun (mCh M1 M2 one) M1 i) = some k := hk
          unfold mCh at this
          rwa [if_neg c] at this
        refine zc_mI (sp50 hO g1.2.2.1 hD2 g1.2.2.2 (by rw [eN2]; exact hw) hB (by rw [eL]; exact hr.1)) (fun r C3 h3 => ?_)
        obtain ⟨r1, r2, r3, r4, r5⟩ := h3
        rw [r1]
        rw [hkc]
        refine tail C3 _ ?_ (fun b k hb => r4 b k (by omega) (by omega)) r5
        refine ⟨?_, ?_, r2, r3⟩
        · rcases ho with ho | ho
          · have := hoM ho
            rw [← ho, this]; exact r2
          · exact zMd_of g1.1 (fun b k _ _ => r4 b k (by omega) (by omega))
        · rcases ho with ho | ho
          · have := hoM ho
            rw [← ho, this]; exact r3
          · exact zMl_of g1.2.1 (fun b k _ _ => r4 b k (by omega) (by omega))
theorem lq120b (hS : zs_4 S e) (hO : zs_1 S o) (ho : o = e + 24 ∨ o = e + 31) (one : Int32) (G : Nat → Int) (z4 z5 z6 z7 : Value) : ∀ (j i : Nat) (C0 : zx_C), i + j = 3 → (∀ s, s < 3 → C.1 (e + 27) s = zi (G s)) → (∀ s, s < i → C0.1 (e + 39) s = zi (G s)) → (∀ b k, b ≠ e + 39 → C0.1 b k = C.1 b k) → C0.2 = C.2 → (∀ C1 : zx_C, (∀ s, s < 3 → C1.1 (e + 39) s = zi (G s)) → (∀ b k, b ≠ e + 39 → C1.1 b k = C.1 b k) → C1.2 = C.2 → zW X 5 120 45 [.ref e, .ref o, .int one, .int (C1.1 (e + 24) 5), .int 0, z5, z6, z7] [] S (zp C1 e 10 0) (zQv q)) → zW X 5 120 2 [.ref e, .ref o, .int one, .int (zi i), z4, z5, z6, z7] [] S C0 (zQv q) := by
  intro j
  induction j with
  | zero =>
    intro i C0 hi hG g1 g2 g3 K
    refine vc120_2 (a2 := 0) hS hO ?_
    rw [zi_3, zlt_f (by omega)]
    exact K C0 (fun s hs => g1 s (by omega)) g2 g3
  | succ j ih =>
    intro i C0 hi hG g1 g2 g3 K
    refine vc120_2 (a2 := 0) hS hO ?_
    rw [zi_3, zlt_t (by omega), sp121 (zo_4_7 hS) (by omega), sp12 (za_4_11 hS) (by omega) (by omega) (by omega), zi_s, Int.toNat_natCast]
    refine ih (i + 1) _ (by omega) hG (fun s hs => ?_) (fun b k hb => ?_) g3 K
    · by_cases c : s = i
      · subst c
        rw [zp_hit]
        have h27 : C0.1 (e + 24 + 3) s = C.1 (e + 27) s := g2 _ _ (by omega)
        rw [h27]
        exact hG s (by omega)
      · rw [zp_nf c]
        exact g1 s (by omega)
    · rw [zp_ne hb, g2 b k hb]
/-- goOn -/
theorem sp120 (hS : zs_4 S e) (hO : zs_1 S o) (ho : o = e + 24 ∨ o = e + 31) {one : Int} (h1 : -1 ≤ one ∧ one < 3) (hD1 : zWD M1) (hD2 : zWD M2) (hsame : M2 = (M1.1, dU M2, M1.2.2)) (hoM : o = e + 24 → M1 = M2) {G : Nat → Int} (hG : ∀ s, s < 3 → C.1 (e + 27) s = zi (G s)) (g1 : zG C e o M1 M2) : zCd X 5 120 [.ref e, .ref o, .int (zi one)] S C (zQv (fun C1 => zRn C1 e (mCh M1 M2 one) M1 G ∧ zG C1 e o M1 M2 ∧ (∀ b k, ¬ (b = e ∧ k = 10) → (b < e + 24 ∨ e + 40 ≤ b ∨ b = e + 27 ∨ ((b = e + 29 ∨ b = e + 36) ∧ (k = 0 ∨ k = 256 ∨ k = 512))) → C1.1 b k = C.1 b k) ∧ C1.2 = C.2)) := by
  refine vc120 hS hO (lq120b (C := C) hS hO ho _ G _ _ _ _ 3 0 C (by omega) hG (fun s hs => absurd hs (Nat.not_lt_zero s)) (fun _ _ _ => rfl) rfl (fun C1 b1 b2 b3 => ?_))
  have h5 : C1.1 (e + 24) 5 = zi (dL M1) := by
    rw [b2 _ _ (by omega)]
    exact g1.1.2.2.2.2.1
  rw [h5]
  refine zW_mono (lq120a hS hO ho h1 hD1 hD2 hsame hoM G 8 0 _ _ _ _ (by omega) (by omega) (zG_of g1 ho (fun b k _ _ => by rw [zp_ne (by omega), b2 _ _ (by omega)])) (fun t ht => absurd ht (Nat.not_lt_zero t)) (zp_hit _ _ _ _) (fun s hs => ?_)) (fun r C2 w => ⟨w.1, w.2.1, w.2.2.1, fun b k hb hb2 => ?_, ?_⟩)
  · rw [zp_ne (by omega), b1 s hs]
    show zi (G s) = zi (G s + 0)
    rw [Int.add_zero]
  · rw [w.2.2.2.1 b k hb hb2, zp_miss _ _ _ _ (by omega), b2 _ _ (by omega)]
  · rw [w.2.2.2.2]
    exact b3
end
