/-! THE CALLS, both sides: judge, stolen, fits, books, goes -/
theorem zb_x {S : zx_S} {a s : Nat} {v : Int} (hs : v = (s : Int)) (h8 : s < 8) : a + 5 + Int32.toNatClampNeg (zi v) = a + 5 + s := by
  rw [zi_ix (by omega) (by omega), hs, Int.toNat_natCast]
theorem mWr_lt {E : zT} {v : Nat → Int64} {p : Int} : ∀ (f i m t k : Nat), mWr E v p f i m t = some k → k < i + f := by
  intro f
  induction f with
  | zero => intro i m t k h; cases h
  | succ f ih =>
    intro i m t k h
    by_cases c : (i : Int) = p
    · rw [mWr_p c] at h
      have := ih _ _ _ _ h
      omega
    · by_cases c2 : mOk E (v i).toInt t m
      · rw [mWr_t c c2] at h
        have := ih _ _ _ _ h
        omega
      · rw [mWr_f c c2] at h
        cases h
        omega
/-- what's left after so many picks of a book -/
def mBk (v : Nat → Int64) (L : Nat) : Nat → Nat
  | 0 => L
  | i + 1 => wo (mBk v L i) ((v i).toInt % 10).toNat
theorem mWr_ok {E : zT} {v : Nat → Int64} {L V : Nat} : ∀ (f i : Nat), mWr E v (-1) f i (mBk v L i) (V + i) = none → ∀ k, i ≤ k → k < i + f → mOk E (v k).toInt (V + k) (mBk v L k) := by
  intro f
  induction f with
  | zero => intro i _ k h1 h2; omega
  | succ f ih =>
    intro i h k h1 h2
    by_cases c2 : mOk E (v i).toInt (V + i) (mBk v L i)
    · rw [mWr_t (by omega) c2] at h
      by_cases c : k = i
      · rw [c]; exact c2
      · exact ih (i + 1) h k (by omega) (by omega)
    · rw [mWr_f (by omega) c2] at h
      cases h
theorem mBk_ok {E : zT} {v : Nat → Int64} {L V n : Nat} (hL : L < 256) (h : ∀ k, k < n → mOk E (v k).toInt (V + k) (mBk v L k)) : ∀ i, i ≤ n → mSub (mBk v L i) L ∧ mCnt (mBk v L i) 8 + i = mCnt L 8 := by
  intro i
  induction i with
  | zero => intro _; exact ⟨mSub_r L, rfl⟩
  | succ i ih =>
    intro hi
    have h1 := ih (by omega)
    have h2 := (h i (by omega)).2.2
    have hm : mBk v L i < 256 := Nat.lt_of_le_of_lt (mSub_le h1.1) hL
    have hk8 := bit_lt (t := 8) hm h2
    have h3 := mCnt_wo hm hk8 h2
    exact ⟨mSub_t (mSub_wo hm hk8) h1.1, by show mCnt (wo (mBk v L i) ((v i).toInt % 10).toNat) 8 + (i + 1) = _; omega⟩
theorem bz_and0 : ∀ a b : Fin 64, zi (a.val : Nat) &&& zi (b.val : Nat) = zi ((a.val &&& b.val : Nat)) := by decide +kernel
theorem mSet_and (p r : Nat → Bool) (n : Nat) : mSet p n &&& mSet r n = mSet (fun k => p k && r k) n := by
  refine Nat.eq_of_testBit_eq fun j => ?_
  rw [Nat.testBit_and, mSet_bit, mSet_bit, mSet_bit]
  by_cases c : j < n
  · simp [c]
  · simp [c]
theorem mSet_c {p r : Nat → Bool} : ∀ n, (∀ k, k < n → p k = r k) → mSet p n = mSet r n := by
  intro n
  induction n with
  | zero => intro _; rfl
  | succ n ih =>
    intro h
    simp only [mSet]
    rw [ih (fun k hk => h k (by omega)), h n (by omega)]
section
variable {X : zX} {S : zx_S} {C : zx_C} {q : Int32 → zx_C → Prop} {e a : Nat} {D : zDD} {E : zT} {H : zH}
/-- judge -/
theorem cl_judge (hX : zs_4 S e) (hM : zs_5 S a) (hW : zWI D) {s n : Int} (hs : -2147483648 ≤ s ∧ s < 2147483648) (hn : -2147483648 ≤ n ∧ n < 2147483648) : zBI X S e a D 5 135 [.int (zi s), .int (zi n)] 3 237 [.int (zi s), .int (zi n)] := by
  have hWH := hW.2.2.1
  have hbb := mBt_b (H := gH D) (s := s) (n := n) (m := (0 : Nat))
  by_cases c : mBt (gH D) s n (0 : Nat) = 0
  · obtain ⟨h1, h2, h3, h4, h5, h6, h7⟩ := mBt_0 hWH c
    obtain ⟨s, rfl⟩ : ∃ k : Nat, s = k := ⟨s.toNat, by omega⟩
    obtain ⟨n, rfl⟩ : ∃ k : Nat, n = k := ⟨n.toNat, by omega⟩
    rw [Int.toNat_natCast] at h5 h6 h7
    refine ⟨zi (zo (mWr (gE D) (hl (gH D) s) (-1) n 0 (mOwn (gE D) (-1)) (eV (gE D)))), D, hW, fun C hI => vc135 hX ?_, fun C hI => vc237 hM ?_⟩
    · rw [zi_0, show zi (0 : Int) = zi ((0 : Nat) : Int) from rfl, sp136 hX hI.2.2.1 hWH hs hn (by omega), c, if_pos (show zi 0 = zi ((0 : Nat) : Int) from rfl), zi_m1, sp137 hX hI hW (by omega) (by omega) (by omega) ⟨h5, h6⟩ h7]
      exact ⟨rfl, hI, zOut_r _ _ _⟩
    · rw [zi_0, show zi (0 : Int) = zi ((0 : Nat) : Int) from rfl, sp238 hM hI.2.2.1 hWH hs hn (by omega), c, if_pos (show zi 0 = zi ((0 : Nat) : Int) from rfl), zi_ix (by omega) (by omega), Int.toNat_natCast, zi_m1, sp239 hM hI hW (by omega) (by omega) (by omega) ⟨h5, h6⟩ h7]
      exact ⟨zi_in (by omega) (by omega) (by omega), rfl, hI, zOut_r _ _ _⟩
  · refine ⟨zi (mBt (gH D) s n (0 : Nat)), zRf D (mBt (gH D) s n (0 : Nat)), hW, fun C hI => vc135 hX ?_, fun C hI => vc237 hM ?_⟩
    · rw [zi_0, show zi (0 : Int) = zi ((0 : Nat) : Int) from rfl, sp136 hX hI.2.2.1 hWH hs hn (by omega), zeq_f (by omega)]
      exact xrf hX hI (by omega)
    · rw [zi_0, show zi (0 : Int) = zi ((0 : Nat) : Int) from rfl, sp238 hM hI.2.2.1 hWH hs hn (by omega), zeq_f (by omega)]
      exact mrf hM hW hI (by omega)
/-- the first pick without which all is right, from i on -/
def mSo (E : zT) (v : Nat → Int64) (n : Nat) : Nat → Nat → Option Nat
  | 0, _ => none
  | f + 1, i => if mWr E v i n 0 (mOwn E (-1)) (eV E) = none then some i else mSo E v n f (i + 1)
theorem lq138 (hS : zs_4 S e) (hI : zIX C e D) (hW : zWI D) {s n : Nat} (hs : s < 8) (hn : n ≤ 8) (hr : 0 ≤ hk (gH D) s ∧ hk (gH D) s ≤ 4) (hz1 : (n : Int) ≤ hz (gH D) s) (z3 : Value) : ∀ (j i : Nat), i + j = n → q (zi (zo (mSo (gE D) (hl (gH D) s) n j i))) C → zW X 5 138 21 [.ref e, .int (zi s), .int (zi n), z3, .int (zi i)] [] S C (zQi q) := by
  intro j
  induction j with
  | zero =>
    intro i hi hq
    refine vc138_21 (a1 := 0) (a2 := 0) hS ?_
    rw [zlt_f (by omega)]
    exact hq
  | succ j ih =>
    intro i hi hq
    refine vc138_21 (a1 := 0) (a2 := 0) hS ?_
    rw [zlt_t (by omega), sp137 hS hI hW hs hn (by omega) hr hz1, zi_s, zi_m1]
    simp only [mSo] at hq
    cases hw : mWr (gE D) (hl (gH D) s) (i : Int) n 0 (mOwn (gE D) (-1)) (eV (gE D)) with
    | none =>
      rw [if_pos hw] at hq
      rw [zo_n, if_pos rfl]
      exact hq
    | some k =>
      have hk := mWr_lt _ _ _ _ _ hw
      rw [if_neg (by rw [hw]; intro h; cases h)] at hq
      rw [zo_s, zeq_f (by omega)]
      exact ih (i + 1) (by omega) hq
theorem lq240 (hS : zs_5 S a) (hI : zIM S C a D) (hW : zWI D) {s n : Nat} (hs : s < 8) (hn : n ≤ 8) (hr : 0 ≤ hk (gH D) s ∧ hk (gH D) s ≤ 4) (hz1 : (n : Int) ≤ hz (gH D) s) (z3 : Value) : ∀ (j i : Nat), i + j = n → q (zi (zo (mSo (gE D) (hl (gH D) s) n j i))) C → zW X 3 240 21 [.ref a, .int (zi s), .int (zi n), z3, .int (zi i)] [] S C (zQi q) := by
  intro j
  induction j with
  | zero =>
    intro i hi hq
    refine vc240_21 (a1 := 0) (a2 := 0) hS ?_
    rw [zlt_f (by omega)]
    exact hq
  | succ j ih =>
    intro i hi hq
    refine vc240_21 (a1 := 0) (a2 := 0) hS ?_
    rw [zlt_t (by omega), zi_ix (by omega) (by omega), Int.toNat_natCast, sp239 hS hI hW hs hn (by omega) hr hz1, zi_s, zi_m1]
    refine ⟨zi_in (by omega) (by omega) (by omega), ?_⟩
    simp only [mSo] at hq
    cases hw : mWr (gE D) (hl (gH D) s) (i : Int) n 0 (mOwn (gE D) (-1)) (eV (gE D)) with
    | none =>
      rw [if_pos hw] at hq
      rw [zo_n, if_pos rfl]
      exact hq
    | some k =>
      have hk := mWr_lt _ _ _ _ _ hw
      rw [if_neg (by rw [hw]; intro h; cases h)] at hq
      rw [zo_s, zeq_f (by omega)]
      exact ih (i + 1) (by omega) hq
/-- stolen -/
theorem cl_stolen (hX : zs_4 S e) (hM : zs_5 S a) (hW : zWI D) {s n : Int} (hs : -2147483648 ≤ s ∧ s < 2147483648) (hn : -2147483648 ≤ n ∧ n < 2147483648) : zBI X S e a D 5 138 [.int (zi s), .int (zi n)] 3 240 [.int (zi s), .int (zi n)] := by
  have hWH := hW.2.2.1
  have hbb := mBt_b (H := gH D) (s := s) (n := n) (m := (1 : Nat))
  by_cases c : mBt (gH D) s n (1 : Nat) = 0
  · obtain ⟨h1, h2, h3, h4, h5, h6, h7⟩ := mBt_0 hWH c
    obtain ⟨s, rfl⟩ : ∃ k : Nat, s = k := ⟨s.toNat, by omega⟩
    obtain ⟨n, rfl⟩ : ∃ k : Nat, n = k := ⟨n.toNat, by omega⟩
    rw [Int.toNat_natCast] at h5 h6 h7
    refine ⟨zi (zo (mSo (gE D) (hl (gH D) s) n n 0)), D, hW, fun C hI => vc138 hX ?_, fun C hI => vc240 hM ?_⟩
    · rw [zi_1, show zi (1 : Int) = zi ((1 : Nat) : Int) from rfl, sp136 hX hI.2.2.1 hWH hs hn (by omega), c, zi_0, if_pos rfl]
      exact lq138 hX hI hW (by omega) (by omega) ⟨h5, h6⟩ h7 _ n 0 (Nat.zero_add _) ⟨rfl, hI, zOut_r _ _ _⟩
    · rw [zi_1, show zi (1 : Int) = zi ((1 : Nat) : Int) from rfl, sp238 hM hI.2.2.1 hWH hs hn (by omega), c, zi_0, if_pos rfl]
      exact lq240 hM hI hW (by omega) (by omega) ⟨h5, h6⟩ h7 _ n 0 (Nat.zero_add _) ⟨rfl, hI, zOut_r _ _ _⟩
  · refine ⟨zi (mBt (gH D) s n (1 : Nat)), zRf D (mBt (gH D) s n (1 : Nat)), hW, fun C hI => vc138 hX ?_, fun C hI => vc240 hM ?_⟩
    · rw [zi_1, show zi (1 : Int) = zi ((1 : Nat) : Int) from rfl, sp136 hX hI.2.2.1 hWH hs hn (by omega), zi_0, zeq_f (by omega)]
      exact xrf hX hI (by omega)
    · rw [zi_1, show zi (1 : Int) = zi ((1 : Nat) : Int) from rfl, sp238 hM hI.2.2.1 hWH hs hn (by omega), zi_0, zeq_f (by omega)]
      exact mrf hM hW hI (by omega)
/-- by a bent a side would have taken just these -/
def mFb (M : zD) (v : Nat → Int64) (L s b : Nat) (n : Nat) : Bool := (List.range n).all fun i => decide ((v i).toInt / 10 = s → mChoose M s b (mBk v L i) = some ((v i).toInt % 10).toNat)
theorem mFb_s {M : zD} {v : Nat → Int64} {L s b n : Nat} : mFb M v L s b (n + 1) = (mFb M v L s b n && decide ((v n).toInt / 10 = s → mChoose M s b (mBk v L n) = some ((v n).toInt % 10).toNat)) := by
  unfold mFb
  rw [List.range_succ, List.all_append]
  simp
theorem mFb_no {M : zD} {v : Nat → Int64} {L s b : Nat} : ∀ j i, mFb M v L s b i = false → mFb M v L s b (i + j) = false := by
  intro j
  induction j with
  | zero => intro i h; exact h
  | succ j ih =>
    intro i h
    rw [show i + (j + 1) = (i + j) + 1 by omega, mFb_s, ih i h]
    rfl
theorem lq139 (hS : zs_4 S e) (hW : zWI D) {s n x : Nat} (hs : s < 8) (hn : n ≤ 8) (hx : x < eN (gE D)) (hr : 0 ≤ hk (gH D) s ∧ hk (gH D) s ≤ 4) (hz1 : (n : Int) ≤ hz (gH D) s) (hok : ∀ k, k < n → mOk (gE D) (hl (gH D) s k).toInt (eV (gE D) + k) (mBk (hl (gH D) s) (mOwn (gE D) (-1)) k)) (z4 : Value) : ∀ (j i : Nat) (C0 : zx_C) (z8 z9 z10 : Value), i + j = n → zIX C0 e D → zMd C0 (e + 24) (dLaw (gE D) (eL (gE D))) → zMl C0 (e + 24) (dLaw (gE D) (eL (gE D))) → zW X 6 139 100 [.ref e, .int (zi s), .int (zi n), .int (zi x), z4, .int (zi (mSet (fun b => mFb (dLaw (gE D) (eL (gE D))) (hl (gH D) s) (mOwn (gE D) (-1)) x b i) 6)), .int (zi (mBk (hl (gH D) s) (mOwn (gE D) (-1)) i)), .int (zi i), z8, z9, z10] [] S C0 (zQi (fun r C1 => r = zi (mSet (fun b => mFb (dLaw (gE D) (eL (gE D))) (hl (gH D) s) (mOwn (gE D) (-1)) x b n) 6) ∧ zFX C0 C1 e)) := by
  have hWH := hW.2.2.1
  have hN := hW.1.1
  have hlt := mOwn_lt hW.1 (-1)
  have hD := zWD_law hW.1 (eL (gE D))
  intro j
  induction j with
  | zero =>
    intro i C0 z8 z9 z10 hi g0 g1 g2
    refine vc139_100 (a1 := 0) (a2 := 0) (a3 := 0) hS ?_
    rw [zlt_f (by omega), show i = n by omega]
    exact ⟨rfl, zFX_r _ _⟩
  | succ j ih =>
    intro i C0 z8 z9 z10 hi g0 g1 g2
    refine vc139_100 (a1 := 0) (a2 := 0) (a3 := 0) hS ?_
    have ho := hok i (by omega)
    have hb := mBk_ok hlt hok i (by omega)
    have hx0 := ho.1
    have hm : mBk (hl (gH D) s) (mOwn (gE D) (-1)) i < 256 := Nat.lt_of_le_of_lt (mSub_le hb.1) hlt
    have hk8 := bit_lt (t := 8) hm ho.2.2
    have hmod : 0 ≤ (hl (gH D) s i).toInt % 10 ∧ (hl (gH D) s i).toInt % 10 < 10 := by omega
    have ih2 := fun C1 z8 z9 z10 => ih (i + 1) C1 z8 z9 z10 (by omega)
    simp only [mFb_s, mBk] at ih2
    rw [zlt_t (by omega), sp23 (zo_4_4 hS) g0.2.2.1 hWH hs (by omega), show mElem (gH D) s (i : Int) = hl (gH D) s i from if_pos ⟨by omega, hr.1, hr.2, by omega⟩, lg_eq, ldiv hx0, zl_zi (by omega), zl_toInt (by omega), lmod_i hx0, show zi ((hl (gH D) s i).toInt % 10) = zi (((hl (gH D) s i).toInt % 10).toNat : Int) by rw [Int.toNat_of_nonneg hmod.1], zi_s]
    by_cases c : (hl (gH D) s i).toInt / 10 = x
    · rw [if_pos c]
      refine zc_mI (sp140 (zo_4_7 hS) g1 hD g2 (s := x) (k := ((hl (gH D) s i).toInt % 10).toNat) hx (by omega) hb.1) (fun r C1 w => ?_)
      obtain ⟨w1, w2, w3, w4, w5⟩ := w
      have hf : zFX C0 C1 e := ⟨fun b k _ hb => w4 b k (by omega) (by omega), w5⟩
      have hl1 : mSet (fun b => mFb (dLaw (gE D) (eL (gE D))) (hl (gH D) s) (mOwn (gE D) (-1)) x b i) 6 < 64 := mSet_lt _ 6
      have hl2 : mBents (dLaw (gE D) (eL (gE D))) x ((hl (gH D) s i).toInt % 10).toNat (mBk (hl (gH D) s) (mOwn (gE D) (-1)) i) < 64 := mSet_lt _ 6
      rw [w1, sp61 hk8 hm, bz_and0 ⟨_, hl1⟩ ⟨_, hl2⟩]
      have hset : mSet (fun b => mFb (dLaw (gE D) (eL (gE D))) (hl (gH D) s) (mOwn (gE D) (-1)) x b i) 6 &&& mBents (dLaw (gE D) (eL (gE D))) x ((hl (gH D) s i).toInt % 10).toNat (mBk (hl (gH D) s) (mOwn (gE D) (-1)) i) = mSet (fun b => mFb (dLaw (gE D) (eL (gE D))) (hl (gH D) s) (mOwn (gE D) (-1)) x b i && decide ((hl (gH D) s i).toInt / 10 = x → mChoose (dLaw (gE D) (eL (gE D))) x b (mBk (hl (gH D) s) (mOwn (gE D) (-1)) i) = some ((hl (gH D) s i).toInt % 10).toNat)) 6 := by
        unfold mBents
        rw [mSet_and]
        refine mSet_c 6 (fun k _ => ?_)
        congr 1
        refine decide_eq_decide.mpr ⟨fun h _ => h, fun h => h c⟩
      dsimp only
      rw [hset]
      exact zW_mono (ih2 C1 _ _ _ (zIX_T g0 hf) w2 w3) (fun v C3 u => by obtain ⟨y, e1, u1, u2⟩ := u; exact ⟨y, e1, u1, zFX_t hf u2⟩)
    · rw [if_neg c, sp61 hk8 hm]
      have hset : mSet (fun b => mFb (dLaw (gE D) (eL (gE D))) (hl (gH D) s) (mOwn (gE D) (-1)) x b i && decide ((hl (gH D) s i).toInt / 10 = x → mChoose (dLaw (gE D) (eL (gE D))) x b (mBk (hl (gH D) s) (mOwn (gE D) (-1)) i) = some ((hl (gH D) s i).toInt % 10).toNat)) 6 = mSet (fun b => mFb (dLaw (gE D) (eL (gE D))) (hl (gH D) s) (mOwn (gE D) (-1)) x b i) 6 := by
        refine mSet_c 6 (fun k _ => ?_)
        rw [decide_eq_true (fun h => absurd h c), Bool.and_true]
      rw [hset] at ih2
      exact ih2 C0 _ _ _ g0 g1 g2
theorem lq242 (hS : zs_5 S a) (hI : zIM S C a D) (hW : zWI D) {s n x : Nat} {b : Nat} (hs : s < 8) (hn : n ≤ 8) (hx : x < eN (gE D)) (hb5 : b ≤ 5) (h29 : C.1 a 29 = zi (eL (gE D))) (h33 : C.1 a 33 = zi (-1)) (hr : 0 ≤ hk (gH D) s ∧ hk (gH D) s ≤ 4) (hz1 : (n : Int) ≤ hz (gH D) s) (hok : ∀ k, k < n → mOk (gE D) (hl (gH D) s k).toInt (eV (gE D) + k) (mBk (hl (gH D) s) (mOwn (gE D) (-1)) k)) : ∀ (j i : Nat) (z7 : Value), i + j = n → mFb (dLaw (gE D) (eL (gE D))) (hl (gH D) s) (mOwn (gE D) (-1)) x b i = true → q (zb (mFb (dLaw (gE D) (eL (gE D))) (hl (gH D) s) (mOwn (gE D) (-1)) x b n = true)) C → zW X 33 242 9 [.ref a, .ref (a + 5 + s), .int (zi n), .int (zi x), .int (zi b), .int (zi (mBk (hl (gH D) s) (mOwn (gE D) (-1)) i)), .int (zi i), z7] [] S C (zQi q) := by
  have hN := hW.1.1
  have hlt := mOwn_lt hW.1 (-1)
  have hD := zWD_law hW.1 (eL (gE D))
  have hrow : a + 5 + s < 900000 ∧ S.1 (a + 5 + s) = (11, 40) := (zb_5_3 hS hs).2
  have f2 := (hI.2.2.1 s hs).2.1 hr.1 hr.2
  intro j
  induction j with
  | zero =>
    intro i z7 hi ht hq
    refine vc242_9 (a2 := 0) (a3 := 0) (a4 := 0) hS hrow ?_
    rw [zlt_f (by omega)]
    rw [show n = i by omega, zbT ht] at hq
    exact hq
  | succ j ih =>
    intro i z7 hi ht hq
    refine vc242_9 (a2 := 0) (a3 := 0) (a4 := 0) hS hrow ?_
    have hvi : vp_in (zi (i : Int)) 40 := zi_in (by omega) (by omega) (by omega)
    have ho := hok i (by omega)
    have hb := mBk_ok hlt hok i (by omega)
    have hx0 := ho.1
    have hm : mBk (hl (gH D) s) (mOwn (gE D) (-1)) i < 256 := Nat.lt_of_le_of_lt (mSub_le hb.1) hlt
    have hk8 := bit_lt (t := 8) hm ho.2.2
    have hmod : 0 ≤ (hl (gH D) s i).toInt % 10 ∧ (hl (gH D) s i).toInt % 10 < 10 := by omega
    have h1 := zTN_law (X := X) hS hI.1 hW.1 hW.1.2.2.1 h29 h33 hx
    have htn : mTurn (dLaw (gE D) (eL (gE D))) (mBk (hl (gH D) s) (mOwn (gE D) (-1)) i) = i := by
      show mCnt (mOwn (gE D) (-1)) 8 - mCnt (mBk (hl (gH D) s) (mOwn (gE D) (-1)) i) 8 = i
      omega
    have h2 := fun q => sp173c (X := X) (S := S) (C := C) (q := q) hS h1 hD (m := mBk (hl (gH D) s) (mOwn (gE D) (-1)) i) (b := (b : Int)) hx (by omega) hb.1 (by omega)
    rw [htn] at h2
    rw [zlt_t (by omega), zi_ix (by omega) (by omega), Int.toNat_natCast, f2.2.2.2 i (by omega), lg_eq, ldiv hx0, zl_zi (by omega), zl_toInt (by omega), lmod_i hx0, show zi ((hl (gH D) s i).toInt % 10) = zi (((hl (gH D) s i).toInt % 10).toNat : Int) by rw [Int.toNat_of_nonneg hmod.1], bz_wo hk8 hm, hI.1.2.2.2.1, zi_add, show ((eV (gE D) : Int) + (i : Int)) = ((eV (gE D) + i : Nat) : Int) by omega, h2, zi_s]
    refine ⟨hvi, hvi, ?_⟩
    have hzb := zo_b (o := mChoose (dLaw (gE D) (eL (gE D))) x b (mBk (hl (gH D) s) (mOwn (gE D) (-1)) i)) (fun k h => by have := mChoose_in hm h; omega)
    by_cases c : (hl (gH D) s i).toInt / 10 = x
    · rw [if_pos c, zeq_i (by omega)]
      by_cases c2 : mChoose (dLaw (gE D) (eL (gE D))) x b (mBk (hl (gH D) s) (mOwn (gE D) (-1)) i) = some ((hl (gH D) s i).toInt % 10).toNat
      · rw [if_pos (by rw [zo_eq]; exact c2)]
        exact ih (i + 1) _ (by omega) (by rw [mFb_s, ht, decide_eq_true (fun _ => c2)]; rfl) hq
      · rw [if_neg (by rw [zo_eq]; exact c2)]
        have hno : mFb (dLaw (gE D) (eL (gE D))) (hl (gH D) s) (mOwn (gE D) (-1)) x b (i + 1) = false := by
          rw [mFb_s, decide_eq_false (fun h => c2 (h c)), Bool.and_false]
        have hno2 := mFb_no j (i + 1) hno
        rw [show i + 1 + j = n by omega] at hno2
        rw [zbF (by rw [hno2]; decide)] at hq
        exact hq
    · rw [if_neg c]
      exact ih (i + 1) _ (by omega) (by rw [mFb_s, ht, decide_eq_true (fun h => absurd h c)]; rfl) hq
/-- fitsBy -/
theorem sp242 (hS : zs_5 S a) (hI : zIM S C a D) (hW : zWI D) {s n x : Nat} {b : Nat} (hs : s < 8) (hn : n ≤ 8) (hx : x < eN (gE D)) (hb5 : b ≤ 5) (h29 : C.1 a 29 = zi (eL (gE D))) (h33 : C.1 a 33 = zi (-1)) (hr : 0 ≤ hk (gH D) s ∧ hk (gH D) s ≤ 4) (hz1 : (n : Int) ≤ hz (gH D) s) (hok : ∀ k, k < n → mOk (gE D) (hl (gH D) s k).toInt (eV (gE D) + k) (mBk (hl (gH D) s) (mOwn (gE D) (-1)) k)) : zCd X 33 242 [.ref a, .ref (a + 5 + s), .int (zi n), .int (zi x), .int (zi b)] S C (zQi q) = q (zb (mFb (dLaw (gE D) (eL (gE D))) (hl (gH D) s) (mOwn (gE D) (-1)) x b n = true)) C := by
  refine zc_eI (fun q h => vc242 hS (zb_5_3 hS hs).2 ?_) q
  rw [sp172 hS hI.1 hW.1]
  exact lq242 hS hI hW hs hn hx hb5 h29 h33 hr hz1 hok n 0 _ (Nat.zero_add _) rfl h
theorem lq241 (hS : zs_5 S a) (hI : zIM S C a D) (hW : zWI D) {s n x : Nat} (hs : s < 8) (hn : n ≤ 8) (hx : x < eN (gE D)) (h29 : C.1 a 29 = zi (eL (gE D))) (h33 : C.1 a 33 = zi (-1)) (hr : 0 ≤ hk (gH D) s ∧ hk (gH D) s ≤ 4) (hz1 : (n : Int) ≤ hz (gH D) s) (hok : ∀ k, k < n → mOk (gE D) (hl (gH D) s k).toInt (eV (gE D) + k) (mBk (hl (gH D) s) (mOwn (gE D) (-1)) k)) (z4 : Value) : ∀ (j i : Nat), i + j = 6 → q (zi (mSet (fun b => mFb (dLaw (gE D) (eL (gE D))) (hl (gH D) s) (mOwn (gE D) (-1)) x b n) 6)) C → zW X 34 241 73 [.ref a, .int (zi s), .int (zi n), .int (zi x), z4, .int (zi (mSet (fun b => mFb (dLaw (gE D) (eL (gE D))) (hl (gH D) s) (mOwn (gE D) (-1)) x b n) i)), .int (zi i)] [] S C (zQi q) := by
  intro j
  induction j with
  | zero =>
    intro i hi hq
    refine vc241_73 (a1 := 0) (a2 := 0) (a3 := 0) hS ?_
    rw [zi_5, zlt_t (by omega), show i = 6 by omega]
    exact hq
  | succ j ih =>
    intro i hi hq
    refine vc241_73 (a1 := 0) (a2 := 0) (a3 := 0) hS ?_
    have ih2 := ih (i + 1) (by omega) hq
    simp only [mSet] at ih2
    rw [zi_5, zlt_f (by omega), zi_ix (by omega) (by omega), Int.toNat_natCast, sp242 hS hI hW hs hn hx (by omega) h29 h33 hr hz1 hok, zi_s, bz_or (by omega) (mSet_lt _ _)]
    refine ⟨zi_in (by omega) (by omega) (by omega), ?_⟩
    by_cases c : mFb (dLaw (gE D) (eL (gE D))) (hl (gH D) s) (mOwn (gE D) (-1)) x i n = true
    · rw [if_pos c] at ih2
      rw [zb_t c]
      exact ih2
    · rw [if_neg c, Nat.add_zero] at ih2
      rw [zb_f c, show ∀ x : Int32, x ||| 0 = x from fun x => Int32.or_zero]
      exact ih2
/-- fits -/
theorem cl_fits (hX : zs_4 S e) (hM : zs_5 S a) (hW : zWI D) {s n x : Int} (hs : -2147483648 ≤ s ∧ s < 2147483648) (hn : -2147483648 ≤ n ∧ n < 2147483648) (hx : -2147483648 ≤ x ∧ x < 2147483648) : zBI X S e a D 6 139 [.int (zi s), .int (zi n), .int (zi x)] 34 241 [.int (zi s), .int (zi n), .int (zi x)] := by
  have hWH := hW.2.2.1
  have hN := hW.1.1
  have hbb := mBt_b (H := gH D) (s := s) (n := n) (m := (0 : Nat))
  have hlt := mOwn_lt hW.1 (-1)
  by_cases c0 : 0 ≤ x ∧ x < eN (gE D)
  · obtain ⟨x, rfl⟩ : ∃ k : Nat, x = k := ⟨x.toNat, by omega⟩
    by_cases c : mBt (gH D) s n (0 : Nat) = 0
    · obtain ⟨h1, h2, h3, h4, h5, h6, h7⟩ := mBt_0 hWH c
      obtain ⟨s, rfl⟩ : ∃ k : Nat, s = k := ⟨s.toNat, by omega⟩
      obtain ⟨n, rfl⟩ : ∃ k : Nat, n = k := ⟨n.toNat, by omega⟩
      rw [Int.toNat_natCast] at h5 h6 h7
      have hvs : vp_in (zi (s : Int)) 8 := zi_in (by omega) (by omega) (by omega)
      cases hw : mWr (gE D) (hl (gH D) s) (-1) n 0 (mOwn (gE D) (-1)) (eV (gE D)) with
      | none =>
        have hok : ∀ k, k < n → mOk (gE D) (hl (gH D) s k).toInt (eV (gE D) + k) (mBk (hl (gH D) s) (mOwn (gE D) (-1)) k) := fun k hk => mWr_ok n 0 hw k (Nat.zero_le _) (by omega)
        refine ⟨zi (mSet (fun b => mFb (dLaw (gE D) (eL (gE D))) (hl (gH D) s) (mOwn (gE D) (-1)) x b n) 6), D, hW, fun C hI => vc139 hX ?_, fun C hI => vc241 hM ?_⟩
        · rw [sp27 (zo_4_0 hX) hI.1 hW.1 hx, zb_t c0, zi_0, show zi (0 : Int) = zi ((0 : Nat) : Int) from rfl, sp136 hX hI.2.2.1 hWH hs hn (by omega), c, if_pos (show zi 0 = zi ((0 : Nat) : Int) from rfl), zi_m1, sp137 hX hI hW (by omega) (by omega) (by omega) ⟨h5, h6⟩ h7, hw, zo_n, if_pos rfl]
          refine sq_think (zo_4_7 hX) (zo_4_0 hX) (by omega) hI.1 hW.1 hW.1.2.2.1 (f := fun C1 => C1.1 (e + 1) 2) (fun C1 h => by rw [h _ _ (by omega)]; exact hI.1.2.2.1) (fun C1 a1 a2 a3 a4 a5 => ?_)
          have hf : zFX C C1 e := ⟨fun b k _ hb => a4 b k (by omega), a5⟩
          have hL5 : C1.1 (e + 24) 5 = zi (mOwn (gE D) (-1)) := a1.2.2.2.2.1
          have h63 : (63 : Int32) = zi (mSet (fun b => mFb (dLaw (gE D) (eL (gE D))) (hl (gH D) s) (mOwn (gE D) (-1)) x b 0) 6) := rfl
          rw [hL5, h63]
          exact zW_mono (lq139 hX hW (by omega) (by omega) (by omega) ⟨h5, h6⟩ h7 hok _ n 0 C1 _ _ _ (Nat.zero_add _) (zIX_T hI hf) a1 (zMl_0 a3 (zMz_of hI.2.2.2.2.2.2.1 (fun k _ => a4 _ _ (by omega))))) (fun v C3 u => by obtain ⟨y, e1, u1, u2⟩ := u; exact ⟨y, e1, u1, zIX_T hI (zFX_t hf u2), zFX_out (zFX_t hf u2)⟩)
        · rw [sp168 hM hI.1 hW.1 hx, zb_t c0, zi_0, show zi (0 : Int) = zi ((0 : Nat) : Int) from rfl, sp238 hM hI.2.2.1 hWH hs hn (by omega), c, if_pos (show zi 0 = zi ((0 : Nat) : Int) from rfl), zi_ix (by omega) (by omega), Int.toNat_natCast, zi_m1, sp239 hM hI hW (by omega) (by omega) (by omega) ⟨h5, h6⟩ h7, hw, zo_n, if_pos rfl, hI.1.2.2.1]
          refine ⟨hvs, vc171 hM ?_⟩
          have hf : zFM C (zp (zp C a 29 (zi (eL (gE D)))) a 33 (-1)) a := zFM_begin
          have hI1 := zIM_T hW hI hf
          exact lq241 hM hI1 hW (by omega) (by omega) (by omega) (by rw [zp_nf (by omega), zp_hit]) (by rw [zp_hit, zi_m1]) ⟨h5, h6⟩ h7 hok _ 6 0 rfl ⟨rfl, hI1, zFM_out hf⟩
      | some k =>
        have hk := mWr_lt _ _ _ _ _ hw
        refine ⟨zi (-5), zRf D (-5), hW, fun C hI => vc139 hX ?_, fun C hI => vc241 hM ?_⟩
        · rw [sp27 (zo_4_0 hX) hI.1 hW.1 hx, zb_t c0, zi_0, show zi (0 : Int) = zi ((0 : Nat) : Int) from rfl, sp136 hX hI.2.2.1 hWH hs hn (by omega), c, if_pos (show zi 0 = zi ((0 : Nat) : Int) from rfl), zi_m1, sp137 hX hI hW (by omega) (by omega) (by omega) ⟨h5, h6⟩ h7, hw, zo_s, zeq_f (by omega), z_m5]
          exact xrf hX hI (by omega)
        · rw [sp168 hM hI.1 hW.1 hx, zb_t c0, zi_0, show zi (0 : Int) = zi ((0 : Nat) : Int) from rfl, sp238 hM hI.2.2.1 hWH hs hn (by omega), c, if_pos (show zi 0 = zi ((0 : Nat) : Int) from rfl), zi_ix (by omega) (by omega), Int.toNat_natCast, zi_m1, sp239 hM hI hW (by omega) (by omega) (by omega) ⟨h5, h6⟩ h7, hw, zo_s, zeq_f (by omega), z_m5]
          exact ⟨hvs, mrf hM hW hI (by omega)⟩
    · refine ⟨zi (mBt (gH D) s n (0 : Nat)), zRf D (mBt (gH D) s n (0 : Nat)), hW, fun C hI => vc139 hX ?_, fun C hI => vc241 hM ?_⟩
      · rw [sp27 (zo_4_0 hX) hI.1 hW.1 hx, zb_t c0, zi_0, show zi (0 : Int) = zi ((0 : Nat) : Int) from rfl, sp136 hX hI.2.2.1 hWH hs hn (by omega), zeq_f (by omega)]
        exact xrf hX hI (by omega)
      · rw [sp168 hM hI.1 hW.1 hx, zb_t c0, zi_0, show zi (0 : Int) = zi ((0 : Nat) : Int) from rfl, sp238 hM hI.2.2.1 hWH hs hn (by omega), zeq_f (by omega)]
        exact mrf hM hW hI (by omega)
  · refine ⟨zi (-2), zRf D (-2), hW, fun C hI => vc139 hX ?_, fun C hI => vc241 hM ?_⟩
    · rw [sp27 (zo_4_0 hX) hI.1 hW.1 hx, zb_f c0, if_neg (by decide), z_m2]; exact xrf hX hI (by omega)
    · rw [sp168 hM hI.1 hW.1 hx, zb_f c0, z_m2]; exact mrf hM hW hI (by omega)
end
