/-- the worth of a set -/
def mWorth (E : zT) (s m : Nat) : Int := zsum (fun k => if m.testBit k = true then eu E s k else 0) (eT E)
theorem zsum_c {f g : Nat → Int} : ∀ n : Nat, (∀ k, k < n → f k = g k) → zsum f n = zsum g n := by
  intro n
  induction n with
  | zero => intro _; rfl
  | succ n ih =>
    intro h
    simp only [zsum]
    rw [ih (fun k hk => h k (by omega)), h n (by omega)]
theorem mWorth_has (E : zT) (s : Nat) : mWorth E s (mOwn E s) = mHas E s := by
  refine zsum_c _ (fun k hk => ?_)
  have h : (mOwn E s).testBit k = (decide (k < eT E) && decide (ew E k = s)) := mSet_bit _ _ _
  rw [h]
  by_cases h2 : ew E k = s
  · rw [if_pos h2, if_pos (by simp [h2, hk])]
  · rw [if_neg h2, if_neg (by simp [h2])]
section
variable {X : zX} {S : zx_S} {C : zx_C} {q : Int32 → zx_C → Prop} {e : Nat} {E : zT}
theorem lp215 (hS : zs_5 S e) (hE : zME C e E) (hW : zWF E) {o : Int} (ho : -1 ≤ o ∧ o < 3) : ∀ j i : Nat, i + j = eT E → q (zi (mOwn E o)) C → zW X 0 215 4 [.ref e, .int (zi o), .int (zi (mSet (fun k => decide (ew E k = o)) i)), .int (zi i)] [] S C (zQi q) := by
  have h1 := hW.1
  have h2 := hW.2.1
  intro j
  induction j with
  | zero =>
    intro i hi hq
    refine vc215_4 (a1 := 0) hS ?_
    rw [hE.2.1, zlt_f (by omega)]
    rw [show i = eT E by omega]
    exact hq
  | succ j ih =>
    intro i hi hq
    refine vc215_4 (a1 := 0) hS ?_
    have hi2 : i < eT E := by omega
    have h3 := hW.2.2.2.2.2.2.2.1 i hi2
    rw [hE.2.1, zlt_t (by omega)]
    refine ⟨zi_in (by omega) (by omega) (by omega), ?_⟩
    rw [zi_ix (by omega) (by omega), Int.toNat_natCast, hE.2.2.2.2.2.2.2.2.1 i hi2, zeq_i (by omega), zi_s, bz_or (by omega) (mSet_lt _ _)]
    have ih2 := ih (i + 1) (by omega) hq
    simp only [mSet] at ih2
    by_cases hw : ew E i = o
    · rw [if_pos (decide_eq_true hw)] at ih2
      rw [if_pos hw]
      exact ih2
    · rw [if_neg (by simp [hw]), Nat.add_zero] at ih2
      rw [if_neg hw, show ∀ x : Int32, x ||| 0 = x from fun x => Int32.or_zero]
      exact ih2
/-- owned -/
theorem sp215 (hS : zs_5 S e) (hE : zME C e E) (hW : zWF E) {o : Int} (ho : -1 ≤ o ∧ o < 3) : zCd X 0 215 [.ref e, .int (zi o)] S C (zQi q) = q (zi (mOwn E o)) C :=
  zc_eI (fun _ h => vc215 hS (lp215 hS hE hW ho (eT E) 0 (by omega) h)) q
theorem lp216 (hS : zs_5 S e) (hE : zME C e E) (hW : zWF E) {s m : Nat} (hs : s < eN E) (hm : m < 256) : ∀ j i : Nat, i + j = eT E → q (zi (mWorth E s m)) C → zW X 1 216 5 [.ref e, .int (zi s), .int (zi m), .int (zi (zsum (fun k => if m.testBit k = true then eu E s k else 0) i)), .int (zi i)] [] S C (zQi q) := by
  have h1 := hW.1
  have h2 := hW.2.1
  intro j
  induction j with
  | zero =>
    intro i hi hq
    refine vc216_5 (a1 := 0) (a2 := 0) hS ?_
    rw [hE.2.1, zlt_f (by omega)]
    rw [show i = eT E by omega]
    exact hq
  | succ j ih =>
    intro i hi hq
    refine vc216_5 (a1 := 0) (a2 := 0) hS ?_
    have hi2 : i < eT E := by omega
    rw [hE.2.1, zlt_t (by omega), sp174 (by omega) hm]
    have ih2 := ih (i + 1) (by omega) hq
    simp only [zsum] at ih2
    by_cases hb : m.testBit i = true
    · rw [zb_t hb]
      refine ⟨zi_in (by omega) (by omega) (by omega), zi_in (by omega) (by omega) (by omega), ?_⟩
      rw [if_pos hb] at ih2
      rw [zi_ix (by omega) (by omega), zi_ix (by omega) (by omega), Int.toNat_natCast, Int.toNat_natCast, hE.2.2.2.2.2.2.2.2.2 s i hs hi2, zi_add, zi_s]
      exact ih2
    · rw [zb_f hb]
      rw [if_neg hb] at ih2
      rw [zi_0, zi_add, zi_s]
      exact ih2
/-- worthOf -/
theorem sp216 (hS : zs_5 S e) (hE : zME C e E) (hW : zWF E) {s m : Nat} (hs : s < eN E) (hm : m < 256) : zCd X 1 216 [.ref e, .int (zi s), .int (zi m)] S C (zQi q) = q (zi (mWorth E s m)) C :=
  zc_eI (fun _ h => vc216 hS (lp216 hS hE hW hs hm (eT E) 0 (by omega) h)) q
end
