/-- yes or no, as the machine has it -/
def zb (p : Prop) [Decidable p] : Int32 := if p then zi 1 else zi 0
theorem zbT {p : Prop} [Decidable p] (h : p) : zb p = zi 1 := if_pos h
theorem zbF {p : Prop} [Decidable p] (h : ¬ p) : zb p = zi 0 := if_neg h
theorem zb_0 {p : Prop} [Decidable p] : (zb p = zi 0) = ¬ p := by
  by_cases h : p
  · rw [zbT h]; simp only [h, not_true_eq_false, eq_iff_iff, iff_false]; decide
  · rw [zbF h]; simp [h]
theorem zb_1 {p : Prop} [Decidable p] : (zb p = zi 1) = p := by
  by_cases h : p
  · rw [zbT h]; simp [h]
  · rw [zbF h]; simp only [h, eq_iff_iff, iff_false]; decide
theorem zb_i {p : Prop} [Decidable p] {x y : Prop} : (if zb p = zi 0 then x else y) = (if p then y else x) := by
  by_cases h : p
  · rw [zbT h, if_pos h, zeq_f (by decide)]
  · rw [zbF h, if_neg h, zeq_t rfl]
theorem zb_t {p : Prop} [Decidable p] {x y : Prop} (h : p) : (if zb p = (0 : Int32) then x else y) = y := by
  rw [zi_0, zb_i, if_pos h]
theorem zb_f {p : Prop} [Decidable p] {x y : Prop} (h : ¬ p) : (if zb p = (0 : Int32) then x else y) = x := by
  rw [zi_0, zb_i, if_neg h]
/-- an estate: sides, things, law, turn, seed, order's size; order, bents, owners, worths -/
abbrev zT := (Nat × Nat × Nat × Nat × Int32 × Nat) × (Nat → Int) × (Nat → Int) × (Nat → Int) × (Nat → Nat → Int)
abbrev eN (E : zT) : Nat := E.1.1
abbrev eT (E : zT) : Nat := E.1.2.1
abbrev eL (E : zT) : Nat := E.1.2.2.1
abbrev eV (E : zT) : Nat := E.1.2.2.2.1
abbrev eD (E : zT) : Int32 := E.1.2.2.2.2.1
abbrev eO (E : zT) : Nat := E.1.2.2.2.2.2
abbrev eo (E : zT) : Nat → Int := E.2.1
abbrev eb (E : zT) : Nat → Int := E.2.2.1
abbrev ew (E : zT) : Nat → Int := E.2.2.2.1
abbrev eu (E : zT) : Nat → Nat → Int := E.2.2.2.2
def zWF (E : zT) : Prop := (eN E = 2 ∨ eN E = 3) ∧ eT E ≤ 8 ∧ eL E ≤ 3 ∧ eV E ≤ 1000000000 ∧ (1 ≤ eO E ∧ eO E ≤ 12) ∧ (∀ i, i < eO E → 0 ≤ eo E i ∧ eo E i < eN E) ∧ (∀ s, s < 3 → 0 ≤ eb E s ∧ eb E s ≤ 5) ∧ (∀ k, k < eT E → -1 ≤ ew E k ∧ ew E k < eN E) ∧ ∀ s k, s < eN E → k < eT E → 0 ≤ eu E s k ∧ eu E s k ≤ 99
/-- what lies at an Estate of the class -/
def zXE (C : zx_C) (e : Nat) (E : zT) : Prop := C.1 e 0 = zi (eN E) ∧ C.1 e 1 = zi (eT E) ∧ C.1 e 2 = zi (eL E) ∧ C.1 e 3 = zi (eV E) ∧ C.1 e 4 = eD E ∧ C.1 e 5 = zi (eO E) ∧ (∀ i, i < eO E → C.1 (e + 1) i = zi (eo E i)) ∧ (∀ s, s < 3 → C.1 (e + 2) s = zi (eb E s)) ∧ (∀ k, k < eT E → C.1 (e + 3) k = zi (ew E k)) ∧ ∀ s k, s < eN E → k < eT E → C.1 (e + 4) (s * 8 + k) = zi (eu E s k)
section
variable {X : zX} {S : zx_S} {C : zx_C} {q : Int32 → zx_C → Prop} {e : Nat} {E : zT}
/-- isSide -/
theorem sp27 (hS : zs_0 S e) (hE : zXE C e E) (hW : zWF E) {a : Int} (ha : -2147483648 ≤ a ∧ a < 2147483648) : zCd X 0 27 [.ref e, .int (zi a)] S C (zQi q) = q (zb (0 ≤ a ∧ a < eN E)) C := by
  refine zc_eI (fun q h => vc27 hS ?_) q
  have := hW.1
  rw [zi_0, zi_1, hE.1, zlt_i (by omega), zlt_i (by omega)]
  split
  · rwa [zbF (by omega)] at h
  · split
    · rwa [zbT (by omega)] at h
    · rwa [zbF (by omega)] at h
/-- isThing -/
theorem sp42 (hS : zs_0 S e) (hE : zXE C e E) (hW : zWF E) {a : Int} (ha : -2147483648 ≤ a ∧ a < 2147483648) : zCd X 0 42 [.ref e, .int (zi a)] S C (zQi q) = q (zb (0 ≤ a ∧ a < eT E)) C := by
  refine zc_eI (fun q h => vc42 hS ?_) q
  have := hW.2.1
  rw [zi_0, zi_1, hE.2.1, zlt_i (by omega), zlt_i (by omega)]
  split
  · rwa [zbF (by omega)] at h
  · split
    · rwa [zbT (by omega)] at h
    · rwa [zbF (by omega)] at h
/-- bentOf -/
theorem sp29 (hS : zs_0 S e) (hE : zXE C e E) {s : Nat} (hs : s < 3) : zCd X 1 29 [.ref e, .int (zi s)] S C (zQi q) = q (zi (eb E s)) C := by
  refine zc_eI (fun q h => vc29 hS ?_) q
  rw [sp11 (za_0_7 hS) (by omega) (by omega) (by omega)]
  rwa [Int.toNat_natCast, hE.2.2.2.2.2.2.2.1 s hs]
/-- worthTo -/
theorem sp41 (hS : zs_0 S e) (hE : zXE C e E) (hW : zWF E) {s k : Nat} (hs : s < eN E) (hk : k < eT E) : zCd X 1 41 [.ref e, .int (zi s), .int (zi k)] S C (zQi q) = q (zi (eu E s k)) C := by
  refine zc_eI (fun q h => vc41 hS ?_) q
  have h1 := hW.1
  have h2 := hW.2.1
  rw [sp27 hS hE hW (by omega), zb_t (by omega), sp42 hS hE hW (by omega), zb_t (by omega)]
  rw [zi_8, zi_mul, zi_add, sp11 (za_0_9 hS) (by omega) (by omega) (by omega)]
  rwa [show ((s : Int) * 8 + k).toNat = s * 8 + k by omega, hE.2.2.2.2.2.2.2.2.2 s k hs hk]
/-- ownerOf -/
theorem sp80 (hS : zs_0 S e) (hE : zXE C e E) (hW : zWF E) {k : Nat} (hk : k < eT E) : zCd X 1 80 [.ref e, .int (zi k)] S C (zQi q) = q (zi (ew E k)) C := by
  refine zc_eI (fun q h => vc80 hS ?_) q
  have h2 := hW.2.1
  rw [sp42 hS hE hW (by omega), zb_t (by omega), sp11 (za_0_8 hS) (by omega) (by omega) (by omega)]
  rwa [Int.toNat_natCast, hE.2.2.2.2.2.2.2.2.1 k hk]
end
/-- what a side has: by owners -/
def mHas (E : zT) (s : Nat) : Int := zsum (fun k => if ew E k = s then eu E s k else 0) (eT E)
section
variable {X : zX} {S : zx_S} {C : zx_C} {q : Int32 → zx_C → Prop} {e : Nat} {E : zT}
theorem lp40 (hS : zs_0 S e) (hE : zXE C e E) (hW : zWF E) {s : Nat} (hs : s < 3) : ∀ j i : Nat, i + j = eT E → q (zi (mHas E s)) C → zW X 2 40 4 [.ref e, .int (zi s), .int (zi (zsum (fun k => if ew E k = s then eu E s k else 0) i)), .int (zi i)] [] S C (zQi q) := by
  have h1 := hW.1
  have h2 := hW.2.1
  intro j
  induction j with
  | zero =>
    intro i hi hq
    refine vc40_4 (a1 := 0) hS ?_
    rw [hE.2.1, zlt_f (by omega)]
    rw [show i = eT E by omega]
    exact hq
  | succ j ih =>
    intro i hi hq
    refine vc40_4 (a1 := 0) hS ?_
    have hi2 : i < eT E := by omega
    have h3 := hW.2.2.2.2.2.2.2.1 i hi2
    rw [hE.2.1, zlt_t (by omega), sp11 (za_0_8 hS) (by omega) (by omega) (by omega)]
    rw [Int.toNat_natCast, hE.2.2.2.2.2.2.2.2.1 i hi2, zeq_i (by omega), zi_s]
    have ih2 := ih (i + 1) (by omega) hq
    simp only [zsum] at ih2
    by_cases ho : ew E i = s
    · rw [if_pos ho] at ih2 ⊢
      rw [sp41 hS hE hW (by omega) hi2, zi_add]
      exact ih2
    · rw [if_neg ho, Int.add_zero] at ih2
      rw [if_neg ho]
      exact ih2
/-- hasNow -/
theorem sp40 (hS : zs_0 S e) (hE : zXE C e E) (hW : zWF E) {s : Nat} (hs : s < 3) : zCd X 2 40 [.ref e, .int (zi s)] S C (zQi q) = q (zi (mHas E s)) C :=
  zc_eI (fun _ h => vc40 hS (lp40 hS hE hW hs (eT E) 0 (by omega) h)) q
end
