/-- a number as the machine has it -/
def zi (k : Int) : Int32 := Int32.ofInt k
theorem zi_nat (n : Nat) : Int32.ofNat n = zi n := (Int32.ofInt_eq_ofNat).symm
theorem zi_toInt {a : Int} (h1 : -2147483648 ≤ a) (h2 : a < 2147483648) : (zi a).toInt = a := Int32.toInt_ofInt_of_le h1 h2
theorem zi_of (x : Int32) : zi x.toInt = x := Int32.ofInt_toInt x
theorem zi_lt {a b : Int} (h1 : -2147483648 ≤ a) (h2 : a < 2147483648) (h3 : -2147483648 ≤ b) (h4 : b < 2147483648) : (zi a < zi b) = (a < b) := by
  rw [Int32.lt_iff_toInt_lt, zi_toInt h1 h2, zi_toInt h3 h4]
theorem zi_le {a b : Int} (h1 : -2147483648 ≤ a) (h2 : a < 2147483648) (h3 : -2147483648 ≤ b) (h4 : b < 2147483648) : (zi a ≤ zi b) = (a ≤ b) := by
  rw [Int32.le_iff_toInt_le, zi_toInt h1 h2, zi_toInt h3 h4]
theorem zi_eq {a b : Int} (h1 : -2147483648 ≤ a) (h2 : a < 2147483648) (h3 : -2147483648 ≤ b) (h4 : b < 2147483648) : (zi a = zi b) = (a = b) := by
  refine propext ⟨fun h => ?_, fun h => by rw [h]⟩
  have := congrArg Int32.toInt h
  rwa [zi_toInt h1 h2, zi_toInt h3 h4] at this
theorem zi_ix {a : Int} (h1 : -2147483648 ≤ a) (h2 : a < 2147483648) : (zi a).toNatClampNeg = a.toNat := by
  rw [← Int32.toNat_toInt, zi_toInt h1 h2]
theorem zi_add (a b : Int) : zi a + zi b = zi (a + b) := (Int32.ofInt_add a b).symm
theorem zi_sub (a b : Int) : zi a - zi b = zi (a - b) := (Int32.ofInt_sub a b).symm
theorem zi_mul (a b : Int) : zi a * zi b = zi (a * b) := (Int32.ofInt_mul a b).symm
theorem zi_neg (a : Int) : - zi a = zi (-a) := (Int32.ofInt_neg a).symm
theorem zi_div {a b : Int} (h1 : 0 ≤ a) (h2 : a < 2147483648) (h3 : 0 < b) (h4 : b < 2147483648) : zi a / zi b = zi (a / b) := by
  have h5 : a / b ≤ a := Int.ediv_le_self b h1
  have h6 : 0 ≤ a / b := Int.ediv_nonneg h1 (by omega)
  refine Int32.toInt_inj.mp ?_
  rw [Int32.toInt_div_of_ne_right, zi_toInt (by omega) h2, zi_toInt (by omega) h4, zi_toInt (by omega) (by omega), Int.tdiv_eq_ediv_of_nonneg h1]
  intro h
  have := congrArg Int32.toInt h
  rw [zi_toInt (by omega) h4] at this
  have h7 : (-1 : Int32).toInt = -1 := rfl
  omega
theorem zi_em (a b : Int) : a - a / b * b = a % b := by
  rw [Int.emod_def, Int.mul_comm]
theorem zi_0 : (0 : Int32) = zi 0 := rfl
theorem zi_1 : (1 : Int32) = zi 1 := rfl
theorem zi_2 : (2 : Int32) = zi 2 := rfl
theorem zi_3 : (3 : Int32) = zi 3 := rfl
theorem zi_4 : (4 : Int32) = zi 4 := rfl
theorem zi_5 : (5 : Int32) = zi 5 := rfl
theorem zi_6 : (6 : Int32) = zi 6 := rfl
theorem zi_7 : (7 : Int32) = zi 7 := rfl
theorem zi_8 : (8 : Int32) = zi 8 := rfl
theorem zi_9 : (9 : Int32) = zi 9 := rfl
theorem zi_10 : (10 : Int32) = zi 10 := rfl
theorem zi_12 : (12 : Int32) = zi 12 := rfl
theorem zi_16 : (16 : Int32) = zi 16 := rfl
theorem zi_20 : (20 : Int32) = zi 20 := rfl
theorem zi_24 : (24 : Int32) = zi 24 := rfl
theorem zi_31 : (31 : Int32) = zi 31 := rfl
theorem zi_32 : (32 : Int32) = zi 32 := rfl
theorem zi_40 : (40 : Int32) = zi 40 := rfl
theorem zi_99 : (99 : Int32) = zi 99 := rfl
theorem zi_100 : (100 : Int32) = zi 100 := rfl
theorem zi_250 : (250 : Int32) = zi 250 := rfl
theorem zi_255 : (255 : Int32) = zi 255 := rfl
theorem zi_256 : (256 : Int32) = zi 256 := rfl
theorem zi_m1 : (-1 : Int32) = zi (-1) := rfl
theorem zi_m2 : (-2 : Int32) = zi (-2) := rfl
theorem zi_m20 : (-20 : Int32) = zi (-20) := rfl
theorem zi_s (k : Nat) : zi (k : Int) + 1 = zi ((k + 1 : Nat) : Int) := by
  rw [zi_1, zi_add]; rfl
/-- choices -/
theorem zlt_t {a b : Int} {x y : Prop} (h : -2147483648 ≤ a ∧ a < 2147483648 ∧ -2147483648 ≤ b ∧ b < 2147483648 ∧ a < b) : (if zi a < zi b then x else y) = x :=
  if_pos ((zi_lt h.1 h.2.1 h.2.2.1 h.2.2.2.1).mpr h.2.2.2.2)
theorem zlt_f {a b : Int} {x y : Prop} (h : -2147483648 ≤ a ∧ a < 2147483648 ∧ -2147483648 ≤ b ∧ b < 2147483648 ∧ ¬ a < b) : (if zi a < zi b then x else y) = y :=
  if_neg (fun q => h.2.2.2.2 ((zi_lt h.1 h.2.1 h.2.2.1 h.2.2.2.1).mp q))
theorem zeq_t {a b : Int} {x y : Prop} (h : a = b) : (if zi a = zi b then x else y) = x := if_pos (by rw [h])
theorem zeq_f {a b : Int} {x y : Prop} (h : -2147483648 ≤ a ∧ a < 2147483648 ∧ -2147483648 ≤ b ∧ b < 2147483648 ∧ ¬ a = b) : (if zi a = zi b then x else y) = y :=
  if_neg (fun q => h.2.2.2.2 ((zi_eq h.1 h.2.1 h.2.2.1 h.2.2.2.1).mp q))
theorem zlt_i {a b : Int} {x y : Prop} (h : -2147483648 ≤ a ∧ a < 2147483648 ∧ -2147483648 ≤ b ∧ b < 2147483648) : (if zi a < zi b then x else y) = (if a < b then x else y) := by
  simp only [zi_lt h.1 h.2.1 h.2.2.1 h.2.2.2]
theorem zeq_i {a b : Int} {x y : Prop} (h : -2147483648 ≤ a ∧ a < 2147483648 ∧ -2147483648 ≤ b ∧ b < 2147483648) : (if zi a = zi b then x else y) = (if a = b then x else y) := by
  simp only [zi_eq h.1 h.2.1 h.2.2.1 h.2.2.2]
/-- an index that is in -/
theorem zi_in {a : Int} {n : Nat} (h1 : 0 ≤ a) (h2 : a < n) (h3 : n < 2147483648) : vp_in (zi a) n := by
  intro h
  rcases h with h | h
  · rw [zi_0, zi_lt (by omega) (by omega) (by omega) (by omega)] at h; omega
  · rw [zi_ix (by omega) (by omega)] at h; omega
/-- cells -/
theorem zp_at (C : zx_C) (a i : Nat) (v : Int32) (b j : Nat) : (zp C a i v).1 b j = if b = a ∧ j = i then v else C.1 b j := rfl
theorem zp_long (C : zx_C) (a i : Nat) (v : Int32) : (zp C a i v).2 = C.2 := rfl
theorem zpl_at (C : zx_C) (a i : Nat) (v : Int64) (b j : Nat) : (zpl C a i v).2 b j = if b = a ∧ j = i then v else C.2 b j := rfl
theorem zpl_int (C : zx_C) (a i : Nat) (v : Int64) : (zpl C a i v).1 = C.1 := rfl
theorem zp_hit (C : zx_C) (a i : Nat) (v : Int32) : (zp C a i v).1 a i = v := by rw [zp_at, if_pos ⟨rfl, rfl⟩]
theorem zp_miss (C : zx_C) (a i : Nat) (v : Int32) {b j : Nat} (h : b = a → j ≠ i) : (zp C a i v).1 b j = C.1 b j := by
  rw [zp_at, if_neg (fun q => h q.1 q.2)]
/-- what a sum comes to -/
def zsum (f : Nat → Int) : Nat → Int
  | 0 => 0
  | n + 1 => zsum f n + f n
theorem zsum_b {f : Nat → Int} {a : Int} (h : ∀ k, 0 ≤ f k ∧ f k ≤ a) : ∀ n : Nat, 0 ≤ zsum f n ∧ zsum f n ≤ n * a := by
  intro n
  induction n with
  | zero => simp [zsum]
  | succ n ih =>
    have := h n
    have h2 : ((n + 1 : Nat) : Int) * a = n * a + a := by rw [Int.natCast_add, Int.add_mul]; simp
    simp only [zsum]
    omega
/-- FirstAtTheFirst.at -/
theorem sp11 {X : zX} {S : zx_S} {C : zx_C} {q : Int32 → zx_C → Prop} {a n : Nat} {i : Int} (h1 : a < 900000 ∧ S.1 a = (10, n)) (h2 : 0 ≤ i) (h3 : i < n) (h4 : n < 2147483648) : zCd X 0 11 [.ref a, .int (zi i)] S C (zQi q) = q (C.1 a i.toNat) C := by
  refine zc_eI (fun q h => vc11 h1 ?_) q
  rw [zi_0, zi_nat, zlt_f (by omega), zlt_t (by omega), zi_ix (by omega) (by omega)]
  exact ⟨zi_in h2 h3 h4, h⟩
theorem sp11n {X : zX} {S : zx_S} {C : zx_C} {q : Int32 → zx_C → Prop} {a n : Nat} {i : Int} (h1 : a < 900000 ∧ S.1 a = (10, n)) (h2 : i < 0 ∨ n ≤ i) (h3 : -2147483648 ≤ i) (h5 : i < 2147483648) (h4 : n < 2147483648) : zCd X 0 11 [.ref a, .int (zi i)] S C (zQi q) = q (zi 0) C := by
  refine zc_eI (fun q h => vc11 h1 ?_) q
  rw [zi_0, zi_nat]
  by_cases hi : i < 0
  · rw [zlt_t (by omega)]; exact h
  · rw [zlt_f (by omega), zlt_f (by omega)]; exact h
/-- FirstAtTheFirst.put -/
theorem sp12 {X : zX} {S : zx_S} {C : zx_C} {q : zx_C → Prop} {a n : Nat} {i : Int} {v : Int32} (h1 : a < 900000 ∧ S.1 a = (10, n)) (h2 : 0 ≤ i) (h3 : i < n) (h4 : n < 2147483648) : zCd X 0 12 [.ref a, .int (zi i), .int v] S C (zQv q) = q (zp C a i.toNat v) := by
  refine zc_eV (fun q h => vc12 h1 ?_) q
  rw [zi_0, zi_nat, zlt_f (by omega), zlt_t (by omega), zi_ix (by omega) (by omega)]
  exact ⟨zi_in h2 h3 h4, h⟩
