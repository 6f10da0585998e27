/-- a row, a bent, nothing put into a shelf; an element put -/
def sRow (H : zH) (s : Nat) (l n : Int) : zH := ((fun k => if k = s then l else hk H k), (fun k => if k = s then n else hz H k), hb H, (fun k i => if k = s then 0 else hl H k i))
def sShow (H : zH) (s : Nat) (x b : Int) : zH := ((fun k => if k = s then 10 + b else hk H k), hz H, (fun k => if k = s then x else hb H k), hl H)
def sHide (H : zH) (s : Nat) : zH := ((fun k => if k = s then -1 else hk H k), hz H, hb H, hl H)
def sPut (H : zH) (s i : Nat) (v : Int64) : zH := (hk H, hz H, hb H, (fun k j => if k = s ∧ j = i then v else hl H k j))
def sCopy (H : zH) (p q i j n : Nat) : zH := (hk H, hz H, hb H, (fun k m => if k = q ∧ j ≤ m ∧ m < j + n then hl H p (i + (m - j)) else hl H k m))
/-- what is in keeps its lowest bits -/
def zFH (H : zH) : Prop := ∀ s, s < 8 → 0 ≤ hk H s → hk H s ≤ 4 → ∀ i : Nat, i < hz H s → mFit (hk H s).toNat (hl H s i) = hl H s i
theorem mFit_z {l : Nat} : mFit l 0 = 0 := by
  unfold mFit
  split
  · rfl
  · split
    · rfl
    · split
      · rfl
      · split
        · rfl
        · rw [if_pos (by rfl)]
theorem mFit_f {l : Nat} {v : Int64} : mFit l (mFit l v) = mFit l v := by
  unfold mFit
  by_cases h0 : l = 0
  · simp only [if_pos h0, Int32.toInt32_toInt64, Int8.toInt8_toInt32]
  · simp only [if_neg h0]
    by_cases h1 : l = 1
    · simp only [if_pos h1, Int32.toInt32_toInt64, Int16.toInt16_toInt32]
    · simp only [if_neg h1]
      by_cases h2 : l = 2
      · simp only [if_pos h2, Int32.toInt32_toInt64]
      · simp only [if_neg h2]
        by_cases h3 : l = 3
        · simp only [if_pos h3]
        · simp only [if_neg h3]
          by_cases h4 : v.toInt = 0
          · simp only [if_pos h4]; rfl
          · simp only [if_neg h4]; rfl
theorem zXS_put {C : zx_C} {e : Nat} {H : zH} (hH : zXS C e H) (hW : zWH H) {s i : Nat} (hi : i < 40) (v : Int64) : zXS (zpl C (e + 4) (s * 40 + i) v) e (sPut H s i v) := by
  intro t ht
  have hh := hH t ht
  have hw := hW t ht
  refine ⟨hh.1, hh.2.1, hh.2.2.1, fun g1 g2 j hj => ?_⟩
  have g3 : 0 ≤ hk H t := g1
  have g4 : hk H t ≤ 4 := g2
  have hj2 : (j : Int) < hz H t := hj
  have h4 := hh.2.2.2 g1 g2 j hj
  rw [zpl_at]
  show _ = if t = s ∧ j = i then v else hl H t j
  by_cases c : t = s ∧ j = i
  · rw [if_pos c, if_pos ⟨rfl, by rw [c.1, c.2]⟩]
  · rw [if_neg c, if_neg (by omega)]
    exact h4
theorem zXS_of {C C1 : zx_C} {e : Nat} {H : zH} (hH : zXS C e H) (h1 : ∀ b k, e ≤ b → b < e + 5 → C1.1 b k = C.1 b k) (h2 : ∀ b k, e ≤ b → b < e + 5 → C1.2 b k = C.2 b k) : zXS C1 e H := by
  intro t ht
  have hh := hH t ht
  refine ⟨?_, fun g1 g2 => ?_, fun g1 => ?_, fun g1 g2 j hj => ?_⟩
  · rw [h1 _ _ (by omega) (by omega)]; exact hh.1
  · rw [h1 _ _ (by omega) (by omega)]; exact hh.2.1 g1 g2
  · rw [h1 _ _ (by omega) (by omega)]; exact hh.2.2.1 g1
  · rw [h2 _ _ (by omega) (by omega)]; exact hh.2.2.2 g1 g2 j hj
section
variable {X : zX} {S : zx_S} {C : zx_C} {q : zx_C → Prop} {e : Nat} {H : zH}
/-- putElement -/
theorem sp14 (hS : zs_2 S e) (hH : zXS C e H) (hW : zWH H) {s i : Nat} (hs : s < 8) (hr : 0 ≤ hk H s ∧ hk H s ≤ 4) (hi : (i : Int) < hz H s) {v : Int64} : zCd X 3 14 [.ref e, .int (zi s), .int (zi i), .long v] S C (zQv q) = q (zpl C (e + 4) (s * 40 + i) (mFit (hk H s).toNat v)) := by
  refine zc_eV (fun q h => vc14 hS ?_) q
  have hw := hW s hs
  rw [zi_0, zlt_f (by omega), sp15 hS hH hW hs, if_pos hr, zlt_t (by omega), zi_40, zi_mul, zi_add, zlt_f (by omega), zi_nat, zlt_t (by omega), sp16 hS hH hs, show zi (hk H s) = zi ((hk H s).toNat : Int) by rw [Int.toNat_of_nonneg hr.1], sp17 (by omega)]
  refine ⟨zi_in (by omega) (by omega) (by omega), ?_⟩
  rw [zi_ix (by omega) (by omega), show ((s : Int) * 40 + i).toNat = s * 40 + i by omega]
  exact h
theorem lq13 (hS : zs_2 S e) {s n : Nat} (hs : s < 8) (z2 : Value) : ∀ (j i : Nat) (C0 : zx_C) (H0 : zH), i + j = n → zXS C0 e H0 → zWH H0 → 0 ≤ hk H0 s ∧ hk H0 s ≤ 4 → hz H0 s = n → (∀ k, k < i → hl H0 s k = 0) → zW X 4 13 21 [.ref e, .int (zi s), z2, .int (zi n), .int (zi i)] [] S C0 (zQv (fun C1 => (∃ H1, zXS C1 e H1 ∧ hk H1 = hk H0 ∧ hz H1 = hz H0 ∧ hb H1 = hb H0 ∧ (∀ t k, t ≠ s → hl H1 t k = hl H0 t k) ∧ (∀ k, k < n → hl H1 s k = 0)) ∧ C1.1 = C0.1 ∧ (∀ b k, b ≠ e + 4 → C1.2 b k = C0.2 b k))) := by
  intro j
  induction j with
  | zero =>
    intro i C0 H0 hi g1 g2 g3 g4 g5
    have hw := g2 s hs
    refine vc13_21 (a1 := 0) (a2 := 0) (a3 := 0) hS ?_
    rw [zlt_f (by omega)]
    exact ⟨⟨H0, g1, rfl, rfl, rfl, fun _ _ _ => rfl, fun k hk => g5 k (by omega)⟩, rfl, fun _ _ _ => rfl⟩
  | succ j ih =>
    intro i C0 H0 hi g1 g2 g3 g4 g5
    have hw := g2 s hs
    refine vc13_21 (a1 := 0) (a2 := 0) (a3 := 0) hS ?_
    rw [zlt_t (by omega), sp14 hS g1 g2 hs g3 (by omega), mFit_z, zi_s]
    refine zW_mono (ih (i + 1) _ (sPut H0 s i 0) (by omega) (zXS_put g1 g2 (by omega) 0) g2 g3 g4 (fun k hk => ?_)) (fun v C1 w => ⟨w.1, ?_⟩)
    · show (if s = s ∧ k = i then (0 : Int64) else hl H0 s k) = 0
      by_cases c : k = i
      · rw [if_pos ⟨rfl, c⟩]
      · rw [if_neg (by omega)]
        exact g5 k (by omega)
    · obtain ⟨-, ⟨H1, w1, w2, w3, w4, w5, w6⟩, w7, w8⟩ := w
      refine ⟨⟨H1, w1, w2, w3, w4, fun t k ht => ?_, w6⟩, w7, fun b k hb => ?_⟩
      · rw [w5 t k ht]
        exact if_neg (by omega)
      · rw [w8 b k hb, zpl_at, if_neg (by omega)]
/-- putRow -/
theorem sp13 (hS : zs_2 S e) (hH : zXS C e H) (hW : zWH H) {s n : Nat} {l : Int} (hs : s < 8) (hl4 : 0 ≤ l ∧ l ≤ 4) (hn : n ≤ 40) : zCd X 4 13 [.ref e, .int (zi s), .int (zi l), .int (zi n)] S C (zQv (fun C1 => zXS C1 e (sRow H s l n) ∧ (∀ b k, (b < e ∨ e + 5 ≤ b) → C1.1 b k = C.1 b k) ∧ ∀ b k, (b < e ∨ e + 5 ≤ b) → C1.2 b k = C.2 b k)) := by
  refine vc13 hS ?_
  rw [sp12 (za_2_0 hS) (by omega) (by omega) (by omega), sp12 (za_2_1 hS) (by omega) (by omega) (by omega), Int.toNat_natCast]
  have hX : zXS (zp (zp C (e + 1) s (zi l)) (e + 2) s (zi n)) e ((fun k => if k = s then l else hk H k), (fun k => if k = s then (n : Int) else hz H k), hb H, (fun k i => C.2 (e + 4) (k * 40 + i))) := by
    intro t ht
    have hh := hH t ht
    show _ = zi (if t = s then l else hk H t) ∧ (0 ≤ (if t = s then l else hk H t) → (if t = s then l else hk H t) ≤ 4 → _ = zi (if t = s then (n : Int) else hz H t)) ∧ (10 ≤ (if t = s then l else hk H t) → _ = zi (hb H t)) ∧ (0 ≤ (if t = s then l else hk H t) → (if t = s then l else hk H t) ≤ 4 → ∀ i : Nat, i < (if t = s then (n : Int) else hz H t) → _)
    by_cases c : t = s
    · subst c
      rw [if_pos rfl, if_pos rfl, zp_ne (by omega), zp_hit, zp_hit]
      exact ⟨rfl, fun _ _ => rfl, fun g => by omega, fun _ _ i _ => rfl⟩
    · rw [if_neg c, if_neg c, zp_ne (by omega), zp_nf c, zp_nf c, zp_ne (by omega), zp_ne (by omega), zp_ne (by omega)]
      exact ⟨hh.1, hh.2.1, hh.2.2.1, fun _ _ i _ => rfl⟩
  refine zW_mono (lq13 hS hs _ n 0 _ _ (by omega) hX ?_ ?_ ?_ (fun k hk => absurd hk (Nat.not_lt_zero k))) (fun v C1 w => ⟨w.1, ?_⟩)
  · intro t ht
    have hw := hW t ht
    show (if t = s then l else hk H t) = -1 ∨ (0 ≤ (if t = s then l else hk H t) ∧ (if t = s then l else hk H t) ≤ 4 ∧ 0 ≤ (if t = s then (n : Int) else hz H t) ∧ (if t = s then (n : Int) else hz H t) ≤ 40) ∨ (10 ≤ (if t = s then l else hk H t) ∧ (if t = s then l else hk H t) ≤ 15 ∧ 0 ≤ hb H t ∧ hb H t ≤ 2)
    by_cases c : t = s
    · rw [if_pos c, if_pos c]; omega
    · rw [if_neg c, if_neg c]; omega
  · show 0 ≤ (if s = s then l else hk H s) ∧ (if s = s then l else hk H s) ≤ 4
    rw [if_pos rfl]; exact hl4
  · show (if s = s then (n : Int) else hz H s) = n
    rw [if_pos rfl]
  · obtain ⟨-, ⟨H1, w1, w2, w3, w4, w5, w6⟩, w7, w8⟩ := w
    refine ⟨fun t ht => ?_, fun b k hb => ?_, fun b k hb => ?_⟩
    · have hh := w1 t ht
      have hh2 := hH t ht
      rw [w2, w3, w4] at hh
      refine ⟨hh.1, hh.2.1, hh.2.2.1, fun g1 g2 i hi => ?_⟩
      have h4 := hh.2.2.2 g1 g2 i hi
      rw [h4]
      show _ = if t = s then (0 : Int64) else hl H t i
      have hi2 : (i : Int) < (if t = s then (n : Int) else hz H t) := hi
      have g3 : 0 ≤ (if t = s then l else hk H t) := g1
      have g4 : (if t = s then l else hk H t) ≤ 4 := g2
      by_cases c : t = s
      · rw [if_pos c] at hi2 ⊢
        rw [c]
        exact w6 i (by omega)
      · rw [if_neg c] at hi2 g3 g4 ⊢
        rw [w5 t i c]
        exact hh2.2.2.2 g3 g4 i hi2
    · rw [w7, zp_ne (by omega), zp_ne (by omega)]
    · rw [w8 b k (by omega)]; rfl
/-- putNothing -/
theorem sp28 (hS : zs_2 S e) (hH : zXS C e H) {s : Nat} (hs : s < 8) : zCd X 1 28 [.ref e, .int (zi s)] S C (zQv (fun C1 => zXS C1 e (sHide H s) ∧ (∀ b k, (b < e ∨ e + 5 ≤ b) → C1.1 b k = C.1 b k) ∧ C1.2 = C.2)) := by
  refine vc28 hS ?_
  rw [sp12 (za_2_0 hS) (by omega) (by omega) (by omega), Int.toNat_natCast, zi_m1]
  refine ⟨fun t ht => ?_, fun b k hb => zp_ne (by omega), rfl⟩
  have hh := hH t ht
  show _ = zi (if t = s then -1 else hk H t) ∧ (0 ≤ (if t = s then -1 else hk H t) → (if t = s then -1 else hk H t) ≤ 4 → _ = zi (hz H t)) ∧ (10 ≤ (if t = s then -1 else hk H t) → _ = zi (hb H t)) ∧ (0 ≤ (if t = s then -1 else hk H t) → (if t = s then -1 else hk H t) ≤ 4 → ∀ i : Nat, i < hz H t → C.2 (e + 4) (t * 40 + i) = hl H t i)
  by_cases c : t = s
  · subst c
    rw [if_pos rfl, zp_hit]
    exact ⟨rfl, fun g => by omega, fun g => by omega, fun g => by omega⟩
  · rw [if_neg c, zp_nf c, zp_ne (by omega), zp_ne (by omega)]
    exact hh
/-- putBent -/
theorem sp30 (hS : zs_2 S e) (hH : zXS C e H) {s : Nat} {x b : Int} (hs : s < 8) (hb5 : 0 ≤ b ∧ b ≤ 5) : zCd X 1 30 [.ref e, .int (zi s), .int (zi x), .int (zi b)] S C (zQv (fun C1 => zXS C1 e (sShow H s x b) ∧ (∀ b k, (b < e ∨ e + 5 ≤ b) → C1.1 b k = C.1 b k) ∧ C1.2 = C.2)) := by
  refine vc30 hS ?_
  rw [zi_10, zi_add, sp12 (za_2_0 hS) (by omega) (by omega) (by omega), sp12 (za_2_2 hS) (by omega) (by omega) (by omega), Int.toNat_natCast]
  refine ⟨fun t ht => ?_, fun b k hb => ?_, rfl⟩
  · have hh := hH t ht
    show _ = zi (if t = s then 10 + b else hk H t) ∧ (0 ≤ (if t = s then 10 + b else hk H t) → (if t = s then 10 + b else hk H t) ≤ 4 → _ = zi (hz H t)) ∧ (10 ≤ (if t = s then 10 + b else hk H t) → _ = zi (if t = s then x else hb H t)) ∧ (0 ≤ (if t = s then 10 + b else hk H t) → (if t = s then 10 + b else hk H t) ≤ 4 → ∀ i : Nat, i < hz H t → C.2 (e + 4) (t * 40 + i) = hl H t i)
    by_cases c : t = s
    · subst c
      rw [if_pos rfl, if_pos rfl, zp_ne (by omega), zp_hit, zp_hit]
      exact ⟨rfl, fun g g2 => by omega, fun g => rfl, fun g g2 => by omega⟩
    · rw [if_neg c, if_neg c]
      simp only [zp_nf c]
      exact hh
  · rw [zp_ne (by omega), zp_ne (by omega)]
end
section
variable {X : zX} {S : zx_S} {C : zx_C} {q : Int32 → zx_C → Prop} {e : Nat} {H : zH}
/-- bentOf -/
theorem sp34 (hS : zs_2 S e) (hH : zXS C e H) {s : Nat} (hs : s < 8) : zCd X 2 34 [.ref e, .int (zi s)] S C (zQi q) = q (zi (hk H s - 10)) C := by
  refine zc_eI (fun q h => vc34 hS ?_) q
  rw [sp16 hS hH hs, zi_10, zi_sub]
  exact h
/-- sideOfBent -/
theorem sp36 (hS : zs_2 S e) (hH : zXS C e H) {s : Nat} (hs : s < 8) (hb10 : 10 ≤ hk H s) : zCd X 1 36 [.ref e, .int (zi s)] S C (zQi q) = q (zi (hb H s)) C := by
  refine zc_eI (fun q h => vc36 hS ?_) q
  rw [sp11 (za_2_2 hS) (by omega) (by omega) (by omega), Int.toNat_natCast, (hH s hs).2.2.1 hb10]
  exact h
/-- pairTrouble -/
theorem sp21 (hS : zs_2 S e) (hH : zXS C e H) (hW : zWH H) {s t : Nat} (hs : s < 8) (ht : t < 8) : zCd X 3 21 [.ref e, .int (zi s), .int (zi t)] S C (zQi q) = q (zi (if 4 < hk H s ∨ 4 < hk H t then -3 else if hk H s = -1 ∨ hk H t = -1 then -4 else if hk H s = hk H t then 0 else -3)) C := by
  refine zc_eI (fun q h => vc21 hS ?_) q
  have hw := hW s hs
  have hv := hW t ht
  rw [sp19 hS hH hW hs, sp19 hS hH hW ht, sp16 hS hH hs, sp16 hS hH ht, show (-3 : Int32) = zi (-3) from rfl, show (-4 : Int32) = zi (-4) from rfl, zeq_i (by omega), zeq_i (by omega), zeq_i (by omega), zeq_i (by omega), zeq_i (by omega)]
  by_cases c1 : 4 < hk H s
  · rw [if_pos (by omega)] at h
    rw [if_pos (by omega)]; exact h
  · rw [if_neg (show ¬ ((if hk H s = -1 then (-4 : Int) else if hk H s ≤ 4 then 0 else -3) = -3) by omega)]
    by_cases c2 : 4 < hk H t
    · rw [if_pos (by omega)] at h
      rw [if_pos (by omega)]; exact h
    · rw [if_neg (show ¬ ((if hk H t = -1 then (-4 : Int) else if hk H t ≤ 4 then 0 else -3) = -3) by omega)]
      rw [if_neg (by omega)] at h
      by_cases c3 : hk H s = -1
      · rw [if_pos (by omega)] at h
        rw [if_pos (by omega)]; exact h
      · rw [if_neg (show ¬ ((if hk H s = -1 then (-4 : Int) else if hk H s ≤ 4 then 0 else -3) = -4) by omega)]
        by_cases c4 : hk H t = -1
        · rw [if_pos (by omega)] at h
          rw [if_pos (by omega)]; exact h
        · rw [if_neg (show ¬ ((if hk H t = -1 then (-4 : Int) else if hk H t ≤ 4 then 0 else -3) = -4) by omega)]
          rw [if_neg (by omega)] at h
          by_cases c5 : hk H s = hk H t
          · rw [if_pos c5] at h ⊢; exact h
          · rw [if_neg c5] at h ⊢; exact h
/-- how many shelves hold something -/
def mHeld (H : zH) : Nat → Nat
  | 0 => 0
  | n + 1 => mHeld H n + if hk H n = -1 then 0 else 1
theorem mHeld_le (H : zH) (n : Nat) : mHeld H n ≤ n := by
  induction n with
  | zero => exact Nat.le_refl 0
  | succ n ih => simp only [mHeld]; split <;> omega
theorem lp156 (hS : zs_2 S e) (hH : zXS C e H) (hW : zWH H) : ∀ j i : Nat, i + j = 8 → q (zi (mHeld H 8)) C → zW X 2 156 4 [.ref e, .int (zi (mHeld H i)), .int (zi i)] [] S C (zQi q) := by
  intro j
  induction j with
  | zero =>
    intro i hi hq
    refine vc156_4 hS ?_
    rw [zi_8, zlt_f (by omega), show i = 8 by omega]
    exact hq
  | succ j ih =>
    intro i hi hq
    have hw := hW i (by omega)
    refine vc156_4 hS ?_
    rw [zi_8, zlt_t (by omega), sp16 hS hH (by omega), zi_m1, zeq_i (by omega), zi_s, zi_0, zi_1, zi_add, zi_add]
    have ih2 := ih (i + 1) (by omega) hq
    simp only [mHeld] at ih2
    by_cases c : hk H i = -1
    · rw [if_pos c] at ih2 ⊢; exact ih2
    · rw [if_neg c] at ih2 ⊢; exact ih2
/-- countHeld -/
theorem sp156 (hS : zs_2 S e) (hH : zXS C e H) (hW : zWH H) : zCd X 2 156 [.ref e] S C (zQi q) = q (zi (mHeld H 8)) C :=
  zc_eI (fun _ h => vc156 hS (lp156 hS hH hW 8 0 (by omega) h)) q
theorem lp77 (hS : zs_2 S e) (hH : zXS C e H) (hW : zWH H) {s n b : Nat} (hs : s < 8) (hb : b < 1000) (hr : 0 ≤ hk H s ∧ hk H s ≤ 4) (hn : (n : Int) ≤ hz H s) : ∀ (j i : Nat) (z5 z6 : Value), i + j = n → (∀ k, k < i → 0 ≤ (hl H s k).toInt ∧ (hl H s k).toInt < b) → q (zb (∀ k, k < n → 0 ≤ (hl H s k).toInt ∧ (hl H s k).toInt < b)) C → zW X 4 77 14 [.ref e, .int (zi s), .int (zi n), .int (zi b), .int (zi i), z5, z6] [] S C (zQi q) := by
  have hw := hW s hs
  intro j
  induction j with
  | zero =>
    intro i z5 z6 hi g hq
    refine vc77_14 (a1 := 0) (a2 := 0) (a3 := 0) hS ?_
    rw [zlt_f (by omega)]
    rwa [zbT (fun k hk => g k (by omega))] at hq
  | succ j ih =>
    intro i z5 z6 hi g hq
    refine vc77_14 (a1 := 0) (a2 := 0) (a3 := 0) hS ?_
    have hb2 : (Int32.toInt64 (zi b)).toInt = b := by rw [zl_zi (by omega), zl_toInt (by omega)]
    rw [zlt_t (by omega), sp23 hS hH hW hs (by omega), show mElem H s (i : Int) = hl H s i from if_pos ⟨by omega, hr.1, hr.2, by omega⟩, lg_lt, lg_lt, hb2, zi_s, show (0 : Int64).toInt = 0 from rfl]
    by_cases c1 : (hl H s i).toInt < 0
    · rw [if_pos c1]
      rwa [zbF (fun g2 => by have := g2 i (by omega); omega)] at hq
    · rw [if_neg c1]
      by_cases c2 : (hl H s i).toInt < b
      · rw [if_pos c2]
        refine ih (i + 1) _ _ (by omega) (fun k hk => ?_) hq
        by_cases c3 : k = i
        · subst c3; omega
        · exact g k (by omega)
      · rw [if_neg c2]
        rwa [zbF (fun g2 => by have := g2 i (by omega); omega)] at hq
/-- isRowBelow -/
theorem sp77 (hS : zs_2 S e) (hH : zXS C e H) (hW : zWH H) {s n b : Nat} (hs : s < 8) (hn : n < 1000) (hb : b < 1000) (hr : 0 ≤ hk H s ∧ hk H s ≤ 4) : zCd X 4 77 [.ref e, .int (zi s), .int (zi n), .int (zi b)] S C (zQi q) = q (zb ((n : Int) ≤ hz H s ∧ ∀ k, k < n → 0 ≤ (hl H s k).toInt ∧ (hl H s k).toInt < b)) C := by
  refine zc_eI (fun q h => vc77 hS ?_) q
  have hw := hW s hs
  rw [sp15 hS hH hW hs, if_pos hr]
  by_cases c : hz H s < n
  · rw [zlt_t (by omega)]
    rwa [zbF (by omega)] at h
  · rw [zlt_f (by omega)]
    refine lp77 hS hH hW hs hb hr (by omega) n 0 _ _ (by omega) (fun k hk => absurd hk (Nat.not_lt_zero k)) ?_
    by_cases c2 : ∀ k, k < n → 0 ≤ (hl H s k).toInt ∧ (hl H s k).toInt < b
    · rw [zbT c2]; rwa [zbT ⟨by omega, c2⟩] at h
    · rw [zbF c2]; rwa [zbF (fun g => c2 g.2)] at h
end
section
variable {X : zX} {S : zx_S} {C : zx_C} {q : zx_C → Prop} {e : Nat} {H : zH}
/-- what stands in a row while it's copied -/
def sCop (H : zH) (p q i j n m : Nat) : zH := (hk H, hz H, hb H, (fun k x => if k = q ∧ (if i < j then j + n ≤ x + m ∧ x < j + n else j ≤ x ∧ x < j + m) then hl H p (i + (x - j)) else hl H k x))
theorem lq22 (hS : zs_2 S e) (hW : zWH H) (hF : zFH H) {p r i j n : Nat} (hp : p < 8) (hr : r < 8) (hkp : 0 ≤ hk H p ∧ hk H p ≤ 4) (hkr : hk H r = hk H p) (hi : (i : Int) + n ≤ hz H p) (hj : (j : Int) + n ≤ hz H r) : ∀ (t m : Nat) (C0 : zx_C) (z7 : Value), m + t = n → zXS C0 e (sCop H p r i j n m) → zW X 4 22 3 [.ref e, .int (zi p), .int (zi r), .int (zi i), .int (zi j), .int (zi n), .int (zi m), z7] [] S C0 (zQv (fun C1 => zXS C1 e (sCop H p r i j n n) ∧ C1.1 = C0.1 ∧ (∀ b k, b ≠ e + 4 → C1.2 b k = C0.2 b k))) := by
  have hwp := hW p hp
  have hwr := hW r hr
  intro t
  induction t with
  | zero =>
    intro m C0 z7 hm g
    refine vc22_3 (a1 := 0) (a2 := 0) (a3 := 0) (a4 := 0) (a5 := 0) hS ?_
    rw [zlt_f (by omega)]
    rw [show m = n by omega] at g
    exact ⟨g, rfl, fun _ _ _ => rfl⟩
  | succ t ih =>
    intro m C0 z7 hm g
    refine vc22_3 (a1 := 0) (a2 := 0) (a3 := 0) (a4 := 0) (a5 := 0) hS ?_
    rw [zlt_t (by omega)]
    have hWc : zWH (sCop H p r i j n m) := hW
    have key : ∀ st : Nat, (if i < j then st + m + 1 = n else st = m) → zCd X 3 23 [.ref e, .int (zi p), .int (zi ((i + st : Nat) : Int))] S C0 (zQl (fun r1 C1 => zCd X 3 14 [.ref e, .int (zi r), .int (zi ((j + st : Nat) : Int)), .long r1] S C1 (zQv (fun C2 => zW X 4 22 3 [.ref e, .int (zi p), .int (zi r), .int (zi i), .int (zi j), .int (zi n), .int (zi ((m + 1 : Nat) : Int)), .int (zi st)] [] S C2 (zQv (fun C1 => zXS C1 e (sCop H p r i j n n) ∧ C1.1 = C0.1 ∧ (∀ b k, b ≠ e + 4 → C1.2 b k = C0.2 b k))))))) := by
      intro st hst
      have hst2 : st < n := by split at hst <;> omega
      rw [sp23 hS g hWc hp (by omega)]
      have hv : mElem (sCop H p r i j n m) p ((i + st : Nat) : Int) = hl H p (i + st) := by
        show (if 0 ≤ ((i + st : Nat) : Int) ∧ 0 ≤ hk H p ∧ hk H p ≤ 4 ∧ ((i + st : Nat) : Int) < hz H p then (if p = r ∧ (if i < j then j + n ≤ ((i + st : Nat) : Int).toNat + m ∧ ((i + st : Nat) : Int).toNat < j + n else j ≤ ((i + st : Nat) : Int).toNat ∧ ((i + st : Nat) : Int).toNat < j + m) then hl H p (i + (((i + st : Nat) : Int).toNat - j)) else hl H p ((i + st : Nat) : Int).toNat) else 0) = _
        rw [if_pos (by omega), Int.toNat_natCast]
        refine if_neg (fun q => ?_)
        have q2 := q.2
        split at hst
        · next c => rw [if_pos c] at q2; omega
        · next c => rw [if_neg c] at q2; omega
      rw [hv, sp14 hS g hWc hr (show 0 ≤ hk H r ∧ hk H r ≤ 4 by omega) (show ((j + st : Nat) : Int) < hz H r by omega)]
      have hfit : mFit (hk (sCop H p r i j n m) r).toNat (hl H p (i + st)) = hl H p (i + st) := by
        show mFit (hk H r).toNat _ = _
        rw [hkr]
        exact hF p hp hkp.1 hkp.2 _ (by omega)
      rw [hfit]
      have hnew : zXS (zpl C0 (e + 4) (r * 40 + (j + st)) (hl H p (i + st))) e (sCop H p r i j n (m + 1)) := by
        have h1 := zXS_put g hWc (s := r) (i := j + st) (by omega) (hl H p (i + st))
        have h2 : sPut (sCop H p r i j n m) r (j + st) (hl H p (i + st)) = sCop H p r i j n (m + 1) := by
          unfold sPut sCop
          refine congrArg (fun f => (hk H, hz H, hb H, f)) ?_
          funext k x
          show (if k = r ∧ x = j + st then hl H p (i + st) else (if k = r ∧ (if i < j then j + n ≤ x + m ∧ x < j + n else j ≤ x ∧ x < j + m) then hl H p (i + (x - j)) else hl H k x)) = _
          by_cases c1 : k = r ∧ x = j + st
          · rw [if_pos c1, if_pos ⟨c1.1, by split at hst <;> split <;> omega⟩, c1.2, show j + st - j = st by omega]
          · rw [if_neg c1]
            by_cases c2 : k = r ∧ (if i < j then j + n ≤ x + m ∧ x < j + n else j ≤ x ∧ x < j + m)
            · rw [if_pos c2, if_pos ⟨c2.1, by have c3 := c2.2; split at c3 <;> split <;> omega⟩]
            · rw [if_neg c2, if_neg (fun c3 => ?_)]
              have c4 := c3.2
              refine c2 ⟨c3.1, ?_⟩
              have c5 : ¬ x = j + st := fun q => c1 ⟨c3.1, q⟩
              split at hst
              · next c => rw [if_pos c] at c4 ⊢; omega
              · next c => rw [if_neg c] at c4 ⊢; omega
        rw [h2] at h1
        exact h1
      refine zW_mono (ih (m + 1) _ _ (by omega) hnew) (fun v C1 w => ⟨w.1, w.2.1, ?_, fun b k hb => ?_⟩)
      · rw [w.2.2.1]; rfl
      · rw [w.2.2.2 b k hb, zpl_at, if_neg (by omega)]
    by_cases c : i < j
    · rw [zlt_t (by omega), zi_1, zi_sub, zi_sub, zi_add, zi_add, ← zi_1, zi_s]
      have := key (n - 1 - m) (by rw [if_pos c]; omega)
      rw [show (i : Int) + ((n : Int) - 1 - m) = ((i + (n - 1 - m) : Nat) : Int) by omega, show (j : Int) + ((n : Int) - 1 - m) = ((j + (n - 1 - m) : Nat) : Int) by omega, show ((n : Int) - 1 - m) = ((n - 1 - m : Nat) : Int) by omega]
      exact this
    · rw [zlt_f (by omega), zi_add, zi_add, zi_s]
      exact key m (by rw [if_neg c])
/-- copyElements -/
theorem sp22 (hS : zs_2 S e) (hH : zXS C e H) (hW : zWH H) (hF : zFH H) {p r i j n : Nat} (hp : p < 8) (hr : r < 8) (hkp : 0 ≤ hk H p ∧ hk H p ≤ 4) (hkr : hk H r = hk H p) (hi : (i : Int) + n ≤ hz H p) (hj : (j : Int) + n ≤ hz H r) : zCd X 4 22 [.ref e, .int (zi p), .int (zi r), .int (zi i), .int (zi j), .int (zi n)] S C (zQv (fun C1 => zXS C1 e (sCopy H p r i j n) ∧ C1.1 = C.1 ∧ (∀ b k, (b < e ∨ e + 5 ≤ b) → C1.2 b k = C.2 b k))) := by
  have h0 : sCop H p r i j n 0 = H := by
    unfold sCop
    have : (fun (k x : Nat) => if k = r ∧ (if i < j then j + n ≤ x + 0 ∧ x < j + n else j ≤ x ∧ x < j + 0) then hl H p (i + (x - j)) else hl H k x) = hl H := by
      funext k x
      exact if_neg (fun q => by have := q.2; split at this <;> omega)
    rw [this]
  have hn : sCop H p r i j n n = sCopy H p r i j n := by
    unfold sCop sCopy
    refine congrArg (fun f => (hk H, hz H, hb H, f)) ?_
    funext k x
    by_cases c : k = r ∧ j ≤ x ∧ x < j + n
    · rw [if_pos c, if_pos ⟨c.1, by split <;> omega⟩]
    · rw [if_neg c, if_neg (fun q => ?_)]
      have q2 := q.2
      exact c ⟨q.1, by split at q2 <;> omega⟩
  have hl := lq22 (X := X) hS hW hF hp hr hkp hkr hi hj n 0 C (.retAddr 0) (by omega) (by rw [h0]; exact hH)
  rw [hn] at hl
  exact vc22 hS (zW_mono hl (fun v C1 w => ⟨w.1, w.2.1, w.2.2.1, fun b k hb => w.2.2.2 b k (by omega)⟩))
end
