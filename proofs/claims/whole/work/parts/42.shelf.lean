/-- shelves: kinds (-1, a sort, 10 and a bent), sizes, sides of bents, elements -/
abbrev zH := (Nat → Int) × (Nat → Int) × (Nat → Int) × (Nat → Nat → Int64)
abbrev hk (H : zH) : Nat → Int := H.1
abbrev hz (H : zH) : Nat → Int := H.2.1
abbrev hb (H : zH) : Nat → Int := H.2.2.1
abbrev hl (H : zH) : Nat → Nat → Int64 := H.2.2.2
def zWH (H : zH) : Prop := ∀ s, s < 8 → (hk H s = -1 ∨ (0 ≤ hk H s ∧ hk H s ≤ 4 ∧ 0 ≤ hz H s ∧ hz H s ≤ 40) ∨ (10 ≤ hk H s ∧ hk H s ≤ 15 ∧ 0 ≤ hb H s ∧ hb H s ≤ 2))
def zXS (C : zx_C) (e : Nat) (H : zH) : Prop := ∀ s, s < 8 → C.1 (e + 1) s = zi (hk H s) ∧ (0 ≤ hk H s → hk H s ≤ 4 → C.1 (e + 2) s = zi (hz H s)) ∧ (10 ≤ hk H s → C.1 (e + 3) s = zi (hb H s)) ∧ (0 ≤ hk H s → hk H s ≤ 4 → ∀ i : Nat, i < hz H s → C.2 (e + 4) (s * 40 + i) = hl H s i)
section
variable {X : zX} {S : zx_S} {C : zx_C} {q : Int32 → zx_C → Prop} {e : Nat} {H : zH}
/-- kindOf -/
theorem sp16 (hS : zs_2 S e) (hH : zXS C e H) {s : Nat} (hs : s < 8) : zCd X 1 16 [.ref e, .int (zi s)] S C (zQi q) = q (zi (hk H s)) C := by
  refine zc_eI (fun q h => vc16 hS ?_) q
  rw [sp8 (by omega), zb_t (by omega), sp11 (za_2_0 hS) (by omega) (by omega) (by omega), Int.toNat_natCast, (hH s hs).1]
  exact h
theorem sp16n (hS : zs_2 S e) {a : Int} (ha : -2147483648 ≤ a ∧ a < 2147483648) (hn : ¬ (0 ≤ a ∧ a < 8)) : zCd X 1 16 [.ref e, .int (zi a)] S C (zQi q) = q (zi (-1)) C := by
  refine zc_eI (fun q h => vc16 hS ?_) q
  rw [sp8 ha, zb_f hn]
  exact h
/-- sizeOf -/
theorem sp15 (hS : zs_2 S e) (hH : zXS C e H) (hW : zWH H) {s : Nat} (hs : s < 8) : zCd X 2 15 [.ref e, .int (zi s)] S C (zQi q) = q (zi (if 0 ≤ hk H s ∧ hk H s ≤ 4 then hz H s else 0)) C := by
  refine zc_eI (fun q h => vc15 hS ?_) q
  have hw := hW s hs
  have hh := hH s hs
  rw [sp16 hS hH hs, sp9 (by omega)]
  by_cases c : 0 ≤ hk H s ∧ hk H s ≤ 4
  · rw [if_pos c] at h
    rw [zb_t c, sp11 (za_2_1 hS) (by omega) (by omega) (by omega), Int.toNat_natCast, hh.2.1 c.1 c.2]
    exact h
  · rw [if_neg c] at h
    rw [zb_f c]
    exact h
/-- rowTrouble -/
theorem sp19 (hS : zs_2 S e) (hH : zXS C e H) (hW : zWH H) {s : Nat} (hs : s < 8) : zCd X 2 19 [.ref e, .int (zi s)] S C (zQi q) = q (zi (if hk H s = -1 then -4 else if hk H s ≤ 4 then 0 else -3)) C := by
  refine zc_eI (fun q h => vc19 hS ?_) q
  have hw := hW s hs
  rw [sp16 hS hH hs, zi_m1, zeq_i (by omega)]
  by_cases c : hk H s = -1
  · rw [if_pos c] at h ⊢
    exact h
  · rw [if_neg c] at h ⊢
    rw [sp16 hS hH hs, sp9 (by omega)]
    by_cases c2 : hk H s ≤ 4
    · rw [if_pos c2] at h
      rw [zb_t (by omega)]
      exact h
    · rw [if_neg c2] at h
      rw [zb_f (by omega)]
      exact h
/-- bentTrouble -/
theorem sp33 (hS : zs_2 S e) (hH : zXS C e H) (hW : zWH H) {s : Nat} (hs : s < 8) : zCd X 2 33 [.ref e, .int (zi s)] S C (zQi q) = q (zi (if hk H s = -1 then -4 else if hk H s ≤ 4 then -3 else 0)) C := by
  refine zc_eI (fun q h => vc33 hS ?_) q
  have hw := hW s hs
  rw [sp16 hS hH hs, zi_m1, zeq_i (by omega)]
  by_cases c : hk H s = -1
  · rw [if_pos c] at h ⊢
    exact h
  · rw [if_neg c] at h ⊢
    rw [sp16 hS hH hs, sp9 (by omega)]
    by_cases c2 : hk H s ≤ 4
    · rw [if_pos c2] at h
      rw [zb_t (by omega)]
      exact h
    · rw [if_neg c2] at h
      rw [zb_f (by omega)]
      exact h
end
