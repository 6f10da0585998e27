theorem wLaw {E : zT} {v : Nat} (h : zWF E) (hv : v ≤ 3) : zWF (sLaw E v) := ⟨h.1, h.2.1, hv, h.2.2.2⟩
theorem wTurn {E : zT} {v : Nat} (h : zWF E) (hv : v ≤ 1000000000) : zWF (sTurn E v) := ⟨h.1, h.2.1, h.2.2.1, hv, h.2.2.2.2⟩
theorem wSeed {E : zT} {v : Int32} (h : zWF E) : zWF (sSeed E v) := h
theorem wBent {E : zT} {x : Nat} {v : Int} (h : zWF E) (hv : 0 ≤ v ∧ v ≤ 5) : zWF (sBent E x v) := by
  refine ⟨h.1, h.2.1, h.2.2.1, h.2.2.2.1, h.2.2.2.2.1, h.2.2.2.2.2.1, fun s hs => ?_, h.2.2.2.2.2.2.2⟩
  show 0 ≤ (if s = x then v else eb E s) ∧ (if s = x then v else eb E s) ≤ 5
  by_cases c : s = x
  · rw [if_pos c]; exact hv
  · rw [if_neg c]; exact h.2.2.2.2.2.2.1 s hs
theorem wOwn {E : zT} {x : Nat} {v : Int} (h : zWF E) (hv : -1 ≤ v ∧ v < eN E) : zWF (sOwn E x v) := by
  refine ⟨h.1, h.2.1, h.2.2.1, h.2.2.2.1, h.2.2.2.2.1, h.2.2.2.2.2.1, h.2.2.2.2.2.2.1, fun k hk => ?_, h.2.2.2.2.2.2.2.2⟩
  show -1 ≤ (if k = x then v else ew E k) ∧ (if k = x then v else ew E k) < eN E
  by_cases c : k = x
  · rw [if_pos c]; exact hv
  · rw [if_neg c]; exact h.2.2.2.2.2.2.2.1 k hk
theorem wWorth {E : zT} {x y : Nat} {v : Int} (h : zWF E) (hv : 0 ≤ v ∧ v ≤ 99) : zWF (sWorth E x y v) := by
  refine ⟨h.1, h.2.1, h.2.2.1, h.2.2.2.1, h.2.2.2.2.1, h.2.2.2.2.2.1, h.2.2.2.2.2.2.1, h.2.2.2.2.2.2.2.1, fun s k hs hk => ?_⟩
  show 0 ≤ (if s = x ∧ k = y then v else eu E s k) ∧ (if s = x ∧ k = y then v else eu E s k) ≤ 99
  by_cases c : s = x ∧ k = y
  · rw [if_pos c]; exact hv
  · rw [if_neg c]; exact h.2.2.2.2.2.2.2.2 s k hs hk
theorem wThing {E : zT} {a b c : Int} (h : zWF E) (hT : eT E < 8) (ha : 0 ≤ a ∧ a ≤ 99) (hb : 0 ≤ b ∧ b ≤ 99) (hc : eN E = 3 → 0 ≤ c ∧ c ≤ 99) : zWF (sThing E a b c) := by
  refine ⟨h.1, hT, h.2.2.1, h.2.2.2.1, h.2.2.2.2.1, h.2.2.2.2.2.1, h.2.2.2.2.2.2.1, fun k hk => ?_, fun s k hs hk => ?_⟩
  · show -1 ≤ (if k = eT E then -1 else ew E k) ∧ (if k = eT E then -1 else ew E k) < eN E
    have hk2 : k < eT E + 1 := hk
    by_cases c : k = eT E
    · rw [if_pos c]; omega
    · rw [if_neg c]; exact h.2.2.2.2.2.2.2.1 k (by omega)
  · show 0 ≤ (if k = eT E then (if s = 0 then a else if s = 1 then b else c) else eu E s k) ∧ (if k = eT E then (if s = 0 then a else if s = 1 then b else c) else eu E s k) ≤ 99
    have hk2 : k < eT E + 1 := hk
    have hs2 : s < eN E := hs
    have hn := h.1
    by_cases cc : k = eT E
    · rw [if_pos cc]
      by_cases c0 : s = 0
      · rw [if_pos c0]; exact ha
      · rw [if_neg c0]
        by_cases c1 : s = 1
        · rw [if_pos c1]; exact hb
        · rw [if_neg c1]; exact hc (by omega)
    · rw [if_neg cc]; exact h.2.2.2.2.2.2.2.2 s k hs2 (by omega)
theorem wSides {E : zT} {n : Nat} (h : zWF E) (hT : eT E = 0) (hn : n = 2 ∨ n = 3) : zWF (sSides E n) := by
  refine ⟨hn, h.2.1, h.2.2.1, h.2.2.2.1, ⟨Nat.le_refl 1, by show (1 : Nat) ≤ 12; omega⟩, fun i hi => ?_, fun s hs => ?_, fun k hk => ?_, fun s k hs hk => ?_⟩
  · show (0 : Int) ≤ 0 ∧ (0 : Int) < n
    omega
  · show (0 : Int) ≤ 0 ∧ (0 : Int) ≤ 5
    omega
  · have hk2 : k < eT E := hk
    omega
  · have hk2 : k < eT E := hk
    omega
theorem zWI_E {D : zDD} {E : zT} (h : zWI D) (hE : zWF E) : zWI (E, D.2) := ⟨hE, h.2⟩
