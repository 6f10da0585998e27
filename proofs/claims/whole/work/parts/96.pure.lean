/-! WHAT A STATEMENT, AND A TEXT, COMES TO: it's an estate again, and the places are on the tape -/
def zOk (n : Nat) (b : Nat → Int) (p : Nat) (o : zSo) : Prop := match o with
  | .inl β => β ≤ n
  | .inr q => zWF q.1 ∧ zTv n b q.2 ∧ p ≤ q.2.2.1
section
variable {n : Nat} {b : Nat → Int} {E : zT} {p : Nat}
theorem tN_p (h : p ≤ n) : p ≤ (tN n b p).2.1 ∧ (tN n b p).2.1 ≤ (tN n b p).2.2 ∧ (tN n b p).2.2 ≤ n := by
  obtain ⟨h1, h2, h3, -⟩ := tN_le (b := b) h
  exact ⟨h1, h2, h3⟩
theorem oLaw_ok (hW : zWF E) (h : p ≤ n) : zOk n b p (oLaw n b E (tN n b p)) := by
  obtain ⟨h1, h2, h3⟩ := tN_p (b := b) h
  obtain ⟨g1, g2, g3⟩ := tN_p (b := b) h3
  unfold oLaw
  by_cases c : rK b (tN n b p) 0 3
  · rw [if_pos c]
    obtain ⟨c1, c2, c3, c4⟩ := c
    exact ⟨wLaw hW (by omega), tN_v h3, by show p ≤ (tN n b (tN n b p).2.2).2.1; omega⟩
  · rw [if_neg c]
    show (tN n b p).2.1 ≤ n
    omega
theorem oTurn_ok (hW : zWF E) (h : p ≤ n) : zOk n b p (oTurn n b E (tN n b p)) := by
  obtain ⟨h1, h2, h3⟩ := tN_p (b := b) h
  obtain ⟨g1, g2, g3⟩ := tN_p (b := b) h3
  unfold oTurn
  by_cases c : rK b (tN n b p) 0 9999
  · rw [if_pos c]
    obtain ⟨c1, c2, c3, c4⟩ := c
    exact ⟨wTurn hW (by omega), tN_v h3, by show p ≤ (tN n b (tN n b p).2.2).2.1; omega⟩
  · rw [if_neg c]
    show (tN n b p).2.1 ≤ n
    omega
theorem oSides_ok (hW : zWF E) (hE : eT E = 0) (h : p ≤ n) : zOk n b p (oSides n b E (tN n b p)) := by
  obtain ⟨h1, h2, h3⟩ := tN_p (b := b) h
  obtain ⟨g1, g2, g3⟩ := tN_p (b := b) h3
  unfold oSides
  by_cases c : rK b (tN n b p) 2 3
  · rw [if_pos c]
    obtain ⟨c1, c2, c3, c4⟩ := c
    exact ⟨wSides hW hE (by omega), tN_v h3, by show p ≤ (tN n b (tN n b p).2.2).2.1; omega⟩
  · rw [if_neg c]
    show (tN n b p).2.1 ≤ n
    omega
theorem oBent_ok (hW : zWF E) (h : p ≤ n) : zOk n b p (oBent n b E (tN n b p)) := by
  obtain ⟨h1, h2, h3⟩ := tN_p (b := b) h
  obtain ⟨g1, g2, g3⟩ := tN_p (b := b) h3
  obtain ⟨k1, k2, k3⟩ := tN_p (b := b) g3
  unfold oBent
  by_cases c : rK b (tN n b p) 0 ((eN E : Int) - 1)
  · rw [if_pos c]
    by_cases c' : rK b (tN n b (tN n b p).2.2) 0 5
    · rw [if_pos c']
      obtain ⟨c1, c2, c3, c4⟩ := c'
      exact ⟨wBent hW ⟨c3, c4⟩, tN_v g3, by show p ≤ (tN n b (tN n b (tN n b p).2.2).2.2).2.1; omega⟩
    · rw [if_neg c']
      show (tN n b (tN n b p).2.2).2.1 ≤ n
      omega
  · rw [if_neg c]
    show (tN n b p).2.1 ≤ n
    omega
theorem oOwns_ok (hW : zWF E) (h : p ≤ n) : zOk n b p (oOwns n b E (tN n b p)) := by
  obtain ⟨h1, h2, h3⟩ := tN_p (b := b) h
  obtain ⟨g1, g2, g3⟩ := tN_p (b := b) h3
  obtain ⟨k1, k2, k3⟩ := tN_p (b := b) g3
  unfold oOwns
  by_cases c : rK b (tN n b p) 0 ((eN E : Int) - 1)
  · rw [if_pos c]
    by_cases c' : rK b (tN n b (tN n b p).2.2) 0 ((eT E : Int) - 1)
    · rw [if_pos c']
      obtain ⟨c1, c2, c3, c4⟩ := c
      exact ⟨wOwn hW ⟨by omega, by omega⟩, tN_v g3, by show p ≤ (tN n b (tN n b (tN n b p).2.2).2.2).2.1; omega⟩
    · rw [if_neg c']
      show (tN n b (tN n b p).2.2).2.1 ≤ n
      omega
  · rw [if_neg c]
    show (tN n b p).2.1 ≤ n
    omega
theorem oThing_ok (hW : zWF E) (hE : eT E < 8) (h : p ≤ n) : zOk n b p (oThing n b E (tN n b p)) := by
  obtain ⟨h1, h2, h3⟩ := tN_p (b := b) h
  obtain ⟨g1, g2, g3⟩ := tN_p (b := b) h3
  obtain ⟨k1, k2, k3⟩ := tN_p (b := b) g3
  obtain ⟨l1, l2, l3⟩ := tN_p (b := b) k3
  unfold oThing
  by_cases c : rK b (tN n b p) 0 99
  · rw [if_pos c]
    obtain ⟨a1, a2, a3, a4⟩ := c
    by_cases c' : rK b (tN n b (tN n b p).2.2) 0 99
    · rw [if_pos c']
      obtain ⟨b1, b2, b3, b4⟩ := c'
      by_cases cN : eN E = 3
      · rw [if_pos cN]
        by_cases c'' : rK b (tN n b (tN n b (tN n b p).2.2).2.2) 0 99
        · rw [if_pos c'']
          obtain ⟨d1, d2, d3, d4⟩ := c''
          exact ⟨wThing hW hE ⟨a3, a4⟩ ⟨b3, b4⟩ (fun _ => ⟨d3, d4⟩), tN_v k3, by show p ≤ (tN n b (tN n b (tN n b (tN n b p).2.2).2.2).2.2).2.1; omega⟩
        · rw [if_neg c'']
          show (tN n b (tN n b (tN n b p).2.2).2.2).2.1 ≤ n
          omega
      · rw [if_neg cN]
        exact ⟨wThing hW hE ⟨a3, a4⟩ ⟨b3, b4⟩ (fun q => absurd q cN), tN_v g3, by show p ≤ (tN n b (tN n b (tN n b p).2.2).2.2).2.1; omega⟩
    · rw [if_neg c']
      show (tN n b (tN n b p).2.2).2.1 ≤ n
      omega
  · rw [if_neg c]
    show (tN n b p).2.1 ≤ n
    omega
theorem wOrd {m : Nat} {f : Nat → Int} (hW : zWF E) (hm : 1 ≤ m ∧ m ≤ 12) (hf : ∀ i, i < m → 0 ≤ f i ∧ f i < eN E) : zWF (sOrd E m f) := ⟨hW.1, hW.2.1, hW.2.2.1, hW.2.2.2.1, hm, hf, hW.2.2.2.2.2.2⟩
theorem oOrd_ok (hW : zWF E) : ∀ (j i : Nat) (f : Nat → Int) (q : Nat), i + j = 12 → p ≤ q → q ≤ n → (∀ k, k < i → 0 ≤ f k ∧ f k < eN E) → zOk n b p (oOrd n b E j i f (tN n b q)) := by
  intro j
  induction j with
  | zero =>
    intro i f q hj hpq hq hf
    obtain ⟨h1, h2, h3⟩ := tN_p (b := b) hq
    show (tN n b q).2.1 ≤ n
    omega
  | succ j ih =>
    intro i f q hj hpq hq hf
    obtain ⟨h1, h2, h3⟩ := tN_p (b := b) hq
    obtain ⟨g1, g2, g3⟩ := tN_p (b := b) h3
    rw [oOrd_s]
    by_cases c : rK b (tN n b q) 0 ((eN E : Int) - 1)
    · rw [if_pos c]
      obtain ⟨c1, c2, c3, c4⟩ := c
      have hf2 : ∀ k, k < i + 1 → 0 ≤ (if k = i then rV b (tN n b q) else f k) ∧ (if k = i then rV b (tN n b q) else f k) < eN E := by
        intro k hk
        by_cases d : k = i
        · rw [if_pos d]; omega
        · rw [if_neg d]; exact hf k (by omega)
      by_cases d : (tN n b (tN n b q).2.2).1 = 2
      · rw [if_pos d]
        exact ih (i + 1) _ (tN n b q).2.2 (by omega) (by omega) h3 hf2
      · rw [if_neg d]
        exact ⟨wOrd hW ⟨by omega, by omega⟩ hf2, tN_v h3, by show p ≤ (tN n b (tN n b q).2.2).2.1; omega⟩
    · rw [if_neg c]
      show (tN n b q).2.1 ≤ n
      omega
theorem oSt_ok {τ : zTk} (hW : zWF E) (hv : zTv n b τ) : zOk n b τ.2.2 (oSt n b E τ) := by
  have v4 := hv.2.2.2.1
  have v3 := hv.2.2.1
  unfold oSt
  by_cases c0 : tW b τ 0 ∧ eT E = 0
  · rw [if_pos c0]; exact oSides_ok hW c0.2 v4
  rw [if_neg c0]
  by_cases c1 : tW b τ 1 ∧ eT E < 8
  · rw [if_pos c1]; exact oThing_ok hW c1.2 v4
  rw [if_neg c1]
  by_cases c2 : tW b τ 2
  · rw [if_pos c2]; exact oLaw_ok hW v4
  rw [if_neg c2]
  by_cases c3 : tW b τ 3
  · rw [if_pos c3]; exact oOrd_ok hW 12 0 (eo E) τ.2.2 (by omega) (Nat.le_refl _) v4 (fun k hk => absurd hk (Nat.not_lt_zero k))
  rw [if_neg c3]
  by_cases c4 : tW b τ 4
  · rw [if_pos c4]; exact oBent_ok hW v4
  rw [if_neg c4]
  by_cases c5 : tW b τ 5
  · rw [if_pos c5]; exact oTurn_ok hW v4
  rw [if_neg c5]
  by_cases c6 : tW b τ 6
  · rw [if_pos c6]; exact oOwns_ok hW v4
  rw [if_neg c6]
  show τ.2.1 ≤ n
  omega
end
/-- what a text comes to: a fault's place, or the estate and how many statements -/
def oRd (n : Nat) (b : Nat → Int) : Nat → zT → Nat → Nat → Nat ⊕ (zT × Nat)
  | 0, _, p, _ => .inl p
  | j + 1, E, p, s => match oSt n b E (tN n b p) with
    | .inl β => .inl β
    | .inr q => if q.2.1 = 3 then oRd n b j q.1 q.2.2.2 (s + 1) else if q.2.1 = 0 then .inr (q.1, s + 1) else .inl q.2.2.1
section
variable {n : Nat} {b : Nat → Int}
theorem oRd_l {E : zT} {j p s β : Nat} (h : oSt n b E (tN n b p) = .inl β) : oRd n b (j + 1) E p s = .inl β := by
  show (match oSt n b E (tN n b p) with
    | .inl β => (Sum.inl β : Nat ⊕ (zT × Nat))
    | .inr q => if q.2.1 = 3 then oRd n b j q.1 q.2.2.2 (s + 1) else if q.2.1 = 0 then .inr (q.1, s + 1) else .inl q.2.2.1) = _
  rw [h]
theorem oRd_r {E : zT} {j p s : Nat} {q : zT × zTk} (h : oSt n b E (tN n b p) = .inr q) : oRd n b (j + 1) E p s = if q.2.1 = 3 then oRd n b j q.1 q.2.2.2 (s + 1) else if q.2.1 = 0 then .inr (q.1, s + 1) else .inl q.2.2.1 := by
  show (match oSt n b E (tN n b p) with
    | .inl β => (Sum.inl β : Nat ⊕ (zT × Nat))
    | .inr q => if q.2.1 = 3 then oRd n b j q.1 q.2.2.2 (s + 1) else if q.2.1 = 0 then .inr (q.1, s + 1) else .inl q.2.2.1) = _
  rw [h]
def zOr (n : Nat) (o : Nat ⊕ (zT × Nat)) : Prop := match o with
  | .inl β => β ≤ n
  | .inr q => zWF q.1
theorem oRd_ok : ∀ (j : Nat) (E : zT) (p s : Nat), zWF E → p ≤ n → zOr n (oRd n b j E p s) := by
  intro j
  induction j with
  | zero =>
    intro E p s hW hp
    exact hp
  | succ j ih =>
    intro E p s hW hp
    have ok := oSt_ok (b := b) hW (tN_v (b := b) hp)
    cases ho : oSt n b E (tN n b p) with
    | inl β =>
      rw [ho] at ok
      rw [oRd_l ho]
      exact ok
    | inr q =>
      rw [ho] at ok
      obtain ⟨k1, k2, k3⟩ := ok
      rw [oRd_r ho]
      by_cases c : q.2.1 = 3
      · rw [if_pos c]
        exact ih q.1 q.2.2.2 (s + 1) k1 k2.2.2.2.1
      · rw [if_neg c]
        by_cases d : q.2.1 = 0
        · rw [if_pos d]
          exact k1
        · rw [if_neg d]
          have := k2.2.2
          show q.2.2.1 ≤ n
          omega
end
