/-! BOTH SIDES AT ONCE: what is meant (now, kept, shelves, tape, refusals), where it lies -/
abbrev zDD := zT × Option zT × zH × (Nat × (Nat → Int)) × (Nat → Int32)
abbrev gE (D : zDD) : zT := D.1
abbrev gK (D : zDD) : Option zT := D.2.1
abbrev gH (D : zDD) : zH := D.2.2.1
abbrev gn (D : zDD) : Nat := D.2.2.2.1.1
abbrev gb (D : zDD) : Nat → Int := D.2.2.2.1.2
abbrev gr (D : zDD) : Nat → Int32 := D.2.2.2.2
def zWI (D : zDD) : Prop := zWF (gE D) ∧ (∀ K, gK D = some K → zWF K) ∧ zWH (gH D) ∧ zFH (gH D) ∧ gn D ≤ 250 ∧ ∀ i, i < gn D → 0 ≤ gb D i ∧ gb D i ≤ 255
def zRf (D : zDD) (n : Int) : zDD := (gE D, gK D, gH D, (gn D, gb D), (fun j => if (j : Int) = -2 - n then gr D j + 1 else gr D j))
def zOut (C C1 : zx_C) (lo hi : Nat) : Prop := (∀ b k, (b < lo ∨ hi ≤ b) → C1.1 b k = C.1 b k) ∧ ∀ b k, (b < lo ∨ hi ≤ b) → C1.2 b k = C.2 b k
theorem zOut_r (C : zx_C) (lo hi : Nat) : zOut C C lo hi := ⟨fun _ _ _ => rfl, fun _ _ _ => rfl⟩
theorem zOut_t {C C1 C2 : zx_C} {lo hi : Nat} (h1 : zOut C C1 lo hi) (h2 : zOut C1 C2 lo hi) : zOut C C2 lo hi := ⟨fun b k h => (h2.1 b k h).trans (h1.1 b k h), fun b k h => (h2.2 b k h).trans (h1.2 b k h)⟩
def zXk (C : zx_C) (e : Nat) : Option zT → Prop
  | none => C.1 e 6 = zi 0
  | some K => C.1 e 6 = zi 1 ∧ zXE C (e + 6) K
/-- as the class has it -/
def zIX (C : zx_C) (e : Nat) (D : zDD) : Prop := zXE C (e + 1) (gE D) ∧ zXk C e (gK D) ∧ zXS C (e + 18) (gH D) ∧ C.1 (e + 16) 1 = zi (gn D) ∧ (∀ i, i < gn D → C.1 (e + 17) i = zi (gb D i)) ∧ (∀ j, j < 5 → C.1 (e + 23) j = gr D j) ∧ zZz C e
def zMS (C : zx_C) (a : Nat) (H : zH) : Prop := ∀ s, s < 8 → (hk H s = -1 → C.1 (a + 1) s = zi 0) ∧ (0 ≤ hk H s → hk H s ≤ 4 → C.1 (a + 1) s = zi 1 ∧ C.1 (a + 2) s = zi (hk H s) ∧ C.1 (a + 3) s = zi (hz H s) ∧ ∀ i : Nat, i < hz H s → C.2 (a + 5 + s) i = hl H s i) ∧ (10 ≤ hk H s → C.1 (a + 1) s = zi 2 ∧ C.1 (a + 14) s = zi (hk H s - 10) ∧ C.1 (a + 15) s = zi (hb H s))
def zMk (S : zx_S) (C : zx_C) (a : Nat) : Option zT → Prop
  | none => S.2.1 a 20 = none
  | some K => ∃ k, S.2.1 a 20 = some k ∧ zs_5 S k ∧ a + 295 ≤ k ∧ (∀ t, S.2.1 a 21 = some t → k + 295 ≤ t ∨ t + 295 ≤ k) ∧ zME C k K
/-- as the model has it -/
def zIM (S : zx_S) (C : zx_C) (a : Nat) (D : zDD) : Prop := zME C a (gE D) ∧ zMk S C a (gK D) ∧ zMS C a (gH D) ∧ C.1 a 8 = zi (gn D) ∧ (∀ i, i < gn D → C.1 (a + 16) i = zi (gb D i)) ∧ (∀ j, j < 5 → C.1 (a + 17) (j + 2) = gr D j) ∧ (S.2.1 a 21 = none ∨ ∃ t, S.2.1 a 21 = some t ∧ zs_5 S t ∧ a + 295 ≤ t)
theorem zXk_of {C C1 : zx_C} {e : Nat} {o : Option zT} (h : zXk C e o) (h0 : C1.1 e 6 = C.1 e 6) (h1 : ∀ b k, e + 6 ≤ b → b < e + 11 → C1.1 b k = C.1 b k) : zXk C1 e o := by
  cases o with
  | none => exact h0.trans h
  | some K => exact ⟨h0.trans h.1, zXE_of h.2 (fun b k g1 g2 => h1 b k (by omega) (by omega))⟩
theorem zMS_of {C C1 : zx_C} {a : Nat} {H : zH} (h : zMS C a H) (h1 : ∀ b k, a < b → b < a + 4 → C1.1 b k = C.1 b k) (h3 : ∀ b k, a + 14 ≤ b → b < a + 16 → C1.1 b k = C.1 b k) (h2 : ∀ b k, a + 5 ≤ b → b < a + 13 → C1.2 b k = C.2 b k) : zMS C1 a H := by
  intro s hs
  obtain ⟨g1, g2, g3⟩ := h s hs
  refine ⟨fun c => ?_, fun c1 c2 => ⟨?_, ?_, ?_, fun i hi => ?_⟩, fun c => ⟨?_, ?_, ?_⟩⟩
  · rw [h1 _ _ (by omega) (by omega)]; exact g1 c
  · rw [h1 _ _ (by omega) (by omega)]; exact (g2 c1 c2).1
  · rw [h1 _ _ (by omega) (by omega)]; exact (g2 c1 c2).2.1
  · rw [h1 _ _ (by omega) (by omega)]; exact (g2 c1 c2).2.2.1
  · rw [h2 _ _ (by omega) (by omega)]; exact (g2 c1 c2).2.2.2 i hi
  · rw [h1 _ _ (by omega) (by omega)]; exact (g3 c).1
  · rw [h3 _ _ (by omega) (by omega)]; exact (g3 c).2.1
  · rw [h3 _ _ (by omega) (by omega)]; exact (g3 c).2.2
theorem zMk_of {S : zx_S} {C C1 : zx_C} {a : Nat} {o : Option zT} (hW : ∀ K, o = some K → zWF K) (h : zMk S C a o) (h1 : ∀ b k, a + 295 ≤ b → C1.1 b k = C.1 b k) : zMk S C1 a o := by
  cases o with
  | none => exact h
  | some K =>
    obtain ⟨k, g1, g2, g3, g4, g5⟩ := h
    exact ⟨k, g1, g2, g3, g4, zME_of (hW K rfl) g5 (fun b x _ h2 _ => h1 b x (by omega))⟩
/-- what changes the estate alone -/
theorem zIX_E {C C1 : zx_C} {e : Nat} {D : zDD} {E : zT} (h : zIX C e D) (hE : zXE C1 (e + 1) E) (h1 : ∀ b k, (b < e + 1 ∨ e + 6 ≤ b) → C1.1 b k = C.1 b k) (h2 : C1.2 = C.2) : zIX C1 e (E, D.2) := by
  obtain ⟨g1, g2, g3, g4, g5, g6, g7⟩ := h
  refine ⟨hE, zXk_of g2 (h1 _ _ (by omega)) (fun b k _ _ => h1 b k (by omega)), zXS_of g3 (fun b k _ _ => h1 b k (by omega)) (fun b k _ _ => by rw [h2]), ?_, fun i hi => ?_, fun j hj => ?_, zZz_of g7 (fun b k hb _ => h1 b k (by omega))⟩
  · rw [h1 _ _ (by omega)]; exact g4
  · rw [h1 _ _ (by omega)]; exact g5 i hi
  · rw [h1 _ _ (by omega)]; exact g6 j hj
theorem zIX_H {C C1 : zx_C} {e : Nat} {D : zDD} {H : zH} (h : zIX C e D) (hH : zXS C1 (e + 18) H) (h1 : ∀ b k, (b < e + 18 ∨ e + 23 ≤ b) → C1.1 b k = C.1 b k) : zIX C1 e (gE D, gK D, H, D.2.2.2) := by
  obtain ⟨g1, g2, g3, g4, g5, g6, g7⟩ := h
  refine ⟨zXE_of g1 (fun b k _ _ => h1 b k (by omega)), zXk_of g2 (h1 _ _ (by omega)) (fun b k _ _ => h1 b k (by omega)), hH, ?_, fun i hi => ?_, fun j hj => ?_, zZz_of g7 (fun b k hb _ => h1 b k (by omega))⟩
  · rw [h1 _ _ (by omega)]; exact g4
  · rw [h1 _ _ (by omega)]; exact g5 i hi
  · rw [h1 _ _ (by omega)]; exact g6 j hj
theorem zIX_T {C C1 : zx_C} {e : Nat} {D : zDD} (h : zIX C e D) (h1 : zFX C C1 e) : zIX C1 e D := by
  obtain ⟨g1, g2, g3, g4, g5, g6, g7⟩ := h
  refine ⟨zXE_of g1 (fun b k _ _ => h1.1 b k (by omega) (by omega)), zXk_of g2 (h1.1 _ _ (by omega) (by omega)) (fun b k _ _ => h1.1 b k (by omega) (by omega)), zXS_of g3 (fun b k _ _ => h1.1 b k (by omega) (by omega)) (fun b k _ _ => by rw [h1.2]), ?_, fun i hi => ?_, fun j hj => ?_, zFX_z h1 g7⟩
  · rw [h1.1 _ _ (by omega) (by omega)]; exact g4
  · rw [h1.1 _ _ (by omega) (by omega)]; exact g5 i hi
  · rw [h1.1 _ _ (by omega) (by omega)]; exact g6 j hj
theorem zFX_out {C C1 : zx_C} {e : Nat} (h : zFX C C1 e) : zOut C C1 e (e + 42) := ⟨fun b k hb => h.1 b k (by omega) (by omega), fun b k _ => by rw [h.2]⟩
theorem zIM_E {S : zx_S} {C C1 : zx_C} {a : Nat} {D : zDD} {E : zT} (hW : zWI D) (h : zIM S C a D) (hE : zME C1 a E) (h1 : ∀ b k, ¬ (b = a ∧ 10 ≤ k ∧ k ≤ 19) → (b < a + 19 ∨ a + 30 ≤ b) → C1.1 b k = C.1 b k) (h2 : C1.2 = C.2) : zIM S C1 a (E, D.2) := by
  obtain ⟨g1, g2, g3, g4, g5, g6, g7⟩ := h
  refine ⟨hE, zMk_of hW.2.1 g2 (fun b k hb => h1 b k (by omega) (by omega)), zMS_of g3 (fun b k _ _ => h1 b k (by omega) (by omega)) (fun b k _ _ => h1 b k (by omega) (by omega)) (fun b k _ _ => by rw [h2]), ?_, fun i hi => ?_, fun j hj => ?_, g7⟩
  · rw [h1 _ _ (by omega) (by omega)]; exact g4
  · rw [h1 _ _ (by omega) (by omega)]; exact g5 i hi
  · rw [h1 _ _ (by omega) (by omega)]; exact g6 j hj
theorem zIM_H {S : zx_S} {C C1 : zx_C} {a : Nat} {D : zDD} {H : zH} (hW : zWI D) (h : zIM S C a D) (hH : zMS C1 a H) (h1 : ∀ b k, (b ≤ a ∨ a + 16 ≤ b) → C1.1 b k = C.1 b k) : zIM S C1 a (gE D, gK D, H, D.2.2.2) := by
  obtain ⟨g1, g2, g3, g4, g5, g6, g7⟩ := h
  refine ⟨?_, zMk_of hW.2.1 g2 (fun b k hb => h1 b k (by omega)), hH, ?_, fun i hi => ?_, fun j hj => ?_, g7⟩
  · obtain ⟨v1, v2, v3, v4, v5, v6, v7, v8, v9, v10⟩ := g1
    refine ⟨?_, ?_, ?_, ?_, ?_, ?_, fun i hi => ?_, fun s hs => ?_, fun k hk => ?_, fun s k hs hk => ?_⟩
    · rw [h1 _ _ (by omega)]; exact v1
    · rw [h1 _ _ (by omega)]; exact v2
    · rw [h1 _ _ (by omega)]; exact v3
    · rw [h1 _ _ (by omega)]; exact v4
    · rw [h1 _ _ (by omega)]; exact v5
    · rw [h1 _ _ (by omega)]; exact v6
    · rw [h1 _ _ (by omega)]; exact v7 i hi
    · rw [h1 _ _ (by omega)]; exact v8 s hs
    · rw [h1 _ _ (by omega)]; exact v9 k hk
    · rw [h1 _ _ (by omega)]; exact v10 s k hs hk
  · rw [h1 _ _ (by omega)]; exact g4
  · rw [h1 _ _ (by omega)]; exact g5 i hi
  · rw [h1 _ _ (by omega)]; exact g6 j hj
theorem zIM_T {S : zx_S} {C C1 : zx_C} {a : Nat} {D : zDD} (hW : zWI D) (h : zIM S C a D) (h1 : zFM C C1 a) : zIM S C1 a D := by
  obtain ⟨g1, g2, g3, g4, g5, g6, g7⟩ := h
  refine ⟨zFM_E hW.1 h1 g1, zMk_of hW.2.1 g2 (fun b k hb => h1.1 b k (by omega) (by omega)), zMS_of g3 (fun b k _ _ => h1.1 b k (by omega) (by omega)) (fun b k _ _ => h1.1 b k (by omega) (by omega)) (fun b k _ _ => by rw [h1.2]), ?_, fun i hi => ?_, fun j hj => ?_, g7⟩
  · rw [h1.1 _ _ (by omega) (by omega)]; exact g4
  · rw [h1.1 _ _ (by omega) (by omega)]; exact g5 i hi
  · rw [h1.1 _ _ (by omega) (by omega)]; exact g6 j hj
theorem zFM_out {C C1 : zx_C} {a : Nat} (h : zFM C C1 a) : zOut C C1 a (a + 295) := ⟨fun b k hb => h.1 b k (by omega) (by omega), fun b k _ => by rw [h.2]⟩
/-- refusals -/
theorem zIX_rf {C : zx_C} {e : Nat} {D : zDD} {n : Int} (h : zIX C e D) (hn : -6 ≤ n ∧ n ≤ -2) : zIX (zp C (e + 23) (-2 - n).toNat (C.1 (e + 23) (-2 - n).toNat + 1)) e (zRf D n) := by
  obtain ⟨g1, g2, g3, g4, g5, g6, g7⟩ := h
  refine ⟨zXE_of g1 (fun b k _ _ => zp_ne (by omega)), zXk_of g2 (zp_ne (by omega)) (fun b k _ _ => zp_ne (by omega)), zXS_of g3 (fun b k _ _ => zp_ne (by omega)) (fun b k _ _ => rfl), ?_, fun i hi => ?_, fun j hj => ?_, zZz_of g7 (fun b k hb _ => zp_ne (by omega))⟩
  · rw [zp_ne (by omega)]; exact g4
  · rw [zp_ne (by omega)]; exact g5 i hi
  · show _ = if (j : Int) = -2 - n then gr D j + 1 else gr D j
    by_cases c : (j : Int) = -2 - n
    · rw [if_pos c, show (-2 - n).toNat = j by omega, zp_hit, g6 j hj]
    · rw [if_neg c, zp_nf (by omega)]
      exact g6 j hj
theorem zIM_rf {S : zx_S} {C : zx_C} {a : Nat} {D : zDD} {n : Int} (hW : zWI D) (h : zIM S C a D) (hn : -6 ≤ n ∧ n ≤ -2) : zIM S (zp C (a + 17) (-n).toNat (C.1 (a + 17) (-n).toNat + 1)) a (zRf D n) := by
  obtain ⟨g1, g2, g3, g4, g5, g6, g7⟩ := h
  refine ⟨?_, zMk_of hW.2.1 g2 (fun b k hb => zp_ne (by omega)), zMS_of g3 (fun b k _ _ => zp_ne (by omega)) (fun b k _ _ => zp_ne (by omega)) (fun b k _ _ => rfl), ?_, fun i hi => ?_, fun j hj => ?_, g7⟩
  · have hT := hW.1.2.1
    obtain ⟨v1, v2, v3, v4, v5, v6, v7, v8, v9, v10⟩ := g1
    refine ⟨?_, ?_, ?_, ?_, ?_, ?_, fun i hi => ?_, fun s hs => ?_, fun k hk => ?_, fun s k hs hk => ?_⟩
    · rw [zp_ne (by omega)]; exact v1
    · rw [zp_ne (by omega)]; exact v2
    · rw [zp_ne (by omega)]; exact v3
    · rw [zp_ne (by omega)]; exact v4
    · rw [zp_ne (by omega)]; exact v5
    · rw [zp_ne (by omega)]; exact v6
    · rw [zp_ne (by omega)]; exact v7 i hi
    · rw [zp_ne (by omega)]; exact v8 s hs
    · rw [zp_ne (by omega)]; exact v9 k hk
    · rw [zp_ne (by omega)]; exact v10 s k hs hk
  · rw [zp_ne (by omega)]; exact g4
  · rw [zp_ne (by omega)]; exact g5 i hi
  · show _ = if (j : Int) = -2 - n then gr D j + 1 else gr D j
    by_cases c : (j : Int) = -2 - n
    · rw [if_pos c, show (-n).toNat = j + 2 by omega, zp_hit, g6 j hj]
    · rw [if_neg c, zp_nf (by omega)]
      exact g6 j hj
theorem zWI_rf {D : zDD} {n : Int} (h : zWI D) : zWI (zRf D n) := h
/-- a call of both: one answer, one state again -/
def zBI (X : zX) (S : zx_S) (e a : Nat) (D : zDD) (dx mx : Nat) (ax : List Value) (dm mm : Nat) (am : List Value) : Prop := ∃ (R : Int32) (D' : zDD), zWI D' ∧ (∀ C, zIX C e D → zCd X dx mx (.ref e :: ax) S C (zQi (fun r C1 => r = R ∧ zIX C1 e D' ∧ zOut C C1 e (e + 42)))) ∧ ∀ C, zIM S C a D → zCd X dm mm (.ref a :: am) S C (zQi (fun r C1 => r = R ∧ zIM S C1 a D' ∧ zOut C C1 a (a + 295)))
def zBL (X : zX) (S : zx_S) (e a : Nat) (D : zDD) (dx mx : Nat) (ax : List Value) (dm mm : Nat) (am : List Value) : Prop := ∃ (R : Int64) (D' : zDD), zWI D' ∧ (∀ C, zIX C e D → zCd X dx mx (.ref e :: ax) S C (zQl (fun r C1 => r = R ∧ zIX C1 e D' ∧ zOut C C1 e (e + 42)))) ∧ ∀ C, zIM S C a D → zCd X dm mm (.ref a :: am) S C (zQl (fun r C1 => r = R ∧ zIM S C1 a D' ∧ zOut C C1 a (a + 295)))
section
variable {X : zX} {S : zx_S} {C : zx_C} {e a : Nat} {D : zDD}
theorem xrf (hS : zs_4 S e) (hI : zIX C e D) {n : Int} (hn : -6 ≤ n ∧ n ≤ -2) : zCd X 1 10 [.ref e, .int (zi n)] S C (zQi (fun r C1 => r = zi n ∧ zIX C1 e (zRf D n) ∧ zOut C C1 e (e + 42))) := by
  rw [sp10 hS hn]
  exact ⟨rfl, zIX_rf hI hn, fun b k hb => zp_ne (by omega), fun _ _ _ => rfl⟩
theorem mrf (hS : zs_5 S a) (hW : zWI D) (hI : zIM S C a D) {n : Int} (hn : -6 ≤ n ∧ n ≤ -2) : zCd X 0 160 [.ref a, .int (zi n)] S C (zQi (fun r C1 => r = zi n ∧ zIM S C1 a (zRf D n) ∧ zOut C C1 a (a + 295))) := by
  rw [sp160 hS hn]
  exact ⟨rfl, zIM_rf hW hI hn, fun b k hb => zp_ne (by omega), fun _ _ _ => rfl⟩
end
theorem z_m2 : (-2 : Int32) = zi (-2) := rfl
theorem z_m3 : (-3 : Int32) = zi (-3) := rfl
theorem z_m4 : (-4 : Int32) = zi (-4) := rfl
theorem z_m5 : (-5 : Int32) = zi (-5) := rfl
theorem z_m6 : (-6 : Int32) = zi (-6) := rfl
