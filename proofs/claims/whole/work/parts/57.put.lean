/-! one thing put, as the class has it (xE) and as the model has it (mE) -/
def sLaw (E : zT) (v : Nat) : zT := ((eN E, eT E, v, eV E, eD E, eO E), E.2)
def sTurn (E : zT) (v : Nat) : zT := ((eN E, eT E, eL E, v, eD E, eO E), E.2)
def sSeed (E : zT) (v : Int32) : zT := ((eN E, eT E, eL E, eV E, v, eO E), E.2)
def sBent (E : zT) (x : Nat) (v : Int) : zT := (E.1, eo E, (fun s => if s = x then v else eb E s), ew E, eu E)
def sOwn (E : zT) (x : Nat) (v : Int) : zT := (E.1, eo E, eb E, (fun k => if k = x then v else ew E k), eu E)
def sWorth (E : zT) (x y : Nat) (v : Int) : zT := (E.1, eo E, eb E, ew E, (fun s k => if s = x ∧ k = y then v else eu E s k))
theorem xE_Law {C : zx_C} {e : Nat} {E : zT} {v : Nat} (h : zXE C e E) : zXE (zp C e 2 (zi (v : Int))) e (sLaw E v) := by
  obtain ⟨v1, v2, v3, v4, v5, v6, v7, v8, v9, v10⟩ := h
  refine ⟨?_, ?_, ?_, ?_, ?_, ?_, fun i hi => ?_, fun s hs => ?_, fun k hk => ?_, fun s k hs hk => ?_⟩
  · rw [zp_nf (by omega)]; exact v1
  · rw [zp_nf (by omega)]; exact v2
  · exact zp_hit _ _ _ _
  · rw [zp_nf (by omega)]; exact v4
  · rw [zp_nf (by omega)]; exact v5
  · rw [zp_nf (by omega)]; exact v6
  · rw [zp_ne (by omega)]; exact v7 i hi
  · rw [zp_ne (by omega)]; exact v8 s hs
  · rw [zp_ne (by omega)]; exact v9 k hk
  · rw [zp_ne (by omega)]; exact v10 s k hs hk
theorem mE_Law {C : zx_C} {e : Nat} {E : zT} {v : Nat} (h : zME C e E) : zME (zp C e 14 (zi (v : Int))) e (sLaw E v) := by
  obtain ⟨v1, v2, v3, v4, v5, v6, v7, v8, v9, v10⟩ := h
  refine ⟨?_, ?_, ?_, ?_, ?_, ?_, fun i hi => ?_, fun s hs => ?_, fun k hk => ?_, fun s k hs hk => ?_⟩
  · rw [zp_nf (by omega)]; exact v1
  · rw [zp_nf (by omega)]; exact v2
  · exact zp_hit _ _ _ _
  · rw [zp_nf (by omega)]; exact v4
  · rw [zp_nf (by omega)]; exact v5
  · rw [zp_nf (by omega)]; exact v6
  · rw [zp_ne (by omega)]; exact v7 i hi
  · rw [zp_ne (by omega)]; exact v8 s hs
  · rw [zp_ne (by omega)]; exact v9 k hk
  · rw [zp_ne (by omega)]; exact v10 s k hs hk
theorem xE_Turn {C : zx_C} {e : Nat} {E : zT} {v : Nat} (h : zXE C e E) : zXE (zp C e 3 (zi (v : Int))) e (sTurn E v) := by
  obtain ⟨v1, v2, v3, v4, v5, v6, v7, v8, v9, v10⟩ := h
  refine ⟨?_, ?_, ?_, ?_, ?_, ?_, fun i hi => ?_, fun s hs => ?_, fun k hk => ?_, fun s k hs hk => ?_⟩
  · rw [zp_nf (by omega)]; exact v1
  · rw [zp_nf (by omega)]; exact v2
  · rw [zp_nf (by omega)]; exact v3
  · exact zp_hit _ _ _ _
  · rw [zp_nf (by omega)]; exact v5
  · rw [zp_nf (by omega)]; exact v6
  · rw [zp_ne (by omega)]; exact v7 i hi
  · rw [zp_ne (by omega)]; exact v8 s hs
  · rw [zp_ne (by omega)]; exact v9 k hk
  · rw [zp_ne (by omega)]; exact v10 s k hs hk
theorem mE_Turn {C : zx_C} {e : Nat} {E : zT} {v : Nat} (h : zME C e E) : zME (zp C e 18 (zi (v : Int))) e (sTurn E v) := by
  obtain ⟨v1, v2, v3, v4, v5, v6, v7, v8, v9, v10⟩ := h
  refine ⟨?_, ?_, ?_, ?_, ?_, ?_, fun i hi => ?_, fun s hs => ?_, fun k hk => ?_, fun s k hs hk => ?_⟩
  · rw [zp_nf (by omega)]; exact v1
  · rw [zp_nf (by omega)]; exact v2
  · rw [zp_nf (by omega)]; exact v3
  · exact zp_hit _ _ _ _
  · rw [zp_nf (by omega)]; exact v5
  · rw [zp_nf (by omega)]; exact v6
  · rw [zp_ne (by omega)]; exact v7 i hi
  · rw [zp_ne (by omega)]; exact v8 s hs
  · rw [zp_ne (by omega)]; exact v9 k hk
  · rw [zp_ne (by omega)]; exact v10 s k hs hk
theorem xE_Seed {C : zx_C} {e : Nat} {E : zT} {v : Int32} (h : zXE C e E) : zXE (zp C e 4 (v)) e (sSeed E v) := by
  obtain ⟨v1, v2, v3, v4, v5, v6, v7, v8, v9, v10⟩ := h
  refine ⟨?_, ?_, ?_, ?_, ?_, ?_, fun i hi => ?_, fun s hs => ?_, fun k hk => ?_, fun s k hs hk => ?_⟩
  · rw [zp_nf (by omega)]; exact v1
  · rw [zp_nf (by omega)]; exact v2
  · rw [zp_nf (by omega)]; exact v3
  · rw [zp_nf (by omega)]; exact v4
  · exact zp_hit _ _ _ _
  · rw [zp_nf (by omega)]; exact v6
  · rw [zp_ne (by omega)]; exact v7 i hi
  · rw [zp_ne (by omega)]; exact v8 s hs
  · rw [zp_ne (by omega)]; exact v9 k hk
  · rw [zp_ne (by omega)]; exact v10 s k hs hk
theorem mE_Seed {C : zx_C} {e : Nat} {E : zT} {v : Int32} (h : zME C e E) : zME (zp C e 19 (v)) e (sSeed E v) := by
  obtain ⟨v1, v2, v3, v4, v5, v6, v7, v8, v9, v10⟩ := h
  refine ⟨?_, ?_, ?_, ?_, ?_, ?_, fun i hi => ?_, fun s hs => ?_, fun k hk => ?_, fun s k hs hk => ?_⟩
  · rw [zp_nf (by omega)]; exact v1
  · rw [zp_nf (by omega)]; exact v2
  · rw [zp_nf (by omega)]; exact v3
  · rw [zp_nf (by omega)]; exact v4
  · exact zp_hit _ _ _ _
  · rw [zp_nf (by omega)]; exact v6
  · rw [zp_ne (by omega)]; exact v7 i hi
  · rw [zp_ne (by omega)]; exact v8 s hs
  · rw [zp_ne (by omega)]; exact v9 k hk
  · rw [zp_ne (by omega)]; exact v10 s k hs hk
theorem xE_Bent {C : zx_C} {e : Nat} {E : zT} {x : Nat} {v : Int}  (h : zXE C e E) : zXE (zp C (e + 2) (x) (zi v)) e (sBent E x v) := by
  obtain ⟨v1, v2, v3, v4, v5, v6, v7, v8, v9, v10⟩ := h
  refine ⟨?_, ?_, ?_, ?_, ?_, ?_, fun i hi => ?_, fun s hs => ?_, fun k hk => ?_, fun s k hs hk => ?_⟩
  · rw [zp_ne (by omega)]; exact v1
  · rw [zp_ne (by omega)]; exact v2
  · rw [zp_ne (by omega)]; exact v3
  · rw [zp_ne (by omega)]; exact v4
  · rw [zp_ne (by omega)]; exact v5
  · rw [zp_ne (by omega)]; exact v6
  · rw [zp_ne (by omega)]; exact v7 i hi
  · show _ = zi (if s = x then v else eb E s)
    by_cases c : s = x
    · rw [if_pos c, c, zp_hit]
    · rw [if_neg c, zp_nf c]; exact v8 s hs
  · rw [zp_ne (by omega)]; exact v9 k hk
  · rw [zp_ne (by omega)]; exact v10 s k hs hk
theorem mE_Bent {C : zx_C} {e : Nat} {E : zT} {x : Nat} {v : Int} (hW : zWF E) (h : zME C e E) : zME (zp C (e + 29) (x) (zi v)) e (sBent E x v) := by
  obtain ⟨v1, v2, v3, v4, v5, v6, v7, v8, v9, v10⟩ := h
  have hT := hW.2.1
  refine ⟨?_, ?_, ?_, ?_, ?_, ?_, fun i hi => ?_, fun s hs => ?_, fun k hk => ?_, fun s k hs hk => ?_⟩
  · rw [zp_ne (by omega)]; exact v1
  · rw [zp_ne (by omega)]; exact v2
  · rw [zp_ne (by omega)]; exact v3
  · rw [zp_ne (by omega)]; exact v4
  · rw [zp_ne (by omega)]; exact v5
  · rw [zp_ne (by omega)]; exact v6
  · rw [zp_ne (by omega)]; exact v7 i hi
  · show _ = zi (if s = x then v else eb E s)
    by_cases c : s = x
    · rw [if_pos c, c, zp_hit]
    · rw [if_neg c, zp_nf c]; exact v8 s hs
  · rw [zp_ne (by omega)]; exact v9 k hk
  · have hk2 : k < eT E := hk
    rw [zp_ne (by omega)]; exact v10 s k hs hk
theorem xE_Own {C : zx_C} {e : Nat} {E : zT} {x : Nat} {v : Int}  (h : zXE C e E) : zXE (zp C (e + 3) (x) (zi v)) e (sOwn E x v) := by
  obtain ⟨v1, v2, v3, v4, v5, v6, v7, v8, v9, v10⟩ := h
  refine ⟨?_, ?_, ?_, ?_, ?_, ?_, fun i hi => ?_, fun s hs => ?_, fun k hk => ?_, fun s k hs hk => ?_⟩
  · rw [zp_ne (by omega)]; exact v1
  · rw [zp_ne (by omega)]; exact v2
  · rw [zp_ne (by omega)]; exact v3
  · rw [zp_ne (by omega)]; exact v4
  · rw [zp_ne (by omega)]; exact v5
  · rw [zp_ne (by omega)]; exact v6
  · rw [zp_ne (by omega)]; exact v7 i hi
  · rw [zp_ne (by omega)]; exact v8 s hs
  · show _ = zi (if k = x then v else ew E k)
    by_cases c : k = x
    · rw [if_pos c, c, zp_hit]
    · rw [if_neg c, zp_nf c]; exact v9 k hk
  · rw [zp_ne (by omega)]; exact v10 s k hs hk
theorem mE_Own {C : zx_C} {e : Nat} {E : zT} {x : Nat} {v : Int} (hW : zWF E) (h : zME C e E) : zME (zp C (e + 27) (x) (zi v)) e (sOwn E x v) := by
  obtain ⟨v1, v2, v3, v4, v5, v6, v7, v8, v9, v10⟩ := h
  have hT := hW.2.1
  refine ⟨?_, ?_, ?_, ?_, ?_, ?_, fun i hi => ?_, fun s hs => ?_, fun k hk => ?_, fun s k hs hk => ?_⟩
  · rw [zp_ne (by omega)]; exact v1
  · rw [zp_ne (by omega)]; exact v2
  · rw [zp_ne (by omega)]; exact v3
  · rw [zp_ne (by omega)]; exact v4
  · rw [zp_ne (by omega)]; exact v5
  · rw [zp_ne (by omega)]; exact v6
  · rw [zp_ne (by omega)]; exact v7 i hi
  · rw [zp_ne (by omega)]; exact v8 s hs
  · show _ = zi (if k = x then v else ew E k)
    by_cases c : k = x
    · rw [if_pos c, c, zp_hit]
    · rw [if_neg c, zp_nf c]; exact v9 k hk
  · have hk2 : k < eT E := hk
    rw [zp_ne (by omega)]; exact v10 s k hs hk
theorem xE_Worth {C : zx_C} {e : Nat} {E : zT} {x y : Nat} {v : Int} (hW : zWF E) (hy : y < 8) (h : zXE C e E) : zXE (zp C (e + 4) (x * 8 + y) (zi v)) e (sWorth E x y v) := by
  obtain ⟨v1, v2, v3, v4, v5, v6, v7, v8, v9, v10⟩ := h
  have hT := hW.2.1
  refine ⟨?_, ?_, ?_, ?_, ?_, ?_, fun i hi => ?_, fun s hs => ?_, fun k hk => ?_, fun s k hs hk => ?_⟩
  · rw [zp_ne (by omega)]; exact v1
  · rw [zp_ne (by omega)]; exact v2
  · rw [zp_ne (by omega)]; exact v3
  · rw [zp_ne (by omega)]; exact v4
  · rw [zp_ne (by omega)]; exact v5
  · rw [zp_ne (by omega)]; exact v6
  · rw [zp_ne (by omega)]; exact v7 i hi
  · rw [zp_ne (by omega)]; exact v8 s hs
  · rw [zp_ne (by omega)]; exact v9 k hk
  · show _ = zi (if s = x ∧ k = y then v else eu E s k)
    have hk2 : k < eT E := hk
    by_cases c : s = x ∧ k = y
    · rw [if_pos c, c.1, c.2, zp_hit]
    · rw [if_neg c, zp_nf (by omega)]; exact v10 s k hs hk
theorem mE_Worth {C : zx_C} {e : Nat} {E : zT} {x y : Nat} {v : Int} (hW : zWF E) (hy : y < 8) (h : zME C e E) : zME (zp C (e + 19 + y) (x) (zi v)) e (sWorth E x y v) := by
  obtain ⟨v1, v2, v3, v4, v5, v6, v7, v8, v9, v10⟩ := h
  have hT := hW.2.1
  refine ⟨?_, ?_, ?_, ?_, ?_, ?_, fun i hi => ?_, fun s hs => ?_, fun k hk => ?_, fun s k hs hk => ?_⟩
  · rw [zp_ne (by omega)]; exact v1
  · rw [zp_ne (by omega)]; exact v2
  · rw [zp_ne (by omega)]; exact v3
  · rw [zp_ne (by omega)]; exact v4
  · rw [zp_ne (by omega)]; exact v5
  · rw [zp_ne (by omega)]; exact v6
  · rw [zp_ne (by omega)]; exact v7 i hi
  · rw [zp_ne (by omega)]; exact v8 s hs
  · rw [zp_ne (by omega)]; exact v9 k hk
  · show _ = zi (if s = x ∧ k = y then v else eu E s k)
    have hk2 : k < eT E := hk
    by_cases c : s = x ∧ k = y
    · rw [if_pos c, c.1, c.2, zp_hit]
    · rw [if_neg c, zp_miss _ _ _ _ (by omega)]; exact v10 s k hs hk
