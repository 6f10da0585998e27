/-! THE LAW'S ENTRY: what the big machine's start is in the small one's words -/
def zen_ix (i : Nat) : Nat := ([56, 70, 75, 80, 85, 90, 95] : List Nat).getD i 0
def zen_tm (i : Nat) : Term := .string "FirstAtTheFirst$Tape" (zen_ix i)
def zen_jx (i : Nat) : Nat := ([216, 221, 226, 227, 231, 232, 233] : List Nat).getD i 0
def zen_tn (i : Nat) : Term := .string "FirstAtTheFirstModel" (zen_jx i)
def zen_len : List Nat := zt_txt.map List.length
def zen_F : List Cond := flatC (Jvm.Cond.and given_1 narrow_1)
theorem zen_1 : ∀ i, i < 7 → Cond.exactly (zen_tm i) "java/lang/String" ∈ zen_F := by decide +kernel
theorem zen_2 : ∀ i, i < 7 → Cond.eq (.field (zen_tm i) "java/lang/String" "coder" "B") (.int 0) ∈ zen_F := by decide +kernel
theorem zen_3 : ∀ i, i < 7 → Cond.arrayOf (.field (zen_tm i) "java/lang/String" "value" "[B") .byte ∈ zen_F := by decide +kernel
theorem zen_4 : ∀ i, i < 7 → Cond.eq (.length (.field (zen_tm i) "java/lang/String" "value" "[B")) (.int (Int32.ofNat (zen_len.getD i 0))) ∈ zen_F := by decide +kernel
theorem zen_5 : ∀ i, i < 7 → ∀ j, j < zen_len.getD i 0 → Cond.eq (.elem (.field (zen_tm i) "java/lang/String" "value" "[B") (.int (Int32.ofNat j))) (.int ((zt_txt.getD i []).getD j 0)) ∈ zen_F := by decide +kernel
theorem zen_6 : ∀ i, i < 7 → ∀ j, j < 7 → i ≠ j → Cond.not (Cond.eq (zen_tm i) (zen_tm j)) ∈ zen_F ∨ Cond.not (Cond.eq (zen_tm j) (zen_tm i)) ∈ zen_F := by decide +kernel
theorem zen_7 : ∀ i, i < 7 → Cond.eq (zen_tm i) (zen_tn i) ∈ zen_F := by decide +kernel
theorem zen_8 : Cond.eq (.static "java/lang/String" "COMPACT_STRINGS" "Z") (.int 1) ∈ zen_F := by decide +kernel
theorem zen_9 : Cond.isRef (.static "jdk/internal/util/Preconditions" "SIOOBE_FORMATTER" "Ljava/util/function/BiFunction;") ∈ zen_F := by decide +kernel
theorem zen_l : ∀ i, i < 7 → zen_len.getD i 0 < 2 ^ 31 := by decide +kernel
theorem zen_a : Cond.laysStatic "java/lang/String" "COMPACT_STRINGS" "Z" ∈ tables_1 := List.mem_of_getElem? (i := 554) (by decide +kernel)
theorem zen_b : Cond.laysStatic "jdk/internal/util/Preconditions" "SIOOBE_FORMATTER" "Ljava/util/function/BiFunction;" ∈ tables_1 := List.mem_of_getElem? (i := 570) (by decide +kernel)
theorem zen_c : Cond.arrayOver (.array .long) ∈ tables_1 := List.mem_of_getElem? (i := 858) (by decide +kernel)
theorem zen_d : Cond.arrayOver (.array .int) ∈ tables_1 := List.mem_of_getElem? (i := 860) (by decide +kernel)
theorem zen_env {s : State} {b L : Nat} {xs : Nat → Int32} (hts : ∀ w ∈ lw_tbl, w.before #[Value.ref b] s = true) (hX : va_X b L xs s s.heap) (hbl : b < s.heap.size) (hgv : (Jvm.Cond.and given_1 narrow_1).before #[Value.ref b] s = true) :
    ∃ w : zx_W, w.1 = s.heap.size ∧ w.2.2.2.2.2.2 = b ∧ (w.2.2.2.2.2.1 = .null ∨ ∃ t, w.2.2.2.2.2.1 = .ref t) ∧ zx_Env (zt_P (some (L, xs))) zt_N w zt_cl s := by
  have hs : ∀ w ∈ zen_F, w.before #[Value.ref b] s = true := flat_of_before _ hgv
  have hA : ∀ a : Nat, a < s.heap.size → ¬ (fun q : Nat => s.heap.size ≤ q) a := fun a h => Nat.not_le.mpr h
  have hT : ∀ w ∈ zt_Ts, w.before #[Value.ref b] s = true := fun w h => hts w (List.mem_filter.mp h).1
  have h1 : ∀ w ∈ tables_1, w.before #[Value.ref b] s = true := fun w h => hts w (List.mem_append_right _ h)
  obtain ⟨c0, i0, k0⟩ := u_known (C := "FirstAtTheFirst$Estate") (T := zt_T0) (N := 10) (n := 10) hT zt_u0 (hT _ zw_22)
  obtain ⟨c1, i1, k1⟩ := u_known (C := "FirstAtTheFirst$Mind") (T := zt_T1) (N := 9) (n := 9) hT zt_u1 (hT _ zw_129)
  obtain ⟨c2, i2, k2⟩ := u_known (C := "FirstAtTheFirst$Shelves") (T := zt_T2) (N := 4) (n := 4) hT zt_u2 (hT _ zw_109)
  obtain ⟨c3, i3, k3⟩ := u_known (C := "FirstAtTheFirst$Tape") (T := zt_T3) (N := 6) (n := 6) hT zt_u3 (hT _ zw_81)
  obtain ⟨c4, i4, k4⟩ := u_known (C := "FirstAtTheFirst") (T := zt_T4) (N := 14) (n := 14) hT zt_u4 (hT _ zw_14)
  obtain ⟨c5, i5, k5⟩ := u_known (C := "FirstAtTheFirstModel") (T := zt_T5) (N := 43) (n := 43) hT zt_u5 (hT _ zw_852)
  obtain ⟨dC, dI, hKc⟩ : ∃ (dC : Nat → ClassId) (dI : Nat → Nat → Nat), ∀ (k : Nat) (q : vw_C), zt_cl[k]? = some q → u_Kn s q.1 q.2.1 q.2.2 (dC k) (dI k) := by
    refine ⟨fun k => if k = 0 then c0 else if k = 1 then c1 else if k = 2 then c2 else if k = 3 then c3 else if k = 4 then c4 else c5, fun k => if k = 0 then i0 else if k = 1 then i1 else if k = 2 then i2 else if k = 3 then i3 else if k = 4 then i4 else i5, ?_⟩
    intro k q hq
    match k, hq with
    | 0, hq => cases hq; exact k0
    | 1, hq => cases hq; exact k1
    | 2, hq => cases hq; exact k2
    | 3, hq => cases hq; exact k3
    | 4, hq => cases hq; exact k4
    | 5, hq => cases hq; exact k5
    | k + 6, hq => simp [zt_cl] at hq
  obtain ⟨a1, kA1, p1, e11, e12, e13⟩ := Cond.arrayClass_spec (hT _ zw_79)
  obtain ⟨a2, kA2, p2, e21, e22, e23⟩ := Cond.arrayClass_spec (hT _ zw_127)
  obtain ⟨p3, a3, kA3, -, -, e32, e33, e31⟩ := arrayOverA_spec (t := .int) (h1 _ zen_d)
  obtain ⟨p4, a4, kA4, -, -, e42, e43, e41⟩ := arrayOverA_spec (t := .long) (h1 _ zen_c)
  obtain ⟨adK, adV, hV, hE⟩ := vk_Sof (args := #[Value.ref b]) (s := s) (N := 7) (tm := zen_tm) (len := zen_len) (byt := zt_txt) (A := fun q : Nat => s.heap.size ≤ q) zen_l (fun i hi => hs _ (zen_1 i hi)) (fun i hi => hs _ (zen_2 i hi)) (fun i hi => hs _ (zen_3 i hi)) (fun i hi => hs _ (zen_4 i hi)) (fun i hi j hj => hs _ (zen_5 i hi j hj)) (fun i j hi hj hn => (zen_6 i hi j hj hn).imp (hs _) (hs _)) hA
  have hM : ∀ i : Nat, i < 7 → (zen_tn i).eval #[Value.ref b] s none [] s = some (.ref (adK i)) := fun i hi => va_eqR (hs _ (zen_7 i hi)) (hE i hi)
  obtain ⟨v, hv0, hv⟩ : ∃ v : Value, (v = .null ∨ ∃ t, v = .ref t) ∧ va_Z "jdk/internal/util/Preconditions" "SIOOBE_FORMATTER" "Ljava/util/function/BiFunction;" v (fun q : Nat => s.heap.size ≤ q) s s.heap := by
    rcases va_Zqof (A := fun q : Nat => s.heap.size ≤ q) (h1 _ zen_b) (hT _ zw_11) (hs _ zen_9) hA with h | ⟨t, h⟩
    · exact ⟨_, Or.inl rfl, h⟩
    · exact ⟨_, Or.inr ⟨t, rfl⟩, h⟩
  refine ⟨(s.heap.size, (dC, dI), (a1, a2, a3, a4), adK, adV, v, b), rfl, rfl, hv0, ⟨hKc, ?_⟩, hV, ?_, ?_, va_Zof (h1 _ zen_a) (hT _ zw_9) (va_eqi (hs _ zen_8)) hA, hv, ?_, Nat.le_refl _, h1 _ zen_d, h1 _ zen_c⟩
  · intro k q hq
    match k, hq with
    | 0, hq => cases hq; exact ⟨fun n z => ⟨fun k h => (by cases h), kA1, e12, p1, e13⟩, e11⟩
    | 1, hq => cases hq; exact ⟨fun n z => ⟨fun k h => (by cases h), kA2, e22, p2, e23⟩, e21⟩
    | 2, hq => cases hq; exact ⟨fun n z => ⟨fun k h => (by cases h), kA3, e32, p3, e33⟩, e31⟩
    | 3, hq => cases hq; exact ⟨fun n z => ⟨fun k h => (by cases h), kA4, e42, p4, e43⟩, e41⟩
    | k + 4, hq => simp [zx_tys] at hq
  · exact List.forall_mem_cons.mpr ⟨⟨(by decide : (0 : Nat) < 7), vk_R.of (h1 _ zv_540) (hE 0 (by decide))⟩, List.forall_mem_cons.mpr ⟨⟨(by decide : (1 : Nat) < 7), vk_R.of (h1 _ zv_602) (hE 1 (by decide))⟩, List.forall_mem_cons.mpr ⟨⟨(by decide : (2 : Nat) < 7), vk_R.of (h1 _ zv_608) (hE 2 (by decide))⟩, List.forall_mem_cons.mpr ⟨⟨(by decide : (3 : Nat) < 7), vk_R.of (h1 _ zv_613) (hE 3 (by decide))⟩, List.forall_mem_cons.mpr ⟨⟨(by decide : (4 : Nat) < 7), vk_R.of (h1 _ zv_619) (hE 4 (by decide))⟩, List.forall_mem_cons.mpr ⟨⟨(by decide : (5 : Nat) < 7), vk_R.of (h1 _ zv_624) (hE 5 (by decide))⟩, List.forall_mem_cons.mpr ⟨⟨(by decide : (6 : Nat) < 7), vk_R.of (h1 _ zv_629) (hE 6 (by decide))⟩,
      List.forall_mem_cons.mpr ⟨⟨(by decide : (0 : Nat) < 7), vk_R.of (h1 _ zv_1192) (hM 0 (by decide))⟩, List.forall_mem_cons.mpr ⟨⟨(by decide : (1 : Nat) < 7), vk_R.of (h1 _ zv_1211) (hM 1 (by decide))⟩, List.forall_mem_cons.mpr ⟨⟨(by decide : (2 : Nat) < 7), vk_R.of (h1 _ zv_1216) (hM 2 (by decide))⟩, List.forall_mem_cons.mpr ⟨⟨(by decide : (3 : Nat) < 7), vk_R.of (h1 _ zv_1217) (hM 3 (by decide))⟩, List.forall_mem_cons.mpr ⟨⟨(by decide : (4 : Nat) < 7), vk_R.of (h1 _ zv_1222) (hM 4 (by decide))⟩, List.forall_mem_cons.mpr ⟨⟨(by decide : (5 : Nat) < 7), vk_R.of (h1 _ zv_1223) (hM 5 (by decide))⟩, List.forall_mem_cons.mpr ⟨⟨(by decide : (6 : Nat) < 7), vk_R.of (h1 _ zv_1224) (hM 6 (by decide))⟩, fun _ h => absurd h List.not_mem_nil⟩⟩⟩⟩⟩⟩⟩⟩⟩⟩⟩⟩⟩⟩
  · exact List.forall_mem_cons.mpr ⟨va_Nw.of rfl (h1 _ zv_23), List.forall_mem_cons.mpr ⟨va_Nw.of rfl (h1 _ zv_82), List.forall_mem_cons.mpr ⟨va_Nw.of rfl (h1 _ zv_110), List.forall_mem_cons.mpr ⟨va_Nw.of rfl (h1 _ zv_130), List.forall_mem_cons.mpr ⟨va_Nw.of rfl (h1 _ zv_231), List.forall_mem_cons.mpr ⟨va_Nw.of rfl (h1 _ zv_245), List.forall_mem_cons.mpr ⟨va_Nw.of rfl (h1 _ zv_303), List.forall_mem_cons.mpr ⟨va_Nw.of rfl (h1 _ zv_338),
      List.forall_mem_cons.mpr ⟨va_Nw.of rfl (h1 _ zv_354), List.forall_mem_cons.mpr ⟨va_Nw.of rfl (h1 _ zv_391), List.forall_mem_cons.mpr ⟨va_Nw.of rfl (h1 _ zv_408), List.forall_mem_cons.mpr ⟨va_Nw.of rfl (h1 _ zv_422), List.forall_mem_cons.mpr ⟨va_Nw.of rfl (h1 _ zv_456), List.forall_mem_cons.mpr ⟨va_Nw.of rfl (h1 _ zv_522), List.forall_mem_cons.mpr ⟨va_Nw.of rfl (h1 _ zv_535), List.forall_mem_cons.mpr ⟨va_Nw.of rfl (h1 _ zv_618), fun _ h => absurd h List.not_mem_nil⟩⟩⟩⟩⟩⟩⟩⟩⟩⟩⟩⟩⟩⟩⟩⟩
  · intro q hq
    have hq2 : (some (L, xs) : Option (Nat × (Nat → Int32))) = some q := hq
    cases hq2
    exact ⟨hX, hbl⟩
