/-! A CHECK OF AN ENTRY, AND WHAT IT MEANS -/
def zt_ln : Instr → Nat
  | .ldc _ | .newarray _ => 2
  | .ldc_w _ | .ldc2_w _ | .goto _ | .ifCond _ _ | .if_icmp _ _ | .ifnull _ | .ifnonnull _ | .getfield _ | .putfield _ | .getstatic _ | .new _ | .invokevirtual _ | .invokespecial _ | .invokestatic _ => 3
  | .multianewarray _ _ => 4
  | i => zx_ln i
def zt_tb : Instr → Bool
  | .tableswitch _ _ _ _ => true
  | _ => false
def zt_D (cc : ByteArray) (pc : Nat) (i : Instr) : Bool := match decode cc pc with
  | .ok (j, n) => decide (j = i) && (zt_tb i || Nat.beq n (zt_ln i))
  | .error _ => false
theorem zt_D_tb {cc : ByteArray} {pc : Nat} {i : Instr} (h : zt_D cc pc i = true) : ∃ n, decode cc pc = .ok (i, n) ∧ (zt_tb i = false → n = zt_ln i) := by
  unfold zt_D at h
  split at h
  · rename_i j n hd
    rw [Bool.and_eq_true] at h
    obtain rfl : j = i := of_decide_eq_true h.1
    refine ⟨n, hd, fun ht => ?_⟩
    have h2 := h.2
    rw [ht, Bool.false_or] at h2
    exact Nat.eq_of_beq_eq_true h2
  · cases h
theorem zt_D_ok {cc : ByteArray} {pc : Nat} {i : Instr} (h : zt_D cc pc i = true) (ht : zt_tb i = false) : decode cc pc = .ok (i, zt_ln i) := by
  obtain ⟨n, h1, h2⟩ := zt_D_tb h
  rw [h1, h2 ht]
def zt_a2 (l : List (Nat × Nat)) (a b : Nat) : Bool := l.any fun q => Nat.beq q.1 a && Nat.beq q.2 b
def zt_a3 (l : List (Nat × Nat × Nat)) (a b c : Nat) : Bool := l.any fun q => Nat.beq q.1 a && Nat.beq q.2.1 b && Nat.beq q.2.2 c
def zt_a4 (l : List (Nat × Nat × Nat × Nat)) (a b c d : Nat) : Bool := l.any fun q => Nat.beq q.1 a && Nat.beq q.2.1 b && Nat.beq q.2.2.1 c && Nat.beq q.2.2.2 d
def zt_ai (l : List (Nat × Nat × Int)) (a b : Nat) (c : Int) : Bool := l.any fun q => Nat.beq q.1 a && Nat.beq q.2.1 b && decide (q.2.2 = c)
theorem zt_a2_in {l : List (Nat × Nat)} {a b : Nat} (h : zt_a2 l a b = true) : (a, b) ∈ l := by
  obtain ⟨q, h1, h2⟩ := List.any_eq_true.mp h
  simp only [Bool.and_eq_true] at h2
  obtain ⟨e1, e2⟩ := h2
  rw [← Nat.eq_of_beq_eq_true e1, ← Nat.eq_of_beq_eq_true e2]
  exact h1
theorem zt_a3_in {l : List (Nat × Nat × Nat)} {a b c : Nat} (h : zt_a3 l a b c = true) : (a, b, c) ∈ l := by
  obtain ⟨q, h1, h2⟩ := List.any_eq_true.mp h
  simp only [Bool.and_eq_true] at h2
  obtain ⟨⟨e1, e2⟩, e3⟩ := h2
  rw [← Nat.eq_of_beq_eq_true e1, ← Nat.eq_of_beq_eq_true e2, ← Nat.eq_of_beq_eq_true e3]
  exact h1
theorem zt_a4_in {l : List (Nat × Nat × Nat × Nat)} {a b c d : Nat} (h : zt_a4 l a b c d = true) : (a, b, c, d) ∈ l := by
  obtain ⟨q, h1, h2⟩ := List.any_eq_true.mp h
  simp only [Bool.and_eq_true] at h2
  obtain ⟨⟨⟨e1, e2⟩, e3⟩, e4⟩ := h2
  rw [← Nat.eq_of_beq_eq_true e1, ← Nat.eq_of_beq_eq_true e2, ← Nat.eq_of_beq_eq_true e3, ← Nat.eq_of_beq_eq_true e4]
  exact h1
theorem zt_ai_in {l : List (Nat × Nat × Int)} {a b : Nat} {c : Int} (h : zt_ai l a b c = true) : (a, b, c) ∈ l := by
  obtain ⟨q, h1, h2⟩ := List.any_eq_true.mp h
  simp only [Bool.and_eq_true, decide_eq_true_eq] at h2
  obtain ⟨⟨e1, e2⟩, e3⟩ := h2
  rw [← Nat.eq_of_beq_eq_true e1, ← Nat.eq_of_beq_eq_true e2, ← e3]
  exact h1
/-- an entry's links, by its method's row -/
def zt_lk (r : Nat × Nat × Nat × Int × Nat) (pc : Nat) (en : zx_En) : Bool := match en.1 with
  | .ldc k => if en.2.1 = 0 then zt_ai zt_ki r.1 k en.2.2.2 else zt_a3 zt_ks r.1 k en.2.2.1
  | .ldc_w k => zt_ai zt_ki r.1 k en.2.2.2
  | .ldc2_w k => zt_ai zt_kl r.1 k en.2.2.2
  | .goto o => decide ((pc : Int) + o = (en.2.2.1 : Int))
  | .ifCond _ o => decide ((pc : Int) + o = (en.2.2.1 : Int))
  | .if_icmp _ o => decide ((pc : Int) + o = (en.2.2.1 : Int))
  | .ifnull o => decide ((pc : Int) + o = (en.2.2.1 : Int))
  | .ifnonnull o => decide ((pc : Int) + o = (en.2.2.1 : Int))
  | .tableswitch d lo hi offs => decide (0 ≤ (pc : Int) + d) && offs.toList.all (fun o => decide (0 ≤ (pc : Int) + o)) && decide (hi + 1 = lo + (offs.toList.length : Int))
  | .getfield k => if en.2.2.2 = 2 then zt_a3 zt_sf r.1 k 2 else if en.2.2.2 = 3 then zt_a3 zt_sf r.1 k 3 else zt_a4 zt_fl r.1 k en.2.1 en.2.2.1 && decide (zt_isr en.2.1 en.2.2.1 = decide (en.2.2.2 = 1))
  | .putfield k => zt_a4 zt_fl r.1 k en.2.1 en.2.2.1 && decide (en.2.2.2 = (zt_fk en.2.1 en.2.2.1 : Int)) && (!zt_fin en.2.1 en.2.2.1 || (Nat.beq r.2.1 2 && Nat.beq r.1 (en.2.1 + 1)))
  | .getstatic k => zt_a3 zt_gs r.1 k en.2.1
  | .new k => zt_a3 zt_nw r.1 k en.2.1
  | .newarray t => decide (t = .int) || decide (t = .long)
  | .multianewarray k d => zt_a3 zt_ma r.1 k en.2.1 && Nat.beq d 2
  | .invokevirtual k => zt_a3 zt_ml r.1 k en.2.1 && Nat.beq (zt_q en.2.1).2.2.1 1 && Nat.beq en.2.2.1 ((zt_q en.2.1).2.2.2.1 + 1) && decide (en.2.2.2 = (zt_q en.2.1).2.2.2.2.1)
  | .invokespecial k => if en.2.2.2 = 99 then zt_a2 zt_ob r.1 k else zt_a3 zt_ml r.1 k en.2.1 && Nat.beq (zt_q en.2.1).2.2.1 2 && Nat.beq en.2.2.1 ((zt_q en.2.1).2.2.2.1 + 1) && decide (en.2.2.2 = 100)
  | .invokestatic k => if en.2.2.2 = 97 then zt_a2 zt_max r.1 k else if en.2.2.2 = 98 then zt_a2 zt_min r.1 k else zt_a3 zt_ml r.1 k en.2.1 && Nat.beq (zt_q en.2.1).2.2.1 0 && Nat.beq en.2.2.1 (zt_q en.2.1).2.2.2.1
  | .ireturn => Nat.beq r.2.2.2.2 en.2.1 && Nat.ble en.2.1 3
  | .lreturn => Nat.beq r.2.2.2.2 4
  | .areturn => Nat.beq r.2.2.2.2 5
  | .return_ => Nat.beq r.2.2.2.2 6
  | _ => true
def zt_chk (m pc : Nat) (en : zx_En) : Bool := Nat.ble (zt_q m).2.2.1 4 && zt_D (zt_q m).1.2.1 pc en.1 && zt_lk (zt_q m).2 pc en
def zt_tk (o : Option FieldType) (k : Nat) : Bool := match o with
  | some .int => Nat.beq k 0
  | some .boolean => Nat.beq k 4
  | some (.object _) => Nat.beq k 1
  | some (.array _) => Nat.beq k 1
  | _ => false
theorem zt_tk_ok {o : Option FieldType} {k : Nat} (h : zt_tk o k = true) : ∃ ty, o = some ty ∧ ((k : Int) = 1 → (∃ D, ty = .object D) ∨ ∃ t, ty = .array t) ∧ ((k : Int) = 4 → ty = .boolean) ∧ (¬ (k : Int) = 1 → ¬ (k : Int) = 4 → ty = .int) := by
  unfold zt_tk at h
  split at h
  · have := Nat.eq_of_beq_eq_true h
    exact ⟨_, rfl, fun q => by omega, fun q => by omega, fun _ _ => rfl⟩
  · have := Nat.eq_of_beq_eq_true h
    exact ⟨_, rfl, fun q => by omega, fun q => rfl, fun _ q => by omega⟩
  · have := Nat.eq_of_beq_eq_true h
    exact ⟨_, rfl, fun q => Or.inl ⟨_, rfl⟩, fun q => by omega, fun q _ => by omega⟩
  · have := Nat.eq_of_beq_eq_true h
    exact ⟨_, rfl, fun q => Or.inr ⟨_, rfl⟩, fun q => by omega, fun q _ => by omega⟩
  · cases h
theorem zt_g0 : ∀ b, b < 10 → (zt_T0 b).1 = "FirstAtTheFirst$Estate" ∧ (zt_T0 b).2.2.2 = zt_fin 0 b ∧ zt_tk (parseFieldDescriptor (zt_T0 b).2.2.1) (zt_fk 0 b) = true := by decide +kernel
theorem zt_g1 : ∀ b, b < 9 → (zt_T1 b).1 = "FirstAtTheFirst$Mind" ∧ (zt_T1 b).2.2.2 = zt_fin 1 b ∧ zt_tk (parseFieldDescriptor (zt_T1 b).2.2.1) (zt_fk 1 b) = true := by decide +kernel
theorem zt_g2 : ∀ b, b < 4 → (zt_T2 b).1 = "FirstAtTheFirst$Shelves" ∧ (zt_T2 b).2.2.2 = zt_fin 2 b ∧ zt_tk (parseFieldDescriptor (zt_T2 b).2.2.1) (zt_fk 2 b) = true := by decide +kernel
theorem zt_g3 : ∀ b, b < 6 → (zt_T3 b).1 = "FirstAtTheFirst$Tape" ∧ (zt_T3 b).2.2.2 = zt_fin 3 b ∧ zt_tk (parseFieldDescriptor (zt_T3 b).2.2.1) (zt_fk 3 b) = true := by decide +kernel
theorem zt_g4 : ∀ b, b < 14 → (zt_T4 b).1 = "FirstAtTheFirst" ∧ (zt_T4 b).2.2.2 = zt_fin 4 b ∧ zt_tk (parseFieldDescriptor (zt_T4 b).2.2.1) (zt_fk 4 b) = true := by decide +kernel
theorem zt_g5 : ∀ b, b < 43 → (zt_T5 b).1 = "FirstAtTheFirstModel" ∧ (zt_T5 b).2.2.2 = zt_fin 5 b ∧ zt_tk (parseFieldDescriptor (zt_T5 b).2.2.1) (zt_fk 5 b) = true := by decide +kernel
/-- the fields' types as the checks have them -/
theorem zt_ft : ∀ ci, ci < 6 → ∀ (C : String) (T : u_T) (n b : Nat), zt_cl[ci]? = some (C, T, n) → b < n → (T b).1 = C ∧ C = zt_cn (ci + 1) ∧ (T b).2.2.2 = zt_fin ci b ∧ ∃ ty, parseFieldDescriptor (T b).2.2.1 = some ty ∧ ((zt_fk ci b : Int) = 1 → (∃ D, ty = .object D) ∨ ∃ t, ty = .array t) ∧ ((zt_fk ci b : Int) = 4 → ty = .boolean) ∧ (¬ (zt_fk ci b : Int) = 1 → ¬ (zt_fk ci b : Int) = 4 → ty = .int) := by
  intro ci hci C T n b h hb
  match ci, h with
  | 0, h => cases h; exact ⟨(zt_g0 b hb).1, rfl, (zt_g0 b hb).2.1, zt_tk_ok (zt_g0 b hb).2.2⟩
  | 1, h => cases h; exact ⟨(zt_g1 b hb).1, rfl, (zt_g1 b hb).2.1, zt_tk_ok (zt_g1 b hb).2.2⟩
  | 2, h => cases h; exact ⟨(zt_g2 b hb).1, rfl, (zt_g2 b hb).2.1, zt_tk_ok (zt_g2 b hb).2.2⟩
  | 3, h => cases h; exact ⟨(zt_g3 b hb).1, rfl, (zt_g3 b hb).2.1, zt_tk_ok (zt_g3 b hb).2.2⟩
  | 4, h => cases h; exact ⟨(zt_g4 b hb).1, rfl, (zt_g4 b hb).2.1, zt_tk_ok (zt_g4 b hb).2.2⟩
  | 5, h => cases h; exact ⟨(zt_g5 b hb).1, rfl, (zt_g5 b hb).2.1, zt_tk_ok (zt_g5 b hb).2.2⟩
  | n + 6, h => omega
theorem zt_good {X : Option (Nat × (Nat → Int32))} {m pc : Nat} {en : zx_En} (h : zt_chk m pc en = true) : zx_good (zt_P X) zt_N zt_Ts zt_cl zt_isr zt_mt (zt_mt m).2.1 (zt_mt m).1.cls (zt_mt m).1.name (zt_mt m).2.2.2 pc en := by
  obtain ⟨ins, ea, eb, ek⟩ := en
  unfold zt_chk at h
  rw [Bool.and_eq_true, Bool.and_eq_true] at h
  obtain ⟨⟨hk, hD0⟩, h⟩ := h
  obtain ⟨g0, g1, g2, g3, g4, g5⟩ := zt_q_ok (Nat.le_of_ble_eq_true hk)
  have e1 : (zt_mt m).1.cls = zt_cn (zt_q m).2.1 := g1
  have e2 : (zt_mt m).2.2.2 = zt_ret (zt_q m).2.2.2.2.2 := g2
  have hD : zt_D (zt_mt m).2.1 pc ins = true := hD0
  clear hD0
  rw [e1, e2]
  cases ins
  case ldc k =>
    refine ⟨zt_D_ok hD rfl, ?_⟩
    dsimp only [zt_lk] at h
    split
    · rename_i q
      rw [if_pos q] at h
      exact zt_ki_ok _ (zt_ai_in h)
    · rename_i q
      rw [if_neg q] at h
      exact zt_ks_ok _ (zt_a3_in h)
  case ldc_w k => exact ⟨zt_D_ok hD rfl, zt_ki_ok _ (zt_ai_in h)⟩
  case ldc2_w k => exact ⟨zt_D_ok hD rfl, zt_kl_ok _ (zt_ai_in h)⟩
  case goto o => exact ⟨zt_D_ok hD rfl, of_decide_eq_true h⟩
  case ifCond c o => exact ⟨zt_D_ok hD rfl, of_decide_eq_true h⟩
  case if_icmp c o => exact ⟨zt_D_ok hD rfl, of_decide_eq_true h⟩
  case ifnull o => exact ⟨zt_D_ok hD rfl, of_decide_eq_true h⟩
  case ifnonnull o => exact ⟨zt_D_ok hD rfl, of_decide_eq_true h⟩
  case tableswitch d lo hi offs =>
    dsimp only [zt_lk] at h
    rw [Bool.and_eq_true, Bool.and_eq_true] at h
    obtain ⟨⟨h1, h2⟩, h3⟩ := h
    obtain ⟨n, hn, -⟩ := zt_D_tb hD
    exact ⟨⟨n, hn⟩, of_decide_eq_true h1, fun o ho => of_decide_eq_true (List.all_eq_true.mp h2 o ho), of_decide_eq_true h3⟩
  case getfield k =>
    refine ⟨zt_D_ok hD rfl, ?_⟩
    dsimp only [zt_lk] at h ⊢
    split
    · rename_i q
      rw [if_pos q] at h
      rcases zt_sf_ok _ (zt_a3_in h) with ⟨-, w⟩ | ⟨w, -⟩
      · exact w
      · cases w
    · rename_i q
      rw [if_neg q] at h
      split
      · rename_i q2
        rw [if_pos q2] at h
        rcases zt_sf_ok _ (zt_a3_in h) with ⟨w, -⟩ | ⟨-, w⟩
        · cases w
        · exact w
      · rename_i q2
        rw [if_neg q2, Bool.and_eq_true] at h
        exact ⟨zt_fl_ok _ (zt_a4_in h.1), of_decide_eq_true h.2⟩
  case putfield k =>
    dsimp only [zt_lk] at h
    rw [Bool.and_eq_true, Bool.and_eq_true] at h
    obtain ⟨⟨h1, h2⟩, h3⟩ := h
    have h2 : ek = (zt_fk ea eb : Int) := of_decide_eq_true h2
    have w := zt_fl_ok _ (zt_a4_in h1)
    refine ⟨zt_D_ok hD rfl, w, ?_, fun C T n hcl => ?_⟩
    · show zt_isr ea eb = decide (ek = 1)
      rw [h2]
      unfold zt_isr
      cases hq : Nat.beq (zt_fk ea eb) 1 with
      | true =>
        have := Nat.eq_of_beq_eq_true hq
        exact (decide_eq_true (by omega)).symm
      | false =>
        have : zt_fk ea eb ≠ 1 := fun e => by rw [e] at hq; cases hq
        exact (decide_eq_false (by omega)).symm
    · have hci : ea < 6 := (List.getElem?_eq_some_iff.mp hcl).1
      obtain ⟨C', T', n', hcl', hb, -⟩ := w
      cases hcl.symm.trans hcl'
      obtain ⟨t1, t2, t3, ty, t4, t5, t6, t7⟩ := zt_ft ea hci C T n eb hcl hb
      refine ⟨?_, ty, t4, ?_⟩
      · dsimp only at hb ⊢
        rw [t3]
        cases hf : zt_fin ea eb with
        | false => exact Or.inl rfl
        | true =>
          rw [hf] at h3
          simp only [Bool.not_true, Bool.false_or, Bool.and_eq_true] at h3
          have k2 : (zt_q m).2.2.1 = 2 := Nat.eq_of_beq_eq_true h3.1
          have k3 : (zt_q m).2.1 = ea + 1 := Nat.eq_of_beq_eq_true h3.2
          exact Or.inr ⟨rfl, (g4 k2).2.1, by rw [k3]; exact t2⟩
      · dsimp only
        rw [h2]
        split
        · rename_i q
          exact t5 q
        · rename_i q
          split
          · rename_i q2
            exact t6 q2
          · rename_i q2
            exact t7 q q2
  case getstatic k =>
    refine ⟨zt_D_ok hD rfl, ?_⟩
    rcases zt_gs_ok _ (zt_a3_in h) with ⟨w1, w⟩ | ⟨w1, w⟩
    · dsimp only at w1 ⊢
      rw [if_pos w1]
      exact w
    · dsimp only at w1 ⊢
      rw [if_neg (by omega)]
      exact w
  case new k => exact ⟨zt_D_ok hD rfl, zt_nw_ok _ (zt_a3_in h)⟩
  case newarray t =>
    refine ⟨zt_D_ok hD rfl, ?_⟩
    dsimp only [zt_lk] at h
    rw [Bool.or_eq_true] at h
    rcases h with h | h
    · obtain rfl := of_decide_eq_true h
      exact zt_aci
    · obtain rfl := of_decide_eq_true h
      exact zt_acl
  case multianewarray k d =>
    dsimp only [zt_lk] at h
    rw [Bool.and_eq_true] at h
    obtain rfl : d = 2 := Nat.eq_of_beq_eq_true h.2
    refine ⟨zt_D_ok hD rfl, rfl, ?_⟩
    rcases zt_ma_ok _ (zt_a3_in h.1) with ⟨w1, w⟩ | ⟨w1, w⟩
    · dsimp only at w1 ⊢
      rw [if_pos w1]
      exact w
    · dsimp only at w1 ⊢
      rw [if_neg (by omega)]
      exact w
  case invokevirtual k =>
    dsimp only [zt_lk] at h
    simp only [Bool.and_eq_true] at h
    obtain ⟨⟨⟨h1, h2⟩, h3⟩, h4⟩ := h
    have h2 : (zt_q ea).2.2.1 = 1 := Nat.eq_of_beq_eq_true h2
    obtain ⟨m0, -, -, m3, -, -⟩ := zt_q_ok (j := ea) (by omega)
    have h4 : ek = (zt_q ea).2.2.2.2.1 := of_decide_eq_true h4
    obtain ⟨v1, v2, v3⟩ := m3 h2
    refine ⟨zt_D_ok hD rfl, (zt_q ea).2.2.2.1, Nat.eq_of_beq_eq_true h3, m0 (by omega), zt_ml_ok _ (zt_a3_in h1), v1, v2, ?_⟩
    dsimp only
    rw [h4]
    exact v3
  case invokespecial k =>
    refine ⟨zt_D_ok hD rfl, ?_⟩
    dsimp only [zt_lk] at h ⊢
    split
    · rename_i q
      rw [if_pos q] at h
      exact ⟨zt_ob_ok _ (zt_a2_in h), zt_obw.1, zt_obw.2⟩
    · rename_i q
      rw [if_neg q] at h
      simp only [Bool.and_eq_true] at h
      obtain ⟨⟨⟨h1, h2⟩, h3⟩, h4⟩ := h
      have h2 : (zt_q ea).2.2.1 = 2 := Nat.eq_of_beq_eq_true h2
      obtain ⟨m0, -, -, -, m4, -⟩ := zt_q_ok (j := ea) (by omega)
      obtain ⟨v1, v2, v3⟩ := m4 h2
      exact ⟨(zt_q ea).2.2.2.1, Nat.eq_of_beq_eq_true h3, m0 (by omega), zt_ml_ok _ (zt_a3_in h1), v1, v2, v3, of_decide_eq_true h4⟩
  case invokestatic k =>
    refine ⟨zt_D_ok hD rfl, ?_⟩
    dsimp only [zt_lk] at h ⊢
    split
    · rename_i q
      rw [if_pos q] at h
      exact ⟨zt_max_ok _ (zt_a2_in h), zt_maxw⟩
    · rename_i q
      rw [if_neg q] at h
      split
      · rename_i q2
        rw [if_pos q2] at h
        exact ⟨zt_min_ok _ (zt_a2_in h), zt_minw⟩
      · rename_i q2
        rw [if_neg q2] at h
        simp only [Bool.and_eq_true] at h
        obtain ⟨⟨h1, h2⟩, h3⟩ := h
        have h2 : (zt_q ea).2.2.1 = 0 := Nat.eq_of_beq_eq_true h2
        obtain ⟨m0, -, -, -, -, m5⟩ := zt_q_ok (j := ea) (by omega)
        have h3 : eb = (zt_q ea).2.2.2.1 := Nat.eq_of_beq_eq_true h3
        refine ⟨?_, zt_ml_ok _ (zt_a3_in h1), m5 h2⟩
        rw [h3]
        exact m0 (by omega)
  case ireturn =>
    dsimp only [zt_lk] at h
    rw [Bool.and_eq_true] at h
    have h1 : (zt_q m).2.2.2.2.2 = ea := Nat.eq_of_beq_eq_true h.1
    have h2 := Nat.le_of_ble_eq_true h.2
    refine ⟨zt_D_ok hD rfl, ?_⟩
    rw [h1]
    match ea, h2 with
    | 0, _ => rfl
    | 1, _ => rfl
    | 2, _ => rfl
    | 3, _ => rfl
  case lreturn =>
    have h1 : (zt_q m).2.2.2.2.2 = 4 := Nat.eq_of_beq_eq_true h
    exact ⟨zt_D_ok hD rfl, by rw [h1]; rfl⟩
  case areturn =>
    have h1 : (zt_q m).2.2.2.2.2 = 5 := Nat.eq_of_beq_eq_true h
    exact ⟨zt_D_ok hD rfl, "FirstAtTheFirstModel", by rw [h1]; rfl⟩
  case return_ =>
    have h1 : (zt_q m).2.2.2.2.2 = 6 := Nat.eq_of_beq_eq_true h
    exact ⟨zt_D_ok hD rfl, by rw [h1]; rfl⟩
  all_goals exact zt_D_ok hD rfl
