/-! MAKING OBJECTS: a run over new cells alone, read off by the kernel, holds wherever the cells lie -/
abbrev zK : Type := List (Nat × Nat) × List (Nat × Nat × Nat × Nat) × List (Nat × Nat × Int32) × Nat
def zK_r : List (Nat × Nat × Nat × Nat) → Nat → Nat → Option Nat
  | [], _, _ => none
  | (c', f', n, t) :: r, c, f => if c' = c ∧ f' ≤ f ∧ f < f' + n then some (t + (f - f')) else zK_r r c f
def zK_v : List (Nat × Nat × Int32) → Nat → Nat → Int32
  | [], _, _ => 0
  | (c', f', v) :: r, c, f => if c = c' ∧ f = f' then v else zK_v r c f
def zK_s (a : Nat) : Value → Value
  | .ref c => .ref (a + c)
  | v => v
theorem zK_sc (a : Nat) (v : Value) : (zK_s a v).category = v.category := by cases v <;> rfl
theorem zK_sm (a : Nat) (r : List Value) : ((r.map (zK_s a)).map fun v => v.category) = r.map fun v => v.category := by
  rw [List.map_map]
  exact List.map_congr_left (fun v _ => zK_sc a v)
theorem zK_rn {R : List (Nat × Nat × Nat × Nat)} {c : Nat} (h : ∀ q ∈ R, q.1 < c) (f : Nat) : zK_r R c f = none := by
  induction R with
  | nil => rfl
  | cons q r ih =>
    obtain ⟨c', f', n, t⟩ := q
    have := h _ List.mem_cons_self
    dsimp only at this
    unfold zK_r
    rw [if_neg (by omega)]
    exact ih (fun q hq => h q (List.mem_cons_of_mem _ hq))
theorem zK_vn {R : List (Nat × Nat × Int32)} {c : Nat} (h : ∀ q ∈ R, q.1 < c) (f : Nat) : zK_v R c f = 0 := by
  induction R with
  | nil => rfl
  | cons q r ih =>
    obtain ⟨c', f', t⟩ := q
    have := h _ List.mem_cons_self
    dsimp only at this
    unfold zK_v
    rw [if_neg (by omega)]
    exact ih (fun q hq => h q (List.mem_cons_of_mem _ hq))
def zK_run : Nat → Nat → Nat → Nat → Nat → List Value → zK → Option zK
  | 0, _, _, _, _, _, _ => none
  | n + 1, d, m, pc, t, st, σ => match zt_code m pc with
    | none => none
    | some (i, ea, eb, ek) => match i with
      | .aload_n j => if j.val = 0 then zK_run n d m (pc + 1) t (.ref t :: st) σ else none
      | .iconst q => zK_run n d m (pc + 1) t (.int (Int32.ofInt q) :: st) σ
      | .bipush q => zK_run n d m (pc + 2) t (.int (Int8.ofInt q).toInt32 :: st) σ
      | .sipush q => zK_run n d m (pc + 3) t (.int (Int16.ofInt q).toInt32 :: st) σ
      | .dup => (match st with
        | .ref c :: r => zK_run n d m (pc + 1) t (.ref c :: .ref c :: r) σ
        | _ => none)
      | .new _ => if σ.1.length < 1000 then zK_run n d m (pc + 3) t (.ref σ.1.length :: st) (σ.1 ++ [(ea, 0)], σ.2.1, σ.2.2.1, σ.2.2.2 + zt_nf ea) else none
      | .newarray ty => (match st with
        | .int x :: r => if x < 0 ∨ 10000 < x.toNatClampNeg ∨ 1000 ≤ σ.1.length then none else (match ty with
          | .int => zK_run n d m (pc + 2) t (.ref σ.1.length :: r) (σ.1 ++ [(10, x.toNatClampNeg)], σ.2.1, σ.2.2.1, σ.2.2.2 + x.toNatClampNeg)
          | .long => zK_run n d m (pc + 2) t (.ref σ.1.length :: r) (σ.1 ++ [(11, x.toNatClampNeg)], σ.2.1, σ.2.2.1, σ.2.2.2 + x.toNatClampNeg)
          | _ => none)
        | _ => none)
      | .multianewarray _ _ => (match st with
        | .int y :: .int x :: r => if x < 0 ∨ y < 0 ∨ 10000 < x.toNatClampNeg ∨ 10000 < y.toNatClampNeg ∨ 1000 ≤ σ.1.length then none else
          if ea = 0 then zK_run n d m (pc + 4) t (.ref σ.1.length :: r) (σ.1 ++ (12, x.toNatClampNeg) :: List.replicate x.toNatClampNeg (10, y.toNatClampNeg), (σ.1.length, 0, x.toNatClampNeg, σ.1.length + 1) :: σ.2.1, σ.2.2.1, σ.2.2.2 + (x.toNatClampNeg + x.toNatClampNeg * y.toNatClampNeg))
          else zK_run n d m (pc + 4) t (.ref σ.1.length :: r) (σ.1 ++ (13, x.toNatClampNeg) :: List.replicate x.toNatClampNeg (11, y.toNatClampNeg), (σ.1.length, 0, x.toNatClampNeg, σ.1.length + 1) :: σ.2.1, σ.2.2.1, σ.2.2.2 + (x.toNatClampNeg + x.toNatClampNeg * y.toNatClampNeg))
        | _ => none)
      | .putfield _ => if ek = 1 then (match st with
          | .ref v :: .ref c :: r => if c < σ.1.length ∧ v < σ.1.length ∧ σ.1.length ≤ 2000 ∧ (σ.1.getD c (9, 0)).1 = ea then zK_run n d m (pc + 3) t r (σ.1, (c, eb, 1, v) :: σ.2.1, σ.2.2.1, σ.2.2.2) else none
          | _ => none) else (match st with
          | .int v :: .ref c :: r => if c < σ.1.length ∧ σ.1.length ≤ 2000 ∧ (σ.1.getD c (9, 0)).1 = ea ∧ (ek = 4 → v = 0 ∨ v = 1) then zK_run n d m (pc + 3) t r (σ.1, σ.2.1, (c, eb, v) :: σ.2.2.1, σ.2.2.2) else none
          | _ => none)
      | .invokespecial _ => if ek = 99 then (match st with
          | .ref _ :: r => if (r.map fun v => v.category).sum ≤ 8 then zK_run n d m (pc + 3) t r σ else none
          | _ => none) else if ek = 100 ∧ eb = 1 then (match st, d with
          | .ref c :: r, d + 1 => if c < σ.1.length ∧ σ.1.length ≤ 2000 ∧ (σ.1.getD c (9, 0)).1 < 6 ∧ (zt_mt ea).2.2.1 = 1 ∧ (r.map fun v => v.category).sum ≤ 8 then (match zK_run n d ea 0 c [] σ with
              | none => none
              | some σ1 => zK_run n (d + 1) m (pc + 3) t r σ1) else none
          | _, _ => none) else none
      | .iastore => (match st with
        | .int v :: .int i :: .ref c :: r => if c < σ.1.length ∧ σ.1.length ≤ 2000 ∧ (σ.1.getD c (9, 0)).1 = 10 ∧ ¬ (i < 0 ∨ (σ.1.getD c (9, 0)).2 ≤ i.toNatClampNeg) then zK_run n d m (pc + 1) t r (σ.1, σ.2.1, (c, i.toNatClampNeg, v) :: σ.2.2.1, σ.2.2.2) else none
        | _ => none)
      | .return_ => (match st with
        | [] => some σ
        | _ => none)
      | _ => none
/-- what lies there, from a on; below a all as it was -/
def zJ (H0 H : zx_H) (a : Nat) (σ : zK) : Prop :=
  H.1.2.2.1 = a + σ.1.length ∧ H.1.2.2.2 = H0.1.2.2.2 + σ.2.2.2 ∧ (∀ b, b < a → H.1.1 b = H0.1.1 b) ∧ (∀ b k, b < a → H.1.2.1 b k = H0.1.2.1 b k) ∧ (∀ b k, b < a → H.2.1 b k = H0.2.1 b k) ∧ (∀ b k, b < a → H.2.2 b k = H0.2.2 b k) ∧
  (∀ c, c < σ.1.length → H.1.1 (a + c) = σ.1.getD c (9, 0)) ∧ (∀ c f, c < σ.1.length → H.1.2.1 (a + c) f = (zK_r σ.2.1 c f).map (fun t => a + t)) ∧ (∀ c f, c < σ.1.length → H.2.1 (a + c) f = zK_v σ.2.2.1 c f) ∧ (∀ c f, c < σ.1.length → H.2.2 (a + c) f = 0) ∧
  (∀ q ∈ σ.2.1, q.1 < σ.1.length) ∧ ∀ q ∈ σ.2.2.1, q.1 < σ.1.length
section
variable {H0 H : zx_H} {a : Nat} {σ : zK}
theorem zJ_new (h : zJ H0 H a σ) (kd : Nat × Nat) (n : Nat) : zJ H0 (zx_new H kd n) a (σ.1 ++ [kd], σ.2.1, σ.2.2.1, σ.2.2.2 + n) := by
  obtain ⟨h1, h2, h3, h4, h5, h6, h7, h8, h9, h10, h11, h12⟩ := h
  have hl : (σ.1 ++ [kd]).length = σ.1.length + 1 := by rw [List.length_append]; rfl
  refine ⟨?_, ?_, fun b hb => ?_, fun b k hb => ?_, fun b k hb => ?_, fun b k hb => ?_, fun c hc => ?_, fun c f hc => ?_, fun c f hc => ?_, fun c f hc => ?_, fun q hq => ?_, fun q hq => ?_⟩
  · show H.1.2.2.1 + 1 = _
    rw [hl, h1]; rfl
  · show H.1.2.2.2 + n = H0.1.2.2.2 + (σ.2.2.2 + n)
    omega
  · show (if b = H.1.2.2.1 then kd else H.1.1 b) = _
    rw [if_neg (by omega)]; exact h3 b hb
  · show (if b = H.1.2.2.1 then none else H.1.2.1 b k) = _
    rw [if_neg (by omega)]; exact h4 b k hb
  · show (if b = H.1.2.2.1 then 0 else H.2.1 b k) = _
    rw [if_neg (by omega)]; exact h5 b k hb
  · show (if b = H.1.2.2.1 then 0 else H.2.2 b k) = _
    rw [if_neg (by omega)]; exact h6 b k hb
  · show (if a + c = H.1.2.2.1 then kd else H.1.1 (a + c)) = _
    have hc' : c < σ.1.length + 1 := by rw [← hl]; exact hc
    by_cases q : c = σ.1.length
    · rw [if_pos (by omega), q, List.getD_eq_getElem?_getD, List.getElem?_append_right (Nat.le_refl _), Nat.sub_self]; rfl
    · rw [if_neg (by omega), h7 c (by omega), List.getD_eq_getElem?_getD, List.getD_eq_getElem?_getD, List.getElem?_append_left (by omega)]
  · show (if a + c = H.1.2.2.1 then none else H.1.2.1 (a + c) f) = (zK_r σ.2.1 c f).map _
    have hc' : c < σ.1.length + 1 := by rw [← hl]; exact hc
    by_cases q : c = σ.1.length
    · rw [if_pos (by omega), zK_rn (fun x hx => by have := h11 x hx; omega)]; rfl
    · rw [if_neg (by omega)]; exact h8 c f (by omega)
  · show (if a + c = H.1.2.2.1 then 0 else H.2.1 (a + c) f) = zK_v σ.2.2.1 c f
    have hc' : c < σ.1.length + 1 := by rw [← hl]; exact hc
    by_cases q : c = σ.1.length
    · rw [if_pos (by omega), zK_vn (fun x hx => by have := h12 x hx; omega)]
    · rw [if_neg (by omega)]; exact h9 c f (by omega)
  · show (if a + c = H.1.2.2.1 then 0 else H.2.2 (a + c) f) = 0
    have hc' : c < σ.1.length + 1 := by rw [← hl]; exact hc
    by_cases q : c = σ.1.length
    · rw [if_pos (by omega)]
    · rw [if_neg (by omega)]; exact h10 c f (by omega)
  · have := h11 q hq; show q.1 < (σ.1 ++ [kd]).length; rw [hl]; omega
  · have := h12 q hq; show q.1 < (σ.1 ++ [kd]).length; rw [hl]; omega
theorem zJ_mna (h : zJ H0 H a σ) (ko ki n k : Nat) : zJ H0 (zx_mna H ko ki n k) a (σ.1 ++ (ko, n) :: List.replicate n (ki, k), (σ.1.length, 0, n, σ.1.length + 1) :: σ.2.1, σ.2.2.1, σ.2.2.2 + (n + n * k)) := by
  obtain ⟨h1, h2, h3, h4, h5, h6, h7, h8, h9, h10, h11, h12⟩ := h
  have hl : (σ.1 ++ (ko, n) :: List.replicate n (ki, k)).length = σ.1.length + (n + 1) := by rw [List.length_append, List.length_cons, List.length_replicate]
  refine ⟨?_, ?_, fun b hb => ?_, fun b k hb => ?_, fun b k hb => ?_, fun b k hb => ?_, fun c hc => ?_, fun c f hc => ?_, fun c f hc => ?_, fun c f hc => ?_, fun q hq => ?_, fun q hq => ?_⟩
  · show H.1.2.2.1 + (1 + n) = _
    rw [hl, h1]; omega
  · show H.1.2.2.2 + (n + n * k) = H0.1.2.2.2 + (σ.2.2.2 + (n + n * k))
    omega
  · show (if b = H.1.2.2.1 then (ko, n) else if H.1.2.2.1 < b ∧ b ≤ H.1.2.2.1 + n then (ki, k) else H.1.1 b) = _
    rw [if_neg (by omega), if_neg (by omega)]; exact h3 b hb
  · show (if b = H.1.2.2.1 then _ else if H.1.2.2.1 < b ∧ b ≤ H.1.2.2.1 + n then none else H.1.2.1 b k) = _
    rw [if_neg (by omega), if_neg (by omega)]; exact h4 b k hb
  · show (if H.1.2.2.1 ≤ b ∧ b ≤ H.1.2.2.1 + n then 0 else H.2.1 b k) = _
    rw [if_neg (by omega)]; exact h5 b k hb
  · show (if H.1.2.2.1 ≤ b ∧ b ≤ H.1.2.2.1 + n then 0 else H.2.2 b k) = _
    rw [if_neg (by omega)]; exact h6 b k hb
  · show (if a + c = H.1.2.2.1 then (ko, n) else if H.1.2.2.1 < a + c ∧ a + c ≤ H.1.2.2.1 + n then (ki, k) else H.1.1 (a + c)) = _
    have hc' : c < σ.1.length + (n + 1) := by rw [← hl]; exact hc
    by_cases q : c < σ.1.length
    · rw [if_neg (by omega), if_neg (by omega), h7 c q, List.getD_eq_getElem?_getD, List.getD_eq_getElem?_getD, List.getElem?_append_left q]
    · rw [List.getD_eq_getElem?_getD, List.getElem?_append_right (by omega)]
      by_cases q2 : c = σ.1.length
      · rw [if_pos (by omega), q2, Nat.sub_self]; rfl
      · rw [if_neg (by omega), if_pos (by omega), show c - σ.1.length = (c - σ.1.length - 1) + 1 by omega, List.getElem?_cons_succ, List.getElem?_replicate, if_pos (by omega)]; rfl
  · show (if a + c = H.1.2.2.1 then (if f < n then some (H.1.2.2.1 + 1 + f) else none) else if H.1.2.2.1 < a + c ∧ a + c ≤ H.1.2.2.1 + n then none else H.1.2.1 (a + c) f) = (if σ.1.length = c ∧ 0 ≤ f ∧ f < 0 + n then some (σ.1.length + 1 + (f - 0)) else zK_r σ.2.1 c f).map _
    have hc' : c < σ.1.length + (n + 1) := by rw [← hl]; exact hc
    by_cases q : c < σ.1.length
    · rw [if_neg (by omega), if_neg (by omega), if_neg (by omega)]; exact h8 c f q
    · by_cases q2 : c = σ.1.length
      · rw [if_pos (by omega)]
        by_cases q3 : f < n
        · rw [if_pos q3, if_pos (by omega)]
          show _ = some (a + (σ.1.length + 1 + (f - 0)))
          rw [h1]
          congr 1
          omega
        · rw [if_neg q3, if_neg (by omega), zK_rn (fun x hx => by have := h11 x hx; omega)]; rfl
      · rw [if_neg (by omega), if_pos (by omega), if_neg (by omega), zK_rn (fun x hx => by have := h11 x hx; omega)]; rfl
  · show (if H.1.2.2.1 ≤ a + c ∧ a + c ≤ H.1.2.2.1 + n then 0 else H.2.1 (a + c) f) = zK_v σ.2.2.1 c f
    have hc' : c < σ.1.length + (n + 1) := by rw [← hl]; exact hc
    by_cases q : c < σ.1.length
    · rw [if_neg (by omega)]; exact h9 c f q
    · rw [if_pos (by omega), zK_vn (fun x hx => by have := h12 x hx; omega)]
  · show (if H.1.2.2.1 ≤ a + c ∧ a + c ≤ H.1.2.2.1 + n then 0 else H.2.2 (a + c) f) = 0
    have hc' : c < σ.1.length + (n + 1) := by rw [← hl]; exact hc
    by_cases q : c < σ.1.length
    · rw [if_neg (by omega)]; exact h10 c f q
    · rw [if_pos (by omega)]
  · show q.1 < (σ.1 ++ (ko, n) :: List.replicate n (ki, k)).length
    rw [hl]
    rcases List.mem_cons.mp hq with r | r
    · subst r; show σ.1.length < _; omega
    · have := h11 q r; omega
  · have := h12 q hq; show q.1 < (σ.1 ++ (ko, n) :: List.replicate n (ki, k)).length; rw [hl]; omega
theorem zJ_putr (h : zJ H0 H a σ) {c f v : Nat} (hc0 : c < σ.1.length) : zJ H0 (zx_putr H (a + c) f (a + v)) a (σ.1, (c, f, 1, v) :: σ.2.1, σ.2.2.1, σ.2.2.2) := by
  obtain ⟨h1, h2, h3, h4, h5, h6, h7, h8, h9, h10, h11, h12⟩ := h
  refine ⟨h1, h2, h3, fun b k hb => ?_, h5, h6, h7, fun c2 f2 hc => ?_, h9, h10, fun q hq => ?_, h12⟩
  · show (if b = a + c ∧ k = f then some (a + v) else H.1.2.1 b k) = _
    rw [if_neg (by omega)]; exact h4 b k hb
  · show (if a + c2 = a + c ∧ f2 = f then some (a + v) else H.1.2.1 (a + c2) f2) = (if c = c2 ∧ f ≤ f2 ∧ f2 < f + 1 then some (v + (f2 - f)) else zK_r σ.2.1 c2 f2).map _
    by_cases q : c2 = c ∧ f2 = f
    · rw [if_pos (by omega), if_pos (by omega)]
      show _ = some (a + (v + (f2 - f)))
      rw [q.2, Nat.sub_self]
      rfl
    · rw [if_neg (by omega), if_neg (by omega)]; exact h8 c2 f2 hc
  · rcases List.mem_cons.mp hq with r | r
    · subst r; exact hc0
    · exact h11 q r
theorem zJ_puti (h : zJ H0 H a σ) {c f : Nat} {v : Int32} (hc0 : c < σ.1.length) : zJ H0 (zx_puti H (a + c) f v) a (σ.1, σ.2.1, (c, f, v) :: σ.2.2.1, σ.2.2.2) := by
  obtain ⟨h1, h2, h3, h4, h5, h6, h7, h8, h9, h10, h11, h12⟩ := h
  refine ⟨h1, h2, h3, h4, fun b k hb => ?_, h6, h7, h8, fun c2 f2 hc => ?_, h10, h11, fun q hq => ?_⟩
  · show (if b = a + c ∧ k = f then v else H.2.1 b k) = _
    rw [if_neg (by omega)]; exact h5 b k hb
  · show (if a + c2 = a + c ∧ f2 = f then v else H.2.1 (a + c2) f2) = (if c2 = c ∧ f2 = f then v else zK_v σ.2.2.1 c2 f2)
    by_cases q : c2 = c ∧ f2 = f
    · rw [if_pos (by omega), if_pos q]
    · rw [if_neg (by omega), if_neg q]; exact h9 c2 f2 hc
  · rcases List.mem_cons.mp hq with r | r
    · subst r; exact hc0
    · exact h12 q r
end
/-- what the kernel reads, the machine does -/
theorem zK_ok {X : zX} {H0 : zx_H} {a : Nat} (ha : a ≤ 700000) : ∀ (n d m pc t : Nat) (st : List Value) (σ σ' : zK) (H : zx_H), zK_run n d m pc t st σ = some σ' → zJ H0 H a σ → ∃ H', zr X n d m pc [.ref (a + t)] (st.map (zK_s a)) H = some (none, H') ∧ zJ H0 H' a σ'
  | 0, _, _, _, _, _, _, _, _, h, _ => by
    unfold zK_run at h
    cases h
  | n + 1, d, m, pc, t, st, σ, σ', H, h, J => by
    have ih := zK_ok (X := X) (H0 := H0) ha n
    unfold zK_run at h
    unfold zr zx_run
    split at h
    · cases h
    · rename_i i ea eb ek hen
      rw [hen]
      dsimp only
      have hn0 : H.1.2.2.1 = a + σ.1.length := J.1
      split at h
      · rename_i j
        split at h
        · rename_i hj
          rw [show zx_step (zt_P X) (.aload_n j, ea, eb, ek) pc [.ref (a + t)] (st.map (zK_s a)) H = some (.inl (pc + 1, [.ref (a + t)], .ref (a + t) :: st.map (zK_s a), H)) from by
            show zx_lr [Value.ref (a + t)][j.val]? _ = _
            rw [hj]; rfl]
          exact ih _ _ _ _ _ _ _ _ h J
        · cases h
      · exact ih _ _ _ _ _ _ _ _ h J
      · exact ih _ _ _ _ _ _ _ _ h J
      · exact ih _ _ _ _ _ _ _ _ h J
      · split at h
        · exact ih _ _ _ _ _ _ _ _ h J
        · cases h
      · rename_i w
        split at h
        · rename_i hlt
          rw [show zx_step (zt_P X) (.new w, ea, eb, ek) pc [.ref (a + t)] (st.map (zK_s a)) H = some (.inl (pc + 3, [.ref (a + t)], .ref H.1.2.2.1 :: st.map (zK_s a), zx_new H (ea, 0) (zt_nf ea))) from by
            show (if H.1.2.2.1 < 800000 then _ else none) = _
            rw [if_pos (by omega)]; rfl]
          have := ih _ _ _ _ _ _ _ _ h (zJ_new J (ea, 0) (zt_nf ea))
          rw [show Value.ref H.1.2.2.1 = zK_s a (.ref σ.1.length) by rw [hn0]; rfl]
          exact this
        · cases h
      · rename_i ty
        split at h
        · rename_i x r
          split at h
          · cases h
          · rename_i hx
            split at h
            · rw [show zx_step (zt_P X) (.newarray .int, ea, eb, ek) pc [.ref (a + t)] ((Value.int x :: r).map (zK_s a)) H = some (.inl (pc + 2, [.ref (a + t)], .ref H.1.2.2.1 :: r.map (zK_s a), zx_new H (10, x.toNatClampNeg) x.toNatClampNeg)) from by
                show (if x < 0 ∨ 10000 < x.toNatClampNeg ∨ 800000 ≤ H.1.2.2.1 then none else _) = _
                rw [if_neg (fun q => hx (q.imp_right fun q => q.imp_right fun q => by omega))]; rfl]
              have := ih _ _ _ _ _ _ _ _ h (zJ_new J (10, x.toNatClampNeg) x.toNatClampNeg)
              rw [show Value.ref H.1.2.2.1 = zK_s a (.ref σ.1.length) by rw [hn0]; rfl]
              exact this
            · rw [show zx_step (zt_P X) (.newarray .long, ea, eb, ek) pc [.ref (a + t)] ((Value.int x :: r).map (zK_s a)) H = some (.inl (pc + 2, [.ref (a + t)], .ref H.1.2.2.1 :: r.map (zK_s a), zx_new H (11, x.toNatClampNeg) x.toNatClampNeg)) from by
                show (if x < 0 ∨ 10000 < x.toNatClampNeg ∨ 800000 ≤ H.1.2.2.1 then none else _) = _
                rw [if_neg (fun q => hx (q.imp_right fun q => q.imp_right fun q => by omega))]; rfl]
              have := ih _ _ _ _ _ _ _ _ h (zJ_new J (11, x.toNatClampNeg) x.toNatClampNeg)
              rw [show Value.ref H.1.2.2.1 = zK_s a (.ref σ.1.length) by rw [hn0]; rfl]
              exact this
            · cases h
        · cases h
      · rename_i w1 w2
        split at h
        · rename_i y x r
          split at h
          · cases h
          · rename_i hx
            split at h
            · rename_i hea
              rw [show zx_step (zt_P X) (.multianewarray w1 w2, ea, eb, ek) pc [.ref (a + t)] ((Value.int y :: .int x :: r).map (zK_s a)) H = some (.inl (pc + 4, [.ref (a + t)], .ref H.1.2.2.1 :: r.map (zK_s a), zx_mna H 12 10 x.toNatClampNeg y.toNatClampNeg)) from by
                show (if x < 0 ∨ y < 0 ∨ 10000 < x.toNatClampNeg ∨ 10000 < y.toNatClampNeg ∨ 800000 ≤ H.1.2.2.1 then none else if ea = 0 then _ else _) = _
                rw [if_neg (fun q => hx (q.imp_right fun q => q.imp_right fun q => q.imp_right fun q => q.imp_right fun q => by omega)), if_pos hea]; rfl]
              have := ih _ _ _ _ _ _ _ _ h (zJ_mna J 12 10 x.toNatClampNeg y.toNatClampNeg)
              rw [show Value.ref H.1.2.2.1 = zK_s a (.ref σ.1.length) by rw [hn0]; rfl]
              exact this
            · rename_i hea
              rw [show zx_step (zt_P X) (.multianewarray w1 w2, ea, eb, ek) pc [.ref (a + t)] ((Value.int y :: .int x :: r).map (zK_s a)) H = some (.inl (pc + 4, [.ref (a + t)], .ref H.1.2.2.1 :: r.map (zK_s a), zx_mna H 13 11 x.toNatClampNeg y.toNatClampNeg)) from by
                show (if x < 0 ∨ y < 0 ∨ 10000 < x.toNatClampNeg ∨ 10000 < y.toNatClampNeg ∨ 800000 ≤ H.1.2.2.1 then none else if ea = 0 then _ else _) = _
                rw [if_neg (fun q => hx (q.imp_right fun q => q.imp_right fun q => q.imp_right fun q => q.imp_right fun q => by omega)), if_neg hea]; rfl]
              have := ih _ _ _ _ _ _ _ _ h (zJ_mna J 13 11 x.toNatClampNeg y.toNatClampNeg)
              rw [show Value.ref H.1.2.2.1 = zK_s a (.ref σ.1.length) by rw [hn0]; rfl]
              exact this
        · cases h
      · rename_i w
        split at h
        · rename_i hek
          split at h
          · rename_i v c r
            split at h
            · rename_i hc
              rw [show zx_step (zt_P X) (.putfield w, ea, eb, ek) pc [.ref (a + t)] ((Value.ref v :: .ref c :: r).map (zK_s a)) H = some (.inl (pc + 3, [.ref (a + t)], r.map (zK_s a), zx_putr H (a + c) eb (a + v))) from by
                show (if ek = 1 then (if a + c < 900000 ∧ a + v < 900000 ∧ (H.1.1 (a + c)).1 = ea then _ else none) else _) = _
                have hk := J.2.2.2.2.2.2.1 c hc.1
                have q1 : @LT.lt Nat _ c σ.1.length := hc.1
                have q2 : @LT.lt Nat _ v σ.1.length := hc.2.1
                have q3 := hc.2.2.1
                rw [if_pos hek, if_pos ⟨by omega, by omega, by rw [hk]; exact hc.2.2.2⟩]; rfl]
              exact ih _ _ _ _ _ _ _ _ h (zJ_putr J hc.1)
            · cases h
          · cases h
        · rename_i hek
          split at h
          · rename_i v c r
            split at h
            · rename_i hc
              rw [show zx_step (zt_P X) (.putfield w, ea, eb, ek) pc [.ref (a + t)] ((Value.int v :: .ref c :: r).map (zK_s a)) H = some (.inl (pc + 3, [.ref (a + t)], r.map (zK_s a), zx_puti H (a + c) eb v)) from by
                show (if ek = 1 then _ else (if a + c < 900000 ∧ (H.1.1 (a + c)).1 = ea ∧ (ek = 4 → v = 0 ∨ v = 1) then _ else none)) = _
                have hk := J.2.2.2.2.2.2.1 c hc.1
                have q1 : @LT.lt Nat _ c σ.1.length := hc.1
                have q2 := hc.2.1
                rw [if_neg hek, if_pos ⟨by omega, by rw [hk]; exact hc.2.2.1, hc.2.2.2⟩]; rfl]
              exact ih _ _ _ _ _ _ _ _ h (zJ_puti J hc.1)
            · cases h
          · cases h
      · rename_i w
        split at h
        · rename_i hek
          split at h
          · rename_i c r
            split at h
            · rename_i hc
              rw [show zx_step (zt_P X) (.invokespecial w, ea, eb, ek) pc [.ref (a + t)] ((Value.ref c :: r).map (zK_s a)) H = some (.inl (pc + 3, [.ref (a + t)], r.map (zK_s a), H)) from by
                show (if ek = 99 then (if ((r.map (zK_s a)).map fun v => v.category).sum ≤ 8 then _ else none) else _) = _
                rw [if_pos hek, if_pos (by rw [zK_sm]; exact hc)]; rfl]
              exact ih _ _ _ _ _ _ _ _ h J
            · cases h
          · cases h
        · rename_i hek
          split at h
          · rename_i hek2
            split at h
            · rename_i c r d
              split at h
              · rename_i hc
                have hk := J.2.2.2.2.2.2.1 c hc.1
                have q1 : @LT.lt Nat _ c σ.1.length := hc.1
                have q2 := hc.2.1
                have hcall : zx_step (zt_P X) (.invokespecial w, ea, eb, ek) pc [.ref (a + t)] ((Value.ref c :: r).map (zK_s a)) H = some (.inr (.inr (ea, [.ref (a + c)], r.map (zK_s a)))) := by
                  show (if ek = 99 then _ else zx_call (zt_P X) (.invokespecial w, ea, eb, ek) (.ref (a + c) :: r.map (zK_s a)) H) = _
                  rw [if_neg hek]
                  obtain ⟨e1, e2⟩ := hek2
                  subst e1
                  subst e2
                  show (if 1 ≤ (Value.ref (a + c) :: r.map (zK_s a)).length ∧ (decide (a + c < 900000) && decide ((H.1.1 (a + c)).1 < 6)) = true ∧ ((r.map (zK_s a)).map fun v => v.category).sum ≤ 8 then _ else none) = _
                  rw [if_pos ⟨by rw [List.length_cons]; omega, by rw [hk, decide_eq_true hc.2.2.1, decide_eq_true (by omega)]; rfl, by rw [zK_sm]; exact hc.2.2.2.2⟩]
                  rfl
                rw [hcall]
                dsimp only
                rw [hc.2.2.2.1]
                split at h
                · cases h
                · rename_i σ1 hr
                  obtain ⟨H1, g1, g2⟩ := ih _ _ _ _ _ _ _ _ hr J
                  obtain ⟨H2, g3, g4⟩ := ih _ _ _ _ _ _ _ _ h g2
                  refine ⟨H2, ?_, g4⟩
                  rw [if_pos (show zx_aok 1 [Value.ref (a + c)] = true from rfl)]
                  unfold zr at g1 g3
                  rw [List.map_nil] at g1
                  rw [show zx_ent 1 [Value.ref (a + c)] = [.ref (a + c)] from rfl, g1]
                  exact g3
              · cases h
            · cases h
          · cases h
      · split at h
        · rename_i v i c r
          split at h
          · rename_i hc
            have hk := J.2.2.2.2.2.2.1 c hc.1
            have q1 : @LT.lt Nat _ c σ.1.length := hc.1
            have q2 := hc.2.1
            rw [show zx_step (zt_P X) (.iastore, ea, eb, ek) pc [.ref (a + t)] ((Value.int v :: .int i :: .ref c :: r).map (zK_s a)) H = some (.inl (pc + 1, [.ref (a + t)], r.map (zK_s a), zx_puti H (a + c) i.toNatClampNeg v)) from by
              show (if a + c < 900000 ∧ (H.1.1 (a + c)).1 = 10 then (if i < 0 ∨ (H.1.1 (a + c)).2 ≤ i.toNatClampNeg then none else _) else none) = _
              rw [if_pos ⟨by omega, by rw [hk]; exact hc.2.2.1⟩, if_neg (by rw [hk]; exact hc.2.2.2)]; rfl]
            exact ih _ _ _ _ _ _ _ _ h (zJ_puti J hc.1)
          · cases h
        · cases h
      · split at h
        · cases h
          exact ⟨H, rfl, J⟩
        · cases h
      · cases h
def zKm : zK := (zK_run 200 1 157 0 0 [] ([(5, 0)], [], [], 43)).getD ([], [], [], 0)
def zKx : zK := (zK_run 200 2 1 0 0 [] ([(4, 0)], [], [], 14)).getD ([], [], [], 0)
theorem zKm_ok : (zK_run 200 1 157 0 0 [] ([(5, 0)], [], [], 43)).isSome = true := by decide +kernel
theorem zKx_ok : (zK_run 200 2 1 0 0 [] ([(4, 0)], [], [], 14)).isSome = true := by decide +kernel
theorem zKm_l : zKm.1.length = 295 ∧ zKm.2.2.2 ≤ 3000 := by decide +kernel
theorem zKx_l : zKx.1.length = 42 ∧ zKx.2.2.2 ≤ 3000 := by decide +kernel
