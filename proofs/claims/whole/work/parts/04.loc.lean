/-! THE LOCALS OF THE SMALL MACHINE AND OF THE BIG ONE -/
def zx_LR (w : zx_W) (ls : List Value) (lsA : Array Slot) : Prop :=
  lsA.size = ls.length ∧ lv_wf lsA ∧ (∀ (i : Nat) (x : Int32), ls[i]? = some (Value.int x) → lsA[i]? = some (Slot.val (.int x))) ∧ (∀ (i x : Nat), ls[i]? = some (Value.ref x) → lsA[i]? = some (Slot.val (.ref (zx_r w x)))) ∧
    ∀ (i : Nat) (x : Int64), ls[i]? = some (Value.long x) → ls[i + 1]? = some (.retAddr 1) → lsA[i]? = some (Slot.val (.long x))
def zx_lv1 (w : zx_W) (ls : List Value) (i : Nat) : Option (Nat × Value) := match ls[i]? with
  | some (.int x) => some (i, .int x)
  | some (.ref x) => some (i, .ref (zx_r w x))
  | some (.long x) => if ls[i + 1]? = some (.retAddr 1) then some (i, .long x) else none
  | _ => none
def zx_lv (w : zx_W) (ls : List Value) : List (Nat × Value) := (List.range ls.length).filterMap (zx_lv1 w ls)
theorem zx_lv_i {w : zx_W} {ls : List Value} {i : Nat} {x : Int32} (h : ls[i]? = some (.int x)) : (i, Value.int x) ∈ zx_lv w ls :=
  List.mem_filterMap.mpr ⟨i, List.mem_range.mpr (List.getElem?_eq_some_iff.mp h).1, by unfold zx_lv1; rw [h]⟩
theorem zx_lv_r {w : zx_W} {ls : List Value} {i : Nat} {x : Nat} (h : ls[i]? = some (.ref x)) : (i, Value.ref (zx_r w x)) ∈ zx_lv w ls :=
  List.mem_filterMap.mpr ⟨i, List.mem_range.mpr (List.getElem?_eq_some_iff.mp h).1, by unfold zx_lv1; rw [h]⟩
theorem zx_lv_l {w : zx_W} {ls : List Value} {i : Nat} {x : Int64} (h : ls[i]? = some (.long x)) (h2 : ls[i + 1]? = some (.retAddr 1)) : (i, Value.long x) ∈ zx_lv w ls :=
  List.mem_filterMap.mpr ⟨i, List.mem_range.mpr (List.getElem?_eq_some_iff.mp h).1, by unfold zx_lv1; rw [h]; exact if_pos h2⟩
theorem zx_LR.has {w : zx_W} {ls : List Value} {lsA : Array Slot} (h : zx_LR w ls lsA) : lv_has lsA ls.length (zx_lv w ls) := by
  refine ⟨h.1, h.2.1, fun q hq => ?_⟩
  obtain ⟨i, -, hi⟩ := List.mem_filterMap.mp hq
  unfold zx_lv1 at hi
  split at hi
  · rename_i x hx
    cases hi
    exact h.2.2.1 i x hx
  · rename_i x hx
    cases hi
    exact h.2.2.2.1 i x hx
  · rename_i x hx
    split at hi
    · rename_i h2
      cases hi
      exact h.2.2.2.2 i x hx h2
    · cases hi
  · cases hi
theorem zx_LR.of {w : zx_W} {ls : List Value} {lsA : Array Slot} {n : Nat} {lv : List (Nat × Value)} (h : lv_has lsA n lv) (hn : n = ls.length) (h1 : ∀ (i : Nat) (x : Int32), ls[i]? = some (Value.int x) → (i, Value.int x) ∈ lv) (h2 : ∀ (i x : Nat), ls[i]? = some (Value.ref x) → (i, Value.ref (zx_r w x)) ∈ lv)
    (h3 : ∀ (i : Nat) (x : Int64), ls[i]? = some (Value.long x) → ls[i + 1]? = some (.retAddr 1) → (i, Value.long x) ∈ lv) : zx_LR w ls lsA :=
  ⟨h.1.trans hn, h.2.1, fun i x q => h.2.2 _ (h1 i x q), fun i x q => h.2.2 _ (h2 i x q), fun i x q q2 => h.2.2 _ (h3 i x q q2)⟩
theorem zx_set_inv {ls : List Value} {i j : Nat} {v u : Value} (h : (ls.set i v)[j]? = some u) : (j = i ∧ u = v) ∨ (j ≠ i ∧ ls[j]? = some u) := by
  by_cases hj : j = i
  · subst hj
    have hl : j < ls.length := by
      have := (List.getElem?_eq_some_iff.mp h).1
      rwa [List.length_set] at this
    rw [List.getElem?_set_self hl] at h
    exact Or.inl ⟨rfl, (Option.some.inj h).symm⟩
  · rw [List.getElem?_set_ne (Ne.symm hj)] at h
    exact Or.inr ⟨hj, h⟩
theorem zx_LR.seti {w : zx_W} {ls : List Value} {lsA : Array Slot} {i : Nat} {x : Int32} (h : lv_has lsA ls.length ((i, Value.int x) :: (zx_lv w ls).filter (fun q => !(q.1 == i) && !(q.1 + 1 == i && q.2.category == 2)))) : zx_LR w (ls.set i (.int x)) lsA := by
  refine zx_LR.of h (by rw [List.length_set]) (fun j y hj => ?_) (fun j y hj => ?_) (fun j y hj hm => ?_)
  · rcases zx_set_inv hj with ⟨rfl, q⟩ | ⟨q1, q2⟩
    · cases q
      exact List.mem_cons_self
    · exact List.mem_cons_of_mem _ (List.mem_filter.mpr ⟨zx_lv_i q2, by simp [q1, Value.category]⟩)
  · rcases zx_set_inv hj with ⟨rfl, q⟩ | ⟨q1, q2⟩
    · cases q
    · exact List.mem_cons_of_mem _ (List.mem_filter.mpr ⟨zx_lv_r q2, by simp [q1, Value.category]⟩)
  · rcases zx_set_inv hj with ⟨rfl, q⟩ | ⟨q1, q2⟩
    · cases q
    · rcases zx_set_inv hm with ⟨q3, q⟩ | ⟨q3, q4⟩
      · cases q
      · exact List.mem_cons_of_mem _ (List.mem_filter.mpr ⟨zx_lv_l q2 q4, by simp [q1, q3]⟩)
theorem zx_LR.setr {w : zx_W} {ls : List Value} {lsA : Array Slot} {i : Nat} {x : Nat} (h : lv_has lsA ls.length ((i, Value.ref (zx_r w x)) :: (zx_lv w ls).filter (fun q => !(q.1 == i) && !(q.1 + 1 == i && q.2.category == 2)))) : zx_LR w (ls.set i (.ref x)) lsA := by
  refine zx_LR.of h (by rw [List.length_set]) (fun j y hj => ?_) (fun j y hj => ?_) (fun j y hj hm => ?_)
  · rcases zx_set_inv hj with ⟨rfl, q⟩ | ⟨q1, q2⟩
    · cases q
    · exact List.mem_cons_of_mem _ (List.mem_filter.mpr ⟨zx_lv_i q2, by simp [q1, Value.category]⟩)
  · rcases zx_set_inv hj with ⟨rfl, q⟩ | ⟨q1, q2⟩
    · cases q
      exact List.mem_cons_self
    · exact List.mem_cons_of_mem _ (List.mem_filter.mpr ⟨zx_lv_r q2, by simp [q1, Value.category]⟩)
  · rcases zx_set_inv hj with ⟨rfl, q⟩ | ⟨q1, q2⟩
    · cases q
    · rcases zx_set_inv hm with ⟨q3, q⟩ | ⟨q3, q4⟩
      · cases q
      · exact List.mem_cons_of_mem _ (List.mem_filter.mpr ⟨zx_lv_l q2 q4, by simp [q1, q3]⟩)
theorem zx_LR.setl {w : zx_W} {ls : List Value} {lsA : Array Slot} {i : Nat} {x : Int64} (h : lv_has lsA ls.length ((i, Value.long x) :: (zx_lv w ls).filter (fun q => !(q.1 == i) && (!(q.1 == i + 1) && !(q.1 + 1 == i && q.2.category == 2))))) :
    zx_LR w ((ls.set i (.long x)).set (i + 1) (.retAddr 1)) lsA := by
  refine zx_LR.of h (by rw [List.length_set, List.length_set]) (fun j y hj => ?_) (fun j y hj => ?_) (fun j y hj hm => ?_)
  · rcases zx_set_inv hj with ⟨rfl, q⟩ | ⟨q1, q2⟩
    · cases q
    · rcases zx_set_inv q2 with ⟨rfl, q⟩ | ⟨q3, q4⟩
      · cases q
      · exact List.mem_cons_of_mem _ (List.mem_filter.mpr ⟨zx_lv_i q4, by simp [q1, q3, Value.category]⟩)
  · rcases zx_set_inv hj with ⟨rfl, q⟩ | ⟨q1, q2⟩
    · cases q
    · rcases zx_set_inv q2 with ⟨rfl, q⟩ | ⟨q3, q4⟩
      · cases q
      · exact List.mem_cons_of_mem _ (List.mem_filter.mpr ⟨zx_lv_r q4, by simp [q1, q3, Value.category]⟩)
  · rcases zx_set_inv hj with ⟨rfl, q⟩ | ⟨q1, q2⟩
    · cases q
    · rcases zx_set_inv q2 with ⟨rfl, q⟩ | ⟨q3, q4⟩
      · cases q
        exact List.mem_cons_self
      · rcases zx_set_inv hm with ⟨e, q⟩ | ⟨q5, q6⟩
        · omega
        · rcases zx_set_inv q6 with ⟨q7, q⟩ | ⟨q7, q8⟩
          · cases q
          · exact List.mem_cons_of_mem _ (List.mem_filter.mpr ⟨zx_lv_l q4 q8, by simp [q1, q3, q7]⟩)
/-- at a method's entry -/
theorem zx_LR.entry {w : zx_W} (hv : w.2.2.2.2.2.1.category = 1) {as : List Value} {n : Nat} (ha : ∀ v ∈ as, v.category = 2 → ∃ x, v = .long x) (hn : (zx_lay as).length ≤ n) :
    zx_LR w (zx_ent n as) ((lg_sl (as.map (zx_v w)) ++ List.replicate (n - (lg_sl (as.map (zx_v w))).length) Slot.unset).toArray) := by
  have key : ∀ (as : List Value), (∀ v ∈ as, v.category = 2 → ∃ x, v = .long x) → (lg_sl (as.map (zx_v w))).length = (zx_lay as).length ∧
      (∀ (i : Nat) (x : Int32), (zx_lay as)[i]? = some (Value.int x) → (lg_sl (as.map (zx_v w)))[i]? = some (Slot.val (.int x))) ∧ (∀ (i x : Nat), (zx_lay as)[i]? = some (Value.ref x) → (lg_sl (as.map (zx_v w)))[i]? = some (Slot.val (.ref (zx_r w x)))) ∧
      (∀ (i : Nat) (x : Int64), (zx_lay as)[i]? = some (Value.long x) → (lg_sl (as.map (zx_v w)))[i]? = some (Slot.val (.long x))) := by
    intro as
    induction as with
    | nil => intro _; exact ⟨rfl, fun i x h => by simp [zx_lay] at h, fun i x h => by simp [zx_lay] at h, fun i x h => by simp [zx_lay] at h⟩
    | cons v as ih =>
      intro ha
      obtain ⟨h0, h1, h2, h3⟩ := ih (fun u hu => ha u (List.mem_cons_of_mem _ hu))
      by_cases hc : v.category = 2
      · obtain ⟨x, rfl⟩ := ha v List.mem_cons_self hc
        have e1 : zx_lay (.long x :: as) = .long x :: .retAddr 1 :: zx_lay as := rfl
        have e2 : lg_sl ((Value.long x :: as).map (zx_v w)) = .val (.long x) :: .second :: lg_sl (as.map (zx_v w)) := rfl
        rw [e1, e2]
        refine ⟨by simp [h0], fun i y h => ?_, fun i y h => ?_, fun i y h => ?_⟩
        · match i, h with
          | 0, h => cases h
          | 1, h => cases h
          | i + 2, h => exact h1 i y h
        · match i, h with
          | 0, h => cases h
          | 1, h => cases h
          | i + 2, h => exact h2 i y h
        · match i, h with
          | 0, h => cases h; rfl
          | 1, h => cases h
          | i + 2, h => exact h3 i y h
      · have hc' : ¬ (zx_v w v).category = 2 := by rw [zx_v_cat w hv]; exact hc
        have e1 : zx_lay (v :: as) = v :: zx_lay as := by
          cases v <;> first | rfl | exact absurd rfl hc
        have e2 : lg_sl ((v :: as).map (zx_v w)) = .val (zx_v w v) :: lg_sl (as.map (zx_v w)) := by
          show lg_sl (zx_v w v :: as.map (zx_v w)) = _
          unfold lg_sl
          rw [List.flatMap_cons, if_neg hc']
          rfl
        rw [e1, e2]
        refine ⟨by simp [h0], fun i y h => ?_, fun i y h => ?_, fun i y h => ?_⟩
        · match i, h with
          | 0, h => cases h; rfl
          | i + 1, h => exact h1 i y h
        · match i, h with
          | 0, h => cases h; rfl
          | i + 1, h => exact h2 i y h
        · match i, h with
          | 0, h => cases h; rfl
          | i + 1, h => exact h3 i y h
  obtain ⟨h0, h1, h2, h3⟩ := key as ha
  have hE := lv_entry (as.map (zx_v w)) (n := n) (by rw [h0]; exact hn)
  have old : ∀ (i : Nat) (v : Value), (zx_ent n as)[i]? = some v → v ≠ .retAddr 0 → (zx_lay as)[i]? = some v := by
    intro i v h hne
    unfold zx_ent at h
    rcases Nat.lt_or_ge i (zx_lay as).length with q | q
    · rwa [List.getElem?_append_left q] at h
    · rw [List.getElem?_append_right q] at h
      exact absurd (List.mem_replicate.mp (List.mem_of_getElem? h)).2 hne
  have new : ∀ (i : Nat) (z : Slot), (lg_sl (as.map (zx_v w)))[i]? = some z → ((lg_sl (as.map (zx_v w)) ++ List.replicate (n - (lg_sl (as.map (zx_v w))).length) Slot.unset).toArray)[i]? = some z := by
    intro i z h
    rw [List.getElem?_toArray, List.getElem?_append_left (List.getElem?_eq_some_iff.mp h).1]
    exact h
  refine ⟨hE.1.trans ?_, hE.2.1, fun i x h => new _ _ (h1 i x (old i _ h (by simp))), fun i x h => new _ _ (h2 i x (old i _ h (by simp))), fun i x h _ => new _ _ (h3 i x (old i _ h (by simp)))⟩
  unfold zx_ent
  rw [List.length_append, List.length_replicate]
  omega
