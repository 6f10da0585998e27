/-! WHAT THE SMALL MACHINE'S STATES ARE IN THE BIG ONE -/
/-- the first address; the classes' numbers; the arrays' classes (ints, longs, rows of ints, rows of longs); the texts' and their bytes' addresses; what is only carried; the script's address -/
abbrev zx_W : Type := Nat × va_G × (ClassId × ClassId × ClassId × ClassId) × (Nat → Nat) × (Nat → Nat) × Value × Nat
def zx_r (w : zx_W) (k : Nat) : Nat := if k < 900000 then w.1 + k else if k < 2100000 then w.2.2.2.1 (k - 2000000) else if k < 3000000 then w.2.2.2.2.1 (k - 2100000) else w.2.2.2.2.2.2
def zx_v (w : zx_W) : Value → Value
  | .ref k => .ref (zx_r w k)
  | .retAddr _ => w.2.2.2.2.2.1
  | v => v
def zx_tys (w : zx_W) : List (ClassId × FieldType) := [(w.2.2.1.1, .int), (w.2.2.1.2.1, .long), (w.2.2.1.2.2.1, .array .int), (w.2.2.1.2.2.2, .array .long)]
def zx_fs (nf : Nat) (ir : Nat → Bool) (w : zx_W) (H : zx_H) (k : Nat) : List Value := (List.range nf).map (fun j => if ir j = true then zx_v w (va_rf (H.1.2.1 k j)) else .int (H.2.1 k j))
def zx_e (P : zx_P) (isr : Nat → Nat → Bool) (w : zx_W) (H : zx_H) (k : Nat) : va_E :=
  if (H.1.1 k).1 = 10 then .inl (w.2.2.1.1, (H.1.1 k).2, .inl (H.2.1 k))
  else if (H.1.1 k).1 = 11 then .inl (w.2.2.1.2.1, (H.1.1 k).2, .inr (.inl (H.2.2 k)))
  else if (H.1.1 k).1 = 12 then .inl (w.2.2.1.2.2.1, (H.1.1 k).2, .inr (.inr (.inr (.inr (fun j => (H.1.2.1 k j).map (zx_r w))))))
  else if (H.1.1 k).1 = 13 then .inl (w.2.2.1.2.2.2, (H.1.1 k).2, .inr (.inr (.inr (.inr (fun j => (H.1.2.1 k j).map (zx_r w))))))
  else .inr ((H.1.1 k).1, zx_fs (P.1 (H.1.1 k).1) (isr (H.1.1 k).1) w H k)
def zx_ws (P : zx_P) (isr : Nat → Nat → Bool) (w : zx_W) (H : zx_H) : va_W := (List.range H.1.2.2.1).map (fun k => (w.1 + k, zx_e P isr w H k))
def zx_Rel (P : zx_P) (isr : Nat → Nat → Bool) (w : zx_W) (cl : List vw_C) (H : zx_H) (Hp : Heap) : Prop :=
  va_P w.2.1 cl (zx_ws P isr w H) Hp ∧ Hp.size = w.1 + H.1.2.2.1 ∧ ∀ k, H.1.2.2.1 ≤ k → H.1.1 k = (99, 0)
def zx_A (w : zx_W) : Nat → Prop := fun q => w.1 ≤ q
theorem zx_ws_get {P : zx_P} {isr : Nat → Nat → Bool} {w : zx_W} {H : zx_H} {k : Nat} (h : k < H.1.2.2.1) : (zx_ws P isr w H)[k]? = some (w.1 + k, zx_e P isr w H k) := by
  unfold zx_ws
  rw [List.getElem?_map, List.getElem?_range h]
  rfl
theorem zx_ws_len (P : zx_P) (isr : Nat → Nat → Bool) (w : zx_W) (H : zx_H) : (zx_ws P isr w H).length = H.1.2.2.1 := by simp [zx_ws]
theorem zx_ws_inv {P : zx_P} {isr : Nat → Nat → Bool} {w : zx_W} {H : zx_H} {k : Nat} {q : Nat × va_E} (h : (zx_ws P isr w H)[k]? = some q) : k < H.1.2.2.1 ∧ q = (w.1 + k, zx_e P isr w H k) := by
  have hl : k < H.1.2.2.1 := by
    have := (List.getElem?_eq_some_iff.mp h).1
    rwa [zx_ws_len] at this
  refine ⟨hl, ?_⟩
  rw [zx_ws_get hl] at h
  exact (Option.some.inj h).symm
theorem zx_D (P : zx_P) (isr : Nat → Nat → Bool) (w : zx_W) (H : zx_H) : va_D (zx_A w) (zx_ws P isr w H) := by
  refine ⟨fun i j p q hi hj hpq => ?_, fun k q hk => ?_⟩
  · obtain ⟨-, rfl⟩ := zx_ws_inv hi
    obtain ⟨-, rfl⟩ := zx_ws_inv hj
    have : w.1 + i = w.1 + j := hpq
    omega
  · obtain ⟨-, rfl⟩ := zx_ws_inv hk
    exact Nat.le_add_right _ _
theorem zx_ws_set {P : zx_P} {isr : Nat → Nat → Bool} {w : zx_W} {H H' : zx_H} {k : Nat} (hz : H'.1.2.2.1 = H.1.2.2.1) (ho : ∀ j, j ≠ k → zx_e P isr w H' j = zx_e P isr w H j) {e : va_E} (he : zx_e P isr w H' k = e) : zx_ws P isr w H' = (zx_ws P isr w H).set k (w.1 + k, e) := by
  apply List.ext_getElem?
  intro j
  by_cases hj : j < H.1.2.2.1
  · rw [zx_ws_get (by rw [hz]; exact hj)]
    by_cases hk : j = k
    · subst hk
      rw [List.getElem?_set_self (by rw [zx_ws_len]; exact hj), he]
    · rw [List.getElem?_set_ne (Ne.symm hk), zx_ws_get hj, ho j hk]
  · rw [List.getElem?_eq_none (by rw [zx_ws_len, hz]; omega), List.getElem?_eq_none (by rw [List.length_set, zx_ws_len]; omega)]
theorem zx_v_int (w : zx_W) (x : Int32) : zx_v w (.int x) = .int x := rfl
theorem zx_v_long (w : zx_W) (x : Int64) : zx_v w (.long x) = .long x := rfl
theorem zx_v_ref (w : zx_W) (k : Nat) : zx_v w (.ref k) = .ref (zx_r w k) := rfl
theorem zx_r_own (w : zx_W) {k : Nat} (h : k < 900000) : zx_r w k = w.1 + k := if_pos h
theorem zx_v_rf (w : zx_W) (o : Option Nat) : va_rf (o.map (zx_r w)) = zx_v w (va_rf o) := by cases o <;> rfl
theorem zx_v_cat (w : zx_W) (hv : w.2.2.2.2.2.1.category = 1) (v : Value) : (zx_v w v).category = v.category := by
  cases v <;> first | rfl | exact hv
theorem zx_map_cat (w : zx_W) (hv : w.2.2.2.2.2.1.category = 1) (st : List Value) : ((st.map (zx_v w)).map fun v => v.category).sum = (st.map fun v => v.category).sum := by
  rw [List.map_map]
  congr 1
  exact List.map_congr_left (fun v _ => zx_v_cat w hv v)
/-- a cell of a kind is there -/
theorem zx_Rel.lt {P : zx_P} {isr : Nat → Nat → Bool} {w : zx_W} {cl : List vw_C} {H : zx_H} {Hp : Heap} (h : zx_Rel P isr w cl H Hp) {e : Nat} (hk : (H.1.1 e).1 ≠ 99) : e < H.1.2.2.1 := by
  rcases Nat.lt_or_ge e H.1.2.2.1 with q | q
  · exact q
  · exact absurd (by rw [h.2.2 e q]) hk
theorem zx_e_obj {P : zx_P} {isr : Nat → Nat → Bool} {w : zx_W} {H : zx_H} {k c : Nat} (h : (H.1.1 k).1 = c) (hc : c < 10) : zx_e P isr w H k = .inr (c, zx_fs (P.1 c) (isr c) w H k) := by
  unfold zx_e
  rw [h, if_neg (by omega), if_neg (by omega), if_neg (by omega), if_neg (by omega)]
theorem zx_e_int {P : zx_P} {isr : Nat → Nat → Bool} {w : zx_W} {H : zx_H} {k : Nat} (h : (H.1.1 k).1 = 10) : zx_e P isr w H k = .inl (w.2.2.1.1, (H.1.1 k).2, .inl (H.2.1 k)) := if_pos h
theorem zx_e_long {P : zx_P} {isr : Nat → Nat → Bool} {w : zx_W} {H : zx_H} {k : Nat} (h : (H.1.1 k).1 = 11) : zx_e P isr w H k = .inl (w.2.2.1.2.1, (H.1.1 k).2, .inr (.inl (H.2.2 k))) := by
  unfold zx_e
  rw [if_neg (by omega), if_pos h]
theorem zx_e_ii {P : zx_P} {isr : Nat → Nat → Bool} {w : zx_W} {H : zx_H} {k : Nat} (h : (H.1.1 k).1 = 12) : zx_e P isr w H k = .inl (w.2.2.1.2.2.1, (H.1.1 k).2, .inr (.inr (.inr (.inr (fun j => (H.1.2.1 k j).map (zx_r w)))))) := by
  unfold zx_e
  rw [if_neg (by omega), if_neg (by omega), if_pos h]
theorem zx_e_ll {P : zx_P} {isr : Nat → Nat → Bool} {w : zx_W} {H : zx_H} {k : Nat} (h : (H.1.1 k).1 = 13) : zx_e P isr w H k = .inl (w.2.2.1.2.2.2, (H.1.1 k).2, .inr (.inr (.inr (.inr (fun j => (H.1.2.1 k j).map (zx_r w)))))) := by
  unfold zx_e
  rw [if_neg (by omega), if_neg (by omega), if_neg (by omega), if_pos h]
theorem zx_fs_get {nf : Nat} {ir : Nat → Bool} {w : zx_W} {H : zx_H} {k j : Nat} (h : j < nf) : (zx_fs nf ir w H k)[j]? = some (if ir j = true then zx_v w (va_rf (H.1.2.1 k j)) else .int (H.2.1 k j)) := by
  unfold zx_fs
  rw [List.getElem?_map, List.getElem?_range h]
  rfl
theorem zx_fs_len (nf : Nat) (ir : Nat → Bool) (w : zx_W) (H : zx_H) (k : Nat) : (zx_fs nf ir w H k).length = nf := by simp [zx_fs]
theorem zx_fs_set {nf : Nat} {ir : Nat → Bool} {w : zx_W} {H H' : zx_H} {k i : Nat} {v : Value} (ho : ∀ j, j ≠ i → (if ir j = true then zx_v w (va_rf (H'.1.2.1 k j)) else .int (H'.2.1 k j)) = (if ir j = true then zx_v w (va_rf (H.1.2.1 k j)) else .int (H.2.1 k j)))
    (hv : (if ir i = true then zx_v w (va_rf (H'.1.2.1 k i)) else .int (H'.2.1 k i)) = v) : zx_fs nf ir w H' k = (zx_fs nf ir w H k).set i v := by
  apply List.ext_getElem?
  intro j
  by_cases hj : j < nf
  · rw [zx_fs_get hj]
    by_cases hk : j = i
    · subst hk
      rw [List.getElem?_set_self (by rw [zx_fs_len]; exact hj), hv]
    · rw [List.getElem?_set_ne (Ne.symm hk), zx_fs_get hj, ho j hk]
  · rw [List.getElem?_eq_none (by rw [zx_fs_len]; omega), List.getElem?_eq_none (by rw [List.length_set, zx_fs_len]; omega)]
theorem zx_up_row {α : Type} {f : Nat → Nat → α} {k i j : Nat} {v : α} (h : j ≠ k) : zx_up f k i v j = f j := by
  funext x
  unfold zx_up
  rw [if_neg (fun q => h q.1)]
theorem zx_up_ne {α : Type} {f : Nat → Nat → α} {k i x : Nat} {v : α} (h : x ≠ i) : zx_up f k i v k x = f k x := if_neg (fun q => h q.2)
theorem zx_up_same {α : Type} {f : Nat → Nat → α} {k i : Nat} {v : α} : zx_up f k i v k i = v := if_pos ⟨rfl, rfl⟩
theorem zx_e_congr {P : zx_P} {isr : Nat → Nat → Bool} {w : zx_W} {H H' : zx_H} {j : Nat} (h1 : H'.1.1 j = H.1.1 j) (h2 : H'.1.2.1 j = H.1.2.1 j) (h3 : H'.2.1 j = H.2.1 j) (h4 : H'.2.2 j = H.2.2 j) : zx_e P isr w H' j = zx_e P isr w H j := by
  unfold zx_e zx_fs
  rw [h1, h2, h3, h4]
/-- writes: an int field -/
theorem zx_ws_puti {P : zx_P} {isr : Nat → Nat → Bool} {w : zx_W} {H : zx_H} {k i c : Nat} {v : Int32} (hc : (H.1.1 k).1 = c) (h10 : c < 10) (hr : isr c i = false) :
    zx_ws P isr w (zx_puti H k i v) = (zx_ws P isr w H).set k (w.1 + k, .inr (c, (zx_fs (P.1 c) (isr c) w H k).set i (.int v))) := by
  refine zx_ws_set (H := H) (H' := zx_puti H k i v) rfl (fun j hj => ?_) ?_
  · exact zx_e_congr rfl (rfl) (zx_up_row hj) (rfl)
  · rw [zx_e_obj (H := zx_puti H k i v) hc h10]
    congr 2
    refine zx_fs_set (fun j hj => ?_) ?_
    · simp only [zx_puti, zx_up, hj, and_false, if_false]
    · simp [zx_puti, zx_up, hr]
theorem zx_ws_putr {P : zx_P} {isr : Nat → Nat → Bool} {w : zx_W} {H : zx_H} {k i c a : Nat} (hc : (H.1.1 k).1 = c) (h10 : c < 10) (hr : isr c i = true) :
    zx_ws P isr w (zx_putr H k i a) = (zx_ws P isr w H).set k (w.1 + k, .inr (c, (zx_fs (P.1 c) (isr c) w H k).set i (.ref (zx_r w a)))) := by
  refine zx_ws_set (H := H) (H' := zx_putr H k i a) rfl (fun j hj => ?_) ?_
  · exact zx_e_congr rfl (zx_up_row hj) (rfl) (rfl)
  · rw [zx_e_obj (H := zx_putr H k i a) hc h10]
    congr 2
    refine zx_fs_set (fun j hj => ?_) ?_
    · simp only [zx_putr, zx_up, hj, and_false, if_false]
    · simp [zx_putr, zx_up, hr, va_rf, zx_v]
theorem zx_ws_asti {P : zx_P} {isr : Nat → Nat → Bool} {w : zx_W} {H : zx_H} {k i : Nat} {v : Int32} (hc : (H.1.1 k).1 = 10) :
    zx_ws P isr w (zx_puti H k i v) = (zx_ws P isr w H).set k (w.1 + k, .inl (w.2.2.1.1, (H.1.1 k).2, .inl (upd (H.2.1 k) i v))) := by
  refine zx_ws_set (H := H) (H' := zx_puti H k i v) rfl (fun j hj => ?_) ?_
  · exact zx_e_congr rfl (rfl) (zx_up_row hj) (rfl)
  · rw [zx_e_int (H := zx_puti H k i v) hc]
    have : (zx_puti H k i v).2.1 k = upd (H.2.1 k) i v := by
      funext j
      simp [zx_puti, zx_up, upd]
    rw [this]
    rfl
theorem zx_ws_astl {P : zx_P} {isr : Nat → Nat → Bool} {w : zx_W} {H : zx_H} {k i : Nat} {v : Int64} (hc : (H.1.1 k).1 = 11) :
    zx_ws P isr w (zx_putl H k i v) = (zx_ws P isr w H).set k (w.1 + k, .inl (w.2.2.1.2.1, (H.1.1 k).2, .inr (.inl (vp_updL (H.2.2 k) i v)))) := by
  refine zx_ws_set (H := H) (H' := zx_putl H k i v) rfl (fun j hj => ?_) ?_
  · exact zx_e_congr rfl (rfl) (rfl) (zx_up_row hj)
  · rw [zx_e_long (H := zx_putl H k i v) hc]
    have : (zx_putl H k i v).2.2 k = vp_updL (H.2.2 k) i v := by
      funext j
      simp [zx_putl, zx_up, vp_updL]
    rw [this]
    rfl
theorem zx_ws_push {P : zx_P} {isr : Nat → Nat → Bool} {w : zx_W} {H H' : zx_H} (hz : H'.1.2.2.1 = H.1.2.2.1 + 1) (ho : ∀ j, j < H.1.2.2.1 → zx_e P isr w H' j = zx_e P isr w H j) : zx_ws P isr w H' = zx_ws P isr w H ++ [(w.1 + H.1.2.2.1, zx_e P isr w H' H.1.2.2.1)] := by
  unfold zx_ws
  rw [hz, List.range_succ, List.map_append]
  congr 1
  exact List.map_congr_left (fun j hj => by rw [ho j (List.mem_range.mp hj)])
theorem zx_e_new_old {P : zx_P} {isr : Nat → Nat → Bool} {w : zx_W} {H : zx_H} {kd : Nat × Nat} {n j : Nat} (hj : j < H.1.2.2.1) : zx_e P isr w (zx_new H kd n) j = zx_e P isr w H j := by
  have hne : ¬ j = H.1.2.2.1 := by omega
  exact zx_e_congr (if_neg hne) (funext fun x => if_neg hne) (funext fun x => if_neg hne) (funext fun x => if_neg hne)
theorem zx_e_mna_old {P : zx_P} {isr : Nat → Nat → Bool} {w : zx_W} {H : zx_H} {ko ki n k j : Nat} (hj : j < H.1.2.2.1) : zx_e P isr w (zx_mna H ko ki n k) j = zx_e P isr w H j := by
  have h1 : ¬ j = H.1.2.2.1 := by omega
  have h2 : ¬ (H.1.2.2.1 < j ∧ j ≤ H.1.2.2.1 + n) := by omega
  have h3 : ¬ (H.1.2.2.1 ≤ j ∧ j ≤ H.1.2.2.1 + n) := by omega
  exact zx_e_congr ((if_neg h1).trans (if_neg h2)) (funext fun x => (if_neg h1).trans (if_neg h2)) (funext fun x => if_neg h3) (funext fun x => if_neg h3)
