/-! ROWS THAT KEEP THE HEAP'S SIZE IN SIGHT -/
section
variable {p : Program} {l : Launch} {e : Env} {R : Room} {s : State} {m : MethodId} {args : Array Value} {below : List Frame} {meth : Method} {c : Code} {H : Heap} {locs : List Loc} {cells slots : Nat} {Q : State → Prop}
variable {cc : ByteArray} {pc : Nat} {ls : Array Slot} {rest : List Value} {D : va_G} {cl : List vw_C} {A : Nat → Prop} {a : Nat} {tys : List (ClassId × FieldType)} {ws : va_W} {H0 : Heap}
theorem zx_put (hexec : p.tables.exec = Jvm.exec) (hb : c.code = cc) {own ref C : String} {T : u_T} {N ci index : Nat} {Ts : List Cond} (hts : ∀ w ∈ Ts, w.before args s = true) (hin : ∀ w ∈ u_ws C T N, w ∈ Ts) (ty0 : Nat → FieldType) (hty : ∀ k, k < N → parseFieldDescriptor (T k).2.2.1 = some (ty0 k)) (hnm : ∀ a, a < N → ∀ b, b < N → a ≠ b → (T a).2.1 ≠ (T b).2.1) (hown : s.vm.findClass own = some m.cls) (hK : va_K D cl tys s) (hP : va_P D cl ws H) (hD : va_D A ws) (hS0 : va_S A H0 H locs) (q0 : Nat) {fs : List Value} (he : ws[q0]? = some (a, .inr (ci, fs))) (hc : cl[ci]? = some (C, T, N)) (k : Nat) (hk : k < N) (hlink : (Cond.fieldLink own index ref (T k).2.1 (T k).2.2.1).before args s = true)
    (hsame : ∀ x, s.fieldFound? (T k).1 (T k).2.1 (T k).2.2.1 = some x → s.fieldFound? ref (T k).2.1 (T k).2.2.1 = some x) (hfin : (T k).2.2.2 = false) {ty : FieldType} {v : Value} (hd : parseFieldDescriptor (T k).2.2.1 = some ty) (hn : narrow ty v = v) (hfit : fits ty v = true) (hl : k < fs.length)
    (hdg : decode cc pc = .ok (.putfield index, 3)) (kk : ∀ (H1 : Heap) (locs1 : List Loc), H1.size = H.size → va_P D cl (ws.set q0 (a, .inr (ci, fs.set k v))) H1 → va_S A H0 H1 locs1 → W p l e R s m args below meth c H1 locs1 cells slots Q (F0 m (pc + 3) ls rest)) : W p l e R s m args below meth c H locs cells slots Q (F0 m pc ls (v :: .ref a :: rest)) := by
  have hap := va_apart (own := own) hts hin ty0 hty hnm hK hc
  obtain ⟨r, h1, cell, q1, q2, q3, q4⟩ := hP q0 _ he
  have hr : r = (C, T, N) := Option.some.inj (h1.symm.trans hc)
  subst hr
  obtain ⟨hS, hfc, kC, hkC, hkind⟩ := hK.1 ci _ hc
  obtain ⟨cf, kf, fi, f, hi, hsl⟩ := hS k hk
  have hlay := hts _ (hin _ (u_in_lay hk))
  unfold u_lay at hlay
  rw [if_neg (by rw [hfin]; decide)] at hlay
  have hst := (u_facts hfc hkC (u_lays hts hin hk) hi).1
  have h6 := u_store hfc hkC hkind hlay hi hd hn hfit
  refine W.putK hexec hb (f := f) ⟨hown, hlink, ⟨_, _, _, hsame _ hi⟩, hst⟩ (by rw [q2]; exact h6) q1 q3 (by rw [hsl]; exact k2_hasslot (q4 k hk)) rfl rfl hdg fun H' e1 e2 e3 => ?_
  rw [hsl] at e1 ⊢
  exact kk H' _ e2 (hP.set hD he ⟨_, hc, t_OB.to (V := updV (vp_V fs) k v) ⟨_, e1, q2, q3, t_set q4 hap hk v⟩ (fun j _ => vp_updV_set hl v j)⟩ e3) (hS0.put e2 e3 (hD.2 q0 _ he))
theorem zx_putF (hexec : p.tables.exec = Jvm.exec) (hb : c.code = cc) {own ref C : String} {T : u_T} {N ci index : Nat} {Ts : List Cond} (hts : ∀ w ∈ Ts, w.before args s = true) (hin : ∀ w ∈ u_ws C T N, w ∈ Ts) (ty0 : Nat → FieldType) (hty : ∀ k, k < N → parseFieldDescriptor (T k).2.2.1 = some (ty0 k)) (hnm : ∀ a, a < N → ∀ b, b < N → a ≠ b → (T a).2.1 ≠ (T b).2.1) (hown : s.vm.findClass own = some m.cls) (hK : va_K D cl tys s) (hP : va_P D cl ws H) (hD : va_D A ws) (hS0 : va_S A H0 H locs) (q0 : Nat) {fs : List Value} (he : ws[q0]? = some (a, .inr (ci, fs))) (hc : cl[ci]? = some (C, T, N)) (k : Nat) (hk : k < N) (hlink : (Cond.fieldLink own index ref (T k).2.1 (T k).2.2.1).before args s = true)
    (hsame : ∀ x, s.fieldFound? (T k).1 (T k).2.1 (T k).2.2.1 = some x → s.fieldFound? ref (T k).2.1 (T k).2.2.1 = some x) (hfin : (T k).2.2.2 = true) (hin2 : meth.name = "<init>") (hdecl : (T k).1 = own) {ty : FieldType} {v : Value} (hd : parseFieldDescriptor (T k).2.2.1 = some ty) (hn : narrow ty v = v) (hfit : fits ty v = true) (hl : k < fs.length)
    (hdg : decode cc pc = .ok (.putfield index, 3)) (kk : ∀ (H1 : Heap) (locs1 : List Loc), H1.size = H.size → va_P D cl (ws.set q0 (a, .inr (ci, fs.set k v))) H1 → va_S A H0 H1 locs1 → W p l e R s m args below meth c H1 locs1 cells slots Q (F0 m (pc + 3) ls rest)) : W p l e R s m args below meth c H locs cells slots Q (F0 m pc ls (v :: .ref a :: rest)) := by
  have hap := va_apart (own := own) hts hin ty0 hty hnm hK hc
  obtain ⟨r, h1, cell, q1, q2, q3, q4⟩ := hP q0 _ he
  have hr : r = (C, T, N) := Option.some.inj (h1.symm.trans hc)
  subst hr
  obtain ⟨hS, hfc, kC, hkC, hkind⟩ := hK.1 ci _ hc
  obtain ⟨cf, kf, fi, f, hi, hsl⟩ := hS k hk
  have hlay := hts _ (hin _ (u_in_lay hk))
  unfold u_lay at hlay
  rw [if_pos hfin] at hlay
  have hst := (u_facts hfc hkC (u_lays hts hin hk) hi).1
  have hcf : m.cls = cf := by
    obtain ⟨_, _, c', _, _, _, -, -, hf', -, -, -, hown2, -⟩ := Cond.laysFinal_spec hlay
    have e1 : c' = cf := by have := hi.symm.trans hf'; simp at this; exact this.1.symm
    rw [hdecl] at hown2
    rw [← e1]; exact Option.some.inj (hown.symm.trans hown2)
  have h6 := u_fits hfc hkC hkind (Or.inr hlay) hi hd hn hfit
  refine W.putFinK hexec hb hown hlink (hsame _ hi) hst hcf hin2 (by rw [q2]; exact h6) q1 q3 (by rw [hsl]; exact k2_hasslot (q4 k hk)) rfl rfl hdg fun H' e1 e2 e3 => ?_
  rw [hsl] at e1 ⊢
  exact kk H' _ e2 (hP.set hD he ⟨_, hc, t_OB.to (V := updV (vp_V fs) k v) ⟨_, e1, q2, q3, t_set q4 hap hk v⟩ (fun j _ => vp_updV_set hl v j)⟩ e3) (hS0.put e2 e3 (hD.2 q0 _ he))
theorem zx_iast (hexec : p.tables.exec = Jvm.exec) (hb : c.code = cc) (hK : va_K D cl tys s) (hP : va_P D cl ws H) (hD : va_D A ws) (hS : va_S A H0 H locs) (q0 t0 : Nat) {cA : ClassId} {n : Nat} {f : Nat → Int32} (ha : ws[q0]? = some (a, .inl (cA, n, .inl f))) (ht : tys[t0]? = some (cA, .int)) {i : Int32} {x : Int32} (hin : vp_in i n) (hdg : decode cc pc = .ok (.iastore, 1))
    (kk : ∀ (H1 : Heap) (locs1 : List Loc), H1.size = H.size → va_P D cl (ws.set q0 (a, .inl (cA, n, .inl (upd f i.toNatClampNeg x)))) H1 → va_S A H0 H1 locs1 → W p l e R s m args below meth c H1 locs1 cells slots Q (F0 m (pc + 1) ls rest)) : W p l e R s m args below meth c H locs cells slots Q (F0 m pc ls (.int x :: .int i :: .ref a :: rest)) := by
  refine W.iast hexec hb (hP q0 _ ha) ((hK.2 t0 _ ht).1 n (fun j => .int (f j))) (fun q => by cases q) (by show ¬ (i < 0 ∨ (arrV _ _ _).slots.size ≤ _); rw [arrV_size]; exact hin) rfl rfl hdg fun H1 e z oq => ?_
  refine kk H1 _ z (hP.set hD ha ?_ oq) (hS.put z oq (hD.2 q0 _ ha))
  show H1[a]? = some (vp_cell _ _)
  rw [e, vp_cell_i, vp_cell_i, arrV_store]
  congr 2
  funext q
  by_cases hq : q = i.toNatClampNeg
  · subst hq
    simp [updV, upd]
  · simp [updV, upd, hq]
theorem zx_last (hexec : p.tables.exec = Jvm.exec) (hb : c.code = cc) (hK : va_K D cl tys s) (hP : va_P D cl ws H) (hD : va_D A ws) (hS : va_S A H0 H locs) (q0 t0 : Nat) {cA : ClassId} {n : Nat} {f : Nat → Int64} (ha : ws[q0]? = some (a, .inl (cA, n, .inr (.inl f)))) (ht : tys[t0]? = some (cA, .long)) {i : Int32} {x : Int64} (hin : vp_in i n) (hdg : decode cc pc = .ok (.lastore, 1))
    (kk : ∀ (H1 : Heap) (locs1 : List Loc), H1.size = H.size → va_P D cl (ws.set q0 (a, .inl (cA, n, .inr (.inl (vp_updL f i.toNatClampNeg x))))) H1 → va_S A H0 H1 locs1 → W p l e R s m args below meth c H1 locs1 cells slots Q (F0 m (pc + 1) ls rest)) : W p l e R s m args below meth c H locs cells slots Q (F0 m pc ls (.long x :: .int i :: .ref a :: rest)) := by
  refine W.last hexec hb (hP q0 _ ha) ((hK.2 t0 _ ht).1 n (fun j => .long (f j))) (fun q => by cases q) (by show ¬ (i < 0 ∨ (arrV _ _ _).slots.size ≤ _); rw [arrV_size]; exact hin) rfl rfl hdg fun H1 e z oq => ?_
  refine kk H1 _ z (hP.set hD ha ?_ oq) (hS.put z oq (hD.2 q0 _ ha))
  show H1[a]? = some (vp_cell _ _)
  rw [e, vp_cell_l, vp_cell_l, arrV_store]
  congr 2
  funext q
  by_cases hq : q = i.toNatClampNeg
  · subst hq
    simp [updV, vp_updL]
  · simp [updV, vp_updL, hq]
theorem zx_aald (hexec : p.tables.exec = Jvm.exec) (hb : c.code = cc) (hK : va_K D cl tys s) (hP : va_P D cl ws H) (q0 t0 : Nat) {cA : ClassId} {ty : FieldType} {n : Nat} {f : Nat → Option Nat} (ha : ws[q0]? = some (a, .inl (cA, n, .inr (.inr (.inr (.inr f)))))) (ht : tys[t0]? = some (cA, .array ty)) {i : Int32} (hin : vp_in i n) (hdg : decode cc pc = .ok (.aaload, 1))
    (kk : W p l e R s m args below meth c H locs cells slots Q (F0 m (pc + 1) ls (va_rf (f i.toNatClampNeg) :: rest))) : W p l e R s m args below meth c H locs cells slots Q (F0 m pc ls (.int i :: .ref a :: rest)) := by
  have hlt : i.toNatClampNeg < n := Nat.not_le.mp fun q => hin (Or.inr q)
  exact W.aald (v := va_rf (f i.toNatClampNeg)) (ty := .array ty) hexec hb (hP q0 _ ha) ((hK.2 t0 _ ht).1 n (fun j => va_rf (f j))) rfl (fun q => by cases q) (by show ¬ (i < 0 ∨ (arrV _ _ _).slots.size ≤ _); rw [arrV_size]; exact hin) (by show (arrV _ _ _).slots[_]? = _; rw [arrV_read _ _ hlt]) rfl rfl hdg kk
end
theorem zx_n_inv {a a' : Nat} {b b' c c' : List Value} {d d' : zx_H} (h : zx_n a b c d = some (.inl (a', b', c', d'))) : a = a' ∧ b = b' ∧ c = c' ∧ d = d' := by
  unfold zx_n at h
  cases h
  exact ⟨rfl, rfl, rfl, rfl⟩
theorem zx_pi_inv {st : List Value} {k : Int32 → List Value → zx_O} {z : (Nat × List Value × List Value × zx_H) ⊕ (Option Value) ⊕ (Nat × List Value × List Value)} (h : zx_pi st k = some z) : ∃ x r, st = .int x :: r ∧ k x r = some z := by
  unfold zx_pi at h
  split at h
  · exact ⟨_, _, rfl, h⟩
  · cases h
theorem zx_pl_inv {st : List Value} {k : Int64 → List Value → zx_O} {z : (Nat × List Value × List Value × zx_H) ⊕ (Option Value) ⊕ (Nat × List Value × List Value)} (h : zx_pl st k = some z) : ∃ x r, st = .long x :: r ∧ k x r = some z := by
  unfold zx_pl at h
  split at h
  · exact ⟨_, _, rfl, h⟩
  · cases h
theorem zx_pr_inv {st : List Value} {k : Nat → List Value → zx_O} {z : (Nat × List Value × List Value × zx_H) ⊕ (Option Value) ⊕ (Nat × List Value × List Value)} (h : zx_pr st k = some z) : ∃ x r, st = .ref x :: r ∧ k x r = some z := by
  unfold zx_pr at h
  split at h
  · exact ⟨_, _, rfl, h⟩
  · cases h
theorem zx_p1_inv {st : List Value} {k : Value → List Value → zx_O} {z : (Nat × List Value × List Value × zx_H) ⊕ (Option Value) ⊕ (Nat × List Value × List Value)} (h : zx_p1 st k = some z) : ∃ x r, st = x :: r ∧ x.category = 1 ∧ k x r = some z := by
  unfold zx_p1 at h
  split at h
  · split at h
    · rename_i hc
      exact ⟨_, _, rfl, hc, h⟩
    · cases h
  · cases h
theorem zx_li_inv {v : Option Value} {k : Int32 → zx_O} {z : (Nat × List Value × List Value × zx_H) ⊕ (Option Value) ⊕ (Nat × List Value × List Value)} (h : zx_li v k = some z) : ∃ x, v = some (.int x) ∧ k x = some z := by
  unfold zx_li at h
  split at h
  · exact ⟨_, rfl, h⟩
  · cases h
theorem zx_lr_inv {v : Option Value} {k : Nat → zx_O} {z : (Nat × List Value × List Value × zx_H) ⊕ (Option Value) ⊕ (Nat × List Value × List Value)} (h : zx_lr v k = some z) : ∃ x, v = some (.ref x) ∧ k x = some z := by
  unfold zx_lr at h
  split at h
  · exact ⟨_, rfl, h⟩
  · cases h
theorem zx_ll_inv {v u : Option Value} {k : Int64 → zx_O} {z : (Nat × List Value × List Value × zx_H) ⊕ (Option Value) ⊕ (Nat × List Value × List Value)} (h : zx_ll v u k = some z) : ∃ x, v = some (.long x) ∧ u = some (.retAddr 1) ∧ k x = some z := by
  unfold zx_ll at h
  split at h
  · exact ⟨_, rfl, rfl, h⟩
  · cases h
theorem zx_it {c : Prop} {d : Decidable c} {k : zx_O} {z : (Nat × List Value × List Value × zx_H) ⊕ (Option Value) ⊕ (Nat × List Value × List Value)} (h : @ite _ c d k none = some z) : c ∧ k = some z := by
  by_cases hc : c
  · rw [if_pos hc] at h
    exact ⟨hc, h⟩
  · rw [if_neg hc] at h
    cases h
theorem zx_in {c : Prop} {d : Decidable c} {k : zx_O} {z : (Nat × List Value × List Value × zx_H) ⊕ (Option Value) ⊕ (Nat × List Value × List Value)} (h : @ite _ c d none k = some z) : ¬ c ∧ k = some z := by
  by_cases hc : c
  · rw [if_pos hc] at h
    cases h
  · rw [if_neg hc] at h
    exact ⟨hc, h⟩
theorem zx_sw_spec (pc : Nat) (d : Int) (x : Int32) : ∀ (os : List Int) (i : Int), ((x.toInt < i ∨ i + (os.length : Int) ≤ x.toInt) → zx_sw pc d x i os = ((pc : Int) + d).toNat) ∧ (¬ x.toInt < i → x.toInt < i + (os.length : Int) → ∃ off, os[(x.toInt - i).toNat]? = some off ∧ zx_sw pc d x i os = ((pc : Int) + off).toNat)
  | [], i => ⟨fun _ => rfl, fun h1 h2 => by simp at h2; omega⟩
  | o :: os, i => by
    obtain ⟨h1, h2⟩ := zx_sw_spec pc d x os (i + 1)
    refine ⟨fun h => ?_, fun g1 g2 => ?_⟩
    · unfold zx_sw
      simp only [List.length_cons] at h
      rw [if_neg (by omega)]
      exact h1 (by omega)
    · unfold zx_sw
      simp only [List.length_cons] at g2
      by_cases e : x.toInt = i
      · rw [if_pos e]
        exact ⟨o, by rw [e, Int.sub_self]; rfl, rfl⟩
      · rw [if_neg e]
        obtain ⟨off, q1, q2⟩ := h2 (by omega) (by omega)
        refine ⟨off, ?_, q2⟩
        rw [show (x.toInt - i).toNat = (x.toInt - (i + 1)).toNat + 1 by omega, List.getElem?_cons_succ]
        exact q1
theorem zx_P_iff {P : zx_P} {isr : Nat → Nat → Bool} {w : zx_W} {cl : List vw_C} {H : zx_H} {Hp : Heap} : va_P w.2.1 cl (zx_ws P isr w H) Hp ↔ ∀ k, k < H.1.2.2.1 → va_at w.2.1 cl (w.1 + k, zx_e P isr w H k) Hp := by
  refine ⟨fun h k hk => h k _ (zx_ws_get hk), fun h k q hq => ?_⟩
  obtain ⟨h1, rfl⟩ := zx_ws_inv hq
  exact h k h1
theorem zx_r_str (w : zx_W) {i : Nat} (h : i < 100000) : zx_r w (2000000 + i) = w.2.2.2.1 i := by
  unfold zx_r
  rw [if_neg (by omega), if_pos (by omega), Nat.add_sub_cancel_left]
theorem zx_r_byt (w : zx_W) {i : Nat} (h : i < 100000) : zx_r w (2100000 + i) = w.2.2.2.2.1 i := by
  unfold zx_r
  rw [if_neg (by omega), if_neg (by omega), if_pos (by omega), Nat.add_sub_cancel_left]
theorem zx_r_scr (w : zx_W) : zx_r w 3000000 = w.2.2.2.2.2.2 := by
  unfold zx_r
  rw [if_neg (by omega), if_neg (by omega), if_neg (by omega)]
theorem zx_len8_get {P : zx_P} {i : Nat} (h : i < P.2.1.length) : (zx_len8 P).getD i 0 = (P.2.1.getD i []).length := by
  unfold zx_len8
  simp [h]
