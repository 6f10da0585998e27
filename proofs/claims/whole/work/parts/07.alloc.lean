theorem zx_outer (c : ClassId) (N h0 : Nat) : ∀ i : Nat, Jvm.Free.Multi.outerC c N h0 i = arrV c N (fun j => va_rf (if j < i then some (h0 + 1 + j) else none))
  | 0 => by
    show ({ cls := c, slots := Array.replicate N .null, vm := .none } : Cell) = _
    rw [arrV_new]
    refine congrArg (arrV c N) (funext fun j => ?_)
    simp [va_rf]
  | i + 1 => by
    show (Jvm.Free.Multi.outerC c N h0 i).setSlot i (.ref (h0 + 1 + i)) = _
    rw [zx_outer c N h0 i, arrV_store]
    refine congrArg (arrV c N) (funext fun j => ?_)
    by_cases e : j = i
    · subst e
      simp [updV, va_rf]
    · by_cases h : j < i
      · simp [updV, e, h, Nat.lt_succ_of_lt h]
      · simp [updV, e, h, show ¬ j < i + 1 by omega]
theorem zx_Rel_push {P : zx_P} {isr : Nat → Nat → Bool} {w : zx_W} {cl : List vw_C} {H H' : zx_H} {Hp Hq : Heap} (hR : zx_Rel P isr w cl H Hp) (hz : H'.1.2.2.1 = H.1.2.2.1 + 1) (he : ∀ j, j < H.1.2.2.1 → zx_e P isr w H' j = zx_e P isr w H j) (hk : ∀ k, H'.1.2.2.1 ≤ k → H'.1.1 k = (99, 0))
    (hs : Hq.size = w.1 + (H.1.2.2.1 + 1)) (ho : ∀ x : Nat, x < w.1 + H.1.2.2.1 → Hq[x]? = Hp[x]?) (ha : va_at w.2.1 cl (w.1 + H.1.2.2.1, zx_e P isr w H' H.1.2.2.1) Hq) : zx_Rel P isr w cl H' Hq := by
  refine ⟨zx_P_iff.mpr (fun k hk2 => ?_), by rw [hs, hz], hk⟩
  rw [hz] at hk2
  by_cases q : k < H.1.2.2.1
  · rw [he k q]
    exact (zx_P_iff.mp hR.1 k q).kept (ho _ (by show w.1 + k < _; omega))
  · obtain rfl : k = H.1.2.2.1 := by omega
    exact ha
section
variable {p : Program} {l : Launch} {e : Env} {R : Room} {s : State} {m : MethodId} {args : Array Value} {below : List Frame} {meth : Method} {c : Code} {Hp : Heap} {locs : List Loc} {cells slots : Nat} {Q : State → Prop}
variable {cc : ByteArray} {pc : Nat} {lsA : Array Slot} {P : zx_P} {isr : Nat → Nat → Bool} {w : zx_W} {cl : List vw_C} {H : zx_H} {ls r : List Value} {z0 y0 : Nat}
theorem zx_newi (hexec : p.tables.exec = Jvm.exec) (hb : c.code = cc) (harr : (Cond.arrayClass .int).before args s = true) (hdg : decode cc pc = .ok (.newarray .int, 2)) {x : Int32} (hR : zx_Rel P isr w cl H Hp) (hS : va_S (zx_A w) s.heap Hp locs) (hL : zx_LR w ls lsA) (hc : H.1.2.2.1 = z0 + cells) (hs : H.1.2.2.2 = y0 + slots)
    (hbc : (zx_new H (10, x.toNatClampNeg) x.toNatClampNeg).1.2.2.1 ≤ z0 + R.cells) (hbs : (zx_new H (10, x.toNatClampNeg) x.toNatClampNeg).1.2.2.2 ≤ y0 + R.slots) (hn : ¬ x < 0) (h1 : x.toNatClampNeg ≤ 10000) (h8 : H.1.2.2.1 < 800000) (hK : va_K w.2.1 cl (zx_tys w) s)
    (kk : ∀ (lsB : Array Slot) (Hq : Heap) (locs2 : List Loc) (cells2 slots2 : Nat), zx_LR w ls lsB → zx_Rel P isr w cl (zx_new H (10, x.toNatClampNeg) x.toNatClampNeg) Hq → va_S (zx_A w) s.heap Hq locs2 → (zx_new H (10, x.toNatClampNeg) x.toNatClampNeg).1.2.2.1 = z0 + cells2 → (zx_new H (10, x.toNatClampNeg) x.toNatClampNeg).1.2.2.2 = y0 + slots2 → W p l e R s m args below meth c Hq locs2 cells2 slots2 Q (F0 m (pc + 2) lsB ((Value.ref H.1.2.2.1 :: r).map (zx_v w)))) :
    W p l e R s m args below meth c Hp locs cells slots Q (F0 m pc lsA ((Value.int x :: r).map (zx_v w))) := by
  have hz1 : (zx_new H (10, x.toNatClampNeg) x.toNatClampNeg).1.2.2.1 = H.1.2.2.1 + 1 := rfl
  have hz2 : (zx_new H (10, x.toNatClampNeg) x.toNatClampNeg).1.2.2.2 = H.1.2.2.2 + x.toNatClampNeg := rfl
  rw [hz1] at hbc
  rw [hz2] at hbs
  have hbytes : x.toNatClampNeg * componentBytes (newarray.typeOf .int) ≤ 536870912 := by
    have : componentBytes (newarray.typeOf .int) ≤ 8 := by decide
    calc x.toNatClampNeg * componentBytes (newarray.typeOf .int) ≤ 10000 * 8 := Nat.mul_le_mul h1 this
      _ ≤ 536870912 := by omega
  have hszle : s.heap.size ≤ w.1 + H.1.2.2.1 := by rw [← hR.2.1]; exact hS.1
  rw [List.map_cons, zx_v_int]
  refine va_newaK (atype := .int) (g := F0 m pc lsA (.int x :: r.map (zx_v w))) hexec hb harr rfl hdg rfl hn rfl hbytes (by omega) (by omega) hR.2.1 fun H1 cA e1 zz o1 hAr hNm => ?_
  have hcA : w.2.2.1.1 = cA := by
    have h9 := (hK.2 0 _ rfl).2
    exact Option.some.inj ((show s.vm.findClass _ = some _ from h9).symm.trans hNm)
  have k2 := kk lsA H1 locs (cells + 1) (slots + x.toNatClampNeg) hL ?_ ⟨by rw [zz]; omega, fun q g1 g2 => (o1 q (by omega)).trans (hS.2.1 q g1 g2), hS.2.2⟩ (by rw [hz1]; omega) (by rw [hz2]; omega)
  · rw [List.map_cons, zx_v_ref, zx_r_own w (by omega)] at k2
    exact k2
  · refine zx_Rel_push hR rfl (fun j hj => zx_e_new_old hj) (fun k hk => ?_) (by rw [zz]; omega) o1 ?_
    · show (if k = H.1.2.2.1 then (10, x.toNatClampNeg) else H.1.1 k) = _
      rw [hz1] at hk
      rw [if_neg (by omega)]
      exact hR.2.2 k (by omega)
    · have hk1 : (zx_new H (10, x.toNatClampNeg) x.toNatClampNeg).1.1 H.1.2.2.1 = (10, x.toNatClampNeg) := if_pos rfl
      rw [zx_e_int (congrArg Prod.fst hk1), hk1]
      have hf : (zx_new H (10, x.toNatClampNeg) x.toNatClampNeg).2.1 H.1.2.2.1 = fun _ => 0 := funext fun j => if_pos rfl
      rw [hf, hcA]
      exact e1
theorem zx_newl (hexec : p.tables.exec = Jvm.exec) (hb : c.code = cc) (harr : (Cond.arrayClass .long).before args s = true) (hdg : decode cc pc = .ok (.newarray .long, 2)) {x : Int32} (hR : zx_Rel P isr w cl H Hp) (hS : va_S (zx_A w) s.heap Hp locs) (hL : zx_LR w ls lsA) (hc : H.1.2.2.1 = z0 + cells) (hs : H.1.2.2.2 = y0 + slots)
    (hbc : (zx_new H (11, x.toNatClampNeg) x.toNatClampNeg).1.2.2.1 ≤ z0 + R.cells) (hbs : (zx_new H (11, x.toNatClampNeg) x.toNatClampNeg).1.2.2.2 ≤ y0 + R.slots) (hn : ¬ x < 0) (h1 : x.toNatClampNeg ≤ 10000) (h8 : H.1.2.2.1 < 800000) (hK : va_K w.2.1 cl (zx_tys w) s)
    (kk : ∀ (lsB : Array Slot) (Hq : Heap) (locs2 : List Loc) (cells2 slots2 : Nat), zx_LR w ls lsB → zx_Rel P isr w cl (zx_new H (11, x.toNatClampNeg) x.toNatClampNeg) Hq → va_S (zx_A w) s.heap Hq locs2 → (zx_new H (11, x.toNatClampNeg) x.toNatClampNeg).1.2.2.1 = z0 + cells2 → (zx_new H (11, x.toNatClampNeg) x.toNatClampNeg).1.2.2.2 = y0 + slots2 → W p l e R s m args below meth c Hq locs2 cells2 slots2 Q (F0 m (pc + 2) lsB ((Value.ref H.1.2.2.1 :: r).map (zx_v w)))) :
    W p l e R s m args below meth c Hp locs cells slots Q (F0 m pc lsA ((Value.int x :: r).map (zx_v w))) := by
  have hz1 : (zx_new H (11, x.toNatClampNeg) x.toNatClampNeg).1.2.2.1 = H.1.2.2.1 + 1 := rfl
  have hz2 : (zx_new H (11, x.toNatClampNeg) x.toNatClampNeg).1.2.2.2 = H.1.2.2.2 + x.toNatClampNeg := rfl
  rw [hz1] at hbc
  rw [hz2] at hbs
  have hbytes : x.toNatClampNeg * componentBytes (newarray.typeOf .long) ≤ 536870912 := by
    have : componentBytes (newarray.typeOf .long) ≤ 8 := by decide
    calc x.toNatClampNeg * componentBytes (newarray.typeOf .long) ≤ 10000 * 8 := Nat.mul_le_mul h1 this
      _ ≤ 536870912 := by omega
  have hszle : s.heap.size ≤ w.1 + H.1.2.2.1 := by rw [← hR.2.1]; exact hS.1
  rw [List.map_cons, zx_v_int]
  refine va_newaK (atype := .long) (g := F0 m pc lsA (.int x :: r.map (zx_v w))) hexec hb harr rfl hdg rfl hn rfl hbytes (by omega) (by omega) hR.2.1 fun H1 cA e1 zz o1 hAr hNm => ?_
  have hcA : w.2.2.1.2.1 = cA := by
    have h9 := (hK.2 1 _ rfl).2
    exact Option.some.inj ((show s.vm.findClass _ = some _ from h9).symm.trans hNm)
  have k2 := kk lsA H1 locs (cells + 1) (slots + x.toNatClampNeg) hL ?_ ⟨by rw [zz]; omega, fun q g1 g2 => (o1 q (by omega)).trans (hS.2.1 q g1 g2), hS.2.2⟩ (by rw [hz1]; omega) (by rw [hz2]; omega)
  · rw [List.map_cons, zx_v_ref, zx_r_own w (by omega)] at k2
    exact k2
  · refine zx_Rel_push hR rfl (fun j hj => zx_e_new_old hj) (fun k hk => ?_) (by rw [zz]; omega) o1 ?_
    · show (if k = H.1.2.2.1 then (11, x.toNatClampNeg) else H.1.1 k) = _
      rw [hz1] at hk
      rw [if_neg (by omega)]
      exact hR.2.2 k (by omega)
    · have hk1 : (zx_new H (11, x.toNatClampNeg) x.toNatClampNeg).1.1 H.1.2.2.1 = (11, x.toNatClampNeg) := if_pos rfl
      rw [zx_e_long (congrArg Prod.fst hk1), hk1]
      have hf : (zx_new H (11, x.toNatClampNeg) x.toNatClampNeg).2.2 H.1.2.2.1 = fun _ => 0 := funext fun j => if_pos rfl
      rw [hf, hcA]
      exact e1
theorem zx_mn {ty : FieldType} {ko ki : Nat} {cO cN : ClassId} (hexec : p.tables.exec = Jvm.exec) (hb : c.code = cc) {own : String} {index : Nat} (hown : s.vm.findClass own = some m.cls) (hcl : (Cond.classLink own index ("[" ++ (FieldType.array ty).toString)).before args s = true) (harr : (Cond.arrayClass ty).before args s = true) (hov : (Cond.arrayOver (.array ty)).before #[] s = true)
    (hdg : decode cc pc = .ok (.multianewarray index 2, 4)) {x y : Int32} (hR : zx_Rel P isr w cl H Hp) (hS : va_S (zx_A w) s.heap Hp locs) (hL : zx_LR w ls lsA) (hc : H.1.2.2.1 = z0 + cells) (hs : H.1.2.2.2 = y0 + slots)
    (hbc : (zx_mna H ko ki x.toNatClampNeg y.toNatClampNeg).1.2.2.1 ≤ z0 + R.cells) (hbs : (zx_mna H ko ki x.toNatClampNeg y.toNatClampNeg).1.2.2.2 ≤ y0 + R.slots) (hn : ¬ x < 0) (hm : ¬ y < 0) (h1 : x.toNatClampNeg ≤ 10000) (h2 : y.toNatClampNeg ≤ 10000) (h8 : H.1.2.2.1 < 800000)
    (hcb : componentBytes ty ≤ 8) (hdf : fits ty (defaultValue ty) = true) (hdd : (defaultValue ty).isDefault = true) (hfO : s.vm.findClass ("[" ++ (FieldType.array ty).toString) = some cO) (hfN : s.vm.findClass (FieldType.array ty).toString = some cN)
    (heO : zx_e P isr w (zx_mna H ko ki x.toNatClampNeg y.toNatClampNeg) H.1.2.2.1 = .inl (cO, x.toNatClampNeg, .inr (.inr (.inr (.inr (fun j => (if j < x.toNatClampNeg then some (H.1.2.2.1 + 1 + j) else none).map (zx_r w)))))))
    (heI : ∀ i, i < x.toNatClampNeg → ∃ z, zx_e P isr w (zx_mna H ko ki x.toNatClampNeg y.toNatClampNeg) (H.1.2.2.1 + 1 + i) = .inl (cN, z) ∧ vp_cell cN z = Jvm.Free.Multi.innerC cN y.toNatClampNeg (defaultValue ty))
    (kk : ∀ (lsB : Array Slot) (Hq : Heap) (locs2 : List Loc) (cells2 slots2 : Nat), zx_LR w ls lsB → zx_Rel P isr w cl (zx_mna H ko ki x.toNatClampNeg y.toNatClampNeg) Hq → va_S (zx_A w) s.heap Hq locs2 → (zx_mna H ko ki x.toNatClampNeg y.toNatClampNeg).1.2.2.1 = z0 + cells2 → (zx_mna H ko ki x.toNatClampNeg y.toNatClampNeg).1.2.2.2 = y0 + slots2 → W p l e R s m args below meth c Hq locs2 cells2 slots2 Q (F0 m (pc + 4) lsB ((Value.ref H.1.2.2.1 :: r).map (zx_v w)))) :
    W p l e R s m args below meth c Hp locs cells slots Q (F0 m pc lsA ((Value.int y :: Value.int x :: r).map (zx_v w))) := by
  have hz1 : (zx_mna H ko ki x.toNatClampNeg y.toNatClampNeg).1.2.2.1 = H.1.2.2.1 + (1 + x.toNatClampNeg) := rfl
  have hz2 : (zx_mna H ko ki x.toNatClampNeg y.toNatClampNeg).1.2.2.2 = H.1.2.2.2 + (x.toNatClampNeg + x.toNatClampNeg * y.toNatClampNeg) := rfl
  rw [hz1] at hbc
  rw [hz2] at hbs
  have hszle : s.heap.size ≤ w.1 + H.1.2.2.1 := by rw [← hR.2.1]; exact hS.1
  have hb2 : y.toNatClampNeg * componentBytes ty ≤ 536870912 := by
    calc y.toNatClampNeg * componentBytes ty ≤ 10000 * 8 := Nat.mul_le_mul h2 hcb
      _ ≤ 536870912 := by omega
  intro T hT Xs
  obtain ⟨vm₁, cA, comp, -, fA, fC, -, -, X', step⟩ := Xs.multianewarray2F hexec hown hcl (show (Cond.arrayOver (.array ty)).before args s = true from hov) harr (g := F0 m pc lsA (.int y :: .int x :: r.map (zx_v w))) rfl (by rw [hb]; exact hdg) rfl hn hm (by omega) hb2 (by omega) hdf hdd (by omega) (by omega)
  cases hfO.symm.trans fA
  cases hfN.symm.trans fC
  obtain ⟨f1, f2, -, -⟩ := Jvm.Free.Multi.fill_facts (T.setVm vm₁) cO cN x.toNatClampNeg y.toNatClampNeg (defaultValue ty) x.toNatClampNeg
  have hTh : (T.setVm vm₁).heap = Hp := hT
  have hold : ∀ q : Nat, q < Hp.size → (Jvm.Free.Multi.fill (T.setVm vm₁) cO cN x.toNatClampNeg y.toNatClampNeg (defaultValue ty) x.toNatClampNeg).heap[q]? = Hp[q]? := fun q hq => by
    have := Jvm.Free.Multi.fill_old (T.setVm vm₁) cO cN x.toNatClampNeg y.toNatClampNeg (defaultValue ty) (a := q) (by rw [hTh]; exact hq) x.toNatClampNeg
    rw [hTh] at this
    exact this
  have hrow : ∀ j : Nat, j < x.toNatClampNeg → (Jvm.Free.Multi.fill (T.setVm vm₁) cO cN x.toNatClampNeg y.toNatClampNeg (defaultValue ty) x.toNatClampNeg).heap[Hp.size + 1 + j]? = some (Jvm.Free.Multi.innerC cN y.toNatClampNeg (defaultValue ty)) := fun j hj => by
    have := Jvm.Free.Multi.fill_inner (T.setVm vm₁) cO cN x.toNatClampNeg y.toNatClampNeg (defaultValue ty) x.toNatClampNeg j hj
    rw [hTh] at this
    exact this
  rw [hTh] at f1 f2
  generalize hF : Jvm.Free.Multi.fill (T.setVm vm₁) cO cN x.toNatClampNeg y.toNatClampNeg (defaultValue ty) x.toNatClampNeg = F at X' step hold hrow f1 f2
  have hout := zx_outer cO x.toNatClampNeg Hp.size x.toNatClampNeg
  rw [hout] at f2
  have hsz : Hp.size = w.1 + H.1.2.2.1 := hR.2.1
  have hRel : zx_Rel P isr w cl (zx_mna H ko ki x.toNatClampNeg y.toNatClampNeg) F.heap := by
    refine ⟨zx_P_iff.mpr (fun k hk => ?_), by rw [f1, hz1, hsz]; omega, fun k hk => ?_⟩
    · rw [hz1] at hk
      by_cases q : k < H.1.2.2.1
      · rw [zx_e_mna_old q]
        exact (zx_P_iff.mp hR.1 k q).kept (hold _ (by show w.1 + k < _; omega))
      · by_cases q2 : k = H.1.2.2.1
        · subst q2
          rw [heO]
          show F.heap[w.1 + H.1.2.2.1]? = some (vp_cell _ _)
          rw [← hsz, f2, vp_cell_q]
          congr 2
          funext j
          by_cases hj : j < x.toNatClampNeg
          · rw [if_pos hj, if_pos hj]
            show va_rf (some _) = va_rf (some (zx_r w (H.1.2.2.1 + 1 + j)))
            rw [zx_r_own w (by omega), hsz]
            congr 2
            omega
          · rw [if_neg hj, if_neg hj]
            rfl
        · obtain ⟨i, rfl⟩ : ∃ i, k = H.1.2.2.1 + 1 + i := ⟨k - (H.1.2.2.1 + 1), by omega⟩
          obtain ⟨z, hz, hz9⟩ := heI i (by omega)
          rw [hz]
          show F.heap[w.1 + (H.1.2.2.1 + 1 + i)]? = some (vp_cell _ _)
          rw [hz9, show w.1 + (H.1.2.2.1 + 1 + i) = Hp.size + 1 + i by omega]
          exact hrow i (by omega)
    · rw [hz1] at hk
      show (if k = H.1.2.2.1 then _ else if H.1.2.2.1 < k ∧ k ≤ H.1.2.2.1 + x.toNatClampNeg then _ else H.1.1 k) = _
      rw [if_neg (by omega), if_neg (by omega)]
      exact hR.2.2 k (by omega)
  have k2 := kk lsA F.heap locs (cells + 1 + x.toNatClampNeg) (slots + x.toNatClampNeg + x.toNatClampNeg * y.toNatClampNeg) hL hRel ⟨by rw [f1]; omega, fun q g1 g2 => (hold q (by omega)).trans (hS.2.1 q g1 g2), hS.2.2⟩ (by rw [hz1]; omega) (by rw [hz2]; omega)
  rw [List.map_cons, zx_v_ref, zx_r_own w (by omega)] at k2
  obtain ⟨t, a1, b1⟩ := k2 F rfl X'
  refine ⟨t, step t ?_, b1⟩
  have e9 : T.heap.size = w.1 + H.1.2.2.1 := by rw [hT]; exact hsz
  rw [e9]
  exact a1
theorem zx_mni (hexec : p.tables.exec = Jvm.exec) (hb : c.code = cc) {own : String} {index : Nat} (hown : s.vm.findClass own = some m.cls) (hcl : (Cond.classLink own index "[[I").before args s = true) (harr : (Cond.arrayClass .int).before args s = true) (hov : (Cond.arrayOver (.array .int)).before #[] s = true)
    (hdg : decode cc pc = .ok (.multianewarray index 2, 4)) {x y : Int32} (hR : zx_Rel P isr w cl H Hp) (hS : va_S (zx_A w) s.heap Hp locs) (hL : zx_LR w ls lsA) (hc : H.1.2.2.1 = z0 + cells) (hs : H.1.2.2.2 = y0 + slots)
    (hbc : (zx_mna H 12 10 x.toNatClampNeg y.toNatClampNeg).1.2.2.1 ≤ z0 + R.cells) (hbs : (zx_mna H 12 10 x.toNatClampNeg y.toNatClampNeg).1.2.2.2 ≤ y0 + R.slots) (hn : ¬ x < 0) (hm : ¬ y < 0) (h1 : x.toNatClampNeg ≤ 10000) (h2 : y.toNatClampNeg ≤ 10000) (h8 : H.1.2.2.1 < 800000) (hK : va_K w.2.1 cl (zx_tys w) s)
    (kk : ∀ (lsB : Array Slot) (Hq : Heap) (locs2 : List Loc) (cells2 slots2 : Nat), zx_LR w ls lsB → zx_Rel P isr w cl (zx_mna H 12 10 x.toNatClampNeg y.toNatClampNeg) Hq → va_S (zx_A w) s.heap Hq locs2 → (zx_mna H 12 10 x.toNatClampNeg y.toNatClampNeg).1.2.2.1 = z0 + cells2 → (zx_mna H 12 10 x.toNatClampNeg y.toNatClampNeg).1.2.2.2 = y0 + slots2 → W p l e R s m args below meth c Hq locs2 cells2 slots2 Q (F0 m (pc + 4) lsB ((Value.ref H.1.2.2.1 :: r).map (zx_v w)))) :
    W p l e R s m args below meth c Hp locs cells slots Q (F0 m pc lsA ((Value.int y :: Value.int x :: r).map (zx_v w))) := by
  have hO : s.vm.findClass ("[" ++ (FieldType.array .int).toString) = some w.2.2.1.2.2.1 := (hK.2 2 _ rfl).2
  have hN : s.vm.findClass (FieldType.array .int).toString = some w.2.2.1.1 := (hK.2 0 _ rfl).2
  refine zx_mn (ty := .int) (ko := 12) (ki := 10) (cO := w.2.2.1.2.2.1) (cN := w.2.2.1.1) hexec hb hown hcl harr hov hdg hR hS hL hc hs hbc hbs hn hm h1 h2 h8 (by decide) rfl rfl hO hN ?_ (fun i hi => ⟨(y.toNatClampNeg, .inl (fun _ => 0)), ?_, ?_⟩) kk
  · have hk : (zx_mna H 12 10 x.toNatClampNeg y.toNatClampNeg).1.1 H.1.2.2.1 = (12, x.toNatClampNeg) := if_pos rfl
    have hf : (fun j => ((zx_mna H 12 10 x.toNatClampNeg y.toNatClampNeg).1.2.1 H.1.2.2.1 j).map (zx_r w)) = fun j => (if j < x.toNatClampNeg then some (H.1.2.2.1 + 1 + j) else none).map (zx_r w) := funext fun j => congrArg _ (if_pos rfl)
    rw [zx_e_ii (congrArg Prod.fst hk), hk, hf]
  · have hk : (zx_mna H 12 10 x.toNatClampNeg y.toNatClampNeg).1.1 (H.1.2.2.1 + 1 + i) = (10, y.toNatClampNeg) := (if_neg (by omega)).trans (if_pos ⟨by omega, by omega⟩)
    have hf : (zx_mna H 12 10 x.toNatClampNeg y.toNatClampNeg).2.1 (H.1.2.2.1 + 1 + i) = fun _ => 0 := funext fun j => if_pos ⟨by omega, by omega⟩
    rw [zx_e_int (congrArg Prod.fst hk), hk, hf]
  · rw [vp_cell_i]
    exact (arrV_new _ _ _).symm
theorem zx_mnl (hexec : p.tables.exec = Jvm.exec) (hb : c.code = cc) {own : String} {index : Nat} (hown : s.vm.findClass own = some m.cls) (hcl : (Cond.classLink own index "[[J").before args s = true) (harr : (Cond.arrayClass .long).before args s = true) (hov : (Cond.arrayOver (.array .long)).before #[] s = true)
    (hdg : decode cc pc = .ok (.multianewarray index 2, 4)) {x y : Int32} (hR : zx_Rel P isr w cl H Hp) (hS : va_S (zx_A w) s.heap Hp locs) (hL : zx_LR w ls lsA) (hc : H.1.2.2.1 = z0 + cells) (hs : H.1.2.2.2 = y0 + slots)
    (hbc : (zx_mna H 13 11 x.toNatClampNeg y.toNatClampNeg).1.2.2.1 ≤ z0 + R.cells) (hbs : (zx_mna H 13 11 x.toNatClampNeg y.toNatClampNeg).1.2.2.2 ≤ y0 + R.slots) (hn : ¬ x < 0) (hm : ¬ y < 0) (h1 : x.toNatClampNeg ≤ 10000) (h2 : y.toNatClampNeg ≤ 10000) (h8 : H.1.2.2.1 < 800000) (hK : va_K w.2.1 cl (zx_tys w) s)
    (kk : ∀ (lsB : Array Slot) (Hq : Heap) (locs2 : List Loc) (cells2 slots2 : Nat), zx_LR w ls lsB → zx_Rel P isr w cl (zx_mna H 13 11 x.toNatClampNeg y.toNatClampNeg) Hq → va_S (zx_A w) s.heap Hq locs2 → (zx_mna H 13 11 x.toNatClampNeg y.toNatClampNeg).1.2.2.1 = z0 + cells2 → (zx_mna H 13 11 x.toNatClampNeg y.toNatClampNeg).1.2.2.2 = y0 + slots2 → W p l e R s m args below meth c Hq locs2 cells2 slots2 Q (F0 m (pc + 4) lsB ((Value.ref H.1.2.2.1 :: r).map (zx_v w)))) :
    W p l e R s m args below meth c Hp locs cells slots Q (F0 m pc lsA ((Value.int y :: Value.int x :: r).map (zx_v w))) := by
  have hO : s.vm.findClass ("[" ++ (FieldType.array .long).toString) = some w.2.2.1.2.2.2 := (hK.2 3 _ rfl).2
  have hN : s.vm.findClass (FieldType.array .long).toString = some w.2.2.1.2.1 := (hK.2 1 _ rfl).2
  refine zx_mn (ty := .long) (ko := 13) (ki := 11) (cO := w.2.2.1.2.2.2) (cN := w.2.2.1.2.1) hexec hb hown hcl harr hov hdg hR hS hL hc hs hbc hbs hn hm h1 h2 h8 (by decide) rfl rfl hO hN ?_ (fun i hi => ⟨(y.toNatClampNeg, .inr (.inl (fun _ => 0))), ?_, ?_⟩) kk
  · have hk : (zx_mna H 13 11 x.toNatClampNeg y.toNatClampNeg).1.1 H.1.2.2.1 = (13, x.toNatClampNeg) := if_pos rfl
    have hf : (fun j => ((zx_mna H 13 11 x.toNatClampNeg y.toNatClampNeg).1.2.1 H.1.2.2.1 j).map (zx_r w)) = fun j => (if j < x.toNatClampNeg then some (H.1.2.2.1 + 1 + j) else none).map (zx_r w) := funext fun j => congrArg _ (if_pos rfl)
    rw [zx_e_ll (congrArg Prod.fst hk), hk, hf]
  · have hk : (zx_mna H 13 11 x.toNatClampNeg y.toNatClampNeg).1.1 (H.1.2.2.1 + 1 + i) = (11, y.toNatClampNeg) := (if_neg (by omega)).trans (if_pos ⟨by omega, by omega⟩)
    have hf : (zx_mna H 13 11 x.toNatClampNeg y.toNatClampNeg).2.2 (H.1.2.2.1 + 1 + i) = fun _ => 0 := funext fun j => if_pos ⟨by omega, by omega⟩
    rw [zx_e_long (congrArg Prod.fst hk), hk, hf]
  · rw [vp_cell_l]
    exact (arrV_new _ _ _).symm
end
