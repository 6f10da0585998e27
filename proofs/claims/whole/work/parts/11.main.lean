theorem zx_aok_inv {n : Nat} {as : List Value} (h : zx_aok n as = true) : (zx_lay as).length ≤ n ∧ ∀ v ∈ as, v.category = 2 → ∃ x, v = .long x := by
  unfold zx_aok at h
  rw [Bool.and_eq_true] at h
  refine ⟨Nat.le_of_ble_eq_true h.1, fun v hv hc => ?_⟩
  have h2 := List.all_eq_true.mp h.2 v hv
  cases v <;> first | exact ⟨_, rfl⟩ | (simp [Value.category] at hc; done) | (simp [zx_nd] at h2; done)
theorem zx_ret_call {P : zx_P} {en : zx_En} {pc : Nat} {ls st : List Value} {H : zx_H} {z : Nat × List Value × List Value} (h : zx_step P en pc ls st H = some (.inr (.inr z))) : (en.1 ≠ .ireturn ∧ en.1 ≠ .lreturn ∧ en.1 ≠ .areturn ∧ en.1 ≠ .return_) ∧ True := by
  refine ⟨⟨?_, ?_, ?_, ?_⟩, trivial⟩
  all_goals
    intro e
    obtain ⟨ins, ea, eb, ek⟩ := en
    dsimp only at e
    subst e
    unfold zx_step at h
    dsimp only at h
    split at h
  · obtain ⟨-, h⟩ := zx_it h
    cases h
  all_goals cases h
theorem zx_lay_le {as : List Value} {n : Nat} (h : (zx_ent n as).length = n) : (zx_lay as).length ≤ n := by
  unfold zx_ent at h
  rw [List.length_append, List.length_replicate] at h
  omega
theorem zx_stk (f : Value → Value) (st : List Value) (n : Nat) : st.map f = ((st.take n).reverse.map f).reverse ++ (st.drop n).map f := by
  rw [List.map_reverse, List.reverse_reverse, ← List.map_append, List.take_append_drop]
theorem zx_pre {P : zx_P} {N : zx_N} {cl : List vw_C} {isr : Nat → Nat → Bool} {w : zx_W} {s : State} {Hp : Heap} {locs : List Loc} {H : zx_H} {as : List Value} (E : zx_Env P N w cl s) (hR : zx_Rel P isr w cl H Hp) (hS : va_S (zx_A w) s.heap Hp locs) : PreS s Hp (zx_Pc P N cl isr w as H) (as.map (zx_v w)) :=
  ⟨zx_blind P N cl isr w as H, fun U hU hW => ⟨rfl, E.to hW (by rw [hU]; exact hS.1) (fun q h1 h2 => by rw [hU]; exact hS.2.1 q h1 h2), by rw [hU]; exact hR⟩⟩
/-- the words of a table's calls, and the callee's own -/
theorem zx_callB {Ts : List Cond} {R : Room} {s : State} {args : Array Value} {own : String} {k n d mc ms : Nat} {q : zx_M} (ht : ∀ u ∈ Ts, u.before args s = true) (hg : ∀ u ∈ Ts, goodWord u = true) (hq : zx_gm Ts q n) (hl : Cond.methodLink own k q.1 ∈ Ts) (hR : d + 1 + 1 ≤ R.frames) (hR2 : 60 * (d + 1 + 1) ≤ R.locals) :
    CallB R s args own k q.1 q.2.1 q.2.2.1 q.2.2.2 (Cond.code q.1 q.2.1 q.2.2.1 q.2.2.2 :: Ts) (zx_rm d mc ms) mc ms n := by
  obtain ⟨h1, h2, h3, -, h5, h6, h7⟩ := hq
  exact callB_of n ht (zx_goodin hg h1) rfl rfl rfl (ht _ h2) (ht _ hl) ⟨h5, h6, h7⟩ ⟨hR, by show 8 + (q.2.2.1 + 11) + 60 * (d + 1) ≤ R.locals; omega⟩
theorem zx_callN {Ts : List Cond} {R : Room} {s : State} {args : Array Value} {own host : String} {k n d mc ms : Nat} {q : zx_M} (ht : ∀ u ∈ Ts, u.before args s = true) (hg : ∀ u ∈ Ts, goodWord u = true) (hq : zx_gm Ts q n) (hl : va_Nw (.methodLinkNest own k q.1 host) s) (hR : d + 1 + 1 ≤ R.frames) (hR2 : 60 * (d + 1 + 1) ≤ R.locals) :
    va_CN R s args own k q.1 host q.2.1 q.2.2.1 q.2.2.2 (Cond.code q.1 q.2.1 q.2.2.1 q.2.2.2 :: Ts) (zx_rm d mc ms) mc ms n := by
  obtain ⟨h1, h2, h3, -, h5, h6, h7⟩ := hq
  exact va_cnB n ht (zx_goodin hg h1) rfl rfl rfl hl (ht _ h2) ⟨h5, h6, h7⟩ ⟨hR, by show 8 + (q.2.2.1 + 11) + 60 * (d + 1) ≤ R.locals; omega⟩
theorem zx_virt {P : zx_P} {N : zx_N} {Ts : List Cond} {cl : List vw_C} {isr : Nat → Nat → Bool} {mt : Nat → zx_M} {code : Nat → Nat → Option zx_En} {w : zx_W} {l : Launch} {n : Nat} (ih : zx_Frame P N Ts cl isr mt code w l n) (hg : ∀ u ∈ Ts, goodWord u = true) (hvF : w.2.2.2.2.2.1 = .null ∨ ∃ t, w.2.2.2.2.2.1 = .ref t) (hcat : w.2.2.2.2.2.1.category = 1) (hPl : P.2.1.length ≤ 100000)
    {d1 m pc m' : Nat} {ls st as rest : List Value} {H H1 : zx_H} {v1 : Option Value} {k ea eb : Nat} {ek : Int}
    {p : Program} {e : Env} {R : Room} {s : State} {mid : MethodId} {args : Array Value} {below : List Frame} {meth : Method} {c : Code} {Hp : Heap} {locs : List Loc} {cells slots : Nat} {Q : State → Prop} {lsA : Array Slot}
    (K : zx_Ctx p s mid args meth c Ts (mt m).2.1 (mt m).2.2.1 (mt m).1.cls (mt m).1.name (mt m).2.2.2) (E : zx_Env P N w cl s) (hsz : lsA.size = (mt m).2.2.1) (hd1 : d1 + 1 + 1 ≤ R.frames) (hd2 : 60 * (d1 + 1 + 1) ≤ R.locals) (hR : zx_Rel P isr w cl H Hp) (hS : va_S (zx_A w) s.heap Hp locs)
    (hbc1 : cells + (H1.1.2.2.1 - H.1.2.2.1) ≤ R.cells) (hbs1 : slots + (H1.1.2.2.2 - H.1.2.2.2) ≤ R.slots) (G : zx_good P N Ts cl isr mt (mt m).2.1 (mt m).1.cls (mt m).1.name (mt m).2.2.2 pc (Instr.invokevirtual k, ea, eb, ek))
    (hst : zx_step P (Instr.invokevirtual k, ea, eb, ek) pc ls st H = some (.inr (.inr (m', as, rest)))) (hrun : zx_run P code (fun j => (mt j).2.2.1) n d1 m' 0 (zx_ent (mt m').2.2.1 as) [] H = some (v1, H1)) (ha1 : (zx_lay as).length ≤ (mt m').2.2.1) (ha2 : ∀ v ∈ as, v.category = 2 → ∃ x, v = .long x)
    (aft : ∀ (a : Array Value), va_Run p l e R s mid args below meth c Hp locs cells slots (H1.1.2.2.1 - H.1.2.2.1) (H1.1.2.2.2 - H.1.2.2.2) (F0 mid pc lsA (st.map (zx_v w))) (rest.map (zx_v w)) (zx_Qc P cl isr w v1 H1 a) (zx_A w) → W p l e R s mid args below meth c Hp locs cells slots Q (F0 mid pc lsA (st.map (zx_v w)))) :
    W p l e R s mid args below meth c Hp locs cells slots Q (F0 mid pc lsA (st.map (zx_v w))) := by
  have hst2 : zx_call P (Instr.invokevirtual k, ea, eb, ek) st H = some (.inr (.inr (m', as, rest))) := hst
  obtain ⟨c1, c2, c3, c4⟩ := zx_call_inv hst2
  dsimp only at c1 c2 c3
  cases c4
  dsimp only [zx_good] at G
  dsimp only at hrun ha1 ha2 aft
  have hcat8 : (((st.drop eb).map (zx_v w)).map fun v => v.category).sum ≤ 8 := by rw [zx_map_cat w hcat]; exact c3
  obtain ⟨hdg, nn, rfl, hgm, hgc, hin, hsel, hrcv⟩ := G
  have hM := zx_met ih hvF hrun hgm.2.2.2.1 ha2 ha1
  have hp0 := zx_pre (as := (st.take (nn + 1)).reverse) E hR hS
  have hrv : ∃ e1 r1, (st.take (nn + 1)).reverse = .ref e1 :: r1 ∧ ∃ cell : Cell, Hp[zx_r w e1]? = some cell ∧ cell.vm.isStatics = false ∧ s.vm.findClass (mt ea).1.cls = some cell.cls := by
    rcases hrcv with ⟨rfl, hcs⟩ | ⟨ci, T, n2, rfl, hci, hcl⟩
    · obtain ⟨i, r1, e2, hi⟩ := zx_rc_str c2
      refine ⟨_, r1, e2, ?_⟩
      rw [hcs, zx_r_str w (Nat.lt_of_lt_of_le hi hPl)]
      exact vk_recv E.2.1 hi hS
    · obtain ⟨e1, r1, e2, b1, b2⟩ := zx_rc_own hci c2
      refine ⟨_, r1, e2, ?_⟩
      rw [zx_r_own w b1]
      exact va_recv E.1 hR.1 hcl (show (zx_ws P isr w H)[e1]? = some (w.1 + e1, .inr (ci, zx_fs (P.1 ci) (isr ci) w H e1)) by rw [zx_ws_get (hR.lt (by omega)), zx_e_obj b2 (by omega)])
  obtain ⟨e1, r1, e2, hcell⟩ := hrv
  have hlen1 : r1.length = nn := by
    have h8 := congrArg List.length e2
    rw [List.length_reverse, List.length_take, List.length_cons] at h8
    omega
  rw [e2] at hM hp0
  have hstk := zx_stk (zx_v w) st (nn + 1)
  rw [e2, List.map_cons, List.reverse_cons, List.append_assoc, zx_v_ref] at hstk
  have hpV : PreV s Hp (mt ea).1.cls (zx_r w e1) (zx_Pc P N cl isr w (.ref e1 :: r1) H) (r1.map (zx_v w)) := ⟨hp0.1, hcell, hp0.2⟩
  have hstack : (F0 mid pc lsA (st.map (zx_v w))).stack = (r1.map (zx_v w)).reverse ++ .ref (zx_r w e1) :: (st.drop (nn + 1)).map (zx_v w) := hstk
  rcases hgc with hl | ⟨host, hl⟩
  · exact aft _ (va_runV K.1 hM ⟨zx_callB K.1.2.2.2.2 hg hgm hl hd1 hd2, K.1.2.2.2.2 _ hin, K.1.2.2.2.2 _ hsel⟩ hpV rfl (by rw [List.length_map]; exact hlen1) hsz hstack (lv_room hcat8) hdg ⟨hbc1, hbs1⟩)
  · exact aft _ (va_runVN K.1 hM ⟨zx_callN K.1.2.2.2.2 hg hgm (E.2.2.2.1 _ hl) hd1 hd2, K.1.2.2.2.2 _ hin, K.1.2.2.2.2 _ hsel⟩ hpV rfl (by rw [List.length_map]; exact hlen1) hsz hstack (lv_room hcat8) hdg ⟨hbc1, hbs1⟩)
theorem zx_spec {P : zx_P} {N : zx_N} {Ts : List Cond} {cl : List vw_C} {isr : Nat → Nat → Bool} {mt : Nat → zx_M} {code : Nat → Nat → Option zx_En} {w : zx_W} {l : Launch} {n : Nat} (ih : zx_Frame P N Ts cl isr mt code w l n) (hg : ∀ u ∈ Ts, goodWord u = true) (hvF : w.2.2.2.2.2.1 = .null ∨ ∃ t, w.2.2.2.2.2.1 = .ref t) (hcat : w.2.2.2.2.2.1.category = 1)
    {d1 m pc m' : Nat} {ls st as rest : List Value} {H H1 : zx_H} {v1 : Option Value} {k ea eb : Nat} {ek : Int}
    {p : Program} {e : Env} {R : Room} {s : State} {mid : MethodId} {args : Array Value} {below : List Frame} {meth : Method} {c : Code} {Hp : Heap} {locs : List Loc} {cells slots : Nat} {Q : State → Prop} {lsA : Array Slot}
    (K : zx_Ctx p s mid args meth c Ts (mt m).2.1 (mt m).2.2.1 (mt m).1.cls (mt m).1.name (mt m).2.2.2) (E : zx_Env P N w cl s) (hsz : lsA.size = (mt m).2.2.1) (hd1 : d1 + 1 + 1 ≤ R.frames) (hd2 : 60 * (d1 + 1 + 1) ≤ R.locals) (hR : zx_Rel P isr w cl H Hp) (hS : va_S (zx_A w) s.heap Hp locs)
    (hbc1 : cells + (H1.1.2.2.1 - H.1.2.2.1) ≤ R.cells) (hbs1 : slots + (H1.1.2.2.2 - H.1.2.2.2) ≤ R.slots) (G : zx_good P N Ts cl isr mt (mt m).2.1 (mt m).1.cls (mt m).1.name (mt m).2.2.2 pc (Instr.invokespecial k, ea, eb, ek))
    (hst : zx_step P (Instr.invokespecial k, ea, eb, ek) pc ls st H = some (.inr (.inr (m', as, rest)))) (hrun : zx_run P code (fun j => (mt j).2.2.1) n d1 m' 0 (zx_ent (mt m').2.2.1 as) [] H = some (v1, H1)) (ha1 : (zx_lay as).length ≤ (mt m').2.2.1) (ha2 : ∀ v ∈ as, v.category = 2 → ∃ x, v = .long x)
    (aft : ∀ (a : Array Value), va_Run p l e R s mid args below meth c Hp locs cells slots (H1.1.2.2.1 - H.1.2.2.1) (H1.1.2.2.2 - H.1.2.2.2) (F0 mid pc lsA (st.map (zx_v w))) (rest.map (zx_v w)) (zx_Qc P cl isr w v1 H1 a) (zx_A w) → W p l e R s mid args below meth c Hp locs cells slots Q (F0 mid pc lsA (st.map (zx_v w)))) :
    W p l e R s mid args below meth c Hp locs cells slots Q (F0 mid pc lsA (st.map (zx_v w))) := by
  obtain ⟨hk99, hst2⟩ := zx_spec_in hst
  obtain ⟨c1, c2, c3, c4⟩ := zx_call_inv hst2
  dsimp only at c1 c2 c3
  cases c4
  dsimp only [zx_good] at G
  dsimp only at hrun ha1 ha2 aft
  have hcat8 : (((st.drop eb).map (zx_v w)).map fun v => v.category).sum ≤ 8 := by rw [zx_map_cat w hcat]; exact c3
  rw [if_neg hk99] at G
  obtain ⟨hdg, nn, rfl, hgm, hgc, hin, hnm, hrn, rfl⟩ := G
  have hM := zx_met ih hvF hrun hgm.2.2.2.1 ha2 ha1
  have hp0 := zx_pre (as := (st.take (nn + 1)).reverse) E hR hS
  obtain ⟨e1, r1, e2⟩ := zx_rc_any c2
  have hlen1 : r1.length = nn := by
    have h8 := congrArg List.length e2
    rw [List.length_reverse, List.length_take, List.length_cons] at h8
    omega
  rw [e2] at hM hp0
  have hstk := zx_stk (zx_v w) st (nn + 1)
  rw [e2, List.map_cons, List.reverse_cons, List.append_assoc, zx_v_ref] at hstk
  have hstack : (F0 mid pc lsA (st.map (zx_v w))).stack = (r1.map (zx_v w)).reverse ++ .ref (zx_r w e1) :: (st.drop (nn + 1)).map (zx_v w) := hstk
  have hB := fun hl => zx_callB (R := R) (s := s) (args := args) (own := (mt m).1.cls) (k := k) (mc := H1.1.2.2.1 - H.1.2.2.1) (ms := H1.1.2.2.2 - H.1.2.2.2) K.1.2.2.2.2 hg hgm hl hd1 hd2
  have hBN := fun host hl => zx_callN (R := R) (s := s) (args := args) (own := (mt m).1.cls) (host := host) (k := k) (mc := H1.1.2.2.1 - H.1.2.2.1) (ms := H1.1.2.2.2 - H.1.2.2.2) K.1.2.2.2.2 hg hgm hl hd1 hd2
  rw [hrn] at hM hB hBN
  rcases hgc with hl | ⟨host, hl⟩
  · exact aft _ (va_runI K.1 hM ⟨hB hl, hnm, K.1.2.2.2.2 _ hin⟩ hp0 rfl (by rw [List.length_map]; exact hlen1) hsz hstack (lv_room hcat8) hdg ⟨hbc1, hbs1⟩)
  · exact aft _ (va_runIN K.1 hM ⟨hBN host (E.2.2.2.1 _ hl), hnm, K.1.2.2.2.2 _ hin⟩ hp0 rfl (by rw [List.length_map]; exact hlen1) hsz hstack (lv_room hcat8) hdg ⟨hbc1, hbs1⟩)
theorem zx_stat {P : zx_P} {N : zx_N} {Ts : List Cond} {cl : List vw_C} {isr : Nat → Nat → Bool} {mt : Nat → zx_M} {code : Nat → Nat → Option zx_En} {w : zx_W} {l : Launch} {n : Nat} (ih : zx_Frame P N Ts cl isr mt code w l n) (hg : ∀ u ∈ Ts, goodWord u = true) (hvF : w.2.2.2.2.2.1 = .null ∨ ∃ t, w.2.2.2.2.2.1 = .ref t) (hcat : w.2.2.2.2.2.1.category = 1)
    {d1 m pc m' : Nat} {ls st as rest : List Value} {H H1 : zx_H} {v1 : Option Value} {k ea eb : Nat} {ek : Int}
    {p : Program} {e : Env} {R : Room} {s : State} {mid : MethodId} {args : Array Value} {below : List Frame} {meth : Method} {c : Code} {Hp : Heap} {locs : List Loc} {cells slots : Nat} {Q : State → Prop} {lsA : Array Slot}
    (K : zx_Ctx p s mid args meth c Ts (mt m).2.1 (mt m).2.2.1 (mt m).1.cls (mt m).1.name (mt m).2.2.2) (E : zx_Env P N w cl s) (hsz : lsA.size = (mt m).2.2.1) (hd1 : d1 + 1 + 1 ≤ R.frames) (hd2 : 60 * (d1 + 1 + 1) ≤ R.locals) (hR : zx_Rel P isr w cl H Hp) (hS : va_S (zx_A w) s.heap Hp locs)
    (hbc1 : cells + (H1.1.2.2.1 - H.1.2.2.1) ≤ R.cells) (hbs1 : slots + (H1.1.2.2.2 - H.1.2.2.2) ≤ R.slots) (G : zx_good P N Ts cl isr mt (mt m).2.1 (mt m).1.cls (mt m).1.name (mt m).2.2.2 pc (Instr.invokestatic k, ea, eb, ek))
    (hst : zx_step P (Instr.invokestatic k, ea, eb, ek) pc ls st H = some (.inr (.inr (m', as, rest)))) (hrun : zx_run P code (fun j => (mt j).2.2.1) n d1 m' 0 (zx_ent (mt m').2.2.1 as) [] H = some (v1, H1)) (ha1 : (zx_lay as).length ≤ (mt m').2.2.1) (ha2 : ∀ v ∈ as, v.category = 2 → ∃ x, v = .long x)
    (aft : ∀ (a : Array Value), va_Run p l e R s mid args below meth c Hp locs cells slots (H1.1.2.2.1 - H.1.2.2.1) (H1.1.2.2.2 - H.1.2.2.2) (F0 mid pc lsA (st.map (zx_v w))) (rest.map (zx_v w)) (zx_Qc P cl isr w v1 H1 a) (zx_A w) → W p l e R s mid args below meth c Hp locs cells slots Q (F0 mid pc lsA (st.map (zx_v w)))) :
    W p l e R s mid args below meth c Hp locs cells slots Q (F0 mid pc lsA (st.map (zx_v w))) := by
  obtain ⟨⟨hk97, hk98⟩, hst2⟩ := zx_stat_in hst
  obtain ⟨c1, c2, c3, c4⟩ := zx_call_inv hst2
  dsimp only at c1 c2 c3
  cases c4
  dsimp only [zx_good] at G
  dsimp only at hrun ha1 ha2 aft
  have hcat8 : (((st.drop eb).map (zx_v w)).map fun v => v.category).sum ≤ 8 := by rw [zx_map_cat w hcat]; exact c3
  rw [if_neg hk97, if_neg hk98] at G
  obtain ⟨hdg, hgm, hgc, hst3⟩ := G
  have hM := zx_met ih hvF hrun hgm.2.2.2.1 ha2 ha1
  have hp0 := zx_pre (as := (st.take eb).reverse) E hR hS
  have hlen1 : ((st.take eb).reverse.map (zx_v w)).length = eb := by
    rw [List.length_map, List.length_reverse, List.length_take]
    omega
  rcases hgc with hl | ⟨host, hl⟩
  · exact aft _ (va_runS K.1 hM ⟨zx_callB K.1.2.2.2.2 hg hgm hl hd1 hd2, K.1.2.2.2.2 _ hst3⟩ hp0 rfl hlen1 hsz (zx_stk (zx_v w) st eb) (lv_room hcat8) hdg ⟨hbc1, hbs1⟩)
  · exact aft _ (va_runSN K.1 hM ⟨zx_callN K.1.2.2.2.2 hg hgm (E.2.2.2.1 _ hl) hd1 hd2, K.1.2.2.2.2 _ hst3, trivial⟩ hp0 rfl hlen1 hsz (zx_stk (zx_v w) st eb) (lv_room hcat8) hdg ⟨hbc1, hbs1⟩)
set_option maxHeartbeats 4000000 in
theorem zx_main {P : zx_P} {N : zx_N} {Ts : List Cond} {cl : List vw_C} {isr : Nat → Nat → Bool} {mt : Nat → zx_M} {code : Nat → Nat → Option zx_En} {w : zx_W} {l : Launch} (hG : ∀ m pc en, code m pc = some en → zx_good P N Ts cl isr mt (mt m).2.1 (mt m).1.cls (mt m).1.name (mt m).2.2.2 pc en)
    (hC : zx_Cls P Ts cl isr) (hg : ∀ u ∈ Ts, goodWord u = true) (hvF : w.2.2.2.2.2.1 = .null ∨ ∃ t, w.2.2.2.2.2.1 = .ref t) (hPl : P.2.1.length ≤ 100000) : ∀ n, zx_Frame P N Ts cl isr mt code w l n
  | 0 => fun d m pc ls st H H' v h => by
    unfold zx_run at h
    cases h
  | n + 1 => by
    have ih := zx_main (l := l) hG hC hg hvF hPl n
    have hcat : w.2.2.2.2.2.1.category = 1 := by rcases hvF with q | ⟨t, q⟩ <;> rw [q] <;> rfl
    intro d m pc ls st H H' v h p e R s mid args below meth c Hp locs cells slots Q lsA z0 y0 K E hlen hd1 hd2 hR hS hL hc hs hbc hbs kk
    unfold zx_run at h
    split at h
    · cases h
    · rename_i en hen
      have G := hG _ _ _ hen
      split at h
      · cases h
      · rename_i pc' ls' st' H1 hst
        obtain ⟨m1, m2, m3⟩ := zx_next_mo hst
        obtain ⟨g1, g2⟩ := zx_run_mono P code _ n _ _ _ _ _ _ _ _ h
        exact zx_next G K E hC hvF hPl (by omega) (by omega) hlen hst hR hS hL hc hs (Nat.le_trans g1 hbc) (Nat.le_trans g2 hbs) fun lsB Hq locs2 cells2 slots2 hL2 hR2 hS2 hc2 hs2 => ih d m pc' ls' st' H1 H' v h p e R s mid args below meth c Hq locs2 cells2 slots2 Q lsB z0 y0 K E (m1.trans hlen) hd1 hd2 hR2 hS2 hL2 hc2 hs2 hbc hbs kk
      · rename_i v0 hst
        cases h
        exact kk pc lsA _ Hp locs cells slots (zx_ret_of w G hst) hR hS hc hs
      · rename_i m' as rest hst
        split at h
        · cases h
        · rename_i d1
          split at h
          · rename_i hao
            split at h
            · cases h
            · rename_i v1 H1 hrun
              obtain ⟨ha1, ha2⟩ := zx_aok_inv hao
              obtain ⟨g1, g2⟩ := zx_run_mono P code _ n _ _ _ _ _ _ _ _ hrun
              obtain ⟨g3, g4⟩ := zx_run_mono P code _ n _ _ _ _ _ _ _ _ h
              have hho := zx_step_out hst
              have hbc1 : cells + (H1.1.2.2.1 - H.1.2.2.1) ≤ R.cells := by omega
              have hbs1 : slots + (H1.1.2.2.2 - H.1.2.2.2) ≤ R.slots := by omega
              have hsz : lsA.size = (mt m).2.2.1 := hL.1.trans hlen
              have aft : ∀ (a : Array Value), va_Run p l e R s mid args below meth c Hp locs cells slots (H1.1.2.2.1 - H.1.2.2.1) (H1.1.2.2.2 - H.1.2.2.2) (F0 mid pc lsA (st.map (zx_v w))) (rest.map (zx_v w)) (zx_Qc P cl isr w v1 H1 a) (zx_A w) → W p l e R s mid args below meth c Hp locs cells slots Q (F0 mid pc lsA (st.map (zx_v w))) := fun a hr => zx_after hr hS fun Hq locs2 hR2 hS2 => by
                rw [← zx_map_app]
                exact ih (d1 + 1) m (pc + 3) ls _ H1 H' v h p e R s mid args below meth c Hq locs2 _ _ Q lsA z0 y0 K E hlen hd1 hd2 hR2 hS2 hL (by omega) (by omega) hbc hbs kk
              obtain ⟨ins, ea, eb, ek⟩ := en
              dsimp only at hho
              unfold zx_out at hho
              split at hho
              · obtain ⟨q, -⟩ := zx_ret_call hst
                exact absurd rfl q.1
              · obtain ⟨q, -⟩ := zx_ret_call hst
                exact absurd rfl q.2.1
              · obtain ⟨q, -⟩ := zx_ret_call hst
                exact absurd rfl q.2.2.1
              · obtain ⟨q, -⟩ := zx_ret_call hst
                exact absurd rfl q.2.2.2
              · rename_i k
                exact zx_virt ih hg hvF hcat hPl K E hsz hd1 hd2 hR hS hbc1 hbs1 G hst hrun ha1 ha2 aft
              · rename_i k
                exact zx_spec ih hg hvF hcat K E hsz hd1 hd2 hR hS hbc1 hbs1 G hst hrun ha1 ha2 aft
              · rename_i k
                exact zx_stat ih hg hvF hcat K E hsz hd1 hd2 hR hS hbc1 hbs1 G hst hrun ha1 ha2 aft
              · cases hho
          · cases h
