/-! WHAT THE SMALL MACHINE ENDS WITH, THE BIG ONE ENDS WITH -/
def zx_Ret (cc : ByteArray) (rt : Option FieldType) (pc : Nat) (st : List Value) (v : Option Value) : Prop :=
  (∃ (x : Int32) (ty : FieldType), decode cc pc = .ok (.ireturn, 1) ∧ rt = some ty ∧ narrow ty (.int x) = .int x ∧ st = [.int x] ∧ v = some (.int x)) ∨
  (∃ x : Int64, decode cc pc = .ok (.lreturn, 1) ∧ rt = some .long ∧ st = [.long x] ∧ v = some (.long x)) ∨
  (decode cc pc = .ok (.return_, 1) ∧ rt = none ∧ st = [] ∧ v = none) ∨
  (∃ (a : Nat) (C : String), decode cc pc = .ok (.areturn, 1) ∧ rt = some (.object C) ∧ st = [.ref a] ∧ v = some (.ref a))
theorem zx_rb_ty {a : Nat} {x : Int32} (h : zx_rb a x = true) : narrow (zx_ty a) (.int x) = .int x := by
  match a, h with
  | 0, _ => rfl
  | 1, h =>
    simp only [zx_rb, Bool.or_eq_true, beq_iff_eq] at h
    rcases h with rfl | rfl <;> rfl
  | 2, h => exact of_decide_eq_true h
  | a + 3, h => exact of_decide_eq_true h
theorem zx_ret_of {P : zx_P} {N : zx_N} {Ts : List Cond} {cl : List vw_C} {isr : Nat → Nat → Bool} {mt : Nat → zx_M} (w : zx_W) {cc : ByteArray} {own nm : String} {rt : Option FieldType} {pc : Nat} {en : zx_En} {ls st : List Value} {H : zx_H} {v : Option Value}
    (G : zx_good P N Ts cl isr mt cc own nm rt pc en) (h : zx_step P en pc ls st H = some (.inr (.inl v))) : zx_Ret cc rt pc (st.map (zx_v w)) (v.map (zx_v w)) := by
  have ho := zx_step_out h
  obtain ⟨ins, ea, eb, ek⟩ := en
  dsimp only at ho
  unfold zx_out at ho
  split at ho
  · unfold zx_step at h
    dsimp only at h
    split at h
    · rename_i x
      obtain ⟨h1, h2⟩ := zx_it h
      cases h2
      exact Or.inl ⟨x, _, G.1, G.2, zx_rb_ty h1, rfl, rfl⟩
    · cases h
  · unfold zx_step at h
    dsimp only at h
    split at h
    · rename_i x
      cases h
      exact Or.inr (Or.inl ⟨x, G.1, G.2, rfl, rfl⟩)
    · cases h
  · unfold zx_step at h
    dsimp only at h
    split at h
    · rename_i x
      cases h
      obtain ⟨C, hC⟩ := G.2
      exact Or.inr (Or.inr (Or.inr ⟨zx_r w x, C, G.1, hC, rfl, rfl⟩))
    · cases h
  · unfold zx_step at h
    dsimp only at h
    split at h
    · cases h
      exact Or.inr (Or.inr (Or.inl ⟨G.1, G.2, rfl, rfl⟩))
    · cases h
  · have h2 := (zx_call_inv h).2.2.2
    cases h2
  · have h2 := (zx_call_inv (zx_spec_in h).2).2.2.2
    cases h2
  · have h2 := (zx_call_inv (zx_stat_in h).2).2.2.2
    cases h2
  · cases ho
def zx_rm (d mc ms : Nat) : Room := { frames := d + 1, cells := mc, slots := ms, locals := 60 * (d + 1) }
/-- n steps of a frame -/
def zx_Frame (P : zx_P) (N : zx_N) (Ts : List Cond) (cl : List vw_C) (isr : Nat → Nat → Bool) (mt : Nat → zx_M) (code : Nat → Nat → Option zx_En) (w : zx_W) (l : Launch) (n : Nat) : Prop :=
  ∀ (d m pc : Nat) (ls st : List Value) (H H' : zx_H) (v : Option Value), zx_run P code (fun j => (mt j).2.2.1) n d m pc ls st H = some (v, H') →
  ∀ (p : Program) (e : Env) (R : Room) (s : State) (mid : MethodId) (args : Array Value) (below : List Frame) (meth : Method) (c : Code) (Hp : Heap) (locs : List Loc) (cells slots : Nat) (Q : State → Prop) (lsA : Array Slot) (z0 y0 : Nat),
  zx_Ctx p s mid args meth c Ts (mt m).2.1 (mt m).2.2.1 (mt m).1.cls (mt m).1.name (mt m).2.2.2 → zx_Env P N w cl s → ls.length = (mt m).2.2.1 → d + 1 ≤ R.frames → 60 * (d + 1) ≤ R.locals →
  zx_Rel P isr w cl H Hp → va_S (zx_A w) s.heap Hp locs → zx_LR w ls lsA → H.1.2.2.1 = z0 + cells → H.1.2.2.2 = y0 + slots → H'.1.2.2.1 ≤ z0 + R.cells → H'.1.2.2.2 ≤ y0 + R.slots →
  (∀ (pcR : Nat) (lsB : Array Slot) (stB : List Value) (Hq : Heap) (locs2 : List Loc) (cells2 slots2 : Nat), zx_Ret (mt m).2.1 (mt m).2.2.2 pcR stB (v.map (zx_v w)) → zx_Rel P isr w cl H' Hq → va_S (zx_A w) s.heap Hq locs2 → H'.1.2.2.1 = z0 + cells2 → H'.1.2.2.2 = y0 + slots2 →
    W p l e R s mid args below meth c Hq locs2 cells2 slots2 Q (F0 mid pcR lsB stB)) →
  W p l e R s mid args below meth c Hp locs cells slots Q (F0 mid pc lsA (st.map (zx_v w)))
/-- a callee's start and end -/
def zx_Pc (P : zx_P) (N : zx_N) (cl : List vw_C) (isr : Nat → Nat → Bool) (w : zx_W) (as : List Value) (H : zx_H) : Array Value → State → Prop := va_Pc (as.map (zx_v w)) (fun U => zx_Env P N w cl U ∧ zx_Rel P isr w cl H U.heap)
def zx_Qc (P : zx_P) (cl : List vw_C) (isr : Nat → Nat → Bool) (w : zx_W) (v : Option Value) (H' : zx_H) : Array Value → State → Outcome → State → Prop := fun _ st oc t => oc = .returned (v.map (zx_v w)) ∧ zx_Rel P isr w cl H' t.heap ∧ va_F (zx_A w) st t
theorem zx_blind (P : zx_P) (N : zx_N) (cl : List vw_C) (isr : Nat → Nat → Bool) (w : zx_W) (as : List Value) (H : zx_H) : FrameBlind (zx_Pc P N cl isr w as H) := fun a U g mk h => ⟨h.1, h.2.1.call g mk a, h.2.2⟩
theorem zx_met {P : zx_P} {N : zx_N} {Ts : List Cond} {cl : List vw_C} {isr : Nat → Nat → Bool} {mt : Nat → zx_M} {code : Nat → Nat → Option zx_En} {w : zx_W} {l : Launch} {n : Nat} (ih : zx_Frame P N Ts cl isr mt code w l n) (hvF : w.2.2.2.2.2.1 = .null ∨ ∃ t, w.2.2.2.2.2.1 = .ref t)
    {d m : Nat} {as : List Value} {H H' : zx_H} {v : Option Value} (hrun : zx_run P code (fun j => (mt j).2.2.1) n d m 0 (zx_ent (mt m).2.2.1 as) [] H = some (v, H')) (hpl : plainName (mt m).1.cls = true) (has : ∀ v ∈ as, v.category = 2 → ∃ x, v = .long x) (hlay : (zx_lay as).length ≤ (mt m).2.2.1) :
    Met l (mt m).1 (Cond.code (mt m).1 (mt m).2.1 (mt m).2.2.1 (mt m).2.2.2 :: Ts) (zx_rm d (H'.1.2.2.1 - H.1.2.2.1) (H'.1.2.2.2 - H.1.2.2.2)) (zx_Pc P N cl isr w as H) (zx_Qc P cl isr w v H') (H'.1.2.2.1 - H.1.2.2.1) (H'.1.2.2.2 - H.1.2.2.2) (zx_A w) := by
  have hcat : w.2.2.2.2.2.1.category = 1 := by rcases hvF with q | ⟨t, q⟩ <;> rw [q] <;> rfl
  obtain ⟨g1, g2⟩ := zx_run_mono P code _ n d m 0 _ _ _ _ _ hrun
  refine Met.ofW (cc := (mt m).2.1) (maxL := (mt m).2.2.1) (ret := (mt m).2.2.2) hpl rfl ?_
  intro p e s mid args below meth c s₁ B hml hv
  obtain ⟨rfl, hE, hR⟩ := hv
  have hts := atoms_spec (ws := Cond.code (mt m).1 (mt m).2.1 (mt m).2.2.1 (mt m).2.2.2 :: Ts) B.pre
  have hx := B.exec
  have hb := B.bytes
  have hrt := B.returns
  have hlocks := B.notSynchronized
  rw [lg_entry_eq]
  refine ih d m 0 _ _ H H' v hrun p e _ s mid _ below meth c s.heap [] 0 0 _ _ H.1.2.2.1 H.1.2.2.2 ⟨⟨hx, hb, hml, findClass_of_methodNamed B.named, fun w h => hts w (List.mem_cons_of_mem _ h)⟩, hrt, hlocks, (name_of_methodNamed B.named B.method).1⟩ hE ?_ (Nat.le_refl _) (Nat.le_refl _) hR va_S.rf (zx_LR.entry hcat has hlay) rfl rfl ?_ ?_ ?_
  · unfold zx_ent
    rw [List.length_append, List.length_replicate]
    omega
  · show _ ≤ _ + (H'.1.2.2.1 - H.1.2.2.1)
    omega
  · show _ ≤ _ + (H'.1.2.2.2 - H.1.2.2.2)
    omega
  · intro pcR lsB stB Hq locs2 cells2 slots2 hret hrel hS hcc hss
    obtain rfl : cells2 = H'.1.2.2.1 - H.1.2.2.1 := by omega
    obtain rfl : slots2 = H'.1.2.2.2 - H.1.2.2.2 := by omega
    have fin : ∀ t : State, t.heap = Hq → s.WarmedH t.vm → zx_Qc P cl isr w v H' (as.map (zx_v w)).toArray s (.returned (v.map (zx_v w))) t := fun t ht hW => ⟨rfl, by rw [ht]; exact hrel, hS.F ht⟩
    rcases hret with ⟨x, ty, h1, h2, h3, rfl, h5⟩ | ⟨x, h1, h2, rfl, h5⟩ | ⟨h1, h2, rfl, h5⟩ | ⟨a, C, h1, h2, rfl, h5⟩
    · rw [h5] at fin
      exact W.zret hx hb (hrt.trans h2) h3 fin hS.2.2 h1
    · rw [h5] at fin
      exact W.lret hx hb (hrt.trans h2) fin hS.2.2 h1
    · rw [h5] at fin
      exact W.vret hx hb (hrt.trans h2) fin hS.2.2 h1
    · rw [h5] at fin
      exact W.aret hx hb (hrt.trans h2) (Or.inl ⟨C, rfl⟩) (Or.inr ⟨a, rfl⟩) fin hS.2.2 h1
theorem zx_map_app (f : Value → Value) (v : Option Value) (r : List Value) : (v.toList ++ r).map f = (v.map f).toList ++ r.map f := by
  cases v <;> simp
/-- a call, its end, and what goes on behind it -/
theorem zx_after {P : zx_P} {cl : List vw_C} {isr : Nat → Nat → Bool} {w : zx_W} {H' : zx_H} {v : Option Value} {p : Program} {l : Launch} {e : Env} {R : Room} {s : State} {m : MethodId} {args : Array Value} {below : List Frame} {meth : Method} {c : Code} {Hp : Heap} {locs : List Loc} {cells slots mc ms pc : Nat} {Q : State → Prop} {lsA : Array Slot} {st0 rest : List Value} {a : Array Value}
    (hr : va_Run p l e R s m args below meth c Hp locs cells slots mc ms (F0 m pc lsA st0) rest (zx_Qc P cl isr w v H' a) (zx_A w)) (hS : va_S (zx_A w) s.heap Hp locs)
    (kk : ∀ (Hq : Heap) (locs2 : List Loc), zx_Rel P isr w cl H' Hq → va_S (zx_A w) s.heap Hq locs2 → W p l e R s m args below meth c Hq locs2 (cells + mc) (slots + ms) Q (F0 m (pc + 3) lsA ((v.map (zx_v w)).toList ++ rest))) : W p l e R s m args below meth c Hp locs cells slots Q (F0 m pc lsA st0) := by
  intro T hT X
  obtain ⟨v', st₀, t, T', L, h0, X', hL, e1, -, ⟨hv, hrel, hz, hk⟩, st⟩ := hr T hT X
  obtain rfl : v' = v.map (zx_v w) := Outcome.returned.inj hv
  rw [h0] at hz hk
  obtain ⟨t2, a1, b1⟩ := kk T'.heap (locs ++ L) (by rw [e1]; exact hrel) ⟨Nat.le_trans hS.1 (by rw [e1]; exact hz), fun q h1 h2 => by rw [e1, hk q (Nat.lt_of_lt_of_le h1 hS.1) h2]; exact hS.2.1 q h1 h2, fun q hq => by
      rcases List.mem_append.mp hq with h | h
      · exact hS.2.2 q h
      · exact hL q h⟩ T' rfl X'
  exact ⟨t2, st t2 a1, b1⟩
theorem zx_goodin {Ts : List Cond} {y : MethodName} {b : ByteArray} {n : Nat} {r : Option FieldType} (hg : ∀ u ∈ Ts, goodWord u = true) (hc : Cond.code y b n r ∈ Ts) : GoodIn Ts (Cond.code y b n r :: Ts) := by
  intro u hu
  rcases List.mem_cons.mp hu with rfl | h
  · exact ⟨hc, good_of_word (hg _ hc)⟩
  · exact ⟨h, good_of_word (hg _ h)⟩
theorem zx_rc_own {P : zx_P} {H : zx_H} {ci : Nat} {as : List Value} (hci : ci < 6) (h : zx_rc P H (ci : Int) as = true) : ∃ e r, as = .ref e :: r ∧ e < 900000 ∧ (H.1.1 e).1 = ci := by
  unfold zx_rc at h
  rw [if_neg (by omega)] at h
  split at h
  · rename_i e r
    rw [if_neg (by omega), if_neg (by omega)] at h
    simp only [Bool.and_eq_true, decide_eq_true_eq] at h
    exact ⟨e, r, rfl, h.1, by omega⟩
  · cases h
theorem zx_rc_str {P : zx_P} {H : zx_H} {as : List Value} (h : zx_rc P H 6 as = true) : ∃ i r, as = .ref (2000000 + i) :: r ∧ i < P.2.1.length := by
  unfold zx_rc at h
  rw [if_neg (by omega)] at h
  split at h
  · rename_i e r
    rw [if_neg (by omega), if_pos rfl] at h
    simp only [decide_eq_true_eq] at h
    obtain ⟨h1, h2⟩ := h
    obtain ⟨i, rfl⟩ := Nat.exists_eq_add_of_le h1
    exact ⟨i, r, rfl, Nat.lt_of_add_lt_add_left h2⟩
  · cases h
theorem zx_rc_any {P : zx_P} {H : zx_H} {as : List Value} (h : zx_rc P H 100 as = true) : ∃ e r, as = .ref e :: r := by
  unfold zx_rc at h
  rw [if_neg (by omega)] at h
  split at h
  · rename_i e r
    exact ⟨e, r, rfl⟩
  · cases h
