/-! WHAT A STEP OF THE SMALL MACHINE IS, A STEP OF THE BIG ONE IS -/
set_option maxHeartbeats 8000000 in
set_option maxRecDepth 20000 in
theorem zx_next {P : zx_P} {N : zx_N} {Ts : List Cond} {cl : List vw_C} {isr : Nat → Nat → Bool} {mt : Nat → zx_M} {w : zx_W} {cc : ByteArray} {nL : Nat} {own nm : String} {rt : Option FieldType} {pc pc' : Nat} {en : zx_En} {ls ls' st st' : List Value} {H H' : zx_H}
    {p : Program} {l : Launch} {e : Env} {R : Room} {s : State} {m : MethodId} {args : Array Value} {below : List Frame} {meth : Method} {c : Code} {Hp : Heap} {locs : List Loc} {cells slots : Nat} {Q : State → Prop} {lsA : Array Slot} {z0 y0 : Nat}
    (G : zx_good P N Ts cl isr mt cc own nm rt pc en) (K : zx_Ctx p s m args meth c Ts cc nL own nm rt) (E : zx_Env P N w cl s) (hC : zx_Cls P Ts cl isr) (hvF : w.2.2.2.2.2.1 = .null ∨ ∃ t, w.2.2.2.2.2.1 = .ref t) (hPl : P.2.1.length ≤ 100000) (hfr : 1 ≤ R.frames) (hlo : 30 ≤ R.locals) (hlen : ls.length = nL)
    (h : zx_step P en pc ls st H = some (.inl (pc', ls', st', H'))) (hR : zx_Rel P isr w cl H Hp) (hS : va_S (zx_A w) s.heap Hp locs) (hL : zx_LR w ls lsA) (hc : H.1.2.2.1 = z0 + cells) (hs : H.1.2.2.2 = y0 + slots) (hbc : H'.1.2.2.1 ≤ z0 + R.cells) (hbs : H'.1.2.2.2 ≤ y0 + R.slots)
    (kk : ∀ (lsB : Array Slot) (Hq : Heap) (locs2 : List Loc) (cells2 slots2 : Nat), zx_LR w ls' lsB → zx_Rel P isr w cl H' Hq → va_S (zx_A w) s.heap Hq locs2 → H'.1.2.2.1 = z0 + cells2 → H'.1.2.2.2 = y0 + slots2 → W p l e R s m args below meth c Hq locs2 cells2 slots2 Q (F0 m pc' lsB (st'.map (zx_v w)))) :
    W p l e R s m args below meth c Hp locs cells slots Q (F0 m pc lsA (st.map (zx_v w))) := by
  obtain ⟨⟨hx, hb, hml, hown, hts⟩, hrt, hlk, hnm⟩ := K
  obtain ⟨hK, hV, hTx, hNw, hZ1, hZ2, hX, hbz, hO1, hO2⟩ := E
  have hcat : w.2.2.2.2.2.1.category = 1 := by rcases hvF with q | ⟨t, q⟩ <;> rw [q] <;> rfl
  obtain ⟨ins, ea, eb, ek⟩ := en
  unfold zx_step at h
  dsimp only at h
  split at h
  · obtain ⟨x, hxl, hNEW⟩ := zx_li_inv h
    clear h
    have h := hNEW
    clear hNEW
    obtain ⟨rfl, rfl, rfl, rfl⟩ := zx_n_inv h
    exact lv_iload hx hb G (hL.2.2.1 _ _ hxl) (kk _ _ _ _ _ hL hR hS hc hs)
  · obtain ⟨x, hxl, hNEW⟩ := zx_li_inv h
    clear h
    have h := hNEW
    clear hNEW
    obtain ⟨rfl, rfl, rfl, rfl⟩ := zx_n_inv h
    exact lv_iload_n hx hb G rfl (hL.2.2.1 _ _ hxl) (kk _ _ _ _ _ hL hR hS hc hs)
  · obtain ⟨x, hxl, hm, hNEW⟩ := zx_ll_inv h
    clear h
    have h := hNEW
    clear hNEW
    obtain ⟨rfl, rfl, rfl, rfl⟩ := zx_n_inv h
    exact lv_lload hx hb G (hL.2.2.2.2 _ _ hxl hm) (kk _ _ _ _ _ hL hR hS hc hs)
  · obtain ⟨x, hxl, hm, hNEW⟩ := zx_ll_inv h
    clear h
    have h := hNEW
    clear hNEW
    obtain ⟨rfl, rfl, rfl, rfl⟩ := zx_n_inv h
    exact lv_lload_n hx hb G rfl (hL.2.2.2.2 _ _ hxl hm) (kk _ _ _ _ _ hL hR hS hc hs)
  · obtain ⟨x, hxl, hNEW⟩ := zx_lr_inv h
    clear h
    have h := hNEW
    clear hNEW
    obtain ⟨rfl, rfl, rfl, rfl⟩ := zx_n_inv h
    exact lv_aload hx hb G (hL.2.2.2.1 _ _ hxl) (kk _ _ _ _ _ hL hR hS hc hs)
  · obtain ⟨x, hxl, hNEW⟩ := zx_lr_inv h
    clear h
    have h := hNEW
    clear hNEW
    obtain ⟨rfl, rfl, rfl, rfl⟩ := zx_n_inv h
    exact lv_aload_n hx hb G rfl (hL.2.2.2.1 _ _ hxl) (kk _ _ _ _ _ hL hR hS hc hs)
  · obtain ⟨x, r, rfl, hNEW⟩ := zx_pi_inv h
    clear h
    have h := hNEW
    clear hNEW
    obtain ⟨hi, hNEW⟩ := zx_it h
    clear h
    have h := hNEW
    clear hNEW
    obtain ⟨rfl, rfl, rfl, rfl⟩ := zx_n_inv h
    exact lv_istore hx hb G hL.has hi rfl (fun lsB hl => kk _ _ _ _ _ (zx_LR.seti hl) hR hS hc hs)
  · obtain ⟨x, r, rfl, hNEW⟩ := zx_pi_inv h
    clear h
    have h := hNEW
    clear hNEW
    obtain ⟨hi, hNEW⟩ := zx_it h
    clear h
    have h := hNEW
    clear hNEW
    obtain ⟨rfl, rfl, rfl, rfl⟩ := zx_n_inv h
    exact lv_istore_n hx hb G rfl hL.has hi rfl (fun lsB hl => kk _ _ _ _ _ (zx_LR.seti hl) hR hS hc hs)
  · obtain ⟨x, r, rfl, hNEW⟩ := zx_pl_inv h
    clear h
    have h := hNEW
    clear hNEW
    obtain ⟨hi, hNEW⟩ := zx_it h
    clear h
    have h := hNEW
    clear hNEW
    obtain ⟨rfl, rfl, rfl, rfl⟩ := zx_n_inv h
    exact lv_lstore hx hb G hL.has hi rfl (fun lsB hl => kk _ _ _ _ _ (zx_LR.setl hl) hR hS hc hs)
  · obtain ⟨x, r, rfl, hNEW⟩ := zx_pl_inv h
    clear h
    have h := hNEW
    clear hNEW
    obtain ⟨hi, hNEW⟩ := zx_it h
    clear h
    have h := hNEW
    clear hNEW
    obtain ⟨rfl, rfl, rfl, rfl⟩ := zx_n_inv h
    exact lv_lstore_n hx hb G rfl hL.has hi rfl (fun lsB hl => kk _ _ _ _ _ (zx_LR.setl hl) hR hS hc hs)
  · obtain ⟨x, r, rfl, hNEW⟩ := zx_pr_inv h
    clear h
    have h := hNEW
    clear hNEW
    obtain ⟨hi, hNEW⟩ := zx_it h
    clear h
    have h := hNEW
    clear hNEW
    obtain ⟨rfl, rfl, rfl, rfl⟩ := zx_n_inv h
    exact lv_astore hx hb G hL.has hi rfl (fun lsB hl => kk _ _ _ _ _ (zx_LR.setr hl) hR hS hc hs)
  · obtain ⟨x, r, rfl, hNEW⟩ := zx_pr_inv h
    clear h
    have h := hNEW
    clear hNEW
    obtain ⟨hi, hNEW⟩ := zx_it h
    clear h
    have h := hNEW
    clear hNEW
    obtain ⟨rfl, rfl, rfl, rfl⟩ := zx_n_inv h
    exact lv_astore_n hx hb G rfl hL.has hi rfl (fun lsB hl => kk _ _ _ _ _ (zx_LR.setr hl) hR hS hc hs)
  · obtain ⟨x, hxl, hNEW⟩ := zx_li_inv h
    clear h
    have h := hNEW
    clear hNEW
    obtain ⟨hi, hNEW⟩ := zx_it h
    clear h
    have h := hNEW
    clear hNEW
    obtain ⟨rfl, rfl, rfl, rfl⟩ := zx_n_inv h
    obtain ⟨kq, hk⟩ := List.getElem?_of_mem (zx_lv_i (w := w) hxl)
    exact lv_iinc hx hb G hL.has hk rfl hi rfl (fun lsB hl => kk _ _ _ _ _ (zx_LR.seti hl) hR hS hc hs)
  · obtain ⟨rfl, rfl, rfl, rfl⟩ := zx_n_inv h
    exact lv_iconst hx hb G rfl (kk _ _ _ _ _ hL hR hS hc hs)
  · obtain ⟨rfl, rfl, rfl, rfl⟩ := zx_n_inv h
    exact lv_bipush hx hb G rfl (kk _ _ _ _ _ hL hR hS hc hs)
  · obtain ⟨rfl, rfl, rfl, rfl⟩ := zx_n_inv h
    exact lv_sipush hx hb G rfl (kk _ _ _ _ _ hL hR hS hc hs)
  · obtain ⟨rfl, rfl, rfl, rfl⟩ := zx_n_inv h
    exact lv_lconst hx hb G rfl (kk _ _ _ _ _ hL hR hS hc hs)
  · dsimp only [zx_good] at G
    obtain ⟨hd, G⟩ := G
    split at h
    · rename_i he
      rw [if_pos he] at G
      obtain ⟨rfl, rfl, rfl, rfl⟩ := zx_n_inv h
      exact lv_ldc hx hb hown (hts _ G) hd (kk _ _ _ _ _ hL hR hS hc hs)
    · rename_i he
      rw [if_neg he] at G
      obtain ⟨tx, ht⟩ := G
      obtain ⟨q1, q2⟩ := hTx _ ht
      obtain ⟨rfl, rfl, rfl, rfl⟩ := zx_n_inv h
      refine va_ldcS hx hb hown q2 hd ?_
      have k2 := kk _ _ _ _ _ hL hR hS hc hs
      rw [List.map_cons, zx_v_ref, zx_r_str w (Nat.lt_of_lt_of_le q1 hPl)] at k2
      exact k2
  · obtain ⟨rfl, rfl, rfl, rfl⟩ := zx_n_inv h
    exact lv_ldcw hx hb hown (hts _ G.2) G.1 (kk _ _ _ _ _ hL hR hS hc hs)
  · obtain ⟨rfl, rfl, rfl, rfl⟩ := zx_n_inv h
    exact lv_ldc2 hx hb hown (hts _ G.2) G.1 (kk _ _ _ _ _ hL hR hS hc hs)
  · obtain ⟨y, r, rfl, hNEW⟩ := zx_pi_inv h
    clear h
    have h := hNEW
    clear hNEW
    obtain ⟨x, r, rfl, hNEW⟩ := zx_pi_inv h
    clear h
    have h := hNEW
    clear hNEW
    obtain ⟨rfl, rfl, rfl, rfl⟩ := zx_n_inv h
    exact lv_iadd hx hb G (kk _ _ _ _ _ hL hR hS hc hs)
  · obtain ⟨y, r, rfl, hNEW⟩ := zx_pi_inv h
    clear h
    have h := hNEW
    clear hNEW
    obtain ⟨x, r, rfl, hNEW⟩ := zx_pi_inv h
    clear h
    have h := hNEW
    clear hNEW
    obtain ⟨rfl, rfl, rfl, rfl⟩ := zx_n_inv h
    exact lv_isub hx hb G (kk _ _ _ _ _ hL hR hS hc hs)
  · obtain ⟨y, r, rfl, hNEW⟩ := zx_pi_inv h
    clear h
    have h := hNEW
    clear hNEW
    obtain ⟨x, r, rfl, hNEW⟩ := zx_pi_inv h
    clear h
    have h := hNEW
    clear hNEW
    obtain ⟨rfl, rfl, rfl, rfl⟩ := zx_n_inv h
    exact lv_imul hx hb G (kk _ _ _ _ _ hL hR hS hc hs)
  · obtain ⟨y, r, rfl, hNEW⟩ := zx_pi_inv h
    clear h
    have h := hNEW
    clear hNEW
    obtain ⟨x, r, rfl, hNEW⟩ := zx_pi_inv h
    clear h
    have h := hNEW
    clear hNEW
    obtain ⟨rfl, rfl, rfl, rfl⟩ := zx_n_inv h
    exact lv_iand hx hb G (kk _ _ _ _ _ hL hR hS hc hs)
  · obtain ⟨y, r, rfl, hNEW⟩ := zx_pi_inv h
    clear h
    have h := hNEW
    clear hNEW
    obtain ⟨x, r, rfl, hNEW⟩ := zx_pi_inv h
    clear h
    have h := hNEW
    clear hNEW
    obtain ⟨rfl, rfl, rfl, rfl⟩ := zx_n_inv h
    exact lv_ior hx hb G (kk _ _ _ _ _ hL hR hS hc hs)
  · obtain ⟨y, r, rfl, hNEW⟩ := zx_pi_inv h
    clear h
    have h := hNEW
    clear hNEW
    obtain ⟨x, r, rfl, hNEW⟩ := zx_pi_inv h
    clear h
    have h := hNEW
    clear hNEW
    obtain ⟨rfl, rfl, rfl, rfl⟩ := zx_n_inv h
    exact lv_ixor hx hb G (kk _ _ _ _ _ hL hR hS hc hs)
  · obtain ⟨y, r, rfl, hNEW⟩ := zx_pi_inv h
    clear h
    have h := hNEW
    clear hNEW
    obtain ⟨x, r, rfl, hNEW⟩ := zx_pi_inv h
    clear h
    have h := hNEW
    clear hNEW
    obtain ⟨hy, hNEW⟩ := zx_in h
    clear h
    have h := hNEW
    clear hNEW
    obtain ⟨rfl, rfl, rfl, rfl⟩ := zx_n_inv h
    exact lv_idiv hx hb G hy (kk _ _ _ _ _ hL hR hS hc hs)
  · obtain ⟨y, r, rfl, hNEW⟩ := zx_pi_inv h
    clear h
    have h := hNEW
    clear hNEW
    obtain ⟨x, r, rfl, hNEW⟩ := zx_pi_inv h
    clear h
    have h := hNEW
    clear hNEW
    obtain ⟨hy, hNEW⟩ := zx_in h
    clear h
    have h := hNEW
    clear hNEW
    obtain ⟨rfl, rfl, rfl, rfl⟩ := zx_n_inv h
    exact lv_irem hx hb G hy (kk _ _ _ _ _ hL hR hS hc hs)
  · obtain ⟨y, r, rfl, hNEW⟩ := zx_pi_inv h
    clear h
    have h := hNEW
    clear hNEW
    obtain ⟨x, r, rfl, hNEW⟩ := zx_pi_inv h
    clear h
    have h := hNEW
    clear hNEW
    obtain ⟨rfl, rfl, rfl, rfl⟩ := zx_n_inv h
    exact lv_ishl hx hb G (kk _ _ _ _ _ hL hR hS hc hs)
  · obtain ⟨y, r, rfl, hNEW⟩ := zx_pi_inv h
    clear h
    have h := hNEW
    clear hNEW
    obtain ⟨x, r, rfl, hNEW⟩ := zx_pi_inv h
    clear h
    have h := hNEW
    clear hNEW
    obtain ⟨rfl, rfl, rfl, rfl⟩ := zx_n_inv h
    exact lv_ishr hx hb G (kk _ _ _ _ _ hL hR hS hc hs)
  · obtain ⟨y, r, rfl, hNEW⟩ := zx_pi_inv h
    clear h
    have h := hNEW
    clear hNEW
    obtain ⟨x, r, rfl, hNEW⟩ := zx_pi_inv h
    clear h
    have h := hNEW
    clear hNEW
    obtain ⟨rfl, rfl, rfl, rfl⟩ := zx_n_inv h
    exact lv_iushr hx hb G rfl (kk _ _ _ _ _ hL hR hS hc hs)
  · obtain ⟨x, r, rfl, hNEW⟩ := zx_pi_inv h
    clear h
    have h := hNEW
    clear hNEW
    obtain ⟨rfl, rfl, rfl, rfl⟩ := zx_n_inv h
    exact lv_ineg hx hb G (kk _ _ _ _ _ hL hR hS hc hs)
  · obtain ⟨y, r, rfl, hNEW⟩ := zx_pl_inv h
    clear h
    have h := hNEW
    clear hNEW
    obtain ⟨x, r, rfl, hNEW⟩ := zx_pl_inv h
    clear h
    have h := hNEW
    clear hNEW
    obtain ⟨rfl, rfl, rfl, rfl⟩ := zx_n_inv h
    exact lv_ladd hx hb G (kk _ _ _ _ _ hL hR hS hc hs)
  · obtain ⟨y, r, rfl, hNEW⟩ := zx_pl_inv h
    clear h
    have h := hNEW
    clear hNEW
    obtain ⟨x, r, rfl, hNEW⟩ := zx_pl_inv h
    clear h
    have h := hNEW
    clear hNEW
    obtain ⟨rfl, rfl, rfl, rfl⟩ := zx_n_inv h
    exact lv_lsub hx hb G (kk _ _ _ _ _ hL hR hS hc hs)
  · obtain ⟨y, r, rfl, hNEW⟩ := zx_pl_inv h
    clear h
    have h := hNEW
    clear hNEW
    obtain ⟨x, r, rfl, hNEW⟩ := zx_pl_inv h
    clear h
    have h := hNEW
    clear hNEW
    obtain ⟨rfl, rfl, rfl, rfl⟩ := zx_n_inv h
    exact lv_lmul hx hb G (kk _ _ _ _ _ hL hR hS hc hs)
  · obtain ⟨y, r, rfl, hNEW⟩ := zx_pl_inv h
    clear h
    have h := hNEW
    clear hNEW
    obtain ⟨x, r, rfl, hNEW⟩ := zx_pl_inv h
    clear h
    have h := hNEW
    clear hNEW
    obtain ⟨rfl, rfl, rfl, rfl⟩ := zx_n_inv h
    exact lv_land hx hb G (kk _ _ _ _ _ hL hR hS hc hs)
  · obtain ⟨y, r, rfl, hNEW⟩ := zx_pl_inv h
    clear h
    have h := hNEW
    clear hNEW
    obtain ⟨x, r, rfl, hNEW⟩ := zx_pl_inv h
    clear h
    have h := hNEW
    clear hNEW
    obtain ⟨rfl, rfl, rfl, rfl⟩ := zx_n_inv h
    exact lv_lor hx hb G (kk _ _ _ _ _ hL hR hS hc hs)
  · obtain ⟨y, r, rfl, hNEW⟩ := zx_pl_inv h
    clear h
    have h := hNEW
    clear hNEW
    obtain ⟨x, r, rfl, hNEW⟩ := zx_pl_inv h
    clear h
    have h := hNEW
    clear hNEW
    obtain ⟨hy, hNEW⟩ := zx_in h
    clear h
    have h := hNEW
    clear hNEW
    obtain ⟨rfl, rfl, rfl, rfl⟩ := zx_n_inv h
    exact lv_ldiv hx hb G hy (kk _ _ _ _ _ hL hR hS hc hs)
  · obtain ⟨y, r, rfl, hNEW⟩ := zx_pl_inv h
    clear h
    have h := hNEW
    clear hNEW
    obtain ⟨x, r, rfl, hNEW⟩ := zx_pl_inv h
    clear h
    have h := hNEW
    clear hNEW
    obtain ⟨hy, hNEW⟩ := zx_in h
    clear h
    have h := hNEW
    clear hNEW
    obtain ⟨rfl, rfl, rfl, rfl⟩ := zx_n_inv h
    exact lv_lrem hx hb G hy (kk _ _ _ _ _ hL hR hS hc hs)
  · obtain ⟨x, r, rfl, hNEW⟩ := zx_pl_inv h
    clear h
    have h := hNEW
    clear hNEW
    obtain ⟨rfl, rfl, rfl, rfl⟩ := zx_n_inv h
    exact lv_lneg hx hb G (kk _ _ _ _ _ hL hR hS hc hs)
  · obtain ⟨y, r, rfl, hNEW⟩ := zx_pi_inv h
    clear h
    have h := hNEW
    clear hNEW
    obtain ⟨x, r, rfl, hNEW⟩ := zx_pl_inv h
    clear h
    have h := hNEW
    clear hNEW
    obtain ⟨rfl, rfl, rfl, rfl⟩ := zx_n_inv h
    exact lv_lshl hx hb G rfl (kk _ _ _ _ _ hL hR hS hc hs)
  · obtain ⟨y, r, rfl, hNEW⟩ := zx_pl_inv h
    clear h
    have h := hNEW
    clear hNEW
    obtain ⟨x, r, rfl, hNEW⟩ := zx_pl_inv h
    clear h
    have h := hNEW
    clear hNEW
    obtain ⟨rfl, rfl, rfl, rfl⟩ := zx_n_inv h
    exact W.lcmp hx hb G (kk _ _ _ _ _ hL hR hS hc hs)
  · obtain ⟨x, r, rfl, hNEW⟩ := zx_pi_inv h
    clear h
    have h := hNEW
    clear hNEW
    obtain ⟨rfl, rfl, rfl, rfl⟩ := zx_n_inv h
    exact lv_i2l hx hb G rfl (kk _ _ _ _ _ hL hR hS hc hs)
  · obtain ⟨x, r, rfl, hNEW⟩ := zx_pl_inv h
    clear h
    have h := hNEW
    clear hNEW
    obtain ⟨rfl, rfl, rfl, rfl⟩ := zx_n_inv h
    exact lv_l2i hx hb G rfl (kk _ _ _ _ _ hL hR hS hc hs)
  · obtain ⟨x, r, rfl, hNEW⟩ := zx_pi_inv h
    clear h
    have h := hNEW
    clear hNEW
    obtain ⟨rfl, rfl, rfl, rfl⟩ := zx_n_inv h
    exact lv_i2b hx hb G rfl (kk _ _ _ _ _ hL hR hS hc hs)
  · obtain ⟨x, r, rfl, hNEW⟩ := zx_pi_inv h
    clear h
    have h := hNEW
    clear hNEW
    obtain ⟨rfl, rfl, rfl, rfl⟩ := zx_n_inv h
    exact lv_i2s hx hb G rfl (kk _ _ _ _ _ hL hR hS hc hs)
  · obtain ⟨x, r, rfl, hNEW⟩ := zx_pi_inv h
    clear h
    have h := hNEW
    clear hNEW
    obtain ⟨rfl, rfl, rfl, rfl⟩ := zx_n_inv h
    exact lv_i2c hx hb G rfl (kk _ _ _ _ _ hL hR hS hc hs)
  · obtain ⟨v, r, rfl, hv1, hNEW⟩ := zx_p1_inv h
    clear h
    have h := hNEW
    clear hNEW
    obtain ⟨rfl, rfl, rfl, rfl⟩ := zx_n_inv h
    exact lv_dup hx hb G (by rw [zx_v_cat w hcat]; exact hv1) (kk _ _ _ _ _ hL hR hS hc hs)
  · obtain ⟨v, r, rfl, hv1, hNEW⟩ := zx_p1_inv h
    clear h
    have h := hNEW
    clear hNEW
    obtain ⟨rfl, rfl, rfl, rfl⟩ := zx_n_inv h
    exact lv_pop hx hb G (by rw [zx_v_cat w hcat]; exact hv1) (kk _ _ _ _ _ hL hR hS hc hs)
  · obtain ⟨v, r, rfl, hv1, hNEW⟩ := zx_p1_inv h
    clear h
    have h := hNEW
    clear hNEW
    obtain ⟨u, r, rfl, hv2, hNEW⟩ := zx_p1_inv h
    clear h
    have h := hNEW
    clear hNEW
    obtain ⟨rfl, rfl, rfl, rfl⟩ := zx_n_inv h
    exact lv_dup_x1 hx hb G (by rw [zx_v_cat w hcat]; exact hv1) (by rw [zx_v_cat w hcat]; exact hv2) (kk _ _ _ _ _ hL hR hS hc hs)
  · obtain ⟨v, r, rfl, hv1, hNEW⟩ := zx_p1_inv h
    clear h
    have h := hNEW
    clear hNEW
    obtain ⟨u, r, rfl, hv2, hNEW⟩ := zx_p1_inv h
    clear h
    have h := hNEW
    clear hNEW
    obtain ⟨rfl, rfl, rfl, rfl⟩ := zx_n_inv h
    exact lv_dup2_11 hx hb G (by rw [zx_v_cat w hcat]; exact hv1) (by rw [zx_v_cat w hcat]; exact hv2) (kk _ _ _ _ _ hL hR hS hc hs)
  · obtain ⟨rfl, rfl, rfl, rfl⟩ := zx_n_inv h
    exact lv_goto hx hb G.1 G.2 (kk _ _ _ _ _ hL hR hS hc hs)
  · obtain ⟨x, r, rfl, hNEW⟩ := zx_pi_inv h
    clear h
    have h := hNEW
    clear hNEW
    obtain ⟨rfl, rfl, rfl, rfl⟩ := zx_n_inv h
    cases ‹Jvm.ClassFile.Cond›
    · refine lv_if_eq hx hb G.1 G.2 (fun q => ?_) (fun q => ?_)
      · have k2 := kk _ _ _ _ _ hL hR hS hc hs
        rw [show zx_br .eq x 0 eb (pc + 3) = eb from if_pos q] at k2
        exact k2
      · have k2 := kk _ _ _ _ _ hL hR hS hc hs
        rw [show zx_br .eq x 0 eb (pc + 3) = pc + 3 from if_neg q] at k2
        exact k2
    · refine lv_if_ne hx hb G.1 G.2 (fun q => ?_) (fun q => ?_)
      · have k2 := kk _ _ _ _ _ hL hR hS hc hs
        rw [show zx_br .ne x 0 eb (pc + 3) = eb from if_neg q] at k2
        exact k2
      · have k2 := kk _ _ _ _ _ hL hR hS hc hs
        rw [show zx_br .ne x 0 eb (pc + 3) = pc + 3 from if_pos q] at k2
        exact k2
    · refine lv_if_lt hx hb G.1 G.2 (fun q => ?_) (fun q => ?_)
      · have k2 := kk _ _ _ _ _ hL hR hS hc hs
        rw [show zx_br .lt x 0 eb (pc + 3) = eb from if_pos q] at k2
        exact k2
      · have k2 := kk _ _ _ _ _ hL hR hS hc hs
        rw [show zx_br .lt x 0 eb (pc + 3) = pc + 3 from if_neg q] at k2
        exact k2
    · refine lv_if_ge hx hb G.1 G.2 (fun q => ?_) (fun q => ?_)
      · have k2 := kk _ _ _ _ _ hL hR hS hc hs
        rw [show zx_br .ge x 0 eb (pc + 3) = eb from if_neg (Int32.not_lt.mpr q)] at k2
        exact k2
      · have k2 := kk _ _ _ _ _ hL hR hS hc hs
        rw [show zx_br .ge x 0 eb (pc + 3) = pc + 3 from if_pos (Int32.not_le.mp q)] at k2
        exact k2
    · refine lv_if_gt hx hb G.1 G.2 (fun q => ?_) (fun q => ?_)
      · have k2 := kk _ _ _ _ _ hL hR hS hc hs
        rw [show zx_br .gt x 0 eb (pc + 3) = eb from if_pos q] at k2
        exact k2
      · have k2 := kk _ _ _ _ _ hL hR hS hc hs
        rw [show zx_br .gt x 0 eb (pc + 3) = pc + 3 from if_neg q] at k2
        exact k2
    · refine lv_if_le hx hb G.1 G.2 (fun q => ?_) (fun q => ?_)
      · have k2 := kk _ _ _ _ _ hL hR hS hc hs
        rw [show zx_br .le x 0 eb (pc + 3) = eb from if_neg (Int32.not_lt.mpr q)] at k2
        exact k2
      · have k2 := kk _ _ _ _ _ hL hR hS hc hs
        rw [show zx_br .le x 0 eb (pc + 3) = pc + 3 from if_pos (Int32.not_le.mp q)] at k2
        exact k2
  · obtain ⟨y, r, rfl, hNEW⟩ := zx_pi_inv h
    clear h
    have h := hNEW
    clear hNEW
    obtain ⟨x, r, rfl, hNEW⟩ := zx_pi_inv h
    clear h
    have h := hNEW
    clear hNEW
    obtain ⟨rfl, rfl, rfl, rfl⟩ := zx_n_inv h
    cases ‹Jvm.ClassFile.Cond›
    · refine lv_icmp_eq hx hb G.1 G.2 (fun q => ?_) (fun q => ?_)
      · have k2 := kk _ _ _ _ _ hL hR hS hc hs
        rw [show zx_br .eq x y eb (pc + 3) = eb from if_pos q] at k2
        exact k2
      · have k2 := kk _ _ _ _ _ hL hR hS hc hs
        rw [show zx_br .eq x y eb (pc + 3) = pc + 3 from if_neg q] at k2
        exact k2
    · refine lv_icmp_ne hx hb G.1 G.2 (fun q => ?_) (fun q => ?_)
      · have k2 := kk _ _ _ _ _ hL hR hS hc hs
        rw [show zx_br .ne x y eb (pc + 3) = eb from if_neg q] at k2
        exact k2
      · have k2 := kk _ _ _ _ _ hL hR hS hc hs
        rw [show zx_br .ne x y eb (pc + 3) = pc + 3 from if_pos q] at k2
        exact k2
    · refine lv_icmp_lt hx hb G.1 G.2 (fun q => ?_) (fun q => ?_)
      · have k2 := kk _ _ _ _ _ hL hR hS hc hs
        rw [show zx_br .lt x y eb (pc + 3) = eb from if_pos q] at k2
        exact k2
      · have k2 := kk _ _ _ _ _ hL hR hS hc hs
        rw [show zx_br .lt x y eb (pc + 3) = pc + 3 from if_neg q] at k2
        exact k2
    · refine lv_icmp_ge hx hb G.1 G.2 (fun q => ?_) (fun q => ?_)
      · have k2 := kk _ _ _ _ _ hL hR hS hc hs
        rw [show zx_br .ge x y eb (pc + 3) = eb from if_neg (Int32.not_lt.mpr q)] at k2
        exact k2
      · have k2 := kk _ _ _ _ _ hL hR hS hc hs
        rw [show zx_br .ge x y eb (pc + 3) = pc + 3 from if_pos (Int32.not_le.mp q)] at k2
        exact k2
    · refine lv_icmp_gt hx hb G.1 G.2 (fun q => ?_) (fun q => ?_)
      · have k2 := kk _ _ _ _ _ hL hR hS hc hs
        rw [show zx_br .gt x y eb (pc + 3) = eb from if_pos q] at k2
        exact k2
      · have k2 := kk _ _ _ _ _ hL hR hS hc hs
        rw [show zx_br .gt x y eb (pc + 3) = pc + 3 from if_neg q] at k2
        exact k2
    · refine lv_icmp_le hx hb G.1 G.2 (fun q => ?_) (fun q => ?_)
      · have k2 := kk _ _ _ _ _ hL hR hS hc hs
        rw [show zx_br .le x y eb (pc + 3) = eb from if_neg (Int32.not_lt.mpr q)] at k2
        exact k2
      · have k2 := kk _ _ _ _ _ hL hR hS hc hs
        rw [show zx_br .le x y eb (pc + 3) = pc + 3 from if_pos (Int32.not_le.mp q)] at k2
        exact k2
  · split at h
    · obtain ⟨rfl, rfl, rfl, rfl⟩ := zx_n_inv h
      exact lv_ifnull hx hb G.1 (kk _ _ _ _ _ hL hR hS hc hs)
    · obtain ⟨rfl, rfl, rfl, rfl⟩ := zx_n_inv h
      exact lv_ifnullN hx hb G.1 G.2 (kk _ _ _ _ _ hL hR hS hc hs)
    · cases h
  · split at h
    · obtain ⟨rfl, rfl, rfl, rfl⟩ := zx_n_inv h
      exact lv_ifnonnull hx hb G.1 G.2 (kk _ _ _ _ _ hL hR hS hc hs)
    · obtain ⟨rfl, rfl, rfl, rfl⟩ := zx_n_inv h
      exact lv_ifnonnullN hx hb G.1 (kk _ _ _ _ _ hL hR hS hc hs)
    · cases h
  · rename_i d lo hi offs
    obtain ⟨x, r, rfl, hNEW⟩ := zx_pi_inv h
    clear h
    have h := hNEW
    clear hNEW
    obtain ⟨rfl, rfl, rfl, rfl⟩ := zx_n_inv h
    obtain ⟨⟨len, hd⟩, hp0, hpo, hhi⟩ := G
    obtain ⟨s1, s2⟩ := zx_sw_spec pc d x offs.toList lo
    have k2 := kk _ _ _ _ _ hL hR hS hc hs
    by_cases h1 : x.toInt < lo
    · rw [s1 (Or.inl h1)] at k2
      exact lv_tableOut hx hb hd (Or.inl h1) (by omega) k2
    · by_cases h2 : hi < x.toInt
      · rw [s1 (Or.inr (by omega))] at k2
        exact lv_tableOut hx hb hd (Or.inr h2) (by omega) k2
      · obtain ⟨off, q1, q2⟩ := s2 h1 (by omega)
        rw [q2] at k2
        have hm := hpo off (List.mem_of_getElem? q1)
        exact lv_tableIn hx hb hd h1 h2 (off := off) (by rw [← Array.getElem?_toList]; exact q1) (by omega) k2
  · obtain ⟨ee, r, rfl, hNEW⟩ := zx_pr_inv h
    clear h
    have h := hNEW
    clear hNEW
    dsimp only [zx_good] at G
    obtain ⟨hd, G⟩ := G
    by_cases k2 : ek = 2
    · rw [if_pos k2] at h G
      obtain ⟨⟨b1, b2⟩, hNEW⟩ := zx_it h
      clear h
      have h := hNEW
      clear hNEW
      obtain ⟨rfl, rfl, rfl, rfl⟩ := zx_n_inv h
      obtain ⟨i, rfl⟩ := Nat.exists_eq_add_of_le b1
      have hi : i < P.2.1.length := by omega
      rw [List.map_cons, zx_v_ref, zx_r_str w (by omega)]
      exact vk_getf hx hb (hV.1 i hi).2.1 hS hown (hts _ G) (fun x hx => hx) hd (kk _ _ _ _ _ hL hR hS hc hs)
    · rw [if_neg k2] at h G
      by_cases k3 : ek = 3
      · rw [if_pos k3] at h G
        obtain ⟨⟨b1, b2⟩, hNEW⟩ := zx_it h
        clear h
        have h := hNEW
        clear hNEW
        obtain ⟨rfl, rfl, rfl, rfl⟩ := zx_n_inv h
        obtain ⟨i, rfl⟩ := Nat.exists_eq_add_of_le b1
        have hi : i < P.2.1.length := by omega
        rw [List.map_cons, zx_v_ref, zx_r_str w (by omega)]
        have kq := kk _ _ _ _ _ hL hR hS hc hs
        rw [List.map_cons, zx_v_ref, show 2000000 + i + 100000 = 2100000 + i by omega, zx_r_byt w (by omega)] at kq
        exact vk_getf hx hb (hV.1 i hi).2.2.1 hS hown (hts _ G) (fun x hx => hx) hd kq
      · rw [if_neg k3] at h G
        obtain ⟨⟨C, T, n, hcl, hbn, hlk2, hCT, hlt⟩, hir⟩ := G
        obtain ⟨⟨b1, b2⟩, hNEW⟩ := zx_it h
        clear h
        have h := hNEW
        clear hNEW
        obtain ⟨hn, hin, -, -⟩ := hC _ _ _ _ hcl
        have hel : ee < H.1.2.2.1 := hR.lt (by omega)
        have he : (zx_ws P isr w H)[ee]? = some (w.1 + ee, .inr (ea, zx_fs (P.1 ea) (isr ea) w H ee)) := by rw [zx_ws_get hel, zx_e_obj b2 hlt]
        have hv := zx_fs_get (nf := P.1 ea) (ir := isr ea) (w := w) (H := H) (k := ee) (j := eb) (by rw [hn]; exact hbn)
        rw [List.map_cons, zx_v_ref, zx_r_own w b1]
        refine va_get hx hb hts hin hown hK hR.1 ee he hcl eb hbn (hts _ hlk2) (fun x hx => by rw [hCT] at hx; exact hx) hv hd ?_
        split at h
        · rename_i k1
          rw [if_pos (by rw [hir]; exact decide_eq_true k1)]
          obtain ⟨rfl, rfl, rfl, rfl⟩ := zx_n_inv h
          exact kk _ _ _ _ _ hL hR hS hc hs
        · rename_i k1
          rw [if_neg (by rw [hir]; simpa using k1)]
          obtain ⟨rfl, rfl, rfl, rfl⟩ := zx_n_inv h
          exact kk _ _ _ _ _ hL hR hS hc hs
  · dsimp only [zx_good] at G
    obtain ⟨hd, ⟨C, T, n, hcl, hbn, hlk2, hCT, hlt⟩, hir, hpf⟩ := G
    by_cases k1 : ek = 1
    · rw [if_pos k1] at h
      obtain ⟨a2, r, rfl, hNEW⟩ := zx_pr_inv h
      clear h
      have h := hNEW
      clear hNEW
      obtain ⟨ee, r, rfl, hNEW⟩ := zx_pr_inv h
      clear h
      have h := hNEW
      clear hNEW
      obtain ⟨⟨b1, b0, b2⟩, hNEW⟩ := zx_it h
      clear h
      have h := hNEW
      clear hNEW
      obtain ⟨hn, hin, ⟨ty0, hty, -⟩, hnmx⟩ := hC _ _ _ _ hcl
      have hel : ee < H.1.2.2.1 := hR.lt (by omega)
      have he : (zx_ws P isr w H)[ee]? = some (w.1 + ee, .inr (ea, zx_fs (P.1 ea) (isr ea) w H ee)) := by rw [zx_ws_get hel, zx_e_obj b2 hlt]
      have hlen : eb < (zx_fs (P.1 ea) (isr ea) w H ee).length := by rw [zx_fs_len, hn]; exact hbn
      obtain ⟨rfl, rfl, rfl, rfl⟩ := zx_n_inv h
      obtain ⟨hfin, ty, hp, hty2⟩ := hpf _ _ _ hcl
      rw [if_pos k1] at hty2
      have hnr : narrow ty (.ref (zx_r w a2)) = .ref (zx_r w a2) := by rcases hty2 with ⟨C2, rfl⟩ | ⟨t2, rfl⟩ <;> rfl
      have hft : fits ty (.ref (zx_r w a2)) = true := by rcases hty2 with ⟨C2, rfl⟩ | ⟨t2, rfl⟩ <;> rfl
      have hws := zx_ws_putr (P := P) (isr := isr) (w := w) (H := H) (k := ee) (i := eb) (a := a2) b2 hlt (by rw [hir]; exact decide_eq_true k1)
      rw [List.map_cons, List.map_cons, zx_v_ref, zx_v_ref, zx_r_own w b1]
      have fin : ∀ (H1 : Heap) (locs1 : List Loc), H1.size = Hp.size → va_P w.2.1 cl ((zx_ws P isr w H).set ee (w.1 + ee, .inr (ea, (zx_fs (P.1 ea) (isr ea) w H ee).set eb (.ref (zx_r w a2))))) H1 → va_S (zx_A w) s.heap H1 locs1 → W p l e R s m args below meth c H1 locs1 cells slots Q (F0 m (pc + 3) lsA (r.map (zx_v w))) := fun H1 l1 hz g1 g3 => kk _ _ _ _ _ hL ⟨by rw [hws]; exact g1, hz.trans hR.2.1, hR.2.2⟩ g3 hc hs
      rcases hfin with hf | ⟨hf, hni, hCo⟩
      · exact zx_put hx hb hts hin ty0 hty hnmx hown hK hR.1 (zx_D P isr w H) hS ee he hcl eb hbn (hts _ hlk2) (fun x hx => by rw [hCT] at hx; exact hx) hf hp hnr hft hlen hd fin
      · exact zx_putF hx hb hts hin ty0 hty hnmx hown hK hR.1 (zx_D P isr w H) hS ee he hcl eb hbn (hts _ hlk2) (fun x hx => by rw [hCT] at hx; exact hx) hf (hnm.trans hni) (by rw [hCT]; exact hCo) hp hnr hft hlen hd fin
    · rw [if_neg k1] at h
      obtain ⟨x2, r, rfl, hNEW⟩ := zx_pi_inv h
      clear h
      have h := hNEW
      clear hNEW
      obtain ⟨ee, r, rfl, hNEW⟩ := zx_pr_inv h
      clear h
      have h := hNEW
      clear hNEW
      obtain ⟨⟨b1, b2, b3⟩, hNEW⟩ := zx_it h
      clear h
      have h := hNEW
      clear hNEW
      obtain ⟨hn, hin, ⟨ty0, hty, -⟩, hnmx⟩ := hC _ _ _ _ hcl
      have hel : ee < H.1.2.2.1 := hR.lt (by omega)
      have he : (zx_ws P isr w H)[ee]? = some (w.1 + ee, .inr (ea, zx_fs (P.1 ea) (isr ea) w H ee)) := by rw [zx_ws_get hel, zx_e_obj b2 hlt]
      have hlen : eb < (zx_fs (P.1 ea) (isr ea) w H ee).length := by rw [zx_fs_len, hn]; exact hbn
      obtain ⟨rfl, rfl, rfl, rfl⟩ := zx_n_inv h
      obtain ⟨hfin, ty, hp, hty2⟩ := hpf _ _ _ hcl
      rw [if_neg k1] at hty2
      have hnr : narrow ty (.int x2) = .int x2 := by
        by_cases k4 : ek = 4
        · rw [if_pos k4] at hty2
          subst hty2
          rcases b3 k4 with rfl | rfl <;> rfl
        · rw [if_neg k4] at hty2
          subst hty2
          rfl
      have hft : fits ty (.int x2) = true := by
        by_cases k4 : ek = 4
        · rw [if_pos k4] at hty2
          subst hty2
          rcases b3 k4 with rfl | rfl <;> rfl
        · rw [if_neg k4] at hty2
          subst hty2
          rfl
      have hws := zx_ws_puti (P := P) (isr := isr) (w := w) (H := H) (k := ee) (i := eb) (v := x2) b2 hlt (by rw [hir]; simpa using k1)
      rw [List.map_cons, List.map_cons, zx_v_int, zx_v_ref, zx_r_own w b1]
      have fin : ∀ (H1 : Heap) (locs1 : List Loc), H1.size = Hp.size → va_P w.2.1 cl ((zx_ws P isr w H).set ee (w.1 + ee, .inr (ea, (zx_fs (P.1 ea) (isr ea) w H ee).set eb (.int x2)))) H1 → va_S (zx_A w) s.heap H1 locs1 → W p l e R s m args below meth c H1 locs1 cells slots Q (F0 m (pc + 3) lsA (r.map (zx_v w))) := fun H1 l1 hz g1 g3 => kk _ _ _ _ _ hL ⟨by rw [hws]; exact g1, hz.trans hR.2.1, hR.2.2⟩ g3 hc hs
      rcases hfin with hf | ⟨hf, hni, hCo⟩
      · exact zx_put hx hb hts hin ty0 hty hnmx hown hK hR.1 (zx_D P isr w H) hS ee he hcl eb hbn (hts _ hlk2) (fun x hx => by rw [hCT] at hx; exact hx) hf hp hnr hft hlen hd fin
      · exact zx_putF hx hb hts hin ty0 hty hnmx hown hK hR.1 (zx_D P isr w H) hS ee he hcl eb hbn (hts _ hlk2) (fun x hx => by rw [hCT] at hx; exact hx) hf (hnm.trans hni) (by rw [hCT]; exact hCo) hp hnr hft hlen hd fin
  · obtain ⟨rfl, rfl, rfl, rfl⟩ := zx_n_inv h
    dsimp only [zx_good] at G
    obtain ⟨hd, G⟩ := G
    have kq := kk _ _ _ _ _ hL hR hS hc hs
    by_cases k0 : ea = 0
    · rw [if_pos k0] at G
      rw [if_pos k0] at kq
      exact va_gets hx hb hZ1 hS hown (hts _ G) (fun x hx => hx) hd kq
    · rw [if_neg k0] at G
      rw [if_neg k0] at kq
      exact va_gets hx hb hZ2 hS hown (hts _ G) (fun x hx => hx) hd kq
  · obtain ⟨h8, hNEW⟩ := zx_it h
    clear h
    have h := hNEW
    clear hNEW
    dsimp only [zx_good] at G
    obtain ⟨hd, C, T, n, hcl, w1, w2, w3, hlt⟩ := G
    obtain ⟨hn, hin, ⟨ty0, hty, hdv⟩, hnmx⟩ := hC _ _ _ _ hcl
    obtain ⟨rfl, rfl, rfl, rfl⟩ := zx_n_inv h
    have hKn := hK.1 _ _ hcl
    have hz1 : (zx_new H (ea, 0) (P.1 ea)).1.2.2.1 = H.1.2.2.1 + 1 := rfl
    have hz2 : (zx_new H (ea, 0) (P.1 ea)).1.2.2.2 = H.1.2.2.2 + P.1 ea := rfl
    rw [hz1] at hbc
    rw [hz2, hn] at hbs
    refine W.newcK (g := F0 m pc lsA (st.map (zx_v w))) hx hb hown (hts _ w1) (hts _ w2) (hts _ w3) rfl hd (by omega) (by omega) hKn.2.1 hR.2.1 fun H1 kC hkC e1 zz o1 => ?_
    have hq : zx_r w H.1.2.2.1 = w.1 + H.1.2.2.1 := zx_r_own w (by omega)
    have k2 := kk lsA H1 locs (cells + 1) (slots + n) hL ?_ ⟨by have := hS.1; rw [hR.2.1] at this; rw [zz]; omega, fun x h1 h2 => (o1 x (by have := Nat.lt_of_lt_of_le h1 hS.1; rw [hR.2.1] at this; exact this)).trans (hS.2.1 x h1 h2), hS.2.2⟩ (by rw [hz1]; omega) (by rw [hz2, hn]; omega)
    · rw [List.map_cons, zx_v_ref, hq] at k2
      exact k2
    · refine zx_Rel_push hR rfl (fun j hj => zx_e_new_old hj) (fun k hk => ?_) (by rw [zz]; omega) o1 ?_
      · show (if k = H.1.2.2.1 then (ea, 0) else H.1.1 k) = _
        rw [hz1] at hk
        rw [if_neg (by omega)]
        exact hR.2.2 k (by omega)
      · have hk1 : ((zx_new H (ea, 0) (P.1 ea)).1.1 H.1.2.2.1).1 = ea := congrArg Prod.fst (if_pos rfl)
        rw [zx_e_obj hk1 hlt]
        refine ⟨_, hcl, (u_born ty0 hts hin hKn hkC e1 hty).to (fun k hk => ?_)⟩
        rw [hdv k hk]
        have hv := zx_fs_get (nf := P.1 ea) (ir := isr ea) (w := w) (H := zx_new H (ea, 0) (P.1 ea)) (k := H.1.2.2.1) (j := k) (by rw [hn]; exact hk)
        unfold vp_V
        rw [List.getD_eq_getElem?_getD, hv]
        have g1 : (zx_new H (ea, 0) (P.1 ea)).1.2.1 H.1.2.2.1 k = none := if_pos rfl
        have g2 : (zx_new H (ea, 0) (P.1 ea)).2.1 H.1.2.2.1 k = 0 := if_pos rfl
        rw [g1, g2]
        split <;> rfl
  · obtain ⟨x, r, rfl, hNEW⟩ := zx_pi_inv h
    clear h
    have h := hNEW
    clear hNEW
    obtain ⟨hx9, hNEW⟩ := zx_in h
    clear h
    have h := hNEW
    clear hNEW
    split at h
    · obtain ⟨rfl, rfl, rfl, rfl⟩ := zx_n_inv h
      exact zx_newi hx hb (hts _ G.2) G.1 hR hS hL hc hs hbc hbs (fun q => hx9 (Or.inl q)) (by omega) (by omega) hK kk
    · obtain ⟨rfl, rfl, rfl, rfl⟩ := zx_n_inv h
      exact zx_newl hx hb (hts _ G.2) G.1 hR hS hL hc hs hbc hbs (fun q => hx9 (Or.inl q)) (by omega) (by omega) hK kk
    · cases h
  · obtain ⟨y, r, rfl, hNEW⟩ := zx_pi_inv h
    clear h
    have h := hNEW
    clear hNEW
    obtain ⟨x, r, rfl, hNEW⟩ := zx_pi_inv h
    clear h
    have h := hNEW
    clear hNEW
    obtain ⟨hx9, hNEW⟩ := zx_in h
    clear h
    have h := hNEW
    clear hNEW
    dsimp only [zx_good] at G
    obtain ⟨hd, rfl, G⟩ := G
    by_cases k0 : ea = 0
    · rw [if_pos k0] at h G
      obtain ⟨rfl, rfl, rfl, rfl⟩ := zx_n_inv h
      exact zx_mni hx hb hown (hts _ G.1) (hts _ G.2) hO1 hd hR hS hL hc hs hbc hbs (fun q => hx9 (Or.inl q)) (fun q => hx9 (Or.inr (Or.inl q))) (by omega) (by omega) (by omega) hK kk
    · rw [if_neg k0] at h G
      obtain ⟨rfl, rfl, rfl, rfl⟩ := zx_n_inv h
      exact zx_mnl hx hb hown (hts _ G.1) (hts _ G.2) hO2 hd hR hS hL hc hs hbc hbs (fun q => hx9 (Or.inl q)) (fun q => hx9 (Or.inr (Or.inl q))) (by omega) (by omega) (by omega) hK kk
  · obtain ⟨ee, r, rfl, hNEW⟩ := zx_pr_inv h
    clear h
    have h := hNEW
    clear hNEW
    unfold zx_len at h
    split at h
    · rename_i b1
      obtain ⟨⟨b2, b3⟩, hNEW⟩ := zx_it h
      clear h
      have h := hNEW
      clear hNEW
      obtain ⟨rfl, rfl, rfl, rfl⟩ := zx_n_inv h
      have hel : ee < H.1.2.2.1 := hR.lt (by omega)
      rw [List.map_cons, zx_v_ref, zx_r_own w b1]
      have hcs : (H.1.1 ee).1 = 10 ∨ (H.1.1 ee).1 = 11 ∨ (H.1.1 ee).1 = 12 ∨ (H.1.1 ee).1 = 13 := by omega
      rcases hcs with q | q | q | q
      · have ha : (zx_ws P isr w H)[ee]? = some (w.1 + ee, .inl (w.2.2.1.1, (H.1.1 ee).2, .inl (H.2.1 ee))) := by rw [zx_ws_get hel, zx_e_int q]
        exact va_alen hx hb hK hR.1 ee 0 ha rfl rfl G (kk _ _ _ _ _ hL hR hS hc hs)
      · have ha : (zx_ws P isr w H)[ee]? = some (w.1 + ee, .inl (w.2.2.1.2.1, (H.1.1 ee).2, .inr (.inl (H.2.2 ee)))) := by rw [zx_ws_get hel, zx_e_long q]
        exact va_alen hx hb hK hR.1 ee 1 ha rfl rfl G (kk _ _ _ _ _ hL hR hS hc hs)
      · have ha : (zx_ws P isr w H)[ee]? = some (w.1 + ee, .inl (w.2.2.1.2.2.1, (H.1.1 ee).2, .inr (.inr (.inr (.inr (fun j => (H.1.2.1 ee j).map (zx_r w))))))) := by rw [zx_ws_get hel, zx_e_ii q]
        exact va_alen hx hb hK hR.1 ee 2 ha rfl rfl G (kk _ _ _ _ _ hL hR hS hc hs)
      · have ha : (zx_ws P isr w H)[ee]? = some (w.1 + ee, .inl (w.2.2.1.2.2.2, (H.1.1 ee).2, .inr (.inr (.inr (.inr (fun j => (H.1.2.1 ee j).map (zx_r w))))))) := by rw [zx_ws_get hel, zx_e_ll q]
        exact va_alen hx hb hK hR.1 ee 3 ha rfl rfl G (kk _ _ _ _ _ hL hR hS hc hs)
    · split at h
      · rename_i b1 b2
        subst b2
        split at h
        · rename_i q hq
          obtain ⟨rfl, rfl, rfl, rfl⟩ := zx_n_inv h
          obtain ⟨x1, x2⟩ := hX q hq
          rw [List.map_cons, zx_v_ref, zx_r_scr]
          exact va_slen hx hb x1 (Nat.lt_of_lt_of_le x2 hbz) (by unfold zx_A; omega) hS G (kk _ _ _ _ _ hL hR hS hc hs)
        · cases h
      · obtain ⟨⟨b2, b3⟩, hNEW⟩ := zx_it h
        clear h
        have h := hNEW
        clear hNEW
        obtain ⟨rfl, rfl, rfl, rfl⟩ := zx_n_inv h
        obtain ⟨i, rfl⟩ := Nat.exists_eq_add_of_le b2
        have hi : i < P.2.1.length := by omega
        rw [List.map_cons, zx_v_ref, zx_r_byt w (by omega)]
        have kq := kk _ _ _ _ _ hL hR hS hc hs
        rw [show 2100000 + i - 2100000 = i by omega, ← zx_len8_get hi] at kq
        exact va_tlen hx hb (hV.1 i hi).2.2.2 hS rfl G kq
  · obtain ⟨i, r, rfl, hNEW⟩ := zx_pi_inv h
    clear h
    have h := hNEW
    clear hNEW
    obtain ⟨ee, r, rfl, hNEW⟩ := zx_pr_inv h
    clear h
    have h := hNEW
    clear hNEW
    unfold zx_ld at h
    split at h
    · rename_i b1
      obtain ⟨b2, hNEW⟩ := zx_it h
      clear h
      have h := hNEW
      clear hNEW
      obtain ⟨b3, hNEW⟩ := zx_in h
      clear h
      have h := hNEW
      clear hNEW
      obtain ⟨rfl, rfl, rfl, rfl⟩ := zx_n_inv h
      have hel : ee < H.1.2.2.1 := hR.lt (by omega)
      rw [List.map_cons, List.map_cons, zx_v_int, zx_v_ref, zx_r_own w b1]
      exact va_iald hx hb hK hR.1 ee 0 (by rw [zx_ws_get hel, zx_e_int b2]) rfl b3 G (kk _ _ _ _ _ hL hR hS hc hs)
    · obtain ⟨b2, hNEW⟩ := zx_it h
      clear h
      have h := hNEW
      clear hNEW
      subst b2
      split at h
      · rename_i q hq
        obtain ⟨b3, hNEW⟩ := zx_in h
        clear h
        have h := hNEW
        clear hNEW
        obtain ⟨rfl, rfl, rfl, rfl⟩ := zx_n_inv h
        obtain ⟨x1, x2⟩ := hX q hq
        rw [List.map_cons, List.map_cons, zx_v_int, zx_v_ref, zx_r_scr]
        exact va_sld hx hb x1 (Nat.lt_of_lt_of_le x2 hbz) (by unfold zx_A; omega) hS b3 G (kk _ _ _ _ _ hL hR hS hc hs)
      · cases h
  · obtain ⟨i, r, rfl, hNEW⟩ := zx_pi_inv h
    clear h
    have h := hNEW
    clear hNEW
    obtain ⟨ee, r, rfl, hNEW⟩ := zx_pr_inv h
    clear h
    have h := hNEW
    clear hNEW
    obtain ⟨⟨b1, b2⟩, hNEW⟩ := zx_it h
    clear h
    have h := hNEW
    clear hNEW
    obtain ⟨b3, hNEW⟩ := zx_in h
    clear h
    have h := hNEW
    clear hNEW
    obtain ⟨rfl, rfl, rfl, rfl⟩ := zx_n_inv h
    have hel : ee < H.1.2.2.1 := hR.lt (by omega)
    rw [List.map_cons, List.map_cons, zx_v_int, zx_v_ref, zx_r_own w b1]
    exact va_lald hx hb hK hR.1 ee 1 (by rw [zx_ws_get hel, zx_e_long b2]) rfl b3 G (kk _ _ _ _ _ hL hR hS hc hs)
  · obtain ⟨i, r, rfl, hNEW⟩ := zx_pi_inv h
    clear h
    have h := hNEW
    clear hNEW
    obtain ⟨ee, r, rfl, hNEW⟩ := zx_pr_inv h
    clear h
    have h := hNEW
    clear hNEW
    obtain ⟨⟨b1, b2⟩, hNEW⟩ := zx_it h
    clear h
    have h := hNEW
    clear hNEW
    obtain ⟨b3, hNEW⟩ := zx_in h
    clear h
    have h := hNEW
    clear hNEW
    obtain ⟨rfl, rfl, rfl, rfl⟩ := zx_n_inv h
    have hel : ee < H.1.2.2.1 := hR.lt (by omega)
    rw [List.map_cons, List.map_cons, zx_v_int, zx_v_ref, zx_r_own w b1]
    have k2 := kk _ _ _ _ _ hL hR hS hc hs
    rw [List.map_cons, ← zx_v_rf] at k2
    rcases b2 with q | q
    · exact zx_aald hx hb hK hR.1 ee 2 (by rw [zx_ws_get hel, zx_e_ii q]) rfl b3 G k2
    · exact zx_aald hx hb hK hR.1 ee 3 (by rw [zx_ws_get hel, zx_e_ll q]) rfl b3 G k2
  · obtain ⟨i, r, rfl, hNEW⟩ := zx_pi_inv h
    clear h
    have h := hNEW
    clear hNEW
    obtain ⟨ee, r, rfl, hNEW⟩ := zx_pr_inv h
    clear h
    have h := hNEW
    clear hNEW
    obtain ⟨⟨b1, b2⟩, hNEW⟩ := zx_it h
    clear h
    have h := hNEW
    clear hNEW
    obtain ⟨b3, hNEW⟩ := zx_in h
    clear h
    have h := hNEW
    clear hNEW
    obtain ⟨rfl, rfl, rfl, rfl⟩ := zx_n_inv h
    obtain ⟨j, rfl⟩ := Nat.exists_eq_add_of_le b1
    have hi : j < P.2.1.length := by omega
    rw [List.map_cons, List.map_cons, zx_v_int, zx_v_ref, zx_r_byt w (by omega)]
    have kq := kk _ _ _ _ _ hL hR hS hc hs
    rw [show 2100000 + j - 2100000 = j by omega] at kq b3
    exact va_tb hx hb (hV.1 j hi).2.2.2 hS (by rw [zx_len8_get hi]; exact b3) rfl G kq
  · obtain ⟨x2, r, rfl, hNEW⟩ := zx_pi_inv h
    clear h
    have h := hNEW
    clear hNEW
    obtain ⟨i, r, rfl, hNEW⟩ := zx_pi_inv h
    clear h
    have h := hNEW
    clear hNEW
    obtain ⟨ee, r, rfl, hNEW⟩ := zx_pr_inv h
    clear h
    have h := hNEW
    clear hNEW
    obtain ⟨⟨b1, b2⟩, hNEW⟩ := zx_it h
    clear h
    have h := hNEW
    clear hNEW
    obtain ⟨b3, hNEW⟩ := zx_in h
    clear h
    have h := hNEW
    clear hNEW
    obtain ⟨rfl, rfl, rfl, rfl⟩ := zx_n_inv h
    have hel : ee < H.1.2.2.1 := hR.lt (by omega)
    rw [List.map_cons, List.map_cons, List.map_cons, zx_v_int, zx_v_int, zx_v_ref, zx_r_own w b1]
    have hws := zx_ws_asti (P := P) (isr := isr) (w := w) (H := H) (k := ee) (i := i.toNatClampNeg) (v := x2) b2
    refine zx_iast hx hb hK hR.1 (zx_D P isr w H) hS ee 0 (by rw [zx_ws_get hel, zx_e_int b2]) rfl b3 G (fun H1 l1 hz g1 g3 => kk _ _ _ _ _ hL ⟨by rw [hws]; exact g1, hz.trans hR.2.1, hR.2.2⟩ g3 hc hs)
  · obtain ⟨x2, r, rfl, hNEW⟩ := zx_pl_inv h
    clear h
    have h := hNEW
    clear hNEW
    obtain ⟨i, r, rfl, hNEW⟩ := zx_pi_inv h
    clear h
    have h := hNEW
    clear hNEW
    obtain ⟨ee, r, rfl, hNEW⟩ := zx_pr_inv h
    clear h
    have h := hNEW
    clear hNEW
    obtain ⟨⟨b1, b2⟩, hNEW⟩ := zx_it h
    clear h
    have h := hNEW
    clear hNEW
    obtain ⟨b3, hNEW⟩ := zx_in h
    clear h
    have h := hNEW
    clear hNEW
    obtain ⟨rfl, rfl, rfl, rfl⟩ := zx_n_inv h
    have hel : ee < H.1.2.2.1 := hR.lt (by omega)
    rw [List.map_cons, List.map_cons, List.map_cons, zx_v_long, zx_v_int, zx_v_ref, zx_r_own w b1]
    have hws := zx_ws_astl (P := P) (isr := isr) (w := w) (H := H) (k := ee) (i := i.toNatClampNeg) (v := x2) b2
    refine zx_last hx hb hK hR.1 (zx_D P isr w H) hS ee 1 (by rw [zx_ws_get hel, zx_e_long b2]) rfl b3 G (fun H1 l1 hz g1 g3 => kk _ _ _ _ _ hL ⟨by rw [hws]; exact g1, hz.trans hR.2.1, hR.2.2⟩ g3 hc hs)
  · unfold zx_call at h
    obtain ⟨-, hNEW⟩ := zx_it h
    clear h
    have h := hNEW
    clear hNEW
    cases h
  · dsimp only [zx_good] at G
    obtain ⟨hd, G⟩ := G
    by_cases k9 : ek = 99
    · rw [if_pos k9] at h G
      obtain ⟨ee, r, rfl, hNEW⟩ := zx_pr_inv h
      clear h
      obtain ⟨hr8, h⟩ := zx_it hNEW
      obtain ⟨rfl, rfl, rfl, rfl⟩ := zx_n_inv h
      obtain ⟨w1, w2, w3⟩ := G
      exact W.objInit (g := F0 m pc lsA (.ref (zx_r w ee) :: r.map (zx_v w))) hx hb hown (hts _ w1) (hts _ w2) (hts _ w3) rfl (by rw [hml]; exact hL.1.trans hlen) rfl hd hfr (by show 2 * 0 + _ + 12 ≤ _; rw [zx_map_cat w hcat]; omega) (kk _ _ _ _ _ hL hR hS hc hs)
    · rw [if_neg k9] at h
      unfold zx_call at h
      obtain ⟨-, hNEW⟩ := zx_it h
      cases hNEW
  · dsimp only [zx_good] at G
    obtain ⟨hd, G⟩ := G
    by_cases k9 : ek = 97
    · rw [if_pos k9] at h G
      unfold zx_mm at h
      obtain ⟨y, r, rfl, h2⟩ := zx_pi_inv h
      clear h
      obtain ⟨x, r, rfl, h3⟩ := zx_pi_inv h2
      clear h2
      obtain ⟨hr8, h⟩ := zx_it h3
      obtain ⟨rfl, rfl, rfl, rfl⟩ := zx_n_inv h
      obtain ⟨w1, w2, w3, w4⟩ := G
      exact va_mmax hx hb (by rw [hml]; exact (hL.1.trans hlen).symm) hown (hts _ w1) (hts _ w2) (hts _ w3) (hts _ w4) hfr (by rw [zx_map_cat w hcat]; omega) (by omega) (by omega) hd (kk _ _ _ _ _ hL hR hS hc hs)
    · rw [if_neg k9] at h G
      by_cases k8 : ek = 98
      · rw [if_pos k8] at h G
        unfold zx_mm at h
        obtain ⟨y, r, rfl, h2⟩ := zx_pi_inv h
        clear h
        obtain ⟨x, r, rfl, h3⟩ := zx_pi_inv h2
        clear h2
        obtain ⟨hr8, h⟩ := zx_it h3
        obtain ⟨rfl, rfl, rfl, rfl⟩ := zx_n_inv h
        obtain ⟨w1, w2, w3, w4⟩ := G
        exact va_mmin hx hb (by rw [hml]; exact (hL.1.trans hlen).symm) hown (hts _ w1) (hts _ w2) (hts _ w3) (hts _ w4) hfr (by rw [zx_map_cat w hcat]; omega) (by omega) (by omega) hd (kk _ _ _ _ _ hL hR hS hc hs)
      · rw [if_neg k8] at h
        unfold zx_call at h
        obtain ⟨-, hNEW⟩ := zx_it h
        cases hNEW
  · split at h
    · obtain ⟨-, hNEW⟩ := zx_it h
      clear h
      have h := hNEW
      clear hNEW
      cases h
    · cases h
  · split at h <;> cases h
  · split at h <;> cases h
  · split at h <;> cases h
  · cases h
