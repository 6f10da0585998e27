/-! ROWS OF THE SMALL MACHINE, an instruction each -/
def zW (X : zX) (d m pc : Nat) (ls st : List Value) (S : zx_S) (C : zx_C) (Q : Option Value → zx_C → Prop) : Prop := zE X d m pc ls st (S, C) (fun r H' => H'.1 = S ∧ Q r H'.2)
def zQi (Q : Int32 → zx_C → Prop) : Option Value → zx_C → Prop := fun r C' => ∃ x, r = some (.int x) ∧ Q x C'
def zQl (Q : Int64 → zx_C → Prop) : Option Value → zx_C → Prop := fun r C' => ∃ x, r = some (.long x) ∧ Q x C'
def zQv (Q : zx_C → Prop) : Option Value → zx_C → Prop := fun r C' => r = none ∧ Q C'
def zp (C : zx_C) (e f : Nat) (v : Int32) : zx_C := (zx_up C.1 e f v, C.2)
def zpl (C : zx_C) (e f : Nat) (v : Int64) : zx_C := (C.1, zx_up C.2 e f v)
/-- a call of a method, at depth d, with its arguments -/
def zCd (X : zX) (d m : Nat) (as : List Value) (S : zx_S) (C : zx_C) (Q : Option Value → zx_C → Prop) : Prop := zW X d m 0 (zx_ent (zt_mt m).2.2.1 as) [] S C Q
section
variable {X : zX} {d m pc n a b : Nat} {k : Int} {ls st r : List Value} {S : zx_S} {C : zx_C} {Q Q' : Option Value → zx_C → Prop}
theorem zW_mono (h : zW X d m pc ls st S C Q) (hQ : ∀ r C', Q r C' → Q' r C') : zW X d m pc ls st S C Q' := zE_mono h (fun r H' q => ⟨q.1, hQ _ _ q.2⟩)
theorem zW_deep {d' : Nat} (hd : d ≤ d') (h : zW X d m pc ls st S C Q) : zW X d' m pc ls st S C Q := zE_deep hd h
theorem zW_det {d' : Nat} (h : zW X d m pc ls st S C Q) (h' : zW X d' m pc ls st S C Q') : zW X d m pc ls st S C (fun r C' => Q r C' ∧ Q' r C') := zE_mono (zE_det h h') (fun _ _ q => ⟨q.1.1, q.1.2, q.2.2⟩)
theorem zw_n {en : zx_En} {ls' st' : List Value} {C' : zx_C} (hc : zt_code m pc = some en) (hs : zx_step (zt_P X) en pc ls st (S, C) = some (.inl (n, ls', st', (S, C')))) (h : zW X d m n ls' st' S C' Q) : zW X d m pc ls st S C Q := zE_next hc hs h

theorem zw_iload {i : Nat} {x : Int32} (hc : zt_code m pc = some (.iload i, a, b, k)) (hn : pc + 2 = n) (hl : ls[i]? = some (.int x)) (h : zW X d m n ls (.int x :: st) S C Q) : zW X d m pc ls (st) S C Q := by
  subst hn
  exact zw_n hc (by show (zx_li ls[i]? _) = _; rw [hl]; rfl) h
theorem zw_iload_n {i : Fin 4} {x : Int32} (hc : zt_code m pc = some (.iload_n i, a, b, k)) (hn : pc + 1 = n) (hl : ls[i.val]? = some (.int x)) (h : zW X d m n ls (.int x :: st) S C Q) : zW X d m pc ls (st) S C Q := by
  subst hn
  exact zw_n hc (by show (zx_li ls[i.val]? _) = _; rw [hl]; rfl) h
theorem zw_istore {i : Nat} {x : Int32} {ls2 : List Value} (hc : zt_code m pc = some (.istore i, a, b, k)) (hn : pc + 2 = n) (hl : Nat.blt i ls.length = true) (h2 : ls.set i (.int x) = ls2) (h : zW X d m n ls2 (r) S C Q) : zW X d m pc ls (.int x :: r) S C Q := by
  subst hn
  exact zw_n hc (by subst h2; show (if i < ls.length then _ else none) = _; rw [if_pos (Nat.blt_eq.mp hl)]; rfl) h
theorem zw_istore_n {i : Fin 4} {x : Int32} {ls2 : List Value} (hc : zt_code m pc = some (.istore_n i, a, b, k)) (hn : pc + 1 = n) (hl : Nat.blt i.val ls.length = true) (h2 : ls.set i.val (.int x) = ls2) (h : zW X d m n ls2 (r) S C Q) : zW X d m pc ls (.int x :: r) S C Q := by
  subst hn
  exact zw_n hc (by subst h2; show (if i.val < ls.length then _ else none) = _; rw [if_pos (Nat.blt_eq.mp hl)]; rfl) h
theorem zw_aload {i : Nat} {x : Nat} (hc : zt_code m pc = some (.aload i, a, b, k)) (hn : pc + 2 = n) (hl : ls[i]? = some (.ref x)) (h : zW X d m n ls (.ref x :: st) S C Q) : zW X d m pc ls (st) S C Q := by
  subst hn
  exact zw_n hc (by show (zx_lr ls[i]? _) = _; rw [hl]; rfl) h
theorem zw_aload_n {i : Fin 4} {x : Nat} (hc : zt_code m pc = some (.aload_n i, a, b, k)) (hn : pc + 1 = n) (hl : ls[i.val]? = some (.ref x)) (h : zW X d m n ls (.ref x :: st) S C Q) : zW X d m pc ls (st) S C Q := by
  subst hn
  exact zw_n hc (by show (zx_lr ls[i.val]? _) = _; rw [hl]; rfl) h
theorem zw_astore {i : Nat} {x : Nat} {ls2 : List Value} (hc : zt_code m pc = some (.astore i, a, b, k)) (hn : pc + 2 = n) (hl : Nat.blt i ls.length = true) (h2 : ls.set i (.ref x) = ls2) (h : zW X d m n ls2 (r) S C Q) : zW X d m pc ls (.ref x :: r) S C Q := by
  subst hn
  exact zw_n hc (by subst h2; show (if i < ls.length then _ else none) = _; rw [if_pos (Nat.blt_eq.mp hl)]; rfl) h
theorem zw_astore_n {i : Fin 4} {x : Nat} {ls2 : List Value} (hc : zt_code m pc = some (.astore_n i, a, b, k)) (hn : pc + 1 = n) (hl : Nat.blt i.val ls.length = true) (h2 : ls.set i.val (.ref x) = ls2) (h : zW X d m n ls2 (r) S C Q) : zW X d m pc ls (.ref x :: r) S C Q := by
  subst hn
  exact zw_n hc (by subst h2; show (if i.val < ls.length then _ else none) = _; rw [if_pos (Nat.blt_eq.mp hl)]; rfl) h
theorem zw_lload {i : Nat} {x : Int64} (hc : zt_code m pc = some (.lload i, a, b, k)) (hn : pc + 2 = n) (hl : ls[i]? = some (.long x)) (hm : ls[i + 1]? = some (.retAddr 1)) (h : zW X d m n ls (.long x :: st) S C Q) : zW X d m pc ls (st) S C Q := by
  subst hn
  exact zw_n hc (by show (zx_ll ls[i]? ls[i + 1]? _) = _; rw [hl, hm]; rfl) h
theorem zw_lload_n {i : Fin 4} {x : Int64} (hc : zt_code m pc = some (.lload_n i, a, b, k)) (hn : pc + 1 = n) (hl : ls[i.val]? = some (.long x)) (hm : ls[i.val + 1]? = some (.retAddr 1)) (h : zW X d m n ls (.long x :: st) S C Q) : zW X d m pc ls (st) S C Q := by
  subst hn
  exact zw_n hc (by show (zx_ll ls[i.val]? ls[i.val + 1]? _) = _; rw [hl, hm]; rfl) h
theorem zw_lstore {i : Nat} {x : Int64} {ls2 : List Value} (hc : zt_code m pc = some (.lstore i, a, b, k)) (hn : pc + 2 = n) (hl : Nat.blt (i + 1) ls.length = true) (h2 : (ls.set i (.long x)).set (i + 1) (.retAddr 1) = ls2) (h : zW X d m n ls2 (r) S C Q) : zW X d m pc ls (.long x :: r) S C Q := by
  subst hn
  exact zw_n hc (by subst h2; show (if i + 1 < ls.length then _ else none) = _; rw [if_pos (Nat.blt_eq.mp hl)]; rfl) h
theorem zw_lstore_n {i : Fin 4} {x : Int64} {ls2 : List Value} (hc : zt_code m pc = some (.lstore_n i, a, b, k)) (hn : pc + 1 = n) (hl : Nat.blt (i.val + 1) ls.length = true) (h2 : (ls.set i.val (.long x)).set (i.val + 1) (.retAddr 1) = ls2) (h : zW X d m n ls2 (r) S C Q) : zW X d m pc ls (.long x :: r) S C Q := by
  subst hn
  exact zw_n hc (by subst h2; show (if i.val + 1 < ls.length then _ else none) = _; rw [if_pos (Nat.blt_eq.mp hl)]; rfl) h
theorem zw_iinc {i : Nat} {q : Int} {x v : Int32} {ls2 : List Value} (hc : zt_code m pc = some (.iinc i q, a, b, k)) (hn : pc + 3 = n) (hl : ls[i]? = some (.int x)) (hv : Int32.ofInt q = v) (h2 : ls.set i (.int (x + v)) = ls2) (h : zW X d m n ls2 (st) S C Q) : zW X d m pc ls (st) S C Q := by
  subst hn
  exact zw_n hc (by subst h2; subst hv; show (zx_li ls[i]? _) = _; rw [hl]; show (if i < ls.length then _ else none) = _; rw [if_pos (List.getElem?_eq_some_iff.mp hl).1]; rfl) h
theorem zw_iconst {q : Int} {v : Int32} (hc : zt_code m pc = some (.iconst q, a, b, k)) (hn : pc + 1 = n) (hv : Int32.ofInt q = v) (h : zW X d m n ls (.int v :: st) S C Q) : zW X d m pc ls (st) S C Q := by
  subst hn
  exact zw_n hc (by subst hv; rfl) h
theorem zw_bipush {q : Int} {v : Int32} (hc : zt_code m pc = some (.bipush q, a, b, k)) (hn : pc + 2 = n) (hv : (Int8.ofInt q).toInt32 = v) (h : zW X d m n ls (.int v :: st) S C Q) : zW X d m pc ls (st) S C Q := by
  subst hn
  exact zw_n hc (by subst hv; rfl) h
theorem zw_sipush {q : Int} {v : Int32} (hc : zt_code m pc = some (.sipush q, a, b, k)) (hn : pc + 3 = n) (hv : (Int16.ofInt q).toInt32 = v) (h : zW X d m n ls (.int v :: st) S C Q) : zW X d m pc ls (st) S C Q := by
  subst hn
  exact zw_n hc (by subst hv; rfl) h
theorem zw_lconst {q : Fin 2} {v : Int64} (hc : zt_code m pc = some (.lconst q, a, b, k)) (hn : pc + 1 = n) (hv : Int64.ofNat (q : Nat) = v) (h : zW X d m n ls (.long v :: st) S C Q) : zW X d m pc ls (st) S C Q := by
  subst hn
  exact zw_n hc (by subst hv; rfl) h
theorem zw_ldci {i : Nat} {q : Int} {v : Int32} (hc : zt_code m pc = some (.ldc i, 0, b, q)) (hn : pc + 2 = n) (hv : Int32.ofInt q = v) (h : zW X d m n ls (.int v :: st) S C Q) : zW X d m pc ls st S C Q := by
  subst hn
  subst hv
  exact zw_n hc rfl h
theorem zw_ldcs {i : Nat} (hc : zt_code m pc = some (.ldc i, 1, b, k)) (hn : pc + 2 = n) (h : zW X d m n ls (.ref (2000000 + b) :: st) S C Q) : zW X d m pc ls st S C Q := by
  subst hn
  exact zw_n hc rfl h
theorem zw_ldcw {i : Nat} {q : Int} {v : Int32} (hc : zt_code m pc = some (.ldc_w i, a, b, q)) (hn : pc + 3 = n) (hv : Int32.ofInt q = v) (h : zW X d m n ls (.int v :: st) S C Q) : zW X d m pc ls st S C Q := by
  subst hn
  subst hv
  exact zw_n hc rfl h
theorem zw_ldc2 {i : Nat} {q : Int} {v : Int64} (hc : zt_code m pc = some (.ldc2_w i, a, b, q)) (hn : pc + 3 = n) (hv : Int64.ofInt q = v) (h : zW X d m n ls (.long v :: st) S C Q) : zW X d m pc ls st S C Q := by
  subst hn
  subst hv
  exact zw_n hc rfl h
theorem zw_iadd {x y : Int32} (hc : zt_code m pc = some (.iadd, a, b, k)) (hn : pc + 1 = n)  (h : zW X d m n ls (.int (x + y) :: r) S C Q) : zW X d m pc ls (.int y :: .int x :: r) S C Q := by
  subst hn
  exact zw_n hc (rfl) h
theorem zw_isub {x y : Int32} (hc : zt_code m pc = some (.isub, a, b, k)) (hn : pc + 1 = n)  (h : zW X d m n ls (.int (x - y) :: r) S C Q) : zW X d m pc ls (.int y :: .int x :: r) S C Q := by
  subst hn
  exact zw_n hc (rfl) h
theorem zw_imul {x y : Int32} (hc : zt_code m pc = some (.imul, a, b, k)) (hn : pc + 1 = n)  (h : zW X d m n ls (.int (x * y) :: r) S C Q) : zW X d m pc ls (.int y :: .int x :: r) S C Q := by
  subst hn
  exact zw_n hc (rfl) h
theorem zw_iand {x y : Int32} (hc : zt_code m pc = some (.iand, a, b, k)) (hn : pc + 1 = n)  (h : zW X d m n ls (.int (x &&& y) :: r) S C Q) : zW X d m pc ls (.int y :: .int x :: r) S C Q := by
  subst hn
  exact zw_n hc (rfl) h
theorem zw_ior {x y : Int32} (hc : zt_code m pc = some (.ior, a, b, k)) (hn : pc + 1 = n)  (h : zW X d m n ls (.int (x ||| y) :: r) S C Q) : zW X d m pc ls (.int y :: .int x :: r) S C Q := by
  subst hn
  exact zw_n hc (rfl) h
theorem zw_ixor {x y : Int32} (hc : zt_code m pc = some (.ixor, a, b, k)) (hn : pc + 1 = n)  (h : zW X d m n ls (.int (x ^^^ y) :: r) S C Q) : zW X d m pc ls (.int y :: .int x :: r) S C Q := by
  subst hn
  exact zw_n hc (rfl) h
theorem zw_ishl {x y : Int32} (hc : zt_code m pc = some (.ishl, a, b, k)) (hn : pc + 1 = n)  (h : zW X d m n ls (.int (x <<< (y &&& 31)) :: r) S C Q) : zW X d m pc ls (.int y :: .int x :: r) S C Q := by
  subst hn
  exact zw_n hc (rfl) h
theorem zw_ishr {x y : Int32} (hc : zt_code m pc = some (.ishr, a, b, k)) (hn : pc + 1 = n)  (h : zW X d m n ls (.int (x >>> (y &&& 31)) :: r) S C Q) : zW X d m pc ls (.int y :: .int x :: r) S C Q := by
  subst hn
  exact zw_n hc (rfl) h
theorem zw_iushr {x y : Int32} (hc : zt_code m pc = some (.iushr, a, b, k)) (hn : pc + 1 = n)  (h : zW X d m n ls (.int ((x.toUInt32 >>> (y.toUInt32 &&& Int32.toUInt32 31)).toInt32) :: r) S C Q) : zW X d m pc ls (.int y :: .int x :: r) S C Q := by
  subst hn
  exact zw_n hc (rfl) h
theorem zw_idiv {x y : Int32} (hc : zt_code m pc = some (.idiv, a, b, k)) (hn : pc + 1 = n) (hy : ¬ y = 0) (h : zW X d m n ls (.int (x / y) :: r) S C Q) : zW X d m pc ls (.int y :: .int x :: r) S C Q := by
  subst hn
  exact zw_n hc (by show (if y = 0 then none else _) = _; rw [if_neg hy]; rfl) h
theorem zw_irem {x y : Int32} (hc : zt_code m pc = some (.irem, a, b, k)) (hn : pc + 1 = n) (hy : ¬ y = 0) (h : zW X d m n ls (.int (x - x / y * y) :: r) S C Q) : zW X d m pc ls (.int y :: .int x :: r) S C Q := by
  subst hn
  exact zw_n hc (by show (if y = 0 then none else _) = _; rw [if_neg hy]; rfl) h
theorem zw_ladd {x y : Int64} (hc : zt_code m pc = some (.ladd, a, b, k)) (hn : pc + 1 = n)  (h : zW X d m n ls (.long (x + y) :: r) S C Q) : zW X d m pc ls (.long y :: .long x :: r) S C Q := by
  subst hn
  exact zw_n hc (rfl) h
theorem zw_lsub {x y : Int64} (hc : zt_code m pc = some (.lsub, a, b, k)) (hn : pc + 1 = n)  (h : zW X d m n ls (.long (x - y) :: r) S C Q) : zW X d m pc ls (.long y :: .long x :: r) S C Q := by
  subst hn
  exact zw_n hc (rfl) h
theorem zw_lmul {x y : Int64} (hc : zt_code m pc = some (.lmul, a, b, k)) (hn : pc + 1 = n)  (h : zW X d m n ls (.long (x * y) :: r) S C Q) : zW X d m pc ls (.long y :: .long x :: r) S C Q := by
  subst hn
  exact zw_n hc (rfl) h
theorem zw_land {x y : Int64} (hc : zt_code m pc = some (.land, a, b, k)) (hn : pc + 1 = n)  (h : zW X d m n ls (.long (x &&& y) :: r) S C Q) : zW X d m pc ls (.long y :: .long x :: r) S C Q := by
  subst hn
  exact zw_n hc (rfl) h
theorem zw_lor {x y : Int64} (hc : zt_code m pc = some (.lor, a, b, k)) (hn : pc + 1 = n)  (h : zW X d m n ls (.long (x ||| y) :: r) S C Q) : zW X d m pc ls (.long y :: .long x :: r) S C Q := by
  subst hn
  exact zw_n hc (rfl) h
theorem zw_ldiv {x y : Int64} (hc : zt_code m pc = some (.ldiv, a, b, k)) (hn : pc + 1 = n) (hy : ¬ y = 0) (h : zW X d m n ls (.long (x / y) :: r) S C Q) : zW X d m pc ls (.long y :: .long x :: r) S C Q := by
  subst hn
  exact zw_n hc (by show (if y = 0 then none else _) = _; rw [if_neg hy]; rfl) h
theorem zw_lrem {x y : Int64} (hc : zt_code m pc = some (.lrem, a, b, k)) (hn : pc + 1 = n) (hy : ¬ y = 0) (h : zW X d m n ls (.long (x - x / y * y) :: r) S C Q) : zW X d m pc ls (.long y :: .long x :: r) S C Q := by
  subst hn
  exact zw_n hc (by show (if y = 0 then none else _) = _; rw [if_neg hy]; rfl) h
theorem zw_lshl {x : Int64} {y : Int32} (hc : zt_code m pc = some (.lshl, a, b, k)) (hn : pc + 1 = n)  (h : zW X d m n ls (.long (x <<< (y.toInt64 &&& 63)) :: r) S C Q) : zW X d m pc ls (.int y :: .long x :: r) S C Q := by
  subst hn
  exact zw_n hc (rfl) h
theorem zw_lcmp {x y : Int64} (hc : zt_code m pc = some (.lcmp, a, b, k)) (hn : pc + 1 = n)  (h : zW X d m n ls (.int (lg_cmp x y) :: r) S C Q) : zW X d m pc ls (.long y :: .long x :: r) S C Q := by
  subst hn
  exact zw_n hc (rfl) h
theorem zw_ineg {x : Int32} (hc : zt_code m pc = some (.ineg, a, b, k)) (hn : pc + 1 = n)  (h : zW X d m n ls (.int (-x) :: r) S C Q) : zW X d m pc ls (.int x :: r) S C Q := by
  subst hn
  exact zw_n hc (rfl) h
theorem zw_lneg {x : Int64} (hc : zt_code m pc = some (.lneg, a, b, k)) (hn : pc + 1 = n)  (h : zW X d m n ls (.long (-x) :: r) S C Q) : zW X d m pc ls (.long x :: r) S C Q := by
  subst hn
  exact zw_n hc (rfl) h
theorem zw_i2l {x : Int32} (hc : zt_code m pc = some (.i2l, a, b, k)) (hn : pc + 1 = n)  (h : zW X d m n ls (.long (x.toInt64) :: r) S C Q) : zW X d m pc ls (.int x :: r) S C Q := by
  subst hn
  exact zw_n hc (rfl) h
theorem zw_l2i {x : Int64} (hc : zt_code m pc = some (.l2i, a, b, k)) (hn : pc + 1 = n)  (h : zW X d m n ls (.int (x.toInt32) :: r) S C Q) : zW X d m pc ls (.long x :: r) S C Q := by
  subst hn
  exact zw_n hc (rfl) h
theorem zw_i2b {x : Int32} (hc : zt_code m pc = some (.i2b, a, b, k)) (hn : pc + 1 = n)  (h : zW X d m n ls (.int (x.toInt8.toInt32) :: r) S C Q) : zW X d m pc ls (.int x :: r) S C Q := by
  subst hn
  exact zw_n hc (rfl) h
theorem zw_i2s {x : Int32} (hc : zt_code m pc = some (.i2s, a, b, k)) (hn : pc + 1 = n)  (h : zW X d m n ls (.int (x.toInt16.toInt32) :: r) S C Q) : zW X d m pc ls (.int x :: r) S C Q := by
  subst hn
  exact zw_n hc (rfl) h
theorem zw_i2c {x : Int32} (hc : zt_code m pc = some (.i2c, a, b, k)) (hn : pc + 1 = n)  (h : zW X d m n ls (.int ((x.toUInt32 % 65536).toInt32) :: r) S C Q) : zW X d m pc ls (.int x :: r) S C Q := by
  subst hn
  exact zw_n hc (rfl) h
theorem zw_dup {v : Value} (hc : zt_code m pc = some (.dup, a, b, k)) (hn : pc + 1 = n) (hv : v.category = 1) (h : zW X d m n ls (v :: v :: r) S C Q) : zW X d m pc ls (v :: r) S C Q := by
  subst hn
  exact zw_n hc (by show (if v.category = 1 then _ else none) = _; rw [if_pos hv]; rfl) h
theorem zw_pop {v : Value} (hc : zt_code m pc = some (.pop, a, b, k)) (hn : pc + 1 = n) (hv : v.category = 1) (h : zW X d m n ls (r) S C Q) : zW X d m pc ls (v :: r) S C Q := by
  subst hn
  exact zw_n hc (by show (if v.category = 1 then _ else none) = _; rw [if_pos hv]; rfl) h
theorem zw_dup_x1 {v u : Value} (hc : zt_code m pc = some (.dup_x1, a, b, k)) (hn : pc + 1 = n) (hv : v.category = 1) (hu : u.category = 1) (h : zW X d m n ls (v :: u :: v :: r) S C Q) : zW X d m pc ls (v :: u :: r) S C Q := by
  subst hn
  exact zw_n hc (by show (if v.category = 1 then (if u.category = 1 then _ else none) else none) = _; rw [if_pos hv, if_pos hu]; rfl) h
theorem zw_dup2 {v u : Value} (hc : zt_code m pc = some (.dup2, a, b, k)) (hn : pc + 1 = n) (hv : v.category = 1) (hu : u.category = 1) (h : zW X d m n ls (v :: u :: v :: u :: r) S C Q) : zW X d m pc ls (v :: u :: r) S C Q := by
  subst hn
  exact zw_n hc (by show (if v.category = 1 then (if u.category = 1 then _ else none) else none) = _; rw [if_pos hv, if_pos hu]; rfl) h
theorem zw_goto {q : Int} (hc : zt_code m pc = some (.goto q, a, n, k)) (h : zW X d m n ls st S C Q) : zW X d m pc ls st S C Q := zw_n hc rfl h
theorem zw_ite {c : Prop} {dc : Decidable c} {t f : Nat} (h : @ite _ c dc (zW X d m t ls st S C Q) (zW X d m f ls st S C Q)) : zW X d m (@ite _ c dc t f) ls st S C Q := by
  by_cases hc : c
  · rw [if_pos hc] at h ⊢
    exact h
  · rw [if_neg hc] at h ⊢
    exact h
theorem zite {c : Prop} {dc : Decidable c} {A B A' B' : Prop} (h : @ite _ c dc A B) (h1 : A → A') (h2 : B → B') : @ite _ c dc A' B' := by
  by_cases hc : c
  · rw [if_pos hc] at h ⊢
    exact h1 h
  · rw [if_neg hc] at h ⊢
    exact h2 h
theorem zw_if_eq {q : Int} {t : Nat} {x : Int32} (hc : zt_code m pc = some (.ifCond .eq q, a, t, k)) (hn : pc + 3 = n) (h : if x = 0 then zW X d m t ls r S C Q else zW X d m n ls r S C Q) : zW X d m pc ls (.int x :: r) S C Q := by
  subst hn
  exact zw_n (n := if x = 0 then t else pc + 3) hc rfl (zw_ite h)
theorem zw_ic_eq {q : Int} {t : Nat} {x y : Int32} (hc : zt_code m pc = some (.if_icmp .eq q, a, t, k)) (hn : pc + 3 = n) (h : if x = y then zW X d m t ls r S C Q else zW X d m n ls r S C Q) : zW X d m pc ls (.int y :: .int x :: r) S C Q := by
  subst hn
  exact zw_n (n := if x = y then t else pc + 3) hc rfl (zw_ite h)
theorem zw_if_ne {q : Int} {t : Nat} {x : Int32} (hc : zt_code m pc = some (.ifCond .ne q, a, t, k)) (hn : pc + 3 = n) (h : if x = 0 then zW X d m n ls r S C Q else zW X d m t ls r S C Q) : zW X d m pc ls (.int x :: r) S C Q := by
  subst hn
  exact zw_n (n := if x = 0 then pc + 3 else t) hc rfl (zw_ite h)
theorem zw_ic_ne {q : Int} {t : Nat} {x y : Int32} (hc : zt_code m pc = some (.if_icmp .ne q, a, t, k)) (hn : pc + 3 = n) (h : if x = y then zW X d m n ls r S C Q else zW X d m t ls r S C Q) : zW X d m pc ls (.int y :: .int x :: r) S C Q := by
  subst hn
  exact zw_n (n := if x = y then pc + 3 else t) hc rfl (zw_ite h)
theorem zw_if_lt {q : Int} {t : Nat} {x : Int32} (hc : zt_code m pc = some (.ifCond .lt q, a, t, k)) (hn : pc + 3 = n) (h : if x < 0 then zW X d m t ls r S C Q else zW X d m n ls r S C Q) : zW X d m pc ls (.int x :: r) S C Q := by
  subst hn
  exact zw_n (n := if x < 0 then t else pc + 3) hc rfl (zw_ite h)
theorem zw_ic_lt {q : Int} {t : Nat} {x y : Int32} (hc : zt_code m pc = some (.if_icmp .lt q, a, t, k)) (hn : pc + 3 = n) (h : if x < y then zW X d m t ls r S C Q else zW X d m n ls r S C Q) : zW X d m pc ls (.int y :: .int x :: r) S C Q := by
  subst hn
  exact zw_n (n := if x < y then t else pc + 3) hc rfl (zw_ite h)
theorem zw_if_ge {q : Int} {t : Nat} {x : Int32} (hc : zt_code m pc = some (.ifCond .ge q, a, t, k)) (hn : pc + 3 = n) (h : if x < 0 then zW X d m n ls r S C Q else zW X d m t ls r S C Q) : zW X d m pc ls (.int x :: r) S C Q := by
  subst hn
  exact zw_n (n := if x < 0 then pc + 3 else t) hc rfl (zw_ite h)
theorem zw_ic_ge {q : Int} {t : Nat} {x y : Int32} (hc : zt_code m pc = some (.if_icmp .ge q, a, t, k)) (hn : pc + 3 = n) (h : if x < y then zW X d m n ls r S C Q else zW X d m t ls r S C Q) : zW X d m pc ls (.int y :: .int x :: r) S C Q := by
  subst hn
  exact zw_n (n := if x < y then pc + 3 else t) hc rfl (zw_ite h)
theorem zw_if_gt {q : Int} {t : Nat} {x : Int32} (hc : zt_code m pc = some (.ifCond .gt q, a, t, k)) (hn : pc + 3 = n) (h : if 0 < x then zW X d m t ls r S C Q else zW X d m n ls r S C Q) : zW X d m pc ls (.int x :: r) S C Q := by
  subst hn
  exact zw_n (n := if 0 < x then t else pc + 3) hc rfl (zw_ite h)
theorem zw_ic_gt {q : Int} {t : Nat} {x y : Int32} (hc : zt_code m pc = some (.if_icmp .gt q, a, t, k)) (hn : pc + 3 = n) (h : if y < x then zW X d m t ls r S C Q else zW X d m n ls r S C Q) : zW X d m pc ls (.int y :: .int x :: r) S C Q := by
  subst hn
  exact zw_n (n := if y < x then t else pc + 3) hc rfl (zw_ite h)
theorem zw_if_le {q : Int} {t : Nat} {x : Int32} (hc : zt_code m pc = some (.ifCond .le q, a, t, k)) (hn : pc + 3 = n) (h : if 0 < x then zW X d m n ls r S C Q else zW X d m t ls r S C Q) : zW X d m pc ls (.int x :: r) S C Q := by
  subst hn
  exact zw_n (n := if 0 < x then pc + 3 else t) hc rfl (zw_ite h)
theorem zw_ic_le {q : Int} {t : Nat} {x y : Int32} (hc : zt_code m pc = some (.if_icmp .le q, a, t, k)) (hn : pc + 3 = n) (h : if y < x then zW X d m n ls r S C Q else zW X d m t ls r S C Q) : zW X d m pc ls (.int y :: .int x :: r) S C Q := by
  subst hn
  exact zw_n (n := if y < x then pc + 3 else t) hc rfl (zw_ite h)
theorem zw_ifnull {q : Int} {x : Nat} (hc : zt_code m pc = some (.ifnull q, a, b, k)) (hn : pc + 3 = n) (h : zW X d m n ls r S C Q) : zW X d m pc ls (.ref x :: r) S C Q := by
  subst hn
  exact zw_n hc rfl h
theorem zw_ifnonnull {q : Int} {x : Nat} (hc : zt_code m pc = some (.ifnonnull q, a, n, k)) (h : zW X d m n ls r S C Q) : zW X d m pc ls (.ref x :: r) S C Q := zw_n hc rfl h
theorem zw_sw0 {x : Int32} {e : Int} {i : Int} {t : Nat} (ht : ((pc : Int) + e).toNat = t) (h : zW X d m t ls r S C Q) : zW X d m (zx_sw pc e x i []) ls r S C Q := by
  subst ht
  exact h
theorem zw_sw1 {x : Int32} {e f : Int} {i : Int} {os : List Int} {t : Nat} (ht : ((pc : Int) + f).toNat = t) (h : if x.toInt = i then zW X d m t ls r S C Q else zW X d m (zx_sw pc e x (i + 1) os) ls r S C Q) : zW X d m (zx_sw pc e x i (f :: os)) ls r S C Q := by
  subst ht
  unfold zx_sw
  exact zw_ite h
theorem zw_tsw {x : Int32} {e lo hi : Int} {offs : Array Int} {os : List Int} (hc : zt_code m pc = some (.tableswitch e lo hi offs, a, b, k)) (ho : offs.toList = os) (h : zW X d m (zx_sw pc e x lo os) ls r S C Q) : zW X d m pc ls (.int x :: r) S C Q := by
  subst ho
  exact zw_n hc rfl h
theorem zw_geti {j e f ci : Nat} (hc : zt_code m pc = some (.getfield j, ci, f, 0)) (hn : pc + 3 = n) (he : e < 900000) (hk : (S.1 e).1 = ci) (h : zW X d m n ls (.int (C.1 e f) :: r) S C Q) : zW X d m pc ls (.ref e :: r) S C Q := by
  subst hn
  refine zw_n hc ?_ h
  show (if e < 900000 ∧ (S.1 e).1 = ci then _ else none) = _
  rw [if_pos ⟨he, hk⟩]
  rfl
theorem zw_getr {j e f ci x : Nat} (hc : zt_code m pc = some (.getfield j, ci, f, 1)) (hn : pc + 3 = n) (he : e < 900000) (hk : (S.1 e).1 = ci) (hr : S.2.1 e f = some x) (h : zW X d m n ls (.ref x :: r) S C Q) : zW X d m pc ls (.ref e :: r) S C Q := by
  subst hn
  refine zw_n hc ?_ h
  show (if e < 900000 ∧ (S.1 e).1 = ci then zx_n (pc + 3) ls (va_rf (S.2.1 e f) :: r) (S, C) else none) = _
  rw [if_pos ⟨he, hk⟩, hr]
  rfl
theorem zw_puti {j e f ci : Nat} {v : Int32} (hc : zt_code m pc = some (.putfield j, ci, f, 0)) (hn : pc + 3 = n) (he : e < 900000) (hk : (S.1 e).1 = ci) (h : zW X d m n ls r S (zp C e f v) Q) : zW X d m pc ls (.int v :: .ref e :: r) S C Q := by
  subst hn
  refine zw_n hc ?_ h
  show (if e < 900000 ∧ (S.1 e).1 = ci ∧ ((0 : Int) = 4 → v = 0 ∨ v = 1) then _ else none) = _
  rw [if_pos ⟨he, hk, fun q => absurd q (by decide)⟩]
  rfl
theorem zw_putz {j e f ci : Nat} {v : Int32} (hc : zt_code m pc = some (.putfield j, ci, f, 4)) (hn : pc + 3 = n) (he : e < 900000) (hk : (S.1 e).1 = ci) (hv : v = 0 ∨ v = 1) (h : zW X d m n ls r S (zp C e f v) Q) : zW X d m pc ls (.int v :: .ref e :: r) S C Q := by
  subst hn
  refine zw_n hc ?_ h
  show (if e < 900000 ∧ (S.1 e).1 = ci ∧ ((4 : Int) = 4 → v = 0 ∨ v = 1) then _ else none) = _
  rw [if_pos ⟨he, hk, fun _ => hv⟩]
  rfl
theorem zw_alen {e c len : Nat} {v : Int32} (hc : zt_code m pc = some (.arraylength, a, b, k)) (hn : pc + 1 = n) (he : e < 900000) (hk : S.1 e = (c, len)) (h1 : 10 ≤ c ∧ c ≤ 13) (hv : Int32.ofNat len = v) (h : zW X d m n ls (.int v :: r) S C Q) : zW X d m pc ls (.ref e :: r) S C Q := by
  subst hn
  subst hv
  refine zw_n hc ?_ h
  show zx_len (zt_P X) (S, C) e (fun n => zx_n (pc + 1) ls (.int (Int32.ofNat n) :: r) (S, C)) = _
  unfold zx_len
  rw [if_pos he]
  show (if 10 ≤ (S.1 e).1 ∧ (S.1 e).1 ≤ 13 then _ else none) = _
  rw [hk, if_pos h1]
  rfl
theorem zw_iald {e len : Nat} {i : Int32} (hc : zt_code m pc = some (.iaload, a, b, k)) (hn : pc + 1 = n) (he : e < 900000) (hk : S.1 e = (10, len)) (hi : vp_in i len) (h : zW X d m n ls (.int (C.1 e i.toNatClampNeg) :: r) S C Q) : zW X d m pc ls (.int i :: .ref e :: r) S C Q := by
  subst hn
  refine zw_n hc ?_ h
  show zx_ld (zt_P X) (S, C) e i (fun v => zx_n (pc + 1) ls (.int v :: r) (S, C)) = _
  unfold zx_ld
  rw [if_pos he]
  show (if (S.1 e).1 = 10 then (if i < 0 ∨ (S.1 e).2 ≤ i.toNatClampNeg then none else _) else none) = _
  rw [hk, if_pos rfl, if_neg hi]
  rfl
theorem zw_iast {e len : Nat} {i v : Int32} (hc : zt_code m pc = some (.iastore, a, b, k)) (hn : pc + 1 = n) (he : e < 900000) (hk : S.1 e = (10, len)) (hi : vp_in i len) (h : zW X d m n ls r S (zp C e i.toNatClampNeg v) Q) : zW X d m pc ls (.int v :: .int i :: .ref e :: r) S C Q := by
  subst hn
  refine zw_n hc ?_ h
  show (if e < 900000 ∧ (S.1 e).1 = 10 then (if i < 0 ∨ (S.1 e).2 ≤ i.toNatClampNeg then none else _) else none) = _
  rw [hk, if_pos ⟨he, rfl⟩, if_neg hi]
  rfl
theorem zw_lald {e len : Nat} {i : Int32} (hc : zt_code m pc = some (.laload, a, b, k)) (hn : pc + 1 = n) (he : e < 900000) (hk : S.1 e = (11, len)) (hi : vp_in i len) (h : zW X d m n ls (.long (C.2 e i.toNatClampNeg) :: r) S C Q) : zW X d m pc ls (.int i :: .ref e :: r) S C Q := by
  subst hn
  refine zw_n hc ?_ h
  show (if e < 900000 ∧ (S.1 e).1 = 11 then (if i < 0 ∨ (S.1 e).2 ≤ i.toNatClampNeg then none else _) else none) = _
  rw [hk, if_pos ⟨he, rfl⟩, if_neg hi]
  rfl
theorem zw_last {e len : Nat} {i : Int32} {v : Int64} (hc : zt_code m pc = some (.lastore, a, b, k)) (hn : pc + 1 = n) (he : e < 900000) (hk : S.1 e = (11, len)) (hi : vp_in i len) (h : zW X d m n ls r S (zpl C e i.toNatClampNeg v) Q) : zW X d m pc ls (.long v :: .int i :: .ref e :: r) S C Q := by
  subst hn
  refine zw_n hc ?_ h
  show (if e < 900000 ∧ (S.1 e).1 = 11 then (if i < 0 ∨ (S.1 e).2 ≤ i.toNatClampNeg then none else _) else none) = _
  rw [hk, if_pos ⟨he, rfl⟩, if_neg hi]
  rfl
theorem zw_aald {e len c x : Nat} {i : Int32} (hc : zt_code m pc = some (.aaload, a, b, k)) (hn : pc + 1 = n) (he : e < 900000) (hk : S.1 e = (c, len)) (h1 : c = 12 ∨ c = 13) (hi : vp_in i len) (hr : S.2.1 e i.toNatClampNeg = some x) (h : zW X d m n ls (.ref x :: r) S C Q) : zW X d m pc ls (.int i :: .ref e :: r) S C Q := by
  subst hn
  refine zw_n hc ?_ h
  show (if e < 900000 ∧ ((S.1 e).1 = 12 ∨ (S.1 e).1 = 13) then (if i < 0 ∨ (S.1 e).2 ≤ i.toNatClampNeg then none else zx_n (pc + 1) ls (va_rf (S.2.1 e i.toNatClampNeg) :: r) (S, C)) else none) = _
  rw [hk, if_pos ⟨he, h1⟩, if_neg hi, hr]
  rfl
theorem zw_math {j : Nat} {x y v : Int32} (hc : zt_code m pc = some (.invokestatic j, a, b, k)) (hn : pc + 3 = n) (hk : (k = 97 ∧ (if x < y then y else x) = v) ∨ (k = 98 ∧ (if y < x then y else x) = v)) (hr : Nat.ble ((r.map fun v => v.category).sum) 8 = true) (h : zW X d m n ls (.int v :: r) S C Q) : zW X d m pc ls (.int y :: .int x :: r) S C Q := by
  subst hn
  have h8 := Nat.le_of_ble_eq_true hr
  refine zw_n hc ?_ h
  rcases hk with ⟨rfl, rfl⟩ | ⟨rfl, rfl⟩
  · show (if (r.map fun v => v.category).sum ≤ 8 then _ else none) = _
    rw [if_pos h8]
    rfl
  · show (if (r.map fun v => v.category).sum ≤ 8 then _ else none) = _
    rw [if_pos h8]
    rfl
theorem zw_iret {x : Int32} (hc : zt_code m pc = some (.ireturn, a, b, k)) (hx : zx_rb a x = true) (h : Q (some (.int x)) C) : zW X d m pc ls [.int x] S C Q := zE_ret hc (by show (if zx_rb a x = true then _ else none) = _; rw [if_pos hx]) ⟨rfl, h⟩
theorem zw_lret {x : Int64} (hc : zt_code m pc = some (.lreturn, a, b, k)) (h : Q (some (.long x)) C) : zW X d m pc ls [.long x] S C Q := zE_ret hc rfl ⟨rfl, h⟩
theorem zw_ret (hc : zt_code m pc = some (.return_, a, b, k)) (h : Q none C) : zW X d m pc ls [] S C Q := zE_ret hc rfl ⟨rfl, h⟩
theorem zw_call {m' d' : Nat} {en : zx_En} {as rest : List Value} (hc : zt_code m pc = some en) (hs : zx_step (zt_P X) en pc ls st (S, C) = some (.inr (.inr (m', as, rest)))) (ha : zx_aok (zt_mt m').2.2.1 as = true) (hd : d' + 1 ≤ d) (hn : pc + 3 = n) (h : zCd X d' m' as S C (fun v C1 => zW X d m n ls (v.toList ++ rest) S C1 Q)) : zW X d m pc ls st S C Q := by
  subst hn
  obtain ⟨d2, rfl⟩ : ∃ d2, d = d2 + 1 := ⟨d - 1, by omega⟩
  refine zE_call hc hs ha (zE_mono (zE_deep (show d' ≤ d2 by omega) h) (fun v H1 q => ?_))
  obtain ⟨S1, C1⟩ := H1
  obtain ⟨q1, q2⟩ := q
  dsimp only at q1
  subst q1
  exact q2
theorem zw_cI {m' d' : Nat} {en : zx_En} {as rest : List Value} (hc : zt_code m pc = some en) (hs : zx_step (zt_P X) en pc ls st (S, C) = some (.inr (.inr (m', as, rest)))) (ha : zx_aok (zt_mt m').2.2.1 as = true) (hd : d' + 1 ≤ d) (hn : pc + 3 = n) (h : zCd X d' m' as S C (zQi fun x C1 => zW X d m n ls (.int x :: rest) S C1 Q)) : zW X d m pc ls st S C Q :=
  zw_call hc hs ha hd hn (zW_mono h (fun v C1 q => by obtain ⟨x, rfl, q2⟩ := q; exact q2))
theorem zw_cL {m' d' : Nat} {en : zx_En} {as rest : List Value} (hc : zt_code m pc = some en) (hs : zx_step (zt_P X) en pc ls st (S, C) = some (.inr (.inr (m', as, rest)))) (ha : zx_aok (zt_mt m').2.2.1 as = true) (hd : d' + 1 ≤ d) (hn : pc + 3 = n) (h : zCd X d' m' as S C (zQl fun x C1 => zW X d m n ls (.long x :: rest) S C1 Q)) : zW X d m pc ls st S C Q :=
  zw_call hc hs ha hd hn (zW_mono h (fun v C1 q => by obtain ⟨x, rfl, q2⟩ := q; exact q2))
theorem zw_cV {m' d' : Nat} {en : zx_En} {as rest : List Value} (hc : zt_code m pc = some en) (hs : zx_step (zt_P X) en pc ls st (S, C) = some (.inr (.inr (m', as, rest)))) (ha : zx_aok (zt_mt m').2.2.1 as = true) (hd : d' + 1 ≤ d) (hn : pc + 3 = n) (h : zCd X d' m' as S C (zQv fun C1 => zW X d m n ls rest S C1 Q)) : zW X d m pc ls st S C Q :=
  zw_call hc hs ha hd hn (zW_mono h (fun v C1 q => by obtain ⟨rfl, q2⟩ := q; exact q2))
/-- an instance call on an object of ours -/
theorem zs_V {j m' na e : Nat} {q : Int} {as rest : List Value} (h1 : Nat.ble na st.length = true) (h2 : (st.take na).reverse = .ref e :: as) (h3 : st.drop na = rest) (h4 : Nat.ble ((rest.map fun v => v.category).sum) 8 = true) (hq : 0 ≤ q ∧ q < 6) (he : e < 900000) (hk : (((S.1 e).1 : Nat) : Int) = q) : zx_step (zt_P X) (.invokevirtual j, m', na, q) pc ls st (S, C) = some (.inr (.inr (m', .ref e :: as, rest))) := by
  have hrc : zx_rc (zt_P X) (S, C) q (.ref e :: as) = true := by
    unfold zx_rc
    rw [if_neg (by omega)]
    dsimp only
    rw [if_neg (by omega), if_neg (by omega), decide_eq_true he, decide_eq_true hk]
    rfl
  show zx_call (zt_P X) (.invokevirtual j, m', na, q) st (S, C) = _
  unfold zx_call
  dsimp only
  rw [h2, h3, if_pos ⟨Nat.le_of_ble_eq_true h1, hrc, Nat.le_of_ble_eq_true h4⟩]
/-- .. on a text -/
theorem zs_T {j m' na i : Nat} {as rest : List Value} (h1 : Nat.ble na st.length = true) (h2 : (st.take na).reverse = .ref (2000000 + i) :: as) (h3 : st.drop na = rest) (h4 : Nat.ble ((rest.map fun v => v.category).sum) 8 = true) (hi : i < 7) : zx_step (zt_P X) (.invokevirtual j, m', na, 6) pc ls st (S, C) = some (.inr (.inr (m', .ref (2000000 + i) :: as, rest))) := by
  have hrc : zx_rc (zt_P X) (S, C) 6 (.ref (2000000 + i) :: as) = true := by
    unfold zx_rc
    rw [if_neg (by omega)]
    dsimp only
    rw [if_neg (by omega), if_pos rfl]
    exact decide_eq_true ⟨Nat.le_add_right _ _, Nat.add_lt_add_left hi _⟩
  show zx_call (zt_P X) (.invokevirtual j, m', na, 6) st (S, C) = _
  unfold zx_call
  dsimp only
  rw [h2, h3, if_pos ⟨Nat.le_of_ble_eq_true h1, hrc, Nat.le_of_ble_eq_true h4⟩]
theorem zs_S {j m' na : Nat} {as rest : List Value} (h1 : Nat.ble na st.length = true) (h2 : (st.take na).reverse = as) (h3 : st.drop na = rest) (h4 : Nat.ble ((rest.map fun v => v.category).sum) 8 = true) : zx_step (zt_P X) (.invokestatic j, m', na, -1) pc ls st (S, C) = some (.inr (.inr (m', as, rest))) := by
  have hrc : zx_rc (zt_P X) (S, C) (-1) as = true := by
    unfold zx_rc
    rw [if_pos rfl]
  have e : zx_step (zt_P X) (.invokestatic j, m', na, -1) pc ls st (S, C) = zx_call (zt_P X) (.invokestatic j, m', na, -1) st (S, C) := rfl
  rw [e]
  unfold zx_call
  dsimp only
  rw [h2, h3, if_pos ⟨Nat.le_of_ble_eq_true h1, hrc, Nat.le_of_ble_eq_true h4⟩]
/-- a call's start -/
theorem zc_in {mx : Nat} {as ls0 : List Value} (hm : (zt_mt m).2.2.1 = mx) (he : zx_ent mx as = ls0) (h : zW X d m 0 ls0 [] S C Q) : zCd X d m as S C Q := by
  unfold zCd
  rw [hm, he]
  exact h
theorem zc_mI {as : List Value} {q q' : Int32 → zx_C → Prop} (h : zCd X d m as S C (zQi q)) (hq : ∀ x C1, q x C1 → q' x C1) : zCd X d m as S C (zQi q') := zW_mono h (fun v C1 w => by obtain ⟨x, e, w2⟩ := w; exact ⟨x, e, hq _ _ w2⟩)
theorem zc_mL {as : List Value} {q q' : Int64 → zx_C → Prop} (h : zCd X d m as S C (zQl q)) (hq : ∀ x C1, q x C1 → q' x C1) : zCd X d m as S C (zQl q') := zW_mono h (fun v C1 w => by obtain ⟨x, e, w2⟩ := w; exact ⟨x, e, hq _ _ w2⟩)
theorem zc_mV {as : List Value} {q q' : zx_C → Prop} (h : zCd X d m as S C (zQv q)) (hq : ∀ C1, q C1 → q' C1) : zCd X d m as S C (zQv q') := zW_mono h (fun v C1 w => ⟨w.1, hq _ w.2⟩)
/-- one end alone: from 'it ends so' to 'it says so exactly if the end does' -/
theorem zc_eI {as : List Value} {x : Int32} {C1 : zx_C} (h : ∀ q : Int32 → zx_C → Prop, q x C1 → zCd X d m as S C (zQi q)) (q : Int32 → zx_C → Prop) : zCd X d m as S C (zQi q) = q x C1 := by
  refine propext ⟨fun h2 => ?_, h q⟩
  obtain ⟨n, r, H', -, -, ⟨y, e1, e2, e3⟩, ⟨z, e4, e5⟩⟩ := zW_det (h (fun y D => y = x ∧ D = C1) ⟨rfl, rfl⟩) h2
  cases e1.symm.trans e4
  rw [← e2, ← e3]
  exact e5
theorem zc_eL {as : List Value} {x : Int64} {C1 : zx_C} (h : ∀ q : Int64 → zx_C → Prop, q x C1 → zCd X d m as S C (zQl q)) (q : Int64 → zx_C → Prop) : zCd X d m as S C (zQl q) = q x C1 := by
  refine propext ⟨fun h2 => ?_, h q⟩
  obtain ⟨n, r, H', -, -, ⟨y, e1, e2, e3⟩, ⟨z, e4, e5⟩⟩ := zW_det (h (fun y D => y = x ∧ D = C1) ⟨rfl, rfl⟩) h2
  cases e1.symm.trans e4
  rw [← e2, ← e3]
  exact e5
theorem zc_eV {as : List Value} {C1 : zx_C} (h : ∀ q : zx_C → Prop, q C1 → zCd X d m as S C (zQv q)) (q : zx_C → Prop) : zCd X d m as S C (zQv q) = q C1 := by
  refine propext ⟨fun h2 => ?_, h q⟩
  obtain ⟨n, r, H', -, -, ⟨e1, e3⟩, ⟨e4, e5⟩⟩ := zW_det (h (fun D => D = C1) rfl) h2
  rw [← e3]
  exact e5
end
