/-! A SMALL MACHINE: the method's own instructions, run over a heap of numbered cells (kinds, int contents, long contents, references). Nothing here speaks of the big machine; part 03 says that what the small one does the big one does. -/
/-- kinds of the cells (class, 0; 10 ints, 11 longs, 12 rows of ints, 13 rows of longs, with their length), references, how many cells, how many slots -/
abbrev zx_S : Type := (Nat → Nat × Nat) × (Nat → Nat → Option Nat) × Nat × Nat
/-- contents: ints (fields and arrays), longs -/
abbrev zx_C : Type := (Nat → Nat → Int32) × (Nat → Nat → Int64)
abbrev zx_H : Type := zx_S × zx_C
/-- an instruction and what it means here: its class or callee, its field or target, a number -/
abbrev zx_En : Type := Instr × Nat × Nat × Int
abbrev zx_O : Type := Option ((Nat × List Value × List Value × zx_H) ⊕ (Option Value) ⊕ (Nat × List Value × List Value))
/-- numbers of fields by class; the texts' bytes; the script -/
abbrev zx_P : Type := (Nat → Nat) × List (List Int32) × Option (Nat × (Nat → Int32))
def zx_up {α : Type} (f : Nat → Nat → α) (k i : Nat) (v : α) : Nat → Nat → α := fun a j => if a = k ∧ j = i then v else f a j
def zx_puti (H : zx_H) (k i : Nat) (v : Int32) : zx_H := (H.1, zx_up H.2.1 k i v, H.2.2)
def zx_putl (H : zx_H) (k i : Nat) (v : Int64) : zx_H := (H.1, H.2.1, zx_up H.2.2 k i v)
def zx_putr (H : zx_H) (k i : Nat) (a : Nat) : zx_H := ((H.1.1, zx_up H.1.2.1 k i (some a), H.1.2.2), H.2)
/-- one new cell, all zero -/
def zx_new (H : zx_H) (kd : Nat × Nat) (n : Nat) : zx_H :=
  (((fun a => if a = H.1.2.2.1 then kd else H.1.1 a), (fun a j => if a = H.1.2.2.1 then none else H.1.2.1 a j), H.1.2.2.1 + 1, H.1.2.2.2 + n),
    (fun a j => if a = H.1.2.2.1 then 0 else H.2.1 a j), (fun a j => if a = H.1.2.2.1 then 0 else H.2.2 a j))
/-- n rows of k elements behind one row of rows -/
def zx_mna (H : zx_H) (ko ki n k : Nat) : zx_H :=
  (((fun a => if a = H.1.2.2.1 then (ko, n) else if H.1.2.2.1 < a ∧ a ≤ H.1.2.2.1 + n then (ki, k) else H.1.1 a),
    (fun a j => if a = H.1.2.2.1 then (if j < n then some (H.1.2.2.1 + 1 + j) else none) else if H.1.2.2.1 < a ∧ a ≤ H.1.2.2.1 + n then none else H.1.2.1 a j),
    H.1.2.2.1 + (1 + n), H.1.2.2.2 + (n + n * k)),
    (fun a j => if H.1.2.2.1 ≤ a ∧ a ≤ H.1.2.2.1 + n then 0 else H.2.1 a j), (fun a j => if H.1.2.2.1 ≤ a ∧ a ≤ H.1.2.2.1 + n then 0 else H.2.2 a j))
def zx_n (pc : Nat) (ls st : List Value) (H : zx_H) : zx_O := some (.inl (pc, ls, st, H))
def zx_li (v : Option Value) (k : Int32 → zx_O) : zx_O := match v with
  | some (.int x) => k x
  | _ => none
def zx_lr (v : Option Value) (k : Nat → zx_O) : zx_O := match v with
  | some (.ref x) => k x
  | _ => none
def zx_ll (v w : Option Value) (k : Int64 → zx_O) : zx_O := match v, w with
  | some (.long x), some (.retAddr 1) => k x
  | _, _ => none
def zx_pi (st : List Value) (k : Int32 → List Value → zx_O) : zx_O := match st with
  | .int x :: r => k x r
  | _ => none
def zx_pl (st : List Value) (k : Int64 → List Value → zx_O) : zx_O := match st with
  | .long x :: r => k x r
  | _ => none
def zx_pr (st : List Value) (k : Nat → List Value → zx_O) : zx_O := match st with
  | .ref x :: r => k x r
  | _ => none
/-- a value of one word -/
def zx_p1 (st : List Value) (k : Value → List Value → zx_O) : zx_O := match st with
  | v :: r => if v.category = 1 then k v r else none
  | _ => none
/-- what a branch comes to -/
def zx_br (c : Jvm.ClassFile.Cond) (x y : Int32) (t n : Nat) : Nat := match c with
  | .eq => if x = y then t else n
  | .ne => if x = y then n else t
  | .lt => if x < y then t else n
  | .ge => if x < y then n else t
  | .gt => if y < x then t else n
  | .le => if y < x then n else t
/-- where a switch goes -/
def zx_sw (pc : Nat) (d : Int) (x : Int32) : Int → List Int → Nat
  | _, [] => ((pc : Int) + d).toNat
  | i, o :: os => if x.toInt = i then ((pc : Int) + o).toNat else zx_sw pc d x (i + 1) os
/-- may an int be answered as what it's said to be (0 int, 1 boolean, 2 char, 3 byte) -/
def zx_rb (a : Nat) (x : Int32) : Bool := match a with
  | 0 => true
  | 1 => x == 0 || x == 1
  | 2 => decide (narrow .char (.int x) = .int x)
  | _ => decide (narrow .byte (.int x) = .int x)
/-- the receiver of a call: of its class (6 a text); any object at all (100); no receiver (-1) -/
def zx_rc (P : zx_P) (H : zx_H) (k : Int) (args : List Value) : Bool :=
  if k = -1 then true else match args with
  | .ref e :: _ => if k = 100 then decide (e < 900000) && decide ((H.1.1 e).1 < 6) else if k = 6 then decide (2000000 ≤ e ∧ e < 2000000 + P.2.1.length) else decide (e < 900000) && decide ((((H.1.1 e).1 : Nat) : Int) = k)
  | _ => false
def zx_call (P : zx_P) (en : zx_En) (st : List Value) (H : zx_H) : zx_O :=
  if en.2.2.1 ≤ st.length ∧ zx_rc P H en.2.2.2 (st.take en.2.2.1).reverse = true ∧ ((st.drop en.2.2.1).map fun v => v.category).sum ≤ 8 then
    some (.inr (.inr (en.2.1, (st.take en.2.2.1).reverse, st.drop en.2.2.1))) else none
/-- the length of the array at e, if it is one -/
def zx_len (P : zx_P) (H : zx_H) (e : Nat) (k : Nat → zx_O) : zx_O :=
  if e < 900000 then (if 10 ≤ (H.1.1 e).1 ∧ (H.1.1 e).1 ≤ 13 then k (H.1.1 e).2 else none)
  else if e = 3000000 then (match P.2.2 with
    | some q => k q.1
    | none => none)
  else if 2100000 ≤ e ∧ e < 2100000 + P.2.1.length then k (P.2.1.getD (e - 2100000) []).length else none
/-- an int out of an array, or out of the script -/
def zx_ld (P : zx_P) (H : zx_H) (e : Nat) (i : Int32) (k : Int32 → zx_O) : zx_O :=
  if e < 900000 then (if (H.1.1 e).1 = 10 then (if i < 0 ∨ (H.1.1 e).2 ≤ i.toNatClampNeg then none else k (H.2.1 e i.toNatClampNeg)) else none)
  else if e = 3000000 then (match P.2.2 with
    | some q => if i < 0 ∨ q.1 ≤ i.toNatClampNeg then none else k (q.2 i.toNatClampNeg)
    | none => none) else none
/-- Math.max, Math.min -/
def zx_mm (f : Int32 → Int32 → Int32) (pc : Nat) (ls st : List Value) (H : zx_H) : zx_O := zx_pi st fun y r => zx_pi r fun x r => if (r.map fun v => v.category).sum ≤ 8 then zx_n (pc + 3) ls (.int (f x y) :: r) H else none
def zx_step (P : zx_P) (en : zx_En) (pc : Nat) (ls st : List Value) (H : zx_H) : zx_O := match en.1 with
  | .iload i => zx_li ls[i]? fun x => zx_n (pc + 2) ls (.int x :: st) H
  | .iload_n i => zx_li ls[i.val]? fun x => zx_n (pc + 1) ls (.int x :: st) H
  | .lload i => zx_ll ls[i]? ls[i + 1]? fun x => zx_n (pc + 2) ls (.long x :: st) H
  | .lload_n i => zx_ll ls[i.val]? ls[i.val + 1]? fun x => zx_n (pc + 1) ls (.long x :: st) H
  | .aload i => zx_lr ls[i]? fun x => zx_n (pc + 2) ls (.ref x :: st) H
  | .aload_n i => zx_lr ls[i.val]? fun x => zx_n (pc + 1) ls (.ref x :: st) H
  | .istore i => zx_pi st fun x r => if i < ls.length then zx_n (pc + 2) (ls.set i (.int x)) r H else none
  | .istore_n i => zx_pi st fun x r => if i.val < ls.length then zx_n (pc + 1) (ls.set i.val (.int x)) r H else none
  | .lstore i => zx_pl st fun x r => if i + 1 < ls.length then zx_n (pc + 2) ((ls.set i (.long x)).set (i + 1) (.retAddr 1)) r H else none
  | .lstore_n i => zx_pl st fun x r => if i.val + 1 < ls.length then zx_n (pc + 1) ((ls.set i.val (.long x)).set (i.val + 1) (.retAddr 1)) r H else none
  | .astore i => zx_pr st fun x r => if i < ls.length then zx_n (pc + 2) (ls.set i (.ref x)) r H else none
  | .astore_n i => zx_pr st fun x r => if i.val < ls.length then zx_n (pc + 1) (ls.set i.val (.ref x)) r H else none
  | .iinc i c => zx_li ls[i]? fun x => if i < ls.length then zx_n (pc + 3) (ls.set i (.int (x + Int32.ofInt c))) st H else none
  | .iconst c => zx_n (pc + 1) ls (.int (Int32.ofInt c) :: st) H
  | .bipush c => zx_n (pc + 2) ls (.int (Int8.ofInt c).toInt32 :: st) H
  | .sipush c => zx_n (pc + 3) ls (.int (Int16.ofInt c).toInt32 :: st) H
  | .lconst c => zx_n (pc + 1) ls (.long (Int64.ofNat (c : Nat)) :: st) H
  | .ldc _ => if en.2.1 = 0 then zx_n (pc + 2) ls (.int (Int32.ofInt en.2.2.2) :: st) H else zx_n (pc + 2) ls (.ref (2000000 + en.2.2.1) :: st) H
  | .ldc_w _ => zx_n (pc + 3) ls (.int (Int32.ofInt en.2.2.2) :: st) H
  | .ldc2_w _ => zx_n (pc + 3) ls (.long (Int64.ofInt en.2.2.2) :: st) H
  | .iadd => zx_pi st fun y r => zx_pi r fun x r => zx_n (pc + 1) ls (.int (x + y) :: r) H
  | .isub => zx_pi st fun y r => zx_pi r fun x r => zx_n (pc + 1) ls (.int (x - y) :: r) H
  | .imul => zx_pi st fun y r => zx_pi r fun x r => zx_n (pc + 1) ls (.int (x * y) :: r) H
  | .iand => zx_pi st fun y r => zx_pi r fun x r => zx_n (pc + 1) ls (.int (x &&& y) :: r) H
  | .ior => zx_pi st fun y r => zx_pi r fun x r => zx_n (pc + 1) ls (.int (x ||| y) :: r) H
  | .ixor => zx_pi st fun y r => zx_pi r fun x r => zx_n (pc + 1) ls (.int (x ^^^ y) :: r) H
  | .idiv => zx_pi st fun y r => zx_pi r fun x r => if y = 0 then none else zx_n (pc + 1) ls (.int (x / y) :: r) H
  | .irem => zx_pi st fun y r => zx_pi r fun x r => if y = 0 then none else zx_n (pc + 1) ls (.int (x - x / y * y) :: r) H
  | .ishl => zx_pi st fun y r => zx_pi r fun x r => zx_n (pc + 1) ls (.int (x <<< (y &&& 31)) :: r) H
  | .ishr => zx_pi st fun y r => zx_pi r fun x r => zx_n (pc + 1) ls (.int (x >>> (y &&& 31)) :: r) H
  | .iushr => zx_pi st fun y r => zx_pi r fun x r => zx_n (pc + 1) ls (.int (x.toUInt32 >>> (y.toUInt32 &&& Int32.toUInt32 31)).toInt32 :: r) H
  | .ineg => zx_pi st fun x r => zx_n (pc + 1) ls (.int (-x) :: r) H
  | .ladd => zx_pl st fun y r => zx_pl r fun x r => zx_n (pc + 1) ls (.long (x + y) :: r) H
  | .lsub => zx_pl st fun y r => zx_pl r fun x r => zx_n (pc + 1) ls (.long (x - y) :: r) H
  | .lmul => zx_pl st fun y r => zx_pl r fun x r => zx_n (pc + 1) ls (.long (x * y) :: r) H
  | .land => zx_pl st fun y r => zx_pl r fun x r => zx_n (pc + 1) ls (.long (x &&& y) :: r) H
  | .lor => zx_pl st fun y r => zx_pl r fun x r => zx_n (pc + 1) ls (.long (x ||| y) :: r) H
  | .ldiv => zx_pl st fun y r => zx_pl r fun x r => if y = 0 then none else zx_n (pc + 1) ls (.long (x / y) :: r) H
  | .lrem => zx_pl st fun y r => zx_pl r fun x r => if y = 0 then none else zx_n (pc + 1) ls (.long (x - x / y * y) :: r) H
  | .lneg => zx_pl st fun x r => zx_n (pc + 1) ls (.long (-x) :: r) H
  | .lshl => zx_pi st fun y r => zx_pl r fun x r => zx_n (pc + 1) ls (.long (x <<< (y.toInt64 &&& 63)) :: r) H
  | .lcmp => zx_pl st fun y r => zx_pl r fun x r => zx_n (pc + 1) ls (.int (lg_cmp x y) :: r) H
  | .i2l => zx_pi st fun x r => zx_n (pc + 1) ls (.long x.toInt64 :: r) H
  | .l2i => zx_pl st fun x r => zx_n (pc + 1) ls (.int x.toInt32 :: r) H
  | .i2b => zx_pi st fun x r => zx_n (pc + 1) ls (.int x.toInt8.toInt32 :: r) H
  | .i2s => zx_pi st fun x r => zx_n (pc + 1) ls (.int x.toInt16.toInt32 :: r) H
  | .i2c => zx_pi st fun x r => zx_n (pc + 1) ls (.int (x.toUInt32 % 65536).toInt32 :: r) H
  | .dup => zx_p1 st fun v r => zx_n (pc + 1) ls (v :: v :: r) H
  | .pop => zx_p1 st fun _ r => zx_n (pc + 1) ls r H
  | .dup_x1 => zx_p1 st fun v r => zx_p1 r fun w r => zx_n (pc + 1) ls (v :: w :: v :: r) H
  | .dup2 => zx_p1 st fun v r => zx_p1 r fun w r => zx_n (pc + 1) ls (v :: w :: v :: w :: r) H
  | .goto _ => zx_n en.2.2.1 ls st H
  | .ifCond c _ => zx_pi st fun x r => zx_n (zx_br c x 0 en.2.2.1 (pc + 3)) ls r H
  | .if_icmp c _ => zx_pi st fun y r => zx_pi r fun x r => zx_n (zx_br c x y en.2.2.1 (pc + 3)) ls r H
  | .ifnull _ => (match st with
    | .ref _ :: r => zx_n (pc + 3) ls r H
    | .null :: r => zx_n en.2.2.1 ls r H
    | _ => none)
  | .ifnonnull _ => (match st with
    | .ref _ :: r => zx_n en.2.2.1 ls r H
    | .null :: r => zx_n (pc + 3) ls r H
    | _ => none)
  | .tableswitch d lo _ offs => zx_pi st fun x r => zx_n (zx_sw pc d x lo offs.toList) ls r H
  | .getfield _ => zx_pr st fun e r =>
    if en.2.2.2 = 2 then (if 2000000 ≤ e ∧ e < 2000000 + P.2.1.length then zx_n (pc + 3) ls (.int 0 :: r) H else none)
    else if en.2.2.2 = 3 then (if 2000000 ≤ e ∧ e < 2000000 + P.2.1.length then zx_n (pc + 3) ls (.ref (e + 100000) :: r) H else none)
    else if e < 900000 ∧ (H.1.1 e).1 = en.2.1 then (if en.2.2.2 = 1 then zx_n (pc + 3) ls (va_rf (H.1.2.1 e en.2.2.1) :: r) H else zx_n (pc + 3) ls (.int (H.2.1 e en.2.2.1) :: r) H) else none
  | .putfield _ =>
    if en.2.2.2 = 1 then zx_pr st fun a r => zx_pr r fun e r => if e < 900000 ∧ a < 900000 ∧ (H.1.1 e).1 = en.2.1 then zx_n (pc + 3) ls r (zx_putr H e en.2.2.1 a) else none
    else zx_pi st fun v r => zx_pr r fun e r => if e < 900000 ∧ (H.1.1 e).1 = en.2.1 ∧ (en.2.2.2 = 4 → v = 0 ∨ v = 1) then zx_n (pc + 3) ls r (zx_puti H e en.2.2.1 v) else none
  | .getstatic _ => zx_n (pc + 3) ls ((if en.2.1 = 0 then .int 1 else .retAddr 7) :: st) H
  | .new _ => if H.1.2.2.1 < 800000 then zx_n (pc + 3) ls (.ref H.1.2.2.1 :: st) (zx_new H (en.2.1, 0) (P.1 en.2.1)) else none
  | .newarray t => zx_pi st fun x r => if x < 0 ∨ 10000 < x.toNatClampNeg ∨ 800000 ≤ H.1.2.2.1 then none else
      (match t with
      | .int => zx_n (pc + 2) ls (.ref H.1.2.2.1 :: r) (zx_new H (10, x.toNatClampNeg) x.toNatClampNeg)
      | .long => zx_n (pc + 2) ls (.ref H.1.2.2.1 :: r) (zx_new H (11, x.toNatClampNeg) x.toNatClampNeg)
      | _ => none)
  | .multianewarray _ _ => zx_pi st fun y r => zx_pi r fun x r => if x < 0 ∨ y < 0 ∨ 10000 < x.toNatClampNeg ∨ 10000 < y.toNatClampNeg ∨ 800000 ≤ H.1.2.2.1 then none else
      if en.2.1 = 0 then zx_n (pc + 4) ls (.ref H.1.2.2.1 :: r) (zx_mna H 12 10 x.toNatClampNeg y.toNatClampNeg) else zx_n (pc + 4) ls (.ref H.1.2.2.1 :: r) (zx_mna H 13 11 x.toNatClampNeg y.toNatClampNeg)
  | .arraylength => zx_pr st fun e r => zx_len P H e fun n => zx_n (pc + 1) ls (.int (Int32.ofNat n) :: r) H
  | .iaload => zx_pi st fun i r => zx_pr r fun e r => zx_ld P H e i fun v => zx_n (pc + 1) ls (.int v :: r) H
  | .laload => zx_pi st fun i r => zx_pr r fun e r => if e < 900000 ∧ (H.1.1 e).1 = 11 then (if i < 0 ∨ (H.1.1 e).2 ≤ i.toNatClampNeg then none else zx_n (pc + 1) ls (.long (H.2.2 e i.toNatClampNeg) :: r) H) else none
  | .aaload => zx_pi st fun i r => zx_pr r fun e r => if e < 900000 ∧ ((H.1.1 e).1 = 12 ∨ (H.1.1 e).1 = 13) then (if i < 0 ∨ (H.1.1 e).2 ≤ i.toNatClampNeg then none else zx_n (pc + 1) ls (va_rf (H.1.2.1 e i.toNatClampNeg) :: r) H) else none
  | .baload => zx_pi st fun i r => zx_pr r fun e r => if 2100000 ≤ e ∧ e < 2100000 + P.2.1.length then (if i < 0 ∨ (P.2.1.getD (e - 2100000) []).length ≤ i.toNatClampNeg then none else zx_n (pc + 1) ls (.int ((P.2.1.getD (e - 2100000) []).getD i.toNatClampNeg 0) :: r) H) else none
  | .iastore => zx_pi st fun v r => zx_pi r fun i r => zx_pr r fun e r => if e < 900000 ∧ (H.1.1 e).1 = 10 then (if i < 0 ∨ (H.1.1 e).2 ≤ i.toNatClampNeg then none else zx_n (pc + 1) ls r (zx_puti H e i.toNatClampNeg v)) else none
  | .lastore => zx_pl st fun v r => zx_pi r fun i r => zx_pr r fun e r => if e < 900000 ∧ (H.1.1 e).1 = 11 then (if i < 0 ∨ (H.1.1 e).2 ≤ i.toNatClampNeg then none else zx_n (pc + 1) ls r (zx_putl H e i.toNatClampNeg v)) else none
  | .invokevirtual _ => zx_call P en st H
  | .invokespecial _ => if en.2.2.2 = 99 then zx_pr st fun _ r => if (r.map fun v => v.category).sum ≤ 8 then zx_n (pc + 3) ls r H else none else zx_call P en st H
  | .invokestatic _ => if en.2.2.2 = 97 then zx_mm (fun x y => if x < y then y else x) pc ls st H else if en.2.2.2 = 98 then zx_mm (fun x y => if y < x then y else x) pc ls st H else zx_call P en st H
  | .ireturn => (match st with
    | [.int x] => if zx_rb en.2.1 x = true then some (.inr (.inl (some (.int x)))) else none
    | _ => none)
  | .lreturn => (match st with
    | [.long x] => some (.inr (.inl (some (.long x))))
    | _ => none)
  | .areturn => (match st with
    | [.ref x] => some (.inr (.inl (some (.ref x))))
    | _ => none)
  | .return_ => (match st with
    | [] => some (.inr (.inl none))
    | _ => none)
  | _ => none
def zx_lay (as : List Value) : List Value := as.flatMap fun v => match v with
  | .long x => [.long x, .retAddr 1]
  | v => [v]
/-- a method's first locals -/
def zx_ent (n : Nat) (as : List Value) : List Value := zx_lay as ++ List.replicate (n - (zx_lay as).length) (.retAddr 0)
def zx_nd : Value → Bool
  | .double _ => false
  | _ => true
/-- arguments that a method can take -/
def zx_aok (n : Nat) (as : List Value) : Bool := Nat.ble (zx_lay as).length n && as.all zx_nd
/-- at most n steps in each method, d calls deep -/
def zx_run (P : zx_P) (code : Nat → Nat → Option zx_En) (ml : Nat → Nat) : Nat → Nat → Nat → Nat → List Value → List Value → zx_H → Option (Option Value × zx_H)
  | 0, _, _, _, _, _, _ => none
  | n + 1, d, m, pc, ls, st, H => match code m pc with
    | none => none
    | some en => match zx_step P en pc ls st H with
      | none => none
      | some (.inl (pc', ls', st', H')) => zx_run P code ml n d m pc' ls' st' H'
      | some (.inr (.inl v)) => some (v, H)
      | some (.inr (.inr (m', as, rest))) => match d with
        | 0 => none
        | d + 1 => if zx_aok (ml m') as = true then (match zx_run P code ml n d m' 0 (zx_ent (ml m') as) [] H with
          | none => none
          | some (v, H') => zx_run P code ml n (d + 1) m (pc + 3) ls (v.toList ++ rest) H') else none
