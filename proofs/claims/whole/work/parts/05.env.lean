/-! WHAT A FRAME KNOWS; WHAT EACH INSTRUCTION OF A TABLE MUST HAVE IN THE BIG MACHINE'S WORDS -/
/-- what the small machine is told: names of the texts' links and of the nest's links beside the words -/
abbrev zx_N : Type := List (String × Nat × String × Nat) × List (String × Nat × MethodName × String)
def zx_len8 (P : zx_P) : List Nat := P.2.1.map List.length
/-- what is known of the tables and of what nobody writes, in any frame -/
def zx_Env (P : zx_P) (N : zx_N) (w : zx_W) (cl : List vw_C) (U : State) : Prop :=
  va_K w.2.1 cl (zx_tys w) U ∧ vk_S P.2.1.length (zx_len8 P) P.2.1 w.2.2.2.1 w.2.2.2.2.1 (zx_A w) U U.heap ∧ (∀ q ∈ N.1, q.2.2.2 < P.2.1.length ∧ vk_R q.1 q.2.1 q.2.2.1 (w.2.2.2.1 q.2.2.2) U) ∧ (∀ q ∈ N.2, va_Nw (.methodLinkNest q.1 q.2.1 q.2.2.1 q.2.2.2) U) ∧
  va_Z "java/lang/String" "COMPACT_STRINGS" "Z" (.int 1) (zx_A w) U U.heap ∧ va_Z "jdk/internal/util/Preconditions" "SIOOBE_FORMATTER" "Ljava/util/function/BiFunction;" w.2.2.2.2.2.1 (zx_A w) U U.heap ∧
  (∀ q, P.2.2 = some q → va_X w.2.2.2.2.2.2 q.1 q.2 U U.heap ∧ w.2.2.2.2.2.2 < w.1) ∧ w.1 ≤ U.heap.size ∧
  (Cond.arrayOver (.array .int)).before #[] U = true ∧ (Cond.arrayOver (.array .long)).before #[] U = true
theorem zx_over {t : FieldType} {u U : State} (hvm : u.vm.Alike U.vm) (h : (Cond.arrayOver (.array t)).before #[] u = true) : (Cond.arrayOver (.array t)).before #[] U = true := by
  have h2 : (Cond.arrayOver (.array t)).before #[] (u.setVm U.vm) = true := by rw [Cond.arrayOver_setVmC hvm]; exact h
  simp only [Cond.before, Cond.holds, Cond.value] at h2 ⊢
  exact h2
theorem zx_Env.to {P : zx_P} {N : zx_N} {w : zx_W} {cl : List vw_C} {s U : State} (h : zx_Env P N w cl s) (hW : s.WarmedH U.vm) (hz : s.heap.size ≤ U.heap.size) (ho : ∀ q : Nat, q < s.heap.size → ¬ zx_A w q → U.heap[q]? = s.heap[q]?) : zx_Env P N w cl U := by
  obtain ⟨h1, h2, h3, h4, h5, h6, h7, h8, h9, h10⟩ := h
  refine ⟨h1.moved hW.alike, (h2.moved hW.alike).kept ho, fun q hq => ⟨(h3 q hq).1, (h3 q hq).2.warm hW⟩, fun q hq => (h4 q hq).warmM hW, (h5.moved hW.alike).kept ho, (h6.moved hW.alike).kept ho, fun q hq => ?_, Nat.le_trans h8 hz, zx_over hW.alike h9, zx_over hW.alike h10⟩
  obtain ⟨a1, a2⟩ := h7 q hq
  have hb : w.2.2.2.2.2.2 < s.heap.size := Nat.lt_of_lt_of_le a2 h8
  exact ⟨(a1.moved hW.alike).kept (ho _ hb (by unfold zx_A; omega)), a2⟩
theorem zx_Env.call {P : zx_P} {N : zx_N} {w : zx_W} {cl : List vw_C} {U : State} (h : zx_Env P N w cl U) (g : JFrame) (mk : MethodId) (a : Array Value) : zx_Env P N w cl (U.calling g mk a) :=
  h.to (U := U.calling g mk a) (State.WarmedH.refl U) (Nat.le_refl _) (fun _ _ _ => rfl)
def zx_ty (a : Nat) : FieldType := match a with
  | 0 => .int
  | 1 => .boolean
  | 2 => .char
  | _ => .byte
def zx_ln : Instr → Nat
  | .iload _ | .lload _ | .aload _ | .istore _ | .lstore _ | .astore _ | .bipush _ => 2
  | .sipush _ | .iinc _ _ => 3
  | _ => 1
/-- a method's name, bytes, number of locals, answer -/
abbrev zx_M : Type := MethodName × ByteArray × Nat × Option FieldType
def zx_gf (Ts : List Cond) (cl : List vw_C) (own : String) (k ci b : Nat) : Prop := ∃ (C : String) (T : u_T) (n : Nat), cl[ci]? = some (C, T, n) ∧ b < n ∧ Cond.fieldLink own k C (T b).2.1 (T b).2.2.1 ∈ Ts ∧ (T b).1 = C ∧ ci < 10
/-- a call's words: the callee's name and form -/
def zx_gc (Ts : List Cond) (N : zx_N) (own : String) (k : Nat) (y : MethodName) : Prop := Cond.methodLink own k y ∈ Ts ∨ ∃ h, (own, k, y, h) ∈ N.2
def zx_gm (Ts : List Cond) (q : zx_M) (n : Nat) : Prop :=
  Cond.code q.1 q.2.1 q.2.2.1 q.2.2.2 ∈ Ts ∧ Cond.initialized q.1.cls ∈ Ts ∧ q.2.2.1 ≤ 41 ∧ plainName q.1.cls = true ∧ q.1.cls ≠ "java/lang/invoke/MethodHandle" ∧ q.1.cls ≠ "java/lang/invoke/VarHandle" ∧ (parseMethodDescriptor q.1.desc).map (fun d => d.parameters.length) = some n
def zx_good (P : zx_P) (N : zx_N) (Ts : List Cond) (cl : List vw_C) (isr : Nat → Nat → Bool) (mt : Nat → zx_M) (cc : ByteArray) (own nm : String) (rt : Option FieldType) (pc : Nat) (en : zx_En) : Prop := match en.1 with
  | .ldc k => decode cc pc = .ok (.ldc k, 2) ∧ (if en.2.1 = 0 then Cond.constant own k (Int32.ofInt en.2.2.2) ∈ Ts else ∃ t, (own, k, t, en.2.2.1) ∈ N.1)
  | .ldc_w k => decode cc pc = .ok (.ldc_w k, 3) ∧ Cond.constant own k (Int32.ofInt en.2.2.2) ∈ Ts
  | .ldc2_w k => decode cc pc = .ok (.ldc2_w k, 3) ∧ Cond.constantLong own k (Int64.ofInt en.2.2.2) ∈ Ts
  | .goto o => decode cc pc = .ok (.goto o, 3) ∧ (pc : Int) + o = (en.2.2.1 : Int)
  | .ifCond c o => decode cc pc = .ok (.ifCond c o, 3) ∧ (pc : Int) + o = (en.2.2.1 : Int)
  | .if_icmp c o => decode cc pc = .ok (.if_icmp c o, 3) ∧ (pc : Int) + o = (en.2.2.1 : Int)
  | .ifnull o => decode cc pc = .ok (.ifnull o, 3) ∧ (pc : Int) + o = (en.2.2.1 : Int)
  | .ifnonnull o => decode cc pc = .ok (.ifnonnull o, 3) ∧ (pc : Int) + o = (en.2.2.1 : Int)
  | .tableswitch d lo hi offs => (∃ len, decode cc pc = .ok (.tableswitch d lo hi offs, len)) ∧ 0 ≤ (pc : Int) + d ∧ (∀ o ∈ offs.toList, 0 ≤ (pc : Int) + o) ∧ hi + 1 = lo + (offs.toList.length : Int)
  | .getfield k => decode cc pc = .ok (.getfield k, 3) ∧ (if en.2.2.2 = 2 then Cond.fieldLink own k "java/lang/String" "coder" "B" ∈ Ts else if en.2.2.2 = 3 then Cond.fieldLink own k "java/lang/String" "value" "[B" ∈ Ts else zx_gf Ts cl own k en.2.1 en.2.2.1 ∧ isr en.2.1 en.2.2.1 = decide (en.2.2.2 = 1))
  | .putfield k => decode cc pc = .ok (.putfield k, 3) ∧ zx_gf Ts cl own k en.2.1 en.2.2.1 ∧ isr en.2.1 en.2.2.1 = decide (en.2.2.2 = 1) ∧
      ∀ (C : String) (T : u_T) (n : Nat), cl[en.2.1]? = some (C, T, n) → ((T en.2.2.1).2.2.2 = false ∨ ((T en.2.2.1).2.2.2 = true ∧ nm = "<init>" ∧ C = own)) ∧
        ∃ ty, parseFieldDescriptor (T en.2.2.1).2.2.1 = some ty ∧ (if en.2.2.2 = 1 then (∃ C, ty = .object C) ∨ ∃ t, ty = .array t else if en.2.2.2 = 4 then ty = .boolean else ty = .int)
  | .getstatic k => decode cc pc = .ok (.getstatic k, 3) ∧ (if en.2.1 = 0 then Cond.fieldLink own k "java/lang/String" "COMPACT_STRINGS" "Z" ∈ Ts else Cond.fieldLink own k "jdk/internal/util/Preconditions" "SIOOBE_FORMATTER" "Ljava/util/function/BiFunction;" ∈ Ts)
  | .new k => decode cc pc = .ok (.new k, 3) ∧ ∃ (C : String) (T : u_T) (n : Nat), cl[en.2.1]? = some (C, T, n) ∧ Cond.classLink own k C ∈ Ts ∧ Cond.instantiable C n ∈ Ts ∧ Cond.initialized C ∈ Ts ∧ en.2.1 < 10
  | .newarray t => decode cc pc = .ok (.newarray t, 2) ∧ Cond.arrayClass (newarray.typeOf t) ∈ Ts
  | .multianewarray k d => decode cc pc = .ok (.multianewarray k 2, 4) ∧ d = 2 ∧ (if en.2.1 = 0 then Cond.classLink own k "[[I" ∈ Ts ∧ Cond.arrayClass .int ∈ Ts else Cond.classLink own k "[[J" ∈ Ts ∧ Cond.arrayClass .long ∈ Ts)
  | .invokevirtual k => decode cc pc = .ok (.invokevirtual k, 3) ∧ ∃ n, en.2.2.1 = n + 1 ∧ zx_gm Ts (mt en.2.1) n ∧ zx_gc Ts N own k (mt en.2.1).1 ∧ Cond.instanceMethod (mt en.2.1).1 ∈ Ts ∧ Cond.selects (mt en.2.1).1.cls (mt en.2.1).1 (mt en.2.1).1 ∈ Ts ∧
      ((en.2.2.2 = 6 ∧ (mt en.2.1).1.cls = "java/lang/String") ∨ ∃ (ci : Nat) (T : u_T) (n : Nat), en.2.2.2 = (ci : Int) ∧ ci < 6 ∧ cl[ci]? = some ((mt en.2.1).1.cls, T, n))
  | .invokespecial k => decode cc pc = .ok (.invokespecial k, 3) ∧ if en.2.2.2 = 99 then Cond.methodLink own k Lib.objectInit ∈ Ts ∧ Cond.instanceMethod Lib.objectInit ∈ Ts ∧ Cond.code Lib.objectInit ⟨#[0xb1]⟩ 1 none ∈ Ts else ∃ n, en.2.2.1 = n + 1 ∧ zx_gm Ts (mt en.2.1) n ∧ zx_gc Ts N own k (mt en.2.1).1 ∧ Cond.instanceMethod (mt en.2.1).1 ∈ Ts ∧ (mt en.2.1).1.name = "<init>" ∧ (mt en.2.1).2.2.2 = none ∧ en.2.2.2 = 100
  | .invokestatic k => decode cc pc = .ok (.invokestatic k, 3) ∧ if en.2.2.2 = 97 then Cond.methodLink own k Lib.Math.max.name ∈ Ts ∧ Cond.static Lib.Math.max.name ∈ Ts ∧ Cond.initialized "java/lang/Math" ∈ Ts ∧ Cond.code Lib.Math.max.name Lib.Math.max.code 2 (some .int) ∈ Ts else if en.2.2.2 = 98 then Cond.methodLink own k Lib.Math.min.name ∈ Ts ∧ Cond.static Lib.Math.min.name ∈ Ts ∧ Cond.initialized "java/lang/Math" ∈ Ts ∧ Cond.code Lib.Math.min.name Lib.Math.min.code 2 (some .int) ∈ Ts else zx_gm Ts (mt en.2.1) en.2.2.1 ∧ zx_gc Ts N own k (mt en.2.1).1 ∧ Cond.static (mt en.2.1).1 ∈ Ts
  | .ireturn => decode cc pc = .ok (.ireturn, 1) ∧ rt = some (zx_ty en.2.1)
  | .lreturn => decode cc pc = .ok (.lreturn, 1) ∧ rt = some .long
  | .areturn => decode cc pc = .ok (.areturn, 1) ∧ ∃ C, rt = some (.object C)
  | .return_ => decode cc pc = .ok (.return_, 1) ∧ rt = none
  | i => decode cc pc = .ok (i, zx_ln i)
/-- what the classes' tables must be -/
def zx_Cls (P : zx_P) (Ts : List Cond) (cl : List vw_C) (isr : Nat → Nat → Bool) : Prop :=
  ∀ (ci : Nat) (C : String) (T : u_T) (n : Nat), cl[ci]? = some (C, T, n) → P.1 ci = n ∧ (∀ u ∈ u_ws C T n, u ∈ Ts) ∧ (∃ ty : Nat → FieldType, (∀ k, k < n → parseFieldDescriptor (T k).2.2.1 = some (ty k)) ∧ (∀ k, k < n → defaultValue (ty k) = (if isr ci k = true then .null else .int 0))) ∧
    (∀ a, a < n → ∀ b, b < n → a ≠ b → (T a).2.1 ≠ (T b).2.1)
/-- what a frame of a method is in the big machine -/
def zx_Ctx (p : Program) (s : State) (mid : MethodId) (args : Array Value) (meth : Method) (c : Code) (Ts : List Cond) (cc : ByteArray) (nL : Nat) (own nm : String) (rt : Option FieldType) : Prop :=
  CallFix p mid c cc nL s args Ts own ∧ meth.sig.returnType = rt ∧ meth.locks = false ∧ meth.name = nm
