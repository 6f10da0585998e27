/-! THE TABLES OF THE SMALL MACHINE -/
def zt_T0 : u_T := fun k => match k with
  | 0 => ("FirstAtTheFirst$Estate", "sides", "I", false)
  | 1 => ("FirstAtTheFirst$Estate", "things", "I", false)
  | 2 => ("FirstAtTheFirst$Estate", "law", "I", false)
  | 3 => ("FirstAtTheFirst$Estate", "turn", "I", false)
  | 4 => ("FirstAtTheFirst$Estate", "seed", "I", false)
  | 5 => ("FirstAtTheFirst$Estate", "orderSize", "I", false)
  | 6 => ("FirstAtTheFirst$Estate", "order", "[I", true)
  | 7 => ("FirstAtTheFirst$Estate", "bents", "[I", true)
  | 8 => ("FirstAtTheFirst$Estate", "owners", "[I", true)
  | _ => ("FirstAtTheFirst$Estate", "worths", "[I", true)
def zt_T1 : u_T := fun k => match k with
  | 0 => ("FirstAtTheFirst$Mind", "worths", "[I", true)
  | 1 => ("FirstAtTheFirst$Mind", "bents", "[I", true)
  | 2 => ("FirstAtTheFirst$Mind", "owned", "[I", true)
  | 3 => ("FirstAtTheFirst$Mind", "turns", "[I", true)
  | 4 => ("FirstAtTheFirst$Mind", "turnCount", "I", false)
  | 5 => ("FirstAtTheFirst$Mind", "start", "I", false)
  | 6 => ("FirstAtTheFirst$Mind", "startCount", "I", false)
  | 7 => ("FirstAtTheFirst$Mind", "still", "[I", true)
  | _ => ("FirstAtTheFirst$Mind", "looked", "[I", true)
def zt_T2 : u_T := fun k => match k with
  | 0 => ("FirstAtTheFirst$Shelves", "kinds", "[I", true)
  | 1 => ("FirstAtTheFirst$Shelves", "sizes", "[I", true)
  | 2 => ("FirstAtTheFirst$Shelves", "bentSides", "[I", true)
  | _ => ("FirstAtTheFirst$Shelves", "elements", "[J", true)
def zt_T3 : u_T := fun k => match k with
  | 0 => ("FirstAtTheFirst$Tape", "bytes", "[I", true)
  | 1 => ("FirstAtTheFirst$Tape", "size", "I", false)
  | 2 => ("FirstAtTheFirst$Tape", "fault", "I", false)
  | 3 => ("FirstAtTheFirst$Tape", "kind", "I", false)
  | 4 => ("FirstAtTheFirst$Tape", "begin", "I", false)
  | _ => ("FirstAtTheFirst$Tape", "place", "I", false)
def zt_T4 : u_T := fun k => match k with
  | 0 => ("FirstAtTheFirst", "now", "LFirstAtTheFirst$Estate;", true)
  | 1 => ("FirstAtTheFirst", "kept", "LFirstAtTheFirst$Estate;", true)
  | 2 => ("FirstAtTheFirst", "draft", "LFirstAtTheFirst$Estate;", true)
  | 3 => ("FirstAtTheFirst", "tape", "LFirstAtTheFirst$Tape;", true)
  | 4 => ("FirstAtTheFirst", "shelves", "LFirstAtTheFirst$Shelves;", true)
  | 5 => ("FirstAtTheFirst", "refusals", "[I", true)
  | 6 => ("FirstAtTheFirst", "isKept", "Z", false)
  | 7 => ("FirstAtTheFirst", "mind", "LFirstAtTheFirst$Mind;", true)
  | 8 => ("FirstAtTheFirst", "misled", "LFirstAtTheFirst$Mind;", true)
  | 9 => ("FirstAtTheFirst", "taken", "[I", true)
  | 10 => ("FirstAtTheFirst", "takenCount", "I", false)
  | 11 => ("FirstAtTheFirst", "has", "[I", true)
  | 12 => ("FirstAtTheFirst", "trial", "[I", true)
  | _ => ("FirstAtTheFirst", "fair", "[I", true)
def zt_T5 : u_T := fun k => match k with
  | 0 => ("FirstAtTheFirstModel", "shelf", "[I", true)
  | 1 => ("FirstAtTheFirstModel", "rowSort", "[I", true)
  | 2 => ("FirstAtTheFirstModel", "rowSize", "[I", true)
  | 3 => ("FirstAtTheFirstModel", "rows", "[[J", true)
  | 4 => ("FirstAtTheFirstModel", "moved", "[J", true)
  | 5 => ("FirstAtTheFirstModel", "bentKind", "[I", true)
  | 6 => ("FirstAtTheFirstModel", "bentSide", "[I", true)
  | 7 => ("FirstAtTheFirstModel", "tape", "[I", true)
  | 8 => ("FirstAtTheFirstModel", "tapeSize", "I", false)
  | 9 => ("FirstAtTheFirstModel", "refused", "[I", true)
  | 10 => ("FirstAtTheFirstModel", "sides", "I", false)
  | 11 => ("FirstAtTheFirstModel", "things", "I", false)
  | 12 => ("FirstAtTheFirstModel", "worth", "[[I", true)
  | 13 => ("FirstAtTheFirstModel", "owner", "[I", true)
  | 14 => ("FirstAtTheFirstModel", "law", "I", false)
  | 15 => ("FirstAtTheFirstModel", "order", "[I", true)
  | 16 => ("FirstAtTheFirstModel", "orderSize", "I", false)
  | 17 => ("FirstAtTheFirstModel", "bent", "[I", true)
  | 18 => ("FirstAtTheFirstModel", "turn", "I", false)
  | 19 => ("FirstAtTheFirstModel", "seed", "I", false)
  | 20 => ("FirstAtTheFirstModel", "kept", "LFirstAtTheFirstModel;", false)
  | 21 => ("FirstAtTheFirstModel", "tried", "LFirstAtTheFirstModel;", false)
  | 22 => ("FirstAtTheFirstModel", "at", "I", false)
  | 23 => ("FirstAtTheFirstModel", "token", "I", false)
  | 24 => ("FirstAtTheFirstModel", "from", "I", false)
  | 25 => ("FirstAtTheFirstModel", "figures", "I", false)
  | 26 => ("FirstAtTheFirstModel", "fault", "I", false)
  | 27 => ("FirstAtTheFirstModel", "told", "[I", true)
  | 28 => ("FirstAtTheFirstModel", "statements", "I", false)
  | 29 => ("FirstAtTheFirstModel", "nowLaw", "I", false)
  | 30 => ("FirstAtTheFirstModel", "toldOrder", "[I", true)
  | 31 => ("FirstAtTheFirstModel", "toldSize", "I", false)
  | 32 => ("FirstAtTheFirstModel", "toldFrom", "I", false)
  | 33 => ("FirstAtTheFirstModel", "shamSide", "I", false)
  | 34 => ("FirstAtTheFirstModel", "shamWorth", "[I", true)
  | 35 => ("FirstAtTheFirstModel", "taken", "[I", true)
  | 36 => ("FirstAtTheFirstModel", "picks", "I", false)
  | 37 => ("FirstAtTheFirstModel", "gained", "[I", true)
  | 38 => ("FirstAtTheFirstModel", "gameTakes", "[I", true)
  | 39 => ("FirstAtTheFirstModel", "gameGains", "[[I", true)
  | 40 => ("FirstAtTheFirstModel", "fairRow", "[I", true)
  | 41 => ("FirstAtTheFirstModel", "fairLeast", "I", false)
  | _ => ("FirstAtTheFirstModel", "fairMany", "[I", true)
def zt_cl : List vw_C := [("FirstAtTheFirst$Estate", zt_T0, 10), ("FirstAtTheFirst$Mind", zt_T1, 9), ("FirstAtTheFirst$Shelves", zt_T2, 4), ("FirstAtTheFirst$Tape", zt_T3, 6), ("FirstAtTheFirst", zt_T4, 14), ("FirstAtTheFirstModel", zt_T5, 43)]
def zt_fkl : List (List Nat) := [[0, 0, 0, 0, 0, 0, 1, 1, 1, 1], [1, 1, 1, 1, 0, 0, 0, 1, 1], [1, 1, 1, 1], [1, 0, 0, 0, 0, 0], [1, 1, 1, 1, 1, 1, 4, 1, 1, 1, 0, 1, 1, 1], [1, 1, 1, 1, 1, 1, 1, 1, 0, 1, 0, 0, 1, 1, 0, 1, 0, 1, 0, 0, 1, 1, 0, 0, 0, 0, 0, 1, 0, 0, 1, 0, 0, 0, 1, 1, 0, 1, 1, 1, 1, 0, 1]]
def zt_finl : List (List Bool) := [[false, false, false, false, false, false, true, true, true, true], [true, true, true, true, false, false, false, true, true], [true, true, true, true], [true, false, false, false, false, false], [true, true, true, true, true, true, false, true, true, true, false, true, true, true], [true, true, true, true, true, true, true, true, false, true, false, false, true, true, false, true, false, true, false, false, false, false, false, false, false, false, false, true, false, false, true, false, false, false, true, true, false, true, true, true, true, false, true]]
def zt_fk (ci b : Nat) : Nat := (zt_fkl.getD ci []).getD b 0
def zt_fin (ci b : Nat) : Bool := (zt_finl.getD ci []).getD b false
def zt_isr (ci b : Nat) : Bool := Nat.beq (zt_fk ci b) 1
def zt_nf (ci : Nat) : Nat := (zt_fkl.getD ci []).length
def zt_txt : List (List Int32) := [[115, 105, 100, 101, 115], [116, 104, 105, 110, 103], [108, 97, 119], [111, 114, 100, 101, 114], [98, 101, 110, 116], [116, 117, 114, 110], [111, 119, 110, 115]]
def zt_P (q : Option (Nat × (Nat → Int32))) : zx_P := (zt_nf, zt_txt, q)
def zt_N : zx_N := ([("FirstAtTheFirst$Tape", 56, "sides", 0), ("FirstAtTheFirst$Tape", 70, "thing", 1), ("FirstAtTheFirst$Tape", 75, "law", 2), ("FirstAtTheFirst$Tape", 80, "order", 3), ("FirstAtTheFirst$Tape", 85, "bent", 4), ("FirstAtTheFirst$Tape", 90, "turn", 5), ("FirstAtTheFirst$Tape", 95, "owns", 6), ("FirstAtTheFirstModel", 216, "sides", 0), ("FirstAtTheFirstModel", 221, "thing", 1), ("FirstAtTheFirstModel", 226, "law", 2), ("FirstAtTheFirstModel", 227, "order", 3), ("FirstAtTheFirstModel", 231, "bent", 4), ("FirstAtTheFirstModel", 232, "turn", 5), ("FirstAtTheFirstModel", 233, "owns", 6)],
  [("FirstAtTheFirst", 11, ({ cls := "FirstAtTheFirst$Estate", name := "<init>", desc := "()V" } : Jvm.MethodName), "FirstAtTheFirst"), ("FirstAtTheFirst", 24, ({ cls := "FirstAtTheFirst$Tape", name := "<init>", desc := "()V" } : Jvm.MethodName), "FirstAtTheFirst"), ("FirstAtTheFirst", 31, ({ cls := "FirstAtTheFirst$Shelves", name := "<init>", desc := "()V" } : Jvm.MethodName), "FirstAtTheFirst"), ("FirstAtTheFirst", 42, ({ cls := "FirstAtTheFirst$Mind", name := "<init>", desc := "()V" } : Jvm.MethodName), "FirstAtTheFirst"), ("FirstAtTheFirst$Shelves", 43, ({ cls := "FirstAtTheFirst", name := "put", desc := "([III)V" } : Jvm.MethodName), "FirstAtTheFirst"), ("FirstAtTheFirst$Shelves", 29, ({ cls := "FirstAtTheFirst", name := "at", desc := "([II)I" } : Jvm.MethodName), "FirstAtTheFirst"), ("FirstAtTheFirst$Estate", 47, ({ cls := "FirstAtTheFirst", name := "at", desc := "([II)I" } : Jvm.MethodName), "FirstAtTheFirst"), ("FirstAtTheFirst$Mind", 33, ({ cls := "FirstAtTheFirst", name := "copyAll", desc := "([I[I)V" } : Jvm.MethodName), "FirstAtTheFirst"), ("FirstAtTheFirst$Mind", 42, ({ cls := "FirstAtTheFirst", name := "put", desc := "([III)V" } : Jvm.MethodName), "FirstAtTheFirst"), ("FirstAtTheFirst$Mind", 118, ({ cls := "FirstAtTheFirst", name := "isIn", desc := "(II)Z" } : Jvm.MethodName), "FirstAtTheFirst"), ("FirstAtTheFirst$Mind", 74, ({ cls := "FirstAtTheFirst", name := "at", desc := "([II)I" } : Jvm.MethodName), "FirstAtTheFirst"), ("FirstAtTheFirst$Mind", 115, ({ cls := "FirstAtTheFirst", name := "without", desc := "(II)I" } : Jvm.MethodName), "FirstAtTheFirst"), ("FirstAtTheFirst$Estate", 65, ({ cls := "FirstAtTheFirst", name := "put", desc := "([III)V" } : Jvm.MethodName), "FirstAtTheFirst"), ("FirstAtTheFirst$Estate", 43, ({ cls := "FirstAtTheFirst", name := "copyAll", desc := "([I[I)V" } : Jvm.MethodName), "FirstAtTheFirst"), ("FirstAtTheFirst$Tape", 38, ({ cls := "FirstAtTheFirst", name := "at", desc := "([II)I" } : Jvm.MethodName), "FirstAtTheFirst"), ("FirstAtTheFirst$Tape", 118, ({ cls := "FirstAtTheFirst", name := "put", desc := "([III)V" } : Jvm.MethodName), "FirstAtTheFirst")])
def zt_cn (o : Nat) : String := (["FirstAtTheFirstLaw", "FirstAtTheFirst$Estate", "FirstAtTheFirst$Mind", "FirstAtTheFirst$Shelves", "FirstAtTheFirst$Tape", "FirstAtTheFirst", "FirstAtTheFirstModel", "java/lang/Integer", "java/lang/Math", "java/lang/String", "java/lang/StringLatin1", "java/lang/StringUTF16", "jdk/internal/util/Preconditions", "java/lang/Object"] : List String).getD o ""
set_option maxRecDepth 20000 in
theorem zt_u0 : ∀ u ∈ u_ws "FirstAtTheFirst$Estate" zt_T0 10, u ∈ zt_Ts := (List.forall_mem_cons.mpr ⟨zw_58, (List.forall_mem_cons.mpr ⟨zw_60, (List.forall_mem_cons.mpr ⟨zw_62, (List.forall_mem_cons.mpr ⟨zw_64, (List.forall_mem_cons.mpr ⟨zw_66, (List.forall_mem_cons.mpr ⟨zw_68, (List.forall_mem_cons.mpr ⟨zw_70, (List.forall_mem_cons.mpr ⟨zw_72, (List.forall_mem_cons.mpr ⟨zw_74, (List.forall_mem_cons.mpr ⟨zw_76, (fun _ h => absurd h List.not_mem_nil)⟩)⟩)⟩)⟩)⟩)⟩)⟩)⟩)⟩)⟩)
theorem zt_d0 : ∀ k, k < 10 → parseFieldDescriptor (zt_T0 k).2.2.1 = some (match zt_fk 0 k with
  | 0 => .int
  | 4 => .boolean
  | _ => (parseFieldDescriptor (zt_T0 k).2.2.1).getD .int) := by decide +kernel
theorem zt_e0 : ∀ k, k < 10 → defaultValue (match zt_fk 0 k with
  | 0 => .int
  | 4 => .boolean
  | _ => (parseFieldDescriptor (zt_T0 k).2.2.1).getD .int) = (if zt_isr 0 k = true then .null else .int 0) := by decide +kernel
theorem zt_n0 : ∀ a, a < 10 → ∀ b, b < 10 → a ≠ b → (zt_T0 a).2.1 ≠ (zt_T0 b).2.1 := by decide +kernel
set_option maxRecDepth 20000 in
theorem zt_u1 : ∀ u ∈ u_ws "FirstAtTheFirst$Mind" zt_T1 9, u ∈ zt_Ts := (List.forall_mem_cons.mpr ⟨zw_145, (List.forall_mem_cons.mpr ⟨zw_147, (List.forall_mem_cons.mpr ⟨zw_149, (List.forall_mem_cons.mpr ⟨zw_151, (List.forall_mem_cons.mpr ⟨zw_153, (List.forall_mem_cons.mpr ⟨zw_155, (List.forall_mem_cons.mpr ⟨zw_157, (List.forall_mem_cons.mpr ⟨zw_159, (List.forall_mem_cons.mpr ⟨zw_161, (fun _ h => absurd h List.not_mem_nil)⟩)⟩)⟩)⟩)⟩)⟩)⟩)⟩)⟩)
theorem zt_d1 : ∀ k, k < 9 → parseFieldDescriptor (zt_T1 k).2.2.1 = some (match zt_fk 1 k with
  | 0 => .int
  | 4 => .boolean
  | _ => (parseFieldDescriptor (zt_T1 k).2.2.1).getD .int) := by decide +kernel
theorem zt_e1 : ∀ k, k < 9 → defaultValue (match zt_fk 1 k with
  | 0 => .int
  | 4 => .boolean
  | _ => (parseFieldDescriptor (zt_T1 k).2.2.1).getD .int) = (if zt_isr 1 k = true then .null else .int 0) := by decide +kernel
theorem zt_n1 : ∀ a, a < 9 → ∀ b, b < 9 → a ≠ b → (zt_T1 a).2.1 ≠ (zt_T1 b).2.1 := by decide +kernel
set_option maxRecDepth 20000 in
theorem zt_u2 : ∀ u ∈ u_ws "FirstAtTheFirst$Shelves" zt_T2 4, u ∈ zt_Ts := (List.forall_mem_cons.mpr ⟨zw_118, (List.forall_mem_cons.mpr ⟨zw_120, (List.forall_mem_cons.mpr ⟨zw_122, (List.forall_mem_cons.mpr ⟨zw_124, (fun _ h => absurd h List.not_mem_nil)⟩)⟩)⟩)⟩)
theorem zt_d2 : ∀ k, k < 4 → parseFieldDescriptor (zt_T2 k).2.2.1 = some (match zt_fk 2 k with
  | 0 => .int
  | 4 => .boolean
  | _ => (parseFieldDescriptor (zt_T2 k).2.2.1).getD .int) := by decide +kernel
theorem zt_e2 : ∀ k, k < 4 → defaultValue (match zt_fk 2 k with
  | 0 => .int
  | 4 => .boolean
  | _ => (parseFieldDescriptor (zt_T2 k).2.2.1).getD .int) = (if zt_isr 2 k = true then .null else .int 0) := by decide +kernel
theorem zt_n2 : ∀ a, a < 4 → ∀ b, b < 4 → a ≠ b → (zt_T2 a).2.1 ≠ (zt_T2 b).2.1 := by decide +kernel
set_option maxRecDepth 20000 in
theorem zt_u3 : ∀ u ∈ u_ws "FirstAtTheFirst$Tape" zt_T3 6, u ∈ zt_Ts := (List.forall_mem_cons.mpr ⟨zw_95, (List.forall_mem_cons.mpr ⟨zw_97, (List.forall_mem_cons.mpr ⟨zw_99, (List.forall_mem_cons.mpr ⟨zw_101, (List.forall_mem_cons.mpr ⟨zw_103, (List.forall_mem_cons.mpr ⟨zw_105, (fun _ h => absurd h List.not_mem_nil)⟩)⟩)⟩)⟩)⟩)⟩)
theorem zt_d3 : ∀ k, k < 6 → parseFieldDescriptor (zt_T3 k).2.2.1 = some (match zt_fk 3 k with
  | 0 => .int
  | 4 => .boolean
  | _ => (parseFieldDescriptor (zt_T3 k).2.2.1).getD .int) := by decide +kernel
theorem zt_e3 : ∀ k, k < 6 → defaultValue (match zt_fk 3 k with
  | 0 => .int
  | 4 => .boolean
  | _ => (parseFieldDescriptor (zt_T3 k).2.2.1).getD .int) = (if zt_isr 3 k = true then .null else .int 0) := by decide +kernel
theorem zt_n3 : ∀ a, a < 6 → ∀ b, b < 6 → a ≠ b → (zt_T3 a).2.1 ≠ (zt_T3 b).2.1 := by decide +kernel
set_option maxRecDepth 20000 in
theorem zt_u4 : ∀ u ∈ u_ws "FirstAtTheFirst" zt_T4 14, u ∈ zt_Ts := (List.forall_mem_cons.mpr ⟨zw_178, (List.forall_mem_cons.mpr ⟨zw_180, (List.forall_mem_cons.mpr ⟨zw_182, (List.forall_mem_cons.mpr ⟨zw_184, (List.forall_mem_cons.mpr ⟨zw_186, (List.forall_mem_cons.mpr ⟨zw_188, (List.forall_mem_cons.mpr ⟨zw_190, (List.forall_mem_cons.mpr ⟨zw_192, (List.forall_mem_cons.mpr ⟨zw_194, (List.forall_mem_cons.mpr ⟨zw_196, (List.forall_mem_cons.mpr ⟨zw_198, (List.forall_mem_cons.mpr ⟨zw_200, (List.forall_mem_cons.mpr ⟨zw_202, (List.forall_mem_cons.mpr ⟨zw_204, (fun _ h => absurd h List.not_mem_nil)⟩)⟩)⟩)⟩)⟩)⟩)⟩)⟩)⟩)⟩)⟩)⟩)⟩)⟩)
theorem zt_d4 : ∀ k, k < 14 → parseFieldDescriptor (zt_T4 k).2.2.1 = some (match zt_fk 4 k with
  | 0 => .int
  | 4 => .boolean
  | _ => (parseFieldDescriptor (zt_T4 k).2.2.1).getD .int) := by decide +kernel
theorem zt_e4 : ∀ k, k < 14 → defaultValue (match zt_fk 4 k with
  | 0 => .int
  | 4 => .boolean
  | _ => (parseFieldDescriptor (zt_T4 k).2.2.1).getD .int) = (if zt_isr 4 k = true then .null else .int 0) := by decide +kernel
theorem zt_n4 : ∀ a, a < 14 → ∀ b, b < 14 → a ≠ b → (zt_T4 a).2.1 ≠ (zt_T4 b).2.1 := by decide +kernel
set_option maxRecDepth 20000 in
theorem zt_u5 : ∀ u ∈ u_ws "FirstAtTheFirstModel" zt_T5 43, u ∈ zt_Ts := (List.forall_mem_cons.mpr ⟨zw_904, (List.forall_mem_cons.mpr ⟨zw_906, (List.forall_mem_cons.mpr ⟨zw_908, (List.forall_mem_cons.mpr ⟨zw_910, (List.forall_mem_cons.mpr ⟨zw_912, (List.forall_mem_cons.mpr ⟨zw_914, (List.forall_mem_cons.mpr ⟨zw_916, (List.forall_mem_cons.mpr ⟨zw_918, (List.forall_mem_cons.mpr ⟨zw_920, (List.forall_mem_cons.mpr ⟨zw_922, (List.forall_mem_cons.mpr ⟨zw_924, (List.forall_mem_cons.mpr ⟨zw_926, (List.forall_mem_cons.mpr ⟨zw_928, (List.forall_mem_cons.mpr ⟨zw_930, (List.forall_mem_cons.mpr ⟨zw_932, (List.forall_mem_cons.mpr ⟨zw_934, (List.forall_mem_cons.mpr ⟨zw_936, (List.forall_mem_cons.mpr ⟨zw_938, (List.forall_mem_cons.mpr ⟨zw_940, (List.forall_mem_cons.mpr ⟨zw_942, (List.forall_mem_cons.mpr ⟨zw_944, (List.forall_mem_cons.mpr ⟨zw_946, (List.forall_mem_cons.mpr ⟨zw_948, (List.forall_mem_cons.mpr ⟨zw_950, (List.forall_mem_cons.mpr ⟨zw_952, (List.forall_mem_cons.mpr ⟨zw_954, (List.forall_mem_cons.mpr ⟨zw_956, (List.forall_mem_cons.mpr ⟨zw_958, (List.forall_mem_cons.mpr ⟨zw_960, (List.forall_mem_cons.mpr ⟨zw_962, (List.forall_mem_cons.mpr ⟨zw_964, (List.forall_mem_cons.mpr ⟨zw_966, (List.forall_mem_cons.mpr ⟨zw_968, (List.forall_mem_cons.mpr ⟨zw_970, (List.forall_mem_cons.mpr ⟨zw_972, (List.forall_mem_cons.mpr ⟨zw_974, (List.forall_mem_cons.mpr ⟨zw_976, (List.forall_mem_cons.mpr ⟨zw_978, (List.forall_mem_cons.mpr ⟨zw_980, (List.forall_mem_cons.mpr ⟨zw_982, (List.forall_mem_cons.mpr ⟨zw_984, (List.forall_mem_cons.mpr ⟨zw_986, (List.forall_mem_cons.mpr ⟨zw_988, (fun _ h => absurd h List.not_mem_nil)⟩)⟩)⟩)⟩)⟩)⟩)⟩)⟩)⟩)⟩)⟩)⟩)⟩)⟩)⟩)⟩)⟩)⟩)⟩)⟩)⟩)⟩)⟩)⟩)⟩)⟩)⟩)⟩)⟩)⟩)⟩)⟩)⟩)⟩)⟩)⟩)⟩)⟩)⟩)⟩)⟩)⟩)⟩)
theorem zt_d5 : ∀ k, k < 43 → parseFieldDescriptor (zt_T5 k).2.2.1 = some (match zt_fk 5 k with
  | 0 => .int
  | 4 => .boolean
  | _ => (parseFieldDescriptor (zt_T5 k).2.2.1).getD .int) := by decide +kernel
theorem zt_e5 : ∀ k, k < 43 → defaultValue (match zt_fk 5 k with
  | 0 => .int
  | 4 => .boolean
  | _ => (parseFieldDescriptor (zt_T5 k).2.2.1).getD .int) = (if zt_isr 5 k = true then .null else .int 0) := by decide +kernel
theorem zt_n5 : ∀ a, a < 43 → ∀ b, b < 43 → a ≠ b → (zt_T5 a).2.1 ≠ (zt_T5 b).2.1 := by decide +kernel
theorem zt_Cls (q : Option (Nat × (Nat → Int32))) : zx_Cls (zt_P q) zt_Ts zt_cl zt_isr := by
  intro ci C T n h
  match ci, h with
  | 0, h => cases h; exact ⟨rfl, zt_u0, ⟨_, zt_d0, zt_e0⟩, zt_n0⟩
  | 1, h => cases h; exact ⟨rfl, zt_u1, ⟨_, zt_d1, zt_e1⟩, zt_n1⟩
  | 2, h => cases h; exact ⟨rfl, zt_u2, ⟨_, zt_d2, zt_e2⟩, zt_n2⟩
  | 3, h => cases h; exact ⟨rfl, zt_u3, ⟨_, zt_d3, zt_e3⟩, zt_n3⟩
  | 4, h => cases h; exact ⟨rfl, zt_u4, ⟨_, zt_d4, zt_e4⟩, zt_n4⟩
  | 5, h => cases h; exact ⟨rfl, zt_u5, ⟨_, zt_d5, zt_e5⟩, zt_n5⟩
  | n + 6, h => simp [zt_cl] at h
theorem zt_c1 : Cond.initialized "FirstAtTheFirst$Estate" ∈ zt_Ts ∧ plainName "FirstAtTheFirst$Estate" = true ∧ ("FirstAtTheFirst$Estate" : String) ≠ "java/lang/invoke/MethodHandle" ∧ ("FirstAtTheFirst$Estate" : String) ≠ "java/lang/invoke/VarHandle" := ⟨zw_2, by decide +kernel, by decide +kernel, by decide +kernel⟩
theorem zt_c2 : Cond.initialized "FirstAtTheFirst$Mind" ∈ zt_Ts ∧ plainName "FirstAtTheFirst$Mind" = true ∧ ("FirstAtTheFirst$Mind" : String) ≠ "java/lang/invoke/MethodHandle" ∧ ("FirstAtTheFirst$Mind" : String) ≠ "java/lang/invoke/VarHandle" := ⟨zw_5, by decide +kernel, by decide +kernel, by decide +kernel⟩
theorem zt_c3 : Cond.initialized "FirstAtTheFirst$Shelves" ∈ zt_Ts ∧ plainName "FirstAtTheFirst$Shelves" = true ∧ ("FirstAtTheFirst$Shelves" : String) ≠ "java/lang/invoke/MethodHandle" ∧ ("FirstAtTheFirst$Shelves" : String) ≠ "java/lang/invoke/VarHandle" := ⟨zw_4, by decide +kernel, by decide +kernel, by decide +kernel⟩
theorem zt_c4 : Cond.initialized "FirstAtTheFirst$Tape" ∈ zt_Ts ∧ plainName "FirstAtTheFirst$Tape" = true ∧ ("FirstAtTheFirst$Tape" : String) ≠ "java/lang/invoke/MethodHandle" ∧ ("FirstAtTheFirst$Tape" : String) ≠ "java/lang/invoke/VarHandle" := ⟨zw_3, by decide +kernel, by decide +kernel, by decide +kernel⟩
theorem zt_c5 : Cond.initialized "FirstAtTheFirst" ∈ zt_Ts ∧ plainName "FirstAtTheFirst" = true ∧ ("FirstAtTheFirst" : String) ≠ "java/lang/invoke/MethodHandle" ∧ ("FirstAtTheFirst" : String) ≠ "java/lang/invoke/VarHandle" := ⟨zw_1, by decide +kernel, by decide +kernel, by decide +kernel⟩
theorem zt_c6 : Cond.initialized "FirstAtTheFirstModel" ∈ zt_Ts ∧ plainName "FirstAtTheFirstModel" = true ∧ ("FirstAtTheFirstModel" : String) ≠ "java/lang/invoke/MethodHandle" ∧ ("FirstAtTheFirstModel" : String) ≠ "java/lang/invoke/VarHandle" := ⟨zw_6, by decide +kernel, by decide +kernel, by decide +kernel⟩
theorem zt_c7 : Cond.initialized "java/lang/Integer" ∈ zt_Ts ∧ plainName "java/lang/Integer" = true ∧ ("java/lang/Integer" : String) ≠ "java/lang/invoke/MethodHandle" ∧ ("java/lang/Integer" : String) ≠ "java/lang/invoke/VarHandle" := ⟨zw_7, by decide +kernel, by decide +kernel, by decide +kernel⟩
theorem zt_c9 : Cond.initialized "java/lang/String" ∈ zt_Ts ∧ plainName "java/lang/String" = true ∧ ("java/lang/String" : String) ≠ "java/lang/invoke/MethodHandle" ∧ ("java/lang/String" : String) ≠ "java/lang/invoke/VarHandle" := ⟨zw_9, by decide +kernel, by decide +kernel, by decide +kernel⟩
theorem zt_c10 : Cond.initialized "java/lang/StringLatin1" ∈ zt_Ts ∧ plainName "java/lang/StringLatin1" = true ∧ ("java/lang/StringLatin1" : String) ≠ "java/lang/invoke/MethodHandle" ∧ ("java/lang/StringLatin1" : String) ≠ "java/lang/invoke/VarHandle" := ⟨zw_10, by decide +kernel, by decide +kernel, by decide +kernel⟩
theorem zt_c11 : Cond.initialized "java/lang/StringUTF16" ∈ zt_Ts ∧ plainName "java/lang/StringUTF16" = true ∧ ("java/lang/StringUTF16" : String) ≠ "java/lang/invoke/MethodHandle" ∧ ("java/lang/StringUTF16" : String) ≠ "java/lang/invoke/VarHandle" := ⟨zw_12, by decide +kernel, by decide +kernel, by decide +kernel⟩
theorem zt_c12 : Cond.initialized "jdk/internal/util/Preconditions" ∈ zt_Ts ∧ plainName "jdk/internal/util/Preconditions" = true ∧ ("jdk/internal/util/Preconditions" : String) ≠ "java/lang/invoke/MethodHandle" ∧ ("jdk/internal/util/Preconditions" : String) ≠ "java/lang/invoke/VarHandle" := ⟨zw_11, by decide +kernel, by decide +kernel, by decide +kernel⟩
def zt_ret (a : Nat) : Option FieldType := match a with
  | 0 => some .int
  | 1 => some .boolean
  | 2 => some .char
  | 3 => some .byte
  | 4 => some .long
  | 5 => some (.object "FirstAtTheFirstModel")
  | _ => none
/-- what is so of each row: (method, own class, form: 0 static 1 instance 2 constructor 3 the law 4 none, parameters, receiver, answer) -/
def zt_mp (q : zx_M × Nat × Nat × Nat × Int × Nat) : Prop :=
  (q.2.2.1 ≤ 2 → zx_gm zt_Ts q.1 q.2.2.2.1) ∧ q.1.1.cls = zt_cn q.2.1 ∧ q.1.2.2.2 = zt_ret q.2.2.2.2.2 ∧
  (q.2.2.1 = 1 → Cond.instanceMethod q.1.1 ∈ zt_Ts ∧ Cond.selects q.1.1.cls q.1.1 q.1.1 ∈ zt_Ts ∧ ((q.2.2.2.2.1 = 6 ∧ q.1.1.cls = "java/lang/String") ∨ ∃ (ci : Nat) (T : u_T) (n : Nat), q.2.2.2.2.1 = (ci : Int) ∧ ci < 6 ∧ zt_cl[ci]? = some (q.1.1.cls, T, n))) ∧
  (q.2.2.1 = 2 → Cond.instanceMethod q.1.1 ∈ zt_Ts ∧ q.1.1.name = "<init>" ∧ q.1.2.2.2 = none) ∧
  (q.2.2.1 = 0 → Cond.static q.1.1 ∈ zt_Ts)

theorem zd_0 : (parseMethodDescriptor "()V").map (fun d => d.parameters.length) = some 0 := by decide +kernel
theorem zd_1 : (parseMethodDescriptor "(III)I").map (fun d => d.parameters.length) = some 3 := by decide +kernel
theorem zd_2 : (parseMethodDescriptor "(I)Z").map (fun d => d.parameters.length) = some 1 := by decide +kernel
theorem zd_3 : (parseMethodDescriptor "(I)I").map (fun d => d.parameters.length) = some 1 := by decide +kernel
theorem zd_4 : (parseMethodDescriptor "([II)I").map (fun d => d.parameters.length) = some 2 := by decide +kernel
theorem zd_5 : (parseMethodDescriptor "([III)V").map (fun d => d.parameters.length) = some 3 := by decide +kernel
theorem zd_6 : (parseMethodDescriptor "(III)V").map (fun d => d.parameters.length) = some 3 := by decide +kernel
theorem zd_7 : (parseMethodDescriptor "(IIJ)V").map (fun d => d.parameters.length) = some 3 := by decide +kernel
theorem zd_8 : (parseMethodDescriptor "(IJ)J").map (fun d => d.parameters.length) = some 2 := by decide +kernel
theorem zd_9 : (parseMethodDescriptor "(IIJ)I").map (fun d => d.parameters.length) = some 3 := by decide +kernel
theorem zd_10 : (parseMethodDescriptor "(IIIII)I").map (fun d => d.parameters.length) = some 5 := by decide +kernel
theorem zd_11 : (parseMethodDescriptor "(II)I").map (fun d => d.parameters.length) = some 2 := by decide +kernel
theorem zd_12 : (parseMethodDescriptor "(IIIII)V").map (fun d => d.parameters.length) = some 5 := by decide +kernel
theorem zd_13 : (parseMethodDescriptor "(II)J").map (fun d => d.parameters.length) = some 2 := by decide +kernel
theorem zd_14 : (parseMethodDescriptor "(I)V").map (fun d => d.parameters.length) = some 1 := by decide +kernel
theorem zd_15 : (parseMethodDescriptor "(II)Z").map (fun d => d.parameters.length) = some 2 := by decide +kernel
theorem zd_16 : (parseMethodDescriptor "(LFirstAtTheFirst$Estate;)V").map (fun d => d.parameters.length) = some 1 := by decide +kernel
theorem zd_17 : (parseMethodDescriptor "([I[I)V").map (fun d => d.parameters.length) = some 2 := by decide +kernel
theorem zd_18 : (parseMethodDescriptor "(LFirstAtTheFirst$Estate;I)V").map (fun d => d.parameters.length) = some 2 := by decide +kernel
theorem zd_19 : (parseMethodDescriptor "(II)V").map (fun d => d.parameters.length) = some 2 := by decide +kernel
theorem zd_20 : (parseMethodDescriptor "(III)Z").map (fun d => d.parameters.length) = some 3 := by decide +kernel
theorem zd_21 : (parseMethodDescriptor "()I").map (fun d => d.parameters.length) = some 0 := by decide +kernel
theorem zd_22 : (parseMethodDescriptor "(LFirstAtTheFirst$Estate;)I").map (fun d => d.parameters.length) = some 1 := by decide +kernel
theorem zd_23 : (parseMethodDescriptor "(Ljava/lang/String;)Z").map (fun d => d.parameters.length) = some 1 := by decide +kernel
theorem zd_24 : (parseMethodDescriptor "()B").map (fun d => d.parameters.length) = some 0 := by decide +kernel
theorem zd_25 : (parseMethodDescriptor "(I)C").map (fun d => d.parameters.length) = some 1 := by decide +kernel
theorem zd_26 : (parseMethodDescriptor "()Z").map (fun d => d.parameters.length) = some 0 := by decide +kernel
theorem zd_27 : (parseMethodDescriptor "([BI)C").map (fun d => d.parameters.length) = some 2 := by decide +kernel
theorem zd_28 : (parseMethodDescriptor "(IILjava/util/function/BiFunction;)I").map (fun d => d.parameters.length) = some 3 := by decide +kernel
theorem zd_29 : (parseMethodDescriptor "(I[B)V").map (fun d => d.parameters.length) = some 2 := by decide +kernel
theorem zd_30 : (parseMethodDescriptor "([B)I").map (fun d => d.parameters.length) = some 1 := by decide +kernel
theorem zd_31 : (parseMethodDescriptor "(III)J").map (fun d => d.parameters.length) = some 3 := by decide +kernel
theorem zd_32 : (parseMethodDescriptor "(JI)J").map (fun d => d.parameters.length) = some 2 := by decide +kernel
theorem zd_33 : (parseMethodDescriptor "(LFirstAtTheFirst$Mind;I)V").map (fun d => d.parameters.length) = some 2 := by decide +kernel
theorem zd_34 : (parseMethodDescriptor "([II)V").map (fun d => d.parameters.length) = some 2 := by decide +kernel
theorem zd_35 : (parseMethodDescriptor "(JJJ)Z").map (fun d => d.parameters.length) = some 3 := by decide +kernel
theorem zd_36 : (parseMethodDescriptor "(IIII)I").map (fun d => d.parameters.length) = some 4 := by decide +kernel
theorem zd_37 : (parseMethodDescriptor "()LFirstAtTheFirstModel;").map (fun d => d.parameters.length) = some 0 := by decide +kernel
theorem zd_38 : (parseMethodDescriptor "(LFirstAtTheFirstModel;)V").map (fun d => d.parameters.length) = some 1 := by decide +kernel
theorem zd_39 : (parseMethodDescriptor "([JII)I").map (fun d => d.parameters.length) = some 3 := by decide +kernel
theorem zd_40 : (parseMethodDescriptor "([JIII)Z").map (fun d => d.parameters.length) = some 4 := by decide +kernel
theorem zd_41 : (parseMethodDescriptor "([I[II)Z").map (fun d => d.parameters.length) = some 3 := by decide +kernel
def zt_M0 : List (zx_M × Nat × Nat × Nat × Int × Nat) := [((({ cls := "FirstAtTheFirstLaw", name := "law", desc := "([I)Z" } : Jvm.MethodName), code, 4, some .boolean), (0, 3, 1, -1, 1)),
  ((({ cls := "FirstAtTheFirst", name := "<init>", desc := "()V" } : Jvm.MethodName), prog_1_method_1_code, 1, none), (5, 2, 0, 100, 6)),
  ((({ cls := "java/lang/Object", name := "<init>", desc := "()V" } : Jvm.MethodName), object_method_1_code, 1, none), (13, 4, 0, 100, 6)),
  ((({ cls := "FirstAtTheFirst$Estate", name := "<init>", desc := "()V" } : Jvm.MethodName), prog_2_method_1_code, 1, none), (1, 2, 0, 100, 6)),
  ((({ cls := "FirstAtTheFirst$Tape", name := "<init>", desc := "()V" } : Jvm.MethodName), prog_5_method_1_code, 1, none), (4, 2, 0, 100, 6)),
  ((({ cls := "FirstAtTheFirst$Shelves", name := "<init>", desc := "()V" } : Jvm.MethodName), prog_4_method_1_code, 1, none), (3, 2, 0, 100, 6)),
  ((({ cls := "FirstAtTheFirst$Mind", name := "<init>", desc := "()V" } : Jvm.MethodName), prog_3_method_1_code, 1, none), (2, 2, 0, 100, 6)),
  ((({ cls := "FirstAtTheFirst", name := "row", desc := "(III)I" } : Jvm.MethodName), prog_1_method_2_code, 4, some .int), (5, 1, 3, 4, 0)),
  ((({ cls := "FirstAtTheFirst$Shelves", name := "isShelf", desc := "(I)Z" } : Jvm.MethodName), prog_4_method_2_code, 1, some .boolean), (3, 0, 1, -1, 1)),
  ((({ cls := "FirstAtTheFirst$Shelves", name := "isSort", desc := "(I)Z" } : Jvm.MethodName), prog_4_method_3_code, 1, some .boolean), (3, 0, 1, -1, 1)),
  ((({ cls := "FirstAtTheFirst", name := "refuse", desc := "(I)I" } : Jvm.MethodName), prog_1_method_49_code, 3, some .int), (5, 1, 1, 4, 0)),
  ((({ cls := "FirstAtTheFirst", name := "at", desc := "([II)I" } : Jvm.MethodName), prog_1_method_50_code, 2, some .int), (5, 0, 2, -1, 0)),
  ((({ cls := "FirstAtTheFirst", name := "put", desc := "([III)V" } : Jvm.MethodName), prog_1_method_51_code, 3, none), (5, 0, 3, -1, 6)),
  ((({ cls := "FirstAtTheFirst$Shelves", name := "putRow", desc := "(III)V" } : Jvm.MethodName), prog_4_method_14_code, 5, none), (3, 1, 3, 2, 6)),
  ((({ cls := "FirstAtTheFirst$Shelves", name := "putElement", desc := "(IIJ)V" } : Jvm.MethodName), prog_4_method_16_code, 6, none), (3, 1, 3, 2, 6)),
  ((({ cls := "FirstAtTheFirst$Shelves", name := "sizeOf", desc := "(I)I" } : Jvm.MethodName), prog_4_method_5_code, 2, some .int), (3, 1, 1, 2, 0))]
theorem zt_m0 : zt_mp ((({ cls := "FirstAtTheFirstLaw", name := "law", desc := "([I)Z" } : Jvm.MethodName), code, 4, some .boolean), (0, 3, 1, -1, 1)) := ⟨(fun e => absurd e (by decide)), rfl, rfl, (fun e => absurd e (by decide)), (fun e => absurd e (by decide)), (fun e => absurd e (by decide))⟩
theorem zt_m1 : zt_mp ((({ cls := "FirstAtTheFirst", name := "<init>", desc := "()V" } : Jvm.MethodName), prog_1_method_1_code, 1, none), (5, 2, 0, 100, 6)) := ⟨(fun _ => ⟨zw_17, zt_c5.1, by decide, zt_c5.2.1, zt_c5.2.2.1, zt_c5.2.2.2, zd_0⟩), rfl, rfl, (fun e => absurd e (by decide)), (fun _ => ⟨zw_16, rfl, rfl⟩), (fun e => absurd e (by decide))⟩
theorem zt_m2 : zt_mp ((({ cls := "java/lang/Object", name := "<init>", desc := "()V" } : Jvm.MethodName), object_method_1_code, 1, none), (13, 4, 0, 100, 6)) := ⟨(fun e => absurd e (by decide)), rfl, rfl, (fun e => absurd e (by decide)), (fun e => absurd e (by decide)), (fun e => absurd e (by decide))⟩
theorem zt_m3 : zt_mp ((({ cls := "FirstAtTheFirst$Estate", name := "<init>", desc := "()V" } : Jvm.MethodName), prog_2_method_1_code, 1, none), (1, 2, 0, 100, 6)) := ⟨(fun _ => ⟨zw_25, zt_c1.1, by decide, zt_c1.2.1, zt_c1.2.2.1, zt_c1.2.2.2, zd_0⟩), rfl, rfl, (fun e => absurd e (by decide)), (fun _ => ⟨zw_24, rfl, rfl⟩), (fun e => absurd e (by decide))⟩
theorem zt_m4 : zt_mp ((({ cls := "FirstAtTheFirst$Tape", name := "<init>", desc := "()V" } : Jvm.MethodName), prog_5_method_1_code, 1, none), (4, 2, 0, 100, 6)) := ⟨(fun _ => ⟨zw_84, zt_c4.1, by decide, zt_c4.2.1, zt_c4.2.2.1, zt_c4.2.2.2, zd_0⟩), rfl, rfl, (fun e => absurd e (by decide)), (fun _ => ⟨zw_83, rfl, rfl⟩), (fun e => absurd e (by decide))⟩
theorem zt_m5 : zt_mp ((({ cls := "FirstAtTheFirst$Shelves", name := "<init>", desc := "()V" } : Jvm.MethodName), prog_4_method_1_code, 1, none), (3, 2, 0, 100, 6)) := ⟨(fun _ => ⟨zw_112, zt_c3.1, by decide, zt_c3.2.1, zt_c3.2.2.1, zt_c3.2.2.2, zd_0⟩), rfl, rfl, (fun e => absurd e (by decide)), (fun _ => ⟨zw_111, rfl, rfl⟩), (fun e => absurd e (by decide))⟩
theorem zt_m6 : zt_mp ((({ cls := "FirstAtTheFirst$Mind", name := "<init>", desc := "()V" } : Jvm.MethodName), prog_3_method_1_code, 1, none), (2, 2, 0, 100, 6)) := ⟨(fun _ => ⟨zw_132, zt_c2.1, by decide, zt_c2.2.1, zt_c2.2.2.1, zt_c2.2.2.2, zd_0⟩), rfl, rfl, (fun e => absurd e (by decide)), (fun _ => ⟨zw_131, rfl, rfl⟩), (fun e => absurd e (by decide))⟩
theorem zt_m7 : zt_mp ((({ cls := "FirstAtTheFirst", name := "row", desc := "(III)I" } : Jvm.MethodName), prog_1_method_2_code, 4, some .int), (5, 1, 3, 4, 0)) := ⟨(fun _ => ⟨zw_210, zt_c5.1, by decide, zt_c5.2.1, zt_c5.2.2.1, zt_c5.2.2.2, zd_1⟩), rfl, rfl, (fun _ => ⟨zw_208, zw_209, (Or.inr ⟨4, zt_T4, 14, rfl, by decide, rfl⟩)⟩), (fun e => absurd e (by decide)), (fun e => absurd e (by decide))⟩
theorem zt_m8 : zt_mp ((({ cls := "FirstAtTheFirst$Shelves", name := "isShelf", desc := "(I)Z" } : Jvm.MethodName), prog_4_method_2_code, 1, some .boolean), (3, 0, 1, -1, 1)) := ⟨(fun _ => ⟨zw_213, zt_c3.1, by decide, zt_c3.2.1, zt_c3.2.2.1, zt_c3.2.2.2, zd_2⟩), rfl, rfl, (fun e => absurd e (by decide)), (fun e => absurd e (by decide)), (fun _ => zw_212)⟩
theorem zt_m9 : zt_mp ((({ cls := "FirstAtTheFirst$Shelves", name := "isSort", desc := "(I)Z" } : Jvm.MethodName), prog_4_method_3_code, 1, some .boolean), (3, 0, 1, -1, 1)) := ⟨(fun _ => ⟨zw_216, zt_c3.1, by decide, zt_c3.2.1, zt_c3.2.2.1, zt_c3.2.2.2, zd_2⟩), rfl, rfl, (fun e => absurd e (by decide)), (fun e => absurd e (by decide)), (fun _ => zw_215)⟩
theorem zt_m10 : zt_mp ((({ cls := "FirstAtTheFirst", name := "refuse", desc := "(I)I" } : Jvm.MethodName), prog_1_method_49_code, 3, some .int), (5, 1, 1, 4, 0)) := ⟨(fun _ => ⟨zw_220, zt_c5.1, by decide, zt_c5.2.1, zt_c5.2.2.1, zt_c5.2.2.2, zd_3⟩), rfl, rfl, (fun _ => ⟨zw_219, (zt_insel (zt_p1 (List.Mem.head _))), (Or.inr ⟨4, zt_T4, 14, rfl, by decide, rfl⟩)⟩), (fun e => absurd e (by decide)), (fun e => absurd e (by decide))⟩
theorem zt_m11 : zt_mp ((({ cls := "FirstAtTheFirst", name := "at", desc := "([II)I" } : Jvm.MethodName), prog_1_method_50_code, 2, some .int), (5, 0, 2, -1, 0)) := ⟨(fun _ => ⟨zw_223, zt_c5.1, by decide, zt_c5.2.1, zt_c5.2.2.1, zt_c5.2.2.2, zd_4⟩), rfl, rfl, (fun e => absurd e (by decide)), (fun e => absurd e (by decide)), (fun _ => zw_222)⟩
theorem zt_m12 : zt_mp ((({ cls := "FirstAtTheFirst", name := "put", desc := "([III)V" } : Jvm.MethodName), prog_1_method_51_code, 3, none), (5, 0, 3, -1, 6)) := ⟨(fun _ => ⟨zw_226, zt_c5.1, by decide, zt_c5.2.1, zt_c5.2.2.1, zt_c5.2.2.2, zd_5⟩), rfl, rfl, (fun e => absurd e (by decide)), (fun e => absurd e (by decide)), (fun _ => zw_225)⟩
theorem zt_m13 : zt_mp ((({ cls := "FirstAtTheFirst$Shelves", name := "putRow", desc := "(III)V" } : Jvm.MethodName), prog_4_method_14_code, 5, none), (3, 1, 3, 2, 6)) := ⟨(fun _ => ⟨zw_230, zt_c3.1, by decide, zt_c3.2.1, zt_c3.2.2.1, zt_c3.2.2.2, zd_6⟩), rfl, rfl, (fun _ => ⟨zw_228, zw_229, (Or.inr ⟨2, zt_T2, 4, rfl, by decide, rfl⟩)⟩), (fun e => absurd e (by decide)), (fun e => absurd e (by decide))⟩
theorem zt_m14 : zt_mp ((({ cls := "FirstAtTheFirst$Shelves", name := "putElement", desc := "(IIJ)V" } : Jvm.MethodName), prog_4_method_16_code, 6, none), (3, 1, 3, 2, 6)) := ⟨(fun _ => ⟨zw_235, zt_c3.1, by decide, zt_c3.2.1, zt_c3.2.2.1, zt_c3.2.2.2, zd_7⟩), rfl, rfl, (fun _ => ⟨zw_233, zw_234, (Or.inr ⟨2, zt_T2, 4, rfl, by decide, rfl⟩)⟩), (fun e => absurd e (by decide)), (fun e => absurd e (by decide))⟩
theorem zt_m15 : zt_mp ((({ cls := "FirstAtTheFirst$Shelves", name := "sizeOf", desc := "(I)I" } : Jvm.MethodName), prog_4_method_5_code, 2, some .int), (3, 1, 1, 2, 0)) := ⟨(fun _ => ⟨zw_239, zt_c3.1, by decide, zt_c3.2.1, zt_c3.2.2.1, zt_c3.2.2.2, zd_3⟩), rfl, rfl, (fun _ => ⟨zw_237, zw_238, (Or.inr ⟨2, zt_T2, 4, rfl, by decide, rfl⟩)⟩), (fun e => absurd e (by decide)), (fun e => absurd e (by decide))⟩
theorem zt_mm0 : ∀ q ∈ zt_M0, zt_mp q := (List.forall_mem_cons.mpr ⟨zt_m0, (List.forall_mem_cons.mpr ⟨zt_m1, (List.forall_mem_cons.mpr ⟨zt_m2, (List.forall_mem_cons.mpr ⟨zt_m3, (List.forall_mem_cons.mpr ⟨zt_m4, (List.forall_mem_cons.mpr ⟨zt_m5, (List.forall_mem_cons.mpr ⟨zt_m6, (List.forall_mem_cons.mpr ⟨zt_m7, (List.forall_mem_cons.mpr ⟨zt_m8, (List.forall_mem_cons.mpr ⟨zt_m9, (List.forall_mem_cons.mpr ⟨zt_m10, (List.forall_mem_cons.mpr ⟨zt_m11, (List.forall_mem_cons.mpr ⟨zt_m12, (List.forall_mem_cons.mpr ⟨zt_m13, (List.forall_mem_cons.mpr ⟨zt_m14, (List.forall_mem_cons.mpr ⟨zt_m15, (fun _ h => absurd h List.not_mem_nil)⟩)⟩)⟩)⟩)⟩)⟩)⟩)⟩)⟩)⟩)⟩)⟩)⟩)⟩)⟩)⟩)
def zt_M1 : List (zx_M × Nat × Nat × Nat × Int × Nat) := [((({ cls := "FirstAtTheFirst$Shelves", name := "kindOf", desc := "(I)I" } : Jvm.MethodName), prog_4_method_4_code, 2, some .int), (3, 1, 1, 2, 0)),
  ((({ cls := "FirstAtTheFirst$Shelves", name := "lowestBits", desc := "(IJ)J" } : Jvm.MethodName), prog_4_method_17_code, 3, some .long), (3, 0, 2, -1, 4)),
  ((({ cls := "FirstAtTheFirst", name := "set", desc := "(IIJ)I" } : Jvm.MethodName), prog_1_method_3_code, 6, some .int), (5, 1, 3, 4, 0)),
  ((({ cls := "FirstAtTheFirst$Shelves", name := "rowTrouble", desc := "(I)I" } : Jvm.MethodName), prog_4_method_9_code, 2, some .int), (3, 1, 1, 2, 0)),
  ((({ cls := "FirstAtTheFirst", name := "copy", desc := "(IIIII)I" } : Jvm.MethodName), prog_1_method_4_code, 7, some .int), (5, 1, 5, 4, 0)),
  ((({ cls := "FirstAtTheFirst$Shelves", name := "pairTrouble", desc := "(II)I" } : Jvm.MethodName), prog_4_method_11_code, 5, some .int), (3, 1, 2, 2, 0)),
  ((({ cls := "FirstAtTheFirst$Shelves", name := "copyElements", desc := "(IIIII)V" } : Jvm.MethodName), prog_4_method_18_code, 8, none), (3, 1, 5, 2, 6)),
  ((({ cls := "FirstAtTheFirst$Shelves", name := "elementOf", desc := "(II)J" } : Jvm.MethodName), prog_4_method_15_code, 5, some .long), (3, 1, 2, 2, 4)),
  ((({ cls := "FirstAtTheFirst", name := "element", desc := "(II)J" } : Jvm.MethodName), prog_1_method_5_code, 3, some .long), (5, 1, 2, 4, 4)),
  ((({ cls := "FirstAtTheFirst", name := "holds", desc := "(I)I" } : Jvm.MethodName), prog_1_method_6_code, 2, some .int), (5, 1, 1, 4, 0)),
  ((({ cls := "FirstAtTheFirst", name := "show", desc := "(II)I" } : Jvm.MethodName), prog_1_method_7_code, 3, some .int), (5, 1, 2, 4, 0)),
  ((({ cls := "FirstAtTheFirst$Estate", name := "isSide", desc := "(I)Z" } : Jvm.MethodName), prog_2_method_3_code, 2, some .boolean), (1, 1, 1, 0, 1)),
  ((({ cls := "FirstAtTheFirst$Shelves", name := "putNothing", desc := "(I)V" } : Jvm.MethodName), prog_4_method_12_code, 2, none), (3, 1, 1, 2, 6)),
  ((({ cls := "FirstAtTheFirst$Estate", name := "bentOf", desc := "(I)I" } : Jvm.MethodName), prog_2_method_5_code, 2, some .int), (1, 1, 1, 0, 0)),
  ((({ cls := "FirstAtTheFirst$Shelves", name := "putBent", desc := "(III)V" } : Jvm.MethodName), prog_4_method_13_code, 4, none), (3, 1, 3, 2, 6)),
  ((({ cls := "FirstAtTheFirst", name := "says", desc := "(II)I" } : Jvm.MethodName), prog_1_method_8_code, 6, some .int), (5, 1, 2, 4, 0))]
theorem zt_m16 : zt_mp ((({ cls := "FirstAtTheFirst$Shelves", name := "kindOf", desc := "(I)I" } : Jvm.MethodName), prog_4_method_4_code, 2, some .int), (3, 1, 1, 2, 0)) := ⟨(fun _ => ⟨zw_243, zt_c3.1, by decide, zt_c3.2.1, zt_c3.2.2.1, zt_c3.2.2.2, zd_3⟩), rfl, rfl, (fun _ => ⟨zw_241, zw_242, (Or.inr ⟨2, zt_T2, 4, rfl, by decide, rfl⟩)⟩), (fun e => absurd e (by decide)), (fun e => absurd e (by decide))⟩
theorem zt_m17 : zt_mp ((({ cls := "FirstAtTheFirst$Shelves", name := "lowestBits", desc := "(IJ)J" } : Jvm.MethodName), prog_4_method_17_code, 3, some .long), (3, 0, 2, -1, 4)) := ⟨(fun _ => ⟨zw_249, zt_c3.1, by decide, zt_c3.2.1, zt_c3.2.2.1, zt_c3.2.2.2, zd_8⟩), rfl, rfl, (fun e => absurd e (by decide)), (fun e => absurd e (by decide)), (fun _ => zw_248)⟩
theorem zt_m18 : zt_mp ((({ cls := "FirstAtTheFirst", name := "set", desc := "(IIJ)I" } : Jvm.MethodName), prog_1_method_3_code, 6, some .int), (5, 1, 3, 4, 0)) := ⟨(fun _ => ⟨zw_253, zt_c5.1, by decide, zt_c5.2.1, zt_c5.2.2.1, zt_c5.2.2.2, zd_9⟩), rfl, rfl, (fun _ => ⟨zw_251, zw_252, (Or.inr ⟨4, zt_T4, 14, rfl, by decide, rfl⟩)⟩), (fun e => absurd e (by decide)), (fun e => absurd e (by decide))⟩
theorem zt_m19 : zt_mp ((({ cls := "FirstAtTheFirst$Shelves", name := "rowTrouble", desc := "(I)I" } : Jvm.MethodName), prog_4_method_9_code, 2, some .int), (3, 1, 1, 2, 0)) := ⟨(fun _ => ⟨zw_257, zt_c3.1, by decide, zt_c3.2.1, zt_c3.2.2.1, zt_c3.2.2.2, zd_3⟩), rfl, rfl, (fun _ => ⟨zw_255, zw_256, (Or.inr ⟨2, zt_T2, 4, rfl, by decide, rfl⟩)⟩), (fun e => absurd e (by decide)), (fun e => absurd e (by decide))⟩
theorem zt_m20 : zt_mp ((({ cls := "FirstAtTheFirst", name := "copy", desc := "(IIIII)I" } : Jvm.MethodName), prog_1_method_4_code, 7, some .int), (5, 1, 5, 4, 0)) := ⟨(fun _ => ⟨zw_263, zt_c5.1, by decide, zt_c5.2.1, zt_c5.2.2.1, zt_c5.2.2.2, zd_10⟩), rfl, rfl, (fun _ => ⟨zw_261, zw_262, (Or.inr ⟨4, zt_T4, 14, rfl, by decide, rfl⟩)⟩), (fun e => absurd e (by decide)), (fun e => absurd e (by decide))⟩
theorem zt_m21 : zt_mp ((({ cls := "FirstAtTheFirst$Shelves", name := "pairTrouble", desc := "(II)I" } : Jvm.MethodName), prog_4_method_11_code, 5, some .int), (3, 1, 2, 2, 0)) := ⟨(fun _ => ⟨zw_267, zt_c3.1, by decide, zt_c3.2.1, zt_c3.2.2.1, zt_c3.2.2.2, zd_11⟩), rfl, rfl, (fun _ => ⟨zw_265, zw_266, (Or.inr ⟨2, zt_T2, 4, rfl, by decide, rfl⟩)⟩), (fun e => absurd e (by decide)), (fun e => absurd e (by decide))⟩
theorem zt_m22 : zt_mp ((({ cls := "FirstAtTheFirst$Shelves", name := "copyElements", desc := "(IIIII)V" } : Jvm.MethodName), prog_4_method_18_code, 8, none), (3, 1, 5, 2, 6)) := ⟨(fun _ => ⟨zw_272, zt_c3.1, by decide, zt_c3.2.1, zt_c3.2.2.1, zt_c3.2.2.2, zd_12⟩), rfl, rfl, (fun _ => ⟨zw_270, zw_271, (Or.inr ⟨2, zt_T2, 4, rfl, by decide, rfl⟩)⟩), (fun e => absurd e (by decide)), (fun e => absurd e (by decide))⟩
theorem zt_m23 : zt_mp ((({ cls := "FirstAtTheFirst$Shelves", name := "elementOf", desc := "(II)J" } : Jvm.MethodName), prog_4_method_15_code, 5, some .long), (3, 1, 2, 2, 4)) := ⟨(fun _ => ⟨zw_276, zt_c3.1, by decide, zt_c3.2.1, zt_c3.2.2.1, zt_c3.2.2.2, zd_13⟩), rfl, rfl, (fun _ => ⟨zw_274, zw_275, (Or.inr ⟨2, zt_T2, 4, rfl, by decide, rfl⟩)⟩), (fun e => absurd e (by decide)), (fun e => absurd e (by decide))⟩
theorem zt_m24 : zt_mp ((({ cls := "FirstAtTheFirst", name := "element", desc := "(II)J" } : Jvm.MethodName), prog_1_method_5_code, 3, some .long), (5, 1, 2, 4, 4)) := ⟨(fun _ => ⟨zw_280, zt_c5.1, by decide, zt_c5.2.1, zt_c5.2.2.1, zt_c5.2.2.2, zd_13⟩), rfl, rfl, (fun _ => ⟨zw_278, zw_279, (Or.inr ⟨4, zt_T4, 14, rfl, by decide, rfl⟩)⟩), (fun e => absurd e (by decide)), (fun e => absurd e (by decide))⟩
theorem zt_m25 : zt_mp ((({ cls := "FirstAtTheFirst", name := "holds", desc := "(I)I" } : Jvm.MethodName), prog_1_method_6_code, 2, some .int), (5, 1, 1, 4, 0)) := ⟨(fun _ => ⟨zw_285, zt_c5.1, by decide, zt_c5.2.1, zt_c5.2.2.1, zt_c5.2.2.2, zd_3⟩), rfl, rfl, (fun _ => ⟨zw_283, zw_284, (Or.inr ⟨4, zt_T4, 14, rfl, by decide, rfl⟩)⟩), (fun e => absurd e (by decide)), (fun e => absurd e (by decide))⟩
theorem zt_m26 : zt_mp ((({ cls := "FirstAtTheFirst", name := "show", desc := "(II)I" } : Jvm.MethodName), prog_1_method_7_code, 3, some .int), (5, 1, 2, 4, 0)) := ⟨(fun _ => ⟨zw_290, zt_c5.1, by decide, zt_c5.2.1, zt_c5.2.2.1, zt_c5.2.2.2, zd_11⟩), rfl, rfl, (fun _ => ⟨zw_288, zw_289, (Or.inr ⟨4, zt_T4, 14, rfl, by decide, rfl⟩)⟩), (fun e => absurd e (by decide)), (fun e => absurd e (by decide))⟩
theorem zt_m27 : zt_mp ((({ cls := "FirstAtTheFirst$Estate", name := "isSide", desc := "(I)Z" } : Jvm.MethodName), prog_2_method_3_code, 2, some .boolean), (1, 1, 1, 0, 1)) := ⟨(fun _ => ⟨zw_294, zt_c1.1, by decide, zt_c1.2.1, zt_c1.2.2.1, zt_c1.2.2.2, zd_2⟩), rfl, rfl, (fun _ => ⟨zw_292, zw_293, (Or.inr ⟨0, zt_T0, 10, rfl, by decide, rfl⟩)⟩), (fun e => absurd e (by decide)), (fun e => absurd e (by decide))⟩
theorem zt_m28 : zt_mp ((({ cls := "FirstAtTheFirst$Shelves", name := "putNothing", desc := "(I)V" } : Jvm.MethodName), prog_4_method_12_code, 2, none), (3, 1, 1, 2, 6)) := ⟨(fun _ => ⟨zw_298, zt_c3.1, by decide, zt_c3.2.1, zt_c3.2.2.1, zt_c3.2.2.2, zd_14⟩), rfl, rfl, (fun _ => ⟨zw_296, zw_297, (Or.inr ⟨2, zt_T2, 4, rfl, by decide, rfl⟩)⟩), (fun e => absurd e (by decide)), (fun e => absurd e (by decide))⟩
theorem zt_m29 : zt_mp ((({ cls := "FirstAtTheFirst$Estate", name := "bentOf", desc := "(I)I" } : Jvm.MethodName), prog_2_method_5_code, 2, some .int), (1, 1, 1, 0, 0)) := ⟨(fun _ => ⟨zw_302, zt_c1.1, by decide, zt_c1.2.1, zt_c1.2.2.1, zt_c1.2.2.2, zd_3⟩), rfl, rfl, (fun _ => ⟨zw_300, zw_301, (Or.inr ⟨0, zt_T0, 10, rfl, by decide, rfl⟩)⟩), (fun e => absurd e (by decide)), (fun e => absurd e (by decide))⟩
theorem zt_m30 : zt_mp ((({ cls := "FirstAtTheFirst$Shelves", name := "putBent", desc := "(III)V" } : Jvm.MethodName), prog_4_method_13_code, 4, none), (3, 1, 3, 2, 6)) := ⟨(fun _ => ⟨zw_307, zt_c3.1, by decide, zt_c3.2.1, zt_c3.2.2.1, zt_c3.2.2.2, zd_6⟩), rfl, rfl, (fun _ => ⟨zw_305, zw_306, (Or.inr ⟨2, zt_T2, 4, rfl, by decide, rfl⟩)⟩), (fun e => absurd e (by decide)), (fun e => absurd e (by decide))⟩
theorem zt_m31 : zt_mp ((({ cls := "FirstAtTheFirst", name := "says", desc := "(II)I" } : Jvm.MethodName), prog_1_method_8_code, 6, some .int), (5, 1, 2, 4, 0)) := ⟨(fun _ => ⟨zw_311, zt_c5.1, by decide, zt_c5.2.1, zt_c5.2.2.1, zt_c5.2.2.2, zd_11⟩), rfl, rfl, (fun _ => ⟨zw_309, zw_310, (Or.inr ⟨4, zt_T4, 14, rfl, by decide, rfl⟩)⟩), (fun e => absurd e (by decide)), (fun e => absurd e (by decide))⟩
theorem zt_mm1 : ∀ q ∈ zt_M1, zt_mp q := (List.forall_mem_cons.mpr ⟨zt_m16, (List.forall_mem_cons.mpr ⟨zt_m17, (List.forall_mem_cons.mpr ⟨zt_m18, (List.forall_mem_cons.mpr ⟨zt_m19, (List.forall_mem_cons.mpr ⟨zt_m20, (List.forall_mem_cons.mpr ⟨zt_m21, (List.forall_mem_cons.mpr ⟨zt_m22, (List.forall_mem_cons.mpr ⟨zt_m23, (List.forall_mem_cons.mpr ⟨zt_m24, (List.forall_mem_cons.mpr ⟨zt_m25, (List.forall_mem_cons.mpr ⟨zt_m26, (List.forall_mem_cons.mpr ⟨zt_m27, (List.forall_mem_cons.mpr ⟨zt_m28, (List.forall_mem_cons.mpr ⟨zt_m29, (List.forall_mem_cons.mpr ⟨zt_m30, (List.forall_mem_cons.mpr ⟨zt_m31, (fun _ h => absurd h List.not_mem_nil)⟩)⟩)⟩)⟩)⟩)⟩)⟩)⟩)⟩)⟩)⟩)⟩)⟩)⟩)⟩)⟩)
def zt_M2 : List (zx_M × Nat × Nat × Nat × Int × Nat) := [((({ cls := "FirstAtTheFirst", name := "isBent", desc := "(I)Z" } : Jvm.MethodName), prog_1_method_58_code, 1, some .boolean), (5, 0, 1, -1, 1)),
  ((({ cls := "FirstAtTheFirst$Shelves", name := "bentTrouble", desc := "(I)I" } : Jvm.MethodName), prog_4_method_10_code, 2, some .int), (3, 1, 1, 2, 0)),
  ((({ cls := "FirstAtTheFirst$Shelves", name := "bentOf", desc := "(I)I" } : Jvm.MethodName), prog_4_method_6_code, 2, some .int), (3, 1, 1, 2, 0)),
  ((({ cls := "FirstAtTheFirst", name := "isUnder", desc := "(II)Z" } : Jvm.MethodName), prog_1_method_59_code, 2, some .boolean), (5, 0, 2, -1, 1)),
  ((({ cls := "FirstAtTheFirst$Shelves", name := "sideOfBent", desc := "(I)I" } : Jvm.MethodName), prog_4_method_7_code, 2, some .int), (3, 1, 1, 2, 0)),
  ((({ cls := "FirstAtTheFirst", name := "wouldTake", desc := "(II)I" } : Jvm.MethodName), prog_1_method_60_code, 3, some .int), (5, 1, 2, 4, 0)),
  ((({ cls := "FirstAtTheFirst$Mind", name := "know", desc := "(LFirstAtTheFirst$Estate;)V" } : Jvm.MethodName), prog_3_method_2_code, 3, none), (2, 1, 1, 1, 6)),
  ((({ cls := "FirstAtTheFirst", name := "copyAll", desc := "([I[I)V" } : Jvm.MethodName), prog_1_method_52_code, 3, none), (5, 0, 2, -1, 6)),
  ((({ cls := "FirstAtTheFirst$Estate", name := "hasNow", desc := "(I)I" } : Jvm.MethodName), prog_2_method_9_code, 4, some .int), (1, 1, 1, 0, 0)),
  ((({ cls := "FirstAtTheFirst$Estate", name := "worthTo", desc := "(II)I" } : Jvm.MethodName), prog_2_method_7_code, 3, some .int), (1, 1, 2, 0, 0)),
  ((({ cls := "FirstAtTheFirst$Estate", name := "isThing", desc := "(I)Z" } : Jvm.MethodName), prog_2_method_4_code, 2, some .boolean), (1, 1, 1, 0, 1)),
  ((({ cls := "FirstAtTheFirst$Estate", name := "setOf", desc := "(I)I" } : Jvm.MethodName), prog_2_method_8_code, 4, some .int), (1, 1, 1, 0, 0)),
  ((({ cls := "java/lang/Integer", name := "bitCount", desc := "(I)I" } : Jvm.MethodName), prog_8_method_49_code, 1, some .int), (7, 0, 1, -1, 0)),
  ((({ cls := "FirstAtTheFirst$Mind", name := "expectLaw", desc := "(LFirstAtTheFirst$Estate;I)V" } : Jvm.MethodName), prog_3_method_3_code, 4, none), (2, 1, 2, 1, 6)),
  ((({ cls := "FirstAtTheFirst$Estate", name := "sideAt", desc := "(II)I" } : Jvm.MethodName), prog_2_method_10_code, 5, some .int), (1, 1, 2, 0, 0)),
  ((({ cls := "FirstAtTheFirst$Estate", name := "digitSum", desc := "(II)I" } : Jvm.MethodName), prog_2_method_11_code, 5, some .int), (1, 0, 2, -1, 0))]
theorem zt_m32 : zt_mp ((({ cls := "FirstAtTheFirst", name := "isBent", desc := "(I)Z" } : Jvm.MethodName), prog_1_method_58_code, 1, some .boolean), (5, 0, 1, -1, 1)) := ⟨(fun _ => ⟨zw_314, zt_c5.1, by decide, zt_c5.2.1, zt_c5.2.2.1, zt_c5.2.2.2, zd_2⟩), rfl, rfl, (fun e => absurd e (by decide)), (fun e => absurd e (by decide)), (fun _ => zw_313)⟩
theorem zt_m33 : zt_mp ((({ cls := "FirstAtTheFirst$Shelves", name := "bentTrouble", desc := "(I)I" } : Jvm.MethodName), prog_4_method_10_code, 2, some .int), (3, 1, 1, 2, 0)) := ⟨(fun _ => ⟨zw_318, zt_c3.1, by decide, zt_c3.2.1, zt_c3.2.2.1, zt_c3.2.2.2, zd_3⟩), rfl, rfl, (fun _ => ⟨zw_316, zw_317, (Or.inr ⟨2, zt_T2, 4, rfl, by decide, rfl⟩)⟩), (fun e => absurd e (by decide)), (fun e => absurd e (by decide))⟩
theorem zt_m34 : zt_mp ((({ cls := "FirstAtTheFirst$Shelves", name := "bentOf", desc := "(I)I" } : Jvm.MethodName), prog_4_method_6_code, 2, some .int), (3, 1, 1, 2, 0)) := ⟨(fun _ => ⟨zw_322, zt_c3.1, by decide, zt_c3.2.1, zt_c3.2.2.1, zt_c3.2.2.2, zd_3⟩), rfl, rfl, (fun _ => ⟨zw_320, zw_321, (Or.inr ⟨2, zt_T2, 4, rfl, by decide, rfl⟩)⟩), (fun e => absurd e (by decide)), (fun e => absurd e (by decide))⟩
theorem zt_m35 : zt_mp ((({ cls := "FirstAtTheFirst", name := "isUnder", desc := "(II)Z" } : Jvm.MethodName), prog_1_method_59_code, 2, some .boolean), (5, 0, 2, -1, 1)) := ⟨(fun _ => ⟨zw_325, zt_c5.1, by decide, zt_c5.2.1, zt_c5.2.2.1, zt_c5.2.2.2, zd_15⟩), rfl, rfl, (fun e => absurd e (by decide)), (fun e => absurd e (by decide)), (fun _ => zw_324)⟩
theorem zt_m36 : zt_mp ((({ cls := "FirstAtTheFirst$Shelves", name := "sideOfBent", desc := "(I)I" } : Jvm.MethodName), prog_4_method_7_code, 2, some .int), (3, 1, 1, 2, 0)) := ⟨(fun _ => ⟨zw_329, zt_c3.1, by decide, zt_c3.2.1, zt_c3.2.2.1, zt_c3.2.2.2, zd_3⟩), rfl, rfl, (fun _ => ⟨zw_327, zw_328, (Or.inr ⟨2, zt_T2, 4, rfl, by decide, rfl⟩)⟩), (fun e => absurd e (by decide)), (fun e => absurd e (by decide))⟩
theorem zt_m37 : zt_mp ((({ cls := "FirstAtTheFirst", name := "wouldTake", desc := "(II)I" } : Jvm.MethodName), prog_1_method_60_code, 3, some .int), (5, 1, 2, 4, 0)) := ⟨(fun _ => ⟨zw_333, zt_c5.1, by decide, zt_c5.2.1, zt_c5.2.2.1, zt_c5.2.2.2, zd_11⟩), rfl, rfl, (fun _ => ⟨zw_332, (zt_insel (zt_p1 (zs1 (List.Mem.head _)))), (Or.inr ⟨4, zt_T4, 14, rfl, by decide, rfl⟩)⟩), (fun e => absurd e (by decide)), (fun e => absurd e (by decide))⟩
theorem zt_m38 : zt_mp ((({ cls := "FirstAtTheFirst$Mind", name := "know", desc := "(LFirstAtTheFirst$Estate;)V" } : Jvm.MethodName), prog_3_method_2_code, 3, none), (2, 1, 1, 1, 6)) := ⟨(fun _ => ⟨zw_337, zt_c2.1, by decide, zt_c2.2.1, zt_c2.2.2.1, zt_c2.2.2.2, zd_16⟩), rfl, rfl, (fun _ => ⟨zw_335, zw_336, (Or.inr ⟨1, zt_T1, 9, rfl, by decide, rfl⟩)⟩), (fun e => absurd e (by decide)), (fun e => absurd e (by decide))⟩
theorem zt_m39 : zt_mp ((({ cls := "FirstAtTheFirst", name := "copyAll", desc := "([I[I)V" } : Jvm.MethodName), prog_1_method_52_code, 3, none), (5, 0, 2, -1, 6)) := ⟨(fun _ => ⟨zw_340, zt_c5.1, by decide, zt_c5.2.1, zt_c5.2.2.1, zt_c5.2.2.2, zd_17⟩), rfl, rfl, (fun e => absurd e (by decide)), (fun e => absurd e (by decide)), (fun _ => zw_339)⟩
theorem zt_m40 : zt_mp ((({ cls := "FirstAtTheFirst$Estate", name := "hasNow", desc := "(I)I" } : Jvm.MethodName), prog_2_method_9_code, 4, some .int), (1, 1, 1, 0, 0)) := ⟨(fun _ => ⟨zw_344, zt_c1.1, by decide, zt_c1.2.1, zt_c1.2.2.1, zt_c1.2.2.2, zd_3⟩), rfl, rfl, (fun _ => ⟨zw_342, zw_343, (Or.inr ⟨0, zt_T0, 10, rfl, by decide, rfl⟩)⟩), (fun e => absurd e (by decide)), (fun e => absurd e (by decide))⟩
theorem zt_m41 : zt_mp ((({ cls := "FirstAtTheFirst$Estate", name := "worthTo", desc := "(II)I" } : Jvm.MethodName), prog_2_method_7_code, 3, some .int), (1, 1, 2, 0, 0)) := ⟨(fun _ => ⟨zw_348, zt_c1.1, by decide, zt_c1.2.1, zt_c1.2.2.1, zt_c1.2.2.2, zd_11⟩), rfl, rfl, (fun _ => ⟨zw_346, zw_347, (Or.inr ⟨0, zt_T0, 10, rfl, by decide, rfl⟩)⟩), (fun e => absurd e (by decide)), (fun e => absurd e (by decide))⟩
theorem zt_m42 : zt_mp ((({ cls := "FirstAtTheFirst$Estate", name := "isThing", desc := "(I)Z" } : Jvm.MethodName), prog_2_method_4_code, 2, some .boolean), (1, 1, 1, 0, 1)) := ⟨(fun _ => ⟨zw_353, zt_c1.1, by decide, zt_c1.2.1, zt_c1.2.2.1, zt_c1.2.2.2, zd_2⟩), rfl, rfl, (fun _ => ⟨zw_351, zw_352, (Or.inr ⟨0, zt_T0, 10, rfl, by decide, rfl⟩)⟩), (fun e => absurd e (by decide)), (fun e => absurd e (by decide))⟩
theorem zt_m43 : zt_mp ((({ cls := "FirstAtTheFirst$Estate", name := "setOf", desc := "(I)I" } : Jvm.MethodName), prog_2_method_8_code, 4, some .int), (1, 1, 1, 0, 0)) := ⟨(fun _ => ⟨zw_358, zt_c1.1, by decide, zt_c1.2.1, zt_c1.2.2.1, zt_c1.2.2.2, zd_3⟩), rfl, rfl, (fun _ => ⟨zw_356, zw_357, (Or.inr ⟨0, zt_T0, 10, rfl, by decide, rfl⟩)⟩), (fun e => absurd e (by decide)), (fun e => absurd e (by decide))⟩
theorem zt_m44 : zt_mp ((({ cls := "java/lang/Integer", name := "bitCount", desc := "(I)I" } : Jvm.MethodName), prog_8_method_49_code, 1, some .int), (7, 0, 1, -1, 0)) := ⟨(fun _ => ⟨zw_361, zt_c7.1, by decide, zt_c7.2.1, zt_c7.2.2.1, zt_c7.2.2.2, zd_3⟩), rfl, rfl, (fun e => absurd e (by decide)), (fun e => absurd e (by decide)), (fun _ => zw_360)⟩
theorem zt_m45 : zt_mp ((({ cls := "FirstAtTheFirst$Mind", name := "expectLaw", desc := "(LFirstAtTheFirst$Estate;I)V" } : Jvm.MethodName), prog_3_method_3_code, 4, none), (2, 1, 2, 1, 6)) := ⟨(fun _ => ⟨zw_368, zt_c2.1, by decide, zt_c2.2.1, zt_c2.2.2.1, zt_c2.2.2.2, zd_18⟩), rfl, rfl, (fun _ => ⟨zw_366, zw_367, (Or.inr ⟨1, zt_T1, 9, rfl, by decide, rfl⟩)⟩), (fun e => absurd e (by decide)), (fun e => absurd e (by decide))⟩
theorem zt_m46 : zt_mp ((({ cls := "FirstAtTheFirst$Estate", name := "sideAt", desc := "(II)I" } : Jvm.MethodName), prog_2_method_10_code, 5, some .int), (1, 1, 2, 0, 0)) := ⟨(fun _ => ⟨zw_372, zt_c1.1, by decide, zt_c1.2.1, zt_c1.2.2.1, zt_c1.2.2.2, zd_11⟩), rfl, rfl, (fun _ => ⟨zw_370, zw_371, (Or.inr ⟨0, zt_T0, 10, rfl, by decide, rfl⟩)⟩), (fun e => absurd e (by decide)), (fun e => absurd e (by decide))⟩
theorem zt_m47 : zt_mp ((({ cls := "FirstAtTheFirst$Estate", name := "digitSum", desc := "(II)I" } : Jvm.MethodName), prog_2_method_11_code, 5, some .int), (1, 0, 2, -1, 0)) := ⟨(fun _ => ⟨zw_375, zt_c1.1, by decide, zt_c1.2.1, zt_c1.2.2.1, zt_c1.2.2.2, zd_11⟩), rfl, rfl, (fun e => absurd e (by decide)), (fun e => absurd e (by decide)), (fun _ => zw_374)⟩
theorem zt_mm2 : ∀ q ∈ zt_M2, zt_mp q := (List.forall_mem_cons.mpr ⟨zt_m32, (List.forall_mem_cons.mpr ⟨zt_m33, (List.forall_mem_cons.mpr ⟨zt_m34, (List.forall_mem_cons.mpr ⟨zt_m35, (List.forall_mem_cons.mpr ⟨zt_m36, (List.forall_mem_cons.mpr ⟨zt_m37, (List.forall_mem_cons.mpr ⟨zt_m38, (List.forall_mem_cons.mpr ⟨zt_m39, (List.forall_mem_cons.mpr ⟨zt_m40, (List.forall_mem_cons.mpr ⟨zt_m41, (List.forall_mem_cons.mpr ⟨zt_m42, (List.forall_mem_cons.mpr ⟨zt_m43, (List.forall_mem_cons.mpr ⟨zt_m44, (List.forall_mem_cons.mpr ⟨zt_m45, (List.forall_mem_cons.mpr ⟨zt_m46, (List.forall_mem_cons.mpr ⟨zt_m47, (fun _ h => absurd h List.not_mem_nil)⟩)⟩)⟩)⟩)⟩)⟩)⟩)⟩)⟩)⟩)⟩)⟩)⟩)⟩)⟩)⟩)
def zt_M3 : List (zx_M × Nat × Nat × Nat × Int × Nat) := [((({ cls := "FirstAtTheFirst$Mind", name := "forgetLooks", desc := "()V" } : Jvm.MethodName), prog_3_method_6_code, 2, none), (2, 1, 0, 1, 6)),
  ((({ cls := "FirstAtTheFirst$Mind", name := "expectNothing", desc := "()V" } : Jvm.MethodName), prog_3_method_4_code, 1, none), (2, 1, 0, 1, 6)),
  ((({ cls := "FirstAtTheFirst$Mind", name := "choose", desc := "(III)I" } : Jvm.MethodName), prog_3_method_14_code, 4, some .int), (2, 1, 3, 1, 0)),
  ((({ cls := "FirstAtTheFirst$Mind", name := "chooseBlind", desc := "(III)I" } : Jvm.MethodName), prog_3_method_16_code, 7, some .int), (2, 1, 3, 1, 0)),
  ((({ cls := "FirstAtTheFirst$Mind", name := "first", desc := "(I)I" } : Jvm.MethodName), prog_3_method_17_code, 2, some .int), (2, 0, 1, -1, 0)),
  ((({ cls := "FirstAtTheFirst", name := "isIn", desc := "(II)Z" } : Jvm.MethodName), prog_1_method_53_code, 2, some .boolean), (5, 0, 2, -1, 1)),
  ((({ cls := "FirstAtTheFirst$Mind", name := "last", desc := "(I)I" } : Jvm.MethodName), prog_3_method_18_code, 2, some .int), (2, 0, 1, -1, 0)),
  ((({ cls := "FirstAtTheFirst$Mind", name := "turnWhen", desc := "(I)I" } : Jvm.MethodName), prog_3_method_11_code, 2, some .int), (2, 1, 1, 1, 0)),
  ((({ cls := "FirstAtTheFirst$Mind", name := "rivalOf", desc := "(II)I" } : Jvm.MethodName), prog_3_method_13_code, 5, some .int), (2, 1, 2, 1, 0)),
  ((({ cls := "java/lang/Math", name := "min", desc := "(II)I" } : Jvm.MethodName), prog_9_method_69_code, 2, some .int), (8, 4, 2, -1, 0)),
  ((({ cls := "FirstAtTheFirst$Mind", name := "greatest", desc := "(III)I" } : Jvm.MethodName), prog_3_method_19_code, 8, some .int), (2, 1, 3, 1, 0)),
  ((({ cls := "FirstAtTheFirst$Mind", name := "worthTo", desc := "(II)I" } : Jvm.MethodName), prog_3_method_9_code, 4, some .int), (2, 1, 2, 1, 0)),
  ((({ cls := "FirstAtTheFirst$Mind", name := "lastLeast", desc := "(II)I" } : Jvm.MethodName), prog_3_method_20_code, 6, some .int), (2, 1, 2, 1, 0)),
  ((({ cls := "FirstAtTheFirst", name := "without", desc := "(II)I" } : Jvm.MethodName), prog_1_method_54_code, 2, some .int), (5, 0, 2, -1, 0)),
  ((({ cls := "FirstAtTheFirst$Mind", name := "lookAhead", desc := "(II)V" } : Jvm.MethodName), prog_3_method_22_code, 10, none), (2, 1, 2, 1, 6)),
  ((({ cls := "FirstAtTheFirst$Mind", name := "moverWhen", desc := "(I)I" } : Jvm.MethodName), prog_3_method_12_code, 2, some .int), (2, 1, 1, 1, 0))]
theorem zt_m48 : zt_mp ((({ cls := "FirstAtTheFirst$Mind", name := "forgetLooks", desc := "()V" } : Jvm.MethodName), prog_3_method_6_code, 2, none), (2, 1, 0, 1, 6)) := ⟨(fun _ => ⟨zw_379, zt_c2.1, by decide, zt_c2.2.1, zt_c2.2.2.1, zt_c2.2.2.2, zd_0⟩), rfl, rfl, (fun _ => ⟨zw_378, (zt_insel (zt_p1 (zs1 (zs1 (List.Mem.head _))))), (Or.inr ⟨1, zt_T1, 9, rfl, by decide, rfl⟩)⟩), (fun e => absurd e (by decide)), (fun e => absurd e (by decide))⟩
theorem zt_m49 : zt_mp ((({ cls := "FirstAtTheFirst$Mind", name := "expectNothing", desc := "()V" } : Jvm.MethodName), prog_3_method_4_code, 1, none), (2, 1, 0, 1, 6)) := ⟨(fun _ => ⟨zw_734, zt_c2.1, by decide, zt_c2.2.1, zt_c2.2.2.1, zt_c2.2.2.2, zd_0⟩), rfl, rfl, (fun _ => ⟨zw_732, zw_733, (Or.inr ⟨1, zt_T1, 9, rfl, by decide, rfl⟩)⟩), (fun e => absurd e (by decide)), (fun e => absurd e (by decide))⟩
theorem zt_m50 : zt_mp ((({ cls := "FirstAtTheFirst$Mind", name := "choose", desc := "(III)I" } : Jvm.MethodName), prog_3_method_14_code, 4, some .int), (2, 1, 3, 1, 0)) := ⟨(fun _ => ⟨zw_383, zt_c2.1, by decide, zt_c2.2.1, zt_c2.2.2.1, zt_c2.2.2.2, zd_1⟩), rfl, rfl, (fun _ => ⟨zw_381, zw_382, (Or.inr ⟨1, zt_T1, 9, rfl, by decide, rfl⟩)⟩), (fun e => absurd e (by decide)), (fun e => absurd e (by decide))⟩
theorem zt_m51 : zt_mp ((({ cls := "FirstAtTheFirst$Mind", name := "chooseBlind", desc := "(III)I" } : Jvm.MethodName), prog_3_method_16_code, 7, some .int), (2, 1, 3, 1, 0)) := ⟨(fun _ => ⟨zw_387, zt_c2.1, by decide, zt_c2.2.1, zt_c2.2.2.1, zt_c2.2.2.2, zd_1⟩), rfl, rfl, (fun _ => ⟨zw_386, (zt_insel (zt_p1 (zs1 (zs1 (zs1 (List.Mem.head _)))))), (Or.inr ⟨1, zt_T1, 9, rfl, by decide, rfl⟩)⟩), (fun e => absurd e (by decide)), (fun e => absurd e (by decide))⟩
theorem zt_m52 : zt_mp ((({ cls := "FirstAtTheFirst$Mind", name := "first", desc := "(I)I" } : Jvm.MethodName), prog_3_method_17_code, 2, some .int), (2, 0, 1, -1, 0)) := ⟨(fun _ => ⟨zw_390, zt_c2.1, by decide, zt_c2.2.1, zt_c2.2.2.1, zt_c2.2.2.2, zd_3⟩), rfl, rfl, (fun e => absurd e (by decide)), (fun e => absurd e (by decide)), (fun _ => zw_389)⟩
theorem zt_m53 : zt_mp ((({ cls := "FirstAtTheFirst", name := "isIn", desc := "(II)Z" } : Jvm.MethodName), prog_1_method_53_code, 2, some .boolean), (5, 0, 2, -1, 1)) := ⟨(fun _ => ⟨zw_393, zt_c5.1, by decide, zt_c5.2.1, zt_c5.2.2.1, zt_c5.2.2.2, zd_15⟩), rfl, rfl, (fun e => absurd e (by decide)), (fun e => absurd e (by decide)), (fun _ => zw_392)⟩
theorem zt_m54 : zt_mp ((({ cls := "FirstAtTheFirst$Mind", name := "last", desc := "(I)I" } : Jvm.MethodName), prog_3_method_18_code, 2, some .int), (2, 0, 1, -1, 0)) := ⟨(fun _ => ⟨zw_396, zt_c2.1, by decide, zt_c2.2.1, zt_c2.2.2.1, zt_c2.2.2.2, zd_3⟩), rfl, rfl, (fun e => absurd e (by decide)), (fun e => absurd e (by decide)), (fun _ => zw_395)⟩
theorem zt_m55 : zt_mp ((({ cls := "FirstAtTheFirst$Mind", name := "turnWhen", desc := "(I)I" } : Jvm.MethodName), prog_3_method_11_code, 2, some .int), (2, 1, 1, 1, 0)) := ⟨(fun _ => ⟨zw_400, zt_c2.1, by decide, zt_c2.2.1, zt_c2.2.2.1, zt_c2.2.2.2, zd_3⟩), rfl, rfl, (fun _ => ⟨zw_399, (zt_insel (zt_p1 (zs4 (List.Mem.head _)))), (Or.inr ⟨1, zt_T1, 9, rfl, by decide, rfl⟩)⟩), (fun e => absurd e (by decide)), (fun e => absurd e (by decide))⟩
theorem zt_m56 : zt_mp ((({ cls := "FirstAtTheFirst$Mind", name := "rivalOf", desc := "(II)I" } : Jvm.MethodName), prog_3_method_13_code, 5, some .int), (2, 1, 2, 1, 0)) := ⟨(fun _ => ⟨zw_404, zt_c2.1, by decide, zt_c2.2.1, zt_c2.2.2.1, zt_c2.2.2.2, zd_11⟩), rfl, rfl, (fun _ => ⟨zw_402, zw_403, (Or.inr ⟨1, zt_T1, 9, rfl, by decide, rfl⟩)⟩), (fun e => absurd e (by decide)), (fun e => absurd e (by decide))⟩
theorem zt_m57 : zt_mp ((({ cls := "java/lang/Math", name := "min", desc := "(II)I" } : Jvm.MethodName), prog_9_method_69_code, 2, some .int), (8, 4, 2, -1, 0)) := ⟨(fun e => absurd e (by decide)), rfl, rfl, (fun e => absurd e (by decide)), (fun e => absurd e (by decide)), (fun e => absurd e (by decide))⟩
theorem zt_m58 : zt_mp ((({ cls := "FirstAtTheFirst$Mind", name := "greatest", desc := "(III)I" } : Jvm.MethodName), prog_3_method_19_code, 8, some .int), (2, 1, 3, 1, 0)) := ⟨(fun _ => ⟨zw_412, zt_c2.1, by decide, zt_c2.2.1, zt_c2.2.2.1, zt_c2.2.2.2, zd_1⟩), rfl, rfl, (fun _ => ⟨zw_411, (zt_insel (zt_p1 (zs4 (zs1 (List.Mem.head _))))), (Or.inr ⟨1, zt_T1, 9, rfl, by decide, rfl⟩)⟩), (fun e => absurd e (by decide)), (fun e => absurd e (by decide))⟩
theorem zt_m59 : zt_mp ((({ cls := "FirstAtTheFirst$Mind", name := "worthTo", desc := "(II)I" } : Jvm.MethodName), prog_3_method_9_code, 4, some .int), (2, 1, 2, 1, 0)) := ⟨(fun _ => ⟨zw_416, zt_c2.1, by decide, zt_c2.2.1, zt_c2.2.2.1, zt_c2.2.2.2, zd_11⟩), rfl, rfl, (fun _ => ⟨zw_414, zw_415, (Or.inr ⟨1, zt_T1, 9, rfl, by decide, rfl⟩)⟩), (fun e => absurd e (by decide)), (fun e => absurd e (by decide))⟩
theorem zt_m60 : zt_mp ((({ cls := "FirstAtTheFirst$Mind", name := "lastLeast", desc := "(II)I" } : Jvm.MethodName), prog_3_method_20_code, 6, some .int), (2, 1, 2, 1, 0)) := ⟨(fun _ => ⟨zw_420, zt_c2.1, by decide, zt_c2.2.1, zt_c2.2.2.1, zt_c2.2.2.2, zd_11⟩), rfl, rfl, (fun _ => ⟨zw_419, (zt_insel (zt_p1 (zs4 (zs1 (zs1 (List.Mem.head _)))))), (Or.inr ⟨1, zt_T1, 9, rfl, by decide, rfl⟩)⟩), (fun e => absurd e (by decide)), (fun e => absurd e (by decide))⟩
theorem zt_m61 : zt_mp ((({ cls := "FirstAtTheFirst", name := "without", desc := "(II)I" } : Jvm.MethodName), prog_1_method_54_code, 2, some .int), (5, 0, 2, -1, 0)) := ⟨(fun _ => ⟨zw_424, zt_c5.1, by decide, zt_c5.2.1, zt_c5.2.2.1, zt_c5.2.2.2, zd_11⟩), rfl, rfl, (fun e => absurd e (by decide)), (fun e => absurd e (by decide)), (fun _ => zw_423)⟩
theorem zt_m62 : zt_mp ((({ cls := "FirstAtTheFirst$Mind", name := "lookAhead", desc := "(II)V" } : Jvm.MethodName), prog_3_method_22_code, 10, none), (2, 1, 2, 1, 6)) := ⟨(fun _ => ⟨zw_428, zt_c2.1, by decide, zt_c2.2.1, zt_c2.2.2.1, zt_c2.2.2.2, zd_19⟩), rfl, rfl, (fun _ => ⟨zw_427, (zt_insel (zt_p1 (zs4 (zs1 (zs1 (zs1 (List.Mem.head _))))))), (Or.inr ⟨1, zt_T1, 9, rfl, by decide, rfl⟩)⟩), (fun e => absurd e (by decide)), (fun e => absurd e (by decide))⟩
theorem zt_m63 : zt_mp ((({ cls := "FirstAtTheFirst$Mind", name := "moverWhen", desc := "(I)I" } : Jvm.MethodName), prog_3_method_12_code, 2, some .int), (2, 1, 1, 1, 0)) := ⟨(fun _ => ⟨zw_432, zt_c2.1, by decide, zt_c2.2.1, zt_c2.2.2.1, zt_c2.2.2.2, zd_3⟩), rfl, rfl, (fun _ => ⟨zw_430, zw_431, (Or.inr ⟨1, zt_T1, 9, rfl, by decide, rfl⟩)⟩), (fun e => absurd e (by decide)), (fun e => absurd e (by decide))⟩
theorem zt_mm3 : ∀ q ∈ zt_M3, zt_mp q := (List.forall_mem_cons.mpr ⟨zt_m48, (List.forall_mem_cons.mpr ⟨zt_m49, (List.forall_mem_cons.mpr ⟨zt_m50, (List.forall_mem_cons.mpr ⟨zt_m51, (List.forall_mem_cons.mpr ⟨zt_m52, (List.forall_mem_cons.mpr ⟨zt_m53, (List.forall_mem_cons.mpr ⟨zt_m54, (List.forall_mem_cons.mpr ⟨zt_m55, (List.forall_mem_cons.mpr ⟨zt_m56, (List.forall_mem_cons.mpr ⟨zt_m57, (List.forall_mem_cons.mpr ⟨zt_m58, (List.forall_mem_cons.mpr ⟨zt_m59, (List.forall_mem_cons.mpr ⟨zt_m60, (List.forall_mem_cons.mpr ⟨zt_m61, (List.forall_mem_cons.mpr ⟨zt_m62, (List.forall_mem_cons.mpr ⟨zt_m63, (fun _ h => absurd h List.not_mem_nil)⟩)⟩)⟩)⟩)⟩)⟩)⟩)⟩)⟩)⟩)⟩)⟩)⟩)⟩)⟩)⟩)
def zt_M4 : List (zx_M × Nat × Nat × Nat × Int × Nat) := [((({ cls := "FirstAtTheFirst$Mind", name := "bentOf", desc := "(I)I" } : Jvm.MethodName), prog_3_method_8_code, 2, some .int), (2, 1, 1, 1, 0)),
  ((({ cls := "FirstAtTheFirst$Mind", name := "farthest", desc := "(II)I" } : Jvm.MethodName), prog_3_method_21_code, 7, some .int), (2, 1, 2, 1, 0)),
  ((({ cls := "FirstAtTheFirst$Mind", name := "stillGets", desc := "(II)I" } : Jvm.MethodName), prog_3_method_10_code, 4, some .int), (2, 1, 2, 1, 0)),
  ((({ cls := "FirstAtTheFirst", name := "sides", desc := "(I)I" } : Jvm.MethodName), prog_1_method_9_code, 3, some .int), (5, 1, 1, 4, 0)),
  ((({ cls := "FirstAtTheFirst$Estate", name := "becomeSides", desc := "(I)V" } : Jvm.MethodName), prog_2_method_12_code, 3, none), (1, 1, 1, 0, 6)),
  ((({ cls := "FirstAtTheFirst", name := "thing", desc := "(III)I" } : Jvm.MethodName), prog_1_method_10_code, 4, some .int), (5, 1, 3, 4, 0)),
  ((({ cls := "FirstAtTheFirst", name := "isWorth", desc := "(I)Z" } : Jvm.MethodName), prog_1_method_56_code, 1, some .boolean), (5, 0, 1, -1, 1)),
  ((({ cls := "FirstAtTheFirst$Estate", name := "addThing", desc := "(III)V" } : Jvm.MethodName), prog_2_method_13_code, 4, none), (1, 1, 3, 0, 6)),
  ((({ cls := "FirstAtTheFirst", name := "worth", desc := "(III)I" } : Jvm.MethodName), prog_1_method_11_code, 5, some .int), (5, 1, 3, 4, 0)),
  ((({ cls := "FirstAtTheFirst", name := "bent", desc := "(II)I" } : Jvm.MethodName), prog_1_method_12_code, 4, some .int), (5, 1, 2, 4, 0)),
  ((({ cls := "FirstAtTheFirst", name := "law", desc := "(I)I" } : Jvm.MethodName), prog_1_method_13_code, 3, some .int), (5, 1, 1, 4, 0)),
  ((({ cls := "FirstAtTheFirst", name := "isLaw", desc := "(I)Z" } : Jvm.MethodName), prog_1_method_57_code, 1, some .boolean), (5, 0, 1, -1, 1)),
  ((({ cls := "FirstAtTheFirst", name := "order", desc := "(II)I" } : Jvm.MethodName), prog_1_method_14_code, 5, some .int), (5, 1, 2, 4, 0)),
  ((({ cls := "FirstAtTheFirst$Shelves", name := "isRowBelow", desc := "(III)Z" } : Jvm.MethodName), prog_4_method_19_code, 7, some .boolean), (3, 1, 3, 2, 1)),
  ((({ cls := "FirstAtTheFirst", name := "turn", desc := "(I)I" } : Jvm.MethodName), prog_1_method_15_code, 3, some .int), (5, 1, 1, 4, 0)),
  ((({ cls := "FirstAtTheFirst", name := "own", desc := "(II)I" } : Jvm.MethodName), prog_1_method_16_code, 4, some .int), (5, 1, 2, 4, 0))]
theorem zt_m64 : zt_mp ((({ cls := "FirstAtTheFirst$Mind", name := "bentOf", desc := "(I)I" } : Jvm.MethodName), prog_3_method_8_code, 2, some .int), (2, 1, 1, 1, 0)) := ⟨(fun _ => ⟨zw_436, zt_c2.1, by decide, zt_c2.2.1, zt_c2.2.2.1, zt_c2.2.2.2, zd_3⟩), rfl, rfl, (fun _ => ⟨zw_434, zw_435, (Or.inr ⟨1, zt_T1, 9, rfl, by decide, rfl⟩)⟩), (fun e => absurd e (by decide)), (fun e => absurd e (by decide))⟩
theorem zt_m65 : zt_mp ((({ cls := "FirstAtTheFirst$Mind", name := "farthest", desc := "(II)I" } : Jvm.MethodName), prog_3_method_21_code, 7, some .int), (2, 1, 2, 1, 0)) := ⟨(fun _ => ⟨zw_440, zt_c2.1, by decide, zt_c2.2.1, zt_c2.2.2.1, zt_c2.2.2.2, zd_11⟩), rfl, rfl, (fun _ => ⟨zw_439, (zt_insel (zt_p1 (zs4 (zs4 (List.Mem.head _))))), (Or.inr ⟨1, zt_T1, 9, rfl, by decide, rfl⟩)⟩), (fun e => absurd e (by decide)), (fun e => absurd e (by decide))⟩
theorem zt_m66 : zt_mp ((({ cls := "FirstAtTheFirst$Mind", name := "stillGets", desc := "(II)I" } : Jvm.MethodName), prog_3_method_10_code, 4, some .int), (2, 1, 2, 1, 0)) := ⟨(fun _ => ⟨zw_444, zt_c2.1, by decide, zt_c2.2.1, zt_c2.2.2.1, zt_c2.2.2.2, zd_11⟩), rfl, rfl, (fun _ => ⟨zw_442, zw_443, (Or.inr ⟨1, zt_T1, 9, rfl, by decide, rfl⟩)⟩), (fun e => absurd e (by decide)), (fun e => absurd e (by decide))⟩
theorem zt_m67 : zt_mp ((({ cls := "FirstAtTheFirst", name := "sides", desc := "(I)I" } : Jvm.MethodName), prog_1_method_9_code, 3, some .int), (5, 1, 1, 4, 0)) := ⟨(fun _ => ⟨zw_451, zt_c5.1, by decide, zt_c5.2.1, zt_c5.2.2.1, zt_c5.2.2.2, zd_3⟩), rfl, rfl, (fun _ => ⟨zw_449, zw_450, (Or.inr ⟨4, zt_T4, 14, rfl, by decide, rfl⟩)⟩), (fun e => absurd e (by decide)), (fun e => absurd e (by decide))⟩
theorem zt_m68 : zt_mp ((({ cls := "FirstAtTheFirst$Estate", name := "becomeSides", desc := "(I)V" } : Jvm.MethodName), prog_2_method_12_code, 3, none), (1, 1, 1, 0, 6)) := ⟨(fun _ => ⟨zw_455, zt_c1.1, by decide, zt_c1.2.1, zt_c1.2.2.1, zt_c1.2.2.2, zd_14⟩), rfl, rfl, (fun _ => ⟨zw_453, zw_454, (Or.inr ⟨0, zt_T0, 10, rfl, by decide, rfl⟩)⟩), (fun e => absurd e (by decide)), (fun e => absurd e (by decide))⟩
theorem zt_m69 : zt_mp ((({ cls := "FirstAtTheFirst", name := "thing", desc := "(III)I" } : Jvm.MethodName), prog_1_method_10_code, 4, some .int), (5, 1, 3, 4, 0)) := ⟨(fun _ => ⟨zw_460, zt_c5.1, by decide, zt_c5.2.1, zt_c5.2.2.1, zt_c5.2.2.2, zd_1⟩), rfl, rfl, (fun _ => ⟨zw_458, zw_459, (Or.inr ⟨4, zt_T4, 14, rfl, by decide, rfl⟩)⟩), (fun e => absurd e (by decide)), (fun e => absurd e (by decide))⟩
theorem zt_m70 : zt_mp ((({ cls := "FirstAtTheFirst", name := "isWorth", desc := "(I)Z" } : Jvm.MethodName), prog_1_method_56_code, 1, some .boolean), (5, 0, 1, -1, 1)) := ⟨(fun _ => ⟨zw_463, zt_c5.1, by decide, zt_c5.2.1, zt_c5.2.2.1, zt_c5.2.2.2, zd_2⟩), rfl, rfl, (fun e => absurd e (by decide)), (fun e => absurd e (by decide)), (fun _ => zw_462)⟩
theorem zt_m71 : zt_mp ((({ cls := "FirstAtTheFirst$Estate", name := "addThing", desc := "(III)V" } : Jvm.MethodName), prog_2_method_13_code, 4, none), (1, 1, 3, 0, 6)) := ⟨(fun _ => ⟨zw_467, zt_c1.1, by decide, zt_c1.2.1, zt_c1.2.2.1, zt_c1.2.2.2, zd_6⟩), rfl, rfl, (fun _ => ⟨zw_465, zw_466, (Or.inr ⟨0, zt_T0, 10, rfl, by decide, rfl⟩)⟩), (fun e => absurd e (by decide)), (fun e => absurd e (by decide))⟩
theorem zt_m72 : zt_mp ((({ cls := "FirstAtTheFirst", name := "worth", desc := "(III)I" } : Jvm.MethodName), prog_1_method_11_code, 5, some .int), (5, 1, 3, 4, 0)) := ⟨(fun _ => ⟨zw_471, zt_c5.1, by decide, zt_c5.2.1, zt_c5.2.2.1, zt_c5.2.2.2, zd_1⟩), rfl, rfl, (fun _ => ⟨zw_469, zw_470, (Or.inr ⟨4, zt_T4, 14, rfl, by decide, rfl⟩)⟩), (fun e => absurd e (by decide)), (fun e => absurd e (by decide))⟩
theorem zt_m73 : zt_mp ((({ cls := "FirstAtTheFirst", name := "bent", desc := "(II)I" } : Jvm.MethodName), prog_1_method_12_code, 4, some .int), (5, 1, 2, 4, 0)) := ⟨(fun _ => ⟨zw_477, zt_c5.1, by decide, zt_c5.2.1, zt_c5.2.2.1, zt_c5.2.2.2, zd_11⟩), rfl, rfl, (fun _ => ⟨zw_475, zw_476, (Or.inr ⟨4, zt_T4, 14, rfl, by decide, rfl⟩)⟩), (fun e => absurd e (by decide)), (fun e => absurd e (by decide))⟩
theorem zt_m74 : zt_mp ((({ cls := "FirstAtTheFirst", name := "law", desc := "(I)I" } : Jvm.MethodName), prog_1_method_13_code, 3, some .int), (5, 1, 1, 4, 0)) := ⟨(fun _ => ⟨zw_481, zt_c5.1, by decide, zt_c5.2.1, zt_c5.2.2.1, zt_c5.2.2.2, zd_3⟩), rfl, rfl, (fun _ => ⟨zw_479, zw_480, (Or.inr ⟨4, zt_T4, 14, rfl, by decide, rfl⟩)⟩), (fun e => absurd e (by decide)), (fun e => absurd e (by decide))⟩
theorem zt_m75 : zt_mp ((({ cls := "FirstAtTheFirst", name := "isLaw", desc := "(I)Z" } : Jvm.MethodName), prog_1_method_57_code, 1, some .boolean), (5, 0, 1, -1, 1)) := ⟨(fun _ => ⟨zw_484, zt_c5.1, by decide, zt_c5.2.1, zt_c5.2.2.1, zt_c5.2.2.2, zd_2⟩), rfl, rfl, (fun e => absurd e (by decide)), (fun e => absurd e (by decide)), (fun _ => zw_483)⟩
theorem zt_m76 : zt_mp ((({ cls := "FirstAtTheFirst", name := "order", desc := "(II)I" } : Jvm.MethodName), prog_1_method_14_code, 5, some .int), (5, 1, 2, 4, 0)) := ⟨(fun _ => ⟨zw_488, zt_c5.1, by decide, zt_c5.2.1, zt_c5.2.2.1, zt_c5.2.2.2, zd_11⟩), rfl, rfl, (fun _ => ⟨zw_486, zw_487, (Or.inr ⟨4, zt_T4, 14, rfl, by decide, rfl⟩)⟩), (fun e => absurd e (by decide)), (fun e => absurd e (by decide))⟩
theorem zt_m77 : zt_mp ((({ cls := "FirstAtTheFirst$Shelves", name := "isRowBelow", desc := "(III)Z" } : Jvm.MethodName), prog_4_method_19_code, 7, some .boolean), (3, 1, 3, 2, 1)) := ⟨(fun _ => ⟨zw_492, zt_c3.1, by decide, zt_c3.2.1, zt_c3.2.2.1, zt_c3.2.2.2, zd_20⟩), rfl, rfl, (fun _ => ⟨zw_490, zw_491, (Or.inr ⟨2, zt_T2, 4, rfl, by decide, rfl⟩)⟩), (fun e => absurd e (by decide)), (fun e => absurd e (by decide))⟩
theorem zt_m78 : zt_mp ((({ cls := "FirstAtTheFirst", name := "turn", desc := "(I)I" } : Jvm.MethodName), prog_1_method_15_code, 3, some .int), (5, 1, 1, 4, 0)) := ⟨(fun _ => ⟨zw_496, zt_c5.1, by decide, zt_c5.2.1, zt_c5.2.2.1, zt_c5.2.2.2, zd_3⟩), rfl, rfl, (fun _ => ⟨zw_494, zw_495, (Or.inr ⟨4, zt_T4, 14, rfl, by decide, rfl⟩)⟩), (fun e => absurd e (by decide)), (fun e => absurd e (by decide))⟩
theorem zt_m79 : zt_mp ((({ cls := "FirstAtTheFirst", name := "own", desc := "(II)I" } : Jvm.MethodName), prog_1_method_16_code, 4, some .int), (5, 1, 2, 4, 0)) := ⟨(fun _ => ⟨zw_501, zt_c5.1, by decide, zt_c5.2.1, zt_c5.2.2.1, zt_c5.2.2.2, zd_11⟩), rfl, rfl, (fun _ => ⟨zw_499, zw_500, (Or.inr ⟨4, zt_T4, 14, rfl, by decide, rfl⟩)⟩), (fun e => absurd e (by decide)), (fun e => absurd e (by decide))⟩
theorem zt_mm4 : ∀ q ∈ zt_M4, zt_mp q := (List.forall_mem_cons.mpr ⟨zt_m64, (List.forall_mem_cons.mpr ⟨zt_m65, (List.forall_mem_cons.mpr ⟨zt_m66, (List.forall_mem_cons.mpr ⟨zt_m67, (List.forall_mem_cons.mpr ⟨zt_m68, (List.forall_mem_cons.mpr ⟨zt_m69, (List.forall_mem_cons.mpr ⟨zt_m70, (List.forall_mem_cons.mpr ⟨zt_m71, (List.forall_mem_cons.mpr ⟨zt_m72, (List.forall_mem_cons.mpr ⟨zt_m73, (List.forall_mem_cons.mpr ⟨zt_m74, (List.forall_mem_cons.mpr ⟨zt_m75, (List.forall_mem_cons.mpr ⟨zt_m76, (List.forall_mem_cons.mpr ⟨zt_m77, (List.forall_mem_cons.mpr ⟨zt_m78, (List.forall_mem_cons.mpr ⟨zt_m79, (fun _ h => absurd h List.not_mem_nil)⟩)⟩)⟩)⟩)⟩)⟩)⟩)⟩)⟩)⟩)⟩)⟩)⟩)⟩)⟩)⟩)
def zt_M5 : List (zx_M × Nat × Nat × Nat × Int × Nat) := [((({ cls := "FirstAtTheFirst$Estate", name := "ownerOf", desc := "(I)I" } : Jvm.MethodName), prog_2_method_6_code, 2, some .int), (1, 1, 1, 0, 0)),
  ((({ cls := "FirstAtTheFirst", name := "feed", desc := "(I)I" } : Jvm.MethodName), prog_1_method_17_code, 2, some .int), (5, 1, 1, 4, 0)),
  ((({ cls := "FirstAtTheFirst", name := "wipe", desc := "()I" } : Jvm.MethodName), prog_1_method_18_code, 2, some .int), (5, 1, 0, 4, 0)),
  ((({ cls := "FirstAtTheFirst", name := "estate", desc := "()I" } : Jvm.MethodName), prog_1_method_19_code, 2, some .int), (5, 1, 0, 4, 0)),
  ((({ cls := "FirstAtTheFirst$Estate", name := "become", desc := "(LFirstAtTheFirst$Estate;)V" } : Jvm.MethodName), prog_2_method_2_code, 2, none), (1, 1, 1, 0, 6)),
  ((({ cls := "FirstAtTheFirst$Tape", name := "readEstate", desc := "(LFirstAtTheFirst$Estate;)I" } : Jvm.MethodName), prog_5_method_2_code, 5, some .int), (4, 1, 1, 3, 0)),
  ((({ cls := "FirstAtTheFirst$Tape", name := "nextToken", desc := "()V" } : Jvm.MethodName), prog_5_method_4_code, 2, none), (4, 1, 0, 3, 6)),
  ((({ cls := "FirstAtTheFirst$Tape", name := "kindAt", desc := "(I)I" } : Jvm.MethodName), prog_5_method_3_code, 3, some .int), (4, 1, 1, 3, 0)),
  ((({ cls := "FirstAtTheFirst$Tape", name := "readStatement", desc := "(LFirstAtTheFirst$Estate;)V" } : Jvm.MethodName), prog_5_method_7_code, 2, none), (4, 1, 1, 3, 6)),
  ((({ cls := "FirstAtTheFirst$Tape", name := "isWord", desc := "(Ljava/lang/String;)Z" } : Jvm.MethodName), prog_5_method_5_code, 3, some .boolean), (4, 1, 1, 3, 1)),
  ((({ cls := "java/lang/String", name := "length", desc := "()I" } : Jvm.MethodName), prog_10_method_54_code, 1, some .int), (9, 1, 0, 6, 0)),
  ((({ cls := "java/lang/String", name := "coder", desc := "()B" } : Jvm.MethodName), prog_10_method_152_code, 1, some .byte), (9, 1, 0, 6, 3)),
  ((({ cls := "java/lang/String", name := "charAt", desc := "(I)C" } : Jvm.MethodName), prog_10_method_56_code, 2, some .char), (9, 1, 1, 6, 2)),
  ((({ cls := "java/lang/String", name := "isLatin1", desc := "()Z" } : Jvm.MethodName), prog_10_method_154_code, 1, some .boolean), (9, 1, 0, 6, 1)),
  ((({ cls := "java/lang/StringLatin1", name := "charAt", desc := "([BI)C" } : Jvm.MethodName), prog_11_method_2_code, 2, some .char), (10, 0, 2, -1, 2)),
  ((({ cls := "java/lang/String", name := "checkIndex", desc := "(II)V" } : Jvm.MethodName), prog_10_method_155_code, 2, none), (9, 0, 2, -1, 6))]
theorem zt_m80 : zt_mp ((({ cls := "FirstAtTheFirst$Estate", name := "ownerOf", desc := "(I)I" } : Jvm.MethodName), prog_2_method_6_code, 2, some .int), (1, 1, 1, 0, 0)) := ⟨(fun _ => ⟨zw_505, zt_c1.1, by decide, zt_c1.2.1, zt_c1.2.2.1, zt_c1.2.2.2, zd_3⟩), rfl, rfl, (fun _ => ⟨zw_503, zw_504, (Or.inr ⟨0, zt_T0, 10, rfl, by decide, rfl⟩)⟩), (fun e => absurd e (by decide)), (fun e => absurd e (by decide))⟩
theorem zt_m81 : zt_mp ((({ cls := "FirstAtTheFirst", name := "feed", desc := "(I)I" } : Jvm.MethodName), prog_1_method_17_code, 2, some .int), (5, 1, 1, 4, 0)) := ⟨(fun _ => ⟨zw_509, zt_c5.1, by decide, zt_c5.2.1, zt_c5.2.2.1, zt_c5.2.2.2, zd_3⟩), rfl, rfl, (fun _ => ⟨zw_507, zw_508, (Or.inr ⟨4, zt_T4, 14, rfl, by decide, rfl⟩)⟩), (fun e => absurd e (by decide)), (fun e => absurd e (by decide))⟩
theorem zt_m82 : zt_mp ((({ cls := "FirstAtTheFirst", name := "wipe", desc := "()I" } : Jvm.MethodName), prog_1_method_18_code, 2, some .int), (5, 1, 0, 4, 0)) := ⟨(fun _ => ⟨zw_513, zt_c5.1, by decide, zt_c5.2.1, zt_c5.2.2.1, zt_c5.2.2.2, zd_21⟩), rfl, rfl, (fun _ => ⟨zw_511, zw_512, (Or.inr ⟨4, zt_T4, 14, rfl, by decide, rfl⟩)⟩), (fun e => absurd e (by decide)), (fun e => absurd e (by decide))⟩
theorem zt_m83 : zt_mp ((({ cls := "FirstAtTheFirst", name := "estate", desc := "()I" } : Jvm.MethodName), prog_1_method_19_code, 2, some .int), (5, 1, 0, 4, 0)) := ⟨(fun _ => ⟨zw_517, zt_c5.1, by decide, zt_c5.2.1, zt_c5.2.2.1, zt_c5.2.2.2, zd_21⟩), rfl, rfl, (fun _ => ⟨zw_515, zw_516, (Or.inr ⟨4, zt_T4, 14, rfl, by decide, rfl⟩)⟩), (fun e => absurd e (by decide)), (fun e => absurd e (by decide))⟩
theorem zt_m84 : zt_mp ((({ cls := "FirstAtTheFirst$Estate", name := "become", desc := "(LFirstAtTheFirst$Estate;)V" } : Jvm.MethodName), prog_2_method_2_code, 2, none), (1, 1, 1, 0, 6)) := ⟨(fun _ => ⟨zw_521, zt_c1.1, by decide, zt_c1.2.1, zt_c1.2.2.1, zt_c1.2.2.2, zd_16⟩), rfl, rfl, (fun _ => ⟨zw_519, zw_520, (Or.inr ⟨0, zt_T0, 10, rfl, by decide, rfl⟩)⟩), (fun e => absurd e (by decide)), (fun e => absurd e (by decide))⟩
theorem zt_m85 : zt_mp ((({ cls := "FirstAtTheFirst$Tape", name := "readEstate", desc := "(LFirstAtTheFirst$Estate;)I" } : Jvm.MethodName), prog_5_method_2_code, 5, some .int), (4, 1, 1, 3, 0)) := ⟨(fun _ => ⟨zw_526, zt_c4.1, by decide, zt_c4.2.1, zt_c4.2.2.1, zt_c4.2.2.2, zd_22⟩), rfl, rfl, (fun _ => ⟨zw_524, zw_525, (Or.inr ⟨3, zt_T3, 6, rfl, by decide, rfl⟩)⟩), (fun e => absurd e (by decide)), (fun e => absurd e (by decide))⟩
theorem zt_m86 : zt_mp ((({ cls := "FirstAtTheFirst$Tape", name := "nextToken", desc := "()V" } : Jvm.MethodName), prog_5_method_4_code, 2, none), (4, 1, 0, 3, 6)) := ⟨(fun _ => ⟨zw_530, zt_c4.1, by decide, zt_c4.2.1, zt_c4.2.2.1, zt_c4.2.2.2, zd_0⟩), rfl, rfl, (fun _ => ⟨zw_529, (zt_insel (zt_p1 (zs4 (zs4 (zs1 (List.Mem.head _)))))), (Or.inr ⟨3, zt_T3, 6, rfl, by decide, rfl⟩)⟩), (fun e => absurd e (by decide)), (fun e => absurd e (by decide))⟩
theorem zt_m87 : zt_mp ((({ cls := "FirstAtTheFirst$Tape", name := "kindAt", desc := "(I)I" } : Jvm.MethodName), prog_5_method_3_code, 3, some .int), (4, 1, 1, 3, 0)) := ⟨(fun _ => ⟨zw_534, zt_c4.1, by decide, zt_c4.2.1, zt_c4.2.2.1, zt_c4.2.2.2, zd_3⟩), rfl, rfl, (fun _ => ⟨zw_533, (zt_insel (zt_p1 (zs4 (zs4 (zs1 (zs1 (List.Mem.head _))))))), (Or.inr ⟨3, zt_T3, 6, rfl, by decide, rfl⟩)⟩), (fun e => absurd e (by decide)), (fun e => absurd e (by decide))⟩
theorem zt_m88 : zt_mp ((({ cls := "FirstAtTheFirst$Tape", name := "readStatement", desc := "(LFirstAtTheFirst$Estate;)V" } : Jvm.MethodName), prog_5_method_7_code, 2, none), (4, 1, 1, 3, 6)) := ⟨(fun _ => ⟨zw_539, zt_c4.1, by decide, zt_c4.2.1, zt_c4.2.2.1, zt_c4.2.2.2, zd_16⟩), rfl, rfl, (fun _ => ⟨zw_538, (zt_insel (zt_p1 (zs4 (zs4 (zs1 (zs1 (zs1 (List.Mem.head _)))))))), (Or.inr ⟨3, zt_T3, 6, rfl, by decide, rfl⟩)⟩), (fun e => absurd e (by decide)), (fun e => absurd e (by decide))⟩
theorem zt_m89 : zt_mp ((({ cls := "FirstAtTheFirst$Tape", name := "isWord", desc := "(Ljava/lang/String;)Z" } : Jvm.MethodName), prog_5_method_5_code, 3, some .boolean), (4, 1, 1, 3, 1)) := ⟨(fun _ => ⟨zw_544, zt_c4.1, by decide, zt_c4.2.1, zt_c4.2.2.1, zt_c4.2.2.2, zd_23⟩), rfl, rfl, (fun _ => ⟨zw_543, (zt_insel (zt_p1 (zs4 (zs4 (zs4 (List.Mem.head _)))))), (Or.inr ⟨3, zt_T3, 6, rfl, by decide, rfl⟩)⟩), (fun e => absurd e (by decide)), (fun e => absurd e (by decide))⟩
theorem zt_m90 : zt_mp ((({ cls := "java/lang/String", name := "length", desc := "()I" } : Jvm.MethodName), prog_10_method_54_code, 1, some .int), (9, 1, 0, 6, 0)) := ⟨(fun _ => ⟨zw_548, zt_c9.1, by decide, zt_c9.2.1, zt_c9.2.2.1, zt_c9.2.2.2, zd_21⟩), rfl, rfl, (fun _ => ⟨zw_546, zw_547, (Or.inl ⟨rfl, rfl⟩)⟩), (fun e => absurd e (by decide)), (fun e => absurd e (by decide))⟩
theorem zt_m91 : zt_mp ((({ cls := "java/lang/String", name := "coder", desc := "()B" } : Jvm.MethodName), prog_10_method_152_code, 1, some .byte), (9, 1, 0, 6, 3)) := ⟨(fun _ => ⟨zw_552, zt_c9.1, by decide, zt_c9.2.1, zt_c9.2.2.1, zt_c9.2.2.2, zd_24⟩), rfl, rfl, (fun _ => ⟨zw_550, zw_551, (Or.inl ⟨rfl, rfl⟩)⟩), (fun e => absurd e (by decide)), (fun e => absurd e (by decide))⟩
theorem zt_m92 : zt_mp ((({ cls := "java/lang/String", name := "charAt", desc := "(I)C" } : Jvm.MethodName), prog_10_method_56_code, 2, some .char), (9, 1, 1, 6, 2)) := ⟨(fun _ => ⟨zw_558, zt_c9.1, by decide, zt_c9.2.1, zt_c9.2.2.1, zt_c9.2.2.2, zd_25⟩), rfl, rfl, (fun _ => ⟨zw_556, zw_557, (Or.inl ⟨rfl, rfl⟩)⟩), (fun e => absurd e (by decide)), (fun e => absurd e (by decide))⟩
theorem zt_m93 : zt_mp ((({ cls := "java/lang/String", name := "isLatin1", desc := "()Z" } : Jvm.MethodName), prog_10_method_154_code, 1, some .boolean), (9, 1, 0, 6, 1)) := ⟨(fun _ => ⟨zw_562, zt_c9.1, by decide, zt_c9.2.1, zt_c9.2.2.1, zt_c9.2.2.2, zd_26⟩), rfl, rfl, (fun _ => ⟨zw_560, zw_561, (Or.inl ⟨rfl, rfl⟩)⟩), (fun e => absurd e (by decide)), (fun e => absurd e (by decide))⟩
theorem zt_m94 : zt_mp ((({ cls := "java/lang/StringLatin1", name := "charAt", desc := "([BI)C" } : Jvm.MethodName), prog_11_method_2_code, 2, some .char), (10, 0, 2, -1, 2)) := ⟨(fun _ => ⟨zw_565, zt_c10.1, by decide, zt_c10.2.1, zt_c10.2.2.1, zt_c10.2.2.2, zd_27⟩), rfl, rfl, (fun e => absurd e (by decide)), (fun e => absurd e (by decide)), (fun _ => zw_564)⟩
theorem zt_m95 : zt_mp ((({ cls := "java/lang/String", name := "checkIndex", desc := "(II)V" } : Jvm.MethodName), prog_10_method_155_code, 2, none), (9, 0, 2, -1, 6)) := ⟨(fun _ => ⟨zw_568, zt_c9.1, by decide, zt_c9.2.1, zt_c9.2.2.1, zt_c9.2.2.2, zd_19⟩), rfl, rfl, (fun e => absurd e (by decide)), (fun e => absurd e (by decide)), (fun _ => zw_567)⟩
theorem zt_mm5 : ∀ q ∈ zt_M5, zt_mp q := (List.forall_mem_cons.mpr ⟨zt_m80, (List.forall_mem_cons.mpr ⟨zt_m81, (List.forall_mem_cons.mpr ⟨zt_m82, (List.forall_mem_cons.mpr ⟨zt_m83, (List.forall_mem_cons.mpr ⟨zt_m84, (List.forall_mem_cons.mpr ⟨zt_m85, (List.forall_mem_cons.mpr ⟨zt_m86, (List.forall_mem_cons.mpr ⟨zt_m87, (List.forall_mem_cons.mpr ⟨zt_m88, (List.forall_mem_cons.mpr ⟨zt_m89, (List.forall_mem_cons.mpr ⟨zt_m90, (List.forall_mem_cons.mpr ⟨zt_m91, (List.forall_mem_cons.mpr ⟨zt_m92, (List.forall_mem_cons.mpr ⟨zt_m93, (List.forall_mem_cons.mpr ⟨zt_m94, (List.forall_mem_cons.mpr ⟨zt_m95, (fun _ h => absurd h List.not_mem_nil)⟩)⟩)⟩)⟩)⟩)⟩)⟩)⟩)⟩)⟩)⟩)⟩)⟩)⟩)⟩)⟩)
def zt_M6 : List (zx_M × Nat × Nat × Nat × Int × Nat) := [((({ cls := "jdk/internal/util/Preconditions", name := "checkIndex", desc := "(IILjava/util/function/BiFunction;)I" } : Jvm.MethodName), prog_13_method_11_code, 3, some .int), (12, 0, 3, -1, 0)),
  ((({ cls := "java/lang/StringUTF16", name := "charAt", desc := "([BI)C" } : Jvm.MethodName), prog_12_method_83_code, 2, some .char), (11, 0, 2, -1, 2)),
  ((({ cls := "java/lang/StringUTF16", name := "checkIndex", desc := "(I[B)V" } : Jvm.MethodName), prog_12_method_91_code, 2, none), (11, 0, 2, -1, 6)),
  ((({ cls := "java/lang/StringUTF16", name := "length", desc := "([B)I" } : Jvm.MethodName), prog_12_method_6_code, 1, some .int), (11, 0, 1, -1, 0)),
  ((({ cls := "java/lang/StringUTF16", name := "getChar", desc := "([BI)C" } : Jvm.MethodName), prog_12_method_5_code, 2, some .char), (11, 0, 2, -1, 2)),
  ((({ cls := "FirstAtTheFirst$Tape", name := "readSides", desc := "(LFirstAtTheFirst$Estate;)V" } : Jvm.MethodName), prog_5_method_8_code, 3, none), (4, 1, 1, 3, 6)),
  ((({ cls := "FirstAtTheFirst$Tape", name := "readNumber", desc := "(II)I" } : Jvm.MethodName), prog_5_method_6_code, 6, some .int), (4, 1, 2, 3, 0)),
  ((({ cls := "FirstAtTheFirst$Tape", name := "readThing", desc := "(LFirstAtTheFirst$Estate;)V" } : Jvm.MethodName), prog_5_method_9_code, 5, none), (4, 1, 1, 3, 6)),
  ((({ cls := "FirstAtTheFirst$Tape", name := "readLaw", desc := "(LFirstAtTheFirst$Estate;)V" } : Jvm.MethodName), prog_5_method_10_code, 3, none), (4, 1, 1, 3, 6)),
  ((({ cls := "FirstAtTheFirst$Tape", name := "readOrder", desc := "(LFirstAtTheFirst$Estate;)V" } : Jvm.MethodName), prog_5_method_11_code, 4, none), (4, 1, 1, 3, 6)),
  ((({ cls := "FirstAtTheFirst$Tape", name := "readBent", desc := "(LFirstAtTheFirst$Estate;)V" } : Jvm.MethodName), prog_5_method_12_code, 4, none), (4, 1, 1, 3, 6)),
  ((({ cls := "FirstAtTheFirst$Tape", name := "readTurn", desc := "(LFirstAtTheFirst$Estate;)V" } : Jvm.MethodName), prog_5_method_13_code, 3, none), (4, 1, 1, 3, 6)),
  ((({ cls := "FirstAtTheFirst$Tape", name := "readOwns", desc := "(LFirstAtTheFirst$Estate;)V" } : Jvm.MethodName), prog_5_method_14_code, 4, none), (4, 1, 1, 3, 6)),
  ((({ cls := "FirstAtTheFirst", name := "thingOf", desc := "(II)I" } : Jvm.MethodName), prog_1_method_20_code, 3, some .int), (5, 1, 2, 4, 0)),
  ((({ cls := "FirstAtTheFirst", name := "sideOf", desc := "(II)I" } : Jvm.MethodName), prog_1_method_21_code, 3, some .int), (5, 1, 2, 4, 0)),
  ((({ cls := "FirstAtTheFirst", name := "whose", desc := "(II)I" } : Jvm.MethodName), prog_1_method_22_code, 3, some .int), (5, 1, 2, 4, 0))]
theorem zt_m96 : zt_mp ((({ cls := "jdk/internal/util/Preconditions", name := "checkIndex", desc := "(IILjava/util/function/BiFunction;)I" } : Jvm.MethodName), prog_13_method_11_code, 3, some .int), (12, 0, 3, -1, 0)) := ⟨(fun _ => ⟨zw_573, zt_c12.1, by decide, zt_c12.2.1, zt_c12.2.2.1, zt_c12.2.2.2, zd_28⟩), rfl, rfl, (fun e => absurd e (by decide)), (fun e => absurd e (by decide)), (fun _ => zw_572)⟩
theorem zt_m97 : zt_mp ((({ cls := "java/lang/StringUTF16", name := "charAt", desc := "([BI)C" } : Jvm.MethodName), prog_12_method_83_code, 2, some .char), (11, 0, 2, -1, 2)) := ⟨(fun _ => ⟨zw_576, zt_c11.1, by decide, zt_c11.2.1, zt_c11.2.2.1, zt_c11.2.2.2, zd_27⟩), rfl, rfl, (fun e => absurd e (by decide)), (fun e => absurd e (by decide)), (fun _ => zw_575)⟩
theorem zt_m98 : zt_mp ((({ cls := "java/lang/StringUTF16", name := "checkIndex", desc := "(I[B)V" } : Jvm.MethodName), prog_12_method_91_code, 2, none), (11, 0, 2, -1, 6)) := ⟨(fun _ => ⟨zw_579, zt_c11.1, by decide, zt_c11.2.1, zt_c11.2.2.1, zt_c11.2.2.2, zd_29⟩), rfl, rfl, (fun e => absurd e (by decide)), (fun e => absurd e (by decide)), (fun _ => zw_578)⟩
theorem zt_m99 : zt_mp ((({ cls := "java/lang/StringUTF16", name := "length", desc := "([B)I" } : Jvm.MethodName), prog_12_method_6_code, 1, some .int), (11, 0, 1, -1, 0)) := ⟨(fun _ => ⟨zw_582, zt_c11.1, by decide, zt_c11.2.1, zt_c11.2.2.1, zt_c11.2.2.2, zd_30⟩), rfl, rfl, (fun e => absurd e (by decide)), (fun e => absurd e (by decide)), (fun _ => zw_581)⟩
theorem zt_m100 : zt_mp ((({ cls := "java/lang/StringUTF16", name := "getChar", desc := "([BI)C" } : Jvm.MethodName), prog_12_method_5_code, 2, some .char), (11, 0, 2, -1, 2)) := ⟨(fun _ => ⟨zw_586, zt_c11.1, by decide, zt_c11.2.1, zt_c11.2.2.1, zt_c11.2.2.2, zd_27⟩), rfl, rfl, (fun e => absurd e (by decide)), (fun e => absurd e (by decide)), (fun _ => zw_585)⟩
theorem zt_m101 : zt_mp ((({ cls := "FirstAtTheFirst$Tape", name := "readSides", desc := "(LFirstAtTheFirst$Estate;)V" } : Jvm.MethodName), prog_5_method_8_code, 3, none), (4, 1, 1, 3, 6)) := ⟨(fun _ => ⟨zw_596, zt_c4.1, by decide, zt_c4.2.1, zt_c4.2.2.1, zt_c4.2.2.2, zd_16⟩), rfl, rfl, (fun _ => ⟨zw_595, (zt_insel (zt_p1 (zs4 (zs4 (zs4 (zs1 (List.Mem.head _))))))), (Or.inr ⟨3, zt_T3, 6, rfl, by decide, rfl⟩)⟩), (fun e => absurd e (by decide)), (fun e => absurd e (by decide))⟩
theorem zt_m102 : zt_mp ((({ cls := "FirstAtTheFirst$Tape", name := "readNumber", desc := "(II)I" } : Jvm.MethodName), prog_5_method_6_code, 6, some .int), (4, 1, 2, 3, 0)) := ⟨(fun _ => ⟨zw_600, zt_c4.1, by decide, zt_c4.2.1, zt_c4.2.2.1, zt_c4.2.2.2, zd_11⟩), rfl, rfl, (fun _ => ⟨zw_599, (zt_insel (zt_p1 (zs4 (zs4 (zs4 (zs1 (zs1 (List.Mem.head _)))))))), (Or.inr ⟨3, zt_T3, 6, rfl, by decide, rfl⟩)⟩), (fun e => absurd e (by decide)), (fun e => absurd e (by decide))⟩
theorem zt_m103 : zt_mp ((({ cls := "FirstAtTheFirst$Tape", name := "readThing", desc := "(LFirstAtTheFirst$Estate;)V" } : Jvm.MethodName), prog_5_method_9_code, 5, none), (4, 1, 1, 3, 6)) := ⟨(fun _ => ⟨zw_606, zt_c4.1, by decide, zt_c4.2.1, zt_c4.2.2.1, zt_c4.2.2.2, zd_16⟩), rfl, rfl, (fun _ => ⟨zw_605, (zt_insel (zt_p1 (zs4 (zs4 (zs4 (zs1 (zs1 (zs1 (List.Mem.head _))))))))), (Or.inr ⟨3, zt_T3, 6, rfl, by decide, rfl⟩)⟩), (fun e => absurd e (by decide)), (fun e => absurd e (by decide))⟩
theorem zt_m104 : zt_mp ((({ cls := "FirstAtTheFirst$Tape", name := "readLaw", desc := "(LFirstAtTheFirst$Estate;)V" } : Jvm.MethodName), prog_5_method_10_code, 3, none), (4, 1, 1, 3, 6)) := ⟨(fun _ => ⟨zw_612, zt_c4.1, by decide, zt_c4.2.1, zt_c4.2.2.1, zt_c4.2.2.2, zd_16⟩), rfl, rfl, (fun _ => ⟨zw_611, (zt_insel (zt_p2 (List.Mem.head _))), (Or.inr ⟨3, zt_T3, 6, rfl, by decide, rfl⟩)⟩), (fun e => absurd e (by decide)), (fun e => absurd e (by decide))⟩
theorem zt_m105 : zt_mp ((({ cls := "FirstAtTheFirst$Tape", name := "readOrder", desc := "(LFirstAtTheFirst$Estate;)V" } : Jvm.MethodName), prog_5_method_11_code, 4, none), (4, 1, 1, 3, 6)) := ⟨(fun _ => ⟨zw_617, zt_c4.1, by decide, zt_c4.2.1, zt_c4.2.2.1, zt_c4.2.2.2, zd_16⟩), rfl, rfl, (fun _ => ⟨zw_616, (zt_insel (zt_p2 (zs1 (List.Mem.head _)))), (Or.inr ⟨3, zt_T3, 6, rfl, by decide, rfl⟩)⟩), (fun e => absurd e (by decide)), (fun e => absurd e (by decide))⟩
theorem zt_m106 : zt_mp ((({ cls := "FirstAtTheFirst$Tape", name := "readBent", desc := "(LFirstAtTheFirst$Estate;)V" } : Jvm.MethodName), prog_5_method_12_code, 4, none), (4, 1, 1, 3, 6)) := ⟨(fun _ => ⟨zw_623, zt_c4.1, by decide, zt_c4.2.1, zt_c4.2.2.1, zt_c4.2.2.2, zd_16⟩), rfl, rfl, (fun _ => ⟨zw_622, (zt_insel (zt_p2 (zs1 (zs1 (List.Mem.head _))))), (Or.inr ⟨3, zt_T3, 6, rfl, by decide, rfl⟩)⟩), (fun e => absurd e (by decide)), (fun e => absurd e (by decide))⟩
theorem zt_m107 : zt_mp ((({ cls := "FirstAtTheFirst$Tape", name := "readTurn", desc := "(LFirstAtTheFirst$Estate;)V" } : Jvm.MethodName), prog_5_method_13_code, 3, none), (4, 1, 1, 3, 6)) := ⟨(fun _ => ⟨zw_628, zt_c4.1, by decide, zt_c4.2.1, zt_c4.2.2.1, zt_c4.2.2.2, zd_16⟩), rfl, rfl, (fun _ => ⟨zw_627, (zt_insel (zt_p2 (zs1 (zs1 (zs1 (List.Mem.head _)))))), (Or.inr ⟨3, zt_T3, 6, rfl, by decide, rfl⟩)⟩), (fun e => absurd e (by decide)), (fun e => absurd e (by decide))⟩
theorem zt_m108 : zt_mp ((({ cls := "FirstAtTheFirst$Tape", name := "readOwns", desc := "(LFirstAtTheFirst$Estate;)V" } : Jvm.MethodName), prog_5_method_14_code, 4, none), (4, 1, 1, 3, 6)) := ⟨(fun _ => ⟨zw_633, zt_c4.1, by decide, zt_c4.2.1, zt_c4.2.2.1, zt_c4.2.2.2, zd_16⟩), rfl, rfl, (fun _ => ⟨zw_632, (zt_insel (zt_p2 (zs4 (List.Mem.head _)))), (Or.inr ⟨3, zt_T3, 6, rfl, by decide, rfl⟩)⟩), (fun e => absurd e (by decide)), (fun e => absurd e (by decide))⟩
theorem zt_m109 : zt_mp ((({ cls := "FirstAtTheFirst", name := "thingOf", desc := "(II)I" } : Jvm.MethodName), prog_1_method_20_code, 3, some .int), (5, 1, 2, 4, 0)) := ⟨(fun _ => ⟨zw_638, zt_c5.1, by decide, zt_c5.2.1, zt_c5.2.2.1, zt_c5.2.2.2, zd_11⟩), rfl, rfl, (fun _ => ⟨zw_636, zw_637, (Or.inr ⟨4, zt_T4, 14, rfl, by decide, rfl⟩)⟩), (fun e => absurd e (by decide)), (fun e => absurd e (by decide))⟩
theorem zt_m110 : zt_mp ((({ cls := "FirstAtTheFirst", name := "sideOf", desc := "(II)I" } : Jvm.MethodName), prog_1_method_21_code, 3, some .int), (5, 1, 2, 4, 0)) := ⟨(fun _ => ⟨zw_642, zt_c5.1, by decide, zt_c5.2.1, zt_c5.2.2.1, zt_c5.2.2.2, zd_11⟩), rfl, rfl, (fun _ => ⟨zw_640, zw_641, (Or.inr ⟨4, zt_T4, 14, rfl, by decide, rfl⟩)⟩), (fun e => absurd e (by decide)), (fun e => absurd e (by decide))⟩
theorem zt_m111 : zt_mp ((({ cls := "FirstAtTheFirst", name := "whose", desc := "(II)I" } : Jvm.MethodName), prog_1_method_22_code, 3, some .int), (5, 1, 2, 4, 0)) := ⟨(fun _ => ⟨zw_648, zt_c5.1, by decide, zt_c5.2.1, zt_c5.2.2.1, zt_c5.2.2.2, zd_11⟩), rfl, rfl, (fun _ => ⟨zw_646, zw_647, (Or.inr ⟨4, zt_T4, 14, rfl, by decide, rfl⟩)⟩), (fun e => absurd e (by decide)), (fun e => absurd e (by decide))⟩
theorem zt_mm6 : ∀ q ∈ zt_M6, zt_mp q := (List.forall_mem_cons.mpr ⟨zt_m96, (List.forall_mem_cons.mpr ⟨zt_m97, (List.forall_mem_cons.mpr ⟨zt_m98, (List.forall_mem_cons.mpr ⟨zt_m99, (List.forall_mem_cons.mpr ⟨zt_m100, (List.forall_mem_cons.mpr ⟨zt_m101, (List.forall_mem_cons.mpr ⟨zt_m102, (List.forall_mem_cons.mpr ⟨zt_m103, (List.forall_mem_cons.mpr ⟨zt_m104, (List.forall_mem_cons.mpr ⟨zt_m105, (List.forall_mem_cons.mpr ⟨zt_m106, (List.forall_mem_cons.mpr ⟨zt_m107, (List.forall_mem_cons.mpr ⟨zt_m108, (List.forall_mem_cons.mpr ⟨zt_m109, (List.forall_mem_cons.mpr ⟨zt_m110, (List.forall_mem_cons.mpr ⟨zt_m111, (fun _ h => absurd h List.not_mem_nil)⟩)⟩)⟩)⟩)⟩)⟩)⟩)⟩)⟩)⟩)⟩)⟩)⟩)⟩)⟩)⟩)
def zt_M7 : List (zx_M × Nat × Nat × Nat × Int × Nat) := [((({ cls := "FirstAtTheFirst", name := "runs", desc := "(II)I" } : Jvm.MethodName), prog_1_method_23_code, 8, some .int), (5, 1, 2, 4, 0)),
  ((({ cls := "java/lang/Math", name := "max", desc := "(II)I" } : Jvm.MethodName), prog_9_method_65_code, 2, some .int), (8, 4, 2, -1, 0)),
  ((({ cls := "FirstAtTheFirst", name := "powers", desc := "(III)J" } : Jvm.MethodName), prog_1_method_24_code, 8, some .long), (5, 1, 3, 4, 4)),
  ((({ cls := "FirstAtTheFirst", name := "power", desc := "(JI)J" } : Jvm.MethodName), prog_1_method_55_code, 6, some .long), (5, 0, 2, -1, 4)),
  ((({ cls := "FirstAtTheFirst", name := "rival", desc := "(I)I" } : Jvm.MethodName), prog_1_method_25_code, 2, some .int), (5, 1, 1, 4, 0)),
  ((({ cls := "FirstAtTheFirst", name := "takes", desc := "(I)I" } : Jvm.MethodName), prog_1_method_26_code, 2, some .int), (5, 1, 1, 4, 0)),
  ((({ cls := "FirstAtTheFirst", name := "run", desc := "(II)I" } : Jvm.MethodName), prog_1_method_27_code, 3, some .int), (5, 1, 2, 4, 0)),
  ((({ cls := "FirstAtTheFirst", name := "runByLaw", desc := "(I)V" } : Jvm.MethodName), prog_1_method_61_code, 2, none), (5, 1, 1, 4, 6)),
  ((({ cls := "FirstAtTheFirst", name := "goOn", desc := "(LFirstAtTheFirst$Mind;I)V" } : Jvm.MethodName), prog_1_method_62_code, 8, none), (5, 1, 2, 4, 6)),
  ((({ cls := "FirstAtTheFirst$Mind", name := "owned", desc := "(I)I" } : Jvm.MethodName), prog_3_method_7_code, 2, some .int), (2, 1, 1, 1, 0)),
  ((({ cls := "FirstAtTheFirst", name := "gets", desc := "(II)I" } : Jvm.MethodName), prog_1_method_28_code, 3, some .int), (5, 1, 2, 4, 0)),
  ((({ cls := "FirstAtTheFirst", name := "unequal", desc := "(I)I" } : Jvm.MethodName), prog_1_method_29_code, 2, some .int), (5, 1, 1, 4, 0)),
  ((({ cls := "FirstAtTheFirst", name := "spread", desc := "()I" } : Jvm.MethodName), prog_1_method_67_code, 4, some .int), (5, 1, 0, 4, 0)),
  ((({ cls := "FirstAtTheFirst", name := "game", desc := "(II)I" } : Jvm.MethodName), prog_1_method_30_code, 3, some .int), (5, 1, 2, 4, 0)),
  ((({ cls := "FirstAtTheFirst", name := "playGame", desc := "(I)I" } : Jvm.MethodName), prog_1_method_63_code, 4, some .int), (5, 1, 1, 4, 0)),
  ((({ cls := "FirstAtTheFirst$Mind", name := "lookAllAhead", desc := "()I" } : Jvm.MethodName), prog_3_method_23_code, 6, some .int), (2, 1, 0, 1, 0))]
theorem zt_m112 : zt_mp ((({ cls := "FirstAtTheFirst", name := "runs", desc := "(II)I" } : Jvm.MethodName), prog_1_method_23_code, 8, some .int), (5, 1, 2, 4, 0)) := ⟨(fun _ => ⟨zw_653, zt_c5.1, by decide, zt_c5.2.1, zt_c5.2.2.1, zt_c5.2.2.2, zd_11⟩), rfl, rfl, (fun _ => ⟨zw_651, zw_652, (Or.inr ⟨4, zt_T4, 14, rfl, by decide, rfl⟩)⟩), (fun e => absurd e (by decide)), (fun e => absurd e (by decide))⟩
theorem zt_m113 : zt_mp ((({ cls := "java/lang/Math", name := "max", desc := "(II)I" } : Jvm.MethodName), prog_9_method_65_code, 2, some .int), (8, 4, 2, -1, 0)) := ⟨(fun e => absurd e (by decide)), rfl, rfl, (fun e => absurd e (by decide)), (fun e => absurd e (by decide)), (fun e => absurd e (by decide))⟩
theorem zt_m114 : zt_mp ((({ cls := "FirstAtTheFirst", name := "powers", desc := "(III)J" } : Jvm.MethodName), prog_1_method_24_code, 8, some .long), (5, 1, 3, 4, 4)) := ⟨(fun _ => ⟨zw_658, zt_c5.1, by decide, zt_c5.2.1, zt_c5.2.2.1, zt_c5.2.2.2, zd_31⟩), rfl, rfl, (fun _ => ⟨zw_656, zw_657, (Or.inr ⟨4, zt_T4, 14, rfl, by decide, rfl⟩)⟩), (fun e => absurd e (by decide)), (fun e => absurd e (by decide))⟩
theorem zt_m115 : zt_mp ((({ cls := "FirstAtTheFirst", name := "power", desc := "(JI)J" } : Jvm.MethodName), prog_1_method_55_code, 6, some .long), (5, 0, 2, -1, 4)) := ⟨(fun _ => ⟨zw_662, zt_c5.1, by decide, zt_c5.2.1, zt_c5.2.2.1, zt_c5.2.2.2, zd_32⟩), rfl, rfl, (fun e => absurd e (by decide)), (fun e => absurd e (by decide)), (fun _ => zw_661)⟩
theorem zt_m116 : zt_mp ((({ cls := "FirstAtTheFirst", name := "rival", desc := "(I)I" } : Jvm.MethodName), prog_1_method_25_code, 2, some .int), (5, 1, 1, 4, 0)) := ⟨(fun _ => ⟨zw_666, zt_c5.1, by decide, zt_c5.2.1, zt_c5.2.2.1, zt_c5.2.2.2, zd_3⟩), rfl, rfl, (fun _ => ⟨zw_664, zw_665, (Or.inr ⟨4, zt_T4, 14, rfl, by decide, rfl⟩)⟩), (fun e => absurd e (by decide)), (fun e => absurd e (by decide))⟩
theorem zt_m117 : zt_mp ((({ cls := "FirstAtTheFirst", name := "takes", desc := "(I)I" } : Jvm.MethodName), prog_1_method_26_code, 2, some .int), (5, 1, 1, 4, 0)) := ⟨(fun _ => ⟨zw_671, zt_c5.1, by decide, zt_c5.2.1, zt_c5.2.2.1, zt_c5.2.2.2, zd_3⟩), rfl, rfl, (fun _ => ⟨zw_669, zw_670, (Or.inr ⟨4, zt_T4, 14, rfl, by decide, rfl⟩)⟩), (fun e => absurd e (by decide)), (fun e => absurd e (by decide))⟩
theorem zt_m118 : zt_mp ((({ cls := "FirstAtTheFirst", name := "run", desc := "(II)I" } : Jvm.MethodName), prog_1_method_27_code, 3, some .int), (5, 1, 2, 4, 0)) := ⟨(fun _ => ⟨zw_675, zt_c5.1, by decide, zt_c5.2.1, zt_c5.2.2.1, zt_c5.2.2.2, zd_11⟩), rfl, rfl, (fun _ => ⟨zw_673, zw_674, (Or.inr ⟨4, zt_T4, 14, rfl, by decide, rfl⟩)⟩), (fun e => absurd e (by decide)), (fun e => absurd e (by decide))⟩
theorem zt_m119 : zt_mp ((({ cls := "FirstAtTheFirst", name := "runByLaw", desc := "(I)V" } : Jvm.MethodName), prog_1_method_61_code, 2, none), (5, 1, 1, 4, 6)) := ⟨(fun _ => ⟨zw_680, zt_c5.1, by decide, zt_c5.2.1, zt_c5.2.2.1, zt_c5.2.2.2, zd_14⟩), rfl, rfl, (fun _ => ⟨zw_679, (zt_insel (zt_p2 (zs4 (zs1 (List.Mem.head _))))), (Or.inr ⟨4, zt_T4, 14, rfl, by decide, rfl⟩)⟩), (fun e => absurd e (by decide)), (fun e => absurd e (by decide))⟩
theorem zt_m120 : zt_mp ((({ cls := "FirstAtTheFirst", name := "goOn", desc := "(LFirstAtTheFirst$Mind;I)V" } : Jvm.MethodName), prog_1_method_62_code, 8, none), (5, 1, 2, 4, 6)) := ⟨(fun _ => ⟨zw_684, zt_c5.1, by decide, zt_c5.2.1, zt_c5.2.2.1, zt_c5.2.2.2, zd_33⟩), rfl, rfl, (fun _ => ⟨zw_683, (zt_insel (zt_p2 (zs4 (zs1 (zs1 (List.Mem.head _)))))), (Or.inr ⟨4, zt_T4, 14, rfl, by decide, rfl⟩)⟩), (fun e => absurd e (by decide)), (fun e => absurd e (by decide))⟩
theorem zt_m121 : zt_mp ((({ cls := "FirstAtTheFirst$Mind", name := "owned", desc := "(I)I" } : Jvm.MethodName), prog_3_method_7_code, 2, some .int), (2, 1, 1, 1, 0)) := ⟨(fun _ => ⟨zw_688, zt_c2.1, by decide, zt_c2.2.1, zt_c2.2.2.1, zt_c2.2.2.2, zd_3⟩), rfl, rfl, (fun _ => ⟨zw_686, zw_687, (Or.inr ⟨1, zt_T1, 9, rfl, by decide, rfl⟩)⟩), (fun e => absurd e (by decide)), (fun e => absurd e (by decide))⟩
theorem zt_m122 : zt_mp ((({ cls := "FirstAtTheFirst", name := "gets", desc := "(II)I" } : Jvm.MethodName), prog_1_method_28_code, 3, some .int), (5, 1, 2, 4, 0)) := ⟨(fun _ => ⟨zw_696, zt_c5.1, by decide, zt_c5.2.1, zt_c5.2.2.1, zt_c5.2.2.2, zd_11⟩), rfl, rfl, (fun _ => ⟨zw_694, zw_695, (Or.inr ⟨4, zt_T4, 14, rfl, by decide, rfl⟩)⟩), (fun e => absurd e (by decide)), (fun e => absurd e (by decide))⟩
theorem zt_m123 : zt_mp ((({ cls := "FirstAtTheFirst", name := "unequal", desc := "(I)I" } : Jvm.MethodName), prog_1_method_29_code, 2, some .int), (5, 1, 1, 4, 0)) := ⟨(fun _ => ⟨zw_700, zt_c5.1, by decide, zt_c5.2.1, zt_c5.2.2.1, zt_c5.2.2.2, zd_3⟩), rfl, rfl, (fun _ => ⟨zw_698, zw_699, (Or.inr ⟨4, zt_T4, 14, rfl, by decide, rfl⟩)⟩), (fun e => absurd e (by decide)), (fun e => absurd e (by decide))⟩
theorem zt_m124 : zt_mp ((({ cls := "FirstAtTheFirst", name := "spread", desc := "()I" } : Jvm.MethodName), prog_1_method_67_code, 4, some .int), (5, 1, 0, 4, 0)) := ⟨(fun _ => ⟨zw_704, zt_c5.1, by decide, zt_c5.2.1, zt_c5.2.2.1, zt_c5.2.2.2, zd_21⟩), rfl, rfl, (fun _ => ⟨zw_703, (zt_insel (zt_p2 (zs4 (zs1 (zs1 (zs1 (List.Mem.head _))))))), (Or.inr ⟨4, zt_T4, 14, rfl, by decide, rfl⟩)⟩), (fun e => absurd e (by decide)), (fun e => absurd e (by decide))⟩
theorem zt_m125 : zt_mp ((({ cls := "FirstAtTheFirst", name := "game", desc := "(II)I" } : Jvm.MethodName), prog_1_method_30_code, 3, some .int), (5, 1, 2, 4, 0)) := ⟨(fun _ => ⟨zw_709, zt_c5.1, by decide, zt_c5.2.1, zt_c5.2.2.1, zt_c5.2.2.2, zd_11⟩), rfl, rfl, (fun _ => ⟨zw_707, zw_708, (Or.inr ⟨4, zt_T4, 14, rfl, by decide, rfl⟩)⟩), (fun e => absurd e (by decide)), (fun e => absurd e (by decide))⟩
theorem zt_m126 : zt_mp ((({ cls := "FirstAtTheFirst", name := "playGame", desc := "(I)I" } : Jvm.MethodName), prog_1_method_63_code, 4, some .int), (5, 1, 1, 4, 0)) := ⟨(fun _ => ⟨zw_713, zt_c5.1, by decide, zt_c5.2.1, zt_c5.2.2.1, zt_c5.2.2.2, zd_3⟩), rfl, rfl, (fun _ => ⟨zw_712, (zt_insel (zt_p2 (zs4 (zs4 (List.Mem.head _))))), (Or.inr ⟨4, zt_T4, 14, rfl, by decide, rfl⟩)⟩), (fun e => absurd e (by decide)), (fun e => absurd e (by decide))⟩
theorem zt_m127 : zt_mp ((({ cls := "FirstAtTheFirst$Mind", name := "lookAllAhead", desc := "()I" } : Jvm.MethodName), prog_3_method_23_code, 6, some .int), (2, 1, 0, 1, 0)) := ⟨(fun _ => ⟨zw_717, zt_c2.1, by decide, zt_c2.2.1, zt_c2.2.2.1, zt_c2.2.2.2, zd_21⟩), rfl, rfl, (fun _ => ⟨zw_715, zw_716, (Or.inr ⟨1, zt_T1, 9, rfl, by decide, rfl⟩)⟩), (fun e => absurd e (by decide)), (fun e => absurd e (by decide))⟩
theorem zt_mm7 : ∀ q ∈ zt_M7, zt_mp q := (List.forall_mem_cons.mpr ⟨zt_m112, (List.forall_mem_cons.mpr ⟨zt_m113, (List.forall_mem_cons.mpr ⟨zt_m114, (List.forall_mem_cons.mpr ⟨zt_m115, (List.forall_mem_cons.mpr ⟨zt_m116, (List.forall_mem_cons.mpr ⟨zt_m117, (List.forall_mem_cons.mpr ⟨zt_m118, (List.forall_mem_cons.mpr ⟨zt_m119, (List.forall_mem_cons.mpr ⟨zt_m120, (List.forall_mem_cons.mpr ⟨zt_m121, (List.forall_mem_cons.mpr ⟨zt_m122, (List.forall_mem_cons.mpr ⟨zt_m123, (List.forall_mem_cons.mpr ⟨zt_m124, (List.forall_mem_cons.mpr ⟨zt_m125, (List.forall_mem_cons.mpr ⟨zt_m126, (List.forall_mem_cons.mpr ⟨zt_m127, (fun _ h => absurd h List.not_mem_nil)⟩)⟩)⟩)⟩)⟩)⟩)⟩)⟩)⟩)⟩)⟩)⟩)⟩)⟩)⟩)⟩)
def zt_M8 : List (zx_M × Nat × Nat × Nat × Int × Nat) := [((({ cls := "FirstAtTheFirst", name := "opening", desc := "(I)I" } : Jvm.MethodName), prog_1_method_31_code, 2, some .int), (5, 1, 1, 4, 0)),
  ((({ cls := "FirstAtTheFirst", name := "fairest", desc := "(I)I" } : Jvm.MethodName), prog_1_method_32_code, 4, some .int), (5, 1, 1, 4, 0)),
  ((({ cls := "FirstAtTheFirst", name := "findFairest", desc := "(I)I" } : Jvm.MethodName), prog_1_method_64_code, 7, some .int), (5, 1, 1, 4, 0)),
  ((({ cls := "FirstAtTheFirst", name := "spellOrder", desc := "(II)Z" } : Jvm.MethodName), prog_1_method_65_code, 10, some .boolean), (5, 1, 2, 4, 1)),
  ((({ cls := "FirstAtTheFirst$Mind", name := "expectRow", desc := "([II)V" } : Jvm.MethodName), prog_3_method_5_code, 5, none), (2, 1, 2, 1, 6)),
  ((({ cls := "FirstAtTheFirst", name := "best", desc := "()I" } : Jvm.MethodName), prog_1_method_33_code, 5, some .int), (5, 1, 0, 4, 0)),
  ((({ cls := "FirstAtTheFirst", name := "sham", desc := "(II)I" } : Jvm.MethodName), prog_1_method_34_code, 6, some .int), (5, 1, 2, 4, 0)),
  ((({ cls := "FirstAtTheFirst", name := "judge", desc := "(II)I" } : Jvm.MethodName), prog_1_method_35_code, 4, some .int), (5, 1, 2, 4, 0)),
  ((({ cls := "FirstAtTheFirst", name := "bookTrouble", desc := "(III)I" } : Jvm.MethodName), prog_1_method_69_code, 5, some .int), (5, 1, 3, 4, 0)),
  ((({ cls := "FirstAtTheFirst", name := "firstWrong", desc := "(III)I" } : Jvm.MethodName), prog_1_method_70_code, 10, some .int), (5, 1, 3, 4, 0)),
  ((({ cls := "FirstAtTheFirst", name := "stolen", desc := "(II)I" } : Jvm.MethodName), prog_1_method_36_code, 5, some .int), (5, 1, 2, 4, 0)),
  ((({ cls := "FirstAtTheFirst", name := "fits", desc := "(III)I" } : Jvm.MethodName), prog_1_method_37_code, 11, some .int), (5, 1, 3, 4, 0)),
  ((({ cls := "FirstAtTheFirst$Mind", name := "bentsTaking", desc := "(III)I" } : Jvm.MethodName), prog_3_method_15_code, 6, some .int), (2, 1, 3, 1, 0)),
  ((({ cls := "FirstAtTheFirst", name := "books", desc := "(II)I" } : Jvm.MethodName), prog_1_method_38_code, 5, some .int), (5, 1, 2, 4, 0)),
  ((({ cls := "FirstAtTheFirst$Estate", name := "takeInTruth", desc := "(I)V" } : Jvm.MethodName), prog_2_method_14_code, 2, none), (1, 1, 1, 0, 6)),
  ((({ cls := "FirstAtTheFirst", name := "trades", desc := "(I)I" } : Jvm.MethodName), prog_1_method_39_code, 8, some .int), (5, 1, 1, 4, 0))]
theorem zt_m128 : zt_mp ((({ cls := "FirstAtTheFirst", name := "opening", desc := "(I)I" } : Jvm.MethodName), prog_1_method_31_code, 2, some .int), (5, 1, 1, 4, 0)) := ⟨(fun _ => ⟨zw_722, zt_c5.1, by decide, zt_c5.2.1, zt_c5.2.2.1, zt_c5.2.2.2, zd_3⟩), rfl, rfl, (fun _ => ⟨zw_720, zw_721, (Or.inr ⟨4, zt_T4, 14, rfl, by decide, rfl⟩)⟩), (fun e => absurd e (by decide)), (fun e => absurd e (by decide))⟩
theorem zt_m129 : zt_mp ((({ cls := "FirstAtTheFirst", name := "fairest", desc := "(I)I" } : Jvm.MethodName), prog_1_method_32_code, 4, some .int), (5, 1, 1, 4, 0)) := ⟨(fun _ => ⟨zw_726, zt_c5.1, by decide, zt_c5.2.1, zt_c5.2.2.1, zt_c5.2.2.2, zd_3⟩), rfl, rfl, (fun _ => ⟨zw_724, zw_725, (Or.inr ⟨4, zt_T4, 14, rfl, by decide, rfl⟩)⟩), (fun e => absurd e (by decide)), (fun e => absurd e (by decide))⟩
theorem zt_m130 : zt_mp ((({ cls := "FirstAtTheFirst", name := "findFairest", desc := "(I)I" } : Jvm.MethodName), prog_1_method_64_code, 7, some .int), (5, 1, 1, 4, 0)) := ⟨(fun _ => ⟨zw_730, zt_c5.1, by decide, zt_c5.2.1, zt_c5.2.2.1, zt_c5.2.2.2, zd_3⟩), rfl, rfl, (fun _ => ⟨zw_729, (zt_insel (zt_p2 (zs4 (zs4 (zs1 (List.Mem.head _)))))), (Or.inr ⟨4, zt_T4, 14, rfl, by decide, rfl⟩)⟩), (fun e => absurd e (by decide)), (fun e => absurd e (by decide))⟩
theorem zt_m131 : zt_mp ((({ cls := "FirstAtTheFirst", name := "spellOrder", desc := "(II)Z" } : Jvm.MethodName), prog_1_method_65_code, 10, some .boolean), (5, 1, 2, 4, 1)) := ⟨(fun _ => ⟨zw_739, zt_c5.1, by decide, zt_c5.2.1, zt_c5.2.2.1, zt_c5.2.2.2, zd_15⟩), rfl, rfl, (fun _ => ⟨zw_738, (zt_insel (zt_p2 (zs4 (zs4 (zs1 (zs1 (List.Mem.head _))))))), (Or.inr ⟨4, zt_T4, 14, rfl, by decide, rfl⟩)⟩), (fun e => absurd e (by decide)), (fun e => absurd e (by decide))⟩
theorem zt_m132 : zt_mp ((({ cls := "FirstAtTheFirst$Mind", name := "expectRow", desc := "([II)V" } : Jvm.MethodName), prog_3_method_5_code, 5, none), (2, 1, 2, 1, 6)) := ⟨(fun _ => ⟨zw_746, zt_c2.1, by decide, zt_c2.2.1, zt_c2.2.2.1, zt_c2.2.2.2, zd_34⟩), rfl, rfl, (fun _ => ⟨zw_744, zw_745, (Or.inr ⟨1, zt_T1, 9, rfl, by decide, rfl⟩)⟩), (fun e => absurd e (by decide)), (fun e => absurd e (by decide))⟩
theorem zt_m133 : zt_mp ((({ cls := "FirstAtTheFirst", name := "best", desc := "()I" } : Jvm.MethodName), prog_1_method_33_code, 5, some .int), (5, 1, 0, 4, 0)) := ⟨(fun _ => ⟨zw_751, zt_c5.1, by decide, zt_c5.2.1, zt_c5.2.2.1, zt_c5.2.2.2, zd_21⟩), rfl, rfl, (fun _ => ⟨zw_749, zw_750, (Or.inr ⟨4, zt_T4, 14, rfl, by decide, rfl⟩)⟩), (fun e => absurd e (by decide)), (fun e => absurd e (by decide))⟩
theorem zt_m134 : zt_mp ((({ cls := "FirstAtTheFirst", name := "sham", desc := "(II)I" } : Jvm.MethodName), prog_1_method_34_code, 6, some .int), (5, 1, 2, 4, 0)) := ⟨(fun _ => ⟨zw_755, zt_c5.1, by decide, zt_c5.2.1, zt_c5.2.2.1, zt_c5.2.2.2, zd_11⟩), rfl, rfl, (fun _ => ⟨zw_753, zw_754, (Or.inr ⟨4, zt_T4, 14, rfl, by decide, rfl⟩)⟩), (fun e => absurd e (by decide)), (fun e => absurd e (by decide))⟩
theorem zt_m135 : zt_mp ((({ cls := "FirstAtTheFirst", name := "judge", desc := "(II)I" } : Jvm.MethodName), prog_1_method_35_code, 4, some .int), (5, 1, 2, 4, 0)) := ⟨(fun _ => ⟨zw_760, zt_c5.1, by decide, zt_c5.2.1, zt_c5.2.2.1, zt_c5.2.2.2, zd_11⟩), rfl, rfl, (fun _ => ⟨zw_758, zw_759, (Or.inr ⟨4, zt_T4, 14, rfl, by decide, rfl⟩)⟩), (fun e => absurd e (by decide)), (fun e => absurd e (by decide))⟩
theorem zt_m136 : zt_mp ((({ cls := "FirstAtTheFirst", name := "bookTrouble", desc := "(III)I" } : Jvm.MethodName), prog_1_method_69_code, 5, some .int), (5, 1, 3, 4, 0)) := ⟨(fun _ => ⟨zw_764, zt_c5.1, by decide, zt_c5.2.1, zt_c5.2.2.1, zt_c5.2.2.2, zd_1⟩), rfl, rfl, (fun _ => ⟨zw_763, (zt_insel (zt_p2 (zs4 (zs4 (zs1 (zs1 (zs1 (List.Mem.head _)))))))), (Or.inr ⟨4, zt_T4, 14, rfl, by decide, rfl⟩)⟩), (fun e => absurd e (by decide)), (fun e => absurd e (by decide))⟩
theorem zt_m137 : zt_mp ((({ cls := "FirstAtTheFirst", name := "firstWrong", desc := "(III)I" } : Jvm.MethodName), prog_1_method_70_code, 10, some .int), (5, 1, 3, 4, 0)) := ⟨(fun _ => ⟨zw_768, zt_c5.1, by decide, zt_c5.2.1, zt_c5.2.2.1, zt_c5.2.2.2, zd_1⟩), rfl, rfl, (fun _ => ⟨zw_767, (zt_insel (zt_p2 (zs4 (zs4 (zs4 (List.Mem.head _)))))), (Or.inr ⟨4, zt_T4, 14, rfl, by decide, rfl⟩)⟩), (fun e => absurd e (by decide)), (fun e => absurd e (by decide))⟩
theorem zt_m138 : zt_mp ((({ cls := "FirstAtTheFirst", name := "stolen", desc := "(II)I" } : Jvm.MethodName), prog_1_method_36_code, 5, some .int), (5, 1, 2, 4, 0)) := ⟨(fun _ => ⟨zw_774, zt_c5.1, by decide, zt_c5.2.1, zt_c5.2.2.1, zt_c5.2.2.2, zd_11⟩), rfl, rfl, (fun _ => ⟨zw_772, zw_773, (Or.inr ⟨4, zt_T4, 14, rfl, by decide, rfl⟩)⟩), (fun e => absurd e (by decide)), (fun e => absurd e (by decide))⟩
theorem zt_m139 : zt_mp ((({ cls := "FirstAtTheFirst", name := "fits", desc := "(III)I" } : Jvm.MethodName), prog_1_method_37_code, 11, some .int), (5, 1, 3, 4, 0)) := ⟨(fun _ => ⟨zw_778, zt_c5.1, by decide, zt_c5.2.1, zt_c5.2.2.1, zt_c5.2.2.2, zd_1⟩), rfl, rfl, (fun _ => ⟨zw_776, zw_777, (Or.inr ⟨4, zt_T4, 14, rfl, by decide, rfl⟩)⟩), (fun e => absurd e (by decide)), (fun e => absurd e (by decide))⟩
theorem zt_m140 : zt_mp ((({ cls := "FirstAtTheFirst$Mind", name := "bentsTaking", desc := "(III)I" } : Jvm.MethodName), prog_3_method_15_code, 6, some .int), (2, 1, 3, 1, 0)) := ⟨(fun _ => ⟨zw_782, zt_c2.1, by decide, zt_c2.2.1, zt_c2.2.2.1, zt_c2.2.2.2, zd_1⟩), rfl, rfl, (fun _ => ⟨zw_780, zw_781, (Or.inr ⟨1, zt_T1, 9, rfl, by decide, rfl⟩)⟩), (fun e => absurd e (by decide)), (fun e => absurd e (by decide))⟩
theorem zt_m141 : zt_mp ((({ cls := "FirstAtTheFirst", name := "books", desc := "(II)I" } : Jvm.MethodName), prog_1_method_38_code, 5, some .int), (5, 1, 2, 4, 0)) := ⟨(fun _ => ⟨zw_787, zt_c5.1, by decide, zt_c5.2.1, zt_c5.2.2.1, zt_c5.2.2.2, zd_11⟩), rfl, rfl, (fun _ => ⟨zw_785, zw_786, (Or.inr ⟨4, zt_T4, 14, rfl, by decide, rfl⟩)⟩), (fun e => absurd e (by decide)), (fun e => absurd e (by decide))⟩
theorem zt_m142 : zt_mp ((({ cls := "FirstAtTheFirst$Estate", name := "takeInTruth", desc := "(I)V" } : Jvm.MethodName), prog_2_method_14_code, 2, none), (1, 1, 1, 0, 6)) := ⟨(fun _ => ⟨zw_791, zt_c1.1, by decide, zt_c1.2.1, zt_c1.2.2.1, zt_c1.2.2.2, zd_14⟩), rfl, rfl, (fun _ => ⟨zw_789, zw_790, (Or.inr ⟨0, zt_T0, 10, rfl, by decide, rfl⟩)⟩), (fun e => absurd e (by decide)), (fun e => absurd e (by decide))⟩
theorem zt_m143 : zt_mp ((({ cls := "FirstAtTheFirst", name := "trades", desc := "(I)I" } : Jvm.MethodName), prog_1_method_39_code, 8, some .int), (5, 1, 1, 4, 0)) := ⟨(fun _ => ⟨zw_796, zt_c5.1, by decide, zt_c5.2.1, zt_c5.2.2.1, zt_c5.2.2.2, zd_3⟩), rfl, rfl, (fun _ => ⟨zw_794, zw_795, (Or.inr ⟨4, zt_T4, 14, rfl, by decide, rfl⟩)⟩), (fun e => absurd e (by decide)), (fun e => absurd e (by decide))⟩
theorem zt_mm8 : ∀ q ∈ zt_M8, zt_mp q := (List.forall_mem_cons.mpr ⟨zt_m128, (List.forall_mem_cons.mpr ⟨zt_m129, (List.forall_mem_cons.mpr ⟨zt_m130, (List.forall_mem_cons.mpr ⟨zt_m131, (List.forall_mem_cons.mpr ⟨zt_m132, (List.forall_mem_cons.mpr ⟨zt_m133, (List.forall_mem_cons.mpr ⟨zt_m134, (List.forall_mem_cons.mpr ⟨zt_m135, (List.forall_mem_cons.mpr ⟨zt_m136, (List.forall_mem_cons.mpr ⟨zt_m137, (List.forall_mem_cons.mpr ⟨zt_m138, (List.forall_mem_cons.mpr ⟨zt_m139, (List.forall_mem_cons.mpr ⟨zt_m140, (List.forall_mem_cons.mpr ⟨zt_m141, (List.forall_mem_cons.mpr ⟨zt_m142, (List.forall_mem_cons.mpr ⟨zt_m143, (fun _ h => absurd h List.not_mem_nil)⟩)⟩)⟩)⟩)⟩)⟩)⟩)⟩)⟩)⟩)⟩)⟩)⟩)⟩)⟩)⟩)
def zt_M9 : List (zx_M × Nat × Nat × Nat × Int × Nat) := [((({ cls := "FirstAtTheFirst$Estate", name := "gainOfTrade", desc := "(II)I" } : Jvm.MethodName), prog_2_method_15_code, 7, some .int), (1, 1, 2, 0, 0)),
  ((({ cls := "FirstAtTheFirst", name := "swap", desc := "(II)I" } : Jvm.MethodName), prog_1_method_40_code, 5, some .int), (5, 1, 2, 4, 0)),
  ((({ cls := "FirstAtTheFirst", name := "pick", desc := "(I)I" } : Jvm.MethodName), prog_1_method_41_code, 2, some .int), (5, 1, 1, 4, 0)),
  ((({ cls := "FirstAtTheFirst", name := "goes", desc := "(I)I" } : Jvm.MethodName), prog_1_method_42_code, 4, some .int), (5, 1, 1, 4, 0)),
  ((({ cls := "FirstAtTheFirst", name := "again", desc := "()I" } : Jvm.MethodName), prog_1_method_43_code, 3, some .int), (5, 1, 0, 4, 0)),
  ((({ cls := "FirstAtTheFirst", name := "deal", desc := "(I)I" } : Jvm.MethodName), prog_1_method_44_code, 7, some .int), (5, 1, 1, 4, 0)),
  ((({ cls := "FirstAtTheFirst$Estate", name := "draw", desc := "(I)I" } : Jvm.MethodName), prog_2_method_16_code, 2, some .int), (1, 1, 1, 0, 0)),
  ((({ cls := "FirstAtTheFirst", name := "seed", desc := "(I)I" } : Jvm.MethodName), prog_1_method_45_code, 3, some .int), (5, 1, 1, 4, 0)),
  ((({ cls := "FirstAtTheFirst", name := "image", desc := "()I" } : Jvm.MethodName), prog_1_method_46_code, 1, some .int), (5, 1, 0, 4, 0)),
  ((({ cls := "FirstAtTheFirst", name := "back", desc := "()I" } : Jvm.MethodName), prog_1_method_47_code, 1, some .int), (5, 1, 0, 4, 0)),
  ((({ cls := "FirstAtTheFirst", name := "status", desc := "(I)I" } : Jvm.MethodName), prog_1_method_48_code, 2, some .int), (5, 1, 1, 4, 0)),
  ((({ cls := "FirstAtTheFirst", name := "spreadNow", desc := "()I" } : Jvm.MethodName), prog_1_method_68_code, 2, some .int), (5, 1, 0, 4, 0)),
  ((({ cls := "FirstAtTheFirst$Shelves", name := "countHeld", desc := "()I" } : Jvm.MethodName), prog_4_method_8_code, 3, some .int), (3, 1, 0, 2, 0)),
  ((({ cls := "FirstAtTheFirstModel", name := "<init>", desc := "()V" } : Jvm.MethodName), prog_7_method_1_code, 1, none), (6, 2, 0, 100, 6)),
  ((({ cls := "FirstAtTheFirstModel", name := "row", desc := "(III)I" } : Jvm.MethodName), prog_7_method_9_code, 5, some .int), (6, 1, 3, 5, 0)),
  ((({ cls := "FirstAtTheFirstModel", name := "in", desc := "(JJJ)Z" } : Jvm.MethodName), prog_7_method_3_code, 6, some .boolean), (6, 0, 3, -1, 1))]
theorem zt_m144 : zt_mp ((({ cls := "FirstAtTheFirst$Estate", name := "gainOfTrade", desc := "(II)I" } : Jvm.MethodName), prog_2_method_15_code, 7, some .int), (1, 1, 2, 0, 0)) := ⟨(fun _ => ⟨zw_800, zt_c1.1, by decide, zt_c1.2.1, zt_c1.2.2.1, zt_c1.2.2.2, zd_11⟩), rfl, rfl, (fun _ => ⟨zw_798, zw_799, (Or.inr ⟨0, zt_T0, 10, rfl, by decide, rfl⟩)⟩), (fun e => absurd e (by decide)), (fun e => absurd e (by decide))⟩
theorem zt_m145 : zt_mp ((({ cls := "FirstAtTheFirst", name := "swap", desc := "(II)I" } : Jvm.MethodName), prog_1_method_40_code, 5, some .int), (5, 1, 2, 4, 0)) := ⟨(fun _ => ⟨zw_805, zt_c5.1, by decide, zt_c5.2.1, zt_c5.2.2.1, zt_c5.2.2.2, zd_11⟩), rfl, rfl, (fun _ => ⟨zw_803, zw_804, (Or.inr ⟨4, zt_T4, 14, rfl, by decide, rfl⟩)⟩), (fun e => absurd e (by decide)), (fun e => absurd e (by decide))⟩
theorem zt_m146 : zt_mp ((({ cls := "FirstAtTheFirst", name := "pick", desc := "(I)I" } : Jvm.MethodName), prog_1_method_41_code, 2, some .int), (5, 1, 1, 4, 0)) := ⟨(fun _ => ⟨zw_809, zt_c5.1, by decide, zt_c5.2.1, zt_c5.2.2.1, zt_c5.2.2.2, zd_3⟩), rfl, rfl, (fun _ => ⟨zw_807, zw_808, (Or.inr ⟨4, zt_T4, 14, rfl, by decide, rfl⟩)⟩), (fun e => absurd e (by decide)), (fun e => absurd e (by decide))⟩
theorem zt_m147 : zt_mp ((({ cls := "FirstAtTheFirst", name := "goes", desc := "(I)I" } : Jvm.MethodName), prog_1_method_42_code, 4, some .int), (5, 1, 1, 4, 0)) := ⟨(fun _ => ⟨zw_813, zt_c5.1, by decide, zt_c5.2.1, zt_c5.2.2.1, zt_c5.2.2.2, zd_3⟩), rfl, rfl, (fun _ => ⟨zw_811, zw_812, (Or.inr ⟨4, zt_T4, 14, rfl, by decide, rfl⟩)⟩), (fun e => absurd e (by decide)), (fun e => absurd e (by decide))⟩
theorem zt_m148 : zt_mp ((({ cls := "FirstAtTheFirst", name := "again", desc := "()I" } : Jvm.MethodName), prog_1_method_43_code, 3, some .int), (5, 1, 0, 4, 0)) := ⟨(fun _ => ⟨zw_817, zt_c5.1, by decide, zt_c5.2.1, zt_c5.2.2.1, zt_c5.2.2.2, zd_21⟩), rfl, rfl, (fun _ => ⟨zw_815, zw_816, (Or.inr ⟨4, zt_T4, 14, rfl, by decide, rfl⟩)⟩), (fun e => absurd e (by decide)), (fun e => absurd e (by decide))⟩
theorem zt_m149 : zt_mp ((({ cls := "FirstAtTheFirst", name := "deal", desc := "(I)I" } : Jvm.MethodName), prog_1_method_44_code, 7, some .int), (5, 1, 1, 4, 0)) := ⟨(fun _ => ⟨zw_821, zt_c5.1, by decide, zt_c5.2.1, zt_c5.2.2.1, zt_c5.2.2.2, zd_3⟩), rfl, rfl, (fun _ => ⟨zw_819, zw_820, (Or.inr ⟨4, zt_T4, 14, rfl, by decide, rfl⟩)⟩), (fun e => absurd e (by decide)), (fun e => absurd e (by decide))⟩
theorem zt_m150 : zt_mp ((({ cls := "FirstAtTheFirst$Estate", name := "draw", desc := "(I)I" } : Jvm.MethodName), prog_2_method_16_code, 2, some .int), (1, 1, 1, 0, 0)) := ⟨(fun _ => ⟨zw_825, zt_c1.1, by decide, zt_c1.2.1, zt_c1.2.2.1, zt_c1.2.2.2, zd_3⟩), rfl, rfl, (fun _ => ⟨zw_823, zw_824, (Or.inr ⟨0, zt_T0, 10, rfl, by decide, rfl⟩)⟩), (fun e => absurd e (by decide)), (fun e => absurd e (by decide))⟩
theorem zt_m151 : zt_mp ((({ cls := "FirstAtTheFirst", name := "seed", desc := "(I)I" } : Jvm.MethodName), prog_1_method_45_code, 3, some .int), (5, 1, 1, 4, 0)) := ⟨(fun _ => ⟨zw_830, zt_c5.1, by decide, zt_c5.2.1, zt_c5.2.2.1, zt_c5.2.2.2, zd_3⟩), rfl, rfl, (fun _ => ⟨zw_828, zw_829, (Or.inr ⟨4, zt_T4, 14, rfl, by decide, rfl⟩)⟩), (fun e => absurd e (by decide)), (fun e => absurd e (by decide))⟩
theorem zt_m152 : zt_mp ((({ cls := "FirstAtTheFirst", name := "image", desc := "()I" } : Jvm.MethodName), prog_1_method_46_code, 1, some .int), (5, 1, 0, 4, 0)) := ⟨(fun _ => ⟨zw_834, zt_c5.1, by decide, zt_c5.2.1, zt_c5.2.2.1, zt_c5.2.2.2, zd_21⟩), rfl, rfl, (fun _ => ⟨zw_832, zw_833, (Or.inr ⟨4, zt_T4, 14, rfl, by decide, rfl⟩)⟩), (fun e => absurd e (by decide)), (fun e => absurd e (by decide))⟩
theorem zt_m153 : zt_mp ((({ cls := "FirstAtTheFirst", name := "back", desc := "()I" } : Jvm.MethodName), prog_1_method_47_code, 1, some .int), (5, 1, 0, 4, 0)) := ⟨(fun _ => ⟨zw_838, zt_c5.1, by decide, zt_c5.2.1, zt_c5.2.2.1, zt_c5.2.2.2, zd_21⟩), rfl, rfl, (fun _ => ⟨zw_836, zw_837, (Or.inr ⟨4, zt_T4, 14, rfl, by decide, rfl⟩)⟩), (fun e => absurd e (by decide)), (fun e => absurd e (by decide))⟩
theorem zt_m154 : zt_mp ((({ cls := "FirstAtTheFirst", name := "status", desc := "(I)I" } : Jvm.MethodName), prog_1_method_48_code, 2, some .int), (5, 1, 1, 4, 0)) := ⟨(fun _ => ⟨zw_842, zt_c5.1, by decide, zt_c5.2.1, zt_c5.2.2.1, zt_c5.2.2.2, zd_3⟩), rfl, rfl, (fun _ => ⟨zw_840, zw_841, (Or.inr ⟨4, zt_T4, 14, rfl, by decide, rfl⟩)⟩), (fun e => absurd e (by decide)), (fun e => absurd e (by decide))⟩
theorem zt_m155 : zt_mp ((({ cls := "FirstAtTheFirst", name := "spreadNow", desc := "()I" } : Jvm.MethodName), prog_1_method_68_code, 2, some .int), (5, 1, 0, 4, 0)) := ⟨(fun _ => ⟨zw_846, zt_c5.1, by decide, zt_c5.2.1, zt_c5.2.2.1, zt_c5.2.2.2, zd_21⟩), rfl, rfl, (fun _ => ⟨zw_845, (zt_insel (zt_p2 (zs4 (zs4 (zs4 (zs1 (List.Mem.head _))))))), (Or.inr ⟨4, zt_T4, 14, rfl, by decide, rfl⟩)⟩), (fun e => absurd e (by decide)), (fun e => absurd e (by decide))⟩
theorem zt_m156 : zt_mp ((({ cls := "FirstAtTheFirst$Shelves", name := "countHeld", desc := "()I" } : Jvm.MethodName), prog_4_method_8_code, 3, some .int), (3, 1, 0, 2, 0)) := ⟨(fun _ => ⟨zw_850, zt_c3.1, by decide, zt_c3.2.1, zt_c3.2.2.1, zt_c3.2.2.2, zd_21⟩), rfl, rfl, (fun _ => ⟨zw_848, zw_849, (Or.inr ⟨2, zt_T2, 4, rfl, by decide, rfl⟩)⟩), (fun e => absurd e (by decide)), (fun e => absurd e (by decide))⟩
theorem zt_m157 : zt_mp ((({ cls := "FirstAtTheFirstModel", name := "<init>", desc := "()V" } : Jvm.MethodName), prog_7_method_1_code, 1, none), (6, 2, 0, 100, 6)) := ⟨(fun _ => ⟨zw_855, zt_c6.1, by decide, zt_c6.2.1, zt_c6.2.2.1, zt_c6.2.2.2, zd_0⟩), rfl, rfl, (fun e => absurd e (by decide)), (fun _ => ⟨zw_854, rfl, rfl⟩), (fun e => absurd e (by decide))⟩
theorem zt_m158 : zt_mp ((({ cls := "FirstAtTheFirstModel", name := "row", desc := "(III)I" } : Jvm.MethodName), prog_7_method_9_code, 5, some .int), (6, 1, 3, 5, 0)) := ⟨(fun _ => ⟨zw_994, zt_c6.1, by decide, zt_c6.2.1, zt_c6.2.2.1, zt_c6.2.2.2, zd_1⟩), rfl, rfl, (fun _ => ⟨zw_992, zw_993, (Or.inr ⟨5, zt_T5, 43, rfl, by decide, rfl⟩)⟩), (fun e => absurd e (by decide)), (fun e => absurd e (by decide))⟩
theorem zt_m159 : zt_mp ((({ cls := "FirstAtTheFirstModel", name := "in", desc := "(JJJ)Z" } : Jvm.MethodName), prog_7_method_3_code, 6, some .boolean), (6, 0, 3, -1, 1)) := ⟨(fun _ => ⟨zw_998, zt_c6.1, by decide, zt_c6.2.1, zt_c6.2.2.1, zt_c6.2.2.2, zd_35⟩), rfl, rfl, (fun e => absurd e (by decide)), (fun e => absurd e (by decide)), (fun _ => zw_997)⟩
theorem zt_mm9 : ∀ q ∈ zt_M9, zt_mp q := (List.forall_mem_cons.mpr ⟨zt_m144, (List.forall_mem_cons.mpr ⟨zt_m145, (List.forall_mem_cons.mpr ⟨zt_m146, (List.forall_mem_cons.mpr ⟨zt_m147, (List.forall_mem_cons.mpr ⟨zt_m148, (List.forall_mem_cons.mpr ⟨zt_m149, (List.forall_mem_cons.mpr ⟨zt_m150, (List.forall_mem_cons.mpr ⟨zt_m151, (List.forall_mem_cons.mpr ⟨zt_m152, (List.forall_mem_cons.mpr ⟨zt_m153, (List.forall_mem_cons.mpr ⟨zt_m154, (List.forall_mem_cons.mpr ⟨zt_m155, (List.forall_mem_cons.mpr ⟨zt_m156, (List.forall_mem_cons.mpr ⟨zt_m157, (List.forall_mem_cons.mpr ⟨zt_m158, (List.forall_mem_cons.mpr ⟨zt_m159, (fun _ h => absurd h List.not_mem_nil)⟩)⟩)⟩)⟩)⟩)⟩)⟩)⟩)⟩)⟩)⟩)⟩)⟩)⟩)⟩)⟩)
def zt_M10 : List (zx_M × Nat × Nat × Nat × Int × Nat) := [((({ cls := "FirstAtTheFirstModel", name := "refuse", desc := "(I)I" } : Jvm.MethodName), prog_7_method_2_code, 2, some .int), (6, 1, 1, 5, 0)),
  ((({ cls := "FirstAtTheFirstModel", name := "set", desc := "(IIJ)I" } : Jvm.MethodName), prog_7_method_12_code, 6, some .int), (6, 1, 3, 5, 0)),
  ((({ cls := "FirstAtTheFirstModel", name := "noRow", desc := "(I)I" } : Jvm.MethodName), prog_7_method_11_code, 2, some .int), (6, 1, 1, 5, 0)),
  ((({ cls := "FirstAtTheFirstModel", name := "fit", desc := "(IJ)J" } : Jvm.MethodName), prog_7_method_10_code, 3, some .long), (6, 0, 2, -1, 4)),
  ((({ cls := "FirstAtTheFirstModel", name := "copy", desc := "(IIIII)I" } : Jvm.MethodName), prog_7_method_13_code, 7, some .int), (6, 1, 5, 5, 0)),
  ((({ cls := "FirstAtTheFirstModel", name := "element", desc := "(II)J" } : Jvm.MethodName), prog_7_method_14_code, 3, some .long), (6, 1, 2, 5, 4)),
  ((({ cls := "FirstAtTheFirstModel", name := "holds", desc := "(I)I" } : Jvm.MethodName), prog_7_method_15_code, 2, some .int), (6, 1, 1, 5, 0)),
  ((({ cls := "FirstAtTheFirstModel", name := "show", desc := "(II)I" } : Jvm.MethodName), prog_7_method_16_code, 3, some .int), (6, 1, 2, 5, 0)),
  ((({ cls := "FirstAtTheFirstModel", name := "isSide", desc := "(I)Z" } : Jvm.MethodName), prog_7_method_4_code, 2, some .boolean), (6, 1, 1, 5, 1)),
  ((({ cls := "FirstAtTheFirstModel", name := "says", desc := "(II)I" } : Jvm.MethodName), prog_7_method_18_code, 3, some .int), (6, 1, 2, 5, 0)),
  ((({ cls := "FirstAtTheFirstModel", name := "isUnder", desc := "(II)Z" } : Jvm.MethodName), prog_7_method_17_code, 2, some .boolean), (6, 0, 2, -1, 1)),
  ((({ cls := "FirstAtTheFirstModel", name := "begin", desc := "(I)V" } : Jvm.MethodName), prog_7_method_51_code, 2, none), (6, 1, 1, 5, 6)),
  ((({ cls := "FirstAtTheFirstModel", name := "left", desc := "()I" } : Jvm.MethodName), prog_7_method_6_code, 3, some .int), (6, 1, 0, 5, 0)),
  ((({ cls := "FirstAtTheFirstModel", name := "takenBy", desc := "(IIIII)I" } : Jvm.MethodName), prog_7_method_59_code, 7, some .int), (6, 1, 5, 5, 0)),
  ((({ cls := "FirstAtTheFirstModel", name := "has", desc := "(II)Z" } : Jvm.MethodName), prog_7_method_8_code, 2, some .boolean), (6, 0, 2, -1, 1)),
  ((({ cls := "FirstAtTheFirstModel", name := "looking", desc := "(III)I" } : Jvm.MethodName), prog_7_method_60_code, 8, some .int), (6, 1, 3, 5, 0))]
theorem zt_m160 : zt_mp ((({ cls := "FirstAtTheFirstModel", name := "refuse", desc := "(I)I" } : Jvm.MethodName), prog_7_method_2_code, 2, some .int), (6, 1, 1, 5, 0)) := ⟨(fun _ => ⟨zw_1004, zt_c6.1, by decide, zt_c6.2.1, zt_c6.2.2.1, zt_c6.2.2.2, zd_3⟩), rfl, rfl, (fun _ => ⟨zw_1003, (zt_insel (zt_p2 (zs4 (zs4 (zs4 (zs1 (zs1 (List.Mem.head _)))))))), (Or.inr ⟨5, zt_T5, 43, rfl, by decide, rfl⟩)⟩), (fun e => absurd e (by decide)), (fun e => absurd e (by decide))⟩
theorem zt_m161 : zt_mp ((({ cls := "FirstAtTheFirstModel", name := "set", desc := "(IIJ)I" } : Jvm.MethodName), prog_7_method_12_code, 6, some .int), (6, 1, 3, 5, 0)) := ⟨(fun _ => ⟨zw_1008, zt_c6.1, by decide, zt_c6.2.1, zt_c6.2.2.1, zt_c6.2.2.2, zd_9⟩), rfl, rfl, (fun _ => ⟨zw_1006, zw_1007, (Or.inr ⟨5, zt_T5, 43, rfl, by decide, rfl⟩)⟩), (fun e => absurd e (by decide)), (fun e => absurd e (by decide))⟩
theorem zt_m162 : zt_mp ((({ cls := "FirstAtTheFirstModel", name := "noRow", desc := "(I)I" } : Jvm.MethodName), prog_7_method_11_code, 2, some .int), (6, 1, 1, 5, 0)) := ⟨(fun _ => ⟨zw_1012, zt_c6.1, by decide, zt_c6.2.1, zt_c6.2.2.1, zt_c6.2.2.2, zd_3⟩), rfl, rfl, (fun _ => ⟨zw_1011, (zt_insel (zt_p2 (zs4 (zs4 (zs4 (zs1 (zs1 (zs1 (List.Mem.head _))))))))), (Or.inr ⟨5, zt_T5, 43, rfl, by decide, rfl⟩)⟩), (fun e => absurd e (by decide)), (fun e => absurd e (by decide))⟩
theorem zt_m163 : zt_mp ((({ cls := "FirstAtTheFirstModel", name := "fit", desc := "(IJ)J" } : Jvm.MethodName), prog_7_method_10_code, 3, some .long), (6, 0, 2, -1, 4)) := ⟨(fun _ => ⟨zw_1015, zt_c6.1, by decide, zt_c6.2.1, zt_c6.2.2.1, zt_c6.2.2.2, zd_8⟩), rfl, rfl, (fun e => absurd e (by decide)), (fun e => absurd e (by decide)), (fun _ => zw_1014)⟩
theorem zt_m164 : zt_mp ((({ cls := "FirstAtTheFirstModel", name := "copy", desc := "(IIIII)I" } : Jvm.MethodName), prog_7_method_13_code, 7, some .int), (6, 1, 5, 5, 0)) := ⟨(fun _ => ⟨zw_1019, zt_c6.1, by decide, zt_c6.2.1, zt_c6.2.2.1, zt_c6.2.2.2, zd_10⟩), rfl, rfl, (fun _ => ⟨zw_1017, zw_1018, (Or.inr ⟨5, zt_T5, 43, rfl, by decide, rfl⟩)⟩), (fun e => absurd e (by decide)), (fun e => absurd e (by decide))⟩
theorem zt_m165 : zt_mp ((({ cls := "FirstAtTheFirstModel", name := "element", desc := "(II)J" } : Jvm.MethodName), prog_7_method_14_code, 3, some .long), (6, 1, 2, 5, 4)) := ⟨(fun _ => ⟨zw_1023, zt_c6.1, by decide, zt_c6.2.1, zt_c6.2.2.1, zt_c6.2.2.2, zd_13⟩), rfl, rfl, (fun _ => ⟨zw_1021, zw_1022, (Or.inr ⟨5, zt_T5, 43, rfl, by decide, rfl⟩)⟩), (fun e => absurd e (by decide)), (fun e => absurd e (by decide))⟩
theorem zt_m166 : zt_mp ((({ cls := "FirstAtTheFirstModel", name := "holds", desc := "(I)I" } : Jvm.MethodName), prog_7_method_15_code, 2, some .int), (6, 1, 1, 5, 0)) := ⟨(fun _ => ⟨zw_1027, zt_c6.1, by decide, zt_c6.2.1, zt_c6.2.2.1, zt_c6.2.2.2, zd_3⟩), rfl, rfl, (fun _ => ⟨zw_1025, zw_1026, (Or.inr ⟨5, zt_T5, 43, rfl, by decide, rfl⟩)⟩), (fun e => absurd e (by decide)), (fun e => absurd e (by decide))⟩
theorem zt_m167 : zt_mp ((({ cls := "FirstAtTheFirstModel", name := "show", desc := "(II)I" } : Jvm.MethodName), prog_7_method_16_code, 3, some .int), (6, 1, 2, 5, 0)) := ⟨(fun _ => ⟨zw_1031, zt_c6.1, by decide, zt_c6.2.1, zt_c6.2.2.1, zt_c6.2.2.2, zd_11⟩), rfl, rfl, (fun _ => ⟨zw_1029, zw_1030, (Or.inr ⟨5, zt_T5, 43, rfl, by decide, rfl⟩)⟩), (fun e => absurd e (by decide)), (fun e => absurd e (by decide))⟩
theorem zt_m168 : zt_mp ((({ cls := "FirstAtTheFirstModel", name := "isSide", desc := "(I)Z" } : Jvm.MethodName), prog_7_method_4_code, 2, some .boolean), (6, 1, 1, 5, 1)) := ⟨(fun _ => ⟨zw_1035, zt_c6.1, by decide, zt_c6.2.1, zt_c6.2.2.1, zt_c6.2.2.2, zd_2⟩), rfl, rfl, (fun _ => ⟨zw_1034, (zt_insel (zt_p3 (List.Mem.head _))), (Or.inr ⟨5, zt_T5, 43, rfl, by decide, rfl⟩)⟩), (fun e => absurd e (by decide)), (fun e => absurd e (by decide))⟩
theorem zt_m169 : zt_mp ((({ cls := "FirstAtTheFirstModel", name := "says", desc := "(II)I" } : Jvm.MethodName), prog_7_method_18_code, 3, some .int), (6, 1, 2, 5, 0)) := ⟨(fun _ => ⟨zw_1039, zt_c6.1, by decide, zt_c6.2.1, zt_c6.2.2.1, zt_c6.2.2.2, zd_11⟩), rfl, rfl, (fun _ => ⟨zw_1037, zw_1038, (Or.inr ⟨5, zt_T5, 43, rfl, by decide, rfl⟩)⟩), (fun e => absurd e (by decide)), (fun e => absurd e (by decide))⟩
theorem zt_m170 : zt_mp ((({ cls := "FirstAtTheFirstModel", name := "isUnder", desc := "(II)Z" } : Jvm.MethodName), prog_7_method_17_code, 2, some .boolean), (6, 0, 2, -1, 1)) := ⟨(fun _ => ⟨zw_1043, zt_c6.1, by decide, zt_c6.2.1, zt_c6.2.2.1, zt_c6.2.2.2, zd_15⟩), rfl, rfl, (fun e => absurd e (by decide)), (fun e => absurd e (by decide)), (fun _ => zw_1042)⟩
theorem zt_m171 : zt_mp ((({ cls := "FirstAtTheFirstModel", name := "begin", desc := "(I)V" } : Jvm.MethodName), prog_7_method_51_code, 2, none), (6, 1, 1, 5, 6)) := ⟨(fun _ => ⟨zw_1047, zt_c6.1, by decide, zt_c6.2.1, zt_c6.2.2.1, zt_c6.2.2.2, zd_14⟩), rfl, rfl, (fun _ => ⟨zw_1046, (zt_insel (zt_p3 (zs1 (List.Mem.head _)))), (Or.inr ⟨5, zt_T5, 43, rfl, by decide, rfl⟩)⟩), (fun e => absurd e (by decide)), (fun e => absurd e (by decide))⟩
theorem zt_m172 : zt_mp ((({ cls := "FirstAtTheFirstModel", name := "left", desc := "()I" } : Jvm.MethodName), prog_7_method_6_code, 3, some .int), (6, 1, 0, 5, 0)) := ⟨(fun _ => ⟨zw_1051, zt_c6.1, by decide, zt_c6.2.1, zt_c6.2.2.1, zt_c6.2.2.2, zd_21⟩), rfl, rfl, (fun _ => ⟨zw_1050, (zt_insel (zt_p3 (zs1 (zs1 (List.Mem.head _))))), (Or.inr ⟨5, zt_T5, 43, rfl, by decide, rfl⟩)⟩), (fun e => absurd e (by decide)), (fun e => absurd e (by decide))⟩
theorem zt_m173 : zt_mp ((({ cls := "FirstAtTheFirstModel", name := "takenBy", desc := "(IIIII)I" } : Jvm.MethodName), prog_7_method_59_code, 7, some .int), (6, 1, 5, 5, 0)) := ⟨(fun _ => ⟨zw_1055, zt_c6.1, by decide, zt_c6.2.1, zt_c6.2.2.1, zt_c6.2.2.2, zd_10⟩), rfl, rfl, (fun _ => ⟨zw_1054, (zt_insel (zt_p3 (zs1 (zs1 (zs1 (List.Mem.head _)))))), (Or.inr ⟨5, zt_T5, 43, rfl, by decide, rfl⟩)⟩), (fun e => absurd e (by decide)), (fun e => absurd e (by decide))⟩
theorem zt_m174 : zt_mp ((({ cls := "FirstAtTheFirstModel", name := "has", desc := "(II)Z" } : Jvm.MethodName), prog_7_method_8_code, 2, some .boolean), (6, 0, 2, -1, 1)) := ⟨(fun _ => ⟨zw_1058, zt_c6.1, by decide, zt_c6.2.1, zt_c6.2.2.1, zt_c6.2.2.2, zd_15⟩), rfl, rfl, (fun e => absurd e (by decide)), (fun e => absurd e (by decide)), (fun _ => zw_1057)⟩
theorem zt_m175 : zt_mp ((({ cls := "FirstAtTheFirstModel", name := "looking", desc := "(III)I" } : Jvm.MethodName), prog_7_method_60_code, 8, some .int), (6, 1, 3, 5, 0)) := ⟨(fun _ => ⟨zw_1062, zt_c6.1, by decide, zt_c6.2.1, zt_c6.2.2.1, zt_c6.2.2.2, zd_1⟩), rfl, rfl, (fun _ => ⟨zw_1061, (zt_insel (zt_p3 (zs4 (List.Mem.head _)))), (Or.inr ⟨5, zt_T5, 43, rfl, by decide, rfl⟩)⟩), (fun e => absurd e (by decide)), (fun e => absurd e (by decide))⟩
theorem zt_mm10 : ∀ q ∈ zt_M10, zt_mp q := (List.forall_mem_cons.mpr ⟨zt_m160, (List.forall_mem_cons.mpr ⟨zt_m161, (List.forall_mem_cons.mpr ⟨zt_m162, (List.forall_mem_cons.mpr ⟨zt_m163, (List.forall_mem_cons.mpr ⟨zt_m164, (List.forall_mem_cons.mpr ⟨zt_m165, (List.forall_mem_cons.mpr ⟨zt_m166, (List.forall_mem_cons.mpr ⟨zt_m167, (List.forall_mem_cons.mpr ⟨zt_m168, (List.forall_mem_cons.mpr ⟨zt_m169, (List.forall_mem_cons.mpr ⟨zt_m170, (List.forall_mem_cons.mpr ⟨zt_m171, (List.forall_mem_cons.mpr ⟨zt_m172, (List.forall_mem_cons.mpr ⟨zt_m173, (List.forall_mem_cons.mpr ⟨zt_m174, (List.forall_mem_cons.mpr ⟨zt_m175, (fun _ h => absurd h List.not_mem_nil)⟩)⟩)⟩)⟩)⟩)⟩)⟩)⟩)⟩)⟩)⟩)⟩)⟩)⟩)⟩)⟩)
def zt_M11 : List (zx_M × Nat × Nat × Nat × Int × Nat) := [((({ cls := "FirstAtTheFirstModel", name := "looked", desc := "(III)I" } : Jvm.MethodName), prog_7_method_61_code, 6, some .int), (6, 1, 3, 5, 0)),
  ((({ cls := "FirstAtTheFirstModel", name := "whoseNow", desc := "(I)I" } : Jvm.MethodName), prog_7_method_52_code, 2, some .int), (6, 1, 1, 5, 0)),
  ((({ cls := "FirstAtTheFirstModel", name := "whoseBy", desc := "(II)I" } : Jvm.MethodName), prog_7_method_47_code, 5, some .int), (6, 1, 2, 5, 0)),
  ((({ cls := "FirstAtTheFirstModel", name := "rivalOf", desc := "(II)I" } : Jvm.MethodName), prog_7_method_53_code, 5, some .int), (6, 1, 2, 5, 0)),
  ((({ cls := "FirstAtTheFirstModel", name := "bestOf", desc := "(III)I" } : Jvm.MethodName), prog_7_method_56_code, 6, some .int), (6, 1, 3, 5, 0)),
  ((({ cls := "FirstAtTheFirstModel", name := "seenBy", desc := "(III)I" } : Jvm.MethodName), prog_7_method_55_code, 4, some .int), (6, 1, 3, 5, 0)),
  ((({ cls := "FirstAtTheFirstModel", name := "spoiling", desc := "(IIII)I" } : Jvm.MethodName), prog_7_method_57_code, 9, some .int), (6, 1, 4, 5, 0)),
  ((({ cls := "FirstAtTheFirstModel", name := "bits", desc := "(I)I" } : Jvm.MethodName), prog_7_method_7_code, 3, some .int), (6, 0, 1, -1, 0)),
  ((({ cls := "FirstAtTheFirstModel", name := "leastOf", desc := "(IIII)I" } : Jvm.MethodName), prog_7_method_58_code, 7, some .int), (6, 1, 4, 5, 0)),
  ((({ cls := "FirstAtTheFirstModel", name := "sides", desc := "(I)I" } : Jvm.MethodName), prog_7_method_20_code, 3, some .int), (6, 1, 1, 5, 0)),
  ((({ cls := "FirstAtTheFirstModel", name := "becomeSides", desc := "(I)V" } : Jvm.MethodName), prog_7_method_19_code, 3, none), (6, 1, 1, 5, 6)),
  ((({ cls := "FirstAtTheFirstModel", name := "thing", desc := "(III)I" } : Jvm.MethodName), prog_7_method_22_code, 4, some .int), (6, 1, 3, 5, 0)),
  ((({ cls := "FirstAtTheFirstModel", name := "addThing", desc := "(III)V" } : Jvm.MethodName), prog_7_method_21_code, 4, none), (6, 1, 3, 5, 6)),
  ((({ cls := "FirstAtTheFirstModel", name := "worth", desc := "(III)I" } : Jvm.MethodName), prog_7_method_23_code, 5, some .int), (6, 1, 3, 5, 0)),
  ((({ cls := "FirstAtTheFirstModel", name := "isThing", desc := "(I)Z" } : Jvm.MethodName), prog_7_method_5_code, 2, some .boolean), (6, 1, 1, 5, 1)),
  ((({ cls := "FirstAtTheFirstModel", name := "bent", desc := "(II)I" } : Jvm.MethodName), prog_7_method_24_code, 4, some .int), (6, 1, 2, 5, 0))]
theorem zt_m176 : zt_mp ((({ cls := "FirstAtTheFirstModel", name := "looked", desc := "(III)I" } : Jvm.MethodName), prog_7_method_61_code, 6, some .int), (6, 1, 3, 5, 0)) := ⟨(fun _ => ⟨zw_1066, zt_c6.1, by decide, zt_c6.2.1, zt_c6.2.2.1, zt_c6.2.2.2, zd_1⟩), rfl, rfl, (fun _ => ⟨zw_1065, (zt_insel (zt_p3 (zs4 (zs1 (List.Mem.head _))))), (Or.inr ⟨5, zt_T5, 43, rfl, by decide, rfl⟩)⟩), (fun e => absurd e (by decide)), (fun e => absurd e (by decide))⟩
theorem zt_m177 : zt_mp ((({ cls := "FirstAtTheFirstModel", name := "whoseNow", desc := "(I)I" } : Jvm.MethodName), prog_7_method_52_code, 2, some .int), (6, 1, 1, 5, 0)) := ⟨(fun _ => ⟨zw_1070, zt_c6.1, by decide, zt_c6.2.1, zt_c6.2.2.1, zt_c6.2.2.2, zd_3⟩), rfl, rfl, (fun _ => ⟨zw_1069, (zt_insel (zt_p3 (zs4 (zs1 (zs1 (List.Mem.head _)))))), (Or.inr ⟨5, zt_T5, 43, rfl, by decide, rfl⟩)⟩), (fun e => absurd e (by decide)), (fun e => absurd e (by decide))⟩
theorem zt_m178 : zt_mp ((({ cls := "FirstAtTheFirstModel", name := "whoseBy", desc := "(II)I" } : Jvm.MethodName), prog_7_method_47_code, 5, some .int), (6, 1, 2, 5, 0)) := ⟨(fun _ => ⟨zw_1074, zt_c6.1, by decide, zt_c6.2.1, zt_c6.2.2.1, zt_c6.2.2.2, zd_11⟩), rfl, rfl, (fun _ => ⟨zw_1073, (zt_insel (zt_p3 (zs4 (zs1 (zs1 (zs1 (List.Mem.head _))))))), (Or.inr ⟨5, zt_T5, 43, rfl, by decide, rfl⟩)⟩), (fun e => absurd e (by decide)), (fun e => absurd e (by decide))⟩
theorem zt_m179 : zt_mp ((({ cls := "FirstAtTheFirstModel", name := "rivalOf", desc := "(II)I" } : Jvm.MethodName), prog_7_method_53_code, 5, some .int), (6, 1, 2, 5, 0)) := ⟨(fun _ => ⟨zw_1078, zt_c6.1, by decide, zt_c6.2.1, zt_c6.2.2.1, zt_c6.2.2.2, zd_11⟩), rfl, rfl, (fun _ => ⟨zw_1077, (zt_insel (zt_p3 (zs4 (zs4 (List.Mem.head _))))), (Or.inr ⟨5, zt_T5, 43, rfl, by decide, rfl⟩)⟩), (fun e => absurd e (by decide)), (fun e => absurd e (by decide))⟩
theorem zt_m180 : zt_mp ((({ cls := "FirstAtTheFirstModel", name := "bestOf", desc := "(III)I" } : Jvm.MethodName), prog_7_method_56_code, 6, some .int), (6, 1, 3, 5, 0)) := ⟨(fun _ => ⟨zw_1082, zt_c6.1, by decide, zt_c6.2.1, zt_c6.2.2.1, zt_c6.2.2.2, zd_1⟩), rfl, rfl, (fun _ => ⟨zw_1081, (zt_insel (zt_p3 (zs4 (zs4 (zs1 (List.Mem.head _)))))), (Or.inr ⟨5, zt_T5, 43, rfl, by decide, rfl⟩)⟩), (fun e => absurd e (by decide)), (fun e => absurd e (by decide))⟩
theorem zt_m181 : zt_mp ((({ cls := "FirstAtTheFirstModel", name := "seenBy", desc := "(III)I" } : Jvm.MethodName), prog_7_method_55_code, 4, some .int), (6, 1, 3, 5, 0)) := ⟨(fun _ => ⟨zw_1086, zt_c6.1, by decide, zt_c6.2.1, zt_c6.2.2.1, zt_c6.2.2.2, zd_1⟩), rfl, rfl, (fun _ => ⟨zw_1085, (zt_insel (zt_p3 (zs4 (zs4 (zs1 (zs1 (List.Mem.head _))))))), (Or.inr ⟨5, zt_T5, 43, rfl, by decide, rfl⟩)⟩), (fun e => absurd e (by decide)), (fun e => absurd e (by decide))⟩
theorem zt_m182 : zt_mp ((({ cls := "FirstAtTheFirstModel", name := "spoiling", desc := "(IIII)I" } : Jvm.MethodName), prog_7_method_57_code, 9, some .int), (6, 1, 4, 5, 0)) := ⟨(fun _ => ⟨zw_1090, zt_c6.1, by decide, zt_c6.2.1, zt_c6.2.2.1, zt_c6.2.2.2, zd_36⟩), rfl, rfl, (fun _ => ⟨zw_1089, (zt_insel (zt_p3 (zs4 (zs4 (zs1 (zs1 (zs1 (List.Mem.head _)))))))), (Or.inr ⟨5, zt_T5, 43, rfl, by decide, rfl⟩)⟩), (fun e => absurd e (by decide)), (fun e => absurd e (by decide))⟩
theorem zt_m183 : zt_mp ((({ cls := "FirstAtTheFirstModel", name := "bits", desc := "(I)I" } : Jvm.MethodName), prog_7_method_7_code, 3, some .int), (6, 0, 1, -1, 0)) := ⟨(fun _ => ⟨zw_1093, zt_c6.1, by decide, zt_c6.2.1, zt_c6.2.2.1, zt_c6.2.2.2, zd_3⟩), rfl, rfl, (fun e => absurd e (by decide)), (fun e => absurd e (by decide)), (fun _ => zw_1092)⟩
theorem zt_m184 : zt_mp ((({ cls := "FirstAtTheFirstModel", name := "leastOf", desc := "(IIII)I" } : Jvm.MethodName), prog_7_method_58_code, 7, some .int), (6, 1, 4, 5, 0)) := ⟨(fun _ => ⟨zw_1097, zt_c6.1, by decide, zt_c6.2.1, zt_c6.2.2.1, zt_c6.2.2.2, zd_36⟩), rfl, rfl, (fun _ => ⟨zw_1096, (zt_insel (zt_p3 (zs4 (zs4 (zs4 (List.Mem.head _)))))), (Or.inr ⟨5, zt_T5, 43, rfl, by decide, rfl⟩)⟩), (fun e => absurd e (by decide)), (fun e => absurd e (by decide))⟩
theorem zt_m185 : zt_mp ((({ cls := "FirstAtTheFirstModel", name := "sides", desc := "(I)I" } : Jvm.MethodName), prog_7_method_20_code, 3, some .int), (6, 1, 1, 5, 0)) := ⟨(fun _ => ⟨zw_1101, zt_c6.1, by decide, zt_c6.2.1, zt_c6.2.2.1, zt_c6.2.2.2, zd_3⟩), rfl, rfl, (fun _ => ⟨zw_1099, zw_1100, (Or.inr ⟨5, zt_T5, 43, rfl, by decide, rfl⟩)⟩), (fun e => absurd e (by decide)), (fun e => absurd e (by decide))⟩
theorem zt_m186 : zt_mp ((({ cls := "FirstAtTheFirstModel", name := "becomeSides", desc := "(I)V" } : Jvm.MethodName), prog_7_method_19_code, 3, none), (6, 1, 1, 5, 6)) := ⟨(fun _ => ⟨zw_1107, zt_c6.1, by decide, zt_c6.2.1, zt_c6.2.2.1, zt_c6.2.2.2, zd_14⟩), rfl, rfl, (fun _ => ⟨zw_1106, (zt_insel (zt_p3 (zs4 (zs4 (zs4 (zs1 (List.Mem.head _))))))), (Or.inr ⟨5, zt_T5, 43, rfl, by decide, rfl⟩)⟩), (fun e => absurd e (by decide)), (fun e => absurd e (by decide))⟩
theorem zt_m187 : zt_mp ((({ cls := "FirstAtTheFirstModel", name := "thing", desc := "(III)I" } : Jvm.MethodName), prog_7_method_22_code, 4, some .int), (6, 1, 3, 5, 0)) := ⟨(fun _ => ⟨zw_1111, zt_c6.1, by decide, zt_c6.2.1, zt_c6.2.2.1, zt_c6.2.2.2, zd_1⟩), rfl, rfl, (fun _ => ⟨zw_1109, zw_1110, (Or.inr ⟨5, zt_T5, 43, rfl, by decide, rfl⟩)⟩), (fun e => absurd e (by decide)), (fun e => absurd e (by decide))⟩
theorem zt_m188 : zt_mp ((({ cls := "FirstAtTheFirstModel", name := "addThing", desc := "(III)V" } : Jvm.MethodName), prog_7_method_21_code, 4, none), (6, 1, 3, 5, 6)) := ⟨(fun _ => ⟨zw_1116, zt_c6.1, by decide, zt_c6.2.1, zt_c6.2.2.1, zt_c6.2.2.2, zd_6⟩), rfl, rfl, (fun _ => ⟨zw_1115, (zt_insel (zt_p3 (zs4 (zs4 (zs4 (zs1 (zs1 (List.Mem.head _)))))))), (Or.inr ⟨5, zt_T5, 43, rfl, by decide, rfl⟩)⟩), (fun e => absurd e (by decide)), (fun e => absurd e (by decide))⟩
theorem zt_m189 : zt_mp ((({ cls := "FirstAtTheFirstModel", name := "worth", desc := "(III)I" } : Jvm.MethodName), prog_7_method_23_code, 5, some .int), (6, 1, 3, 5, 0)) := ⟨(fun _ => ⟨zw_1120, zt_c6.1, by decide, zt_c6.2.1, zt_c6.2.2.1, zt_c6.2.2.2, zd_1⟩), rfl, rfl, (fun _ => ⟨zw_1118, zw_1119, (Or.inr ⟨5, zt_T5, 43, rfl, by decide, rfl⟩)⟩), (fun e => absurd e (by decide)), (fun e => absurd e (by decide))⟩
theorem zt_m190 : zt_mp ((({ cls := "FirstAtTheFirstModel", name := "isThing", desc := "(I)Z" } : Jvm.MethodName), prog_7_method_5_code, 2, some .boolean), (6, 1, 1, 5, 1)) := ⟨(fun _ => ⟨zw_1124, zt_c6.1, by decide, zt_c6.2.1, zt_c6.2.2.1, zt_c6.2.2.2, zd_2⟩), rfl, rfl, (fun _ => ⟨zw_1123, (zt_insel (zt_p3 (zs4 (zs4 (zs4 (zs1 (zs1 (zs1 (List.Mem.head _))))))))), (Or.inr ⟨5, zt_T5, 43, rfl, by decide, rfl⟩)⟩), (fun e => absurd e (by decide)), (fun e => absurd e (by decide))⟩
theorem zt_m191 : zt_mp ((({ cls := "FirstAtTheFirstModel", name := "bent", desc := "(II)I" } : Jvm.MethodName), prog_7_method_24_code, 4, some .int), (6, 1, 2, 5, 0)) := ⟨(fun _ => ⟨zw_1128, zt_c6.1, by decide, zt_c6.2.1, zt_c6.2.2.1, zt_c6.2.2.2, zd_11⟩), rfl, rfl, (fun _ => ⟨zw_1126, zw_1127, (Or.inr ⟨5, zt_T5, 43, rfl, by decide, rfl⟩)⟩), (fun e => absurd e (by decide)), (fun e => absurd e (by decide))⟩
theorem zt_mm11 : ∀ q ∈ zt_M11, zt_mp q := (List.forall_mem_cons.mpr ⟨zt_m176, (List.forall_mem_cons.mpr ⟨zt_m177, (List.forall_mem_cons.mpr ⟨zt_m178, (List.forall_mem_cons.mpr ⟨zt_m179, (List.forall_mem_cons.mpr ⟨zt_m180, (List.forall_mem_cons.mpr ⟨zt_m181, (List.forall_mem_cons.mpr ⟨zt_m182, (List.forall_mem_cons.mpr ⟨zt_m183, (List.forall_mem_cons.mpr ⟨zt_m184, (List.forall_mem_cons.mpr ⟨zt_m185, (List.forall_mem_cons.mpr ⟨zt_m186, (List.forall_mem_cons.mpr ⟨zt_m187, (List.forall_mem_cons.mpr ⟨zt_m188, (List.forall_mem_cons.mpr ⟨zt_m189, (List.forall_mem_cons.mpr ⟨zt_m190, (List.forall_mem_cons.mpr ⟨zt_m191, (fun _ h => absurd h List.not_mem_nil)⟩)⟩)⟩)⟩)⟩)⟩)⟩)⟩)⟩)⟩)⟩)⟩)⟩)⟩)⟩)⟩)
def zt_M12 : List (zx_M × Nat × Nat × Nat × Int × Nat) := [((({ cls := "FirstAtTheFirstModel", name := "law", desc := "(I)I" } : Jvm.MethodName), prog_7_method_25_code, 3, some .int), (6, 1, 1, 5, 0)),
  ((({ cls := "FirstAtTheFirstModel", name := "order", desc := "(II)I" } : Jvm.MethodName), prog_7_method_26_code, 5, some .int), (6, 1, 2, 5, 0)),
  ((({ cls := "FirstAtTheFirstModel", name := "turn", desc := "(I)I" } : Jvm.MethodName), prog_7_method_27_code, 3, some .int), (6, 1, 1, 5, 0)),
  ((({ cls := "FirstAtTheFirstModel", name := "own", desc := "(II)I" } : Jvm.MethodName), prog_7_method_28_code, 4, some .int), (6, 1, 2, 5, 0)),
  ((({ cls := "FirstAtTheFirstModel", name := "feed", desc := "(I)I" } : Jvm.MethodName), prog_7_method_29_code, 2, some .int), (6, 1, 1, 5, 0)),
  ((({ cls := "FirstAtTheFirstModel", name := "wipe", desc := "()I" } : Jvm.MethodName), prog_7_method_30_code, 2, some .int), (6, 1, 0, 5, 0)),
  ((({ cls := "FirstAtTheFirstModel", name := "estate", desc := "()I" } : Jvm.MethodName), prog_7_method_42_code, 3, some .int), (6, 1, 0, 5, 0)),
  ((({ cls := "FirstAtTheFirstModel", name := "fresh", desc := "()LFirstAtTheFirstModel;" } : Jvm.MethodName), prog_7_method_94_code, 1, some (.object "FirstAtTheFirstModel")), (6, 1, 0, 5, 5)),
  ((({ cls := "FirstAtTheFirstModel", name := "takeFrom", desc := "(LFirstAtTheFirstModel;)V" } : Jvm.MethodName), prog_7_method_96_code, 3, none), (6, 1, 1, 5, 6)),
  ((({ cls := "FirstAtTheFirstModel", name := "over", desc := "([I[I)V" } : Jvm.MethodName), prog_7_method_95_code, 3, none), (6, 0, 2, -1, 6)),
  ((({ cls := "FirstAtTheFirstModel", name := "readAll", desc := "()Z" } : Jvm.MethodName), prog_7_method_41_code, 1, some .boolean), (6, 1, 0, 5, 1)),
  ((({ cls := "FirstAtTheFirstModel", name := "look", desc := "()V" } : Jvm.MethodName), prog_7_method_33_code, 1, none), (6, 1, 0, 5, 6)),
  ((({ cls := "FirstAtTheFirstModel", name := "isLetter", desc := "(I)Z" } : Jvm.MethodName), prog_7_method_31_code, 1, some .boolean), (6, 0, 1, -1, 1)),
  ((({ cls := "FirstAtTheFirstModel", name := "isDigit", desc := "(I)Z" } : Jvm.MethodName), prog_7_method_32_code, 1, some .boolean), (6, 0, 1, -1, 1)),
  ((({ cls := "FirstAtTheFirstModel", name := "statement", desc := "()Z" } : Jvm.MethodName), prog_7_method_40_code, 2, some .boolean), (6, 1, 0, 5, 1)),
  ((({ cls := "FirstAtTheFirstModel", name := "isWord", desc := "(Ljava/lang/String;)Z" } : Jvm.MethodName), prog_7_method_35_code, 3, some .boolean), (6, 1, 1, 5, 1))]
theorem zt_m192 : zt_mp ((({ cls := "FirstAtTheFirstModel", name := "law", desc := "(I)I" } : Jvm.MethodName), prog_7_method_25_code, 3, some .int), (6, 1, 1, 5, 0)) := ⟨(fun _ => ⟨zw_1132, zt_c6.1, by decide, zt_c6.2.1, zt_c6.2.2.1, zt_c6.2.2.2, zd_3⟩), rfl, rfl, (fun _ => ⟨zw_1130, zw_1131, (Or.inr ⟨5, zt_T5, 43, rfl, by decide, rfl⟩)⟩), (fun e => absurd e (by decide)), (fun e => absurd e (by decide))⟩
theorem zt_m193 : zt_mp ((({ cls := "FirstAtTheFirstModel", name := "order", desc := "(II)I" } : Jvm.MethodName), prog_7_method_26_code, 5, some .int), (6, 1, 2, 5, 0)) := ⟨(fun _ => ⟨zw_1136, zt_c6.1, by decide, zt_c6.2.1, zt_c6.2.2.1, zt_c6.2.2.2, zd_11⟩), rfl, rfl, (fun _ => ⟨zw_1134, zw_1135, (Or.inr ⟨5, zt_T5, 43, rfl, by decide, rfl⟩)⟩), (fun e => absurd e (by decide)), (fun e => absurd e (by decide))⟩
theorem zt_m194 : zt_mp ((({ cls := "FirstAtTheFirstModel", name := "turn", desc := "(I)I" } : Jvm.MethodName), prog_7_method_27_code, 3, some .int), (6, 1, 1, 5, 0)) := ⟨(fun _ => ⟨zw_1141, zt_c6.1, by decide, zt_c6.2.1, zt_c6.2.2.1, zt_c6.2.2.2, zd_3⟩), rfl, rfl, (fun _ => ⟨zw_1139, zw_1140, (Or.inr ⟨5, zt_T5, 43, rfl, by decide, rfl⟩)⟩), (fun e => absurd e (by decide)), (fun e => absurd e (by decide))⟩
theorem zt_m195 : zt_mp ((({ cls := "FirstAtTheFirstModel", name := "own", desc := "(II)I" } : Jvm.MethodName), prog_7_method_28_code, 4, some .int), (6, 1, 2, 5, 0)) := ⟨(fun _ => ⟨zw_1146, zt_c6.1, by decide, zt_c6.2.1, zt_c6.2.2.1, zt_c6.2.2.2, zd_11⟩), rfl, rfl, (fun _ => ⟨zw_1144, zw_1145, (Or.inr ⟨5, zt_T5, 43, rfl, by decide, rfl⟩)⟩), (fun e => absurd e (by decide)), (fun e => absurd e (by decide))⟩
theorem zt_m196 : zt_mp ((({ cls := "FirstAtTheFirstModel", name := "feed", desc := "(I)I" } : Jvm.MethodName), prog_7_method_29_code, 2, some .int), (6, 1, 1, 5, 0)) := ⟨(fun _ => ⟨zw_1150, zt_c6.1, by decide, zt_c6.2.1, zt_c6.2.2.1, zt_c6.2.2.2, zd_3⟩), rfl, rfl, (fun _ => ⟨zw_1148, zw_1149, (Or.inr ⟨5, zt_T5, 43, rfl, by decide, rfl⟩)⟩), (fun e => absurd e (by decide)), (fun e => absurd e (by decide))⟩
theorem zt_m197 : zt_mp ((({ cls := "FirstAtTheFirstModel", name := "wipe", desc := "()I" } : Jvm.MethodName), prog_7_method_30_code, 2, some .int), (6, 1, 0, 5, 0)) := ⟨(fun _ => ⟨zw_1155, zt_c6.1, by decide, zt_c6.2.1, zt_c6.2.2.1, zt_c6.2.2.2, zd_21⟩), rfl, rfl, (fun _ => ⟨zw_1153, zw_1154, (Or.inr ⟨5, zt_T5, 43, rfl, by decide, rfl⟩)⟩), (fun e => absurd e (by decide)), (fun e => absurd e (by decide))⟩
theorem zt_m198 : zt_mp ((({ cls := "FirstAtTheFirstModel", name := "estate", desc := "()I" } : Jvm.MethodName), prog_7_method_42_code, 3, some .int), (6, 1, 0, 5, 0)) := ⟨(fun _ => ⟨zw_1159, zt_c6.1, by decide, zt_c6.2.1, zt_c6.2.2.1, zt_c6.2.2.2, zd_21⟩), rfl, rfl, (fun _ => ⟨zw_1157, zw_1158, (Or.inr ⟨5, zt_T5, 43, rfl, by decide, rfl⟩)⟩), (fun e => absurd e (by decide)), (fun e => absurd e (by decide))⟩
theorem zt_m199 : zt_mp ((({ cls := "FirstAtTheFirstModel", name := "fresh", desc := "()LFirstAtTheFirstModel;" } : Jvm.MethodName), prog_7_method_94_code, 1, some (.object "FirstAtTheFirstModel")), (6, 1, 0, 5, 5)) := ⟨(fun _ => ⟨zw_1163, zt_c6.1, by decide, zt_c6.2.1, zt_c6.2.2.1, zt_c6.2.2.2, zd_37⟩), rfl, rfl, (fun _ => ⟨zw_1162, (zt_insel (zt_p4 (List.Mem.head _))), (Or.inr ⟨5, zt_T5, 43, rfl, by decide, rfl⟩)⟩), (fun e => absurd e (by decide)), (fun e => absurd e (by decide))⟩
theorem zt_m200 : zt_mp ((({ cls := "FirstAtTheFirstModel", name := "takeFrom", desc := "(LFirstAtTheFirstModel;)V" } : Jvm.MethodName), prog_7_method_96_code, 3, none), (6, 1, 1, 5, 6)) := ⟨(fun _ => ⟨zw_1169, zt_c6.1, by decide, zt_c6.2.1, zt_c6.2.2.1, zt_c6.2.2.2, zd_38⟩), rfl, rfl, (fun _ => ⟨zw_1168, (zt_insel (zt_p4 (zs1 (List.Mem.head _)))), (Or.inr ⟨5, zt_T5, 43, rfl, by decide, rfl⟩)⟩), (fun e => absurd e (by decide)), (fun e => absurd e (by decide))⟩
theorem zt_m201 : zt_mp ((({ cls := "FirstAtTheFirstModel", name := "over", desc := "([I[I)V" } : Jvm.MethodName), prog_7_method_95_code, 3, none), (6, 0, 2, -1, 6)) := ⟨(fun _ => ⟨zw_1172, zt_c6.1, by decide, zt_c6.2.1, zt_c6.2.2.1, zt_c6.2.2.2, zd_17⟩), rfl, rfl, (fun e => absurd e (by decide)), (fun e => absurd e (by decide)), (fun _ => zw_1171)⟩
theorem zt_m202 : zt_mp ((({ cls := "FirstAtTheFirstModel", name := "readAll", desc := "()Z" } : Jvm.MethodName), prog_7_method_41_code, 1, some .boolean), (6, 1, 0, 5, 1)) := ⟨(fun _ => ⟨zw_1176, zt_c6.1, by decide, zt_c6.2.1, zt_c6.2.2.1, zt_c6.2.2.2, zd_26⟩), rfl, rfl, (fun _ => ⟨zw_1175, (zt_insel (zt_p4 (zs1 (zs1 (List.Mem.head _))))), (Or.inr ⟨5, zt_T5, 43, rfl, by decide, rfl⟩)⟩), (fun e => absurd e (by decide)), (fun e => absurd e (by decide))⟩
theorem zt_m203 : zt_mp ((({ cls := "FirstAtTheFirstModel", name := "look", desc := "()V" } : Jvm.MethodName), prog_7_method_33_code, 1, none), (6, 1, 0, 5, 6)) := ⟨(fun _ => ⟨zw_1180, zt_c6.1, by decide, zt_c6.2.1, zt_c6.2.2.1, zt_c6.2.2.2, zd_0⟩), rfl, rfl, (fun _ => ⟨zw_1179, (zt_insel (zt_p4 (zs1 (zs1 (zs1 (List.Mem.head _)))))), (Or.inr ⟨5, zt_T5, 43, rfl, by decide, rfl⟩)⟩), (fun e => absurd e (by decide)), (fun e => absurd e (by decide))⟩
theorem zt_m204 : zt_mp ((({ cls := "FirstAtTheFirstModel", name := "isLetter", desc := "(I)Z" } : Jvm.MethodName), prog_7_method_31_code, 1, some .boolean), (6, 0, 1, -1, 1)) := ⟨(fun _ => ⟨zw_1183, zt_c6.1, by decide, zt_c6.2.1, zt_c6.2.2.1, zt_c6.2.2.2, zd_2⟩), rfl, rfl, (fun e => absurd e (by decide)), (fun e => absurd e (by decide)), (fun _ => zw_1182)⟩
theorem zt_m205 : zt_mp ((({ cls := "FirstAtTheFirstModel", name := "isDigit", desc := "(I)Z" } : Jvm.MethodName), prog_7_method_32_code, 1, some .boolean), (6, 0, 1, -1, 1)) := ⟨(fun _ => ⟨zw_1186, zt_c6.1, by decide, zt_c6.2.1, zt_c6.2.2.1, zt_c6.2.2.2, zd_2⟩), rfl, rfl, (fun e => absurd e (by decide)), (fun e => absurd e (by decide)), (fun _ => zw_1185)⟩
theorem zt_m206 : zt_mp ((({ cls := "FirstAtTheFirstModel", name := "statement", desc := "()Z" } : Jvm.MethodName), prog_7_method_40_code, 2, some .boolean), (6, 1, 0, 5, 1)) := ⟨(fun _ => ⟨zw_1191, zt_c6.1, by decide, zt_c6.2.1, zt_c6.2.2.1, zt_c6.2.2.2, zd_26⟩), rfl, rfl, (fun _ => ⟨zw_1190, (zt_insel (zt_p4 (zs4 (List.Mem.head _)))), (Or.inr ⟨5, zt_T5, 43, rfl, by decide, rfl⟩)⟩), (fun e => absurd e (by decide)), (fun e => absurd e (by decide))⟩
theorem zt_m207 : zt_mp ((({ cls := "FirstAtTheFirstModel", name := "isWord", desc := "(Ljava/lang/String;)Z" } : Jvm.MethodName), prog_7_method_35_code, 3, some .boolean), (6, 1, 1, 5, 1)) := ⟨(fun _ => ⟨zw_1196, zt_c6.1, by decide, zt_c6.2.1, zt_c6.2.2.1, zt_c6.2.2.2, zd_23⟩), rfl, rfl, (fun _ => ⟨zw_1195, (zt_insel (zt_p4 (zs4 (zs1 (List.Mem.head _))))), (Or.inr ⟨5, zt_T5, 43, rfl, by decide, rfl⟩)⟩), (fun e => absurd e (by decide)), (fun e => absurd e (by decide))⟩
theorem zt_mm12 : ∀ q ∈ zt_M12, zt_mp q := (List.forall_mem_cons.mpr ⟨zt_m192, (List.forall_mem_cons.mpr ⟨zt_m193, (List.forall_mem_cons.mpr ⟨zt_m194, (List.forall_mem_cons.mpr ⟨zt_m195, (List.forall_mem_cons.mpr ⟨zt_m196, (List.forall_mem_cons.mpr ⟨zt_m197, (List.forall_mem_cons.mpr ⟨zt_m198, (List.forall_mem_cons.mpr ⟨zt_m199, (List.forall_mem_cons.mpr ⟨zt_m200, (List.forall_mem_cons.mpr ⟨zt_m201, (List.forall_mem_cons.mpr ⟨zt_m202, (List.forall_mem_cons.mpr ⟨zt_m203, (List.forall_mem_cons.mpr ⟨zt_m204, (List.forall_mem_cons.mpr ⟨zt_m205, (List.forall_mem_cons.mpr ⟨zt_m206, (List.forall_mem_cons.mpr ⟨zt_m207, (fun _ h => absurd h List.not_mem_nil)⟩)⟩)⟩)⟩)⟩)⟩)⟩)⟩)⟩)⟩)⟩)⟩)⟩)⟩)⟩)⟩)
def zt_M13 : List (zx_M × Nat × Nat × Nat × Int × Nat) := [((({ cls := "FirstAtTheFirstModel", name := "tells", desc := "(II)Z" } : Jvm.MethodName), prog_7_method_37_code, 3, some .boolean), (6, 1, 2, 5, 1)),
  ((({ cls := "FirstAtTheFirstModel", name := "number", desc := "(III)Z" } : Jvm.MethodName), prog_7_method_36_code, 4, some .boolean), (6, 1, 3, 5, 1)),
  ((({ cls := "FirstAtTheFirstModel", name := "wrong", desc := "()Z" } : Jvm.MethodName), prog_7_method_34_code, 1, some .boolean), (6, 1, 0, 5, 1)),
  ((({ cls := "FirstAtTheFirstModel", name := "thingTold", desc := "()Z" } : Jvm.MethodName), prog_7_method_38_code, 1, some .boolean), (6, 1, 0, 5, 1)),
  ((({ cls := "FirstAtTheFirstModel", name := "orderTold", desc := "()Z" } : Jvm.MethodName), prog_7_method_39_code, 2, some .boolean), (6, 1, 0, 5, 1)),
  ((({ cls := "FirstAtTheFirstModel", name := "thingOf", desc := "(II)I" } : Jvm.MethodName), prog_7_method_43_code, 3, some .int), (6, 1, 2, 5, 0)),
  ((({ cls := "FirstAtTheFirstModel", name := "sideOf", desc := "(II)I" } : Jvm.MethodName), prog_7_method_46_code, 3, some .int), (6, 1, 2, 5, 0)),
  ((({ cls := "FirstAtTheFirstModel", name := "owned", desc := "(I)I" } : Jvm.MethodName), prog_7_method_44_code, 4, some .int), (6, 1, 1, 5, 0)),
  ((({ cls := "FirstAtTheFirstModel", name := "worthOf", desc := "(II)I" } : Jvm.MethodName), prog_7_method_45_code, 5, some .int), (6, 1, 2, 5, 0)),
  ((({ cls := "FirstAtTheFirstModel", name := "whose", desc := "(II)I" } : Jvm.MethodName), prog_7_method_48_code, 3, some .int), (6, 1, 2, 5, 0)),
  ((({ cls := "FirstAtTheFirstModel", name := "runs", desc := "(II)I" } : Jvm.MethodName), prog_7_method_49_code, 6, some .int), (6, 1, 2, 5, 0)),
  ((({ cls := "FirstAtTheFirstModel", name := "powers", desc := "(III)J" } : Jvm.MethodName), prog_7_method_50_code, 10, some .long), (6, 1, 3, 5, 4)),
  ((({ cls := "FirstAtTheFirstModel", name := "rival", desc := "(I)I" } : Jvm.MethodName), prog_7_method_54_code, 2, some .int), (6, 1, 1, 5, 0)),
  ((({ cls := "FirstAtTheFirstModel", name := "takes", desc := "(I)I" } : Jvm.MethodName), prog_7_method_62_code, 2, some .int), (6, 1, 1, 5, 0)),
  ((({ cls := "FirstAtTheFirstModel", name := "run", desc := "(II)I" } : Jvm.MethodName), prog_7_method_66_code, 3, some .int), (6, 1, 2, 5, 0)),
  ((({ cls := "FirstAtTheFirstModel", name := "runBy", desc := "(I)V" } : Jvm.MethodName), prog_7_method_65_code, 2, none), (6, 1, 1, 5, 6))]
theorem zt_m208 : zt_mp ((({ cls := "FirstAtTheFirstModel", name := "tells", desc := "(II)Z" } : Jvm.MethodName), prog_7_method_37_code, 3, some .boolean), (6, 1, 2, 5, 1)) := ⟨(fun _ => ⟨zw_1202, zt_c6.1, by decide, zt_c6.2.1, zt_c6.2.2.1, zt_c6.2.2.2, zd_15⟩), rfl, rfl, (fun _ => ⟨zw_1201, (zt_insel (zt_p4 (zs4 (zs1 (zs1 (List.Mem.head _)))))), (Or.inr ⟨5, zt_T5, 43, rfl, by decide, rfl⟩)⟩), (fun e => absurd e (by decide)), (fun e => absurd e (by decide))⟩
theorem zt_m209 : zt_mp ((({ cls := "FirstAtTheFirstModel", name := "number", desc := "(III)Z" } : Jvm.MethodName), prog_7_method_36_code, 4, some .boolean), (6, 1, 3, 5, 1)) := ⟨(fun _ => ⟨zw_1206, zt_c6.1, by decide, zt_c6.2.1, zt_c6.2.2.1, zt_c6.2.2.2, zd_20⟩), rfl, rfl, (fun _ => ⟨zw_1205, (zt_insel (zt_p4 (zs4 (zs1 (zs1 (zs1 (List.Mem.head _))))))), (Or.inr ⟨5, zt_T5, 43, rfl, by decide, rfl⟩)⟩), (fun e => absurd e (by decide)), (fun e => absurd e (by decide))⟩
theorem zt_m210 : zt_mp ((({ cls := "FirstAtTheFirstModel", name := "wrong", desc := "()Z" } : Jvm.MethodName), prog_7_method_34_code, 1, some .boolean), (6, 1, 0, 5, 1)) := ⟨(fun _ => ⟨zw_1210, zt_c6.1, by decide, zt_c6.2.1, zt_c6.2.2.1, zt_c6.2.2.2, zd_26⟩), rfl, rfl, (fun _ => ⟨zw_1209, (zt_insel (zt_p4 (zs4 (zs4 (List.Mem.head _))))), (Or.inr ⟨5, zt_T5, 43, rfl, by decide, rfl⟩)⟩), (fun e => absurd e (by decide)), (fun e => absurd e (by decide))⟩
theorem zt_m211 : zt_mp ((({ cls := "FirstAtTheFirstModel", name := "thingTold", desc := "()Z" } : Jvm.MethodName), prog_7_method_38_code, 1, some .boolean), (6, 1, 0, 5, 1)) := ⟨(fun _ => ⟨zw_1215, zt_c6.1, by decide, zt_c6.2.1, zt_c6.2.2.1, zt_c6.2.2.2, zd_26⟩), rfl, rfl, (fun _ => ⟨zw_1214, (zt_insel (zt_p4 (zs4 (zs4 (zs1 (List.Mem.head _)))))), (Or.inr ⟨5, zt_T5, 43, rfl, by decide, rfl⟩)⟩), (fun e => absurd e (by decide)), (fun e => absurd e (by decide))⟩
theorem zt_m212 : zt_mp ((({ cls := "FirstAtTheFirstModel", name := "orderTold", desc := "()Z" } : Jvm.MethodName), prog_7_method_39_code, 2, some .boolean), (6, 1, 0, 5, 1)) := ⟨(fun _ => ⟨zw_1221, zt_c6.1, by decide, zt_c6.2.1, zt_c6.2.2.1, zt_c6.2.2.2, zd_26⟩), rfl, rfl, (fun _ => ⟨zw_1220, (zt_insel (zt_p4 (zs4 (zs4 (zs1 (zs1 (List.Mem.head _))))))), (Or.inr ⟨5, zt_T5, 43, rfl, by decide, rfl⟩)⟩), (fun e => absurd e (by decide)), (fun e => absurd e (by decide))⟩
theorem zt_m213 : zt_mp ((({ cls := "FirstAtTheFirstModel", name := "thingOf", desc := "(II)I" } : Jvm.MethodName), prog_7_method_43_code, 3, some .int), (6, 1, 2, 5, 0)) := ⟨(fun _ => ⟨zw_1228, zt_c6.1, by decide, zt_c6.2.1, zt_c6.2.2.1, zt_c6.2.2.2, zd_11⟩), rfl, rfl, (fun _ => ⟨zw_1226, zw_1227, (Or.inr ⟨5, zt_T5, 43, rfl, by decide, rfl⟩)⟩), (fun e => absurd e (by decide)), (fun e => absurd e (by decide))⟩
theorem zt_m214 : zt_mp ((({ cls := "FirstAtTheFirstModel", name := "sideOf", desc := "(II)I" } : Jvm.MethodName), prog_7_method_46_code, 3, some .int), (6, 1, 2, 5, 0)) := ⟨(fun _ => ⟨zw_1232, zt_c6.1, by decide, zt_c6.2.1, zt_c6.2.2.1, zt_c6.2.2.2, zd_11⟩), rfl, rfl, (fun _ => ⟨zw_1230, zw_1231, (Or.inr ⟨5, zt_T5, 43, rfl, by decide, rfl⟩)⟩), (fun e => absurd e (by decide)), (fun e => absurd e (by decide))⟩
theorem zt_m215 : zt_mp ((({ cls := "FirstAtTheFirstModel", name := "owned", desc := "(I)I" } : Jvm.MethodName), prog_7_method_44_code, 4, some .int), (6, 1, 1, 5, 0)) := ⟨(fun _ => ⟨zw_1236, zt_c6.1, by decide, zt_c6.2.1, zt_c6.2.2.1, zt_c6.2.2.2, zd_3⟩), rfl, rfl, (fun _ => ⟨zw_1235, (zt_insel (zt_p4 (zs4 (zs4 (zs1 (zs1 (zs1 (List.Mem.head _)))))))), (Or.inr ⟨5, zt_T5, 43, rfl, by decide, rfl⟩)⟩), (fun e => absurd e (by decide)), (fun e => absurd e (by decide))⟩
theorem zt_m216 : zt_mp ((({ cls := "FirstAtTheFirstModel", name := "worthOf", desc := "(II)I" } : Jvm.MethodName), prog_7_method_45_code, 5, some .int), (6, 1, 2, 5, 0)) := ⟨(fun _ => ⟨zw_1240, zt_c6.1, by decide, zt_c6.2.1, zt_c6.2.2.1, zt_c6.2.2.2, zd_11⟩), rfl, rfl, (fun _ => ⟨zw_1239, (zt_insel (zt_p4 (zs4 (zs4 (zs4 (List.Mem.head _)))))), (Or.inr ⟨5, zt_T5, 43, rfl, by decide, rfl⟩)⟩), (fun e => absurd e (by decide)), (fun e => absurd e (by decide))⟩
theorem zt_m217 : zt_mp ((({ cls := "FirstAtTheFirstModel", name := "whose", desc := "(II)I" } : Jvm.MethodName), prog_7_method_48_code, 3, some .int), (6, 1, 2, 5, 0)) := ⟨(fun _ => ⟨zw_1244, zt_c6.1, by decide, zt_c6.2.1, zt_c6.2.2.1, zt_c6.2.2.2, zd_11⟩), rfl, rfl, (fun _ => ⟨zw_1242, zw_1243, (Or.inr ⟨5, zt_T5, 43, rfl, by decide, rfl⟩)⟩), (fun e => absurd e (by decide)), (fun e => absurd e (by decide))⟩
theorem zt_m218 : zt_mp ((({ cls := "FirstAtTheFirstModel", name := "runs", desc := "(II)I" } : Jvm.MethodName), prog_7_method_49_code, 6, some .int), (6, 1, 2, 5, 0)) := ⟨(fun _ => ⟨zw_1248, zt_c6.1, by decide, zt_c6.2.1, zt_c6.2.2.1, zt_c6.2.2.2, zd_11⟩), rfl, rfl, (fun _ => ⟨zw_1246, zw_1247, (Or.inr ⟨5, zt_T5, 43, rfl, by decide, rfl⟩)⟩), (fun e => absurd e (by decide)), (fun e => absurd e (by decide))⟩
theorem zt_m219 : zt_mp ((({ cls := "FirstAtTheFirstModel", name := "powers", desc := "(III)J" } : Jvm.MethodName), prog_7_method_50_code, 10, some .long), (6, 1, 3, 5, 4)) := ⟨(fun _ => ⟨zw_1253, zt_c6.1, by decide, zt_c6.2.1, zt_c6.2.2.1, zt_c6.2.2.2, zd_31⟩), rfl, rfl, (fun _ => ⟨zw_1251, zw_1252, (Or.inr ⟨5, zt_T5, 43, rfl, by decide, rfl⟩)⟩), (fun e => absurd e (by decide)), (fun e => absurd e (by decide))⟩
theorem zt_m220 : zt_mp ((({ cls := "FirstAtTheFirstModel", name := "rival", desc := "(I)I" } : Jvm.MethodName), prog_7_method_54_code, 2, some .int), (6, 1, 1, 5, 0)) := ⟨(fun _ => ⟨zw_1259, zt_c6.1, by decide, zt_c6.2.1, zt_c6.2.2.1, zt_c6.2.2.2, zd_3⟩), rfl, rfl, (fun _ => ⟨zw_1257, zw_1258, (Or.inr ⟨5, zt_T5, 43, rfl, by decide, rfl⟩)⟩), (fun e => absurd e (by decide)), (fun e => absurd e (by decide))⟩
theorem zt_m221 : zt_mp ((({ cls := "FirstAtTheFirstModel", name := "takes", desc := "(I)I" } : Jvm.MethodName), prog_7_method_62_code, 2, some .int), (6, 1, 1, 5, 0)) := ⟨(fun _ => ⟨zw_1263, zt_c6.1, by decide, zt_c6.2.1, zt_c6.2.2.1, zt_c6.2.2.2, zd_3⟩), rfl, rfl, (fun _ => ⟨zw_1261, zw_1262, (Or.inr ⟨5, zt_T5, 43, rfl, by decide, rfl⟩)⟩), (fun e => absurd e (by decide)), (fun e => absurd e (by decide))⟩
theorem zt_m222 : zt_mp ((({ cls := "FirstAtTheFirstModel", name := "run", desc := "(II)I" } : Jvm.MethodName), prog_7_method_66_code, 3, some .int), (6, 1, 2, 5, 0)) := ⟨(fun _ => ⟨zw_1267, zt_c6.1, by decide, zt_c6.2.1, zt_c6.2.2.1, zt_c6.2.2.2, zd_11⟩), rfl, rfl, (fun _ => ⟨zw_1265, zw_1266, (Or.inr ⟨5, zt_T5, 43, rfl, by decide, rfl⟩)⟩), (fun e => absurd e (by decide)), (fun e => absurd e (by decide))⟩
theorem zt_m223 : zt_mp ((({ cls := "FirstAtTheFirstModel", name := "runBy", desc := "(I)V" } : Jvm.MethodName), prog_7_method_65_code, 2, none), (6, 1, 1, 5, 6)) := ⟨(fun _ => ⟨zw_1271, zt_c6.1, by decide, zt_c6.2.1, zt_c6.2.2.1, zt_c6.2.2.2, zd_14⟩), rfl, rfl, (fun _ => ⟨zw_1270, (zt_insel (zt_p4 (zs4 (zs4 (zs4 (zs1 (List.Mem.head _))))))), (Or.inr ⟨5, zt_T5, 43, rfl, by decide, rfl⟩)⟩), (fun e => absurd e (by decide)), (fun e => absurd e (by decide))⟩
theorem zt_mm13 : ∀ q ∈ zt_M13, zt_mp q := (List.forall_mem_cons.mpr ⟨zt_m208, (List.forall_mem_cons.mpr ⟨zt_m209, (List.forall_mem_cons.mpr ⟨zt_m210, (List.forall_mem_cons.mpr ⟨zt_m211, (List.forall_mem_cons.mpr ⟨zt_m212, (List.forall_mem_cons.mpr ⟨zt_m213, (List.forall_mem_cons.mpr ⟨zt_m214, (List.forall_mem_cons.mpr ⟨zt_m215, (List.forall_mem_cons.mpr ⟨zt_m216, (List.forall_mem_cons.mpr ⟨zt_m217, (List.forall_mem_cons.mpr ⟨zt_m218, (List.forall_mem_cons.mpr ⟨zt_m219, (List.forall_mem_cons.mpr ⟨zt_m220, (List.forall_mem_cons.mpr ⟨zt_m221, (List.forall_mem_cons.mpr ⟨zt_m222, (List.forall_mem_cons.mpr ⟨zt_m223, (fun _ h => absurd h List.not_mem_nil)⟩)⟩)⟩)⟩)⟩)⟩)⟩)⟩)⟩)⟩)⟩)⟩)⟩)⟩)⟩)⟩)
def zt_M14 : List (zx_M × Nat × Nat × Nat × Int × Nat) := [((({ cls := "FirstAtTheFirstModel", name := "goesRun", desc := "()V" } : Jvm.MethodName), prog_7_method_63_code, 4, none), (6, 1, 0, 5, 6)),
  ((({ cls := "FirstAtTheFirstModel", name := "gets", desc := "(II)I" } : Jvm.MethodName), prog_7_method_67_code, 3, some .int), (6, 1, 2, 5, 0)),
  ((({ cls := "FirstAtTheFirstModel", name := "unequal", desc := "(I)I" } : Jvm.MethodName), prog_7_method_68_code, 2, some .int), (6, 1, 1, 5, 0)),
  ((({ cls := "FirstAtTheFirstModel", name := "unequalNow", desc := "()I" } : Jvm.MethodName), prog_7_method_64_code, 4, some .int), (6, 1, 0, 5, 0)),
  ((({ cls := "FirstAtTheFirstModel", name := "best", desc := "()I" } : Jvm.MethodName), prog_7_method_69_code, 5, some .int), (6, 1, 0, 5, 0)),
  ((({ cls := "FirstAtTheFirstModel", name := "game", desc := "(II)I" } : Jvm.MethodName), prog_7_method_72_code, 4, some .int), (6, 1, 2, 5, 0)),
  ((({ cls := "FirstAtTheFirstModel", name := "gameBy", desc := "(I)V" } : Jvm.MethodName), prog_7_method_71_code, 4, none), (6, 1, 1, 5, 6)),
  ((({ cls := "FirstAtTheFirstModel", name := "findGame", desc := "(II)V" } : Jvm.MethodName), prog_7_method_70_code, 8, none), (6, 1, 2, 5, 6)),
  ((({ cls := "FirstAtTheFirstModel", name := "opening", desc := "(I)I" } : Jvm.MethodName), prog_7_method_73_code, 2, some .int), (6, 1, 1, 5, 0)),
  ((({ cls := "FirstAtTheFirstModel", name := "fairest", desc := "(I)I" } : Jvm.MethodName), prog_7_method_76_code, 3, some .int), (6, 1, 1, 5, 0)),
  ((({ cls := "FirstAtTheFirstModel", name := "seekFairest", desc := "(II)V" } : Jvm.MethodName), prog_7_method_75_code, 5, none), (6, 1, 2, 5, 6)),
  ((({ cls := "FirstAtTheFirstModel", name := "isEven", desc := "(I)Z" } : Jvm.MethodName), prog_7_method_74_code, 5, some .boolean), (6, 1, 1, 5, 1)),
  ((({ cls := "FirstAtTheFirstModel", name := "sham", desc := "(II)I" } : Jvm.MethodName), prog_7_method_77_code, 6, some .int), (6, 1, 2, 5, 0)),
  ((({ cls := "FirstAtTheFirstModel", name := "judge", desc := "(II)I" } : Jvm.MethodName), prog_7_method_80_code, 4, some .int), (6, 1, 2, 5, 0)),
  ((({ cls := "FirstAtTheFirstModel", name := "noBook", desc := "(III)I" } : Jvm.MethodName), prog_7_method_78_code, 5, some .int), (6, 1, 3, 5, 0)),
  ((({ cls := "FirstAtTheFirstModel", name := "wrongIn", desc := "([JII)I" } : Jvm.MethodName), prog_7_method_79_code, 8, some .int), (6, 1, 3, 5, 0))]
theorem zt_m224 : zt_mp ((({ cls := "FirstAtTheFirstModel", name := "goesRun", desc := "()V" } : Jvm.MethodName), prog_7_method_63_code, 4, none), (6, 1, 0, 5, 6)) := ⟨(fun _ => ⟨zw_1275, zt_c6.1, by decide, zt_c6.2.1, zt_c6.2.2.1, zt_c6.2.2.2, zd_0⟩), rfl, rfl, (fun _ => ⟨zw_1274, (zt_insel (zt_p4 (zs4 (zs4 (zs4 (zs1 (zs1 (List.Mem.head _)))))))), (Or.inr ⟨5, zt_T5, 43, rfl, by decide, rfl⟩)⟩), (fun e => absurd e (by decide)), (fun e => absurd e (by decide))⟩
theorem zt_m225 : zt_mp ((({ cls := "FirstAtTheFirstModel", name := "gets", desc := "(II)I" } : Jvm.MethodName), prog_7_method_67_code, 3, some .int), (6, 1, 2, 5, 0)) := ⟨(fun _ => ⟨zw_1279, zt_c6.1, by decide, zt_c6.2.1, zt_c6.2.2.1, zt_c6.2.2.2, zd_11⟩), rfl, rfl, (fun _ => ⟨zw_1277, zw_1278, (Or.inr ⟨5, zt_T5, 43, rfl, by decide, rfl⟩)⟩), (fun e => absurd e (by decide)), (fun e => absurd e (by decide))⟩
theorem zt_m226 : zt_mp ((({ cls := "FirstAtTheFirstModel", name := "unequal", desc := "(I)I" } : Jvm.MethodName), prog_7_method_68_code, 2, some .int), (6, 1, 1, 5, 0)) := ⟨(fun _ => ⟨zw_1283, zt_c6.1, by decide, zt_c6.2.1, zt_c6.2.2.1, zt_c6.2.2.2, zd_3⟩), rfl, rfl, (fun _ => ⟨zw_1281, zw_1282, (Or.inr ⟨5, zt_T5, 43, rfl, by decide, rfl⟩)⟩), (fun e => absurd e (by decide)), (fun e => absurd e (by decide))⟩
theorem zt_m227 : zt_mp ((({ cls := "FirstAtTheFirstModel", name := "unequalNow", desc := "()I" } : Jvm.MethodName), prog_7_method_64_code, 4, some .int), (6, 1, 0, 5, 0)) := ⟨(fun _ => ⟨zw_1287, zt_c6.1, by decide, zt_c6.2.1, zt_c6.2.2.1, zt_c6.2.2.2, zd_21⟩), rfl, rfl, (fun _ => ⟨zw_1286, (zt_insel (zt_p4 (zs4 (zs4 (zs4 (zs1 (zs1 (zs1 (List.Mem.head _))))))))), (Or.inr ⟨5, zt_T5, 43, rfl, by decide, rfl⟩)⟩), (fun e => absurd e (by decide)), (fun e => absurd e (by decide))⟩
theorem zt_m228 : zt_mp ((({ cls := "FirstAtTheFirstModel", name := "best", desc := "()I" } : Jvm.MethodName), prog_7_method_69_code, 5, some .int), (6, 1, 0, 5, 0)) := ⟨(fun _ => ⟨zw_1291, zt_c6.1, by decide, zt_c6.2.1, zt_c6.2.2.1, zt_c6.2.2.2, zd_21⟩), rfl, rfl, (fun _ => ⟨zw_1289, zw_1290, (Or.inr ⟨5, zt_T5, 43, rfl, by decide, rfl⟩)⟩), (fun e => absurd e (by decide)), (fun e => absurd e (by decide))⟩
theorem zt_m229 : zt_mp ((({ cls := "FirstAtTheFirstModel", name := "game", desc := "(II)I" } : Jvm.MethodName), prog_7_method_72_code, 4, some .int), (6, 1, 2, 5, 0)) := ⟨(fun _ => ⟨zw_1295, zt_c6.1, by decide, zt_c6.2.1, zt_c6.2.2.1, zt_c6.2.2.2, zd_11⟩), rfl, rfl, (fun _ => ⟨zw_1293, zw_1294, (Or.inr ⟨5, zt_T5, 43, rfl, by decide, rfl⟩)⟩), (fun e => absurd e (by decide)), (fun e => absurd e (by decide))⟩
theorem zt_m230 : zt_mp ((({ cls := "FirstAtTheFirstModel", name := "gameBy", desc := "(I)V" } : Jvm.MethodName), prog_7_method_71_code, 4, none), (6, 1, 1, 5, 6)) := ⟨(fun _ => ⟨zw_1299, zt_c6.1, by decide, zt_c6.2.1, zt_c6.2.2.1, zt_c6.2.2.2, zd_14⟩), rfl, rfl, (fun _ => ⟨zw_1298, (zt_insel (zt_p5 (List.Mem.head _))), (Or.inr ⟨5, zt_T5, 43, rfl, by decide, rfl⟩)⟩), (fun e => absurd e (by decide)), (fun e => absurd e (by decide))⟩
theorem zt_m231 : zt_mp ((({ cls := "FirstAtTheFirstModel", name := "findGame", desc := "(II)V" } : Jvm.MethodName), prog_7_method_70_code, 8, none), (6, 1, 2, 5, 6)) := ⟨(fun _ => ⟨zw_1303, zt_c6.1, by decide, zt_c6.2.1, zt_c6.2.2.1, zt_c6.2.2.2, zd_19⟩), rfl, rfl, (fun _ => ⟨zw_1302, (zt_insel (zt_p5 (zs1 (List.Mem.head _)))), (Or.inr ⟨5, zt_T5, 43, rfl, by decide, rfl⟩)⟩), (fun e => absurd e (by decide)), (fun e => absurd e (by decide))⟩
theorem zt_m232 : zt_mp ((({ cls := "FirstAtTheFirstModel", name := "opening", desc := "(I)I" } : Jvm.MethodName), prog_7_method_73_code, 2, some .int), (6, 1, 1, 5, 0)) := ⟨(fun _ => ⟨zw_1307, zt_c6.1, by decide, zt_c6.2.1, zt_c6.2.2.1, zt_c6.2.2.2, zd_3⟩), rfl, rfl, (fun _ => ⟨zw_1305, zw_1306, (Or.inr ⟨5, zt_T5, 43, rfl, by decide, rfl⟩)⟩), (fun e => absurd e (by decide)), (fun e => absurd e (by decide))⟩
theorem zt_m233 : zt_mp ((({ cls := "FirstAtTheFirstModel", name := "fairest", desc := "(I)I" } : Jvm.MethodName), prog_7_method_76_code, 3, some .int), (6, 1, 1, 5, 0)) := ⟨(fun _ => ⟨zw_1311, zt_c6.1, by decide, zt_c6.2.1, zt_c6.2.2.1, zt_c6.2.2.2, zd_3⟩), rfl, rfl, (fun _ => ⟨zw_1309, zw_1310, (Or.inr ⟨5, zt_T5, 43, rfl, by decide, rfl⟩)⟩), (fun e => absurd e (by decide)), (fun e => absurd e (by decide))⟩
theorem zt_m234 : zt_mp ((({ cls := "FirstAtTheFirstModel", name := "seekFairest", desc := "(II)V" } : Jvm.MethodName), prog_7_method_75_code, 5, none), (6, 1, 2, 5, 6)) := ⟨(fun _ => ⟨zw_1315, zt_c6.1, by decide, zt_c6.2.1, zt_c6.2.2.1, zt_c6.2.2.2, zd_19⟩), rfl, rfl, (fun _ => ⟨zw_1314, (zt_insel (zt_p5 (zs1 (zs1 (List.Mem.head _))))), (Or.inr ⟨5, zt_T5, 43, rfl, by decide, rfl⟩)⟩), (fun e => absurd e (by decide)), (fun e => absurd e (by decide))⟩
theorem zt_m235 : zt_mp ((({ cls := "FirstAtTheFirstModel", name := "isEven", desc := "(I)Z" } : Jvm.MethodName), prog_7_method_74_code, 5, some .boolean), (6, 1, 1, 5, 1)) := ⟨(fun _ => ⟨zw_1319, zt_c6.1, by decide, zt_c6.2.1, zt_c6.2.2.1, zt_c6.2.2.2, zd_2⟩), rfl, rfl, (fun _ => ⟨zw_1318, (zt_insel (zt_p5 (zs1 (zs1 (zs1 (List.Mem.head _)))))), (Or.inr ⟨5, zt_T5, 43, rfl, by decide, rfl⟩)⟩), (fun e => absurd e (by decide)), (fun e => absurd e (by decide))⟩
theorem zt_m236 : zt_mp ((({ cls := "FirstAtTheFirstModel", name := "sham", desc := "(II)I" } : Jvm.MethodName), prog_7_method_77_code, 6, some .int), (6, 1, 2, 5, 0)) := ⟨(fun _ => ⟨zw_1323, zt_c6.1, by decide, zt_c6.2.1, zt_c6.2.2.1, zt_c6.2.2.2, zd_11⟩), rfl, rfl, (fun _ => ⟨zw_1321, zw_1322, (Or.inr ⟨5, zt_T5, 43, rfl, by decide, rfl⟩)⟩), (fun e => absurd e (by decide)), (fun e => absurd e (by decide))⟩
theorem zt_m237 : zt_mp ((({ cls := "FirstAtTheFirstModel", name := "judge", desc := "(II)I" } : Jvm.MethodName), prog_7_method_80_code, 4, some .int), (6, 1, 2, 5, 0)) := ⟨(fun _ => ⟨zw_1328, zt_c6.1, by decide, zt_c6.2.1, zt_c6.2.2.1, zt_c6.2.2.2, zd_11⟩), rfl, rfl, (fun _ => ⟨zw_1326, zw_1327, (Or.inr ⟨5, zt_T5, 43, rfl, by decide, rfl⟩)⟩), (fun e => absurd e (by decide)), (fun e => absurd e (by decide))⟩
theorem zt_m238 : zt_mp ((({ cls := "FirstAtTheFirstModel", name := "noBook", desc := "(III)I" } : Jvm.MethodName), prog_7_method_78_code, 5, some .int), (6, 1, 3, 5, 0)) := ⟨(fun _ => ⟨zw_1332, zt_c6.1, by decide, zt_c6.2.1, zt_c6.2.2.1, zt_c6.2.2.2, zd_1⟩), rfl, rfl, (fun _ => ⟨zw_1331, (zt_insel (zt_p5 (zs4 (List.Mem.head _)))), (Or.inr ⟨5, zt_T5, 43, rfl, by decide, rfl⟩)⟩), (fun e => absurd e (by decide)), (fun e => absurd e (by decide))⟩
theorem zt_m239 : zt_mp ((({ cls := "FirstAtTheFirstModel", name := "wrongIn", desc := "([JII)I" } : Jvm.MethodName), prog_7_method_79_code, 8, some .int), (6, 1, 3, 5, 0)) := ⟨(fun _ => ⟨zw_1337, zt_c6.1, by decide, zt_c6.2.1, zt_c6.2.2.1, zt_c6.2.2.2, zd_39⟩), rfl, rfl, (fun _ => ⟨zw_1336, (zt_insel (zt_p5 (zs4 (zs1 (List.Mem.head _))))), (Or.inr ⟨5, zt_T5, 43, rfl, by decide, rfl⟩)⟩), (fun e => absurd e (by decide)), (fun e => absurd e (by decide))⟩
theorem zt_mm14 : ∀ q ∈ zt_M14, zt_mp q := (List.forall_mem_cons.mpr ⟨zt_m224, (List.forall_mem_cons.mpr ⟨zt_m225, (List.forall_mem_cons.mpr ⟨zt_m226, (List.forall_mem_cons.mpr ⟨zt_m227, (List.forall_mem_cons.mpr ⟨zt_m228, (List.forall_mem_cons.mpr ⟨zt_m229, (List.forall_mem_cons.mpr ⟨zt_m230, (List.forall_mem_cons.mpr ⟨zt_m231, (List.forall_mem_cons.mpr ⟨zt_m232, (List.forall_mem_cons.mpr ⟨zt_m233, (List.forall_mem_cons.mpr ⟨zt_m234, (List.forall_mem_cons.mpr ⟨zt_m235, (List.forall_mem_cons.mpr ⟨zt_m236, (List.forall_mem_cons.mpr ⟨zt_m237, (List.forall_mem_cons.mpr ⟨zt_m238, (List.forall_mem_cons.mpr ⟨zt_m239, (fun _ h => absurd h List.not_mem_nil)⟩)⟩)⟩)⟩)⟩)⟩)⟩)⟩)⟩)⟩)⟩)⟩)⟩)⟩)⟩)⟩)
def zt_M15 : List (zx_M × Nat × Nat × Nat × Int × Nat) := [((({ cls := "FirstAtTheFirstModel", name := "stolen", desc := "(II)I" } : Jvm.MethodName), prog_7_method_81_code, 5, some .int), (6, 1, 2, 5, 0)),
  ((({ cls := "FirstAtTheFirstModel", name := "fits", desc := "(III)I" } : Jvm.MethodName), prog_7_method_83_code, 7, some .int), (6, 1, 3, 5, 0)),
  ((({ cls := "FirstAtTheFirstModel", name := "fitsBy", desc := "([JIII)Z" } : Jvm.MethodName), prog_7_method_82_code, 8, some .boolean), (6, 1, 4, 5, 1)),
  ((({ cls := "FirstAtTheFirstModel", name := "trades", desc := "(I)I" } : Jvm.MethodName), prog_7_method_85_code, 8, some .int), (6, 1, 1, 5, 0)),
  ((({ cls := "FirstAtTheFirstModel", name := "gainOf", desc := "(II)I" } : Jvm.MethodName), prog_7_method_84_code, 5, some .int), (6, 1, 2, 5, 0)),
  ((({ cls := "FirstAtTheFirstModel", name := "swap", desc := "(II)I" } : Jvm.MethodName), prog_7_method_86_code, 4, some .int), (6, 1, 2, 5, 0)),
  ((({ cls := "FirstAtTheFirstModel", name := "pick", desc := "(I)I" } : Jvm.MethodName), prog_7_method_87_code, 2, some .int), (6, 1, 1, 5, 0)),
  ((({ cls := "FirstAtTheFirstModel", name := "goes", desc := "(I)I" } : Jvm.MethodName), prog_7_method_88_code, 4, some .int), (6, 1, 1, 5, 0)),
  ((({ cls := "FirstAtTheFirstModel", name := "books", desc := "(II)I" } : Jvm.MethodName), prog_7_method_89_code, 5, some .int), (6, 1, 2, 5, 0)),
  ((({ cls := "FirstAtTheFirstModel", name := "again", desc := "()I" } : Jvm.MethodName), prog_7_method_90_code, 3, some .int), (6, 1, 0, 5, 0)),
  ((({ cls := "FirstAtTheFirstModel", name := "deal", desc := "(I)I" } : Jvm.MethodName), prog_7_method_92_code, 5, some .int), (6, 1, 1, 5, 0)),
  ((({ cls := "FirstAtTheFirstModel", name := "below", desc := "(I)I" } : Jvm.MethodName), prog_7_method_91_code, 2, some .int), (6, 1, 1, 5, 0)),
  ((({ cls := "FirstAtTheFirstModel", name := "seed", desc := "(I)I" } : Jvm.MethodName), prog_7_method_93_code, 3, some .int), (6, 1, 1, 5, 0)),
  ((({ cls := "FirstAtTheFirstModel", name := "image", desc := "()I" } : Jvm.MethodName), prog_7_method_97_code, 1, some .int), (6, 1, 0, 5, 0)),
  ((({ cls := "FirstAtTheFirstModel", name := "back", desc := "()I" } : Jvm.MethodName), prog_7_method_98_code, 1, some .int), (6, 1, 0, 5, 0)),
  ((({ cls := "FirstAtTheFirstModel", name := "status", desc := "(I)I" } : Jvm.MethodName), prog_7_method_99_code, 4, some .int), (6, 1, 1, 5, 0))]
theorem zt_m240 : zt_mp ((({ cls := "FirstAtTheFirstModel", name := "stolen", desc := "(II)I" } : Jvm.MethodName), prog_7_method_81_code, 5, some .int), (6, 1, 2, 5, 0)) := ⟨(fun _ => ⟨zw_1342, zt_c6.1, by decide, zt_c6.2.1, zt_c6.2.2.1, zt_c6.2.2.2, zd_11⟩), rfl, rfl, (fun _ => ⟨zw_1340, zw_1341, (Or.inr ⟨5, zt_T5, 43, rfl, by decide, rfl⟩)⟩), (fun e => absurd e (by decide)), (fun e => absurd e (by decide))⟩
theorem zt_m241 : zt_mp ((({ cls := "FirstAtTheFirstModel", name := "fits", desc := "(III)I" } : Jvm.MethodName), prog_7_method_83_code, 7, some .int), (6, 1, 3, 5, 0)) := ⟨(fun _ => ⟨zw_1346, zt_c6.1, by decide, zt_c6.2.1, zt_c6.2.2.1, zt_c6.2.2.2, zd_1⟩), rfl, rfl, (fun _ => ⟨zw_1344, zw_1345, (Or.inr ⟨5, zt_T5, 43, rfl, by decide, rfl⟩)⟩), (fun e => absurd e (by decide)), (fun e => absurd e (by decide))⟩
theorem zt_m242 : zt_mp ((({ cls := "FirstAtTheFirstModel", name := "fitsBy", desc := "([JIII)Z" } : Jvm.MethodName), prog_7_method_82_code, 8, some .boolean), (6, 1, 4, 5, 1)) := ⟨(fun _ => ⟨zw_1350, zt_c6.1, by decide, zt_c6.2.1, zt_c6.2.2.1, zt_c6.2.2.2, zd_40⟩), rfl, rfl, (fun _ => ⟨zw_1349, (zt_insel (zt_p5 (zs4 (zs1 (zs1 (List.Mem.head _)))))), (Or.inr ⟨5, zt_T5, 43, rfl, by decide, rfl⟩)⟩), (fun e => absurd e (by decide)), (fun e => absurd e (by decide))⟩
theorem zt_m243 : zt_mp ((({ cls := "FirstAtTheFirstModel", name := "trades", desc := "(I)I" } : Jvm.MethodName), prog_7_method_85_code, 8, some .int), (6, 1, 1, 5, 0)) := ⟨(fun _ => ⟨zw_1354, zt_c6.1, by decide, zt_c6.2.1, zt_c6.2.2.1, zt_c6.2.2.2, zd_3⟩), rfl, rfl, (fun _ => ⟨zw_1352, zw_1353, (Or.inr ⟨5, zt_T5, 43, rfl, by decide, rfl⟩)⟩), (fun e => absurd e (by decide)), (fun e => absurd e (by decide))⟩
theorem zt_m244 : zt_mp ((({ cls := "FirstAtTheFirstModel", name := "gainOf", desc := "(II)I" } : Jvm.MethodName), prog_7_method_84_code, 5, some .int), (6, 1, 2, 5, 0)) := ⟨(fun _ => ⟨zw_1358, zt_c6.1, by decide, zt_c6.2.1, zt_c6.2.2.1, zt_c6.2.2.2, zd_11⟩), rfl, rfl, (fun _ => ⟨zw_1357, (zt_insel (zt_p5 (zs4 (zs1 (zs1 (zs1 (List.Mem.head _))))))), (Or.inr ⟨5, zt_T5, 43, rfl, by decide, rfl⟩)⟩), (fun e => absurd e (by decide)), (fun e => absurd e (by decide))⟩
theorem zt_m245 : zt_mp ((({ cls := "FirstAtTheFirstModel", name := "swap", desc := "(II)I" } : Jvm.MethodName), prog_7_method_86_code, 4, some .int), (6, 1, 2, 5, 0)) := ⟨(fun _ => ⟨zw_1362, zt_c6.1, by decide, zt_c6.2.1, zt_c6.2.2.1, zt_c6.2.2.2, zd_11⟩), rfl, rfl, (fun _ => ⟨zw_1360, zw_1361, (Or.inr ⟨5, zt_T5, 43, rfl, by decide, rfl⟩)⟩), (fun e => absurd e (by decide)), (fun e => absurd e (by decide))⟩
theorem zt_m246 : zt_mp ((({ cls := "FirstAtTheFirstModel", name := "pick", desc := "(I)I" } : Jvm.MethodName), prog_7_method_87_code, 2, some .int), (6, 1, 1, 5, 0)) := ⟨(fun _ => ⟨zw_1366, zt_c6.1, by decide, zt_c6.2.1, zt_c6.2.2.1, zt_c6.2.2.2, zd_3⟩), rfl, rfl, (fun _ => ⟨zw_1364, zw_1365, (Or.inr ⟨5, zt_T5, 43, rfl, by decide, rfl⟩)⟩), (fun e => absurd e (by decide)), (fun e => absurd e (by decide))⟩
theorem zt_m247 : zt_mp ((({ cls := "FirstAtTheFirstModel", name := "goes", desc := "(I)I" } : Jvm.MethodName), prog_7_method_88_code, 4, some .int), (6, 1, 1, 5, 0)) := ⟨(fun _ => ⟨zw_1371, zt_c6.1, by decide, zt_c6.2.1, zt_c6.2.2.1, zt_c6.2.2.2, zd_3⟩), rfl, rfl, (fun _ => ⟨zw_1369, zw_1370, (Or.inr ⟨5, zt_T5, 43, rfl, by decide, rfl⟩)⟩), (fun e => absurd e (by decide)), (fun e => absurd e (by decide))⟩
theorem zt_m248 : zt_mp ((({ cls := "FirstAtTheFirstModel", name := "books", desc := "(II)I" } : Jvm.MethodName), prog_7_method_89_code, 5, some .int), (6, 1, 2, 5, 0)) := ⟨(fun _ => ⟨zw_1375, zt_c6.1, by decide, zt_c6.2.1, zt_c6.2.2.1, zt_c6.2.2.2, zd_11⟩), rfl, rfl, (fun _ => ⟨zw_1373, zw_1374, (Or.inr ⟨5, zt_T5, 43, rfl, by decide, rfl⟩)⟩), (fun e => absurd e (by decide)), (fun e => absurd e (by decide))⟩
theorem zt_m249 : zt_mp ((({ cls := "FirstAtTheFirstModel", name := "again", desc := "()I" } : Jvm.MethodName), prog_7_method_90_code, 3, some .int), (6, 1, 0, 5, 0)) := ⟨(fun _ => ⟨zw_1379, zt_c6.1, by decide, zt_c6.2.1, zt_c6.2.2.1, zt_c6.2.2.2, zd_21⟩), rfl, rfl, (fun _ => ⟨zw_1377, zw_1378, (Or.inr ⟨5, zt_T5, 43, rfl, by decide, rfl⟩)⟩), (fun e => absurd e (by decide)), (fun e => absurd e (by decide))⟩
theorem zt_m250 : zt_mp ((({ cls := "FirstAtTheFirstModel", name := "deal", desc := "(I)I" } : Jvm.MethodName), prog_7_method_92_code, 5, some .int), (6, 1, 1, 5, 0)) := ⟨(fun _ => ⟨zw_1383, zt_c6.1, by decide, zt_c6.2.1, zt_c6.2.2.1, zt_c6.2.2.2, zd_3⟩), rfl, rfl, (fun _ => ⟨zw_1381, zw_1382, (Or.inr ⟨5, zt_T5, 43, rfl, by decide, rfl⟩)⟩), (fun e => absurd e (by decide)), (fun e => absurd e (by decide))⟩
theorem zt_m251 : zt_mp ((({ cls := "FirstAtTheFirstModel", name := "below", desc := "(I)I" } : Jvm.MethodName), prog_7_method_91_code, 2, some .int), (6, 1, 1, 5, 0)) := ⟨(fun _ => ⟨zw_1387, zt_c6.1, by decide, zt_c6.2.1, zt_c6.2.2.1, zt_c6.2.2.2, zd_3⟩), rfl, rfl, (fun _ => ⟨zw_1386, (zt_insel (zt_p5 (zs4 (zs4 (List.Mem.head _))))), (Or.inr ⟨5, zt_T5, 43, rfl, by decide, rfl⟩)⟩), (fun e => absurd e (by decide)), (fun e => absurd e (by decide))⟩
theorem zt_m252 : zt_mp ((({ cls := "FirstAtTheFirstModel", name := "seed", desc := "(I)I" } : Jvm.MethodName), prog_7_method_93_code, 3, some .int), (6, 1, 1, 5, 0)) := ⟨(fun _ => ⟨zw_1392, zt_c6.1, by decide, zt_c6.2.1, zt_c6.2.2.1, zt_c6.2.2.2, zd_3⟩), rfl, rfl, (fun _ => ⟨zw_1390, zw_1391, (Or.inr ⟨5, zt_T5, 43, rfl, by decide, rfl⟩)⟩), (fun e => absurd e (by decide)), (fun e => absurd e (by decide))⟩
theorem zt_m253 : zt_mp ((({ cls := "FirstAtTheFirstModel", name := "image", desc := "()I" } : Jvm.MethodName), prog_7_method_97_code, 1, some .int), (6, 1, 0, 5, 0)) := ⟨(fun _ => ⟨zw_1396, zt_c6.1, by decide, zt_c6.2.1, zt_c6.2.2.1, zt_c6.2.2.2, zd_21⟩), rfl, rfl, (fun _ => ⟨zw_1394, zw_1395, (Or.inr ⟨5, zt_T5, 43, rfl, by decide, rfl⟩)⟩), (fun e => absurd e (by decide)), (fun e => absurd e (by decide))⟩
theorem zt_m254 : zt_mp ((({ cls := "FirstAtTheFirstModel", name := "back", desc := "()I" } : Jvm.MethodName), prog_7_method_98_code, 1, some .int), (6, 1, 0, 5, 0)) := ⟨(fun _ => ⟨zw_1400, zt_c6.1, by decide, zt_c6.2.1, zt_c6.2.2.1, zt_c6.2.2.2, zd_21⟩), rfl, rfl, (fun _ => ⟨zw_1398, zw_1399, (Or.inr ⟨5, zt_T5, 43, rfl, by decide, rfl⟩)⟩), (fun e => absurd e (by decide)), (fun e => absurd e (by decide))⟩
theorem zt_m255 : zt_mp ((({ cls := "FirstAtTheFirstModel", name := "status", desc := "(I)I" } : Jvm.MethodName), prog_7_method_99_code, 4, some .int), (6, 1, 1, 5, 0)) := ⟨(fun _ => ⟨zw_1404, zt_c6.1, by decide, zt_c6.2.1, zt_c6.2.2.1, zt_c6.2.2.2, zd_3⟩), rfl, rfl, (fun _ => ⟨zw_1402, zw_1403, (Or.inr ⟨5, zt_T5, 43, rfl, by decide, rfl⟩)⟩), (fun e => absurd e (by decide)), (fun e => absurd e (by decide))⟩
theorem zt_mm15 : ∀ q ∈ zt_M15, zt_mp q := (List.forall_mem_cons.mpr ⟨zt_m240, (List.forall_mem_cons.mpr ⟨zt_m241, (List.forall_mem_cons.mpr ⟨zt_m242, (List.forall_mem_cons.mpr ⟨zt_m243, (List.forall_mem_cons.mpr ⟨zt_m244, (List.forall_mem_cons.mpr ⟨zt_m245, (List.forall_mem_cons.mpr ⟨zt_m246, (List.forall_mem_cons.mpr ⟨zt_m247, (List.forall_mem_cons.mpr ⟨zt_m248, (List.forall_mem_cons.mpr ⟨zt_m249, (List.forall_mem_cons.mpr ⟨zt_m250, (List.forall_mem_cons.mpr ⟨zt_m251, (List.forall_mem_cons.mpr ⟨zt_m252, (List.forall_mem_cons.mpr ⟨zt_m253, (List.forall_mem_cons.mpr ⟨zt_m254, (List.forall_mem_cons.mpr ⟨zt_m255, (fun _ h => absurd h List.not_mem_nil)⟩)⟩)⟩)⟩)⟩)⟩)⟩)⟩)⟩)⟩)⟩)⟩)⟩)⟩)⟩)⟩)
def zt_M16 : List (zx_M × Nat × Nat × Nat × Int × Nat) := [((({ cls := "FirstAtTheFirst", name := "isBefore", desc := "([I[II)Z" } : Jvm.MethodName), prog_1_method_66_code, 4, some .boolean), (5, 0, 3, -1, 1))]
theorem zt_m256 : zt_mp ((({ cls := "FirstAtTheFirst", name := "isBefore", desc := "([I[II)Z" } : Jvm.MethodName), prog_1_method_66_code, 4, some .boolean), (5, 0, 3, -1, 1)) := ⟨(fun _ => ⟨zw_742, zt_c5.1, by decide, zt_c5.2.1, zt_c5.2.2.1, zt_c5.2.2.2, zd_41⟩), rfl, rfl, (fun e => absurd e (by decide)), (fun e => absurd e (by decide)), (fun _ => zw_741)⟩
theorem zt_mm16 : ∀ q ∈ zt_M16, zt_mp q := (List.forall_mem_cons.mpr ⟨zt_m256, (fun _ h => absurd h List.not_mem_nil)⟩)
def zt_M : List (zx_M × Nat × Nat × Nat × Int × Nat) := zt_M0 ++ (zt_M1 ++ (zt_M2 ++ (zt_M3 ++ (zt_M4 ++ (zt_M5 ++ (zt_M6 ++ (zt_M7 ++ (zt_M8 ++ (zt_M9 ++ (zt_M10 ++ (zt_M11 ++ (zt_M12 ++ (zt_M13 ++ (zt_M14 ++ (zt_M15 ++ (zt_M16))))))))))))))))
theorem zt_M_ok : ∀ q ∈ zt_M, zt_mp q := List.forall_mem_append.mpr ⟨zt_mm0, List.forall_mem_append.mpr ⟨zt_mm1, List.forall_mem_append.mpr ⟨zt_mm2, List.forall_mem_append.mpr ⟨zt_mm3, List.forall_mem_append.mpr ⟨zt_mm4, List.forall_mem_append.mpr ⟨zt_mm5, List.forall_mem_append.mpr ⟨zt_mm6, List.forall_mem_append.mpr ⟨zt_mm7, List.forall_mem_append.mpr ⟨zt_mm8, List.forall_mem_append.mpr ⟨zt_mm9, List.forall_mem_append.mpr ⟨zt_mm10, List.forall_mem_append.mpr ⟨zt_mm11, List.forall_mem_append.mpr ⟨zt_mm12, List.forall_mem_append.mpr ⟨zt_mm13, List.forall_mem_append.mpr ⟨zt_mm14, List.forall_mem_append.mpr ⟨zt_mm15, zt_mm16⟩⟩⟩⟩⟩⟩⟩⟩⟩⟩⟩⟩⟩⟩⟩⟩
def zt_q (j : Nat) : zx_M × Nat × Nat × Nat × Int × Nat := (zt_M[j]?).getD ((⟨"", "", ""⟩, ⟨#[]⟩, 0, none), 0, 9, 0, 0, 9)
def zt_mt (j : Nat) : zx_M := (zt_q j).1
theorem zt_q_ok {j : Nat} (h : (zt_q j).2.2.1 ≤ 4) : zt_mp (zt_q j) := by
  unfold zt_q at h ⊢
  cases hj : zt_M[j]? with
  | none => rw [hj] at h; exact absurd h (by decide)
  | some q => exact zt_M_ok q (List.mem_of_getElem? hj)
def zt_fl : List (Nat × Nat × Nat × Nat) := [(1, 9, 0, 0), (4, 108, 0, 0), (5, 136, 0, 0), (1, 34, 0, 1), (4, 62, 0, 1), (5, 132, 0, 1), (1, 37, 0, 2), (4, 114, 0, 2), (5, 167, 0, 2), (1, 40, 0, 3), (2, 61, 0, 3), (4, 128, 0, 3), (5, 181, 0, 3), (1, 15, 0, 4), (5, 299, 0, 4), (1, 18, 0, 5), (4, 122, 0, 5), (5, 177, 0, 5), (1, 21, 0, 6), (4, 116, 0, 6), (5, 174, 0, 6), (1, 25, 0, 7), (2, 37, 0, 7), (4, 125, 0, 7), (5, 161, 0, 7), (1, 28, 0, 8), (4, 130, 0, 8), (5, 187, 0, 8), (1, 31, 0, 9), (2, 30, 0, 9), (5, 154, 0, 9), (4, 9, 3, 0), (5, 193, 3, 0), (4, 22, 3, 1), (5, 190, 3, 1), (4, 15, 3, 2), (5, 204, 3, 2), (4, 32, 3, 3), (4, 35, 3, 4), (4, 19, 3, 5), (3, 9, 2, 0), (3, 15, 2, 1), (3, 18, 2, 2), (3, 21, 2, 3), (2, 9, 1, 0), (5, 261, 1, 0), (2, 15, 1, 1), (2, 18, 1, 2), (2, 21, 1, 3), (2, 68, 1, 4), (2, 49, 1, 5), (5, 273, 1, 5), (2, 58, 1, 6), (2, 24, 1, 7), (2, 27, 1, 8), (5, 12, 4, 0), (5, 16, 4, 1), (5, 19, 4, 2), (5, 25, 4, 3), (5, 32, 4, 4), (5, 36, 4, 5), (5, 302, 4, 6), (5, 43, 4, 7), (5, 47, 4, 8), (5, 50, 4, 9), (5, 290, 4, 10), (5, 53, 4, 11), (5, 56, 4, 12), (5, 59, 4, 13), (6, 7, 5, 0), (6, 13, 5, 1), (6, 16, 5, 2), (6, 21, 5, 3), (6, 24, 5, 4), (6, 28, 5, 5), (6, 31, 5, 6), (6, 34, 5, 7), (6, 168, 5, 8), (6, 37, 5, 9), (6, 40, 5, 10), (6, 98, 5, 11), (6, 46, 5, 12), (6, 49, 5, 13), (6, 128, 5, 14), (6, 52, 5, 15), (6, 55, 5, 16), (6, 58, 5, 17), (6, 139, 5, 18), (6, 61, 5, 19), (6, 370, 5, 20), (6, 361, 5, 21), (6, 171, 5, 22), (6, 180, 5, 23), (6, 174, 5, 24), (6, 177, 5, 25), (6, 190, 5, 26), (6, 64, 5, 27), (6, 235, 5, 28), (6, 271, 5, 29), (6, 67, 5, 30), (6, 277, 5, 31), (6, 274, 5, 32), (6, 70, 5, 33), (6, 73, 5, 34), (6, 76, 5, 35), (6, 309, 5, 36), (6, 79, 5, 37), (6, 82, 5, 38), (6, 85, 5, 39), (6, 88, 5, 40), (6, 331, 5, 41), (6, 91, 5, 42)]
theorem zt_fl_0 : zx_gf zt_Ts zt_cl (zt_cn 1) 9 0 0 := ⟨"FirstAtTheFirst$Estate", zt_T0, 10, rfl, by decide, zw_27, rfl, by decide⟩
theorem zt_fl_1 : zx_gf zt_Ts zt_cl (zt_cn 4) 108 0 0 := ⟨"FirstAtTheFirst$Estate", zt_T0, 10, rfl, by decide, zw_28, rfl, by decide⟩
theorem zt_fl_2 : zx_gf zt_Ts zt_cl (zt_cn 5) 136 0 0 := ⟨"FirstAtTheFirst$Estate", zt_T0, 10, rfl, by decide, zw_29, rfl, by decide⟩
theorem zt_fl_3 : zx_gf zt_Ts zt_cl (zt_cn 1) 34 0 1 := ⟨"FirstAtTheFirst$Estate", zt_T0, 10, rfl, by decide, zw_30, rfl, by decide⟩
theorem zt_fl_4 : zx_gf zt_Ts zt_cl (zt_cn 4) 62 0 1 := ⟨"FirstAtTheFirst$Estate", zt_T0, 10, rfl, by decide, zw_31, rfl, by decide⟩
theorem zt_fl_5 : zx_gf zt_Ts zt_cl (zt_cn 5) 132 0 1 := ⟨"FirstAtTheFirst$Estate", zt_T0, 10, rfl, by decide, zw_32, rfl, by decide⟩
theorem zt_fl_6 : zx_gf zt_Ts zt_cl (zt_cn 1) 37 0 2 := ⟨"FirstAtTheFirst$Estate", zt_T0, 10, rfl, by decide, zw_33, rfl, by decide⟩
theorem zt_fl_7 : zx_gf zt_Ts zt_cl (zt_cn 4) 114 0 2 := ⟨"FirstAtTheFirst$Estate", zt_T0, 10, rfl, by decide, zw_34, rfl, by decide⟩
theorem zt_fl_8 : zx_gf zt_Ts zt_cl (zt_cn 5) 167 0 2 := ⟨"FirstAtTheFirst$Estate", zt_T0, 10, rfl, by decide, zw_35, rfl, by decide⟩
theorem zt_fl_9 : zx_gf zt_Ts zt_cl (zt_cn 1) 40 0 3 := ⟨"FirstAtTheFirst$Estate", zt_T0, 10, rfl, by decide, zw_36, rfl, by decide⟩
theorem zt_fl_10 : zx_gf zt_Ts zt_cl (zt_cn 2) 61 0 3 := ⟨"FirstAtTheFirst$Estate", zt_T0, 10, rfl, by decide, zw_37, rfl, by decide⟩
theorem zt_fl_11 : zx_gf zt_Ts zt_cl (zt_cn 4) 128 0 3 := ⟨"FirstAtTheFirst$Estate", zt_T0, 10, rfl, by decide, zw_38, rfl, by decide⟩
theorem zt_fl_12 : zx_gf zt_Ts zt_cl (zt_cn 5) 181 0 3 := ⟨"FirstAtTheFirst$Estate", zt_T0, 10, rfl, by decide, zw_39, rfl, by decide⟩
theorem zt_fl_13 : zx_gf zt_Ts zt_cl (zt_cn 1) 15 0 4 := ⟨"FirstAtTheFirst$Estate", zt_T0, 10, rfl, by decide, zw_40, rfl, by decide⟩
theorem zt_fl_14 : zx_gf zt_Ts zt_cl (zt_cn 5) 299 0 4 := ⟨"FirstAtTheFirst$Estate", zt_T0, 10, rfl, by decide, zw_41, rfl, by decide⟩
theorem zt_fl_15 : zx_gf zt_Ts zt_cl (zt_cn 1) 18 0 5 := ⟨"FirstAtTheFirst$Estate", zt_T0, 10, rfl, by decide, zw_42, rfl, by decide⟩
theorem zt_fl_16 : zx_gf zt_Ts zt_cl (zt_cn 4) 122 0 5 := ⟨"FirstAtTheFirst$Estate", zt_T0, 10, rfl, by decide, zw_43, rfl, by decide⟩
theorem zt_fl_17 : zx_gf zt_Ts zt_cl (zt_cn 5) 177 0 5 := ⟨"FirstAtTheFirst$Estate", zt_T0, 10, rfl, by decide, zw_44, rfl, by decide⟩
theorem zt_fl_18 : zx_gf zt_Ts zt_cl (zt_cn 1) 21 0 6 := ⟨"FirstAtTheFirst$Estate", zt_T0, 10, rfl, by decide, zw_45, rfl, by decide⟩
theorem zt_fl_19 : zx_gf zt_Ts zt_cl (zt_cn 4) 116 0 6 := ⟨"FirstAtTheFirst$Estate", zt_T0, 10, rfl, by decide, zw_46, rfl, by decide⟩
theorem zt_fl_20 : zx_gf zt_Ts zt_cl (zt_cn 5) 174 0 6 := ⟨"FirstAtTheFirst$Estate", zt_T0, 10, rfl, by decide, zw_47, rfl, by decide⟩
theorem zt_fl_21 : zx_gf zt_Ts zt_cl (zt_cn 1) 25 0 7 := ⟨"FirstAtTheFirst$Estate", zt_T0, 10, rfl, by decide, zw_48, rfl, by decide⟩
theorem zt_fl_22 : zx_gf zt_Ts zt_cl (zt_cn 2) 37 0 7 := ⟨"FirstAtTheFirst$Estate", zt_T0, 10, rfl, by decide, zw_49, rfl, by decide⟩
theorem zt_fl_23 : zx_gf zt_Ts zt_cl (zt_cn 4) 125 0 7 := ⟨"FirstAtTheFirst$Estate", zt_T0, 10, rfl, by decide, zw_50, rfl, by decide⟩
theorem zt_fl_24 : zx_gf zt_Ts zt_cl (zt_cn 5) 161 0 7 := ⟨"FirstAtTheFirst$Estate", zt_T0, 10, rfl, by decide, zw_51, rfl, by decide⟩
theorem zt_fl_25 : zx_gf zt_Ts zt_cl (zt_cn 1) 28 0 8 := ⟨"FirstAtTheFirst$Estate", zt_T0, 10, rfl, by decide, zw_52, rfl, by decide⟩
theorem zt_fl_26 : zx_gf zt_Ts zt_cl (zt_cn 4) 130 0 8 := ⟨"FirstAtTheFirst$Estate", zt_T0, 10, rfl, by decide, zw_53, rfl, by decide⟩
theorem zt_fl_27 : zx_gf zt_Ts zt_cl (zt_cn 5) 187 0 8 := ⟨"FirstAtTheFirst$Estate", zt_T0, 10, rfl, by decide, zw_54, rfl, by decide⟩
theorem zt_fl_28 : zx_gf zt_Ts zt_cl (zt_cn 1) 31 0 9 := ⟨"FirstAtTheFirst$Estate", zt_T0, 10, rfl, by decide, zw_55, rfl, by decide⟩
theorem zt_fl_29 : zx_gf zt_Ts zt_cl (zt_cn 2) 30 0 9 := ⟨"FirstAtTheFirst$Estate", zt_T0, 10, rfl, by decide, zw_56, rfl, by decide⟩
theorem zt_fl_30 : zx_gf zt_Ts zt_cl (zt_cn 5) 154 0 9 := ⟨"FirstAtTheFirst$Estate", zt_T0, 10, rfl, by decide, zw_57, rfl, by decide⟩
theorem zt_fl_31 : zx_gf zt_Ts zt_cl (zt_cn 4) 9 3 0 := ⟨"FirstAtTheFirst$Tape", zt_T3, 6, rfl, by decide, zw_86, rfl, by decide⟩
theorem zt_fl_32 : zx_gf zt_Ts zt_cl (zt_cn 5) 193 3 0 := ⟨"FirstAtTheFirst$Tape", zt_T3, 6, rfl, by decide, zw_87, rfl, by decide⟩
theorem zt_fl_33 : zx_gf zt_Ts zt_cl (zt_cn 4) 22 3 1 := ⟨"FirstAtTheFirst$Tape", zt_T3, 6, rfl, by decide, zw_88, rfl, by decide⟩
theorem zt_fl_34 : zx_gf zt_Ts zt_cl (zt_cn 5) 190 3 1 := ⟨"FirstAtTheFirst$Tape", zt_T3, 6, rfl, by decide, zw_89, rfl, by decide⟩
theorem zt_fl_35 : zx_gf zt_Ts zt_cl (zt_cn 4) 15 3 2 := ⟨"FirstAtTheFirst$Tape", zt_T3, 6, rfl, by decide, zw_90, rfl, by decide⟩
theorem zt_fl_36 : zx_gf zt_Ts zt_cl (zt_cn 5) 204 3 2 := ⟨"FirstAtTheFirst$Tape", zt_T3, 6, rfl, by decide, zw_91, rfl, by decide⟩
theorem zt_fl_37 : zx_gf zt_Ts zt_cl (zt_cn 4) 32 3 3 := ⟨"FirstAtTheFirst$Tape", zt_T3, 6, rfl, by decide, zw_92, rfl, by decide⟩
theorem zt_fl_38 : zx_gf zt_Ts zt_cl (zt_cn 4) 35 3 4 := ⟨"FirstAtTheFirst$Tape", zt_T3, 6, rfl, by decide, zw_93, rfl, by decide⟩
theorem zt_fl_39 : zx_gf zt_Ts zt_cl (zt_cn 4) 19 3 5 := ⟨"FirstAtTheFirst$Tape", zt_T3, 6, rfl, by decide, zw_94, rfl, by decide⟩
theorem zt_fl_40 : zx_gf zt_Ts zt_cl (zt_cn 3) 9 2 0 := ⟨"FirstAtTheFirst$Shelves", zt_T2, 4, rfl, by decide, zw_114, rfl, by decide⟩
theorem zt_fl_41 : zx_gf zt_Ts zt_cl (zt_cn 3) 15 2 1 := ⟨"FirstAtTheFirst$Shelves", zt_T2, 4, rfl, by decide, zw_115, rfl, by decide⟩
theorem zt_fl_42 : zx_gf zt_Ts zt_cl (zt_cn 3) 18 2 2 := ⟨"FirstAtTheFirst$Shelves", zt_T2, 4, rfl, by decide, zw_116, rfl, by decide⟩
theorem zt_fl_43 : zx_gf zt_Ts zt_cl (zt_cn 3) 21 2 3 := ⟨"FirstAtTheFirst$Shelves", zt_T2, 4, rfl, by decide, zw_117, rfl, by decide⟩
theorem zt_fl_44 : zx_gf zt_Ts zt_cl (zt_cn 2) 9 1 0 := ⟨"FirstAtTheFirst$Mind", zt_T1, 9, rfl, by decide, zw_134, rfl, by decide⟩
theorem zt_fl_45 : zx_gf zt_Ts zt_cl (zt_cn 5) 261 1 0 := ⟨"FirstAtTheFirst$Mind", zt_T1, 9, rfl, by decide, zw_135, rfl, by decide⟩
theorem zt_fl_46 : zx_gf zt_Ts zt_cl (zt_cn 2) 15 1 1 := ⟨"FirstAtTheFirst$Mind", zt_T1, 9, rfl, by decide, zw_136, rfl, by decide⟩
theorem zt_fl_47 : zx_gf zt_Ts zt_cl (zt_cn 2) 18 1 2 := ⟨"FirstAtTheFirst$Mind", zt_T1, 9, rfl, by decide, zw_137, rfl, by decide⟩
theorem zt_fl_48 : zx_gf zt_Ts zt_cl (zt_cn 2) 21 1 3 := ⟨"FirstAtTheFirst$Mind", zt_T1, 9, rfl, by decide, zw_138, rfl, by decide⟩
theorem zt_fl_49 : zx_gf zt_Ts zt_cl (zt_cn 2) 68 1 4 := ⟨"FirstAtTheFirst$Mind", zt_T1, 9, rfl, by decide, zw_139, rfl, by decide⟩
theorem zt_fl_50 : zx_gf zt_Ts zt_cl (zt_cn 2) 49 1 5 := ⟨"FirstAtTheFirst$Mind", zt_T1, 9, rfl, by decide, zw_140, rfl, by decide⟩
theorem zt_fl_51 : zx_gf zt_Ts zt_cl (zt_cn 5) 273 1 5 := ⟨"FirstAtTheFirst$Mind", zt_T1, 9, rfl, by decide, zw_141, rfl, by decide⟩
theorem zt_fl_52 : zx_gf zt_Ts zt_cl (zt_cn 2) 58 1 6 := ⟨"FirstAtTheFirst$Mind", zt_T1, 9, rfl, by decide, zw_142, rfl, by decide⟩
theorem zt_fl_53 : zx_gf zt_Ts zt_cl (zt_cn 2) 24 1 7 := ⟨"FirstAtTheFirst$Mind", zt_T1, 9, rfl, by decide, zw_143, rfl, by decide⟩
theorem zt_fl_54 : zx_gf zt_Ts zt_cl (zt_cn 2) 27 1 8 := ⟨"FirstAtTheFirst$Mind", zt_T1, 9, rfl, by decide, zw_144, rfl, by decide⟩
theorem zt_fl_55 : zx_gf zt_Ts zt_cl (zt_cn 5) 12 4 0 := ⟨"FirstAtTheFirst", zt_T4, 14, rfl, by decide, zw_164, rfl, by decide⟩
theorem zt_fl_56 : zx_gf zt_Ts zt_cl (zt_cn 5) 16 4 1 := ⟨"FirstAtTheFirst", zt_T4, 14, rfl, by decide, zw_165, rfl, by decide⟩
theorem zt_fl_57 : zx_gf zt_Ts zt_cl (zt_cn 5) 19 4 2 := ⟨"FirstAtTheFirst", zt_T4, 14, rfl, by decide, zw_166, rfl, by decide⟩
theorem zt_fl_58 : zx_gf zt_Ts zt_cl (zt_cn 5) 25 4 3 := ⟨"FirstAtTheFirst", zt_T4, 14, rfl, by decide, zw_167, rfl, by decide⟩
theorem zt_fl_59 : zx_gf zt_Ts zt_cl (zt_cn 5) 32 4 4 := ⟨"FirstAtTheFirst", zt_T4, 14, rfl, by decide, zw_168, rfl, by decide⟩
theorem zt_fl_60 : zx_gf zt_Ts zt_cl (zt_cn 5) 36 4 5 := ⟨"FirstAtTheFirst", zt_T4, 14, rfl, by decide, zw_169, rfl, by decide⟩
theorem zt_fl_61 : zx_gf zt_Ts zt_cl (zt_cn 5) 302 4 6 := ⟨"FirstAtTheFirst", zt_T4, 14, rfl, by decide, zw_170, rfl, by decide⟩
theorem zt_fl_62 : zx_gf zt_Ts zt_cl (zt_cn 5) 43 4 7 := ⟨"FirstAtTheFirst", zt_T4, 14, rfl, by decide, zw_171, rfl, by decide⟩
theorem zt_fl_63 : zx_gf zt_Ts zt_cl (zt_cn 5) 47 4 8 := ⟨"FirstAtTheFirst", zt_T4, 14, rfl, by decide, zw_172, rfl, by decide⟩
theorem zt_fl_64 : zx_gf zt_Ts zt_cl (zt_cn 5) 50 4 9 := ⟨"FirstAtTheFirst", zt_T4, 14, rfl, by decide, zw_173, rfl, by decide⟩
theorem zt_fl_65 : zx_gf zt_Ts zt_cl (zt_cn 5) 290 4 10 := ⟨"FirstAtTheFirst", zt_T4, 14, rfl, by decide, zw_174, rfl, by decide⟩
theorem zt_fl_66 : zx_gf zt_Ts zt_cl (zt_cn 5) 53 4 11 := ⟨"FirstAtTheFirst", zt_T4, 14, rfl, by decide, zw_175, rfl, by decide⟩
theorem zt_fl_67 : zx_gf zt_Ts zt_cl (zt_cn 5) 56 4 12 := ⟨"FirstAtTheFirst", zt_T4, 14, rfl, by decide, zw_176, rfl, by decide⟩
theorem zt_fl_68 : zx_gf zt_Ts zt_cl (zt_cn 5) 59 4 13 := ⟨"FirstAtTheFirst", zt_T4, 14, rfl, by decide, zw_177, rfl, by decide⟩
theorem zt_fl_69 : zx_gf zt_Ts zt_cl (zt_cn 6) 7 5 0 := ⟨"FirstAtTheFirstModel", zt_T5, 43, rfl, by decide, zw_861, rfl, by decide⟩
theorem zt_fl_70 : zx_gf zt_Ts zt_cl (zt_cn 6) 13 5 1 := ⟨"FirstAtTheFirstModel", zt_T5, 43, rfl, by decide, zw_862, rfl, by decide⟩
theorem zt_fl_71 : zx_gf zt_Ts zt_cl (zt_cn 6) 16 5 2 := ⟨"FirstAtTheFirstModel", zt_T5, 43, rfl, by decide, zw_863, rfl, by decide⟩
theorem zt_fl_72 : zx_gf zt_Ts zt_cl (zt_cn 6) 21 5 3 := ⟨"FirstAtTheFirstModel", zt_T5, 43, rfl, by decide, zw_864, rfl, by decide⟩
theorem zt_fl_73 : zx_gf zt_Ts zt_cl (zt_cn 6) 24 5 4 := ⟨"FirstAtTheFirstModel", zt_T5, 43, rfl, by decide, zw_865, rfl, by decide⟩
theorem zt_fl_74 : zx_gf zt_Ts zt_cl (zt_cn 6) 28 5 5 := ⟨"FirstAtTheFirstModel", zt_T5, 43, rfl, by decide, zw_866, rfl, by decide⟩
theorem zt_fl_75 : zx_gf zt_Ts zt_cl (zt_cn 6) 31 5 6 := ⟨"FirstAtTheFirstModel", zt_T5, 43, rfl, by decide, zw_867, rfl, by decide⟩
theorem zt_fl_76 : zx_gf zt_Ts zt_cl (zt_cn 6) 34 5 7 := ⟨"FirstAtTheFirstModel", zt_T5, 43, rfl, by decide, zw_868, rfl, by decide⟩
theorem zt_fl_77 : zx_gf zt_Ts zt_cl (zt_cn 6) 168 5 8 := ⟨"FirstAtTheFirstModel", zt_T5, 43, rfl, by decide, zw_869, rfl, by decide⟩
theorem zt_fl_78 : zx_gf zt_Ts zt_cl (zt_cn 6) 37 5 9 := ⟨"FirstAtTheFirstModel", zt_T5, 43, rfl, by decide, zw_870, rfl, by decide⟩
theorem zt_fl_79 : zx_gf zt_Ts zt_cl (zt_cn 6) 40 5 10 := ⟨"FirstAtTheFirstModel", zt_T5, 43, rfl, by decide, zw_871, rfl, by decide⟩
theorem zt_fl_80 : zx_gf zt_Ts zt_cl (zt_cn 6) 98 5 11 := ⟨"FirstAtTheFirstModel", zt_T5, 43, rfl, by decide, zw_872, rfl, by decide⟩
theorem zt_fl_81 : zx_gf zt_Ts zt_cl (zt_cn 6) 46 5 12 := ⟨"FirstAtTheFirstModel", zt_T5, 43, rfl, by decide, zw_873, rfl, by decide⟩
theorem zt_fl_82 : zx_gf zt_Ts zt_cl (zt_cn 6) 49 5 13 := ⟨"FirstAtTheFirstModel", zt_T5, 43, rfl, by decide, zw_874, rfl, by decide⟩
theorem zt_fl_83 : zx_gf zt_Ts zt_cl (zt_cn 6) 128 5 14 := ⟨"FirstAtTheFirstModel", zt_T5, 43, rfl, by decide, zw_875, rfl, by decide⟩
theorem zt_fl_84 : zx_gf zt_Ts zt_cl (zt_cn 6) 52 5 15 := ⟨"FirstAtTheFirstModel", zt_T5, 43, rfl, by decide, zw_876, rfl, by decide⟩
theorem zt_fl_85 : zx_gf zt_Ts zt_cl (zt_cn 6) 55 5 16 := ⟨"FirstAtTheFirstModel", zt_T5, 43, rfl, by decide, zw_877, rfl, by decide⟩
theorem zt_fl_86 : zx_gf zt_Ts zt_cl (zt_cn 6) 58 5 17 := ⟨"FirstAtTheFirstModel", zt_T5, 43, rfl, by decide, zw_878, rfl, by decide⟩
theorem zt_fl_87 : zx_gf zt_Ts zt_cl (zt_cn 6) 139 5 18 := ⟨"FirstAtTheFirstModel", zt_T5, 43, rfl, by decide, zw_879, rfl, by decide⟩
theorem zt_fl_88 : zx_gf zt_Ts zt_cl (zt_cn 6) 61 5 19 := ⟨"FirstAtTheFirstModel", zt_T5, 43, rfl, by decide, zw_880, rfl, by decide⟩
theorem zt_fl_89 : zx_gf zt_Ts zt_cl (zt_cn 6) 370 5 20 := ⟨"FirstAtTheFirstModel", zt_T5, 43, rfl, by decide, zw_881, rfl, by decide⟩
theorem zt_fl_90 : zx_gf zt_Ts zt_cl (zt_cn 6) 361 5 21 := ⟨"FirstAtTheFirstModel", zt_T5, 43, rfl, by decide, zw_882, rfl, by decide⟩
theorem zt_fl_91 : zx_gf zt_Ts zt_cl (zt_cn 6) 171 5 22 := ⟨"FirstAtTheFirstModel", zt_T5, 43, rfl, by decide, zw_883, rfl, by decide⟩
theorem zt_fl_92 : zx_gf zt_Ts zt_cl (zt_cn 6) 180 5 23 := ⟨"FirstAtTheFirstModel", zt_T5, 43, rfl, by decide, zw_884, rfl, by decide⟩
theorem zt_fl_93 : zx_gf zt_Ts zt_cl (zt_cn 6) 174 5 24 := ⟨"FirstAtTheFirstModel", zt_T5, 43, rfl, by decide, zw_885, rfl, by decide⟩
theorem zt_fl_94 : zx_gf zt_Ts zt_cl (zt_cn 6) 177 5 25 := ⟨"FirstAtTheFirstModel", zt_T5, 43, rfl, by decide, zw_886, rfl, by decide⟩
theorem zt_fl_95 : zx_gf zt_Ts zt_cl (zt_cn 6) 190 5 26 := ⟨"FirstAtTheFirstModel", zt_T5, 43, rfl, by decide, zw_887, rfl, by decide⟩
theorem zt_fl_96 : zx_gf zt_Ts zt_cl (zt_cn 6) 64 5 27 := ⟨"FirstAtTheFirstModel", zt_T5, 43, rfl, by decide, zw_888, rfl, by decide⟩
theorem zt_fl_97 : zx_gf zt_Ts zt_cl (zt_cn 6) 235 5 28 := ⟨"FirstAtTheFirstModel", zt_T5, 43, rfl, by decide, zw_889, rfl, by decide⟩
theorem zt_fl_98 : zx_gf zt_Ts zt_cl (zt_cn 6) 271 5 29 := ⟨"FirstAtTheFirstModel", zt_T5, 43, rfl, by decide, zw_890, rfl, by decide⟩
theorem zt_fl_99 : zx_gf zt_Ts zt_cl (zt_cn 6) 67 5 30 := ⟨"FirstAtTheFirstModel", zt_T5, 43, rfl, by decide, zw_891, rfl, by decide⟩
theorem zt_fl_100 : zx_gf zt_Ts zt_cl (zt_cn 6) 277 5 31 := ⟨"FirstAtTheFirstModel", zt_T5, 43, rfl, by decide, zw_892, rfl, by decide⟩
theorem zt_fl_101 : zx_gf zt_Ts zt_cl (zt_cn 6) 274 5 32 := ⟨"FirstAtTheFirstModel", zt_T5, 43, rfl, by decide, zw_893, rfl, by decide⟩
theorem zt_fl_102 : zx_gf zt_Ts zt_cl (zt_cn 6) 70 5 33 := ⟨"FirstAtTheFirstModel", zt_T5, 43, rfl, by decide, zw_894, rfl, by decide⟩
theorem zt_fl_103 : zx_gf zt_Ts zt_cl (zt_cn 6) 73 5 34 := ⟨"FirstAtTheFirstModel", zt_T5, 43, rfl, by decide, zw_895, rfl, by decide⟩
theorem zt_fl_104 : zx_gf zt_Ts zt_cl (zt_cn 6) 76 5 35 := ⟨"FirstAtTheFirstModel", zt_T5, 43, rfl, by decide, zw_896, rfl, by decide⟩
theorem zt_fl_105 : zx_gf zt_Ts zt_cl (zt_cn 6) 309 5 36 := ⟨"FirstAtTheFirstModel", zt_T5, 43, rfl, by decide, zw_897, rfl, by decide⟩
theorem zt_fl_106 : zx_gf zt_Ts zt_cl (zt_cn 6) 79 5 37 := ⟨"FirstAtTheFirstModel", zt_T5, 43, rfl, by decide, zw_898, rfl, by decide⟩
theorem zt_fl_107 : zx_gf zt_Ts zt_cl (zt_cn 6) 82 5 38 := ⟨"FirstAtTheFirstModel", zt_T5, 43, rfl, by decide, zw_899, rfl, by decide⟩
theorem zt_fl_108 : zx_gf zt_Ts zt_cl (zt_cn 6) 85 5 39 := ⟨"FirstAtTheFirstModel", zt_T5, 43, rfl, by decide, zw_900, rfl, by decide⟩
theorem zt_fl_109 : zx_gf zt_Ts zt_cl (zt_cn 6) 88 5 40 := ⟨"FirstAtTheFirstModel", zt_T5, 43, rfl, by decide, zw_901, rfl, by decide⟩
theorem zt_fl_110 : zx_gf zt_Ts zt_cl (zt_cn 6) 331 5 41 := ⟨"FirstAtTheFirstModel", zt_T5, 43, rfl, by decide, zw_902, rfl, by decide⟩
theorem zt_fl_111 : zx_gf zt_Ts zt_cl (zt_cn 6) 91 5 42 := ⟨"FirstAtTheFirstModel", zt_T5, 43, rfl, by decide, zw_903, rfl, by decide⟩
set_option maxRecDepth 20000 in
theorem zt_fl_ok : ∀ q ∈ zt_fl, zx_gf zt_Ts zt_cl (zt_cn q.1) q.2.1 q.2.2.1 q.2.2.2 := (List.forall_mem_cons.mpr ⟨zt_fl_0, (List.forall_mem_cons.mpr ⟨zt_fl_1, (List.forall_mem_cons.mpr ⟨zt_fl_2, (List.forall_mem_cons.mpr ⟨zt_fl_3, (List.forall_mem_cons.mpr ⟨zt_fl_4, (List.forall_mem_cons.mpr ⟨zt_fl_5, (List.forall_mem_cons.mpr ⟨zt_fl_6, (List.forall_mem_cons.mpr ⟨zt_fl_7, (List.forall_mem_cons.mpr ⟨zt_fl_8, (List.forall_mem_cons.mpr ⟨zt_fl_9, (List.forall_mem_cons.mpr ⟨zt_fl_10, (List.forall_mem_cons.mpr ⟨zt_fl_11, (List.forall_mem_cons.mpr ⟨zt_fl_12, (List.forall_mem_cons.mpr ⟨zt_fl_13, (List.forall_mem_cons.mpr ⟨zt_fl_14, (List.forall_mem_cons.mpr ⟨zt_fl_15, (List.forall_mem_cons.mpr ⟨zt_fl_16, (List.forall_mem_cons.mpr ⟨zt_fl_17, (List.forall_mem_cons.mpr ⟨zt_fl_18, (List.forall_mem_cons.mpr ⟨zt_fl_19, (List.forall_mem_cons.mpr ⟨zt_fl_20, (List.forall_mem_cons.mpr ⟨zt_fl_21, (List.forall_mem_cons.mpr ⟨zt_fl_22, (List.forall_mem_cons.mpr ⟨zt_fl_23, (List.forall_mem_cons.mpr ⟨zt_fl_24, (List.forall_mem_cons.mpr ⟨zt_fl_25, (List.forall_mem_cons.mpr ⟨zt_fl_26, (List.forall_mem_cons.mpr ⟨zt_fl_27, (List.forall_mem_cons.mpr ⟨zt_fl_28, (List.forall_mem_cons.mpr ⟨zt_fl_29, (List.forall_mem_cons.mpr ⟨zt_fl_30, (List.forall_mem_cons.mpr ⟨zt_fl_31, (List.forall_mem_cons.mpr ⟨zt_fl_32, (List.forall_mem_cons.mpr ⟨zt_fl_33, (List.forall_mem_cons.mpr ⟨zt_fl_34, (List.forall_mem_cons.mpr ⟨zt_fl_35, (List.forall_mem_cons.mpr ⟨zt_fl_36, (List.forall_mem_cons.mpr ⟨zt_fl_37, (List.forall_mem_cons.mpr ⟨zt_fl_38, (List.forall_mem_cons.mpr ⟨zt_fl_39, (List.forall_mem_cons.mpr ⟨zt_fl_40, (List.forall_mem_cons.mpr ⟨zt_fl_41, (List.forall_mem_cons.mpr ⟨zt_fl_42, (List.forall_mem_cons.mpr ⟨zt_fl_43, (List.forall_mem_cons.mpr ⟨zt_fl_44, (List.forall_mem_cons.mpr ⟨zt_fl_45, (List.forall_mem_cons.mpr ⟨zt_fl_46, (List.forall_mem_cons.mpr ⟨zt_fl_47, (List.forall_mem_cons.mpr ⟨zt_fl_48, (List.forall_mem_cons.mpr ⟨zt_fl_49, (List.forall_mem_cons.mpr ⟨zt_fl_50, (List.forall_mem_cons.mpr ⟨zt_fl_51, (List.forall_mem_cons.mpr ⟨zt_fl_52, (List.forall_mem_cons.mpr ⟨zt_fl_53, (List.forall_mem_cons.mpr ⟨zt_fl_54, (List.forall_mem_cons.mpr ⟨zt_fl_55, (List.forall_mem_cons.mpr ⟨zt_fl_56, (List.forall_mem_cons.mpr ⟨zt_fl_57, (List.forall_mem_cons.mpr ⟨zt_fl_58, (List.forall_mem_cons.mpr ⟨zt_fl_59, (List.forall_mem_cons.mpr ⟨zt_fl_60, (List.forall_mem_cons.mpr ⟨zt_fl_61, (List.forall_mem_cons.mpr ⟨zt_fl_62, (List.forall_mem_cons.mpr ⟨zt_fl_63, (List.forall_mem_cons.mpr ⟨zt_fl_64, (List.forall_mem_cons.mpr ⟨zt_fl_65, (List.forall_mem_cons.mpr ⟨zt_fl_66, (List.forall_mem_cons.mpr ⟨zt_fl_67, (List.forall_mem_cons.mpr ⟨zt_fl_68, (List.forall_mem_cons.mpr ⟨zt_fl_69, (List.forall_mem_cons.mpr ⟨zt_fl_70, (List.forall_mem_cons.mpr ⟨zt_fl_71, (List.forall_mem_cons.mpr ⟨zt_fl_72, (List.forall_mem_cons.mpr ⟨zt_fl_73, (List.forall_mem_cons.mpr ⟨zt_fl_74, (List.forall_mem_cons.mpr ⟨zt_fl_75, (List.forall_mem_cons.mpr ⟨zt_fl_76, (List.forall_mem_cons.mpr ⟨zt_fl_77, (List.forall_mem_cons.mpr ⟨zt_fl_78, (List.forall_mem_cons.mpr ⟨zt_fl_79, (List.forall_mem_cons.mpr ⟨zt_fl_80, (List.forall_mem_cons.mpr ⟨zt_fl_81, (List.forall_mem_cons.mpr ⟨zt_fl_82, (List.forall_mem_cons.mpr ⟨zt_fl_83, (List.forall_mem_cons.mpr ⟨zt_fl_84, (List.forall_mem_cons.mpr ⟨zt_fl_85, (List.forall_mem_cons.mpr ⟨zt_fl_86, (List.forall_mem_cons.mpr ⟨zt_fl_87, (List.forall_mem_cons.mpr ⟨zt_fl_88, (List.forall_mem_cons.mpr ⟨zt_fl_89, (List.forall_mem_cons.mpr ⟨zt_fl_90, (List.forall_mem_cons.mpr ⟨zt_fl_91, (List.forall_mem_cons.mpr ⟨zt_fl_92, (List.forall_mem_cons.mpr ⟨zt_fl_93, (List.forall_mem_cons.mpr ⟨zt_fl_94, (List.forall_mem_cons.mpr ⟨zt_fl_95, (List.forall_mem_cons.mpr ⟨zt_fl_96, (List.forall_mem_cons.mpr ⟨zt_fl_97, (List.forall_mem_cons.mpr ⟨zt_fl_98, (List.forall_mem_cons.mpr ⟨zt_fl_99, (List.forall_mem_cons.mpr ⟨zt_fl_100, (List.forall_mem_cons.mpr ⟨zt_fl_101, (List.forall_mem_cons.mpr ⟨zt_fl_102, (List.forall_mem_cons.mpr ⟨zt_fl_103, (List.forall_mem_cons.mpr ⟨zt_fl_104, (List.forall_mem_cons.mpr ⟨zt_fl_105, (List.forall_mem_cons.mpr ⟨zt_fl_106, (List.forall_mem_cons.mpr ⟨zt_fl_107, (List.forall_mem_cons.mpr ⟨zt_fl_108, (List.forall_mem_cons.mpr ⟨zt_fl_109, (List.forall_mem_cons.mpr ⟨zt_fl_110, (List.forall_mem_cons.mpr ⟨zt_fl_111, (fun _ h => absurd h List.not_mem_nil)⟩)⟩)⟩)⟩)⟩)⟩)⟩)⟩)⟩)⟩)⟩)⟩)⟩)⟩)⟩)⟩)⟩)⟩)⟩)⟩)⟩)⟩)⟩)⟩)⟩)⟩)⟩)⟩)⟩)⟩)⟩)⟩)⟩)⟩)⟩)⟩)⟩)⟩)⟩)⟩)⟩)⟩)⟩)⟩)⟩)⟩)⟩)⟩)⟩)⟩)⟩)⟩)⟩)⟩)⟩)⟩)⟩)⟩)⟩)⟩)⟩)⟩)⟩)⟩)⟩)⟩)⟩)⟩)⟩)⟩)⟩)⟩)⟩)⟩)⟩)⟩)⟩)⟩)⟩)⟩)⟩)⟩)⟩)⟩)⟩)⟩)⟩)⟩)⟩)⟩)⟩)⟩)⟩)⟩)⟩)⟩)⟩)⟩)⟩)⟩)⟩)⟩)⟩)⟩)⟩)⟩)⟩)⟩)⟩)⟩)⟩)⟩)
def zt_ml : List (Nat × Nat × Nat) := [(0, 9, 1), (5, 3, 2), (1, 3, 2), (4, 3, 2), (3, 3, 2), (2, 3, 2), (0, 13, 7), (5, 62, 8), (5, 66, 9), (5, 69, 10), (5, 242, 11), (5, 157, 12), (5, 73, 13), (3, 47, 14), (3, 51, 15), (3, 33, 16), (3, 25, 8), (3, 37, 9), (3, 54, 17), (0, 20, 18), (5, 77, 19), (5, 80, 15), (5, 83, 14), (0, 25, 20), (5, 87, 21), (3, 40, 19), (5, 91, 22), (3, 58, 23), (0, 30, 24), (5, 95, 23), (0, 35, 25), (5, 99, 16), (0, 40, 26), (5, 102, 27), (5, 105, 28), (5, 109, 29), (5, 112, 30), (0, 45, 31), (5, 115, 32), (5, 118, 33), (5, 121, 34), (5, 122, 35), (5, 126, 36), (5, 129, 37), (5, 258, 38), (2, 38, 40), (1, 58, 41), (1, 55, 27), (1, 51, 42), (2, 46, 43), (2, 53, 44), (5, 227, 45), (2, 64, 46), (1, 62, 47), (2, 71, 48), (5, 312, 50), (2, 86, 51), (2, 100, 52), (2, 103, 54), (2, 83, 55), (2, 106, 56), (2, 78, 57), (2, 109, 58), (2, 122, 59), (2, 112, 60), (2, 90, 62), (2, 129, 63), (2, 132, 64), (2, 94, 65), (2, 126, 66), (2, 135, 113), (0, 49, 67), (5, 139, 68), (0, 53, 69), (5, 142, 70), (5, 145, 71), (0, 57, 72), (5, 148, 42), (5, 151, 41), (0, 61, 73), (0, 65, 74), (5, 164, 75), (0, 69, 76), (5, 170, 77), (0, 73, 78), (0, 77, 79), (5, 184, 80), (0, 81, 81), (0, 85, 82), (0, 90, 83), (5, 196, 84), (5, 200, 85), (4, 25, 86), (4, 42, 87), (4, 28, 88), (4, 58, 89), (4, 46, 90), (9, 335, 91), (4, 52, 92), (9, 492, 93), (9, 495, 94), (10, 9, 95), (9, 1059, 96), (9, 498, 97), (11, 67, 98), (11, 48, 99), (11, 414, 95), (11, 71, 100), (4, 67, 101), (4, 100, 102), (4, 104, 68), (4, 72, 103), (4, 110, 71), (4, 77, 104), (4, 82, 105), (4, 87, 106), (4, 92, 107), (4, 97, 108), (0, 94, 109), (0, 98, 110), (5, 207, 40), (5, 210, 43), (0, 102, 111), (5, 213, 46), (0, 106, 112), (5, 216, 113), (0, 110, 114), (5, 223, 115), (0, 115, 116), (5, 231, 56), (0, 119, 117), (0, 123, 118), (5, 234, 44), (5, 239, 119), (5, 262, 120), (5, 315, 121), (5, 318, 63), (5, 321, 64), (5, 322, 59), (5, 281, 61), (0, 127, 122), (0, 131, 123), (5, 246, 124), (5, 293, 57), (0, 135, 125), (5, 250, 126), (5, 323, 127), (5, 326, 66), (0, 139, 128), (0, 143, 129), (5, 253, 130), (5, 329, 49), (5, 332, 131), (5, 335, 256), (5, 339, 132), (5, 343, 39), (0, 147, 133), (0, 151, 134), (0, 155, 135), (5, 266, 136), (5, 270, 137), (5, 347, 53), (0, 159, 138), (0, 163, 139), (5, 278, 140), (2, 97, 50), (0, 183, 141), (5, 284, 142), (1, 69, 46), (0, 167, 143), (5, 287, 144), (1, 72, 80), (0, 171, 145), (0, 175, 146), (0, 179, 147), (0, 187, 148), (0, 191, 149), (5, 296, 150), (0, 195, 151), (0, 199, 152), (0, 203, 153), (0, 207, 154), (5, 306, 155), (5, 309, 156), (0, 12, 157), (6, 1, 2), (0, 17, 158), (6, 94, 159), (6, 107, 160), (0, 24, 161), (6, 111, 162), (6, 114, 163), (0, 29, 164), (0, 34, 165), (0, 39, 166), (0, 44, 167), (6, 118, 168), (0, 48, 169), (6, 124, 170), (6, 131, 171), (6, 135, 172), (6, 142, 173), (6, 252, 174), (6, 290, 175), (6, 306, 176), (6, 280, 177), (6, 262, 178), (6, 283, 179), (6, 293, 180), (6, 286, 181), (6, 296, 182), (6, 300, 183), (6, 303, 184), (0, 52, 185), (6, 150, 186), (0, 56, 187), (6, 155, 188), (0, 60, 189), (6, 159, 190), (0, 64, 191), (0, 68, 192), (0, 72, 193), (0, 76, 194), (0, 80, 195), (0, 84, 196), (0, 89, 197), (0, 93, 198), (6, 241, 199), (6, 365, 157), (6, 248, 200), (6, 366, 201), (6, 245, 202), (6, 206, 203), (6, 183, 204), (6, 186, 205), (6, 238, 206), (6, 217, 207), (6, 193, 90), (6, 198, 92), (6, 213, 208), (6, 209, 209), (6, 202, 210), (6, 223, 211), (6, 228, 212), (0, 97, 213), (0, 101, 214), (6, 255, 215), (6, 258, 216), (0, 105, 217), (0, 109, 218), (0, 114, 219), (0, 118, 220), (0, 122, 221), (0, 126, 222), (6, 315, 223), (6, 312, 224), (0, 130, 225), (0, 134, 226), (6, 318, 227), (0, 150, 228), (0, 138, 229), (6, 325, 230), (6, 321, 231), (0, 142, 232), (0, 146, 233), (6, 334, 234), (6, 328, 235), (0, 154, 236), (0, 158, 237), (6, 342, 238), (6, 345, 239), (0, 162, 240), (0, 166, 241), (6, 349, 242), (0, 170, 243), (6, 353, 244), (0, 174, 245), (0, 178, 246), (0, 182, 247), (0, 186, 248), (0, 190, 249), (0, 194, 250), (6, 358, 251), (0, 198, 252), (0, 202, 253), (0, 206, 254), (0, 210, 255), (5, 11, 3), (5, 24, 4), (5, 31, 5), (5, 42, 6), (3, 43, 12), (3, 29, 11), (1, 47, 11), (2, 33, 39), (2, 42, 12), (2, 118, 53), (2, 74, 11), (2, 115, 61), (1, 65, 12), (1, 43, 39), (4, 38, 11), (4, 118, 12)]
theorem zt_ml_0 : zx_gc zt_Ts zt_N (zt_cn 0) 9 ({ cls := "FirstAtTheFirst", name := "<init>", desc := "()V" } : Jvm.MethodName) := (Or.inl zw_15)
theorem zt_ml_1 : zx_gc zt_Ts zt_N (zt_cn 5) 3 ({ cls := "java/lang/Object", name := "<init>", desc := "()V" } : Jvm.MethodName) := (Or.inl zw_18)
theorem zt_ml_2 : zx_gc zt_Ts zt_N (zt_cn 1) 3 ({ cls := "java/lang/Object", name := "<init>", desc := "()V" } : Jvm.MethodName) := (Or.inl zw_26)
theorem zt_ml_3 : zx_gc zt_Ts zt_N (zt_cn 4) 3 ({ cls := "java/lang/Object", name := "<init>", desc := "()V" } : Jvm.MethodName) := (Or.inl zw_85)
theorem zt_ml_4 : zx_gc zt_Ts zt_N (zt_cn 3) 3 ({ cls := "java/lang/Object", name := "<init>", desc := "()V" } : Jvm.MethodName) := (Or.inl zw_113)
theorem zt_ml_5 : zx_gc zt_Ts zt_N (zt_cn 2) 3 ({ cls := "java/lang/Object", name := "<init>", desc := "()V" } : Jvm.MethodName) := (Or.inl zw_133)
theorem zt_ml_6 : zx_gc zt_Ts zt_N (zt_cn 0) 13 ({ cls := "FirstAtTheFirst", name := "row", desc := "(III)I" } : Jvm.MethodName) := (Or.inl zw_207)
theorem zt_ml_7 : zx_gc zt_Ts zt_N (zt_cn 5) 62 ({ cls := "FirstAtTheFirst$Shelves", name := "isShelf", desc := "(I)Z" } : Jvm.MethodName) := (Or.inl zw_211)
theorem zt_ml_8 : zx_gc zt_Ts zt_N (zt_cn 5) 66 ({ cls := "FirstAtTheFirst$Shelves", name := "isSort", desc := "(I)Z" } : Jvm.MethodName) := (Or.inl zw_214)
theorem zt_ml_9 : zx_gc zt_Ts zt_N (zt_cn 5) 69 ({ cls := "FirstAtTheFirst", name := "refuse", desc := "(I)I" } : Jvm.MethodName) := (Or.inl zw_217)
theorem zt_ml_10 : zx_gc zt_Ts zt_N (zt_cn 5) 242 ({ cls := "FirstAtTheFirst", name := "at", desc := "([II)I" } : Jvm.MethodName) := (Or.inl zw_221)
theorem zt_ml_11 : zx_gc zt_Ts zt_N (zt_cn 5) 157 ({ cls := "FirstAtTheFirst", name := "put", desc := "([III)V" } : Jvm.MethodName) := (Or.inl zw_224)
theorem zt_ml_12 : zx_gc zt_Ts zt_N (zt_cn 5) 73 ({ cls := "FirstAtTheFirst$Shelves", name := "putRow", desc := "(III)V" } : Jvm.MethodName) := (Or.inl zw_227)
theorem zt_ml_13 : zx_gc zt_Ts zt_N (zt_cn 3) 47 ({ cls := "FirstAtTheFirst$Shelves", name := "putElement", desc := "(IIJ)V" } : Jvm.MethodName) := (Or.inl zw_232)
theorem zt_ml_14 : zx_gc zt_Ts zt_N (zt_cn 3) 51 ({ cls := "FirstAtTheFirst$Shelves", name := "sizeOf", desc := "(I)I" } : Jvm.MethodName) := (Or.inl zw_236)
theorem zt_ml_15 : zx_gc zt_Ts zt_N (zt_cn 3) 33 ({ cls := "FirstAtTheFirst$Shelves", name := "kindOf", desc := "(I)I" } : Jvm.MethodName) := (Or.inl zw_240)
theorem zt_ml_16 : zx_gc zt_Ts zt_N (zt_cn 3) 25 ({ cls := "FirstAtTheFirst$Shelves", name := "isShelf", desc := "(I)Z" } : Jvm.MethodName) := (Or.inl zw_244)
theorem zt_ml_17 : zx_gc zt_Ts zt_N (zt_cn 3) 37 ({ cls := "FirstAtTheFirst$Shelves", name := "isSort", desc := "(I)Z" } : Jvm.MethodName) := (Or.inl zw_246)
theorem zt_ml_18 : zx_gc zt_Ts zt_N (zt_cn 3) 54 ({ cls := "FirstAtTheFirst$Shelves", name := "lowestBits", desc := "(IJ)J" } : Jvm.MethodName) := (Or.inl zw_247)
theorem zt_ml_19 : zx_gc zt_Ts zt_N (zt_cn 0) 20 ({ cls := "FirstAtTheFirst", name := "set", desc := "(IIJ)I" } : Jvm.MethodName) := (Or.inl zw_250)
theorem zt_ml_20 : zx_gc zt_Ts zt_N (zt_cn 5) 77 ({ cls := "FirstAtTheFirst$Shelves", name := "rowTrouble", desc := "(I)I" } : Jvm.MethodName) := (Or.inl zw_254)
theorem zt_ml_21 : zx_gc zt_Ts zt_N (zt_cn 5) 80 ({ cls := "FirstAtTheFirst$Shelves", name := "sizeOf", desc := "(I)I" } : Jvm.MethodName) := (Or.inl zw_258)
theorem zt_ml_22 : zx_gc zt_Ts zt_N (zt_cn 5) 83 ({ cls := "FirstAtTheFirst$Shelves", name := "putElement", desc := "(IIJ)V" } : Jvm.MethodName) := (Or.inl zw_259)
theorem zt_ml_23 : zx_gc zt_Ts zt_N (zt_cn 0) 25 ({ cls := "FirstAtTheFirst", name := "copy", desc := "(IIIII)I" } : Jvm.MethodName) := (Or.inl zw_260)
theorem zt_ml_24 : zx_gc zt_Ts zt_N (zt_cn 5) 87 ({ cls := "FirstAtTheFirst$Shelves", name := "pairTrouble", desc := "(II)I" } : Jvm.MethodName) := (Or.inl zw_264)
theorem zt_ml_25 : zx_gc zt_Ts zt_N (zt_cn 3) 40 ({ cls := "FirstAtTheFirst$Shelves", name := "rowTrouble", desc := "(I)I" } : Jvm.MethodName) := (Or.inl zw_268)
theorem zt_ml_26 : zx_gc zt_Ts zt_N (zt_cn 5) 91 ({ cls := "FirstAtTheFirst$Shelves", name := "copyElements", desc := "(IIIII)V" } : Jvm.MethodName) := (Or.inl zw_269)
theorem zt_ml_27 : zx_gc zt_Ts zt_N (zt_cn 3) 58 ({ cls := "FirstAtTheFirst$Shelves", name := "elementOf", desc := "(II)J" } : Jvm.MethodName) := (Or.inl zw_273)
theorem zt_ml_28 : zx_gc zt_Ts zt_N (zt_cn 0) 30 ({ cls := "FirstAtTheFirst", name := "element", desc := "(II)J" } : Jvm.MethodName) := (Or.inl zw_277)
theorem zt_ml_29 : zx_gc zt_Ts zt_N (zt_cn 5) 95 ({ cls := "FirstAtTheFirst$Shelves", name := "elementOf", desc := "(II)J" } : Jvm.MethodName) := (Or.inl zw_281)
theorem zt_ml_30 : zx_gc zt_Ts zt_N (zt_cn 0) 35 ({ cls := "FirstAtTheFirst", name := "holds", desc := "(I)I" } : Jvm.MethodName) := (Or.inl zw_282)
theorem zt_ml_31 : zx_gc zt_Ts zt_N (zt_cn 5) 99 ({ cls := "FirstAtTheFirst$Shelves", name := "kindOf", desc := "(I)I" } : Jvm.MethodName) := (Or.inl zw_286)
theorem zt_ml_32 : zx_gc zt_Ts zt_N (zt_cn 0) 40 ({ cls := "FirstAtTheFirst", name := "show", desc := "(II)I" } : Jvm.MethodName) := (Or.inl zw_287)
theorem zt_ml_33 : zx_gc zt_Ts zt_N (zt_cn 5) 102 ({ cls := "FirstAtTheFirst$Estate", name := "isSide", desc := "(I)Z" } : Jvm.MethodName) := (Or.inl zw_291)
theorem zt_ml_34 : zx_gc zt_Ts zt_N (zt_cn 5) 105 ({ cls := "FirstAtTheFirst$Shelves", name := "putNothing", desc := "(I)V" } : Jvm.MethodName) := (Or.inl zw_295)
theorem zt_ml_35 : zx_gc zt_Ts zt_N (zt_cn 5) 109 ({ cls := "FirstAtTheFirst$Estate", name := "bentOf", desc := "(I)I" } : Jvm.MethodName) := (Or.inl zw_299)
theorem zt_ml_36 : zx_gc zt_Ts zt_N (zt_cn 5) 112 ({ cls := "FirstAtTheFirst$Shelves", name := "putBent", desc := "(III)V" } : Jvm.MethodName) := (Or.inl zw_304)
theorem zt_ml_37 : zx_gc zt_Ts zt_N (zt_cn 0) 45 ({ cls := "FirstAtTheFirst", name := "says", desc := "(II)I" } : Jvm.MethodName) := (Or.inl zw_308)
theorem zt_ml_38 : zx_gc zt_Ts zt_N (zt_cn 5) 115 ({ cls := "FirstAtTheFirst", name := "isBent", desc := "(I)Z" } : Jvm.MethodName) := (Or.inl zw_312)
theorem zt_ml_39 : zx_gc zt_Ts zt_N (zt_cn 5) 118 ({ cls := "FirstAtTheFirst$Shelves", name := "bentTrouble", desc := "(I)I" } : Jvm.MethodName) := (Or.inl zw_315)
theorem zt_ml_40 : zx_gc zt_Ts zt_N (zt_cn 5) 121 ({ cls := "FirstAtTheFirst$Shelves", name := "bentOf", desc := "(I)I" } : Jvm.MethodName) := (Or.inl zw_319)
theorem zt_ml_41 : zx_gc zt_Ts zt_N (zt_cn 5) 122 ({ cls := "FirstAtTheFirst", name := "isUnder", desc := "(II)Z" } : Jvm.MethodName) := (Or.inl zw_323)
theorem zt_ml_42 : zx_gc zt_Ts zt_N (zt_cn 5) 126 ({ cls := "FirstAtTheFirst$Shelves", name := "sideOfBent", desc := "(I)I" } : Jvm.MethodName) := (Or.inl zw_326)
theorem zt_ml_43 : zx_gc zt_Ts zt_N (zt_cn 5) 129 ({ cls := "FirstAtTheFirst", name := "wouldTake", desc := "(II)I" } : Jvm.MethodName) := (Or.inl zw_330)
theorem zt_ml_44 : zx_gc zt_Ts zt_N (zt_cn 5) 258 ({ cls := "FirstAtTheFirst$Mind", name := "know", desc := "(LFirstAtTheFirst$Estate;)V" } : Jvm.MethodName) := (Or.inl zw_334)
theorem zt_ml_45 : zx_gc zt_Ts zt_N (zt_cn 2) 38 ({ cls := "FirstAtTheFirst$Estate", name := "hasNow", desc := "(I)I" } : Jvm.MethodName) := (Or.inl zw_341)
theorem zt_ml_46 : zx_gc zt_Ts zt_N (zt_cn 1) 58 ({ cls := "FirstAtTheFirst$Estate", name := "worthTo", desc := "(II)I" } : Jvm.MethodName) := (Or.inl zw_345)
theorem zt_ml_47 : zx_gc zt_Ts zt_N (zt_cn 1) 55 ({ cls := "FirstAtTheFirst$Estate", name := "isSide", desc := "(I)Z" } : Jvm.MethodName) := (Or.inl zw_349)
theorem zt_ml_48 : zx_gc zt_Ts zt_N (zt_cn 1) 51 ({ cls := "FirstAtTheFirst$Estate", name := "isThing", desc := "(I)Z" } : Jvm.MethodName) := (Or.inl zw_350)
theorem zt_ml_49 : zx_gc zt_Ts zt_N (zt_cn 2) 46 ({ cls := "FirstAtTheFirst$Estate", name := "setOf", desc := "(I)I" } : Jvm.MethodName) := (Or.inl zw_355)
theorem zt_ml_50 : zx_gc zt_Ts zt_N (zt_cn 2) 53 ({ cls := "java/lang/Integer", name := "bitCount", desc := "(I)I" } : Jvm.MethodName) := (Or.inl zw_359)
theorem zt_ml_51 : zx_gc zt_Ts zt_N (zt_cn 5) 227 ({ cls := "FirstAtTheFirst$Mind", name := "expectLaw", desc := "(LFirstAtTheFirst$Estate;I)V" } : Jvm.MethodName) := (Or.inl zw_365)
theorem zt_ml_52 : zx_gc zt_Ts zt_N (zt_cn 2) 64 ({ cls := "FirstAtTheFirst$Estate", name := "sideAt", desc := "(II)I" } : Jvm.MethodName) := (Or.inl zw_369)
theorem zt_ml_53 : zx_gc zt_Ts zt_N (zt_cn 1) 62 ({ cls := "FirstAtTheFirst$Estate", name := "digitSum", desc := "(II)I" } : Jvm.MethodName) := (Or.inl zw_373)
theorem zt_ml_54 : zx_gc zt_Ts zt_N (zt_cn 2) 71 ({ cls := "FirstAtTheFirst$Mind", name := "forgetLooks", desc := "()V" } : Jvm.MethodName) := (Or.inl zw_376)
theorem zt_ml_55 : zx_gc zt_Ts zt_N (zt_cn 5) 312 ({ cls := "FirstAtTheFirst$Mind", name := "choose", desc := "(III)I" } : Jvm.MethodName) := (Or.inl zw_380)
theorem zt_ml_56 : zx_gc zt_Ts zt_N (zt_cn 2) 86 ({ cls := "FirstAtTheFirst$Mind", name := "chooseBlind", desc := "(III)I" } : Jvm.MethodName) := (Or.inl zw_384)
theorem zt_ml_57 : zx_gc zt_Ts zt_N (zt_cn 2) 100 ({ cls := "FirstAtTheFirst$Mind", name := "first", desc := "(I)I" } : Jvm.MethodName) := (Or.inl zw_388)
theorem zt_ml_58 : zx_gc zt_Ts zt_N (zt_cn 2) 103 ({ cls := "FirstAtTheFirst$Mind", name := "last", desc := "(I)I" } : Jvm.MethodName) := (Or.inl zw_394)
theorem zt_ml_59 : zx_gc zt_Ts zt_N (zt_cn 2) 83 ({ cls := "FirstAtTheFirst$Mind", name := "turnWhen", desc := "(I)I" } : Jvm.MethodName) := (Or.inl zw_397)
theorem zt_ml_60 : zx_gc zt_Ts zt_N (zt_cn 2) 106 ({ cls := "FirstAtTheFirst$Mind", name := "rivalOf", desc := "(II)I" } : Jvm.MethodName) := (Or.inl zw_401)
theorem zt_ml_61 : zx_gc zt_Ts zt_N (zt_cn 2) 78 ({ cls := "java/lang/Math", name := "min", desc := "(II)I" } : Jvm.MethodName) := (Or.inl zw_405)
theorem zt_ml_62 : zx_gc zt_Ts zt_N (zt_cn 2) 109 ({ cls := "FirstAtTheFirst$Mind", name := "greatest", desc := "(III)I" } : Jvm.MethodName) := (Or.inl zw_409)
theorem zt_ml_63 : zx_gc zt_Ts zt_N (zt_cn 2) 122 ({ cls := "FirstAtTheFirst$Mind", name := "worthTo", desc := "(II)I" } : Jvm.MethodName) := (Or.inl zw_413)
theorem zt_ml_64 : zx_gc zt_Ts zt_N (zt_cn 2) 112 ({ cls := "FirstAtTheFirst$Mind", name := "lastLeast", desc := "(II)I" } : Jvm.MethodName) := (Or.inl zw_417)
theorem zt_ml_65 : zx_gc zt_Ts zt_N (zt_cn 2) 90 ({ cls := "FirstAtTheFirst$Mind", name := "lookAhead", desc := "(II)V" } : Jvm.MethodName) := (Or.inl zw_425)
theorem zt_ml_66 : zx_gc zt_Ts zt_N (zt_cn 2) 129 ({ cls := "FirstAtTheFirst$Mind", name := "moverWhen", desc := "(I)I" } : Jvm.MethodName) := (Or.inl zw_429)
theorem zt_ml_67 : zx_gc zt_Ts zt_N (zt_cn 2) 132 ({ cls := "FirstAtTheFirst$Mind", name := "bentOf", desc := "(I)I" } : Jvm.MethodName) := (Or.inl zw_433)
theorem zt_ml_68 : zx_gc zt_Ts zt_N (zt_cn 2) 94 ({ cls := "FirstAtTheFirst$Mind", name := "farthest", desc := "(II)I" } : Jvm.MethodName) := (Or.inl zw_437)
theorem zt_ml_69 : zx_gc zt_Ts zt_N (zt_cn 2) 126 ({ cls := "FirstAtTheFirst$Mind", name := "stillGets", desc := "(II)I" } : Jvm.MethodName) := (Or.inl zw_441)
theorem zt_ml_70 : zx_gc zt_Ts zt_N (zt_cn 2) 135 ({ cls := "java/lang/Math", name := "max", desc := "(II)I" } : Jvm.MethodName) := (Or.inl zw_445)
theorem zt_ml_71 : zx_gc zt_Ts zt_N (zt_cn 0) 49 ({ cls := "FirstAtTheFirst", name := "sides", desc := "(I)I" } : Jvm.MethodName) := (Or.inl zw_448)
theorem zt_ml_72 : zx_gc zt_Ts zt_N (zt_cn 5) 139 ({ cls := "FirstAtTheFirst$Estate", name := "becomeSides", desc := "(I)V" } : Jvm.MethodName) := (Or.inl zw_452)
theorem zt_ml_73 : zx_gc zt_Ts zt_N (zt_cn 0) 53 ({ cls := "FirstAtTheFirst", name := "thing", desc := "(III)I" } : Jvm.MethodName) := (Or.inl zw_457)
theorem zt_ml_74 : zx_gc zt_Ts zt_N (zt_cn 5) 142 ({ cls := "FirstAtTheFirst", name := "isWorth", desc := "(I)Z" } : Jvm.MethodName) := (Or.inl zw_461)
theorem zt_ml_75 : zx_gc zt_Ts zt_N (zt_cn 5) 145 ({ cls := "FirstAtTheFirst$Estate", name := "addThing", desc := "(III)V" } : Jvm.MethodName) := (Or.inl zw_464)
theorem zt_ml_76 : zx_gc zt_Ts zt_N (zt_cn 0) 57 ({ cls := "FirstAtTheFirst", name := "worth", desc := "(III)I" } : Jvm.MethodName) := (Or.inl zw_468)
theorem zt_ml_77 : zx_gc zt_Ts zt_N (zt_cn 5) 148 ({ cls := "FirstAtTheFirst$Estate", name := "isThing", desc := "(I)Z" } : Jvm.MethodName) := (Or.inl zw_472)
theorem zt_ml_78 : zx_gc zt_Ts zt_N (zt_cn 5) 151 ({ cls := "FirstAtTheFirst$Estate", name := "worthTo", desc := "(II)I" } : Jvm.MethodName) := (Or.inl zw_473)
theorem zt_ml_79 : zx_gc zt_Ts zt_N (zt_cn 0) 61 ({ cls := "FirstAtTheFirst", name := "bent", desc := "(II)I" } : Jvm.MethodName) := (Or.inl zw_474)
theorem zt_ml_80 : zx_gc zt_Ts zt_N (zt_cn 0) 65 ({ cls := "FirstAtTheFirst", name := "law", desc := "(I)I" } : Jvm.MethodName) := (Or.inl zw_478)
theorem zt_ml_81 : zx_gc zt_Ts zt_N (zt_cn 5) 164 ({ cls := "FirstAtTheFirst", name := "isLaw", desc := "(I)Z" } : Jvm.MethodName) := (Or.inl zw_482)
theorem zt_ml_82 : zx_gc zt_Ts zt_N (zt_cn 0) 69 ({ cls := "FirstAtTheFirst", name := "order", desc := "(II)I" } : Jvm.MethodName) := (Or.inl zw_485)
theorem zt_ml_83 : zx_gc zt_Ts zt_N (zt_cn 5) 170 ({ cls := "FirstAtTheFirst$Shelves", name := "isRowBelow", desc := "(III)Z" } : Jvm.MethodName) := (Or.inl zw_489)
theorem zt_ml_84 : zx_gc zt_Ts zt_N (zt_cn 0) 73 ({ cls := "FirstAtTheFirst", name := "turn", desc := "(I)I" } : Jvm.MethodName) := (Or.inl zw_493)
theorem zt_ml_85 : zx_gc zt_Ts zt_N (zt_cn 0) 77 ({ cls := "FirstAtTheFirst", name := "own", desc := "(II)I" } : Jvm.MethodName) := (Or.inl zw_498)
theorem zt_ml_86 : zx_gc zt_Ts zt_N (zt_cn 5) 184 ({ cls := "FirstAtTheFirst$Estate", name := "ownerOf", desc := "(I)I" } : Jvm.MethodName) := (Or.inl zw_502)
theorem zt_ml_87 : zx_gc zt_Ts zt_N (zt_cn 0) 81 ({ cls := "FirstAtTheFirst", name := "feed", desc := "(I)I" } : Jvm.MethodName) := (Or.inl zw_506)
theorem zt_ml_88 : zx_gc zt_Ts zt_N (zt_cn 0) 85 ({ cls := "FirstAtTheFirst", name := "wipe", desc := "()I" } : Jvm.MethodName) := (Or.inl zw_510)
theorem zt_ml_89 : zx_gc zt_Ts zt_N (zt_cn 0) 90 ({ cls := "FirstAtTheFirst", name := "estate", desc := "()I" } : Jvm.MethodName) := (Or.inl zw_514)
theorem zt_ml_90 : zx_gc zt_Ts zt_N (zt_cn 5) 196 ({ cls := "FirstAtTheFirst$Estate", name := "become", desc := "(LFirstAtTheFirst$Estate;)V" } : Jvm.MethodName) := (Or.inl zw_518)
theorem zt_ml_91 : zx_gc zt_Ts zt_N (zt_cn 5) 200 ({ cls := "FirstAtTheFirst$Tape", name := "readEstate", desc := "(LFirstAtTheFirst$Estate;)I" } : Jvm.MethodName) := (Or.inl zw_523)
theorem zt_ml_92 : zx_gc zt_Ts zt_N (zt_cn 4) 25 ({ cls := "FirstAtTheFirst$Tape", name := "nextToken", desc := "()V" } : Jvm.MethodName) := (Or.inl zw_527)
theorem zt_ml_93 : zx_gc zt_Ts zt_N (zt_cn 4) 42 ({ cls := "FirstAtTheFirst$Tape", name := "kindAt", desc := "(I)I" } : Jvm.MethodName) := (Or.inl zw_531)
theorem zt_ml_94 : zx_gc zt_Ts zt_N (zt_cn 4) 28 ({ cls := "FirstAtTheFirst$Tape", name := "readStatement", desc := "(LFirstAtTheFirst$Estate;)V" } : Jvm.MethodName) := (Or.inl zw_536)
theorem zt_ml_95 : zx_gc zt_Ts zt_N (zt_cn 4) 58 ({ cls := "FirstAtTheFirst$Tape", name := "isWord", desc := "(Ljava/lang/String;)Z" } : Jvm.MethodName) := (Or.inl zw_541)
theorem zt_ml_96 : zx_gc zt_Ts zt_N (zt_cn 4) 46 ({ cls := "java/lang/String", name := "length", desc := "()I" } : Jvm.MethodName) := (Or.inl zw_545)
theorem zt_ml_97 : zx_gc zt_Ts zt_N (zt_cn 9) 335 ({ cls := "java/lang/String", name := "coder", desc := "()B" } : Jvm.MethodName) := (Or.inl zw_549)
theorem zt_ml_98 : zx_gc zt_Ts zt_N (zt_cn 4) 52 ({ cls := "java/lang/String", name := "charAt", desc := "(I)C" } : Jvm.MethodName) := (Or.inl zw_555)
theorem zt_ml_99 : zx_gc zt_Ts zt_N (zt_cn 9) 492 ({ cls := "java/lang/String", name := "isLatin1", desc := "()Z" } : Jvm.MethodName) := (Or.inl zw_559)
theorem zt_ml_100 : zx_gc zt_Ts zt_N (zt_cn 9) 495 ({ cls := "java/lang/StringLatin1", name := "charAt", desc := "([BI)C" } : Jvm.MethodName) := (Or.inl zw_563)
theorem zt_ml_101 : zx_gc zt_Ts zt_N (zt_cn 10) 9 ({ cls := "java/lang/String", name := "checkIndex", desc := "(II)V" } : Jvm.MethodName) := (Or.inl zw_566)
theorem zt_ml_102 : zx_gc zt_Ts zt_N (zt_cn 9) 1059 ({ cls := "jdk/internal/util/Preconditions", name := "checkIndex", desc := "(IILjava/util/function/BiFunction;)I" } : Jvm.MethodName) := (Or.inl zw_571)
theorem zt_ml_103 : zx_gc zt_Ts zt_N (zt_cn 9) 498 ({ cls := "java/lang/StringUTF16", name := "charAt", desc := "([BI)C" } : Jvm.MethodName) := (Or.inl zw_574)
theorem zt_ml_104 : zx_gc zt_Ts zt_N (zt_cn 11) 67 ({ cls := "java/lang/StringUTF16", name := "checkIndex", desc := "(I[B)V" } : Jvm.MethodName) := (Or.inl zw_577)
theorem zt_ml_105 : zx_gc zt_Ts zt_N (zt_cn 11) 48 ({ cls := "java/lang/StringUTF16", name := "length", desc := "([B)I" } : Jvm.MethodName) := (Or.inl zw_580)
theorem zt_ml_106 : zx_gc zt_Ts zt_N (zt_cn 11) 414 ({ cls := "java/lang/String", name := "checkIndex", desc := "(II)V" } : Jvm.MethodName) := (Or.inl zw_583)
theorem zt_ml_107 : zx_gc zt_Ts zt_N (zt_cn 11) 71 ({ cls := "java/lang/StringUTF16", name := "getChar", desc := "([BI)C" } : Jvm.MethodName) := (Or.inl zw_584)
theorem zt_ml_108 : zx_gc zt_Ts zt_N (zt_cn 4) 67 ({ cls := "FirstAtTheFirst$Tape", name := "readSides", desc := "(LFirstAtTheFirst$Estate;)V" } : Jvm.MethodName) := (Or.inl zw_593)
theorem zt_ml_109 : zx_gc zt_Ts zt_N (zt_cn 4) 100 ({ cls := "FirstAtTheFirst$Tape", name := "readNumber", desc := "(II)I" } : Jvm.MethodName) := (Or.inl zw_597)
theorem zt_ml_110 : zx_gc zt_Ts zt_N (zt_cn 4) 104 ({ cls := "FirstAtTheFirst$Estate", name := "becomeSides", desc := "(I)V" } : Jvm.MethodName) := (Or.inl zw_601)
theorem zt_ml_111 : zx_gc zt_Ts zt_N (zt_cn 4) 72 ({ cls := "FirstAtTheFirst$Tape", name := "readThing", desc := "(LFirstAtTheFirst$Estate;)V" } : Jvm.MethodName) := (Or.inl zw_603)
theorem zt_ml_112 : zx_gc zt_Ts zt_N (zt_cn 4) 110 ({ cls := "FirstAtTheFirst$Estate", name := "addThing", desc := "(III)V" } : Jvm.MethodName) := (Or.inl zw_607)
theorem zt_ml_113 : zx_gc zt_Ts zt_N (zt_cn 4) 77 ({ cls := "FirstAtTheFirst$Tape", name := "readLaw", desc := "(LFirstAtTheFirst$Estate;)V" } : Jvm.MethodName) := (Or.inl zw_609)
theorem zt_ml_114 : zx_gc zt_Ts zt_N (zt_cn 4) 82 ({ cls := "FirstAtTheFirst$Tape", name := "readOrder", desc := "(LFirstAtTheFirst$Estate;)V" } : Jvm.MethodName) := (Or.inl zw_614)
theorem zt_ml_115 : zx_gc zt_Ts zt_N (zt_cn 4) 87 ({ cls := "FirstAtTheFirst$Tape", name := "readBent", desc := "(LFirstAtTheFirst$Estate;)V" } : Jvm.MethodName) := (Or.inl zw_620)
theorem zt_ml_116 : zx_gc zt_Ts zt_N (zt_cn 4) 92 ({ cls := "FirstAtTheFirst$Tape", name := "readTurn", desc := "(LFirstAtTheFirst$Estate;)V" } : Jvm.MethodName) := (Or.inl zw_625)
theorem zt_ml_117 : zx_gc zt_Ts zt_N (zt_cn 4) 97 ({ cls := "FirstAtTheFirst$Tape", name := "readOwns", desc := "(LFirstAtTheFirst$Estate;)V" } : Jvm.MethodName) := (Or.inl zw_630)
theorem zt_ml_118 : zx_gc zt_Ts zt_N (zt_cn 0) 94 ({ cls := "FirstAtTheFirst", name := "thingOf", desc := "(II)I" } : Jvm.MethodName) := (Or.inl zw_635)
theorem zt_ml_119 : zx_gc zt_Ts zt_N (zt_cn 0) 98 ({ cls := "FirstAtTheFirst", name := "sideOf", desc := "(II)I" } : Jvm.MethodName) := (Or.inl zw_639)
theorem zt_ml_120 : zx_gc zt_Ts zt_N (zt_cn 5) 207 ({ cls := "FirstAtTheFirst$Estate", name := "hasNow", desc := "(I)I" } : Jvm.MethodName) := (Or.inl zw_643)
theorem zt_ml_121 : zx_gc zt_Ts zt_N (zt_cn 5) 210 ({ cls := "FirstAtTheFirst$Estate", name := "setOf", desc := "(I)I" } : Jvm.MethodName) := (Or.inl zw_644)
theorem zt_ml_122 : zx_gc zt_Ts zt_N (zt_cn 0) 102 ({ cls := "FirstAtTheFirst", name := "whose", desc := "(II)I" } : Jvm.MethodName) := (Or.inl zw_645)
theorem zt_ml_123 : zx_gc zt_Ts zt_N (zt_cn 5) 213 ({ cls := "FirstAtTheFirst$Estate", name := "sideAt", desc := "(II)I" } : Jvm.MethodName) := (Or.inl zw_649)
theorem zt_ml_124 : zx_gc zt_Ts zt_N (zt_cn 0) 106 ({ cls := "FirstAtTheFirst", name := "runs", desc := "(II)I" } : Jvm.MethodName) := (Or.inl zw_650)
theorem zt_ml_125 : zx_gc zt_Ts zt_N (zt_cn 5) 216 ({ cls := "java/lang/Math", name := "max", desc := "(II)I" } : Jvm.MethodName) := (Or.inl zw_654)
theorem zt_ml_126 : zx_gc zt_Ts zt_N (zt_cn 0) 110 ({ cls := "FirstAtTheFirst", name := "powers", desc := "(III)J" } : Jvm.MethodName) := (Or.inl zw_655)
theorem zt_ml_127 : zx_gc zt_Ts zt_N (zt_cn 5) 223 ({ cls := "FirstAtTheFirst", name := "power", desc := "(JI)J" } : Jvm.MethodName) := (Or.inl zw_660)
theorem zt_ml_128 : zx_gc zt_Ts zt_N (zt_cn 0) 115 ({ cls := "FirstAtTheFirst", name := "rival", desc := "(I)I" } : Jvm.MethodName) := (Or.inl zw_663)
theorem zt_ml_129 : zx_gc zt_Ts zt_N (zt_cn 5) 231 ({ cls := "FirstAtTheFirst$Mind", name := "rivalOf", desc := "(II)I" } : Jvm.MethodName) := (Or.inl zw_667)
theorem zt_ml_130 : zx_gc zt_Ts zt_N (zt_cn 0) 119 ({ cls := "FirstAtTheFirst", name := "takes", desc := "(I)I" } : Jvm.MethodName) := (Or.inl zw_668)
theorem zt_ml_131 : zx_gc zt_Ts zt_N (zt_cn 0) 123 ({ cls := "FirstAtTheFirst", name := "run", desc := "(II)I" } : Jvm.MethodName) := (Or.inl zw_672)
theorem zt_ml_132 : zx_gc zt_Ts zt_N (zt_cn 5) 234 ({ cls := "java/lang/Integer", name := "bitCount", desc := "(I)I" } : Jvm.MethodName) := (Or.inl zw_676)
theorem zt_ml_133 : zx_gc zt_Ts zt_N (zt_cn 5) 239 ({ cls := "FirstAtTheFirst", name := "runByLaw", desc := "(I)V" } : Jvm.MethodName) := (Or.inl zw_677)
theorem zt_ml_134 : zx_gc zt_Ts zt_N (zt_cn 5) 262 ({ cls := "FirstAtTheFirst", name := "goOn", desc := "(LFirstAtTheFirst$Mind;I)V" } : Jvm.MethodName) := (Or.inl zw_681)
theorem zt_ml_135 : zx_gc zt_Ts zt_N (zt_cn 5) 315 ({ cls := "FirstAtTheFirst$Mind", name := "owned", desc := "(I)I" } : Jvm.MethodName) := (Or.inl zw_685)
theorem zt_ml_136 : zx_gc zt_Ts zt_N (zt_cn 5) 318 ({ cls := "FirstAtTheFirst$Mind", name := "moverWhen", desc := "(I)I" } : Jvm.MethodName) := (Or.inl zw_689)
theorem zt_ml_137 : zx_gc zt_Ts zt_N (zt_cn 5) 321 ({ cls := "FirstAtTheFirst$Mind", name := "bentOf", desc := "(I)I" } : Jvm.MethodName) := (Or.inl zw_690)
theorem zt_ml_138 : zx_gc zt_Ts zt_N (zt_cn 5) 322 ({ cls := "FirstAtTheFirst$Mind", name := "worthTo", desc := "(II)I" } : Jvm.MethodName) := (Or.inl zw_691)
theorem zt_ml_139 : zx_gc zt_Ts zt_N (zt_cn 5) 281 ({ cls := "FirstAtTheFirst", name := "without", desc := "(II)I" } : Jvm.MethodName) := (Or.inl zw_692)
theorem zt_ml_140 : zx_gc zt_Ts zt_N (zt_cn 0) 127 ({ cls := "FirstAtTheFirst", name := "gets", desc := "(II)I" } : Jvm.MethodName) := (Or.inl zw_693)
theorem zt_ml_141 : zx_gc zt_Ts zt_N (zt_cn 0) 131 ({ cls := "FirstAtTheFirst", name := "unequal", desc := "(I)I" } : Jvm.MethodName) := (Or.inl zw_697)
theorem zt_ml_142 : zx_gc zt_Ts zt_N (zt_cn 5) 246 ({ cls := "FirstAtTheFirst", name := "spread", desc := "()I" } : Jvm.MethodName) := (Or.inl zw_701)
theorem zt_ml_143 : zx_gc zt_Ts zt_N (zt_cn 5) 293 ({ cls := "java/lang/Math", name := "min", desc := "(II)I" } : Jvm.MethodName) := (Or.inl zw_705)
theorem zt_ml_144 : zx_gc zt_Ts zt_N (zt_cn 0) 135 ({ cls := "FirstAtTheFirst", name := "game", desc := "(II)I" } : Jvm.MethodName) := (Or.inl zw_706)
theorem zt_ml_145 : zx_gc zt_Ts zt_N (zt_cn 5) 250 ({ cls := "FirstAtTheFirst", name := "playGame", desc := "(I)I" } : Jvm.MethodName) := (Or.inl zw_710)
theorem zt_ml_146 : zx_gc zt_Ts zt_N (zt_cn 5) 323 ({ cls := "FirstAtTheFirst$Mind", name := "lookAllAhead", desc := "()I" } : Jvm.MethodName) := (Or.inl zw_714)
theorem zt_ml_147 : zx_gc zt_Ts zt_N (zt_cn 5) 326 ({ cls := "FirstAtTheFirst$Mind", name := "stillGets", desc := "(II)I" } : Jvm.MethodName) := (Or.inl zw_718)
theorem zt_ml_148 : zx_gc zt_Ts zt_N (zt_cn 0) 139 ({ cls := "FirstAtTheFirst", name := "opening", desc := "(I)I" } : Jvm.MethodName) := (Or.inl zw_719)
theorem zt_ml_149 : zx_gc zt_Ts zt_N (zt_cn 0) 143 ({ cls := "FirstAtTheFirst", name := "fairest", desc := "(I)I" } : Jvm.MethodName) := (Or.inl zw_723)
theorem zt_ml_150 : zx_gc zt_Ts zt_N (zt_cn 5) 253 ({ cls := "FirstAtTheFirst", name := "findFairest", desc := "(I)I" } : Jvm.MethodName) := (Or.inl zw_727)
theorem zt_ml_151 : zx_gc zt_Ts zt_N (zt_cn 5) 329 ({ cls := "FirstAtTheFirst$Mind", name := "expectNothing", desc := "()V" } : Jvm.MethodName) := (Or.inl zw_731)
theorem zt_ml_152 : zx_gc zt_Ts zt_N (zt_cn 5) 332 ({ cls := "FirstAtTheFirst", name := "spellOrder", desc := "(II)Z" } : Jvm.MethodName) := (Or.inl zw_736)
theorem zt_ml_153 : zx_gc zt_Ts zt_N (zt_cn 5) 335 ({ cls := "FirstAtTheFirst", name := "isBefore", desc := "([I[II)Z" } : Jvm.MethodName) := (Or.inl zw_740)
theorem zt_ml_154 : zx_gc zt_Ts zt_N (zt_cn 5) 339 ({ cls := "FirstAtTheFirst$Mind", name := "expectRow", desc := "([II)V" } : Jvm.MethodName) := (Or.inl zw_743)
theorem zt_ml_155 : zx_gc zt_Ts zt_N (zt_cn 5) 343 ({ cls := "FirstAtTheFirst", name := "copyAll", desc := "([I[I)V" } : Jvm.MethodName) := (Or.inl zw_747)
theorem zt_ml_156 : zx_gc zt_Ts zt_N (zt_cn 0) 147 ({ cls := "FirstAtTheFirst", name := "best", desc := "()I" } : Jvm.MethodName) := (Or.inl zw_748)
theorem zt_ml_157 : zx_gc zt_Ts zt_N (zt_cn 0) 151 ({ cls := "FirstAtTheFirst", name := "sham", desc := "(II)I" } : Jvm.MethodName) := (Or.inl zw_752)
theorem zt_ml_158 : zx_gc zt_Ts zt_N (zt_cn 0) 155 ({ cls := "FirstAtTheFirst", name := "judge", desc := "(II)I" } : Jvm.MethodName) := (Or.inl zw_757)
theorem zt_ml_159 : zx_gc zt_Ts zt_N (zt_cn 5) 266 ({ cls := "FirstAtTheFirst", name := "bookTrouble", desc := "(III)I" } : Jvm.MethodName) := (Or.inl zw_761)
theorem zt_ml_160 : zx_gc zt_Ts zt_N (zt_cn 5) 270 ({ cls := "FirstAtTheFirst", name := "firstWrong", desc := "(III)I" } : Jvm.MethodName) := (Or.inl zw_765)
theorem zt_ml_161 : zx_gc zt_Ts zt_N (zt_cn 5) 347 ({ cls := "FirstAtTheFirst", name := "isIn", desc := "(II)Z" } : Jvm.MethodName) := (Or.inl zw_770)
theorem zt_ml_162 : zx_gc zt_Ts zt_N (zt_cn 0) 159 ({ cls := "FirstAtTheFirst", name := "stolen", desc := "(II)I" } : Jvm.MethodName) := (Or.inl zw_771)
theorem zt_ml_163 : zx_gc zt_Ts zt_N (zt_cn 0) 163 ({ cls := "FirstAtTheFirst", name := "fits", desc := "(III)I" } : Jvm.MethodName) := (Or.inl zw_775)
theorem zt_ml_164 : zx_gc zt_Ts zt_N (zt_cn 5) 278 ({ cls := "FirstAtTheFirst$Mind", name := "bentsTaking", desc := "(III)I" } : Jvm.MethodName) := (Or.inl zw_779)
theorem zt_ml_165 : zx_gc zt_Ts zt_N (zt_cn 2) 97 ({ cls := "FirstAtTheFirst$Mind", name := "choose", desc := "(III)I" } : Jvm.MethodName) := (Or.inl zw_783)
theorem zt_ml_166 : zx_gc zt_Ts zt_N (zt_cn 0) 183 ({ cls := "FirstAtTheFirst", name := "books", desc := "(II)I" } : Jvm.MethodName) := (Or.inl zw_784)
theorem zt_ml_167 : zx_gc zt_Ts zt_N (zt_cn 5) 284 ({ cls := "FirstAtTheFirst$Estate", name := "takeInTruth", desc := "(I)V" } : Jvm.MethodName) := (Or.inl zw_788)
theorem zt_ml_168 : zx_gc zt_Ts zt_N (zt_cn 1) 69 ({ cls := "FirstAtTheFirst$Estate", name := "sideAt", desc := "(II)I" } : Jvm.MethodName) := (Or.inl zw_792)
theorem zt_ml_169 : zx_gc zt_Ts zt_N (zt_cn 0) 167 ({ cls := "FirstAtTheFirst", name := "trades", desc := "(I)I" } : Jvm.MethodName) := (Or.inl zw_793)
theorem zt_ml_170 : zx_gc zt_Ts zt_N (zt_cn 5) 287 ({ cls := "FirstAtTheFirst$Estate", name := "gainOfTrade", desc := "(II)I" } : Jvm.MethodName) := (Or.inl zw_797)
theorem zt_ml_171 : zx_gc zt_Ts zt_N (zt_cn 1) 72 ({ cls := "FirstAtTheFirst$Estate", name := "ownerOf", desc := "(I)I" } : Jvm.MethodName) := (Or.inl zw_801)
theorem zt_ml_172 : zx_gc zt_Ts zt_N (zt_cn 0) 171 ({ cls := "FirstAtTheFirst", name := "swap", desc := "(II)I" } : Jvm.MethodName) := (Or.inl zw_802)
theorem zt_ml_173 : zx_gc zt_Ts zt_N (zt_cn 0) 175 ({ cls := "FirstAtTheFirst", name := "pick", desc := "(I)I" } : Jvm.MethodName) := (Or.inl zw_806)
theorem zt_ml_174 : zx_gc zt_Ts zt_N (zt_cn 0) 179 ({ cls := "FirstAtTheFirst", name := "goes", desc := "(I)I" } : Jvm.MethodName) := (Or.inl zw_810)
theorem zt_ml_175 : zx_gc zt_Ts zt_N (zt_cn 0) 187 ({ cls := "FirstAtTheFirst", name := "again", desc := "()I" } : Jvm.MethodName) := (Or.inl zw_814)
theorem zt_ml_176 : zx_gc zt_Ts zt_N (zt_cn 0) 191 ({ cls := "FirstAtTheFirst", name := "deal", desc := "(I)I" } : Jvm.MethodName) := (Or.inl zw_818)
theorem zt_ml_177 : zx_gc zt_Ts zt_N (zt_cn 5) 296 ({ cls := "FirstAtTheFirst$Estate", name := "draw", desc := "(I)I" } : Jvm.MethodName) := (Or.inl zw_822)
theorem zt_ml_178 : zx_gc zt_Ts zt_N (zt_cn 0) 195 ({ cls := "FirstAtTheFirst", name := "seed", desc := "(I)I" } : Jvm.MethodName) := (Or.inl zw_827)
theorem zt_ml_179 : zx_gc zt_Ts zt_N (zt_cn 0) 199 ({ cls := "FirstAtTheFirst", name := "image", desc := "()I" } : Jvm.MethodName) := (Or.inl zw_831)
theorem zt_ml_180 : zx_gc zt_Ts zt_N (zt_cn 0) 203 ({ cls := "FirstAtTheFirst", name := "back", desc := "()I" } : Jvm.MethodName) := (Or.inl zw_835)
theorem zt_ml_181 : zx_gc zt_Ts zt_N (zt_cn 0) 207 ({ cls := "FirstAtTheFirst", name := "status", desc := "(I)I" } : Jvm.MethodName) := (Or.inl zw_839)
theorem zt_ml_182 : zx_gc zt_Ts zt_N (zt_cn 5) 306 ({ cls := "FirstAtTheFirst", name := "spreadNow", desc := "()I" } : Jvm.MethodName) := (Or.inl zw_843)
theorem zt_ml_183 : zx_gc zt_Ts zt_N (zt_cn 5) 309 ({ cls := "FirstAtTheFirst$Shelves", name := "countHeld", desc := "()I" } : Jvm.MethodName) := (Or.inl zw_847)
theorem zt_ml_184 : zx_gc zt_Ts zt_N (zt_cn 0) 12 ({ cls := "FirstAtTheFirstModel", name := "<init>", desc := "()V" } : Jvm.MethodName) := (Or.inl zw_853)
theorem zt_ml_185 : zx_gc zt_Ts zt_N (zt_cn 6) 1 ({ cls := "java/lang/Object", name := "<init>", desc := "()V" } : Jvm.MethodName) := (Or.inl zw_856)
theorem zt_ml_186 : zx_gc zt_Ts zt_N (zt_cn 0) 17 ({ cls := "FirstAtTheFirstModel", name := "row", desc := "(III)I" } : Jvm.MethodName) := (Or.inl zw_991)
theorem zt_ml_187 : zx_gc zt_Ts zt_N (zt_cn 6) 94 ({ cls := "FirstAtTheFirstModel", name := "in", desc := "(JJJ)Z" } : Jvm.MethodName) := (Or.inl zw_996)
theorem zt_ml_188 : zx_gc zt_Ts zt_N (zt_cn 6) 107 ({ cls := "FirstAtTheFirstModel", name := "refuse", desc := "(I)I" } : Jvm.MethodName) := (Or.inl zw_1001)
theorem zt_ml_189 : zx_gc zt_Ts zt_N (zt_cn 0) 24 ({ cls := "FirstAtTheFirstModel", name := "set", desc := "(IIJ)I" } : Jvm.MethodName) := (Or.inl zw_1005)
theorem zt_ml_190 : zx_gc zt_Ts zt_N (zt_cn 6) 111 ({ cls := "FirstAtTheFirstModel", name := "noRow", desc := "(I)I" } : Jvm.MethodName) := (Or.inl zw_1009)
theorem zt_ml_191 : zx_gc zt_Ts zt_N (zt_cn 6) 114 ({ cls := "FirstAtTheFirstModel", name := "fit", desc := "(IJ)J" } : Jvm.MethodName) := (Or.inl zw_1013)
theorem zt_ml_192 : zx_gc zt_Ts zt_N (zt_cn 0) 29 ({ cls := "FirstAtTheFirstModel", name := "copy", desc := "(IIIII)I" } : Jvm.MethodName) := (Or.inl zw_1016)
theorem zt_ml_193 : zx_gc zt_Ts zt_N (zt_cn 0) 34 ({ cls := "FirstAtTheFirstModel", name := "element", desc := "(II)J" } : Jvm.MethodName) := (Or.inl zw_1020)
theorem zt_ml_194 : zx_gc zt_Ts zt_N (zt_cn 0) 39 ({ cls := "FirstAtTheFirstModel", name := "holds", desc := "(I)I" } : Jvm.MethodName) := (Or.inl zw_1024)
theorem zt_ml_195 : zx_gc zt_Ts zt_N (zt_cn 0) 44 ({ cls := "FirstAtTheFirstModel", name := "show", desc := "(II)I" } : Jvm.MethodName) := (Or.inl zw_1028)
theorem zt_ml_196 : zx_gc zt_Ts zt_N (zt_cn 6) 118 ({ cls := "FirstAtTheFirstModel", name := "isSide", desc := "(I)Z" } : Jvm.MethodName) := (Or.inl zw_1032)
theorem zt_ml_197 : zx_gc zt_Ts zt_N (zt_cn 0) 48 ({ cls := "FirstAtTheFirstModel", name := "says", desc := "(II)I" } : Jvm.MethodName) := (Or.inl zw_1036)
theorem zt_ml_198 : zx_gc zt_Ts zt_N (zt_cn 6) 124 ({ cls := "FirstAtTheFirstModel", name := "isUnder", desc := "(II)Z" } : Jvm.MethodName) := (Or.inl zw_1041)
theorem zt_ml_199 : zx_gc zt_Ts zt_N (zt_cn 6) 131 ({ cls := "FirstAtTheFirstModel", name := "begin", desc := "(I)V" } : Jvm.MethodName) := (Or.inl zw_1044)
theorem zt_ml_200 : zx_gc zt_Ts zt_N (zt_cn 6) 135 ({ cls := "FirstAtTheFirstModel", name := "left", desc := "()I" } : Jvm.MethodName) := (Or.inl zw_1048)
theorem zt_ml_201 : zx_gc zt_Ts zt_N (zt_cn 6) 142 ({ cls := "FirstAtTheFirstModel", name := "takenBy", desc := "(IIIII)I" } : Jvm.MethodName) := (Or.inl zw_1052)
theorem zt_ml_202 : zx_gc zt_Ts zt_N (zt_cn 6) 252 ({ cls := "FirstAtTheFirstModel", name := "has", desc := "(II)Z" } : Jvm.MethodName) := (Or.inl zw_1056)
theorem zt_ml_203 : zx_gc zt_Ts zt_N (zt_cn 6) 290 ({ cls := "FirstAtTheFirstModel", name := "looking", desc := "(III)I" } : Jvm.MethodName) := (Or.inl zw_1059)
theorem zt_ml_204 : zx_gc zt_Ts zt_N (zt_cn 6) 306 ({ cls := "FirstAtTheFirstModel", name := "looked", desc := "(III)I" } : Jvm.MethodName) := (Or.inl zw_1063)
theorem zt_ml_205 : zx_gc zt_Ts zt_N (zt_cn 6) 280 ({ cls := "FirstAtTheFirstModel", name := "whoseNow", desc := "(I)I" } : Jvm.MethodName) := (Or.inl zw_1067)
theorem zt_ml_206 : zx_gc zt_Ts zt_N (zt_cn 6) 262 ({ cls := "FirstAtTheFirstModel", name := "whoseBy", desc := "(II)I" } : Jvm.MethodName) := (Or.inl zw_1071)
theorem zt_ml_207 : zx_gc zt_Ts zt_N (zt_cn 6) 283 ({ cls := "FirstAtTheFirstModel", name := "rivalOf", desc := "(II)I" } : Jvm.MethodName) := (Or.inl zw_1075)
theorem zt_ml_208 : zx_gc zt_Ts zt_N (zt_cn 6) 293 ({ cls := "FirstAtTheFirstModel", name := "bestOf", desc := "(III)I" } : Jvm.MethodName) := (Or.inl zw_1079)
theorem zt_ml_209 : zx_gc zt_Ts zt_N (zt_cn 6) 286 ({ cls := "FirstAtTheFirstModel", name := "seenBy", desc := "(III)I" } : Jvm.MethodName) := (Or.inl zw_1083)
theorem zt_ml_210 : zx_gc zt_Ts zt_N (zt_cn 6) 296 ({ cls := "FirstAtTheFirstModel", name := "spoiling", desc := "(IIII)I" } : Jvm.MethodName) := (Or.inl zw_1087)
theorem zt_ml_211 : zx_gc zt_Ts zt_N (zt_cn 6) 300 ({ cls := "FirstAtTheFirstModel", name := "bits", desc := "(I)I" } : Jvm.MethodName) := (Or.inl zw_1091)
theorem zt_ml_212 : zx_gc zt_Ts zt_N (zt_cn 6) 303 ({ cls := "FirstAtTheFirstModel", name := "leastOf", desc := "(IIII)I" } : Jvm.MethodName) := (Or.inl zw_1094)
theorem zt_ml_213 : zx_gc zt_Ts zt_N (zt_cn 0) 52 ({ cls := "FirstAtTheFirstModel", name := "sides", desc := "(I)I" } : Jvm.MethodName) := (Or.inl zw_1098)
theorem zt_ml_214 : zx_gc zt_Ts zt_N (zt_cn 6) 150 ({ cls := "FirstAtTheFirstModel", name := "becomeSides", desc := "(I)V" } : Jvm.MethodName) := (Or.inl zw_1104)
theorem zt_ml_215 : zx_gc zt_Ts zt_N (zt_cn 0) 56 ({ cls := "FirstAtTheFirstModel", name := "thing", desc := "(III)I" } : Jvm.MethodName) := (Or.inl zw_1108)
theorem zt_ml_216 : zx_gc zt_Ts zt_N (zt_cn 6) 155 ({ cls := "FirstAtTheFirstModel", name := "addThing", desc := "(III)V" } : Jvm.MethodName) := (Or.inl zw_1113)
theorem zt_ml_217 : zx_gc zt_Ts zt_N (zt_cn 0) 60 ({ cls := "FirstAtTheFirstModel", name := "worth", desc := "(III)I" } : Jvm.MethodName) := (Or.inl zw_1117)
theorem zt_ml_218 : zx_gc zt_Ts zt_N (zt_cn 6) 159 ({ cls := "FirstAtTheFirstModel", name := "isThing", desc := "(I)Z" } : Jvm.MethodName) := (Or.inl zw_1121)
theorem zt_ml_219 : zx_gc zt_Ts zt_N (zt_cn 0) 64 ({ cls := "FirstAtTheFirstModel", name := "bent", desc := "(II)I" } : Jvm.MethodName) := (Or.inl zw_1125)
theorem zt_ml_220 : zx_gc zt_Ts zt_N (zt_cn 0) 68 ({ cls := "FirstAtTheFirstModel", name := "law", desc := "(I)I" } : Jvm.MethodName) := (Or.inl zw_1129)
theorem zt_ml_221 : zx_gc zt_Ts zt_N (zt_cn 0) 72 ({ cls := "FirstAtTheFirstModel", name := "order", desc := "(II)I" } : Jvm.MethodName) := (Or.inl zw_1133)
theorem zt_ml_222 : zx_gc zt_Ts zt_N (zt_cn 0) 76 ({ cls := "FirstAtTheFirstModel", name := "turn", desc := "(I)I" } : Jvm.MethodName) := (Or.inl zw_1138)
theorem zt_ml_223 : zx_gc zt_Ts zt_N (zt_cn 0) 80 ({ cls := "FirstAtTheFirstModel", name := "own", desc := "(II)I" } : Jvm.MethodName) := (Or.inl zw_1143)
theorem zt_ml_224 : zx_gc zt_Ts zt_N (zt_cn 0) 84 ({ cls := "FirstAtTheFirstModel", name := "feed", desc := "(I)I" } : Jvm.MethodName) := (Or.inl zw_1147)
theorem zt_ml_225 : zx_gc zt_Ts zt_N (zt_cn 0) 89 ({ cls := "FirstAtTheFirstModel", name := "wipe", desc := "()I" } : Jvm.MethodName) := (Or.inl zw_1152)
theorem zt_ml_226 : zx_gc zt_Ts zt_N (zt_cn 0) 93 ({ cls := "FirstAtTheFirstModel", name := "estate", desc := "()I" } : Jvm.MethodName) := (Or.inl zw_1156)
theorem zt_ml_227 : zx_gc zt_Ts zt_N (zt_cn 6) 241 ({ cls := "FirstAtTheFirstModel", name := "fresh", desc := "()LFirstAtTheFirstModel;" } : Jvm.MethodName) := (Or.inl zw_1160)
theorem zt_ml_228 : zx_gc zt_Ts zt_N (zt_cn 6) 365 ({ cls := "FirstAtTheFirstModel", name := "<init>", desc := "()V" } : Jvm.MethodName) := (Or.inl zw_1165)
theorem zt_ml_229 : zx_gc zt_Ts zt_N (zt_cn 6) 248 ({ cls := "FirstAtTheFirstModel", name := "takeFrom", desc := "(LFirstAtTheFirstModel;)V" } : Jvm.MethodName) := (Or.inl zw_1166)
theorem zt_ml_230 : zx_gc zt_Ts zt_N (zt_cn 6) 366 ({ cls := "FirstAtTheFirstModel", name := "over", desc := "([I[I)V" } : Jvm.MethodName) := (Or.inl zw_1170)
theorem zt_ml_231 : zx_gc zt_Ts zt_N (zt_cn 6) 245 ({ cls := "FirstAtTheFirstModel", name := "readAll", desc := "()Z" } : Jvm.MethodName) := (Or.inl zw_1173)
theorem zt_ml_232 : zx_gc zt_Ts zt_N (zt_cn 6) 206 ({ cls := "FirstAtTheFirstModel", name := "look", desc := "()V" } : Jvm.MethodName) := (Or.inl zw_1177)
theorem zt_ml_233 : zx_gc zt_Ts zt_N (zt_cn 6) 183 ({ cls := "FirstAtTheFirstModel", name := "isLetter", desc := "(I)Z" } : Jvm.MethodName) := (Or.inl zw_1181)
theorem zt_ml_234 : zx_gc zt_Ts zt_N (zt_cn 6) 186 ({ cls := "FirstAtTheFirstModel", name := "isDigit", desc := "(I)Z" } : Jvm.MethodName) := (Or.inl zw_1184)
theorem zt_ml_235 : zx_gc zt_Ts zt_N (zt_cn 6) 238 ({ cls := "FirstAtTheFirstModel", name := "statement", desc := "()Z" } : Jvm.MethodName) := (Or.inl zw_1188)
theorem zt_ml_236 : zx_gc zt_Ts zt_N (zt_cn 6) 217 ({ cls := "FirstAtTheFirstModel", name := "isWord", desc := "(Ljava/lang/String;)Z" } : Jvm.MethodName) := (Or.inl zw_1193)
theorem zt_ml_237 : zx_gc zt_Ts zt_N (zt_cn 6) 193 ({ cls := "java/lang/String", name := "length", desc := "()I" } : Jvm.MethodName) := (Or.inl zw_1197)
theorem zt_ml_238 : zx_gc zt_Ts zt_N (zt_cn 6) 198 ({ cls := "java/lang/String", name := "charAt", desc := "(I)C" } : Jvm.MethodName) := (Or.inl zw_1198)
theorem zt_ml_239 : zx_gc zt_Ts zt_N (zt_cn 6) 213 ({ cls := "FirstAtTheFirstModel", name := "tells", desc := "(II)Z" } : Jvm.MethodName) := (Or.inl zw_1199)
theorem zt_ml_240 : zx_gc zt_Ts zt_N (zt_cn 6) 209 ({ cls := "FirstAtTheFirstModel", name := "number", desc := "(III)Z" } : Jvm.MethodName) := (Or.inl zw_1203)
theorem zt_ml_241 : zx_gc zt_Ts zt_N (zt_cn 6) 202 ({ cls := "FirstAtTheFirstModel", name := "wrong", desc := "()Z" } : Jvm.MethodName) := (Or.inl zw_1207)
theorem zt_ml_242 : zx_gc zt_Ts zt_N (zt_cn 6) 223 ({ cls := "FirstAtTheFirstModel", name := "thingTold", desc := "()Z" } : Jvm.MethodName) := (Or.inl zw_1212)
theorem zt_ml_243 : zx_gc zt_Ts zt_N (zt_cn 6) 228 ({ cls := "FirstAtTheFirstModel", name := "orderTold", desc := "()Z" } : Jvm.MethodName) := (Or.inl zw_1218)
theorem zt_ml_244 : zx_gc zt_Ts zt_N (zt_cn 0) 97 ({ cls := "FirstAtTheFirstModel", name := "thingOf", desc := "(II)I" } : Jvm.MethodName) := (Or.inl zw_1225)
theorem zt_ml_245 : zx_gc zt_Ts zt_N (zt_cn 0) 101 ({ cls := "FirstAtTheFirstModel", name := "sideOf", desc := "(II)I" } : Jvm.MethodName) := (Or.inl zw_1229)
theorem zt_ml_246 : zx_gc zt_Ts zt_N (zt_cn 6) 255 ({ cls := "FirstAtTheFirstModel", name := "owned", desc := "(I)I" } : Jvm.MethodName) := (Or.inl zw_1233)
theorem zt_ml_247 : zx_gc zt_Ts zt_N (zt_cn 6) 258 ({ cls := "FirstAtTheFirstModel", name := "worthOf", desc := "(II)I" } : Jvm.MethodName) := (Or.inl zw_1237)
theorem zt_ml_248 : zx_gc zt_Ts zt_N (zt_cn 0) 105 ({ cls := "FirstAtTheFirstModel", name := "whose", desc := "(II)I" } : Jvm.MethodName) := (Or.inl zw_1241)
theorem zt_ml_249 : zx_gc zt_Ts zt_N (zt_cn 0) 109 ({ cls := "FirstAtTheFirstModel", name := "runs", desc := "(II)I" } : Jvm.MethodName) := (Or.inl zw_1245)
theorem zt_ml_250 : zx_gc zt_Ts zt_N (zt_cn 0) 114 ({ cls := "FirstAtTheFirstModel", name := "powers", desc := "(III)J" } : Jvm.MethodName) := (Or.inl zw_1250)
theorem zt_ml_251 : zx_gc zt_Ts zt_N (zt_cn 0) 118 ({ cls := "FirstAtTheFirstModel", name := "rival", desc := "(I)I" } : Jvm.MethodName) := (Or.inl zw_1256)
theorem zt_ml_252 : zx_gc zt_Ts zt_N (zt_cn 0) 122 ({ cls := "FirstAtTheFirstModel", name := "takes", desc := "(I)I" } : Jvm.MethodName) := (Or.inl zw_1260)
theorem zt_ml_253 : zx_gc zt_Ts zt_N (zt_cn 0) 126 ({ cls := "FirstAtTheFirstModel", name := "run", desc := "(II)I" } : Jvm.MethodName) := (Or.inl zw_1264)
theorem zt_ml_254 : zx_gc zt_Ts zt_N (zt_cn 6) 315 ({ cls := "FirstAtTheFirstModel", name := "runBy", desc := "(I)V" } : Jvm.MethodName) := (Or.inl zw_1268)
theorem zt_ml_255 : zx_gc zt_Ts zt_N (zt_cn 6) 312 ({ cls := "FirstAtTheFirstModel", name := "goesRun", desc := "()V" } : Jvm.MethodName) := (Or.inl zw_1272)
theorem zt_ml_256 : zx_gc zt_Ts zt_N (zt_cn 0) 130 ({ cls := "FirstAtTheFirstModel", name := "gets", desc := "(II)I" } : Jvm.MethodName) := (Or.inl zw_1276)
theorem zt_ml_257 : zx_gc zt_Ts zt_N (zt_cn 0) 134 ({ cls := "FirstAtTheFirstModel", name := "unequal", desc := "(I)I" } : Jvm.MethodName) := (Or.inl zw_1280)
theorem zt_ml_258 : zx_gc zt_Ts zt_N (zt_cn 6) 318 ({ cls := "FirstAtTheFirstModel", name := "unequalNow", desc := "()I" } : Jvm.MethodName) := (Or.inl zw_1284)
theorem zt_ml_259 : zx_gc zt_Ts zt_N (zt_cn 0) 150 ({ cls := "FirstAtTheFirstModel", name := "best", desc := "()I" } : Jvm.MethodName) := (Or.inl zw_1288)
theorem zt_ml_260 : zx_gc zt_Ts zt_N (zt_cn 0) 138 ({ cls := "FirstAtTheFirstModel", name := "game", desc := "(II)I" } : Jvm.MethodName) := (Or.inl zw_1292)
theorem zt_ml_261 : zx_gc zt_Ts zt_N (zt_cn 6) 325 ({ cls := "FirstAtTheFirstModel", name := "gameBy", desc := "(I)V" } : Jvm.MethodName) := (Or.inl zw_1296)
theorem zt_ml_262 : zx_gc zt_Ts zt_N (zt_cn 6) 321 ({ cls := "FirstAtTheFirstModel", name := "findGame", desc := "(II)V" } : Jvm.MethodName) := (Or.inl zw_1300)
theorem zt_ml_263 : zx_gc zt_Ts zt_N (zt_cn 0) 142 ({ cls := "FirstAtTheFirstModel", name := "opening", desc := "(I)I" } : Jvm.MethodName) := (Or.inl zw_1304)
theorem zt_ml_264 : zx_gc zt_Ts zt_N (zt_cn 0) 146 ({ cls := "FirstAtTheFirstModel", name := "fairest", desc := "(I)I" } : Jvm.MethodName) := (Or.inl zw_1308)
theorem zt_ml_265 : zx_gc zt_Ts zt_N (zt_cn 6) 334 ({ cls := "FirstAtTheFirstModel", name := "seekFairest", desc := "(II)V" } : Jvm.MethodName) := (Or.inl zw_1312)
theorem zt_ml_266 : zx_gc zt_Ts zt_N (zt_cn 6) 328 ({ cls := "FirstAtTheFirstModel", name := "isEven", desc := "(I)Z" } : Jvm.MethodName) := (Or.inl zw_1316)
theorem zt_ml_267 : zx_gc zt_Ts zt_N (zt_cn 0) 154 ({ cls := "FirstAtTheFirstModel", name := "sham", desc := "(II)I" } : Jvm.MethodName) := (Or.inl zw_1320)
theorem zt_ml_268 : zx_gc zt_Ts zt_N (zt_cn 0) 158 ({ cls := "FirstAtTheFirstModel", name := "judge", desc := "(II)I" } : Jvm.MethodName) := (Or.inl zw_1325)
theorem zt_ml_269 : zx_gc zt_Ts zt_N (zt_cn 6) 342 ({ cls := "FirstAtTheFirstModel", name := "noBook", desc := "(III)I" } : Jvm.MethodName) := (Or.inl zw_1329)
theorem zt_ml_270 : zx_gc zt_Ts zt_N (zt_cn 6) 345 ({ cls := "FirstAtTheFirstModel", name := "wrongIn", desc := "([JII)I" } : Jvm.MethodName) := (Or.inl zw_1334)
theorem zt_ml_271 : zx_gc zt_Ts zt_N (zt_cn 0) 162 ({ cls := "FirstAtTheFirstModel", name := "stolen", desc := "(II)I" } : Jvm.MethodName) := (Or.inl zw_1339)
theorem zt_ml_272 : zx_gc zt_Ts zt_N (zt_cn 0) 166 ({ cls := "FirstAtTheFirstModel", name := "fits", desc := "(III)I" } : Jvm.MethodName) := (Or.inl zw_1343)
theorem zt_ml_273 : zx_gc zt_Ts zt_N (zt_cn 6) 349 ({ cls := "FirstAtTheFirstModel", name := "fitsBy", desc := "([JIII)Z" } : Jvm.MethodName) := (Or.inl zw_1347)
theorem zt_ml_274 : zx_gc zt_Ts zt_N (zt_cn 0) 170 ({ cls := "FirstAtTheFirstModel", name := "trades", desc := "(I)I" } : Jvm.MethodName) := (Or.inl zw_1351)
theorem zt_ml_275 : zx_gc zt_Ts zt_N (zt_cn 6) 353 ({ cls := "FirstAtTheFirstModel", name := "gainOf", desc := "(II)I" } : Jvm.MethodName) := (Or.inl zw_1355)
theorem zt_ml_276 : zx_gc zt_Ts zt_N (zt_cn 0) 174 ({ cls := "FirstAtTheFirstModel", name := "swap", desc := "(II)I" } : Jvm.MethodName) := (Or.inl zw_1359)
theorem zt_ml_277 : zx_gc zt_Ts zt_N (zt_cn 0) 178 ({ cls := "FirstAtTheFirstModel", name := "pick", desc := "(I)I" } : Jvm.MethodName) := (Or.inl zw_1363)
theorem zt_ml_278 : zx_gc zt_Ts zt_N (zt_cn 0) 182 ({ cls := "FirstAtTheFirstModel", name := "goes", desc := "(I)I" } : Jvm.MethodName) := (Or.inl zw_1368)
theorem zt_ml_279 : zx_gc zt_Ts zt_N (zt_cn 0) 186 ({ cls := "FirstAtTheFirstModel", name := "books", desc := "(II)I" } : Jvm.MethodName) := (Or.inl zw_1372)
theorem zt_ml_280 : zx_gc zt_Ts zt_N (zt_cn 0) 190 ({ cls := "FirstAtTheFirstModel", name := "again", desc := "()I" } : Jvm.MethodName) := (Or.inl zw_1376)
theorem zt_ml_281 : zx_gc zt_Ts zt_N (zt_cn 0) 194 ({ cls := "FirstAtTheFirstModel", name := "deal", desc := "(I)I" } : Jvm.MethodName) := (Or.inl zw_1380)
theorem zt_ml_282 : zx_gc zt_Ts zt_N (zt_cn 6) 358 ({ cls := "FirstAtTheFirstModel", name := "below", desc := "(I)I" } : Jvm.MethodName) := (Or.inl zw_1384)
theorem zt_ml_283 : zx_gc zt_Ts zt_N (zt_cn 0) 198 ({ cls := "FirstAtTheFirstModel", name := "seed", desc := "(I)I" } : Jvm.MethodName) := (Or.inl zw_1389)
theorem zt_ml_284 : zx_gc zt_Ts zt_N (zt_cn 0) 202 ({ cls := "FirstAtTheFirstModel", name := "image", desc := "()I" } : Jvm.MethodName) := (Or.inl zw_1393)
theorem zt_ml_285 : zx_gc zt_Ts zt_N (zt_cn 0) 206 ({ cls := "FirstAtTheFirstModel", name := "back", desc := "()I" } : Jvm.MethodName) := (Or.inl zw_1397)
theorem zt_ml_286 : zx_gc zt_Ts zt_N (zt_cn 0) 210 ({ cls := "FirstAtTheFirstModel", name := "status", desc := "(I)I" } : Jvm.MethodName) := (Or.inl zw_1401)
theorem zt_ml_287 : zx_gc zt_Ts zt_N (zt_cn 5) 11 ({ cls := "FirstAtTheFirst$Estate", name := "<init>", desc := "()V" } : Jvm.MethodName) := (Or.inr ⟨"FirstAtTheFirst", (List.Mem.head _)⟩)
theorem zt_ml_288 : zx_gc zt_Ts zt_N (zt_cn 5) 24 ({ cls := "FirstAtTheFirst$Tape", name := "<init>", desc := "()V" } : Jvm.MethodName) := (Or.inr ⟨"FirstAtTheFirst", (zs1 (List.Mem.head _))⟩)
theorem zt_ml_289 : zx_gc zt_Ts zt_N (zt_cn 5) 31 ({ cls := "FirstAtTheFirst$Shelves", name := "<init>", desc := "()V" } : Jvm.MethodName) := (Or.inr ⟨"FirstAtTheFirst", (zs1 (zs1 (List.Mem.head _)))⟩)
theorem zt_ml_290 : zx_gc zt_Ts zt_N (zt_cn 5) 42 ({ cls := "FirstAtTheFirst$Mind", name := "<init>", desc := "()V" } : Jvm.MethodName) := (Or.inr ⟨"FirstAtTheFirst", (zs1 (zs1 (zs1 (List.Mem.head _))))⟩)
theorem zt_ml_291 : zx_gc zt_Ts zt_N (zt_cn 3) 43 ({ cls := "FirstAtTheFirst", name := "put", desc := "([III)V" } : Jvm.MethodName) := (Or.inr ⟨"FirstAtTheFirst", (zs4 (List.Mem.head _))⟩)
theorem zt_ml_292 : zx_gc zt_Ts zt_N (zt_cn 3) 29 ({ cls := "FirstAtTheFirst", name := "at", desc := "([II)I" } : Jvm.MethodName) := (Or.inr ⟨"FirstAtTheFirst", (zs4 (zs1 (List.Mem.head _)))⟩)
theorem zt_ml_293 : zx_gc zt_Ts zt_N (zt_cn 1) 47 ({ cls := "FirstAtTheFirst", name := "at", desc := "([II)I" } : Jvm.MethodName) := (Or.inr ⟨"FirstAtTheFirst", (zs4 (zs1 (zs1 (List.Mem.head _))))⟩)
theorem zt_ml_294 : zx_gc zt_Ts zt_N (zt_cn 2) 33 ({ cls := "FirstAtTheFirst", name := "copyAll", desc := "([I[I)V" } : Jvm.MethodName) := (Or.inr ⟨"FirstAtTheFirst", (zs4 (zs1 (zs1 (zs1 (List.Mem.head _)))))⟩)
theorem zt_ml_295 : zx_gc zt_Ts zt_N (zt_cn 2) 42 ({ cls := "FirstAtTheFirst", name := "put", desc := "([III)V" } : Jvm.MethodName) := (Or.inr ⟨"FirstAtTheFirst", (zs4 (zs4 (List.Mem.head _)))⟩)
theorem zt_ml_296 : zx_gc zt_Ts zt_N (zt_cn 2) 118 ({ cls := "FirstAtTheFirst", name := "isIn", desc := "(II)Z" } : Jvm.MethodName) := (Or.inr ⟨"FirstAtTheFirst", (zs4 (zs4 (zs1 (List.Mem.head _))))⟩)
theorem zt_ml_297 : zx_gc zt_Ts zt_N (zt_cn 2) 74 ({ cls := "FirstAtTheFirst", name := "at", desc := "([II)I" } : Jvm.MethodName) := (Or.inr ⟨"FirstAtTheFirst", (zs4 (zs4 (zs1 (zs1 (List.Mem.head _)))))⟩)
theorem zt_ml_298 : zx_gc zt_Ts zt_N (zt_cn 2) 115 ({ cls := "FirstAtTheFirst", name := "without", desc := "(II)I" } : Jvm.MethodName) := (Or.inr ⟨"FirstAtTheFirst", (zs4 (zs4 (zs1 (zs1 (zs1 (List.Mem.head _))))))⟩)
theorem zt_ml_299 : zx_gc zt_Ts zt_N (zt_cn 1) 65 ({ cls := "FirstAtTheFirst", name := "put", desc := "([III)V" } : Jvm.MethodName) := (Or.inr ⟨"FirstAtTheFirst", (zs4 (zs4 (zs4 (List.Mem.head _))))⟩)
theorem zt_ml_300 : zx_gc zt_Ts zt_N (zt_cn 1) 43 ({ cls := "FirstAtTheFirst", name := "copyAll", desc := "([I[I)V" } : Jvm.MethodName) := (Or.inr ⟨"FirstAtTheFirst", (zs4 (zs4 (zs4 (zs1 (List.Mem.head _)))))⟩)
theorem zt_ml_301 : zx_gc zt_Ts zt_N (zt_cn 4) 38 ({ cls := "FirstAtTheFirst", name := "at", desc := "([II)I" } : Jvm.MethodName) := (Or.inr ⟨"FirstAtTheFirst", (zs4 (zs4 (zs4 (zs1 (zs1 (List.Mem.head _))))))⟩)
theorem zt_ml_302 : zx_gc zt_Ts zt_N (zt_cn 4) 118 ({ cls := "FirstAtTheFirst", name := "put", desc := "([III)V" } : Jvm.MethodName) := (Or.inr ⟨"FirstAtTheFirst", (zs4 (zs4 (zs4 (zs1 (zs1 (zs1 (List.Mem.head _)))))))⟩)
def zt_mlok (q : Nat × Nat × Nat) : Prop := zx_gc zt_Ts zt_N (zt_cn q.1) q.2.1 (zt_mt q.2.2).1
theorem zt_mlk_0 : zt_mlok (0, 9, 1) := zt_ml_0
theorem zt_mlk_1 : zt_mlok (5, 3, 2) := zt_ml_1
theorem zt_mlk_2 : zt_mlok (1, 3, 2) := zt_ml_2
theorem zt_mlk_3 : zt_mlok (4, 3, 2) := zt_ml_3
theorem zt_mlk_4 : zt_mlok (3, 3, 2) := zt_ml_4
theorem zt_mlk_5 : zt_mlok (2, 3, 2) := zt_ml_5
theorem zt_mlk_6 : zt_mlok (0, 13, 7) := zt_ml_6
theorem zt_mlk_7 : zt_mlok (5, 62, 8) := zt_ml_7
theorem zt_mlk_8 : zt_mlok (5, 66, 9) := zt_ml_8
theorem zt_mlk_9 : zt_mlok (5, 69, 10) := zt_ml_9
theorem zt_mlk_10 : zt_mlok (5, 242, 11) := zt_ml_10
theorem zt_mlk_11 : zt_mlok (5, 157, 12) := zt_ml_11
theorem zt_mlk_12 : zt_mlok (5, 73, 13) := zt_ml_12
theorem zt_mlk_13 : zt_mlok (3, 47, 14) := zt_ml_13
theorem zt_mlk_14 : zt_mlok (3, 51, 15) := zt_ml_14
theorem zt_mlk_15 : zt_mlok (3, 33, 16) := zt_ml_15
theorem zt_mlk_16 : zt_mlok (3, 25, 8) := zt_ml_16
theorem zt_mlk_17 : zt_mlok (3, 37, 9) := zt_ml_17
theorem zt_mlk_18 : zt_mlok (3, 54, 17) := zt_ml_18
theorem zt_mlk_19 : zt_mlok (0, 20, 18) := zt_ml_19
theorem zt_mlk_20 : zt_mlok (5, 77, 19) := zt_ml_20
theorem zt_mlk_21 : zt_mlok (5, 80, 15) := zt_ml_21
theorem zt_mlk_22 : zt_mlok (5, 83, 14) := zt_ml_22
theorem zt_mlk_23 : zt_mlok (0, 25, 20) := zt_ml_23
theorem zt_mlk_24 : zt_mlok (5, 87, 21) := zt_ml_24
theorem zt_mlk_25 : zt_mlok (3, 40, 19) := zt_ml_25
theorem zt_mlk_26 : zt_mlok (5, 91, 22) := zt_ml_26
theorem zt_mlk_27 : zt_mlok (3, 58, 23) := zt_ml_27
theorem zt_mlk_28 : zt_mlok (0, 30, 24) := zt_ml_28
theorem zt_mlk_29 : zt_mlok (5, 95, 23) := zt_ml_29
theorem zt_mlk_30 : zt_mlok (0, 35, 25) := zt_ml_30
theorem zt_mlk_31 : zt_mlok (5, 99, 16) := zt_ml_31
theorem zt_mlk_32 : zt_mlok (0, 40, 26) := zt_ml_32
theorem zt_mlk_33 : zt_mlok (5, 102, 27) := zt_ml_33
theorem zt_mlk_34 : zt_mlok (5, 105, 28) := zt_ml_34
theorem zt_mlk_35 : zt_mlok (5, 109, 29) := zt_ml_35
theorem zt_mlk_36 : zt_mlok (5, 112, 30) := zt_ml_36
theorem zt_mlk_37 : zt_mlok (0, 45, 31) := zt_ml_37
theorem zt_mlk_38 : zt_mlok (5, 115, 32) := zt_ml_38
theorem zt_mlk_39 : zt_mlok (5, 118, 33) := zt_ml_39
theorem zt_mlk_40 : zt_mlok (5, 121, 34) := zt_ml_40
theorem zt_mlk_41 : zt_mlok (5, 122, 35) := zt_ml_41
theorem zt_mlk_42 : zt_mlok (5, 126, 36) := zt_ml_42
theorem zt_mlk_43 : zt_mlok (5, 129, 37) := zt_ml_43
theorem zt_mlk_44 : zt_mlok (5, 258, 38) := zt_ml_44
theorem zt_mlk_45 : zt_mlok (2, 38, 40) := zt_ml_45
theorem zt_mlk_46 : zt_mlok (1, 58, 41) := zt_ml_46
theorem zt_mlk_47 : zt_mlok (1, 55, 27) := zt_ml_47
theorem zt_mlk_48 : zt_mlok (1, 51, 42) := zt_ml_48
theorem zt_mlk_49 : zt_mlok (2, 46, 43) := zt_ml_49
theorem zt_mlk_50 : zt_mlok (2, 53, 44) := zt_ml_50
theorem zt_mlk_51 : zt_mlok (5, 227, 45) := zt_ml_51
theorem zt_mlk_52 : zt_mlok (2, 64, 46) := zt_ml_52
theorem zt_mlk_53 : zt_mlok (1, 62, 47) := zt_ml_53
theorem zt_mlk_54 : zt_mlok (2, 71, 48) := zt_ml_54
theorem zt_mlk_55 : zt_mlok (5, 312, 50) := zt_ml_55
theorem zt_mlk_56 : zt_mlok (2, 86, 51) := zt_ml_56
theorem zt_mlk_57 : zt_mlok (2, 100, 52) := zt_ml_57
theorem zt_mlk_58 : zt_mlok (2, 103, 54) := zt_ml_58
theorem zt_mlk_59 : zt_mlok (2, 83, 55) := zt_ml_59
theorem zt_mlk_60 : zt_mlok (2, 106, 56) := zt_ml_60
theorem zt_mlk_61 : zt_mlok (2, 78, 57) := zt_ml_61
theorem zt_mlk_62 : zt_mlok (2, 109, 58) := zt_ml_62
theorem zt_mlk_63 : zt_mlok (2, 122, 59) := zt_ml_63
theorem zt_mlk_64 : zt_mlok (2, 112, 60) := zt_ml_64
theorem zt_mlk_65 : zt_mlok (2, 90, 62) := zt_ml_65
theorem zt_mlk_66 : zt_mlok (2, 129, 63) := zt_ml_66
theorem zt_mlk_67 : zt_mlok (2, 132, 64) := zt_ml_67
theorem zt_mlk_68 : zt_mlok (2, 94, 65) := zt_ml_68
theorem zt_mlk_69 : zt_mlok (2, 126, 66) := zt_ml_69
theorem zt_mlk_70 : zt_mlok (2, 135, 113) := zt_ml_70
theorem zt_mlk_71 : zt_mlok (0, 49, 67) := zt_ml_71
theorem zt_mlk_72 : zt_mlok (5, 139, 68) := zt_ml_72
theorem zt_mlk_73 : zt_mlok (0, 53, 69) := zt_ml_73
theorem zt_mlk_74 : zt_mlok (5, 142, 70) := zt_ml_74
theorem zt_mlk_75 : zt_mlok (5, 145, 71) := zt_ml_75
theorem zt_mlk_76 : zt_mlok (0, 57, 72) := zt_ml_76
theorem zt_mlk_77 : zt_mlok (5, 148, 42) := zt_ml_77
theorem zt_mlk_78 : zt_mlok (5, 151, 41) := zt_ml_78
theorem zt_mlk_79 : zt_mlok (0, 61, 73) := zt_ml_79
theorem zt_mlk_80 : zt_mlok (0, 65, 74) := zt_ml_80
theorem zt_mlk_81 : zt_mlok (5, 164, 75) := zt_ml_81
theorem zt_mlk_82 : zt_mlok (0, 69, 76) := zt_ml_82
theorem zt_mlk_83 : zt_mlok (5, 170, 77) := zt_ml_83
theorem zt_mlk_84 : zt_mlok (0, 73, 78) := zt_ml_84
theorem zt_mlk_85 : zt_mlok (0, 77, 79) := zt_ml_85
theorem zt_mlk_86 : zt_mlok (5, 184, 80) := zt_ml_86
theorem zt_mlk_87 : zt_mlok (0, 81, 81) := zt_ml_87
theorem zt_mlk_88 : zt_mlok (0, 85, 82) := zt_ml_88
theorem zt_mlk_89 : zt_mlok (0, 90, 83) := zt_ml_89
theorem zt_mlk_90 : zt_mlok (5, 196, 84) := zt_ml_90
theorem zt_mlk_91 : zt_mlok (5, 200, 85) := zt_ml_91
theorem zt_mlk_92 : zt_mlok (4, 25, 86) := zt_ml_92
theorem zt_mlk_93 : zt_mlok (4, 42, 87) := zt_ml_93
theorem zt_mlk_94 : zt_mlok (4, 28, 88) := zt_ml_94
theorem zt_mlk_95 : zt_mlok (4, 58, 89) := zt_ml_95
theorem zt_mlk_96 : zt_mlok (4, 46, 90) := zt_ml_96
theorem zt_mlk_97 : zt_mlok (9, 335, 91) := zt_ml_97
theorem zt_mlk_98 : zt_mlok (4, 52, 92) := zt_ml_98
theorem zt_mlk_99 : zt_mlok (9, 492, 93) := zt_ml_99
theorem zt_mlk_100 : zt_mlok (9, 495, 94) := zt_ml_100
theorem zt_mlk_101 : zt_mlok (10, 9, 95) := zt_ml_101
theorem zt_mlk_102 : zt_mlok (9, 1059, 96) := zt_ml_102
theorem zt_mlk_103 : zt_mlok (9, 498, 97) := zt_ml_103
theorem zt_mlk_104 : zt_mlok (11, 67, 98) := zt_ml_104
theorem zt_mlk_105 : zt_mlok (11, 48, 99) := zt_ml_105
theorem zt_mlk_106 : zt_mlok (11, 414, 95) := zt_ml_106
theorem zt_mlk_107 : zt_mlok (11, 71, 100) := zt_ml_107
theorem zt_mlk_108 : zt_mlok (4, 67, 101) := zt_ml_108
theorem zt_mlk_109 : zt_mlok (4, 100, 102) := zt_ml_109
theorem zt_mlk_110 : zt_mlok (4, 104, 68) := zt_ml_110
theorem zt_mlk_111 : zt_mlok (4, 72, 103) := zt_ml_111
theorem zt_mlk_112 : zt_mlok (4, 110, 71) := zt_ml_112
theorem zt_mlk_113 : zt_mlok (4, 77, 104) := zt_ml_113
theorem zt_mlk_114 : zt_mlok (4, 82, 105) := zt_ml_114
theorem zt_mlk_115 : zt_mlok (4, 87, 106) := zt_ml_115
theorem zt_mlk_116 : zt_mlok (4, 92, 107) := zt_ml_116
theorem zt_mlk_117 : zt_mlok (4, 97, 108) := zt_ml_117
theorem zt_mlk_118 : zt_mlok (0, 94, 109) := zt_ml_118
theorem zt_mlk_119 : zt_mlok (0, 98, 110) := zt_ml_119
theorem zt_mlk_120 : zt_mlok (5, 207, 40) := zt_ml_120
theorem zt_mlk_121 : zt_mlok (5, 210, 43) := zt_ml_121
theorem zt_mlk_122 : zt_mlok (0, 102, 111) := zt_ml_122
theorem zt_mlk_123 : zt_mlok (5, 213, 46) := zt_ml_123
theorem zt_mlk_124 : zt_mlok (0, 106, 112) := zt_ml_124
theorem zt_mlk_125 : zt_mlok (5, 216, 113) := zt_ml_125
theorem zt_mlk_126 : zt_mlok (0, 110, 114) := zt_ml_126
theorem zt_mlk_127 : zt_mlok (5, 223, 115) := zt_ml_127
theorem zt_mlk_128 : zt_mlok (0, 115, 116) := zt_ml_128
theorem zt_mlk_129 : zt_mlok (5, 231, 56) := zt_ml_129
theorem zt_mlk_130 : zt_mlok (0, 119, 117) := zt_ml_130
theorem zt_mlk_131 : zt_mlok (0, 123, 118) := zt_ml_131
theorem zt_mlk_132 : zt_mlok (5, 234, 44) := zt_ml_132
theorem zt_mlk_133 : zt_mlok (5, 239, 119) := zt_ml_133
theorem zt_mlk_134 : zt_mlok (5, 262, 120) := zt_ml_134
theorem zt_mlk_135 : zt_mlok (5, 315, 121) := zt_ml_135
theorem zt_mlk_136 : zt_mlok (5, 318, 63) := zt_ml_136
theorem zt_mlk_137 : zt_mlok (5, 321, 64) := zt_ml_137
theorem zt_mlk_138 : zt_mlok (5, 322, 59) := zt_ml_138
theorem zt_mlk_139 : zt_mlok (5, 281, 61) := zt_ml_139
theorem zt_mlk_140 : zt_mlok (0, 127, 122) := zt_ml_140
theorem zt_mlk_141 : zt_mlok (0, 131, 123) := zt_ml_141
theorem zt_mlk_142 : zt_mlok (5, 246, 124) := zt_ml_142
theorem zt_mlk_143 : zt_mlok (5, 293, 57) := zt_ml_143
theorem zt_mlk_144 : zt_mlok (0, 135, 125) := zt_ml_144
theorem zt_mlk_145 : zt_mlok (5, 250, 126) := zt_ml_145
theorem zt_mlk_146 : zt_mlok (5, 323, 127) := zt_ml_146
theorem zt_mlk_147 : zt_mlok (5, 326, 66) := zt_ml_147
theorem zt_mlk_148 : zt_mlok (0, 139, 128) := zt_ml_148
theorem zt_mlk_149 : zt_mlok (0, 143, 129) := zt_ml_149
theorem zt_mlk_150 : zt_mlok (5, 253, 130) := zt_ml_150
theorem zt_mlk_151 : zt_mlok (5, 329, 49) := zt_ml_151
theorem zt_mlk_152 : zt_mlok (5, 332, 131) := zt_ml_152
theorem zt_mlk_153 : zt_mlok (5, 335, 256) := zt_ml_153
theorem zt_mlk_154 : zt_mlok (5, 339, 132) := zt_ml_154
theorem zt_mlk_155 : zt_mlok (5, 343, 39) := zt_ml_155
theorem zt_mlk_156 : zt_mlok (0, 147, 133) := zt_ml_156
theorem zt_mlk_157 : zt_mlok (0, 151, 134) := zt_ml_157
theorem zt_mlk_158 : zt_mlok (0, 155, 135) := zt_ml_158
theorem zt_mlk_159 : zt_mlok (5, 266, 136) := zt_ml_159
theorem zt_mlk_160 : zt_mlok (5, 270, 137) := zt_ml_160
theorem zt_mlk_161 : zt_mlok (5, 347, 53) := zt_ml_161
theorem zt_mlk_162 : zt_mlok (0, 159, 138) := zt_ml_162
theorem zt_mlk_163 : zt_mlok (0, 163, 139) := zt_ml_163
theorem zt_mlk_164 : zt_mlok (5, 278, 140) := zt_ml_164
theorem zt_mlk_165 : zt_mlok (2, 97, 50) := zt_ml_165
theorem zt_mlk_166 : zt_mlok (0, 183, 141) := zt_ml_166
theorem zt_mlk_167 : zt_mlok (5, 284, 142) := zt_ml_167
theorem zt_mlk_168 : zt_mlok (1, 69, 46) := zt_ml_168
theorem zt_mlk_169 : zt_mlok (0, 167, 143) := zt_ml_169
theorem zt_mlk_170 : zt_mlok (5, 287, 144) := zt_ml_170
theorem zt_mlk_171 : zt_mlok (1, 72, 80) := zt_ml_171
theorem zt_mlk_172 : zt_mlok (0, 171, 145) := zt_ml_172
theorem zt_mlk_173 : zt_mlok (0, 175, 146) := zt_ml_173
theorem zt_mlk_174 : zt_mlok (0, 179, 147) := zt_ml_174
theorem zt_mlk_175 : zt_mlok (0, 187, 148) := zt_ml_175
theorem zt_mlk_176 : zt_mlok (0, 191, 149) := zt_ml_176
theorem zt_mlk_177 : zt_mlok (5, 296, 150) := zt_ml_177
theorem zt_mlk_178 : zt_mlok (0, 195, 151) := zt_ml_178
theorem zt_mlk_179 : zt_mlok (0, 199, 152) := zt_ml_179
theorem zt_mlk_180 : zt_mlok (0, 203, 153) := zt_ml_180
theorem zt_mlk_181 : zt_mlok (0, 207, 154) := zt_ml_181
theorem zt_mlk_182 : zt_mlok (5, 306, 155) := zt_ml_182
theorem zt_mlk_183 : zt_mlok (5, 309, 156) := zt_ml_183
theorem zt_mlk_184 : zt_mlok (0, 12, 157) := zt_ml_184
theorem zt_mlk_185 : zt_mlok (6, 1, 2) := zt_ml_185
theorem zt_mlk_186 : zt_mlok (0, 17, 158) := zt_ml_186
theorem zt_mlk_187 : zt_mlok (6, 94, 159) := zt_ml_187
theorem zt_mlk_188 : zt_mlok (6, 107, 160) := zt_ml_188
theorem zt_mlk_189 : zt_mlok (0, 24, 161) := zt_ml_189
theorem zt_mlk_190 : zt_mlok (6, 111, 162) := zt_ml_190
theorem zt_mlk_191 : zt_mlok (6, 114, 163) := zt_ml_191
theorem zt_mlk_192 : zt_mlok (0, 29, 164) := zt_ml_192
theorem zt_mlk_193 : zt_mlok (0, 34, 165) := zt_ml_193
theorem zt_mlk_194 : zt_mlok (0, 39, 166) := zt_ml_194
theorem zt_mlk_195 : zt_mlok (0, 44, 167) := zt_ml_195
theorem zt_mlk_196 : zt_mlok (6, 118, 168) := zt_ml_196
theorem zt_mlk_197 : zt_mlok (0, 48, 169) := zt_ml_197
theorem zt_mlk_198 : zt_mlok (6, 124, 170) := zt_ml_198
theorem zt_mlk_199 : zt_mlok (6, 131, 171) := zt_ml_199
theorem zt_mlk_200 : zt_mlok (6, 135, 172) := zt_ml_200
theorem zt_mlk_201 : zt_mlok (6, 142, 173) := zt_ml_201
theorem zt_mlk_202 : zt_mlok (6, 252, 174) := zt_ml_202
theorem zt_mlk_203 : zt_mlok (6, 290, 175) := zt_ml_203
theorem zt_mlk_204 : zt_mlok (6, 306, 176) := zt_ml_204
theorem zt_mlk_205 : zt_mlok (6, 280, 177) := zt_ml_205
theorem zt_mlk_206 : zt_mlok (6, 262, 178) := zt_ml_206
theorem zt_mlk_207 : zt_mlok (6, 283, 179) := zt_ml_207
theorem zt_mlk_208 : zt_mlok (6, 293, 180) := zt_ml_208
theorem zt_mlk_209 : zt_mlok (6, 286, 181) := zt_ml_209
theorem zt_mlk_210 : zt_mlok (6, 296, 182) := zt_ml_210
theorem zt_mlk_211 : zt_mlok (6, 300, 183) := zt_ml_211
theorem zt_mlk_212 : zt_mlok (6, 303, 184) := zt_ml_212
theorem zt_mlk_213 : zt_mlok (0, 52, 185) := zt_ml_213
theorem zt_mlk_214 : zt_mlok (6, 150, 186) := zt_ml_214
theorem zt_mlk_215 : zt_mlok (0, 56, 187) := zt_ml_215
theorem zt_mlk_216 : zt_mlok (6, 155, 188) := zt_ml_216
theorem zt_mlk_217 : zt_mlok (0, 60, 189) := zt_ml_217
theorem zt_mlk_218 : zt_mlok (6, 159, 190) := zt_ml_218
theorem zt_mlk_219 : zt_mlok (0, 64, 191) := zt_ml_219
theorem zt_mlk_220 : zt_mlok (0, 68, 192) := zt_ml_220
theorem zt_mlk_221 : zt_mlok (0, 72, 193) := zt_ml_221
theorem zt_mlk_222 : zt_mlok (0, 76, 194) := zt_ml_222
theorem zt_mlk_223 : zt_mlok (0, 80, 195) := zt_ml_223
theorem zt_mlk_224 : zt_mlok (0, 84, 196) := zt_ml_224
theorem zt_mlk_225 : zt_mlok (0, 89, 197) := zt_ml_225
theorem zt_mlk_226 : zt_mlok (0, 93, 198) := zt_ml_226
theorem zt_mlk_227 : zt_mlok (6, 241, 199) := zt_ml_227
theorem zt_mlk_228 : zt_mlok (6, 365, 157) := zt_ml_228
theorem zt_mlk_229 : zt_mlok (6, 248, 200) := zt_ml_229
theorem zt_mlk_230 : zt_mlok (6, 366, 201) := zt_ml_230
theorem zt_mlk_231 : zt_mlok (6, 245, 202) := zt_ml_231
theorem zt_mlk_232 : zt_mlok (6, 206, 203) := zt_ml_232
theorem zt_mlk_233 : zt_mlok (6, 183, 204) := zt_ml_233
theorem zt_mlk_234 : zt_mlok (6, 186, 205) := zt_ml_234
theorem zt_mlk_235 : zt_mlok (6, 238, 206) := zt_ml_235
theorem zt_mlk_236 : zt_mlok (6, 217, 207) := zt_ml_236
theorem zt_mlk_237 : zt_mlok (6, 193, 90) := zt_ml_237
theorem zt_mlk_238 : zt_mlok (6, 198, 92) := zt_ml_238
theorem zt_mlk_239 : zt_mlok (6, 213, 208) := zt_ml_239
theorem zt_mlk_240 : zt_mlok (6, 209, 209) := zt_ml_240
theorem zt_mlk_241 : zt_mlok (6, 202, 210) := zt_ml_241
theorem zt_mlk_242 : zt_mlok (6, 223, 211) := zt_ml_242
theorem zt_mlk_243 : zt_mlok (6, 228, 212) := zt_ml_243
theorem zt_mlk_244 : zt_mlok (0, 97, 213) := zt_ml_244
theorem zt_mlk_245 : zt_mlok (0, 101, 214) := zt_ml_245
theorem zt_mlk_246 : zt_mlok (6, 255, 215) := zt_ml_246
theorem zt_mlk_247 : zt_mlok (6, 258, 216) := zt_ml_247
theorem zt_mlk_248 : zt_mlok (0, 105, 217) := zt_ml_248
theorem zt_mlk_249 : zt_mlok (0, 109, 218) := zt_ml_249
theorem zt_mlk_250 : zt_mlok (0, 114, 219) := zt_ml_250
theorem zt_mlk_251 : zt_mlok (0, 118, 220) := zt_ml_251
theorem zt_mlk_252 : zt_mlok (0, 122, 221) := zt_ml_252
theorem zt_mlk_253 : zt_mlok (0, 126, 222) := zt_ml_253
theorem zt_mlk_254 : zt_mlok (6, 315, 223) := zt_ml_254
theorem zt_mlk_255 : zt_mlok (6, 312, 224) := zt_ml_255
theorem zt_mlk_256 : zt_mlok (0, 130, 225) := zt_ml_256
theorem zt_mlk_257 : zt_mlok (0, 134, 226) := zt_ml_257
theorem zt_mlk_258 : zt_mlok (6, 318, 227) := zt_ml_258
theorem zt_mlk_259 : zt_mlok (0, 150, 228) := zt_ml_259
theorem zt_mlk_260 : zt_mlok (0, 138, 229) := zt_ml_260
theorem zt_mlk_261 : zt_mlok (6, 325, 230) := zt_ml_261
theorem zt_mlk_262 : zt_mlok (6, 321, 231) := zt_ml_262
theorem zt_mlk_263 : zt_mlok (0, 142, 232) := zt_ml_263
theorem zt_mlk_264 : zt_mlok (0, 146, 233) := zt_ml_264
theorem zt_mlk_265 : zt_mlok (6, 334, 234) := zt_ml_265
theorem zt_mlk_266 : zt_mlok (6, 328, 235) := zt_ml_266
theorem zt_mlk_267 : zt_mlok (0, 154, 236) := zt_ml_267
theorem zt_mlk_268 : zt_mlok (0, 158, 237) := zt_ml_268
theorem zt_mlk_269 : zt_mlok (6, 342, 238) := zt_ml_269
theorem zt_mlk_270 : zt_mlok (6, 345, 239) := zt_ml_270
theorem zt_mlk_271 : zt_mlok (0, 162, 240) := zt_ml_271
theorem zt_mlk_272 : zt_mlok (0, 166, 241) := zt_ml_272
theorem zt_mlk_273 : zt_mlok (6, 349, 242) := zt_ml_273
theorem zt_mlk_274 : zt_mlok (0, 170, 243) := zt_ml_274
theorem zt_mlk_275 : zt_mlok (6, 353, 244) := zt_ml_275
theorem zt_mlk_276 : zt_mlok (0, 174, 245) := zt_ml_276
theorem zt_mlk_277 : zt_mlok (0, 178, 246) := zt_ml_277
theorem zt_mlk_278 : zt_mlok (0, 182, 247) := zt_ml_278
theorem zt_mlk_279 : zt_mlok (0, 186, 248) := zt_ml_279
theorem zt_mlk_280 : zt_mlok (0, 190, 249) := zt_ml_280
theorem zt_mlk_281 : zt_mlok (0, 194, 250) := zt_ml_281
theorem zt_mlk_282 : zt_mlok (6, 358, 251) := zt_ml_282
theorem zt_mlk_283 : zt_mlok (0, 198, 252) := zt_ml_283
theorem zt_mlk_284 : zt_mlok (0, 202, 253) := zt_ml_284
theorem zt_mlk_285 : zt_mlok (0, 206, 254) := zt_ml_285
theorem zt_mlk_286 : zt_mlok (0, 210, 255) := zt_ml_286
theorem zt_mlk_287 : zt_mlok (5, 11, 3) := zt_ml_287
theorem zt_mlk_288 : zt_mlok (5, 24, 4) := zt_ml_288
theorem zt_mlk_289 : zt_mlok (5, 31, 5) := zt_ml_289
theorem zt_mlk_290 : zt_mlok (5, 42, 6) := zt_ml_290
theorem zt_mlk_291 : zt_mlok (3, 43, 12) := zt_ml_291
theorem zt_mlk_292 : zt_mlok (3, 29, 11) := zt_ml_292
theorem zt_mlk_293 : zt_mlok (1, 47, 11) := zt_ml_293
theorem zt_mlk_294 : zt_mlok (2, 33, 39) := zt_ml_294
theorem zt_mlk_295 : zt_mlok (2, 42, 12) := zt_ml_295
theorem zt_mlk_296 : zt_mlok (2, 118, 53) := zt_ml_296
theorem zt_mlk_297 : zt_mlok (2, 74, 11) := zt_ml_297
theorem zt_mlk_298 : zt_mlok (2, 115, 61) := zt_ml_298
theorem zt_mlk_299 : zt_mlok (1, 65, 12) := zt_ml_299
theorem zt_mlk_300 : zt_mlok (1, 43, 39) := zt_ml_300
theorem zt_mlk_301 : zt_mlok (4, 38, 11) := zt_ml_301
theorem zt_mlk_302 : zt_mlok (4, 118, 12) := zt_ml_302
set_option maxRecDepth 20000 in
theorem zt_ml_ok : ∀ q ∈ zt_ml, zt_mlok q := (List.forall_mem_cons.mpr ⟨zt_mlk_0, (List.forall_mem_cons.mpr ⟨zt_mlk_1, (List.forall_mem_cons.mpr ⟨zt_mlk_2, (List.forall_mem_cons.mpr ⟨zt_mlk_3, (List.forall_mem_cons.mpr ⟨zt_mlk_4, (List.forall_mem_cons.mpr ⟨zt_mlk_5, (List.forall_mem_cons.mpr ⟨zt_mlk_6, (List.forall_mem_cons.mpr ⟨zt_mlk_7, (List.forall_mem_cons.mpr ⟨zt_mlk_8, (List.forall_mem_cons.mpr ⟨zt_mlk_9, (List.forall_mem_cons.mpr ⟨zt_mlk_10, (List.forall_mem_cons.mpr ⟨zt_mlk_11, (List.forall_mem_cons.mpr ⟨zt_mlk_12, (List.forall_mem_cons.mpr ⟨zt_mlk_13, (List.forall_mem_cons.mpr ⟨zt_mlk_14, (List.forall_mem_cons.mpr ⟨zt_mlk_15, (List.forall_mem_cons.mpr ⟨zt_mlk_16, (List.forall_mem_cons.mpr ⟨zt_mlk_17, (List.forall_mem_cons.mpr ⟨zt_mlk_18, (List.forall_mem_cons.mpr ⟨zt_mlk_19, (List.forall_mem_cons.mpr ⟨zt_mlk_20, (List.forall_mem_cons.mpr ⟨zt_mlk_21, (List.forall_mem_cons.mpr ⟨zt_mlk_22, (List.forall_mem_cons.mpr ⟨zt_mlk_23, (List.forall_mem_cons.mpr ⟨zt_mlk_24, (List.forall_mem_cons.mpr ⟨zt_mlk_25, (List.forall_mem_cons.mpr ⟨zt_mlk_26, (List.forall_mem_cons.mpr ⟨zt_mlk_27, (List.forall_mem_cons.mpr ⟨zt_mlk_28, (List.forall_mem_cons.mpr ⟨zt_mlk_29, (List.forall_mem_cons.mpr ⟨zt_mlk_30, (List.forall_mem_cons.mpr ⟨zt_mlk_31, (List.forall_mem_cons.mpr ⟨zt_mlk_32, (List.forall_mem_cons.mpr ⟨zt_mlk_33, (List.forall_mem_cons.mpr ⟨zt_mlk_34, (List.forall_mem_cons.mpr ⟨zt_mlk_35, (List.forall_mem_cons.mpr ⟨zt_mlk_36, (List.forall_mem_cons.mpr ⟨zt_mlk_37, (List.forall_mem_cons.mpr ⟨zt_mlk_38, (List.forall_mem_cons.mpr ⟨zt_mlk_39, (List.forall_mem_cons.mpr ⟨zt_mlk_40, (List.forall_mem_cons.mpr ⟨zt_mlk_41, (List.forall_mem_cons.mpr ⟨zt_mlk_42, (List.forall_mem_cons.mpr ⟨zt_mlk_43, (List.forall_mem_cons.mpr ⟨zt_mlk_44, (List.forall_mem_cons.mpr ⟨zt_mlk_45, (List.forall_mem_cons.mpr ⟨zt_mlk_46, (List.forall_mem_cons.mpr ⟨zt_mlk_47, (List.forall_mem_cons.mpr ⟨zt_mlk_48, (List.forall_mem_cons.mpr ⟨zt_mlk_49, (List.forall_mem_cons.mpr ⟨zt_mlk_50, (List.forall_mem_cons.mpr ⟨zt_mlk_51, (List.forall_mem_cons.mpr ⟨zt_mlk_52, (List.forall_mem_cons.mpr ⟨zt_mlk_53, (List.forall_mem_cons.mpr ⟨zt_mlk_54, (List.forall_mem_cons.mpr ⟨zt_mlk_55, (List.forall_mem_cons.mpr ⟨zt_mlk_56, (List.forall_mem_cons.mpr ⟨zt_mlk_57, (List.forall_mem_cons.mpr ⟨zt_mlk_58, (List.forall_mem_cons.mpr ⟨zt_mlk_59, (List.forall_mem_cons.mpr ⟨zt_mlk_60, (List.forall_mem_cons.mpr ⟨zt_mlk_61, (List.forall_mem_cons.mpr ⟨zt_mlk_62, (List.forall_mem_cons.mpr ⟨zt_mlk_63, (List.forall_mem_cons.mpr ⟨zt_mlk_64, (List.forall_mem_cons.mpr ⟨zt_mlk_65, (List.forall_mem_cons.mpr ⟨zt_mlk_66, (List.forall_mem_cons.mpr ⟨zt_mlk_67, (List.forall_mem_cons.mpr ⟨zt_mlk_68, (List.forall_mem_cons.mpr ⟨zt_mlk_69, (List.forall_mem_cons.mpr ⟨zt_mlk_70, (List.forall_mem_cons.mpr ⟨zt_mlk_71, (List.forall_mem_cons.mpr ⟨zt_mlk_72, (List.forall_mem_cons.mpr ⟨zt_mlk_73, (List.forall_mem_cons.mpr ⟨zt_mlk_74, (List.forall_mem_cons.mpr ⟨zt_mlk_75, (List.forall_mem_cons.mpr ⟨zt_mlk_76, (List.forall_mem_cons.mpr ⟨zt_mlk_77, (List.forall_mem_cons.mpr ⟨zt_mlk_78, (List.forall_mem_cons.mpr ⟨zt_mlk_79, (List.forall_mem_cons.mpr ⟨zt_mlk_80, (List.forall_mem_cons.mpr ⟨zt_mlk_81, (List.forall_mem_cons.mpr ⟨zt_mlk_82, (List.forall_mem_cons.mpr ⟨zt_mlk_83, (List.forall_mem_cons.mpr ⟨zt_mlk_84, (List.forall_mem_cons.mpr ⟨zt_mlk_85, (List.forall_mem_cons.mpr ⟨zt_mlk_86, (List.forall_mem_cons.mpr ⟨zt_mlk_87, (List.forall_mem_cons.mpr ⟨zt_mlk_88, (List.forall_mem_cons.mpr ⟨zt_mlk_89, (List.forall_mem_cons.mpr ⟨zt_mlk_90, (List.forall_mem_cons.mpr ⟨zt_mlk_91, (List.forall_mem_cons.mpr ⟨zt_mlk_92, (List.forall_mem_cons.mpr ⟨zt_mlk_93, (List.forall_mem_cons.mpr ⟨zt_mlk_94, (List.forall_mem_cons.mpr ⟨zt_mlk_95, (List.forall_mem_cons.mpr ⟨zt_mlk_96, (List.forall_mem_cons.mpr ⟨zt_mlk_97, (List.forall_mem_cons.mpr ⟨zt_mlk_98, (List.forall_mem_cons.mpr ⟨zt_mlk_99, (List.forall_mem_cons.mpr ⟨zt_mlk_100, (List.forall_mem_cons.mpr ⟨zt_mlk_101, (List.forall_mem_cons.mpr ⟨zt_mlk_102, (List.forall_mem_cons.mpr ⟨zt_mlk_103, (List.forall_mem_cons.mpr ⟨zt_mlk_104, (List.forall_mem_cons.mpr ⟨zt_mlk_105, (List.forall_mem_cons.mpr ⟨zt_mlk_106, (List.forall_mem_cons.mpr ⟨zt_mlk_107, (List.forall_mem_cons.mpr ⟨zt_mlk_108, (List.forall_mem_cons.mpr ⟨zt_mlk_109, (List.forall_mem_cons.mpr ⟨zt_mlk_110, (List.forall_mem_cons.mpr ⟨zt_mlk_111, (List.forall_mem_cons.mpr ⟨zt_mlk_112, (List.forall_mem_cons.mpr ⟨zt_mlk_113, (List.forall_mem_cons.mpr ⟨zt_mlk_114, (List.forall_mem_cons.mpr ⟨zt_mlk_115, (List.forall_mem_cons.mpr ⟨zt_mlk_116, (List.forall_mem_cons.mpr ⟨zt_mlk_117, (List.forall_mem_cons.mpr ⟨zt_mlk_118, (List.forall_mem_cons.mpr ⟨zt_mlk_119, (List.forall_mem_cons.mpr ⟨zt_mlk_120, (List.forall_mem_cons.mpr ⟨zt_mlk_121, (List.forall_mem_cons.mpr ⟨zt_mlk_122, (List.forall_mem_cons.mpr ⟨zt_mlk_123, (List.forall_mem_cons.mpr ⟨zt_mlk_124, (List.forall_mem_cons.mpr ⟨zt_mlk_125, (List.forall_mem_cons.mpr ⟨zt_mlk_126, (List.forall_mem_cons.mpr ⟨zt_mlk_127, (List.forall_mem_cons.mpr ⟨zt_mlk_128, (List.forall_mem_cons.mpr ⟨zt_mlk_129, (List.forall_mem_cons.mpr ⟨zt_mlk_130, (List.forall_mem_cons.mpr ⟨zt_mlk_131, (List.forall_mem_cons.mpr ⟨zt_mlk_132, (List.forall_mem_cons.mpr ⟨zt_mlk_133, (List.forall_mem_cons.mpr ⟨zt_mlk_134, (List.forall_mem_cons.mpr ⟨zt_mlk_135, (List.forall_mem_cons.mpr ⟨zt_mlk_136, (List.forall_mem_cons.mpr ⟨zt_mlk_137, (List.forall_mem_cons.mpr ⟨zt_mlk_138, (List.forall_mem_cons.mpr ⟨zt_mlk_139, (List.forall_mem_cons.mpr ⟨zt_mlk_140, (List.forall_mem_cons.mpr ⟨zt_mlk_141, (List.forall_mem_cons.mpr ⟨zt_mlk_142, (List.forall_mem_cons.mpr ⟨zt_mlk_143, (List.forall_mem_cons.mpr ⟨zt_mlk_144, (List.forall_mem_cons.mpr ⟨zt_mlk_145, (List.forall_mem_cons.mpr ⟨zt_mlk_146, (List.forall_mem_cons.mpr ⟨zt_mlk_147, (List.forall_mem_cons.mpr ⟨zt_mlk_148, (List.forall_mem_cons.mpr ⟨zt_mlk_149, (List.forall_mem_cons.mpr ⟨zt_mlk_150, (List.forall_mem_cons.mpr ⟨zt_mlk_151, (List.forall_mem_cons.mpr ⟨zt_mlk_152, (List.forall_mem_cons.mpr ⟨zt_mlk_153, (List.forall_mem_cons.mpr ⟨zt_mlk_154, (List.forall_mem_cons.mpr ⟨zt_mlk_155, (List.forall_mem_cons.mpr ⟨zt_mlk_156, (List.forall_mem_cons.mpr ⟨zt_mlk_157, (List.forall_mem_cons.mpr ⟨zt_mlk_158, (List.forall_mem_cons.mpr ⟨zt_mlk_159, (List.forall_mem_cons.mpr ⟨zt_mlk_160, (List.forall_mem_cons.mpr ⟨zt_mlk_161, (List.forall_mem_cons.mpr ⟨zt_mlk_162, (List.forall_mem_cons.mpr ⟨zt_mlk_163, (List.forall_mem_cons.mpr ⟨zt_mlk_164, (List.forall_mem_cons.mpr ⟨zt_mlk_165, (List.forall_mem_cons.mpr ⟨zt_mlk_166, (List.forall_mem_cons.mpr ⟨zt_mlk_167, (List.forall_mem_cons.mpr ⟨zt_mlk_168, (List.forall_mem_cons.mpr ⟨zt_mlk_169, (List.forall_mem_cons.mpr ⟨zt_mlk_170, (List.forall_mem_cons.mpr ⟨zt_mlk_171, (List.forall_mem_cons.mpr ⟨zt_mlk_172, (List.forall_mem_cons.mpr ⟨zt_mlk_173, (List.forall_mem_cons.mpr ⟨zt_mlk_174, (List.forall_mem_cons.mpr ⟨zt_mlk_175, (List.forall_mem_cons.mpr ⟨zt_mlk_176, (List.forall_mem_cons.mpr ⟨zt_mlk_177, (List.forall_mem_cons.mpr ⟨zt_mlk_178, (List.forall_mem_cons.mpr ⟨zt_mlk_179, (List.forall_mem_cons.mpr ⟨zt_mlk_180, (List.forall_mem_cons.mpr ⟨zt_mlk_181, (List.forall_mem_cons.mpr ⟨zt_mlk_182, (List.forall_mem_cons.mpr ⟨zt_mlk_183, (List.forall_mem_cons.mpr ⟨zt_mlk_184, (List.forall_mem_cons.mpr ⟨zt_mlk_185, (List.forall_mem_cons.mpr ⟨zt_mlk_186, (List.forall_mem_cons.mpr ⟨zt_mlk_187, (List.forall_mem_cons.mpr ⟨zt_mlk_188, (List.forall_mem_cons.mpr ⟨zt_mlk_189, (List.forall_mem_cons.mpr ⟨zt_mlk_190, (List.forall_mem_cons.mpr ⟨zt_mlk_191, (List.forall_mem_cons.mpr ⟨zt_mlk_192, (List.forall_mem_cons.mpr ⟨zt_mlk_193, (List.forall_mem_cons.mpr ⟨zt_mlk_194, (List.forall_mem_cons.mpr ⟨zt_mlk_195, (List.forall_mem_cons.mpr ⟨zt_mlk_196, (List.forall_mem_cons.mpr ⟨zt_mlk_197, (List.forall_mem_cons.mpr ⟨zt_mlk_198, (List.forall_mem_cons.mpr ⟨zt_mlk_199, (List.forall_mem_cons.mpr ⟨zt_mlk_200, (List.forall_mem_cons.mpr ⟨zt_mlk_201, (List.forall_mem_cons.mpr ⟨zt_mlk_202, (List.forall_mem_cons.mpr ⟨zt_mlk_203, (List.forall_mem_cons.mpr ⟨zt_mlk_204, (List.forall_mem_cons.mpr ⟨zt_mlk_205, (List.forall_mem_cons.mpr ⟨zt_mlk_206, (List.forall_mem_cons.mpr ⟨zt_mlk_207, (List.forall_mem_cons.mpr ⟨zt_mlk_208, (List.forall_mem_cons.mpr ⟨zt_mlk_209, (List.forall_mem_cons.mpr ⟨zt_mlk_210, (List.forall_mem_cons.mpr ⟨zt_mlk_211, (List.forall_mem_cons.mpr ⟨zt_mlk_212, (List.forall_mem_cons.mpr ⟨zt_mlk_213, (List.forall_mem_cons.mpr ⟨zt_mlk_214, (List.forall_mem_cons.mpr ⟨zt_mlk_215, (List.forall_mem_cons.mpr ⟨zt_mlk_216, (List.forall_mem_cons.mpr ⟨zt_mlk_217, (List.forall_mem_cons.mpr ⟨zt_mlk_218, (List.forall_mem_cons.mpr ⟨zt_mlk_219, (List.forall_mem_cons.mpr ⟨zt_mlk_220, (List.forall_mem_cons.mpr ⟨zt_mlk_221, (List.forall_mem_cons.mpr ⟨zt_mlk_222, (List.forall_mem_cons.mpr ⟨zt_mlk_223, (List.forall_mem_cons.mpr ⟨zt_mlk_224, (List.forall_mem_cons.mpr ⟨zt_mlk_225, (List.forall_mem_cons.mpr ⟨zt_mlk_226, (List.forall_mem_cons.mpr ⟨zt_mlk_227, (List.forall_mem_cons.mpr ⟨zt_mlk_228, (List.forall_mem_cons.mpr ⟨zt_mlk_229, (List.forall_mem_cons.mpr ⟨zt_mlk_230, (List.forall_mem_cons.mpr ⟨zt_mlk_231, (List.forall_mem_cons.mpr ⟨zt_mlk_232, (List.forall_mem_cons.mpr ⟨zt_mlk_233, (List.forall_mem_cons.mpr ⟨zt_mlk_234, (List.forall_mem_cons.mpr ⟨zt_mlk_235, (List.forall_mem_cons.mpr ⟨zt_mlk_236, (List.forall_mem_cons.mpr ⟨zt_mlk_237, (List.forall_mem_cons.mpr ⟨zt_mlk_238, (List.forall_mem_cons.mpr ⟨zt_mlk_239, (List.forall_mem_cons.mpr ⟨zt_mlk_240, (List.forall_mem_cons.mpr ⟨zt_mlk_241, (List.forall_mem_cons.mpr ⟨zt_mlk_242, (List.forall_mem_cons.mpr ⟨zt_mlk_243, (List.forall_mem_cons.mpr ⟨zt_mlk_244, (List.forall_mem_cons.mpr ⟨zt_mlk_245, (List.forall_mem_cons.mpr ⟨zt_mlk_246, (List.forall_mem_cons.mpr ⟨zt_mlk_247, (List.forall_mem_cons.mpr ⟨zt_mlk_248, (List.forall_mem_cons.mpr ⟨zt_mlk_249, (List.forall_mem_cons.mpr ⟨zt_mlk_250, (List.forall_mem_cons.mpr ⟨zt_mlk_251, (List.forall_mem_cons.mpr ⟨zt_mlk_252, (List.forall_mem_cons.mpr ⟨zt_mlk_253, (List.forall_mem_cons.mpr ⟨zt_mlk_254, (List.forall_mem_cons.mpr ⟨zt_mlk_255, (List.forall_mem_cons.mpr ⟨zt_mlk_256, (List.forall_mem_cons.mpr ⟨zt_mlk_257, (List.forall_mem_cons.mpr ⟨zt_mlk_258, (List.forall_mem_cons.mpr ⟨zt_mlk_259, (List.forall_mem_cons.mpr ⟨zt_mlk_260, (List.forall_mem_cons.mpr ⟨zt_mlk_261, (List.forall_mem_cons.mpr ⟨zt_mlk_262, (List.forall_mem_cons.mpr ⟨zt_mlk_263, (List.forall_mem_cons.mpr ⟨zt_mlk_264, (List.forall_mem_cons.mpr ⟨zt_mlk_265, (List.forall_mem_cons.mpr ⟨zt_mlk_266, (List.forall_mem_cons.mpr ⟨zt_mlk_267, (List.forall_mem_cons.mpr ⟨zt_mlk_268, (List.forall_mem_cons.mpr ⟨zt_mlk_269, (List.forall_mem_cons.mpr ⟨zt_mlk_270, (List.forall_mem_cons.mpr ⟨zt_mlk_271, (List.forall_mem_cons.mpr ⟨zt_mlk_272, (List.forall_mem_cons.mpr ⟨zt_mlk_273, (List.forall_mem_cons.mpr ⟨zt_mlk_274, (List.forall_mem_cons.mpr ⟨zt_mlk_275, (List.forall_mem_cons.mpr ⟨zt_mlk_276, (List.forall_mem_cons.mpr ⟨zt_mlk_277, (List.forall_mem_cons.mpr ⟨zt_mlk_278, (List.forall_mem_cons.mpr ⟨zt_mlk_279, (List.forall_mem_cons.mpr ⟨zt_mlk_280, (List.forall_mem_cons.mpr ⟨zt_mlk_281, (List.forall_mem_cons.mpr ⟨zt_mlk_282, (List.forall_mem_cons.mpr ⟨zt_mlk_283, (List.forall_mem_cons.mpr ⟨zt_mlk_284, (List.forall_mem_cons.mpr ⟨zt_mlk_285, (List.forall_mem_cons.mpr ⟨zt_mlk_286, (List.forall_mem_cons.mpr ⟨zt_mlk_287, (List.forall_mem_cons.mpr ⟨zt_mlk_288, (List.forall_mem_cons.mpr ⟨zt_mlk_289, (List.forall_mem_cons.mpr ⟨zt_mlk_290, (List.forall_mem_cons.mpr ⟨zt_mlk_291, (List.forall_mem_cons.mpr ⟨zt_mlk_292, (List.forall_mem_cons.mpr ⟨zt_mlk_293, (List.forall_mem_cons.mpr ⟨zt_mlk_294, (List.forall_mem_cons.mpr ⟨zt_mlk_295, (List.forall_mem_cons.mpr ⟨zt_mlk_296, (List.forall_mem_cons.mpr ⟨zt_mlk_297, (List.forall_mem_cons.mpr ⟨zt_mlk_298, (List.forall_mem_cons.mpr ⟨zt_mlk_299, (List.forall_mem_cons.mpr ⟨zt_mlk_300, (List.forall_mem_cons.mpr ⟨zt_mlk_301, (List.forall_mem_cons.mpr ⟨zt_mlk_302, (fun _ h => absurd h List.not_mem_nil)⟩)⟩)⟩)⟩)⟩)⟩)⟩)⟩)⟩)⟩)⟩)⟩)⟩)⟩)⟩)⟩)⟩)⟩)⟩)⟩)⟩)⟩)⟩)⟩)⟩)⟩)⟩)⟩)⟩)⟩)⟩)⟩)⟩)⟩)⟩)⟩)⟩)⟩)⟩)⟩)⟩)⟩)⟩)⟩)⟩)⟩)⟩)⟩)⟩)⟩)⟩)⟩)⟩)⟩)⟩)⟩)⟩)⟩)⟩)⟩)⟩)⟩)⟩)⟩)⟩)⟩)⟩)⟩)⟩)⟩)⟩)⟩)⟩)⟩)⟩)⟩)⟩)⟩)⟩)⟩)⟩)⟩)⟩)⟩)⟩)⟩)⟩)⟩)⟩)⟩)⟩)⟩)⟩)⟩)⟩)⟩)⟩)⟩)⟩)⟩)⟩)⟩)⟩)⟩)⟩)⟩)⟩)⟩)⟩)⟩)⟩)⟩)⟩)⟩)⟩)⟩)⟩)⟩)⟩)⟩)⟩)⟩)⟩)⟩)⟩)⟩)⟩)⟩)⟩)⟩)⟩)⟩)⟩)⟩)⟩)⟩)⟩)⟩)⟩)⟩)⟩)⟩)⟩)⟩)⟩)⟩)⟩)⟩)⟩)⟩)⟩)⟩)⟩)⟩)⟩)⟩)⟩)⟩)⟩)⟩)⟩)⟩)⟩)⟩)⟩)⟩)⟩)⟩)⟩)⟩)⟩)⟩)⟩)⟩)⟩)⟩)⟩)⟩)⟩)⟩)⟩)⟩)⟩)⟩)⟩)⟩)⟩)⟩)⟩)⟩)⟩)⟩)⟩)⟩)⟩)⟩)⟩)⟩)⟩)⟩)⟩)⟩)⟩)⟩)⟩)⟩)⟩)⟩)⟩)⟩)⟩)⟩)⟩)⟩)⟩)⟩)⟩)⟩)⟩)⟩)⟩)⟩)⟩)⟩)⟩)⟩)⟩)⟩)⟩)⟩)⟩)⟩)⟩)⟩)⟩)⟩)⟩)⟩)⟩)⟩)⟩)⟩)⟩)⟩)⟩)⟩)⟩)⟩)⟩)⟩)⟩)⟩)⟩)⟩)⟩)⟩)⟩)⟩)⟩)⟩)⟩)⟩)⟩)⟩)⟩)⟩)⟩)⟩)⟩)⟩)⟩)⟩)⟩)⟩)⟩)⟩)⟩)⟩)⟩)⟩)⟩)⟩)⟩)⟩)⟩)⟩)⟩)⟩)⟩)⟩)⟩)⟩)⟩)⟩)⟩)⟩)⟩)⟩)⟩)⟩)⟩)⟩)⟩)
def zt_ki : List (Nat × Nat × Int) := [(7, 265, 1431655765), (7, 266, 858993459), (7, 267, 252645135), (2, 125, 1000000), (5, 180, 1000000000), (5, 256, 1000000), (5, 257, -10000000), (1, 76, 1103515245), (6, 189, 100000), (6, 337, -10000000), (6, 356, 1000000000), (6, 357, 1103515245)]
theorem zt_ki_0 : Cond.constant (zt_cn 7) 265 (Int32.ofInt (1431655765)) ∈ zt_Ts := zw_362
theorem zt_ki_1 : Cond.constant (zt_cn 7) 266 (Int32.ofInt (858993459)) ∈ zt_Ts := zw_363
theorem zt_ki_2 : Cond.constant (zt_cn 7) 267 (Int32.ofInt (252645135)) ∈ zt_Ts := zw_364
theorem zt_ki_3 : Cond.constant (zt_cn 2) 125 (Int32.ofInt (1000000)) ∈ zt_Ts := zw_421
theorem zt_ki_4 : Cond.constant (zt_cn 5) 180 (Int32.ofInt (1000000000)) ∈ zt_Ts := zw_497
theorem zt_ki_5 : Cond.constant (zt_cn 5) 256 (Int32.ofInt (1000000)) ∈ zt_Ts := zw_735
theorem zt_ki_6 : Cond.constant (zt_cn 5) 257 (Int32.ofInt (-10000000)) ∈ zt_Ts := zw_756
theorem zt_ki_7 : Cond.constant (zt_cn 1) 76 (Int32.ofInt (1103515245)) ∈ zt_Ts := zw_826
theorem zt_ki_8 : Cond.constant (zt_cn 6) 189 (Int32.ofInt (100000)) ∈ zt_Ts := zw_1187
theorem zt_ki_9 : Cond.constant (zt_cn 6) 337 (Int32.ofInt (-10000000)) ∈ zt_Ts := zw_1324
theorem zt_ki_10 : Cond.constant (zt_cn 6) 356 (Int32.ofInt (1000000000)) ∈ zt_Ts := zw_1367
theorem zt_ki_11 : Cond.constant (zt_cn 6) 357 (Int32.ofInt (1103515245)) ∈ zt_Ts := zw_1388
set_option maxRecDepth 20000 in
theorem zt_ki_ok : ∀ q ∈ zt_ki, Cond.constant (zt_cn q.1) q.2.1 (Int32.ofInt q.2.2) ∈ zt_Ts := (List.forall_mem_cons.mpr ⟨zt_ki_0, (List.forall_mem_cons.mpr ⟨zt_ki_1, (List.forall_mem_cons.mpr ⟨zt_ki_2, (List.forall_mem_cons.mpr ⟨zt_ki_3, (List.forall_mem_cons.mpr ⟨zt_ki_4, (List.forall_mem_cons.mpr ⟨zt_ki_5, (List.forall_mem_cons.mpr ⟨zt_ki_6, (List.forall_mem_cons.mpr ⟨zt_ki_7, (List.forall_mem_cons.mpr ⟨zt_ki_8, (List.forall_mem_cons.mpr ⟨zt_ki_9, (List.forall_mem_cons.mpr ⟨zt_ki_10, (List.forall_mem_cons.mpr ⟨zt_ki_11, (fun _ h => absurd h List.not_mem_nil)⟩)⟩)⟩)⟩)⟩)⟩)⟩)⟩)⟩)⟩)⟩)⟩)
def zt_kl : List (Nat × Nat × Int) := [(5, 221, -10000000000000), (5, 276, 10), (6, 101, 7), (6, 103, 4), (6, 105, 40), (6, 122, 5), (6, 146, 2), (6, 148, 3), (6, 153, 99), (6, 162, 12), (6, 164, 1000000000), (6, 166, 255), (6, 265, 4000), (6, 267, 1000), (6, 269, -10000000000002), (6, 338, 8), (6, 340, 10), (6, 373, 16), (0, 18, 4294967295)]
theorem zt_kl_0 : Cond.constantLong (zt_cn 5) 221 (Int64.ofInt (-10000000000000)) ∈ zt_Ts := zw_659
theorem zt_kl_1 : Cond.constantLong (zt_cn 5) 276 (Int64.ofInt (10)) ∈ zt_Ts := zw_769
theorem zt_kl_2 : Cond.constantLong (zt_cn 6) 101 (Int64.ofInt (7)) ∈ zt_Ts := zw_995
theorem zt_kl_3 : Cond.constantLong (zt_cn 6) 103 (Int64.ofInt (4)) ∈ zt_Ts := zw_999
theorem zt_kl_4 : Cond.constantLong (zt_cn 6) 105 (Int64.ofInt (40)) ∈ zt_Ts := zw_1000
theorem zt_kl_5 : Cond.constantLong (zt_cn 6) 122 (Int64.ofInt (5)) ∈ zt_Ts := zw_1040
theorem zt_kl_6 : Cond.constantLong (zt_cn 6) 146 (Int64.ofInt (2)) ∈ zt_Ts := zw_1102
theorem zt_kl_7 : Cond.constantLong (zt_cn 6) 148 (Int64.ofInt (3)) ∈ zt_Ts := zw_1103
theorem zt_kl_8 : Cond.constantLong (zt_cn 6) 153 (Int64.ofInt (99)) ∈ zt_Ts := zw_1112
theorem zt_kl_9 : Cond.constantLong (zt_cn 6) 162 (Int64.ofInt (12)) ∈ zt_Ts := zw_1137
theorem zt_kl_10 : Cond.constantLong (zt_cn 6) 164 (Int64.ofInt (1000000000)) ∈ zt_Ts := zw_1142
theorem zt_kl_11 : Cond.constantLong (zt_cn 6) 166 (Int64.ofInt (255)) ∈ zt_Ts := zw_1151
theorem zt_kl_12 : Cond.constantLong (zt_cn 6) 265 (Int64.ofInt (4000)) ∈ zt_Ts := zw_1249
theorem zt_kl_13 : Cond.constantLong (zt_cn 6) 267 (Int64.ofInt (1000)) ∈ zt_Ts := zw_1254
theorem zt_kl_14 : Cond.constantLong (zt_cn 6) 269 (Int64.ofInt (-10000000000002)) ∈ zt_Ts := zw_1255
theorem zt_kl_15 : Cond.constantLong (zt_cn 6) 338 (Int64.ofInt (8)) ∈ zt_Ts := zw_1333
theorem zt_kl_16 : Cond.constantLong (zt_cn 6) 340 (Int64.ofInt (10)) ∈ zt_Ts := zw_1338
theorem zt_kl_17 : Cond.constantLong (zt_cn 6) 373 (Int64.ofInt (16)) ∈ zt_Ts := zw_1405
theorem zt_kl_18 : Cond.constantLong (zt_cn 0) 18 (Int64.ofInt (4294967295)) ∈ zt_Ts := zw_1406
set_option maxRecDepth 20000 in
theorem zt_kl_ok : ∀ q ∈ zt_kl, Cond.constantLong (zt_cn q.1) q.2.1 (Int64.ofInt q.2.2) ∈ zt_Ts := (List.forall_mem_cons.mpr ⟨zt_kl_0, (List.forall_mem_cons.mpr ⟨zt_kl_1, (List.forall_mem_cons.mpr ⟨zt_kl_2, (List.forall_mem_cons.mpr ⟨zt_kl_3, (List.forall_mem_cons.mpr ⟨zt_kl_4, (List.forall_mem_cons.mpr ⟨zt_kl_5, (List.forall_mem_cons.mpr ⟨zt_kl_6, (List.forall_mem_cons.mpr ⟨zt_kl_7, (List.forall_mem_cons.mpr ⟨zt_kl_8, (List.forall_mem_cons.mpr ⟨zt_kl_9, (List.forall_mem_cons.mpr ⟨zt_kl_10, (List.forall_mem_cons.mpr ⟨zt_kl_11, (List.forall_mem_cons.mpr ⟨zt_kl_12, (List.forall_mem_cons.mpr ⟨zt_kl_13, (List.forall_mem_cons.mpr ⟨zt_kl_14, (List.forall_mem_cons.mpr ⟨zt_kl_15, (List.forall_mem_cons.mpr ⟨zt_kl_16, (List.forall_mem_cons.mpr ⟨zt_kl_17, (List.forall_mem_cons.mpr ⟨zt_kl_18, (fun _ h => absurd h List.not_mem_nil)⟩)⟩)⟩)⟩)⟩)⟩)⟩)⟩)⟩)⟩)⟩)⟩)⟩)⟩)⟩)⟩)⟩)⟩)⟩)
def zt_ks : List (Nat × Nat × Nat) := [(4, 56, 0), (4, 70, 1), (4, 75, 2), (4, 80, 3), (4, 85, 4), (4, 90, 5), (4, 95, 6), (6, 216, 0), (6, 221, 1), (6, 226, 2), (6, 227, 3), (6, 231, 4), (6, 232, 5), (6, 233, 6)]
theorem zt_ks_0 : ∃ t, ((zt_cn 4, 56, t, 0) : String × Nat × String × Nat) ∈ zt_N.1 := ⟨"sides", (List.Mem.head _)⟩
theorem zt_ks_1 : ∃ t, ((zt_cn 4, 70, t, 1) : String × Nat × String × Nat) ∈ zt_N.1 := ⟨"thing", (zs1 (List.Mem.head _))⟩
theorem zt_ks_2 : ∃ t, ((zt_cn 4, 75, t, 2) : String × Nat × String × Nat) ∈ zt_N.1 := ⟨"law", (zs1 (zs1 (List.Mem.head _)))⟩
theorem zt_ks_3 : ∃ t, ((zt_cn 4, 80, t, 3) : String × Nat × String × Nat) ∈ zt_N.1 := ⟨"order", (zs1 (zs1 (zs1 (List.Mem.head _))))⟩
theorem zt_ks_4 : ∃ t, ((zt_cn 4, 85, t, 4) : String × Nat × String × Nat) ∈ zt_N.1 := ⟨"bent", (zs4 (List.Mem.head _))⟩
theorem zt_ks_5 : ∃ t, ((zt_cn 4, 90, t, 5) : String × Nat × String × Nat) ∈ zt_N.1 := ⟨"turn", (zs4 (zs1 (List.Mem.head _)))⟩
theorem zt_ks_6 : ∃ t, ((zt_cn 4, 95, t, 6) : String × Nat × String × Nat) ∈ zt_N.1 := ⟨"owns", (zs4 (zs1 (zs1 (List.Mem.head _))))⟩
theorem zt_ks_7 : ∃ t, ((zt_cn 6, 216, t, 0) : String × Nat × String × Nat) ∈ zt_N.1 := ⟨"sides", (zs4 (zs1 (zs1 (zs1 (List.Mem.head _)))))⟩
theorem zt_ks_8 : ∃ t, ((zt_cn 6, 221, t, 1) : String × Nat × String × Nat) ∈ zt_N.1 := ⟨"thing", (zs4 (zs4 (List.Mem.head _)))⟩
theorem zt_ks_9 : ∃ t, ((zt_cn 6, 226, t, 2) : String × Nat × String × Nat) ∈ zt_N.1 := ⟨"law", (zs4 (zs4 (zs1 (List.Mem.head _))))⟩
theorem zt_ks_10 : ∃ t, ((zt_cn 6, 227, t, 3) : String × Nat × String × Nat) ∈ zt_N.1 := ⟨"order", (zs4 (zs4 (zs1 (zs1 (List.Mem.head _)))))⟩
theorem zt_ks_11 : ∃ t, ((zt_cn 6, 231, t, 4) : String × Nat × String × Nat) ∈ zt_N.1 := ⟨"bent", (zs4 (zs4 (zs1 (zs1 (zs1 (List.Mem.head _))))))⟩
theorem zt_ks_12 : ∃ t, ((zt_cn 6, 232, t, 5) : String × Nat × String × Nat) ∈ zt_N.1 := ⟨"turn", (zs4 (zs4 (zs4 (List.Mem.head _))))⟩
theorem zt_ks_13 : ∃ t, ((zt_cn 6, 233, t, 6) : String × Nat × String × Nat) ∈ zt_N.1 := ⟨"owns", (zs4 (zs4 (zs4 (zs1 (List.Mem.head _)))))⟩
set_option maxRecDepth 20000 in
theorem zt_ks_ok : ∀ q ∈ zt_ks, ∃ t, ((zt_cn q.1, q.2.1, t, q.2.2) : String × Nat × String × Nat) ∈ zt_N.1 := (List.forall_mem_cons.mpr ⟨zt_ks_0, (List.forall_mem_cons.mpr ⟨zt_ks_1, (List.forall_mem_cons.mpr ⟨zt_ks_2, (List.forall_mem_cons.mpr ⟨zt_ks_3, (List.forall_mem_cons.mpr ⟨zt_ks_4, (List.forall_mem_cons.mpr ⟨zt_ks_5, (List.forall_mem_cons.mpr ⟨zt_ks_6, (List.forall_mem_cons.mpr ⟨zt_ks_7, (List.forall_mem_cons.mpr ⟨zt_ks_8, (List.forall_mem_cons.mpr ⟨zt_ks_9, (List.forall_mem_cons.mpr ⟨zt_ks_10, (List.forall_mem_cons.mpr ⟨zt_ks_11, (List.forall_mem_cons.mpr ⟨zt_ks_12, (List.forall_mem_cons.mpr ⟨zt_ks_13, (fun _ h => absurd h List.not_mem_nil)⟩)⟩)⟩)⟩)⟩)⟩)⟩)⟩)⟩)⟩)⟩)⟩)⟩)⟩)
def zt_sf : List (Nat × Nat × Nat) := [(9, 9, 3), (9, 15, 2)]
theorem zt_sf_0 : Cond.fieldLink (zt_cn 9)  9 "java/lang/String" "value" "[B" ∈ zt_Ts := zw_1407
theorem zt_sf_1 : Cond.fieldLink (zt_cn 9)  15 "java/lang/String" "coder" "B" ∈ zt_Ts := zw_1408
theorem zt_sf_ok : ∀ q ∈ zt_sf, (q.2.2 = 2 ∧ Cond.fieldLink (zt_cn q.1) q.2.1 "java/lang/String" "coder" "B" ∈ zt_Ts) ∨ (q.2.2 = 3 ∧ Cond.fieldLink (zt_cn q.1) q.2.1 "java/lang/String" "value" "[B" ∈ zt_Ts) := (List.forall_mem_cons.mpr ⟨Or.inr ⟨rfl, zt_sf_0⟩, (List.forall_mem_cons.mpr ⟨Or.inl ⟨rfl, zt_sf_1⟩, (fun _ h => absurd h List.not_mem_nil)⟩)⟩)
def zt_gs : List (Nat × Nat × Nat) := [(9, 38, 0), (9, 1053, 1)]
theorem zt_gs_0 : Cond.fieldLink (zt_cn 9)  38 "java/lang/String" "COMPACT_STRINGS" "Z" ∈ zt_Ts := zw_553
theorem zt_gs_1 : Cond.fieldLink (zt_cn 9)  1053 "jdk/internal/util/Preconditions" "SIOOBE_FORMATTER" "Ljava/util/function/BiFunction;" ∈ zt_Ts := zw_569
theorem zt_gs_ok : ∀ q ∈ zt_gs, (q.2.2 = 0 ∧ Cond.fieldLink (zt_cn q.1) q.2.1 "java/lang/String" "COMPACT_STRINGS" "Z" ∈ zt_Ts) ∨ (q.2.2 = 1 ∧ Cond.fieldLink (zt_cn q.1) q.2.1 "jdk/internal/util/Preconditions" "SIOOBE_FORMATTER" "Ljava/util/function/BiFunction;" ∈ zt_Ts) := (List.forall_mem_cons.mpr ⟨Or.inl ⟨rfl, zt_gs_0⟩, (List.forall_mem_cons.mpr ⟨Or.inr ⟨rfl, zt_gs_1⟩, (fun _ h => absurd h List.not_mem_nil)⟩)⟩)
def zt_nw : List (Nat × Nat × Nat) := [(0, 7, 4), (5, 9, 0), (5, 22, 3), (5, 29, 2), (5, 40, 1), (0, 10, 5), (6, 8, 5)]
theorem zt_nw_0 : ∃ (C : String) (T : u_T) (n : Nat), zt_cl[4]? = some (C, T, n) ∧ Cond.classLink (zt_cn 0) 7 C ∈ zt_Ts ∧ Cond.instantiable C n ∈ zt_Ts ∧ Cond.initialized C ∈ zt_Ts ∧ 4 < 10 := ⟨"FirstAtTheFirst", zt_T4, 14, rfl, zw_13, zw_14, zw_1, by decide⟩
theorem zt_nw_1 : ∃ (C : String) (T : u_T) (n : Nat), zt_cl[0]? = some (C, T, n) ∧ Cond.classLink (zt_cn 5) 9 C ∈ zt_Ts ∧ Cond.instantiable C n ∈ zt_Ts ∧ Cond.initialized C ∈ zt_Ts ∧ 0 < 10 := ⟨"FirstAtTheFirst$Estate", zt_T0, 10, rfl, zw_21, zw_22, zw_2, by decide⟩
theorem zt_nw_2 : ∃ (C : String) (T : u_T) (n : Nat), zt_cl[3]? = some (C, T, n) ∧ Cond.classLink (zt_cn 5) 22 C ∈ zt_Ts ∧ Cond.instantiable C n ∈ zt_Ts ∧ Cond.initialized C ∈ zt_Ts ∧ 3 < 10 := ⟨"FirstAtTheFirst$Tape", zt_T3, 6, rfl, zw_80, zw_81, zw_3, by decide⟩
theorem zt_nw_3 : ∃ (C : String) (T : u_T) (n : Nat), zt_cl[2]? = some (C, T, n) ∧ Cond.classLink (zt_cn 5) 29 C ∈ zt_Ts ∧ Cond.instantiable C n ∈ zt_Ts ∧ Cond.initialized C ∈ zt_Ts ∧ 2 < 10 := ⟨"FirstAtTheFirst$Shelves", zt_T2, 4, rfl, zw_108, zw_109, zw_4, by decide⟩
theorem zt_nw_4 : ∃ (C : String) (T : u_T) (n : Nat), zt_cl[1]? = some (C, T, n) ∧ Cond.classLink (zt_cn 5) 40 C ∈ zt_Ts ∧ Cond.instantiable C n ∈ zt_Ts ∧ Cond.initialized C ∈ zt_Ts ∧ 1 < 10 := ⟨"FirstAtTheFirst$Mind", zt_T1, 9, rfl, zw_128, zw_129, zw_5, by decide⟩
theorem zt_nw_5 : ∃ (C : String) (T : u_T) (n : Nat), zt_cl[5]? = some (C, T, n) ∧ Cond.classLink (zt_cn 0) 10 C ∈ zt_Ts ∧ Cond.instantiable C n ∈ zt_Ts ∧ Cond.initialized C ∈ zt_Ts ∧ 5 < 10 := ⟨"FirstAtTheFirstModel", zt_T5, 43, rfl, zw_851, zw_852, zw_6, by decide⟩
theorem zt_nw_6 : ∃ (C : String) (T : u_T) (n : Nat), zt_cl[5]? = some (C, T, n) ∧ Cond.classLink (zt_cn 6) 8 C ∈ zt_Ts ∧ Cond.instantiable C n ∈ zt_Ts ∧ Cond.initialized C ∈ zt_Ts ∧ 5 < 10 := ⟨"FirstAtTheFirstModel", zt_T5, 43, rfl, zw_1164, zw_852, zw_6, by decide⟩
set_option maxRecDepth 20000 in
theorem zt_nw_ok : ∀ q ∈ zt_nw, ∃ (C : String) (T : u_T) (n : Nat), zt_cl[q.2.2]? = some (C, T, n) ∧ Cond.classLink (zt_cn q.1) q.2.1 C ∈ zt_Ts ∧ Cond.instantiable C n ∈ zt_Ts ∧ Cond.initialized C ∈ zt_Ts ∧ q.2.2 < 10 := (List.forall_mem_cons.mpr ⟨zt_nw_0, (List.forall_mem_cons.mpr ⟨zt_nw_1, (List.forall_mem_cons.mpr ⟨zt_nw_2, (List.forall_mem_cons.mpr ⟨zt_nw_3, (List.forall_mem_cons.mpr ⟨zt_nw_4, (List.forall_mem_cons.mpr ⟨zt_nw_5, (List.forall_mem_cons.mpr ⟨zt_nw_6, (fun _ h => absurd h List.not_mem_nil)⟩)⟩)⟩)⟩)⟩)⟩)⟩)
def zt_ma : List (Nat × Nat × Nat) := [(6, 19, 1), (6, 44, 0)]
theorem zt_ma_0 : Cond.classLink (zt_cn 6) 19 "[[J" ∈ zt_Ts ∧ Cond.arrayClass .long ∈ zt_Ts := ⟨zw_857, zw_127⟩
theorem zt_ma_1 : Cond.classLink (zt_cn 6) 44 "[[I" ∈ zt_Ts ∧ Cond.arrayClass .int ∈ zt_Ts := ⟨zw_859, zw_79⟩
theorem zt_ma_ok : ∀ q ∈ zt_ma, (q.2.2 = 0 ∧ Cond.classLink (zt_cn q.1) q.2.1 "[[I" ∈ zt_Ts ∧ Cond.arrayClass .int ∈ zt_Ts) ∨ (q.2.2 = 1 ∧ Cond.classLink (zt_cn q.1) q.2.1 "[[J" ∈ zt_Ts ∧ Cond.arrayClass .long ∈ zt_Ts) := (List.forall_mem_cons.mpr ⟨Or.inr ⟨rfl, zt_ma_0⟩, (List.forall_mem_cons.mpr ⟨Or.inl ⟨rfl, zt_ma_1⟩, (fun _ h => absurd h List.not_mem_nil)⟩)⟩)
theorem zt_aci : Cond.arrayClass .int ∈ zt_Ts := zw_79
theorem zt_acl : Cond.arrayClass .long ∈ zt_Ts := zw_127
def zt_ob : List (Nat × Nat) := [(5, 3), (1, 3), (4, 3), (3, 3), (2, 3), (6, 1)]
theorem zt_ob_ok : ∀ q ∈ zt_ob, Cond.methodLink (zt_cn q.1) q.2 Lib.objectInit ∈ zt_Ts := (List.forall_mem_cons.mpr ⟨zw_18, (List.forall_mem_cons.mpr ⟨zw_26, (List.forall_mem_cons.mpr ⟨zw_85, (List.forall_mem_cons.mpr ⟨zw_113, (List.forall_mem_cons.mpr ⟨zw_133, (List.forall_mem_cons.mpr ⟨zw_856, (fun _ h => absurd h List.not_mem_nil)⟩)⟩)⟩)⟩)⟩)⟩)
theorem zt_obw : Cond.instanceMethod Lib.objectInit ∈ zt_Ts ∧ Cond.code Lib.objectInit ⟨#[0xb1]⟩ 1 none ∈ zt_Ts := ⟨zw_19, zw_20⟩
def zt_max : List (Nat × Nat) := [(2, 135), (5, 216)]
theorem zt_max_ok : ∀ q ∈ zt_max, Cond.methodLink (zt_cn q.1) q.2 Lib.Math.max.name ∈ zt_Ts := (List.forall_mem_cons.mpr ⟨zw_445, (List.forall_mem_cons.mpr ⟨zw_654, (fun _ h => absurd h List.not_mem_nil)⟩)⟩)
theorem zt_maxw : Cond.static Lib.Math.max.name ∈ zt_Ts ∧ Cond.initialized "java/lang/Math" ∈ zt_Ts ∧ Cond.code Lib.Math.max.name Lib.Math.max.code 2 (some .int) ∈ zt_Ts := ⟨zw_446, zw_8, zw_447⟩
def zt_min : List (Nat × Nat) := [(2, 78), (5, 293)]
theorem zt_min_ok : ∀ q ∈ zt_min, Cond.methodLink (zt_cn q.1) q.2 Lib.Math.min.name ∈ zt_Ts := (List.forall_mem_cons.mpr ⟨zw_405, (List.forall_mem_cons.mpr ⟨zw_705, (fun _ h => absurd h List.not_mem_nil)⟩)⟩)
theorem zt_minw : Cond.static Lib.Math.min.name ∈ zt_Ts ∧ Cond.initialized "java/lang/Math" ∈ zt_Ts ∧ Cond.code Lib.Math.min.name Lib.Math.min.code 2 (some .int) ∈ zt_Ts := ⟨zw_406, zw_8, zw_407⟩
