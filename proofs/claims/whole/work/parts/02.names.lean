/-- the words that stay good -/
def gt : List Cond := lw_tbl.filter goodWord
theorem mem_gt {w : Cond} (k : Nat) (h : lw_tbl[k]? = some w) (hg : goodWord w = true) : w ∈ gt := List.mem_filter.mpr ⟨List.mem_of_getElem? h, hg⟩
theorem gt_in {w : Cond} (h : w ∈ gt) : w ∈ lw_tbl := (List.mem_filter.mp h).1
theorem gt_ok {w : Cond} (h : w ∈ gt) : (w.onTables && w.keeps) = true ∨ ∃ ty, w = .arrayClass ty := good_of_word (List.mem_filter.mp h).2
theorem gt_all {ws : List Cond} (h : ∀ w ∈ ws, w ∈ gt) : GoodIn gt ws := fun w hw => ⟨h w hw, gt_ok (h w hw)⟩
theorem gt_c {c : Cond} (h : c ∈ gt) : ∀ w ∈ c :: gt, w ∈ gt := List.forall_mem_cons.mpr ⟨h, fun _ h => h⟩
theorem gd_V {own : String} {idx : Nat} {C : String} {y : MethodName} {b : ByteArray} {n : Nat} {r : Option FieldType} (h1 : Cond.methodLink own idx y ∈ gt) (h2 : Cond.instanceMethod y ∈ gt) (h3 : Cond.selects C y y ∈ gt) (h4 : Cond.initialized C ∈ gt) (h5 : Cond.code y b n r ∈ gt) : GoodIn gt (wsV own idx C y (.code y b n r :: gt)) := gt_all (List.forall_mem_cons.mpr ⟨h1, List.forall_mem_cons.mpr ⟨h2, List.forall_mem_cons.mpr ⟨h3, List.forall_mem_cons.mpr ⟨h4, gt_c h5⟩⟩⟩⟩)
theorem gd_S {own : String} {idx : Nat} {y : MethodName} {b : ByteArray} {n : Nat} {r : Option FieldType} (h1 : Cond.methodLink own idx y ∈ gt) (h2 : Cond.static y ∈ gt) (h4 : Cond.initialized own ∈ gt) (h5 : Cond.code y b n r ∈ gt) : GoodIn gt (wsS own idx y (.code y b n r :: gt)) := gt_all (List.forall_mem_cons.mpr ⟨h1, List.forall_mem_cons.mpr ⟨h2, List.forall_mem_cons.mpr ⟨h4, gt_c h5⟩⟩⟩)
theorem gd_T {own : String} {idx : Nat} {y : MethodName} {b : ByteArray} {n : Nat} {r : Option FieldType} (h1 : Cond.methodLink own idx y ∈ gt) (h2 : Cond.static y ∈ gt) (h4 : Cond.initialized y.cls ∈ gt) (h5 : Cond.code y b n r ∈ gt) : GoodIn gt (va_wsS own idx y (.code y b n r :: gt)) := gt_all (List.forall_mem_cons.mpr ⟨h1, List.forall_mem_cons.mpr ⟨h2, List.forall_mem_cons.mpr ⟨h4, gt_c h5⟩⟩⟩)
def R_SC : String := "StackCoder"
def T_SC : u_T := fun k => match k with
  | 0 => ("StackCoder", "source", "LStackCoder$RegisterCode;", true)
  | 1 => ("StackCoder", "flow", "LStackCoder$Flow;", true)
  | 2 => ("StackCoder", "carrying", "LStackCoder$Carrying;", true)
  | 3 => ("StackCoder", "target", "LStackCoder$StackCode;", true)
  | 4 => ("StackCoder", "machine", "LStackCoder$Machine;", true)
  | _ => ("StackCoder", "stale", "Z", false)
def t_SC : Nat → FieldType := fun k => match k with
  | 0 => .object "StackCoder$RegisterCode"
  | 1 => .object "StackCoder$Flow"
  | 2 => .object "StackCoder$Carrying"
  | 3 => .object "StackCoder$StackCode"
  | 4 => .object "StackCoder$Machine"
  | _ => .boolean
set_option maxRecDepth 20000 in
theorem n_SC : ∀ a, a < 6 → ∀ b, b < 6 → a ≠ b → (T_SC a).2.1 ≠ (T_SC b).2.1 := by decide +kernel
theorem t_SC_ok : ∀ k, k < 6 → parseFieldDescriptor (T_SC k).2.2.1 = some (t_SC k) := by decide +kernel
def R_RC : String := "StackCoder$RegisterCode"
def T_RC : u_T := fun k => match k with
  | 0 => ("StackCoder$RegisterCode", "operations", "[I", true)
  | 1 => ("StackCoder$RegisterCode", "ds", "[I", true)
  | 2 => ("StackCoder$RegisterCode", "as", "[I", true)
  | 3 => ("StackCoder$RegisterCode", "bs", "[I", true)
  | 4 => ("StackCoder$RegisterCode", "written", "[I", true)
  | 5 => ("StackCoder$RegisterCode", "readA", "[I", true)
  | 6 => ("StackCoder$RegisterCode", "readB", "[I", true)
  | _ => ("StackCoder$RegisterCode", "count", "I", false)
def t_RC : Nat → FieldType := fun k => match k with
  | 0 => .array .int
  | 1 => .array .int
  | 2 => .array .int
  | 3 => .array .int
  | 4 => .array .int
  | 5 => .array .int
  | 6 => .array .int
  | _ => .int
set_option maxRecDepth 20000 in
theorem n_RC : ∀ a, a < 8 → ∀ b, b < 8 → a ≠ b → (T_RC a).2.1 ≠ (T_RC b).2.1 := by decide +kernel
theorem t_RC_ok : ∀ k, k < 8 → parseFieldDescriptor (T_RC k).2.2.1 = some (t_RC k) := by decide +kernel
def R_FL : String := "StackCoder$Flow"
def T_FL : u_T := fun k => match k with
  | 0 => ("StackCoder$Flow", "code", "LStackCoder$RegisterCode;", true)
  | 1 => ("StackCoder$Flow", "begins", "[Z", true)
  | 2 => ("StackCoder$Flow", "before", "[I", true)
  | _ => ("StackCoder$Flow", "after", "[I", true)
def t_FL : Nat → FieldType := fun k => match k with
  | 0 => .object "StackCoder$RegisterCode"
  | 1 => .array .boolean
  | 2 => .array .int
  | _ => .array .int
set_option maxRecDepth 20000 in
theorem n_FL : ∀ a, a < 4 → ∀ b, b < 4 → a ≠ b → (T_FL a).2.1 ≠ (T_FL b).2.1 := by decide +kernel
theorem t_FL_ok : ∀ k, k < 4 → parseFieldDescriptor (T_FL k).2.2.1 = some (t_FL k) := by decide +kernel
def R_CA : String := "StackCoder$Carrying"
def T_CA : u_T := fun k => match k with
  | 0 => ("StackCoder$Carrying", "code", "LStackCoder$RegisterCode;", true)
  | 1 => ("StackCoder$Carrying", "flow", "LStackCoder$Flow;", true)
  | 2 => ("StackCoder$Carrying", "mostNeed", "I", true)
  | 3 => ("StackCoder$Carrying", "goals", "[I", true)
  | 4 => ("StackCoder$Carrying", "carriedAsA", "[I", true)
  | 5 => ("StackCoder$Carrying", "carriedAsB", "[I", true)
  | 6 => ("StackCoder$Carrying", "needs", "[I", true)
  | 7 => ("StackCoder$Carrying", "treeReads", "[I", true)
  | _ => ("StackCoder$Carrying", "treeLoads", "[Z", true)
def t_CA : Nat → FieldType := fun k => match k with
  | 0 => .object "StackCoder$RegisterCode"
  | 1 => .object "StackCoder$Flow"
  | 2 => .int
  | 3 => .array .int
  | 4 => .array .int
  | 5 => .array .int
  | 6 => .array .int
  | 7 => .array .int
  | _ => .array .boolean
set_option maxRecDepth 20000 in
theorem n_CA : ∀ a, a < 9 → ∀ b, b < 9 → a ≠ b → (T_CA a).2.1 ≠ (T_CA b).2.1 := by decide +kernel
theorem t_CA_ok : ∀ k, k < 9 → parseFieldDescriptor (T_CA k).2.2.1 = some (t_CA k) := by decide +kernel
def R_ST : String := "StackCoder$StackCode"
def T_ST : u_T := fun k => match k with
  | 0 => ("StackCoder$StackCode", "code", "LStackCoder$RegisterCode;", true)
  | 1 => ("StackCoder$StackCode", "flow", "LStackCoder$Flow;", true)
  | 2 => ("StackCoder$StackCode", "carrying", "LStackCoder$Carrying;", true)
  | 3 => ("StackCoder$StackCode", "operations", "[I", true)
  | 4 => ("StackCoder$StackCode", "numbers", "[I", true)
  | 5 => ("StackCoder$StackCode", "widths", "[I", true)
  | 6 => ("StackCoder$StackCode", "starts", "[I", true)
  | 7 => ("StackCoder$StackCode", "endPlace", "I", false)
  | _ => ("StackCoder$StackCode", "puts", "I", false)
def t_ST : Nat → FieldType := fun k => match k with
  | 0 => .object "StackCoder$RegisterCode"
  | 1 => .object "StackCoder$Flow"
  | 2 => .object "StackCoder$Carrying"
  | 3 => .array .int
  | 4 => .array .int
  | 5 => .array .int
  | 6 => .array .int
  | 7 => .int
  | _ => .int
set_option maxRecDepth 20000 in
theorem n_ST : ∀ a, a < 9 → ∀ b, b < 9 → a ≠ b → (T_ST a).2.1 ≠ (T_ST b).2.1 := by decide +kernel
theorem t_ST_ok : ∀ k, k < 9 → parseFieldDescriptor (T_ST k).2.2.1 = some (t_ST k) := by decide +kernel
def R_MA : String := "StackCoder$Machine"
def T_MA : u_T := fun k => match k with
  | 0 => ("StackCoder$Machine", "registers", "[I", true)
  | 1 => ("StackCoder$Machine", "cells", "[I", true)
  | 2 => ("StackCoder$Machine", "kept", "[I", true)
  | 3 => ("StackCoder$Machine", "stack", "[I", true)
  | 4 => ("StackCoder$Machine", "height", "I", false)
  | 5 => ("StackCoder$Machine", "printed", "I", false)
  | _ => ("StackCoder$Machine", "steps", "I", false)
def t_MA : Nat → FieldType := fun k => match k with
  | 0 => .array .int
  | 1 => .array .int
  | 2 => .array .int
  | 3 => .array .int
  | 4 => .int
  | 5 => .int
  | _ => .int
set_option maxRecDepth 20000 in
theorem n_MA : ∀ a, a < 7 → ∀ b, b < 7 → a ≠ b → (T_MA a).2.1 ≠ (T_MA b).2.1 := by decide +kernel
theorem t_MA_ok : ∀ k, k < 7 → parseFieldDescriptor (T_MA k).2.2.1 = some (t_MA k) := by decide +kernel
def R_MO : String := "StackCoderModel"
def T_MO : u_T := fun k => match k with
  | 0 => ("StackCoderModel", "most", "I", true)
  | 1 => ("StackCoderModel", "size", "I", false)
  | 2 => ("StackCoderModel", "operation", "[I", true)
  | 3 => ("StackCoderModel", "d", "[I", true)
  | 4 => ("StackCoderModel", "a", "[I", true)
  | 5 => ("StackCoderModel", "b", "[I", true)
  | 6 => ("StackCoderModel", "known", "Z", false)
  | 7 => ("StackCoderModel", "begins", "[Z", true)
  | 8 => ("StackCoderModel", "alive", "[I", true)
  | 9 => ("StackCoderModel", "into", "[I", true)
  | 10 => ("StackCoderModel", "forA", "[I", true)
  | 11 => ("StackCoderModel", "forB", "[I", true)
  | 12 => ("StackCoderModel", "needs", "[I", true)
  | 13 => ("StackCoderModel", "reads", "[I", true)
  | 14 => ("StackCoderModel", "loads", "[Z", true)
  | 15 => ("StackCoderModel", "length", "I", false)
  | 16 => ("StackCoderModel", "op", "[I", true)
  | 17 => ("StackCoderModel", "number", "[I", true)
  | 18 => ("StackCoderModel", "place", "[I", true)
  | 19 => ("StackCoderModel", "todo", "[I", true)
  | 20 => ("StackCoderModel", "printed", "I", false)
  | 21 => ("StackCoderModel", "outs", "[I", true)
  | 22 => ("StackCoderModel", "done", "I", false)
  | 23 => ("StackCoderModel", "memory", "[I", true)
  | 24 => ("StackCoderModel", "register", "[I", true)
  | _ => ("StackCoderModel", "stack", "[I", true)
def t_MO : Nat → FieldType := fun k => match k with
  | 0 => .int
  | 1 => .int
  | 2 => .array .int
  | 3 => .array .int
  | 4 => .array .int
  | 5 => .array .int
  | 6 => .boolean
  | 7 => .array .boolean
  | 8 => .array .int
  | 9 => .array .int
  | 10 => .array .int
  | 11 => .array .int
  | 12 => .array .int
  | 13 => .array .int
  | 14 => .array .boolean
  | 15 => .int
  | 16 => .array .int
  | 17 => .array .int
  | 18 => .array .int
  | 19 => .array .int
  | 20 => .int
  | 21 => .array .int
  | 22 => .int
  | 23 => .array .int
  | 24 => .array .int
  | _ => .array .int
set_option maxRecDepth 20000 in
theorem n_MO : ∀ a, a < 26 → ∀ b, b < 26 → a ≠ b → (T_MO a).2.1 ≠ (T_MO b).2.1 := by decide +kernel
theorem t_MO_ok : ∀ k, k < 26 → parseFieldDescriptor (T_MO k).2.2.1 = some (t_MO k) := by decide +kernel
abbrev vwCl : List vw_C := [(R_SC, T_SC, 6), (R_RC, T_RC, 8), (R_FL, T_FL, 4), (R_CA, T_CA, 9), (R_ST, T_ST, 9), (R_MA, T_MA, 7), (R_MO, T_MO, 26)]
def R_LA : String := "StackCoderLaw"
abbrev b_SC_init : ByteArray := prog_1_method_1_code
def y_SC_init : MethodName := ⟨R_SC, "<init>", "(I)V"⟩
abbrev ws_SC_init : List Cond := .code y_SC_init b_SC_init 3 none :: gt
theorem hs_SC_init : y_SC_init.cls = R_SC ∧ y_SC_init.cls ≠ "java/lang/invoke/MethodHandle" ∧ y_SC_init.cls ≠ "java/lang/invoke/VarHandle" ∧ (parseMethodDescriptor y_SC_init.desc).map (fun d => d.parameters.length) = some 1 := by decide +kernel
theorem ht_SC_init : y_SC_init.cls ≠ "java/lang/invoke/MethodHandle" ∧ y_SC_init.cls ≠ "java/lang/invoke/VarHandle" ∧ (parseMethodDescriptor y_SC_init.desc).map (fun d => d.parameters.length) = some 1 := hs_SC_init.2
abbrev b_SC_add : ByteArray := prog_1_method_2_code
def y_SC_add : MethodName := ⟨R_SC, "add", "(IIII)I"⟩
abbrev ws_SC_add : List Cond := .code y_SC_add b_SC_add 6 (some .int) :: gt
theorem hs_SC_add : y_SC_add.cls = R_SC ∧ y_SC_add.cls ≠ "java/lang/invoke/MethodHandle" ∧ y_SC_add.cls ≠ "java/lang/invoke/VarHandle" ∧ (parseMethodDescriptor y_SC_add.desc).map (fun d => d.parameters.length) = some 4 := by decide +kernel
theorem ht_SC_add : y_SC_add.cls ≠ "java/lang/invoke/MethodHandle" ∧ y_SC_add.cls ≠ "java/lang/invoke/VarHandle" ∧ (parseMethodDescriptor y_SC_add.desc).map (fun d => d.parameters.length) = some 4 := hs_SC_add.2
abbrev b_SC_set : ByteArray := prog_1_method_3_code
def y_SC_set : MethodName := ⟨R_SC, "set", "(IIIII)Z"⟩
abbrev ws_SC_set : List Cond := .code y_SC_set b_SC_set 6 (some .boolean) :: gt
theorem hs_SC_set : y_SC_set.cls = R_SC ∧ y_SC_set.cls ≠ "java/lang/invoke/MethodHandle" ∧ y_SC_set.cls ≠ "java/lang/invoke/VarHandle" ∧ (parseMethodDescriptor y_SC_set.desc).map (fun d => d.parameters.length) = some 5 := by decide +kernel
theorem ht_SC_set : y_SC_set.cls ≠ "java/lang/invoke/MethodHandle" ∧ y_SC_set.cls ≠ "java/lang/invoke/VarHandle" ∧ (parseMethodDescriptor y_SC_set.desc).map (fun d => d.parameters.length) = some 5 := hs_SC_set.2
abbrev b_SC_cut : ByteArray := prog_1_method_4_code
def y_SC_cut : MethodName := ⟨R_SC, "cut", "(I)Z"⟩
abbrev ws_SC_cut : List Cond := .code y_SC_cut b_SC_cut 2 (some .boolean) :: gt
theorem hs_SC_cut : y_SC_cut.cls = R_SC ∧ y_SC_cut.cls ≠ "java/lang/invoke/MethodHandle" ∧ y_SC_cut.cls ≠ "java/lang/invoke/VarHandle" ∧ (parseMethodDescriptor y_SC_cut.desc).map (fun d => d.parameters.length) = some 1 := by decide +kernel
theorem ht_SC_cut : y_SC_cut.cls ≠ "java/lang/invoke/MethodHandle" ∧ y_SC_cut.cls ≠ "java/lang/invoke/VarHandle" ∧ (parseMethodDescriptor y_SC_cut.desc).map (fun d => d.parameters.length) = some 1 := hs_SC_cut.2
abbrev b_SC_size : ByteArray := prog_1_method_5_code
def y_SC_size : MethodName := ⟨R_SC, "size", "()I"⟩
abbrev ws_SC_size : List Cond := .code y_SC_size b_SC_size 1 (some .int) :: gt
theorem hs_SC_size : y_SC_size.cls = R_SC ∧ y_SC_size.cls ≠ "java/lang/invoke/MethodHandle" ∧ y_SC_size.cls ≠ "java/lang/invoke/VarHandle" ∧ (parseMethodDescriptor y_SC_size.desc).map (fun d => d.parameters.length) = some 0 := by decide +kernel
theorem ht_SC_size : y_SC_size.cls ≠ "java/lang/invoke/MethodHandle" ∧ y_SC_size.cls ≠ "java/lang/invoke/VarHandle" ∧ (parseMethodDescriptor y_SC_size.desc).map (fun d => d.parameters.length) = some 0 := hs_SC_size.2
abbrev b_SC_length : ByteArray := prog_1_method_6_code
def y_SC_length : MethodName := ⟨R_SC, "length", "()I"⟩
abbrev ws_SC_length : List Cond := .code y_SC_length b_SC_length 1 (some .int) :: gt
theorem hs_SC_length : y_SC_length.cls = R_SC ∧ y_SC_length.cls ≠ "java/lang/invoke/MethodHandle" ∧ y_SC_length.cls ≠ "java/lang/invoke/VarHandle" ∧ (parseMethodDescriptor y_SC_length.desc).map (fun d => d.parameters.length) = some 0 := by decide +kernel
theorem ht_SC_length : y_SC_length.cls ≠ "java/lang/invoke/MethodHandle" ∧ y_SC_length.cls ≠ "java/lang/invoke/VarHandle" ∧ (parseMethodDescriptor y_SC_length.desc).map (fun d => d.parameters.length) = some 0 := hs_SC_length.2
abbrev b_SC_code : ByteArray := prog_1_method_7_code
def y_SC_code : MethodName := ⟨R_SC, "code", "(I)I"⟩
abbrev ws_SC_code : List Cond := .code y_SC_code b_SC_code 2 (some .int) :: gt
theorem hs_SC_code : y_SC_code.cls = R_SC ∧ y_SC_code.cls ≠ "java/lang/invoke/MethodHandle" ∧ y_SC_code.cls ≠ "java/lang/invoke/VarHandle" ∧ (parseMethodDescriptor y_SC_code.desc).map (fun d => d.parameters.length) = some 1 := by decide +kernel
theorem ht_SC_code : y_SC_code.cls ≠ "java/lang/invoke/MethodHandle" ∧ y_SC_code.cls ≠ "java/lang/invoke/VarHandle" ∧ (parseMethodDescriptor y_SC_code.desc).map (fun d => d.parameters.length) = some 1 := hs_SC_code.2
abbrev b_SC_carried : ByteArray := prog_1_method_8_code
def y_SC_carried : MethodName := ⟨R_SC, "carried", "(I)I"⟩
abbrev ws_SC_carried : List Cond := .code y_SC_carried b_SC_carried 2 (some .int) :: gt
theorem hs_SC_carried : y_SC_carried.cls = R_SC ∧ y_SC_carried.cls ≠ "java/lang/invoke/MethodHandle" ∧ y_SC_carried.cls ≠ "java/lang/invoke/VarHandle" ∧ (parseMethodDescriptor y_SC_carried.desc).map (fun d => d.parameters.length) = some 1 := by decide +kernel
theorem ht_SC_carried : y_SC_carried.cls ≠ "java/lang/invoke/MethodHandle" ∧ y_SC_carried.cls ≠ "java/lang/invoke/VarHandle" ∧ (parseMethodDescriptor y_SC_carried.desc).map (fun d => d.parameters.length) = some 1 := hs_SC_carried.2
abbrev b_SC_need : ByteArray := prog_1_method_9_code
def y_SC_need : MethodName := ⟨R_SC, "need", "(I)I"⟩
abbrev ws_SC_need : List Cond := .code y_SC_need b_SC_need 2 (some .int) :: gt
theorem hs_SC_need : y_SC_need.cls = R_SC ∧ y_SC_need.cls ≠ "java/lang/invoke/MethodHandle" ∧ y_SC_need.cls ≠ "java/lang/invoke/VarHandle" ∧ (parseMethodDescriptor y_SC_need.desc).map (fun d => d.parameters.length) = some 1 := by decide +kernel
theorem ht_SC_need : y_SC_need.cls ≠ "java/lang/invoke/MethodHandle" ∧ y_SC_need.cls ≠ "java/lang/invoke/VarHandle" ∧ (parseMethodDescriptor y_SC_need.desc).map (fun d => d.parameters.length) = some 1 := hs_SC_need.2
abbrev b_SC_live : ByteArray := prog_1_method_10_code
def y_SC_live : MethodName := ⟨R_SC, "live", "(I)I"⟩
abbrev ws_SC_live : List Cond := .code y_SC_live b_SC_live 2 (some .int) :: gt
theorem hs_SC_live : y_SC_live.cls = R_SC ∧ y_SC_live.cls ≠ "java/lang/invoke/MethodHandle" ∧ y_SC_live.cls ≠ "java/lang/invoke/VarHandle" ∧ (parseMethodDescriptor y_SC_live.desc).map (fun d => d.parameters.length) = some 1 := by decide +kernel
theorem ht_SC_live : y_SC_live.cls ≠ "java/lang/invoke/MethodHandle" ∧ y_SC_live.cls ≠ "java/lang/invoke/VarHandle" ∧ (parseMethodDescriptor y_SC_live.desc).map (fun d => d.parameters.length) = some 1 := hs_SC_live.2
abbrev b_SC_stores : ByteArray := prog_1_method_11_code
def y_SC_stores : MethodName := ⟨R_SC, "stores", "()I"⟩
abbrev ws_SC_stores : List Cond := .code y_SC_stores b_SC_stores 1 (some .int) :: gt
theorem hs_SC_stores : y_SC_stores.cls = R_SC ∧ y_SC_stores.cls ≠ "java/lang/invoke/MethodHandle" ∧ y_SC_stores.cls ≠ "java/lang/invoke/VarHandle" ∧ (parseMethodDescriptor y_SC_stores.desc).map (fun d => d.parameters.length) = some 0 := by decide +kernel
theorem ht_SC_stores : y_SC_stores.cls ≠ "java/lang/invoke/MethodHandle" ∧ y_SC_stores.cls ≠ "java/lang/invoke/VarHandle" ∧ (parseMethodDescriptor y_SC_stores.desc).map (fun d => d.parameters.length) = some 0 := hs_SC_stores.2
abbrev b_SC_depth : ByteArray := prog_1_method_12_code
def y_SC_depth : MethodName := ⟨R_SC, "depth", "()I"⟩
abbrev ws_SC_depth : List Cond := .code y_SC_depth b_SC_depth 1 (some .int) :: gt
theorem hs_SC_depth : y_SC_depth.cls = R_SC ∧ y_SC_depth.cls ≠ "java/lang/invoke/MethodHandle" ∧ y_SC_depth.cls ≠ "java/lang/invoke/VarHandle" ∧ (parseMethodDescriptor y_SC_depth.desc).map (fun d => d.parameters.length) = some 0 := by decide +kernel
theorem ht_SC_depth : y_SC_depth.cls ≠ "java/lang/invoke/MethodHandle" ∧ y_SC_depth.cls ≠ "java/lang/invoke/VarHandle" ∧ (parseMethodDescriptor y_SC_depth.desc).map (fun d => d.parameters.length) = some 0 := hs_SC_depth.2
abbrev b_SC_run : ByteArray := prog_1_method_13_code
def y_SC_run : MethodName := ⟨R_SC, "run", "(I)I"⟩
abbrev ws_SC_run : List Cond := .code y_SC_run b_SC_run 2 (some .int) :: gt
theorem hs_SC_run : y_SC_run.cls = R_SC ∧ y_SC_run.cls ≠ "java/lang/invoke/MethodHandle" ∧ y_SC_run.cls ≠ "java/lang/invoke/VarHandle" ∧ (parseMethodDescriptor y_SC_run.desc).map (fun d => d.parameters.length) = some 1 := by decide +kernel
theorem ht_SC_run : y_SC_run.cls ≠ "java/lang/invoke/MethodHandle" ∧ y_SC_run.cls ≠ "java/lang/invoke/VarHandle" ∧ (parseMethodDescriptor y_SC_run.desc).map (fun d => d.parameters.length) = some 1 := hs_SC_run.2
abbrev b_SC_out : ByteArray := prog_1_method_14_code
def y_SC_out : MethodName := ⟨R_SC, "out", "(I)I"⟩
abbrev ws_SC_out : List Cond := .code y_SC_out b_SC_out 2 (some .int) :: gt
theorem hs_SC_out : y_SC_out.cls = R_SC ∧ y_SC_out.cls ≠ "java/lang/invoke/MethodHandle" ∧ y_SC_out.cls ≠ "java/lang/invoke/VarHandle" ∧ (parseMethodDescriptor y_SC_out.desc).map (fun d => d.parameters.length) = some 1 := by decide +kernel
theorem ht_SC_out : y_SC_out.cls ≠ "java/lang/invoke/MethodHandle" ∧ y_SC_out.cls ≠ "java/lang/invoke/VarHandle" ∧ (parseMethodDescriptor y_SC_out.desc).map (fun d => d.parameters.length) = some 1 := hs_SC_out.2
abbrev b_SC_steps : ByteArray := prog_1_method_15_code
def y_SC_steps : MethodName := ⟨R_SC, "steps", "()I"⟩
abbrev ws_SC_steps : List Cond := .code y_SC_steps b_SC_steps 1 (some .int) :: gt
theorem hs_SC_steps : y_SC_steps.cls = R_SC ∧ y_SC_steps.cls ≠ "java/lang/invoke/MethodHandle" ∧ y_SC_steps.cls ≠ "java/lang/invoke/VarHandle" ∧ (parseMethodDescriptor y_SC_steps.desc).map (fun d => d.parameters.length) = some 0 := by decide +kernel
theorem ht_SC_steps : y_SC_steps.cls ≠ "java/lang/invoke/MethodHandle" ∧ y_SC_steps.cls ≠ "java/lang/invoke/VarHandle" ∧ (parseMethodDescriptor y_SC_steps.desc).map (fun d => d.parameters.length) = some 0 := hs_SC_steps.2
abbrev b_SC_cell : ByteArray := prog_1_method_16_code
def y_SC_cell : MethodName := ⟨R_SC, "cell", "(I)I"⟩
abbrev ws_SC_cell : List Cond := .code y_SC_cell b_SC_cell 2 (some .int) :: gt
theorem hs_SC_cell : y_SC_cell.cls = R_SC ∧ y_SC_cell.cls ≠ "java/lang/invoke/MethodHandle" ∧ y_SC_cell.cls ≠ "java/lang/invoke/VarHandle" ∧ (parseMethodDescriptor y_SC_cell.desc).map (fun d => d.parameters.length) = some 1 := by decide +kernel
theorem ht_SC_cell : y_SC_cell.cls ≠ "java/lang/invoke/MethodHandle" ∧ y_SC_cell.cls ≠ "java/lang/invoke/VarHandle" ∧ (parseMethodDescriptor y_SC_cell.desc).map (fun d => d.parameters.length) = some 1 := hs_SC_cell.2
abbrev b_SC_translate : ByteArray := prog_1_method_17_code
def y_SC_translate : MethodName := ⟨R_SC, "translate", "()V"⟩
abbrev ws_SC_translate : List Cond := .code y_SC_translate b_SC_translate 1 none :: gt
theorem hs_SC_translate : y_SC_translate.cls = R_SC ∧ y_SC_translate.cls ≠ "java/lang/invoke/MethodHandle" ∧ y_SC_translate.cls ≠ "java/lang/invoke/VarHandle" ∧ (parseMethodDescriptor y_SC_translate.desc).map (fun d => d.parameters.length) = some 0 := by decide +kernel
theorem ht_SC_translate : y_SC_translate.cls ≠ "java/lang/invoke/MethodHandle" ∧ y_SC_translate.cls ≠ "java/lang/invoke/VarHandle" ∧ (parseMethodDescriptor y_SC_translate.desc).map (fun d => d.parameters.length) = some 0 := hs_SC_translate.2
abbrev b_RC_init : ByteArray := prog_5_method_1_code
def y_RC_init : MethodName := ⟨R_RC, "<init>", "()V"⟩
abbrev ws_RC_init : List Cond := .code y_RC_init b_RC_init 1 none :: gt
theorem hs_RC_init : y_RC_init.cls = R_RC ∧ y_RC_init.cls ≠ "java/lang/invoke/MethodHandle" ∧ y_RC_init.cls ≠ "java/lang/invoke/VarHandle" ∧ (parseMethodDescriptor y_RC_init.desc).map (fun d => d.parameters.length) = some 0 := by decide +kernel
theorem ht_RC_init : y_RC_init.cls ≠ "java/lang/invoke/MethodHandle" ∧ y_RC_init.cls ≠ "java/lang/invoke/VarHandle" ∧ (parseMethodDescriptor y_RC_init.desc).map (fun d => d.parameters.length) = some 0 := hs_RC_init.2
abbrev b_RC_fits : ByteArray := prog_5_method_2_code
def y_RC_fits : MethodName := ⟨R_RC, "fits", "(IIII)Z"⟩
abbrev ws_RC_fits : List Cond := .code y_RC_fits b_RC_fits 4 (some .boolean) :: gt
theorem hs_RC_fits : y_RC_fits.cls = R_RC ∧ y_RC_fits.cls ≠ "java/lang/invoke/MethodHandle" ∧ y_RC_fits.cls ≠ "java/lang/invoke/VarHandle" ∧ (parseMethodDescriptor y_RC_fits.desc).map (fun d => d.parameters.length) = some 4 := by decide +kernel
theorem ht_RC_fits : y_RC_fits.cls ≠ "java/lang/invoke/MethodHandle" ∧ y_RC_fits.cls ≠ "java/lang/invoke/VarHandle" ∧ (parseMethodDescriptor y_RC_fits.desc).map (fun d => d.parameters.length) = some 4 := hs_RC_fits.2
abbrev b_RC_isOfKind : ByteArray := prog_5_method_3_code
def y_RC_isOfKind : MethodName := ⟨R_RC, "isOfKind", "(II)Z"⟩
abbrev ws_RC_isOfKind : List Cond := .code y_RC_isOfKind b_RC_isOfKind 2 (some .boolean) :: gt
theorem hs_RC_isOfKind : y_RC_isOfKind.cls = R_RC ∧ y_RC_isOfKind.cls ≠ "java/lang/invoke/MethodHandle" ∧ y_RC_isOfKind.cls ≠ "java/lang/invoke/VarHandle" ∧ (parseMethodDescriptor y_RC_isOfKind.desc).map (fun d => d.parameters.length) = some 2 := by decide +kernel
theorem ht_RC_isOfKind : y_RC_isOfKind.cls ≠ "java/lang/invoke/MethodHandle" ∧ y_RC_isOfKind.cls ≠ "java/lang/invoke/VarHandle" ∧ (parseMethodDescriptor y_RC_isOfKind.desc).map (fun d => d.parameters.length) = some 2 := hs_RC_isOfKind.2
abbrev b_RC_count : ByteArray := prog_5_method_4_code
def y_RC_count : MethodName := ⟨R_RC, "count", "()I"⟩
abbrev ws_RC_count : List Cond := .code y_RC_count b_RC_count 1 (some .int) :: gt
theorem hs_RC_count : y_RC_count.cls = R_RC ∧ y_RC_count.cls ≠ "java/lang/invoke/MethodHandle" ∧ y_RC_count.cls ≠ "java/lang/invoke/VarHandle" ∧ (parseMethodDescriptor y_RC_count.desc).map (fun d => d.parameters.length) = some 0 := by decide +kernel
theorem ht_RC_count : y_RC_count.cls ≠ "java/lang/invoke/MethodHandle" ∧ y_RC_count.cls ≠ "java/lang/invoke/VarHandle" ∧ (parseMethodDescriptor y_RC_count.desc).map (fun d => d.parameters.length) = some 0 := hs_RC_count.2
abbrev b_RC_holds : ByteArray := prog_5_method_5_code
def y_RC_holds : MethodName := ⟨R_RC, "holds", "(I)Z"⟩
abbrev ws_RC_holds : List Cond := .code y_RC_holds b_RC_holds 2 (some .boolean) :: gt
theorem hs_RC_holds : y_RC_holds.cls = R_RC ∧ y_RC_holds.cls ≠ "java/lang/invoke/MethodHandle" ∧ y_RC_holds.cls ≠ "java/lang/invoke/VarHandle" ∧ (parseMethodDescriptor y_RC_holds.desc).map (fun d => d.parameters.length) = some 1 := by decide +kernel
theorem ht_RC_holds : y_RC_holds.cls ≠ "java/lang/invoke/MethodHandle" ∧ y_RC_holds.cls ≠ "java/lang/invoke/VarHandle" ∧ (parseMethodDescriptor y_RC_holds.desc).map (fun d => d.parameters.length) = some 1 := hs_RC_holds.2
abbrev b_RC_resize : ByteArray := prog_5_method_6_code
def y_RC_resize : MethodName := ⟨R_RC, "resize", "(I)V"⟩
abbrev ws_RC_resize : List Cond := .code y_RC_resize b_RC_resize 2 none :: gt
theorem hs_RC_resize : y_RC_resize.cls = R_RC ∧ y_RC_resize.cls ≠ "java/lang/invoke/MethodHandle" ∧ y_RC_resize.cls ≠ "java/lang/invoke/VarHandle" ∧ (parseMethodDescriptor y_RC_resize.desc).map (fun d => d.parameters.length) = some 1 := by decide +kernel
theorem ht_RC_resize : y_RC_resize.cls ≠ "java/lang/invoke/MethodHandle" ∧ y_RC_resize.cls ≠ "java/lang/invoke/VarHandle" ∧ (parseMethodDescriptor y_RC_resize.desc).map (fun d => d.parameters.length) = some 1 := hs_RC_resize.2
abbrev b_RC_write : ByteArray := prog_5_method_7_code
def y_RC_write : MethodName := ⟨R_RC, "write", "(IIIII)V"⟩
abbrev ws_RC_write : List Cond := .code y_RC_write b_RC_write 6 none :: gt
theorem hs_RC_write : y_RC_write.cls = R_RC ∧ y_RC_write.cls ≠ "java/lang/invoke/MethodHandle" ∧ y_RC_write.cls ≠ "java/lang/invoke/VarHandle" ∧ (parseMethodDescriptor y_RC_write.desc).map (fun d => d.parameters.length) = some 5 := by decide +kernel
theorem ht_RC_write : y_RC_write.cls ≠ "java/lang/invoke/MethodHandle" ∧ y_RC_write.cls ≠ "java/lang/invoke/VarHandle" ∧ (parseMethodDescriptor y_RC_write.desc).map (fun d => d.parameters.length) = some 5 := hs_RC_write.2
abbrev b_RC_operationOf : ByteArray := prog_5_method_8_code
def y_RC_operationOf : MethodName := ⟨R_RC, "operationOf", "(I)I"⟩
abbrev ws_RC_operationOf : List Cond := .code y_RC_operationOf b_RC_operationOf 2 (some .int) :: gt
theorem hs_RC_operationOf : y_RC_operationOf.cls = R_RC ∧ y_RC_operationOf.cls ≠ "java/lang/invoke/MethodHandle" ∧ y_RC_operationOf.cls ≠ "java/lang/invoke/VarHandle" ∧ (parseMethodDescriptor y_RC_operationOf.desc).map (fun d => d.parameters.length) = some 1 := by decide +kernel
theorem ht_RC_operationOf : y_RC_operationOf.cls ≠ "java/lang/invoke/MethodHandle" ∧ y_RC_operationOf.cls ≠ "java/lang/invoke/VarHandle" ∧ (parseMethodDescriptor y_RC_operationOf.desc).map (fun d => d.parameters.length) = some 1 := hs_RC_operationOf.2
abbrev b_RC_dOf : ByteArray := prog_5_method_9_code
def y_RC_dOf : MethodName := ⟨R_RC, "dOf", "(I)I"⟩
abbrev ws_RC_dOf : List Cond := .code y_RC_dOf b_RC_dOf 2 (some .int) :: gt
theorem hs_RC_dOf : y_RC_dOf.cls = R_RC ∧ y_RC_dOf.cls ≠ "java/lang/invoke/MethodHandle" ∧ y_RC_dOf.cls ≠ "java/lang/invoke/VarHandle" ∧ (parseMethodDescriptor y_RC_dOf.desc).map (fun d => d.parameters.length) = some 1 := by decide +kernel
theorem ht_RC_dOf : y_RC_dOf.cls ≠ "java/lang/invoke/MethodHandle" ∧ y_RC_dOf.cls ≠ "java/lang/invoke/VarHandle" ∧ (parseMethodDescriptor y_RC_dOf.desc).map (fun d => d.parameters.length) = some 1 := hs_RC_dOf.2
abbrev b_RC_aOf : ByteArray := prog_5_method_10_code
def y_RC_aOf : MethodName := ⟨R_RC, "aOf", "(I)I"⟩
abbrev ws_RC_aOf : List Cond := .code y_RC_aOf b_RC_aOf 2 (some .int) :: gt
theorem hs_RC_aOf : y_RC_aOf.cls = R_RC ∧ y_RC_aOf.cls ≠ "java/lang/invoke/MethodHandle" ∧ y_RC_aOf.cls ≠ "java/lang/invoke/VarHandle" ∧ (parseMethodDescriptor y_RC_aOf.desc).map (fun d => d.parameters.length) = some 1 := by decide +kernel
theorem ht_RC_aOf : y_RC_aOf.cls ≠ "java/lang/invoke/MethodHandle" ∧ y_RC_aOf.cls ≠ "java/lang/invoke/VarHandle" ∧ (parseMethodDescriptor y_RC_aOf.desc).map (fun d => d.parameters.length) = some 1 := hs_RC_aOf.2
abbrev b_RC_bOf : ByteArray := prog_5_method_11_code
def y_RC_bOf : MethodName := ⟨R_RC, "bOf", "(I)I"⟩
abbrev ws_RC_bOf : List Cond := .code y_RC_bOf b_RC_bOf 2 (some .int) :: gt
theorem hs_RC_bOf : y_RC_bOf.cls = R_RC ∧ y_RC_bOf.cls ≠ "java/lang/invoke/MethodHandle" ∧ y_RC_bOf.cls ≠ "java/lang/invoke/VarHandle" ∧ (parseMethodDescriptor y_RC_bOf.desc).map (fun d => d.parameters.length) = some 1 := by decide +kernel
theorem ht_RC_bOf : y_RC_bOf.cls ≠ "java/lang/invoke/MethodHandle" ∧ y_RC_bOf.cls ≠ "java/lang/invoke/VarHandle" ∧ (parseMethodDescriptor y_RC_bOf.desc).map (fun d => d.parameters.length) = some 1 := hs_RC_bOf.2
abbrev b_RC_writtenBy : ByteArray := prog_5_method_12_code
def y_RC_writtenBy : MethodName := ⟨R_RC, "writtenBy", "(I)I"⟩
abbrev ws_RC_writtenBy : List Cond := .code y_RC_writtenBy b_RC_writtenBy 2 (some .int) :: gt
theorem hs_RC_writtenBy : y_RC_writtenBy.cls = R_RC ∧ y_RC_writtenBy.cls ≠ "java/lang/invoke/MethodHandle" ∧ y_RC_writtenBy.cls ≠ "java/lang/invoke/VarHandle" ∧ (parseMethodDescriptor y_RC_writtenBy.desc).map (fun d => d.parameters.length) = some 1 := by decide +kernel
theorem ht_RC_writtenBy : y_RC_writtenBy.cls ≠ "java/lang/invoke/MethodHandle" ∧ y_RC_writtenBy.cls ≠ "java/lang/invoke/VarHandle" ∧ (parseMethodDescriptor y_RC_writtenBy.desc).map (fun d => d.parameters.length) = some 1 := hs_RC_writtenBy.2
abbrev b_RC_readAsA : ByteArray := prog_5_method_13_code
def y_RC_readAsA : MethodName := ⟨R_RC, "readAsA", "(I)I"⟩
abbrev ws_RC_readAsA : List Cond := .code y_RC_readAsA b_RC_readAsA 2 (some .int) :: gt
theorem hs_RC_readAsA : y_RC_readAsA.cls = R_RC ∧ y_RC_readAsA.cls ≠ "java/lang/invoke/MethodHandle" ∧ y_RC_readAsA.cls ≠ "java/lang/invoke/VarHandle" ∧ (parseMethodDescriptor y_RC_readAsA.desc).map (fun d => d.parameters.length) = some 1 := by decide +kernel
theorem ht_RC_readAsA : y_RC_readAsA.cls ≠ "java/lang/invoke/MethodHandle" ∧ y_RC_readAsA.cls ≠ "java/lang/invoke/VarHandle" ∧ (parseMethodDescriptor y_RC_readAsA.desc).map (fun d => d.parameters.length) = some 1 := hs_RC_readAsA.2
abbrev b_RC_readAsB : ByteArray := prog_5_method_14_code
def y_RC_readAsB : MethodName := ⟨R_RC, "readAsB", "(I)I"⟩
abbrev ws_RC_readAsB : List Cond := .code y_RC_readAsB b_RC_readAsB 2 (some .int) :: gt
theorem hs_RC_readAsB : y_RC_readAsB.cls = R_RC ∧ y_RC_readAsB.cls ≠ "java/lang/invoke/MethodHandle" ∧ y_RC_readAsB.cls ≠ "java/lang/invoke/VarHandle" ∧ (parseMethodDescriptor y_RC_readAsB.desc).map (fun d => d.parameters.length) = some 1 := by decide +kernel
theorem ht_RC_readAsB : y_RC_readAsB.cls ≠ "java/lang/invoke/MethodHandle" ∧ y_RC_readAsB.cls ≠ "java/lang/invoke/VarHandle" ∧ (parseMethodDescriptor y_RC_readAsB.desc).map (fun d => d.parameters.length) = some 1 := hs_RC_readAsB.2
abbrev b_RC_reads : ByteArray := prog_5_method_15_code
def y_RC_reads : MethodName := ⟨R_RC, "reads", "(II)Z"⟩
abbrev ws_RC_reads : List Cond := .code y_RC_reads b_RC_reads 3 (some .boolean) :: gt
theorem hs_RC_reads : y_RC_reads.cls = R_RC ∧ y_RC_reads.cls ≠ "java/lang/invoke/MethodHandle" ∧ y_RC_reads.cls ≠ "java/lang/invoke/VarHandle" ∧ (parseMethodDescriptor y_RC_reads.desc).map (fun d => d.parameters.length) = some 2 := by decide +kernel
theorem ht_RC_reads : y_RC_reads.cls ≠ "java/lang/invoke/MethodHandle" ∧ y_RC_reads.cls ≠ "java/lang/invoke/VarHandle" ∧ (parseMethodDescriptor y_RC_reads.desc).map (fun d => d.parameters.length) = some 2 := hs_RC_reads.2
abbrev b_RC_readsOnce : ByteArray := prog_5_method_16_code
def y_RC_readsOnce : MethodName := ⟨R_RC, "readsOnce", "(II)Z"⟩
abbrev ws_RC_readsOnce : List Cond := .code y_RC_readsOnce b_RC_readsOnce 3 (some .boolean) :: gt
theorem hs_RC_readsOnce : y_RC_readsOnce.cls = R_RC ∧ y_RC_readsOnce.cls ≠ "java/lang/invoke/MethodHandle" ∧ y_RC_readsOnce.cls ≠ "java/lang/invoke/VarHandle" ∧ (parseMethodDescriptor y_RC_readsOnce.desc).map (fun d => d.parameters.length) = some 2 := by decide +kernel
theorem ht_RC_readsOnce : y_RC_readsOnce.cls ≠ "java/lang/invoke/MethodHandle" ∧ y_RC_readsOnce.cls ≠ "java/lang/invoke/VarHandle" ∧ (parseMethodDescriptor y_RC_readsOnce.desc).map (fun d => d.parameters.length) = some 2 := hs_RC_readsOnce.2
abbrev b_FL_init : ByteArray := prog_3_method_1_code
def y_FL_init : MethodName := ⟨R_FL, "<init>", "(LStackCoder$RegisterCode;)V"⟩
abbrev ws_FL_init : List Cond := .code y_FL_init b_FL_init 2 none :: gt
theorem hs_FL_init : y_FL_init.cls = R_FL ∧ y_FL_init.cls ≠ "java/lang/invoke/MethodHandle" ∧ y_FL_init.cls ≠ "java/lang/invoke/VarHandle" ∧ (parseMethodDescriptor y_FL_init.desc).map (fun d => d.parameters.length) = some 1 := by decide +kernel
theorem ht_FL_init : y_FL_init.cls ≠ "java/lang/invoke/MethodHandle" ∧ y_FL_init.cls ≠ "java/lang/invoke/VarHandle" ∧ (parseMethodDescriptor y_FL_init.desc).map (fun d => d.parameters.length) = some 1 := hs_FL_init.2
abbrev b_FL_setOf : ByteArray := prog_3_method_2_code
def y_FL_setOf : MethodName := ⟨R_FL, "setOf", "(I)I"⟩
abbrev ws_FL_setOf : List Cond := .code y_FL_setOf b_FL_setOf 1 (some .int) :: gt
theorem hs_FL_setOf : y_FL_setOf.cls = R_FL ∧ y_FL_setOf.cls ≠ "java/lang/invoke/MethodHandle" ∧ y_FL_setOf.cls ≠ "java/lang/invoke/VarHandle" ∧ (parseMethodDescriptor y_FL_setOf.desc).map (fun d => d.parameters.length) = some 1 := by decide +kernel
theorem ht_FL_setOf : y_FL_setOf.cls ≠ "java/lang/invoke/MethodHandle" ∧ y_FL_setOf.cls ≠ "java/lang/invoke/VarHandle" ∧ (parseMethodDescriptor y_FL_setOf.desc).map (fun d => d.parameters.length) = some 1 := hs_FL_setOf.2
abbrev b_FL_trace : ByteArray := prog_3_method_3_code
def y_FL_trace : MethodName := ⟨R_FL, "trace", "()V"⟩
abbrev ws_FL_trace : List Cond := .code y_FL_trace b_FL_trace 3 none :: gt
theorem hs_FL_trace : y_FL_trace.cls = R_FL ∧ y_FL_trace.cls ≠ "java/lang/invoke/MethodHandle" ∧ y_FL_trace.cls ≠ "java/lang/invoke/VarHandle" ∧ (parseMethodDescriptor y_FL_trace.desc).map (fun d => d.parameters.length) = some 0 := by decide +kernel
theorem ht_FL_trace : y_FL_trace.cls ≠ "java/lang/invoke/MethodHandle" ∧ y_FL_trace.cls ≠ "java/lang/invoke/VarHandle" ∧ (parseMethodDescriptor y_FL_trace.desc).map (fun d => d.parameters.length) = some 0 := hs_FL_trace.2
abbrev b_FL_markBlocks : ByteArray := prog_3_method_4_code
def y_FL_markBlocks : MethodName := ⟨R_FL, "markBlocks", "()V"⟩
abbrev ws_FL_markBlocks : List Cond := .code y_FL_markBlocks b_FL_markBlocks 2 none :: gt
theorem hs_FL_markBlocks : y_FL_markBlocks.cls = R_FL ∧ y_FL_markBlocks.cls ≠ "java/lang/invoke/MethodHandle" ∧ y_FL_markBlocks.cls ≠ "java/lang/invoke/VarHandle" ∧ (parseMethodDescriptor y_FL_markBlocks.desc).map (fun d => d.parameters.length) = some 0 := by decide +kernel
theorem ht_FL_markBlocks : y_FL_markBlocks.cls ≠ "java/lang/invoke/MethodHandle" ∧ y_FL_markBlocks.cls ≠ "java/lang/invoke/VarHandle" ∧ (parseMethodDescriptor y_FL_markBlocks.desc).map (fun d => d.parameters.length) = some 0 := hs_FL_markBlocks.2
abbrev b_FL_markBegin : ByteArray := prog_3_method_5_code
def y_FL_markBegin : MethodName := ⟨R_FL, "markBegin", "(I)V"⟩
abbrev ws_FL_markBegin : List Cond := .code y_FL_markBegin b_FL_markBegin 2 none :: gt
theorem hs_FL_markBegin : y_FL_markBegin.cls = R_FL ∧ y_FL_markBegin.cls ≠ "java/lang/invoke/MethodHandle" ∧ y_FL_markBegin.cls ≠ "java/lang/invoke/VarHandle" ∧ (parseMethodDescriptor y_FL_markBegin.desc).map (fun d => d.parameters.length) = some 1 := by decide +kernel
theorem ht_FL_markBegin : y_FL_markBegin.cls ≠ "java/lang/invoke/MethodHandle" ∧ y_FL_markBegin.cls ≠ "java/lang/invoke/VarHandle" ∧ (parseMethodDescriptor y_FL_markBegin.desc).map (fun d => d.parameters.length) = some 1 := hs_FL_markBegin.2
abbrev b_FL_flowBack : ByteArray := prog_3_method_6_code
def y_FL_flowBack : MethodName := ⟨R_FL, "flowBack", "()Z"⟩
abbrev ws_FL_flowBack : List Cond := .code y_FL_flowBack b_FL_flowBack 5 (some .boolean) :: gt
theorem hs_FL_flowBack : y_FL_flowBack.cls = R_FL ∧ y_FL_flowBack.cls ≠ "java/lang/invoke/MethodHandle" ∧ y_FL_flowBack.cls ≠ "java/lang/invoke/VarHandle" ∧ (parseMethodDescriptor y_FL_flowBack.desc).map (fun d => d.parameters.length) = some 0 := by decide +kernel
theorem ht_FL_flowBack : y_FL_flowBack.cls ≠ "java/lang/invoke/MethodHandle" ∧ y_FL_flowBack.cls ≠ "java/lang/invoke/VarHandle" ∧ (parseMethodDescriptor y_FL_flowBack.desc).map (fun d => d.parameters.length) = some 0 := hs_FL_flowBack.2
abbrev b_FL_gatherAfter : ByteArray := prog_3_method_7_code
def y_FL_gatherAfter : MethodName := ⟨R_FL, "gatherAfter", "(I)I"⟩
abbrev ws_FL_gatherAfter : List Cond := .code y_FL_gatherAfter b_FL_gatherAfter 2 (some .int) :: gt
theorem hs_FL_gatherAfter : y_FL_gatherAfter.cls = R_FL ∧ y_FL_gatherAfter.cls ≠ "java/lang/invoke/MethodHandle" ∧ y_FL_gatherAfter.cls ≠ "java/lang/invoke/VarHandle" ∧ (parseMethodDescriptor y_FL_gatherAfter.desc).map (fun d => d.parameters.length) = some 1 := by decide +kernel
theorem ht_FL_gatherAfter : y_FL_gatherAfter.cls ≠ "java/lang/invoke/MethodHandle" ∧ y_FL_gatherAfter.cls ≠ "java/lang/invoke/VarHandle" ∧ (parseMethodDescriptor y_FL_gatherAfter.desc).map (fun d => d.parameters.length) = some 1 := hs_FL_gatherAfter.2
abbrev b_FL_beginsBlock : ByteArray := prog_3_method_8_code
def y_FL_beginsBlock : MethodName := ⟨R_FL, "beginsBlock", "(I)Z"⟩
abbrev ws_FL_beginsBlock : List Cond := .code y_FL_beginsBlock b_FL_beginsBlock 2 (some .boolean) :: gt
theorem hs_FL_beginsBlock : y_FL_beginsBlock.cls = R_FL ∧ y_FL_beginsBlock.cls ≠ "java/lang/invoke/MethodHandle" ∧ y_FL_beginsBlock.cls ≠ "java/lang/invoke/VarHandle" ∧ (parseMethodDescriptor y_FL_beginsBlock.desc).map (fun d => d.parameters.length) = some 1 := by decide +kernel
theorem ht_FL_beginsBlock : y_FL_beginsBlock.cls ≠ "java/lang/invoke/MethodHandle" ∧ y_FL_beginsBlock.cls ≠ "java/lang/invoke/VarHandle" ∧ (parseMethodDescriptor y_FL_beginsBlock.desc).map (fun d => d.parameters.length) = some 1 := hs_FL_beginsBlock.2
abbrev b_FL_liveBefore : ByteArray := prog_3_method_9_code
def y_FL_liveBefore : MethodName := ⟨R_FL, "liveBefore", "(I)I"⟩
abbrev ws_FL_liveBefore : List Cond := .code y_FL_liveBefore b_FL_liveBefore 2 (some .int) :: gt
theorem hs_FL_liveBefore : y_FL_liveBefore.cls = R_FL ∧ y_FL_liveBefore.cls ≠ "java/lang/invoke/MethodHandle" ∧ y_FL_liveBefore.cls ≠ "java/lang/invoke/VarHandle" ∧ (parseMethodDescriptor y_FL_liveBefore.desc).map (fun d => d.parameters.length) = some 1 := by decide +kernel
theorem ht_FL_liveBefore : y_FL_liveBefore.cls ≠ "java/lang/invoke/MethodHandle" ∧ y_FL_liveBefore.cls ≠ "java/lang/invoke/VarHandle" ∧ (parseMethodDescriptor y_FL_liveBefore.desc).map (fun d => d.parameters.length) = some 1 := hs_FL_liveBefore.2
abbrev b_FL_liveAfter : ByteArray := prog_3_method_10_code
def y_FL_liveAfter : MethodName := ⟨R_FL, "liveAfter", "(I)I"⟩
abbrev ws_FL_liveAfter : List Cond := .code y_FL_liveAfter b_FL_liveAfter 2 (some .int) :: gt
theorem hs_FL_liveAfter : y_FL_liveAfter.cls = R_FL ∧ y_FL_liveAfter.cls ≠ "java/lang/invoke/MethodHandle" ∧ y_FL_liveAfter.cls ≠ "java/lang/invoke/VarHandle" ∧ (parseMethodDescriptor y_FL_liveAfter.desc).map (fun d => d.parameters.length) = some 1 := by decide +kernel
theorem ht_FL_liveAfter : y_FL_liveAfter.cls ≠ "java/lang/invoke/MethodHandle" ∧ y_FL_liveAfter.cls ≠ "java/lang/invoke/VarHandle" ∧ (parseMethodDescriptor y_FL_liveAfter.desc).map (fun d => d.parameters.length) = some 1 := hs_FL_liveAfter.2
abbrev b_CA_init : ByteArray := prog_2_method_1_code
def y_CA_init : MethodName := ⟨R_CA, "<init>", "(LStackCoder$RegisterCode;LStackCoder$Flow;I)V"⟩
abbrev ws_CA_init : List Cond := .code y_CA_init b_CA_init 4 none :: gt
theorem hs_CA_init : y_CA_init.cls = R_CA ∧ y_CA_init.cls ≠ "java/lang/invoke/MethodHandle" ∧ y_CA_init.cls ≠ "java/lang/invoke/VarHandle" ∧ (parseMethodDescriptor y_CA_init.desc).map (fun d => d.parameters.length) = some 3 := by decide +kernel
theorem ht_CA_init : y_CA_init.cls ≠ "java/lang/invoke/MethodHandle" ∧ y_CA_init.cls ≠ "java/lang/invoke/VarHandle" ∧ (parseMethodDescriptor y_CA_init.desc).map (fun d => d.parameters.length) = some 3 := hs_CA_init.2
abbrev b_CA_settle : ByteArray := prog_2_method_2_code
def y_CA_settle : MethodName := ⟨R_CA, "settle", "()V"⟩
abbrev ws_CA_settle : List Cond := .code y_CA_settle b_CA_settle 2 none :: gt
theorem hs_CA_settle : y_CA_settle.cls = R_CA ∧ y_CA_settle.cls ≠ "java/lang/invoke/MethodHandle" ∧ y_CA_settle.cls ≠ "java/lang/invoke/VarHandle" ∧ (parseMethodDescriptor y_CA_settle.desc).map (fun d => d.parameters.length) = some 0 := by decide +kernel
theorem ht_CA_settle : y_CA_settle.cls ≠ "java/lang/invoke/MethodHandle" ∧ y_CA_settle.cls ≠ "java/lang/invoke/VarHandle" ∧ (parseMethodDescriptor y_CA_settle.desc).map (fun d => d.parameters.length) = some 0 := hs_CA_settle.2
abbrev b_CA_carryInto : ByteArray := prog_2_method_3_code
def y_CA_carryInto : MethodName := ⟨R_CA, "carryInto", "(I)V"⟩
abbrev ws_CA_carryInto : List Cond := .code y_CA_carryInto b_CA_carryInto 4 none :: gt
theorem hs_CA_carryInto : y_CA_carryInto.cls = R_CA ∧ y_CA_carryInto.cls ≠ "java/lang/invoke/MethodHandle" ∧ y_CA_carryInto.cls ≠ "java/lang/invoke/VarHandle" ∧ (parseMethodDescriptor y_CA_carryInto.desc).map (fun d => d.parameters.length) = some 1 := by decide +kernel
theorem ht_CA_carryInto : y_CA_carryInto.cls ≠ "java/lang/invoke/MethodHandle" ∧ y_CA_carryInto.cls ≠ "java/lang/invoke/VarHandle" ∧ (parseMethodDescriptor y_CA_carryInto.desc).map (fun d => d.parameters.length) = some 1 := hs_CA_carryInto.2
abbrev b_CA_noteTree : ByteArray := prog_2_method_4_code
def y_CA_noteTree : MethodName := ⟨R_CA, "noteTree", "(I)V"⟩
abbrev ws_CA_noteTree : List Cond := .code y_CA_noteTree b_CA_noteTree 4 none :: gt
theorem hs_CA_noteTree : y_CA_noteTree.cls = R_CA ∧ y_CA_noteTree.cls ≠ "java/lang/invoke/MethodHandle" ∧ y_CA_noteTree.cls ≠ "java/lang/invoke/VarHandle" ∧ (parseMethodDescriptor y_CA_noteTree.desc).map (fun d => d.parameters.length) = some 1 := by decide +kernel
theorem ht_CA_noteTree : y_CA_noteTree.cls ≠ "java/lang/invoke/MethodHandle" ∧ y_CA_noteTree.cls ≠ "java/lang/invoke/VarHandle" ∧ (parseMethodDescriptor y_CA_noteTree.desc).map (fun d => d.parameters.length) = some 1 := hs_CA_noteTree.2
abbrev b_CA_carriable : ByteArray := prog_2_method_5_code
def y_CA_carriable : MethodName := ⟨R_CA, "carriable", "(II)I"⟩
abbrev ws_CA_carriable : List Cond := .code y_CA_carriable b_CA_carriable 5 (some .int) :: gt
theorem hs_CA_carriable : y_CA_carriable.cls = R_CA ∧ y_CA_carriable.cls ≠ "java/lang/invoke/MethodHandle" ∧ y_CA_carriable.cls ≠ "java/lang/invoke/VarHandle" ∧ (parseMethodDescriptor y_CA_carriable.desc).map (fun d => d.parameters.length) = some 2 := by decide +kernel
theorem ht_CA_carriable : y_CA_carriable.cls ≠ "java/lang/invoke/MethodHandle" ∧ y_CA_carriable.cls ≠ "java/lang/invoke/VarHandle" ∧ (parseMethodDescriptor y_CA_carriable.desc).map (fun d => d.parameters.length) = some 2 := hs_CA_carriable.2
abbrev b_CA_lastWriter : ByteArray := prog_2_method_6_code
def y_CA_lastWriter : MethodName := ⟨R_CA, "lastWriter", "(II)I"⟩
abbrev ws_CA_lastWriter : List Cond := .code y_CA_lastWriter b_CA_lastWriter 4 (some .int) :: gt
theorem hs_CA_lastWriter : y_CA_lastWriter.cls = R_CA ∧ y_CA_lastWriter.cls ≠ "java/lang/invoke/MethodHandle" ∧ y_CA_lastWriter.cls ≠ "java/lang/invoke/VarHandle" ∧ (parseMethodDescriptor y_CA_lastWriter.desc).map (fun d => d.parameters.length) = some 2 := by decide +kernel
theorem ht_CA_lastWriter : y_CA_lastWriter.cls ≠ "java/lang/invoke/MethodHandle" ∧ y_CA_lastWriter.cls ≠ "java/lang/invoke/VarHandle" ∧ (parseMethodDescriptor y_CA_lastWriter.desc).map (fun d => d.parameters.length) = some 2 := hs_CA_lastWriter.2
abbrev b_CA_isReadByNoneBut : ByteArray := prog_2_method_7_code
def y_CA_isReadByNoneBut : MethodName := ⟨R_CA, "isReadByNoneBut", "(II)Z"⟩
abbrev ws_CA_isReadByNoneBut : List Cond := .code y_CA_isReadByNoneBut b_CA_isReadByNoneBut 6 (some .boolean) :: gt
theorem hs_CA_isReadByNoneBut : y_CA_isReadByNoneBut.cls = R_CA ∧ y_CA_isReadByNoneBut.cls ≠ "java/lang/invoke/MethodHandle" ∧ y_CA_isReadByNoneBut.cls ≠ "java/lang/invoke/VarHandle" ∧ (parseMethodDescriptor y_CA_isReadByNoneBut.desc).map (fun d => d.parameters.length) = some 2 := by decide +kernel
theorem ht_CA_isReadByNoneBut : y_CA_isReadByNoneBut.cls ≠ "java/lang/invoke/MethodHandle" ∧ y_CA_isReadByNoneBut.cls ≠ "java/lang/invoke/VarHandle" ∧ (parseMethodDescriptor y_CA_isReadByNoneBut.desc).map (fun d => d.parameters.length) = some 2 := hs_CA_isReadByNoneBut.2
abbrev b_CA_canWait : ByteArray := prog_2_method_8_code
def y_CA_canWait : MethodName := ⟨R_CA, "canWait", "(II)Z"⟩
abbrev ws_CA_canWait : List Cond := .code y_CA_canWait b_CA_canWait 4 (some .boolean) :: gt
theorem hs_CA_canWait : y_CA_canWait.cls = R_CA ∧ y_CA_canWait.cls ≠ "java/lang/invoke/MethodHandle" ∧ y_CA_canWait.cls ≠ "java/lang/invoke/VarHandle" ∧ (parseMethodDescriptor y_CA_canWait.desc).map (fun d => d.parameters.length) = some 2 := by decide +kernel
theorem ht_CA_canWait : y_CA_canWait.cls ≠ "java/lang/invoke/MethodHandle" ∧ y_CA_canWait.cls ≠ "java/lang/invoke/VarHandle" ∧ (parseMethodDescriptor y_CA_canWait.desc).map (fun d => d.parameters.length) = some 2 := hs_CA_canWait.2
abbrev b_CA_needWith : ByteArray := prog_2_method_9_code
def y_CA_needWith : MethodName := ⟨R_CA, "needWith", "(III)I"⟩
abbrev ws_CA_needWith : List Cond := .code y_CA_needWith b_CA_needWith 6 (some .int) :: gt
theorem hs_CA_needWith : y_CA_needWith.cls = R_CA ∧ y_CA_needWith.cls ≠ "java/lang/invoke/MethodHandle" ∧ y_CA_needWith.cls ≠ "java/lang/invoke/VarHandle" ∧ (parseMethodDescriptor y_CA_needWith.desc).map (fun d => d.parameters.length) = some 3 := by decide +kernel
theorem ht_CA_needWith : y_CA_needWith.cls ≠ "java/lang/invoke/MethodHandle" ∧ y_CA_needWith.cls ≠ "java/lang/invoke/VarHandle" ∧ (parseMethodDescriptor y_CA_needWith.desc).map (fun d => d.parameters.length) = some 3 := hs_CA_needWith.2
abbrev b_CA_thingNeed : ByteArray := prog_2_method_10_code
def y_CA_thingNeed : MethodName := ⟨R_CA, "thingNeed", "(I)I"⟩
abbrev ws_CA_thingNeed : List Cond := .code y_CA_thingNeed b_CA_thingNeed 2 (some .int) :: gt
theorem hs_CA_thingNeed : y_CA_thingNeed.cls = R_CA ∧ y_CA_thingNeed.cls ≠ "java/lang/invoke/MethodHandle" ∧ y_CA_thingNeed.cls ≠ "java/lang/invoke/VarHandle" ∧ (parseMethodDescriptor y_CA_thingNeed.desc).map (fun d => d.parameters.length) = some 1 := by decide +kernel
theorem ht_CA_thingNeed : y_CA_thingNeed.cls ≠ "java/lang/invoke/MethodHandle" ∧ y_CA_thingNeed.cls ≠ "java/lang/invoke/VarHandle" ∧ (parseMethodDescriptor y_CA_thingNeed.desc).map (fun d => d.parameters.length) = some 1 := hs_CA_thingNeed.2
abbrev b_CA_thingReads : ByteArray := prog_2_method_11_code
def y_CA_thingReads : MethodName := ⟨R_CA, "thingReads", "(II)I"⟩
abbrev ws_CA_thingReads : List Cond := .code y_CA_thingReads b_CA_thingReads 3 (some .int) :: gt
theorem hs_CA_thingReads : y_CA_thingReads.cls = R_CA ∧ y_CA_thingReads.cls ≠ "java/lang/invoke/MethodHandle" ∧ y_CA_thingReads.cls ≠ "java/lang/invoke/VarHandle" ∧ (parseMethodDescriptor y_CA_thingReads.desc).map (fun d => d.parameters.length) = some 2 := by decide +kernel
theorem ht_CA_thingReads : y_CA_thingReads.cls ≠ "java/lang/invoke/MethodHandle" ∧ y_CA_thingReads.cls ≠ "java/lang/invoke/VarHandle" ∧ (parseMethodDescriptor y_CA_thingReads.desc).map (fun d => d.parameters.length) = some 2 := hs_CA_thingReads.2
abbrev b_CA_thingLoads : ByteArray := prog_2_method_12_code
def y_CA_thingLoads : MethodName := ⟨R_CA, "thingLoads", "(I)Z"⟩
abbrev ws_CA_thingLoads : List Cond := .code y_CA_thingLoads b_CA_thingLoads 2 (some .boolean) :: gt
theorem hs_CA_thingLoads : y_CA_thingLoads.cls = R_CA ∧ y_CA_thingLoads.cls ≠ "java/lang/invoke/MethodHandle" ∧ y_CA_thingLoads.cls ≠ "java/lang/invoke/VarHandle" ∧ (parseMethodDescriptor y_CA_thingLoads.desc).map (fun d => d.parameters.length) = some 1 := by decide +kernel
theorem ht_CA_thingLoads : y_CA_thingLoads.cls ≠ "java/lang/invoke/MethodHandle" ∧ y_CA_thingLoads.cls ≠ "java/lang/invoke/VarHandle" ∧ (parseMethodDescriptor y_CA_thingLoads.desc).map (fun d => d.parameters.length) = some 1 := hs_CA_thingLoads.2
abbrev b_CA_isCarried : ByteArray := prog_2_method_13_code
def y_CA_isCarried : MethodName := ⟨R_CA, "isCarried", "(I)Z"⟩
abbrev ws_CA_isCarried : List Cond := .code y_CA_isCarried b_CA_isCarried 2 (some .boolean) :: gt
theorem hs_CA_isCarried : y_CA_isCarried.cls = R_CA ∧ y_CA_isCarried.cls ≠ "java/lang/invoke/MethodHandle" ∧ y_CA_isCarried.cls ≠ "java/lang/invoke/VarHandle" ∧ (parseMethodDescriptor y_CA_isCarried.desc).map (fun d => d.parameters.length) = some 1 := by decide +kernel
theorem ht_CA_isCarried : y_CA_isCarried.cls ≠ "java/lang/invoke/MethodHandle" ∧ y_CA_isCarried.cls ≠ "java/lang/invoke/VarHandle" ∧ (parseMethodDescriptor y_CA_isCarried.desc).map (fun d => d.parameters.length) = some 1 := hs_CA_isCarried.2
abbrev b_CA_goalOf : ByteArray := prog_2_method_14_code
def y_CA_goalOf : MethodName := ⟨R_CA, "goalOf", "(I)I"⟩
abbrev ws_CA_goalOf : List Cond := .code y_CA_goalOf b_CA_goalOf 2 (some .int) :: gt
theorem hs_CA_goalOf : y_CA_goalOf.cls = R_CA ∧ y_CA_goalOf.cls ≠ "java/lang/invoke/MethodHandle" ∧ y_CA_goalOf.cls ≠ "java/lang/invoke/VarHandle" ∧ (parseMethodDescriptor y_CA_goalOf.desc).map (fun d => d.parameters.length) = some 1 := by decide +kernel
theorem ht_CA_goalOf : y_CA_goalOf.cls ≠ "java/lang/invoke/MethodHandle" ∧ y_CA_goalOf.cls ≠ "java/lang/invoke/VarHandle" ∧ (parseMethodDescriptor y_CA_goalOf.desc).map (fun d => d.parameters.length) = some 1 := hs_CA_goalOf.2
abbrev b_CA_inForA : ByteArray := prog_2_method_15_code
def y_CA_inForA : MethodName := ⟨R_CA, "inForA", "(I)I"⟩
abbrev ws_CA_inForA : List Cond := .code y_CA_inForA b_CA_inForA 2 (some .int) :: gt
theorem hs_CA_inForA : y_CA_inForA.cls = R_CA ∧ y_CA_inForA.cls ≠ "java/lang/invoke/MethodHandle" ∧ y_CA_inForA.cls ≠ "java/lang/invoke/VarHandle" ∧ (parseMethodDescriptor y_CA_inForA.desc).map (fun d => d.parameters.length) = some 1 := by decide +kernel
theorem ht_CA_inForA : y_CA_inForA.cls ≠ "java/lang/invoke/MethodHandle" ∧ y_CA_inForA.cls ≠ "java/lang/invoke/VarHandle" ∧ (parseMethodDescriptor y_CA_inForA.desc).map (fun d => d.parameters.length) = some 1 := hs_CA_inForA.2
abbrev b_CA_inForB : ByteArray := prog_2_method_16_code
def y_CA_inForB : MethodName := ⟨R_CA, "inForB", "(I)I"⟩
abbrev ws_CA_inForB : List Cond := .code y_CA_inForB b_CA_inForB 2 (some .int) :: gt
theorem hs_CA_inForB : y_CA_inForB.cls = R_CA ∧ y_CA_inForB.cls ≠ "java/lang/invoke/MethodHandle" ∧ y_CA_inForB.cls ≠ "java/lang/invoke/VarHandle" ∧ (parseMethodDescriptor y_CA_inForB.desc).map (fun d => d.parameters.length) = some 1 := by decide +kernel
theorem ht_CA_inForB : y_CA_inForB.cls ≠ "java/lang/invoke/MethodHandle" ∧ y_CA_inForB.cls ≠ "java/lang/invoke/VarHandle" ∧ (parseMethodDescriptor y_CA_inForB.desc).map (fun d => d.parameters.length) = some 1 := hs_CA_inForB.2
abbrev b_CA_takesBFirst : ByteArray := prog_2_method_17_code
def y_CA_takesBFirst : MethodName := ⟨R_CA, "takesBFirst", "(I)Z"⟩
abbrev ws_CA_takesBFirst : List Cond := .code y_CA_takesBFirst b_CA_takesBFirst 2 (some .boolean) :: gt
theorem hs_CA_takesBFirst : y_CA_takesBFirst.cls = R_CA ∧ y_CA_takesBFirst.cls ≠ "java/lang/invoke/MethodHandle" ∧ y_CA_takesBFirst.cls ≠ "java/lang/invoke/VarHandle" ∧ (parseMethodDescriptor y_CA_takesBFirst.desc).map (fun d => d.parameters.length) = some 1 := by decide +kernel
theorem ht_CA_takesBFirst : y_CA_takesBFirst.cls ≠ "java/lang/invoke/MethodHandle" ∧ y_CA_takesBFirst.cls ≠ "java/lang/invoke/VarHandle" ∧ (parseMethodDescriptor y_CA_takesBFirst.desc).map (fun d => d.parameters.length) = some 1 := hs_CA_takesBFirst.2
abbrev b_CA_needOf : ByteArray := prog_2_method_18_code
def y_CA_needOf : MethodName := ⟨R_CA, "needOf", "(I)I"⟩
abbrev ws_CA_needOf : List Cond := .code y_CA_needOf b_CA_needOf 2 (some .int) :: gt
theorem hs_CA_needOf : y_CA_needOf.cls = R_CA ∧ y_CA_needOf.cls ≠ "java/lang/invoke/MethodHandle" ∧ y_CA_needOf.cls ≠ "java/lang/invoke/VarHandle" ∧ (parseMethodDescriptor y_CA_needOf.desc).map (fun d => d.parameters.length) = some 1 := by decide +kernel
theorem ht_CA_needOf : y_CA_needOf.cls ≠ "java/lang/invoke/MethodHandle" ∧ y_CA_needOf.cls ≠ "java/lang/invoke/VarHandle" ∧ (parseMethodDescriptor y_CA_needOf.desc).map (fun d => d.parameters.length) = some 1 := hs_CA_needOf.2
abbrev b_CA_greatestNeed : ByteArray := prog_2_method_19_code
def y_CA_greatestNeed : MethodName := ⟨R_CA, "greatestNeed", "()I"⟩
abbrev ws_CA_greatestNeed : List Cond := .code y_CA_greatestNeed b_CA_greatestNeed 3 (some .int) :: gt
theorem hs_CA_greatestNeed : y_CA_greatestNeed.cls = R_CA ∧ y_CA_greatestNeed.cls ≠ "java/lang/invoke/MethodHandle" ∧ y_CA_greatestNeed.cls ≠ "java/lang/invoke/VarHandle" ∧ (parseMethodDescriptor y_CA_greatestNeed.desc).map (fun d => d.parameters.length) = some 0 := by decide +kernel
theorem ht_CA_greatestNeed : y_CA_greatestNeed.cls ≠ "java/lang/invoke/MethodHandle" ∧ y_CA_greatestNeed.cls ≠ "java/lang/invoke/VarHandle" ∧ (parseMethodDescriptor y_CA_greatestNeed.desc).map (fun d => d.parameters.length) = some 0 := hs_CA_greatestNeed.2
abbrev b_ST_init : ByteArray := prog_6_method_1_code
def y_ST_init : MethodName := ⟨R_ST, "<init>", "(LStackCoder$RegisterCode;LStackCoder$Flow;LStackCoder$Carrying;)V"⟩
abbrev ws_ST_init : List Cond := .code y_ST_init b_ST_init 4 none :: gt
theorem hs_ST_init : y_ST_init.cls = R_ST ∧ y_ST_init.cls ≠ "java/lang/invoke/MethodHandle" ∧ y_ST_init.cls ≠ "java/lang/invoke/VarHandle" ∧ (parseMethodDescriptor y_ST_init.desc).map (fun d => d.parameters.length) = some 3 := by decide +kernel
theorem ht_ST_init : y_ST_init.cls ≠ "java/lang/invoke/MethodHandle" ∧ y_ST_init.cls ≠ "java/lang/invoke/VarHandle" ∧ (parseMethodDescriptor y_ST_init.desc).map (fun d => d.parameters.length) = some 3 := hs_ST_init.2
abbrev b_ST_layOut : ByteArray := prog_6_method_2_code
def y_ST_layOut : MethodName := ⟨R_ST, "layOut", "()V"⟩
abbrev ws_ST_layOut : List Cond := .code y_ST_layOut b_ST_layOut 2 none :: gt
theorem hs_ST_layOut : y_ST_layOut.cls = R_ST ∧ y_ST_layOut.cls ≠ "java/lang/invoke/MethodHandle" ∧ y_ST_layOut.cls ≠ "java/lang/invoke/VarHandle" ∧ (parseMethodDescriptor y_ST_layOut.desc).map (fun d => d.parameters.length) = some 0 := by decide +kernel
theorem ht_ST_layOut : y_ST_layOut.cls ≠ "java/lang/invoke/MethodHandle" ∧ y_ST_layOut.cls ≠ "java/lang/invoke/VarHandle" ∧ (parseMethodDescriptor y_ST_layOut.desc).map (fun d => d.parameters.length) = some 0 := hs_ST_layOut.2
abbrev b_ST_widthOf : ByteArray := prog_6_method_3_code
def y_ST_widthOf : MethodName := ⟨R_ST, "widthOf", "(I)I"⟩
abbrev ws_ST_widthOf : List Cond := .code y_ST_widthOf b_ST_widthOf 3 (some .int) :: gt
theorem hs_ST_widthOf : y_ST_widthOf.cls = R_ST ∧ y_ST_widthOf.cls ≠ "java/lang/invoke/MethodHandle" ∧ y_ST_widthOf.cls ≠ "java/lang/invoke/VarHandle" ∧ (parseMethodDescriptor y_ST_widthOf.desc).map (fun d => d.parameters.length) = some 1 := by decide +kernel
theorem ht_ST_widthOf : y_ST_widthOf.cls ≠ "java/lang/invoke/MethodHandle" ∧ y_ST_widthOf.cls ≠ "java/lang/invoke/VarHandle" ∧ (parseMethodDescriptor y_ST_widthOf.desc).map (fun d => d.parameters.length) = some 1 := hs_ST_widthOf.2
abbrev b_ST_thingWidth : ByteArray := prog_6_method_4_code
def y_ST_thingWidth : MethodName := ⟨R_ST, "thingWidth", "(II)I"⟩
abbrev ws_ST_thingWidth : List Cond := .code y_ST_thingWidth b_ST_thingWidth 3 (some .int) :: gt
theorem hs_ST_thingWidth : y_ST_thingWidth.cls = R_ST ∧ y_ST_thingWidth.cls ≠ "java/lang/invoke/MethodHandle" ∧ y_ST_thingWidth.cls ≠ "java/lang/invoke/VarHandle" ∧ (parseMethodDescriptor y_ST_thingWidth.desc).map (fun d => d.parameters.length) = some 2 := by decide +kernel
theorem ht_ST_thingWidth : y_ST_thingWidth.cls ≠ "java/lang/invoke/MethodHandle" ∧ y_ST_thingWidth.cls ≠ "java/lang/invoke/VarHandle" ∧ (parseMethodDescriptor y_ST_thingWidth.desc).map (fun d => d.parameters.length) = some 2 := hs_ST_thingWidth.2
abbrev b_ST_needsSwap : ByteArray := prog_6_method_5_code
def y_ST_needsSwap : MethodName := ⟨R_ST, "needsSwap", "(I)Z"⟩
abbrev ws_ST_needsSwap : List Cond := .code y_ST_needsSwap b_ST_needsSwap 3 (some .boolean) :: gt
theorem hs_ST_needsSwap : y_ST_needsSwap.cls = R_ST ∧ y_ST_needsSwap.cls ≠ "java/lang/invoke/MethodHandle" ∧ y_ST_needsSwap.cls ≠ "java/lang/invoke/VarHandle" ∧ (parseMethodDescriptor y_ST_needsSwap.desc).map (fun d => d.parameters.length) = some 1 := by decide +kernel
theorem ht_ST_needsSwap : y_ST_needsSwap.cls ≠ "java/lang/invoke/MethodHandle" ∧ y_ST_needsSwap.cls ≠ "java/lang/invoke/VarHandle" ∧ (parseMethodDescriptor y_ST_needsSwap.desc).map (fun d => d.parameters.length) = some 1 := hs_ST_needsSwap.2
abbrev b_ST_leavesValue : ByteArray := prog_6_method_6_code
def y_ST_leavesValue : MethodName := ⟨R_ST, "leavesValue", "(I)Z"⟩
abbrev ws_ST_leavesValue : List Cond := .code y_ST_leavesValue b_ST_leavesValue 2 (some .boolean) :: gt
theorem hs_ST_leavesValue : y_ST_leavesValue.cls = R_ST ∧ y_ST_leavesValue.cls ≠ "java/lang/invoke/MethodHandle" ∧ y_ST_leavesValue.cls ≠ "java/lang/invoke/VarHandle" ∧ (parseMethodDescriptor y_ST_leavesValue.desc).map (fun d => d.parameters.length) = some 1 := by decide +kernel
theorem ht_ST_leavesValue : y_ST_leavesValue.cls ≠ "java/lang/invoke/MethodHandle" ∧ y_ST_leavesValue.cls ≠ "java/lang/invoke/VarHandle" ∧ (parseMethodDescriptor y_ST_leavesValue.desc).map (fun d => d.parameters.length) = some 1 := hs_ST_leavesValue.2
abbrev b_ST_writeInstruction : ByteArray := prog_6_method_7_code
def y_ST_writeInstruction : MethodName := ⟨R_ST, "writeInstruction", "(I)V"⟩
abbrev ws_ST_writeInstruction : List Cond := .code y_ST_writeInstruction b_ST_writeInstruction 4 none :: gt
theorem hs_ST_writeInstruction : y_ST_writeInstruction.cls = R_ST ∧ y_ST_writeInstruction.cls ≠ "java/lang/invoke/MethodHandle" ∧ y_ST_writeInstruction.cls ≠ "java/lang/invoke/VarHandle" ∧ (parseMethodDescriptor y_ST_writeInstruction.desc).map (fun d => d.parameters.length) = some 1 := by decide +kernel
theorem ht_ST_writeInstruction : y_ST_writeInstruction.cls ≠ "java/lang/invoke/MethodHandle" ∧ y_ST_writeInstruction.cls ≠ "java/lang/invoke/VarHandle" ∧ (parseMethodDescriptor y_ST_writeInstruction.desc).map (fun d => d.parameters.length) = some 1 := hs_ST_writeInstruction.2
abbrev b_ST_writeThings : ByteArray := prog_6_method_8_code
def y_ST_writeThings : MethodName := ⟨R_ST, "writeThings", "(II)I"⟩
abbrev ws_ST_writeThings : List Cond := .code y_ST_writeThings b_ST_writeThings 7 (some .int) :: gt
theorem hs_ST_writeThings : y_ST_writeThings.cls = R_ST ∧ y_ST_writeThings.cls ≠ "java/lang/invoke/MethodHandle" ∧ y_ST_writeThings.cls ≠ "java/lang/invoke/VarHandle" ∧ (parseMethodDescriptor y_ST_writeThings.desc).map (fun d => d.parameters.length) = some 2 := by decide +kernel
theorem ht_ST_writeThings : y_ST_writeThings.cls ≠ "java/lang/invoke/MethodHandle" ∧ y_ST_writeThings.cls ≠ "java/lang/invoke/VarHandle" ∧ (parseMethodDescriptor y_ST_writeThings.desc).map (fun d => d.parameters.length) = some 2 := hs_ST_writeThings.2
abbrev b_ST_writeThing : ByteArray := prog_6_method_9_code
def y_ST_writeThing : MethodName := ⟨R_ST, "writeThing", "(III)I"⟩
abbrev ws_ST_writeThing : List Cond := .code y_ST_writeThing b_ST_writeThing 4 (some .int) :: gt
theorem hs_ST_writeThing : y_ST_writeThing.cls = R_ST ∧ y_ST_writeThing.cls ≠ "java/lang/invoke/MethodHandle" ∧ y_ST_writeThing.cls ≠ "java/lang/invoke/VarHandle" ∧ (parseMethodDescriptor y_ST_writeThing.desc).map (fun d => d.parameters.length) = some 3 := by decide +kernel
theorem ht_ST_writeThing : y_ST_writeThing.cls ≠ "java/lang/invoke/MethodHandle" ∧ y_ST_writeThing.cls ≠ "java/lang/invoke/VarHandle" ∧ (parseMethodDescriptor y_ST_writeThing.desc).map (fun d => d.parameters.length) = some 3 := hs_ST_writeThing.2
abbrev b_ST_ownNumber : ByteArray := prog_6_method_10_code
def y_ST_ownNumber : MethodName := ⟨R_ST, "ownNumber", "(I)I"⟩
abbrev ws_ST_ownNumber : List Cond := .code y_ST_ownNumber b_ST_ownNumber 2 (some .int) :: gt
theorem hs_ST_ownNumber : y_ST_ownNumber.cls = R_ST ∧ y_ST_ownNumber.cls ≠ "java/lang/invoke/MethodHandle" ∧ y_ST_ownNumber.cls ≠ "java/lang/invoke/VarHandle" ∧ (parseMethodDescriptor y_ST_ownNumber.desc).map (fun d => d.parameters.length) = some 1 := by decide +kernel
theorem ht_ST_ownNumber : y_ST_ownNumber.cls ≠ "java/lang/invoke/MethodHandle" ∧ y_ST_ownNumber.cls ≠ "java/lang/invoke/VarHandle" ∧ (parseMethodDescriptor y_ST_ownNumber.desc).map (fun d => d.parameters.length) = some 1 := hs_ST_ownNumber.2
abbrev b_ST_startFrom : ByteArray := prog_6_method_11_code
def y_ST_startFrom : MethodName := ⟨R_ST, "startFrom", "(I)I"⟩
abbrev ws_ST_startFrom : List Cond := .code y_ST_startFrom b_ST_startFrom 3 (some .int) :: gt
theorem hs_ST_startFrom : y_ST_startFrom.cls = R_ST ∧ y_ST_startFrom.cls ≠ "java/lang/invoke/MethodHandle" ∧ y_ST_startFrom.cls ≠ "java/lang/invoke/VarHandle" ∧ (parseMethodDescriptor y_ST_startFrom.desc).map (fun d => d.parameters.length) = some 1 := by decide +kernel
theorem ht_ST_startFrom : y_ST_startFrom.cls ≠ "java/lang/invoke/MethodHandle" ∧ y_ST_startFrom.cls ≠ "java/lang/invoke/VarHandle" ∧ (parseMethodDescriptor y_ST_startFrom.desc).map (fun d => d.parameters.length) = some 1 := hs_ST_startFrom.2
abbrev b_ST_writeEnd : ByteArray := prog_6_method_12_code
def y_ST_writeEnd : MethodName := ⟨R_ST, "writeEnd", "(II)V"⟩
abbrev ws_ST_writeEnd : List Cond := .code y_ST_writeEnd b_ST_writeEnd 4 none :: gt
theorem hs_ST_writeEnd : y_ST_writeEnd.cls = R_ST ∧ y_ST_writeEnd.cls ≠ "java/lang/invoke/MethodHandle" ∧ y_ST_writeEnd.cls ≠ "java/lang/invoke/VarHandle" ∧ (parseMethodDescriptor y_ST_writeEnd.desc).map (fun d => d.parameters.length) = some 2 := by decide +kernel
theorem ht_ST_writeEnd : y_ST_writeEnd.cls ≠ "java/lang/invoke/MethodHandle" ∧ y_ST_writeEnd.cls ≠ "java/lang/invoke/VarHandle" ∧ (parseMethodDescriptor y_ST_writeEnd.desc).map (fun d => d.parameters.length) = some 2 := hs_ST_writeEnd.2
abbrev b_ST_write : ByteArray := prog_6_method_13_code
def y_ST_write : MethodName := ⟨R_ST, "write", "(III)I"⟩
abbrev ws_ST_write : List Cond := .code y_ST_write b_ST_write 4 (some .int) :: gt
theorem hs_ST_write : y_ST_write.cls = R_ST ∧ y_ST_write.cls ≠ "java/lang/invoke/MethodHandle" ∧ y_ST_write.cls ≠ "java/lang/invoke/VarHandle" ∧ (parseMethodDescriptor y_ST_write.desc).map (fun d => d.parameters.length) = some 3 := by decide +kernel
theorem ht_ST_write : y_ST_write.cls ≠ "java/lang/invoke/MethodHandle" ∧ y_ST_write.cls ≠ "java/lang/invoke/VarHandle" ∧ (parseMethodDescriptor y_ST_write.desc).map (fun d => d.parameters.length) = some 3 := hs_ST_write.2
abbrev b_ST_holds : ByteArray := prog_6_method_14_code
def y_ST_holds : MethodName := ⟨R_ST, "holds", "(I)Z"⟩
abbrev ws_ST_holds : List Cond := .code y_ST_holds b_ST_holds 2 (some .boolean) :: gt
theorem hs_ST_holds : y_ST_holds.cls = R_ST ∧ y_ST_holds.cls ≠ "java/lang/invoke/MethodHandle" ∧ y_ST_holds.cls ≠ "java/lang/invoke/VarHandle" ∧ (parseMethodDescriptor y_ST_holds.desc).map (fun d => d.parameters.length) = some 1 := by decide +kernel
theorem ht_ST_holds : y_ST_holds.cls ≠ "java/lang/invoke/MethodHandle" ∧ y_ST_holds.cls ≠ "java/lang/invoke/VarHandle" ∧ (parseMethodDescriptor y_ST_holds.desc).map (fun d => d.parameters.length) = some 1 := hs_ST_holds.2
abbrev b_ST_operationCount : ByteArray := prog_6_method_15_code
def y_ST_operationCount : MethodName := ⟨R_ST, "operationCount", "()I"⟩
abbrev ws_ST_operationCount : List Cond := .code y_ST_operationCount b_ST_operationCount 1 (some .int) :: gt
theorem hs_ST_operationCount : y_ST_operationCount.cls = R_ST ∧ y_ST_operationCount.cls ≠ "java/lang/invoke/MethodHandle" ∧ y_ST_operationCount.cls ≠ "java/lang/invoke/VarHandle" ∧ (parseMethodDescriptor y_ST_operationCount.desc).map (fun d => d.parameters.length) = some 0 := by decide +kernel
theorem ht_ST_operationCount : y_ST_operationCount.cls ≠ "java/lang/invoke/MethodHandle" ∧ y_ST_operationCount.cls ≠ "java/lang/invoke/VarHandle" ∧ (parseMethodDescriptor y_ST_operationCount.desc).map (fun d => d.parameters.length) = some 0 := hs_ST_operationCount.2
abbrev b_ST_putCount : ByteArray := prog_6_method_16_code
def y_ST_putCount : MethodName := ⟨R_ST, "putCount", "()I"⟩
abbrev ws_ST_putCount : List Cond := .code y_ST_putCount b_ST_putCount 1 (some .int) :: gt
theorem hs_ST_putCount : y_ST_putCount.cls = R_ST ∧ y_ST_putCount.cls ≠ "java/lang/invoke/MethodHandle" ∧ y_ST_putCount.cls ≠ "java/lang/invoke/VarHandle" ∧ (parseMethodDescriptor y_ST_putCount.desc).map (fun d => d.parameters.length) = some 0 := by decide +kernel
theorem ht_ST_putCount : y_ST_putCount.cls ≠ "java/lang/invoke/MethodHandle" ∧ y_ST_putCount.cls ≠ "java/lang/invoke/VarHandle" ∧ (parseMethodDescriptor y_ST_putCount.desc).map (fun d => d.parameters.length) = some 0 := hs_ST_putCount.2
abbrev b_ST_operationAt : ByteArray := prog_6_method_17_code
def y_ST_operationAt : MethodName := ⟨R_ST, "operationAt", "(I)I"⟩
abbrev ws_ST_operationAt : List Cond := .code y_ST_operationAt b_ST_operationAt 2 (some .int) :: gt
theorem hs_ST_operationAt : y_ST_operationAt.cls = R_ST ∧ y_ST_operationAt.cls ≠ "java/lang/invoke/MethodHandle" ∧ y_ST_operationAt.cls ≠ "java/lang/invoke/VarHandle" ∧ (parseMethodDescriptor y_ST_operationAt.desc).map (fun d => d.parameters.length) = some 1 := by decide +kernel
theorem ht_ST_operationAt : y_ST_operationAt.cls ≠ "java/lang/invoke/MethodHandle" ∧ y_ST_operationAt.cls ≠ "java/lang/invoke/VarHandle" ∧ (parseMethodDescriptor y_ST_operationAt.desc).map (fun d => d.parameters.length) = some 1 := hs_ST_operationAt.2
abbrev b_ST_numberAt : ByteArray := prog_6_method_18_code
def y_ST_numberAt : MethodName := ⟨R_ST, "numberAt", "(I)I"⟩
abbrev ws_ST_numberAt : List Cond := .code y_ST_numberAt b_ST_numberAt 2 (some .int) :: gt
theorem hs_ST_numberAt : y_ST_numberAt.cls = R_ST ∧ y_ST_numberAt.cls ≠ "java/lang/invoke/MethodHandle" ∧ y_ST_numberAt.cls ≠ "java/lang/invoke/VarHandle" ∧ (parseMethodDescriptor y_ST_numberAt.desc).map (fun d => d.parameters.length) = some 1 := by decide +kernel
theorem ht_ST_numberAt : y_ST_numberAt.cls ≠ "java/lang/invoke/MethodHandle" ∧ y_ST_numberAt.cls ≠ "java/lang/invoke/VarHandle" ∧ (parseMethodDescriptor y_ST_numberAt.desc).map (fun d => d.parameters.length) = some 1 := hs_ST_numberAt.2
abbrev b_ST_encoded : ByteArray := prog_6_method_19_code
def y_ST_encoded : MethodName := ⟨R_ST, "encoded", "(I)I"⟩
abbrev ws_ST_encoded : List Cond := .code y_ST_encoded b_ST_encoded 3 (some .int) :: gt
theorem hs_ST_encoded : y_ST_encoded.cls = R_ST ∧ y_ST_encoded.cls ≠ "java/lang/invoke/MethodHandle" ∧ y_ST_encoded.cls ≠ "java/lang/invoke/VarHandle" ∧ (parseMethodDescriptor y_ST_encoded.desc).map (fun d => d.parameters.length) = some 1 := by decide +kernel
theorem ht_ST_encoded : y_ST_encoded.cls ≠ "java/lang/invoke/MethodHandle" ∧ y_ST_encoded.cls ≠ "java/lang/invoke/VarHandle" ∧ (parseMethodDescriptor y_ST_encoded.desc).map (fun d => d.parameters.length) = some 1 := hs_ST_encoded.2
abbrev b_MA_init : ByteArray := prog_4_method_1_code
def y_MA_init : MethodName := ⟨R_MA, "<init>", "()V"⟩
abbrev ws_MA_init : List Cond := .code y_MA_init b_MA_init 1 none :: gt
theorem hs_MA_init : y_MA_init.cls = R_MA ∧ y_MA_init.cls ≠ "java/lang/invoke/MethodHandle" ∧ y_MA_init.cls ≠ "java/lang/invoke/VarHandle" ∧ (parseMethodDescriptor y_MA_init.desc).map (fun d => d.parameters.length) = some 0 := by decide +kernel
theorem ht_MA_init : y_MA_init.cls ≠ "java/lang/invoke/MethodHandle" ∧ y_MA_init.cls ≠ "java/lang/invoke/VarHandle" ∧ (parseMethodDescriptor y_MA_init.desc).map (fun d => d.parameters.length) = some 0 := hs_MA_init.2
abbrev b_MA_runInstructions : ByteArray := prog_4_method_2_code
def y_MA_runInstructions : MethodName := ⟨R_MA, "runInstructions", "(LStackCoder$RegisterCode;)I"⟩
abbrev ws_MA_runInstructions : List Cond := .code y_MA_runInstructions b_MA_runInstructions 4 (some .int) :: gt
theorem hs_MA_runInstructions : y_MA_runInstructions.cls = R_MA ∧ y_MA_runInstructions.cls ≠ "java/lang/invoke/MethodHandle" ∧ y_MA_runInstructions.cls ≠ "java/lang/invoke/VarHandle" ∧ (parseMethodDescriptor y_MA_runInstructions.desc).map (fun d => d.parameters.length) = some 1 := by decide +kernel
theorem ht_MA_runInstructions : y_MA_runInstructions.cls ≠ "java/lang/invoke/MethodHandle" ∧ y_MA_runInstructions.cls ≠ "java/lang/invoke/VarHandle" ∧ (parseMethodDescriptor y_MA_runInstructions.desc).map (fun d => d.parameters.length) = some 1 := hs_MA_runInstructions.2
abbrev b_MA_runOperations : ByteArray := prog_4_method_3_code
def y_MA_runOperations : MethodName := ⟨R_MA, "runOperations", "(LStackCoder$StackCode;)I"⟩
abbrev ws_MA_runOperations : List Cond := .code y_MA_runOperations b_MA_runOperations 4 (some .int) :: gt
theorem hs_MA_runOperations : y_MA_runOperations.cls = R_MA ∧ y_MA_runOperations.cls ≠ "java/lang/invoke/MethodHandle" ∧ y_MA_runOperations.cls ≠ "java/lang/invoke/VarHandle" ∧ (parseMethodDescriptor y_MA_runOperations.desc).map (fun d => d.parameters.length) = some 1 := by decide +kernel
theorem ht_MA_runOperations : y_MA_runOperations.cls ≠ "java/lang/invoke/MethodHandle" ∧ y_MA_runOperations.cls ≠ "java/lang/invoke/VarHandle" ∧ (parseMethodDescriptor y_MA_runOperations.desc).map (fun d => d.parameters.length) = some 1 := hs_MA_runOperations.2
abbrev b_MA_reset : ByteArray := prog_4_method_4_code
def y_MA_reset : MethodName := ⟨R_MA, "reset", "()V"⟩
abbrev ws_MA_reset : List Cond := .code y_MA_reset b_MA_reset 2 none :: gt
theorem hs_MA_reset : y_MA_reset.cls = R_MA ∧ y_MA_reset.cls ≠ "java/lang/invoke/MethodHandle" ∧ y_MA_reset.cls ≠ "java/lang/invoke/VarHandle" ∧ (parseMethodDescriptor y_MA_reset.desc).map (fun d => d.parameters.length) = some 0 := by decide +kernel
theorem ht_MA_reset : y_MA_reset.cls ≠ "java/lang/invoke/MethodHandle" ∧ y_MA_reset.cls ≠ "java/lang/invoke/VarHandle" ∧ (parseMethodDescriptor y_MA_reset.desc).map (fun d => d.parameters.length) = some 0 := hs_MA_reset.2
abbrev b_MA_followInstruction : ByteArray := prog_4_method_5_code
def y_MA_followInstruction : MethodName := ⟨R_MA, "followInstruction", "(LStackCoder$RegisterCode;I)I"⟩
abbrev ws_MA_followInstruction : List Cond := .code y_MA_followInstruction b_MA_followInstruction 5 (some .int) :: gt
theorem hs_MA_followInstruction : y_MA_followInstruction.cls = R_MA ∧ y_MA_followInstruction.cls ≠ "java/lang/invoke/MethodHandle" ∧ y_MA_followInstruction.cls ≠ "java/lang/invoke/VarHandle" ∧ (parseMethodDescriptor y_MA_followInstruction.desc).map (fun d => d.parameters.length) = some 2 := by decide +kernel
theorem ht_MA_followInstruction : y_MA_followInstruction.cls ≠ "java/lang/invoke/MethodHandle" ∧ y_MA_followInstruction.cls ≠ "java/lang/invoke/VarHandle" ∧ (parseMethodDescriptor y_MA_followInstruction.desc).map (fun d => d.parameters.length) = some 2 := hs_MA_followInstruction.2
abbrev b_MA_valueOf : ByteArray := prog_4_method_6_code
def y_MA_valueOf : MethodName := ⟨R_MA, "valueOf", "(III)I"⟩
abbrev ws_MA_valueOf : List Cond := .code y_MA_valueOf b_MA_valueOf 4 (some .int) :: gt
theorem hs_MA_valueOf : y_MA_valueOf.cls = R_MA ∧ y_MA_valueOf.cls ≠ "java/lang/invoke/MethodHandle" ∧ y_MA_valueOf.cls ≠ "java/lang/invoke/VarHandle" ∧ (parseMethodDescriptor y_MA_valueOf.desc).map (fun d => d.parameters.length) = some 3 := by decide +kernel
theorem ht_MA_valueOf : y_MA_valueOf.cls ≠ "java/lang/invoke/MethodHandle" ∧ y_MA_valueOf.cls ≠ "java/lang/invoke/VarHandle" ∧ (parseMethodDescriptor y_MA_valueOf.desc).map (fun d => d.parameters.length) = some 3 := hs_MA_valueOf.2
abbrev b_MA_followOperation : ByteArray := prog_4_method_7_code
def y_MA_followOperation : MethodName := ⟨R_MA, "followOperation", "(III)I"⟩
abbrev ws_MA_followOperation : List Cond := .code y_MA_followOperation b_MA_followOperation 4 (some .int) :: gt
theorem hs_MA_followOperation : y_MA_followOperation.cls = R_MA ∧ y_MA_followOperation.cls ≠ "java/lang/invoke/MethodHandle" ∧ y_MA_followOperation.cls ≠ "java/lang/invoke/VarHandle" ∧ (parseMethodDescriptor y_MA_followOperation.desc).map (fun d => d.parameters.length) = some 3 := by decide +kernel
theorem ht_MA_followOperation : y_MA_followOperation.cls ≠ "java/lang/invoke/MethodHandle" ∧ y_MA_followOperation.cls ≠ "java/lang/invoke/VarHandle" ∧ (parseMethodDescriptor y_MA_followOperation.desc).map (fun d => d.parameters.length) = some 3 := hs_MA_followOperation.2
abbrev b_MA_joinTopTwo : ByteArray := prog_4_method_8_code
def y_MA_joinTopTwo : MethodName := ⟨R_MA, "joinTopTwo", "(I)V"⟩
abbrev ws_MA_joinTopTwo : List Cond := .code y_MA_joinTopTwo b_MA_joinTopTwo 4 none :: gt
theorem hs_MA_joinTopTwo : y_MA_joinTopTwo.cls = R_MA ∧ y_MA_joinTopTwo.cls ≠ "java/lang/invoke/MethodHandle" ∧ y_MA_joinTopTwo.cls ≠ "java/lang/invoke/VarHandle" ∧ (parseMethodDescriptor y_MA_joinTopTwo.desc).map (fun d => d.parameters.length) = some 1 := by decide +kernel
theorem ht_MA_joinTopTwo : y_MA_joinTopTwo.cls ≠ "java/lang/invoke/MethodHandle" ∧ y_MA_joinTopTwo.cls ≠ "java/lang/invoke/VarHandle" ∧ (parseMethodDescriptor y_MA_joinTopTwo.desc).map (fun d => d.parameters.length) = some 1 := hs_MA_joinTopTwo.2
abbrev b_MA_push : ByteArray := prog_4_method_9_code
def y_MA_push : MethodName := ⟨R_MA, "push", "(I)V"⟩
abbrev ws_MA_push : List Cond := .code y_MA_push b_MA_push 2 none :: gt
theorem hs_MA_push : y_MA_push.cls = R_MA ∧ y_MA_push.cls ≠ "java/lang/invoke/MethodHandle" ∧ y_MA_push.cls ≠ "java/lang/invoke/VarHandle" ∧ (parseMethodDescriptor y_MA_push.desc).map (fun d => d.parameters.length) = some 1 := by decide +kernel
theorem ht_MA_push : y_MA_push.cls ≠ "java/lang/invoke/MethodHandle" ∧ y_MA_push.cls ≠ "java/lang/invoke/VarHandle" ∧ (parseMethodDescriptor y_MA_push.desc).map (fun d => d.parameters.length) = some 1 := hs_MA_push.2
abbrev b_MA_pop : ByteArray := prog_4_method_10_code
def y_MA_pop : MethodName := ⟨R_MA, "pop", "()I"⟩
abbrev ws_MA_pop : List Cond := .code y_MA_pop b_MA_pop 1 (some .int) :: gt
theorem hs_MA_pop : y_MA_pop.cls = R_MA ∧ y_MA_pop.cls ≠ "java/lang/invoke/MethodHandle" ∧ y_MA_pop.cls ≠ "java/lang/invoke/VarHandle" ∧ (parseMethodDescriptor y_MA_pop.desc).map (fun d => d.parameters.length) = some 0 := by decide +kernel
theorem ht_MA_pop : y_MA_pop.cls ≠ "java/lang/invoke/MethodHandle" ∧ y_MA_pop.cls ≠ "java/lang/invoke/VarHandle" ∧ (parseMethodDescriptor y_MA_pop.desc).map (fun d => d.parameters.length) = some 0 := hs_MA_pop.2
abbrev b_MA_print : ByteArray := prog_4_method_11_code
def y_MA_print : MethodName := ⟨R_MA, "print", "(I)V"⟩
abbrev ws_MA_print : List Cond := .code y_MA_print b_MA_print 2 none :: gt
theorem hs_MA_print : y_MA_print.cls = R_MA ∧ y_MA_print.cls ≠ "java/lang/invoke/MethodHandle" ∧ y_MA_print.cls ≠ "java/lang/invoke/VarHandle" ∧ (parseMethodDescriptor y_MA_print.desc).map (fun d => d.parameters.length) = some 1 := by decide +kernel
theorem ht_MA_print : y_MA_print.cls ≠ "java/lang/invoke/MethodHandle" ∧ y_MA_print.cls ≠ "java/lang/invoke/VarHandle" ∧ (parseMethodDescriptor y_MA_print.desc).map (fun d => d.parameters.length) = some 1 := hs_MA_print.2
abbrev b_MA_cellIndex : ByteArray := prog_4_method_12_code
def y_MA_cellIndex : MethodName := ⟨R_MA, "cellIndex", "(I)I"⟩
abbrev ws_MA_cellIndex : List Cond := .code y_MA_cellIndex b_MA_cellIndex 1 (some .int) :: gt
theorem hs_MA_cellIndex : y_MA_cellIndex.cls = R_MA ∧ y_MA_cellIndex.cls ≠ "java/lang/invoke/MethodHandle" ∧ y_MA_cellIndex.cls ≠ "java/lang/invoke/VarHandle" ∧ (parseMethodDescriptor y_MA_cellIndex.desc).map (fun d => d.parameters.length) = some 1 := by decide +kernel
theorem ht_MA_cellIndex : y_MA_cellIndex.cls ≠ "java/lang/invoke/MethodHandle" ∧ y_MA_cellIndex.cls ≠ "java/lang/invoke/VarHandle" ∧ (parseMethodDescriptor y_MA_cellIndex.desc).map (fun d => d.parameters.length) = some 1 := hs_MA_cellIndex.2
abbrev b_MA_printedNumber : ByteArray := prog_4_method_13_code
def y_MA_printedNumber : MethodName := ⟨R_MA, "printedNumber", "(I)I"⟩
abbrev ws_MA_printedNumber : List Cond := .code y_MA_printedNumber b_MA_printedNumber 2 (some .int) :: gt
theorem hs_MA_printedNumber : y_MA_printedNumber.cls = R_MA ∧ y_MA_printedNumber.cls ≠ "java/lang/invoke/MethodHandle" ∧ y_MA_printedNumber.cls ≠ "java/lang/invoke/VarHandle" ∧ (parseMethodDescriptor y_MA_printedNumber.desc).map (fun d => d.parameters.length) = some 1 := by decide +kernel
theorem ht_MA_printedNumber : y_MA_printedNumber.cls ≠ "java/lang/invoke/MethodHandle" ∧ y_MA_printedNumber.cls ≠ "java/lang/invoke/VarHandle" ∧ (parseMethodDescriptor y_MA_printedNumber.desc).map (fun d => d.parameters.length) = some 1 := hs_MA_printedNumber.2
abbrev b_MA_stepCount : ByteArray := prog_4_method_14_code
def y_MA_stepCount : MethodName := ⟨R_MA, "stepCount", "()I"⟩
abbrev ws_MA_stepCount : List Cond := .code y_MA_stepCount b_MA_stepCount 1 (some .int) :: gt
theorem hs_MA_stepCount : y_MA_stepCount.cls = R_MA ∧ y_MA_stepCount.cls ≠ "java/lang/invoke/MethodHandle" ∧ y_MA_stepCount.cls ≠ "java/lang/invoke/VarHandle" ∧ (parseMethodDescriptor y_MA_stepCount.desc).map (fun d => d.parameters.length) = some 0 := by decide +kernel
theorem ht_MA_stepCount : y_MA_stepCount.cls ≠ "java/lang/invoke/MethodHandle" ∧ y_MA_stepCount.cls ≠ "java/lang/invoke/VarHandle" ∧ (parseMethodDescriptor y_MA_stepCount.desc).map (fun d => d.parameters.length) = some 0 := hs_MA_stepCount.2
abbrev b_MA_cellValue : ByteArray := prog_4_method_15_code
def y_MA_cellValue : MethodName := ⟨R_MA, "cellValue", "(I)I"⟩
abbrev ws_MA_cellValue : List Cond := .code y_MA_cellValue b_MA_cellValue 2 (some .int) :: gt
theorem hs_MA_cellValue : y_MA_cellValue.cls = R_MA ∧ y_MA_cellValue.cls ≠ "java/lang/invoke/MethodHandle" ∧ y_MA_cellValue.cls ≠ "java/lang/invoke/VarHandle" ∧ (parseMethodDescriptor y_MA_cellValue.desc).map (fun d => d.parameters.length) = some 1 := by decide +kernel
theorem ht_MA_cellValue : y_MA_cellValue.cls ≠ "java/lang/invoke/MethodHandle" ∧ y_MA_cellValue.cls ≠ "java/lang/invoke/VarHandle" ∧ (parseMethodDescriptor y_MA_cellValue.desc).map (fun d => d.parameters.length) = some 1 := hs_MA_cellValue.2
abbrev b_MO_init : ByteArray := prog_8_method_1_code
def y_MO_init : MethodName := ⟨R_MO, "<init>", "(I)V"⟩
abbrev ws_MO_init : List Cond := .code y_MO_init b_MO_init 2 none :: gt
theorem hs_MO_init : y_MO_init.cls = R_MO ∧ y_MO_init.cls ≠ "java/lang/invoke/MethodHandle" ∧ y_MO_init.cls ≠ "java/lang/invoke/VarHandle" ∧ (parseMethodDescriptor y_MO_init.desc).map (fun d => d.parameters.length) = some 1 := by decide +kernel
theorem ht_MO_init : y_MO_init.cls ≠ "java/lang/invoke/MethodHandle" ∧ y_MO_init.cls ≠ "java/lang/invoke/VarHandle" ∧ (parseMethodDescriptor y_MO_init.desc).map (fun d => d.parameters.length) = some 1 := hs_MO_init.2
abbrev b_MO_in : ByteArray := prog_8_method_2_code
def y_MO_in : MethodName := ⟨R_MO, "in", "(III)Z"⟩
abbrev ws_MO_in : List Cond := .code y_MO_in b_MO_in 3 (some .boolean) :: gt
theorem hs_MO_in : y_MO_in.cls = R_MO ∧ y_MO_in.cls ≠ "java/lang/invoke/MethodHandle" ∧ y_MO_in.cls ≠ "java/lang/invoke/VarHandle" ∧ (parseMethodDescriptor y_MO_in.desc).map (fun d => d.parameters.length) = some 3 := by decide +kernel
theorem ht_MO_in : y_MO_in.cls ≠ "java/lang/invoke/MethodHandle" ∧ y_MO_in.cls ≠ "java/lang/invoke/VarHandle" ∧ (parseMethodDescriptor y_MO_in.desc).map (fun d => d.parameters.length) = some 3 := hs_MO_in.2
abbrev b_MO_isRegister : ByteArray := prog_8_method_3_code
def y_MO_isRegister : MethodName := ⟨R_MO, "isRegister", "(I)Z"⟩
abbrev ws_MO_isRegister : List Cond := .code y_MO_isRegister b_MO_isRegister 1 (some .boolean) :: gt
theorem hs_MO_isRegister : y_MO_isRegister.cls = R_MO ∧ y_MO_isRegister.cls ≠ "java/lang/invoke/MethodHandle" ∧ y_MO_isRegister.cls ≠ "java/lang/invoke/VarHandle" ∧ (parseMethodDescriptor y_MO_isRegister.desc).map (fun d => d.parameters.length) = some 1 := by decide +kernel
theorem ht_MO_isRegister : y_MO_isRegister.cls ≠ "java/lang/invoke/MethodHandle" ∧ y_MO_isRegister.cls ≠ "java/lang/invoke/VarHandle" ∧ (parseMethodDescriptor y_MO_isRegister.desc).map (fun d => d.parameters.length) = some 1 := hs_MO_isRegister.2
abbrev b_MO_isRight : ByteArray := prog_8_method_4_code
def y_MO_isRight : MethodName := ⟨R_MO, "isRight", "(IIII)Z"⟩
abbrev ws_MO_isRight : List Cond := .code y_MO_isRight b_MO_isRight 7 (some .boolean) :: gt
theorem hs_MO_isRight : y_MO_isRight.cls = R_MO ∧ y_MO_isRight.cls ≠ "java/lang/invoke/MethodHandle" ∧ y_MO_isRight.cls ≠ "java/lang/invoke/VarHandle" ∧ (parseMethodDescriptor y_MO_isRight.desc).map (fun d => d.parameters.length) = some 4 := by decide +kernel
theorem ht_MO_isRight : y_MO_isRight.cls ≠ "java/lang/invoke/MethodHandle" ∧ y_MO_isRight.cls ≠ "java/lang/invoke/VarHandle" ∧ (parseMethodDescriptor y_MO_isRight.desc).map (fun d => d.parameters.length) = some 4 := hs_MO_isRight.2
abbrev b_MO_put : ByteArray := prog_8_method_5_code
def y_MO_put : MethodName := ⟨R_MO, "put", "(IIIII)V"⟩
abbrev ws_MO_put : List Cond := .code y_MO_put b_MO_put 6 none :: gt
theorem hs_MO_put : y_MO_put.cls = R_MO ∧ y_MO_put.cls ≠ "java/lang/invoke/MethodHandle" ∧ y_MO_put.cls ≠ "java/lang/invoke/VarHandle" ∧ (parseMethodDescriptor y_MO_put.desc).map (fun d => d.parameters.length) = some 5 := by decide +kernel
theorem ht_MO_put : y_MO_put.cls ≠ "java/lang/invoke/MethodHandle" ∧ y_MO_put.cls ≠ "java/lang/invoke/VarHandle" ∧ (parseMethodDescriptor y_MO_put.desc).map (fun d => d.parameters.length) = some 5 := hs_MO_put.2
abbrev b_MO_add : ByteArray := prog_8_method_6_code
def y_MO_add : MethodName := ⟨R_MO, "add", "(IIII)I"⟩
abbrev ws_MO_add : List Cond := .code y_MO_add b_MO_add 5 (some .int) :: gt
theorem hs_MO_add : y_MO_add.cls = R_MO ∧ y_MO_add.cls ≠ "java/lang/invoke/MethodHandle" ∧ y_MO_add.cls ≠ "java/lang/invoke/VarHandle" ∧ (parseMethodDescriptor y_MO_add.desc).map (fun d => d.parameters.length) = some 4 := by decide +kernel
theorem ht_MO_add : y_MO_add.cls ≠ "java/lang/invoke/MethodHandle" ∧ y_MO_add.cls ≠ "java/lang/invoke/VarHandle" ∧ (parseMethodDescriptor y_MO_add.desc).map (fun d => d.parameters.length) = some 4 := hs_MO_add.2
abbrev b_MO_set : ByteArray := prog_8_method_7_code
def y_MO_set : MethodName := ⟨R_MO, "set", "(IIIII)Z"⟩
abbrev ws_MO_set : List Cond := .code y_MO_set b_MO_set 6 (some .boolean) :: gt
theorem hs_MO_set : y_MO_set.cls = R_MO ∧ y_MO_set.cls ≠ "java/lang/invoke/MethodHandle" ∧ y_MO_set.cls ≠ "java/lang/invoke/VarHandle" ∧ (parseMethodDescriptor y_MO_set.desc).map (fun d => d.parameters.length) = some 5 := by decide +kernel
theorem ht_MO_set : y_MO_set.cls ≠ "java/lang/invoke/MethodHandle" ∧ y_MO_set.cls ≠ "java/lang/invoke/VarHandle" ∧ (parseMethodDescriptor y_MO_set.desc).map (fun d => d.parameters.length) = some 5 := hs_MO_set.2
abbrev b_MO_cut : ByteArray := prog_8_method_8_code
def y_MO_cut : MethodName := ⟨R_MO, "cut", "(I)Z"⟩
abbrev ws_MO_cut : List Cond := .code y_MO_cut b_MO_cut 2 (some .boolean) :: gt
theorem hs_MO_cut : y_MO_cut.cls = R_MO ∧ y_MO_cut.cls ≠ "java/lang/invoke/MethodHandle" ∧ y_MO_cut.cls ≠ "java/lang/invoke/VarHandle" ∧ (parseMethodDescriptor y_MO_cut.desc).map (fun d => d.parameters.length) = some 1 := by decide +kernel
theorem ht_MO_cut : y_MO_cut.cls ≠ "java/lang/invoke/MethodHandle" ∧ y_MO_cut.cls ≠ "java/lang/invoke/VarHandle" ∧ (parseMethodDescriptor y_MO_cut.desc).map (fun d => d.parameters.length) = some 1 := hs_MO_cut.2
abbrev b_MO_size : ByteArray := prog_8_method_9_code
def y_MO_size : MethodName := ⟨R_MO, "size", "()I"⟩
abbrev ws_MO_size : List Cond := .code y_MO_size b_MO_size 1 (some .int) :: gt
theorem hs_MO_size : y_MO_size.cls = R_MO ∧ y_MO_size.cls ≠ "java/lang/invoke/MethodHandle" ∧ y_MO_size.cls ≠ "java/lang/invoke/VarHandle" ∧ (parseMethodDescriptor y_MO_size.desc).map (fun d => d.parameters.length) = some 0 := by decide +kernel
theorem ht_MO_size : y_MO_size.cls ≠ "java/lang/invoke/MethodHandle" ∧ y_MO_size.cls ≠ "java/lang/invoke/VarHandle" ∧ (parseMethodDescriptor y_MO_size.desc).map (fun d => d.parameters.length) = some 0 := hs_MO_size.2
abbrev b_MO_isWriter : ByteArray := prog_8_method_10_code
def y_MO_isWriter : MethodName := ⟨R_MO, "isWriter", "(I)Z"⟩
abbrev ws_MO_isWriter : List Cond := .code y_MO_isWriter b_MO_isWriter 2 (some .boolean) :: gt
theorem hs_MO_isWriter : y_MO_isWriter.cls = R_MO ∧ y_MO_isWriter.cls ≠ "java/lang/invoke/MethodHandle" ∧ y_MO_isWriter.cls ≠ "java/lang/invoke/VarHandle" ∧ (parseMethodDescriptor y_MO_isWriter.desc).map (fun d => d.parameters.length) = some 1 := by decide +kernel
theorem ht_MO_isWriter : y_MO_isWriter.cls ≠ "java/lang/invoke/MethodHandle" ∧ y_MO_isWriter.cls ≠ "java/lang/invoke/VarHandle" ∧ (parseMethodDescriptor y_MO_isWriter.desc).map (fun d => d.parameters.length) = some 1 := hs_MO_isWriter.2
abbrev b_MO_writes : ByteArray := prog_8_method_11_code
def y_MO_writes : MethodName := ⟨R_MO, "writes", "(II)Z"⟩
abbrev ws_MO_writes : List Cond := .code y_MO_writes b_MO_writes 3 (some .boolean) :: gt
theorem hs_MO_writes : y_MO_writes.cls = R_MO ∧ y_MO_writes.cls ≠ "java/lang/invoke/MethodHandle" ∧ y_MO_writes.cls ≠ "java/lang/invoke/VarHandle" ∧ (parseMethodDescriptor y_MO_writes.desc).map (fun d => d.parameters.length) = some 2 := by decide +kernel
theorem ht_MO_writes : y_MO_writes.cls ≠ "java/lang/invoke/MethodHandle" ∧ y_MO_writes.cls ≠ "java/lang/invoke/VarHandle" ∧ (parseMethodDescriptor y_MO_writes.desc).map (fun d => d.parameters.length) = some 2 := hs_MO_writes.2
abbrev b_MO_readsA : ByteArray := prog_8_method_12_code
def y_MO_readsA : MethodName := ⟨R_MO, "readsA", "(I)Z"⟩
abbrev ws_MO_readsA : List Cond := .code y_MO_readsA b_MO_readsA 2 (some .boolean) :: gt
theorem hs_MO_readsA : y_MO_readsA.cls = R_MO ∧ y_MO_readsA.cls ≠ "java/lang/invoke/MethodHandle" ∧ y_MO_readsA.cls ≠ "java/lang/invoke/VarHandle" ∧ (parseMethodDescriptor y_MO_readsA.desc).map (fun d => d.parameters.length) = some 1 := by decide +kernel
theorem ht_MO_readsA : y_MO_readsA.cls ≠ "java/lang/invoke/MethodHandle" ∧ y_MO_readsA.cls ≠ "java/lang/invoke/VarHandle" ∧ (parseMethodDescriptor y_MO_readsA.desc).map (fun d => d.parameters.length) = some 1 := hs_MO_readsA.2
abbrev b_MO_readsB : ByteArray := prog_8_method_13_code
def y_MO_readsB : MethodName := ⟨R_MO, "readsB", "(I)Z"⟩
abbrev ws_MO_readsB : List Cond := .code y_MO_readsB b_MO_readsB 2 (some .boolean) :: gt
theorem hs_MO_readsB : y_MO_readsB.cls = R_MO ∧ y_MO_readsB.cls ≠ "java/lang/invoke/MethodHandle" ∧ y_MO_readsB.cls ≠ "java/lang/invoke/VarHandle" ∧ (parseMethodDescriptor y_MO_readsB.desc).map (fun d => d.parameters.length) = some 1 := by decide +kernel
theorem ht_MO_readsB : y_MO_readsB.cls ≠ "java/lang/invoke/MethodHandle" ∧ y_MO_readsB.cls ≠ "java/lang/invoke/VarHandle" ∧ (parseMethodDescriptor y_MO_readsB.desc).map (fun d => d.parameters.length) = some 1 := hs_MO_readsB.2
abbrev b_MO_times : ByteArray := prog_8_method_14_code
def y_MO_times : MethodName := ⟨R_MO, "times", "(II)I"⟩
abbrev ws_MO_times : List Cond := .code y_MO_times b_MO_times 3 (some .int) :: gt
theorem hs_MO_times : y_MO_times.cls = R_MO ∧ y_MO_times.cls ≠ "java/lang/invoke/MethodHandle" ∧ y_MO_times.cls ≠ "java/lang/invoke/VarHandle" ∧ (parseMethodDescriptor y_MO_times.desc).map (fun d => d.parameters.length) = some 2 := by decide +kernel
theorem ht_MO_times : y_MO_times.cls ≠ "java/lang/invoke/MethodHandle" ∧ y_MO_times.cls ≠ "java/lang/invoke/VarHandle" ∧ (parseMethodDescriptor y_MO_times.desc).map (fun d => d.parameters.length) = some 2 := hs_MO_times.2
abbrev b_MO_leaves : ByteArray := prog_8_method_15_code
def y_MO_leaves : MethodName := ⟨R_MO, "leaves", "(I)Z"⟩
abbrev ws_MO_leaves : List Cond := .code y_MO_leaves b_MO_leaves 2 (some .boolean) :: gt
theorem hs_MO_leaves : y_MO_leaves.cls = R_MO ∧ y_MO_leaves.cls ≠ "java/lang/invoke/MethodHandle" ∧ y_MO_leaves.cls ≠ "java/lang/invoke/VarHandle" ∧ (parseMethodDescriptor y_MO_leaves.desc).map (fun d => d.parameters.length) = some 1 := by decide +kernel
theorem ht_MO_leaves : y_MO_leaves.cls ≠ "java/lang/invoke/MethodHandle" ∧ y_MO_leaves.cls ≠ "java/lang/invoke/VarHandle" ∧ (parseMethodDescriptor y_MO_leaves.desc).map (fun d => d.parameters.length) = some 1 := hs_MO_leaves.2
abbrev b_MO_findBlocks : ByteArray := prog_8_method_16_code
def y_MO_findBlocks : MethodName := ⟨R_MO, "findBlocks", "()V"⟩
abbrev ws_MO_findBlocks : List Cond := .code y_MO_findBlocks b_MO_findBlocks 2 none :: gt
theorem hs_MO_findBlocks : y_MO_findBlocks.cls = R_MO ∧ y_MO_findBlocks.cls ≠ "java/lang/invoke/MethodHandle" ∧ y_MO_findBlocks.cls ≠ "java/lang/invoke/VarHandle" ∧ (parseMethodDescriptor y_MO_findBlocks.desc).map (fun d => d.parameters.length) = some 0 := by decide +kernel
theorem ht_MO_findBlocks : y_MO_findBlocks.cls ≠ "java/lang/invoke/MethodHandle" ∧ y_MO_findBlocks.cls ≠ "java/lang/invoke/VarHandle" ∧ (parseMethodDescriptor y_MO_findBlocks.desc).map (fun d => d.parameters.length) = some 0 := hs_MO_findBlocks.2
abbrev b_MO_behind : ByteArray := prog_8_method_17_code
def y_MO_behind : MethodName := ⟨R_MO, "behind", "(I)I"⟩
abbrev ws_MO_behind : List Cond := .code y_MO_behind b_MO_behind 2 (some .int) :: gt
theorem hs_MO_behind : y_MO_behind.cls = R_MO ∧ y_MO_behind.cls ≠ "java/lang/invoke/MethodHandle" ∧ y_MO_behind.cls ≠ "java/lang/invoke/VarHandle" ∧ (parseMethodDescriptor y_MO_behind.desc).map (fun d => d.parameters.length) = some 1 := by decide +kernel
theorem ht_MO_behind : y_MO_behind.cls ≠ "java/lang/invoke/MethodHandle" ∧ y_MO_behind.cls ≠ "java/lang/invoke/VarHandle" ∧ (parseMethodDescriptor y_MO_behind.desc).map (fun d => d.parameters.length) = some 1 := hs_MO_behind.2
abbrev b_MO_aliveAt : ByteArray := prog_8_method_18_code
def y_MO_aliveAt : MethodName := ⟨R_MO, "aliveAt", "(I)I"⟩
abbrev ws_MO_aliveAt : List Cond := .code y_MO_aliveAt b_MO_aliveAt 2 (some .int) :: gt
theorem hs_MO_aliveAt : y_MO_aliveAt.cls = R_MO ∧ y_MO_aliveAt.cls ≠ "java/lang/invoke/MethodHandle" ∧ y_MO_aliveAt.cls ≠ "java/lang/invoke/VarHandle" ∧ (parseMethodDescriptor y_MO_aliveAt.desc).map (fun d => d.parameters.length) = some 1 := by decide +kernel
theorem ht_MO_aliveAt : y_MO_aliveAt.cls ≠ "java/lang/invoke/MethodHandle" ∧ y_MO_aliveAt.cls ≠ "java/lang/invoke/VarHandle" ∧ (parseMethodDescriptor y_MO_aliveAt.desc).map (fun d => d.parameters.length) = some 1 := hs_MO_aliveAt.2
abbrev b_MO_findAlive : ByteArray := prog_8_method_19_code
def y_MO_findAlive : MethodName := ⟨R_MO, "findAlive", "()V"⟩
abbrev ws_MO_findAlive : List Cond := .code y_MO_findAlive b_MO_findAlive 4 none :: gt
theorem hs_MO_findAlive : y_MO_findAlive.cls = R_MO ∧ y_MO_findAlive.cls ≠ "java/lang/invoke/MethodHandle" ∧ y_MO_findAlive.cls ≠ "java/lang/invoke/VarHandle" ∧ (parseMethodDescriptor y_MO_findAlive.desc).map (fun d => d.parameters.length) = some 0 := by decide +kernel
theorem ht_MO_findAlive : y_MO_findAlive.cls ≠ "java/lang/invoke/MethodHandle" ∧ y_MO_findAlive.cls ≠ "java/lang/invoke/VarHandle" ∧ (parseMethodDescriptor y_MO_findAlive.desc).map (fun d => d.parameters.length) = some 0 := hs_MO_findAlive.2
abbrev b_MO_blockEnd : ByteArray := prog_8_method_20_code
def y_MO_blockEnd : MethodName := ⟨R_MO, "blockEnd", "(I)I"⟩
abbrev ws_MO_blockEnd : List Cond := .code y_MO_blockEnd b_MO_blockEnd 3 (some .int) :: gt
theorem hs_MO_blockEnd : y_MO_blockEnd.cls = R_MO ∧ y_MO_blockEnd.cls ≠ "java/lang/invoke/MethodHandle" ∧ y_MO_blockEnd.cls ≠ "java/lang/invoke/VarHandle" ∧ (parseMethodDescriptor y_MO_blockEnd.desc).map (fun d => d.parameters.length) = some 1 := by decide +kernel
theorem ht_MO_blockEnd : y_MO_blockEnd.cls ≠ "java/lang/invoke/MethodHandle" ∧ y_MO_blockEnd.cls ≠ "java/lang/invoke/VarHandle" ∧ (parseMethodDescriptor y_MO_blockEnd.desc).map (fun d => d.parameters.length) = some 1 := hs_MO_blockEnd.2
abbrev b_MO_writerBefore : ByteArray := prog_8_method_21_code
def y_MO_writerBefore : MethodName := ⟨R_MO, "writerBefore", "(II)I"⟩
abbrev ws_MO_writerBefore : List Cond := .code y_MO_writerBefore b_MO_writerBefore 4 (some .int) :: gt
theorem hs_MO_writerBefore : y_MO_writerBefore.cls = R_MO ∧ y_MO_writerBefore.cls ≠ "java/lang/invoke/MethodHandle" ∧ y_MO_writerBefore.cls ≠ "java/lang/invoke/VarHandle" ∧ (parseMethodDescriptor y_MO_writerBefore.desc).map (fun d => d.parameters.length) = some 2 := by decide +kernel
theorem ht_MO_writerBefore : y_MO_writerBefore.cls ≠ "java/lang/invoke/MethodHandle" ∧ y_MO_writerBefore.cls ≠ "java/lang/invoke/VarHandle" ∧ (parseMethodDescriptor y_MO_writerBefore.desc).map (fun d => d.parameters.length) = some 2 := hs_MO_writerBefore.2
abbrev b_MO_nextWriter : ByteArray := prog_8_method_22_code
def y_MO_nextWriter : MethodName := ⟨R_MO, "nextWriter", "(I)I"⟩
abbrev ws_MO_nextWriter : List Cond := .code y_MO_nextWriter b_MO_nextWriter 5 (some .int) :: gt
theorem hs_MO_nextWriter : y_MO_nextWriter.cls = R_MO ∧ y_MO_nextWriter.cls ≠ "java/lang/invoke/MethodHandle" ∧ y_MO_nextWriter.cls ≠ "java/lang/invoke/VarHandle" ∧ (parseMethodDescriptor y_MO_nextWriter.desc).map (fun d => d.parameters.length) = some 1 := by decide +kernel
theorem ht_MO_nextWriter : y_MO_nextWriter.cls ≠ "java/lang/invoke/MethodHandle" ∧ y_MO_nextWriter.cls ≠ "java/lang/invoke/VarHandle" ∧ (parseMethodDescriptor y_MO_nextWriter.desc).map (fun d => d.parameters.length) = some 1 := hs_MO_nextWriter.2
abbrev b_MO_canCarry : ByteArray := prog_8_method_23_code
def y_MO_canCarry : MethodName := ⟨R_MO, "canCarry", "(II)Z"⟩
abbrev ws_MO_canCarry : List Cond := .code y_MO_canCarry b_MO_canCarry 8 (some .boolean) :: gt
theorem hs_MO_canCarry : y_MO_canCarry.cls = R_MO ∧ y_MO_canCarry.cls ≠ "java/lang/invoke/MethodHandle" ∧ y_MO_canCarry.cls ≠ "java/lang/invoke/VarHandle" ∧ (parseMethodDescriptor y_MO_canCarry.desc).map (fun d => d.parameters.length) = some 2 := by decide +kernel
theorem ht_MO_canCarry : y_MO_canCarry.cls ≠ "java/lang/invoke/MethodHandle" ∧ y_MO_canCarry.cls ≠ "java/lang/invoke/VarHandle" ∧ (parseMethodDescriptor y_MO_canCarry.desc).map (fun d => d.parameters.length) = some 2 := hs_MO_canCarry.2
abbrev b_MO_needOf : ByteArray := prog_8_method_24_code
def y_MO_needOf : MethodName := ⟨R_MO, "needOf", "(III)I"⟩
abbrev ws_MO_needOf : List Cond := .code y_MO_needOf b_MO_needOf 6 (some .int) :: gt
theorem hs_MO_needOf : y_MO_needOf.cls = R_MO ∧ y_MO_needOf.cls ≠ "java/lang/invoke/MethodHandle" ∧ y_MO_needOf.cls ≠ "java/lang/invoke/VarHandle" ∧ (parseMethodDescriptor y_MO_needOf.desc).map (fun d => d.parameters.length) = some 3 := by decide +kernel
theorem ht_MO_needOf : y_MO_needOf.cls ≠ "java/lang/invoke/MethodHandle" ∧ y_MO_needOf.cls ≠ "java/lang/invoke/VarHandle" ∧ (parseMethodDescriptor y_MO_needOf.desc).map (fun d => d.parameters.length) = some 3 := hs_MO_needOf.2
abbrev b_MO_settle : ByteArray := prog_8_method_25_code
def y_MO_settle : MethodName := ⟨R_MO, "settle", "(I)V"⟩
abbrev ws_MO_settle : List Cond := .code y_MO_settle b_MO_settle 6 none :: gt
theorem hs_MO_settle : y_MO_settle.cls = R_MO ∧ y_MO_settle.cls ≠ "java/lang/invoke/MethodHandle" ∧ y_MO_settle.cls ≠ "java/lang/invoke/VarHandle" ∧ (parseMethodDescriptor y_MO_settle.desc).map (fun d => d.parameters.length) = some 1 := by decide +kernel
theorem ht_MO_settle : y_MO_settle.cls ≠ "java/lang/invoke/MethodHandle" ∧ y_MO_settle.cls ≠ "java/lang/invoke/VarHandle" ∧ (parseMethodDescriptor y_MO_settle.desc).map (fun d => d.parameters.length) = some 1 := hs_MO_settle.2
abbrev b_MO_emit : ByteArray := prog_8_method_26_code
def y_MO_emit : MethodName := ⟨R_MO, "emit", "(II)V"⟩
abbrev ws_MO_emit : List Cond := .code y_MO_emit b_MO_emit 3 none :: gt
theorem hs_MO_emit : y_MO_emit.cls = R_MO ∧ y_MO_emit.cls ≠ "java/lang/invoke/MethodHandle" ∧ y_MO_emit.cls ≠ "java/lang/invoke/VarHandle" ∧ (parseMethodDescriptor y_MO_emit.desc).map (fun d => d.parameters.length) = some 2 := by decide +kernel
theorem ht_MO_emit : y_MO_emit.cls ≠ "java/lang/invoke/MethodHandle" ∧ y_MO_emit.cls ≠ "java/lang/invoke/VarHandle" ∧ (parseMethodDescriptor y_MO_emit.desc).map (fun d => d.parameters.length) = some 2 := hs_MO_emit.2
abbrev b_MO_emitOperation : ByteArray := prog_8_method_27_code
def y_MO_emitOperation : MethodName := ⟨R_MO, "emitOperation", "(I)V"⟩
abbrev ws_MO_emitOperation : List Cond := .code y_MO_emitOperation b_MO_emitOperation 3 none :: gt
theorem hs_MO_emitOperation : y_MO_emitOperation.cls = R_MO ∧ y_MO_emitOperation.cls ≠ "java/lang/invoke/MethodHandle" ∧ y_MO_emitOperation.cls ≠ "java/lang/invoke/VarHandle" ∧ (parseMethodDescriptor y_MO_emitOperation.desc).map (fun d => d.parameters.length) = some 1 := by decide +kernel
theorem ht_MO_emitOperation : y_MO_emitOperation.cls ≠ "java/lang/invoke/MethodHandle" ∧ y_MO_emitOperation.cls ≠ "java/lang/invoke/VarHandle" ∧ (parseMethodDescriptor y_MO_emitOperation.desc).map (fun d => d.parameters.length) = some 1 := hs_MO_emitOperation.2
abbrev b_MO_writeTree : ByteArray := prog_8_method_28_code
def y_MO_writeTree : MethodName := ⟨R_MO, "writeTree", "(I)V"⟩
abbrev ws_MO_writeTree : List Cond := .code y_MO_writeTree b_MO_writeTree 4 none :: gt
theorem hs_MO_writeTree : y_MO_writeTree.cls = R_MO ∧ y_MO_writeTree.cls ≠ "java/lang/invoke/MethodHandle" ∧ y_MO_writeTree.cls ≠ "java/lang/invoke/VarHandle" ∧ (parseMethodDescriptor y_MO_writeTree.desc).map (fun d => d.parameters.length) = some 1 := by decide +kernel
theorem ht_MO_writeTree : y_MO_writeTree.cls ≠ "java/lang/invoke/MethodHandle" ∧ y_MO_writeTree.cls ≠ "java/lang/invoke/VarHandle" ∧ (parseMethodDescriptor y_MO_writeTree.desc).map (fun d => d.parameters.length) = some 1 := hs_MO_writeTree.2
abbrev b_MO_open : ByteArray := prog_8_method_29_code
def y_MO_open : MethodName := ⟨R_MO, "open", "(II)I"⟩
abbrev ws_MO_open : List Cond := .code y_MO_open b_MO_open 9 (some .int) :: gt
theorem hs_MO_open : y_MO_open.cls = R_MO ∧ y_MO_open.cls ≠ "java/lang/invoke/MethodHandle" ∧ y_MO_open.cls ≠ "java/lang/invoke/VarHandle" ∧ (parseMethodDescriptor y_MO_open.desc).map (fun d => d.parameters.length) = some 2 := by decide +kernel
theorem ht_MO_open : y_MO_open.cls ≠ "java/lang/invoke/MethodHandle" ∧ y_MO_open.cls ≠ "java/lang/invoke/VarHandle" ∧ (parseMethodDescriptor y_MO_open.desc).map (fun d => d.parameters.length) = some 2 := hs_MO_open.2
abbrev b_MO_isWanted : ByteArray := prog_8_method_30_code
def y_MO_isWanted : MethodName := ⟨R_MO, "isWanted", "(I)Z"⟩
abbrev ws_MO_isWanted : List Cond := .code y_MO_isWanted b_MO_isWanted 6 (some .boolean) :: gt
theorem hs_MO_isWanted : y_MO_isWanted.cls = R_MO ∧ y_MO_isWanted.cls ≠ "java/lang/invoke/MethodHandle" ∧ y_MO_isWanted.cls ≠ "java/lang/invoke/VarHandle" ∧ (parseMethodDescriptor y_MO_isWanted.desc).map (fun d => d.parameters.length) = some 1 := by decide +kernel
theorem ht_MO_isWanted : y_MO_isWanted.cls ≠ "java/lang/invoke/MethodHandle" ∧ y_MO_isWanted.cls ≠ "java/lang/invoke/VarHandle" ∧ (parseMethodDescriptor y_MO_isWanted.desc).map (fun d => d.parameters.length) = some 1 := hs_MO_isWanted.2
abbrev b_MO_work : ByteArray := prog_8_method_31_code
def y_MO_work : MethodName := ⟨R_MO, "work", "()V"⟩
abbrev ws_MO_work : List Cond := .code y_MO_work b_MO_work 2 none :: gt
theorem hs_MO_work : y_MO_work.cls = R_MO ∧ y_MO_work.cls ≠ "java/lang/invoke/MethodHandle" ∧ y_MO_work.cls ≠ "java/lang/invoke/VarHandle" ∧ (parseMethodDescriptor y_MO_work.desc).map (fun d => d.parameters.length) = some 0 := by decide +kernel
theorem ht_MO_work : y_MO_work.cls ≠ "java/lang/invoke/MethodHandle" ∧ y_MO_work.cls ≠ "java/lang/invoke/VarHandle" ∧ (parseMethodDescriptor y_MO_work.desc).map (fun d => d.parameters.length) = some 0 := hs_MO_work.2
abbrev b_MO_length : ByteArray := prog_8_method_32_code
def y_MO_length : MethodName := ⟨R_MO, "length", "()I"⟩
abbrev ws_MO_length : List Cond := .code y_MO_length b_MO_length 1 (some .int) :: gt
theorem hs_MO_length : y_MO_length.cls = R_MO ∧ y_MO_length.cls ≠ "java/lang/invoke/MethodHandle" ∧ y_MO_length.cls ≠ "java/lang/invoke/VarHandle" ∧ (parseMethodDescriptor y_MO_length.desc).map (fun d => d.parameters.length) = some 0 := by decide +kernel
theorem ht_MO_length : y_MO_length.cls ≠ "java/lang/invoke/MethodHandle" ∧ y_MO_length.cls ≠ "java/lang/invoke/VarHandle" ∧ (parseMethodDescriptor y_MO_length.desc).map (fun d => d.parameters.length) = some 0 := hs_MO_length.2
abbrev b_MO_code : ByteArray := prog_8_method_33_code
def y_MO_code : MethodName := ⟨R_MO, "code", "(I)I"⟩
abbrev ws_MO_code : List Cond := .code y_MO_code b_MO_code 2 (some .int) :: gt
theorem hs_MO_code : y_MO_code.cls = R_MO ∧ y_MO_code.cls ≠ "java/lang/invoke/MethodHandle" ∧ y_MO_code.cls ≠ "java/lang/invoke/VarHandle" ∧ (parseMethodDescriptor y_MO_code.desc).map (fun d => d.parameters.length) = some 1 := by decide +kernel
theorem ht_MO_code : y_MO_code.cls ≠ "java/lang/invoke/MethodHandle" ∧ y_MO_code.cls ≠ "java/lang/invoke/VarHandle" ∧ (parseMethodDescriptor y_MO_code.desc).map (fun d => d.parameters.length) = some 1 := hs_MO_code.2
abbrev b_MO_carried : ByteArray := prog_8_method_34_code
def y_MO_carried : MethodName := ⟨R_MO, "carried", "(I)I"⟩
abbrev ws_MO_carried : List Cond := .code y_MO_carried b_MO_carried 2 (some .int) :: gt
theorem hs_MO_carried : y_MO_carried.cls = R_MO ∧ y_MO_carried.cls ≠ "java/lang/invoke/MethodHandle" ∧ y_MO_carried.cls ≠ "java/lang/invoke/VarHandle" ∧ (parseMethodDescriptor y_MO_carried.desc).map (fun d => d.parameters.length) = some 1 := by decide +kernel
theorem ht_MO_carried : y_MO_carried.cls ≠ "java/lang/invoke/MethodHandle" ∧ y_MO_carried.cls ≠ "java/lang/invoke/VarHandle" ∧ (parseMethodDescriptor y_MO_carried.desc).map (fun d => d.parameters.length) = some 1 := hs_MO_carried.2
abbrev b_MO_need : ByteArray := prog_8_method_35_code
def y_MO_need : MethodName := ⟨R_MO, "need", "(I)I"⟩
abbrev ws_MO_need : List Cond := .code y_MO_need b_MO_need 2 (some .int) :: gt
theorem hs_MO_need : y_MO_need.cls = R_MO ∧ y_MO_need.cls ≠ "java/lang/invoke/MethodHandle" ∧ y_MO_need.cls ≠ "java/lang/invoke/VarHandle" ∧ (parseMethodDescriptor y_MO_need.desc).map (fun d => d.parameters.length) = some 1 := by decide +kernel
theorem ht_MO_need : y_MO_need.cls ≠ "java/lang/invoke/MethodHandle" ∧ y_MO_need.cls ≠ "java/lang/invoke/VarHandle" ∧ (parseMethodDescriptor y_MO_need.desc).map (fun d => d.parameters.length) = some 1 := hs_MO_need.2
abbrev b_MO_live : ByteArray := prog_8_method_36_code
def y_MO_live : MethodName := ⟨R_MO, "live", "(I)I"⟩
abbrev ws_MO_live : List Cond := .code y_MO_live b_MO_live 2 (some .int) :: gt
theorem hs_MO_live : y_MO_live.cls = R_MO ∧ y_MO_live.cls ≠ "java/lang/invoke/MethodHandle" ∧ y_MO_live.cls ≠ "java/lang/invoke/VarHandle" ∧ (parseMethodDescriptor y_MO_live.desc).map (fun d => d.parameters.length) = some 1 := by decide +kernel
theorem ht_MO_live : y_MO_live.cls ≠ "java/lang/invoke/MethodHandle" ∧ y_MO_live.cls ≠ "java/lang/invoke/VarHandle" ∧ (parseMethodDescriptor y_MO_live.desc).map (fun d => d.parameters.length) = some 1 := hs_MO_live.2
abbrev b_MO_stores : ByteArray := prog_8_method_37_code
def y_MO_stores : MethodName := ⟨R_MO, "stores", "()I"⟩
abbrev ws_MO_stores : List Cond := .code y_MO_stores b_MO_stores 3 (some .int) :: gt
theorem hs_MO_stores : y_MO_stores.cls = R_MO ∧ y_MO_stores.cls ≠ "java/lang/invoke/MethodHandle" ∧ y_MO_stores.cls ≠ "java/lang/invoke/VarHandle" ∧ (parseMethodDescriptor y_MO_stores.desc).map (fun d => d.parameters.length) = some 0 := by decide +kernel
theorem ht_MO_stores : y_MO_stores.cls ≠ "java/lang/invoke/MethodHandle" ∧ y_MO_stores.cls ≠ "java/lang/invoke/VarHandle" ∧ (parseMethodDescriptor y_MO_stores.desc).map (fun d => d.parameters.length) = some 0 := hs_MO_stores.2
abbrev b_MO_depth : ByteArray := prog_8_method_38_code
def y_MO_depth : MethodName := ⟨R_MO, "depth", "()I"⟩
abbrev ws_MO_depth : List Cond := .code y_MO_depth b_MO_depth 3 (some .int) :: gt
theorem hs_MO_depth : y_MO_depth.cls = R_MO ∧ y_MO_depth.cls ≠ "java/lang/invoke/MethodHandle" ∧ y_MO_depth.cls ≠ "java/lang/invoke/VarHandle" ∧ (parseMethodDescriptor y_MO_depth.desc).map (fun d => d.parameters.length) = some 0 := by decide +kernel
theorem ht_MO_depth : y_MO_depth.cls ≠ "java/lang/invoke/MethodHandle" ∧ y_MO_depth.cls ≠ "java/lang/invoke/VarHandle" ∧ (parseMethodDescriptor y_MO_depth.desc).map (fun d => d.parameters.length) = some 0 := hs_MO_depth.2
abbrev b_MO_print : ByteArray := prog_8_method_39_code
def y_MO_print : MethodName := ⟨R_MO, "print", "(I)V"⟩
abbrev ws_MO_print : List Cond := .code y_MO_print b_MO_print 2 none :: gt
theorem hs_MO_print : y_MO_print.cls = R_MO ∧ y_MO_print.cls ≠ "java/lang/invoke/MethodHandle" ∧ y_MO_print.cls ≠ "java/lang/invoke/VarHandle" ∧ (parseMethodDescriptor y_MO_print.desc).map (fun d => d.parameters.length) = some 1 := by decide +kernel
theorem ht_MO_print : y_MO_print.cls ≠ "java/lang/invoke/MethodHandle" ∧ y_MO_print.cls ≠ "java/lang/invoke/VarHandle" ∧ (parseMethodDescriptor y_MO_print.desc).map (fun d => d.parameters.length) = some 1 := hs_MO_print.2
abbrev b_MO_combine : ByteArray := prog_8_method_40_code
def y_MO_combine : MethodName := ⟨R_MO, "combine", "(III)I"⟩
abbrev ws_MO_combine : List Cond := .code y_MO_combine b_MO_combine 3 (some .int) :: gt
theorem hs_MO_combine : y_MO_combine.cls = R_MO ∧ y_MO_combine.cls ≠ "java/lang/invoke/MethodHandle" ∧ y_MO_combine.cls ≠ "java/lang/invoke/VarHandle" ∧ (parseMethodDescriptor y_MO_combine.desc).map (fun d => d.parameters.length) = some 3 := by decide +kernel
theorem ht_MO_combine : y_MO_combine.cls ≠ "java/lang/invoke/MethodHandle" ∧ y_MO_combine.cls ≠ "java/lang/invoke/VarHandle" ∧ (parseMethodDescriptor y_MO_combine.desc).map (fun d => d.parameters.length) = some 3 := hs_MO_combine.2
abbrev b_MO_instruct : ByteArray := prog_8_method_41_code
def y_MO_instruct : MethodName := ⟨R_MO, "instruct", "(I)I"⟩
abbrev ws_MO_instruct : List Cond := .code y_MO_instruct b_MO_instruct 5 (some .int) :: gt
theorem hs_MO_instruct : y_MO_instruct.cls = R_MO ∧ y_MO_instruct.cls ≠ "java/lang/invoke/MethodHandle" ∧ y_MO_instruct.cls ≠ "java/lang/invoke/VarHandle" ∧ (parseMethodDescriptor y_MO_instruct.desc).map (fun d => d.parameters.length) = some 1 := by decide +kernel
theorem ht_MO_instruct : y_MO_instruct.cls ≠ "java/lang/invoke/MethodHandle" ∧ y_MO_instruct.cls ≠ "java/lang/invoke/VarHandle" ∧ (parseMethodDescriptor y_MO_instruct.desc).map (fun d => d.parameters.length) = some 1 := hs_MO_instruct.2
abbrev b_MO_runRegisters : ByteArray := prog_8_method_42_code
def y_MO_runRegisters : MethodName := ⟨R_MO, "runRegisters", "()V"⟩
abbrev ws_MO_runRegisters : List Cond := .code y_MO_runRegisters b_MO_runRegisters 2 none :: gt
theorem hs_MO_runRegisters : y_MO_runRegisters.cls = R_MO ∧ y_MO_runRegisters.cls ≠ "java/lang/invoke/MethodHandle" ∧ y_MO_runRegisters.cls ≠ "java/lang/invoke/VarHandle" ∧ (parseMethodDescriptor y_MO_runRegisters.desc).map (fun d => d.parameters.length) = some 0 := by decide +kernel
theorem ht_MO_runRegisters : y_MO_runRegisters.cls ≠ "java/lang/invoke/MethodHandle" ∧ y_MO_runRegisters.cls ≠ "java/lang/invoke/VarHandle" ∧ (parseMethodDescriptor y_MO_runRegisters.desc).map (fun d => d.parameters.length) = some 0 := hs_MO_runRegisters.2
abbrev b_MO_runStack : ByteArray := prog_8_method_43_code
def y_MO_runStack : MethodName := ⟨R_MO, "runStack", "()V"⟩
abbrev ws_MO_runStack : List Cond := .code y_MO_runStack b_MO_runStack 7 none :: gt
theorem hs_MO_runStack : y_MO_runStack.cls = R_MO ∧ y_MO_runStack.cls ≠ "java/lang/invoke/MethodHandle" ∧ y_MO_runStack.cls ≠ "java/lang/invoke/VarHandle" ∧ (parseMethodDescriptor y_MO_runStack.desc).map (fun d => d.parameters.length) = some 0 := by decide +kernel
theorem ht_MO_runStack : y_MO_runStack.cls ≠ "java/lang/invoke/MethodHandle" ∧ y_MO_runStack.cls ≠ "java/lang/invoke/VarHandle" ∧ (parseMethodDescriptor y_MO_runStack.desc).map (fun d => d.parameters.length) = some 0 := hs_MO_runStack.2
abbrev b_MO_run : ByteArray := prog_8_method_44_code
def y_MO_run : MethodName := ⟨R_MO, "run", "(I)I"⟩
abbrev ws_MO_run : List Cond := .code y_MO_run b_MO_run 3 (some .int) :: gt
theorem hs_MO_run : y_MO_run.cls = R_MO ∧ y_MO_run.cls ≠ "java/lang/invoke/MethodHandle" ∧ y_MO_run.cls ≠ "java/lang/invoke/VarHandle" ∧ (parseMethodDescriptor y_MO_run.desc).map (fun d => d.parameters.length) = some 1 := by decide +kernel
theorem ht_MO_run : y_MO_run.cls ≠ "java/lang/invoke/MethodHandle" ∧ y_MO_run.cls ≠ "java/lang/invoke/VarHandle" ∧ (parseMethodDescriptor y_MO_run.desc).map (fun d => d.parameters.length) = some 1 := hs_MO_run.2
abbrev b_MO_out : ByteArray := prog_8_method_45_code
def y_MO_out : MethodName := ⟨R_MO, "out", "(I)I"⟩
abbrev ws_MO_out : List Cond := .code y_MO_out b_MO_out 2 (some .int) :: gt
theorem hs_MO_out : y_MO_out.cls = R_MO ∧ y_MO_out.cls ≠ "java/lang/invoke/MethodHandle" ∧ y_MO_out.cls ≠ "java/lang/invoke/VarHandle" ∧ (parseMethodDescriptor y_MO_out.desc).map (fun d => d.parameters.length) = some 1 := by decide +kernel
theorem ht_MO_out : y_MO_out.cls ≠ "java/lang/invoke/MethodHandle" ∧ y_MO_out.cls ≠ "java/lang/invoke/VarHandle" ∧ (parseMethodDescriptor y_MO_out.desc).map (fun d => d.parameters.length) = some 1 := hs_MO_out.2
abbrev b_MO_steps : ByteArray := prog_8_method_46_code
def y_MO_steps : MethodName := ⟨R_MO, "steps", "()I"⟩
abbrev ws_MO_steps : List Cond := .code y_MO_steps b_MO_steps 1 (some .int) :: gt
theorem hs_MO_steps : y_MO_steps.cls = R_MO ∧ y_MO_steps.cls ≠ "java/lang/invoke/MethodHandle" ∧ y_MO_steps.cls ≠ "java/lang/invoke/VarHandle" ∧ (parseMethodDescriptor y_MO_steps.desc).map (fun d => d.parameters.length) = some 0 := by decide +kernel
theorem ht_MO_steps : y_MO_steps.cls ≠ "java/lang/invoke/MethodHandle" ∧ y_MO_steps.cls ≠ "java/lang/invoke/VarHandle" ∧ (parseMethodDescriptor y_MO_steps.desc).map (fun d => d.parameters.length) = some 0 := hs_MO_steps.2
abbrev b_MO_cell : ByteArray := prog_8_method_47_code
def y_MO_cell : MethodName := ⟨R_MO, "cell", "(I)I"⟩
abbrev ws_MO_cell : List Cond := .code y_MO_cell b_MO_cell 2 (some .int) :: gt
theorem hs_MO_cell : y_MO_cell.cls = R_MO ∧ y_MO_cell.cls ≠ "java/lang/invoke/MethodHandle" ∧ y_MO_cell.cls ≠ "java/lang/invoke/VarHandle" ∧ (parseMethodDescriptor y_MO_cell.desc).map (fun d => d.parameters.length) = some 1 := by decide +kernel
theorem ht_MO_cell : y_MO_cell.cls ≠ "java/lang/invoke/MethodHandle" ∧ y_MO_cell.cls ≠ "java/lang/invoke/VarHandle" ∧ (parseMethodDescriptor y_MO_cell.desc).map (fun d => d.parameters.length) = some 1 := hs_MO_cell.2
