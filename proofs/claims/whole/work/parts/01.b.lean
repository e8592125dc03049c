def F_D : u_T := fun k => match k with
  | 0 => ("DecodeTests", "bits", "I", true)
  | 1 => ("DecodeTests", "encodings", "LDecodeTests$Encodings;", true)
  | 2 => ("DecodeTests", "tables", "LDecodeTests$Tables;", true)
  | 3 => ("DecodeTests", "tree", "LDecodeTests$Tree;", true)
  | 4 => ("DecodeTests", "kept", "LDecodeTests$Kept;", true)
  | 5 => ("DecodeTests", "waiting", "LDecodeTests$Waiting;", true)
  | 6 => ("DecodeTests", "treeKind", "I", false)
  | 7 => ("DecodeTests", "hits", "I", false)
  | 8 => ("DecodeTests", "byTree", "I", false)
  | 9 => ("DecodeTests", "testsDone", "I", false)
  | _ => ("DecodeTests", "taken", "I", false)
def ft_D : Nat → FieldType := fun k => match k with
  | 0 => .int
  | 1 => .object "DecodeTests$Encodings"
  | 2 => .object "DecodeTests$Tables"
  | 3 => .object "DecodeTests$Tree"
  | 4 => .object "DecodeTests$Kept"
  | 5 => .object "DecodeTests$Waiting"
  | 6 => .int
  | 7 => .int
  | 8 => .int
  | 9 => .int
  | _ => .int
abbrev w_D : List Cond := u_ws "DecodeTests" F_D 11
theorem n_D : ∀ a, a < 11 → ∀ b, b < 11 → a ≠ b → (F_D a).2.1 ≠ (F_D b).2.1 := by decide +kernel
theorem ft_D_ok : ∀ k, k < 11 → parseFieldDescriptor (F_D k).2.2.1 = some (ft_D k) := by decide +kernel
theorem hin_D : ∀ w ∈ w_D, w ∈ zz_T := by decide +kernel
def F_E : u_T := fun k => match k with
  | 0 => ("DecodeTests$Encodings", "words", "I", true)
  | 1 => ("DecodeTests$Encodings", "masks", "[I", true)
  | 2 => ("DecodeTests$Encodings", "values", "[I", true)
  | 3 => ("DecodeTests$Encodings", "lengths", "[I", true)
  | 4 => ("DecodeTests$Encodings", "conditions", "[I", true)
  | 5 => ("DecodeTests$Encodings", "lists", "[I", true)
  | 6 => ("DecodeTests$Encodings", "unconditional", "I", false)
  | _ => ("DecodeTests$Encodings", "size", "I", false)
def ft_E : Nat → FieldType := fun k => match k with
  | 0 => .int
  | 1 => .array .int
  | 2 => .array .int
  | 3 => .array .int
  | 4 => .array .int
  | 5 => .array .int
  | 6 => .int
  | _ => .int
abbrev w_E : List Cond := u_ws "DecodeTests$Encodings" F_E 8
theorem n_E : ∀ a, a < 8 → ∀ b, b < 8 → a ≠ b → (F_E a).2.1 ≠ (F_E b).2.1 := by decide +kernel
theorem ft_E_ok : ∀ k, k < 8 → parseFieldDescriptor (F_E k).2.2.1 = some (ft_E k) := by decide +kernel
theorem hin_E : ∀ w ∈ w_E, w ∈ zz_T := by decide +kernel
def F_K : u_T := fun k => match k with
  | 0 => ("DecodeTests$Kept", "words", "[I", true)
  | 1 => ("DecodeTests$Kept", "flagBytes", "[I", true)
  | 2 => ("DecodeTests$Kept", "answers", "[I", true)
  | _ => ("DecodeTests$Kept", "size", "I", false)
def ft_K : Nat → FieldType := fun k => match k with
  | 0 => .array .int
  | 1 => .array .int
  | 2 => .array .int
  | _ => .int
abbrev w_K : List Cond := u_ws "DecodeTests$Kept" F_K 4
theorem n_K : ∀ a, a < 4 → ∀ b, b < 4 → a ≠ b → (F_K a).2.1 ≠ (F_K b).2.1 := by decide +kernel
theorem ft_K_ok : ∀ k, k < 4 → parseFieldDescriptor (F_K k).2.2.1 = some (ft_K k) := by decide +kernel
theorem hin_K : ∀ w ∈ w_K, w ∈ zz_T := by decide +kernel
def F_T : u_T := fun k => match k with
  | 0 => ("DecodeTests$Tables", "bits", "I", true)
  | 1 => ("DecodeTests$Tables", "groups", "I", true)
  | 2 => ("DecodeTests$Tables", "common", "[I", true)
  | 3 => ("DecodeTests$Tables", "worst", "[I", true)
  | 4 => ("DecodeTests$Tables", "together", "[I", true)
  | _ => ("DecodeTests$Tables", "current", "Z", false)
def ft_T : Nat → FieldType := fun k => match k with
  | 0 => .int
  | 1 => .int
  | 2 => .array .int
  | 3 => .array .int
  | 4 => .array .int
  | _ => .boolean
abbrev w_T : List Cond := u_ws "DecodeTests$Tables" F_T 6
theorem n_T : ∀ a, a < 6 → ∀ b, b < 6 → a ≠ b → (F_T a).2.1 ≠ (F_T b).2.1 := by decide +kernel
theorem ft_T_ok : ∀ k, k < 6 → parseFieldDescriptor (F_T k).2.2.1 = some (ft_T k) := by decide +kernel
theorem hin_T : ∀ w ∈ w_T, w ∈ zz_T := by decide +kernel
def F_R : u_T := fun k => match k with
  | 0 => ("DecodeTests$Tree", "bits", "I", true)
  | 1 => ("DecodeTests$Tree", "tested", "[I", true)
  | 2 => ("DecodeTests$Tree", "zeros", "[I", true)
  | 3 => ("DecodeTests$Tree", "ones", "[I", true)
  | 4 => ("DecodeTests$Tree", "depths", "[I", true)
  | 5 => ("DecodeTests$Tree", "lists", "[I", true)
  | 6 => ("DecodeTests$Tree", "size", "I", false)
  | _ => ("DecodeTests$Tree", "leaves", "I", false)
def ft_R : Nat → FieldType := fun k => match k with
  | 0 => .int
  | 1 => .array .int
  | 2 => .array .int
  | 3 => .array .int
  | 4 => .array .int
  | 5 => .array .int
  | 6 => .int
  | _ => .int
abbrev w_R : List Cond := u_ws "DecodeTests$Tree" F_R 8
theorem n_R : ∀ a, a < 8 → ∀ b, b < 8 → a ≠ b → (F_R a).2.1 ≠ (F_R b).2.1 := by decide +kernel
theorem ft_R_ok : ∀ k, k < 8 → parseFieldDescriptor (F_R k).2.2.1 = some (ft_R k) := by decide +kernel
theorem hin_R : ∀ w ∈ w_R, w ∈ zz_T := by decide +kernel
def F_W : u_T := fun k => match k with
  | 0 => ("DecodeTests$Waiting", "ring", "[I", true)
  | 1 => ("DecodeTests$Waiting", "start", "I", false)
  | _ => ("DecodeTests$Waiting", "size", "I", false)
def ft_W : Nat → FieldType := fun k => match k with
  | 0 => .array .int
  | 1 => .int
  | _ => .int
abbrev w_W : List Cond := u_ws "DecodeTests$Waiting" F_W 3
theorem n_W : ∀ a, a < 3 → ∀ b, b < 3 → a ≠ b → (F_W a).2.1 ≠ (F_W b).2.1 := by decide +kernel
theorem ft_W_ok : ∀ k, k < 3 → parseFieldDescriptor (F_W k).2.2.1 = some (ft_W k) := by decide +kernel
theorem hin_W : ∀ w ∈ w_W, w ∈ zz_T := by decide +kernel
def F_M : u_T := fun k => match k with
  | 0 => ("DecodeTestsModel", "thrown", "I", false)
  | 1 => ("DecodeTestsModel", "width", "I", true)
  | 2 => ("DecodeTestsModel", "encodings", "I", false)
  | 3 => ("DecodeTestsModel", "kind", "I", false)
  | 4 => ("DecodeTestsModel", "mask", "[I", true)
  | 5 => ("DecodeTestsModel", "value", "[I", true)
  | 6 => ("DecodeTestsModel", "length", "[I", true)
  | 7 => ("DecodeTestsModel", "flag", "[I", true)
  | 8 => ("DecodeTestsModel", "alike", "[I", true)
  | 9 => ("DecodeTestsModel", "listSize", "[I", true)
  | 10 => ("DecodeTestsModel", "list", "[I", true)
  | 11 => ("DecodeTestsModel", "one", "[I", true)
  | 12 => ("DecodeTestsModel", "many", "[I", true)
  | 13 => ("DecodeTestsModel", "bit", "[I", true)
  | 14 => ("DecodeTestsModel", "worst", "[I", true)
  | 15 => ("DecodeTestsModel", "together", "[I", true)
  | 16 => ("DecodeTestsModel", "unit", "[I", true)
  | 17 => ("DecodeTestsModel", "nodes", "I", false)
  | 18 => ("DecodeTestsModel", "set", "[I", true)
  | 19 => ("DecodeTestsModel", "zero", "[I", true)
  | 20 => ("DecodeTestsModel", "ones", "[I", true)
  | 21 => ("DecodeTestsModel", "waiting", "[I", true)
  | 22 => ("DecodeTestsModel", "parent", "[I", true)
  | 23 => ("DecodeTestsModel", "stream", "I", false)
  | 24 => ("DecodeTestsModel", "word", "[I", true)
  | 25 => ("DecodeTestsModel", "hits", "I", false)
  | 26 => ("DecodeTestsModel", "byTree", "I", false)
  | 27 => ("DecodeTestsModel", "tests", "I", false)
  | 28 => ("DecodeTestsModel", "taken", "I", false)
  | 29 => ("DecodeTestsModel", "rowWord", "[I", true)
  | 30 => ("DecodeTestsModel", "rowFlags", "[I", true)
  | _ => ("DecodeTestsModel", "rowAnswer", "[I", true)
def ft_M : Nat → FieldType := fun k => match k with
  | 0 => .int
  | 1 => .int
  | 2 => .int
  | 3 => .int
  | 4 => .array .int
  | 5 => .array .int
  | 6 => .array .int
  | 7 => .array .int
  | 8 => .array .int
  | 9 => .array .int
  | 10 => .array .int
  | 11 => .array .int
  | 12 => .array .int
  | 13 => .array .int
  | 14 => .array .int
  | 15 => .array .int
  | 16 => .array .int
  | 17 => .int
  | 18 => .array .int
  | 19 => .array .int
  | 20 => .array .int
  | 21 => .array .int
  | 22 => .array .int
  | 23 => .int
  | 24 => .array .int
  | 25 => .int
  | 26 => .int
  | 27 => .int
  | 28 => .int
  | 29 => .array .int
  | 30 => .array .int
  | _ => .array .int
abbrev w_M : List Cond := u_ws "DecodeTestsModel" F_M 32
theorem n_M : ∀ a, a < 32 → ∀ b, b < 32 → a ≠ b → (F_M a).2.1 ≠ (F_M b).2.1 := by decide +kernel
theorem ft_M_ok : ∀ k, k < 32 → parseFieldDescriptor (F_M k).2.2.1 = some (ft_M k) := by decide +kernel
theorem hin_M : ∀ w ∈ w_M, w ∈ zz_T := by decide +kernel
abbrev vwCl : List vw_C := [("DecodeTests", F_D, 11), ("DecodeTests$Encodings", F_E, 8), ("DecodeTests$Kept", F_K, 4), ("DecodeTests$Tables", F_T, 6), ("DecodeTests$Tree", F_R, 8), ("DecodeTests$Waiting", F_W, 3), ("DecodeTestsModel", F_M, 32)]
abbrev b_D_init : ByteArray := prog_1_method_1_code
abbrev y_D_init : MethodName := ⟨"DecodeTests", "<init>", "(I)V"⟩
def ws_D_init : List Cond := .code y_D_init b_D_init 2 none :: zz_T
theorem q_c_D_init : Cond.code y_D_init b_D_init 2 none ∈ zz_T := zz_inT (zz_in1 (List.mem_of_getElem? (i := 21) rfl)) rfl
theorem q_i_D_init : Cond.instanceMethod y_D_init ∈ zz_T := zz_inT (zz_in1 (List.mem_of_getElem? (i := 20) rfl)) rfl
theorem k_D_init : y_D_init.cls = "DecodeTests" ∧ y_D_init.cls ≠ "java/lang/invoke/MethodHandle" ∧ y_D_init.cls ≠ "java/lang/invoke/VarHandle" ∧ (parseMethodDescriptor y_D_init.desc).map (fun d => d.parameters.length) = some 1 := by decide +kernel
abbrev b_D_encoding : ByteArray := prog_1_method_2_code
abbrev y_D_encoding : MethodName := ⟨"DecodeTests", "encoding", "(IIII)I"⟩
def ws_D_encoding : List Cond := .code y_D_encoding b_D_encoding 6 (some .int) :: zz_T
theorem q_c_D_encoding : Cond.code y_D_encoding b_D_encoding 6 (some .int) ∈ zz_T := zz_inT (zz_in2 (List.mem_of_getElem? (i := 82) rfl)) rfl
theorem q_i_D_encoding : Cond.instanceMethod y_D_encoding ∈ zz_T := zz_inT (zz_in2 (List.mem_of_getElem? (i := 80) rfl)) rfl
theorem q_sel_D_encoding : Cond.selects "DecodeTests" y_D_encoding y_D_encoding ∈ zz_T := zz_inT (zz_in2 (List.mem_of_getElem? (i := 81) rfl)) rfl
theorem k_D_encoding : y_D_encoding.cls = "DecodeTests" ∧ y_D_encoding.cls ≠ "java/lang/invoke/MethodHandle" ∧ y_D_encoding.cls ≠ "java/lang/invoke/VarHandle" ∧ (parseMethodDescriptor y_D_encoding.desc).map (fun d => d.parameters.length) = some 4 := by decide +kernel
abbrev b_D_kind : ByteArray := prog_1_method_3_code
abbrev y_D_kind : MethodName := ⟨"DecodeTests", "kind", "(I)I"⟩
def ws_D_kind : List Cond := .code y_D_kind b_D_kind 3 (some .int) :: zz_T
theorem q_c_D_kind : Cond.code y_D_kind b_D_kind 3 (some .int) ∈ zz_T := zz_inT (zz_in2 (List.mem_of_getElem? (i := 201) rfl)) rfl
theorem q_i_D_kind : Cond.instanceMethod y_D_kind ∈ zz_T := zz_inT (zz_in2 (List.mem_of_getElem? (i := 199) rfl)) rfl
theorem q_sel_D_kind : Cond.selects "DecodeTests" y_D_kind y_D_kind ∈ zz_T := zz_inT (zz_in2 (List.mem_of_getElem? (i := 200) rfl)) rfl
theorem k_D_kind : y_D_kind.cls = "DecodeTests" ∧ y_D_kind.cls ≠ "java/lang/invoke/MethodHandle" ∧ y_D_kind.cls ≠ "java/lang/invoke/VarHandle" ∧ (parseMethodDescriptor y_D_kind.desc).map (fun d => d.parameters.length) = some 1 := by decide +kernel
abbrev b_D_tried : ByteArray := prog_1_method_4_code
abbrev y_D_tried : MethodName := ⟨"DecodeTests", "tried", "(II)I"⟩
def ws_D_tried : List Cond := .code y_D_tried b_D_tried 3 (some .int) :: zz_T
theorem q_c_D_tried : Cond.code y_D_tried b_D_tried 3 (some .int) ∈ zz_T := zz_inT (zz_in2 (List.mem_of_getElem? (i := 212) rfl)) rfl
theorem q_i_D_tried : Cond.instanceMethod y_D_tried ∈ zz_T := zz_inT (zz_in2 (List.mem_of_getElem? (i := 210) rfl)) rfl
theorem q_sel_D_tried : Cond.selects "DecodeTests" y_D_tried y_D_tried ∈ zz_T := zz_inT (zz_in2 (List.mem_of_getElem? (i := 211) rfl)) rfl
theorem k_D_tried : y_D_tried.cls = "DecodeTests" ∧ y_D_tried.cls ≠ "java/lang/invoke/MethodHandle" ∧ y_D_tried.cls ≠ "java/lang/invoke/VarHandle" ∧ (parseMethodDescriptor y_D_tried.desc).map (fun d => d.parameters.length) = some 2 := by decide +kernel
abbrev b_D_decode : ByteArray := prog_1_method_5_code
abbrev y_D_decode : MethodName := ⟨"DecodeTests", "decode", "(II)I"⟩
def ws_D_decode : List Cond := .code y_D_decode b_D_decode 3 (some .int) :: zz_T
theorem q_c_D_decode : Cond.code y_D_decode b_D_decode 3 (some .int) ∈ zz_T := zz_inT (zz_in2 (List.mem_of_getElem? (i := 231) rfl)) rfl
theorem q_i_D_decode : Cond.instanceMethod y_D_decode ∈ zz_T := zz_inT (zz_in2 (List.mem_of_getElem? (i := 229) rfl)) rfl
theorem q_sel_D_decode : Cond.selects "DecodeTests" y_D_decode y_D_decode ∈ zz_T := zz_inT (zz_in2 (List.mem_of_getElem? (i := 230) rfl)) rfl
theorem k_D_decode : y_D_decode.cls = "DecodeTests" ∧ y_D_decode.cls ≠ "java/lang/invoke/MethodHandle" ∧ y_D_decode.cls ≠ "java/lang/invoke/VarHandle" ∧ (parseMethodDescriptor y_D_decode.desc).map (fun d => d.parameters.length) = some 2 := by decide +kernel
abbrev b_D_tests : ByteArray := prog_1_method_6_code
abbrev y_D_tests : MethodName := ⟨"DecodeTests", "tests", "(I)I"⟩
def ws_D_tests : List Cond := .code y_D_tests b_D_tests 3 (some .int) :: zz_T
theorem q_c_D_tests : Cond.code y_D_tests b_D_tests 3 (some .int) ∈ zz_T := zz_inT (zz_in3 (List.mem_of_getElem? (i := 37) rfl)) rfl
theorem q_i_D_tests : Cond.instanceMethod y_D_tests ∈ zz_T := zz_inT (zz_in3 (List.mem_of_getElem? (i := 35) rfl)) rfl
theorem q_sel_D_tests : Cond.selects "DecodeTests" y_D_tests y_D_tests ∈ zz_T := zz_inT (zz_in3 (List.mem_of_getElem? (i := 36) rfl)) rfl
theorem k_D_tests : y_D_tests.cls = "DecodeTests" ∧ y_D_tests.cls ≠ "java/lang/invoke/MethodHandle" ∧ y_D_tests.cls ≠ "java/lang/invoke/VarHandle" ∧ (parseMethodDescriptor y_D_tests.desc).map (fun d => d.parameters.length) = some 1 := by decide +kernel
abbrev b_D_node : ByteArray := prog_1_method_7_code
abbrev y_D_node : MethodName := ⟨"DecodeTests", "node", "(II)I"⟩
def ws_D_node : List Cond := .code y_D_node b_D_node 4 (some .int) :: zz_T
theorem q_c_D_node : Cond.code y_D_node b_D_node 4 (some .int) ∈ zz_T := zz_inT (zz_in3 (List.mem_of_getElem? (i := 46) rfl)) rfl
theorem q_i_D_node : Cond.instanceMethod y_D_node ∈ zz_T := zz_inT (zz_in3 (List.mem_of_getElem? (i := 44) rfl)) rfl
theorem q_sel_D_node : Cond.selects "DecodeTests" y_D_node y_D_node ∈ zz_T := zz_inT (zz_in3 (List.mem_of_getElem? (i := 45) rfl)) rfl
theorem k_D_node : y_D_node.cls = "DecodeTests" ∧ y_D_node.cls ≠ "java/lang/invoke/MethodHandle" ∧ y_D_node.cls ≠ "java/lang/invoke/VarHandle" ∧ (parseMethodDescriptor y_D_node.desc).map (fun d => d.parameters.length) = some 2 := by decide +kernel
abbrev b_D_listed : ByteArray := prog_1_method_8_code
abbrev y_D_listed : MethodName := ⟨"DecodeTests", "listed", "(II)I"⟩
def ws_D_listed : List Cond := .code y_D_listed b_D_listed 5 (some .int) :: zz_T
theorem q_c_D_listed : Cond.code y_D_listed b_D_listed 5 (some .int) ∈ zz_T := zz_inT (zz_in3 (List.mem_of_getElem? (i := 84) rfl)) rfl
theorem q_i_D_listed : Cond.instanceMethod y_D_listed ∈ zz_T := zz_inT (zz_in3 (List.mem_of_getElem? (i := 82) rfl)) rfl
theorem q_sel_D_listed : Cond.selects "DecodeTests" y_D_listed y_D_listed ∈ zz_T := zz_inT (zz_in3 (List.mem_of_getElem? (i := 83) rfl)) rfl
theorem k_D_listed : y_D_listed.cls = "DecodeTests" ∧ y_D_listed.cls ≠ "java/lang/invoke/MethodHandle" ∧ y_D_listed.cls ≠ "java/lang/invoke/VarHandle" ∧ (parseMethodDescriptor y_D_listed.desc).map (fun d => d.parameters.length) = some 2 := by decide +kernel
abbrev b_D_cost : ByteArray := prog_1_method_9_code
abbrev y_D_cost : MethodName := ⟨"DecodeTests", "cost", "(II)I"⟩
def ws_D_cost : List Cond := .code y_D_cost b_D_cost 3 (some .int) :: zz_T
theorem q_c_D_cost : Cond.code y_D_cost b_D_cost 3 (some .int) ∈ zz_T := zz_inT (zz_in3 (List.mem_of_getElem? (i := 95) rfl)) rfl
theorem q_i_D_cost : Cond.instanceMethod y_D_cost ∈ zz_T := zz_inT (zz_in3 (List.mem_of_getElem? (i := 93) rfl)) rfl
theorem q_sel_D_cost : Cond.selects "DecodeTests" y_D_cost y_D_cost ∈ zz_T := zz_inT (zz_in3 (List.mem_of_getElem? (i := 94) rfl)) rfl
theorem k_D_cost : y_D_cost.cls = "DecodeTests" ∧ y_D_cost.cls ≠ "java/lang/invoke/MethodHandle" ∧ y_D_cost.cls ≠ "java/lang/invoke/VarHandle" ∧ (parseMethodDescriptor y_D_cost.desc).map (fun d => d.parameters.length) = some 2 := by decide +kernel
abbrev b_D_feed : ByteArray := prog_1_method_10_code
abbrev y_D_feed : MethodName := ⟨"DecodeTests", "feed", "(I)I"⟩
def ws_D_feed : List Cond := .code y_D_feed b_D_feed 2 (some .int) :: zz_T
theorem q_c_D_feed : Cond.code y_D_feed b_D_feed 2 (some .int) ∈ zz_T := zz_inT (zz_in3 (List.mem_of_getElem? (i := 119) rfl)) rfl
theorem q_i_D_feed : Cond.instanceMethod y_D_feed ∈ zz_T := zz_inT (zz_in3 (List.mem_of_getElem? (i := 117) rfl)) rfl
theorem q_sel_D_feed : Cond.selects "DecodeTests" y_D_feed y_D_feed ∈ zz_T := zz_inT (zz_in3 (List.mem_of_getElem? (i := 118) rfl)) rfl
theorem k_D_feed : y_D_feed.cls = "DecodeTests" ∧ y_D_feed.cls ≠ "java/lang/invoke/MethodHandle" ∧ y_D_feed.cls ≠ "java/lang/invoke/VarHandle" ∧ (parseMethodDescriptor y_D_feed.desc).map (fun d => d.parameters.length) = some 1 := by decide +kernel
abbrev b_D_take : ByteArray := prog_1_method_11_code
abbrev y_D_take : MethodName := ⟨"DecodeTests", "take", "(I)I"⟩
def ws_D_take : List Cond := .code y_D_take b_D_take 4 (some .int) :: zz_T
theorem q_c_D_take : Cond.code y_D_take b_D_take 4 (some .int) ∈ zz_T := zz_inT (zz_in3 (List.mem_of_getElem? (i := 132) rfl)) rfl
theorem q_i_D_take : Cond.instanceMethod y_D_take ∈ zz_T := zz_inT (zz_in3 (List.mem_of_getElem? (i := 130) rfl)) rfl
theorem q_sel_D_take : Cond.selects "DecodeTests" y_D_take y_D_take ∈ zz_T := zz_inT (zz_in3 (List.mem_of_getElem? (i := 131) rfl)) rfl
theorem k_D_take : y_D_take.cls = "DecodeTests" ∧ y_D_take.cls ≠ "java/lang/invoke/MethodHandle" ∧ y_D_take.cls ≠ "java/lang/invoke/VarHandle" ∧ (parseMethodDescriptor y_D_take.desc).map (fun d => d.parameters.length) = some 1 := by decide +kernel
abbrev b_D_whole : ByteArray := prog_1_method_12_code
abbrev y_D_whole : MethodName := ⟨"DecodeTests", "whole", "()Z"⟩
def ws_D_whole : List Cond := .code y_D_whole b_D_whole 1 (some .boolean) :: zz_T
theorem q_c_D_whole : Cond.code y_D_whole b_D_whole 1 (some .boolean) ∈ zz_T := zz_inT (zz_in1 (List.mem_of_getElem? (i := 194) rfl)) rfl
theorem q_i_D_whole : Cond.instanceMethod y_D_whole ∈ zz_T := zz_inT (zz_in1 (List.mem_of_getElem? (i := 192) rfl)) rfl
theorem q_sel_D_whole : Cond.selects "DecodeTests" y_D_whole y_D_whole ∈ zz_T := zz_inT (zz_in1 (List.mem_of_getElem? (i := 193) rfl)) rfl
theorem k_D_whole : y_D_whole.cls = "DecodeTests" ∧ y_D_whole.cls ≠ "java/lang/invoke/MethodHandle" ∧ y_D_whole.cls ≠ "java/lang/invoke/VarHandle" ∧ (parseMethodDescriptor y_D_whole.desc).map (fun d => d.parameters.length) = some 0 := by decide +kernel
abbrev b_D_crosses : ByteArray := prog_1_method_13_code
abbrev y_D_crosses : MethodName := ⟨"DecodeTests", "crosses", "()Z"⟩
def ws_D_crosses : List Cond := .code y_D_crosses b_D_crosses 1 (some .boolean) :: zz_T
theorem q_c_D_crosses : Cond.code y_D_crosses b_D_crosses 1 (some .boolean) ∈ zz_T := zz_inT (zz_in1 (List.mem_of_getElem? (i := 202) rfl)) rfl
theorem q_i_D_crosses : Cond.instanceMethod y_D_crosses ∈ zz_T := zz_inT (zz_in1 (List.mem_of_getElem? (i := 200) rfl)) rfl
theorem q_sel_D_crosses : Cond.selects "DecodeTests" y_D_crosses y_D_crosses ∈ zz_T := zz_inT (zz_in1 (List.mem_of_getElem? (i := 201) rfl)) rfl
theorem k_D_crosses : y_D_crosses.cls = "DecodeTests" ∧ y_D_crosses.cls ≠ "java/lang/invoke/MethodHandle" ∧ y_D_crosses.cls ≠ "java/lang/invoke/VarHandle" ∧ (parseMethodDescriptor y_D_crosses.desc).map (fun d => d.parameters.length) = some 0 := by decide +kernel
abbrev b_D_count : ByteArray := prog_1_method_14_code
abbrev y_D_count : MethodName := ⟨"DecodeTests", "count", "(I)I"⟩
def ws_D_count : List Cond := .code y_D_count b_D_count 2 (some .int) :: zz_T
theorem q_c_D_count : Cond.code y_D_count b_D_count 2 (some .int) ∈ zz_T := zz_inT (zz_in1 (List.mem_of_getElem? (i := 218) rfl)) rfl
theorem q_i_D_count : Cond.instanceMethod y_D_count ∈ zz_T := zz_inT (zz_in1 (List.mem_of_getElem? (i := 216) rfl)) rfl
theorem q_sel_D_count : Cond.selects "DecodeTests" y_D_count y_D_count ∈ zz_T := zz_inT (zz_in1 (List.mem_of_getElem? (i := 217) rfl)) rfl
theorem k_D_count : y_D_count.cls = "DecodeTests" ∧ y_D_count.cls ≠ "java/lang/invoke/MethodHandle" ∧ y_D_count.cls ≠ "java/lang/invoke/VarHandle" ∧ (parseMethodDescriptor y_D_count.desc).map (fun d => d.parameters.length) = some 1 := by decide +kernel
abbrev b_D_isWord : ByteArray := prog_1_method_15_code
abbrev y_D_isWord : MethodName := ⟨"DecodeTests", "isWord", "(I)Z"⟩
def ws_D_isWord : List Cond := .code y_D_isWord b_D_isWord 2 (some .boolean) :: zz_T
theorem q_c_D_isWord : Cond.code y_D_isWord b_D_isWord 2 (some .boolean) ∈ zz_T := zz_inT (zz_in2 (List.mem_of_getElem? (i := 86) rfl)) rfl
theorem q_i_D_isWord : Cond.instanceMethod y_D_isWord ∈ zz_T := zz_inT (zz_in2 (List.mem_of_getElem? (i := 85) rfl)) rfl
theorem q_sel_D_isWord : Cond.selects "DecodeTests" y_D_isWord y_D_isWord ∈ zz_T := zz_inT (zz_in0 (List.mem_map.mpr ⟨(y_D_isWord, 11), by decide +kernel, rfl⟩)) rfl
theorem k_D_isWord : y_D_isWord.cls = "DecodeTests" ∧ y_D_isWord.cls ≠ "java/lang/invoke/MethodHandle" ∧ y_D_isWord.cls ≠ "java/lang/invoke/VarHandle" ∧ (parseMethodDescriptor y_D_isWord.desc).map (fun d => d.parameters.length) = some 1 := by decide +kernel
abbrev b_D_isFlags : ByteArray := prog_1_method_16_code
abbrev y_D_isFlags : MethodName := ⟨"DecodeTests", "isFlags", "(I)Z"⟩
def ws_D_isFlags : List Cond := .code y_D_isFlags b_D_isFlags 1 (some .boolean) :: zz_T
theorem q_c_D_isFlags : Cond.code y_D_isFlags b_D_isFlags 1 (some .boolean) ∈ zz_T := zz_inT (zz_in2 (List.mem_of_getElem? (i := 215) rfl)) rfl
theorem q_s_D_isFlags : Cond.static y_D_isFlags ∈ zz_T := zz_inT (zz_in2 (List.mem_of_getElem? (i := 214) rfl)) rfl
theorem k_D_isFlags : y_D_isFlags.cls = "DecodeTests" ∧ y_D_isFlags.cls ≠ "java/lang/invoke/MethodHandle" ∧ y_D_isFlags.cls ≠ "java/lang/invoke/VarHandle" ∧ (parseMethodDescriptor y_D_isFlags.desc).map (fun d => d.parameters.length) = some 1 := by decide +kernel
abbrev b_D_isKind : ByteArray := prog_1_method_17_code
abbrev y_D_isKind : MethodName := ⟨"DecodeTests", "isKind", "(I)Z"⟩
def ws_D_isKind : List Cond := .code y_D_isKind b_D_isKind 1 (some .boolean) :: zz_T
theorem q_c_D_isKind : Cond.code y_D_isKind b_D_isKind 1 (some .boolean) ∈ zz_T := zz_inT (zz_in2 (List.mem_of_getElem? (i := 204) rfl)) rfl
theorem q_s_D_isKind : Cond.static y_D_isKind ∈ zz_T := zz_inT (zz_in2 (List.mem_of_getElem? (i := 203) rfl)) rfl
theorem k_D_isKind : y_D_isKind.cls = "DecodeTests" ∧ y_D_isKind.cls ≠ "java/lang/invoke/MethodHandle" ∧ y_D_isKind.cls ≠ "java/lang/invoke/VarHandle" ∧ (parseMethodDescriptor y_D_isKind.desc).map (fun d => d.parameters.length) = some 1 := by decide +kernel
abbrev b_D_dropTree : ByteArray := prog_1_method_18_code
abbrev y_D_dropTree : MethodName := ⟨"DecodeTests", "dropTree", "()V"⟩
def ws_D_dropTree : List Cond := .code y_D_dropTree b_D_dropTree 1 none :: zz_T
theorem q_c_D_dropTree : Cond.code y_D_dropTree b_D_dropTree 1 none ∈ zz_T := zz_inT (zz_in2 (List.mem_of_getElem? (i := 192) rfl)) rfl
theorem q_i_D_dropTree : Cond.instanceMethod y_D_dropTree ∈ zz_T := zz_inT (zz_in2 (List.mem_of_getElem? (i := 191) rfl)) rfl
theorem q_sel_D_dropTree : Cond.selects "DecodeTests" y_D_dropTree y_D_dropTree ∈ zz_T := zz_inT (zz_in0 (List.mem_map.mpr ⟨(y_D_dropTree, 11), by decide +kernel, rfl⟩)) rfl
theorem k_D_dropTree : y_D_dropTree.cls = "DecodeTests" ∧ y_D_dropTree.cls ≠ "java/lang/invoke/MethodHandle" ∧ y_D_dropTree.cls ≠ "java/lang/invoke/VarHandle" ∧ (parseMethodDescriptor y_D_dropTree.desc).map (fun d => d.parameters.length) = some 0 := by decide +kernel
abbrev b_D_grownTree : ByteArray := prog_1_method_19_code
abbrev y_D_grownTree : MethodName := ⟨"DecodeTests", "grownTree", "()LDecodeTests$Tree;"⟩
def ws_D_grownTree : List Cond := .code y_D_grownTree b_D_grownTree 1 (some (.object "DecodeTests$Tree")) :: zz_T
theorem q_c_D_grownTree : Cond.code y_D_grownTree b_D_grownTree 1 (some (.object "DecodeTests$Tree")) ∈ zz_T := zz_inT (zz_in1 (List.mem_of_getElem? (i := 226) rfl)) rfl
theorem q_i_D_grownTree : Cond.instanceMethod y_D_grownTree ∈ zz_T := zz_inT (zz_in1 (List.mem_of_getElem? (i := 225) rfl)) rfl
theorem q_sel_D_grownTree : Cond.selects "DecodeTests" y_D_grownTree y_D_grownTree ∈ zz_T := zz_inT (zz_in0 (List.mem_map.mpr ⟨(y_D_grownTree, 11), by decide +kernel, rfl⟩)) rfl
theorem k_D_grownTree : y_D_grownTree.cls = "DecodeTests" ∧ y_D_grownTree.cls ≠ "java/lang/invoke/MethodHandle" ∧ y_D_grownTree.cls ≠ "java/lang/invoke/VarHandle" ∧ (parseMethodDescriptor y_D_grownTree.desc).map (fun d => d.parameters.length) = some 0 := by decide +kernel
abbrev b_D_answerFor : ByteArray := prog_1_method_20_code
abbrev y_D_answerFor : MethodName := ⟨"DecodeTests", "answerFor", "(II)I"⟩
def ws_D_answerFor : List Cond := .code y_D_answerFor b_D_answerFor 6 (some .int) :: zz_T
theorem q_c_D_answerFor : Cond.code y_D_answerFor b_D_answerFor 6 (some .int) ∈ zz_T := zz_inT (zz_in2 (List.mem_of_getElem? (i := 235) rfl)) rfl
theorem q_i_D_answerFor : Cond.instanceMethod y_D_answerFor ∈ zz_T := zz_inT (zz_in2 (List.mem_of_getElem? (i := 234) rfl)) rfl
theorem q_sel_D_answerFor : Cond.selects "DecodeTests" y_D_answerFor y_D_answerFor ∈ zz_T := zz_inT (zz_in0 (List.mem_map.mpr ⟨(y_D_answerFor, 11), by decide +kernel, rfl⟩)) rfl
theorem k_D_answerFor : y_D_answerFor.cls = "DecodeTests" ∧ y_D_answerFor.cls ≠ "java/lang/invoke/MethodHandle" ∧ y_D_answerFor.cls ≠ "java/lang/invoke/VarHandle" ∧ (parseMethodDescriptor y_D_answerFor.desc).map (fun d => d.parameters.length) = some 2 := by decide +kernel
abbrev b_M_init : ByteArray := prog_8_method_1_code
abbrev y_M_init : MethodName := ⟨"DecodeTestsModel", "<init>", "(I)V"⟩
def ws_M_init : List Cond := .code y_M_init b_M_init 2 none :: zz_T
theorem q_c_M_init : Cond.code y_M_init b_M_init 2 none ∈ zz_T := zz_inT (zz_in3 (List.mem_of_getElem? (i := 166) rfl)) rfl
theorem q_i_M_init : Cond.instanceMethod y_M_init ∈ zz_T := zz_inT (zz_in3 (List.mem_of_getElem? (i := 165) rfl)) rfl
theorem k_M_init : y_M_init.cls = "DecodeTestsModel" ∧ y_M_init.cls ≠ "java/lang/invoke/MethodHandle" ∧ y_M_init.cls ≠ "java/lang/invoke/VarHandle" ∧ (parseMethodDescriptor y_M_init.desc).map (fun d => d.parameters.length) = some 1 := by decide +kernel
abbrev b_M_thrown : ByteArray := prog_8_method_2_code
abbrev y_M_thrown : MethodName := ⟨"DecodeTestsModel", "thrown", "()I"⟩
def ws_M_thrown : List Cond := .code y_M_thrown b_M_thrown 1 (some .int) :: zz_T
theorem q_c_M_thrown : Cond.code y_M_thrown b_M_thrown 1 (some .int) ∈ zz_T := zz_inT (zz_in4 (List.mem_of_getElem? (i := 88) rfl)) rfl
theorem q_i_M_thrown : Cond.instanceMethod y_M_thrown ∈ zz_T := zz_inT (zz_in4 (List.mem_of_getElem? (i := 86) rfl)) rfl
theorem q_sel_M_thrown : Cond.selects "DecodeTestsModel" y_M_thrown y_M_thrown ∈ zz_T := zz_inT (zz_in4 (List.mem_of_getElem? (i := 87) rfl)) rfl
theorem k_M_thrown : y_M_thrown.cls = "DecodeTestsModel" ∧ y_M_thrown.cls ≠ "java/lang/invoke/MethodHandle" ∧ y_M_thrown.cls ≠ "java/lang/invoke/VarHandle" ∧ (parseMethodDescriptor y_M_thrown.desc).map (fun d => d.parameters.length) = some 0 := by decide +kernel
abbrev b_M_fail : ByteArray := prog_8_method_3_code
abbrev y_M_fail : MethodName := ⟨"DecodeTestsModel", "fail", "(I)I"⟩
def ws_M_fail : List Cond := .code y_M_fail b_M_fail 2 (some .int) :: zz_T
theorem q_c_M_fail : Cond.code y_M_fail b_M_fail 2 (some .int) ∈ zz_T := zz_inT (zz_in4 (List.mem_of_getElem? (i := 103) rfl)) rfl
theorem q_i_M_fail : Cond.instanceMethod y_M_fail ∈ zz_T := zz_inT (zz_in4 (List.mem_of_getElem? (i := 102) rfl)) rfl
theorem q_sel_M_fail : Cond.selects "DecodeTestsModel" y_M_fail y_M_fail ∈ zz_T := zz_inT (zz_in0 (List.mem_map.mpr ⟨(y_M_fail, 32), by decide +kernel, rfl⟩)) rfl
theorem k_M_fail : y_M_fail.cls = "DecodeTestsModel" ∧ y_M_fail.cls ≠ "java/lang/invoke/MethodHandle" ∧ y_M_fail.cls ≠ "java/lang/invoke/VarHandle" ∧ (parseMethodDescriptor y_M_fail.desc).map (fun d => d.parameters.length) = some 1 := by decide +kernel
abbrev b_M_within : ByteArray := prog_8_method_4_code
abbrev y_M_within : MethodName := ⟨"DecodeTestsModel", "within", "(III)Z"⟩
def ws_M_within : List Cond := .code y_M_within b_M_within 3 (some .boolean) :: zz_T
theorem q_c_M_within : Cond.code y_M_within b_M_within 3 (some .boolean) ∈ zz_T := zz_inT (zz_in4 (List.mem_of_getElem? (i := 99) rfl)) rfl
theorem q_s_M_within : Cond.static y_M_within ∈ zz_T := zz_inT (zz_in4 (List.mem_of_getElem? (i := 98) rfl)) rfl
theorem k_M_within : y_M_within.cls = "DecodeTestsModel" ∧ y_M_within.cls ≠ "java/lang/invoke/MethodHandle" ∧ y_M_within.cls ≠ "java/lang/invoke/VarHandle" ∧ (parseMethodDescriptor y_M_within.desc).map (fun d => d.parameters.length) = some 3 := by decide +kernel
abbrev b_M_isWord : ByteArray := prog_8_method_5_code
abbrev y_M_isWord : MethodName := ⟨"DecodeTestsModel", "isWord", "(I)Z"⟩
def ws_M_isWord : List Cond := .code y_M_isWord b_M_isWord 2 (some .boolean) :: zz_T
theorem q_c_M_isWord : Cond.code y_M_isWord b_M_isWord 2 (some .boolean) ∈ zz_T := zz_inT (zz_in4 (List.mem_of_getElem? (i := 96) rfl)) rfl
theorem q_i_M_isWord : Cond.instanceMethod y_M_isWord ∈ zz_T := zz_inT (zz_in4 (List.mem_of_getElem? (i := 95) rfl)) rfl
theorem q_sel_M_isWord : Cond.selects "DecodeTestsModel" y_M_isWord y_M_isWord ∈ zz_T := zz_inT (zz_in0 (List.mem_map.mpr ⟨(y_M_isWord, 32), by decide +kernel, rfl⟩)) rfl
theorem k_M_isWord : y_M_isWord.cls = "DecodeTestsModel" ∧ y_M_isWord.cls ≠ "java/lang/invoke/MethodHandle" ∧ y_M_isWord.cls ≠ "java/lang/invoke/VarHandle" ∧ (parseMethodDescriptor y_M_isWord.desc).map (fun d => d.parameters.length) = some 1 := by decide +kernel
abbrev b_M_fits : ByteArray := prog_8_method_6_code
abbrev y_M_fits : MethodName := ⟨"DecodeTestsModel", "fits", "(II)Z"⟩
def ws_M_fits : List Cond := .code y_M_fits b_M_fits 3 (some .boolean) :: zz_T
theorem q_c_M_fits : Cond.code y_M_fits b_M_fits 3 (some .boolean) ∈ zz_T := zz_inT (zz_in3 (List.mem_of_getElem? (i := 183) rfl)) rfl
theorem q_i_M_fits : Cond.instanceMethod y_M_fits ∈ zz_T := zz_inT (zz_in3 (List.mem_of_getElem? (i := 182) rfl)) rfl
theorem q_sel_M_fits : Cond.selects "DecodeTestsModel" y_M_fits y_M_fits ∈ zz_T := zz_inT (zz_in0 (List.mem_map.mpr ⟨(y_M_fits, 32), by decide +kernel, rfl⟩)) rfl
theorem k_M_fits : y_M_fits.cls = "DecodeTestsModel" ∧ y_M_fits.cls ≠ "java/lang/invoke/MethodHandle" ∧ y_M_fits.cls ≠ "java/lang/invoke/VarHandle" ∧ (parseMethodDescriptor y_M_fits.desc).map (fun d => d.parameters.length) = some 2 := by decide +kernel
abbrev b_M_makeList : ByteArray := prog_8_method_7_code
abbrev y_M_makeList : MethodName := ⟨"DecodeTestsModel", "makeList", "(I)V"⟩
def ws_M_makeList : List Cond := .code y_M_makeList b_M_makeList 5 none :: zz_T
theorem q_c_M_makeList : Cond.code y_M_makeList b_M_makeList 5 none ∈ zz_T := zz_inT (zz_in3 (List.mem_of_getElem? (i := 179) rfl)) rfl
theorem q_i_M_makeList : Cond.instanceMethod y_M_makeList ∈ zz_T := zz_inT (zz_in3 (List.mem_of_getElem? (i := 178) rfl)) rfl
theorem q_sel_M_makeList : Cond.selects "DecodeTestsModel" y_M_makeList y_M_makeList ∈ zz_T := zz_inT (zz_in0 (List.mem_map.mpr ⟨(y_M_makeList, 32), by decide +kernel, rfl⟩)) rfl
theorem k_M_makeList : y_M_makeList.cls = "DecodeTestsModel" ∧ y_M_makeList.cls ≠ "java/lang/invoke/MethodHandle" ∧ y_M_makeList.cls ≠ "java/lang/invoke/VarHandle" ∧ (parseMethodDescriptor y_M_makeList.desc).map (fun d => d.parameters.length) = some 1 := by decide +kernel
abbrev b_M_isSameList : ByteArray := prog_8_method_8_code
abbrev y_M_isSameList : MethodName := ⟨"DecodeTestsModel", "isSameList", "(II)Z"⟩
def ws_M_isSameList : List Cond := .code y_M_isSameList b_M_isSameList 5 (some .boolean) :: zz_T
theorem q_c_M_isSameList : Cond.code y_M_isSameList b_M_isSameList 5 (some .boolean) ∈ zz_T := zz_inT (zz_in3 (List.mem_of_getElem? (i := 187) rfl)) rfl
theorem q_i_M_isSameList : Cond.instanceMethod y_M_isSameList ∈ zz_T := zz_inT (zz_in3 (List.mem_of_getElem? (i := 186) rfl)) rfl
theorem q_sel_M_isSameList : Cond.selects "DecodeTestsModel" y_M_isSameList y_M_isSameList ∈ zz_T := zz_inT (zz_in0 (List.mem_map.mpr ⟨(y_M_isSameList, 32), by decide +kernel, rfl⟩)) rfl
theorem k_M_isSameList : y_M_isSameList.cls = "DecodeTestsModel" ∧ y_M_isSameList.cls ≠ "java/lang/invoke/MethodHandle" ∧ y_M_isSameList.cls ≠ "java/lang/invoke/VarHandle" ∧ (parseMethodDescriptor y_M_isSameList.desc).map (fun d => d.parameters.length) = some 2 := by decide +kernel
abbrev b_M_makeLists : ByteArray := prog_8_method_9_code
abbrev y_M_makeLists : MethodName := ⟨"DecodeTestsModel", "makeLists", "()V"⟩
def ws_M_makeLists : List Cond := .code y_M_makeLists b_M_makeLists 3 none :: zz_T
theorem q_c_M_makeLists : Cond.code y_M_makeLists b_M_makeLists 3 none ∈ zz_T := zz_inT (zz_in3 (List.mem_of_getElem? (i := 175) rfl)) rfl
theorem q_i_M_makeLists : Cond.instanceMethod y_M_makeLists ∈ zz_T := zz_inT (zz_in3 (List.mem_of_getElem? (i := 174) rfl)) rfl
theorem q_sel_M_makeLists : Cond.selects "DecodeTestsModel" y_M_makeLists y_M_makeLists ∈ zz_T := zz_inT (zz_in0 (List.mem_map.mpr ⟨(y_M_makeLists, 32), by decide +kernel, rfl⟩)) rfl
theorem k_M_makeLists : y_M_makeLists.cls = "DecodeTestsModel" ∧ y_M_makeLists.cls ≠ "java/lang/invoke/MethodHandle" ∧ y_M_makeLists.cls ≠ "java/lang/invoke/VarHandle" ∧ (parseMethodDescriptor y_M_makeLists.desc).map (fun d => d.parameters.length) = some 0 := by decide +kernel
abbrev b_M_digit : ByteArray := prog_8_method_10_code
abbrev y_M_digit : MethodName := ⟨"DecodeTestsModel", "digit", "(II)I"⟩
def ws_M_digit : List Cond := .code y_M_digit b_M_digit 3 (some .int) :: zz_T
theorem q_c_M_digit : Cond.code y_M_digit b_M_digit 3 (some .int) ∈ zz_T := zz_inT (zz_in3 (List.mem_of_getElem? (i := 199) rfl)) rfl
theorem q_i_M_digit : Cond.instanceMethod y_M_digit ∈ zz_T := zz_inT (zz_in3 (List.mem_of_getElem? (i := 198) rfl)) rfl
theorem q_sel_M_digit : Cond.selects "DecodeTestsModel" y_M_digit y_M_digit ∈ zz_T := zz_inT (zz_in0 (List.mem_map.mpr ⟨(y_M_digit, 32), by decide +kernel, rfl⟩)) rfl
theorem k_M_digit : y_M_digit.cls = "DecodeTestsModel" ∧ y_M_digit.cls ≠ "java/lang/invoke/MethodHandle" ∧ y_M_digit.cls ≠ "java/lang/invoke/VarHandle" ∧ (parseMethodDescriptor y_M_digit.desc).map (fun d => d.parameters.length) = some 2 := by decide +kernel
abbrev b_M_half : ByteArray := prog_8_method_11_code
abbrev y_M_half : MethodName := ⟨"DecodeTestsModel", "half", "(III)I"⟩
def ws_M_half : List Cond := .code y_M_half b_M_half 4 (some .int) :: zz_T
theorem q_c_M_half : Cond.code y_M_half b_M_half 4 (some .int) ∈ zz_T := zz_inT (zz_in3 (List.mem_of_getElem? (i := 211) rfl)) rfl
theorem q_i_M_half : Cond.instanceMethod y_M_half ∈ zz_T := zz_inT (zz_in3 (List.mem_of_getElem? (i := 210) rfl)) rfl
theorem q_sel_M_half : Cond.selects "DecodeTestsModel" y_M_half y_M_half ∈ zz_T := zz_inT (zz_in0 (List.mem_map.mpr ⟨(y_M_half, 32), by decide +kernel, rfl⟩)) rfl
theorem k_M_half : y_M_half.cls = "DecodeTestsModel" ∧ y_M_half.cls ≠ "java/lang/invoke/MethodHandle" ∧ y_M_half.cls ≠ "java/lang/invoke/VarHandle" ∧ (parseMethodDescriptor y_M_half.desc).map (fun d => d.parameters.length) = some 3 := by decide +kernel
abbrev b_M_hasFree : ByteArray := prog_8_method_12_code
abbrev y_M_hasFree : MethodName := ⟨"DecodeTestsModel", "hasFree", "(I)Z"⟩
def ws_M_hasFree : List Cond := .code y_M_hasFree b_M_hasFree 3 (some .boolean) :: zz_T
theorem q_c_M_hasFree : Cond.code y_M_hasFree b_M_hasFree 3 (some .boolean) ∈ zz_T := zz_inT (zz_in3 (List.mem_of_getElem? (i := 195) rfl)) rfl
theorem q_i_M_hasFree : Cond.instanceMethod y_M_hasFree ∈ zz_T := zz_inT (zz_in3 (List.mem_of_getElem? (i := 194) rfl)) rfl
theorem q_sel_M_hasFree : Cond.selects "DecodeTestsModel" y_M_hasFree y_M_hasFree ∈ zz_T := zz_inT (zz_in0 (List.mem_map.mpr ⟨(y_M_hasFree, 32), by decide +kernel, rfl⟩)) rfl
theorem k_M_hasFree : y_M_hasFree.cls = "DecodeTestsModel" ∧ y_M_hasFree.cls ≠ "java/lang/invoke/MethodHandle" ∧ y_M_hasFree.cls ≠ "java/lang/invoke/VarHandle" ∧ (parseMethodDescriptor y_M_hasFree.desc).map (fun d => d.parameters.length) = some 1 := by decide +kernel
abbrev b_M_onlyWord : ByteArray := prog_8_method_13_code
abbrev y_M_onlyWord : MethodName := ⟨"DecodeTestsModel", "onlyWord", "(I)I"⟩
def ws_M_onlyWord : List Cond := .code y_M_onlyWord b_M_onlyWord 4 (some .int) :: zz_T
theorem q_c_M_onlyWord : Cond.code y_M_onlyWord b_M_onlyWord 4 (some .int) ∈ zz_T := zz_inT (zz_in3 (List.mem_of_getElem? (i := 203) rfl)) rfl
theorem q_i_M_onlyWord : Cond.instanceMethod y_M_onlyWord ∈ zz_T := zz_inT (zz_in3 (List.mem_of_getElem? (i := 202) rfl)) rfl
theorem q_sel_M_onlyWord : Cond.selects "DecodeTestsModel" y_M_onlyWord y_M_onlyWord ∈ zz_T := zz_inT (zz_in0 (List.mem_map.mpr ⟨(y_M_onlyWord, 32), by decide +kernel, rfl⟩)) rfl
theorem k_M_onlyWord : y_M_onlyWord.cls = "DecodeTestsModel" ∧ y_M_onlyWord.cls ≠ "java/lang/invoke/MethodHandle" ∧ y_M_onlyWord.cls ≠ "java/lang/invoke/VarHandle" ∧ (parseMethodDescriptor y_M_onlyWord.desc).map (fun d => d.parameters.length) = some 1 := by decide +kernel
abbrev b_M_firstFree : ByteArray := prog_8_method_14_code
abbrev y_M_firstFree : MethodName := ⟨"DecodeTestsModel", "firstFree", "(I)I"⟩
def ws_M_firstFree : List Cond := .code y_M_firstFree b_M_firstFree 3 (some .int) :: zz_T
theorem q_c_M_firstFree : Cond.code y_M_firstFree b_M_firstFree 3 (some .int) ∈ zz_T := zz_inT (zz_in3 (List.mem_of_getElem? (i := 207) rfl)) rfl
theorem q_i_M_firstFree : Cond.instanceMethod y_M_firstFree ∈ zz_T := zz_inT (zz_in3 (List.mem_of_getElem? (i := 206) rfl)) rfl
theorem q_sel_M_firstFree : Cond.selects "DecodeTestsModel" y_M_firstFree y_M_firstFree ∈ zz_T := zz_inT (zz_in0 (List.mem_map.mpr ⟨(y_M_firstFree, 32), by decide +kernel, rfl⟩)) rfl
theorem k_M_firstFree : y_M_firstFree.cls = "DecodeTestsModel" ∧ y_M_firstFree.cls ≠ "java/lang/invoke/MethodHandle" ∧ y_M_firstFree.cls ≠ "java/lang/invoke/VarHandle" ∧ (parseMethodDescriptor y_M_firstFree.desc).map (fun d => d.parameters.length) = some 1 := by decide +kernel
abbrev b_M_choose : ByteArray := prog_8_method_15_code
abbrev y_M_choose : MethodName := ⟨"DecodeTestsModel", "choose", "(II)V"⟩
def ws_M_choose : List Cond := .code y_M_choose b_M_choose 10 none :: zz_T
theorem q_c_M_choose : Cond.code y_M_choose b_M_choose 10 none ∈ zz_T := zz_inT (zz_in3 (List.mem_of_getElem? (i := 215) rfl)) rfl
theorem q_i_M_choose : Cond.instanceMethod y_M_choose ∈ zz_T := zz_inT (zz_in3 (List.mem_of_getElem? (i := 214) rfl)) rfl
theorem q_sel_M_choose : Cond.selects "DecodeTestsModel" y_M_choose y_M_choose ∈ zz_T := zz_inT (zz_in0 (List.mem_map.mpr ⟨(y_M_choose, 32), by decide +kernel, rfl⟩)) rfl
theorem k_M_choose : y_M_choose.cls = "DecodeTestsModel" ∧ y_M_choose.cls ≠ "java/lang/invoke/MethodHandle" ∧ y_M_choose.cls ≠ "java/lang/invoke/VarHandle" ∧ (parseMethodDescriptor y_M_choose.desc).map (fun d => d.parameters.length) = some 2 := by decide +kernel
abbrev b_M_workOut : ByteArray := prog_8_method_16_code
abbrev y_M_workOut : MethodName := ⟨"DecodeTestsModel", "workOut", "(I)V"⟩
def ws_M_workOut : List Cond := .code y_M_workOut b_M_workOut 5 none :: zz_T
theorem q_c_M_workOut : Cond.code y_M_workOut b_M_workOut 5 none ∈ zz_T := zz_inT (zz_in3 (List.mem_of_getElem? (i := 191) rfl)) rfl
theorem q_i_M_workOut : Cond.instanceMethod y_M_workOut ∈ zz_T := zz_inT (zz_in3 (List.mem_of_getElem? (i := 190) rfl)) rfl
theorem q_sel_M_workOut : Cond.selects "DecodeTestsModel" y_M_workOut y_M_workOut ∈ zz_T := zz_inT (zz_in0 (List.mem_map.mpr ⟨(y_M_workOut, 32), by decide +kernel, rfl⟩)) rfl
theorem k_M_workOut : y_M_workOut.cls = "DecodeTestsModel" ∧ y_M_workOut.cls ≠ "java/lang/invoke/MethodHandle" ∧ y_M_workOut.cls ≠ "java/lang/invoke/VarHandle" ∧ (parseMethodDescriptor y_M_workOut.desc).map (fun d => d.parameters.length) = some 1 := by decide +kernel
abbrev b_M_allWords : ByteArray := prog_8_method_17_code
abbrev y_M_allWords : MethodName := ⟨"DecodeTestsModel", "allWords", "()I"⟩
def ws_M_allWords : List Cond := .code y_M_allWords b_M_allWords 1 (some .int) :: zz_T
theorem q_c_M_allWords : Cond.code y_M_allWords b_M_allWords 1 (some .int) ∈ zz_T := zz_inT (zz_in3 (List.mem_of_getElem? (i := 223) rfl)) rfl
theorem q_i_M_allWords : Cond.instanceMethod y_M_allWords ∈ zz_T := zz_inT (zz_in3 (List.mem_of_getElem? (i := 222) rfl)) rfl
theorem q_sel_M_allWords : Cond.selects "DecodeTestsModel" y_M_allWords y_M_allWords ∈ zz_T := zz_inT (zz_in0 (List.mem_map.mpr ⟨(y_M_allWords, 32), by decide +kernel, rfl⟩)) rfl
theorem k_M_allWords : y_M_allWords.cls = "DecodeTestsModel" ∧ y_M_allWords.cls ≠ "java/lang/invoke/MethodHandle" ∧ y_M_allWords.cls ≠ "java/lang/invoke/VarHandle" ∧ (parseMethodDescriptor y_M_allWords.desc).map (fun d => d.parameters.length) = some 0 := by decide +kernel
abbrev b_M_makeAnew : ByteArray := prog_8_method_18_code
abbrev y_M_makeAnew : MethodName := ⟨"DecodeTestsModel", "makeAnew", "()V"⟩
def ws_M_makeAnew : List Cond := .code y_M_makeAnew b_M_makeAnew 2 none :: zz_T
theorem q_c_M_makeAnew : Cond.code y_M_makeAnew b_M_makeAnew 2 none ∈ zz_T := zz_inT (zz_in3 (List.mem_of_getElem? (i := 171) rfl)) rfl
theorem q_i_M_makeAnew : Cond.instanceMethod y_M_makeAnew ∈ zz_T := zz_inT (zz_in3 (List.mem_of_getElem? (i := 170) rfl)) rfl
theorem q_sel_M_makeAnew : Cond.selects "DecodeTestsModel" y_M_makeAnew y_M_makeAnew ∈ zz_T := zz_inT (zz_in0 (List.mem_map.mpr ⟨(y_M_makeAnew, 32), by decide +kernel, rfl⟩)) rfl
theorem k_M_makeAnew : y_M_makeAnew.cls = "DecodeTestsModel" ∧ y_M_makeAnew.cls ≠ "java/lang/invoke/MethodHandle" ∧ y_M_makeAnew.cls ≠ "java/lang/invoke/VarHandle" ∧ (parseMethodDescriptor y_M_makeAnew.desc).map (fun d => d.parameters.length) = some 0 := by decide +kernel
abbrev b_M_isLeaf : ByteArray := prog_8_method_19_code
abbrev y_M_isLeaf : MethodName := ⟨"DecodeTestsModel", "isLeaf", "(I)Z"⟩
def ws_M_isLeaf : List Cond := .code y_M_isLeaf b_M_isLeaf 2 (some .boolean) :: zz_T
theorem q_c_M_isLeaf : Cond.code y_M_isLeaf b_M_isLeaf 2 (some .boolean) ∈ zz_T := zz_inT (zz_in3 (List.mem_of_getElem? (i := 227) rfl)) rfl
theorem q_i_M_isLeaf : Cond.instanceMethod y_M_isLeaf ∈ zz_T := zz_inT (zz_in3 (List.mem_of_getElem? (i := 226) rfl)) rfl
theorem q_sel_M_isLeaf : Cond.selects "DecodeTestsModel" y_M_isLeaf y_M_isLeaf ∈ zz_T := zz_inT (zz_in0 (List.mem_map.mpr ⟨(y_M_isLeaf, 32), by decide +kernel, rfl⟩)) rfl
theorem k_M_isLeaf : y_M_isLeaf.cls = "DecodeTestsModel" ∧ y_M_isLeaf.cls ≠ "java/lang/invoke/MethodHandle" ∧ y_M_isLeaf.cls ≠ "java/lang/invoke/VarHandle" ∧ (parseMethodDescriptor y_M_isLeaf.desc).map (fun d => d.parameters.length) = some 1 := by decide +kernel
abbrev b_M_makeTree : ByteArray := prog_8_method_20_code
abbrev y_M_makeTree : MethodName := ⟨"DecodeTestsModel", "makeTree", "()V"⟩
def ws_M_makeTree : List Cond := .code y_M_makeTree b_M_makeTree 6 none :: zz_T
theorem q_c_M_makeTree : Cond.code y_M_makeTree b_M_makeTree 6 none ∈ zz_T := zz_inT (zz_in3 (List.mem_of_getElem? (i := 219) rfl)) rfl
theorem q_i_M_makeTree : Cond.instanceMethod y_M_makeTree ∈ zz_T := zz_inT (zz_in3 (List.mem_of_getElem? (i := 218) rfl)) rfl
theorem q_sel_M_makeTree : Cond.selects "DecodeTestsModel" y_M_makeTree y_M_makeTree ∈ zz_T := zz_inT (zz_in0 (List.mem_map.mpr ⟨(y_M_makeTree, 32), by decide +kernel, rfl⟩)) rfl
theorem k_M_makeTree : y_M_makeTree.cls = "DecodeTestsModel" ∧ y_M_makeTree.cls ≠ "java/lang/invoke/MethodHandle" ∧ y_M_makeTree.cls ≠ "java/lang/invoke/VarHandle" ∧ (parseMethodDescriptor y_M_makeTree.desc).map (fun d => d.parameters.length) = some 0 := by decide +kernel
abbrev b_M_leafOf : ByteArray := prog_8_method_21_code
abbrev y_M_leafOf : MethodName := ⟨"DecodeTestsModel", "leafOf", "(I)I"⟩
def ws_M_leafOf : List Cond := .code y_M_leafOf b_M_leafOf 3 (some .int) :: zz_T
theorem q_c_M_leafOf : Cond.code y_M_leafOf b_M_leafOf 3 (some .int) ∈ zz_T := zz_inT (zz_in4 (List.mem_of_getElem? (i := 139) rfl)) rfl
theorem q_i_M_leafOf : Cond.instanceMethod y_M_leafOf ∈ zz_T := zz_inT (zz_in4 (List.mem_of_getElem? (i := 138) rfl)) rfl
theorem q_sel_M_leafOf : Cond.selects "DecodeTestsModel" y_M_leafOf y_M_leafOf ∈ zz_T := zz_inT (zz_in0 (List.mem_map.mpr ⟨(y_M_leafOf, 32), by decide +kernel, rfl⟩)) rfl
theorem k_M_leafOf : y_M_leafOf.cls = "DecodeTestsModel" ∧ y_M_leafOf.cls ≠ "java/lang/invoke/MethodHandle" ∧ y_M_leafOf.cls ≠ "java/lang/invoke/VarHandle" ∧ (parseMethodDescriptor y_M_leafOf.desc).map (fun d => d.parameters.length) = some 1 := by decide +kernel
abbrev b_M_depthOf : ByteArray := prog_8_method_22_code
abbrev y_M_depthOf : MethodName := ⟨"DecodeTestsModel", "depthOf", "(I)I"⟩
def ws_M_depthOf : List Cond := .code y_M_depthOf b_M_depthOf 4 (some .int) :: zz_T
theorem q_c_M_depthOf : Cond.code y_M_depthOf b_M_depthOf 4 (some .int) ∈ zz_T := zz_inT (zz_in4 (List.mem_of_getElem? (i := 135) rfl)) rfl
theorem q_i_M_depthOf : Cond.instanceMethod y_M_depthOf ∈ zz_T := zz_inT (zz_in4 (List.mem_of_getElem? (i := 134) rfl)) rfl
theorem q_sel_M_depthOf : Cond.selects "DecodeTestsModel" y_M_depthOf y_M_depthOf ∈ zz_T := zz_inT (zz_in0 (List.mem_map.mpr ⟨(y_M_depthOf, 32), by decide +kernel, rfl⟩)) rfl
theorem k_M_depthOf : y_M_depthOf.cls = "DecodeTestsModel" ∧ y_M_depthOf.cls ≠ "java/lang/invoke/MethodHandle" ∧ y_M_depthOf.cls ≠ "java/lang/invoke/VarHandle" ∧ (parseMethodDescriptor y_M_depthOf.desc).map (fun d => d.parameters.length) = some 1 := by decide +kernel
abbrev b_M_encoding : ByteArray := prog_8_method_23_code
abbrev y_M_encoding : MethodName := ⟨"DecodeTestsModel", "encoding", "(IIII)I"⟩
def ws_M_encoding : List Cond := .code y_M_encoding b_M_encoding 5 (some .int) :: zz_T
theorem q_c_M_encoding : Cond.code y_M_encoding b_M_encoding 5 (some .int) ∈ zz_T := zz_inT (zz_in4 (List.mem_of_getElem? (i := 92) rfl)) rfl
theorem q_i_M_encoding : Cond.instanceMethod y_M_encoding ∈ zz_T := zz_inT (zz_in4 (List.mem_of_getElem? (i := 90) rfl)) rfl
theorem q_sel_M_encoding : Cond.selects "DecodeTestsModel" y_M_encoding y_M_encoding ∈ zz_T := zz_inT (zz_in4 (List.mem_of_getElem? (i := 91) rfl)) rfl
theorem k_M_encoding : y_M_encoding.cls = "DecodeTestsModel" ∧ y_M_encoding.cls ≠ "java/lang/invoke/MethodHandle" ∧ y_M_encoding.cls ≠ "java/lang/invoke/VarHandle" ∧ (parseMethodDescriptor y_M_encoding.desc).map (fun d => d.parameters.length) = some 4 := by decide +kernel
abbrev b_M_kind : ByteArray := prog_8_method_24_code
abbrev y_M_kind : MethodName := ⟨"DecodeTestsModel", "kind", "(I)I"⟩
def ws_M_kind : List Cond := .code y_M_kind b_M_kind 3 (some .int) :: zz_T
theorem q_c_M_kind : Cond.code y_M_kind b_M_kind 3 (some .int) ∈ zz_T := zz_inT (zz_in4 (List.mem_of_getElem? (i := 107) rfl)) rfl
theorem q_i_M_kind : Cond.instanceMethod y_M_kind ∈ zz_T := zz_inT (zz_in4 (List.mem_of_getElem? (i := 105) rfl)) rfl
theorem q_sel_M_kind : Cond.selects "DecodeTestsModel" y_M_kind y_M_kind ∈ zz_T := zz_inT (zz_in4 (List.mem_of_getElem? (i := 106) rfl)) rfl
theorem k_M_kind : y_M_kind.cls = "DecodeTestsModel" ∧ y_M_kind.cls ≠ "java/lang/invoke/MethodHandle" ∧ y_M_kind.cls ≠ "java/lang/invoke/VarHandle" ∧ (parseMethodDescriptor y_M_kind.desc).map (fun d => d.parameters.length) = some 1 := by decide +kernel
abbrev b_M_holds : ByteArray := prog_8_method_25_code
abbrev y_M_holds : MethodName := ⟨"DecodeTestsModel", "holds", "(II)Z"⟩
def ws_M_holds : List Cond := .code y_M_holds b_M_holds 3 (some .boolean) :: zz_T
theorem q_c_M_holds : Cond.code y_M_holds b_M_holds 3 (some .boolean) ∈ zz_T := zz_inT (zz_in4 (List.mem_of_getElem? (i := 123) rfl)) rfl
theorem q_i_M_holds : Cond.instanceMethod y_M_holds ∈ zz_T := zz_inT (zz_in4 (List.mem_of_getElem? (i := 122) rfl)) rfl
theorem q_sel_M_holds : Cond.selects "DecodeTestsModel" y_M_holds y_M_holds ∈ zz_T := zz_inT (zz_in0 (List.mem_map.mpr ⟨(y_M_holds, 32), by decide +kernel, rfl⟩)) rfl
theorem k_M_holds : y_M_holds.cls = "DecodeTestsModel" ∧ y_M_holds.cls ≠ "java/lang/invoke/MethodHandle" ∧ y_M_holds.cls ≠ "java/lang/invoke/VarHandle" ∧ (parseMethodDescriptor y_M_holds.desc).map (fun d => d.parameters.length) = some 2 := by decide +kernel
abbrev b_M_answerOf : ByteArray := prog_8_method_26_code
abbrev y_M_answerOf : MethodName := ⟨"DecodeTestsModel", "answerOf", "(II)I"⟩
def ws_M_answerOf : List Cond := .code y_M_answerOf b_M_answerOf 4 (some .int) :: zz_T
theorem q_c_M_answerOf : Cond.code y_M_answerOf b_M_answerOf 4 (some .int) ∈ zz_T := zz_inT (zz_in4 (List.mem_of_getElem? (i := 119) rfl)) rfl
theorem q_i_M_answerOf : Cond.instanceMethod y_M_answerOf ∈ zz_T := zz_inT (zz_in4 (List.mem_of_getElem? (i := 118) rfl)) rfl
theorem q_sel_M_answerOf : Cond.selects "DecodeTestsModel" y_M_answerOf y_M_answerOf ∈ zz_T := zz_inT (zz_in0 (List.mem_map.mpr ⟨(y_M_answerOf, 32), by decide +kernel, rfl⟩)) rfl
theorem k_M_answerOf : y_M_answerOf.cls = "DecodeTestsModel" ∧ y_M_answerOf.cls ≠ "java/lang/invoke/MethodHandle" ∧ y_M_answerOf.cls ≠ "java/lang/invoke/VarHandle" ∧ (parseMethodDescriptor y_M_answerOf.desc).map (fun d => d.parameters.length) = some 2 := by decide +kernel
abbrev b_M_isRight : ByteArray := prog_8_method_27_code
abbrev y_M_isRight : MethodName := ⟨"DecodeTestsModel", "isRight", "(II)Z"⟩
def ws_M_isRight : List Cond := .code y_M_isRight b_M_isRight 3 (some .boolean) :: zz_T
theorem q_c_M_isRight : Cond.code y_M_isRight b_M_isRight 3 (some .boolean) ∈ zz_T := zz_inT (zz_in4 (List.mem_of_getElem? (i := 115) rfl)) rfl
theorem q_i_M_isRight : Cond.instanceMethod y_M_isRight ∈ zz_T := zz_inT (zz_in4 (List.mem_of_getElem? (i := 114) rfl)) rfl
theorem q_sel_M_isRight : Cond.selects "DecodeTestsModel" y_M_isRight y_M_isRight ∈ zz_T := zz_inT (zz_in0 (List.mem_map.mpr ⟨(y_M_isRight, 32), by decide +kernel, rfl⟩)) rfl
theorem k_M_isRight : y_M_isRight.cls = "DecodeTestsModel" ∧ y_M_isRight.cls ≠ "java/lang/invoke/MethodHandle" ∧ y_M_isRight.cls ≠ "java/lang/invoke/VarHandle" ∧ (parseMethodDescriptor y_M_isRight.desc).map (fun d => d.parameters.length) = some 2 := by decide +kernel
abbrev b_M_tried : ByteArray := prog_8_method_28_code
abbrev y_M_tried : MethodName := ⟨"DecodeTestsModel", "tried", "(II)I"⟩
def ws_M_tried : List Cond := .code y_M_tried b_M_tried 3 (some .int) :: zz_T
theorem q_c_M_tried : Cond.code y_M_tried b_M_tried 3 (some .int) ∈ zz_T := zz_inT (zz_in4 (List.mem_of_getElem? (i := 111) rfl)) rfl
theorem q_i_M_tried : Cond.instanceMethod y_M_tried ∈ zz_T := zz_inT (zz_in4 (List.mem_of_getElem? (i := 109) rfl)) rfl
theorem q_sel_M_tried : Cond.selects "DecodeTestsModel" y_M_tried y_M_tried ∈ zz_T := zz_inT (zz_in4 (List.mem_of_getElem? (i := 110) rfl)) rfl
theorem k_M_tried : y_M_tried.cls = "DecodeTestsModel" ∧ y_M_tried.cls ≠ "java/lang/invoke/MethodHandle" ∧ y_M_tried.cls ≠ "java/lang/invoke/VarHandle" ∧ (parseMethodDescriptor y_M_tried.desc).map (fun d => d.parameters.length) = some 2 := by decide +kernel
abbrev b_M_find : ByteArray := prog_8_method_29_code
abbrev y_M_find : MethodName := ⟨"DecodeTestsModel", "find", "(II)I"⟩
def ws_M_find : List Cond := .code y_M_find b_M_find 4 (some .int) :: zz_T
theorem q_c_M_find : Cond.code y_M_find b_M_find 4 (some .int) ∈ zz_T := zz_inT (zz_in4 (List.mem_of_getElem? (i := 131) rfl)) rfl
theorem q_i_M_find : Cond.instanceMethod y_M_find ∈ zz_T := zz_inT (zz_in4 (List.mem_of_getElem? (i := 130) rfl)) rfl
theorem q_sel_M_find : Cond.selects "DecodeTestsModel" y_M_find y_M_find ∈ zz_T := zz_inT (zz_in0 (List.mem_map.mpr ⟨(y_M_find, 32), by decide +kernel, rfl⟩)) rfl
theorem k_M_find : y_M_find.cls = "DecodeTestsModel" ∧ y_M_find.cls ≠ "java/lang/invoke/MethodHandle" ∧ y_M_find.cls ≠ "java/lang/invoke/VarHandle" ∧ (parseMethodDescriptor y_M_find.desc).map (fun d => d.parameters.length) = some 2 := by decide +kernel
abbrev b_M_decode : ByteArray := prog_8_method_30_code
abbrev y_M_decode : MethodName := ⟨"DecodeTestsModel", "decode", "(II)I"⟩
def ws_M_decode : List Cond := .code y_M_decode b_M_decode 3 (some .int) :: zz_T
theorem q_c_M_decode : Cond.code y_M_decode b_M_decode 3 (some .int) ∈ zz_T := zz_inT (zz_in4 (List.mem_of_getElem? (i := 127) rfl)) rfl
theorem q_i_M_decode : Cond.instanceMethod y_M_decode ∈ zz_T := zz_inT (zz_in4 (List.mem_of_getElem? (i := 125) rfl)) rfl
theorem q_sel_M_decode : Cond.selects "DecodeTestsModel" y_M_decode y_M_decode ∈ zz_T := zz_inT (zz_in4 (List.mem_of_getElem? (i := 126) rfl)) rfl
theorem k_M_decode : y_M_decode.cls = "DecodeTestsModel" ∧ y_M_decode.cls ≠ "java/lang/invoke/MethodHandle" ∧ y_M_decode.cls ≠ "java/lang/invoke/VarHandle" ∧ (parseMethodDescriptor y_M_decode.desc).map (fun d => d.parameters.length) = some 2 := by decide +kernel
abbrev b_M_tests : ByteArray := prog_8_method_31_code
abbrev y_M_tests : MethodName := ⟨"DecodeTestsModel", "tests", "(I)I"⟩
def ws_M_tests : List Cond := .code y_M_tests b_M_tests 2 (some .int) :: zz_T
theorem q_c_M_tests : Cond.code y_M_tests b_M_tests 2 (some .int) ∈ zz_T := zz_inT (zz_in4 (List.mem_of_getElem? (i := 143) rfl)) rfl
theorem q_i_M_tests : Cond.instanceMethod y_M_tests ∈ zz_T := zz_inT (zz_in4 (List.mem_of_getElem? (i := 141) rfl)) rfl
theorem q_sel_M_tests : Cond.selects "DecodeTestsModel" y_M_tests y_M_tests ∈ zz_T := zz_inT (zz_in4 (List.mem_of_getElem? (i := 142) rfl)) rfl
theorem k_M_tests : y_M_tests.cls = "DecodeTestsModel" ∧ y_M_tests.cls ≠ "java/lang/invoke/MethodHandle" ∧ y_M_tests.cls ≠ "java/lang/invoke/VarHandle" ∧ (parseMethodDescriptor y_M_tests.desc).map (fun d => d.parameters.length) = some 1 := by decide +kernel
abbrev b_M_node : ByteArray := prog_8_method_32_code
abbrev y_M_node : MethodName := ⟨"DecodeTestsModel", "node", "(II)I"⟩
def ws_M_node : List Cond := .code y_M_node b_M_node 3 (some .int) :: zz_T
theorem q_c_M_node : Cond.code y_M_node b_M_node 3 (some .int) ∈ zz_T := zz_inT (zz_in4 (List.mem_of_getElem? (i := 147) rfl)) rfl
theorem q_i_M_node : Cond.instanceMethod y_M_node ∈ zz_T := zz_inT (zz_in4 (List.mem_of_getElem? (i := 145) rfl)) rfl
theorem q_sel_M_node : Cond.selects "DecodeTestsModel" y_M_node y_M_node ∈ zz_T := zz_inT (zz_in4 (List.mem_of_getElem? (i := 146) rfl)) rfl
theorem k_M_node : y_M_node.cls = "DecodeTestsModel" ∧ y_M_node.cls ≠ "java/lang/invoke/MethodHandle" ∧ y_M_node.cls ≠ "java/lang/invoke/VarHandle" ∧ (parseMethodDescriptor y_M_node.desc).map (fun d => d.parameters.length) = some 2 := by decide +kernel
abbrev b_M_listed : ByteArray := prog_8_method_33_code
abbrev y_M_listed : MethodName := ⟨"DecodeTestsModel", "listed", "(II)I"⟩
def ws_M_listed : List Cond := .code y_M_listed b_M_listed 3 (some .int) :: zz_T
theorem q_c_M_listed : Cond.code y_M_listed b_M_listed 3 (some .int) ∈ zz_T := zz_inT (zz_in4 (List.mem_of_getElem? (i := 151) rfl)) rfl
theorem q_i_M_listed : Cond.instanceMethod y_M_listed ∈ zz_T := zz_inT (zz_in4 (List.mem_of_getElem? (i := 149) rfl)) rfl
theorem q_sel_M_listed : Cond.selects "DecodeTestsModel" y_M_listed y_M_listed ∈ zz_T := zz_inT (zz_in4 (List.mem_of_getElem? (i := 150) rfl)) rfl
theorem k_M_listed : y_M_listed.cls = "DecodeTestsModel" ∧ y_M_listed.cls ≠ "java/lang/invoke/MethodHandle" ∧ y_M_listed.cls ≠ "java/lang/invoke/VarHandle" ∧ (parseMethodDescriptor y_M_listed.desc).map (fun d => d.parameters.length) = some 2 := by decide +kernel
abbrev b_M_cost : ByteArray := prog_8_method_34_code
abbrev y_M_cost : MethodName := ⟨"DecodeTestsModel", "cost", "(II)I"⟩
def ws_M_cost : List Cond := .code y_M_cost b_M_cost 3 (some .int) :: zz_T
theorem q_c_M_cost : Cond.code y_M_cost b_M_cost 3 (some .int) ∈ zz_T := zz_inT (zz_in4 (List.mem_of_getElem? (i := 155) rfl)) rfl
theorem q_i_M_cost : Cond.instanceMethod y_M_cost ∈ zz_T := zz_inT (zz_in4 (List.mem_of_getElem? (i := 153) rfl)) rfl
theorem q_sel_M_cost : Cond.selects "DecodeTestsModel" y_M_cost y_M_cost ∈ zz_T := zz_inT (zz_in4 (List.mem_of_getElem? (i := 154) rfl)) rfl
theorem k_M_cost : y_M_cost.cls = "DecodeTestsModel" ∧ y_M_cost.cls ≠ "java/lang/invoke/MethodHandle" ∧ y_M_cost.cls ≠ "java/lang/invoke/VarHandle" ∧ (parseMethodDescriptor y_M_cost.desc).map (fun d => d.parameters.length) = some 2 := by decide +kernel
abbrev b_M_feed : ByteArray := prog_8_method_35_code
abbrev y_M_feed : MethodName := ⟨"DecodeTestsModel", "feed", "(I)I"⟩
def ws_M_feed : List Cond := .code y_M_feed b_M_feed 2 (some .int) :: zz_T
theorem q_c_M_feed : Cond.code y_M_feed b_M_feed 2 (some .int) ∈ zz_T := zz_inT (zz_in4 (List.mem_of_getElem? (i := 159) rfl)) rfl
theorem q_i_M_feed : Cond.instanceMethod y_M_feed ∈ zz_T := zz_inT (zz_in4 (List.mem_of_getElem? (i := 157) rfl)) rfl
theorem q_sel_M_feed : Cond.selects "DecodeTestsModel" y_M_feed y_M_feed ∈ zz_T := zz_inT (zz_in4 (List.mem_of_getElem? (i := 158) rfl)) rfl
theorem k_M_feed : y_M_feed.cls = "DecodeTestsModel" ∧ y_M_feed.cls ≠ "java/lang/invoke/MethodHandle" ∧ y_M_feed.cls ≠ "java/lang/invoke/VarHandle" ∧ (parseMethodDescriptor y_M_feed.desc).map (fun d => d.parameters.length) = some 1 := by decide +kernel
abbrev b_M_take : ByteArray := prog_8_method_36_code
abbrev y_M_take : MethodName := ⟨"DecodeTestsModel", "take", "(I)I"⟩
def ws_M_take : List Cond := .code y_M_take b_M_take 5 (some .int) :: zz_T
theorem q_c_M_take : Cond.code y_M_take b_M_take 5 (some .int) ∈ zz_T := zz_inT (zz_in4 (List.mem_of_getElem? (i := 163) rfl)) rfl
theorem q_i_M_take : Cond.instanceMethod y_M_take ∈ zz_T := zz_inT (zz_in4 (List.mem_of_getElem? (i := 161) rfl)) rfl
theorem q_sel_M_take : Cond.selects "DecodeTestsModel" y_M_take y_M_take ∈ zz_T := zz_inT (zz_in4 (List.mem_of_getElem? (i := 162) rfl)) rfl
theorem k_M_take : y_M_take.cls = "DecodeTestsModel" ∧ y_M_take.cls ≠ "java/lang/invoke/MethodHandle" ∧ y_M_take.cls ≠ "java/lang/invoke/VarHandle" ∧ (parseMethodDescriptor y_M_take.desc).map (fun d => d.parameters.length) = some 1 := by decide +kernel
abbrev b_M_whole : ByteArray := prog_8_method_37_code
abbrev y_M_whole : MethodName := ⟨"DecodeTestsModel", "whole", "()Z"⟩
def ws_M_whole : List Cond := .code y_M_whole b_M_whole 3 (some .boolean) :: zz_T
theorem q_c_M_whole : Cond.code y_M_whole b_M_whole 3 (some .boolean) ∈ zz_T := zz_inT (zz_in4 (List.mem_of_getElem? (i := 167) rfl)) rfl
theorem q_i_M_whole : Cond.instanceMethod y_M_whole ∈ zz_T := zz_inT (zz_in4 (List.mem_of_getElem? (i := 165) rfl)) rfl
theorem q_sel_M_whole : Cond.selects "DecodeTestsModel" y_M_whole y_M_whole ∈ zz_T := zz_inT (zz_in4 (List.mem_of_getElem? (i := 166) rfl)) rfl
theorem k_M_whole : y_M_whole.cls = "DecodeTestsModel" ∧ y_M_whole.cls ≠ "java/lang/invoke/MethodHandle" ∧ y_M_whole.cls ≠ "java/lang/invoke/VarHandle" ∧ (parseMethodDescriptor y_M_whole.desc).map (fun d => d.parameters.length) = some 0 := by decide +kernel
abbrev b_M_isIn : ByteArray := prog_8_method_38_code
abbrev y_M_isIn : MethodName := ⟨"DecodeTestsModel", "isIn", "(II)Z"⟩
def ws_M_isIn : List Cond := .code y_M_isIn b_M_isIn 3 (some .boolean) :: zz_T
theorem q_c_M_isIn : Cond.code y_M_isIn b_M_isIn 3 (some .boolean) ∈ zz_T := zz_inT (zz_in4 (List.mem_of_getElem? (i := 175) rfl)) rfl
theorem q_i_M_isIn : Cond.instanceMethod y_M_isIn ∈ zz_T := zz_inT (zz_in4 (List.mem_of_getElem? (i := 174) rfl)) rfl
theorem q_sel_M_isIn : Cond.selects "DecodeTestsModel" y_M_isIn y_M_isIn ∈ zz_T := zz_inT (zz_in0 (List.mem_map.mpr ⟨(y_M_isIn, 32), by decide +kernel, rfl⟩)) rfl
theorem k_M_isIn : y_M_isIn.cls = "DecodeTestsModel" ∧ y_M_isIn.cls ≠ "java/lang/invoke/MethodHandle" ∧ y_M_isIn.cls ≠ "java/lang/invoke/VarHandle" ∧ (parseMethodDescriptor y_M_isIn.desc).map (fun d => d.parameters.length) = some 2 := by decide +kernel
abbrev b_M_crosses : ByteArray := prog_8_method_39_code
abbrev y_M_crosses : MethodName := ⟨"DecodeTestsModel", "crosses", "()Z"⟩
def ws_M_crosses : List Cond := .code y_M_crosses b_M_crosses 5 (some .boolean) :: zz_T
theorem q_c_M_crosses : Cond.code y_M_crosses b_M_crosses 5 (some .boolean) ∈ zz_T := zz_inT (zz_in4 (List.mem_of_getElem? (i := 171) rfl)) rfl
theorem q_i_M_crosses : Cond.instanceMethod y_M_crosses ∈ zz_T := zz_inT (zz_in4 (List.mem_of_getElem? (i := 169) rfl)) rfl
theorem q_sel_M_crosses : Cond.selects "DecodeTestsModel" y_M_crosses y_M_crosses ∈ zz_T := zz_inT (zz_in4 (List.mem_of_getElem? (i := 170) rfl)) rfl
theorem k_M_crosses : y_M_crosses.cls = "DecodeTestsModel" ∧ y_M_crosses.cls ≠ "java/lang/invoke/MethodHandle" ∧ y_M_crosses.cls ≠ "java/lang/invoke/VarHandle" ∧ (parseMethodDescriptor y_M_crosses.desc).map (fun d => d.parameters.length) = some 0 := by decide +kernel
abbrev b_M_count : ByteArray := prog_8_method_40_code
abbrev y_M_count : MethodName := ⟨"DecodeTestsModel", "count", "(I)I"⟩
def ws_M_count : List Cond := .code y_M_count b_M_count 4 (some .int) :: zz_T
theorem q_c_M_count : Cond.code y_M_count b_M_count 4 (some .int) ∈ zz_T := zz_inT (zz_in4 (List.mem_of_getElem? (i := 179) rfl)) rfl
theorem q_i_M_count : Cond.instanceMethod y_M_count ∈ zz_T := zz_inT (zz_in4 (List.mem_of_getElem? (i := 177) rfl)) rfl
theorem q_sel_M_count : Cond.selects "DecodeTestsModel" y_M_count y_M_count ∈ zz_T := zz_inT (zz_in4 (List.mem_of_getElem? (i := 178) rfl)) rfl
theorem k_M_count : y_M_count.cls = "DecodeTestsModel" ∧ y_M_count.cls ≠ "java/lang/invoke/MethodHandle" ∧ y_M_count.cls ≠ "java/lang/invoke/VarHandle" ∧ (parseMethodDescriptor y_M_count.desc).map (fun d => d.parameters.length) = some 1 := by decide +kernel
abbrev b_E_init : ByteArray := prog_2_method_1_code
abbrev y_E_init : MethodName := ⟨"DecodeTests$Encodings", "<init>", "(I)V"⟩
def ws_E_init : List Cond := .code y_E_init b_E_init 2 none :: zz_T
theorem q_c_E_init : Cond.code y_E_init b_E_init 2 none ∈ zz_T := zz_inT (zz_in1 (List.mem_of_getElem? (i := 32) rfl)) rfl
theorem q_i_E_init : Cond.instanceMethod y_E_init ∈ zz_T := zz_inT (zz_in1 (List.mem_of_getElem? (i := 31) rfl)) rfl
theorem k_E_init : y_E_init.cls = "DecodeTests$Encodings" ∧ y_E_init.cls ≠ "java/lang/invoke/MethodHandle" ∧ y_E_init.cls ≠ "java/lang/invoke/VarHandle" ∧ (parseMethodDescriptor y_E_init.desc).map (fun d => d.parameters.length) = some 1 := by decide +kernel
abbrev b_E_size : ByteArray := prog_2_method_2_code
abbrev y_E_size : MethodName := ⟨"DecodeTests$Encodings", "size", "()I"⟩
def ws_E_size : List Cond := .code y_E_size b_E_size 1 (some .int) :: zz_T
theorem q_c_E_size : Cond.code y_E_size b_E_size 1 (some .int) ∈ zz_T := zz_inT (zz_in1 (List.mem_of_getElem? (i := 222) rfl)) rfl
theorem q_i_E_size : Cond.instanceMethod y_E_size ∈ zz_T := zz_inT (zz_in1 (List.mem_of_getElem? (i := 220) rfl)) rfl
theorem q_sel_E_size : Cond.selects "DecodeTests$Encodings" y_E_size y_E_size ∈ zz_T := zz_inT (zz_in1 (List.mem_of_getElem? (i := 221) rfl)) rfl
theorem k_E_size : y_E_size.cls = "DecodeTests$Encodings" ∧ y_E_size.cls ≠ "java/lang/invoke/MethodHandle" ∧ y_E_size.cls ≠ "java/lang/invoke/VarHandle" ∧ (parseMethodDescriptor y_E_size.desc).map (fun d => d.parameters.length) = some 0 := by decide +kernel
abbrev b_E_lengthOf : ByteArray := prog_2_method_3_code
abbrev y_E_lengthOf : MethodName := ⟨"DecodeTests$Encodings", "lengthOf", "(I)I"⟩
def ws_E_lengthOf : List Cond := .code y_E_lengthOf b_E_lengthOf 2 (some .int) :: zz_T
theorem q_c_E_lengthOf : Cond.code y_E_lengthOf b_E_lengthOf 2 (some .int) ∈ zz_T := zz_inT (zz_in3 (List.mem_of_getElem? (i := 157) rfl)) rfl
theorem q_i_E_lengthOf : Cond.instanceMethod y_E_lengthOf ∈ zz_T := zz_inT (zz_in3 (List.mem_of_getElem? (i := 155) rfl)) rfl
theorem q_sel_E_lengthOf : Cond.selects "DecodeTests$Encodings" y_E_lengthOf y_E_lengthOf ∈ zz_T := zz_inT (zz_in3 (List.mem_of_getElem? (i := 156) rfl)) rfl
theorem k_E_lengthOf : y_E_lengthOf.cls = "DecodeTests$Encodings" ∧ y_E_lengthOf.cls ≠ "java/lang/invoke/MethodHandle" ∧ y_E_lengthOf.cls ≠ "java/lang/invoke/VarHandle" ∧ (parseMethodDescriptor y_E_lengthOf.desc).map (fun d => d.parameters.length) = some 1 := by decide +kernel
abbrev b_E_listFor : ByteArray := prog_2_method_4_code
abbrev y_E_listFor : MethodName := ⟨"DecodeTests$Encodings", "listFor", "(I)I"⟩
def ws_E_listFor : List Cond := .code y_E_listFor b_E_listFor 2 (some .int) :: zz_T
theorem q_c_E_listFor : Cond.code y_E_listFor b_E_listFor 2 (some .int) ∈ zz_T := zz_inT (zz_in1 (List.mem_of_getElem? (i := 238) rfl)) rfl
theorem q_i_E_listFor : Cond.instanceMethod y_E_listFor ∈ zz_T := zz_inT (zz_in1 (List.mem_of_getElem? (i := 236) rfl)) rfl
theorem q_sel_E_listFor : Cond.selects "DecodeTests$Encodings" y_E_listFor y_E_listFor ∈ zz_T := zz_inT (zz_in1 (List.mem_of_getElem? (i := 237) rfl)) rfl
theorem k_E_listFor : y_E_listFor.cls = "DecodeTests$Encodings" ∧ y_E_listFor.cls ≠ "java/lang/invoke/MethodHandle" ∧ y_E_listFor.cls ≠ "java/lang/invoke/VarHandle" ∧ (parseMethodDescriptor y_E_listFor.desc).map (fun d => d.parameters.length) = some 1 := by decide +kernel
abbrev b_E_add : ByteArray := prog_2_method_5_code
abbrev y_E_add : MethodName := ⟨"DecodeTests$Encodings", "add", "(IIII)I"⟩
def ws_E_add : List Cond := .code y_E_add b_E_add 6 (some .int) :: zz_T
theorem q_c_E_add : Cond.code y_E_add b_E_add 6 (some .int) ∈ zz_T := zz_inT (zz_in2 (List.mem_of_getElem? (i := 176) rfl)) rfl
theorem q_i_E_add : Cond.instanceMethod y_E_add ∈ zz_T := zz_inT (zz_in2 (List.mem_of_getElem? (i := 174) rfl)) rfl
theorem q_sel_E_add : Cond.selects "DecodeTests$Encodings" y_E_add y_E_add ∈ zz_T := zz_inT (zz_in2 (List.mem_of_getElem? (i := 175) rfl)) rfl
theorem k_E_add : y_E_add.cls = "DecodeTests$Encodings" ∧ y_E_add.cls ≠ "java/lang/invoke/MethodHandle" ∧ y_E_add.cls ≠ "java/lang/invoke/VarHandle" ∧ (parseMethodDescriptor y_E_add.desc).map (fun d => d.parameters.length) = some 4 := by decide +kernel
abbrev b_E_addToLists : ByteArray := prog_2_method_6_code
abbrev y_E_addToLists : MethodName := ⟨"DecodeTests$Encodings", "addToLists", "(I)V"⟩
def ws_E_addToLists : List Cond := .code y_E_addToLists b_E_addToLists 3 none :: zz_T
theorem q_c_E_addToLists : Cond.code y_E_addToLists b_E_addToLists 3 none ∈ zz_T := zz_inT (zz_in2 (List.mem_of_getElem? (i := 180) rfl)) rfl
theorem q_i_E_addToLists : Cond.instanceMethod y_E_addToLists ∈ zz_T := zz_inT (zz_in2 (List.mem_of_getElem? (i := 179) rfl)) rfl
theorem q_sel_E_addToLists : Cond.selects "DecodeTests$Encodings" y_E_addToLists y_E_addToLists ∈ zz_T := zz_inT (zz_in0 (List.mem_map.mpr ⟨(y_E_addToLists, 8), by decide +kernel, rfl⟩)) rfl
theorem k_E_addToLists : y_E_addToLists.cls = "DecodeTests$Encodings" ∧ y_E_addToLists.cls ≠ "java/lang/invoke/MethodHandle" ∧ y_E_addToLists.cls ≠ "java/lang/invoke/VarHandle" ∧ (parseMethodDescriptor y_E_addToLists.desc).map (fun d => d.parameters.length) = some 1 := by decide +kernel
abbrev b_E_fits : ByteArray := prog_2_method_7_code
abbrev y_E_fits : MethodName := ⟨"DecodeTests$Encodings", "fits", "(II)Z"⟩
def ws_E_fits : List Cond := .code y_E_fits b_E_fits 3 (some .boolean) :: zz_T
theorem q_c_E_fits : Cond.code y_E_fits b_E_fits 3 (some .boolean) ∈ zz_T := zz_inT (zz_in2 (List.mem_of_getElem? (i := 184) rfl)) rfl
theorem q_i_E_fits : Cond.instanceMethod y_E_fits ∈ zz_T := zz_inT (zz_in2 (List.mem_of_getElem? (i := 183) rfl)) rfl
theorem q_sel_E_fits : Cond.selects "DecodeTests$Encodings" y_E_fits y_E_fits ∈ zz_T := zz_inT (zz_in0 (List.mem_map.mpr ⟨(y_E_fits, 8), by decide +kernel, rfl⟩)) rfl
theorem k_E_fits : y_E_fits.cls = "DecodeTests$Encodings" ∧ y_E_fits.cls ≠ "java/lang/invoke/MethodHandle" ∧ y_E_fits.cls ≠ "java/lang/invoke/VarHandle" ∧ (parseMethodDescriptor y_E_fits.desc).map (fun d => d.parameters.length) = some 2 := by decide +kernel
abbrev b_E_isOpen : ByteArray := prog_2_method_8_code
abbrev y_E_isOpen : MethodName := ⟨"DecodeTests$Encodings", "isOpen", "(II)Z"⟩
def ws_E_isOpen : List Cond := .code y_E_isOpen b_E_isOpen 4 (some .boolean) :: zz_T
theorem q_c_E_isOpen : Cond.code y_E_isOpen b_E_isOpen 4 (some .boolean) ∈ zz_T := zz_inT (zz_in2 (List.mem_of_getElem? (i := 224) rfl)) rfl
theorem q_i_E_isOpen : Cond.instanceMethod y_E_isOpen ∈ zz_T := zz_inT (zz_in2 (List.mem_of_getElem? (i := 223) rfl)) rfl
theorem q_sel_E_isOpen : Cond.selects "DecodeTests$Encodings" y_E_isOpen y_E_isOpen ∈ zz_T := zz_inT (zz_in0 (List.mem_map.mpr ⟨(y_E_isOpen, 8), by decide +kernel, rfl⟩)) rfl
theorem k_E_isOpen : y_E_isOpen.cls = "DecodeTests$Encodings" ∧ y_E_isOpen.cls ≠ "java/lang/invoke/MethodHandle" ∧ y_E_isOpen.cls ≠ "java/lang/invoke/VarHandle" ∧ (parseMethodDescriptor y_E_isOpen.desc).map (fun d => d.parameters.length) = some 2 := by decide +kernel
abbrev b_E_firstThatFits : ByteArray := prog_2_method_9_code
abbrev y_E_firstThatFits : MethodName := ⟨"DecodeTests$Encodings", "firstThatFits", "(II)I"⟩
def ws_E_firstThatFits : List Cond := .code y_E_firstThatFits b_E_firstThatFits 4 (some .int) :: zz_T
theorem q_c_E_firstThatFits : Cond.code y_E_firstThatFits b_E_firstThatFits 4 (some .int) ∈ zz_T := zz_inT (zz_in2 (List.mem_of_getElem? (i := 220) rfl)) rfl
theorem q_i_E_firstThatFits : Cond.instanceMethod y_E_firstThatFits ∈ zz_T := zz_inT (zz_in2 (List.mem_of_getElem? (i := 218) rfl)) rfl
theorem q_sel_E_firstThatFits : Cond.selects "DecodeTests$Encodings" y_E_firstThatFits y_E_firstThatFits ∈ zz_T := zz_inT (zz_in2 (List.mem_of_getElem? (i := 219) rfl)) rfl
theorem k_E_firstThatFits : y_E_firstThatFits.cls = "DecodeTests$Encodings" ∧ y_E_firstThatFits.cls ≠ "java/lang/invoke/MethodHandle" ∧ y_E_firstThatFits.cls ≠ "java/lang/invoke/VarHandle" ∧ (parseMethodDescriptor y_E_firstThatFits.desc).map (fun d => d.parameters.length) = some 2 := by decide +kernel
abbrev b_E_firstOfList : ByteArray := prog_2_method_10_code
abbrev y_E_firstOfList : MethodName := ⟨"DecodeTests$Encodings", "firstOfList", "(II)I"⟩
def ws_E_firstOfList : List Cond := .code y_E_firstOfList b_E_firstOfList 4 (some .int) :: zz_T
theorem q_c_E_firstOfList : Cond.code y_E_firstOfList b_E_firstOfList 4 (some .int) ∈ zz_T := zz_inT (zz_in3 (List.mem_of_getElem? (i := 22) rfl)) rfl
theorem q_i_E_firstOfList : Cond.instanceMethod y_E_firstOfList ∈ zz_T := zz_inT (zz_in3 (List.mem_of_getElem? (i := 20) rfl)) rfl
theorem q_sel_E_firstOfList : Cond.selects "DecodeTests$Encodings" y_E_firstOfList y_E_firstOfList ∈ zz_T := zz_inT (zz_in3 (List.mem_of_getElem? (i := 21) rfl)) rfl
theorem k_E_firstOfList : y_E_firstOfList.cls = "DecodeTests$Encodings" ∧ y_E_firstOfList.cls ≠ "java/lang/invoke/MethodHandle" ∧ y_E_firstOfList.cls ≠ "java/lang/invoke/VarHandle" ∧ (parseMethodDescriptor y_E_firstOfList.desc).map (fun d => d.parameters.length) = some 2 := by decide +kernel
abbrev b_E_memberAt : ByteArray := prog_2_method_11_code
abbrev y_E_memberAt : MethodName := ⟨"DecodeTests$Encodings", "memberAt", "(II)I"⟩
def ws_E_memberAt : List Cond := .code y_E_memberAt b_E_memberAt 4 (some .int) :: zz_T
theorem q_c_E_memberAt : Cond.code y_E_memberAt b_E_memberAt 4 (some .int) ∈ zz_T := zz_inT (zz_in3 (List.mem_of_getElem? (i := 88) rfl)) rfl
theorem q_s_E_memberAt : Cond.static y_E_memberAt ∈ zz_T := zz_inT (zz_in3 (List.mem_of_getElem? (i := 87) rfl)) rfl
theorem k_E_memberAt : y_E_memberAt.cls = "DecodeTests$Encodings" ∧ y_E_memberAt.cls ≠ "java/lang/invoke/MethodHandle" ∧ y_E_memberAt.cls ≠ "java/lang/invoke/VarHandle" ∧ (parseMethodDescriptor y_E_memberAt.desc).map (fun d => d.parameters.length) = some 2 := by decide +kernel
abbrev b_E_leaveWordOut : ByteArray := prog_2_method_12_code
abbrev y_E_leaveWordOut : MethodName := ⟨"DecodeTests$Encodings", "leaveWordOut", "()Z"⟩
def ws_E_leaveWordOut : List Cond := .code y_E_leaveWordOut b_E_leaveWordOut 2 (some .boolean) :: zz_T
theorem q_c_E_leaveWordOut : Cond.code y_E_leaveWordOut b_E_leaveWordOut 2 (some .boolean) ∈ zz_T := zz_inT (zz_in1 (List.mem_of_getElem? (i := 198) rfl)) rfl
theorem q_i_E_leaveWordOut : Cond.instanceMethod y_E_leaveWordOut ∈ zz_T := zz_inT (zz_in1 (List.mem_of_getElem? (i := 196) rfl)) rfl
theorem q_sel_E_leaveWordOut : Cond.selects "DecodeTests$Encodings" y_E_leaveWordOut y_E_leaveWordOut ∈ zz_T := zz_inT (zz_in1 (List.mem_of_getElem? (i := 197) rfl)) rfl
theorem k_E_leaveWordOut : y_E_leaveWordOut.cls = "DecodeTests$Encodings" ∧ y_E_leaveWordOut.cls ≠ "java/lang/invoke/MethodHandle" ∧ y_E_leaveWordOut.cls ≠ "java/lang/invoke/VarHandle" ∧ (parseMethodDescriptor y_E_leaveWordOut.desc).map (fun d => d.parameters.length) = some 0 := by decide +kernel
abbrev b_E_anyCross : ByteArray := prog_2_method_13_code
abbrev y_E_anyCross : MethodName := ⟨"DecodeTests$Encodings", "anyCross", "()Z"⟩
def ws_E_anyCross : List Cond := .code y_E_anyCross b_E_anyCross 3 (some .boolean) :: zz_T
theorem q_c_E_anyCross : Cond.code y_E_anyCross b_E_anyCross 3 (some .boolean) ∈ zz_T := zz_inT (zz_in1 (List.mem_of_getElem? (i := 206) rfl)) rfl
theorem q_i_E_anyCross : Cond.instanceMethod y_E_anyCross ∈ zz_T := zz_inT (zz_in1 (List.mem_of_getElem? (i := 204) rfl)) rfl
theorem q_sel_E_anyCross : Cond.selects "DecodeTests$Encodings" y_E_anyCross y_E_anyCross ∈ zz_T := zz_inT (zz_in1 (List.mem_of_getElem? (i := 205) rfl)) rfl
theorem k_E_anyCross : y_E_anyCross.cls = "DecodeTests$Encodings" ∧ y_E_anyCross.cls ≠ "java/lang/invoke/MethodHandle" ∧ y_E_anyCross.cls ≠ "java/lang/invoke/VarHandle" ∧ (parseMethodDescriptor y_E_anyCross.desc).map (fun d => d.parameters.length) = some 0 := by decide +kernel
abbrev b_E_haveCommonWord : ByteArray := prog_2_method_14_code
abbrev y_E_haveCommonWord : MethodName := ⟨"DecodeTests$Encodings", "haveCommonWord", "(II)Z"⟩
def ws_E_haveCommonWord : List Cond := .code y_E_haveCommonWord b_E_haveCommonWord 3 (some .boolean) :: zz_T
theorem q_c_E_haveCommonWord : Cond.code y_E_haveCommonWord b_E_haveCommonWord 3 (some .boolean) ∈ zz_T := zz_inT (zz_in1 (List.mem_of_getElem? (i := 210) rfl)) rfl
theorem q_i_E_haveCommonWord : Cond.instanceMethod y_E_haveCommonWord ∈ zz_T := zz_inT (zz_in1 (List.mem_of_getElem? (i := 209) rfl)) rfl
theorem q_sel_E_haveCommonWord : Cond.selects "DecodeTests$Encodings" y_E_haveCommonWord y_E_haveCommonWord ∈ zz_T := zz_inT (zz_in0 (List.mem_map.mpr ⟨(y_E_haveCommonWord, 8), by decide +kernel, rfl⟩)) rfl
theorem k_E_haveCommonWord : y_E_haveCommonWord.cls = "DecodeTests$Encodings" ∧ y_E_haveCommonWord.cls ≠ "java/lang/invoke/MethodHandle" ∧ y_E_haveCommonWord.cls ≠ "java/lang/invoke/VarHandle" ∧ (parseMethodDescriptor y_E_haveCommonWord.desc).map (fun d => d.parameters.length) = some 2 := by decide +kernel
abbrev b_E_hasAllOf : ByteArray := prog_2_method_15_code
abbrev y_E_hasAllOf : MethodName := ⟨"DecodeTests$Encodings", "hasAllOf", "(II)Z"⟩
def ws_E_hasAllOf : List Cond := .code y_E_hasAllOf b_E_hasAllOf 3 (some .boolean) :: zz_T
theorem q_c_E_hasAllOf : Cond.code y_E_hasAllOf b_E_hasAllOf 3 (some .boolean) ∈ zz_T := zz_inT (zz_in1 (List.mem_of_getElem? (i := 214) rfl)) rfl
theorem q_i_E_hasAllOf : Cond.instanceMethod y_E_hasAllOf ∈ zz_T := zz_inT (zz_in1 (List.mem_of_getElem? (i := 213) rfl)) rfl
theorem q_sel_E_hasAllOf : Cond.selects "DecodeTests$Encodings" y_E_hasAllOf y_E_hasAllOf ∈ zz_T := zz_inT (zz_in0 (List.mem_map.mpr ⟨(y_E_hasAllOf, 8), by decide +kernel, rfl⟩)) rfl
theorem k_E_hasAllOf : y_E_hasAllOf.cls = "DecodeTests$Encodings" ∧ y_E_hasAllOf.cls ≠ "java/lang/invoke/MethodHandle" ∧ y_E_hasAllOf.cls ≠ "java/lang/invoke/VarHandle" ∧ (parseMethodDescriptor y_E_hasAllOf.desc).map (fun d => d.parameters.length) = some 2 := by decide +kernel
abbrev b_K_init : ByteArray := prog_3_method_1_code
abbrev y_K_init : MethodName := ⟨"DecodeTests$Kept", "<init>", "()V"⟩
def ws_K_init : List Cond := .code y_K_init b_K_init 1 none :: zz_T
theorem q_c_K_init : Cond.code y_K_init b_K_init 1 none ∈ zz_T := zz_inT (zz_in1 (List.mem_of_getElem? (i := 122) rfl)) rfl
theorem q_i_K_init : Cond.instanceMethod y_K_init ∈ zz_T := zz_inT (zz_in1 (List.mem_of_getElem? (i := 121) rfl)) rfl
theorem k_K_init : y_K_init.cls = "DecodeTests$Kept" ∧ y_K_init.cls ≠ "java/lang/invoke/MethodHandle" ∧ y_K_init.cls ≠ "java/lang/invoke/VarHandle" ∧ (parseMethodDescriptor y_K_init.desc).map (fun d => d.parameters.length) = some 0 := by decide +kernel
abbrev b_K_clear : ByteArray := prog_3_method_2_code
abbrev y_K_clear : MethodName := ⟨"DecodeTests$Kept", "clear", "()V"⟩
def ws_K_clear : List Cond := .code y_K_clear b_K_clear 2 none :: zz_T
theorem q_c_K_clear : Cond.code y_K_clear b_K_clear 2 none ∈ zz_T := zz_inT (zz_in1 (List.mem_of_getElem? (i := 127) rfl)) rfl
theorem q_i_K_clear : Cond.instanceMethod y_K_clear ∈ zz_T := zz_inT (zz_in1 (List.mem_of_getElem? (i := 125) rfl)) rfl
theorem q_sel_K_clear : Cond.selects "DecodeTests$Kept" y_K_clear y_K_clear ∈ zz_T := zz_inT (zz_in1 (List.mem_of_getElem? (i := 126) rfl)) rfl
theorem k_K_clear : y_K_clear.cls = "DecodeTests$Kept" ∧ y_K_clear.cls ≠ "java/lang/invoke/MethodHandle" ∧ y_K_clear.cls ≠ "java/lang/invoke/VarHandle" ∧ (parseMethodDescriptor y_K_clear.desc).map (fun d => d.parameters.length) = some 0 := by decide +kernel
abbrev b_K_size : ByteArray := prog_3_method_3_code
abbrev y_K_size : MethodName := ⟨"DecodeTests$Kept", "size", "()I"⟩
def ws_K_size : List Cond := .code y_K_size b_K_size 1 (some .int) :: zz_T
theorem q_c_K_size : Cond.code y_K_size b_K_size 1 (some .int) ∈ zz_T := zz_inT (zz_in2 (List.mem_of_getElem? (i := 70) rfl)) rfl
theorem q_i_K_size : Cond.instanceMethod y_K_size ∈ zz_T := zz_inT (zz_in2 (List.mem_of_getElem? (i := 68) rfl)) rfl
theorem q_sel_K_size : Cond.selects "DecodeTests$Kept" y_K_size y_K_size ∈ zz_T := zz_inT (zz_in2 (List.mem_of_getElem? (i := 69) rfl)) rfl
theorem k_K_size : y_K_size.cls = "DecodeTests$Kept" ∧ y_K_size.cls ≠ "java/lang/invoke/MethodHandle" ∧ y_K_size.cls ≠ "java/lang/invoke/VarHandle" ∧ (parseMethodDescriptor y_K_size.desc).map (fun d => d.parameters.length) = some 0 := by decide +kernel
abbrev b_K_rowOf : ByteArray := prog_3_method_4_code
abbrev y_K_rowOf : MethodName := ⟨"DecodeTests$Kept", "rowOf", "(I)I"⟩
def ws_K_rowOf : List Cond := .code y_K_rowOf b_K_rowOf 1 (some .int) :: zz_T
theorem q_c_K_rowOf : Cond.code y_K_rowOf b_K_rowOf 1 (some .int) ∈ zz_T := zz_inT (zz_in3 (List.mem_of_getElem? (i := 2) rfl)) rfl
theorem q_s_K_rowOf : Cond.static y_K_rowOf ∈ zz_T := zz_inT (zz_in3 (List.mem_of_getElem? (i := 1) rfl)) rfl
theorem k_K_rowOf : y_K_rowOf.cls = "DecodeTests$Kept" ∧ y_K_rowOf.cls ≠ "java/lang/invoke/MethodHandle" ∧ y_K_rowOf.cls ≠ "java/lang/invoke/VarHandle" ∧ (parseMethodDescriptor y_K_rowOf.desc).map (fun d => d.parameters.length) = some 1 := by decide +kernel
abbrev b_K_holds : ByteArray := prog_3_method_5_code
abbrev y_K_holds : MethodName := ⟨"DecodeTests$Kept", "holds", "(II)Z"⟩
def ws_K_holds : List Cond := .code y_K_holds b_K_holds 4 (some .boolean) :: zz_T
theorem q_c_K_holds : Cond.code y_K_holds b_K_holds 4 (some .boolean) ∈ zz_T := zz_inT (zz_in2 (List.mem_of_getElem? (i := 239) rfl)) rfl
theorem q_i_K_holds : Cond.instanceMethod y_K_holds ∈ zz_T := zz_inT (zz_in2 (List.mem_of_getElem? (i := 237) rfl)) rfl
theorem q_sel_K_holds : Cond.selects "DecodeTests$Kept" y_K_holds y_K_holds ∈ zz_T := zz_inT (zz_in2 (List.mem_of_getElem? (i := 238) rfl)) rfl
theorem k_K_holds : y_K_holds.cls = "DecodeTests$Kept" ∧ y_K_holds.cls ≠ "java/lang/invoke/MethodHandle" ∧ y_K_holds.cls ≠ "java/lang/invoke/VarHandle" ∧ (parseMethodDescriptor y_K_holds.desc).map (fun d => d.parameters.length) = some 2 := by decide +kernel
abbrev b_K_answerOf : ByteArray := prog_3_method_6_code
abbrev y_K_answerOf : MethodName := ⟨"DecodeTests$Kept", "answerOf", "(I)I"⟩
def ws_K_answerOf : List Cond := .code y_K_answerOf b_K_answerOf 2 (some .int) :: zz_T
theorem q_c_K_answerOf : Cond.code y_K_answerOf b_K_answerOf 2 (some .int) ∈ zz_T := zz_inT (zz_in3 (List.mem_of_getElem? (i := 6) rfl)) rfl
theorem q_i_K_answerOf : Cond.instanceMethod y_K_answerOf ∈ zz_T := zz_inT (zz_in3 (List.mem_of_getElem? (i := 4) rfl)) rfl
theorem q_sel_K_answerOf : Cond.selects "DecodeTests$Kept" y_K_answerOf y_K_answerOf ∈ zz_T := zz_inT (zz_in3 (List.mem_of_getElem? (i := 5) rfl)) rfl
theorem k_K_answerOf : y_K_answerOf.cls = "DecodeTests$Kept" ∧ y_K_answerOf.cls ≠ "java/lang/invoke/MethodHandle" ∧ y_K_answerOf.cls ≠ "java/lang/invoke/VarHandle" ∧ (parseMethodDescriptor y_K_answerOf.desc).map (fun d => d.parameters.length) = some 1 := by decide +kernel
abbrev b_K_put : ByteArray := prog_3_method_7_code
abbrev y_K_put : MethodName := ⟨"DecodeTests$Kept", "put", "(III)V"⟩
def ws_K_put : List Cond := .code y_K_put b_K_put 5 none :: zz_T
theorem q_c_K_put : Cond.code y_K_put b_K_put 5 none ∈ zz_T := zz_inT (zz_in3 (List.mem_of_getElem? (i := 30) rfl)) rfl
theorem q_i_K_put : Cond.instanceMethod y_K_put ∈ zz_T := zz_inT (zz_in3 (List.mem_of_getElem? (i := 28) rfl)) rfl
theorem q_sel_K_put : Cond.selects "DecodeTests$Kept" y_K_put y_K_put ∈ zz_T := zz_inT (zz_in3 (List.mem_of_getElem? (i := 29) rfl)) rfl
theorem k_K_put : y_K_put.cls = "DecodeTests$Kept" ∧ y_K_put.cls ≠ "java/lang/invoke/MethodHandle" ∧ y_K_put.cls ≠ "java/lang/invoke/VarHandle" ∧ (parseMethodDescriptor y_K_put.desc).map (fun d => d.parameters.length) = some 3 := by decide +kernel
abbrev b_T_init : ByteArray := prog_4_method_1_code
abbrev y_T_init : MethodName := ⟨"DecodeTests$Tables", "<init>", "(I)V"⟩
def ws_T_init : List Cond := .code y_T_init b_T_init 2 none :: zz_T
theorem q_c_T_init : Cond.code y_T_init b_T_init 2 none ∈ zz_T := zz_inT (zz_in1 (List.mem_of_getElem? (i := 64) rfl)) rfl
theorem q_i_T_init : Cond.instanceMethod y_T_init ∈ zz_T := zz_inT (zz_in1 (List.mem_of_getElem? (i := 63) rfl)) rfl
theorem k_T_init : y_T_init.cls = "DecodeTests$Tables" ∧ y_T_init.cls ≠ "java/lang/invoke/MethodHandle" ∧ y_T_init.cls ≠ "java/lang/invoke/VarHandle" ∧ (parseMethodDescriptor y_T_init.desc).map (fun d => d.parameters.length) = some 1 := by decide +kernel
abbrev b_T_outdate : ByteArray := prog_4_method_2_code
abbrev y_T_outdate : MethodName := ⟨"DecodeTests$Tables", "outdate", "()V"⟩
def ws_T_outdate : List Cond := .code y_T_outdate b_T_outdate 1 none :: zz_T
theorem q_c_T_outdate : Cond.code y_T_outdate b_T_outdate 1 none ∈ zz_T := zz_inT (zz_in2 (List.mem_of_getElem? (i := 188) rfl)) rfl
theorem q_i_T_outdate : Cond.instanceMethod y_T_outdate ∈ zz_T := zz_inT (zz_in2 (List.mem_of_getElem? (i := 186) rfl)) rfl
theorem q_sel_T_outdate : Cond.selects "DecodeTests$Tables" y_T_outdate y_T_outdate ∈ zz_T := zz_inT (zz_in2 (List.mem_of_getElem? (i := 187) rfl)) rfl
theorem k_T_outdate : y_T_outdate.cls = "DecodeTests$Tables" ∧ y_T_outdate.cls ≠ "java/lang/invoke/MethodHandle" ∧ y_T_outdate.cls ≠ "java/lang/invoke/VarHandle" ∧ (parseMethodDescriptor y_T_outdate.desc).map (fun d => d.parameters.length) = some 0 := by decide +kernel
abbrev b_T_refresh : ByteArray := prog_4_method_3_code
abbrev y_T_refresh : MethodName := ⟨"DecodeTests$Tables", "refresh", "(LDecodeTests$Encodings;)V"⟩
def ws_T_refresh : List Cond := .code y_T_refresh b_T_refresh 6 none :: zz_T
theorem q_c_T_refresh : Cond.code y_T_refresh b_T_refresh 6 none ∈ zz_T := zz_inT (zz_in1 (List.mem_of_getElem? (i := 234) rfl)) rfl
theorem q_i_T_refresh : Cond.instanceMethod y_T_refresh ∈ zz_T := zz_inT (zz_in1 (List.mem_of_getElem? (i := 232) rfl)) rfl
theorem q_sel_T_refresh : Cond.selects "DecodeTests$Tables" y_T_refresh y_T_refresh ∈ zz_T := zz_inT (zz_in1 (List.mem_of_getElem? (i := 233) rfl)) rfl
theorem k_T_refresh : y_T_refresh.cls = "DecodeTests$Tables" ∧ y_T_refresh.cls ≠ "java/lang/invoke/MethodHandle" ∧ y_T_refresh.cls ≠ "java/lang/invoke/VarHandle" ∧ (parseMethodDescriptor y_T_refresh.desc).map (fun d => d.parameters.length) = some 1 := by decide +kernel
abbrev b_T_allWords : ByteArray := prog_4_method_4_code
abbrev y_T_allWords : MethodName := ⟨"DecodeTests$Tables", "allWords", "()I"⟩
def ws_T_allWords : List Cond := .code y_T_allWords b_T_allWords 1 (some .int) :: zz_T
theorem q_c_T_allWords : Cond.code y_T_allWords b_T_allWords 1 (some .int) ∈ zz_T := zz_inT (zz_in2 (List.mem_of_getElem? (i := 38) rfl)) rfl
theorem q_i_T_allWords : Cond.instanceMethod y_T_allWords ∈ zz_T := zz_inT (zz_in2 (List.mem_of_getElem? (i := 36) rfl)) rfl
theorem q_sel_T_allWords : Cond.selects "DecodeTests$Tables" y_T_allWords y_T_allWords ∈ zz_T := zz_inT (zz_in2 (List.mem_of_getElem? (i := 37) rfl)) rfl
theorem k_T_allWords : y_T_allWords.cls = "DecodeTests$Tables" ∧ y_T_allWords.cls ≠ "java/lang/invoke/MethodHandle" ∧ y_T_allWords.cls ≠ "java/lang/invoke/VarHandle" ∧ (parseMethodDescriptor y_T_allWords.desc).map (fun d => d.parameters.length) = some 0 := by decide +kernel
abbrev b_T_listOf : ByteArray := prog_4_method_5_code
abbrev y_T_listOf : MethodName := ⟨"DecodeTests$Tables", "listOf", "(I)I"⟩
def ws_T_listOf : List Cond := .code y_T_listOf b_T_listOf 2 (some .int) :: zz_T
theorem q_c_T_listOf : Cond.code y_T_listOf b_T_listOf 2 (some .int) ∈ zz_T := zz_inT (zz_in2 (List.mem_of_getElem? (i := 49) rfl)) rfl
theorem q_i_T_listOf : Cond.instanceMethod y_T_listOf ∈ zz_T := zz_inT (zz_in2 (List.mem_of_getElem? (i := 47) rfl)) rfl
theorem q_sel_T_listOf : Cond.selects "DecodeTests$Tables" y_T_listOf y_T_listOf ∈ zz_T := zz_inT (zz_in2 (List.mem_of_getElem? (i := 48) rfl)) rfl
theorem k_T_listOf : y_T_listOf.cls = "DecodeTests$Tables" ∧ y_T_listOf.cls ≠ "java/lang/invoke/MethodHandle" ∧ y_T_listOf.cls ≠ "java/lang/invoke/VarHandle" ∧ (parseMethodDescriptor y_T_listOf.desc).map (fun d => d.parameters.length) = some 1 := by decide +kernel
abbrev b_T_side : ByteArray := prog_4_method_6_code
abbrev y_T_side : MethodName := ⟨"DecodeTests$Tables", "side", "(III)I"⟩
def ws_T_side : List Cond := .code y_T_side b_T_side 3 (some .int) :: zz_T
theorem q_c_T_side : Cond.code y_T_side b_T_side 3 (some .int) ∈ zz_T := zz_inT (zz_in2 (List.mem_of_getElem? (i := 9) rfl)) rfl
theorem q_s_T_side : Cond.static y_T_side ∈ zz_T := zz_inT (zz_in2 (List.mem_of_getElem? (i := 8) rfl)) rfl
theorem k_T_side : y_T_side.cls = "DecodeTests$Tables" ∧ y_T_side.cls ≠ "java/lang/invoke/MethodHandle" ∧ y_T_side.cls ≠ "java/lang/invoke/VarHandle" ∧ (parseMethodDescriptor y_T_side.desc).map (fun d => d.parameters.length) = some 3 := by decide +kernel
abbrev b_T_commonOfSides : ByteArray := prog_4_method_7_code
abbrev y_T_commonOfSides : MethodName := ⟨"DecodeTests$Tables", "commonOfSides", "(II)I"⟩
def ws_T_commonOfSides : List Cond := .code y_T_commonOfSides b_T_commonOfSides 5 (some .int) :: zz_T
theorem q_c_T_commonOfSides : Cond.code y_T_commonOfSides b_T_commonOfSides 5 (some .int) ∈ zz_T := zz_inT (zz_in2 (List.mem_of_getElem? (i := 2) rfl)) rfl
theorem q_i_T_commonOfSides : Cond.instanceMethod y_T_commonOfSides ∈ zz_T := zz_inT (zz_in2 (List.mem_of_getElem? (i := 1) rfl)) rfl
theorem q_sel_T_commonOfSides : Cond.selects "DecodeTests$Tables" y_T_commonOfSides y_T_commonOfSides ∈ zz_T := zz_inT (zz_in0 (List.mem_map.mpr ⟨(y_T_commonOfSides, 6), by decide +kernel, rfl⟩)) rfl
theorem k_T_commonOfSides : y_T_commonOfSides.cls = "DecodeTests$Tables" ∧ y_T_commonOfSides.cls ≠ "java/lang/invoke/MethodHandle" ∧ y_T_commonOfSides.cls ≠ "java/lang/invoke/VarHandle" ∧ (parseMethodDescriptor y_T_commonOfSides.desc).map (fun d => d.parameters.length) = some 2 := by decide +kernel
abbrev b_T_weigh : ByteArray := prog_4_method_8_code
abbrev y_T_weigh : MethodName := ⟨"DecodeTests$Tables", "weigh", "(II)V"⟩
def ws_T_weigh : List Cond := .code y_T_weigh b_T_weigh 10 none :: zz_T
theorem q_c_T_weigh : Cond.code y_T_weigh b_T_weigh 10 none ∈ zz_T := zz_inT (zz_in2 (List.mem_of_getElem? (i := 13) rfl)) rfl
theorem q_i_T_weigh : Cond.instanceMethod y_T_weigh ∈ zz_T := zz_inT (zz_in2 (List.mem_of_getElem? (i := 12) rfl)) rfl
theorem q_sel_T_weigh : Cond.selects "DecodeTests$Tables" y_T_weigh y_T_weigh ∈ zz_T := zz_inT (zz_in0 (List.mem_map.mpr ⟨(y_T_weigh, 6), by decide +kernel, rfl⟩)) rfl
theorem k_T_weigh : y_T_weigh.cls = "DecodeTests$Tables" ∧ y_T_weigh.cls ≠ "java/lang/invoke/MethodHandle" ∧ y_T_weigh.cls ≠ "java/lang/invoke/VarHandle" ∧ (parseMethodDescriptor y_T_weigh.desc).map (fun d => d.parameters.length) = some 2 := by decide +kernel
abbrev b_T_choice : ByteArray := prog_4_method_9_code
abbrev y_T_choice : MethodName := ⟨"DecodeTests$Tables", "choice", "(III)I"⟩
def ws_T_choice : List Cond := .code y_T_choice b_T_choice 4 (some .int) :: zz_T
theorem q_c_T_choice : Cond.code y_T_choice b_T_choice 4 (some .int) ∈ zz_T := zz_inT (zz_in2 (List.mem_of_getElem? (i := 45) rfl)) rfl
theorem q_i_T_choice : Cond.instanceMethod y_T_choice ∈ zz_T := zz_inT (zz_in2 (List.mem_of_getElem? (i := 43) rfl)) rfl
theorem q_sel_T_choice : Cond.selects "DecodeTests$Tables" y_T_choice y_T_choice ∈ zz_T := zz_inT (zz_in2 (List.mem_of_getElem? (i := 44) rfl)) rfl
theorem k_T_choice : y_T_choice.cls = "DecodeTests$Tables" ∧ y_T_choice.cls ≠ "java/lang/invoke/MethodHandle" ∧ y_T_choice.cls ≠ "java/lang/invoke/VarHandle" ∧ (parseMethodDescriptor y_T_choice.desc).map (fun d => d.parameters.length) = some 3 := by decide +kernel
abbrev b_T_deepest : ByteArray := prog_4_method_10_code
abbrev y_T_deepest : MethodName := ⟨"DecodeTests$Tables", "deepest", "(I)I"⟩
def ws_T_deepest : List Cond := .code y_T_deepest b_T_deepest 2 (some .int) :: zz_T
theorem q_c_T_deepest : Cond.code y_T_deepest b_T_deepest 2 (some .int) ∈ zz_T := zz_inT (zz_in3 (List.mem_of_getElem? (i := 100) rfl)) rfl
theorem q_i_T_deepest : Cond.instanceMethod y_T_deepest ∈ zz_T := zz_inT (zz_in3 (List.mem_of_getElem? (i := 98) rfl)) rfl
theorem q_sel_T_deepest : Cond.selects "DecodeTests$Tables" y_T_deepest y_T_deepest ∈ zz_T := zz_inT (zz_in3 (List.mem_of_getElem? (i := 99) rfl)) rfl
theorem k_T_deepest : y_T_deepest.cls = "DecodeTests$Tables" ∧ y_T_deepest.cls ≠ "java/lang/invoke/MethodHandle" ∧ y_T_deepest.cls ≠ "java/lang/invoke/VarHandle" ∧ (parseMethodDescriptor y_T_deepest.desc).map (fun d => d.parameters.length) = some 1 := by decide +kernel
abbrev b_T_deepestBelow : ByteArray := prog_4_method_11_code
abbrev y_T_deepestBelow : MethodName := ⟨"DecodeTests$Tables", "deepestBelow", "(LDecodeTests$Tables;III)I"⟩
def ws_T_deepestBelow : List Cond := .code y_T_deepestBelow b_T_deepestBelow 7 (some .int) :: zz_T
theorem q_c_T_deepestBelow : Cond.code y_T_deepestBelow b_T_deepestBelow 7 (some .int) ∈ zz_T := zz_inT (zz_in3 (List.mem_of_getElem? (i := 104) rfl)) rfl
theorem q_s_T_deepestBelow : Cond.static y_T_deepestBelow ∈ zz_T := zz_inT (zz_in3 (List.mem_of_getElem? (i := 103) rfl)) rfl
theorem k_T_deepestBelow : y_T_deepestBelow.cls = "DecodeTests$Tables" ∧ y_T_deepestBelow.cls ≠ "java/lang/invoke/MethodHandle" ∧ y_T_deepestBelow.cls ≠ "java/lang/invoke/VarHandle" ∧ (parseMethodDescriptor y_T_deepestBelow.desc).map (fun d => d.parameters.length) = some 4 := by decide +kernel
abbrev b_T_total : ByteArray := prog_4_method_12_code
abbrev y_T_total : MethodName := ⟨"DecodeTests$Tables", "total", "(I)I"⟩
def ws_T_total : List Cond := .code y_T_total b_T_total 2 (some .int) :: zz_T
theorem q_c_T_total : Cond.code y_T_total b_T_total 2 (some .int) ∈ zz_T := zz_inT (zz_in3 (List.mem_of_getElem? (i := 109) rfl)) rfl
theorem q_i_T_total : Cond.instanceMethod y_T_total ∈ zz_T := zz_inT (zz_in3 (List.mem_of_getElem? (i := 107) rfl)) rfl
theorem q_sel_T_total : Cond.selects "DecodeTests$Tables" y_T_total y_T_total ∈ zz_T := zz_inT (zz_in3 (List.mem_of_getElem? (i := 108) rfl)) rfl
theorem k_T_total : y_T_total.cls = "DecodeTests$Tables" ∧ y_T_total.cls ≠ "java/lang/invoke/MethodHandle" ∧ y_T_total.cls ≠ "java/lang/invoke/VarHandle" ∧ (parseMethodDescriptor y_T_total.desc).map (fun d => d.parameters.length) = some 1 := by decide +kernel
abbrev b_T_totalBelow : ByteArray := prog_4_method_13_code
abbrev y_T_totalBelow : MethodName := ⟨"DecodeTests$Tables", "totalBelow", "(LDecodeTests$Tables;III)I"⟩
def ws_T_totalBelow : List Cond := .code y_T_totalBelow b_T_totalBelow 7 (some .int) :: zz_T
theorem q_c_T_totalBelow : Cond.code y_T_totalBelow b_T_totalBelow 7 (some .int) ∈ zz_T := zz_inT (zz_in3 (List.mem_of_getElem? (i := 112) rfl)) rfl
theorem q_s_T_totalBelow : Cond.static y_T_totalBelow ∈ zz_T := zz_inT (zz_in3 (List.mem_of_getElem? (i := 111) rfl)) rfl
theorem k_T_totalBelow : y_T_totalBelow.cls = "DecodeTests$Tables" ∧ y_T_totalBelow.cls ≠ "java/lang/invoke/MethodHandle" ∧ y_T_totalBelow.cls ≠ "java/lang/invoke/VarHandle" ∧ (parseMethodDescriptor y_T_totalBelow.desc).map (fun d => d.parameters.length) = some 4 := by decide +kernel
abbrev b_R_init : ByteArray := prog_5_method_1_code
abbrev y_R_init : MethodName := ⟨"DecodeTests$Tree", "<init>", "(I)V"⟩
def ws_R_init : List Cond := .code y_R_init b_R_init 3 none :: zz_T
theorem q_c_R_init : Cond.code y_R_init b_R_init 3 none ∈ zz_T := zz_inT (zz_in1 (List.mem_of_getElem? (i := 91) rfl)) rfl
theorem q_i_R_init : Cond.instanceMethod y_R_init ∈ zz_T := zz_inT (zz_in1 (List.mem_of_getElem? (i := 90) rfl)) rfl
theorem k_R_init : y_R_init.cls = "DecodeTests$Tree" ∧ y_R_init.cls ≠ "java/lang/invoke/MethodHandle" ∧ y_R_init.cls ≠ "java/lang/invoke/VarHandle" ∧ (parseMethodDescriptor y_R_init.desc).map (fun d => d.parameters.length) = some 1 := by decide +kernel
abbrev b_R_clear : ByteArray := prog_5_method_2_code
abbrev y_R_clear : MethodName := ⟨"DecodeTests$Tree", "clear", "()V"⟩
def ws_R_clear : List Cond := .code y_R_clear b_R_clear 1 none :: zz_T
theorem q_c_R_clear : Cond.code y_R_clear b_R_clear 1 none ∈ zz_T := zz_inT (zz_in2 (List.mem_of_getElem? (i := 34) rfl)) rfl
theorem q_i_R_clear : Cond.instanceMethod y_R_clear ∈ zz_T := zz_inT (zz_in2 (List.mem_of_getElem? (i := 32) rfl)) rfl
theorem q_sel_R_clear : Cond.selects "DecodeTests$Tree" y_R_clear y_R_clear ∈ zz_T := zz_inT (zz_in2 (List.mem_of_getElem? (i := 33) rfl)) rfl
theorem k_R_clear : y_R_clear.cls = "DecodeTests$Tree" ∧ y_R_clear.cls ≠ "java/lang/invoke/MethodHandle" ∧ y_R_clear.cls ≠ "java/lang/invoke/VarHandle" ∧ (parseMethodDescriptor y_R_clear.desc).map (fun d => d.parameters.length) = some 0 := by decide +kernel
abbrev b_R_grow : ByteArray := prog_5_method_3_code
abbrev y_R_grow : MethodName := ⟨"DecodeTests$Tree", "grow", "(LDecodeTests$Tables;I)V"⟩
def ws_R_grow : List Cond := .code y_R_grow b_R_grow 3 none :: zz_T
theorem q_c_R_grow : Cond.code y_R_grow b_R_grow 3 none ∈ zz_T := zz_inT (zz_in2 (List.mem_of_getElem? (i := 30) rfl)) rfl
theorem q_i_R_grow : Cond.instanceMethod y_R_grow ∈ zz_T := zz_inT (zz_in2 (List.mem_of_getElem? (i := 28) rfl)) rfl
theorem q_sel_R_grow : Cond.selects "DecodeTests$Tree" y_R_grow y_R_grow ∈ zz_T := zz_inT (zz_in2 (List.mem_of_getElem? (i := 29) rfl)) rfl
theorem k_R_grow : y_R_grow.cls = "DecodeTests$Tree" ∧ y_R_grow.cls ≠ "java/lang/invoke/MethodHandle" ∧ y_R_grow.cls ≠ "java/lang/invoke/VarHandle" ∧ (parseMethodDescriptor y_R_grow.desc).map (fun d => d.parameters.length) = some 2 := by decide +kernel
abbrev b_R_growBelow : ByteArray := prog_5_method_4_code
abbrev y_R_growBelow : MethodName := ⟨"DecodeTests$Tree", "growBelow", "(LDecodeTests$Tree;LDecodeTests$Tables;III)I"⟩
def ws_R_growBelow : List Cond := .code y_R_growBelow b_R_growBelow 7 (some .int) :: zz_T
theorem q_c_R_growBelow : Cond.code y_R_growBelow b_R_growBelow 7 (some .int) ∈ zz_T := zz_inT (zz_in2 (List.mem_of_getElem? (i := 41) rfl)) rfl
theorem q_s_R_growBelow : Cond.static y_R_growBelow ∈ zz_T := zz_inT (zz_in2 (List.mem_of_getElem? (i := 40) rfl)) rfl
theorem k_R_growBelow : y_R_growBelow.cls = "DecodeTests$Tree" ∧ y_R_growBelow.cls ≠ "java/lang/invoke/MethodHandle" ∧ y_R_growBelow.cls ≠ "java/lang/invoke/VarHandle" ∧ (parseMethodDescriptor y_R_growBelow.desc).map (fun d => d.parameters.length) = some 5 := by decide +kernel
abbrev b_R_addLeaf : ByteArray := prog_5_method_5_code
abbrev y_R_addLeaf : MethodName := ⟨"DecodeTests$Tree", "addLeaf", "(II)I"⟩
def ws_R_addLeaf : List Cond := .code y_R_addLeaf b_R_addLeaf 4 (some .int) :: zz_T
theorem q_c_R_addLeaf : Cond.code y_R_addLeaf b_R_addLeaf 4 (some .int) ∈ zz_T := zz_inT (zz_in2 (List.mem_of_getElem? (i := 53) rfl)) rfl
theorem q_i_R_addLeaf : Cond.instanceMethod y_R_addLeaf ∈ zz_T := zz_inT (zz_in2 (List.mem_of_getElem? (i := 52) rfl)) rfl
theorem q_sel_R_addLeaf : Cond.selects "DecodeTests$Tree" y_R_addLeaf y_R_addLeaf ∈ zz_T := zz_inT (zz_in0 (List.mem_map.mpr ⟨(y_R_addLeaf, 8), by decide +kernel, rfl⟩)) rfl
theorem k_R_addLeaf : y_R_addLeaf.cls = "DecodeTests$Tree" ∧ y_R_addLeaf.cls ≠ "java/lang/invoke/MethodHandle" ∧ y_R_addLeaf.cls ≠ "java/lang/invoke/VarHandle" ∧ (parseMethodDescriptor y_R_addLeaf.desc).map (fun d => d.parameters.length) = some 2 := by decide +kernel
abbrev b_R_addNode : ByteArray := prog_5_method_6_code
abbrev y_R_addNode : MethodName := ⟨"DecodeTests$Tree", "addNode", "(II)I"⟩
def ws_R_addNode : List Cond := .code y_R_addNode b_R_addNode 4 (some .int) :: zz_T
theorem q_c_R_addNode : Cond.code y_R_addNode b_R_addNode 4 (some .int) ∈ zz_T := zz_inT (zz_in2 (List.mem_of_getElem? (i := 57) rfl)) rfl
theorem q_i_R_addNode : Cond.instanceMethod y_R_addNode ∈ zz_T := zz_inT (zz_in2 (List.mem_of_getElem? (i := 56) rfl)) rfl
theorem q_sel_R_addNode : Cond.selects "DecodeTests$Tree" y_R_addNode y_R_addNode ∈ zz_T := zz_inT (zz_in0 (List.mem_map.mpr ⟨(y_R_addNode, 8), by decide +kernel, rfl⟩)) rfl
theorem k_R_addNode : y_R_addNode.cls = "DecodeTests$Tree" ∧ y_R_addNode.cls ≠ "java/lang/invoke/MethodHandle" ∧ y_R_addNode.cls ≠ "java/lang/invoke/VarHandle" ∧ (parseMethodDescriptor y_R_addNode.desc).map (fun d => d.parameters.length) = some 2 := by decide +kernel
abbrev b_R_size : ByteArray := prog_5_method_7_code
abbrev y_R_size : MethodName := ⟨"DecodeTests$Tree", "size", "()I"⟩
def ws_R_size : List Cond := .code y_R_size b_R_size 1 (some .int) :: zz_T
theorem q_c_R_size : Cond.code y_R_size b_R_size 1 (some .int) ∈ zz_T := zz_inT (zz_in1 (List.mem_of_getElem? (i := 230) rfl)) rfl
theorem q_i_R_size : Cond.instanceMethod y_R_size ∈ zz_T := zz_inT (zz_in1 (List.mem_of_getElem? (i := 228) rfl)) rfl
theorem q_sel_R_size : Cond.selects "DecodeTests$Tree" y_R_size y_R_size ∈ zz_T := zz_inT (zz_in1 (List.mem_of_getElem? (i := 229) rfl)) rfl
theorem k_R_size : y_R_size.cls = "DecodeTests$Tree" ∧ y_R_size.cls ≠ "java/lang/invoke/MethodHandle" ∧ y_R_size.cls ≠ "java/lang/invoke/VarHandle" ∧ (parseMethodDescriptor y_R_size.desc).map (fun d => d.parameters.length) = some 0 := by decide +kernel
abbrev b_R_leaves : ByteArray := prog_5_method_8_code
abbrev y_R_leaves : MethodName := ⟨"DecodeTests$Tree", "leaves", "()I"⟩
def ws_R_leaves : List Cond := .code y_R_leaves b_R_leaves 1 (some .int) :: zz_T
theorem q_c_R_leaves : Cond.code y_R_leaves b_R_leaves 1 (some .int) ∈ zz_T := zz_inT (zz_in2 (List.mem_of_getElem? (i := 62) rfl)) rfl
theorem q_i_R_leaves : Cond.instanceMethod y_R_leaves ∈ zz_T := zz_inT (zz_in2 (List.mem_of_getElem? (i := 60) rfl)) rfl
theorem q_sel_R_leaves : Cond.selects "DecodeTests$Tree" y_R_leaves y_R_leaves ∈ zz_T := zz_inT (zz_in2 (List.mem_of_getElem? (i := 61) rfl)) rfl
theorem k_R_leaves : y_R_leaves.cls = "DecodeTests$Tree" ∧ y_R_leaves.cls ≠ "java/lang/invoke/MethodHandle" ∧ y_R_leaves.cls ≠ "java/lang/invoke/VarHandle" ∧ (parseMethodDescriptor y_R_leaves.desc).map (fun d => d.parameters.length) = some 0 := by decide +kernel
abbrev b_R_has : ByteArray := prog_5_method_9_code
abbrev y_R_has : MethodName := ⟨"DecodeTests$Tree", "has", "(I)Z"⟩
def ws_R_has : List Cond := .code y_R_has b_R_has 2 (some .boolean) :: zz_T
theorem q_c_R_has : Cond.code y_R_has b_R_has 2 (some .boolean) ∈ zz_T := zz_inT (zz_in3 (List.mem_of_getElem? (i := 50) rfl)) rfl
theorem q_i_R_has : Cond.instanceMethod y_R_has ∈ zz_T := zz_inT (zz_in3 (List.mem_of_getElem? (i := 48) rfl)) rfl
theorem q_sel_R_has : Cond.selects "DecodeTests$Tree" y_R_has y_R_has ∈ zz_T := zz_inT (zz_in3 (List.mem_of_getElem? (i := 49) rfl)) rfl
theorem k_R_has : y_R_has.cls = "DecodeTests$Tree" ∧ y_R_has.cls ≠ "java/lang/invoke/MethodHandle" ∧ y_R_has.cls ≠ "java/lang/invoke/VarHandle" ∧ (parseMethodDescriptor y_R_has.desc).map (fun d => d.parameters.length) = some 1 := by decide +kernel
abbrev b_R_bitOf : ByteArray := prog_5_method_10_code
abbrev y_R_bitOf : MethodName := ⟨"DecodeTests$Tree", "bitOf", "(I)I"⟩
def ws_R_bitOf : List Cond := .code y_R_bitOf b_R_bitOf 2 (some .int) :: zz_T
theorem q_c_R_bitOf : Cond.code y_R_bitOf b_R_bitOf 2 (some .int) ∈ zz_T := zz_inT (zz_in3 (List.mem_of_getElem? (i := 70) rfl)) rfl
theorem q_i_R_bitOf : Cond.instanceMethod y_R_bitOf ∈ zz_T := zz_inT (zz_in3 (List.mem_of_getElem? (i := 68) rfl)) rfl
theorem q_sel_R_bitOf : Cond.selects "DecodeTests$Tree" y_R_bitOf y_R_bitOf ∈ zz_T := zz_inT (zz_in3 (List.mem_of_getElem? (i := 69) rfl)) rfl
theorem k_R_bitOf : y_R_bitOf.cls = "DecodeTests$Tree" ∧ y_R_bitOf.cls ≠ "java/lang/invoke/MethodHandle" ∧ y_R_bitOf.cls ≠ "java/lang/invoke/VarHandle" ∧ (parseMethodDescriptor y_R_bitOf.desc).map (fun d => d.parameters.length) = some 1 := by decide +kernel
abbrev b_R_sideOf : ByteArray := prog_5_method_11_code
abbrev y_R_sideOf : MethodName := ⟨"DecodeTests$Tree", "sideOf", "(II)I"⟩
def ws_R_sideOf : List Cond := .code y_R_sideOf b_R_sideOf 3 (some .int) :: zz_T
theorem q_c_R_sideOf : Cond.code y_R_sideOf b_R_sideOf 3 (some .int) ∈ zz_T := zz_inT (zz_in3 (List.mem_of_getElem? (i := 14) rfl)) rfl
theorem q_i_R_sideOf : Cond.instanceMethod y_R_sideOf ∈ zz_T := zz_inT (zz_in3 (List.mem_of_getElem? (i := 12) rfl)) rfl
theorem q_sel_R_sideOf : Cond.selects "DecodeTests$Tree" y_R_sideOf y_R_sideOf ∈ zz_T := zz_inT (zz_in3 (List.mem_of_getElem? (i := 13) rfl)) rfl
theorem k_R_sideOf : y_R_sideOf.cls = "DecodeTests$Tree" ∧ y_R_sideOf.cls ≠ "java/lang/invoke/MethodHandle" ∧ y_R_sideOf.cls ≠ "java/lang/invoke/VarHandle" ∧ (parseMethodDescriptor y_R_sideOf.desc).map (fun d => d.parameters.length) = some 2 := by decide +kernel
abbrev b_R_depthOf : ByteArray := prog_5_method_12_code
abbrev y_R_depthOf : MethodName := ⟨"DecodeTests$Tree", "depthOf", "(I)I"⟩
def ws_R_depthOf : List Cond := .code y_R_depthOf b_R_depthOf 2 (some .int) :: zz_T
theorem q_c_R_depthOf : Cond.code y_R_depthOf b_R_depthOf 2 (some .int) ∈ zz_T := zz_inT (zz_in3 (List.mem_of_getElem? (i := 26) rfl)) rfl
theorem q_i_R_depthOf : Cond.instanceMethod y_R_depthOf ∈ zz_T := zz_inT (zz_in3 (List.mem_of_getElem? (i := 24) rfl)) rfl
theorem q_sel_R_depthOf : Cond.selects "DecodeTests$Tree" y_R_depthOf y_R_depthOf ∈ zz_T := zz_inT (zz_in3 (List.mem_of_getElem? (i := 25) rfl)) rfl
theorem k_R_depthOf : y_R_depthOf.cls = "DecodeTests$Tree" ∧ y_R_depthOf.cls ≠ "java/lang/invoke/MethodHandle" ∧ y_R_depthOf.cls ≠ "java/lang/invoke/VarHandle" ∧ (parseMethodDescriptor y_R_depthOf.desc).map (fun d => d.parameters.length) = some 1 := by decide +kernel
abbrev b_R_wordsOf : ByteArray := prog_5_method_13_code
abbrev y_R_wordsOf : MethodName := ⟨"DecodeTests$Tree", "wordsOf", "(I)I"⟩
def ws_R_wordsOf : List Cond := .code y_R_wordsOf b_R_wordsOf 2 (some .int) :: zz_T
theorem q_c_R_wordsOf : Cond.code y_R_wordsOf b_R_wordsOf 2 (some .int) ∈ zz_T := zz_inT (zz_in3 (List.mem_of_getElem? (i := 75) rfl)) rfl
theorem q_i_R_wordsOf : Cond.instanceMethod y_R_wordsOf ∈ zz_T := zz_inT (zz_in3 (List.mem_of_getElem? (i := 73) rfl)) rfl
theorem q_sel_R_wordsOf : Cond.selects "DecodeTests$Tree" y_R_wordsOf y_R_wordsOf ∈ zz_T := zz_inT (zz_in3 (List.mem_of_getElem? (i := 74) rfl)) rfl
theorem k_R_wordsOf : y_R_wordsOf.cls = "DecodeTests$Tree" ∧ y_R_wordsOf.cls ≠ "java/lang/invoke/MethodHandle" ∧ y_R_wordsOf.cls ≠ "java/lang/invoke/VarHandle" ∧ (parseMethodDescriptor y_R_wordsOf.desc).map (fun d => d.parameters.length) = some 1 := by decide +kernel
abbrev b_R_listOf : ByteArray := prog_5_method_14_code
abbrev y_R_listOf : MethodName := ⟨"DecodeTests$Tree", "listOf", "(I)I"⟩
def ws_R_listOf : List Cond := .code y_R_listOf b_R_listOf 2 (some .int) :: zz_T
theorem q_c_R_listOf : Cond.code y_R_listOf b_R_listOf 2 (some .int) ∈ zz_T := zz_inT (zz_in3 (List.mem_of_getElem? (i := 18) rfl)) rfl
theorem q_i_R_listOf : Cond.instanceMethod y_R_listOf ∈ zz_T := zz_inT (zz_in3 (List.mem_of_getElem? (i := 16) rfl)) rfl
theorem q_sel_R_listOf : Cond.selects "DecodeTests$Tree" y_R_listOf y_R_listOf ∈ zz_T := zz_inT (zz_in3 (List.mem_of_getElem? (i := 17) rfl)) rfl
theorem k_R_listOf : y_R_listOf.cls = "DecodeTests$Tree" ∧ y_R_listOf.cls ≠ "java/lang/invoke/MethodHandle" ∧ y_R_listOf.cls ≠ "java/lang/invoke/VarHandle" ∧ (parseMethodDescriptor y_R_listOf.desc).map (fun d => d.parameters.length) = some 1 := by decide +kernel
abbrev b_R_leafFor : ByteArray := prog_5_method_15_code
abbrev y_R_leafFor : MethodName := ⟨"DecodeTests$Tree", "leafFor", "(I)I"⟩
def ws_R_leafFor : List Cond := .code y_R_leafFor b_R_leafFor 4 (some .int) :: zz_T
theorem q_c_R_leafFor : Cond.code y_R_leafFor b_R_leafFor 4 (some .int) ∈ zz_T := zz_inT (zz_in3 (List.mem_of_getElem? (i := 10) rfl)) rfl
theorem q_i_R_leafFor : Cond.instanceMethod y_R_leafFor ∈ zz_T := zz_inT (zz_in3 (List.mem_of_getElem? (i := 8) rfl)) rfl
theorem q_sel_R_leafFor : Cond.selects "DecodeTests$Tree" y_R_leafFor y_R_leafFor ∈ zz_T := zz_inT (zz_in3 (List.mem_of_getElem? (i := 9) rfl)) rfl
theorem k_R_leafFor : y_R_leafFor.cls = "DecodeTests$Tree" ∧ y_R_leafFor.cls ≠ "java/lang/invoke/MethodHandle" ∧ y_R_leafFor.cls ≠ "java/lang/invoke/VarHandle" ∧ (parseMethodDescriptor y_R_leafFor.desc).map (fun d => d.parameters.length) = some 1 := by decide +kernel
abbrev b_W_init : ByteArray := prog_6_method_1_code
abbrev y_W_init : MethodName := ⟨"DecodeTests$Waiting", "<init>", "()V"⟩
def ws_W_init : List Cond := .code y_W_init b_W_init 1 none :: zz_T
theorem q_c_W_init : Cond.code y_W_init b_W_init 1 none ∈ zz_T := zz_inT (zz_in1 (List.mem_of_getElem? (i := 145) rfl)) rfl
theorem q_i_W_init : Cond.instanceMethod y_W_init ∈ zz_T := zz_inT (zz_in1 (List.mem_of_getElem? (i := 144) rfl)) rfl
theorem k_W_init : y_W_init.cls = "DecodeTests$Waiting" ∧ y_W_init.cls ≠ "java/lang/invoke/MethodHandle" ∧ y_W_init.cls ≠ "java/lang/invoke/VarHandle" ∧ (parseMethodDescriptor y_W_init.desc).map (fun d => d.parameters.length) = some 0 := by decide +kernel
abbrev b_W_size : ByteArray := prog_6_method_2_code
abbrev y_W_size : MethodName := ⟨"DecodeTests$Waiting", "size", "()I"⟩
def ws_W_size : List Cond := .code y_W_size b_W_size 1 (some .int) :: zz_T
theorem q_c_W_size : Cond.code y_W_size b_W_size 1 (some .int) ∈ zz_T := zz_inT (zz_in2 (List.mem_of_getElem? (i := 66) rfl)) rfl
theorem q_i_W_size : Cond.instanceMethod y_W_size ∈ zz_T := zz_inT (zz_in2 (List.mem_of_getElem? (i := 64) rfl)) rfl
theorem q_sel_W_size : Cond.selects "DecodeTests$Waiting" y_W_size y_W_size ∈ zz_T := zz_inT (zz_in2 (List.mem_of_getElem? (i := 65) rfl)) rfl
theorem k_W_size : y_W_size.cls = "DecodeTests$Waiting" ∧ y_W_size.cls ≠ "java/lang/invoke/MethodHandle" ∧ y_W_size.cls ≠ "java/lang/invoke/VarHandle" ∧ (parseMethodDescriptor y_W_size.desc).map (fun d => d.parameters.length) = some 0 := by decide +kernel
abbrev b_W_first : ByteArray := prog_6_method_3_code
abbrev y_W_first : MethodName := ⟨"DecodeTests$Waiting", "first", "()I"⟩
def ws_W_first : List Cond := .code y_W_first b_W_first 1 (some .int) :: zz_T
theorem q_c_W_first : Cond.code y_W_first b_W_first 1 (some .int) ∈ zz_T := zz_inT (zz_in3 (List.mem_of_getElem? (i := 153) rfl)) rfl
theorem q_i_W_first : Cond.instanceMethod y_W_first ∈ zz_T := zz_inT (zz_in3 (List.mem_of_getElem? (i := 151) rfl)) rfl
theorem q_sel_W_first : Cond.selects "DecodeTests$Waiting" y_W_first y_W_first ∈ zz_T := zz_inT (zz_in3 (List.mem_of_getElem? (i := 152) rfl)) rfl
theorem k_W_first : y_W_first.cls = "DecodeTests$Waiting" ∧ y_W_first.cls ≠ "java/lang/invoke/MethodHandle" ∧ y_W_first.cls ≠ "java/lang/invoke/VarHandle" ∧ (parseMethodDescriptor y_W_first.desc).map (fun d => d.parameters.length) = some 0 := by decide +kernel
abbrev b_W_append : ByteArray := prog_6_method_4_code
abbrev y_W_append : MethodName := ⟨"DecodeTests$Waiting", "append", "(I)V"⟩
def ws_W_append : List Cond := .code y_W_append b_W_append 2 none :: zz_T
theorem q_c_W_append : Cond.code y_W_append b_W_append 2 none ∈ zz_T := zz_inT (zz_in3 (List.mem_of_getElem? (i := 124) rfl)) rfl
theorem q_i_W_append : Cond.instanceMethod y_W_append ∈ zz_T := zz_inT (zz_in3 (List.mem_of_getElem? (i := 122) rfl)) rfl
theorem q_sel_W_append : Cond.selects "DecodeTests$Waiting" y_W_append y_W_append ∈ zz_T := zz_inT (zz_in3 (List.mem_of_getElem? (i := 123) rfl)) rfl
theorem k_W_append : y_W_append.cls = "DecodeTests$Waiting" ∧ y_W_append.cls ≠ "java/lang/invoke/MethodHandle" ∧ y_W_append.cls ≠ "java/lang/invoke/VarHandle" ∧ (parseMethodDescriptor y_W_append.desc).map (fun d => d.parameters.length) = some 1 := by decide +kernel
abbrev b_W_drop : ByteArray := prog_6_method_5_code
abbrev y_W_drop : MethodName := ⟨"DecodeTests$Waiting", "drop", "(I)V"⟩
def ws_W_drop : List Cond := .code y_W_drop b_W_drop 2 none :: zz_T
theorem q_c_W_drop : Cond.code y_W_drop b_W_drop 2 none ∈ zz_T := zz_inT (zz_in3 (List.mem_of_getElem? (i := 161) rfl)) rfl
theorem q_i_W_drop : Cond.instanceMethod y_W_drop ∈ zz_T := zz_inT (zz_in3 (List.mem_of_getElem? (i := 159) rfl)) rfl
theorem q_sel_W_drop : Cond.selects "DecodeTests$Waiting" y_W_drop y_W_drop ∈ zz_T := zz_inT (zz_in3 (List.mem_of_getElem? (i := 160) rfl)) rfl
theorem k_W_drop : y_W_drop.cls = "DecodeTests$Waiting" ∧ y_W_drop.cls ≠ "java/lang/invoke/MethodHandle" ∧ y_W_drop.cls ≠ "java/lang/invoke/VarHandle" ∧ (parseMethodDescriptor y_W_drop.desc).map (fun d => d.parameters.length) = some 1 := by decide +kernel
abbrev b_L_cell : ByteArray := method_2_code
abbrev y_L_cell : MethodName := ⟨"DecodeTestsLaw", "cell", "([II)I"⟩
def ws_L_cell : List Cond := .code y_L_cell b_L_cell 2 (some .int) :: zz_T
theorem q_c_L_cell : Cond.code y_L_cell b_L_cell 2 (some .int) ∈ zz_T := zz_inT (zz_in2 (List.mem_of_getElem? (i := 73) rfl)) rfl
theorem q_s_L_cell : Cond.static y_L_cell ∈ zz_T := zz_inT (zz_in2 (List.mem_of_getElem? (i := 72) rfl)) rfl
theorem k_L_cell : y_L_cell.cls = "DecodeTestsLaw" ∧ y_L_cell.cls ≠ "java/lang/invoke/MethodHandle" ∧ y_L_cell.cls ≠ "java/lang/invoke/VarHandle" ∧ (parseMethodDescriptor y_L_cell.desc).map (fun d => d.parameters.length) = some 2 := by decide +kernel
abbrev b_L_encoding : ByteArray := method_3_code
abbrev y_L_encoding : MethodName := ⟨"DecodeTestsLaw", "encoding", "(LDecodeTests;IIII[J)I"⟩
theorem q_s_L_encoding : Cond.static y_L_encoding ∈ zz_T := zz_inT (zz_in2 (List.mem_of_getElem? (i := 75) rfl)) rfl
theorem k_L_encoding : y_L_encoding.cls = "DecodeTestsLaw" ∧ y_L_encoding.cls ≠ "java/lang/invoke/MethodHandle" ∧ y_L_encoding.cls ≠ "java/lang/invoke/VarHandle" ∧ (parseMethodDescriptor y_L_encoding.desc).map (fun d => d.parameters.length) = some 6 := by decide +kernel
abbrev b_L_kind : ByteArray := method_4_code
abbrev y_L_kind : MethodName := ⟨"DecodeTestsLaw", "kind", "(LDecodeTests;I[J)I"⟩
theorem q_s_L_kind : Cond.static y_L_kind ∈ zz_T := zz_inT (zz_in2 (List.mem_of_getElem? (i := 196) rfl)) rfl
theorem k_L_kind : y_L_kind.cls = "DecodeTestsLaw" ∧ y_L_kind.cls ≠ "java/lang/invoke/MethodHandle" ∧ y_L_kind.cls ≠ "java/lang/invoke/VarHandle" ∧ (parseMethodDescriptor y_L_kind.desc).map (fun d => d.parameters.length) = some 3 := by decide +kernel
abbrev b_L_tried : ByteArray := method_5_code
abbrev y_L_tried : MethodName := ⟨"DecodeTestsLaw", "tried", "(LDecodeTests;II[J)I"⟩
theorem q_s_L_tried : Cond.static y_L_tried ∈ zz_T := zz_inT (zz_in2 (List.mem_of_getElem? (i := 207) rfl)) rfl
theorem k_L_tried : y_L_tried.cls = "DecodeTestsLaw" ∧ y_L_tried.cls ≠ "java/lang/invoke/MethodHandle" ∧ y_L_tried.cls ≠ "java/lang/invoke/VarHandle" ∧ (parseMethodDescriptor y_L_tried.desc).map (fun d => d.parameters.length) = some 4 := by decide +kernel
abbrev b_L_decode : ByteArray := method_6_code
abbrev y_L_decode : MethodName := ⟨"DecodeTestsLaw", "decode", "(LDecodeTests;II[J)I"⟩
theorem q_s_L_decode : Cond.static y_L_decode ∈ zz_T := zz_inT (zz_in2 (List.mem_of_getElem? (i := 226) rfl)) rfl
theorem k_L_decode : y_L_decode.cls = "DecodeTestsLaw" ∧ y_L_decode.cls ≠ "java/lang/invoke/MethodHandle" ∧ y_L_decode.cls ≠ "java/lang/invoke/VarHandle" ∧ (parseMethodDescriptor y_L_decode.desc).map (fun d => d.parameters.length) = some 4 := by decide +kernel
abbrev b_L_tests : ByteArray := method_7_code
abbrev y_L_tests : MethodName := ⟨"DecodeTestsLaw", "tests", "(LDecodeTests;I[J)I"⟩
theorem q_s_L_tests : Cond.static y_L_tests ∈ zz_T := zz_inT (zz_in3 (List.mem_of_getElem? (i := 32) rfl)) rfl
theorem k_L_tests : y_L_tests.cls = "DecodeTestsLaw" ∧ y_L_tests.cls ≠ "java/lang/invoke/MethodHandle" ∧ y_L_tests.cls ≠ "java/lang/invoke/VarHandle" ∧ (parseMethodDescriptor y_L_tests.desc).map (fun d => d.parameters.length) = some 3 := by decide +kernel
abbrev b_L_node : ByteArray := method_8_code
abbrev y_L_node : MethodName := ⟨"DecodeTestsLaw", "node", "(LDecodeTests;II[J)I"⟩
theorem q_s_L_node : Cond.static y_L_node ∈ zz_T := zz_inT (zz_in3 (List.mem_of_getElem? (i := 40) rfl)) rfl
theorem k_L_node : y_L_node.cls = "DecodeTestsLaw" ∧ y_L_node.cls ≠ "java/lang/invoke/MethodHandle" ∧ y_L_node.cls ≠ "java/lang/invoke/VarHandle" ∧ (parseMethodDescriptor y_L_node.desc).map (fun d => d.parameters.length) = some 4 := by decide +kernel
abbrev b_L_listed : ByteArray := method_9_code
abbrev y_L_listed : MethodName := ⟨"DecodeTestsLaw", "listed", "(LDecodeTests;II[J)I"⟩
theorem q_s_L_listed : Cond.static y_L_listed ∈ zz_T := zz_inT (zz_in3 (List.mem_of_getElem? (i := 79) rfl)) rfl
theorem k_L_listed : y_L_listed.cls = "DecodeTestsLaw" ∧ y_L_listed.cls ≠ "java/lang/invoke/MethodHandle" ∧ y_L_listed.cls ≠ "java/lang/invoke/VarHandle" ∧ (parseMethodDescriptor y_L_listed.desc).map (fun d => d.parameters.length) = some 4 := by decide +kernel
abbrev b_L_cost : ByteArray := method_10_code
abbrev y_L_cost : MethodName := ⟨"DecodeTestsLaw", "cost", "(LDecodeTests;II[J)I"⟩
theorem q_s_L_cost : Cond.static y_L_cost ∈ zz_T := zz_inT (zz_in3 (List.mem_of_getElem? (i := 90) rfl)) rfl
theorem k_L_cost : y_L_cost.cls = "DecodeTestsLaw" ∧ y_L_cost.cls ≠ "java/lang/invoke/MethodHandle" ∧ y_L_cost.cls ≠ "java/lang/invoke/VarHandle" ∧ (parseMethodDescriptor y_L_cost.desc).map (fun d => d.parameters.length) = some 4 := by decide +kernel
abbrev b_L_feed : ByteArray := method_11_code
abbrev y_L_feed : MethodName := ⟨"DecodeTestsLaw", "feed", "(LDecodeTests;I[J)I"⟩
theorem q_s_L_feed : Cond.static y_L_feed ∈ zz_T := zz_inT (zz_in3 (List.mem_of_getElem? (i := 114) rfl)) rfl
theorem k_L_feed : y_L_feed.cls = "DecodeTestsLaw" ∧ y_L_feed.cls ≠ "java/lang/invoke/MethodHandle" ∧ y_L_feed.cls ≠ "java/lang/invoke/VarHandle" ∧ (parseMethodDescriptor y_L_feed.desc).map (fun d => d.parameters.length) = some 3 := by decide +kernel
abbrev b_L_take : ByteArray := method_12_code
abbrev y_L_take : MethodName := ⟨"DecodeTestsLaw", "take", "(LDecodeTests;I[J)I"⟩
theorem q_s_L_take : Cond.static y_L_take ∈ zz_T := zz_inT (zz_in3 (List.mem_of_getElem? (i := 126) rfl)) rfl
theorem k_L_take : y_L_take.cls = "DecodeTestsLaw" ∧ y_L_take.cls ≠ "java/lang/invoke/MethodHandle" ∧ y_L_take.cls ≠ "java/lang/invoke/VarHandle" ∧ (parseMethodDescriptor y_L_take.desc).map (fun d => d.parameters.length) = some 3 := by decide +kernel
abbrev b_JI_bitCount : ByteArray := prog_13_method_49_code
abbrev y_JI_bitCount : MethodName := ⟨"java/lang/Integer", "bitCount", "(I)I"⟩
def ws_JI_bitCount : List Cond := .code y_JI_bitCount b_JI_bitCount 1 (some .int) :: zz_T
theorem q_c_JI_bitCount : Cond.code y_JI_bitCount b_JI_bitCount 1 (some .int) ∈ zz_T := zz_inT (zz_in2 (List.mem_of_getElem? (i := 23) rfl)) rfl
theorem q_s_JI_bitCount : Cond.static y_JI_bitCount ∈ zz_T := zz_inT (zz_in2 (List.mem_of_getElem? (i := 22) rfl)) rfl
theorem k_JI_bitCount : y_JI_bitCount.cls = "java/lang/Integer" ∧ y_JI_bitCount.cls ≠ "java/lang/invoke/MethodHandle" ∧ y_JI_bitCount.cls ≠ "java/lang/invoke/VarHandle" ∧ (parseMethodDescriptor y_JI_bitCount.desc).map (fun d => d.parameters.length) = some 1 := by decide +kernel
abbrev b_JI_numberOfTrailingZeros : ByteArray := prog_13_method_48_code
abbrev y_JI_numberOfTrailingZeros : MethodName := ⟨"java/lang/Integer", "numberOfTrailingZeros", "(I)I"⟩
def ws_JI_numberOfTrailingZeros : List Cond := .code y_JI_numberOfTrailingZeros b_JI_numberOfTrailingZeros 2 (some .int) :: zz_T
theorem q_c_JI_numberOfTrailingZeros : Cond.code y_JI_numberOfTrailingZeros b_JI_numberOfTrailingZeros 2 (some .int) ∈ zz_T := zz_inT (zz_in2 (List.mem_of_getElem? (i := 5) rfl)) rfl
theorem q_s_JI_numberOfTrailingZeros : Cond.static y_JI_numberOfTrailingZeros ∈ zz_T := zz_inT (zz_in2 (List.mem_of_getElem? (i := 4) rfl)) rfl
theorem k_JI_numberOfTrailingZeros : y_JI_numberOfTrailingZeros.cls = "java/lang/Integer" ∧ y_JI_numberOfTrailingZeros.cls ≠ "java/lang/invoke/MethodHandle" ∧ y_JI_numberOfTrailingZeros.cls ≠ "java/lang/invoke/VarHandle" ∧ (parseMethodDescriptor y_JI_numberOfTrailingZeros.desc).map (fun d => d.parameters.length) = some 1 := by decide +kernel
abbrev b_JM_floorMod : ByteArray := prog_14_method_50_code
abbrev y_JM_floorMod : MethodName := ⟨"java/lang/Math", "floorMod", "(II)I"⟩
def ws_JM_floorMod : List Cond := .code y_JM_floorMod b_JM_floorMod 3 (some .int) :: zz_T
theorem q_c_JM_floorMod : Cond.code y_JM_floorMod b_JM_floorMod 3 (some .int) ∈ zz_T := zz_inT (zz_in1 (List.mem_of_getElem? (i := 27) rfl)) rfl
theorem q_s_JM_floorMod : Cond.static y_JM_floorMod ∈ zz_T := zz_inT (zz_in1 (List.mem_of_getElem? (i := 26) rfl)) rfl
theorem k_JM_floorMod : y_JM_floorMod.cls = "java/lang/Math" ∧ y_JM_floorMod.cls ≠ "java/lang/invoke/MethodHandle" ∧ y_JM_floorMod.cls ≠ "java/lang/invoke/VarHandle" ∧ (parseMethodDescriptor y_JM_floorMod.desc).map (fun d => d.parameters.length) = some 2 := by decide +kernel
abbrev b_JM_max : ByteArray := prog_14_method_65_code
abbrev y_JM_max : MethodName := ⟨"java/lang/Math", "max", "(II)I"⟩
def ws_JM_max : List Cond := .code y_JM_max b_JM_max 2 (some .int) :: zz_T
theorem q_c_JM_max : Cond.code y_JM_max b_JM_max 2 (some .int) ∈ zz_T := zz_inT (zz_in2 (List.mem_of_getElem? (i := 17) rfl)) rfl
theorem q_s_JM_max : Cond.static y_JM_max ∈ zz_T := zz_inT (zz_in2 (List.mem_of_getElem? (i := 16) rfl)) rfl
theorem k_JM_max : y_JM_max.cls = "java/lang/Math" ∧ y_JM_max.cls ≠ "java/lang/invoke/MethodHandle" ∧ y_JM_max.cls ≠ "java/lang/invoke/VarHandle" ∧ (parseMethodDescriptor y_JM_max.desc).map (fun d => d.parameters.length) = some 2 := by decide +kernel
abbrev b_JM_min : ByteArray := prog_14_method_69_code
abbrev y_JM_min : MethodName := ⟨"java/lang/Math", "min", "(II)I"⟩
def ws_JM_min : List Cond := .code y_JM_min b_JM_min 2 (some .int) :: zz_T
theorem q_c_JM_min : Cond.code y_JM_min b_JM_min 2 (some .int) ∈ zz_T := zz_inT (zz_in2 (List.mem_of_getElem? (i := 20) rfl)) rfl
theorem q_s_JM_min : Cond.static y_JM_min ∈ zz_T := zz_inT (zz_in2 (List.mem_of_getElem? (i := 19) rfl)) rfl
theorem k_JM_min : y_JM_min.cls = "java/lang/Math" ∧ y_JM_min.cls ≠ "java/lang/invoke/MethodHandle" ∧ y_JM_min.cls ≠ "java/lang/invoke/VarHandle" ∧ (parseMethodDescriptor y_JM_min.desc).map (fun d => d.parameters.length) = some 2 := by decide +kernel
theorem q_in_D : Cond.initialized "DecodeTests" ∈ zz_T := zz_inT (zz_in1 (List.mem_of_getElem? (i := 1) rfl)) rfl
theorem q_in_E : Cond.initialized "DecodeTests$Encodings" ∈ zz_T := zz_inT (zz_in1 (List.mem_of_getElem? (i := 3) rfl)) rfl
theorem q_in_K : Cond.initialized "DecodeTests$Kept" ∈ zz_T := zz_inT (zz_in1 (List.mem_of_getElem? (i := 6) rfl)) rfl
theorem q_in_T : Cond.initialized "DecodeTests$Tables" ∈ zz_T := zz_inT (zz_in1 (List.mem_of_getElem? (i := 4) rfl)) rfl
theorem q_in_R : Cond.initialized "DecodeTests$Tree" ∈ zz_T := zz_inT (zz_in1 (List.mem_of_getElem? (i := 5) rfl)) rfl
theorem q_in_W : Cond.initialized "DecodeTests$Waiting" ∈ zz_T := zz_inT (zz_in1 (List.mem_of_getElem? (i := 7) rfl)) rfl
theorem q_in_M : Cond.initialized "DecodeTestsModel" ∈ zz_T := zz_inT (zz_in1 (List.mem_of_getElem? (i := 8) rfl)) rfl
theorem q_in_L : Cond.initialized "DecodeTestsLaw" ∈ zz_T := zz_inT (zz_in1 (List.mem_of_getElem? (i := 0) rfl)) rfl
theorem q_in_JI : Cond.initialized "java/lang/Integer" ∈ zz_T := zz_inT (zz_in1 (List.mem_of_getElem? (i := 14) rfl)) rfl
theorem q_in_JM : Cond.initialized "java/lang/Math" ∈ zz_T := zz_inT (zz_in1 (List.mem_of_getElem? (i := 2) rfl)) rfl
theorem q_arr : Cond.arrayClass .int ∈ zz_T := zz_inT (zz_in1 (List.mem_of_getElem? (i := 59) rfl)) rfl
theorem q_cl_L_8 : Cond.classLink "DecodeTestsLaw" 8 "DecodeTests" ∈ zz_T := zz_inT (zz_in1 (List.mem_of_getElem? (i := 17) rfl)) rfl
theorem q_inst_D : Cond.instantiable "DecodeTests" 11 ∈ zz_T := zz_inT (zz_in1 (List.mem_of_getElem? (i := 18) rfl)) rfl
theorem q_m_L_56 : Cond.methodLink "DecodeTestsLaw" 56 y_D_init ∈ zz_T := zz_inT (zz_in1 (List.mem_of_getElem? (i := 19) rfl)) rfl
theorem q_m_D_1 : Cond.methodLink "DecodeTests" 1 ⟨"java/lang/Object", "<init>", "()V"⟩ ∈ zz_T := zz_inT (zz_in1 (List.mem_of_getElem? (i := 22) rfl)) rfl
theorem q_m_D_9 : Cond.methodLink "DecodeTests" 9 y_JM_floorMod ∈ zz_T := zz_inT (zz_in1 (List.mem_of_getElem? (i := 25) rfl)) rfl
theorem q_cl_D_19 : Cond.classLink "DecodeTests" 19 "DecodeTests$Encodings" ∈ zz_T := zz_inT (zz_in1 (List.mem_of_getElem? (i := 28) rfl)) rfl
theorem q_inst_E : Cond.instantiable "DecodeTests$Encodings" 8 ∈ zz_T := zz_inT (zz_in1 (List.mem_of_getElem? (i := 29) rfl)) rfl
theorem q_m_D_21 : Cond.methodLink "DecodeTests" 21 y_E_init ∈ zz_T := zz_inT (zz_in1 (List.mem_of_getElem? (i := 30) rfl)) rfl
theorem q_m_E_3 : Cond.methodLink "DecodeTests$Encodings" 3 ⟨"java/lang/Object", "<init>", "()V"⟩ ∈ zz_T := zz_inT (zz_in1 (List.mem_of_getElem? (i := 33) rfl)) rfl
theorem q_f_E_24 : Cond.fieldLink "DecodeTests$Encodings" 24 "DecodeTests$Encodings" "words" "I" ∈ zz_T := zz_inT (zz_in1 (List.mem_of_getElem? (i := 34) rfl)) rfl
theorem q_f_E_9 : Cond.fieldLink "DecodeTests$Encodings" 9 "DecodeTests$Encodings" "masks" "[I" ∈ zz_T := zz_inT (zz_in1 (List.mem_of_getElem? (i := 35) rfl)) rfl
theorem q_f_E_15 : Cond.fieldLink "DecodeTests$Encodings" 15 "DecodeTests$Encodings" "values" "[I" ∈ zz_T := zz_inT (zz_in1 (List.mem_of_getElem? (i := 36) rfl)) rfl
theorem q_f_E_18 : Cond.fieldLink "DecodeTests$Encodings" 18 "DecodeTests$Encodings" "lengths" "[I" ∈ zz_T := zz_inT (zz_in1 (List.mem_of_getElem? (i := 37) rfl)) rfl
theorem q_f_E_21 : Cond.fieldLink "DecodeTests$Encodings" 21 "DecodeTests$Encodings" "conditions" "[I" ∈ zz_T := zz_inT (zz_in1 (List.mem_of_getElem? (i := 38) rfl)) rfl
theorem q_f_E_28 : Cond.fieldLink "DecodeTests$Encodings" 28 "DecodeTests$Encodings" "lists" "[I" ∈ zz_T := zz_inT (zz_in1 (List.mem_of_getElem? (i := 39) rfl)) rfl
theorem q_f_E_38 : Cond.fieldLink "DecodeTests$Encodings" 38 "DecodeTests$Encodings" "unconditional" "I" ∈ zz_T := zz_inT (zz_in1 (List.mem_of_getElem? (i := 40) rfl)) rfl
theorem q_f_E_31 : Cond.fieldLink "DecodeTests$Encodings" 31 "DecodeTests$Encodings" "size" "I" ∈ zz_T := zz_inT (zz_in1 (List.mem_of_getElem? (i := 41) rfl)) rfl
theorem q_cl_D_28 : Cond.classLink "DecodeTests" 28 "DecodeTests$Tables" ∈ zz_T := zz_inT (zz_in1 (List.mem_of_getElem? (i := 60) rfl)) rfl
theorem q_inst_T : Cond.instantiable "DecodeTests$Tables" 6 ∈ zz_T := zz_inT (zz_in1 (List.mem_of_getElem? (i := 61) rfl)) rfl
theorem q_m_D_30 : Cond.methodLink "DecodeTests" 30 y_T_init ∈ zz_T := zz_inT (zz_in1 (List.mem_of_getElem? (i := 62) rfl)) rfl
theorem q_m_T_3 : Cond.methodLink "DecodeTests$Tables" 3 ⟨"java/lang/Object", "<init>", "()V"⟩ ∈ zz_T := zz_inT (zz_in1 (List.mem_of_getElem? (i := 65) rfl)) rfl
theorem q_f_T_15 : Cond.fieldLink "DecodeTests$Tables" 15 "DecodeTests$Tables" "POWERS" "[I" ∈ zz_T := zz_inT (zz_in1 (List.mem_of_getElem? (i := 66) rfl)) rfl
theorem q_f_T_9 : Cond.fieldLink "DecodeTests$Tables" 9 "DecodeTests$Tables" "bits" "I" ∈ zz_T := zz_inT (zz_in1 (List.mem_of_getElem? (i := 68) rfl)) rfl
theorem q_f_T_19 : Cond.fieldLink "DecodeTests$Tables" 19 "DecodeTests$Tables" "groups" "I" ∈ zz_T := zz_inT (zz_in1 (List.mem_of_getElem? (i := 69) rfl)) rfl
theorem q_f_T_22 : Cond.fieldLink "DecodeTests$Tables" 22 "DecodeTests$Tables" "common" "[I" ∈ zz_T := zz_inT (zz_in1 (List.mem_of_getElem? (i := 70) rfl)) rfl
theorem q_f_T_25 : Cond.fieldLink "DecodeTests$Tables" 25 "DecodeTests$Tables" "worst" "[I" ∈ zz_T := zz_inT (zz_in1 (List.mem_of_getElem? (i := 71) rfl)) rfl
theorem q_f_T_28 : Cond.fieldLink "DecodeTests$Tables" 28 "DecodeTests$Tables" "together" "[I" ∈ zz_T := zz_inT (zz_in1 (List.mem_of_getElem? (i := 72) rfl)) rfl
theorem q_f_T_31 : Cond.fieldLink "DecodeTests$Tables" 31 "DecodeTests$Tables" "current" "Z" ∈ zz_T := zz_inT (zz_in1 (List.mem_of_getElem? (i := 73) rfl)) rfl
theorem q_cl_D_35 : Cond.classLink "DecodeTests" 35 "DecodeTests$Tree" ∈ zz_T := zz_inT (zz_in1 (List.mem_of_getElem? (i := 87) rfl)) rfl
theorem q_inst_R : Cond.instantiable "DecodeTests$Tree" 8 ∈ zz_T := zz_inT (zz_in1 (List.mem_of_getElem? (i := 88) rfl)) rfl
theorem q_m_D_37 : Cond.methodLink "DecodeTests" 37 y_R_init ∈ zz_T := zz_inT (zz_in1 (List.mem_of_getElem? (i := 89) rfl)) rfl
theorem q_m_R_3 : Cond.methodLink "DecodeTests$Tree" 3 ⟨"java/lang/Object", "<init>", "()V"⟩ ∈ zz_T := zz_inT (zz_in1 (List.mem_of_getElem? (i := 92) rfl)) rfl
theorem q_f_R_9 : Cond.fieldLink "DecodeTests$Tree" 9 "DecodeTests$Tree" "bits" "I" ∈ zz_T := zz_inT (zz_in1 (List.mem_of_getElem? (i := 93) rfl)) rfl
theorem q_f_R_15 : Cond.fieldLink "DecodeTests$Tree" 15 "DecodeTests$Tree" "tested" "[I" ∈ zz_T := zz_inT (zz_in1 (List.mem_of_getElem? (i := 94) rfl)) rfl
theorem q_f_R_19 : Cond.fieldLink "DecodeTests$Tree" 19 "DecodeTests$Tree" "zeros" "[I" ∈ zz_T := zz_inT (zz_in1 (List.mem_of_getElem? (i := 95) rfl)) rfl
theorem q_f_R_22 : Cond.fieldLink "DecodeTests$Tree" 22 "DecodeTests$Tree" "ones" "[I" ∈ zz_T := zz_inT (zz_in1 (List.mem_of_getElem? (i := 96) rfl)) rfl
theorem q_f_R_25 : Cond.fieldLink "DecodeTests$Tree" 25 "DecodeTests$Tree" "depths" "[I" ∈ zz_T := zz_inT (zz_in1 (List.mem_of_getElem? (i := 97) rfl)) rfl
theorem q_f_R_28 : Cond.fieldLink "DecodeTests$Tree" 28 "DecodeTests$Tree" "lists" "[I" ∈ zz_T := zz_inT (zz_in1 (List.mem_of_getElem? (i := 98) rfl)) rfl
theorem q_f_R_31 : Cond.fieldLink "DecodeTests$Tree" 31 "DecodeTests$Tree" "size" "I" ∈ zz_T := zz_inT (zz_in1 (List.mem_of_getElem? (i := 99) rfl)) rfl
theorem q_f_R_34 : Cond.fieldLink "DecodeTests$Tree" 34 "DecodeTests$Tree" "leaves" "I" ∈ zz_T := zz_inT (zz_in1 (List.mem_of_getElem? (i := 100) rfl)) rfl
theorem q_cl_D_42 : Cond.classLink "DecodeTests" 42 "DecodeTests$Kept" ∈ zz_T := zz_inT (zz_in1 (List.mem_of_getElem? (i := 118) rfl)) rfl
theorem q_inst_K : Cond.instantiable "DecodeTests$Kept" 4 ∈ zz_T := zz_inT (zz_in1 (List.mem_of_getElem? (i := 119) rfl)) rfl
theorem q_m_D_44 : Cond.methodLink "DecodeTests" 44 y_K_init ∈ zz_T := zz_inT (zz_in1 (List.mem_of_getElem? (i := 120) rfl)) rfl
theorem q_m_K_3 : Cond.methodLink "DecodeTests$Kept" 3 ⟨"java/lang/Object", "<init>", "()V"⟩ ∈ zz_T := zz_inT (zz_in1 (List.mem_of_getElem? (i := 123) rfl)) rfl
theorem q_m_K_21 : Cond.methodLink "DecodeTests$Kept" 21 y_K_clear ∈ zz_T := zz_inT (zz_in1 (List.mem_of_getElem? (i := 124) rfl)) rfl
theorem q_f_K_9 : Cond.fieldLink "DecodeTests$Kept" 9 "DecodeTests$Kept" "words" "[I" ∈ zz_T := zz_inT (zz_in1 (List.mem_of_getElem? (i := 128) rfl)) rfl
theorem q_f_K_15 : Cond.fieldLink "DecodeTests$Kept" 15 "DecodeTests$Kept" "flagBytes" "[I" ∈ zz_T := zz_inT (zz_in1 (List.mem_of_getElem? (i := 129) rfl)) rfl
theorem q_f_K_18 : Cond.fieldLink "DecodeTests$Kept" 18 "DecodeTests$Kept" "answers" "[I" ∈ zz_T := zz_inT (zz_in1 (List.mem_of_getElem? (i := 130) rfl)) rfl
theorem q_f_K_24 : Cond.fieldLink "DecodeTests$Kept" 24 "DecodeTests$Kept" "size" "I" ∈ zz_T := zz_inT (zz_in1 (List.mem_of_getElem? (i := 131) rfl)) rfl
theorem q_cl_D_49 : Cond.classLink "DecodeTests" 49 "DecodeTests$Waiting" ∈ zz_T := zz_inT (zz_in1 (List.mem_of_getElem? (i := 141) rfl)) rfl
theorem q_inst_W : Cond.instantiable "DecodeTests$Waiting" 3 ∈ zz_T := zz_inT (zz_in1 (List.mem_of_getElem? (i := 142) rfl)) rfl
theorem q_m_W_3 : Cond.methodLink "DecodeTests$Waiting" 3 ⟨"java/lang/Object", "<init>", "()V"⟩ ∈ zz_T := zz_inT (zz_in1 (List.mem_of_getElem? (i := 146) rfl)) rfl
theorem q_f_W_9 : Cond.fieldLink "DecodeTests$Waiting" 9 "DecodeTests$Waiting" "ring" "[I" ∈ zz_T := zz_inT (zz_in1 (List.mem_of_getElem? (i := 147) rfl)) rfl
theorem q_f_W_19 : Cond.fieldLink "DecodeTests$Waiting" 19 "DecodeTests$Waiting" "start" "I" ∈ zz_T := zz_inT (zz_in1 (List.mem_of_getElem? (i := 148) rfl)) rfl
theorem q_f_W_15 : Cond.fieldLink "DecodeTests$Waiting" 15 "DecodeTests$Waiting" "size" "I" ∈ zz_T := zz_inT (zz_in1 (List.mem_of_getElem? (i := 149) rfl)) rfl
theorem q_f_D_15 : Cond.fieldLink "DecodeTests" 15 "DecodeTests" "bits" "I" ∈ zz_T := zz_inT (zz_in1 (List.mem_of_getElem? (i := 157) rfl)) rfl
theorem q_f_D_24 : Cond.fieldLink "DecodeTests" 24 "DecodeTests" "encodings" "LDecodeTests$Encodings;" ∈ zz_T := zz_inT (zz_in1 (List.mem_of_getElem? (i := 158) rfl)) rfl
theorem q_f_D_31 : Cond.fieldLink "DecodeTests" 31 "DecodeTests" "tables" "LDecodeTests$Tables;" ∈ zz_T := zz_inT (zz_in1 (List.mem_of_getElem? (i := 159) rfl)) rfl
theorem q_f_D_38 : Cond.fieldLink "DecodeTests" 38 "DecodeTests" "tree" "LDecodeTests$Tree;" ∈ zz_T := zz_inT (zz_in1 (List.mem_of_getElem? (i := 160) rfl)) rfl
theorem q_f_D_45 : Cond.fieldLink "DecodeTests" 45 "DecodeTests" "kept" "LDecodeTests$Kept;" ∈ zz_T := zz_inT (zz_in1 (List.mem_of_getElem? (i := 161) rfl)) rfl
theorem q_f_D_52 : Cond.fieldLink "DecodeTests" 52 "DecodeTests" "waiting" "LDecodeTests$Waiting;" ∈ zz_T := zz_inT (zz_in1 (List.mem_of_getElem? (i := 162) rfl)) rfl
theorem q_f_D_56 : Cond.fieldLink "DecodeTests" 56 "DecodeTests" "treeKind" "I" ∈ zz_T := zz_inT (zz_in1 (List.mem_of_getElem? (i := 163) rfl)) rfl
theorem q_f_D_200 : Cond.fieldLink "DecodeTests" 200 "DecodeTests" "hits" "I" ∈ zz_T := zz_inT (zz_in1 (List.mem_of_getElem? (i := 164) rfl)) rfl
theorem q_f_D_203 : Cond.fieldLink "DecodeTests" 203 "DecodeTests" "byTree" "I" ∈ zz_T := zz_inT (zz_in1 (List.mem_of_getElem? (i := 165) rfl)) rfl
theorem q_f_D_206 : Cond.fieldLink "DecodeTests" 206 "DecodeTests" "testsDone" "I" ∈ zz_T := zz_inT (zz_in1 (List.mem_of_getElem? (i := 166) rfl)) rfl
theorem q_f_D_186 : Cond.fieldLink "DecodeTests" 186 "DecodeTests" "taken" "I" ∈ zz_T := zz_inT (zz_in1 (List.mem_of_getElem? (i := 167) rfl)) rfl
theorem q_m_L_99 : Cond.methodLink "DecodeTestsLaw" 99 y_D_whole ∈ zz_T := zz_inT (zz_in1 (List.mem_of_getElem? (i := 191) rfl)) rfl
theorem q_m_D_189 : Cond.methodLink "DecodeTests" 189 y_E_leaveWordOut ∈ zz_T := zz_inT (zz_in1 (List.mem_of_getElem? (i := 195) rfl)) rfl
theorem q_m_L_104 : Cond.methodLink "DecodeTestsLaw" 104 y_D_crosses ∈ zz_T := zz_inT (zz_in1 (List.mem_of_getElem? (i := 199) rfl)) rfl
theorem q_m_D_193 : Cond.methodLink "DecodeTests" 193 y_E_anyCross ∈ zz_T := zz_inT (zz_in1 (List.mem_of_getElem? (i := 203) rfl)) rfl
theorem q_m_E_48 : Cond.methodLink "DecodeTests$Encodings" 48 y_E_haveCommonWord ∈ zz_T := zz_inT (zz_in1 (List.mem_of_getElem? (i := 207) rfl)) rfl
theorem q_m_E_51 : Cond.methodLink "DecodeTests$Encodings" 51 y_E_hasAllOf ∈ zz_T := zz_inT (zz_in1 (List.mem_of_getElem? (i := 211) rfl)) rfl
theorem q_m_L_108 : Cond.methodLink "DecodeTestsLaw" 108 y_D_count ∈ zz_T := zz_inT (zz_in1 (List.mem_of_getElem? (i := 215) rfl)) rfl
theorem q_m_D_72 : Cond.methodLink "DecodeTests" 72 y_E_size ∈ zz_T := zz_inT (zz_in1 (List.mem_of_getElem? (i := 219) rfl)) rfl
theorem q_m_D_109 : Cond.methodLink "DecodeTests" 109 y_D_grownTree ∈ zz_T := zz_inT (zz_in1 (List.mem_of_getElem? (i := 223) rfl)) rfl
theorem q_m_D_196 : Cond.methodLink "DecodeTests" 196 y_R_size ∈ zz_T := zz_inT (zz_in1 (List.mem_of_getElem? (i := 227) rfl)) rfl
theorem q_m_D_154 : Cond.methodLink "DecodeTests" 154 y_T_refresh ∈ zz_T := zz_inT (zz_in1 (List.mem_of_getElem? (i := 231) rfl)) rfl
theorem q_m_T_35 : Cond.methodLink "DecodeTests$Tables" 35 y_E_listFor ∈ zz_T := zz_inT (zz_in1 (List.mem_of_getElem? (i := 235) rfl)) rfl
theorem q_m_T_41 : Cond.methodLink "DecodeTests$Tables" 41 y_T_commonOfSides ∈ zz_T := zz_inT (zz_in1 (List.mem_of_getElem? (i := 239) rfl)) rfl
theorem q_m_T_49 : Cond.methodLink "DecodeTests$Tables" 49 y_JI_numberOfTrailingZeros ∈ zz_T := zz_inT (zz_in2 (List.mem_of_getElem? (i := 3) rfl)) rfl
theorem q_k_JI_264 : Cond.constant "java/lang/Integer" 264 (65536) ∈ zz_T := zz_inT (zz_in2 (List.mem_of_getElem? (i := 6) rfl)) rfl
theorem q_m_T_54 : Cond.methodLink "DecodeTests$Tables" 54 y_T_side ∈ zz_T := zz_inT (zz_in2 (List.mem_of_getElem? (i := 7) rfl)) rfl
theorem q_m_T_45 : Cond.methodLink "DecodeTests$Tables" 45 y_T_weigh ∈ zz_T := zz_inT (zz_in2 (List.mem_of_getElem? (i := 10) rfl)) rfl
theorem q_k_T_58 : Cond.constant "DecodeTests$Tables" 58 (1048576) ∈ zz_T := zz_inT (zz_in2 (List.mem_of_getElem? (i := 14) rfl)) rfl
theorem q_m_T_59 : Cond.methodLink "DecodeTests$Tables" 59 y_JM_max ∈ zz_T := zz_inT (zz_in2 (List.mem_of_getElem? (i := 15) rfl)) rfl
theorem q_m_T_64 : Cond.methodLink "DecodeTests$Tables" 64 y_JM_min ∈ zz_T := zz_inT (zz_in2 (List.mem_of_getElem? (i := 18) rfl)) rfl
theorem q_m_T_67 : Cond.methodLink "DecodeTests$Tables" 67 y_JI_bitCount ∈ zz_T := zz_inT (zz_in2 (List.mem_of_getElem? (i := 21) rfl)) rfl
theorem q_k_JI_265 : Cond.constant "java/lang/Integer" 265 (1431655765) ∈ zz_T := zz_inT (zz_in2 (List.mem_of_getElem? (i := 24) rfl)) rfl
theorem q_k_JI_266 : Cond.constant "java/lang/Integer" 266 (858993459) ∈ zz_T := zz_inT (zz_in2 (List.mem_of_getElem? (i := 25) rfl)) rfl
theorem q_k_JI_267 : Cond.constant "java/lang/Integer" 267 (252645135) ∈ zz_T := zz_inT (zz_in2 (List.mem_of_getElem? (i := 26) rfl)) rfl
theorem q_m_D_214 : Cond.methodLink "DecodeTests" 214 y_R_grow ∈ zz_T := zz_inT (zz_in2 (List.mem_of_getElem? (i := 27) rfl)) rfl
theorem q_m_R_37 : Cond.methodLink "DecodeTests$Tree" 37 y_R_clear ∈ zz_T := zz_inT (zz_in2 (List.mem_of_getElem? (i := 31) rfl)) rfl
theorem q_m_R_40 : Cond.methodLink "DecodeTests$Tree" 40 y_T_allWords ∈ zz_T := zz_inT (zz_in2 (List.mem_of_getElem? (i := 35) rfl)) rfl
theorem q_m_R_46 : Cond.methodLink "DecodeTests$Tree" 46 y_R_growBelow ∈ zz_T := zz_inT (zz_in2 (List.mem_of_getElem? (i := 39) rfl)) rfl
theorem q_m_R_50 : Cond.methodLink "DecodeTests$Tree" 50 y_T_choice ∈ zz_T := zz_inT (zz_in2 (List.mem_of_getElem? (i := 42) rfl)) rfl
theorem q_m_R_54 : Cond.methodLink "DecodeTests$Tree" 54 y_T_listOf ∈ zz_T := zz_inT (zz_in2 (List.mem_of_getElem? (i := 46) rfl)) rfl
theorem q_m_R_58 : Cond.methodLink "DecodeTests$Tree" 58 y_R_addLeaf ∈ zz_T := zz_inT (zz_in2 (List.mem_of_getElem? (i := 50) rfl)) rfl
theorem q_m_R_62 : Cond.methodLink "DecodeTests$Tree" 62 y_R_addNode ∈ zz_T := zz_inT (zz_in2 (List.mem_of_getElem? (i := 54) rfl)) rfl
theorem q_m_R_65 : Cond.methodLink "DecodeTests$Tree" 65 y_T_side ∈ zz_T := zz_inT (zz_in2 (List.mem_of_getElem? (i := 58) rfl)) rfl
theorem q_m_D_197 : Cond.methodLink "DecodeTests" 197 y_R_leaves ∈ zz_T := zz_inT (zz_in2 (List.mem_of_getElem? (i := 59) rfl)) rfl
theorem q_m_D_164 : Cond.methodLink "DecodeTests" 164 y_W_size ∈ zz_T := zz_inT (zz_in2 (List.mem_of_getElem? (i := 63) rfl)) rfl
theorem q_m_D_209 : Cond.methodLink "DecodeTests" 209 y_K_size ∈ zz_T := zz_inT (zz_in2 (List.mem_of_getElem? (i := 67) rfl)) rfl
theorem q_m_L_50 : Cond.methodLink "DecodeTestsLaw" 50 y_L_cell ∈ zz_T := zz_inT (zz_in2 (List.mem_of_getElem? (i := 71) rfl)) rfl
theorem q_m_L_62 : Cond.methodLink "DecodeTestsLaw" 62 y_L_encoding ∈ zz_T := zz_inT (zz_in2 (List.mem_of_getElem? (i := 74) rfl)) rfl
theorem q_cl_L_13 : Cond.classLink "DecodeTestsLaw" 13 "java/lang/IllegalArgumentException" ∈ zz_T := zz_inT (zz_in2 (List.mem_of_getElem? (i := 77) rfl)) rfl
theorem q_cl_L_15 : Cond.classLink "DecodeTestsLaw" 15 "java/lang/UnsupportedOperationException" ∈ zz_T := zz_inT (zz_in2 (List.mem_of_getElem? (i := 78) rfl)) rfl
theorem q_m_L_7 : Cond.methodLink "DecodeTestsLaw" 7 y_D_encoding ∈ zz_T := zz_inT (zz_in2 (List.mem_of_getElem? (i := 79) rfl)) rfl
theorem q_m_D_59 : Cond.methodLink "DecodeTests" 59 y_D_isWord ∈ zz_T := zz_inT (zz_in2 (List.mem_of_getElem? (i := 83) rfl)) rfl
theorem q_cl_D_63 : Cond.classLink "DecodeTests" 63 "java/lang/IllegalArgumentException" ∈ zz_T := zz_inT (zz_in2 (List.mem_of_getElem? (i := 87) rfl)) rfl
theorem q_m_D_67 : Cond.methodLink "DecodeTests" 67 ⟨"java/lang/IllegalArgumentException", "<init>", "(Ljava/lang/String;)V"⟩ ∈ zz_T := zz_inT (zz_in2 (List.mem_of_getElem? (i := 130) rfl)) rfl
theorem q_cl_D_76 : Cond.classLink "DecodeTests" 76 "java/lang/UnsupportedOperationException" ∈ zz_T := zz_inT (zz_in2 (List.mem_of_getElem? (i := 157) rfl)) rfl
theorem q_m_D_80 : Cond.methodLink "DecodeTests" 80 ⟨"java/lang/UnsupportedOperationException", "<init>", "(Ljava/lang/String;)V"⟩ ∈ zz_T := zz_inT (zz_in2 (List.mem_of_getElem? (i := 167) rfl)) rfl
theorem q_m_D_81 : Cond.methodLink "DecodeTests" 81 y_E_add ∈ zz_T := zz_inT (zz_in2 (List.mem_of_getElem? (i := 173) rfl)) rfl
theorem q_m_E_34 : Cond.methodLink "DecodeTests$Encodings" 34 y_E_addToLists ∈ zz_T := zz_inT (zz_in2 (List.mem_of_getElem? (i := 177) rfl)) rfl
theorem q_m_E_41 : Cond.methodLink "DecodeTests$Encodings" 41 y_E_fits ∈ zz_T := zz_inT (zz_in2 (List.mem_of_getElem? (i := 181) rfl)) rfl
theorem q_m_D_85 : Cond.methodLink "DecodeTests" 85 y_T_outdate ∈ zz_T := zz_inT (zz_in2 (List.mem_of_getElem? (i := 185) rfl)) rfl
theorem q_m_D_88 : Cond.methodLink "DecodeTests" 88 y_D_dropTree ∈ zz_T := zz_inT (zz_in2 (List.mem_of_getElem? (i := 189) rfl)) rfl
theorem q_m_D_210 : Cond.methodLink "DecodeTests" 210 y_R_clear ∈ zz_T := zz_inT (zz_in2 (List.mem_of_getElem? (i := 193) rfl)) rfl
theorem q_m_D_213 : Cond.methodLink "DecodeTests" 213 y_K_clear ∈ zz_T := zz_inT (zz_in2 (List.mem_of_getElem? (i := 194) rfl)) rfl
theorem q_m_L_70 : Cond.methodLink "DecodeTestsLaw" 70 y_L_kind ∈ zz_T := zz_inT (zz_in2 (List.mem_of_getElem? (i := 195) rfl)) rfl
theorem q_m_L_17 : Cond.methodLink "DecodeTestsLaw" 17 y_D_kind ∈ zz_T := zz_inT (zz_in2 (List.mem_of_getElem? (i := 198) rfl)) rfl
theorem q_m_D_91 : Cond.methodLink "DecodeTests" 91 y_D_isKind ∈ zz_T := zz_inT (zz_in2 (List.mem_of_getElem? (i := 202) rfl)) rfl
theorem q_m_L_74 : Cond.methodLink "DecodeTestsLaw" 74 y_L_tried ∈ zz_T := zz_inT (zz_in2 (List.mem_of_getElem? (i := 206) rfl)) rfl
theorem q_m_L_21 : Cond.methodLink "DecodeTestsLaw" 21 y_D_tried ∈ zz_T := zz_inT (zz_in2 (List.mem_of_getElem? (i := 209) rfl)) rfl
theorem q_m_D_96 : Cond.methodLink "DecodeTests" 96 y_D_isFlags ∈ zz_T := zz_inT (zz_in2 (List.mem_of_getElem? (i := 213) rfl)) rfl
theorem q_m_D_101 : Cond.methodLink "DecodeTests" 101 y_E_firstThatFits ∈ zz_T := zz_inT (zz_in2 (List.mem_of_getElem? (i := 217) rfl)) rfl
theorem q_m_E_45 : Cond.methodLink "DecodeTests$Encodings" 45 y_E_isOpen ∈ zz_T := zz_inT (zz_in2 (List.mem_of_getElem? (i := 221) rfl)) rfl
theorem q_m_L_78 : Cond.methodLink "DecodeTestsLaw" 78 y_L_decode ∈ zz_T := zz_inT (zz_in2 (List.mem_of_getElem? (i := 225) rfl)) rfl
theorem q_m_L_25 : Cond.methodLink "DecodeTestsLaw" 25 y_D_decode ∈ zz_T := zz_inT (zz_in2 (List.mem_of_getElem? (i := 228) rfl)) rfl
theorem q_m_D_104 : Cond.methodLink "DecodeTests" 104 y_D_answerFor ∈ zz_T := zz_inT (zz_in2 (List.mem_of_getElem? (i := 232) rfl)) rfl
theorem q_m_D_218 : Cond.methodLink "DecodeTests" 218 y_K_holds ∈ zz_T := zz_inT (zz_in2 (List.mem_of_getElem? (i := 236) rfl)) rfl
theorem q_m_K_28 : Cond.methodLink "DecodeTests$Kept" 28 y_K_rowOf ∈ zz_T := zz_inT (zz_in3 (List.mem_of_getElem? (i := 0) rfl)) rfl
theorem q_m_D_222 : Cond.methodLink "DecodeTests" 222 y_K_answerOf ∈ zz_T := zz_inT (zz_in3 (List.mem_of_getElem? (i := 3) rfl)) rfl
theorem q_m_D_113 : Cond.methodLink "DecodeTests" 113 y_R_leafFor ∈ zz_T := zz_inT (zz_in3 (List.mem_of_getElem? (i := 7) rfl)) rfl
theorem q_m_R_68 : Cond.methodLink "DecodeTests$Tree" 68 y_R_sideOf ∈ zz_T := zz_inT (zz_in3 (List.mem_of_getElem? (i := 11) rfl)) rfl
theorem q_m_D_137 : Cond.methodLink "DecodeTests" 137 y_R_listOf ∈ zz_T := zz_inT (zz_in3 (List.mem_of_getElem? (i := 15) rfl)) rfl
theorem q_m_D_225 : Cond.methodLink "DecodeTests" 225 y_E_firstOfList ∈ zz_T := zz_inT (zz_in3 (List.mem_of_getElem? (i := 19) rfl)) rfl
theorem q_m_D_117 : Cond.methodLink "DecodeTests" 117 y_R_depthOf ∈ zz_T := zz_inT (zz_in3 (List.mem_of_getElem? (i := 23) rfl)) rfl
theorem q_m_D_228 : Cond.methodLink "DecodeTests" 228 y_K_put ∈ zz_T := zz_inT (zz_in3 (List.mem_of_getElem? (i := 27) rfl)) rfl
theorem q_m_L_81 : Cond.methodLink "DecodeTestsLaw" 81 y_L_tests ∈ zz_T := zz_inT (zz_in3 (List.mem_of_getElem? (i := 31) rfl)) rfl
theorem q_m_L_28 : Cond.methodLink "DecodeTestsLaw" 28 y_D_tests ∈ zz_T := zz_inT (zz_in3 (List.mem_of_getElem? (i := 34) rfl)) rfl
theorem q_m_L_84 : Cond.methodLink "DecodeTestsLaw" 84 y_L_node ∈ zz_T := zz_inT (zz_in3 (List.mem_of_getElem? (i := 39) rfl)) rfl
theorem q_cl_L_34 : Cond.classLink "DecodeTestsLaw" 34 "java/lang/IndexOutOfBoundsException" ∈ zz_T := zz_inT (zz_in3 (List.mem_of_getElem? (i := 42) rfl)) rfl
theorem q_m_L_31 : Cond.methodLink "DecodeTestsLaw" 31 y_D_node ∈ zz_T := zz_inT (zz_in3 (List.mem_of_getElem? (i := 43) rfl)) rfl
theorem q_m_D_120 : Cond.methodLink "DecodeTests" 120 y_R_has ∈ zz_T := zz_inT (zz_in3 (List.mem_of_getElem? (i := 47) rfl)) rfl
theorem q_cl_D_123 : Cond.classLink "DecodeTests" 123 "java/lang/IndexOutOfBoundsException" ∈ zz_T := zz_inT (zz_in3 (List.mem_of_getElem? (i := 51) rfl)) rfl
theorem q_m_D_127 : Cond.methodLink "DecodeTests" 127 ⟨"java/lang/IndexOutOfBoundsException", "<init>", "(Ljava/lang/String;)V"⟩ ∈ zz_T := zz_inT (zz_in3 (List.mem_of_getElem? (i := 61) rfl)) rfl
theorem q_m_D_128 : Cond.methodLink "DecodeTests" 128 y_R_bitOf ∈ zz_T := zz_inT (zz_in3 (List.mem_of_getElem? (i := 67) rfl)) rfl
theorem q_m_D_131 : Cond.methodLink "DecodeTests" 131 y_R_sideOf ∈ zz_T := zz_inT (zz_in3 (List.mem_of_getElem? (i := 71) rfl)) rfl
theorem q_m_D_134 : Cond.methodLink "DecodeTests" 134 y_R_wordsOf ∈ zz_T := zz_inT (zz_in3 (List.mem_of_getElem? (i := 72) rfl)) rfl
theorem q_m_D_140 : Cond.methodLink "DecodeTests" 140 y_JI_bitCount ∈ zz_T := zz_inT (zz_in3 (List.mem_of_getElem? (i := 76) rfl)) rfl
theorem q_m_L_87 : Cond.methodLink "DecodeTestsLaw" 87 y_L_listed ∈ zz_T := zz_inT (zz_in3 (List.mem_of_getElem? (i := 78) rfl)) rfl
theorem q_m_L_36 : Cond.methodLink "DecodeTestsLaw" 36 y_D_listed ∈ zz_T := zz_inT (zz_in3 (List.mem_of_getElem? (i := 81) rfl)) rfl
theorem q_m_D_149 : Cond.methodLink "DecodeTests" 149 y_E_memberAt ∈ zz_T := zz_inT (zz_in3 (List.mem_of_getElem? (i := 86) rfl)) rfl
theorem q_m_L_90 : Cond.methodLink "DecodeTestsLaw" 90 y_L_cost ∈ zz_T := zz_inT (zz_in3 (List.mem_of_getElem? (i := 89) rfl)) rfl
theorem q_m_L_39 : Cond.methodLink "DecodeTestsLaw" 39 y_D_cost ∈ zz_T := zz_inT (zz_in3 (List.mem_of_getElem? (i := 92) rfl)) rfl
theorem q_m_D_158 : Cond.methodLink "DecodeTests" 158 y_T_deepest ∈ zz_T := zz_inT (zz_in3 (List.mem_of_getElem? (i := 97) rfl)) rfl
theorem q_m_T_70 : Cond.methodLink "DecodeTests$Tables" 70 y_T_allWords ∈ zz_T := zz_inT (zz_in3 (List.mem_of_getElem? (i := 101) rfl)) rfl
theorem q_m_T_74 : Cond.methodLink "DecodeTests$Tables" 74 y_T_deepestBelow ∈ zz_T := zz_inT (zz_in3 (List.mem_of_getElem? (i := 102) rfl)) rfl
theorem q_m_T_78 : Cond.methodLink "DecodeTests$Tables" 78 y_T_choice ∈ zz_T := zz_inT (zz_in3 (List.mem_of_getElem? (i := 105) rfl)) rfl
theorem q_m_D_161 : Cond.methodLink "DecodeTests" 161 y_T_total ∈ zz_T := zz_inT (zz_in3 (List.mem_of_getElem? (i := 106) rfl)) rfl
theorem q_m_T_81 : Cond.methodLink "DecodeTests$Tables" 81 y_T_totalBelow ∈ zz_T := zz_inT (zz_in3 (List.mem_of_getElem? (i := 110) rfl)) rfl
theorem q_m_L_93 : Cond.methodLink "DecodeTestsLaw" 93 y_L_feed ∈ zz_T := zz_inT (zz_in3 (List.mem_of_getElem? (i := 113) rfl)) rfl
theorem q_m_L_42 : Cond.methodLink "DecodeTestsLaw" 42 y_D_feed ∈ zz_T := zz_inT (zz_in3 (List.mem_of_getElem? (i := 116) rfl)) rfl
theorem q_m_D_167 : Cond.methodLink "DecodeTests" 167 y_W_append ∈ zz_T := zz_inT (zz_in3 (List.mem_of_getElem? (i := 121) rfl)) rfl
theorem q_m_L_96 : Cond.methodLink "DecodeTestsLaw" 96 y_L_take ∈ zz_T := zz_inT (zz_in3 (List.mem_of_getElem? (i := 125) rfl)) rfl
theorem q_cl_L_48 : Cond.classLink "DecodeTestsLaw" 48 "java/lang/IllegalStateException" ∈ zz_T := zz_inT (zz_in3 (List.mem_of_getElem? (i := 128) rfl)) rfl
theorem q_m_L_45 : Cond.methodLink "DecodeTestsLaw" 45 y_D_take ∈ zz_T := zz_inT (zz_in3 (List.mem_of_getElem? (i := 129) rfl)) rfl
theorem q_cl_D_172 : Cond.classLink "DecodeTests" 172 "java/lang/IllegalStateException" ∈ zz_T := zz_inT (zz_in3 (List.mem_of_getElem? (i := 134) rfl)) rfl
theorem q_m_D_176 : Cond.methodLink "DecodeTests" 176 ⟨"java/lang/IllegalStateException", "<init>", "(Ljava/lang/String;)V"⟩ ∈ zz_T := zz_inT (zz_in3 (List.mem_of_getElem? (i := 144) rfl)) rfl
theorem q_m_D_177 : Cond.methodLink "DecodeTests" 177 y_W_first ∈ zz_T := zz_inT (zz_in3 (List.mem_of_getElem? (i := 150) rfl)) rfl
theorem q_m_D_180 : Cond.methodLink "DecodeTests" 180 y_E_lengthOf ∈ zz_T := zz_inT (zz_in3 (List.mem_of_getElem? (i := 154) rfl)) rfl
theorem q_m_D_183 : Cond.methodLink "DecodeTests" 183 y_W_drop ∈ zz_T := zz_inT (zz_in3 (List.mem_of_getElem? (i := 158) rfl)) rfl
theorem q_cl_L_59 : Cond.classLink "DecodeTestsLaw" 59 "DecodeTestsModel" ∈ zz_T := zz_inT (zz_in3 (List.mem_of_getElem? (i := 162) rfl)) rfl
theorem q_inst_M : Cond.instantiable "DecodeTestsModel" 32 ∈ zz_T := zz_inT (zz_in3 (List.mem_of_getElem? (i := 163) rfl)) rfl
theorem q_m_L_61 : Cond.methodLink "DecodeTestsLaw" 61 y_M_init ∈ zz_T := zz_inT (zz_in3 (List.mem_of_getElem? (i := 164) rfl)) rfl
theorem q_m_M_1 : Cond.methodLink "DecodeTestsModel" 1 ⟨"java/lang/Object", "<init>", "()V"⟩ ∈ zz_T := zz_inT (zz_in3 (List.mem_of_getElem? (i := 167) rfl)) rfl
theorem q_m_M_80 : Cond.methodLink "DecodeTestsModel" 80 y_M_makeAnew ∈ zz_T := zz_inT (zz_in3 (List.mem_of_getElem? (i := 168) rfl)) rfl
theorem q_m_M_127 : Cond.methodLink "DecodeTestsModel" 127 y_M_makeLists ∈ zz_T := zz_inT (zz_in3 (List.mem_of_getElem? (i := 172) rfl)) rfl
theorem q_m_M_97 : Cond.methodLink "DecodeTestsModel" 97 y_M_makeList ∈ zz_T := zz_inT (zz_in3 (List.mem_of_getElem? (i := 176) rfl)) rfl
theorem q_m_M_93 : Cond.methodLink "DecodeTestsModel" 93 y_M_fits ∈ zz_T := zz_inT (zz_in3 (List.mem_of_getElem? (i := 180) rfl)) rfl
theorem q_m_M_101 : Cond.methodLink "DecodeTestsModel" 101 y_M_isSameList ∈ zz_T := zz_inT (zz_in3 (List.mem_of_getElem? (i := 184) rfl)) rfl
theorem q_m_M_130 : Cond.methodLink "DecodeTestsModel" 130 y_M_workOut ∈ zz_T := zz_inT (zz_in3 (List.mem_of_getElem? (i := 188) rfl)) rfl
theorem q_m_M_112 : Cond.methodLink "DecodeTestsModel" 112 y_M_hasFree ∈ zz_T := zz_inT (zz_in3 (List.mem_of_getElem? (i := 192) rfl)) rfl
theorem q_m_M_104 : Cond.methodLink "DecodeTestsModel" 104 y_M_digit ∈ zz_T := zz_inT (zz_in3 (List.mem_of_getElem? (i := 196) rfl)) rfl
theorem q_m_M_116 : Cond.methodLink "DecodeTestsModel" 116 y_M_onlyWord ∈ zz_T := zz_inT (zz_in3 (List.mem_of_getElem? (i := 200) rfl)) rfl
theorem q_m_M_120 : Cond.methodLink "DecodeTestsModel" 120 y_M_firstFree ∈ zz_T := zz_inT (zz_in3 (List.mem_of_getElem? (i := 204) rfl)) rfl
theorem q_m_M_108 : Cond.methodLink "DecodeTestsModel" 108 y_M_half ∈ zz_T := zz_inT (zz_in3 (List.mem_of_getElem? (i := 208) rfl)) rfl
theorem q_m_M_123 : Cond.methodLink "DecodeTestsModel" 123 y_M_choose ∈ zz_T := zz_inT (zz_in3 (List.mem_of_getElem? (i := 212) rfl)) rfl
theorem q_m_M_133 : Cond.methodLink "DecodeTestsModel" 133 y_M_makeTree ∈ zz_T := zz_inT (zz_in3 (List.mem_of_getElem? (i := 216) rfl)) rfl
theorem q_m_M_139 : Cond.methodLink "DecodeTestsModel" 139 y_M_allWords ∈ zz_T := zz_inT (zz_in3 (List.mem_of_getElem? (i := 220) rfl)) rfl
theorem q_m_M_143 : Cond.methodLink "DecodeTestsModel" 143 y_M_isLeaf ∈ zz_T := zz_inT (zz_in3 (List.mem_of_getElem? (i := 224) rfl)) rfl
theorem q_f_M_83 : Cond.fieldLink "DecodeTestsModel" 83 "DecodeTestsModel" "thrown" "I" ∈ zz_T := zz_inT (zz_in3 (List.mem_of_getElem? (i := 228) rfl)) rfl
theorem q_f_M_76 : Cond.fieldLink "DecodeTestsModel" 76 "DecodeTestsModel" "width" "I" ∈ zz_T := zz_inT (zz_in3 (List.mem_of_getElem? (i := 229) rfl)) rfl
theorem q_f_M_90 : Cond.fieldLink "DecodeTestsModel" 90 "DecodeTestsModel" "encodings" "I" ∈ zz_T := zz_inT (zz_in3 (List.mem_of_getElem? (i := 230) rfl)) rfl
theorem q_f_M_146 : Cond.fieldLink "DecodeTestsModel" 146 "DecodeTestsModel" "kind" "I" ∈ zz_T := zz_inT (zz_in3 (List.mem_of_getElem? (i := 231) rfl)) rfl
theorem q_f_M_7 : Cond.fieldLink "DecodeTestsModel" 7 "DecodeTestsModel" "mask" "[I" ∈ zz_T := zz_inT (zz_in3 (List.mem_of_getElem? (i := 232) rfl)) rfl
theorem q_f_M_13 : Cond.fieldLink "DecodeTestsModel" 13 "DecodeTestsModel" "value" "[I" ∈ zz_T := zz_inT (zz_in3 (List.mem_of_getElem? (i := 233) rfl)) rfl
theorem q_f_M_16 : Cond.fieldLink "DecodeTestsModel" 16 "DecodeTestsModel" "length" "[I" ∈ zz_T := zz_inT (zz_in3 (List.mem_of_getElem? (i := 234) rfl)) rfl
theorem q_f_M_19 : Cond.fieldLink "DecodeTestsModel" 19 "DecodeTestsModel" "flag" "[I" ∈ zz_T := zz_inT (zz_in3 (List.mem_of_getElem? (i := 235) rfl)) rfl
theorem q_f_M_22 : Cond.fieldLink "DecodeTestsModel" 22 "DecodeTestsModel" "alike" "[I" ∈ zz_T := zz_inT (zz_in3 (List.mem_of_getElem? (i := 236) rfl)) rfl
theorem q_f_M_25 : Cond.fieldLink "DecodeTestsModel" 25 "DecodeTestsModel" "listSize" "[I" ∈ zz_T := zz_inT (zz_in3 (List.mem_of_getElem? (i := 237) rfl)) rfl
theorem q_f_M_28 : Cond.fieldLink "DecodeTestsModel" 28 "DecodeTestsModel" "list" "[I" ∈ zz_T := zz_inT (zz_in3 (List.mem_of_getElem? (i := 238) rfl)) rfl
theorem q_f_M_31 : Cond.fieldLink "DecodeTestsModel" 31 "DecodeTestsModel" "one" "[I" ∈ zz_T := zz_inT (zz_in3 (List.mem_of_getElem? (i := 239) rfl)) rfl
theorem q_f_M_34 : Cond.fieldLink "DecodeTestsModel" 34 "DecodeTestsModel" "many" "[I" ∈ zz_T := zz_inT (zz_in4 (List.mem_of_getElem? (i := 0) rfl)) rfl
theorem q_f_M_37 : Cond.fieldLink "DecodeTestsModel" 37 "DecodeTestsModel" "bit" "[I" ∈ zz_T := zz_inT (zz_in4 (List.mem_of_getElem? (i := 1) rfl)) rfl
theorem q_f_M_40 : Cond.fieldLink "DecodeTestsModel" 40 "DecodeTestsModel" "worst" "[I" ∈ zz_T := zz_inT (zz_in4 (List.mem_of_getElem? (i := 2) rfl)) rfl
theorem q_f_M_43 : Cond.fieldLink "DecodeTestsModel" 43 "DecodeTestsModel" "together" "[I" ∈ zz_T := zz_inT (zz_in4 (List.mem_of_getElem? (i := 3) rfl)) rfl
theorem q_f_M_46 : Cond.fieldLink "DecodeTestsModel" 46 "DecodeTestsModel" "unit" "[I" ∈ zz_T := zz_inT (zz_in4 (List.mem_of_getElem? (i := 4) rfl)) rfl
theorem q_f_M_136 : Cond.fieldLink "DecodeTestsModel" 136 "DecodeTestsModel" "nodes" "I" ∈ zz_T := zz_inT (zz_in4 (List.mem_of_getElem? (i := 5) rfl)) rfl
theorem q_f_M_49 : Cond.fieldLink "DecodeTestsModel" 49 "DecodeTestsModel" "set" "[I" ∈ zz_T := zz_inT (zz_in4 (List.mem_of_getElem? (i := 6) rfl)) rfl
theorem q_f_M_52 : Cond.fieldLink "DecodeTestsModel" 52 "DecodeTestsModel" "zero" "[I" ∈ zz_T := zz_inT (zz_in4 (List.mem_of_getElem? (i := 7) rfl)) rfl
theorem q_f_M_55 : Cond.fieldLink "DecodeTestsModel" 55 "DecodeTestsModel" "ones" "[I" ∈ zz_T := zz_inT (zz_in4 (List.mem_of_getElem? (i := 8) rfl)) rfl
theorem q_f_M_58 : Cond.fieldLink "DecodeTestsModel" 58 "DecodeTestsModel" "waiting" "[I" ∈ zz_T := zz_inT (zz_in4 (List.mem_of_getElem? (i := 9) rfl)) rfl
theorem q_f_M_61 : Cond.fieldLink "DecodeTestsModel" 61 "DecodeTestsModel" "parent" "[I" ∈ zz_T := zz_inT (zz_in4 (List.mem_of_getElem? (i := 10) rfl)) rfl
theorem q_f_M_182 : Cond.fieldLink "DecodeTestsModel" 182 "DecodeTestsModel" "stream" "I" ∈ zz_T := zz_inT (zz_in4 (List.mem_of_getElem? (i := 11) rfl)) rfl
theorem q_f_M_64 : Cond.fieldLink "DecodeTestsModel" 64 "DecodeTestsModel" "word" "[I" ∈ zz_T := zz_inT (zz_in4 (List.mem_of_getElem? (i := 12) rfl)) rfl
theorem q_f_M_164 : Cond.fieldLink "DecodeTestsModel" 164 "DecodeTestsModel" "hits" "I" ∈ zz_T := zz_inT (zz_in4 (List.mem_of_getElem? (i := 13) rfl)) rfl
theorem q_f_M_167 : Cond.fieldLink "DecodeTestsModel" 167 "DecodeTestsModel" "byTree" "I" ∈ zz_T := zz_inT (zz_in4 (List.mem_of_getElem? (i := 14) rfl)) rfl
theorem q_f_M_170 : Cond.fieldLink "DecodeTestsModel" 170 "DecodeTestsModel" "tests" "I" ∈ zz_T := zz_inT (zz_in4 (List.mem_of_getElem? (i := 15) rfl)) rfl
theorem q_f_M_185 : Cond.fieldLink "DecodeTestsModel" 185 "DecodeTestsModel" "taken" "I" ∈ zz_T := zz_inT (zz_in4 (List.mem_of_getElem? (i := 16) rfl)) rfl
theorem q_f_M_67 : Cond.fieldLink "DecodeTestsModel" 67 "DecodeTestsModel" "rowWord" "[I" ∈ zz_T := zz_inT (zz_in4 (List.mem_of_getElem? (i := 17) rfl)) rfl
theorem q_f_M_70 : Cond.fieldLink "DecodeTestsModel" 70 "DecodeTestsModel" "rowFlags" "[I" ∈ zz_T := zz_inT (zz_in4 (List.mem_of_getElem? (i := 18) rfl)) rfl
theorem q_f_M_73 : Cond.fieldLink "DecodeTestsModel" 73 "DecodeTestsModel" "rowAnswer" "[I" ∈ zz_T := zz_inT (zz_in4 (List.mem_of_getElem? (i := 19) rfl)) rfl
theorem q_m_L_66 : Cond.methodLink "DecodeTestsLaw" 66 y_M_thrown ∈ zz_T := zz_inT (zz_in4 (List.mem_of_getElem? (i := 85) rfl)) rfl
theorem q_m_L_65 : Cond.methodLink "DecodeTestsLaw" 65 y_M_encoding ∈ zz_T := zz_inT (zz_in4 (List.mem_of_getElem? (i := 89) rfl)) rfl
theorem q_m_M_149 : Cond.methodLink "DecodeTestsModel" 149 y_M_isWord ∈ zz_T := zz_inT (zz_in4 (List.mem_of_getElem? (i := 93) rfl)) rfl
theorem q_m_M_86 : Cond.methodLink "DecodeTestsModel" 86 y_M_within ∈ zz_T := zz_inT (zz_in4 (List.mem_of_getElem? (i := 97) rfl)) rfl
theorem q_m_M_152 : Cond.methodLink "DecodeTestsModel" 152 y_M_fail ∈ zz_T := zz_inT (zz_in4 (List.mem_of_getElem? (i := 100) rfl)) rfl
theorem q_m_L_73 : Cond.methodLink "DecodeTestsLaw" 73 y_M_kind ∈ zz_T := zz_inT (zz_in4 (List.mem_of_getElem? (i := 104) rfl)) rfl
theorem q_m_L_77 : Cond.methodLink "DecodeTestsLaw" 77 y_M_tried ∈ zz_T := zz_inT (zz_in4 (List.mem_of_getElem? (i := 108) rfl)) rfl
theorem q_m_M_158 : Cond.methodLink "DecodeTestsModel" 158 y_M_isRight ∈ zz_T := zz_inT (zz_in4 (List.mem_of_getElem? (i := 112) rfl)) rfl
theorem q_m_M_161 : Cond.methodLink "DecodeTestsModel" 161 y_M_answerOf ∈ zz_T := zz_inT (zz_in4 (List.mem_of_getElem? (i := 116) rfl)) rfl
theorem q_m_M_155 : Cond.methodLink "DecodeTestsModel" 155 y_M_holds ∈ zz_T := zz_inT (zz_in4 (List.mem_of_getElem? (i := 120) rfl)) rfl
theorem q_m_L_80 : Cond.methodLink "DecodeTestsLaw" 80 y_M_decode ∈ zz_T := zz_inT (zz_in4 (List.mem_of_getElem? (i := 124) rfl)) rfl
theorem q_m_M_179 : Cond.methodLink "DecodeTestsModel" 179 y_M_find ∈ zz_T := zz_inT (zz_in4 (List.mem_of_getElem? (i := 128) rfl)) rfl
theorem q_m_M_173 : Cond.methodLink "DecodeTestsModel" 173 y_M_depthOf ∈ zz_T := zz_inT (zz_in4 (List.mem_of_getElem? (i := 132) rfl)) rfl
theorem q_m_M_176 : Cond.methodLink "DecodeTestsModel" 176 y_M_leafOf ∈ zz_T := zz_inT (zz_in4 (List.mem_of_getElem? (i := 136) rfl)) rfl
theorem q_m_L_83 : Cond.methodLink "DecodeTestsLaw" 83 y_M_tests ∈ zz_T := zz_inT (zz_in4 (List.mem_of_getElem? (i := 140) rfl)) rfl
theorem q_m_L_86 : Cond.methodLink "DecodeTestsLaw" 86 y_M_node ∈ zz_T := zz_inT (zz_in4 (List.mem_of_getElem? (i := 144) rfl)) rfl
theorem q_m_L_89 : Cond.methodLink "DecodeTestsLaw" 89 y_M_listed ∈ zz_T := zz_inT (zz_in4 (List.mem_of_getElem? (i := 148) rfl)) rfl
theorem q_m_L_92 : Cond.methodLink "DecodeTestsLaw" 92 y_M_cost ∈ zz_T := zz_inT (zz_in4 (List.mem_of_getElem? (i := 152) rfl)) rfl
theorem q_m_L_95 : Cond.methodLink "DecodeTestsLaw" 95 y_M_feed ∈ zz_T := zz_inT (zz_in4 (List.mem_of_getElem? (i := 156) rfl)) rfl
theorem q_m_L_98 : Cond.methodLink "DecodeTestsLaw" 98 y_M_take ∈ zz_T := zz_inT (zz_in4 (List.mem_of_getElem? (i := 160) rfl)) rfl
theorem q_m_L_103 : Cond.methodLink "DecodeTestsLaw" 103 y_M_whole ∈ zz_T := zz_inT (zz_in4 (List.mem_of_getElem? (i := 164) rfl)) rfl
theorem q_m_L_107 : Cond.methodLink "DecodeTestsLaw" 107 y_M_crosses ∈ zz_T := zz_inT (zz_in4 (List.mem_of_getElem? (i := 168) rfl)) rfl
theorem q_m_M_188 : Cond.methodLink "DecodeTestsModel" 188 y_M_isIn ∈ zz_T := zz_inT (zz_in4 (List.mem_of_getElem? (i := 172) rfl)) rfl
theorem q_m_L_111 : Cond.methodLink "DecodeTestsLaw" 111 y_M_count ∈ zz_T := zz_inT (zz_in4 (List.mem_of_getElem? (i := 176) rfl)) rfl
theorem g_D_init_9 : GoodIn ws_D_init (va_wsS "DecodeTests" 9 y_JM_floorMod ws_JM_floorMod) := zz_gS q_c_JM_floorMod q_m_D_9 q_s_JM_floorMod q_in_JM
theorem g_D_init_21 : GoodIn ws_D_init ws_E_init := zz_gI q_c_E_init
theorem g_D_init_30 : GoodIn ws_D_init ws_T_init := zz_gI q_c_T_init
theorem g_D_init_37 : GoodIn ws_D_init ws_R_init := zz_gI q_c_R_init
theorem g_D_init_44 : GoodIn ws_D_init ws_K_init := zz_gI q_c_K_init
theorem g_D_encoding_59 : GoodIn ws_D_encoding (wsV "DecodeTests" 59 "DecodeTests" y_D_isWord ws_D_isWord) := zz_gV q_c_D_isWord q_m_D_59 q_i_D_isWord q_sel_D_isWord q_in_D
theorem g_D_encoding_72 : GoodIn ws_D_encoding (wsV "DecodeTests" 72 "DecodeTests$Encodings" y_E_size ws_E_size) := zz_gV q_c_E_size q_m_D_72 q_i_E_size q_sel_E_size q_in_E
theorem g_D_encoding_81 : GoodIn ws_D_encoding (wsV "DecodeTests" 81 "DecodeTests$Encodings" y_E_add ws_E_add) := zz_gV q_c_E_add q_m_D_81 q_i_E_add q_sel_E_add q_in_E
theorem g_D_encoding_85 : GoodIn ws_D_encoding (wsV "DecodeTests" 85 "DecodeTests$Tables" y_T_outdate ws_T_outdate) := zz_gV q_c_T_outdate q_m_D_85 q_i_T_outdate q_sel_T_outdate q_in_T
theorem g_D_encoding_88 : GoodIn ws_D_encoding (wsV "DecodeTests" 88 "DecodeTests" y_D_dropTree ws_D_dropTree) := zz_gV q_c_D_dropTree q_m_D_88 q_i_D_dropTree q_sel_D_dropTree q_in_D
theorem g_D_kind_91 : GoodIn ws_D_kind (va_wsS "DecodeTests" 91 y_D_isKind ws_D_isKind) := zz_gS q_c_D_isKind q_m_D_91 q_s_D_isKind q_in_D
theorem g_D_kind_88 : GoodIn ws_D_kind (wsV "DecodeTests" 88 "DecodeTests" y_D_dropTree ws_D_dropTree) := zz_gV q_c_D_dropTree q_m_D_88 q_i_D_dropTree q_sel_D_dropTree q_in_D
theorem g_D_tried_59 : GoodIn ws_D_tried (wsV "DecodeTests" 59 "DecodeTests" y_D_isWord ws_D_isWord) := zz_gV q_c_D_isWord q_m_D_59 q_i_D_isWord q_sel_D_isWord q_in_D
theorem g_D_tried_96 : GoodIn ws_D_tried (va_wsS "DecodeTests" 96 y_D_isFlags ws_D_isFlags) := zz_gS q_c_D_isFlags q_m_D_96 q_s_D_isFlags q_in_D
theorem g_D_tried_101 : GoodIn ws_D_tried (wsV "DecodeTests" 101 "DecodeTests$Encodings" y_E_firstThatFits ws_E_firstThatFits) := zz_gV q_c_E_firstThatFits q_m_D_101 q_i_E_firstThatFits q_sel_E_firstThatFits q_in_E
theorem g_D_decode_59 : GoodIn ws_D_decode (wsV "DecodeTests" 59 "DecodeTests" y_D_isWord ws_D_isWord) := zz_gV q_c_D_isWord q_m_D_59 q_i_D_isWord q_sel_D_isWord q_in_D
theorem g_D_decode_96 : GoodIn ws_D_decode (va_wsS "DecodeTests" 96 y_D_isFlags ws_D_isFlags) := zz_gS q_c_D_isFlags q_m_D_96 q_s_D_isFlags q_in_D
theorem g_D_decode_104 : GoodIn ws_D_decode (wsV "DecodeTests" 104 "DecodeTests" y_D_answerFor ws_D_answerFor) := zz_gV q_c_D_answerFor q_m_D_104 q_i_D_answerFor q_sel_D_answerFor q_in_D
theorem g_D_tests_59 : GoodIn ws_D_tests (wsV "DecodeTests" 59 "DecodeTests" y_D_isWord ws_D_isWord) := zz_gV q_c_D_isWord q_m_D_59 q_i_D_isWord q_sel_D_isWord q_in_D
theorem g_D_tests_109 : GoodIn ws_D_tests (wsV "DecodeTests" 109 "DecodeTests" y_D_grownTree ws_D_grownTree) := zz_gV q_c_D_grownTree q_m_D_109 q_i_D_grownTree q_sel_D_grownTree q_in_D
theorem g_D_tests_113 : GoodIn ws_D_tests (wsV "DecodeTests" 113 "DecodeTests$Tree" y_R_leafFor ws_R_leafFor) := zz_gV q_c_R_leafFor q_m_D_113 q_i_R_leafFor q_sel_R_leafFor q_in_R
theorem g_D_tests_117 : GoodIn ws_D_tests (wsV "DecodeTests" 117 "DecodeTests$Tree" y_R_depthOf ws_R_depthOf) := zz_gV q_c_R_depthOf q_m_D_117 q_i_R_depthOf q_sel_R_depthOf q_in_R
theorem g_D_node_109 : GoodIn ws_D_node (wsV "DecodeTests" 109 "DecodeTests" y_D_grownTree ws_D_grownTree) := zz_gV q_c_D_grownTree q_m_D_109 q_i_D_grownTree q_sel_D_grownTree q_in_D
theorem g_D_node_120 : GoodIn ws_D_node (wsV "DecodeTests" 120 "DecodeTests$Tree" y_R_has ws_R_has) := zz_gV q_c_R_has q_m_D_120 q_i_R_has q_sel_R_has q_in_R
theorem g_D_node_128 : GoodIn ws_D_node (wsV "DecodeTests" 128 "DecodeTests$Tree" y_R_bitOf ws_R_bitOf) := zz_gV q_c_R_bitOf q_m_D_128 q_i_R_bitOf q_sel_R_bitOf q_in_R
theorem g_D_node_131 : GoodIn ws_D_node (wsV "DecodeTests" 131 "DecodeTests$Tree" y_R_sideOf ws_R_sideOf) := zz_gV q_c_R_sideOf q_m_D_131 q_i_R_sideOf q_sel_R_sideOf q_in_R
theorem g_D_node_134 : GoodIn ws_D_node (wsV "DecodeTests" 134 "DecodeTests$Tree" y_R_wordsOf ws_R_wordsOf) := zz_gV q_c_R_wordsOf q_m_D_134 q_i_R_wordsOf q_sel_R_wordsOf q_in_R
theorem g_D_node_137 : GoodIn ws_D_node (wsV "DecodeTests" 137 "DecodeTests$Tree" y_R_listOf ws_R_listOf) := zz_gV q_c_R_listOf q_m_D_137 q_i_R_listOf q_sel_R_listOf q_in_R
theorem g_D_node_140 : GoodIn ws_D_node (va_wsS "DecodeTests" 140 y_JI_bitCount ws_JI_bitCount) := zz_gS q_c_JI_bitCount q_m_D_140 q_s_JI_bitCount q_in_JI
theorem g_D_listed_109 : GoodIn ws_D_listed (wsV "DecodeTests" 109 "DecodeTests" y_D_grownTree ws_D_grownTree) := zz_gV q_c_D_grownTree q_m_D_109 q_i_D_grownTree q_sel_D_grownTree q_in_D
theorem g_D_listed_120 : GoodIn ws_D_listed (wsV "DecodeTests" 120 "DecodeTests$Tree" y_R_has ws_R_has) := zz_gV q_c_R_has q_m_D_120 q_i_R_has q_sel_R_has q_in_R
theorem g_D_listed_137 : GoodIn ws_D_listed (wsV "DecodeTests" 137 "DecodeTests$Tree" y_R_listOf ws_R_listOf) := zz_gV q_c_R_listOf q_m_D_137 q_i_R_listOf q_sel_R_listOf q_in_R
theorem g_D_listed_140 : GoodIn ws_D_listed (va_wsS "DecodeTests" 140 y_JI_bitCount ws_JI_bitCount) := zz_gS q_c_JI_bitCount q_m_D_140 q_s_JI_bitCount q_in_JI
theorem g_D_listed_149 : GoodIn ws_D_listed (va_wsS "DecodeTests" 149 y_E_memberAt ws_E_memberAt) := zz_gS q_c_E_memberAt q_m_D_149 q_s_E_memberAt q_in_E
theorem g_D_cost_91 : GoodIn ws_D_cost (va_wsS "DecodeTests" 91 y_D_isKind ws_D_isKind) := zz_gS q_c_D_isKind q_m_D_91 q_s_D_isKind q_in_D
theorem g_D_cost_154 : GoodIn ws_D_cost (wsV "DecodeTests" 154 "DecodeTests$Tables" y_T_refresh ws_T_refresh) := zz_gV q_c_T_refresh q_m_D_154 q_i_T_refresh q_sel_T_refresh q_in_T
theorem g_D_cost_158 : GoodIn ws_D_cost (wsV "DecodeTests" 158 "DecodeTests$Tables" y_T_deepest ws_T_deepest) := zz_gV q_c_T_deepest q_m_D_158 q_i_T_deepest q_sel_T_deepest q_in_T
theorem g_D_cost_161 : GoodIn ws_D_cost (wsV "DecodeTests" 161 "DecodeTests$Tables" y_T_total ws_T_total) := zz_gV q_c_T_total q_m_D_161 q_i_T_total q_sel_T_total q_in_T
theorem g_D_feed_59 : GoodIn ws_D_feed (wsV "DecodeTests" 59 "DecodeTests" y_D_isWord ws_D_isWord) := zz_gV q_c_D_isWord q_m_D_59 q_i_D_isWord q_sel_D_isWord q_in_D
theorem g_D_feed_164 : GoodIn ws_D_feed (wsV "DecodeTests" 164 "DecodeTests$Waiting" y_W_size ws_W_size) := zz_gV q_c_W_size q_m_D_164 q_i_W_size q_sel_W_size q_in_W
theorem g_D_feed_167 : GoodIn ws_D_feed (wsV "DecodeTests" 167 "DecodeTests$Waiting" y_W_append ws_W_append) := zz_gV q_c_W_append q_m_D_167 q_i_W_append q_sel_W_append q_in_W
theorem g_D_take_96 : GoodIn ws_D_take (va_wsS "DecodeTests" 96 y_D_isFlags ws_D_isFlags) := zz_gS q_c_D_isFlags q_m_D_96 q_s_D_isFlags q_in_D
theorem g_D_take_164 : GoodIn ws_D_take (wsV "DecodeTests" 164 "DecodeTests$Waiting" y_W_size ws_W_size) := zz_gV q_c_W_size q_m_D_164 q_i_W_size q_sel_W_size q_in_W
theorem g_D_take_177 : GoodIn ws_D_take (wsV "DecodeTests" 177 "DecodeTests$Waiting" y_W_first ws_W_first) := zz_gV q_c_W_first q_m_D_177 q_i_W_first q_sel_W_first q_in_W
theorem g_D_take_104 : GoodIn ws_D_take (wsV "DecodeTests" 104 "DecodeTests" y_D_answerFor ws_D_answerFor) := zz_gV q_c_D_answerFor q_m_D_104 q_i_D_answerFor q_sel_D_answerFor q_in_D
theorem g_D_take_180 : GoodIn ws_D_take (wsV "DecodeTests" 180 "DecodeTests$Encodings" y_E_lengthOf ws_E_lengthOf) := zz_gV q_c_E_lengthOf q_m_D_180 q_i_E_lengthOf q_sel_E_lengthOf q_in_E
theorem g_D_take_183 : GoodIn ws_D_take (wsV "DecodeTests" 183 "DecodeTests$Waiting" y_W_drop ws_W_drop) := zz_gV q_c_W_drop q_m_D_183 q_i_W_drop q_sel_W_drop q_in_W
theorem g_D_whole_189 : GoodIn ws_D_whole (wsV "DecodeTests" 189 "DecodeTests$Encodings" y_E_leaveWordOut ws_E_leaveWordOut) := zz_gV q_c_E_leaveWordOut q_m_D_189 q_i_E_leaveWordOut q_sel_E_leaveWordOut q_in_E
theorem g_D_crosses_193 : GoodIn ws_D_crosses (wsV "DecodeTests" 193 "DecodeTests$Encodings" y_E_anyCross ws_E_anyCross) := zz_gV q_c_E_anyCross q_m_D_193 q_i_E_anyCross q_sel_E_anyCross q_in_E
theorem g_D_count_72 : GoodIn ws_D_count (wsV "DecodeTests" 72 "DecodeTests$Encodings" y_E_size ws_E_size) := zz_gV q_c_E_size q_m_D_72 q_i_E_size q_sel_E_size q_in_E
theorem g_D_count_109 : GoodIn ws_D_count (wsV "DecodeTests" 109 "DecodeTests" y_D_grownTree ws_D_grownTree) := zz_gV q_c_D_grownTree q_m_D_109 q_i_D_grownTree q_sel_D_grownTree q_in_D
theorem g_D_count_196 : GoodIn ws_D_count (wsV "DecodeTests" 196 "DecodeTests$Tree" y_R_size ws_R_size) := zz_gV q_c_R_size q_m_D_196 q_i_R_size q_sel_R_size q_in_R
theorem g_D_count_197 : GoodIn ws_D_count (wsV "DecodeTests" 197 "DecodeTests$Tree" y_R_leaves ws_R_leaves) := zz_gV q_c_R_leaves q_m_D_197 q_i_R_leaves q_sel_R_leaves q_in_R
theorem g_D_count_164 : GoodIn ws_D_count (wsV "DecodeTests" 164 "DecodeTests$Waiting" y_W_size ws_W_size) := zz_gV q_c_W_size q_m_D_164 q_i_W_size q_sel_W_size q_in_W
theorem g_D_count_209 : GoodIn ws_D_count (wsV "DecodeTests" 209 "DecodeTests$Kept" y_K_size ws_K_size) := zz_gV q_c_K_size q_m_D_209 q_i_K_size q_sel_K_size q_in_K
theorem g_D_dropTree_210 : GoodIn ws_D_dropTree (wsV "DecodeTests" 210 "DecodeTests$Tree" y_R_clear ws_R_clear) := zz_gV q_c_R_clear q_m_D_210 q_i_R_clear q_sel_R_clear q_in_R
theorem g_D_dropTree_213 : GoodIn ws_D_dropTree (wsV "DecodeTests" 213 "DecodeTests$Kept" y_K_clear ws_K_clear) := zz_gV q_c_K_clear q_m_D_213 q_i_K_clear q_sel_K_clear q_in_K
theorem g_D_grownTree_196 : GoodIn ws_D_grownTree (wsV "DecodeTests" 196 "DecodeTests$Tree" y_R_size ws_R_size) := zz_gV q_c_R_size q_m_D_196 q_i_R_size q_sel_R_size q_in_R
theorem g_D_grownTree_154 : GoodIn ws_D_grownTree (wsV "DecodeTests" 154 "DecodeTests$Tables" y_T_refresh ws_T_refresh) := zz_gV q_c_T_refresh q_m_D_154 q_i_T_refresh q_sel_T_refresh q_in_T
theorem g_D_grownTree_214 : GoodIn ws_D_grownTree (wsV "DecodeTests" 214 "DecodeTests$Tree" y_R_grow ws_R_grow) := zz_gV q_c_R_grow q_m_D_214 q_i_R_grow q_sel_R_grow q_in_R
theorem g_D_answerFor_218 : GoodIn ws_D_answerFor (wsV "DecodeTests" 218 "DecodeTests$Kept" y_K_holds ws_K_holds) := zz_gV q_c_K_holds q_m_D_218 q_i_K_holds q_sel_K_holds q_in_K
theorem g_D_answerFor_222 : GoodIn ws_D_answerFor (wsV "DecodeTests" 222 "DecodeTests$Kept" y_K_answerOf ws_K_answerOf) := zz_gV q_c_K_answerOf q_m_D_222 q_i_K_answerOf q_sel_K_answerOf q_in_K
theorem g_D_answerFor_109 : GoodIn ws_D_answerFor (wsV "DecodeTests" 109 "DecodeTests" y_D_grownTree ws_D_grownTree) := zz_gV q_c_D_grownTree q_m_D_109 q_i_D_grownTree q_sel_D_grownTree q_in_D
theorem g_D_answerFor_113 : GoodIn ws_D_answerFor (wsV "DecodeTests" 113 "DecodeTests$Tree" y_R_leafFor ws_R_leafFor) := zz_gV q_c_R_leafFor q_m_D_113 q_i_R_leafFor q_sel_R_leafFor q_in_R
theorem g_D_answerFor_137 : GoodIn ws_D_answerFor (wsV "DecodeTests" 137 "DecodeTests$Tree" y_R_listOf ws_R_listOf) := zz_gV q_c_R_listOf q_m_D_137 q_i_R_listOf q_sel_R_listOf q_in_R
theorem g_D_answerFor_225 : GoodIn ws_D_answerFor (wsV "DecodeTests" 225 "DecodeTests$Encodings" y_E_firstOfList ws_E_firstOfList) := zz_gV q_c_E_firstOfList q_m_D_225 q_i_E_firstOfList q_sel_E_firstOfList q_in_E
theorem g_D_answerFor_117 : GoodIn ws_D_answerFor (wsV "DecodeTests" 117 "DecodeTests$Tree" y_R_depthOf ws_R_depthOf) := zz_gV q_c_R_depthOf q_m_D_117 q_i_R_depthOf q_sel_R_depthOf q_in_R
theorem g_D_answerFor_228 : GoodIn ws_D_answerFor (wsV "DecodeTests" 228 "DecodeTests$Kept" y_K_put ws_K_put) := zz_gV q_c_K_put q_m_D_228 q_i_K_put q_sel_K_put q_in_K
theorem g_M_init_80 : GoodIn ws_M_init (wsV "DecodeTestsModel" 80 "DecodeTestsModel" y_M_makeAnew ws_M_makeAnew) := zz_gV q_c_M_makeAnew q_m_M_80 q_i_M_makeAnew q_sel_M_makeAnew q_in_M
theorem g_M_isWord_86 : GoodIn ws_M_isWord (va_wsS "DecodeTestsModel" 86 y_M_within ws_M_within) := zz_gS q_c_M_within q_m_M_86 q_s_M_within q_in_M
theorem g_M_makeList_93 : GoodIn ws_M_makeList (wsV "DecodeTestsModel" 93 "DecodeTestsModel" y_M_fits ws_M_fits) := zz_gV q_c_M_fits q_m_M_93 q_i_M_fits q_sel_M_fits q_in_M
theorem g_M_makeLists_97 : GoodIn ws_M_makeLists (wsV "DecodeTestsModel" 97 "DecodeTestsModel" y_M_makeList ws_M_makeList) := zz_gV q_c_M_makeList q_m_M_97 q_i_M_makeList q_sel_M_makeList q_in_M
theorem g_M_makeLists_101 : GoodIn ws_M_makeLists (wsV "DecodeTestsModel" 101 "DecodeTestsModel" y_M_isSameList ws_M_isSameList) := zz_gV q_c_M_isSameList q_m_M_101 q_i_M_isSameList q_sel_M_isSameList q_in_M
theorem g_M_hasFree_104 : GoodIn ws_M_hasFree (wsV "DecodeTestsModel" 104 "DecodeTestsModel" y_M_digit ws_M_digit) := zz_gV q_c_M_digit q_m_M_104 q_i_M_digit q_sel_M_digit q_in_M
theorem g_M_onlyWord_104 : GoodIn ws_M_onlyWord (wsV "DecodeTestsModel" 104 "DecodeTestsModel" y_M_digit ws_M_digit) := zz_gV q_c_M_digit q_m_M_104 q_i_M_digit q_sel_M_digit q_in_M
theorem g_M_firstFree_104 : GoodIn ws_M_firstFree (wsV "DecodeTestsModel" 104 "DecodeTestsModel" y_M_digit ws_M_digit) := zz_gV q_c_M_digit q_m_M_104 q_i_M_digit q_sel_M_digit q_in_M
theorem g_M_choose_104 : GoodIn ws_M_choose (wsV "DecodeTestsModel" 104 "DecodeTestsModel" y_M_digit ws_M_digit) := zz_gV q_c_M_digit q_m_M_104 q_i_M_digit q_sel_M_digit q_in_M
theorem g_M_choose_108 : GoodIn ws_M_choose (wsV "DecodeTestsModel" 108 "DecodeTestsModel" y_M_half ws_M_half) := zz_gV q_c_M_half q_m_M_108 q_i_M_half q_sel_M_half q_in_M
theorem g_M_workOut_112 : GoodIn ws_M_workOut (wsV "DecodeTestsModel" 112 "DecodeTestsModel" y_M_hasFree ws_M_hasFree) := zz_gV q_c_M_hasFree q_m_M_112 q_i_M_hasFree q_sel_M_hasFree q_in_M
theorem g_M_workOut_116 : GoodIn ws_M_workOut (wsV "DecodeTestsModel" 116 "DecodeTestsModel" y_M_onlyWord ws_M_onlyWord) := zz_gV q_c_M_onlyWord q_m_M_116 q_i_M_onlyWord q_sel_M_onlyWord q_in_M
theorem g_M_workOut_120 : GoodIn ws_M_workOut (wsV "DecodeTestsModel" 120 "DecodeTestsModel" y_M_firstFree ws_M_firstFree) := zz_gV q_c_M_firstFree q_m_M_120 q_i_M_firstFree q_sel_M_firstFree q_in_M
theorem g_M_workOut_108 : GoodIn ws_M_workOut (wsV "DecodeTestsModel" 108 "DecodeTestsModel" y_M_half ws_M_half) := zz_gV q_c_M_half q_m_M_108 q_i_M_half q_sel_M_half q_in_M
theorem g_M_workOut_123 : GoodIn ws_M_workOut (wsV "DecodeTestsModel" 123 "DecodeTestsModel" y_M_choose ws_M_choose) := zz_gV q_c_M_choose q_m_M_123 q_i_M_choose q_sel_M_choose q_in_M
theorem g_M_makeAnew_127 : GoodIn ws_M_makeAnew (wsV "DecodeTestsModel" 127 "DecodeTestsModel" y_M_makeLists ws_M_makeLists) := zz_gV q_c_M_makeLists q_m_M_127 q_i_M_makeLists q_sel_M_makeLists q_in_M
theorem g_M_makeAnew_130 : GoodIn ws_M_makeAnew (wsV "DecodeTestsModel" 130 "DecodeTestsModel" y_M_workOut ws_M_workOut) := zz_gV q_c_M_workOut q_m_M_130 q_i_M_workOut q_sel_M_workOut q_in_M
theorem g_M_makeAnew_133 : GoodIn ws_M_makeAnew (wsV "DecodeTestsModel" 133 "DecodeTestsModel" y_M_makeTree ws_M_makeTree) := zz_gV q_c_M_makeTree q_m_M_133 q_i_M_makeTree q_sel_M_makeTree q_in_M
theorem g_M_makeTree_139 : GoodIn ws_M_makeTree (wsV "DecodeTestsModel" 139 "DecodeTestsModel" y_M_allWords ws_M_allWords) := zz_gV q_c_M_allWords q_m_M_139 q_i_M_allWords q_sel_M_allWords q_in_M
theorem g_M_makeTree_143 : GoodIn ws_M_makeTree (wsV "DecodeTestsModel" 143 "DecodeTestsModel" y_M_isLeaf ws_M_isLeaf) := zz_gV q_c_M_isLeaf q_m_M_143 q_i_M_isLeaf q_sel_M_isLeaf q_in_M
theorem g_M_makeTree_108 : GoodIn ws_M_makeTree (wsV "DecodeTestsModel" 108 "DecodeTestsModel" y_M_half ws_M_half) := zz_gV q_c_M_half q_m_M_108 q_i_M_half q_sel_M_half q_in_M
theorem g_M_leafOf_143 : GoodIn ws_M_leafOf (wsV "DecodeTestsModel" 143 "DecodeTestsModel" y_M_isLeaf ws_M_isLeaf) := zz_gV q_c_M_isLeaf q_m_M_143 q_i_M_isLeaf q_sel_M_isLeaf q_in_M
theorem g_M_depthOf_143 : GoodIn ws_M_depthOf (wsV "DecodeTestsModel" 143 "DecodeTestsModel" y_M_isLeaf ws_M_isLeaf) := zz_gV q_c_M_isLeaf q_m_M_143 q_i_M_isLeaf q_sel_M_isLeaf q_in_M
theorem g_M_encoding_149 : GoodIn ws_M_encoding (wsV "DecodeTestsModel" 149 "DecodeTestsModel" y_M_isWord ws_M_isWord) := zz_gV q_c_M_isWord q_m_M_149 q_i_M_isWord q_sel_M_isWord q_in_M
theorem g_M_encoding_86 : GoodIn ws_M_encoding (va_wsS "DecodeTestsModel" 86 y_M_within ws_M_within) := zz_gS q_c_M_within q_m_M_86 q_s_M_within q_in_M
theorem g_M_encoding_152 : GoodIn ws_M_encoding (wsV "DecodeTestsModel" 152 "DecodeTestsModel" y_M_fail ws_M_fail) := zz_gV q_c_M_fail q_m_M_152 q_i_M_fail q_sel_M_fail q_in_M
theorem g_M_encoding_80 : GoodIn ws_M_encoding (wsV "DecodeTestsModel" 80 "DecodeTestsModel" y_M_makeAnew ws_M_makeAnew) := zz_gV q_c_M_makeAnew q_m_M_80 q_i_M_makeAnew q_sel_M_makeAnew q_in_M
theorem g_M_kind_86 : GoodIn ws_M_kind (va_wsS "DecodeTestsModel" 86 y_M_within ws_M_within) := zz_gS q_c_M_within q_m_M_86 q_s_M_within q_in_M
theorem g_M_kind_152 : GoodIn ws_M_kind (wsV "DecodeTestsModel" 152 "DecodeTestsModel" y_M_fail ws_M_fail) := zz_gV q_c_M_fail q_m_M_152 q_i_M_fail q_sel_M_fail q_in_M
theorem g_M_kind_133 : GoodIn ws_M_kind (wsV "DecodeTestsModel" 133 "DecodeTestsModel" y_M_makeTree ws_M_makeTree) := zz_gV q_c_M_makeTree q_m_M_133 q_i_M_makeTree q_sel_M_makeTree q_in_M
theorem g_M_answerOf_155 : GoodIn ws_M_answerOf (wsV "DecodeTestsModel" 155 "DecodeTestsModel" y_M_holds ws_M_holds) := zz_gV q_c_M_holds q_m_M_155 q_i_M_holds q_sel_M_holds q_in_M
theorem g_M_isRight_149 : GoodIn ws_M_isRight (wsV "DecodeTestsModel" 149 "DecodeTestsModel" y_M_isWord ws_M_isWord) := zz_gV q_c_M_isWord q_m_M_149 q_i_M_isWord q_sel_M_isWord q_in_M
theorem g_M_isRight_86 : GoodIn ws_M_isRight (va_wsS "DecodeTestsModel" 86 y_M_within ws_M_within) := zz_gS q_c_M_within q_m_M_86 q_s_M_within q_in_M
theorem g_M_tried_158 : GoodIn ws_M_tried (wsV "DecodeTestsModel" 158 "DecodeTestsModel" y_M_isRight ws_M_isRight) := zz_gV q_c_M_isRight q_m_M_158 q_i_M_isRight q_sel_M_isRight q_in_M
theorem g_M_tried_161 : GoodIn ws_M_tried (wsV "DecodeTestsModel" 161 "DecodeTestsModel" y_M_answerOf ws_M_answerOf) := zz_gV q_c_M_answerOf q_m_M_161 q_i_M_answerOf q_sel_M_answerOf q_in_M
theorem g_M_find_173 : GoodIn ws_M_find (wsV "DecodeTestsModel" 173 "DecodeTestsModel" y_M_depthOf ws_M_depthOf) := zz_gV q_c_M_depthOf q_m_M_173 q_i_M_depthOf q_sel_M_depthOf q_in_M
theorem g_M_find_176 : GoodIn ws_M_find (wsV "DecodeTestsModel" 176 "DecodeTestsModel" y_M_leafOf ws_M_leafOf) := zz_gV q_c_M_leafOf q_m_M_176 q_i_M_leafOf q_sel_M_leafOf q_in_M
theorem g_M_find_161 : GoodIn ws_M_find (wsV "DecodeTestsModel" 161 "DecodeTestsModel" y_M_answerOf ws_M_answerOf) := zz_gV q_c_M_answerOf q_m_M_161 q_i_M_answerOf q_sel_M_answerOf q_in_M
theorem g_M_decode_158 : GoodIn ws_M_decode (wsV "DecodeTestsModel" 158 "DecodeTestsModel" y_M_isRight ws_M_isRight) := zz_gV q_c_M_isRight q_m_M_158 q_i_M_isRight q_sel_M_isRight q_in_M
theorem g_M_decode_179 : GoodIn ws_M_decode (wsV "DecodeTestsModel" 179 "DecodeTestsModel" y_M_find ws_M_find) := zz_gV q_c_M_find q_m_M_179 q_i_M_find q_sel_M_find q_in_M
theorem g_M_tests_158 : GoodIn ws_M_tests (wsV "DecodeTestsModel" 158 "DecodeTestsModel" y_M_isRight ws_M_isRight) := zz_gV q_c_M_isRight q_m_M_158 q_i_M_isRight q_sel_M_isRight q_in_M
theorem g_M_tests_173 : GoodIn ws_M_tests (wsV "DecodeTestsModel" 173 "DecodeTestsModel" y_M_depthOf ws_M_depthOf) := zz_gV q_c_M_depthOf q_m_M_173 q_i_M_depthOf q_sel_M_depthOf q_in_M
theorem g_M_node_86 : GoodIn ws_M_node (va_wsS "DecodeTestsModel" 86 y_M_within ws_M_within) := zz_gS q_c_M_within q_m_M_86 q_s_M_within q_in_M
theorem g_M_node_152 : GoodIn ws_M_node (wsV "DecodeTestsModel" 152 "DecodeTestsModel" y_M_fail ws_M_fail) := zz_gV q_c_M_fail q_m_M_152 q_i_M_fail q_sel_M_fail q_in_M
theorem g_M_node_143 : GoodIn ws_M_node (wsV "DecodeTestsModel" 143 "DecodeTestsModel" y_M_isLeaf ws_M_isLeaf) := zz_gV q_c_M_isLeaf q_m_M_143 q_i_M_isLeaf q_sel_M_isLeaf q_in_M
theorem g_M_listed_86 : GoodIn ws_M_listed (va_wsS "DecodeTestsModel" 86 y_M_within ws_M_within) := zz_gS q_c_M_within q_m_M_86 q_s_M_within q_in_M
theorem g_M_listed_152 : GoodIn ws_M_listed (wsV "DecodeTestsModel" 152 "DecodeTestsModel" y_M_fail ws_M_fail) := zz_gV q_c_M_fail q_m_M_152 q_i_M_fail q_sel_M_fail q_in_M
theorem g_M_listed_143 : GoodIn ws_M_listed (wsV "DecodeTestsModel" 143 "DecodeTestsModel" y_M_isLeaf ws_M_isLeaf) := zz_gV q_c_M_isLeaf q_m_M_143 q_i_M_isLeaf q_sel_M_isLeaf q_in_M
theorem g_M_cost_86 : GoodIn ws_M_cost (va_wsS "DecodeTestsModel" 86 y_M_within ws_M_within) := zz_gS q_c_M_within q_m_M_86 q_s_M_within q_in_M
theorem g_M_cost_152 : GoodIn ws_M_cost (wsV "DecodeTestsModel" 152 "DecodeTestsModel" y_M_fail ws_M_fail) := zz_gV q_c_M_fail q_m_M_152 q_i_M_fail q_sel_M_fail q_in_M
theorem g_M_cost_139 : GoodIn ws_M_cost (wsV "DecodeTestsModel" 139 "DecodeTestsModel" y_M_allWords ws_M_allWords) := zz_gV q_c_M_allWords q_m_M_139 q_i_M_allWords q_sel_M_allWords q_in_M
theorem g_M_feed_149 : GoodIn ws_M_feed (wsV "DecodeTestsModel" 149 "DecodeTestsModel" y_M_isWord ws_M_isWord) := zz_gV q_c_M_isWord q_m_M_149 q_i_M_isWord q_sel_M_isWord q_in_M
theorem g_M_feed_152 : GoodIn ws_M_feed (wsV "DecodeTestsModel" 152 "DecodeTestsModel" y_M_fail ws_M_fail) := zz_gV q_c_M_fail q_m_M_152 q_i_M_fail q_sel_M_fail q_in_M
theorem g_M_take_86 : GoodIn ws_M_take (va_wsS "DecodeTestsModel" 86 y_M_within ws_M_within) := zz_gS q_c_M_within q_m_M_86 q_s_M_within q_in_M
theorem g_M_take_152 : GoodIn ws_M_take (wsV "DecodeTestsModel" 152 "DecodeTestsModel" y_M_fail ws_M_fail) := zz_gV q_c_M_fail q_m_M_152 q_i_M_fail q_sel_M_fail q_in_M
theorem g_M_take_179 : GoodIn ws_M_take (wsV "DecodeTestsModel" 179 "DecodeTestsModel" y_M_find ws_M_find) := zz_gV q_c_M_find q_m_M_179 q_i_M_find q_sel_M_find q_in_M
theorem g_M_crosses_188 : GoodIn ws_M_crosses (wsV "DecodeTestsModel" 188 "DecodeTestsModel" y_M_isIn ws_M_isIn) := zz_gV q_c_M_isIn q_m_M_188 q_i_M_isIn q_sel_M_isIn q_in_M
theorem g_M_count_143 : GoodIn ws_M_count (wsV "DecodeTestsModel" 143 "DecodeTestsModel" y_M_isLeaf ws_M_isLeaf) := zz_gV q_c_M_isLeaf q_m_M_143 q_i_M_isLeaf q_sel_M_isLeaf q_in_M
theorem g_E_add_34 : GoodIn ws_E_add (wsV "DecodeTests$Encodings" 34 "DecodeTests$Encodings" y_E_addToLists ws_E_addToLists) := zz_gV q_c_E_addToLists q_m_E_34 q_i_E_addToLists q_sel_E_addToLists q_in_E
theorem g_E_addToLists_41 : GoodIn ws_E_addToLists (wsV "DecodeTests$Encodings" 41 "DecodeTests$Encodings" y_E_fits ws_E_fits) := zz_gV q_c_E_fits q_m_E_41 q_i_E_fits q_sel_E_fits q_in_E
theorem g_E_firstThatFits_41 : GoodIn ws_E_firstThatFits (wsV "DecodeTests$Encodings" 41 "DecodeTests$Encodings" y_E_fits ws_E_fits) := zz_gV q_c_E_fits q_m_E_41 q_i_E_fits q_sel_E_fits q_in_E
theorem g_E_firstThatFits_45 : GoodIn ws_E_firstThatFits (wsV "DecodeTests$Encodings" 45 "DecodeTests$Encodings" y_E_isOpen ws_E_isOpen) := zz_gV q_c_E_isOpen q_m_E_45 q_i_E_isOpen q_sel_E_isOpen q_in_E
theorem g_E_firstOfList_45 : GoodIn ws_E_firstOfList (wsV "DecodeTests$Encodings" 45 "DecodeTests$Encodings" y_E_isOpen ws_E_isOpen) := zz_gV q_c_E_isOpen q_m_E_45 q_i_E_isOpen q_sel_E_isOpen q_in_E
theorem g_E_anyCross_48 : GoodIn ws_E_anyCross (wsV "DecodeTests$Encodings" 48 "DecodeTests$Encodings" y_E_haveCommonWord ws_E_haveCommonWord) := zz_gV q_c_E_haveCommonWord q_m_E_48 q_i_E_haveCommonWord q_sel_E_haveCommonWord q_in_E
theorem g_E_anyCross_51 : GoodIn ws_E_anyCross (wsV "DecodeTests$Encodings" 51 "DecodeTests$Encodings" y_E_hasAllOf ws_E_hasAllOf) := zz_gV q_c_E_hasAllOf q_m_E_51 q_i_E_hasAllOf q_sel_E_hasAllOf q_in_E
theorem g_K_init_21 : GoodIn ws_K_init (wsV "DecodeTests$Kept" 21 "DecodeTests$Kept" y_K_clear ws_K_clear) := zz_gV q_c_K_clear q_m_K_21 q_i_K_clear q_sel_K_clear q_in_K
theorem g_K_holds_28 : GoodIn ws_K_holds (va_wsS "DecodeTests$Kept" 28 y_K_rowOf ws_K_rowOf) := zz_gS q_c_K_rowOf q_m_K_28 q_s_K_rowOf q_in_K
theorem g_K_answerOf_28 : GoodIn ws_K_answerOf (va_wsS "DecodeTests$Kept" 28 y_K_rowOf ws_K_rowOf) := zz_gS q_c_K_rowOf q_m_K_28 q_s_K_rowOf q_in_K
theorem g_K_put_28 : GoodIn ws_K_put (va_wsS "DecodeTests$Kept" 28 y_K_rowOf ws_K_rowOf) := zz_gS q_c_K_rowOf q_m_K_28 q_s_K_rowOf q_in_K
theorem g_T_refresh_35 : GoodIn ws_T_refresh (wsV "DecodeTests$Tables" 35 "DecodeTests$Encodings" y_E_listFor ws_E_listFor) := zz_gV q_c_E_listFor q_m_T_35 q_i_E_listFor q_sel_E_listFor q_in_E
theorem g_T_refresh_41 : GoodIn ws_T_refresh (wsV "DecodeTests$Tables" 41 "DecodeTests$Tables" y_T_commonOfSides ws_T_commonOfSides) := zz_gV q_c_T_commonOfSides q_m_T_41 q_i_T_commonOfSides q_sel_T_commonOfSides q_in_T
theorem g_T_refresh_45 : GoodIn ws_T_refresh (wsV "DecodeTests$Tables" 45 "DecodeTests$Tables" y_T_weigh ws_T_weigh) := zz_gV q_c_T_weigh q_m_T_45 q_i_T_weigh q_sel_T_weigh q_in_T
theorem g_T_commonOfSides_49 : GoodIn ws_T_commonOfSides (va_wsS "DecodeTests$Tables" 49 y_JI_numberOfTrailingZeros ws_JI_numberOfTrailingZeros) := zz_gS q_c_JI_numberOfTrailingZeros q_m_T_49 q_s_JI_numberOfTrailingZeros q_in_JI
theorem g_T_commonOfSides_54 : GoodIn ws_T_commonOfSides (va_wsS "DecodeTests$Tables" 54 y_T_side ws_T_side) := zz_gS q_c_T_side q_m_T_54 q_s_T_side q_in_T
theorem g_T_weigh_54 : GoodIn ws_T_weigh (va_wsS "DecodeTests$Tables" 54 y_T_side ws_T_side) := zz_gS q_c_T_side q_m_T_54 q_s_T_side q_in_T
theorem g_T_weigh_59 : GoodIn ws_T_weigh (va_wsS "DecodeTests$Tables" 59 y_JM_max ws_JM_max) := zz_gS q_c_JM_max q_m_T_59 q_s_JM_max q_in_JM
theorem g_T_weigh_64 : GoodIn ws_T_weigh (va_wsS "DecodeTests$Tables" 64 y_JM_min ws_JM_min) := zz_gS q_c_JM_min q_m_T_64 q_s_JM_min q_in_JM
theorem g_T_weigh_67 : GoodIn ws_T_weigh (va_wsS "DecodeTests$Tables" 67 y_JI_bitCount ws_JI_bitCount) := zz_gS q_c_JI_bitCount q_m_T_67 q_s_JI_bitCount q_in_JI
theorem g_T_deepest_70 : GoodIn ws_T_deepest (wsV "DecodeTests$Tables" 70 "DecodeTests$Tables" y_T_allWords ws_T_allWords) := zz_gV q_c_T_allWords q_m_T_70 q_i_T_allWords q_sel_T_allWords q_in_T
theorem g_T_deepest_74 : GoodIn ws_T_deepest (va_wsS "DecodeTests$Tables" 74 y_T_deepestBelow ws_T_deepestBelow) := zz_gS q_c_T_deepestBelow q_m_T_74 q_s_T_deepestBelow q_in_T
theorem g_T_deepestBelow_78 : GoodIn ws_T_deepestBelow (wsV "DecodeTests$Tables" 78 "DecodeTests$Tables" y_T_choice ws_T_choice) := zz_gV q_c_T_choice q_m_T_78 q_i_T_choice q_sel_T_choice q_in_T
theorem g_T_deepestBelow_54 : GoodIn ws_T_deepestBelow (va_wsS "DecodeTests$Tables" 54 y_T_side ws_T_side) := zz_gS q_c_T_side q_m_T_54 q_s_T_side q_in_T
theorem g_T_deepestBelow_74 : GoodIn ws_T_deepestBelow (va_wsS "DecodeTests$Tables" 74 y_T_deepestBelow ws_T_deepestBelow) := zz_gS q_c_T_deepestBelow q_m_T_74 q_s_T_deepestBelow q_in_T
theorem g_T_deepestBelow_59 : GoodIn ws_T_deepestBelow (va_wsS "DecodeTests$Tables" 59 y_JM_max ws_JM_max) := zz_gS q_c_JM_max q_m_T_59 q_s_JM_max q_in_JM
theorem g_T_total_70 : GoodIn ws_T_total (wsV "DecodeTests$Tables" 70 "DecodeTests$Tables" y_T_allWords ws_T_allWords) := zz_gV q_c_T_allWords q_m_T_70 q_i_T_allWords q_sel_T_allWords q_in_T
theorem g_T_total_81 : GoodIn ws_T_total (va_wsS "DecodeTests$Tables" 81 y_T_totalBelow ws_T_totalBelow) := zz_gS q_c_T_totalBelow q_m_T_81 q_s_T_totalBelow q_in_T
theorem g_T_totalBelow_78 : GoodIn ws_T_totalBelow (wsV "DecodeTests$Tables" 78 "DecodeTests$Tables" y_T_choice ws_T_choice) := zz_gV q_c_T_choice q_m_T_78 q_i_T_choice q_sel_T_choice q_in_T
theorem g_T_totalBelow_54 : GoodIn ws_T_totalBelow (va_wsS "DecodeTests$Tables" 54 y_T_side ws_T_side) := zz_gS q_c_T_side q_m_T_54 q_s_T_side q_in_T
theorem g_T_totalBelow_81 : GoodIn ws_T_totalBelow (va_wsS "DecodeTests$Tables" 81 y_T_totalBelow ws_T_totalBelow) := zz_gS q_c_T_totalBelow q_m_T_81 q_s_T_totalBelow q_in_T
theorem g_R_grow_37 : GoodIn ws_R_grow (wsV "DecodeTests$Tree" 37 "DecodeTests$Tree" y_R_clear ws_R_clear) := zz_gV q_c_R_clear q_m_R_37 q_i_R_clear q_sel_R_clear q_in_R
theorem g_R_grow_40 : GoodIn ws_R_grow (wsV "DecodeTests$Tree" 40 "DecodeTests$Tables" y_T_allWords ws_T_allWords) := zz_gV q_c_T_allWords q_m_R_40 q_i_T_allWords q_sel_T_allWords q_in_T
theorem g_R_grow_46 : GoodIn ws_R_grow (va_wsS "DecodeTests$Tree" 46 y_R_growBelow ws_R_growBelow) := zz_gS q_c_R_growBelow q_m_R_46 q_s_R_growBelow q_in_R
theorem g_R_growBelow_50 : GoodIn ws_R_growBelow (wsV "DecodeTests$Tree" 50 "DecodeTests$Tables" y_T_choice ws_T_choice) := zz_gV q_c_T_choice q_m_R_50 q_i_T_choice q_sel_T_choice q_in_T
theorem g_R_growBelow_54 : GoodIn ws_R_growBelow (wsV "DecodeTests$Tree" 54 "DecodeTests$Tables" y_T_listOf ws_T_listOf) := zz_gV q_c_T_listOf q_m_R_54 q_i_T_listOf q_sel_T_listOf q_in_T
theorem g_R_growBelow_58 : GoodIn ws_R_growBelow (wsV "DecodeTests$Tree" 58 "DecodeTests$Tree" y_R_addLeaf ws_R_addLeaf) := zz_gV q_c_R_addLeaf q_m_R_58 q_i_R_addLeaf q_sel_R_addLeaf q_in_R
theorem g_R_growBelow_62 : GoodIn ws_R_growBelow (wsV "DecodeTests$Tree" 62 "DecodeTests$Tree" y_R_addNode ws_R_addNode) := zz_gV q_c_R_addNode q_m_R_62 q_i_R_addNode q_sel_R_addNode q_in_R
theorem g_R_growBelow_65 : GoodIn ws_R_growBelow (va_wsS "DecodeTests$Tree" 65 y_T_side ws_T_side) := zz_gS q_c_T_side q_m_R_65 q_s_T_side q_in_T
theorem g_R_growBelow_46 : GoodIn ws_R_growBelow (va_wsS "DecodeTests$Tree" 46 y_R_growBelow ws_R_growBelow) := zz_gS q_c_R_growBelow q_m_R_46 q_s_R_growBelow q_in_R
theorem g_R_addLeaf_62 : GoodIn ws_R_addLeaf (wsV "DecodeTests$Tree" 62 "DecodeTests$Tree" y_R_addNode ws_R_addNode) := zz_gV q_c_R_addNode q_m_R_62 q_i_R_addNode q_sel_R_addNode q_in_R
theorem g_R_leafFor_68 : GoodIn ws_R_leafFor (wsV "DecodeTests$Tree" 68 "DecodeTests$Tree" y_R_sideOf ws_R_sideOf) := zz_gV q_c_R_sideOf q_m_R_68 q_i_R_sideOf q_sel_R_sideOf q_in_R
