theorem wd_e8505d70 : (Jvm.Cond.fieldLink "TreePressModel" (17 : Nat) "TreePressModel" "nodes" "[I") ∈ kb_T := kb_t3 191 (by decide +kernel) (by decide +kernel)
theorem wd_0c18f9c0 : (Jvm.Cond.fieldLink "TreePressModel" (20 : Nat) "TreePressModel" "properties" "[I") ∈ kb_T := kb_t3 192 (by decide +kernel) (by decide +kernel)
theorem wd_9adf105c : (Jvm.Cond.fieldLink "TreePressModel" (23 : Nat) "TreePressModel" "used" "[I") ∈ kb_T := kb_t3 193 (by decide +kernel) (by decide +kernel)
theorem wd_51ded947 : (Jvm.Cond.fieldLink "TreePressModel" (26 : Nat) "TreePressModel" "inside" "[I") ∈ kb_T := kb_t3 194 (by decide +kernel) (by decide +kernel)
theorem wd_0465fd3b : (Jvm.Cond.fieldLink "TreePressModel" (29 : Nat) "TreePressModel" "nodeFrom" "[I") ∈ kb_T := kb_t3 195 (by decide +kernel) (by decide +kernel)
theorem wd_05d4d7b5 : (Jvm.Cond.fieldLink "TreePressModel" (32 : Nat) "TreePressModel" "nodeTo" "[I") ∈ kb_T := kb_t3 196 (by decide +kernel) (by decide +kernel)
theorem wd_72b9071d : (Jvm.Cond.methodLink "TreePressModel" (1 : Nat) ({ cls := "java/lang/Object", name := "<init>", desc := "()V" } : Jvm.MethodName)) ∈ kb_T := kb_t3 179 (by decide +kernel) (by decide +kernel)
theorem wd_18266a69 : (Jvm.Cond.constant "TreePressModel" (7 : Nat) (65536 : Int32)) ∈ kb_T := kb_t3 180 (by decide +kernel) (by decide +kernel)
theorem wd_5836b793 : (Jvm.Cond.fieldLink "TreePressModel" (8 : Nat) "TreePressModel" "tape" "[I") ∈ kb_T := kb_t3 187 (by decide +kernel) (by decide +kernel)
theorem wd_14e1aa9c : (Jvm.Cond.fieldLink "TreePressModel" (14 : Nat) "TreePressModel" "out" "[I") ∈ kb_T := kb_t3 189 (by decide +kernel) (by decide +kernel)
theorem wd_7c9b9137 : (Jvm.Cond.fieldLink "TreePressModel" (35 : Nat) "TreePressModel" "owner" "[I") ∈ kb_T := kb_t3 197 (by decide +kernel) (by decide +kernel)
theorem wd_4102d042 : (Jvm.Cond.fieldLink "TreePressModel" (38 : Nat) "TreePressModel" "nameFrom" "[I") ∈ kb_T := kb_t3 198 (by decide +kernel) (by decide +kernel)
theorem wd_43d1b317 : (Jvm.Cond.fieldLink "TreePressModel" (41 : Nat) "TreePressModel" "valueFrom" "[I") ∈ kb_T := kb_t3 199 (by decide +kernel) (by decide +kernel)
theorem wd_cc281425 : (Jvm.Cond.fieldLink "TreePressModel" (44 : Nat) "TreePressModel" "valueTo" "[I") ∈ kb_T := kb_t3 200 (by decide +kernel) (by decide +kernel)
theorem wd_4e93bcb9 : (Jvm.Cond.constant "TreePressModel" (47 : Nat) (32768 : Int32)) ∈ kb_T := kb_t3 181 (by decide +kernel) (by decide +kernel)
theorem wd_e8a5586a : (Jvm.Cond.fieldLink "TreePressModel" (48 : Nat) "TreePressModel" "bytes" "[I") ∈ kb_T := kb_t3 201 (by decide +kernel) (by decide +kernel)
theorem wd_fd2dca98 : (Jvm.Cond.methodLink "TreePressModel" (51 : Nat) ({ cls := "TreePressModel", name := "begin", desc := "(I)V" } : Jvm.MethodName)) ∈ kb_T := kb_t3 182 (by decide +kernel) (by decide +kernel)
theorem wd_24b2fa7a : (Jvm.Cond.instanceMethod ({ cls := "TreePressModel", name := "begin", desc := "(I)V" } : Jvm.MethodName)) ∈ kb_T := kb_t3 184 (by decide +kernel) (by decide +kernel)
theorem wd_9befa8bf : Cond.selects "TreePressModel" ⟨"TreePressModel", "begin", "(I)V"⟩ ⟨"TreePressModel", "begin", "(I)V"⟩ ∈ kb_T := kb_t0 (y := ⟨"TreePressModel", "begin", "(I)V"⟩) (n := 21) (by decide +kernel) (by decide +kernel)
theorem wd_38099713 : (Jvm.Cond.initialized "TreePressModel") ∈ kb_T := kb_t1 8 (by decide +kernel) (by decide +kernel)
theorem wd_99c2ca70 : (Jvm.Cond.code ({ cls := "TreePressModel", name := "begin", desc := "(I)V" } : Jvm.MethodName) prog_6_method_3_code (2 : Nat) (Option.none : Option Jvm.ClassFile.FieldType)) ∈ kb_T := kb_t3 185 (by decide +kernel) (by decide +kernel)
theorem hd_a18b8d5a : (⟨"TreePressModel", "begin", "(I)V"⟩ : MethodName).cls ≠ "java/lang/invoke/MethodHandle" ∧ (⟨"TreePressModel", "begin", "(I)V"⟩ : MethodName).cls ≠ "java/lang/invoke/VarHandle" ∧ (parseMethodDescriptor (⟨"TreePressModel", "begin", "(I)V"⟩ : MethodName).desc).map (fun d => d.parameters.length) = some 1 := by decide +kernel
theorem wd_d5599598 : (Jvm.Cond.fieldLink "TreePressModel" (55 : Nat) "TreePressModel" "thrown" "I") ∈ kb_T := kb_t3 186 (by decide +kernel) (by decide +kernel)
theorem wd_822be019 : (Jvm.Cond.fieldLink "TreePressModel" (59 : Nat) "TreePressModel" "taped" "I") ∈ kb_T := kb_t3 188 (by decide +kernel) (by decide +kernel)
theorem wd_2f283908 : (Jvm.Cond.fieldLink "TreePressModel" (66 : Nat) "TreePressModel" "place" "I") ∈ kb_T := kb_t3 202 (by decide +kernel) (by decide +kernel)
theorem wd_f5cf975e : (Jvm.Cond.methodLink "TreePressModel" (73 : Nat) ({ cls := "TreePressModel", name := "depthOf", desc := "(II)I" } : Jvm.MethodName)) ∈ kb_T := kb_t4 30 (by decide +kernel) (by decide +kernel)
theorem wd_dd83edd5 : (Jvm.Cond.instanceMethod ({ cls := "TreePressModel", name := "depthOf", desc := "(II)I" } : Jvm.MethodName)) ∈ kb_T := kb_t4 32 (by decide +kernel) (by decide +kernel)
theorem wd_b1d2daa7 : Cond.selects "TreePressModel" ⟨"TreePressModel", "depthOf", "(II)I"⟩ ⟨"TreePressModel", "depthOf", "(II)I"⟩ ∈ kb_T := kb_t0 (y := ⟨"TreePressModel", "depthOf", "(II)I"⟩) (n := 21) (by decide +kernel) (by decide +kernel)
theorem wd_8a3d9a02 : (Jvm.Cond.code ({ cls := "TreePressModel", name := "depthOf", desc := "(II)I" } : Jvm.MethodName) prog_6_method_10_code (5 : Nat) (Option.some Jvm.ClassFile.FieldType.int)) ∈ kb_T := kb_t4 33 (by decide +kernel) (by decide +kernel)
theorem hd_b6e7653d : (⟨"TreePressModel", "depthOf", "(II)I"⟩ : MethodName).cls ≠ "java/lang/invoke/MethodHandle" ∧ (⟨"TreePressModel", "depthOf", "(II)I"⟩ : MethodName).cls ≠ "java/lang/invoke/VarHandle" ∧ (parseMethodDescriptor (⟨"TreePressModel", "depthOf", "(II)I"⟩ : MethodName).desc).map (fun d => d.parameters.length) = some 2 := by decide +kernel
theorem wd_1afab31a : (Jvm.Cond.methodLink "TreePressModel" (77 : Nat) ({ cls := "TreePressModel", name := "isName", desc := "(I)Z" } : Jvm.MethodName)) ∈ kb_T := kb_t4 34 (by decide +kernel) (by decide +kernel)
theorem wd_89620341 : (Jvm.Cond.instanceMethod ({ cls := "TreePressModel", name := "isName", desc := "(I)Z" } : Jvm.MethodName)) ∈ kb_T := kb_t4 36 (by decide +kernel) (by decide +kernel)
theorem wd_b6b46769 : Cond.selects "TreePressModel" ⟨"TreePressModel", "isName", "(I)Z"⟩ ⟨"TreePressModel", "isName", "(I)Z"⟩ ∈ kb_T := kb_t0 (y := ⟨"TreePressModel", "isName", "(I)Z"⟩) (n := 21) (by decide +kernel) (by decide +kernel)
theorem wd_7ccd5f19 : (Jvm.Cond.code ({ cls := "TreePressModel", name := "isName", desc := "(I)Z" } : Jvm.MethodName) prog_6_method_7_code (4 : Nat) (Option.some Jvm.ClassFile.FieldType.boolean)) ∈ kb_T := kb_t4 37 (by decide +kernel) (by decide +kernel)
theorem hd_ba6b4af3 : (⟨"TreePressModel", "isName", "(I)Z"⟩ : MethodName).cls ≠ "java/lang/invoke/MethodHandle" ∧ (⟨"TreePressModel", "isName", "(I)Z"⟩ : MethodName).cls ≠ "java/lang/invoke/VarHandle" ∧ (parseMethodDescriptor (⟨"TreePressModel", "isName", "(I)Z"⟩ : MethodName).desc).map (fun d => d.parameters.length) = some 1 := by decide +kernel
theorem wd_09f6dca0 : (Jvm.Cond.fieldLink "TreePressModel" (88 : Nat) "TreePressModel" "many" "I") ∈ kb_T := kb_t3 190 (by decide +kernel) (by decide +kernel)
theorem wd_b0cf3d0a : (Jvm.Cond.methodLink "TreePressModel" (91 : Nat) ({ cls := "TreePressModel", name := "put", desc := "(I)V" } : Jvm.MethodName)) ∈ kb_T := kb_t4 73 (by decide +kernel) (by decide +kernel)
theorem wd_ad11063d : (Jvm.Cond.instanceMethod ({ cls := "TreePressModel", name := "put", desc := "(I)V" } : Jvm.MethodName)) ∈ kb_T := kb_t4 75 (by decide +kernel) (by decide +kernel)
theorem wd_fc6365d8 : Cond.selects "TreePressModel" ⟨"TreePressModel", "put", "(I)V"⟩ ⟨"TreePressModel", "put", "(I)V"⟩ ∈ kb_T := kb_t0 (y := ⟨"TreePressModel", "put", "(I)V"⟩) (n := 21) (by decide +kernel) (by decide +kernel)
theorem wd_7200cd9a : (Jvm.Cond.code ({ cls := "TreePressModel", name := "put", desc := "(I)V" } : Jvm.MethodName) prog_6_method_16_code (2 : Nat) (Option.none : Option Jvm.ClassFile.FieldType)) ∈ kb_T := kb_t4 76 (by decide +kernel) (by decide +kernel)
theorem hd_4a8e392e : (⟨"TreePressModel", "put", "(I)V"⟩ : MethodName).cls ≠ "java/lang/invoke/MethodHandle" ∧ (⟨"TreePressModel", "put", "(I)V"⟩ : MethodName).cls ≠ "java/lang/invoke/VarHandle" ∧ (parseMethodDescriptor (⟨"TreePressModel", "put", "(I)V"⟩ : MethodName).desc).map (fun d => d.parameters.length) = some 1 := by decide +kernel
theorem wd_283e8efb : (Jvm.Cond.methodLink "TreePressModel" (101 : Nat) ({ cls := "TreePressModel", name := "number", desc := "(I)V" } : Jvm.MethodName)) ∈ kb_T := kb_t4 69 (by decide +kernel) (by decide +kernel)
theorem wd_3d04b7f3 : (Jvm.Cond.instanceMethod ({ cls := "TreePressModel", name := "number", desc := "(I)V" } : Jvm.MethodName)) ∈ kb_T := kb_t4 71 (by decide +kernel) (by decide +kernel)
theorem wd_1b35c4b5 : Cond.selects "TreePressModel" ⟨"TreePressModel", "number", "(I)V"⟩ ⟨"TreePressModel", "number", "(I)V"⟩ ∈ kb_T := kb_t0 (y := ⟨"TreePressModel", "number", "(I)V"⟩) (n := 21) (by decide +kernel) (by decide +kernel)
theorem wd_ce9eaa3f : (Jvm.Cond.code ({ cls := "TreePressModel", name := "number", desc := "(I)V" } : Jvm.MethodName) prog_6_method_17_code (2 : Nat) (Option.none : Option Jvm.ClassFile.FieldType)) ∈ kb_T := kb_t4 72 (by decide +kernel) (by decide +kernel)
theorem hd_0217c5f0 : (⟨"TreePressModel", "number", "(I)V"⟩ : MethodName).cls ≠ "java/lang/invoke/MethodHandle" ∧ (⟨"TreePressModel", "number", "(I)V"⟩ : MethodName).cls ≠ "java/lang/invoke/VarHandle" ∧ (parseMethodDescriptor (⟨"TreePressModel", "number", "(I)V"⟩ : MethodName).desc).map (fun d => d.parameters.length) = some 1 := by decide +kernel
theorem wd_e9f3229d : (Jvm.Cond.methodLink "TreePressModel" (108 : Nat) ({ cls := "TreePressModel", name := "fillUp", desc := "()V" } : Jvm.MethodName)) ∈ kb_T := kb_t4 77 (by decide +kernel) (by decide +kernel)
theorem wd_46c4b47c : (Jvm.Cond.instanceMethod ({ cls := "TreePressModel", name := "fillUp", desc := "()V" } : Jvm.MethodName)) ∈ kb_T := kb_t4 79 (by decide +kernel) (by decide +kernel)
theorem wd_cdbc4521 : Cond.selects "TreePressModel" ⟨"TreePressModel", "fillUp", "()V"⟩ ⟨"TreePressModel", "fillUp", "()V"⟩ ∈ kb_T := kb_t0 (y := ⟨"TreePressModel", "fillUp", "()V"⟩) (n := 21) (by decide +kernel) (by decide +kernel)
theorem wd_706b4b43 : (Jvm.Cond.code ({ cls := "TreePressModel", name := "fillUp", desc := "()V" } : Jvm.MethodName) prog_6_method_18_code (1 : Nat) (Option.none : Option Jvm.ClassFile.FieldType)) ∈ kb_T := kb_t4 80 (by decide +kernel) (by decide +kernel)
theorem hd_ffc93103 : (⟨"TreePressModel", "fillUp", "()V"⟩ : MethodName).cls ≠ "java/lang/invoke/MethodHandle" ∧ (⟨"TreePressModel", "fillUp", "()V"⟩ : MethodName).cls ≠ "java/lang/invoke/VarHandle" ∧ (parseMethodDescriptor (⟨"TreePressModel", "fillUp", "()V"⟩ : MethodName).desc).map (fun d => d.parameters.length) = some 0 := by decide +kernel
theorem wd_d83df0ad : (Jvm.Cond.methodLink "TreePressModel" (111 : Nat) ({ cls := "TreePressModel", name := "layProperties", desc := "(I)V" } : Jvm.MethodName)) ∈ kb_T := kb_t4 81 (by decide +kernel) (by decide +kernel)
theorem wd_eaaaf557 : (Jvm.Cond.instanceMethod ({ cls := "TreePressModel", name := "layProperties", desc := "(I)V" } : Jvm.MethodName)) ∈ kb_T := kb_t4 83 (by decide +kernel) (by decide +kernel)
theorem wd_feaac75f : Cond.selects "TreePressModel" ⟨"TreePressModel", "layProperties", "(I)V"⟩ ⟨"TreePressModel", "layProperties", "(I)V"⟩ ∈ kb_T := kb_t0 (y := ⟨"TreePressModel", "layProperties", "(I)V"⟩) (n := 21) (by decide +kernel) (by decide +kernel)
theorem wd_bad3c462 : (Jvm.Cond.code ({ cls := "TreePressModel", name := "layProperties", desc := "(I)V" } : Jvm.MethodName) prog_6_method_22_code (4 : Nat) (Option.none : Option Jvm.ClassFile.FieldType)) ∈ kb_T := kb_t4 84 (by decide +kernel) (by decide +kernel)
theorem hd_a12f3a47 : (⟨"TreePressModel", "layProperties", "(I)V"⟩ : MethodName).cls ≠ "java/lang/invoke/MethodHandle" ∧ (⟨"TreePressModel", "layProperties", "(I)V"⟩ : MethodName).cls ≠ "java/lang/invoke/VarHandle" ∧ (parseMethodDescriptor (⟨"TreePressModel", "layProperties", "(I)V"⟩ : MethodName).desc).map (fun d => d.parameters.length) = some 1 := by decide +kernel
theorem wd_89b26a29 : (Jvm.Cond.constant "TreePressModel" (114 : Nat) (-804389139 : Int32)) ∈ kb_T := kb_t4 105 (by decide +kernel) (by decide +kernel)
theorem wd_35f7ed29 : (Jvm.Cond.methodLink "TreePressModel" (115 : Nat) ({ cls := "TreePressModel", name := "layNodes", desc := "()V" } : Jvm.MethodName)) ∈ kb_T := kb_t4 65 (by decide +kernel) (by decide +kernel)
theorem wd_a8658d69 : (Jvm.Cond.instanceMethod ({ cls := "TreePressModel", name := "layNodes", desc := "()V" } : Jvm.MethodName)) ∈ kb_T := kb_t4 67 (by decide +kernel) (by decide +kernel)
theorem wd_cd6eb804 : Cond.selects "TreePressModel" ⟨"TreePressModel", "layNodes", "()V"⟩ ⟨"TreePressModel", "layNodes", "()V"⟩ ∈ kb_T := kb_t0 (y := ⟨"TreePressModel", "layNodes", "()V"⟩) (n := 21) (by decide +kernel) (by decide +kernel)
theorem wd_dacd265b : (Jvm.Cond.code ({ cls := "TreePressModel", name := "layNodes", desc := "()V" } : Jvm.MethodName) prog_6_method_23_code (5 : Nat) (Option.none : Option Jvm.ClassFile.FieldType)) ∈ kb_T := kb_t4 68 (by decide +kernel) (by decide +kernel)
theorem hd_cf861a33 : (⟨"TreePressModel", "layNodes", "()V"⟩ : MethodName).cls ≠ "java/lang/invoke/MethodHandle" ∧ (⟨"TreePressModel", "layNodes", "()V"⟩ : MethodName).cls ≠ "java/lang/invoke/VarHandle" ∧ (parseMethodDescriptor (⟨"TreePressModel", "layNodes", "()V"⟩ : MethodName).desc).map (fun d => d.parameters.length) = some 0 := by decide +kernel
theorem wd_562b93a7 : (Jvm.Cond.methodLink "TreePressModel" (118 : Nat) ({ cls := "TreePressModel", name := "layNames", desc := "()V" } : Jvm.MethodName)) ∈ kb_T := kb_t4 97 (by decide +kernel) (by decide +kernel)
theorem wd_b878ab4e : (Jvm.Cond.instanceMethod ({ cls := "TreePressModel", name := "layNames", desc := "()V" } : Jvm.MethodName)) ∈ kb_T := kb_t4 99 (by decide +kernel) (by decide +kernel)
theorem wd_1926cb46 : Cond.selects "TreePressModel" ⟨"TreePressModel", "layNames", "()V"⟩ ⟨"TreePressModel", "layNames", "()V"⟩ ∈ kb_T := kb_t0 (y := ⟨"TreePressModel", "layNames", "()V"⟩) (n := 21) (by decide +kernel) (by decide +kernel)
theorem wd_ceb689d7 : (Jvm.Cond.code ({ cls := "TreePressModel", name := "layNames", desc := "()V" } : Jvm.MethodName) prog_6_method_24_code (3 : Nat) (Option.none : Option Jvm.ClassFile.FieldType)) ∈ kb_T := kb_t4 100 (by decide +kernel) (by decide +kernel)
theorem hd_1a0b9b25 : (⟨"TreePressModel", "layNames", "()V"⟩ : MethodName).cls ≠ "java/lang/invoke/MethodHandle" ∧ (⟨"TreePressModel", "layNames", "()V"⟩ : MethodName).cls ≠ "java/lang/invoke/VarHandle" ∧ (parseMethodDescriptor (⟨"TreePressModel", "layNames", "()V"⟩ : MethodName).desc).map (fun d => d.parameters.length) = some 0 := by decide +kernel
theorem wd_daee7685 : (Jvm.Cond.methodLink "TreePressModel" (121 : Nat) ({ cls := "TreePressModel", name := "head", desc := "(II)V" } : Jvm.MethodName)) ∈ kb_T := kb_t4 101 (by decide +kernel) (by decide +kernel)
theorem wd_73fe5cf1 : (Jvm.Cond.instanceMethod ({ cls := "TreePressModel", name := "head", desc := "(II)V" } : Jvm.MethodName)) ∈ kb_T := kb_t4 103 (by decide +kernel) (by decide +kernel)
theorem wd_4ef8592f : Cond.selects "TreePressModel" ⟨"TreePressModel", "head", "(II)V"⟩ ⟨"TreePressModel", "head", "(II)V"⟩ ∈ kb_T := kb_t0 (y := ⟨"TreePressModel", "head", "(II)V"⟩) (n := 21) (by decide +kernel) (by decide +kernel)
theorem wd_ffa18b03 : (Jvm.Cond.code ({ cls := "TreePressModel", name := "head", desc := "(II)V" } : Jvm.MethodName) prog_6_method_25_code (4 : Nat) (Option.none : Option Jvm.ClassFile.FieldType)) ∈ kb_T := kb_t4 104 (by decide +kernel) (by decide +kernel)
theorem hd_e685c928 : (⟨"TreePressModel", "head", "(II)V"⟩ : MethodName).cls ≠ "java/lang/invoke/MethodHandle" ∧ (⟨"TreePressModel", "head", "(II)V"⟩ : MethodName).cls ≠ "java/lang/invoke/VarHandle" ∧ (parseMethodDescriptor (⟨"TreePressModel", "head", "(II)V"⟩ : MethodName).desc).map (fun d => d.parameters.length) = some 2 := by decide +kernel
theorem wd_83f7538e : (Jvm.Cond.fieldLink "TreePressModel" (125 : Nat) "TreePressModel" "fails" "I") ∈ kb_T := kb_t3 205 (by decide +kernel) (by decide +kernel)
theorem wd_6df6ad16 : (Jvm.Cond.methodLink "TreePressModel" (148 : Nat) ({ cls := "TreePressModel", name := "fail", desc := "(I)Z" } : Jvm.MethodName)) ∈ kb_T := kb_t4 118 (by decide +kernel) (by decide +kernel)
theorem wd_ba64779a : (Jvm.Cond.instanceMethod ({ cls := "TreePressModel", name := "fail", desc := "(I)Z" } : Jvm.MethodName)) ∈ kb_T := kb_t4 120 (by decide +kernel) (by decide +kernel)
theorem wd_a31e5b27 : Cond.selects "TreePressModel" ⟨"TreePressModel", "fail", "(I)Z"⟩ ⟨"TreePressModel", "fail", "(I)Z"⟩ ∈ kb_T := kb_t0 (y := ⟨"TreePressModel", "fail", "(I)Z"⟩) (n := 21) (by decide +kernel) (by decide +kernel)
theorem wd_dbf1a9fb : (Jvm.Cond.code ({ cls := "TreePressModel", name := "fail", desc := "(I)Z" } : Jvm.MethodName) prog_6_method_28_code (2 : Nat) (Option.some Jvm.ClassFile.FieldType.boolean)) ∈ kb_T := kb_t4 121 (by decide +kernel) (by decide +kernel)
theorem hd_69b7ab3d : (⟨"TreePressModel", "fail", "(I)Z"⟩ : MethodName).cls ≠ "java/lang/invoke/MethodHandle" ∧ (⟨"TreePressModel", "fail", "(I)Z"⟩ : MethodName).cls ≠ "java/lang/invoke/VarHandle" ∧ (parseMethodDescriptor (⟨"TreePressModel", "fail", "(I)Z"⟩ : MethodName).desc).map (fun d => d.parameters.length) = some 1 := by decide +kernel
theorem wd_7f5301a3 : (Jvm.Cond.methodLink "TreePressModel" (193 : Nat) ({ cls := "TreePressModel", name := "readsHead", desc := "()Z" } : Jvm.MethodName)) ∈ kb_T := kb_t4 114 (by decide +kernel) (by decide +kernel)
theorem wd_db297a23 : (Jvm.Cond.instanceMethod ({ cls := "TreePressModel", name := "readsHead", desc := "()Z" } : Jvm.MethodName)) ∈ kb_T := kb_t4 116 (by decide +kernel) (by decide +kernel)
theorem wd_8316958c : Cond.selects "TreePressModel" ⟨"TreePressModel", "readsHead", "()Z"⟩ ⟨"TreePressModel", "readsHead", "()Z"⟩ ∈ kb_T := kb_t0 (y := ⟨"TreePressModel", "readsHead", "()Z"⟩) (n := 21) (by decide +kernel) (by decide +kernel)
theorem wd_09e2758a : (Jvm.Cond.code ({ cls := "TreePressModel", name := "readsHead", desc := "()Z" } : Jvm.MethodName) prog_6_method_31_code (2 : Nat) (Option.some Jvm.ClassFile.FieldType.boolean)) ∈ kb_T := kb_t4 117 (by decide +kernel) (by decide +kernel)
theorem hd_06cacaa3 : (⟨"TreePressModel", "readsHead", "()Z"⟩ : MethodName).cls ≠ "java/lang/invoke/MethodHandle" ∧ (⟨"TreePressModel", "readsHead", "()Z"⟩ : MethodName).cls ≠ "java/lang/invoke/VarHandle" ∧ (parseMethodDescriptor (⟨"TreePressModel", "readsHead", "()Z"⟩ : MethodName).desc).map (fun d => d.parameters.length) = some 0 := by decide +kernel
theorem wd_9a0734e4 : (Jvm.Cond.methodLink "TreePressModel" (202 : Nat) ({ cls := "TreePressModel", name := "manyOf", desc := "(I)I" } : Jvm.MethodName)) ∈ kb_T := kb_t4 184 (by decide +kernel) (by decide +kernel)
theorem wd_24891b17 : (Jvm.Cond.instanceMethod ({ cls := "TreePressModel", name := "manyOf", desc := "(I)I" } : Jvm.MethodName)) ∈ kb_T := kb_t4 186 (by decide +kernel) (by decide +kernel)
theorem wd_daa033e2 : Cond.selects "TreePressModel" ⟨"TreePressModel", "manyOf", "(I)I"⟩ ⟨"TreePressModel", "manyOf", "(I)I"⟩ ∈ kb_T := kb_t0 (y := ⟨"TreePressModel", "manyOf", "(I)I"⟩) (n := 21) (by decide +kernel) (by decide +kernel)
theorem wd_6f73b3d3 : (Jvm.Cond.code ({ cls := "TreePressModel", name := "manyOf", desc := "(I)I" } : Jvm.MethodName) prog_6_method_43_code (4 : Nat) (Option.some Jvm.ClassFile.FieldType.int)) ∈ kb_T := kb_t4 187 (by decide +kernel) (by decide +kernel)
theorem hd_cfdf9941 : (⟨"TreePressModel", "manyOf", "(I)I"⟩ : MethodName).cls ≠ "java/lang/invoke/MethodHandle" ∧ (⟨"TreePressModel", "manyOf", "(I)I"⟩ : MethodName).cls ≠ "java/lang/invoke/VarHandle" ∧ (parseMethodDescriptor (⟨"TreePressModel", "manyOf", "(I)I"⟩ : MethodName).desc).map (fun d => d.parameters.length) = some 1 := by decide +kernel
theorem wd_d83a94e0 : (Jvm.Cond.methodLink "TreePressModel" (205 : Nat) ({ cls := "TreePressModel", name := "firstOf", desc := "(I)I" } : Jvm.MethodName)) ∈ kb_T := kb_t4 188 (by decide +kernel) (by decide +kernel)
theorem wd_7550796f : (Jvm.Cond.instanceMethod ({ cls := "TreePressModel", name := "firstOf", desc := "(I)I" } : Jvm.MethodName)) ∈ kb_T := kb_t4 190 (by decide +kernel) (by decide +kernel)
theorem wd_d757f374 : Cond.selects "TreePressModel" ⟨"TreePressModel", "firstOf", "(I)I"⟩ ⟨"TreePressModel", "firstOf", "(I)I"⟩ ∈ kb_T := kb_t0 (y := ⟨"TreePressModel", "firstOf", "(I)I"⟩) (n := 21) (by decide +kernel) (by decide +kernel)
theorem wd_b1639252 : (Jvm.Cond.code ({ cls := "TreePressModel", name := "firstOf", desc := "(I)I" } : Jvm.MethodName) prog_6_method_42_code (3 : Nat) (Option.some Jvm.ClassFile.FieldType.int)) ∈ kb_T := kb_t4 191 (by decide +kernel) (by decide +kernel)
theorem hd_116c3d66 : (⟨"TreePressModel", "firstOf", "(I)I"⟩ : MethodName).cls ≠ "java/lang/invoke/MethodHandle" ∧ (⟨"TreePressModel", "firstOf", "(I)I"⟩ : MethodName).cls ≠ "java/lang/invoke/VarHandle" ∧ (parseMethodDescriptor (⟨"TreePressModel", "firstOf", "(I)I"⟩ : MethodName).desc).map (fun d => d.parameters.length) = some 1 := by decide +kernel
theorem wd_6004c2cc : (Jvm.Cond.methodLink "TreePressModel" (208 : Nat) ({ cls := "TreePressModel", name := "byteOf", desc := "(ZIII)I" } : Jvm.MethodName)) ∈ kb_T := kb_t4 200 (by decide +kernel) (by decide +kernel)
theorem wd_903ed9c1 : (Jvm.Cond.instanceMethod ({ cls := "TreePressModel", name := "byteOf", desc := "(ZIII)I" } : Jvm.MethodName)) ∈ kb_T := kb_t4 202 (by decide +kernel) (by decide +kernel)
theorem wd_9a16153c : Cond.selects "TreePressModel" ⟨"TreePressModel", "byteOf", "(ZIII)I"⟩ ⟨"TreePressModel", "byteOf", "(ZIII)I"⟩ ∈ kb_T := kb_t0 (y := ⟨"TreePressModel", "byteOf", "(ZIII)I"⟩) (n := 21) (by decide +kernel) (by decide +kernel)
theorem wd_07421635 : (Jvm.Cond.code ({ cls := "TreePressModel", name := "byteOf", desc := "(ZIII)I" } : Jvm.MethodName) prog_6_method_46_code (5 : Nat) (Option.some Jvm.ClassFile.FieldType.int)) ∈ kb_T := kb_t4 203 (by decide +kernel) (by decide +kernel)
theorem hd_e3670b92 : (⟨"TreePressModel", "byteOf", "(ZIII)I"⟩ : MethodName).cls ≠ "java/lang/invoke/MethodHandle" ∧ (⟨"TreePressModel", "byteOf", "(ZIII)I"⟩ : MethodName).cls ≠ "java/lang/invoke/VarHandle" ∧ (parseMethodDescriptor (⟨"TreePressModel", "byteOf", "(ZIII)I"⟩ : MethodName).desc).map (fun d => d.parameters.length) = some 4 := by decide +kernel
theorem d_M_begin_0 : decode prog_6_method_3_code 0 = .ok (.aload_n 0, 1) := by decide +kernel
theorem d_M_begin_1 : decode prog_6_method_3_code 1 = .ok (.getfield 17, 3) := by decide +kernel
theorem d_M_begin_4 : decode prog_6_method_3_code 4 = .ok (.iload_n 1, 1) := by decide +kernel
theorem d_M_begin_5 : decode prog_6_method_3_code 5 = .ok (.iconst 1, 1) := by decide +kernel
theorem d_M_begin_6 : decode prog_6_method_3_code 6 = .ok (.iastore, 1) := by decide +kernel
theorem d_M_begin_7 : decode prog_6_method_3_code 7 = .ok (.aload_n 0, 1) := by decide +kernel
theorem d_M_begin_8 : decode prog_6_method_3_code 8 = .ok (.getfield 20, 3) := by decide +kernel
theorem d_M_begin_11 : decode prog_6_method_3_code 11 = .ok (.iload_n 1, 1) := by decide +kernel
theorem d_M_begin_12 : decode prog_6_method_3_code 12 = .ok (.iconst 0, 1) := by decide +kernel
theorem d_M_begin_13 : decode prog_6_method_3_code 13 = .ok (.iastore, 1) := by decide +kernel
theorem d_M_begin_14 : decode prog_6_method_3_code 14 = .ok (.aload_n 0, 1) := by decide +kernel
theorem d_M_begin_15 : decode prog_6_method_3_code 15 = .ok (.getfield 23, 3) := by decide +kernel
theorem d_M_begin_18 : decode prog_6_method_3_code 18 = .ok (.iload_n 1, 1) := by decide +kernel
theorem d_M_begin_19 : decode prog_6_method_3_code 19 = .ok (.iconst 0, 1) := by decide +kernel
theorem d_M_begin_20 : decode prog_6_method_3_code 20 = .ok (.iastore, 1) := by decide +kernel
theorem d_M_begin_21 : decode prog_6_method_3_code 21 = .ok (.aload_n 0, 1) := by decide +kernel
theorem d_M_begin_22 : decode prog_6_method_3_code 22 = .ok (.getfield 26, 3) := by decide +kernel
theorem d_M_begin_25 : decode prog_6_method_3_code 25 = .ok (.sipush 128, 3) := by decide +kernel
theorem d_M_begin_28 : decode prog_6_method_3_code 28 = .ok (.iload_n 1, 1) := by decide +kernel
theorem d_M_begin_29 : decode prog_6_method_3_code 29 = .ok (.imul, 1) := by decide +kernel
theorem d_M_begin_30 : decode prog_6_method_3_code 30 = .ok (.iconst (-1), 1) := by decide +kernel
theorem d_M_begin_31 : decode prog_6_method_3_code 31 = .ok (.iastore, 1) := by decide +kernel
theorem d_M_begin_32 : decode prog_6_method_3_code 32 = .ok (.aload_n 0, 1) := by decide +kernel
theorem d_M_begin_33 : decode prog_6_method_3_code 33 = .ok (.getfield 29, 3) := by decide +kernel
theorem d_M_begin_36 : decode prog_6_method_3_code 36 = .ok (.sipush 128, 3) := by decide +kernel
theorem d_M_begin_39 : decode prog_6_method_3_code 39 = .ok (.iload_n 1, 1) := by decide +kernel
theorem d_M_begin_40 : decode prog_6_method_3_code 40 = .ok (.imul, 1) := by decide +kernel
theorem d_M_begin_41 : decode prog_6_method_3_code 41 = .ok (.iconst 0, 1) := by decide +kernel
theorem d_M_begin_42 : decode prog_6_method_3_code 42 = .ok (.iastore, 1) := by decide +kernel
theorem d_M_begin_43 : decode prog_6_method_3_code 43 = .ok (.aload_n 0, 1) := by decide +kernel
theorem d_M_begin_44 : decode prog_6_method_3_code 44 = .ok (.getfield 32, 3) := by decide +kernel
theorem d_M_begin_47 : decode prog_6_method_3_code 47 = .ok (.sipush 128, 3) := by decide +kernel
theorem d_M_begin_50 : decode prog_6_method_3_code 50 = .ok (.iload_n 1, 1) := by decide +kernel
theorem d_M_begin_51 : decode prog_6_method_3_code 51 = .ok (.imul, 1) := by decide +kernel
theorem d_M_begin_52 : decode prog_6_method_3_code 52 = .ok (.iconst 0, 1) := by decide +kernel
theorem d_M_begin_53 : decode prog_6_method_3_code 53 = .ok (.iastore, 1) := by decide +kernel
theorem d_M_begin_54 : decode prog_6_method_3_code 54 = .ok (.return_, 1) := by decide +kernel
theorem d_M_init_0 : decode prog_6_method_1_code 0 = .ok (.aload_n 0, 1) := by decide +kernel
theorem d_M_init_1 : decode prog_6_method_1_code 1 = .ok (.invokespecial 1, 3) := by decide +kernel
theorem d_M_init_4 : decode prog_6_method_1_code 4 = .ok (.aload_n 0, 1) := by decide +kernel
theorem d_M_init_5 : decode prog_6_method_1_code 5 = .ok (.ldc 7, 2) := by decide +kernel
theorem d_M_init_7 : decode prog_6_method_1_code 7 = .ok (.newarray .int, 2) := by decide +kernel
theorem d_M_init_9 : decode prog_6_method_1_code 9 = .ok (.putfield 8, 3) := by decide +kernel
theorem d_M_init_12 : decode prog_6_method_1_code 12 = .ok (.aload_n 0, 1) := by decide +kernel
theorem d_M_init_13 : decode prog_6_method_1_code 13 = .ok (.ldc 7, 2) := by decide +kernel
theorem d_M_init_15 : decode prog_6_method_1_code 15 = .ok (.newarray .int, 2) := by decide +kernel
theorem d_M_init_17 : decode prog_6_method_1_code 17 = .ok (.putfield 14, 3) := by decide +kernel
theorem d_M_init_20 : decode prog_6_method_1_code 20 = .ok (.aload_n 0, 1) := by decide +kernel
theorem d_M_init_21 : decode prog_6_method_1_code 21 = .ok (.iconst 2, 1) := by decide +kernel
theorem d_M_init_22 : decode prog_6_method_1_code 22 = .ok (.newarray .int, 2) := by decide +kernel
theorem d_M_init_24 : decode prog_6_method_1_code 24 = .ok (.putfield 17, 3) := by decide +kernel
theorem d_M_init_27 : decode prog_6_method_1_code 27 = .ok (.aload_n 0, 1) := by decide +kernel
theorem d_M_init_28 : decode prog_6_method_1_code 28 = .ok (.iconst 2, 1) := by decide +kernel
theorem d_M_init_29 : decode prog_6_method_1_code 29 = .ok (.newarray .int, 2) := by decide +kernel
theorem d_M_init_31 : decode prog_6_method_1_code 31 = .ok (.putfield 20, 3) := by decide +kernel
theorem d_M_init_34 : decode prog_6_method_1_code 34 = .ok (.aload_n 0, 1) := by decide +kernel
theorem d_M_init_35 : decode prog_6_method_1_code 35 = .ok (.iconst 2, 1) := by decide +kernel
theorem d_M_init_36 : decode prog_6_method_1_code 36 = .ok (.newarray .int, 2) := by decide +kernel
theorem d_M_init_38 : decode prog_6_method_1_code 38 = .ok (.putfield 23, 3) := by decide +kernel
theorem d_M_init_41 : decode prog_6_method_1_code 41 = .ok (.aload_n 0, 1) := by decide +kernel
theorem d_M_init_42 : decode prog_6_method_1_code 42 = .ok (.sipush 256, 3) := by decide +kernel
theorem d_M_init_45 : decode prog_6_method_1_code 45 = .ok (.newarray .int, 2) := by decide +kernel
theorem d_M_init_47 : decode prog_6_method_1_code 47 = .ok (.putfield 26, 3) := by decide +kernel
theorem d_M_init_50 : decode prog_6_method_1_code 50 = .ok (.aload_n 0, 1) := by decide +kernel
theorem d_M_init_51 : decode prog_6_method_1_code 51 = .ok (.sipush 256, 3) := by decide +kernel
theorem d_M_init_54 : decode prog_6_method_1_code 54 = .ok (.newarray .int, 2) := by decide +kernel
theorem d_M_init_56 : decode prog_6_method_1_code 56 = .ok (.putfield 29, 3) := by decide +kernel
theorem d_M_init_59 : decode prog_6_method_1_code 59 = .ok (.aload_n 0, 1) := by decide +kernel
theorem d_M_init_60 : decode prog_6_method_1_code 60 = .ok (.sipush 256, 3) := by decide +kernel
theorem d_M_init_63 : decode prog_6_method_1_code 63 = .ok (.newarray .int, 2) := by decide +kernel
theorem d_M_init_65 : decode prog_6_method_1_code 65 = .ok (.putfield 32, 3) := by decide +kernel
theorem d_M_init_68 : decode prog_6_method_1_code 68 = .ok (.aload_n 0, 1) := by decide +kernel
theorem d_M_init_69 : decode prog_6_method_1_code 69 = .ok (.sipush 1024, 3) := by decide +kernel
theorem d_M_init_72 : decode prog_6_method_1_code 72 = .ok (.newarray .int, 2) := by decide +kernel
theorem d_M_init_74 : decode prog_6_method_1_code 74 = .ok (.putfield 35, 3) := by decide +kernel
theorem d_M_init_77 : decode prog_6_method_1_code 77 = .ok (.aload_n 0, 1) := by decide +kernel
theorem d_M_init_78 : decode prog_6_method_1_code 78 = .ok (.sipush 1024, 3) := by decide +kernel
theorem d_M_init_81 : decode prog_6_method_1_code 81 = .ok (.newarray .int, 2) := by decide +kernel
theorem d_M_init_83 : decode prog_6_method_1_code 83 = .ok (.putfield 38, 3) := by decide +kernel
theorem d_M_init_86 : decode prog_6_method_1_code 86 = .ok (.aload_n 0, 1) := by decide +kernel
theorem d_M_init_87 : decode prog_6_method_1_code 87 = .ok (.sipush 1024, 3) := by decide +kernel
theorem d_M_init_90 : decode prog_6_method_1_code 90 = .ok (.newarray .int, 2) := by decide +kernel
theorem d_M_init_92 : decode prog_6_method_1_code 92 = .ok (.putfield 41, 3) := by decide +kernel
theorem d_M_init_95 : decode prog_6_method_1_code 95 = .ok (.aload_n 0, 1) := by decide +kernel
theorem d_M_init_96 : decode prog_6_method_1_code 96 = .ok (.sipush 1024, 3) := by decide +kernel
theorem d_M_init_99 : decode prog_6_method_1_code 99 = .ok (.newarray .int, 2) := by decide +kernel
theorem d_M_init_101 : decode prog_6_method_1_code 101 = .ok (.putfield 44, 3) := by decide +kernel
theorem d_M_init_104 : decode prog_6_method_1_code 104 = .ok (.aload_n 0, 1) := by decide +kernel
theorem d_M_init_105 : decode prog_6_method_1_code 105 = .ok (.ldc 47, 2) := by decide +kernel
theorem d_M_init_107 : decode prog_6_method_1_code 107 = .ok (.newarray .int, 2) := by decide +kernel
theorem d_M_init_109 : decode prog_6_method_1_code 109 = .ok (.putfield 48, 3) := by decide +kernel
theorem d_M_init_112 : decode prog_6_method_1_code 112 = .ok (.aload_n 0, 1) := by decide +kernel
theorem d_M_init_113 : decode prog_6_method_1_code 113 = .ok (.iconst 0, 1) := by decide +kernel
theorem d_M_init_114 : decode prog_6_method_1_code 114 = .ok (.invokevirtual 51, 3) := by decide +kernel
theorem d_M_init_117 : decode prog_6_method_1_code 117 = .ok (.return_, 1) := by decide +kernel
theorem d_M_thrown_0 : decode prog_6_method_2_code 0 = .ok (.aload_n 0, 1) := by decide +kernel
theorem d_M_thrown_1 : decode prog_6_method_2_code 1 = .ok (.getfield 55, 3) := by decide +kernel
theorem d_M_thrown_4 : decode prog_6_method_2_code 4 = .ok (.ireturn, 1) := by decide +kernel
theorem d_M_feed_0 : decode prog_6_method_4_code 0 = .ok (.aload_n 0, 1) := by decide +kernel
theorem d_M_feed_1 : decode prog_6_method_4_code 1 = .ok (.aload_n 0, 1) := by decide +kernel
theorem d_M_feed_2 : decode prog_6_method_4_code 2 = .ok (.getfield 59, 3) := by decide +kernel
theorem d_M_feed_5 : decode prog_6_method_4_code 5 = .ok (.bipush 20, 2) := by decide +kernel
theorem d_M_feed_7 : decode prog_6_method_4_code 7 = .ok (.iadd, 1) := by decide +kernel
theorem d_M_feed_8 : decode prog_6_method_4_code 8 = .ok (.ldc 7, 2) := by decide +kernel
theorem d_M_feed_10 : decode prog_6_method_4_code 10 = .ok (.if_icmp .le 7, 3) := by decide +kernel
theorem d_M_feed_17 : decode prog_6_method_4_code 17 = .ok (.iconst 0, 1) := by decide +kernel
theorem d_M_feed_18 : decode prog_6_method_4_code 18 = .ok (.putfield 55, 3) := by decide +kernel
theorem d_M_feed_21 : decode prog_6_method_4_code 21 = .ok (.aload_n 0, 1) := by decide +kernel
theorem d_M_feed_22 : decode prog_6_method_4_code 22 = .ok (.getfield 55, 3) := by decide +kernel
theorem d_M_feed_25 : decode prog_6_method_4_code 25 = .ok (.ifCond .le 5, 3) := by decide +kernel
theorem d_M_feed_30 : decode prog_6_method_4_code 30 = .ok (.iconst 0, 1) := by decide +kernel
theorem d_M_feed_31 : decode prog_6_method_4_code 31 = .ok (.istore 6, 2) := by decide +kernel
theorem d_M_feed_33 : decode prog_6_method_4_code 33 = .ok (.iload 6, 2) := by decide +kernel
theorem d_M_feed_35 : decode prog_6_method_4_code 35 = .ok (.bipush 20, 2) := by decide +kernel
theorem d_M_feed_37 : decode prog_6_method_4_code 37 = .ok (.if_icmp .ge 93, 3) := by decide +kernel
theorem d_M_feed_40 : decode prog_6_method_4_code 40 = .ok (.iload 6, 2) := by decide +kernel
theorem d_M_feed_42 : decode prog_6_method_4_code 42 = .ok (.iconst 4, 1) := by decide +kernel
theorem d_M_feed_43 : decode prog_6_method_4_code 43 = .ok (.if_icmp .ge 7, 3) := by decide +kernel
theorem d_M_feed_46 : decode prog_6_method_4_code 46 = .ok (.iload_n 1, 1) := by decide +kernel
theorem d_M_feed_47 : decode prog_6_method_4_code 47 = .ok (.goto 39, 3) := by decide +kernel
theorem d_M_feed_86 : decode prog_6_method_4_code 86 = .ok (.istore 7, 2) := by decide +kernel
theorem d_M_feed_88 : decode prog_6_method_4_code 88 = .ok (.aload_n 0, 1) := by decide +kernel
theorem d_M_feed_89 : decode prog_6_method_4_code 89 = .ok (.getfield 8, 3) := by decide +kernel
theorem d_M_feed_92 : decode prog_6_method_4_code 92 = .ok (.aload_n 0, 1) := by decide +kernel
theorem d_M_feed_93 : decode prog_6_method_4_code 93 = .ok (.getfield 59, 3) := by decide +kernel
theorem d_M_feed_96 : decode prog_6_method_4_code 96 = .ok (.iload 7, 2) := by decide +kernel
theorem d_M_feed_98 : decode prog_6_method_4_code 98 = .ok (.bipush 24, 2) := by decide +kernel
theorem d_M_feed_100 : decode prog_6_method_4_code 100 = .ok (.bipush 8, 2) := by decide +kernel
theorem d_M_feed_102 : decode prog_6_method_4_code 102 = .ok (.iload 6, 2) := by decide +kernel
theorem d_M_feed_104 : decode prog_6_method_4_code 104 = .ok (.iconst 4, 1) := by decide +kernel
theorem d_M_feed_105 : decode prog_6_method_4_code 105 = .ok (.irem, 1) := by decide +kernel
theorem d_M_feed_106 : decode prog_6_method_4_code 106 = .ok (.imul, 1) := by decide +kernel
theorem d_M_feed_107 : decode prog_6_method_4_code 107 = .ok (.isub, 1) := by decide +kernel
theorem d_M_feed_108 : decode prog_6_method_4_code 108 = .ok (.ishr, 1) := by decide +kernel
theorem d_M_feed_109 : decode prog_6_method_4_code 109 = .ok (.sipush 255, 3) := by decide +kernel
theorem d_M_feed_112 : decode prog_6_method_4_code 112 = .ok (.iand, 1) := by decide +kernel
theorem d_M_feed_113 : decode prog_6_method_4_code 113 = .ok (.iastore, 1) := by decide +kernel
theorem d_M_feed_114 : decode prog_6_method_4_code 114 = .ok (.aload_n 0, 1) := by decide +kernel
theorem d_M_feed_115 : decode prog_6_method_4_code 115 = .ok (.dup, 1) := by decide +kernel
theorem d_M_feed_116 : decode prog_6_method_4_code 116 = .ok (.getfield 59, 3) := by decide +kernel
theorem d_M_feed_119 : decode prog_6_method_4_code 119 = .ok (.iconst 1, 1) := by decide +kernel
theorem d_M_feed_120 : decode prog_6_method_4_code 120 = .ok (.iadd, 1) := by decide +kernel
theorem d_M_feed_121 : decode prog_6_method_4_code 121 = .ok (.putfield 59, 3) := by decide +kernel
theorem d_M_feed_124 : decode prog_6_method_4_code 124 = .ok (.iinc 6 1, 3) := by decide +kernel
theorem d_M_feed_127 : decode prog_6_method_4_code 127 = .ok (.goto (-94), 3) := by decide +kernel
theorem d_M_feed_50 : decode prog_6_method_4_code 50 = .ok (.iload 6, 2) := by decide +kernel
theorem d_M_feed_52 : decode prog_6_method_4_code 52 = .ok (.bipush 8, 2) := by decide +kernel
theorem d_M_feed_54 : decode prog_6_method_4_code 54 = .ok (.if_icmp .ge 7, 3) := by decide +kernel
theorem d_M_feed_57 : decode prog_6_method_4_code 57 = .ok (.iload_n 2, 1) := by decide +kernel
theorem d_M_feed_58 : decode prog_6_method_4_code 58 = .ok (.goto 28, 3) := by decide +kernel
theorem d_M_feed_61 : decode prog_6_method_4_code 61 = .ok (.iload 6, 2) := by decide +kernel
theorem d_M_feed_63 : decode prog_6_method_4_code 63 = .ok (.bipush 12, 2) := by decide +kernel
theorem d_M_feed_65 : decode prog_6_method_4_code 65 = .ok (.if_icmp .ge 7, 3) := by decide +kernel
theorem d_M_feed_68 : decode prog_6_method_4_code 68 = .ok (.iload_n 3, 1) := by decide +kernel
theorem d_M_feed_69 : decode prog_6_method_4_code 69 = .ok (.goto 17, 3) := by decide +kernel
theorem d_M_feed_72 : decode prog_6_method_4_code 72 = .ok (.iload 6, 2) := by decide +kernel
theorem d_M_feed_74 : decode prog_6_method_4_code 74 = .ok (.bipush 16, 2) := by decide +kernel
theorem d_M_feed_76 : decode prog_6_method_4_code 76 = .ok (.if_icmp .ge 8, 3) := by decide +kernel
theorem d_M_feed_79 : decode prog_6_method_4_code 79 = .ok (.iload 4, 2) := by decide +kernel
theorem d_M_feed_81 : decode prog_6_method_4_code 81 = .ok (.goto 5, 3) := by decide +kernel
theorem d_M_feed_84 : decode prog_6_method_4_code 84 = .ok (.iload 5, 2) := by decide +kernel
theorem d_M_feed_130 : decode prog_6_method_4_code 130 = .ok (.aload_n 0, 1) := by decide +kernel
theorem d_M_feed_131 : decode prog_6_method_4_code 131 = .ok (.getfield 59, 3) := by decide +kernel
theorem d_M_feed_134 : decode prog_6_method_4_code 134 = .ok (.ireturn, 1) := by decide +kernel
theorem d_M_end_0 : decode prog_6_method_5_code 0 = .ok (.aload_n 0, 1) := by decide +kernel
theorem d_M_end_1 : decode prog_6_method_5_code 1 = .ok (.iload_n 1, 1) := by decide +kernel
theorem d_M_end_2 : decode prog_6_method_5_code 2 = .ok (.ifCond .lt 11, 3) := by decide +kernel
theorem d_M_end_5 : decode prog_6_method_5_code 5 = .ok (.iload_n 1, 1) := by decide +kernel
theorem d_M_end_6 : decode prog_6_method_5_code 6 = .ok (.aload_n 0, 1) := by decide +kernel
theorem d_M_end_7 : decode prog_6_method_5_code 7 = .ok (.getfield 59, 3) := by decide +kernel
theorem d_M_end_10 : decode prog_6_method_5_code 10 = .ok (.if_icmp .le 7, 3) := by decide +kernel
theorem d_M_end_17 : decode prog_6_method_5_code 17 = .ok (.iconst 0, 1) := by decide +kernel
theorem d_M_end_18 : decode prog_6_method_5_code 18 = .ok (.putfield 55, 3) := by decide +kernel
theorem d_M_end_21 : decode prog_6_method_5_code 21 = .ok (.aload_n 0, 1) := by decide +kernel
theorem d_M_end_22 : decode prog_6_method_5_code 22 = .ok (.aload_n 0, 1) := by decide +kernel
theorem d_M_end_23 : decode prog_6_method_5_code 23 = .ok (.getfield 55, 3) := by decide +kernel
theorem d_M_end_26 : decode prog_6_method_5_code 26 = .ok (.ifCond .le 10, 3) := by decide +kernel
theorem d_M_end_36 : decode prog_6_method_5_code 36 = .ok (.iload_n 1, 1) := by decide +kernel
theorem d_M_end_37 : decode prog_6_method_5_code 37 = .ok (.putfield 59, 3) := by decide +kernel
theorem d_M_end_40 : decode prog_6_method_5_code 40 = .ok (.return_, 1) := by decide +kernel
theorem d_M_end_13 : decode prog_6_method_5_code 13 = .ok (.iconst 1, 1) := by decide +kernel
theorem d_M_end_14 : decode prog_6_method_5_code 14 = .ok (.goto 4, 3) := by decide +kernel
theorem d_M_end_29 : decode prog_6_method_5_code 29 = .ok (.aload_n 0, 1) := by decide +kernel
theorem d_M_end_30 : decode prog_6_method_5_code 30 = .ok (.getfield 59, 3) := by decide +kernel
theorem d_M_end_33 : decode prog_6_method_5_code 33 = .ok (.goto 4, 3) := by decide +kernel
theorem d_M_clear_0 : decode prog_6_method_9_code 0 = .ok (.aload_n 0, 1) := by decide +kernel
theorem d_M_clear_1 : decode prog_6_method_9_code 1 = .ok (.iconst 0, 1) := by decide +kernel
theorem d_M_clear_2 : decode prog_6_method_9_code 2 = .ok (.putfield 55, 3) := by decide +kernel
theorem d_M_clear_5 : decode prog_6_method_9_code 5 = .ok (.aload_n 0, 1) := by decide +kernel
theorem d_M_clear_6 : decode prog_6_method_9_code 6 = .ok (.iconst 0, 1) := by decide +kernel
theorem d_M_clear_7 : decode prog_6_method_9_code 7 = .ok (.invokevirtual 51, 3) := by decide +kernel
theorem d_M_clear_10 : decode prog_6_method_9_code 10 = .ok (.aload_n 0, 1) := by decide +kernel
theorem d_M_clear_11 : decode prog_6_method_9_code 11 = .ok (.iconst 0, 1) := by decide +kernel
theorem d_M_clear_12 : decode prog_6_method_9_code 12 = .ok (.putfield 66, 3) := by decide +kernel
theorem d_M_clear_15 : decode prog_6_method_9_code 15 = .ok (.return_, 1) := by decide +kernel
theorem d_M_depthOf_0 : decode prog_6_method_10_code 0 = .ok (.iconst 0, 1) := by decide +kernel
theorem d_M_depthOf_1 : decode prog_6_method_10_code 1 = .ok (.istore_n 3, 1) := by decide +kernel
theorem d_M_depthOf_2 : decode prog_6_method_10_code 2 = .ok (.iload_n 2, 1) := by decide +kernel
theorem d_M_depthOf_3 : decode prog_6_method_10_code 3 = .ok (.istore 4, 2) := by decide +kernel
theorem d_M_depthOf_5 : decode prog_6_method_10_code 5 = .ok (.iload 4, 2) := by decide +kernel
theorem d_M_depthOf_7 : decode prog_6_method_10_code 7 = .ok (.ifCond .lt 24, 3) := by decide +kernel
theorem d_M_depthOf_10 : decode prog_6_method_10_code 10 = .ok (.iinc 3 1, 3) := by decide +kernel
theorem d_M_depthOf_13 : decode prog_6_method_10_code 13 = .ok (.aload_n 0, 1) := by decide +kernel
theorem d_M_depthOf_14 : decode prog_6_method_10_code 14 = .ok (.getfield 26, 3) := by decide +kernel
theorem d_M_depthOf_17 : decode prog_6_method_10_code 17 = .ok (.sipush 128, 3) := by decide +kernel
theorem d_M_depthOf_20 : decode prog_6_method_10_code 20 = .ok (.iload_n 1, 1) := by decide +kernel
theorem d_M_depthOf_21 : decode prog_6_method_10_code 21 = .ok (.imul, 1) := by decide +kernel
theorem d_M_depthOf_22 : decode prog_6_method_10_code 22 = .ok (.iload 4, 2) := by decide +kernel
theorem d_M_depthOf_24 : decode prog_6_method_10_code 24 = .ok (.iadd, 1) := by decide +kernel
theorem d_M_depthOf_25 : decode prog_6_method_10_code 25 = .ok (.iaload, 1) := by decide +kernel
theorem d_M_depthOf_26 : decode prog_6_method_10_code 26 = .ok (.istore 4, 2) := by decide +kernel
theorem d_M_depthOf_28 : decode prog_6_method_10_code 28 = .ok (.goto (-23), 3) := by decide +kernel
theorem d_M_depthOf_31 : decode prog_6_method_10_code 31 = .ok (.iload_n 3, 1) := by decide +kernel
theorem d_M_depthOf_32 : decode prog_6_method_10_code 32 = .ok (.ireturn, 1) := by decide +kernel
theorem d_M_isName_0 : decode prog_6_method_7_code 0 = .ok (.iload_n 1, 1) := by decide +kernel
theorem d_M_isName_1 : decode prog_6_method_7_code 1 = .ok (.ifCond .le 21, 3) := by decide +kernel
theorem d_M_isName_22 : decode prog_6_method_7_code 22 = .ok (.iconst 0, 1) := by decide +kernel
theorem d_M_isName_23 : decode prog_6_method_7_code 23 = .ok (.istore_n 2, 1) := by decide +kernel
theorem d_M_isName_24 : decode prog_6_method_7_code 24 = .ok (.iconst 0, 1) := by decide +kernel
theorem d_M_isName_25 : decode prog_6_method_7_code 25 = .ok (.istore_n 3, 1) := by decide +kernel
theorem d_M_isName_26 : decode prog_6_method_7_code 26 = .ok (.iload_n 3, 1) := by decide +kernel
theorem d_M_isName_27 : decode prog_6_method_7_code 27 = .ok (.iload_n 1, 1) := by decide +kernel
theorem d_M_isName_28 : decode prog_6_method_7_code 28 = .ok (.if_icmp .ge 23, 3) := by decide +kernel
theorem d_M_isName_51 : decode prog_6_method_7_code 51 = .ok (.iload_n 2, 1) := by decide +kernel
theorem d_M_isName_52 : decode prog_6_method_7_code 52 = .ok (.ireturn, 1) := by decide +kernel
theorem d_M_isName_4 : decode prog_6_method_7_code 4 = .ok (.iload_n 1, 1) := by decide +kernel
theorem d_M_isName_5 : decode prog_6_method_7_code 5 = .ok (.bipush 31, 2) := by decide +kernel
theorem d_M_isName_7 : decode prog_6_method_7_code 7 = .ok (.if_icmp .gt 15, 3) := by decide +kernel
theorem d_M_isName_31 : decode prog_6_method_7_code 31 = .ok (.iload_n 2, 1) := by decide +kernel
theorem d_M_isName_32 : decode prog_6_method_7_code 32 = .ok (.ifCond .eq 19, 3) := by decide +kernel
theorem d_M_isName_10 : decode prog_6_method_7_code 10 = .ok (.iload_n 1, 1) := by decide +kernel
theorem d_M_isName_11 : decode prog_6_method_7_code 11 = .ok (.aload_n 0, 1) := by decide +kernel
theorem d_M_isName_12 : decode prog_6_method_7_code 12 = .ok (.getfield 59, 3) := by decide +kernel
theorem d_M_isName_15 : decode prog_6_method_7_code 15 = .ok (.if_icmp .gt 7, 3) := by decide +kernel
theorem d_M_open_0 : decode prog_6_method_12_code 0 = .ok (.aload_n 0, 1) := by decide +kernel
theorem d_M_open_1 : decode prog_6_method_12_code 1 = .ok (.getfield 17, 3) := by decide +kernel
theorem d_M_open_4 : decode prog_6_method_12_code 4 = .ok (.iconst 0, 1) := by decide +kernel
theorem d_M_open_5 : decode prog_6_method_12_code 5 = .ok (.iaload, 1) := by decide +kernel
theorem d_M_open_6 : decode prog_6_method_12_code 6 = .ok (.sipush 128, 3) := by decide +kernel
theorem d_M_open_9 : decode prog_6_method_12_code 9 = .ok (.if_icmp .eq 34, 3) := by decide +kernel
theorem d_M_open_12 : decode prog_6_method_12_code 12 = .ok (.aload_n 0, 1) := by decide +kernel
theorem d_M_open_13 : decode prog_6_method_12_code 13 = .ok (.getfield 23, 3) := by decide +kernel
theorem d_M_open_16 : decode prog_6_method_12_code 16 = .ok (.iconst 0, 1) := by decide +kernel
theorem d_M_open_17 : decode prog_6_method_12_code 17 = .ok (.iaload, 1) := by decide +kernel
theorem d_M_open_18 : decode prog_6_method_12_code 18 = .ok (.aload_n 0, 1) := by decide +kernel
theorem d_M_open_19 : decode prog_6_method_12_code 19 = .ok (.getfield 59, 3) := by decide +kernel
theorem d_M_open_22 : decode prog_6_method_12_code 22 = .ok (.iadd, 1) := by decide +kernel
theorem d_M_open_23 : decode prog_6_method_12_code 23 = .ok (.sipush 16384, 3) := by decide +kernel
theorem d_M_open_26 : decode prog_6_method_12_code 26 = .ok (.if_icmp .gt 17, 3) := by decide +kernel
theorem d_M_open_29 : decode prog_6_method_12_code 29 = .ok (.aload_n 0, 1) := by decide +kernel
theorem d_M_open_30 : decode prog_6_method_12_code 30 = .ok (.iconst 0, 1) := by decide +kernel
theorem d_M_open_31 : decode prog_6_method_12_code 31 = .ok (.aload_n 0, 1) := by decide +kernel
theorem d_M_open_32 : decode prog_6_method_12_code 32 = .ok (.getfield 66, 3) := by decide +kernel
theorem d_M_open_35 : decode prog_6_method_12_code 35 = .ok (.invokevirtual 73, 3) := by decide +kernel
theorem d_M_open_38 : decode prog_6_method_12_code 38 = .ok (.bipush 16, 2) := by decide +kernel
theorem d_M_open_40 : decode prog_6_method_12_code 40 = .ok (.if_icmp .ne 7, 3) := by decide +kernel
theorem d_M_open_47 : decode prog_6_method_12_code 47 = .ok (.iconst 0, 1) := by decide +kernel
theorem d_M_open_48 : decode prog_6_method_12_code 48 = .ok (.istore_n 1, 1) := by decide +kernel
theorem d_M_open_49 : decode prog_6_method_12_code 49 = .ok (.aload_n 0, 1) := by decide +kernel
theorem d_M_open_50 : decode prog_6_method_12_code 50 = .ok (.aload_n 0, 1) := by decide +kernel
theorem d_M_open_51 : decode prog_6_method_12_code 51 = .ok (.aload_n 0, 1) := by decide +kernel
theorem d_M_open_52 : decode prog_6_method_12_code 52 = .ok (.getfield 59, 3) := by decide +kernel
theorem d_M_open_55 : decode prog_6_method_12_code 55 = .ok (.invokevirtual 77, 3) := by decide +kernel
theorem d_M_open_58 : decode prog_6_method_12_code 58 = .ok (.ifCond .ne 7, 3) := by decide +kernel
theorem d_M_open_61 : decode prog_6_method_12_code 61 = .ok (.iconst 1, 1) := by decide +kernel
theorem d_M_open_62 : decode prog_6_method_12_code 62 = .ok (.goto 12, 3) := by decide +kernel
theorem d_M_open_74 : decode prog_6_method_12_code 74 = .ok (.putfield 55, 3) := by decide +kernel
theorem d_M_open_77 : decode prog_6_method_12_code 77 = .ok (.aload_n 0, 1) := by decide +kernel
theorem d_M_open_78 : decode prog_6_method_12_code 78 = .ok (.getfield 55, 3) := by decide +kernel
theorem d_M_open_81 : decode prog_6_method_12_code 81 = .ok (.ifCond .le 5, 3) := by decide +kernel
theorem d_M_open_84 : decode prog_6_method_12_code 84 = .ok (.iconst 0, 1) := by decide +kernel
theorem d_M_open_85 : decode prog_6_method_12_code 85 = .ok (.ireturn, 1) := by decide +kernel
theorem d_M_property_0 : decode prog_6_method_14_code 0 = .ok (.aload_n 0, 1) := by decide +kernel
theorem d_M_property_1 : decode prog_6_method_14_code 1 = .ok (.getfield 20, 3) := by decide +kernel
theorem d_M_property_4 : decode prog_6_method_14_code 4 = .ok (.iconst 0, 1) := by decide +kernel
theorem d_M_property_5 : decode prog_6_method_14_code 5 = .ok (.iaload, 1) := by decide +kernel
theorem d_M_property_6 : decode prog_6_method_14_code 6 = .ok (.sipush 512, 3) := by decide +kernel
theorem d_M_property_9 : decode prog_6_method_14_code 9 = .ok (.if_icmp .eq 20, 3) := by decide +kernel
theorem d_M_property_12 : decode prog_6_method_14_code 12 = .ok (.aload_n 0, 1) := by decide +kernel
theorem d_M_property_13 : decode prog_6_method_14_code 13 = .ok (.getfield 23, 3) := by decide +kernel
theorem d_M_property_16 : decode prog_6_method_14_code 16 = .ok (.iconst 0, 1) := by decide +kernel
theorem d_M_property_17 : decode prog_6_method_14_code 17 = .ok (.iaload, 1) := by decide +kernel
theorem d_M_property_18 : decode prog_6_method_14_code 18 = .ok (.aload_n 0, 1) := by decide +kernel
theorem d_M_property_19 : decode prog_6_method_14_code 19 = .ok (.getfield 59, 3) := by decide +kernel
theorem d_M_property_22 : decode prog_6_method_14_code 22 = .ok (.iadd, 1) := by decide +kernel
theorem d_M_property_23 : decode prog_6_method_14_code 23 = .ok (.sipush 16384, 3) := by decide +kernel
theorem d_M_property_26 : decode prog_6_method_14_code 26 = .ok (.if_icmp .le 7, 3) := by decide +kernel
theorem d_M_property_33 : decode prog_6_method_14_code 33 = .ok (.iconst 0, 1) := by decide +kernel
theorem d_M_property_34 : decode prog_6_method_14_code 34 = .ok (.istore_n 2, 1) := by decide +kernel
theorem d_M_property_35 : decode prog_6_method_14_code 35 = .ok (.aload_n 0, 1) := by decide +kernel
theorem d_M_property_36 : decode prog_6_method_14_code 36 = .ok (.aload_n 0, 1) := by decide +kernel
theorem d_M_property_37 : decode prog_6_method_14_code 37 = .ok (.iload_n 1, 1) := by decide +kernel
theorem d_M_property_38 : decode prog_6_method_14_code 38 = .ok (.invokevirtual 77, 3) := by decide +kernel
theorem d_M_property_41 : decode prog_6_method_14_code 41 = .ok (.ifCond .eq 18, 3) := by decide +kernel
theorem d_M_property_59 : decode prog_6_method_14_code 59 = .ok (.iconst 1, 1) := by decide +kernel
theorem d_M_property_60 : decode prog_6_method_14_code 60 = .ok (.goto 12, 3) := by decide +kernel
theorem d_M_property_72 : decode prog_6_method_14_code 72 = .ok (.putfield 55, 3) := by decide +kernel
theorem d_M_property_75 : decode prog_6_method_14_code 75 = .ok (.aload_n 0, 1) := by decide +kernel
theorem d_M_property_76 : decode prog_6_method_14_code 76 = .ok (.getfield 55, 3) := by decide +kernel
theorem d_M_property_79 : decode prog_6_method_14_code 79 = .ok (.ifCond .le 5, 3) := by decide +kernel
theorem d_M_property_82 : decode prog_6_method_14_code 82 = .ok (.iconst 0, 1) := by decide +kernel
theorem d_M_property_83 : decode prog_6_method_14_code 83 = .ok (.ireturn, 1) := by decide +kernel
theorem d_M_close_0 : decode prog_6_method_15_code 0 = .ok (.aload_n 0, 1) := by decide +kernel
theorem d_M_close_1 : decode prog_6_method_15_code 1 = .ok (.aload_n 0, 1) := by decide +kernel
theorem d_M_close_2 : decode prog_6_method_15_code 2 = .ok (.getfield 66, 3) := by decide +kernel
theorem d_M_close_5 : decode prog_6_method_15_code 5 = .ok (.ifCond .ne 7, 3) := by decide +kernel
theorem d_M_close_8 : decode prog_6_method_15_code 8 = .ok (.iconst 1, 1) := by decide +kernel
theorem d_M_close_9 : decode prog_6_method_15_code 9 = .ok (.goto 4, 3) := by decide +kernel
theorem d_M_close_13 : decode prog_6_method_15_code 13 = .ok (.putfield 55, 3) := by decide +kernel
theorem d_M_close_16 : decode prog_6_method_15_code 16 = .ok (.aload_n 0, 1) := by decide +kernel
theorem d_M_close_17 : decode prog_6_method_15_code 17 = .ok (.aload_n 0, 1) := by decide +kernel
theorem d_M_close_18 : decode prog_6_method_15_code 18 = .ok (.getfield 55, 3) := by decide +kernel
theorem d_M_close_21 : decode prog_6_method_15_code 21 = .ok (.ifCond .le 10, 3) := by decide +kernel
theorem d_M_close_24 : decode prog_6_method_15_code 24 = .ok (.aload_n 0, 1) := by decide +kernel
theorem d_M_close_25 : decode prog_6_method_15_code 25 = .ok (.getfield 66, 3) := by decide +kernel
theorem d_M_close_28 : decode prog_6_method_15_code 28 = .ok (.goto 12, 3) := by decide +kernel
theorem d_M_close_40 : decode prog_6_method_15_code 40 = .ok (.putfield 66, 3) := by decide +kernel
theorem d_M_close_43 : decode prog_6_method_15_code 43 = .ok (.aload_n 0, 1) := by decide +kernel
theorem d_M_close_44 : decode prog_6_method_15_code 44 = .ok (.getfield 55, 3) := by decide +kernel
theorem d_M_close_47 : decode prog_6_method_15_code 47 = .ok (.ifCond .le 7, 3) := by decide +kernel
theorem d_M_close_50 : decode prog_6_method_15_code 50 = .ok (.iconst 0, 1) := by decide +kernel
theorem d_M_close_51 : decode prog_6_method_15_code 51 = .ok (.goto 7, 3) := by decide +kernel
theorem d_M_close_58 : decode prog_6_method_15_code 58 = .ok (.ireturn, 1) := by decide +kernel
theorem d_M_put_0 : decode prog_6_method_16_code 0 = .ok (.aload_n 0, 1) := by decide +kernel
theorem d_M_put_1 : decode prog_6_method_16_code 1 = .ok (.getfield 14, 3) := by decide +kernel
theorem d_M_put_4 : decode prog_6_method_16_code 4 = .ok (.aload_n 0, 1) := by decide +kernel
theorem d_M_put_5 : decode prog_6_method_16_code 5 = .ok (.getfield 88, 3) := by decide +kernel
theorem d_M_put_8 : decode prog_6_method_16_code 8 = .ok (.iload_n 1, 1) := by decide +kernel
theorem d_M_put_9 : decode prog_6_method_16_code 9 = .ok (.iastore, 1) := by decide +kernel
theorem d_M_put_10 : decode prog_6_method_16_code 10 = .ok (.aload_n 0, 1) := by decide +kernel
theorem d_M_put_11 : decode prog_6_method_16_code 11 = .ok (.dup, 1) := by decide +kernel
theorem d_M_put_12 : decode prog_6_method_16_code 12 = .ok (.getfield 88, 3) := by decide +kernel
theorem d_M_put_15 : decode prog_6_method_16_code 15 = .ok (.iconst 1, 1) := by decide +kernel
theorem d_M_put_16 : decode prog_6_method_16_code 16 = .ok (.iadd, 1) := by decide +kernel
theorem d_M_put_17 : decode prog_6_method_16_code 17 = .ok (.putfield 88, 3) := by decide +kernel
theorem d_M_put_20 : decode prog_6_method_16_code 20 = .ok (.return_, 1) := by decide +kernel
theorem d_M_number_0 : decode prog_6_method_17_code 0 = .ok (.aload_n 0, 1) := by decide +kernel
theorem d_M_number_1 : decode prog_6_method_17_code 1 = .ok (.iload_n 1, 1) := by decide +kernel
theorem d_M_number_2 : decode prog_6_method_17_code 2 = .ok (.bipush 24, 2) := by decide +kernel
theorem d_M_number_4 : decode prog_6_method_17_code 4 = .ok (.iushr, 1) := by decide +kernel
theorem d_M_number_5 : decode prog_6_method_17_code 5 = .ok (.invokevirtual 91, 3) := by decide +kernel
theorem d_M_number_8 : decode prog_6_method_17_code 8 = .ok (.aload_n 0, 1) := by decide +kernel
theorem d_M_number_9 : decode prog_6_method_17_code 9 = .ok (.iload_n 1, 1) := by decide +kernel
theorem d_M_number_10 : decode prog_6_method_17_code 10 = .ok (.bipush 16, 2) := by decide +kernel
theorem d_M_number_12 : decode prog_6_method_17_code 12 = .ok (.ishr, 1) := by decide +kernel
theorem d_M_number_13 : decode prog_6_method_17_code 13 = .ok (.sipush 255, 3) := by decide +kernel
theorem d_M_number_16 : decode prog_6_method_17_code 16 = .ok (.iand, 1) := by decide +kernel
theorem d_M_number_17 : decode prog_6_method_17_code 17 = .ok (.invokevirtual 91, 3) := by decide +kernel
theorem d_M_number_20 : decode prog_6_method_17_code 20 = .ok (.aload_n 0, 1) := by decide +kernel
theorem d_M_number_21 : decode prog_6_method_17_code 21 = .ok (.iload_n 1, 1) := by decide +kernel
theorem d_M_number_22 : decode prog_6_method_17_code 22 = .ok (.bipush 8, 2) := by decide +kernel
theorem d_M_number_24 : decode prog_6_method_17_code 24 = .ok (.ishr, 1) := by decide +kernel
theorem d_M_number_25 : decode prog_6_method_17_code 25 = .ok (.sipush 255, 3) := by decide +kernel
theorem d_M_number_28 : decode prog_6_method_17_code 28 = .ok (.iand, 1) := by decide +kernel
theorem d_M_number_29 : decode prog_6_method_17_code 29 = .ok (.invokevirtual 91, 3) := by decide +kernel
theorem d_M_number_32 : decode prog_6_method_17_code 32 = .ok (.aload_n 0, 1) := by decide +kernel
theorem d_M_number_33 : decode prog_6_method_17_code 33 = .ok (.iload_n 1, 1) := by decide +kernel
theorem d_M_number_34 : decode prog_6_method_17_code 34 = .ok (.sipush 255, 3) := by decide +kernel
theorem d_M_number_37 : decode prog_6_method_17_code 37 = .ok (.iand, 1) := by decide +kernel
theorem d_M_number_38 : decode prog_6_method_17_code 38 = .ok (.invokevirtual 91, 3) := by decide +kernel
theorem d_M_number_41 : decode prog_6_method_17_code 41 = .ok (.return_, 1) := by decide +kernel
theorem d_M_fillUp_0 : decode prog_6_method_18_code 0 = .ok (.aload_n 0, 1) := by decide +kernel
theorem d_M_fillUp_1 : decode prog_6_method_18_code 1 = .ok (.getfield 88, 3) := by decide +kernel
theorem d_M_fillUp_4 : decode prog_6_method_18_code 4 = .ok (.iconst 4, 1) := by decide +kernel
theorem d_M_fillUp_5 : decode prog_6_method_18_code 5 = .ok (.irem, 1) := by decide +kernel
theorem d_M_fillUp_6 : decode prog_6_method_18_code 6 = .ok (.ifCond .eq 11, 3) := by decide +kernel
theorem d_M_fillUp_9 : decode prog_6_method_18_code 9 = .ok (.aload_n 0, 1) := by decide +kernel
theorem d_M_fillUp_10 : decode prog_6_method_18_code 10 = .ok (.iconst 0, 1) := by decide +kernel
theorem d_M_fillUp_11 : decode prog_6_method_18_code 11 = .ok (.invokevirtual 91, 3) := by decide +kernel
theorem d_M_fillUp_14 : decode prog_6_method_18_code 14 = .ok (.goto (-14), 3) := by decide +kernel
theorem d_M_fillUp_17 : decode prog_6_method_18_code 17 = .ok (.return_, 1) := by decide +kernel
theorem d_M_layProperties_0 : decode prog_6_method_22_code 0 = .ok (.iconst 0, 1) := by decide +kernel
theorem d_M_layProperties_1 : decode prog_6_method_22_code 1 = .ok (.istore_n 2, 1) := by decide +kernel
theorem d_M_layProperties_2 : decode prog_6_method_22_code 2 = .ok (.iload_n 2, 1) := by decide +kernel
theorem d_M_layProperties_3 : decode prog_6_method_22_code 3 = .ok (.aload_n 0, 1) := by decide +kernel
theorem d_M_layProperties_4 : decode prog_6_method_22_code 4 = .ok (.getfield 20, 3) := by decide +kernel
theorem d_M_layProperties_7 : decode prog_6_method_22_code 7 = .ok (.iconst 0, 1) := by decide +kernel
theorem d_M_layProperties_8 : decode prog_6_method_22_code 8 = .ok (.iaload, 1) := by decide +kernel
theorem d_M_layProperties_9 : decode prog_6_method_22_code 9 = .ok (.if_icmp .ge 87, 3) := by decide +kernel
theorem d_M_layProperties_96 : decode prog_6_method_22_code 96 = .ok (.return_, 1) := by decide +kernel
theorem d_M_layNodes_0 : decode prog_6_method_23_code 0 = .ok (.iconst 0, 1) := by decide +kernel
theorem d_M_layNodes_1 : decode prog_6_method_23_code 1 = .ok (.istore_n 1, 1) := by decide +kernel
theorem d_M_layNodes_2 : decode prog_6_method_23_code 2 = .ok (.iconst 0, 1) := by decide +kernel
theorem d_M_layNodes_3 : decode prog_6_method_23_code 3 = .ok (.istore_n 2, 1) := by decide +kernel
theorem d_M_layNodes_4 : decode prog_6_method_23_code 4 = .ok (.iload_n 2, 1) := by decide +kernel
theorem d_M_layNodes_5 : decode prog_6_method_23_code 5 = .ok (.aload_n 0, 1) := by decide +kernel
theorem d_M_layNodes_6 : decode prog_6_method_23_code 6 = .ok (.getfield 17, 3) := by decide +kernel
theorem d_M_layNodes_9 : decode prog_6_method_23_code 9 = .ok (.iconst 0, 1) := by decide +kernel
theorem d_M_layNodes_10 : decode prog_6_method_23_code 10 = .ok (.iaload, 1) := by decide +kernel
theorem d_M_layNodes_11 : decode prog_6_method_23_code 11 = .ok (.if_icmp .ge 89, 3) := by decide +kernel
theorem d_M_layNodes_14 : decode prog_6_method_23_code 14 = .ok (.aload_n 0, 1) := by decide +kernel
theorem d_M_layNodes_15 : decode prog_6_method_23_code 15 = .ok (.iconst 0, 1) := by decide +kernel
theorem d_M_layNodes_16 : decode prog_6_method_23_code 16 = .ok (.iload_n 2, 1) := by decide +kernel
theorem d_M_layNodes_17 : decode prog_6_method_23_code 17 = .ok (.invokevirtual 73, 3) := by decide +kernel
theorem d_M_layNodes_20 : decode prog_6_method_23_code 20 = .ok (.istore_n 3, 1) := by decide +kernel
theorem d_M_layNodes_21 : decode prog_6_method_23_code 21 = .ok (.iload_n 1, 1) := by decide +kernel
theorem d_M_layNodes_22 : decode prog_6_method_23_code 22 = .ok (.iload_n 3, 1) := by decide +kernel
theorem d_M_layNodes_23 : decode prog_6_method_23_code 23 = .ok (.if_icmp .lt 14, 3) := by decide +kernel
theorem d_M_layNodes_37 : decode prog_6_method_23_code 37 = .ok (.iload_n 3, 1) := by decide +kernel
theorem d_M_layNodes_38 : decode prog_6_method_23_code 38 = .ok (.istore_n 1, 1) := by decide +kernel
theorem d_M_layNodes_39 : decode prog_6_method_23_code 39 = .ok (.aload_n 0, 1) := by decide +kernel
theorem d_M_layNodes_40 : decode prog_6_method_23_code 40 = .ok (.iconst 1, 1) := by decide +kernel
theorem d_M_layNodes_41 : decode prog_6_method_23_code 41 = .ok (.invokevirtual 101, 3) := by decide +kernel
theorem d_M_layNodes_44 : decode prog_6_method_23_code 44 = .ok (.aload_n 0, 1) := by decide +kernel
theorem d_M_layNodes_45 : decode prog_6_method_23_code 45 = .ok (.getfield 29, 3) := by decide +kernel
theorem d_M_layNodes_48 : decode prog_6_method_23_code 48 = .ok (.iload_n 2, 1) := by decide +kernel
theorem d_M_layNodes_49 : decode prog_6_method_23_code 49 = .ok (.iaload, 1) := by decide +kernel
theorem d_M_layNodes_50 : decode prog_6_method_23_code 50 = .ok (.istore 4, 2) := by decide +kernel
theorem d_M_layNodes_52 : decode prog_6_method_23_code 52 = .ok (.iload 4, 2) := by decide +kernel
theorem d_M_layNodes_54 : decode prog_6_method_23_code 54 = .ok (.aload_n 0, 1) := by decide +kernel
theorem d_M_layNodes_55 : decode prog_6_method_23_code 55 = .ok (.getfield 32, 3) := by decide +kernel
theorem d_M_layNodes_58 : decode prog_6_method_23_code 58 = .ok (.iload_n 2, 1) := by decide +kernel
theorem d_M_layNodes_59 : decode prog_6_method_23_code 59 = .ok (.iaload, 1) := by decide +kernel
theorem d_M_layNodes_60 : decode prog_6_method_23_code 60 = .ok (.if_icmp .ge 20, 3) := by decide +kernel
theorem d_M_layNodes_80 : decode prog_6_method_23_code 80 = .ok (.aload_n 0, 1) := by decide +kernel
theorem d_M_layNodes_81 : decode prog_6_method_23_code 81 = .ok (.iconst 0, 1) := by decide +kernel
theorem d_M_layNodes_82 : decode prog_6_method_23_code 82 = .ok (.invokevirtual 91, 3) := by decide +kernel
theorem d_M_layNodes_85 : decode prog_6_method_23_code 85 = .ok (.aload_n 0, 1) := by decide +kernel
theorem d_M_layNodes_86 : decode prog_6_method_23_code 86 = .ok (.invokevirtual 108, 3) := by decide +kernel
theorem d_M_layNodes_89 : decode prog_6_method_23_code 89 = .ok (.aload_n 0, 1) := by decide +kernel
theorem d_M_layNodes_90 : decode prog_6_method_23_code 90 = .ok (.iload_n 2, 1) := by decide +kernel
theorem d_M_layNodes_91 : decode prog_6_method_23_code 91 = .ok (.invokevirtual 111, 3) := by decide +kernel
theorem d_M_layNodes_94 : decode prog_6_method_23_code 94 = .ok (.iinc 2 1, 3) := by decide +kernel
theorem d_M_layNodes_97 : decode prog_6_method_23_code 97 = .ok (.goto (-93), 3) := by decide +kernel
theorem d_M_layNodes_100 : decode prog_6_method_23_code 100 = .ok (.iload_n 1, 1) := by decide +kernel
theorem d_M_layNodes_101 : decode prog_6_method_23_code 101 = .ok (.ifCond .le 14, 3) := by decide +kernel
theorem d_M_layNodes_104 : decode prog_6_method_23_code 104 = .ok (.aload_n 0, 1) := by decide +kernel
theorem d_M_layNodes_105 : decode prog_6_method_23_code 105 = .ok (.iconst 2, 1) := by decide +kernel
theorem d_M_layNodes_106 : decode prog_6_method_23_code 106 = .ok (.invokevirtual 101, 3) := by decide +kernel
theorem d_M_layNodes_109 : decode prog_6_method_23_code 109 = .ok (.iinc 1 (-1), 3) := by decide +kernel
theorem d_M_layNodes_112 : decode prog_6_method_23_code 112 = .ok (.goto (-12), 3) := by decide +kernel
theorem d_M_layNodes_115 : decode prog_6_method_23_code 115 = .ok (.return_, 1) := by decide +kernel
theorem d_M_layNames_0 : decode prog_6_method_24_code 0 = .ok (.iconst 0, 1) := by decide +kernel
theorem d_M_layNames_1 : decode prog_6_method_24_code 1 = .ok (.istore_n 1, 1) := by decide +kernel
theorem d_M_layNames_2 : decode prog_6_method_24_code 2 = .ok (.iload_n 1, 1) := by decide +kernel
theorem d_M_layNames_3 : decode prog_6_method_24_code 3 = .ok (.aload_n 0, 1) := by decide +kernel
theorem d_M_layNames_4 : decode prog_6_method_24_code 4 = .ok (.getfield 20, 3) := by decide +kernel
theorem d_M_layNames_7 : decode prog_6_method_24_code 7 = .ok (.iconst 0, 1) := by decide +kernel
theorem d_M_layNames_8 : decode prog_6_method_24_code 8 = .ok (.iaload, 1) := by decide +kernel
theorem d_M_layNames_9 : decode prog_6_method_24_code 9 = .ok (.if_icmp .ge 55, 3) := by decide +kernel
theorem d_M_layNames_64 : decode prog_6_method_24_code 64 = .ok (.return_, 1) := by decide +kernel
theorem d_M_head_0 : decode prog_6_method_25_code 0 = .ok (.aload_n 0, 1) := by decide +kernel
theorem d_M_head_1 : decode prog_6_method_25_code 1 = .ok (.iconst 0, 1) := by decide +kernel
theorem d_M_head_2 : decode prog_6_method_25_code 2 = .ok (.putfield 88, 3) := by decide +kernel
theorem d_M_head_5 : decode prog_6_method_25_code 5 = .ok (.aload_n 0, 1) := by decide +kernel
theorem d_M_head_6 : decode prog_6_method_25_code 6 = .ok (.ldc 114, 2) := by decide +kernel
theorem d_M_head_8 : decode prog_6_method_25_code 8 = .ok (.invokevirtual 101, 3) := by decide +kernel
theorem d_M_head_11 : decode prog_6_method_25_code 11 = .ok (.aload_n 0, 1) := by decide +kernel
theorem d_M_head_12 : decode prog_6_method_25_code 12 = .ok (.iload_n 1, 1) := by decide +kernel
theorem d_M_head_13 : decode prog_6_method_25_code 13 = .ok (.invokevirtual 101, 3) := by decide +kernel
theorem d_M_head_16 : decode prog_6_method_25_code 16 = .ok (.aload_n 0, 1) := by decide +kernel
theorem d_M_head_17 : decode prog_6_method_25_code 17 = .ok (.bipush 56, 2) := by decide +kernel
theorem d_M_head_19 : decode prog_6_method_25_code 19 = .ok (.invokevirtual 101, 3) := by decide +kernel
theorem d_M_head_22 : decode prog_6_method_25_code 22 = .ok (.aload_n 0, 1) := by decide +kernel
theorem d_M_head_23 : decode prog_6_method_25_code 23 = .ok (.bipush 56, 2) := by decide +kernel
theorem d_M_head_25 : decode prog_6_method_25_code 25 = .ok (.iload_n 2, 1) := by decide +kernel
theorem d_M_head_26 : decode prog_6_method_25_code 26 = .ok (.iadd, 1) := by decide +kernel
theorem d_M_head_27 : decode prog_6_method_25_code 27 = .ok (.invokevirtual 101, 3) := by decide +kernel
theorem d_M_head_30 : decode prog_6_method_25_code 30 = .ok (.aload_n 0, 1) := by decide +kernel
theorem d_M_head_31 : decode prog_6_method_25_code 31 = .ok (.bipush 40, 2) := by decide +kernel
theorem d_M_head_33 : decode prog_6_method_25_code 33 = .ok (.invokevirtual 101, 3) := by decide +kernel
theorem d_M_head_36 : decode prog_6_method_25_code 36 = .ok (.aload_n 0, 1) := by decide +kernel
theorem d_M_head_37 : decode prog_6_method_25_code 37 = .ok (.bipush 17, 2) := by decide +kernel
theorem d_M_head_39 : decode prog_6_method_25_code 39 = .ok (.invokevirtual 101, 3) := by decide +kernel
theorem d_M_head_42 : decode prog_6_method_25_code 42 = .ok (.aload_n 0, 1) := by decide +kernel
theorem d_M_head_43 : decode prog_6_method_25_code 43 = .ok (.bipush 16, 2) := by decide +kernel
theorem d_M_head_45 : decode prog_6_method_25_code 45 = .ok (.invokevirtual 101, 3) := by decide +kernel
theorem d_M_head_48 : decode prog_6_method_25_code 48 = .ok (.aload_n 0, 1) := by decide +kernel
theorem d_M_head_49 : decode prog_6_method_25_code 49 = .ok (.iconst 0, 1) := by decide +kernel
theorem d_M_head_50 : decode prog_6_method_25_code 50 = .ok (.invokevirtual 101, 3) := by decide +kernel
theorem d_M_head_53 : decode prog_6_method_25_code 53 = .ok (.aload_n 0, 1) := by decide +kernel
theorem d_M_head_54 : decode prog_6_method_25_code 54 = .ok (.iload_n 1, 1) := by decide +kernel
theorem d_M_head_55 : decode prog_6_method_25_code 55 = .ok (.bipush 56, 2) := by decide +kernel
theorem d_M_head_57 : decode prog_6_method_25_code 57 = .ok (.isub, 1) := by decide +kernel
theorem d_M_head_58 : decode prog_6_method_25_code 58 = .ok (.iload_n 2, 1) := by decide +kernel
theorem d_M_head_59 : decode prog_6_method_25_code 59 = .ok (.isub, 1) := by decide +kernel
theorem d_M_head_60 : decode prog_6_method_25_code 60 = .ok (.invokevirtual 101, 3) := by decide +kernel
theorem d_M_head_63 : decode prog_6_method_25_code 63 = .ok (.aload_n 0, 1) := by decide +kernel
theorem d_M_head_64 : decode prog_6_method_25_code 64 = .ok (.iload_n 2, 1) := by decide +kernel
theorem d_M_head_65 : decode prog_6_method_25_code 65 = .ok (.invokevirtual 101, 3) := by decide +kernel
theorem d_M_head_68 : decode prog_6_method_25_code 68 = .ok (.iconst 0, 1) := by decide +kernel
theorem d_M_head_69 : decode prog_6_method_25_code 69 = .ok (.istore_n 3, 1) := by decide +kernel
theorem d_M_head_70 : decode prog_6_method_25_code 70 = .ok (.iload_n 3, 1) := by decide +kernel
theorem d_M_head_71 : decode prog_6_method_25_code 71 = .ok (.iconst 4, 1) := by decide +kernel
theorem d_M_head_72 : decode prog_6_method_25_code 72 = .ok (.if_icmp .ge 14, 3) := by decide +kernel
theorem d_M_head_75 : decode prog_6_method_25_code 75 = .ok (.aload_n 0, 1) := by decide +kernel
theorem d_M_head_76 : decode prog_6_method_25_code 76 = .ok (.iconst 0, 1) := by decide +kernel
theorem d_M_head_77 : decode prog_6_method_25_code 77 = .ok (.invokevirtual 101, 3) := by decide +kernel
theorem d_M_head_80 : decode prog_6_method_25_code 80 = .ok (.iinc 3 1, 3) := by decide +kernel
theorem d_M_head_83 : decode prog_6_method_25_code 83 = .ok (.goto (-13), 3) := by decide +kernel
theorem d_M_head_86 : decode prog_6_method_25_code 86 = .ok (.return_, 1) := by decide +kernel
theorem d_M_lay_0 : decode prog_6_method_26_code 0 = .ok (.aload_n 0, 1) := by decide +kernel
theorem d_M_lay_1 : decode prog_6_method_26_code 1 = .ok (.iconst 0, 1) := by decide +kernel
theorem d_M_lay_2 : decode prog_6_method_26_code 2 = .ok (.putfield 55, 3) := by decide +kernel
theorem d_M_lay_5 : decode prog_6_method_26_code 5 = .ok (.aload_n 0, 1) := by decide +kernel
theorem d_M_lay_6 : decode prog_6_method_26_code 6 = .ok (.bipush 56, 2) := by decide +kernel
theorem d_M_lay_8 : decode prog_6_method_26_code 8 = .ok (.putfield 88, 3) := by decide +kernel
theorem d_M_lay_11 : decode prog_6_method_26_code 11 = .ok (.aload_n 0, 1) := by decide +kernel
theorem d_M_lay_12 : decode prog_6_method_26_code 12 = .ok (.invokevirtual 115, 3) := by decide +kernel
theorem d_M_lay_15 : decode prog_6_method_26_code 15 = .ok (.aload_n 0, 1) := by decide +kernel
theorem d_M_lay_16 : decode prog_6_method_26_code 16 = .ok (.bipush 9, 2) := by decide +kernel
theorem d_M_lay_18 : decode prog_6_method_26_code 18 = .ok (.invokevirtual 101, 3) := by decide +kernel
theorem d_M_lay_21 : decode prog_6_method_26_code 21 = .ok (.aload_n 0, 1) := by decide +kernel
theorem d_M_lay_22 : decode prog_6_method_26_code 22 = .ok (.getfield 88, 3) := by decide +kernel
theorem d_M_lay_25 : decode prog_6_method_26_code 25 = .ok (.bipush 56, 2) := by decide +kernel
theorem d_M_lay_27 : decode prog_6_method_26_code 27 = .ok (.isub, 1) := by decide +kernel
theorem d_M_lay_28 : decode prog_6_method_26_code 28 = .ok (.istore_n 1, 1) := by decide +kernel
theorem d_M_lay_29 : decode prog_6_method_26_code 29 = .ok (.aload_n 0, 1) := by decide +kernel
theorem d_M_lay_30 : decode prog_6_method_26_code 30 = .ok (.invokevirtual 118, 3) := by decide +kernel
theorem d_M_lay_33 : decode prog_6_method_26_code 33 = .ok (.aload_n 0, 1) := by decide +kernel
theorem d_M_lay_34 : decode prog_6_method_26_code 34 = .ok (.getfield 88, 3) := by decide +kernel
theorem d_M_lay_37 : decode prog_6_method_26_code 37 = .ok (.istore_n 2, 1) := by decide +kernel
theorem d_M_lay_38 : decode prog_6_method_26_code 38 = .ok (.aload_n 0, 1) := by decide +kernel
theorem d_M_lay_39 : decode prog_6_method_26_code 39 = .ok (.iload_n 2, 1) := by decide +kernel
theorem d_M_lay_40 : decode prog_6_method_26_code 40 = .ok (.iload_n 1, 1) := by decide +kernel
theorem d_M_lay_41 : decode prog_6_method_26_code 41 = .ok (.invokevirtual 121, 3) := by decide +kernel
theorem d_M_lay_44 : decode prog_6_method_26_code 44 = .ok (.aload_n 0, 1) := by decide +kernel
theorem d_M_lay_45 : decode prog_6_method_26_code 45 = .ok (.iload_n 2, 1) := by decide +kernel
theorem d_M_lay_46 : decode prog_6_method_26_code 46 = .ok (.putfield 88, 3) := by decide +kernel
theorem d_M_lay_49 : decode prog_6_method_26_code 49 = .ok (.iload_n 2, 1) := by decide +kernel
theorem d_M_lay_50 : decode prog_6_method_26_code 50 = .ok (.ireturn, 1) := by decide +kernel
theorem d_M_laid_0 : decode prog_6_method_27_code 0 = .ok (.aload_n 0, 1) := by decide +kernel
theorem d_M_laid_1 : decode prog_6_method_27_code 1 = .ok (.iload_n 1, 1) := by decide +kernel
theorem d_M_laid_2 : decode prog_6_method_27_code 2 = .ok (.ifCond .lt 11, 3) := by decide +kernel
theorem d_M_laid_13 : decode prog_6_method_27_code 13 = .ok (.iconst 1, 1) := by decide +kernel
theorem d_M_laid_14 : decode prog_6_method_27_code 14 = .ok (.goto 4, 3) := by decide +kernel
theorem d_M_laid_18 : decode prog_6_method_27_code 18 = .ok (.putfield 55, 3) := by decide +kernel
theorem d_M_laid_21 : decode prog_6_method_27_code 21 = .ok (.aload_n 0, 1) := by decide +kernel
theorem d_M_laid_22 : decode prog_6_method_27_code 22 = .ok (.getfield 55, 3) := by decide +kernel
theorem d_M_laid_25 : decode prog_6_method_27_code 25 = .ok (.ifCond .le 7, 3) := by decide +kernel
theorem d_M_laid_28 : decode prog_6_method_27_code 28 = .ok (.iconst 0, 1) := by decide +kernel
theorem d_M_laid_29 : decode prog_6_method_27_code 29 = .ok (.goto 9, 3) := by decide +kernel
theorem d_M_laid_38 : decode prog_6_method_27_code 38 = .ok (.ireturn, 1) := by decide +kernel
theorem d_M_laid_5 : decode prog_6_method_27_code 5 = .ok (.iload_n 1, 1) := by decide +kernel
theorem d_M_laid_6 : decode prog_6_method_27_code 6 = .ok (.aload_n 0, 1) := by decide +kernel
theorem d_M_laid_7 : decode prog_6_method_27_code 7 = .ok (.getfield 88, 3) := by decide +kernel
theorem d_M_laid_10 : decode prog_6_method_27_code 10 = .ok (.if_icmp .lt 7, 3) := by decide +kernel
theorem d_M_fail_0 : decode prog_6_method_28_code 0 = .ok (.aload_n 0, 1) := by decide +kernel
theorem d_M_fail_1 : decode prog_6_method_28_code 1 = .ok (.iload_n 1, 1) := by decide +kernel
theorem d_M_fail_2 : decode prog_6_method_28_code 2 = .ok (.putfield 125, 3) := by decide +kernel
theorem d_M_fail_5 : decode prog_6_method_28_code 5 = .ok (.iconst 0, 1) := by decide +kernel
theorem d_M_fail_6 : decode prog_6_method_28_code 6 = .ok (.ireturn, 1) := by decide +kernel
theorem d_M_readsHead_0 : decode prog_6_method_31_code 0 = .ok (.iconst 0, 1) := by decide +kernel
theorem d_M_readsHead_1 : decode prog_6_method_31_code 1 = .ok (.istore_n 1, 1) := by decide +kernel
theorem d_M_readsHead_2 : decode prog_6_method_31_code 2 = .ok (.iload_n 1, 1) := by decide +kernel
theorem d_M_readsHead_3 : decode prog_6_method_31_code 3 = .ok (.bipush 40, 2) := by decide +kernel
theorem d_M_readsHead_5 : decode prog_6_method_31_code 5 = .ok (.if_icmp .ge 58, 3) := by decide +kernel
theorem d_M_readsHead_8 : decode prog_6_method_31_code 8 = .ok (.iload_n 1, 1) := by decide +kernel
theorem d_M_readsHead_9 : decode prog_6_method_31_code 9 = .ok (.iconst 4, 1) := by decide +kernel
theorem d_M_readsHead_10 : decode prog_6_method_31_code 10 = .ok (.iadd, 1) := by decide +kernel
theorem d_M_readsHead_11 : decode prog_6_method_31_code 11 = .ok (.aload_n 0, 1) := by decide +kernel
theorem d_M_readsHead_12 : decode prog_6_method_31_code 12 = .ok (.getfield 59, 3) := by decide +kernel
theorem d_M_readsHead_15 : decode prog_6_method_31_code 15 = .ok (.if_icmp .gt 18, 3) := by decide +kernel
theorem d_M_readsHead_33 : decode prog_6_method_31_code 33 = .ok (.aload_n 0, 1) := by decide +kernel
theorem d_M_readsHead_34 : decode prog_6_method_31_code 34 = .ok (.aload_n 0, 1) := by decide +kernel
theorem d_M_readsHead_35 : decode prog_6_method_31_code 35 = .ok (.getfield 59, 3) := by decide +kernel
theorem d_M_readsHead_38 : decode prog_6_method_31_code 38 = .ok (.invokevirtual 148, 3) := by decide +kernel
theorem d_M_readsHead_41 : decode prog_6_method_31_code 41 = .ok (.ireturn, 1) := by decide +kernel
theorem d_M_read_0 : decode prog_6_method_39_code 0 = .ok (.aload_n 0, 1) := by decide +kernel
theorem d_M_read_1 : decode prog_6_method_39_code 1 = .ok (.iconst 0, 1) := by decide +kernel
theorem d_M_read_2 : decode prog_6_method_39_code 2 = .ok (.putfield 55, 3) := by decide +kernel
theorem d_M_read_5 : decode prog_6_method_39_code 5 = .ok (.aload_n 0, 1) := by decide +kernel
theorem d_M_read_6 : decode prog_6_method_39_code 6 = .ok (.invokevirtual 193, 3) := by decide +kernel
theorem d_M_read_9 : decode prog_6_method_39_code 9 = .ok (.istore_n 1, 1) := by decide +kernel
theorem d_M_read_10 : decode prog_6_method_39_code 10 = .ok (.iload_n 1, 1) := by decide +kernel
theorem d_M_read_11 : decode prog_6_method_39_code 11 = .ok (.ifCond .eq 36, 3) := by decide +kernel
theorem d_M_read_47 : decode prog_6_method_39_code 47 = .ok (.aload_n 0, 1) := by decide +kernel
theorem d_M_read_48 : decode prog_6_method_39_code 48 = .ok (.iconst 0, 1) := by decide +kernel
theorem d_M_read_49 : decode prog_6_method_39_code 49 = .ok (.putfield 59, 3) := by decide +kernel
theorem d_M_read_52 : decode prog_6_method_39_code 52 = .ok (.iload_n 1, 1) := by decide +kernel
theorem d_M_read_53 : decode prog_6_method_39_code 53 = .ok (.ifCond .eq 7, 3) := by decide +kernel
theorem d_M_read_60 : decode prog_6_method_39_code 60 = .ok (.iload_n 1, 1) := by decide +kernel
theorem d_M_read_61 : decode prog_6_method_39_code 61 = .ok (.ifCond .eq 7, 3) := by decide +kernel
theorem d_M_read_68 : decode prog_6_method_39_code 68 = .ok (.aload_n 0, 1) := by decide +kernel
theorem d_M_read_69 : decode prog_6_method_39_code 69 = .ok (.getfield 125, 3) := by decide +kernel
theorem d_M_read_72 : decode prog_6_method_39_code 72 = .ok (.ireturn, 1) := by decide +kernel
theorem d_M_nodes_0 : decode prog_6_method_40_code 0 = .ok (.aload_n 0, 1) := by decide +kernel
theorem d_M_nodes_1 : decode prog_6_method_40_code 1 = .ok (.iconst 0, 1) := by decide +kernel
theorem d_M_nodes_2 : decode prog_6_method_40_code 2 = .ok (.putfield 55, 3) := by decide +kernel
theorem d_M_nodes_5 : decode prog_6_method_40_code 5 = .ok (.aload_n 0, 1) := by decide +kernel
theorem d_M_nodes_6 : decode prog_6_method_40_code 6 = .ok (.getfield 17, 3) := by decide +kernel
theorem d_M_nodes_9 : decode prog_6_method_40_code 9 = .ok (.iconst 0, 1) := by decide +kernel
theorem d_M_nodes_10 : decode prog_6_method_40_code 10 = .ok (.iaload, 1) := by decide +kernel
theorem d_M_nodes_11 : decode prog_6_method_40_code 11 = .ok (.ireturn, 1) := by decide +kernel
theorem d_M_properties_0 : decode prog_6_method_41_code 0 = .ok (.aload_n 0, 1) := by decide +kernel
theorem d_M_properties_1 : decode prog_6_method_41_code 1 = .ok (.iconst 0, 1) := by decide +kernel
theorem d_M_properties_2 : decode prog_6_method_41_code 2 = .ok (.putfield 55, 3) := by decide +kernel
theorem d_M_properties_5 : decode prog_6_method_41_code 5 = .ok (.aload_n 0, 1) := by decide +kernel
theorem d_M_properties_6 : decode prog_6_method_41_code 6 = .ok (.getfield 20, 3) := by decide +kernel
theorem d_M_properties_9 : decode prog_6_method_41_code 9 = .ok (.iconst 0, 1) := by decide +kernel
theorem d_M_properties_10 : decode prog_6_method_41_code 10 = .ok (.iaload, 1) := by decide +kernel
theorem d_M_properties_11 : decode prog_6_method_41_code 11 = .ok (.ireturn, 1) := by decide +kernel
theorem d_M_firstOf_0 : decode prog_6_method_42_code 0 = .ok (.iconst 0, 1) := by decide +kernel
theorem d_M_firstOf_1 : decode prog_6_method_42_code 1 = .ok (.istore_n 2, 1) := by decide +kernel
theorem d_M_firstOf_2 : decode prog_6_method_42_code 2 = .ok (.iload_n 2, 1) := by decide +kernel
theorem d_M_firstOf_3 : decode prog_6_method_42_code 3 = .ok (.aload_n 0, 1) := by decide +kernel
theorem d_M_firstOf_4 : decode prog_6_method_42_code 4 = .ok (.getfield 20, 3) := by decide +kernel
theorem d_M_firstOf_7 : decode prog_6_method_42_code 7 = .ok (.iconst 0, 1) := by decide +kernel
theorem d_M_firstOf_8 : decode prog_6_method_42_code 8 = .ok (.iaload, 1) := by decide +kernel
theorem d_M_firstOf_9 : decode prog_6_method_42_code 9 = .ok (.if_icmp .ge 21, 3) := by decide +kernel
theorem d_M_firstOf_30 : decode prog_6_method_42_code 30 = .ok (.iconst (-1), 1) := by decide +kernel
theorem d_M_firstOf_31 : decode prog_6_method_42_code 31 = .ok (.ireturn, 1) := by decide +kernel
theorem d_M_manyOf_0 : decode prog_6_method_43_code 0 = .ok (.iconst 0, 1) := by decide +kernel
theorem d_M_manyOf_1 : decode prog_6_method_43_code 1 = .ok (.istore_n 2, 1) := by decide +kernel
theorem d_M_manyOf_2 : decode prog_6_method_43_code 2 = .ok (.iconst 0, 1) := by decide +kernel
theorem d_M_manyOf_3 : decode prog_6_method_43_code 3 = .ok (.istore_n 3, 1) := by decide +kernel
theorem d_M_manyOf_4 : decode prog_6_method_43_code 4 = .ok (.iload_n 3, 1) := by decide +kernel
theorem d_M_manyOf_5 : decode prog_6_method_43_code 5 = .ok (.aload_n 0, 1) := by decide +kernel
theorem d_M_manyOf_6 : decode prog_6_method_43_code 6 = .ok (.getfield 20, 3) := by decide +kernel
theorem d_M_manyOf_9 : decode prog_6_method_43_code 9 = .ok (.iconst 0, 1) := by decide +kernel
theorem d_M_manyOf_10 : decode prog_6_method_43_code 10 = .ok (.iaload, 1) := by decide +kernel
theorem d_M_manyOf_11 : decode prog_6_method_43_code 11 = .ok (.if_icmp .ge 27, 3) := by decide +kernel
theorem d_M_manyOf_38 : decode prog_6_method_43_code 38 = .ok (.iload_n 2, 1) := by decide +kernel
theorem d_M_manyOf_39 : decode prog_6_method_43_code 39 = .ok (.ireturn, 1) := by decide +kernel
theorem d_M_node_0 : decode prog_6_method_44_code 0 = .ok (.aload_n 0, 1) := by decide +kernel
theorem d_M_node_1 : decode prog_6_method_44_code 1 = .ok (.iload_n 1, 1) := by decide +kernel
theorem d_M_node_2 : decode prog_6_method_44_code 2 = .ok (.ifCond .lt 13, 3) := by decide +kernel
theorem d_M_node_5 : decode prog_6_method_44_code 5 = .ok (.iload_n 1, 1) := by decide +kernel
theorem d_M_node_6 : decode prog_6_method_44_code 6 = .ok (.aload_n 0, 1) := by decide +kernel
theorem d_M_node_7 : decode prog_6_method_44_code 7 = .ok (.getfield 17, 3) := by decide +kernel
theorem d_M_node_10 : decode prog_6_method_44_code 10 = .ok (.iconst 0, 1) := by decide +kernel
theorem d_M_node_11 : decode prog_6_method_44_code 11 = .ok (.iaload, 1) := by decide +kernel
theorem d_M_node_12 : decode prog_6_method_44_code 12 = .ok (.if_icmp .lt 7, 3) := by decide +kernel
theorem d_M_node_19 : decode prog_6_method_44_code 19 = .ok (.iload_n 2, 1) := by decide +kernel
theorem d_M_node_20 : decode prog_6_method_44_code 20 = .ok (.ifCond .lt 8, 3) := by decide +kernel
theorem d_M_node_23 : decode prog_6_method_44_code 23 = .ok (.iload_n 2, 1) := by decide +kernel
theorem d_M_node_24 : decode prog_6_method_44_code 24 = .ok (.iconst 3, 1) := by decide +kernel
theorem d_M_node_25 : decode prog_6_method_44_code 25 = .ok (.if_icmp .le 7, 3) := by decide +kernel
theorem d_M_node_32 : decode prog_6_method_44_code 32 = .ok (.iconst 0, 1) := by decide +kernel
theorem d_M_node_33 : decode prog_6_method_44_code 33 = .ok (.putfield 55, 3) := by decide +kernel
theorem d_M_node_36 : decode prog_6_method_44_code 36 = .ok (.aload_n 0, 1) := by decide +kernel
theorem d_M_node_37 : decode prog_6_method_44_code 37 = .ok (.getfield 55, 3) := by decide +kernel
theorem d_M_node_40 : decode prog_6_method_44_code 40 = .ok (.ifCond .le 5, 3) := by decide +kernel
theorem d_M_node_45 : decode prog_6_method_44_code 45 = .ok (.iload_n 2, 1) := by decide +kernel
theorem d_M_node_46 : decode prog_6_method_44_code 46 = .ok (.ifCond .ne 12, 3) := by decide +kernel
theorem d_M_node_49 : decode prog_6_method_44_code 49 = .ok (.aload_n 0, 1) := by decide +kernel
theorem d_M_node_50 : decode prog_6_method_44_code 50 = .ok (.getfield 26, 3) := by decide +kernel
theorem d_M_node_53 : decode prog_6_method_44_code 53 = .ok (.iload_n 1, 1) := by decide +kernel
theorem d_M_node_54 : decode prog_6_method_44_code 54 = .ok (.iaload, 1) := by decide +kernel
theorem d_M_node_55 : decode prog_6_method_44_code 55 = .ok (.goto 42, 3) := by decide +kernel
theorem d_M_node_97 : decode prog_6_method_44_code 97 = .ok (.ireturn, 1) := by decide +kernel
theorem d_M_node_58 : decode prog_6_method_44_code 58 = .ok (.iload_n 2, 1) := by decide +kernel
theorem d_M_node_59 : decode prog_6_method_44_code 59 = .ok (.iconst 1, 1) := by decide +kernel
theorem d_M_node_60 : decode prog_6_method_44_code 60 = .ok (.if_icmp .ne 11, 3) := by decide +kernel
theorem d_M_node_63 : decode prog_6_method_44_code 63 = .ok (.aload_n 0, 1) := by decide +kernel
theorem d_M_node_64 : decode prog_6_method_44_code 64 = .ok (.iload_n 1, 1) := by decide +kernel
theorem d_M_node_65 : decode prog_6_method_44_code 65 = .ok (.invokevirtual 202, 3) := by decide +kernel
theorem d_M_node_68 : decode prog_6_method_44_code 68 = .ok (.goto 29, 3) := by decide +kernel
theorem d_M_node_71 : decode prog_6_method_44_code 71 = .ok (.iload_n 2, 1) := by decide +kernel
theorem d_M_node_72 : decode prog_6_method_44_code 72 = .ok (.iconst 2, 1) := by decide +kernel
theorem d_M_node_73 : decode prog_6_method_44_code 73 = .ok (.if_icmp .ne 11, 3) := by decide +kernel
theorem d_M_node_76 : decode prog_6_method_44_code 76 = .ok (.aload_n 0, 1) := by decide +kernel
theorem d_M_node_77 : decode prog_6_method_44_code 77 = .ok (.iload_n 1, 1) := by decide +kernel
theorem d_M_node_78 : decode prog_6_method_44_code 78 = .ok (.invokevirtual 205, 3) := by decide +kernel
theorem d_M_node_81 : decode prog_6_method_44_code 81 = .ok (.goto 16, 3) := by decide +kernel
theorem d_M_node_84 : decode prog_6_method_44_code 84 = .ok (.aload_n 0, 1) := by decide +kernel
theorem d_M_node_85 : decode prog_6_method_44_code 85 = .ok (.getfield 32, 3) := by decide +kernel
theorem d_M_node_88 : decode prog_6_method_44_code 88 = .ok (.iload_n 1, 1) := by decide +kernel
theorem d_M_node_89 : decode prog_6_method_44_code 89 = .ok (.iaload, 1) := by decide +kernel
theorem d_M_node_90 : decode prog_6_method_44_code 90 = .ok (.aload_n 0, 1) := by decide +kernel
theorem d_M_node_91 : decode prog_6_method_44_code 91 = .ok (.getfield 29, 3) := by decide +kernel
theorem d_M_node_94 : decode prog_6_method_44_code 94 = .ok (.iload_n 1, 1) := by decide +kernel
theorem d_M_node_95 : decode prog_6_method_44_code 95 = .ok (.iaload, 1) := by decide +kernel
theorem d_M_node_96 : decode prog_6_method_44_code 96 = .ok (.isub, 1) := by decide +kernel
theorem d_M_node_15 : decode prog_6_method_44_code 15 = .ok (.iconst 1, 1) := by decide +kernel
theorem d_M_node_16 : decode prog_6_method_44_code 16 = .ok (.goto 17, 3) := by decide +kernel
theorem d_M_node_43 : decode prog_6_method_44_code 43 = .ok (.iconst 0, 1) := by decide +kernel
theorem d_M_node_44 : decode prog_6_method_44_code 44 = .ok (.ireturn, 1) := by decide +kernel
theorem d_M_node_28 : decode prog_6_method_44_code 28 = .ok (.iconst 2, 1) := by decide +kernel
theorem d_M_node_29 : decode prog_6_method_44_code 29 = .ok (.goto 4, 3) := by decide +kernel
theorem d_M_about_0 : decode prog_6_method_45_code 0 = .ok (.aload_n 0, 1) := by decide +kernel
theorem d_M_about_1 : decode prog_6_method_45_code 1 = .ok (.iload_n 1, 1) := by decide +kernel
theorem d_M_about_2 : decode prog_6_method_45_code 2 = .ok (.ifCond .lt 13, 3) := by decide +kernel
theorem d_M_about_15 : decode prog_6_method_45_code 15 = .ok (.iconst 1, 1) := by decide +kernel
theorem d_M_about_16 : decode prog_6_method_45_code 16 = .ok (.goto 17, 3) := by decide +kernel
theorem d_M_about_33 : decode prog_6_method_45_code 33 = .ok (.putfield 55, 3) := by decide +kernel
theorem d_M_about_36 : decode prog_6_method_45_code 36 = .ok (.aload_n 0, 1) := by decide +kernel
theorem d_M_about_37 : decode prog_6_method_45_code 37 = .ok (.getfield 55, 3) := by decide +kernel
theorem d_M_about_40 : decode prog_6_method_45_code 40 = .ok (.ifCond .le 5, 3) := by decide +kernel
theorem d_M_about_43 : decode prog_6_method_45_code 43 = .ok (.iconst 0, 1) := by decide +kernel
theorem d_M_about_44 : decode prog_6_method_45_code 44 = .ok (.ireturn, 1) := by decide +kernel
theorem d_M_about_5 : decode prog_6_method_45_code 5 = .ok (.iload_n 1, 1) := by decide +kernel
theorem d_M_about_6 : decode prog_6_method_45_code 6 = .ok (.aload_n 0, 1) := by decide +kernel
theorem d_M_about_7 : decode prog_6_method_45_code 7 = .ok (.getfield 20, 3) := by decide +kernel
theorem d_M_about_10 : decode prog_6_method_45_code 10 = .ok (.iconst 0, 1) := by decide +kernel
theorem d_M_about_11 : decode prog_6_method_45_code 11 = .ok (.iaload, 1) := by decide +kernel
theorem d_M_about_12 : decode prog_6_method_45_code 12 = .ok (.if_icmp .lt 7, 3) := by decide +kernel
theorem d_M_byteOf_0 : decode prog_6_method_46_code 0 = .ok (.aload_n 0, 1) := by decide +kernel
theorem d_M_byteOf_1 : decode prog_6_method_46_code 1 = .ok (.iload_n 1, 1) := by decide +kernel
theorem d_M_byteOf_2 : decode prog_6_method_46_code 2 = .ok (.ifCond .eq 20, 3) := by decide +kernel
theorem d_M_byteOf_22 : decode prog_6_method_46_code 22 = .ok (.iconst 1, 1) := by decide +kernel
theorem d_M_byteOf_23 : decode prog_6_method_46_code 23 = .ok (.putfield 55, 3) := by decide +kernel
theorem d_M_byteOf_26 : decode prog_6_method_46_code 26 = .ok (.aload_n 0, 1) := by decide +kernel
theorem d_M_byteOf_27 : decode prog_6_method_46_code 27 = .ok (.getfield 55, 3) := by decide +kernel
theorem d_M_byteOf_30 : decode prog_6_method_46_code 30 = .ok (.ifCond .le 7, 3) := by decide +kernel
theorem d_M_byteOf_33 : decode prog_6_method_46_code 33 = .ok (.iconst 0, 1) := by decide +kernel
theorem d_M_byteOf_34 : decode prog_6_method_46_code 34 = .ok (.goto 12, 3) := by decide +kernel
theorem d_M_byteOf_46 : decode prog_6_method_46_code 46 = .ok (.ireturn, 1) := by decide +kernel
theorem d_M_byteOf_5 : decode prog_6_method_46_code 5 = .ok (.iload 4, 2) := by decide +kernel
theorem d_M_byteOf_7 : decode prog_6_method_46_code 7 = .ok (.ifCond .lt 15, 3) := by decide +kernel
theorem d_M_byteOf_10 : decode prog_6_method_46_code 10 = .ok (.iload 4, 2) := by decide +kernel
theorem d_M_byteOf_12 : decode prog_6_method_46_code 12 = .ok (.iload_n 3, 1) := by decide +kernel
theorem d_M_byteOf_13 : decode prog_6_method_46_code 13 = .ok (.iload_n 2, 1) := by decide +kernel
theorem d_M_byteOf_14 : decode prog_6_method_46_code 14 = .ok (.isub, 1) := by decide +kernel
theorem d_M_byteOf_15 : decode prog_6_method_46_code 15 = .ok (.if_icmp .ge 7, 3) := by decide +kernel
theorem d_M_nodeName_0 : decode prog_6_method_47_code 0 = .ok (.iload_n 1, 1) := by decide +kernel
theorem d_M_nodeName_1 : decode prog_6_method_47_code 1 = .ok (.ifCond .lt 17, 3) := by decide +kernel
theorem d_M_nodeName_18 : decode prog_6_method_47_code 18 = .ok (.iconst 0, 1) := by decide +kernel
theorem d_M_nodeName_19 : decode prog_6_method_47_code 19 = .ok (.istore_n 3, 1) := by decide +kernel
theorem d_M_nodeName_20 : decode prog_6_method_47_code 20 = .ok (.aload_n 0, 1) := by decide +kernel
theorem d_M_nodeName_21 : decode prog_6_method_47_code 21 = .ok (.iload_n 3, 1) := by decide +kernel
theorem d_M_nodeName_22 : decode prog_6_method_47_code 22 = .ok (.iload_n 3, 1) := by decide +kernel
theorem d_M_nodeName_23 : decode prog_6_method_47_code 23 = .ok (.ifCond .eq 12, 3) := by decide +kernel
theorem d_M_nodeName_35 : decode prog_6_method_47_code 35 = .ok (.iconst 0, 1) := by decide +kernel
theorem d_M_nodeName_36 : decode prog_6_method_47_code 36 = .ok (.iload_n 3, 1) := by decide +kernel
theorem d_M_nodeName_37 : decode prog_6_method_47_code 37 = .ok (.ifCond .eq 12, 3) := by decide +kernel
theorem d_M_nodeName_49 : decode prog_6_method_47_code 49 = .ok (.iconst 0, 1) := by decide +kernel
theorem d_M_nodeName_50 : decode prog_6_method_47_code 50 = .ok (.iload_n 2, 1) := by decide +kernel
theorem d_M_nodeName_51 : decode prog_6_method_47_code 51 = .ok (.invokevirtual 208, 3) := by decide +kernel
theorem d_M_nodeName_54 : decode prog_6_method_47_code 54 = .ok (.ireturn, 1) := by decide +kernel
theorem d_M_nodeName_4 : decode prog_6_method_47_code 4 = .ok (.iload_n 1, 1) := by decide +kernel
theorem d_M_nodeName_5 : decode prog_6_method_47_code 5 = .ok (.aload_n 0, 1) := by decide +kernel
theorem d_M_nodeName_6 : decode prog_6_method_47_code 6 = .ok (.getfield 17, 3) := by decide +kernel
theorem d_M_nodeName_9 : decode prog_6_method_47_code 9 = .ok (.iconst 0, 1) := by decide +kernel
theorem d_M_nodeName_10 : decode prog_6_method_47_code 10 = .ok (.iaload, 1) := by decide +kernel
theorem d_M_nodeName_11 : decode prog_6_method_47_code 11 = .ok (.if_icmp .ge 7, 3) := by decide +kernel
theorem d_M_nodeName_14 : decode prog_6_method_47_code 14 = .ok (.iconst 1, 1) := by decide +kernel
theorem d_M_nodeName_15 : decode prog_6_method_47_code 15 = .ok (.goto 4, 3) := by decide +kernel
theorem d_M_nodeName_26 : decode prog_6_method_47_code 26 = .ok (.aload_n 0, 1) := by decide +kernel
theorem d_M_nodeName_27 : decode prog_6_method_47_code 27 = .ok (.getfield 29, 3) := by decide +kernel
theorem d_M_nodeName_30 : decode prog_6_method_47_code 30 = .ok (.iload_n 1, 1) := by decide +kernel
theorem d_M_nodeName_31 : decode prog_6_method_47_code 31 = .ok (.iaload, 1) := by decide +kernel
theorem d_M_nodeName_32 : decode prog_6_method_47_code 32 = .ok (.goto 4, 3) := by decide +kernel
theorem d_M_nodeName_40 : decode prog_6_method_47_code 40 = .ok (.aload_n 0, 1) := by decide +kernel
theorem d_M_nodeName_41 : decode prog_6_method_47_code 41 = .ok (.getfield 32, 3) := by decide +kernel
theorem d_M_nodeName_44 : decode prog_6_method_47_code 44 = .ok (.iload_n 1, 1) := by decide +kernel
theorem d_M_nodeName_45 : decode prog_6_method_47_code 45 = .ok (.iaload, 1) := by decide +kernel
theorem d_M_nodeName_46 : decode prog_6_method_47_code 46 = .ok (.goto 4, 3) := by decide +kernel
theorem d_M_name_0 : decode prog_6_method_48_code 0 = .ok (.iload_n 1, 1) := by decide +kernel
theorem d_M_name_1 : decode prog_6_method_48_code 1 = .ok (.ifCond .lt 17, 3) := by decide +kernel
theorem d_M_name_18 : decode prog_6_method_48_code 18 = .ok (.iconst 0, 1) := by decide +kernel
theorem d_M_name_19 : decode prog_6_method_48_code 19 = .ok (.istore_n 3, 1) := by decide +kernel
theorem d_M_name_20 : decode prog_6_method_48_code 20 = .ok (.aload_n 0, 1) := by decide +kernel
theorem d_M_name_21 : decode prog_6_method_48_code 21 = .ok (.iload_n 3, 1) := by decide +kernel
theorem d_M_name_22 : decode prog_6_method_48_code 22 = .ok (.iload_n 3, 1) := by decide +kernel
theorem d_M_name_23 : decode prog_6_method_48_code 23 = .ok (.ifCond .eq 12, 3) := by decide +kernel
theorem d_M_name_35 : decode prog_6_method_48_code 35 = .ok (.iconst 0, 1) := by decide +kernel
theorem d_M_name_36 : decode prog_6_method_48_code 36 = .ok (.iload_n 3, 1) := by decide +kernel
theorem d_M_name_37 : decode prog_6_method_48_code 37 = .ok (.ifCond .eq 12, 3) := by decide +kernel
theorem d_M_name_49 : decode prog_6_method_48_code 49 = .ok (.iconst 0, 1) := by decide +kernel
theorem d_M_name_50 : decode prog_6_method_48_code 50 = .ok (.iload_n 2, 1) := by decide +kernel
theorem d_M_name_51 : decode prog_6_method_48_code 51 = .ok (.invokevirtual 208, 3) := by decide +kernel
theorem d_M_name_54 : decode prog_6_method_48_code 54 = .ok (.ireturn, 1) := by decide +kernel
theorem d_M_name_4 : decode prog_6_method_48_code 4 = .ok (.iload_n 1, 1) := by decide +kernel
theorem d_M_name_5 : decode prog_6_method_48_code 5 = .ok (.aload_n 0, 1) := by decide +kernel
theorem d_M_name_6 : decode prog_6_method_48_code 6 = .ok (.getfield 20, 3) := by decide +kernel
theorem d_M_name_9 : decode prog_6_method_48_code 9 = .ok (.iconst 0, 1) := by decide +kernel
theorem d_M_name_10 : decode prog_6_method_48_code 10 = .ok (.iaload, 1) := by decide +kernel
theorem d_M_name_11 : decode prog_6_method_48_code 11 = .ok (.if_icmp .ge 7, 3) := by decide +kernel
theorem d_M_value_0 : decode prog_6_method_49_code 0 = .ok (.iload_n 1, 1) := by decide +kernel
theorem d_M_value_1 : decode prog_6_method_49_code 1 = .ok (.ifCond .lt 17, 3) := by decide +kernel
theorem d_M_value_18 : decode prog_6_method_49_code 18 = .ok (.iconst 0, 1) := by decide +kernel
theorem d_M_value_19 : decode prog_6_method_49_code 19 = .ok (.istore_n 3, 1) := by decide +kernel
theorem d_M_value_20 : decode prog_6_method_49_code 20 = .ok (.aload_n 0, 1) := by decide +kernel
theorem d_M_value_21 : decode prog_6_method_49_code 21 = .ok (.iload_n 3, 1) := by decide +kernel
theorem d_M_value_22 : decode prog_6_method_49_code 22 = .ok (.iload_n 3, 1) := by decide +kernel
theorem d_M_value_23 : decode prog_6_method_49_code 23 = .ok (.ifCond .eq 12, 3) := by decide +kernel
theorem d_M_value_35 : decode prog_6_method_49_code 35 = .ok (.iconst 0, 1) := by decide +kernel
theorem d_M_value_36 : decode prog_6_method_49_code 36 = .ok (.iload_n 3, 1) := by decide +kernel
theorem d_M_value_37 : decode prog_6_method_49_code 37 = .ok (.ifCond .eq 12, 3) := by decide +kernel
theorem d_M_value_49 : decode prog_6_method_49_code 49 = .ok (.iconst 0, 1) := by decide +kernel
theorem d_M_value_50 : decode prog_6_method_49_code 50 = .ok (.iload_n 2, 1) := by decide +kernel
theorem d_M_value_51 : decode prog_6_method_49_code 51 = .ok (.invokevirtual 208, 3) := by decide +kernel
theorem d_M_value_54 : decode prog_6_method_49_code 54 = .ok (.ireturn, 1) := by decide +kernel
theorem d_M_value_4 : decode prog_6_method_49_code 4 = .ok (.iload_n 1, 1) := by decide +kernel
theorem d_M_value_5 : decode prog_6_method_49_code 5 = .ok (.aload_n 0, 1) := by decide +kernel
theorem d_M_value_6 : decode prog_6_method_49_code 6 = .ok (.getfield 20, 3) := by decide +kernel
theorem d_M_value_9 : decode prog_6_method_49_code 9 = .ok (.iconst 0, 1) := by decide +kernel
theorem d_M_value_10 : decode prog_6_method_49_code 10 = .ok (.iaload, 1) := by decide +kernel
theorem d_M_value_11 : decode prog_6_method_49_code 11 = .ok (.if_icmp .ge 7, 3) := by decide +kernel
theorem d_M_find_0 : decode prog_6_method_52_code 0 = .ok (.aload_n 0, 1) := by decide +kernel
theorem d_M_find_1 : decode prog_6_method_52_code 1 = .ok (.iconst 0, 1) := by decide +kernel
theorem d_M_find_2 : decode prog_6_method_52_code 2 = .ok (.putfield 55, 3) := by decide +kernel
theorem d_M_find_5 : decode prog_6_method_52_code 5 = .ok (.iconst 0, 1) := by decide +kernel
theorem d_M_find_6 : decode prog_6_method_52_code 6 = .ok (.istore_n 1, 1) := by decide +kernel
theorem d_M_find_7 : decode prog_6_method_52_code 7 = .ok (.iconst 0, 1) := by decide +kernel
theorem d_M_find_8 : decode prog_6_method_52_code 8 = .ok (.istore_n 2, 1) := by decide +kernel
theorem d_M_find_9 : decode prog_6_method_52_code 9 = .ok (.aload_n 0, 1) := by decide +kernel
theorem d_M_find_10 : decode prog_6_method_52_code 10 = .ok (.getfield 59, 3) := by decide +kernel
theorem d_M_find_13 : decode prog_6_method_52_code 13 = .ok (.ifCond .eq 22, 3) := by decide +kernel
theorem d_M_find_35 : decode prog_6_method_52_code 35 = .ok (.iconst 1, 1) := by decide +kernel
theorem d_M_find_36 : decode prog_6_method_52_code 36 = .ok (.goto 4, 3) := by decide +kernel
theorem d_M_find_40 : decode prog_6_method_52_code 40 = .ok (.istore_n 3, 1) := by decide +kernel
theorem d_M_find_41 : decode prog_6_method_52_code 41 = .ok (.iload_n 3, 1) := by decide +kernel
theorem d_M_find_42 : decode prog_6_method_52_code 42 = .ok (.ifCond .ne 79, 3) := by decide +kernel
theorem d_M_find_121 : decode prog_6_method_52_code 121 = .ok (.aload_n 0, 1) := by decide +kernel
theorem d_M_find_122 : decode prog_6_method_52_code 122 = .ok (.iconst 0, 1) := by decide +kernel
theorem d_M_find_123 : decode prog_6_method_52_code 123 = .ok (.putfield 59, 3) := by decide +kernel
theorem d_M_find_126 : decode prog_6_method_52_code 126 = .ok (.iload_n 1, 1) := by decide +kernel
theorem d_M_find_127 : decode prog_6_method_52_code 127 = .ok (.ireturn, 1) := by decide +kernel
theorem d_M_seek_0 : decode prog_6_method_53_code 0 = .ok (.aload_n 0, 1) := by decide +kernel
theorem d_M_seek_1 : decode prog_6_method_53_code 1 = .ok (.iload_n 1, 1) := by decide +kernel
theorem d_M_seek_2 : decode prog_6_method_53_code 2 = .ok (.ifCond .lt 13, 3) := by decide +kernel
theorem d_M_seek_5 : decode prog_6_method_53_code 5 = .ok (.iload_n 1, 1) := by decide +kernel
theorem d_M_seek_6 : decode prog_6_method_53_code 6 = .ok (.aload_n 0, 1) := by decide +kernel
theorem d_M_seek_7 : decode prog_6_method_53_code 7 = .ok (.getfield 17, 3) := by decide +kernel
theorem d_M_seek_10 : decode prog_6_method_53_code 10 = .ok (.iconst 0, 1) := by decide +kernel
theorem d_M_seek_11 : decode prog_6_method_53_code 11 = .ok (.iaload, 1) := by decide +kernel
theorem d_M_seek_12 : decode prog_6_method_53_code 12 = .ok (.if_icmp .lt 7, 3) := by decide +kernel
theorem d_M_seek_19 : decode prog_6_method_53_code 19 = .ok (.iconst 0, 1) := by decide +kernel
theorem d_M_seek_20 : decode prog_6_method_53_code 20 = .ok (.putfield 55, 3) := by decide +kernel
theorem d_M_seek_23 : decode prog_6_method_53_code 23 = .ok (.aload_n 0, 1) := by decide +kernel
theorem d_M_seek_24 : decode prog_6_method_53_code 24 = .ok (.getfield 55, 3) := by decide +kernel
theorem d_M_seek_27 : decode prog_6_method_53_code 27 = .ok (.ifCond .le 5, 3) := by decide +kernel
theorem d_M_seek_32 : decode prog_6_method_53_code 32 = .ok (.iconst (-1), 1) := by decide +kernel
theorem d_M_seek_33 : decode prog_6_method_53_code 33 = .ok (.istore_n 2, 1) := by decide +kernel
theorem d_M_seek_34 : decode prog_6_method_53_code 34 = .ok (.aload_n 0, 1) := by decide +kernel
theorem d_M_seek_35 : decode prog_6_method_53_code 35 = .ok (.getfield 20, 3) := by decide +kernel
theorem d_M_seek_38 : decode prog_6_method_53_code 38 = .ok (.iconst 0, 1) := by decide +kernel
theorem d_M_seek_39 : decode prog_6_method_53_code 39 = .ok (.iaload, 1) := by decide +kernel
theorem d_M_seek_40 : decode prog_6_method_53_code 40 = .ok (.iconst 1, 1) := by decide +kernel
theorem d_M_seek_41 : decode prog_6_method_53_code 41 = .ok (.isub, 1) := by decide +kernel
theorem d_M_seek_42 : decode prog_6_method_53_code 42 = .ok (.istore_n 3, 1) := by decide +kernel
theorem d_M_seek_43 : decode prog_6_method_53_code 43 = .ok (.iload_n 3, 1) := by decide +kernel
theorem d_M_seek_44 : decode prog_6_method_53_code 44 = .ok (.ifCond .lt 49, 3) := by decide +kernel
theorem d_M_seek_93 : decode prog_6_method_53_code 93 = .ok (.aload_n 0, 1) := by decide +kernel
theorem d_M_seek_94 : decode prog_6_method_53_code 94 = .ok (.iconst 0, 1) := by decide +kernel
theorem d_M_seek_95 : decode prog_6_method_53_code 95 = .ok (.putfield 59, 3) := by decide +kernel
theorem d_M_seek_98 : decode prog_6_method_53_code 98 = .ok (.iload_n 2, 1) := by decide +kernel
theorem d_M_seek_99 : decode prog_6_method_53_code 99 = .ok (.ireturn, 1) := by decide +kernel
theorem d_M_seek_15 : decode prog_6_method_53_code 15 = .ok (.iconst 1, 1) := by decide +kernel
theorem d_M_seek_16 : decode prog_6_method_53_code 16 = .ok (.goto 4, 3) := by decide +kernel
theorem d_M_seek_30 : decode prog_6_method_53_code 30 = .ok (.iconst 0, 1) := by decide +kernel
theorem d_M_seek_31 : decode prog_6_method_53_code 31 = .ok (.ireturn, 1) := by decide +kernel
set_option maxHeartbeats 4000000 in
set_option maxRecDepth 100000 in
theorem c_M_begin (l : Launch) (G : kb_G) (h : Nat) (T : Int32) (m1 : Nat) (m3 : Nat) (m5 : Nat) (m6 : Nat) (m7 : Nat) (m8 : Nat) (m9 : Nat) (m10 : Nat) (m11 : Nat) (m12 : Nat) (m13 : Nat) (m14 : Nat) (m15 : Nat) (f5 : Nat → Int32) (f6 : Nat → Int32) (f7 : Nat → Int32) (f8 : Nat → Int32) (f9 : Nat → Int32) (f10 : Nat → Int32) : kb_cv l G ⟨"TreePressModel", "begin", "(I)V"⟩ prog_6_method_3_code 2 1 0 0 [.ref h, .int 0] [kb_o h 4 [.int T, .ref m1, .int 0, .ref m3, .int 0, .ref m5, .ref m6, .ref m7, .ref m8, .ref m9, .ref m10, .ref m11, .ref m12, .ref m13, .ref m14, .ref m15, .int 0, .int 0, .int 0, .int 0, .int 0], kb_a G m5 2 f5, kb_a G m6 2 f6, kb_a G m7 2 f7, kb_a G m8 256 f8, kb_a G m9 256 f9, kb_a G m10 256 f10] (fun u => True) (fun u => [kb_o h 4 [.int T, .ref m1, .int 0, .ref m3, .int 0, .ref m5, .ref m6, .ref m7, .ref m8, .ref m9, .ref m10, .ref m11, .ref m12, .ref m13, .ref m14, .ref m15, .int 0, .int 0, .int 0, .int 0, .int 0], kb_a G m5 2 (upd f5 0 1), kb_a G m6 2 (upd f6 0 0), kb_a G m7 2 (upd f7 0 0), kb_a G m8 256 (upd f8 0 (-1)), kb_a G m9 256 (upd f9 0 0), kb_a G m10 256 (upd f10 0 0)]) := by
  intro sz
  refine kb_body (QQ := fun A => kb_Qv G A (fun u => True) (fun u => [kb_o h 4 [.int T, .ref m1, .int 0, .ref m3, .int 0, .ref m5, .ref m6, .ref m7, .ref m8, .ref m9, .ref m10, .ref m11, .ref m12, .ref m13, .ref m14, .ref m15, .int 0, .int 0, .int 0, .int 0, .int 0], kb_a G m5 2 (upd f5 0 1), kb_a G m6 2 (upd f6 0 0), kb_a G m7 2 (upd f7 0 0), kb_a G m8 256 (upd f8 0 (-1)), kb_a G m9 256 (upd f9 0 0), kb_a G m10 256 (upd f10 0 0)])) (by decide) (Nat.le_of_ble_eq_true rfl) ?_
  intro p e s m below meth c A B ls hl
  obtain ⟨hx, hb, hr, hml, hlocks, hin, hown, ht, hE, hP, hD, hS⟩ := B
  have hl : lv_has ls 2 [(0, .ref h), (1, .int 0)] := hl
  have hP0 := hP
  obtain ⟨H, hHe⟩ : ∃ H, H = s.heap := ⟨_, rfl⟩
  rw [← hHe] at hP
  have hS : va_S A s.heap H [] := by rw [hHe]; exact hS
  refine kb_at hHe ?_
  clear hHe
  refine lv_aload_n hx hb d_M_begin_0 rfl (lv_at hl 0 rfl) ?_
  refine va_get (D := G.1) (ci := 4) (v := .ref m5) (C := "TreePressModel") (T := kb_F4) (N := 21) hx hb ht kb_w4 hown hE.1 hP 0 rfl rfl 5 (by decide) (ht _ wd_e8505d70) (fun _ h9 => h9) rfl d_M_begin_1 ?_
  refine lv_iload_n hx hb d_M_begin_4 rfl (lv_at hl 1 rfl) ?_
  refine lv_iconst (v := 1) hx hb d_M_begin_5 (by decide) ?_
  refine va_iast hx hb hE.1 hP hD hS 1 0 rfl rfl (show ¬ ((0 : Int32) < 0 ∨ 2 ≤ (0 : Int32).toNatClampNeg) by decide) d_M_begin_6 (fun H locs hP hD hS => ?_)
  have hP : va_P G.1 kb_cl [kb_o h 4 [.int T, .ref m1, .int 0, .ref m3, .int 0, .ref m5, .ref m6, .ref m7, .ref m8, .ref m9, .ref m10, .ref m11, .ref m12, .ref m13, .ref m14, .ref m15, .int 0, .int 0, .int 0, .int 0, .int 0], kb_a G m5 2 (upd f5 0 1), kb_a G m6 2 f6, kb_a G m7 2 f7, kb_a G m8 256 f8, kb_a G m9 256 f9, kb_a G m10 256 f10] H := hP
  have hD : va_D A [kb_o h 4 [.int T, .ref m1, .int 0, .ref m3, .int 0, .ref m5, .ref m6, .ref m7, .ref m8, .ref m9, .ref m10, .ref m11, .ref m12, .ref m13, .ref m14, .ref m15, .int 0, .int 0, .int 0, .int 0, .int 0], kb_a G m5 2 (upd f5 0 1), kb_a G m6 2 f6, kb_a G m7 2 f7, kb_a G m8 256 f8, kb_a G m9 256 f9, kb_a G m10 256 f10] := hD
  refine lv_aload_n hx hb d_M_begin_7 rfl (lv_at hl 0 rfl) ?_
  refine va_get (D := G.1) (ci := 4) (v := .ref m6) (C := "TreePressModel") (T := kb_F4) (N := 21) hx hb ht kb_w4 hown hE.1 hP 0 rfl rfl 6 (by decide) (ht _ wd_0c18f9c0) (fun _ h9 => h9) rfl d_M_begin_8 ?_
  refine lv_iload_n hx hb d_M_begin_11 rfl (lv_at hl 1 rfl) ?_
  refine lv_iconst (v := 0) hx hb d_M_begin_12 (by decide) ?_
  refine va_iast hx hb hE.1 hP hD hS 2 0 rfl rfl (show ¬ ((0 : Int32) < 0 ∨ 2 ≤ (0 : Int32).toNatClampNeg) by decide) d_M_begin_13 (fun H locs hP hD hS => ?_)
  have hP : va_P G.1 kb_cl [kb_o h 4 [.int T, .ref m1, .int 0, .ref m3, .int 0, .ref m5, .ref m6, .ref m7, .ref m8, .ref m9, .ref m10, .ref m11, .ref m12, .ref m13, .ref m14, .ref m15, .int 0, .int 0, .int 0, .int 0, .int 0], kb_a G m5 2 (upd f5 0 1), kb_a G m6 2 (upd f6 0 0), kb_a G m7 2 f7, kb_a G m8 256 f8, kb_a G m9 256 f9, kb_a G m10 256 f10] H := hP
  have hD : va_D A [kb_o h 4 [.int T, .ref m1, .int 0, .ref m3, .int 0, .ref m5, .ref m6, .ref m7, .ref m8, .ref m9, .ref m10, .ref m11, .ref m12, .ref m13, .ref m14, .ref m15, .int 0, .int 0, .int 0, .int 0, .int 0], kb_a G m5 2 (upd f5 0 1), kb_a G m6 2 (upd f6 0 0), kb_a G m7 2 f7, kb_a G m8 256 f8, kb_a G m9 256 f9, kb_a G m10 256 f10] := hD
  refine lv_aload_n hx hb d_M_begin_14 rfl (lv_at hl 0 rfl) ?_
  refine va_get (D := G.1) (ci := 4) (v := .ref m7) (C := "TreePressModel") (T := kb_F4) (N := 21) hx hb ht kb_w4 hown hE.1 hP 0 rfl rfl 7 (by decide) (ht _ wd_9adf105c) (fun _ h9 => h9) rfl d_M_begin_15 ?_
  refine lv_iload_n hx hb d_M_begin_18 rfl (lv_at hl 1 rfl) ?_
  refine lv_iconst (v := 0) hx hb d_M_begin_19 (by decide) ?_
  refine va_iast hx hb hE.1 hP hD hS 3 0 rfl rfl (show ¬ ((0 : Int32) < 0 ∨ 2 ≤ (0 : Int32).toNatClampNeg) by decide) d_M_begin_20 (fun H locs hP hD hS => ?_)
  have hP : va_P G.1 kb_cl [kb_o h 4 [.int T, .ref m1, .int 0, .ref m3, .int 0, .ref m5, .ref m6, .ref m7, .ref m8, .ref m9, .ref m10, .ref m11, .ref m12, .ref m13, .ref m14, .ref m15, .int 0, .int 0, .int 0, .int 0, .int 0], kb_a G m5 2 (upd f5 0 1), kb_a G m6 2 (upd f6 0 0), kb_a G m7 2 (upd f7 0 0), kb_a G m8 256 f8, kb_a G m9 256 f9, kb_a G m10 256 f10] H := hP
  have hD : va_D A [kb_o h 4 [.int T, .ref m1, .int 0, .ref m3, .int 0, .ref m5, .ref m6, .ref m7, .ref m8, .ref m9, .ref m10, .ref m11, .ref m12, .ref m13, .ref m14, .ref m15, .int 0, .int 0, .int 0, .int 0, .int 0], kb_a G m5 2 (upd f5 0 1), kb_a G m6 2 (upd f6 0 0), kb_a G m7 2 (upd f7 0 0), kb_a G m8 256 f8, kb_a G m9 256 f9, kb_a G m10 256 f10] := hD
  refine lv_aload_n hx hb d_M_begin_21 rfl (lv_at hl 0 rfl) ?_
  refine va_get (D := G.1) (ci := 4) (v := .ref m8) (C := "TreePressModel") (T := kb_F4) (N := 21) hx hb ht kb_w4 hown hE.1 hP 0 rfl rfl 8 (by decide) (ht _ wd_51ded947) (fun _ h9 => h9) rfl d_M_begin_22 ?_
  refine lv_sipush (v := 128) hx hb d_M_begin_25 (by decide) ?_
  refine lv_iload_n hx hb d_M_begin_28 rfl (lv_at hl 1 rfl) ?_
  refine lv_imul hx hb d_M_begin_29 ?_
  refine kb_top (y := 0) (by decide) ?_
  refine lv_iconst (v := (-1)) hx hb d_M_begin_30 (by decide) ?_
  refine va_iast hx hb hE.1 hP hD hS 4 0 rfl rfl (show ¬ ((0 : Int32) < 0 ∨ 256 ≤ (0 : Int32).toNatClampNeg) by decide) d_M_begin_31 (fun H locs hP hD hS => ?_)
  have hP : va_P G.1 kb_cl [kb_o h 4 [.int T, .ref m1, .int 0, .ref m3, .int 0, .ref m5, .ref m6, .ref m7, .ref m8, .ref m9, .ref m10, .ref m11, .ref m12, .ref m13, .ref m14, .ref m15, .int 0, .int 0, .int 0, .int 0, .int 0], kb_a G m5 2 (upd f5 0 1), kb_a G m6 2 (upd f6 0 0), kb_a G m7 2 (upd f7 0 0), kb_a G m8 256 (upd f8 0 (-1)), kb_a G m9 256 f9, kb_a G m10 256 f10] H := hP
  have hD : va_D A [kb_o h 4 [.int T, .ref m1, .int 0, .ref m3, .int 0, .ref m5, .ref m6, .ref m7, .ref m8, .ref m9, .ref m10, .ref m11, .ref m12, .ref m13, .ref m14, .ref m15, .int 0, .int 0, .int 0, .int 0, .int 0], kb_a G m5 2 (upd f5 0 1), kb_a G m6 2 (upd f6 0 0), kb_a G m7 2 (upd f7 0 0), kb_a G m8 256 (upd f8 0 (-1)), kb_a G m9 256 f9, kb_a G m10 256 f10] := hD
  refine lv_aload_n hx hb d_M_begin_32 rfl (lv_at hl 0 rfl) ?_
  refine va_get (D := G.1) (ci := 4) (v := .ref m9) (C := "TreePressModel") (T := kb_F4) (N := 21) hx hb ht kb_w4 hown hE.1 hP 0 rfl rfl 9 (by decide) (ht _ wd_0465fd3b) (fun _ h9 => h9) rfl d_M_begin_33 ?_
  refine lv_sipush (v := 128) hx hb d_M_begin_36 (by decide) ?_
  refine lv_iload_n hx hb d_M_begin_39 rfl (lv_at hl 1 rfl) ?_
  refine lv_imul hx hb d_M_begin_40 ?_
  refine kb_top (y := 0) (by decide) ?_
  refine lv_iconst (v := 0) hx hb d_M_begin_41 (by decide) ?_
  refine va_iast hx hb hE.1 hP hD hS 5 0 rfl rfl (show ¬ ((0 : Int32) < 0 ∨ 256 ≤ (0 : Int32).toNatClampNeg) by decide) d_M_begin_42 (fun H locs hP hD hS => ?_)
  have hP : va_P G.1 kb_cl [kb_o h 4 [.int T, .ref m1, .int 0, .ref m3, .int 0, .ref m5, .ref m6, .ref m7, .ref m8, .ref m9, .ref m10, .ref m11, .ref m12, .ref m13, .ref m14, .ref m15, .int 0, .int 0, .int 0, .int 0, .int 0], kb_a G m5 2 (upd f5 0 1), kb_a G m6 2 (upd f6 0 0), kb_a G m7 2 (upd f7 0 0), kb_a G m8 256 (upd f8 0 (-1)), kb_a G m9 256 (upd f9 0 0), kb_a G m10 256 f10] H := hP
  have hD : va_D A [kb_o h 4 [.int T, .ref m1, .int 0, .ref m3, .int 0, .ref m5, .ref m6, .ref m7, .ref m8, .ref m9, .ref m10, .ref m11, .ref m12, .ref m13, .ref m14, .ref m15, .int 0, .int 0, .int 0, .int 0, .int 0], kb_a G m5 2 (upd f5 0 1), kb_a G m6 2 (upd f6 0 0), kb_a G m7 2 (upd f7 0 0), kb_a G m8 256 (upd f8 0 (-1)), kb_a G m9 256 (upd f9 0 0), kb_a G m10 256 f10] := hD
  refine lv_aload_n hx hb d_M_begin_43 rfl (lv_at hl 0 rfl) ?_
  refine va_get (D := G.1) (ci := 4) (v := .ref m10) (C := "TreePressModel") (T := kb_F4) (N := 21) hx hb ht kb_w4 hown hE.1 hP 0 rfl rfl 10 (by decide) (ht _ wd_05d4d7b5) (fun _ h9 => h9) rfl d_M_begin_44 ?_
  refine lv_sipush (v := 128) hx hb d_M_begin_47 (by decide) ?_
  refine lv_iload_n hx hb d_M_begin_50 rfl (lv_at hl 1 rfl) ?_
  refine lv_imul hx hb d_M_begin_51 ?_
  refine kb_top (y := 0) (by decide) ?_
  refine lv_iconst (v := 0) hx hb d_M_begin_52 (by decide) ?_
  refine va_iast hx hb hE.1 hP hD hS 6 0 rfl rfl (show ¬ ((0 : Int32) < 0 ∨ 256 ≤ (0 : Int32).toNatClampNeg) by decide) d_M_begin_53 (fun H locs hP hD hS => ?_)
  have hP : va_P G.1 kb_cl [kb_o h 4 [.int T, .ref m1, .int 0, .ref m3, .int 0, .ref m5, .ref m6, .ref m7, .ref m8, .ref m9, .ref m10, .ref m11, .ref m12, .ref m13, .ref m14, .ref m15, .int 0, .int 0, .int 0, .int 0, .int 0], kb_a G m5 2 (upd f5 0 1), kb_a G m6 2 (upd f6 0 0), kb_a G m7 2 (upd f7 0 0), kb_a G m8 256 (upd f8 0 (-1)), kb_a G m9 256 (upd f9 0 0), kb_a G m10 256 (upd f10 0 0)] H := hP
  have hD : va_D A [kb_o h 4 [.int T, .ref m1, .int 0, .ref m3, .int 0, .ref m5, .ref m6, .ref m7, .ref m8, .ref m9, .ref m10, .ref m11, .ref m12, .ref m13, .ref m14, .ref m15, .int 0, .int 0, .int 0, .int 0, .int 0], kb_a G m5 2 (upd f5 0 1), kb_a G m6 2 (upd f6 0 0), kb_a G m7 2 (upd f7 0 0), kb_a G m8 256 (upd f8 0 (-1)), kb_a G m9 256 (upd f9 0 0), kb_a G m10 256 (upd f10 0 0)] := hD
  exact kb_retv (kb_l [], kb_f []) hx hb hr hlocks hE hP hD hS [0, 1, 2, 3, 4, 5, 6] rfl (by decide) rfl trivial (Nat.le_of_ble_eq_true rfl) (Nat.le_of_ble_eq_true rfl) d_M_begin_54

set_option maxHeartbeats 4000000 in
set_option maxRecDepth 100000 in
theorem c_M_init (l : Launch) (G : kb_G) (h : Nat) : kb_cv l G ⟨"TreePressModel", "<init>", "()V"⟩ prog_6_method_1_code 1 2 13 168710 [.ref h] [kb_o h 4 [.int 0, .null, .int 0, .null, .int 0, .null, .null, .null, .null, .null, .null, .null, .null, .null, .null, .null, .int 0, .int 0, .int 0, .int 0, .int 0]] (fun u => True) (fun u => [kb_a G (u.1 0) 65536 (fun _ => 0), kb_a G (u.1 1) 65536 (fun _ => 0), kb_a G (u.1 8) 1024 (fun _ => 0), kb_a G (u.1 9) 1024 (fun _ => 0), kb_a G (u.1 10) 1024 (fun _ => 0), kb_a G (u.1 11) 1024 (fun _ => 0), kb_a G (u.1 12) 32768 (fun _ => 0), kb_o h 4 [.int 0, .ref (u.1 0), .int 0, .ref (u.1 1), .int 0, .ref (u.1 2), .ref (u.1 3), .ref (u.1 4), .ref (u.1 5), .ref (u.1 6), .ref (u.1 7), .ref (u.1 8), .ref (u.1 9), .ref (u.1 10), .ref (u.1 11), .ref (u.1 12), .int 0, .int 0, .int 0, .int 0, .int 0], kb_a G (u.1 2) 2 (upd (fun _ => 0) 0 1), kb_a G (u.1 3) 2 (upd (fun _ => 0) 0 0), kb_a G (u.1 4) 2 (upd (fun _ => 0) 0 0), kb_a G (u.1 5) 256 (upd (fun _ => 0) 0 (-1)), kb_a G (u.1 6) 256 (upd (fun _ => 0) 0 0), kb_a G (u.1 7) 256 (upd (fun _ => 0) 0 0)]) := by
  intro sz
  refine kb_body (QQ := fun A => kb_Qv G A (fun u => True) (fun u => [kb_a G (u.1 0) 65536 (fun _ => 0), kb_a G (u.1 1) 65536 (fun _ => 0), kb_a G (u.1 8) 1024 (fun _ => 0), kb_a G (u.1 9) 1024 (fun _ => 0), kb_a G (u.1 10) 1024 (fun _ => 0), kb_a G (u.1 11) 1024 (fun _ => 0), kb_a G (u.1 12) 32768 (fun _ => 0), kb_o h 4 [.int 0, .ref (u.1 0), .int 0, .ref (u.1 1), .int 0, .ref (u.1 2), .ref (u.1 3), .ref (u.1 4), .ref (u.1 5), .ref (u.1 6), .ref (u.1 7), .ref (u.1 8), .ref (u.1 9), .ref (u.1 10), .ref (u.1 11), .ref (u.1 12), .int 0, .int 0, .int 0, .int 0, .int 0], kb_a G (u.1 2) 2 (upd (fun _ => 0) 0 1), kb_a G (u.1 3) 2 (upd (fun _ => 0) 0 0), kb_a G (u.1 4) 2 (upd (fun _ => 0) 0 0), kb_a G (u.1 5) 256 (upd (fun _ => 0) 0 (-1)), kb_a G (u.1 6) 256 (upd (fun _ => 0) 0 0), kb_a G (u.1 7) 256 (upd (fun _ => 0) 0 0)])) (by decide) (Nat.le_of_ble_eq_true rfl) ?_
  intro p e s m below meth c A B ls hl
  obtain ⟨hx, hb, hr, hml, hlocks, hin, hown, ht, hE, hP, hD, hS⟩ := B
  have hl : lv_has ls 1 [(0, .ref h)] := hl
  have hP0 := hP
  obtain ⟨H, hHe⟩ : ∃ H, H = s.heap := ⟨_, rfl⟩
  rw [← hHe] at hP
  have hS : va_S A s.heap H [] := by rw [hHe]; exact hS
  refine kb_at hHe ?_
  clear hHe
  refine lv_aload_n hx hb d_M_init_0 rfl (lv_at hl 0 rfl) ?_
  refine W.objInit hx hb hown (ht _ wd_72b9071d) (ht _ wd_962a1238) (ht _ wd_b2b9d69d) rfl (by rw [hml]; exact hl.1) rfl d_M_init_1 (Nat.le_of_ble_eq_true rfl) (Nat.le_of_ble_eq_true rfl) ?_
  refine W.eq (g2 := F0 m 4 ls []) rfl ?_
  refine lv_aload_n hx hb d_M_init_4 rfl (lv_at hl 0 rfl) ?_
  refine lv_ldc (v := 65536) hx hb hown (ht _ wd_18266a69) d_M_init_5 ?_
  refine kb_newi (N := 65536) hx hb (ht _ wd_298d195d) hE hP hD hS (by decide) (by decide) (by decide) (Nat.le_of_ble_eq_true rfl) (Nat.le_of_ble_eq_true rfl) d_M_init_7 (fun qn1 H hP hD hS => ?_)
  have hP : va_P G.1 kb_cl [kb_o h 4 [.int 0, .null, .int 0, .null, .int 0, .null, .null, .null, .null, .null, .null, .null, .null, .null, .null, .null, .int 0, .int 0, .int 0, .int 0, .int 0], kb_a G qn1 65536 (fun _ => 0)] H := hP
  have hD : va_D A [kb_o h 4 [.int 0, .null, .int 0, .null, .int 0, .null, .null, .null, .null, .null, .null, .null, .null, .null, .null, .null, .int 0, .int 0, .int 0, .int 0, .int 0], kb_a G qn1 65536 (fun _ => 0)] := hD
  refine va_putF (D := G.1) (ci := 4) (v := .ref qn1) (ty := .array .int) (C := "TreePressModel") (T := kb_F4) (N := 21) hx hb ht kb_w4 kb_y4 kb_p4 kb_n4 hown hE.1 hP hD hS 0 rfl rfl 1 (by decide) (ht _ wd_5836b793) (fun _ h9 => h9) rfl hin rfl (by decide +kernel) rfl rfl (Nat.le_of_ble_eq_true rfl) d_M_init_9 (fun H locs hP hD hS => ?_)
  have hP : va_P G.1 kb_cl [kb_o h 4 [.int 0, .ref qn1, .int 0, .null, .int 0, .null, .null, .null, .null, .null, .null, .null, .null, .null, .null, .null, .int 0, .int 0, .int 0, .int 0, .int 0], kb_a G qn1 65536 (fun _ => 0)] H := hP
  have hD : va_D A [kb_o h 4 [.int 0, .ref qn1, .int 0, .null, .int 0, .null, .null, .null, .null, .null, .null, .null, .null, .null, .null, .null, .int 0, .int 0, .int 0, .int 0, .int 0], kb_a G qn1 65536 (fun _ => 0)] := hD
  refine lv_aload_n hx hb d_M_init_12 rfl (lv_at hl 0 rfl) ?_
  refine lv_ldc (v := 65536) hx hb hown (ht _ wd_18266a69) d_M_init_13 ?_
  refine kb_newi (N := 65536) hx hb (ht _ wd_298d195d) hE hP hD hS (by decide) (by decide) (by decide) (Nat.le_of_ble_eq_true rfl) (Nat.le_of_ble_eq_true rfl) d_M_init_15 (fun qn2 H hP hD hS => ?_)
  have hP : va_P G.1 kb_cl [kb_o h 4 [.int 0, .ref qn1, .int 0, .null, .int 0, .null, .null, .null, .null, .null, .null, .null, .null, .null, .null, .null, .int 0, .int 0, .int 0, .int 0, .int 0], kb_a G qn1 65536 (fun _ => 0), kb_a G qn2 65536 (fun _ => 0)] H := hP
  have hD : va_D A [kb_o h 4 [.int 0, .ref qn1, .int 0, .null, .int 0, .null, .null, .null, .null, .null, .null, .null, .null, .null, .null, .null, .int 0, .int 0, .int 0, .int 0, .int 0], kb_a G qn1 65536 (fun _ => 0), kb_a G qn2 65536 (fun _ => 0)] := hD
  refine va_putF (D := G.1) (ci := 4) (v := .ref qn2) (ty := .array .int) (C := "TreePressModel") (T := kb_F4) (N := 21) hx hb ht kb_w4 kb_y4 kb_p4 kb_n4 hown hE.1 hP hD hS 0 rfl rfl 3 (by decide) (ht _ wd_14e1aa9c) (fun _ h9 => h9) rfl hin rfl (by decide +kernel) rfl rfl (Nat.le_of_ble_eq_true rfl) d_M_init_17 (fun H locs hP hD hS => ?_)
  have hP : va_P G.1 kb_cl [kb_o h 4 [.int 0, .ref qn1, .int 0, .ref qn2, .int 0, .null, .null, .null, .null, .null, .null, .null, .null, .null, .null, .null, .int 0, .int 0, .int 0, .int 0, .int 0], kb_a G qn1 65536 (fun _ => 0), kb_a G qn2 65536 (fun _ => 0)] H := hP
  have hD : va_D A [kb_o h 4 [.int 0, .ref qn1, .int 0, .ref qn2, .int 0, .null, .null, .null, .null, .null, .null, .null, .null, .null, .null, .null, .int 0, .int 0, .int 0, .int 0, .int 0], kb_a G qn1 65536 (fun _ => 0), kb_a G qn2 65536 (fun _ => 0)] := hD
  refine lv_aload_n hx hb d_M_init_20 rfl (lv_at hl 0 rfl) ?_
  refine lv_iconst (v := 2) hx hb d_M_init_21 (by decide) ?_
  refine kb_newi (N := 2) hx hb (ht _ wd_298d195d) hE hP hD hS (by decide) (by decide) (by decide) (Nat.le_of_ble_eq_true rfl) (Nat.le_of_ble_eq_true rfl) d_M_init_22 (fun qn3 H hP hD hS => ?_)
  have hP : va_P G.1 kb_cl [kb_o h 4 [.int 0, .ref qn1, .int 0, .ref qn2, .int 0, .null, .null, .null, .null, .null, .null, .null, .null, .null, .null, .null, .int 0, .int 0, .int 0, .int 0, .int 0], kb_a G qn1 65536 (fun _ => 0), kb_a G qn2 65536 (fun _ => 0), kb_a G qn3 2 (fun _ => 0)] H := hP
  have hD : va_D A [kb_o h 4 [.int 0, .ref qn1, .int 0, .ref qn2, .int 0, .null, .null, .null, .null, .null, .null, .null, .null, .null, .null, .null, .int 0, .int 0, .int 0, .int 0, .int 0], kb_a G qn1 65536 (fun _ => 0), kb_a G qn2 65536 (fun _ => 0), kb_a G qn3 2 (fun _ => 0)] := hD
  refine va_putF (D := G.1) (ci := 4) (v := .ref qn3) (ty := .array .int) (C := "TreePressModel") (T := kb_F4) (N := 21) hx hb ht kb_w4 kb_y4 kb_p4 kb_n4 hown hE.1 hP hD hS 0 rfl rfl 5 (by decide) (ht _ wd_e8505d70) (fun _ h9 => h9) rfl hin rfl (by decide +kernel) rfl rfl (Nat.le_of_ble_eq_true rfl) d_M_init_24 (fun H locs hP hD hS => ?_)
  have hP : va_P G.1 kb_cl [kb_o h 4 [.int 0, .ref qn1, .int 0, .ref qn2, .int 0, .ref qn3, .null, .null, .null, .null, .null, .null, .null, .null, .null, .null, .int 0, .int 0, .int 0, .int 0, .int 0], kb_a G qn1 65536 (fun _ => 0), kb_a G qn2 65536 (fun _ => 0), kb_a G qn3 2 (fun _ => 0)] H := hP
  have hD : va_D A [kb_o h 4 [.int 0, .ref qn1, .int 0, .ref qn2, .int 0, .ref qn3, .null, .null, .null, .null, .null, .null, .null, .null, .null, .null, .int 0, .int 0, .int 0, .int 0, .int 0], kb_a G qn1 65536 (fun _ => 0), kb_a G qn2 65536 (fun _ => 0), kb_a G qn3 2 (fun _ => 0)] := hD
  refine lv_aload_n hx hb d_M_init_27 rfl (lv_at hl 0 rfl) ?_
  refine lv_iconst (v := 2) hx hb d_M_init_28 (by decide) ?_
  refine kb_newi (N := 2) hx hb (ht _ wd_298d195d) hE hP hD hS (by decide) (by decide) (by decide) (Nat.le_of_ble_eq_true rfl) (Nat.le_of_ble_eq_true rfl) d_M_init_29 (fun qn4 H hP hD hS => ?_)
  have hP : va_P G.1 kb_cl [kb_o h 4 [.int 0, .ref qn1, .int 0, .ref qn2, .int 0, .ref qn3, .null, .null, .null, .null, .null, .null, .null, .null, .null, .null, .int 0, .int 0, .int 0, .int 0, .int 0], kb_a G qn1 65536 (fun _ => 0), kb_a G qn2 65536 (fun _ => 0), kb_a G qn3 2 (fun _ => 0), kb_a G qn4 2 (fun _ => 0)] H := hP
  have hD : va_D A [kb_o h 4 [.int 0, .ref qn1, .int 0, .ref qn2, .int 0, .ref qn3, .null, .null, .null, .null, .null, .null, .null, .null, .null, .null, .int 0, .int 0, .int 0, .int 0, .int 0], kb_a G qn1 65536 (fun _ => 0), kb_a G qn2 65536 (fun _ => 0), kb_a G qn3 2 (fun _ => 0), kb_a G qn4 2 (fun _ => 0)] := hD
  refine va_putF (D := G.1) (ci := 4) (v := .ref qn4) (ty := .array .int) (C := "TreePressModel") (T := kb_F4) (N := 21) hx hb ht kb_w4 kb_y4 kb_p4 kb_n4 hown hE.1 hP hD hS 0 rfl rfl 6 (by decide) (ht _ wd_0c18f9c0) (fun _ h9 => h9) rfl hin rfl (by decide +kernel) rfl rfl (Nat.le_of_ble_eq_true rfl) d_M_init_31 (fun H locs hP hD hS => ?_)
  have hP : va_P G.1 kb_cl [kb_o h 4 [.int 0, .ref qn1, .int 0, .ref qn2, .int 0, .ref qn3, .ref qn4, .null, .null, .null, .null, .null, .null, .null, .null, .null, .int 0, .int 0, .int 0, .int 0, .int 0], kb_a G qn1 65536 (fun _ => 0), kb_a G qn2 65536 (fun _ => 0), kb_a G qn3 2 (fun _ => 0), kb_a G qn4 2 (fun _ => 0)] H := hP
  have hD : va_D A [kb_o h 4 [.int 0, .ref qn1, .int 0, .ref qn2, .int 0, .ref qn3, .ref qn4, .null, .null, .null, .null, .null, .null, .null, .null, .null, .int 0, .int 0, .int 0, .int 0, .int 0], kb_a G qn1 65536 (fun _ => 0), kb_a G qn2 65536 (fun _ => 0), kb_a G qn3 2 (fun _ => 0), kb_a G qn4 2 (fun _ => 0)] := hD
  refine lv_aload_n hx hb d_M_init_34 rfl (lv_at hl 0 rfl) ?_
  refine lv_iconst (v := 2) hx hb d_M_init_35 (by decide) ?_
  refine kb_newi (N := 2) hx hb (ht _ wd_298d195d) hE hP hD hS (by decide) (by decide) (by decide) (Nat.le_of_ble_eq_true rfl) (Nat.le_of_ble_eq_true rfl) d_M_init_36 (fun qn5 H hP hD hS => ?_)
  have hP : va_P G.1 kb_cl [kb_o h 4 [.int 0, .ref qn1, .int 0, .ref qn2, .int 0, .ref qn3, .ref qn4, .null, .null, .null, .null, .null, .null, .null, .null, .null, .int 0, .int 0, .int 0, .int 0, .int 0], kb_a G qn1 65536 (fun _ => 0), kb_a G qn2 65536 (fun _ => 0), kb_a G qn3 2 (fun _ => 0), kb_a G qn4 2 (fun _ => 0), kb_a G qn5 2 (fun _ => 0)] H := hP
  have hD : va_D A [kb_o h 4 [.int 0, .ref qn1, .int 0, .ref qn2, .int 0, .ref qn3, .ref qn4, .null, .null, .null, .null, .null, .null, .null, .null, .null, .int 0, .int 0, .int 0, .int 0, .int 0], kb_a G qn1 65536 (fun _ => 0), kb_a G qn2 65536 (fun _ => 0), kb_a G qn3 2 (fun _ => 0), kb_a G qn4 2 (fun _ => 0), kb_a G qn5 2 (fun _ => 0)] := hD
  refine va_putF (D := G.1) (ci := 4) (v := .ref qn5) (ty := .array .int) (C := "TreePressModel") (T := kb_F4) (N := 21) hx hb ht kb_w4 kb_y4 kb_p4 kb_n4 hown hE.1 hP hD hS 0 rfl rfl 7 (by decide) (ht _ wd_9adf105c) (fun _ h9 => h9) rfl hin rfl (by decide +kernel) rfl rfl (Nat.le_of_ble_eq_true rfl) d_M_init_38 (fun H locs hP hD hS => ?_)
  have hP : va_P G.1 kb_cl [kb_o h 4 [.int 0, .ref qn1, .int 0, .ref qn2, .int 0, .ref qn3, .ref qn4, .ref qn5, .null, .null, .null, .null, .null, .null, .null, .null, .int 0, .int 0, .int 0, .int 0, .int 0], kb_a G qn1 65536 (fun _ => 0), kb_a G qn2 65536 (fun _ => 0), kb_a G qn3 2 (fun _ => 0), kb_a G qn4 2 (fun _ => 0), kb_a G qn5 2 (fun _ => 0)] H := hP
  have hD : va_D A [kb_o h 4 [.int 0, .ref qn1, .int 0, .ref qn2, .int 0, .ref qn3, .ref qn4, .ref qn5, .null, .null, .null, .null, .null, .null, .null, .null, .int 0, .int 0, .int 0, .int 0, .int 0], kb_a G qn1 65536 (fun _ => 0), kb_a G qn2 65536 (fun _ => 0), kb_a G qn3 2 (fun _ => 0), kb_a G qn4 2 (fun _ => 0), kb_a G qn5 2 (fun _ => 0)] := hD
  refine lv_aload_n hx hb d_M_init_41 rfl (lv_at hl 0 rfl) ?_
  refine lv_sipush (v := 256) hx hb d_M_init_42 (by decide) ?_
  refine kb_newi (N := 256) hx hb (ht _ wd_298d195d) hE hP hD hS (by decide) (by decide) (by decide) (Nat.le_of_ble_eq_true rfl) (Nat.le_of_ble_eq_true rfl) d_M_init_45 (fun qn6 H hP hD hS => ?_)
  have hP : va_P G.1 kb_cl [kb_o h 4 [.int 0, .ref qn1, .int 0, .ref qn2, .int 0, .ref qn3, .ref qn4, .ref qn5, .null, .null, .null, .null, .null, .null, .null, .null, .int 0, .int 0, .int 0, .int 0, .int 0], kb_a G qn1 65536 (fun _ => 0), kb_a G qn2 65536 (fun _ => 0), kb_a G qn3 2 (fun _ => 0), kb_a G qn4 2 (fun _ => 0), kb_a G qn5 2 (fun _ => 0), kb_a G qn6 256 (fun _ => 0)] H := hP
  have hD : va_D A [kb_o h 4 [.int 0, .ref qn1, .int 0, .ref qn2, .int 0, .ref qn3, .ref qn4, .ref qn5, .null, .null, .null, .null, .null, .null, .null, .null, .int 0, .int 0, .int 0, .int 0, .int 0], kb_a G qn1 65536 (fun _ => 0), kb_a G qn2 65536 (fun _ => 0), kb_a G qn3 2 (fun _ => 0), kb_a G qn4 2 (fun _ => 0), kb_a G qn5 2 (fun _ => 0), kb_a G qn6 256 (fun _ => 0)] := hD
  refine va_putF (D := G.1) (ci := 4) (v := .ref qn6) (ty := .array .int) (C := "TreePressModel") (T := kb_F4) (N := 21) hx hb ht kb_w4 kb_y4 kb_p4 kb_n4 hown hE.1 hP hD hS 0 rfl rfl 8 (by decide) (ht _ wd_51ded947) (fun _ h9 => h9) rfl hin rfl (by decide +kernel) rfl rfl (Nat.le_of_ble_eq_true rfl) d_M_init_47 (fun H locs hP hD hS => ?_)
  have hP : va_P G.1 kb_cl [kb_o h 4 [.int 0, .ref qn1, .int 0, .ref qn2, .int 0, .ref qn3, .ref qn4, .ref qn5, .ref qn6, .null, .null, .null, .null, .null, .null, .null, .int 0, .int 0, .int 0, .int 0, .int 0], kb_a G qn1 65536 (fun _ => 0), kb_a G qn2 65536 (fun _ => 0), kb_a G qn3 2 (fun _ => 0), kb_a G qn4 2 (fun _ => 0), kb_a G qn5 2 (fun _ => 0), kb_a G qn6 256 (fun _ => 0)] H := hP
  have hD : va_D A [kb_o h 4 [.int 0, .ref qn1, .int 0, .ref qn2, .int 0, .ref qn3, .ref qn4, .ref qn5, .ref qn6, .null, .null, .null, .null, .null, .null, .null, .int 0, .int 0, .int 0, .int 0, .int 0], kb_a G qn1 65536 (fun _ => 0), kb_a G qn2 65536 (fun _ => 0), kb_a G qn3 2 (fun _ => 0), kb_a G qn4 2 (fun _ => 0), kb_a G qn5 2 (fun _ => 0), kb_a G qn6 256 (fun _ => 0)] := hD
  refine lv_aload_n hx hb d_M_init_50 rfl (lv_at hl 0 rfl) ?_
  refine lv_sipush (v := 256) hx hb d_M_init_51 (by decide) ?_
  refine kb_newi (N := 256) hx hb (ht _ wd_298d195d) hE hP hD hS (by decide) (by decide) (by decide) (Nat.le_of_ble_eq_true rfl) (Nat.le_of_ble_eq_true rfl) d_M_init_54 (fun qn7 H hP hD hS => ?_)
  have hP : va_P G.1 kb_cl [kb_o h 4 [.int 0, .ref qn1, .int 0, .ref qn2, .int 0, .ref qn3, .ref qn4, .ref qn5, .ref qn6, .null, .null, .null, .null, .null, .null, .null, .int 0, .int 0, .int 0, .int 0, .int 0], kb_a G qn1 65536 (fun _ => 0), kb_a G qn2 65536 (fun _ => 0), kb_a G qn3 2 (fun _ => 0), kb_a G qn4 2 (fun _ => 0), kb_a G qn5 2 (fun _ => 0), kb_a G qn6 256 (fun _ => 0), kb_a G qn7 256 (fun _ => 0)] H := hP
  have hD : va_D A [kb_o h 4 [.int 0, .ref qn1, .int 0, .ref qn2, .int 0, .ref qn3, .ref qn4, .ref qn5, .ref qn6, .null, .null, .null, .null, .null, .null, .null, .int 0, .int 0, .int 0, .int 0, .int 0], kb_a G qn1 65536 (fun _ => 0), kb_a G qn2 65536 (fun _ => 0), kb_a G qn3 2 (fun _ => 0), kb_a G qn4 2 (fun _ => 0), kb_a G qn5 2 (fun _ => 0), kb_a G qn6 256 (fun _ => 0), kb_a G qn7 256 (fun _ => 0)] := hD
  refine va_putF (D := G.1) (ci := 4) (v := .ref qn7) (ty := .array .int) (C := "TreePressModel") (T := kb_F4) (N := 21) hx hb ht kb_w4 kb_y4 kb_p4 kb_n4 hown hE.1 hP hD hS 0 rfl rfl 9 (by decide) (ht _ wd_0465fd3b) (fun _ h9 => h9) rfl hin rfl (by decide +kernel) rfl rfl (Nat.le_of_ble_eq_true rfl) d_M_init_56 (fun H locs hP hD hS => ?_)
  have hP : va_P G.1 kb_cl [kb_o h 4 [.int 0, .ref qn1, .int 0, .ref qn2, .int 0, .ref qn3, .ref qn4, .ref qn5, .ref qn6, .ref qn7, .null, .null, .null, .null, .null, .null, .int 0, .int 0, .int 0, .int 0, .int 0], kb_a G qn1 65536 (fun _ => 0), kb_a G qn2 65536 (fun _ => 0), kb_a G qn3 2 (fun _ => 0), kb_a G qn4 2 (fun _ => 0), kb_a G qn5 2 (fun _ => 0), kb_a G qn6 256 (fun _ => 0), kb_a G qn7 256 (fun _ => 0)] H := hP
  have hD : va_D A [kb_o h 4 [.int 0, .ref qn1, .int 0, .ref qn2, .int 0, .ref qn3, .ref qn4, .ref qn5, .ref qn6, .ref qn7, .null, .null, .null, .null, .null, .null, .int 0, .int 0, .int 0, .int 0, .int 0], kb_a G qn1 65536 (fun _ => 0), kb_a G qn2 65536 (fun _ => 0), kb_a G qn3 2 (fun _ => 0), kb_a G qn4 2 (fun _ => 0), kb_a G qn5 2 (fun _ => 0), kb_a G qn6 256 (fun _ => 0), kb_a G qn7 256 (fun _ => 0)] := hD
  refine lv_aload_n hx hb d_M_init_59 rfl (lv_at hl 0 rfl) ?_
  refine lv_sipush (v := 256) hx hb d_M_init_60 (by decide) ?_
  refine kb_newi (N := 256) hx hb (ht _ wd_298d195d) hE hP hD hS (by decide) (by decide) (by decide) (Nat.le_of_ble_eq_true rfl) (Nat.le_of_ble_eq_true rfl) d_M_init_63 (fun qn8 H hP hD hS => ?_)
  have hP : va_P G.1 kb_cl [kb_o h 4 [.int 0, .ref qn1, .int 0, .ref qn2, .int 0, .ref qn3, .ref qn4, .ref qn5, .ref qn6, .ref qn7, .null, .null, .null, .null, .null, .null, .int 0, .int 0, .int 0, .int 0, .int 0], kb_a G qn1 65536 (fun _ => 0), kb_a G qn2 65536 (fun _ => 0), kb_a G qn3 2 (fun _ => 0), kb_a G qn4 2 (fun _ => 0), kb_a G qn5 2 (fun _ => 0), kb_a G qn6 256 (fun _ => 0), kb_a G qn7 256 (fun _ => 0), kb_a G qn8 256 (fun _ => 0)] H := hP
  have hD : va_D A [kb_o h 4 [.int 0, .ref qn1, .int 0, .ref qn2, .int 0, .ref qn3, .ref qn4, .ref qn5, .ref qn6, .ref qn7, .null, .null, .null, .null, .null, .null, .int 0, .int 0, .int 0, .int 0, .int 0], kb_a G qn1 65536 (fun _ => 0), kb_a G qn2 65536 (fun _ => 0), kb_a G qn3 2 (fun _ => 0), kb_a G qn4 2 (fun _ => 0), kb_a G qn5 2 (fun _ => 0), kb_a G qn6 256 (fun _ => 0), kb_a G qn7 256 (fun _ => 0), kb_a G qn8 256 (fun _ => 0)] := hD
  refine va_putF (D := G.1) (ci := 4) (v := .ref qn8) (ty := .array .int) (C := "TreePressModel") (T := kb_F4) (N := 21) hx hb ht kb_w4 kb_y4 kb_p4 kb_n4 hown hE.1 hP hD hS 0 rfl rfl 10 (by decide) (ht _ wd_05d4d7b5) (fun _ h9 => h9) rfl hin rfl (by decide +kernel) rfl rfl (Nat.le_of_ble_eq_true rfl) d_M_init_65 (fun H locs hP hD hS => ?_)
  have hP : va_P G.1 kb_cl [kb_o h 4 [.int 0, .ref qn1, .int 0, .ref qn2, .int 0, .ref qn3, .ref qn4, .ref qn5, .ref qn6, .ref qn7, .ref qn8, .null, .null, .null, .null, .null, .int 0, .int 0, .int 0, .int 0, .int 0], kb_a G qn1 65536 (fun _ => 0), kb_a G qn2 65536 (fun _ => 0), kb_a G qn3 2 (fun _ => 0), kb_a G qn4 2 (fun _ => 0), kb_a G qn5 2 (fun _ => 0), kb_a G qn6 256 (fun _ => 0), kb_a G qn7 256 (fun _ => 0), kb_a G qn8 256 (fun _ => 0)] H := hP
  have hD : va_D A [kb_o h 4 [.int 0, .ref qn1, .int 0, .ref qn2, .int 0, .ref qn3, .ref qn4, .ref qn5, .ref qn6, .ref qn7, .ref qn8, .null, .null, .null, .null, .null, .int 0, .int 0, .int 0, .int 0, .int 0], kb_a G qn1 65536 (fun _ => 0), kb_a G qn2 65536 (fun _ => 0), kb_a G qn3 2 (fun _ => 0), kb_a G qn4 2 (fun _ => 0), kb_a G qn5 2 (fun _ => 0), kb_a G qn6 256 (fun _ => 0), kb_a G qn7 256 (fun _ => 0), kb_a G qn8 256 (fun _ => 0)] := hD
  refine lv_aload_n hx hb d_M_init_68 rfl (lv_at hl 0 rfl) ?_
  refine lv_sipush (v := 1024) hx hb d_M_init_69 (by decide) ?_
  refine kb_newi (N := 1024) hx hb (ht _ wd_298d195d) hE hP hD hS (by decide) (by decide) (by decide) (Nat.le_of_ble_eq_true rfl) (Nat.le_of_ble_eq_true rfl) d_M_init_72 (fun qn9 H hP hD hS => ?_)
  have hP : va_P G.1 kb_cl [kb_o h 4 [.int 0, .ref qn1, .int 0, .ref qn2, .int 0, .ref qn3, .ref qn4, .ref qn5, .ref qn6, .ref qn7, .ref qn8, .null, .null, .null, .null, .null, .int 0, .int 0, .int 0, .int 0, .int 0], kb_a G qn1 65536 (fun _ => 0), kb_a G qn2 65536 (fun _ => 0), kb_a G qn3 2 (fun _ => 0), kb_a G qn4 2 (fun _ => 0), kb_a G qn5 2 (fun _ => 0), kb_a G qn6 256 (fun _ => 0), kb_a G qn7 256 (fun _ => 0), kb_a G qn8 256 (fun _ => 0), kb_a G qn9 1024 (fun _ => 0)] H := hP
  have hD : va_D A [kb_o h 4 [.int 0, .ref qn1, .int 0, .ref qn2, .int 0, .ref qn3, .ref qn4, .ref qn5, .ref qn6, .ref qn7, .ref qn8, .null, .null, .null, .null, .null, .int 0, .int 0, .int 0, .int 0, .int 0], kb_a G qn1 65536 (fun _ => 0), kb_a G qn2 65536 (fun _ => 0), kb_a G qn3 2 (fun _ => 0), kb_a G qn4 2 (fun _ => 0), kb_a G qn5 2 (fun _ => 0), kb_a G qn6 256 (fun _ => 0), kb_a G qn7 256 (fun _ => 0), kb_a G qn8 256 (fun _ => 0), kb_a G qn9 1024 (fun _ => 0)] := hD
  refine va_putF (D := G.1) (ci := 4) (v := .ref qn9) (ty := .array .int) (C := "TreePressModel") (T := kb_F4) (N := 21) hx hb ht kb_w4 kb_y4 kb_p4 kb_n4 hown hE.1 hP hD hS 0 rfl rfl 11 (by decide) (ht _ wd_7c9b9137) (fun _ h9 => h9) rfl hin rfl (by decide +kernel) rfl rfl (Nat.le_of_ble_eq_true rfl) d_M_init_74 (fun H locs hP hD hS => ?_)
  have hP : va_P G.1 kb_cl [kb_o h 4 [.int 0, .ref qn1, .int 0, .ref qn2, .int 0, .ref qn3, .ref qn4, .ref qn5, .ref qn6, .ref qn7, .ref qn8, .ref qn9, .null, .null, .null, .null, .int 0, .int 0, .int 0, .int 0, .int 0], kb_a G qn1 65536 (fun _ => 0), kb_a G qn2 65536 (fun _ => 0), kb_a G qn3 2 (fun _ => 0), kb_a G qn4 2 (fun _ => 0), kb_a G qn5 2 (fun _ => 0), kb_a G qn6 256 (fun _ => 0), kb_a G qn7 256 (fun _ => 0), kb_a G qn8 256 (fun _ => 0), kb_a G qn9 1024 (fun _ => 0)] H := hP
  have hD : va_D A [kb_o h 4 [.int 0, .ref qn1, .int 0, .ref qn2, .int 0, .ref qn3, .ref qn4, .ref qn5, .ref qn6, .ref qn7, .ref qn8, .ref qn9, .null, .null, .null, .null, .int 0, .int 0, .int 0, .int 0, .int 0], kb_a G qn1 65536 (fun _ => 0), kb_a G qn2 65536 (fun _ => 0), kb_a G qn3 2 (fun _ => 0), kb_a G qn4 2 (fun _ => 0), kb_a G qn5 2 (fun _ => 0), kb_a G qn6 256 (fun _ => 0), kb_a G qn7 256 (fun _ => 0), kb_a G qn8 256 (fun _ => 0), kb_a G qn9 1024 (fun _ => 0)] := hD
  refine lv_aload_n hx hb d_M_init_77 rfl (lv_at hl 0 rfl) ?_
  refine lv_sipush (v := 1024) hx hb d_M_init_78 (by decide) ?_
  refine kb_newi (N := 1024) hx hb (ht _ wd_298d195d) hE hP hD hS (by decide) (by decide) (by decide) (Nat.le_of_ble_eq_true rfl) (Nat.le_of_ble_eq_true rfl) d_M_init_81 (fun qn10 H hP hD hS => ?_)
  have hP : va_P G.1 kb_cl [kb_o h 4 [.int 0, .ref qn1, .int 0, .ref qn2, .int 0, .ref qn3, .ref qn4, .ref qn5, .ref qn6, .ref qn7, .ref qn8, .ref qn9, .null, .null, .null, .null, .int 0, .int 0, .int 0, .int 0, .int 0], kb_a G qn1 65536 (fun _ => 0), kb_a G qn2 65536 (fun _ => 0), kb_a G qn3 2 (fun _ => 0), kb_a G qn4 2 (fun _ => 0), kb_a G qn5 2 (fun _ => 0), kb_a G qn6 256 (fun _ => 0), kb_a G qn7 256 (fun _ => 0), kb_a G qn8 256 (fun _ => 0), kb_a G qn9 1024 (fun _ => 0), kb_a G qn10 1024 (fun _ => 0)] H := hP
  have hD : va_D A [kb_o h 4 [.int 0, .ref qn1, .int 0, .ref qn2, .int 0, .ref qn3, .ref qn4, .ref qn5, .ref qn6, .ref qn7, .ref qn8, .ref qn9, .null, .null, .null, .null, .int 0, .int 0, .int 0, .int 0, .int 0], kb_a G qn1 65536 (fun _ => 0), kb_a G qn2 65536 (fun _ => 0), kb_a G qn3 2 (fun _ => 0), kb_a G qn4 2 (fun _ => 0), kb_a G qn5 2 (fun _ => 0), kb_a G qn6 256 (fun _ => 0), kb_a G qn7 256 (fun _ => 0), kb_a G qn8 256 (fun _ => 0), kb_a G qn9 1024 (fun _ => 0), kb_a G qn10 1024 (fun _ => 0)] := hD
  refine va_putF (D := G.1) (ci := 4) (v := .ref qn10) (ty := .array .int) (C := "TreePressModel") (T := kb_F4) (N := 21) hx hb ht kb_w4 kb_y4 kb_p4 kb_n4 hown hE.1 hP hD hS 0 rfl rfl 12 (by decide) (ht _ wd_4102d042) (fun _ h9 => h9) rfl hin rfl (by decide +kernel) rfl rfl (Nat.le_of_ble_eq_true rfl) d_M_init_83 (fun H locs hP hD hS => ?_)
  have hP : va_P G.1 kb_cl [kb_o h 4 [.int 0, .ref qn1, .int 0, .ref qn2, .int 0, .ref qn3, .ref qn4, .ref qn5, .ref qn6, .ref qn7, .ref qn8, .ref qn9, .ref qn10, .null, .null, .null, .int 0, .int 0, .int 0, .int 0, .int 0], kb_a G qn1 65536 (fun _ => 0), kb_a G qn2 65536 (fun _ => 0), kb_a G qn3 2 (fun _ => 0), kb_a G qn4 2 (fun _ => 0), kb_a G qn5 2 (fun _ => 0), kb_a G qn6 256 (fun _ => 0), kb_a G qn7 256 (fun _ => 0), kb_a G qn8 256 (fun _ => 0), kb_a G qn9 1024 (fun _ => 0), kb_a G qn10 1024 (fun _ => 0)] H := hP
  have hD : va_D A [kb_o h 4 [.int 0, .ref qn1, .int 0, .ref qn2, .int 0, .ref qn3, .ref qn4, .ref qn5, .ref qn6, .ref qn7, .ref qn8, .ref qn9, .ref qn10, .null, .null, .null, .int 0, .int 0, .int 0, .int 0, .int 0], kb_a G qn1 65536 (fun _ => 0), kb_a G qn2 65536 (fun _ => 0), kb_a G qn3 2 (fun _ => 0), kb_a G qn4 2 (fun _ => 0), kb_a G qn5 2 (fun _ => 0), kb_a G qn6 256 (fun _ => 0), kb_a G qn7 256 (fun _ => 0), kb_a G qn8 256 (fun _ => 0), kb_a G qn9 1024 (fun _ => 0), kb_a G qn10 1024 (fun _ => 0)] := hD
  refine lv_aload_n hx hb d_M_init_86 rfl (lv_at hl 0 rfl) ?_
  refine lv_sipush (v := 1024) hx hb d_M_init_87 (by decide) ?_
  refine kb_newi (N := 1024) hx hb (ht _ wd_298d195d) hE hP hD hS (by decide) (by decide) (by decide) (Nat.le_of_ble_eq_true rfl) (Nat.le_of_ble_eq_true rfl) d_M_init_90 (fun qn11 H hP hD hS => ?_)
  have hP : va_P G.1 kb_cl [kb_o h 4 [.int 0, .ref qn1, .int 0, .ref qn2, .int 0, .ref qn3, .ref qn4, .ref qn5, .ref qn6, .ref qn7, .ref qn8, .ref qn9, .ref qn10, .null, .null, .null, .int 0, .int 0, .int 0, .int 0, .int 0], kb_a G qn1 65536 (fun _ => 0), kb_a G qn2 65536 (fun _ => 0), kb_a G qn3 2 (fun _ => 0), kb_a G qn4 2 (fun _ => 0), kb_a G qn5 2 (fun _ => 0), kb_a G qn6 256 (fun _ => 0), kb_a G qn7 256 (fun _ => 0), kb_a G qn8 256 (fun _ => 0), kb_a G qn9 1024 (fun _ => 0), kb_a G qn10 1024 (fun _ => 0), kb_a G qn11 1024 (fun _ => 0)] H := hP
  have hD : va_D A [kb_o h 4 [.int 0, .ref qn1, .int 0, .ref qn2, .int 0, .ref qn3, .ref qn4, .ref qn5, .ref qn6, .ref qn7, .ref qn8, .ref qn9, .ref qn10, .null, .null, .null, .int 0, .int 0, .int 0, .int 0, .int 0], kb_a G qn1 65536 (fun _ => 0), kb_a G qn2 65536 (fun _ => 0), kb_a G qn3 2 (fun _ => 0), kb_a G qn4 2 (fun _ => 0), kb_a G qn5 2 (fun _ => 0), kb_a G qn6 256 (fun _ => 0), kb_a G qn7 256 (fun _ => 0), kb_a G qn8 256 (fun _ => 0), kb_a G qn9 1024 (fun _ => 0), kb_a G qn10 1024 (fun _ => 0), kb_a G qn11 1024 (fun _ => 0)] := hD
  refine va_putF (D := G.1) (ci := 4) (v := .ref qn11) (ty := .array .int) (C := "TreePressModel") (T := kb_F4) (N := 21) hx hb ht kb_w4 kb_y4 kb_p4 kb_n4 hown hE.1 hP hD hS 0 rfl rfl 13 (by decide) (ht _ wd_43d1b317) (fun _ h9 => h9) rfl hin rfl (by decide +kernel) rfl rfl (Nat.le_of_ble_eq_true rfl) d_M_init_92 (fun H locs hP hD hS => ?_)
  have hP : va_P G.1 kb_cl [kb_o h 4 [.int 0, .ref qn1, .int 0, .ref qn2, .int 0, .ref qn3, .ref qn4, .ref qn5, .ref qn6, .ref qn7, .ref qn8, .ref qn9, .ref qn10, .ref qn11, .null, .null, .int 0, .int 0, .int 0, .int 0, .int 0], kb_a G qn1 65536 (fun _ => 0), kb_a G qn2 65536 (fun _ => 0), kb_a G qn3 2 (fun _ => 0), kb_a G qn4 2 (fun _ => 0), kb_a G qn5 2 (fun _ => 0), kb_a G qn6 256 (fun _ => 0), kb_a G qn7 256 (fun _ => 0), kb_a G qn8 256 (fun _ => 0), kb_a G qn9 1024 (fun _ => 0), kb_a G qn10 1024 (fun _ => 0), kb_a G qn11 1024 (fun _ => 0)] H := hP
  have hD : va_D A [kb_o h 4 [.int 0, .ref qn1, .int 0, .ref qn2, .int 0, .ref qn3, .ref qn4, .ref qn5, .ref qn6, .ref qn7, .ref qn8, .ref qn9, .ref qn10, .ref qn11, .null, .null, .int 0, .int 0, .int 0, .int 0, .int 0], kb_a G qn1 65536 (fun _ => 0), kb_a G qn2 65536 (fun _ => 0), kb_a G qn3 2 (fun _ => 0), kb_a G qn4 2 (fun _ => 0), kb_a G qn5 2 (fun _ => 0), kb_a G qn6 256 (fun _ => 0), kb_a G qn7 256 (fun _ => 0), kb_a G qn8 256 (fun _ => 0), kb_a G qn9 1024 (fun _ => 0), kb_a G qn10 1024 (fun _ => 0), kb_a G qn11 1024 (fun _ => 0)] := hD
  refine lv_aload_n hx hb d_M_init_95 rfl (lv_at hl 0 rfl) ?_
  refine lv_sipush (v := 1024) hx hb d_M_init_96 (by decide) ?_
  refine kb_newi (N := 1024) hx hb (ht _ wd_298d195d) hE hP hD hS (by decide) (by decide) (by decide) (Nat.le_of_ble_eq_true rfl) (Nat.le_of_ble_eq_true rfl) d_M_init_99 (fun qn12 H hP hD hS => ?_)
  have hP : va_P G.1 kb_cl [kb_o h 4 [.int 0, .ref qn1, .int 0, .ref qn2, .int 0, .ref qn3, .ref qn4, .ref qn5, .ref qn6, .ref qn7, .ref qn8, .ref qn9, .ref qn10, .ref qn11, .null, .null, .int 0, .int 0, .int 0, .int 0, .int 0], kb_a G qn1 65536 (fun _ => 0), kb_a G qn2 65536 (fun _ => 0), kb_a G qn3 2 (fun _ => 0), kb_a G qn4 2 (fun _ => 0), kb_a G qn5 2 (fun _ => 0), kb_a G qn6 256 (fun _ => 0), kb_a G qn7 256 (fun _ => 0), kb_a G qn8 256 (fun _ => 0), kb_a G qn9 1024 (fun _ => 0), kb_a G qn10 1024 (fun _ => 0), kb_a G qn11 1024 (fun _ => 0), kb_a G qn12 1024 (fun _ => 0)] H := hP
  have hD : va_D A [kb_o h 4 [.int 0, .ref qn1, .int 0, .ref qn2, .int 0, .ref qn3, .ref qn4, .ref qn5, .ref qn6, .ref qn7, .ref qn8, .ref qn9, .ref qn10, .ref qn11, .null, .null, .int 0, .int 0, .int 0, .int 0, .int 0], kb_a G qn1 65536 (fun _ => 0), kb_a G qn2 65536 (fun _ => 0), kb_a G qn3 2 (fun _ => 0), kb_a G qn4 2 (fun _ => 0), kb_a G qn5 2 (fun _ => 0), kb_a G qn6 256 (fun _ => 0), kb_a G qn7 256 (fun _ => 0), kb_a G qn8 256 (fun _ => 0), kb_a G qn9 1024 (fun _ => 0), kb_a G qn10 1024 (fun _ => 0), kb_a G qn11 1024 (fun _ => 0), kb_a G qn12 1024 (fun _ => 0)] := hD
  refine va_putF (D := G.1) (ci := 4) (v := .ref qn12) (ty := .array .int) (C := "TreePressModel") (T := kb_F4) (N := 21) hx hb ht kb_w4 kb_y4 kb_p4 kb_n4 hown hE.1 hP hD hS 0 rfl rfl 14 (by decide) (ht _ wd_cc281425) (fun _ h9 => h9) rfl hin rfl (by decide +kernel) rfl rfl (Nat.le_of_ble_eq_true rfl) d_M_init_101 (fun H locs hP hD hS => ?_)
  have hP : va_P G.1 kb_cl [kb_o h 4 [.int 0, .ref qn1, .int 0, .ref qn2, .int 0, .ref qn3, .ref qn4, .ref qn5, .ref qn6, .ref qn7, .ref qn8, .ref qn9, .ref qn10, .ref qn11, .ref qn12, .null, .int 0, .int 0, .int 0, .int 0, .int 0], kb_a G qn1 65536 (fun _ => 0), kb_a G qn2 65536 (fun _ => 0), kb_a G qn3 2 (fun _ => 0), kb_a G qn4 2 (fun _ => 0), kb_a G qn5 2 (fun _ => 0), kb_a G qn6 256 (fun _ => 0), kb_a G qn7 256 (fun _ => 0), kb_a G qn8 256 (fun _ => 0), kb_a G qn9 1024 (fun _ => 0), kb_a G qn10 1024 (fun _ => 0), kb_a G qn11 1024 (fun _ => 0), kb_a G qn12 1024 (fun _ => 0)] H := hP
  have hD : va_D A [kb_o h 4 [.int 0, .ref qn1, .int 0, .ref qn2, .int 0, .ref qn3, .ref qn4, .ref qn5, .ref qn6, .ref qn7, .ref qn8, .ref qn9, .ref qn10, .ref qn11, .ref qn12, .null, .int 0, .int 0, .int 0, .int 0, .int 0], kb_a G qn1 65536 (fun _ => 0), kb_a G qn2 65536 (fun _ => 0), kb_a G qn3 2 (fun _ => 0), kb_a G qn4 2 (fun _ => 0), kb_a G qn5 2 (fun _ => 0), kb_a G qn6 256 (fun _ => 0), kb_a G qn7 256 (fun _ => 0), kb_a G qn8 256 (fun _ => 0), kb_a G qn9 1024 (fun _ => 0), kb_a G qn10 1024 (fun _ => 0), kb_a G qn11 1024 (fun _ => 0), kb_a G qn12 1024 (fun _ => 0)] := hD
  refine lv_aload_n hx hb d_M_init_104 rfl (lv_at hl 0 rfl) ?_
  refine lv_ldc (v := 32768) hx hb hown (ht _ wd_4e93bcb9) d_M_init_105 ?_
  refine kb_newi (N := 32768) hx hb (ht _ wd_298d195d) hE hP hD hS (by decide) (by decide) (by decide) (Nat.le_of_ble_eq_true rfl) (Nat.le_of_ble_eq_true rfl) d_M_init_107 (fun qn13 H hP hD hS => ?_)
  have hP : va_P G.1 kb_cl [kb_o h 4 [.int 0, .ref qn1, .int 0, .ref qn2, .int 0, .ref qn3, .ref qn4, .ref qn5, .ref qn6, .ref qn7, .ref qn8, .ref qn9, .ref qn10, .ref qn11, .ref qn12, .null, .int 0, .int 0, .int 0, .int 0, .int 0], kb_a G qn1 65536 (fun _ => 0), kb_a G qn2 65536 (fun _ => 0), kb_a G qn3 2 (fun _ => 0), kb_a G qn4 2 (fun _ => 0), kb_a G qn5 2 (fun _ => 0), kb_a G qn6 256 (fun _ => 0), kb_a G qn7 256 (fun _ => 0), kb_a G qn8 256 (fun _ => 0), kb_a G qn9 1024 (fun _ => 0), kb_a G qn10 1024 (fun _ => 0), kb_a G qn11 1024 (fun _ => 0), kb_a G qn12 1024 (fun _ => 0), kb_a G qn13 32768 (fun _ => 0)] H := hP
  have hD : va_D A [kb_o h 4 [.int 0, .ref qn1, .int 0, .ref qn2, .int 0, .ref qn3, .ref qn4, .ref qn5, .ref qn6, .ref qn7, .ref qn8, .ref qn9, .ref qn10, .ref qn11, .ref qn12, .null, .int 0, .int 0, .int 0, .int 0, .int 0], kb_a G qn1 65536 (fun _ => 0), kb_a G qn2 65536 (fun _ => 0), kb_a G qn3 2 (fun _ => 0), kb_a G qn4 2 (fun _ => 0), kb_a G qn5 2 (fun _ => 0), kb_a G qn6 256 (fun _ => 0), kb_a G qn7 256 (fun _ => 0), kb_a G qn8 256 (fun _ => 0), kb_a G qn9 1024 (fun _ => 0), kb_a G qn10 1024 (fun _ => 0), kb_a G qn11 1024 (fun _ => 0), kb_a G qn12 1024 (fun _ => 0), kb_a G qn13 32768 (fun _ => 0)] := hD
  refine va_putF (D := G.1) (ci := 4) (v := .ref qn13) (ty := .array .int) (C := "TreePressModel") (T := kb_F4) (N := 21) hx hb ht kb_w4 kb_y4 kb_p4 kb_n4 hown hE.1 hP hD hS 0 rfl rfl 15 (by decide) (ht _ wd_e8a5586a) (fun _ h9 => h9) rfl hin rfl (by decide +kernel) rfl rfl (Nat.le_of_ble_eq_true rfl) d_M_init_109 (fun H locs hP hD hS => ?_)
  have hP : va_P G.1 kb_cl [kb_o h 4 [.int 0, .ref qn1, .int 0, .ref qn2, .int 0, .ref qn3, .ref qn4, .ref qn5, .ref qn6, .ref qn7, .ref qn8, .ref qn9, .ref qn10, .ref qn11, .ref qn12, .ref qn13, .int 0, .int 0, .int 0, .int 0, .int 0], kb_a G qn1 65536 (fun _ => 0), kb_a G qn2 65536 (fun _ => 0), kb_a G qn3 2 (fun _ => 0), kb_a G qn4 2 (fun _ => 0), kb_a G qn5 2 (fun _ => 0), kb_a G qn6 256 (fun _ => 0), kb_a G qn7 256 (fun _ => 0), kb_a G qn8 256 (fun _ => 0), kb_a G qn9 1024 (fun _ => 0), kb_a G qn10 1024 (fun _ => 0), kb_a G qn11 1024 (fun _ => 0), kb_a G qn12 1024 (fun _ => 0), kb_a G qn13 32768 (fun _ => 0)] H := hP
  have hD : va_D A [kb_o h 4 [.int 0, .ref qn1, .int 0, .ref qn2, .int 0, .ref qn3, .ref qn4, .ref qn5, .ref qn6, .ref qn7, .ref qn8, .ref qn9, .ref qn10, .ref qn11, .ref qn12, .ref qn13, .int 0, .int 0, .int 0, .int 0, .int 0], kb_a G qn1 65536 (fun _ => 0), kb_a G qn2 65536 (fun _ => 0), kb_a G qn3 2 (fun _ => 0), kb_a G qn4 2 (fun _ => 0), kb_a G qn5 2 (fun _ => 0), kb_a G qn6 256 (fun _ => 0), kb_a G qn7 256 (fun _ => 0), kb_a G qn8 256 (fun _ => 0), kb_a G qn9 1024 (fun _ => 0), kb_a G qn10 1024 (fun _ => 0), kb_a G qn11 1024 (fun _ => 0), kb_a G qn12 1024 (fun _ => 0), kb_a G qn13 32768 (fun _ => 0)] := hD
  refine lv_aload_n hx hb d_M_init_112 rfl (lv_at hl 0 rfl) ?_
  refine lv_iconst (v := 0) hx hb d_M_init_113 (by decide) ?_
  refine kb_v (wc := [kb_o h 4 [.int 0, .ref qn1, .int 0, .ref qn2, .int 0, .ref qn3, .ref qn4, .ref qn5, .ref qn6, .ref qn7, .ref qn8, .ref qn9, .ref qn10, .ref qn11, .ref qn12, .ref qn13, .int 0, .int 0, .int 0, .int 0, .int 0], kb_a G qn3 2 (fun _ => 0), kb_a G qn4 2 (fun _ => 0), kb_a G qn5 2 (fun _ => 0), kb_a G qn6 256 (fun _ => 0), kb_a G qn7 256 (fun _ => 0), kb_a G qn8 256 (fun _ => 0)]) (wr := [kb_a G qn1 65536 (fun _ => 0), kb_a G qn2 65536 (fun _ => 0), kb_a G qn9 1024 (fun _ => 0), kb_a G qn10 1024 (fun _ => 0), kb_a G qn11 1024 (fun _ => 0), kb_a G qn12 1024 (fun _ => 0), kb_a G qn13 32768 (fun _ => 0)]) hE hP hD hS [0, 3, 4, 5, 6, 7, 8] [1, 2, 9, 10, 11, 12, 13] rfl rfl (by decide) (by decide) (kb_rV (As := [.int 0]) (rest := []) (wc := [kb_o h 4 [.int 0, .ref qn1, .int 0, .ref qn2, .int 0, .ref qn3, .ref qn4, .ref qn5, .ref qn6, .ref qn7, .ref qn8, .ref qn9, .ref qn10, .ref qn11, .ref qn12, .ref qn13, .int 0, .int 0, .int 0, .int 0, .int 0], kb_a G qn3 2 (fun _ => 0), kb_a G qn4 2 (fun _ => 0), kb_a G qn5 2 (fun _ => 0), kb_a G qn6 256 (fun _ => 0), kb_a G qn7 256 (fun _ => 0), kb_a G qn8 256 (fun _ => 0)]) (q0 := 0) ⟨hx, hb, hml, hown, ht⟩ ((c_M_begin l G h 0 qn1 qn2 qn3 qn4 qn5 qn6 qn7 qn8 qn9 qn10 qn11 qn12 qn13 (fun _ => 0) (fun _ => 0) (fun _ => 0) (fun _ => 0) (fun _ => 0) (fun _ => 0)) _) (kb_gV wd_fd2dca98 wd_24b2fa7a wd_9befa8bf wd_38099713 wd_99c2ca70) ⟨rfl, hd_a18b8d5a⟩ ⟨(Nat.le_of_ble_eq_true rfl), (Nat.le_of_ble_eq_true rfl)⟩ hE hP hD hS [0, 3, 4, 5, 6, 7, 8] rfl (by decide) rfl rfl rfl hl.1 rfl (Nat.le_of_ble_eq_true rfl) d_M_init_114 ⟨(Nat.le_of_ble_eq_true rfl), (Nat.le_of_ble_eq_true rfl)⟩) (fun uu14 H locs hw hP hD hS => ?_)
  have hP : va_P G.1 kb_cl [kb_a G qn1 65536 (fun _ => 0), kb_a G qn2 65536 (fun _ => 0), kb_a G qn9 1024 (fun _ => 0), kb_a G qn10 1024 (fun _ => 0), kb_a G qn11 1024 (fun _ => 0), kb_a G qn12 1024 (fun _ => 0), kb_a G qn13 32768 (fun _ => 0), kb_o h 4 [.int 0, .ref qn1, .int 0, .ref qn2, .int 0, .ref qn3, .ref qn4, .ref qn5, .ref qn6, .ref qn7, .ref qn8, .ref qn9, .ref qn10, .ref qn11, .ref qn12, .ref qn13, .int 0, .int 0, .int 0, .int 0, .int 0], kb_a G qn3 2 (upd (fun _ => 0) 0 1), kb_a G qn4 2 (upd (fun _ => 0) 0 0), kb_a G qn5 2 (upd (fun _ => 0) 0 0), kb_a G qn6 256 (upd (fun _ => 0) 0 (-1)), kb_a G qn7 256 (upd (fun _ => 0) 0 0), kb_a G qn8 256 (upd (fun _ => 0) 0 0)] H := hP
  have hD : va_D A [kb_a G qn1 65536 (fun _ => 0), kb_a G qn2 65536 (fun _ => 0), kb_a G qn9 1024 (fun _ => 0), kb_a G qn10 1024 (fun _ => 0), kb_a G qn11 1024 (fun _ => 0), kb_a G qn12 1024 (fun _ => 0), kb_a G qn13 32768 (fun _ => 0), kb_o h 4 [.int 0, .ref qn1, .int 0, .ref qn2, .int 0, .ref qn3, .ref qn4, .ref qn5, .ref qn6, .ref qn7, .ref qn8, .ref qn9, .ref qn10, .ref qn11, .ref qn12, .ref qn13, .int 0, .int 0, .int 0, .int 0, .int 0], kb_a G qn3 2 (upd (fun _ => 0) 0 1), kb_a G qn4 2 (upd (fun _ => 0) 0 0), kb_a G qn5 2 (upd (fun _ => 0) 0 0), kb_a G qn6 256 (upd (fun _ => 0) 0 (-1)), kb_a G qn7 256 (upd (fun _ => 0) 0 0), kb_a G qn8 256 (upd (fun _ => 0) 0 0)] := hD
  exact kb_retv (kb_l [qn1, qn2, qn3, qn4, qn5, qn6, qn7, qn8, qn9, qn10, qn11, qn12, qn13], kb_f []) hx hb hr hlocks hE hP hD hS [0, 1, 2, 3, 4, 5, 6, 7, 8, 9, 10, 11, 12, 13] rfl (by decide) rfl trivial (Nat.le_of_ble_eq_true rfl) (Nat.le_of_ble_eq_true rfl) d_M_init_117

set_option maxHeartbeats 4000000 in
set_option maxRecDepth 100000 in
theorem c_M_thrown (l : Launch) (G : kb_G) (h : Nat) (T : Int32) (m1 : Nat) (m3 : Nat) (m5 : Nat) (m6 : Nat) (m7 : Nat) (m8 : Nat) (m9 : Nat) (m10 : Nat) (m11 : Nat) (m12 : Nat) (m13 : Nat) (m14 : Nat) (m15 : Nat) (w2 : Int32) (w4 : Int32) (w16 : Int32) (w19 : Int32) : kb_ci l G ⟨"TreePressModel", "thrown", "()I"⟩ prog_6_method_2_code 1 (some .int) 1 0 0 [.ref h] [kb_o h 4 [.int T, .ref m1, .int w2, .ref m3, .int w4, .ref m5, .ref m6, .ref m7, .ref m8, .ref m9, .ref m10, .ref m11, .ref m12, .ref m13, .ref m14, .ref m15, .int w16, .int 0, .int 0, .int w19, .int 0]] (fun r u => r = T) (fun u => [kb_o h 4 [.int T, .ref m1, .int w2, .ref m3, .int w4, .ref m5, .ref m6, .ref m7, .ref m8, .ref m9, .ref m10, .ref m11, .ref m12, .ref m13, .ref m14, .ref m15, .int w16, .int 0, .int 0, .int w19, .int 0]]) := by
  intro sz
  refine kb_body (QQ := fun A => kb_Qi G A (fun r u => r = T) (fun u => [kb_o h 4 [.int T, .ref m1, .int w2, .ref m3, .int w4, .ref m5, .ref m6, .ref m7, .ref m8, .ref m9, .ref m10, .ref m11, .ref m12, .ref m13, .ref m14, .ref m15, .int w16, .int 0, .int 0, .int w19, .int 0]])) (by decide) (Nat.le_of_ble_eq_true rfl) ?_
  intro p e s m below meth c A B ls hl
  obtain ⟨hx, hb, hr, hml, hlocks, hin, hown, ht, hE, hP, hD, hS⟩ := B
  have hl : lv_has ls 1 [(0, .ref h)] := hl
  have hP0 := hP
  obtain ⟨H, hHe⟩ : ∃ H, H = s.heap := ⟨_, rfl⟩
  rw [← hHe] at hP
  have hS : va_S A s.heap H [] := by rw [hHe]; exact hS
  refine kb_at hHe ?_
  clear hHe
  refine lv_aload_n hx hb d_M_thrown_0 rfl (lv_at hl 0 rfl) ?_
  refine va_get (D := G.1) (ci := 4) (v := .int T) (C := "TreePressModel") (T := kb_F4) (N := 21) hx hb ht kb_w4 hown hE.1 hP 0 rfl rfl 0 (by decide) (ht _ wd_d5599598) (fun _ h9 => h9) rfl d_M_thrown_1 ?_
  exact kb_reti (kb_l [], kb_f []) hx hb hr hlocks hE hP hD hS [0] rfl (by decide) rfl rfl (Nat.le_of_ble_eq_true rfl) (Nat.le_of_ble_eq_true rfl) d_M_thrown_4

set_option maxHeartbeats 4000000 in
set_option maxRecDepth 100000 in
theorem c_M_feed (l : Launch) (G : kb_G) (h : Nat) (T : Int32) (m1 : Nat) (m3 : Nat) (m5 : Nat) (m6 : Nat) (m7 : Nat) (m8 : Nat) (m9 : Nat) (m10 : Nat) (m11 : Nat) (m12 : Nat) (m13 : Nat) (m14 : Nat) (m15 : Nat) (f1 : Nat → Int32) (x1 : Int32) (x2 : Int32) (x3 : Int32) (x4 : Int32) (x5 : Int32) : kb_ci l G ⟨"TreePressModel", "feed", "(IIIII)I"⟩ prog_6_method_4_code 8 (some .int) 1 0 0 [.ref h, .int x1, .int x2, .int x3, .int x4, .int x5] [kb_o h 4 [.int T, .ref m1, .int 0, .ref m3, .int 0, .ref m5, .ref m6, .ref m7, .ref m8, .ref m9, .ref m10, .ref m11, .ref m12, .ref m13, .ref m14, .ref m15, .int 0, .int 0, .int 0, .int 0, .int 0], kb_a G m1 65536 f1] (fun r u => r = 20) (fun u => [kb_o h 4 [.int 0, .ref m1, .int 20, .ref m3, .int 0, .ref m5, .ref m6, .ref m7, .ref m8, .ref m9, .ref m10, .ref m11, .ref m12, .ref m13, .ref m14, .ref m15, .int 0, .int 0, .int 0, .int 0, .int 0]]) := by
  intro sz
  refine kb_body (QQ := fun A => kb_Qi G A (fun r u => r = 20) (fun u => [kb_o h 4 [.int 0, .ref m1, .int 20, .ref m3, .int 0, .ref m5, .ref m6, .ref m7, .ref m8, .ref m9, .ref m10, .ref m11, .ref m12, .ref m13, .ref m14, .ref m15, .int 0, .int 0, .int 0, .int 0, .int 0]])) (by decide) (Nat.le_of_ble_eq_true rfl) ?_
  intro p e s m below meth c A B ls hl
  obtain ⟨hx, hb, hr, hml, hlocks, hin, hown, ht, hE, hP, hD, hS⟩ := B
  have hl : lv_has ls 8 [(0, .ref h), (1, .int x1), (2, .int x2), (3, .int x3), (4, .int x4), (5, .int x5)] := hl
  have hP0 := hP
  obtain ⟨H, hHe⟩ : ∃ H, H = s.heap := ⟨_, rfl⟩
  rw [← hHe] at hP
  have hS : va_S A s.heap H [] := by rw [hHe]; exact hS
  refine kb_at hHe ?_
  clear hHe
  refine lv_aload_n hx hb d_M_feed_0 rfl (lv_at hl 0 rfl) ?_
  refine lv_aload_n hx hb d_M_feed_1 rfl (lv_at hl 0 rfl) ?_
  refine va_get (D := G.1) (ci := 4) (v := .int 0) (C := "TreePressModel") (T := kb_F4) (N := 21) hx hb ht kb_w4 hown hE.1 hP 0 rfl rfl 2 (by decide) (ht _ wd_822be019) (fun _ h9 => h9) rfl d_M_feed_2 ?_
  refine lv_bipush (v := 20) hx hb d_M_feed_5 (by decide) ?_
  refine lv_iadd hx hb d_M_feed_7 ?_
  refine kb_top (y := 20) (by decide) ?_
  refine lv_ldc (v := 65536) hx hb hown (ht _ wd_18266a69) d_M_feed_8 ?_
  refine lv_icmp_le (tgt := 17) hx hb d_M_feed_10 (by decide) (fun c9 => ?_) (fun c9 => absurd (by decide) c9)
  refine lv_iconst (v := 0) hx hb d_M_feed_17 (by decide) ?_
  refine va_put (D := G.1) (ci := 4) (v := .int 0) (ty := .int) (C := "TreePressModel") (T := kb_F4) (N := 21) hx hb ht kb_w4 kb_y4 kb_p4 kb_n4 hown hE.1 hP hD hS 0 rfl rfl 0 (by decide) (ht _ wd_d5599598) (fun _ h9 => h9) rfl (by decide +kernel) rfl rfl (Nat.le_of_ble_eq_true rfl) d_M_feed_18 (fun H locs hP hD hS => ?_)
  have hP : va_P G.1 kb_cl [kb_o h 4 [.int 0, .ref m1, .int 0, .ref m3, .int 0, .ref m5, .ref m6, .ref m7, .ref m8, .ref m9, .ref m10, .ref m11, .ref m12, .ref m13, .ref m14, .ref m15, .int 0, .int 0, .int 0, .int 0, .int 0], kb_a G m1 65536 f1] H := hP
  have hD : va_D A [kb_o h 4 [.int 0, .ref m1, .int 0, .ref m3, .int 0, .ref m5, .ref m6, .ref m7, .ref m8, .ref m9, .ref m10, .ref m11, .ref m12, .ref m13, .ref m14, .ref m15, .int 0, .int 0, .int 0, .int 0, .int 0], kb_a G m1 65536 f1] := hD
  refine lv_aload_n hx hb d_M_feed_21 rfl (lv_at hl 0 rfl) ?_
  refine va_get (D := G.1) (ci := 4) (v := .int 0) (C := "TreePressModel") (T := kb_F4) (N := 21) hx hb ht kb_w4 hown hE.1 hP 0 rfl rfl 0 (by decide) (ht _ wd_d5599598) (fun _ h9 => h9) rfl d_M_feed_22 ?_
  refine lv_if_le (tgt := 30) hx hb d_M_feed_25 (by decide) (fun c9 => ?_) (fun c9 => absurd (by decide) c9)
  refine lv_iconst (v := 0) hx hb d_M_feed_30 (by decide) ?_
  refine lv_istore (lv' := [(6, .int 0), (0, .ref h), (1, .int x1), (2, .int x2), (3, .int x3), (4, .int x4), (5, .int x5)]) hx hb d_M_feed_31 hl (by decide) rfl (fun ls hl => ?_)
  refine lv_iload hx hb d_M_feed_33 (lv_at hl 0 rfl) ?_
  refine lv_bipush (v := 20) hx hb d_M_feed_35 (by decide) ?_
  refine lv_icmp_ge (tgt := 130) hx hb d_M_feed_37 (by decide) (fun c9 => absurd c9 (by decide)) (fun c9 => ?_)
  refine lv_iload hx hb d_M_feed_40 (lv_at hl 0 rfl) ?_
  refine lv_iconst (v := 4) hx hb d_M_feed_42 (by decide) ?_
  refine lv_icmp_ge (tgt := 50) hx hb d_M_feed_43 (by decide) (fun c9 => absurd c9 (by decide)) (fun c9 => ?_)
  refine lv_iload_n hx hb d_M_feed_46 rfl (lv_at hl 2 rfl) ?_
  refine lv_goto (tgt := 86) hx hb d_M_feed_47 (by decide) ?_
  refine lv_istore (lv' := [(7, .int x1), (6, .int 0), (0, .ref h), (1, .int x1), (2, .int x2), (3, .int x3), (4, .int x4), (5, .int x5)]) hx hb d_M_feed_86 hl (by decide) rfl (fun ls hl => ?_)
  refine lv_aload_n hx hb d_M_feed_88 rfl (lv_at hl 2 rfl) ?_
  refine va_get (D := G.1) (ci := 4) (v := .ref m1) (C := "TreePressModel") (T := kb_F4) (N := 21) hx hb ht kb_w4 hown hE.1 hP 0 rfl rfl 1 (by decide) (ht _ wd_5836b793) (fun _ h9 => h9) rfl d_M_feed_89 ?_
  refine lv_aload_n hx hb d_M_feed_92 rfl (lv_at hl 2 rfl) ?_
  refine va_get (D := G.1) (ci := 4) (v := .int 0) (C := "TreePressModel") (T := kb_F4) (N := 21) hx hb ht kb_w4 hown hE.1 hP 0 rfl rfl 2 (by decide) (ht _ wd_822be019) (fun _ h9 => h9) rfl d_M_feed_93 ?_
  refine lv_iload hx hb d_M_feed_96 (lv_at hl 0 rfl) ?_
  refine lv_bipush (v := 24) hx hb d_M_feed_98 (by decide) ?_
  refine lv_bipush (v := 8) hx hb d_M_feed_100 (by decide) ?_
  refine lv_iload hx hb d_M_feed_102 (lv_at hl 1 rfl) ?_
  refine lv_iconst (v := 4) hx hb d_M_feed_104 (by decide) ?_
  refine lv_irem hx hb d_M_feed_105 (by decide) ?_
  refine kb_top (y := 0) (by decide) ?_
  refine lv_imul hx hb d_M_feed_106 ?_
  refine kb_top (y := 0) (by decide) ?_
  refine lv_isub hx hb d_M_feed_107 ?_
  refine kb_top (y := 24) (by decide) ?_
  refine lv_ishr hx hb d_M_feed_108 ?_
  refine lv_sipush (v := 255) hx hb d_M_feed_109 (by decide) ?_
  refine lv_iand hx hb d_M_feed_112 ?_
  refine va_iast hx hb hE.1 hP hD hS 1 0 rfl rfl (show ¬ ((0 : Int32) < 0 ∨ 65536 ≤ (0 : Int32).toNatClampNeg) by decide) d_M_feed_113 (fun H locs hP hD hS => ?_)
  have hP : va_P G.1 kb_cl [kb_o h 4 [.int 0, .ref m1, .int 0, .ref m3, .int 0, .ref m5, .ref m6, .ref m7, .ref m8, .ref m9, .ref m10, .ref m11, .ref m12, .ref m13, .ref m14, .ref m15, .int 0, .int 0, .int 0, .int 0, .int 0], kb_a G m1 65536 (upd f1 0 ((x1 >>> (24 &&& 31)) &&& 255))] H := hP
  have hD : va_D A [kb_o h 4 [.int 0, .ref m1, .int 0, .ref m3, .int 0, .ref m5, .ref m6, .ref m7, .ref m8, .ref m9, .ref m10, .ref m11, .ref m12, .ref m13, .ref m14, .ref m15, .int 0, .int 0, .int 0, .int 0, .int 0], kb_a G m1 65536 (upd f1 0 ((x1 >>> (24 &&& 31)) &&& 255))] := hD
  generalize (upd f1 0 ((x1 >>> (24 &&& 31)) &&& 255)) = gc1 at hP hD
  refine lv_aload_n hx hb d_M_feed_114 rfl (lv_at hl 2 rfl) ?_
  refine lv_dup hx hb d_M_feed_115 rfl ?_
  refine va_get (D := G.1) (ci := 4) (v := .int 0) (C := "TreePressModel") (T := kb_F4) (N := 21) hx hb ht kb_w4 hown hE.1 hP 0 rfl rfl 2 (by decide) (ht _ wd_822be019) (fun _ h9 => h9) rfl d_M_feed_116 ?_
  refine lv_iconst (v := 1) hx hb d_M_feed_119 (by decide) ?_
  refine lv_iadd hx hb d_M_feed_120 ?_
  refine kb_top (y := 1) (by decide) ?_
  refine va_put (D := G.1) (ci := 4) (v := .int 1) (ty := .int) (C := "TreePressModel") (T := kb_F4) (N := 21) hx hb ht kb_w4 kb_y4 kb_p4 kb_n4 hown hE.1 hP hD hS 0 rfl rfl 2 (by decide) (ht _ wd_822be019) (fun _ h9 => h9) rfl (by decide +kernel) rfl rfl (Nat.le_of_ble_eq_true rfl) d_M_feed_121 (fun H locs hP hD hS => ?_)
  have hP : va_P G.1 kb_cl [kb_o h 4 [.int 0, .ref m1, .int 1, .ref m3, .int 0, .ref m5, .ref m6, .ref m7, .ref m8, .ref m9, .ref m10, .ref m11, .ref m12, .ref m13, .ref m14, .ref m15, .int 0, .int 0, .int 0, .int 0, .int 0], kb_a G m1 65536 gc1] H := hP
  have hD : va_D A [kb_o h 4 [.int 0, .ref m1, .int 1, .ref m3, .int 0, .ref m5, .ref m6, .ref m7, .ref m8, .ref m9, .ref m10, .ref m11, .ref m12, .ref m13, .ref m14, .ref m15, .int 0, .int 0, .int 0, .int 0, .int 0], kb_a G m1 65536 gc1] := hD
  refine lv_iinc (v := 1) (lv' := [(6, .int 1), (7, .int x1), (0, .ref h), (1, .int x1), (2, .int x2), (3, .int x3), (4, .int x4), (5, .int x5)]) hx hb d_M_feed_124 hl (k := 1) rfl (by decide) (by decide) rfl (fun ls hl => ?_)
  refine lv_goto (tgt := 33) hx hb d_M_feed_127 (by decide) ?_
  refine lv_iload hx hb d_M_feed_33 (lv_at hl 0 rfl) ?_
  refine lv_bipush (v := 20) hx hb d_M_feed_35 (by decide) ?_
  refine lv_icmp_ge (tgt := 130) hx hb d_M_feed_37 (by decide) (fun c9 => absurd c9 (by decide)) (fun c9 => ?_)
  refine lv_iload hx hb d_M_feed_40 (lv_at hl 0 rfl) ?_
  refine lv_iconst (v := 4) hx hb d_M_feed_42 (by decide) ?_
  refine lv_icmp_ge (tgt := 50) hx hb d_M_feed_43 (by decide) (fun c9 => absurd c9 (by decide)) (fun c9 => ?_)
  refine lv_iload_n hx hb d_M_feed_46 rfl (lv_at hl 3 rfl) ?_
  refine lv_goto (tgt := 86) hx hb d_M_feed_47 (by decide) ?_
  refine lv_istore (lv' := [(7, .int x1), (6, .int 1), (0, .ref h), (1, .int x1), (2, .int x2), (3, .int x3), (4, .int x4), (5, .int x5)]) hx hb d_M_feed_86 hl (by decide) rfl (fun ls hl => ?_)
  refine lv_aload_n hx hb d_M_feed_88 rfl (lv_at hl 2 rfl) ?_
  refine va_get (D := G.1) (ci := 4) (v := .ref m1) (C := "TreePressModel") (T := kb_F4) (N := 21) hx hb ht kb_w4 hown hE.1 hP 0 rfl rfl 1 (by decide) (ht _ wd_5836b793) (fun _ h9 => h9) rfl d_M_feed_89 ?_
  refine lv_aload_n hx hb d_M_feed_92 rfl (lv_at hl 2 rfl) ?_
  refine va_get (D := G.1) (ci := 4) (v := .int 1) (C := "TreePressModel") (T := kb_F4) (N := 21) hx hb ht kb_w4 hown hE.1 hP 0 rfl rfl 2 (by decide) (ht _ wd_822be019) (fun _ h9 => h9) rfl d_M_feed_93 ?_
  refine lv_iload hx hb d_M_feed_96 (lv_at hl 0 rfl) ?_
  refine lv_bipush (v := 24) hx hb d_M_feed_98 (by decide) ?_
  refine lv_bipush (v := 8) hx hb d_M_feed_100 (by decide) ?_
  refine lv_iload hx hb d_M_feed_102 (lv_at hl 1 rfl) ?_
  refine lv_iconst (v := 4) hx hb d_M_feed_104 (by decide) ?_
  refine lv_irem hx hb d_M_feed_105 (by decide) ?_
  refine kb_top (y := 1) (by decide) ?_
  refine lv_imul hx hb d_M_feed_106 ?_
  refine kb_top (y := 8) (by decide) ?_
  refine lv_isub hx hb d_M_feed_107 ?_
  refine kb_top (y := 16) (by decide) ?_
  refine lv_ishr hx hb d_M_feed_108 ?_
  refine lv_sipush (v := 255) hx hb d_M_feed_109 (by decide) ?_
  refine lv_iand hx hb d_M_feed_112 ?_
  refine va_iast hx hb hE.1 hP hD hS 1 0 rfl rfl (show ¬ ((1 : Int32) < 0 ∨ 65536 ≤ (1 : Int32).toNatClampNeg) by decide) d_M_feed_113 (fun H locs hP hD hS => ?_)
  have hP : va_P G.1 kb_cl [kb_o h 4 [.int 0, .ref m1, .int 1, .ref m3, .int 0, .ref m5, .ref m6, .ref m7, .ref m8, .ref m9, .ref m10, .ref m11, .ref m12, .ref m13, .ref m14, .ref m15, .int 0, .int 0, .int 0, .int 0, .int 0], kb_a G m1 65536 (upd gc1 1 ((x1 >>> (16 &&& 31)) &&& 255))] H := hP
  have hD : va_D A [kb_o h 4 [.int 0, .ref m1, .int 1, .ref m3, .int 0, .ref m5, .ref m6, .ref m7, .ref m8, .ref m9, .ref m10, .ref m11, .ref m12, .ref m13, .ref m14, .ref m15, .int 0, .int 0, .int 0, .int 0, .int 0], kb_a G m1 65536 (upd gc1 1 ((x1 >>> (16 &&& 31)) &&& 255))] := hD
  generalize (upd gc1 1 ((x1 >>> (16 &&& 31)) &&& 255)) = gc2 at hP hD
  refine lv_aload_n hx hb d_M_feed_114 rfl (lv_at hl 2 rfl) ?_
  refine lv_dup hx hb d_M_feed_115 rfl ?_
  refine va_get (D := G.1) (ci := 4) (v := .int 1) (C := "TreePressModel") (T := kb_F4) (N := 21) hx hb ht kb_w4 hown hE.1 hP 0 rfl rfl 2 (by decide) (ht _ wd_822be019) (fun _ h9 => h9) rfl d_M_feed_116 ?_
  refine lv_iconst (v := 1) hx hb d_M_feed_119 (by decide) ?_
  refine lv_iadd hx hb d_M_feed_120 ?_
  refine kb_top (y := 2) (by decide) ?_
  refine va_put (D := G.1) (ci := 4) (v := .int 2) (ty := .int) (C := "TreePressModel") (T := kb_F4) (N := 21) hx hb ht kb_w4 kb_y4 kb_p4 kb_n4 hown hE.1 hP hD hS 0 rfl rfl 2 (by decide) (ht _ wd_822be019) (fun _ h9 => h9) rfl (by decide +kernel) rfl rfl (Nat.le_of_ble_eq_true rfl) d_M_feed_121 (fun H locs hP hD hS => ?_)
  have hP : va_P G.1 kb_cl [kb_o h 4 [.int 0, .ref m1, .int 2, .ref m3, .int 0, .ref m5, .ref m6, .ref m7, .ref m8, .ref m9, .ref m10, .ref m11, .ref m12, .ref m13, .ref m14, .ref m15, .int 0, .int 0, .int 0, .int 0, .int 0], kb_a G m1 65536 gc2] H := hP
  have hD : va_D A [kb_o h 4 [.int 0, .ref m1, .int 2, .ref m3, .int 0, .ref m5, .ref m6, .ref m7, .ref m8, .ref m9, .ref m10, .ref m11, .ref m12, .ref m13, .ref m14, .ref m15, .int 0, .int 0, .int 0, .int 0, .int 0], kb_a G m1 65536 gc2] := hD
  refine lv_iinc (v := 2) (lv' := [(6, .int 2), (7, .int x1), (0, .ref h), (1, .int x1), (2, .int x2), (3, .int x3), (4, .int x4), (5, .int x5)]) hx hb d_M_feed_124 hl (k := 1) rfl (by decide) (by decide) rfl (fun ls hl => ?_)
  refine lv_goto (tgt := 33) hx hb d_M_feed_127 (by decide) ?_
  refine lv_iload hx hb d_M_feed_33 (lv_at hl 0 rfl) ?_
  refine lv_bipush (v := 20) hx hb d_M_feed_35 (by decide) ?_
  refine lv_icmp_ge (tgt := 130) hx hb d_M_feed_37 (by decide) (fun c9 => absurd c9 (by decide)) (fun c9 => ?_)
  refine lv_iload hx hb d_M_feed_40 (lv_at hl 0 rfl) ?_
  refine lv_iconst (v := 4) hx hb d_M_feed_42 (by decide) ?_
  refine lv_icmp_ge (tgt := 50) hx hb d_M_feed_43 (by decide) (fun c9 => absurd c9 (by decide)) (fun c9 => ?_)
  refine lv_iload_n hx hb d_M_feed_46 rfl (lv_at hl 3 rfl) ?_
  refine lv_goto (tgt := 86) hx hb d_M_feed_47 (by decide) ?_
  refine lv_istore (lv' := [(7, .int x1), (6, .int 2), (0, .ref h), (1, .int x1), (2, .int x2), (3, .int x3), (4, .int x4), (5, .int x5)]) hx hb d_M_feed_86 hl (by decide) rfl (fun ls hl => ?_)
  refine lv_aload_n hx hb d_M_feed_88 rfl (lv_at hl 2 rfl) ?_
  refine va_get (D := G.1) (ci := 4) (v := .ref m1) (C := "TreePressModel") (T := kb_F4) (N := 21) hx hb ht kb_w4 hown hE.1 hP 0 rfl rfl 1 (by decide) (ht _ wd_5836b793) (fun _ h9 => h9) rfl d_M_feed_89 ?_
  refine lv_aload_n hx hb d_M_feed_92 rfl (lv_at hl 2 rfl) ?_
  refine va_get (D := G.1) (ci := 4) (v := .int 2) (C := "TreePressModel") (T := kb_F4) (N := 21) hx hb ht kb_w4 hown hE.1 hP 0 rfl rfl 2 (by decide) (ht _ wd_822be019) (fun _ h9 => h9) rfl d_M_feed_93 ?_
  refine lv_iload hx hb d_M_feed_96 (lv_at hl 0 rfl) ?_
  refine lv_bipush (v := 24) hx hb d_M_feed_98 (by decide) ?_
  refine lv_bipush (v := 8) hx hb d_M_feed_100 (by decide) ?_
  refine lv_iload hx hb d_M_feed_102 (lv_at hl 1 rfl) ?_
  refine lv_iconst (v := 4) hx hb d_M_feed_104 (by decide) ?_
  refine lv_irem hx hb d_M_feed_105 (by decide) ?_
  refine kb_top (y := 2) (by decide) ?_
  refine lv_imul hx hb d_M_feed_106 ?_
  refine kb_top (y := 16) (by decide) ?_
  refine lv_isub hx hb d_M_feed_107 ?_
  refine kb_top (y := 8) (by decide) ?_
  refine lv_ishr hx hb d_M_feed_108 ?_
  refine lv_sipush (v := 255) hx hb d_M_feed_109 (by decide) ?_
  refine lv_iand hx hb d_M_feed_112 ?_
  refine va_iast hx hb hE.1 hP hD hS 1 0 rfl rfl (show ¬ ((2 : Int32) < 0 ∨ 65536 ≤ (2 : Int32).toNatClampNeg) by decide) d_M_feed_113 (fun H locs hP hD hS => ?_)
  have hP : va_P G.1 kb_cl [kb_o h 4 [.int 0, .ref m1, .int 2, .ref m3, .int 0, .ref m5, .ref m6, .ref m7, .ref m8, .ref m9, .ref m10, .ref m11, .ref m12, .ref m13, .ref m14, .ref m15, .int 0, .int 0, .int 0, .int 0, .int 0], kb_a G m1 65536 (upd gc2 2 ((x1 >>> (8 &&& 31)) &&& 255))] H := hP
  have hD : va_D A [kb_o h 4 [.int 0, .ref m1, .int 2, .ref m3, .int 0, .ref m5, .ref m6, .ref m7, .ref m8, .ref m9, .ref m10, .ref m11, .ref m12, .ref m13, .ref m14, .ref m15, .int 0, .int 0, .int 0, .int 0, .int 0], kb_a G m1 65536 (upd gc2 2 ((x1 >>> (8 &&& 31)) &&& 255))] := hD
  generalize (upd gc2 2 ((x1 >>> (8 &&& 31)) &&& 255)) = gc3 at hP hD
  refine lv_aload_n hx hb d_M_feed_114 rfl (lv_at hl 2 rfl) ?_
  refine lv_dup hx hb d_M_feed_115 rfl ?_
  refine va_get (D := G.1) (ci := 4) (v := .int 2) (C := "TreePressModel") (T := kb_F4) (N := 21) hx hb ht kb_w4 hown hE.1 hP 0 rfl rfl 2 (by decide) (ht _ wd_822be019) (fun _ h9 => h9) rfl d_M_feed_116 ?_
  refine lv_iconst (v := 1) hx hb d_M_feed_119 (by decide) ?_
  refine lv_iadd hx hb d_M_feed_120 ?_
  refine kb_top (y := 3) (by decide) ?_
  refine va_put (D := G.1) (ci := 4) (v := .int 3) (ty := .int) (C := "TreePressModel") (T := kb_F4) (N := 21) hx hb ht kb_w4 kb_y4 kb_p4 kb_n4 hown hE.1 hP hD hS 0 rfl rfl 2 (by decide) (ht _ wd_822be019) (fun _ h9 => h9) rfl (by decide +kernel) rfl rfl (Nat.le_of_ble_eq_true rfl) d_M_feed_121 (fun H locs hP hD hS => ?_)
  have hP : va_P G.1 kb_cl [kb_o h 4 [.int 0, .ref m1, .int 3, .ref m3, .int 0, .ref m5, .ref m6, .ref m7, .ref m8, .ref m9, .ref m10, .ref m11, .ref m12, .ref m13, .ref m14, .ref m15, .int 0, .int 0, .int 0, .int 0, .int 0], kb_a G m1 65536 gc3] H := hP
  have hD : va_D A [kb_o h 4 [.int 0, .ref m1, .int 3, .ref m3, .int 0, .ref m5, .ref m6, .ref m7, .ref m8, .ref m9, .ref m10, .ref m11, .ref m12, .ref m13, .ref m14, .ref m15, .int 0, .int 0, .int 0, .int 0, .int 0], kb_a G m1 65536 gc3] := hD
  refine lv_iinc (v := 3) (lv' := [(6, .int 3), (7, .int x1), (0, .ref h), (1, .int x1), (2, .int x2), (3, .int x3), (4, .int x4), (5, .int x5)]) hx hb d_M_feed_124 hl (k := 1) rfl (by decide) (by decide) rfl (fun ls hl => ?_)
  refine lv_goto (tgt := 33) hx hb d_M_feed_127 (by decide) ?_
  refine lv_iload hx hb d_M_feed_33 (lv_at hl 0 rfl) ?_
  refine lv_bipush (v := 20) hx hb d_M_feed_35 (by decide) ?_
  refine lv_icmp_ge (tgt := 130) hx hb d_M_feed_37 (by decide) (fun c9 => absurd c9 (by decide)) (fun c9 => ?_)
  refine lv_iload hx hb d_M_feed_40 (lv_at hl 0 rfl) ?_
  refine lv_iconst (v := 4) hx hb d_M_feed_42 (by decide) ?_
  refine lv_icmp_ge (tgt := 50) hx hb d_M_feed_43 (by decide) (fun c9 => absurd c9 (by decide)) (fun c9 => ?_)
  refine lv_iload_n hx hb d_M_feed_46 rfl (lv_at hl 3 rfl) ?_
  refine lv_goto (tgt := 86) hx hb d_M_feed_47 (by decide) ?_
  refine lv_istore (lv' := [(7, .int x1), (6, .int 3), (0, .ref h), (1, .int x1), (2, .int x2), (3, .int x3), (4, .int x4), (5, .int x5)]) hx hb d_M_feed_86 hl (by decide) rfl (fun ls hl => ?_)
  refine lv_aload_n hx hb d_M_feed_88 rfl (lv_at hl 2 rfl) ?_
  refine va_get (D := G.1) (ci := 4) (v := .ref m1) (C := "TreePressModel") (T := kb_F4) (N := 21) hx hb ht kb_w4 hown hE.1 hP 0 rfl rfl 1 (by decide) (ht _ wd_5836b793) (fun _ h9 => h9) rfl d_M_feed_89 ?_
  refine lv_aload_n hx hb d_M_feed_92 rfl (lv_at hl 2 rfl) ?_
  refine va_get (D := G.1) (ci := 4) (v := .int 3) (C := "TreePressModel") (T := kb_F4) (N := 21) hx hb ht kb_w4 hown hE.1 hP 0 rfl rfl 2 (by decide) (ht _ wd_822be019) (fun _ h9 => h9) rfl d_M_feed_93 ?_
  refine lv_iload hx hb d_M_feed_96 (lv_at hl 0 rfl) ?_
  refine lv_bipush (v := 24) hx hb d_M_feed_98 (by decide) ?_
  refine lv_bipush (v := 8) hx hb d_M_feed_100 (by decide) ?_
  refine lv_iload hx hb d_M_feed_102 (lv_at hl 1 rfl) ?_
  refine lv_iconst (v := 4) hx hb d_M_feed_104 (by decide) ?_
  refine lv_irem hx hb d_M_feed_105 (by decide) ?_
  refine kb_top (y := 3) (by decide) ?_
  refine lv_imul hx hb d_M_feed_106 ?_
  refine kb_top (y := 24) (by decide) ?_
  refine lv_isub hx hb d_M_feed_107 ?_
  refine kb_top (y := 0) (by decide) ?_
  refine lv_ishr hx hb d_M_feed_108 ?_
  refine lv_sipush (v := 255) hx hb d_M_feed_109 (by decide) ?_
  refine lv_iand hx hb d_M_feed_112 ?_
  refine va_iast hx hb hE.1 hP hD hS 1 0 rfl rfl (show ¬ ((3 : Int32) < 0 ∨ 65536 ≤ (3 : Int32).toNatClampNeg) by decide) d_M_feed_113 (fun H locs hP hD hS => ?_)
  have hP : va_P G.1 kb_cl [kb_o h 4 [.int 0, .ref m1, .int 3, .ref m3, .int 0, .ref m5, .ref m6, .ref m7, .ref m8, .ref m9, .ref m10, .ref m11, .ref m12, .ref m13, .ref m14, .ref m15, .int 0, .int 0, .int 0, .int 0, .int 0], kb_a G m1 65536 (upd gc3 3 ((x1 >>> (0 &&& 31)) &&& 255))] H := hP
  have hD : va_D A [kb_o h 4 [.int 0, .ref m1, .int 3, .ref m3, .int 0, .ref m5, .ref m6, .ref m7, .ref m8, .ref m9, .ref m10, .ref m11, .ref m12, .ref m13, .ref m14, .ref m15, .int 0, .int 0, .int 0, .int 0, .int 0], kb_a G m1 65536 (upd gc3 3 ((x1 >>> (0 &&& 31)) &&& 255))] := hD
  generalize (upd gc3 3 ((x1 >>> (0 &&& 31)) &&& 255)) = gc4 at hP hD
  refine lv_aload_n hx hb d_M_feed_114 rfl (lv_at hl 2 rfl) ?_
  refine lv_dup hx hb d_M_feed_115 rfl ?_
  refine va_get (D := G.1) (ci := 4) (v := .int 3) (C := "TreePressModel") (T := kb_F4) (N := 21) hx hb ht kb_w4 hown hE.1 hP 0 rfl rfl 2 (by decide) (ht _ wd_822be019) (fun _ h9 => h9) rfl d_M_feed_116 ?_
  refine lv_iconst (v := 1) hx hb d_M_feed_119 (by decide) ?_
  refine lv_iadd hx hb d_M_feed_120 ?_
  refine kb_top (y := 4) (by decide) ?_
  refine va_put (D := G.1) (ci := 4) (v := .int 4) (ty := .int) (C := "TreePressModel") (T := kb_F4) (N := 21) hx hb ht kb_w4 kb_y4 kb_p4 kb_n4 hown hE.1 hP hD hS 0 rfl rfl 2 (by decide) (ht _ wd_822be019) (fun _ h9 => h9) rfl (by decide +kernel) rfl rfl (Nat.le_of_ble_eq_true rfl) d_M_feed_121 (fun H locs hP hD hS => ?_)
  have hP : va_P G.1 kb_cl [kb_o h 4 [.int 0, .ref m1, .int 4, .ref m3, .int 0, .ref m5, .ref m6, .ref m7, .ref m8, .ref m9, .ref m10, .ref m11, .ref m12, .ref m13, .ref m14, .ref m15, .int 0, .int 0, .int 0, .int 0, .int 0], kb_a G m1 65536 gc4] H := hP
  have hD : va_D A [kb_o h 4 [.int 0, .ref m1, .int 4, .ref m3, .int 0, .ref m5, .ref m6, .ref m7, .ref m8, .ref m9, .ref m10, .ref m11, .ref m12, .ref m13, .ref m14, .ref m15, .int 0, .int 0, .int 0, .int 0, .int 0], kb_a G m1 65536 gc4] := hD
  refine lv_iinc (v := 4) (lv' := [(6, .int 4), (7, .int x1), (0, .ref h), (1, .int x1), (2, .int x2), (3, .int x3), (4, .int x4), (5, .int x5)]) hx hb d_M_feed_124 hl (k := 1) rfl (by decide) (by decide) rfl (fun ls hl => ?_)
  refine lv_goto (tgt := 33) hx hb d_M_feed_127 (by decide) ?_
  refine lv_iload hx hb d_M_feed_33 (lv_at hl 0 rfl) ?_
  refine lv_bipush (v := 20) hx hb d_M_feed_35 (by decide) ?_
  refine lv_icmp_ge (tgt := 130) hx hb d_M_feed_37 (by decide) (fun c9 => absurd c9 (by decide)) (fun c9 => ?_)
  refine lv_iload hx hb d_M_feed_40 (lv_at hl 0 rfl) ?_
  refine lv_iconst (v := 4) hx hb d_M_feed_42 (by decide) ?_
  refine lv_icmp_ge (tgt := 50) hx hb d_M_feed_43 (by decide) (fun c9 => ?_) (fun c9 => absurd (by decide) c9)
  refine lv_iload hx hb d_M_feed_50 (lv_at hl 0 rfl) ?_
  refine lv_bipush (v := 8) hx hb d_M_feed_52 (by decide) ?_
  refine lv_icmp_ge (tgt := 61) hx hb d_M_feed_54 (by decide) (fun c9 => absurd c9 (by decide)) (fun c9 => ?_)
  refine lv_iload_n hx hb d_M_feed_57 rfl (lv_at hl 4 rfl) ?_
  refine lv_goto (tgt := 86) hx hb d_M_feed_58 (by decide) ?_
  refine lv_istore (lv' := [(7, .int x2), (6, .int 4), (0, .ref h), (1, .int x1), (2, .int x2), (3, .int x3), (4, .int x4), (5, .int x5)]) hx hb d_M_feed_86 hl (by decide) rfl (fun ls hl => ?_)
  refine lv_aload_n hx hb d_M_feed_88 rfl (lv_at hl 2 rfl) ?_
  refine va_get (D := G.1) (ci := 4) (v := .ref m1) (C := "TreePressModel") (T := kb_F4) (N := 21) hx hb ht kb_w4 hown hE.1 hP 0 rfl rfl 1 (by decide) (ht _ wd_5836b793) (fun _ h9 => h9) rfl d_M_feed_89 ?_
  refine lv_aload_n hx hb d_M_feed_92 rfl (lv_at hl 2 rfl) ?_
  refine va_get (D := G.1) (ci := 4) (v := .int 4) (C := "TreePressModel") (T := kb_F4) (N := 21) hx hb ht kb_w4 hown hE.1 hP 0 rfl rfl 2 (by decide) (ht _ wd_822be019) (fun _ h9 => h9) rfl d_M_feed_93 ?_
  refine lv_iload hx hb d_M_feed_96 (lv_at hl 0 rfl) ?_
  refine lv_bipush (v := 24) hx hb d_M_feed_98 (by decide) ?_
  refine lv_bipush (v := 8) hx hb d_M_feed_100 (by decide) ?_
  refine lv_iload hx hb d_M_feed_102 (lv_at hl 1 rfl) ?_
  refine lv_iconst (v := 4) hx hb d_M_feed_104 (by decide) ?_
  refine lv_irem hx hb d_M_feed_105 (by decide) ?_
  refine kb_top (y := 0) (by decide) ?_
  refine lv_imul hx hb d_M_feed_106 ?_
  refine kb_top (y := 0) (by decide) ?_
  refine lv_isub hx hb d_M_feed_107 ?_
  refine kb_top (y := 24) (by decide) ?_
  refine lv_ishr hx hb d_M_feed_108 ?_
  refine lv_sipush (v := 255) hx hb d_M_feed_109 (by decide) ?_
  refine lv_iand hx hb d_M_feed_112 ?_
  refine va_iast hx hb hE.1 hP hD hS 1 0 rfl rfl (show ¬ ((4 : Int32) < 0 ∨ 65536 ≤ (4 : Int32).toNatClampNeg) by decide) d_M_feed_113 (fun H locs hP hD hS => ?_)
  have hP : va_P G.1 kb_cl [kb_o h 4 [.int 0, .ref m1, .int 4, .ref m3, .int 0, .ref m5, .ref m6, .ref m7, .ref m8, .ref m9, .ref m10, .ref m11, .ref m12, .ref m13, .ref m14, .ref m15, .int 0, .int 0, .int 0, .int 0, .int 0], kb_a G m1 65536 (upd gc4 4 ((x2 >>> (24 &&& 31)) &&& 255))] H := hP
  have hD : va_D A [kb_o h 4 [.int 0, .ref m1, .int 4, .ref m3, .int 0, .ref m5, .ref m6, .ref m7, .ref m8, .ref m9, .ref m10, .ref m11, .ref m12, .ref m13, .ref m14, .ref m15, .int 0, .int 0, .int 0, .int 0, .int 0], kb_a G m1 65536 (upd gc4 4 ((x2 >>> (24 &&& 31)) &&& 255))] := hD
  generalize (upd gc4 4 ((x2 >>> (24 &&& 31)) &&& 255)) = gc5 at hP hD
  refine lv_aload_n hx hb d_M_feed_114 rfl (lv_at hl 2 rfl) ?_
  refine lv_dup hx hb d_M_feed_115 rfl ?_
  refine va_get (D := G.1) (ci := 4) (v := .int 4) (C := "TreePressModel") (T := kb_F4) (N := 21) hx hb ht kb_w4 hown hE.1 hP 0 rfl rfl 2 (by decide) (ht _ wd_822be019) (fun _ h9 => h9) rfl d_M_feed_116 ?_
  refine lv_iconst (v := 1) hx hb d_M_feed_119 (by decide) ?_
  refine lv_iadd hx hb d_M_feed_120 ?_
  refine kb_top (y := 5) (by decide) ?_
  refine va_put (D := G.1) (ci := 4) (v := .int 5) (ty := .int) (C := "TreePressModel") (T := kb_F4) (N := 21) hx hb ht kb_w4 kb_y4 kb_p4 kb_n4 hown hE.1 hP hD hS 0 rfl rfl 2 (by decide) (ht _ wd_822be019) (fun _ h9 => h9) rfl (by decide +kernel) rfl rfl (Nat.le_of_ble_eq_true rfl) d_M_feed_121 (fun H locs hP hD hS => ?_)
  have hP : va_P G.1 kb_cl [kb_o h 4 [.int 0, .ref m1, .int 5, .ref m3, .int 0, .ref m5, .ref m6, .ref m7, .ref m8, .ref m9, .ref m10, .ref m11, .ref m12, .ref m13, .ref m14, .ref m15, .int 0, .int 0, .int 0, .int 0, .int 0], kb_a G m1 65536 gc5] H := hP
  have hD : va_D A [kb_o h 4 [.int 0, .ref m1, .int 5, .ref m3, .int 0, .ref m5, .ref m6, .ref m7, .ref m8, .ref m9, .ref m10, .ref m11, .ref m12, .ref m13, .ref m14, .ref m15, .int 0, .int 0, .int 0, .int 0, .int 0], kb_a G m1 65536 gc5] := hD
  refine lv_iinc (v := 5) (lv' := [(6, .int 5), (7, .int x2), (0, .ref h), (1, .int x1), (2, .int x2), (3, .int x3), (4, .int x4), (5, .int x5)]) hx hb d_M_feed_124 hl (k := 1) rfl (by decide) (by decide) rfl (fun ls hl => ?_)
  refine lv_goto (tgt := 33) hx hb d_M_feed_127 (by decide) ?_
  refine lv_iload hx hb d_M_feed_33 (lv_at hl 0 rfl) ?_
  refine lv_bipush (v := 20) hx hb d_M_feed_35 (by decide) ?_
  refine lv_icmp_ge (tgt := 130) hx hb d_M_feed_37 (by decide) (fun c9 => absurd c9 (by decide)) (fun c9 => ?_)
  refine lv_iload hx hb d_M_feed_40 (lv_at hl 0 rfl) ?_
  refine lv_iconst (v := 4) hx hb d_M_feed_42 (by decide) ?_
  refine lv_icmp_ge (tgt := 50) hx hb d_M_feed_43 (by decide) (fun c9 => ?_) (fun c9 => absurd (by decide) c9)
  refine lv_iload hx hb d_M_feed_50 (lv_at hl 0 rfl) ?_
  refine lv_bipush (v := 8) hx hb d_M_feed_52 (by decide) ?_
  refine lv_icmp_ge (tgt := 61) hx hb d_M_feed_54 (by decide) (fun c9 => absurd c9 (by decide)) (fun c9 => ?_)
  refine lv_iload_n hx hb d_M_feed_57 rfl (lv_at hl 4 rfl) ?_
  refine lv_goto (tgt := 86) hx hb d_M_feed_58 (by decide) ?_
  refine lv_istore (lv' := [(7, .int x2), (6, .int 5), (0, .ref h), (1, .int x1), (2, .int x2), (3, .int x3), (4, .int x4), (5, .int x5)]) hx hb d_M_feed_86 hl (by decide) rfl (fun ls hl => ?_)
  refine lv_aload_n hx hb d_M_feed_88 rfl (lv_at hl 2 rfl) ?_
  refine va_get (D := G.1) (ci := 4) (v := .ref m1) (C := "TreePressModel") (T := kb_F4) (N := 21) hx hb ht kb_w4 hown hE.1 hP 0 rfl rfl 1 (by decide) (ht _ wd_5836b793) (fun _ h9 => h9) rfl d_M_feed_89 ?_
  refine lv_aload_n hx hb d_M_feed_92 rfl (lv_at hl 2 rfl) ?_
  refine va_get (D := G.1) (ci := 4) (v := .int 5) (C := "TreePressModel") (T := kb_F4) (N := 21) hx hb ht kb_w4 hown hE.1 hP 0 rfl rfl 2 (by decide) (ht _ wd_822be019) (fun _ h9 => h9) rfl d_M_feed_93 ?_
  refine lv_iload hx hb d_M_feed_96 (lv_at hl 0 rfl) ?_
  refine lv_bipush (v := 24) hx hb d_M_feed_98 (by decide) ?_
  refine lv_bipush (v := 8) hx hb d_M_feed_100 (by decide) ?_
  refine lv_iload hx hb d_M_feed_102 (lv_at hl 1 rfl) ?_
  refine lv_iconst (v := 4) hx hb d_M_feed_104 (by decide) ?_
  refine lv_irem hx hb d_M_feed_105 (by decide) ?_
  refine kb_top (y := 1) (by decide) ?_
  refine lv_imul hx hb d_M_feed_106 ?_
  refine kb_top (y := 8) (by decide) ?_
  refine lv_isub hx hb d_M_feed_107 ?_
  refine kb_top (y := 16) (by decide) ?_
  refine lv_ishr hx hb d_M_feed_108 ?_
  refine lv_sipush (v := 255) hx hb d_M_feed_109 (by decide) ?_
  refine lv_iand hx hb d_M_feed_112 ?_
  refine va_iast hx hb hE.1 hP hD hS 1 0 rfl rfl (show ¬ ((5 : Int32) < 0 ∨ 65536 ≤ (5 : Int32).toNatClampNeg) by decide) d_M_feed_113 (fun H locs hP hD hS => ?_)
  have hP : va_P G.1 kb_cl [kb_o h 4 [.int 0, .ref m1, .int 5, .ref m3, .int 0, .ref m5, .ref m6, .ref m7, .ref m8, .ref m9, .ref m10, .ref m11, .ref m12, .ref m13, .ref m14, .ref m15, .int 0, .int 0, .int 0, .int 0, .int 0], kb_a G m1 65536 (upd gc5 5 ((x2 >>> (16 &&& 31)) &&& 255))] H := hP
  have hD : va_D A [kb_o h 4 [.int 0, .ref m1, .int 5, .ref m3, .int 0, .ref m5, .ref m6, .ref m7, .ref m8, .ref m9, .ref m10, .ref m11, .ref m12, .ref m13, .ref m14, .ref m15, .int 0, .int 0, .int 0, .int 0, .int 0], kb_a G m1 65536 (upd gc5 5 ((x2 >>> (16 &&& 31)) &&& 255))] := hD
  generalize (upd gc5 5 ((x2 >>> (16 &&& 31)) &&& 255)) = gc6 at hP hD
  refine lv_aload_n hx hb d_M_feed_114 rfl (lv_at hl 2 rfl) ?_
  refine lv_dup hx hb d_M_feed_115 rfl ?_
  refine va_get (D := G.1) (ci := 4) (v := .int 5) (C := "TreePressModel") (T := kb_F4) (N := 21) hx hb ht kb_w4 hown hE.1 hP 0 rfl rfl 2 (by decide) (ht _ wd_822be019) (fun _ h9 => h9) rfl d_M_feed_116 ?_
  refine lv_iconst (v := 1) hx hb d_M_feed_119 (by decide) ?_
  refine lv_iadd hx hb d_M_feed_120 ?_
  refine kb_top (y := 6) (by decide) ?_
  refine va_put (D := G.1) (ci := 4) (v := .int 6) (ty := .int) (C := "TreePressModel") (T := kb_F4) (N := 21) hx hb ht kb_w4 kb_y4 kb_p4 kb_n4 hown hE.1 hP hD hS 0 rfl rfl 2 (by decide) (ht _ wd_822be019) (fun _ h9 => h9) rfl (by decide +kernel) rfl rfl (Nat.le_of_ble_eq_true rfl) d_M_feed_121 (fun H locs hP hD hS => ?_)
  have hP : va_P G.1 kb_cl [kb_o h 4 [.int 0, .ref m1, .int 6, .ref m3, .int 0, .ref m5, .ref m6, .ref m7, .ref m8, .ref m9, .ref m10, .ref m11, .ref m12, .ref m13, .ref m14, .ref m15, .int 0, .int 0, .int 0, .int 0, .int 0], kb_a G m1 65536 gc6] H := hP
  have hD : va_D A [kb_o h 4 [.int 0, .ref m1, .int 6, .ref m3, .int 0, .ref m5, .ref m6, .ref m7, .ref m8, .ref m9, .ref m10, .ref m11, .ref m12, .ref m13, .ref m14, .ref m15, .int 0, .int 0, .int 0, .int 0, .int 0], kb_a G m1 65536 gc6] := hD
  refine lv_iinc (v := 6) (lv' := [(6, .int 6), (7, .int x2), (0, .ref h), (1, .int x1), (2, .int x2), (3, .int x3), (4, .int x4), (5, .int x5)]) hx hb d_M_feed_124 hl (k := 1) rfl (by decide) (by decide) rfl (fun ls hl => ?_)
  refine lv_goto (tgt := 33) hx hb d_M_feed_127 (by decide) ?_
  refine lv_iload hx hb d_M_feed_33 (lv_at hl 0 rfl) ?_
  refine lv_bipush (v := 20) hx hb d_M_feed_35 (by decide) ?_
  refine lv_icmp_ge (tgt := 130) hx hb d_M_feed_37 (by decide) (fun c9 => absurd c9 (by decide)) (fun c9 => ?_)
  refine lv_iload hx hb d_M_feed_40 (lv_at hl 0 rfl) ?_
  refine lv_iconst (v := 4) hx hb d_M_feed_42 (by decide) ?_
  refine lv_icmp_ge (tgt := 50) hx hb d_M_feed_43 (by decide) (fun c9 => ?_) (fun c9 => absurd (by decide) c9)
  refine lv_iload hx hb d_M_feed_50 (lv_at hl 0 rfl) ?_
  refine lv_bipush (v := 8) hx hb d_M_feed_52 (by decide) ?_
  refine lv_icmp_ge (tgt := 61) hx hb d_M_feed_54 (by decide) (fun c9 => absurd c9 (by decide)) (fun c9 => ?_)
  refine lv_iload_n hx hb d_M_feed_57 rfl (lv_at hl 4 rfl) ?_
  refine lv_goto (tgt := 86) hx hb d_M_feed_58 (by decide) ?_
  refine lv_istore (lv' := [(7, .int x2), (6, .int 6), (0, .ref h), (1, .int x1), (2, .int x2), (3, .int x3), (4, .int x4), (5, .int x5)]) hx hb d_M_feed_86 hl (by decide) rfl (fun ls hl => ?_)
  refine lv_aload_n hx hb d_M_feed_88 rfl (lv_at hl 2 rfl) ?_
  refine va_get (D := G.1) (ci := 4) (v := .ref m1) (C := "TreePressModel") (T := kb_F4) (N := 21) hx hb ht kb_w4 hown hE.1 hP 0 rfl rfl 1 (by decide) (ht _ wd_5836b793) (fun _ h9 => h9) rfl d_M_feed_89 ?_
  refine lv_aload_n hx hb d_M_feed_92 rfl (lv_at hl 2 rfl) ?_
  refine va_get (D := G.1) (ci := 4) (v := .int 6) (C := "TreePressModel") (T := kb_F4) (N := 21) hx hb ht kb_w4 hown hE.1 hP 0 rfl rfl 2 (by decide) (ht _ wd_822be019) (fun _ h9 => h9) rfl d_M_feed_93 ?_
  refine lv_iload hx hb d_M_feed_96 (lv_at hl 0 rfl) ?_
  refine lv_bipush (v := 24) hx hb d_M_feed_98 (by decide) ?_
  refine lv_bipush (v := 8) hx hb d_M_feed_100 (by decide) ?_
  refine lv_iload hx hb d_M_feed_102 (lv_at hl 1 rfl) ?_
  refine lv_iconst (v := 4) hx hb d_M_feed_104 (by decide) ?_
  refine lv_irem hx hb d_M_feed_105 (by decide) ?_
  refine kb_top (y := 2) (by decide) ?_
  refine lv_imul hx hb d_M_feed_106 ?_
  refine kb_top (y := 16) (by decide) ?_
  refine lv_isub hx hb d_M_feed_107 ?_
  refine kb_top (y := 8) (by decide) ?_
  refine lv_ishr hx hb d_M_feed_108 ?_
  refine lv_sipush (v := 255) hx hb d_M_feed_109 (by decide) ?_
  refine lv_iand hx hb d_M_feed_112 ?_
  refine va_iast hx hb hE.1 hP hD hS 1 0 rfl rfl (show ¬ ((6 : Int32) < 0 ∨ 65536 ≤ (6 : Int32).toNatClampNeg) by decide) d_M_feed_113 (fun H locs hP hD hS => ?_)
  have hP : va_P G.1 kb_cl [kb_o h 4 [.int 0, .ref m1, .int 6, .ref m3, .int 0, .ref m5, .ref m6, .ref m7, .ref m8, .ref m9, .ref m10, .ref m11, .ref m12, .ref m13, .ref m14, .ref m15, .int 0, .int 0, .int 0, .int 0, .int 0], kb_a G m1 65536 (upd gc6 6 ((x2 >>> (8 &&& 31)) &&& 255))] H := hP
  have hD : va_D A [kb_o h 4 [.int 0, .ref m1, .int 6, .ref m3, .int 0, .ref m5, .ref m6, .ref m7, .ref m8, .ref m9, .ref m10, .ref m11, .ref m12, .ref m13, .ref m14, .ref m15, .int 0, .int 0, .int 0, .int 0, .int 0], kb_a G m1 65536 (upd gc6 6 ((x2 >>> (8 &&& 31)) &&& 255))] := hD
  generalize (upd gc6 6 ((x2 >>> (8 &&& 31)) &&& 255)) = gc7 at hP hD
  refine lv_aload_n hx hb d_M_feed_114 rfl (lv_at hl 2 rfl) ?_
  refine lv_dup hx hb d_M_feed_115 rfl ?_
  refine va_get (D := G.1) (ci := 4) (v := .int 6) (C := "TreePressModel") (T := kb_F4) (N := 21) hx hb ht kb_w4 hown hE.1 hP 0 rfl rfl 2 (by decide) (ht _ wd_822be019) (fun _ h9 => h9) rfl d_M_feed_116 ?_
  refine lv_iconst (v := 1) hx hb d_M_feed_119 (by decide) ?_
  refine lv_iadd hx hb d_M_feed_120 ?_
  refine kb_top (y := 7) (by decide) ?_
  refine va_put (D := G.1) (ci := 4) (v := .int 7) (ty := .int) (C := "TreePressModel") (T := kb_F4) (N := 21) hx hb ht kb_w4 kb_y4 kb_p4 kb_n4 hown hE.1 hP hD hS 0 rfl rfl 2 (by decide) (ht _ wd_822be019) (fun _ h9 => h9) rfl (by decide +kernel) rfl rfl (Nat.le_of_ble_eq_true rfl) d_M_feed_121 (fun H locs hP hD hS => ?_)
  have hP : va_P G.1 kb_cl [kb_o h 4 [.int 0, .ref m1, .int 7, .ref m3, .int 0, .ref m5, .ref m6, .ref m7, .ref m8, .ref m9, .ref m10, .ref m11, .ref m12, .ref m13, .ref m14, .ref m15, .int 0, .int 0, .int 0, .int 0, .int 0], kb_a G m1 65536 gc7] H := hP
  have hD : va_D A [kb_o h 4 [.int 0, .ref m1, .int 7, .ref m3, .int 0, .ref m5, .ref m6, .ref m7, .ref m8, .ref m9, .ref m10, .ref m11, .ref m12, .ref m13, .ref m14, .ref m15, .int 0, .int 0, .int 0, .int 0, .int 0], kb_a G m1 65536 gc7] := hD
  refine lv_iinc (v := 7) (lv' := [(6, .int 7), (7, .int x2), (0, .ref h), (1, .int x1), (2, .int x2), (3, .int x3), (4, .int x4), (5, .int x5)]) hx hb d_M_feed_124 hl (k := 1) rfl (by decide) (by decide) rfl (fun ls hl => ?_)
  refine lv_goto (tgt := 33) hx hb d_M_feed_127 (by decide) ?_
  refine lv_iload hx hb d_M_feed_33 (lv_at hl 0 rfl) ?_
  refine lv_bipush (v := 20) hx hb d_M_feed_35 (by decide) ?_
  refine lv_icmp_ge (tgt := 130) hx hb d_M_feed_37 (by decide) (fun c9 => absurd c9 (by decide)) (fun c9 => ?_)
  refine lv_iload hx hb d_M_feed_40 (lv_at hl 0 rfl) ?_
  refine lv_iconst (v := 4) hx hb d_M_feed_42 (by decide) ?_
  refine lv_icmp_ge (tgt := 50) hx hb d_M_feed_43 (by decide) (fun c9 => ?_) (fun c9 => absurd (by decide) c9)
  refine lv_iload hx hb d_M_feed_50 (lv_at hl 0 rfl) ?_
  refine lv_bipush (v := 8) hx hb d_M_feed_52 (by decide) ?_
  refine lv_icmp_ge (tgt := 61) hx hb d_M_feed_54 (by decide) (fun c9 => absurd c9 (by decide)) (fun c9 => ?_)
  refine lv_iload_n hx hb d_M_feed_57 rfl (lv_at hl 4 rfl) ?_
  refine lv_goto (tgt := 86) hx hb d_M_feed_58 (by decide) ?_
  refine lv_istore (lv' := [(7, .int x2), (6, .int 7), (0, .ref h), (1, .int x1), (2, .int x2), (3, .int x3), (4, .int x4), (5, .int x5)]) hx hb d_M_feed_86 hl (by decide) rfl (fun ls hl => ?_)
  refine lv_aload_n hx hb d_M_feed_88 rfl (lv_at hl 2 rfl) ?_
  refine va_get (D := G.1) (ci := 4) (v := .ref m1) (C := "TreePressModel") (T := kb_F4) (N := 21) hx hb ht kb_w4 hown hE.1 hP 0 rfl rfl 1 (by decide) (ht _ wd_5836b793) (fun _ h9 => h9) rfl d_M_feed_89 ?_
  refine lv_aload_n hx hb d_M_feed_92 rfl (lv_at hl 2 rfl) ?_
  refine va_get (D := G.1) (ci := 4) (v := .int 7) (C := "TreePressModel") (T := kb_F4) (N := 21) hx hb ht kb_w4 hown hE.1 hP 0 rfl rfl 2 (by decide) (ht _ wd_822be019) (fun _ h9 => h9) rfl d_M_feed_93 ?_
  refine lv_iload hx hb d_M_feed_96 (lv_at hl 0 rfl) ?_
  refine lv_bipush (v := 24) hx hb d_M_feed_98 (by decide) ?_
  refine lv_bipush (v := 8) hx hb d_M_feed_100 (by decide) ?_
  refine lv_iload hx hb d_M_feed_102 (lv_at hl 1 rfl) ?_
  refine lv_iconst (v := 4) hx hb d_M_feed_104 (by decide) ?_
  refine lv_irem hx hb d_M_feed_105 (by decide) ?_
  refine kb_top (y := 3) (by decide) ?_
  refine lv_imul hx hb d_M_feed_106 ?_
  refine kb_top (y := 24) (by decide) ?_
  refine lv_isub hx hb d_M_feed_107 ?_
  refine kb_top (y := 0) (by decide) ?_
  refine lv_ishr hx hb d_M_feed_108 ?_
  refine lv_sipush (v := 255) hx hb d_M_feed_109 (by decide) ?_
  refine lv_iand hx hb d_M_feed_112 ?_
  refine va_iast hx hb hE.1 hP hD hS 1 0 rfl rfl (show ¬ ((7 : Int32) < 0 ∨ 65536 ≤ (7 : Int32).toNatClampNeg) by decide) d_M_feed_113 (fun H locs hP hD hS => ?_)
  have hP : va_P G.1 kb_cl [kb_o h 4 [.int 0, .ref m1, .int 7, .ref m3, .int 0, .ref m5, .ref m6, .ref m7, .ref m8, .ref m9, .ref m10, .ref m11, .ref m12, .ref m13, .ref m14, .ref m15, .int 0, .int 0, .int 0, .int 0, .int 0], kb_a G m1 65536 (upd gc7 7 ((x2 >>> (0 &&& 31)) &&& 255))] H := hP
  have hD : va_D A [kb_o h 4 [.int 0, .ref m1, .int 7, .ref m3, .int 0, .ref m5, .ref m6, .ref m7, .ref m8, .ref m9, .ref m10, .ref m11, .ref m12, .ref m13, .ref m14, .ref m15, .int 0, .int 0, .int 0, .int 0, .int 0], kb_a G m1 65536 (upd gc7 7 ((x2 >>> (0 &&& 31)) &&& 255))] := hD
  generalize (upd gc7 7 ((x2 >>> (0 &&& 31)) &&& 255)) = gc8 at hP hD
  refine lv_aload_n hx hb d_M_feed_114 rfl (lv_at hl 2 rfl) ?_
  refine lv_dup hx hb d_M_feed_115 rfl ?_
  refine va_get (D := G.1) (ci := 4) (v := .int 7) (C := "TreePressModel") (T := kb_F4) (N := 21) hx hb ht kb_w4 hown hE.1 hP 0 rfl rfl 2 (by decide) (ht _ wd_822be019) (fun _ h9 => h9) rfl d_M_feed_116 ?_
  refine lv_iconst (v := 1) hx hb d_M_feed_119 (by decide) ?_
  refine lv_iadd hx hb d_M_feed_120 ?_
  refine kb_top (y := 8) (by decide) ?_
  refine va_put (D := G.1) (ci := 4) (v := .int 8) (ty := .int) (C := "TreePressModel") (T := kb_F4) (N := 21) hx hb ht kb_w4 kb_y4 kb_p4 kb_n4 hown hE.1 hP hD hS 0 rfl rfl 2 (by decide) (ht _ wd_822be019) (fun _ h9 => h9) rfl (by decide +kernel) rfl rfl (Nat.le_of_ble_eq_true rfl) d_M_feed_121 (fun H locs hP hD hS => ?_)
  have hP : va_P G.1 kb_cl [kb_o h 4 [.int 0, .ref m1, .int 8, .ref m3, .int 0, .ref m5, .ref m6, .ref m7, .ref m8, .ref m9, .ref m10, .ref m11, .ref m12, .ref m13, .ref m14, .ref m15, .int 0, .int 0, .int 0, .int 0, .int 0], kb_a G m1 65536 gc8] H := hP
  have hD : va_D A [kb_o h 4 [.int 0, .ref m1, .int 8, .ref m3, .int 0, .ref m5, .ref m6, .ref m7, .ref m8, .ref m9, .ref m10, .ref m11, .ref m12, .ref m13, .ref m14, .ref m15, .int 0, .int 0, .int 0, .int 0, .int 0], kb_a G m1 65536 gc8] := hD
  refine lv_iinc (v := 8) (lv' := [(6, .int 8), (7, .int x2), (0, .ref h), (1, .int x1), (2, .int x2), (3, .int x3), (4, .int x4), (5, .int x5)]) hx hb d_M_feed_124 hl (k := 1) rfl (by decide) (by decide) rfl (fun ls hl => ?_)
  refine lv_goto (tgt := 33) hx hb d_M_feed_127 (by decide) ?_
  refine lv_iload hx hb d_M_feed_33 (lv_at hl 0 rfl) ?_
  refine lv_bipush (v := 20) hx hb d_M_feed_35 (by decide) ?_
  refine lv_icmp_ge (tgt := 130) hx hb d_M_feed_37 (by decide) (fun c9 => absurd c9 (by decide)) (fun c9 => ?_)
  refine lv_iload hx hb d_M_feed_40 (lv_at hl 0 rfl) ?_
  refine lv_iconst (v := 4) hx hb d_M_feed_42 (by decide) ?_
  refine lv_icmp_ge (tgt := 50) hx hb d_M_feed_43 (by decide) (fun c9 => ?_) (fun c9 => absurd (by decide) c9)
  refine lv_iload hx hb d_M_feed_50 (lv_at hl 0 rfl) ?_
  refine lv_bipush (v := 8) hx hb d_M_feed_52 (by decide) ?_
  refine lv_icmp_ge (tgt := 61) hx hb d_M_feed_54 (by decide) (fun c9 => ?_) (fun c9 => absurd (by decide) c9)
  refine lv_iload hx hb d_M_feed_61 (lv_at hl 0 rfl) ?_
  refine lv_bipush (v := 12) hx hb d_M_feed_63 (by decide) ?_
  refine lv_icmp_ge (tgt := 72) hx hb d_M_feed_65 (by decide) (fun c9 => absurd c9 (by decide)) (fun c9 => ?_)
  refine lv_iload_n hx hb d_M_feed_68 rfl (lv_at hl 5 rfl) ?_
  refine lv_goto (tgt := 86) hx hb d_M_feed_69 (by decide) ?_
  refine lv_istore (lv' := [(7, .int x3), (6, .int 8), (0, .ref h), (1, .int x1), (2, .int x2), (3, .int x3), (4, .int x4), (5, .int x5)]) hx hb d_M_feed_86 hl (by decide) rfl (fun ls hl => ?_)
  refine lv_aload_n hx hb d_M_feed_88 rfl (lv_at hl 2 rfl) ?_
  refine va_get (D := G.1) (ci := 4) (v := .ref m1) (C := "TreePressModel") (T := kb_F4) (N := 21) hx hb ht kb_w4 hown hE.1 hP 0 rfl rfl 1 (by decide) (ht _ wd_5836b793) (fun _ h9 => h9) rfl d_M_feed_89 ?_
  refine lv_aload_n hx hb d_M_feed_92 rfl (lv_at hl 2 rfl) ?_
  refine va_get (D := G.1) (ci := 4) (v := .int 8) (C := "TreePressModel") (T := kb_F4) (N := 21) hx hb ht kb_w4 hown hE.1 hP 0 rfl rfl 2 (by decide) (ht _ wd_822be019) (fun _ h9 => h9) rfl d_M_feed_93 ?_
  refine lv_iload hx hb d_M_feed_96 (lv_at hl 0 rfl) ?_
  refine lv_bipush (v := 24) hx hb d_M_feed_98 (by decide) ?_
  refine lv_bipush (v := 8) hx hb d_M_feed_100 (by decide) ?_
  refine lv_iload hx hb d_M_feed_102 (lv_at hl 1 rfl) ?_
  refine lv_iconst (v := 4) hx hb d_M_feed_104 (by decide) ?_
  refine lv_irem hx hb d_M_feed_105 (by decide) ?_
  refine kb_top (y := 0) (by decide) ?_
  refine lv_imul hx hb d_M_feed_106 ?_
  refine kb_top (y := 0) (by decide) ?_
  refine lv_isub hx hb d_M_feed_107 ?_
  refine kb_top (y := 24) (by decide) ?_
  refine lv_ishr hx hb d_M_feed_108 ?_
  refine lv_sipush (v := 255) hx hb d_M_feed_109 (by decide) ?_
  refine lv_iand hx hb d_M_feed_112 ?_
  refine va_iast hx hb hE.1 hP hD hS 1 0 rfl rfl (show ¬ ((8 : Int32) < 0 ∨ 65536 ≤ (8 : Int32).toNatClampNeg) by decide) d_M_feed_113 (fun H locs hP hD hS => ?_)
  have hP : va_P G.1 kb_cl [kb_o h 4 [.int 0, .ref m1, .int 8, .ref m3, .int 0, .ref m5, .ref m6, .ref m7, .ref m8, .ref m9, .ref m10, .ref m11, .ref m12, .ref m13, .ref m14, .ref m15, .int 0, .int 0, .int 0, .int 0, .int 0], kb_a G m1 65536 (upd gc8 8 ((x3 >>> (24 &&& 31)) &&& 255))] H := hP
  have hD : va_D A [kb_o h 4 [.int 0, .ref m1, .int 8, .ref m3, .int 0, .ref m5, .ref m6, .ref m7, .ref m8, .ref m9, .ref m10, .ref m11, .ref m12, .ref m13, .ref m14, .ref m15, .int 0, .int 0, .int 0, .int 0, .int 0], kb_a G m1 65536 (upd gc8 8 ((x3 >>> (24 &&& 31)) &&& 255))] := hD
  generalize (upd gc8 8 ((x3 >>> (24 &&& 31)) &&& 255)) = gc9 at hP hD
  refine lv_aload_n hx hb d_M_feed_114 rfl (lv_at hl 2 rfl) ?_
  refine lv_dup hx hb d_M_feed_115 rfl ?_
  refine va_get (D := G.1) (ci := 4) (v := .int 8) (C := "TreePressModel") (T := kb_F4) (N := 21) hx hb ht kb_w4 hown hE.1 hP 0 rfl rfl 2 (by decide) (ht _ wd_822be019) (fun _ h9 => h9) rfl d_M_feed_116 ?_
  refine lv_iconst (v := 1) hx hb d_M_feed_119 (by decide) ?_
  refine lv_iadd hx hb d_M_feed_120 ?_
  refine kb_top (y := 9) (by decide) ?_
  refine va_put (D := G.1) (ci := 4) (v := .int 9) (ty := .int) (C := "TreePressModel") (T := kb_F4) (N := 21) hx hb ht kb_w4 kb_y4 kb_p4 kb_n4 hown hE.1 hP hD hS 0 rfl rfl 2 (by decide) (ht _ wd_822be019) (fun _ h9 => h9) rfl (by decide +kernel) rfl rfl (Nat.le_of_ble_eq_true rfl) d_M_feed_121 (fun H locs hP hD hS => ?_)
  have hP : va_P G.1 kb_cl [kb_o h 4 [.int 0, .ref m1, .int 9, .ref m3, .int 0, .ref m5, .ref m6, .ref m7, .ref m8, .ref m9, .ref m10, .ref m11, .ref m12, .ref m13, .ref m14, .ref m15, .int 0, .int 0, .int 0, .int 0, .int 0], kb_a G m1 65536 gc9] H := hP
  have hD : va_D A [kb_o h 4 [.int 0, .ref m1, .int 9, .ref m3, .int 0, .ref m5, .ref m6, .ref m7, .ref m8, .ref m9, .ref m10, .ref m11, .ref m12, .ref m13, .ref m14, .ref m15, .int 0, .int 0, .int 0, .int 0, .int 0], kb_a G m1 65536 gc9] := hD
  refine lv_iinc (v := 9) (lv' := [(6, .int 9), (7, .int x3), (0, .ref h), (1, .int x1), (2, .int x2), (3, .int x3), (4, .int x4), (5, .int x5)]) hx hb d_M_feed_124 hl (k := 1) rfl (by decide) (by decide) rfl (fun ls hl => ?_)
  refine lv_goto (tgt := 33) hx hb d_M_feed_127 (by decide) ?_
  refine lv_iload hx hb d_M_feed_33 (lv_at hl 0 rfl) ?_
  refine lv_bipush (v := 20) hx hb d_M_feed_35 (by decide) ?_
  refine lv_icmp_ge (tgt := 130) hx hb d_M_feed_37 (by decide) (fun c9 => absurd c9 (by decide)) (fun c9 => ?_)
  refine lv_iload hx hb d_M_feed_40 (lv_at hl 0 rfl) ?_
  refine lv_iconst (v := 4) hx hb d_M_feed_42 (by decide) ?_
  refine lv_icmp_ge (tgt := 50) hx hb d_M_feed_43 (by decide) (fun c9 => ?_) (fun c9 => absurd (by decide) c9)
  refine lv_iload hx hb d_M_feed_50 (lv_at hl 0 rfl) ?_
  refine lv_bipush (v := 8) hx hb d_M_feed_52 (by decide) ?_
  refine lv_icmp_ge (tgt := 61) hx hb d_M_feed_54 (by decide) (fun c9 => ?_) (fun c9 => absurd (by decide) c9)
  refine lv_iload hx hb d_M_feed_61 (lv_at hl 0 rfl) ?_
  refine lv_bipush (v := 12) hx hb d_M_feed_63 (by decide) ?_
  refine lv_icmp_ge (tgt := 72) hx hb d_M_feed_65 (by decide) (fun c9 => absurd c9 (by decide)) (fun c9 => ?_)
  refine lv_iload_n hx hb d_M_feed_68 rfl (lv_at hl 5 rfl) ?_
  refine lv_goto (tgt := 86) hx hb d_M_feed_69 (by decide) ?_
  refine lv_istore (lv' := [(7, .int x3), (6, .int 9), (0, .ref h), (1, .int x1), (2, .int x2), (3, .int x3), (4, .int x4), (5, .int x5)]) hx hb d_M_feed_86 hl (by decide) rfl (fun ls hl => ?_)
  refine lv_aload_n hx hb d_M_feed_88 rfl (lv_at hl 2 rfl) ?_
  refine va_get (D := G.1) (ci := 4) (v := .ref m1) (C := "TreePressModel") (T := kb_F4) (N := 21) hx hb ht kb_w4 hown hE.1 hP 0 rfl rfl 1 (by decide) (ht _ wd_5836b793) (fun _ h9 => h9) rfl d_M_feed_89 ?_
  refine lv_aload_n hx hb d_M_feed_92 rfl (lv_at hl 2 rfl) ?_
  refine va_get (D := G.1) (ci := 4) (v := .int 9) (C := "TreePressModel") (T := kb_F4) (N := 21) hx hb ht kb_w4 hown hE.1 hP 0 rfl rfl 2 (by decide) (ht _ wd_822be019) (fun _ h9 => h9) rfl d_M_feed_93 ?_
  refine lv_iload hx hb d_M_feed_96 (lv_at hl 0 rfl) ?_
  refine lv_bipush (v := 24) hx hb d_M_feed_98 (by decide) ?_
  refine lv_bipush (v := 8) hx hb d_M_feed_100 (by decide) ?_
  refine lv_iload hx hb d_M_feed_102 (lv_at hl 1 rfl) ?_
  refine lv_iconst (v := 4) hx hb d_M_feed_104 (by decide) ?_
  refine lv_irem hx hb d_M_feed_105 (by decide) ?_
  refine kb_top (y := 1) (by decide) ?_
  refine lv_imul hx hb d_M_feed_106 ?_
  refine kb_top (y := 8) (by decide) ?_
  refine lv_isub hx hb d_M_feed_107 ?_
  refine kb_top (y := 16) (by decide) ?_
  refine lv_ishr hx hb d_M_feed_108 ?_
  refine lv_sipush (v := 255) hx hb d_M_feed_109 (by decide) ?_
  refine lv_iand hx hb d_M_feed_112 ?_
  refine va_iast hx hb hE.1 hP hD hS 1 0 rfl rfl (show ¬ ((9 : Int32) < 0 ∨ 65536 ≤ (9 : Int32).toNatClampNeg) by decide) d_M_feed_113 (fun H locs hP hD hS => ?_)
  have hP : va_P G.1 kb_cl [kb_o h 4 [.int 0, .ref m1, .int 9, .ref m3, .int 0, .ref m5, .ref m6, .ref m7, .ref m8, .ref m9, .ref m10, .ref m11, .ref m12, .ref m13, .ref m14, .ref m15, .int 0, .int 0, .int 0, .int 0, .int 0], kb_a G m1 65536 (upd gc9 9 ((x3 >>> (16 &&& 31)) &&& 255))] H := hP
  have hD : va_D A [kb_o h 4 [.int 0, .ref m1, .int 9, .ref m3, .int 0, .ref m5, .ref m6, .ref m7, .ref m8, .ref m9, .ref m10, .ref m11, .ref m12, .ref m13, .ref m14, .ref m15, .int 0, .int 0, .int 0, .int 0, .int 0], kb_a G m1 65536 (upd gc9 9 ((x3 >>> (16 &&& 31)) &&& 255))] := hD
  generalize (upd gc9 9 ((x3 >>> (16 &&& 31)) &&& 255)) = gc10 at hP hD
  refine lv_aload_n hx hb d_M_feed_114 rfl (lv_at hl 2 rfl) ?_
  refine lv_dup hx hb d_M_feed_115 rfl ?_
  refine va_get (D := G.1) (ci := 4) (v := .int 9) (C := "TreePressModel") (T := kb_F4) (N := 21) hx hb ht kb_w4 hown hE.1 hP 0 rfl rfl 2 (by decide) (ht _ wd_822be019) (fun _ h9 => h9) rfl d_M_feed_116 ?_
  refine lv_iconst (v := 1) hx hb d_M_feed_119 (by decide) ?_
  refine lv_iadd hx hb d_M_feed_120 ?_
  refine kb_top (y := 10) (by decide) ?_
  refine va_put (D := G.1) (ci := 4) (v := .int 10) (ty := .int) (C := "TreePressModel") (T := kb_F4) (N := 21) hx hb ht kb_w4 kb_y4 kb_p4 kb_n4 hown hE.1 hP hD hS 0 rfl rfl 2 (by decide) (ht _ wd_822be019) (fun _ h9 => h9) rfl (by decide +kernel) rfl rfl (Nat.le_of_ble_eq_true rfl) d_M_feed_121 (fun H locs hP hD hS => ?_)
  have hP : va_P G.1 kb_cl [kb_o h 4 [.int 0, .ref m1, .int 10, .ref m3, .int 0, .ref m5, .ref m6, .ref m7, .ref m8, .ref m9, .ref m10, .ref m11, .ref m12, .ref m13, .ref m14, .ref m15, .int 0, .int 0, .int 0, .int 0, .int 0], kb_a G m1 65536 gc10] H := hP
  have hD : va_D A [kb_o h 4 [.int 0, .ref m1, .int 10, .ref m3, .int 0, .ref m5, .ref m6, .ref m7, .ref m8, .ref m9, .ref m10, .ref m11, .ref m12, .ref m13, .ref m14, .ref m15, .int 0, .int 0, .int 0, .int 0, .int 0], kb_a G m1 65536 gc10] := hD
  refine lv_iinc (v := 10) (lv' := [(6, .int 10), (7, .int x3), (0, .ref h), (1, .int x1), (2, .int x2), (3, .int x3), (4, .int x4), (5, .int x5)]) hx hb d_M_feed_124 hl (k := 1) rfl (by decide) (by decide) rfl (fun ls hl => ?_)
  refine lv_goto (tgt := 33) hx hb d_M_feed_127 (by decide) ?_
  refine lv_iload hx hb d_M_feed_33 (lv_at hl 0 rfl) ?_
  refine lv_bipush (v := 20) hx hb d_M_feed_35 (by decide) ?_
  refine lv_icmp_ge (tgt := 130) hx hb d_M_feed_37 (by decide) (fun c9 => absurd c9 (by decide)) (fun c9 => ?_)
  refine lv_iload hx hb d_M_feed_40 (lv_at hl 0 rfl) ?_
  refine lv_iconst (v := 4) hx hb d_M_feed_42 (by decide) ?_
  refine lv_icmp_ge (tgt := 50) hx hb d_M_feed_43 (by decide) (fun c9 => ?_) (fun c9 => absurd (by decide) c9)
  refine lv_iload hx hb d_M_feed_50 (lv_at hl 0 rfl) ?_
  refine lv_bipush (v := 8) hx hb d_M_feed_52 (by decide) ?_
  refine lv_icmp_ge (tgt := 61) hx hb d_M_feed_54 (by decide) (fun c9 => ?_) (fun c9 => absurd (by decide) c9)
  refine lv_iload hx hb d_M_feed_61 (lv_at hl 0 rfl) ?_
  refine lv_bipush (v := 12) hx hb d_M_feed_63 (by decide) ?_
  refine lv_icmp_ge (tgt := 72) hx hb d_M_feed_65 (by decide) (fun c9 => absurd c9 (by decide)) (fun c9 => ?_)
  refine lv_iload_n hx hb d_M_feed_68 rfl (lv_at hl 5 rfl) ?_
  refine lv_goto (tgt := 86) hx hb d_M_feed_69 (by decide) ?_
  refine lv_istore (lv' := [(7, .int x3), (6, .int 10), (0, .ref h), (1, .int x1), (2, .int x2), (3, .int x3), (4, .int x4), (5, .int x5)]) hx hb d_M_feed_86 hl (by decide) rfl (fun ls hl => ?_)
  refine lv_aload_n hx hb d_M_feed_88 rfl (lv_at hl 2 rfl) ?_
  refine va_get (D := G.1) (ci := 4) (v := .ref m1) (C := "TreePressModel") (T := kb_F4) (N := 21) hx hb ht kb_w4 hown hE.1 hP 0 rfl rfl 1 (by decide) (ht _ wd_5836b793) (fun _ h9 => h9) rfl d_M_feed_89 ?_
  refine lv_aload_n hx hb d_M_feed_92 rfl (lv_at hl 2 rfl) ?_
  refine va_get (D := G.1) (ci := 4) (v := .int 10) (C := "TreePressModel") (T := kb_F4) (N := 21) hx hb ht kb_w4 hown hE.1 hP 0 rfl rfl 2 (by decide) (ht _ wd_822be019) (fun _ h9 => h9) rfl d_M_feed_93 ?_
  refine lv_iload hx hb d_M_feed_96 (lv_at hl 0 rfl) ?_
  refine lv_bipush (v := 24) hx hb d_M_feed_98 (by decide) ?_
  refine lv_bipush (v := 8) hx hb d_M_feed_100 (by decide) ?_
  refine lv_iload hx hb d_M_feed_102 (lv_at hl 1 rfl) ?_
  refine lv_iconst (v := 4) hx hb d_M_feed_104 (by decide) ?_
  refine lv_irem hx hb d_M_feed_105 (by decide) ?_
  refine kb_top (y := 2) (by decide) ?_
  refine lv_imul hx hb d_M_feed_106 ?_
  refine kb_top (y := 16) (by decide) ?_
  refine lv_isub hx hb d_M_feed_107 ?_
  refine kb_top (y := 8) (by decide) ?_
  refine lv_ishr hx hb d_M_feed_108 ?_
  refine lv_sipush (v := 255) hx hb d_M_feed_109 (by decide) ?_
  refine lv_iand hx hb d_M_feed_112 ?_
  refine va_iast hx hb hE.1 hP hD hS 1 0 rfl rfl (show ¬ ((10 : Int32) < 0 ∨ 65536 ≤ (10 : Int32).toNatClampNeg) by decide) d_M_feed_113 (fun H locs hP hD hS => ?_)
  have hP : va_P G.1 kb_cl [kb_o h 4 [.int 0, .ref m1, .int 10, .ref m3, .int 0, .ref m5, .ref m6, .ref m7, .ref m8, .ref m9, .ref m10, .ref m11, .ref m12, .ref m13, .ref m14, .ref m15, .int 0, .int 0, .int 0, .int 0, .int 0], kb_a G m1 65536 (upd gc10 10 ((x3 >>> (8 &&& 31)) &&& 255))] H := hP
  have hD : va_D A [kb_o h 4 [.int 0, .ref m1, .int 10, .ref m3, .int 0, .ref m5, .ref m6, .ref m7, .ref m8, .ref m9, .ref m10, .ref m11, .ref m12, .ref m13, .ref m14, .ref m15, .int 0, .int 0, .int 0, .int 0, .int 0], kb_a G m1 65536 (upd gc10 10 ((x3 >>> (8 &&& 31)) &&& 255))] := hD
  generalize (upd gc10 10 ((x3 >>> (8 &&& 31)) &&& 255)) = gc11 at hP hD
  refine lv_aload_n hx hb d_M_feed_114 rfl (lv_at hl 2 rfl) ?_
  refine lv_dup hx hb d_M_feed_115 rfl ?_
  refine va_get (D := G.1) (ci := 4) (v := .int 10) (C := "TreePressModel") (T := kb_F4) (N := 21) hx hb ht kb_w4 hown hE.1 hP 0 rfl rfl 2 (by decide) (ht _ wd_822be019) (fun _ h9 => h9) rfl d_M_feed_116 ?_
  refine lv_iconst (v := 1) hx hb d_M_feed_119 (by decide) ?_
  refine lv_iadd hx hb d_M_feed_120 ?_
  refine kb_top (y := 11) (by decide) ?_
  refine va_put (D := G.1) (ci := 4) (v := .int 11) (ty := .int) (C := "TreePressModel") (T := kb_F4) (N := 21) hx hb ht kb_w4 kb_y4 kb_p4 kb_n4 hown hE.1 hP hD hS 0 rfl rfl 2 (by decide) (ht _ wd_822be019) (fun _ h9 => h9) rfl (by decide +kernel) rfl rfl (Nat.le_of_ble_eq_true rfl) d_M_feed_121 (fun H locs hP hD hS => ?_)
  have hP : va_P G.1 kb_cl [kb_o h 4 [.int 0, .ref m1, .int 11, .ref m3, .int 0, .ref m5, .ref m6, .ref m7, .ref m8, .ref m9, .ref m10, .ref m11, .ref m12, .ref m13, .ref m14, .ref m15, .int 0, .int 0, .int 0, .int 0, .int 0], kb_a G m1 65536 gc11] H := hP
  have hD : va_D A [kb_o h 4 [.int 0, .ref m1, .int 11, .ref m3, .int 0, .ref m5, .ref m6, .ref m7, .ref m8, .ref m9, .ref m10, .ref m11, .ref m12, .ref m13, .ref m14, .ref m15, .int 0, .int 0, .int 0, .int 0, .int 0], kb_a G m1 65536 gc11] := hD
  refine lv_iinc (v := 11) (lv' := [(6, .int 11), (7, .int x3), (0, .ref h), (1, .int x1), (2, .int x2), (3, .int x3), (4, .int x4), (5, .int x5)]) hx hb d_M_feed_124 hl (k := 1) rfl (by decide) (by decide) rfl (fun ls hl => ?_)
  refine lv_goto (tgt := 33) hx hb d_M_feed_127 (by decide) ?_
  refine lv_iload hx hb d_M_feed_33 (lv_at hl 0 rfl) ?_
  refine lv_bipush (v := 20) hx hb d_M_feed_35 (by decide) ?_
  refine lv_icmp_ge (tgt := 130) hx hb d_M_feed_37 (by decide) (fun c9 => absurd c9 (by decide)) (fun c9 => ?_)
  refine lv_iload hx hb d_M_feed_40 (lv_at hl 0 rfl) ?_
  refine lv_iconst (v := 4) hx hb d_M_feed_42 (by decide) ?_
  refine lv_icmp_ge (tgt := 50) hx hb d_M_feed_43 (by decide) (fun c9 => ?_) (fun c9 => absurd (by decide) c9)
  refine lv_iload hx hb d_M_feed_50 (lv_at hl 0 rfl) ?_
  refine lv_bipush (v := 8) hx hb d_M_feed_52 (by decide) ?_
  refine lv_icmp_ge (tgt := 61) hx hb d_M_feed_54 (by decide) (fun c9 => ?_) (fun c9 => absurd (by decide) c9)
  refine lv_iload hx hb d_M_feed_61 (lv_at hl 0 rfl) ?_
  refine lv_bipush (v := 12) hx hb d_M_feed_63 (by decide) ?_
  refine lv_icmp_ge (tgt := 72) hx hb d_M_feed_65 (by decide) (fun c9 => absurd c9 (by decide)) (fun c9 => ?_)
  refine lv_iload_n hx hb d_M_feed_68 rfl (lv_at hl 5 rfl) ?_
  refine lv_goto (tgt := 86) hx hb d_M_feed_69 (by decide) ?_
  refine lv_istore (lv' := [(7, .int x3), (6, .int 11), (0, .ref h), (1, .int x1), (2, .int x2), (3, .int x3), (4, .int x4), (5, .int x5)]) hx hb d_M_feed_86 hl (by decide) rfl (fun ls hl => ?_)
  refine lv_aload_n hx hb d_M_feed_88 rfl (lv_at hl 2 rfl) ?_
  refine va_get (D := G.1) (ci := 4) (v := .ref m1) (C := "TreePressModel") (T := kb_F4) (N := 21) hx hb ht kb_w4 hown hE.1 hP 0 rfl rfl 1 (by decide) (ht _ wd_5836b793) (fun _ h9 => h9) rfl d_M_feed_89 ?_
  refine lv_aload_n hx hb d_M_feed_92 rfl (lv_at hl 2 rfl) ?_
  refine va_get (D := G.1) (ci := 4) (v := .int 11) (C := "TreePressModel") (T := kb_F4) (N := 21) hx hb ht kb_w4 hown hE.1 hP 0 rfl rfl 2 (by decide) (ht _ wd_822be019) (fun _ h9 => h9) rfl d_M_feed_93 ?_
  refine lv_iload hx hb d_M_feed_96 (lv_at hl 0 rfl) ?_
  refine lv_bipush (v := 24) hx hb d_M_feed_98 (by decide) ?_
  refine lv_bipush (v := 8) hx hb d_M_feed_100 (by decide) ?_
  refine lv_iload hx hb d_M_feed_102 (lv_at hl 1 rfl) ?_
  refine lv_iconst (v := 4) hx hb d_M_feed_104 (by decide) ?_
  refine lv_irem hx hb d_M_feed_105 (by decide) ?_
  refine kb_top (y := 3) (by decide) ?_
  refine lv_imul hx hb d_M_feed_106 ?_
  refine kb_top (y := 24) (by decide) ?_
  refine lv_isub hx hb d_M_feed_107 ?_
  refine kb_top (y := 0) (by decide) ?_
  refine lv_ishr hx hb d_M_feed_108 ?_
  refine lv_sipush (v := 255) hx hb d_M_feed_109 (by decide) ?_
  refine lv_iand hx hb d_M_feed_112 ?_
  refine va_iast hx hb hE.1 hP hD hS 1 0 rfl rfl (show ¬ ((11 : Int32) < 0 ∨ 65536 ≤ (11 : Int32).toNatClampNeg) by decide) d_M_feed_113 (fun H locs hP hD hS => ?_)
  have hP : va_P G.1 kb_cl [kb_o h 4 [.int 0, .ref m1, .int 11, .ref m3, .int 0, .ref m5, .ref m6, .ref m7, .ref m8, .ref m9, .ref m10, .ref m11, .ref m12, .ref m13, .ref m14, .ref m15, .int 0, .int 0, .int 0, .int 0, .int 0], kb_a G m1 65536 (upd gc11 11 ((x3 >>> (0 &&& 31)) &&& 255))] H := hP
  have hD : va_D A [kb_o h 4 [.int 0, .ref m1, .int 11, .ref m3, .int 0, .ref m5, .ref m6, .ref m7, .ref m8, .ref m9, .ref m10, .ref m11, .ref m12, .ref m13, .ref m14, .ref m15, .int 0, .int 0, .int 0, .int 0, .int 0], kb_a G m1 65536 (upd gc11 11 ((x3 >>> (0 &&& 31)) &&& 255))] := hD
  generalize (upd gc11 11 ((x3 >>> (0 &&& 31)) &&& 255)) = gc12 at hP hD
  refine lv_aload_n hx hb d_M_feed_114 rfl (lv_at hl 2 rfl) ?_
  refine lv_dup hx hb d_M_feed_115 rfl ?_
  refine va_get (D := G.1) (ci := 4) (v := .int 11) (C := "TreePressModel") (T := kb_F4) (N := 21) hx hb ht kb_w4 hown hE.1 hP 0 rfl rfl 2 (by decide) (ht _ wd_822be019) (fun _ h9 => h9) rfl d_M_feed_116 ?_
  refine lv_iconst (v := 1) hx hb d_M_feed_119 (by decide) ?_
  refine lv_iadd hx hb d_M_feed_120 ?_
  refine kb_top (y := 12) (by decide) ?_
  refine va_put (D := G.1) (ci := 4) (v := .int 12) (ty := .int) (C := "TreePressModel") (T := kb_F4) (N := 21) hx hb ht kb_w4 kb_y4 kb_p4 kb_n4 hown hE.1 hP hD hS 0 rfl rfl 2 (by decide) (ht _ wd_822be019) (fun _ h9 => h9) rfl (by decide +kernel) rfl rfl (Nat.le_of_ble_eq_true rfl) d_M_feed_121 (fun H locs hP hD hS => ?_)
  have hP : va_P G.1 kb_cl [kb_o h 4 [.int 0, .ref m1, .int 12, .ref m3, .int 0, .ref m5, .ref m6, .ref m7, .ref m8, .ref m9, .ref m10, .ref m11, .ref m12, .ref m13, .ref m14, .ref m15, .int 0, .int 0, .int 0, .int 0, .int 0], kb_a G m1 65536 gc12] H := hP
  have hD : va_D A [kb_o h 4 [.int 0, .ref m1, .int 12, .ref m3, .int 0, .ref m5, .ref m6, .ref m7, .ref m8, .ref m9, .ref m10, .ref m11, .ref m12, .ref m13, .ref m14, .ref m15, .int 0, .int 0, .int 0, .int 0, .int 0], kb_a G m1 65536 gc12] := hD
  refine lv_iinc (v := 12) (lv' := [(6, .int 12), (7, .int x3), (0, .ref h), (1, .int x1), (2, .int x2), (3, .int x3), (4, .int x4), (5, .int x5)]) hx hb d_M_feed_124 hl (k := 1) rfl (by decide) (by decide) rfl (fun ls hl => ?_)
  refine lv_goto (tgt := 33) hx hb d_M_feed_127 (by decide) ?_
  refine lv_iload hx hb d_M_feed_33 (lv_at hl 0 rfl) ?_
  refine lv_bipush (v := 20) hx hb d_M_feed_35 (by decide) ?_
  refine lv_icmp_ge (tgt := 130) hx hb d_M_feed_37 (by decide) (fun c9 => absurd c9 (by decide)) (fun c9 => ?_)
  refine lv_iload hx hb d_M_feed_40 (lv_at hl 0 rfl) ?_
  refine lv_iconst (v := 4) hx hb d_M_feed_42 (by decide) ?_
  refine lv_icmp_ge (tgt := 50) hx hb d_M_feed_43 (by decide) (fun c9 => ?_) (fun c9 => absurd (by decide) c9)
  refine lv_iload hx hb d_M_feed_50 (lv_at hl 0 rfl) ?_
  refine lv_bipush (v := 8) hx hb d_M_feed_52 (by decide) ?_
  refine lv_icmp_ge (tgt := 61) hx hb d_M_feed_54 (by decide) (fun c9 => ?_) (fun c9 => absurd (by decide) c9)
  refine lv_iload hx hb d_M_feed_61 (lv_at hl 0 rfl) ?_
  refine lv_bipush (v := 12) hx hb d_M_feed_63 (by decide) ?_
  refine lv_icmp_ge (tgt := 72) hx hb d_M_feed_65 (by decide) (fun c9 => ?_) (fun c9 => absurd (by decide) c9)
  refine lv_iload hx hb d_M_feed_72 (lv_at hl 0 rfl) ?_
  refine lv_bipush (v := 16) hx hb d_M_feed_74 (by decide) ?_
  refine lv_icmp_ge (tgt := 84) hx hb d_M_feed_76 (by decide) (fun c9 => absurd c9 (by decide)) (fun c9 => ?_)
  refine lv_iload hx hb d_M_feed_79 (lv_at hl 6 rfl) ?_
  refine lv_goto (tgt := 86) hx hb d_M_feed_81 (by decide) ?_
  refine lv_istore (lv' := [(7, .int x4), (6, .int 12), (0, .ref h), (1, .int x1), (2, .int x2), (3, .int x3), (4, .int x4), (5, .int x5)]) hx hb d_M_feed_86 hl (by decide) rfl (fun ls hl => ?_)
  refine lv_aload_n hx hb d_M_feed_88 rfl (lv_at hl 2 rfl) ?_
  refine va_get (D := G.1) (ci := 4) (v := .ref m1) (C := "TreePressModel") (T := kb_F4) (N := 21) hx hb ht kb_w4 hown hE.1 hP 0 rfl rfl 1 (by decide) (ht _ wd_5836b793) (fun _ h9 => h9) rfl d_M_feed_89 ?_
  refine lv_aload_n hx hb d_M_feed_92 rfl (lv_at hl 2 rfl) ?_
  refine va_get (D := G.1) (ci := 4) (v := .int 12) (C := "TreePressModel") (T := kb_F4) (N := 21) hx hb ht kb_w4 hown hE.1 hP 0 rfl rfl 2 (by decide) (ht _ wd_822be019) (fun _ h9 => h9) rfl d_M_feed_93 ?_
  refine lv_iload hx hb d_M_feed_96 (lv_at hl 0 rfl) ?_
  refine lv_bipush (v := 24) hx hb d_M_feed_98 (by decide) ?_
  refine lv_bipush (v := 8) hx hb d_M_feed_100 (by decide) ?_
  refine lv_iload hx hb d_M_feed_102 (lv_at hl 1 rfl) ?_
  refine lv_iconst (v := 4) hx hb d_M_feed_104 (by decide) ?_
  refine lv_irem hx hb d_M_feed_105 (by decide) ?_
  refine kb_top (y := 0) (by decide) ?_
  refine lv_imul hx hb d_M_feed_106 ?_
  refine kb_top (y := 0) (by decide) ?_
  refine lv_isub hx hb d_M_feed_107 ?_
  refine kb_top (y := 24) (by decide) ?_
  refine lv_ishr hx hb d_M_feed_108 ?_
  refine lv_sipush (v := 255) hx hb d_M_feed_109 (by decide) ?_
  refine lv_iand hx hb d_M_feed_112 ?_
  refine va_iast hx hb hE.1 hP hD hS 1 0 rfl rfl (show ¬ ((12 : Int32) < 0 ∨ 65536 ≤ (12 : Int32).toNatClampNeg) by decide) d_M_feed_113 (fun H locs hP hD hS => ?_)
  have hP : va_P G.1 kb_cl [kb_o h 4 [.int 0, .ref m1, .int 12, .ref m3, .int 0, .ref m5, .ref m6, .ref m7, .ref m8, .ref m9, .ref m10, .ref m11, .ref m12, .ref m13, .ref m14, .ref m15, .int 0, .int 0, .int 0, .int 0, .int 0], kb_a G m1 65536 (upd gc12 12 ((x4 >>> (24 &&& 31)) &&& 255))] H := hP
  have hD : va_D A [kb_o h 4 [.int 0, .ref m1, .int 12, .ref m3, .int 0, .ref m5, .ref m6, .ref m7, .ref m8, .ref m9, .ref m10, .ref m11, .ref m12, .ref m13, .ref m14, .ref m15, .int 0, .int 0, .int 0, .int 0, .int 0], kb_a G m1 65536 (upd gc12 12 ((x4 >>> (24 &&& 31)) &&& 255))] := hD
  generalize (upd gc12 12 ((x4 >>> (24 &&& 31)) &&& 255)) = gc13 at hP hD
  refine lv_aload_n hx hb d_M_feed_114 rfl (lv_at hl 2 rfl) ?_
  refine lv_dup hx hb d_M_feed_115 rfl ?_
  refine va_get (D := G.1) (ci := 4) (v := .int 12) (C := "TreePressModel") (T := kb_F4) (N := 21) hx hb ht kb_w4 hown hE.1 hP 0 rfl rfl 2 (by decide) (ht _ wd_822be019) (fun _ h9 => h9) rfl d_M_feed_116 ?_
  refine lv_iconst (v := 1) hx hb d_M_feed_119 (by decide) ?_
  refine lv_iadd hx hb d_M_feed_120 ?_
  refine kb_top (y := 13) (by decide) ?_
  refine va_put (D := G.1) (ci := 4) (v := .int 13) (ty := .int) (C := "TreePressModel") (T := kb_F4) (N := 21) hx hb ht kb_w4 kb_y4 kb_p4 kb_n4 hown hE.1 hP hD hS 0 rfl rfl 2 (by decide) (ht _ wd_822be019) (fun _ h9 => h9) rfl (by decide +kernel) rfl rfl (Nat.le_of_ble_eq_true rfl) d_M_feed_121 (fun H locs hP hD hS => ?_)
  have hP : va_P G.1 kb_cl [kb_o h 4 [.int 0, .ref m1, .int 13, .ref m3, .int 0, .ref m5, .ref m6, .ref m7, .ref m8, .ref m9, .ref m10, .ref m11, .ref m12, .ref m13, .ref m14, .ref m15, .int 0, .int 0, .int 0, .int 0, .int 0], kb_a G m1 65536 gc13] H := hP
  have hD : va_D A [kb_o h 4 [.int 0, .ref m1, .int 13, .ref m3, .int 0, .ref m5, .ref m6, .ref m7, .ref m8, .ref m9, .ref m10, .ref m11, .ref m12, .ref m13, .ref m14, .ref m15, .int 0, .int 0, .int 0, .int 0, .int 0], kb_a G m1 65536 gc13] := hD
  refine lv_iinc (v := 13) (lv' := [(6, .int 13), (7, .int x4), (0, .ref h), (1, .int x1), (2, .int x2), (3, .int x3), (4, .int x4), (5, .int x5)]) hx hb d_M_feed_124 hl (k := 1) rfl (by decide) (by decide) rfl (fun ls hl => ?_)
  refine lv_goto (tgt := 33) hx hb d_M_feed_127 (by decide) ?_
  refine lv_iload hx hb d_M_feed_33 (lv_at hl 0 rfl) ?_
  refine lv_bipush (v := 20) hx hb d_M_feed_35 (by decide) ?_
  refine lv_icmp_ge (tgt := 130) hx hb d_M_feed_37 (by decide) (fun c9 => absurd c9 (by decide)) (fun c9 => ?_)
  refine lv_iload hx hb d_M_feed_40 (lv_at hl 0 rfl) ?_
  refine lv_iconst (v := 4) hx hb d_M_feed_42 (by decide) ?_
  refine lv_icmp_ge (tgt := 50) hx hb d_M_feed_43 (by decide) (fun c9 => ?_) (fun c9 => absurd (by decide) c9)
  refine lv_iload hx hb d_M_feed_50 (lv_at hl 0 rfl) ?_
  refine lv_bipush (v := 8) hx hb d_M_feed_52 (by decide) ?_
  refine lv_icmp_ge (tgt := 61) hx hb d_M_feed_54 (by decide) (fun c9 => ?_) (fun c9 => absurd (by decide) c9)
  refine lv_iload hx hb d_M_feed_61 (lv_at hl 0 rfl) ?_
  refine lv_bipush (v := 12) hx hb d_M_feed_63 (by decide) ?_
  refine lv_icmp_ge (tgt := 72) hx hb d_M_feed_65 (by decide) (fun c9 => ?_) (fun c9 => absurd (by decide) c9)
  refine lv_iload hx hb d_M_feed_72 (lv_at hl 0 rfl) ?_
  refine lv_bipush (v := 16) hx hb d_M_feed_74 (by decide) ?_
  refine lv_icmp_ge (tgt := 84) hx hb d_M_feed_76 (by decide) (fun c9 => absurd c9 (by decide)) (fun c9 => ?_)
  refine lv_iload hx hb d_M_feed_79 (lv_at hl 6 rfl) ?_
  refine lv_goto (tgt := 86) hx hb d_M_feed_81 (by decide) ?_
  refine lv_istore (lv' := [(7, .int x4), (6, .int 13), (0, .ref h), (1, .int x1), (2, .int x2), (3, .int x3), (4, .int x4), (5, .int x5)]) hx hb d_M_feed_86 hl (by decide) rfl (fun ls hl => ?_)
  refine lv_aload_n hx hb d_M_feed_88 rfl (lv_at hl 2 rfl) ?_
  refine va_get (D := G.1) (ci := 4) (v := .ref m1) (C := "TreePressModel") (T := kb_F4) (N := 21) hx hb ht kb_w4 hown hE.1 hP 0 rfl rfl 1 (by decide) (ht _ wd_5836b793) (fun _ h9 => h9) rfl d_M_feed_89 ?_
  refine lv_aload_n hx hb d_M_feed_92 rfl (lv_at hl 2 rfl) ?_
  refine va_get (D := G.1) (ci := 4) (v := .int 13) (C := "TreePressModel") (T := kb_F4) (N := 21) hx hb ht kb_w4 hown hE.1 hP 0 rfl rfl 2 (by decide) (ht _ wd_822be019) (fun _ h9 => h9) rfl d_M_feed_93 ?_
  refine lv_iload hx hb d_M_feed_96 (lv_at hl 0 rfl) ?_
  refine lv_bipush (v := 24) hx hb d_M_feed_98 (by decide) ?_
  refine lv_bipush (v := 8) hx hb d_M_feed_100 (by decide) ?_
  refine lv_iload hx hb d_M_feed_102 (lv_at hl 1 rfl) ?_
  refine lv_iconst (v := 4) hx hb d_M_feed_104 (by decide) ?_
  refine lv_irem hx hb d_M_feed_105 (by decide) ?_
  refine kb_top (y := 1) (by decide) ?_
  refine lv_imul hx hb d_M_feed_106 ?_
  refine kb_top (y := 8) (by decide) ?_
  refine lv_isub hx hb d_M_feed_107 ?_
  refine kb_top (y := 16) (by decide) ?_
  refine lv_ishr hx hb d_M_feed_108 ?_
  refine lv_sipush (v := 255) hx hb d_M_feed_109 (by decide) ?_
  refine lv_iand hx hb d_M_feed_112 ?_
  refine va_iast hx hb hE.1 hP hD hS 1 0 rfl rfl (show ¬ ((13 : Int32) < 0 ∨ 65536 ≤ (13 : Int32).toNatClampNeg) by decide) d_M_feed_113 (fun H locs hP hD hS => ?_)
  have hP : va_P G.1 kb_cl [kb_o h 4 [.int 0, .ref m1, .int 13, .ref m3, .int 0, .ref m5, .ref m6, .ref m7, .ref m8, .ref m9, .ref m10, .ref m11, .ref m12, .ref m13, .ref m14, .ref m15, .int 0, .int 0, .int 0, .int 0, .int 0], kb_a G m1 65536 (upd gc13 13 ((x4 >>> (16 &&& 31)) &&& 255))] H := hP
  have hD : va_D A [kb_o h 4 [.int 0, .ref m1, .int 13, .ref m3, .int 0, .ref m5, .ref m6, .ref m7, .ref m8, .ref m9, .ref m10, .ref m11, .ref m12, .ref m13, .ref m14, .ref m15, .int 0, .int 0, .int 0, .int 0, .int 0], kb_a G m1 65536 (upd gc13 13 ((x4 >>> (16 &&& 31)) &&& 255))] := hD
  generalize (upd gc13 13 ((x4 >>> (16 &&& 31)) &&& 255)) = gc14 at hP hD
  refine lv_aload_n hx hb d_M_feed_114 rfl (lv_at hl 2 rfl) ?_
  refine lv_dup hx hb d_M_feed_115 rfl ?_
  refine va_get (D := G.1) (ci := 4) (v := .int 13) (C := "TreePressModel") (T := kb_F4) (N := 21) hx hb ht kb_w4 hown hE.1 hP 0 rfl rfl 2 (by decide) (ht _ wd_822be019) (fun _ h9 => h9) rfl d_M_feed_116 ?_
  refine lv_iconst (v := 1) hx hb d_M_feed_119 (by decide) ?_
  refine lv_iadd hx hb d_M_feed_120 ?_
  refine kb_top (y := 14) (by decide) ?_
  refine va_put (D := G.1) (ci := 4) (v := .int 14) (ty := .int) (C := "TreePressModel") (T := kb_F4) (N := 21) hx hb ht kb_w4 kb_y4 kb_p4 kb_n4 hown hE.1 hP hD hS 0 rfl rfl 2 (by decide) (ht _ wd_822be019) (fun _ h9 => h9) rfl (by decide +kernel) rfl rfl (Nat.le_of_ble_eq_true rfl) d_M_feed_121 (fun H locs hP hD hS => ?_)
  have hP : va_P G.1 kb_cl [kb_o h 4 [.int 0, .ref m1, .int 14, .ref m3, .int 0, .ref m5, .ref m6, .ref m7, .ref m8, .ref m9, .ref m10, .ref m11, .ref m12, .ref m13, .ref m14, .ref m15, .int 0, .int 0, .int 0, .int 0, .int 0], kb_a G m1 65536 gc14] H := hP
  have hD : va_D A [kb_o h 4 [.int 0, .ref m1, .int 14, .ref m3, .int 0, .ref m5, .ref m6, .ref m7, .ref m8, .ref m9, .ref m10, .ref m11, .ref m12, .ref m13, .ref m14, .ref m15, .int 0, .int 0, .int 0, .int 0, .int 0], kb_a G m1 65536 gc14] := hD
  refine lv_iinc (v := 14) (lv' := [(6, .int 14), (7, .int x4), (0, .ref h), (1, .int x1), (2, .int x2), (3, .int x3), (4, .int x4), (5, .int x5)]) hx hb d_M_feed_124 hl (k := 1) rfl (by decide) (by decide) rfl (fun ls hl => ?_)
  refine lv_goto (tgt := 33) hx hb d_M_feed_127 (by decide) ?_
  refine lv_iload hx hb d_M_feed_33 (lv_at hl 0 rfl) ?_
  refine lv_bipush (v := 20) hx hb d_M_feed_35 (by decide) ?_
  refine lv_icmp_ge (tgt := 130) hx hb d_M_feed_37 (by decide) (fun c9 => absurd c9 (by decide)) (fun c9 => ?_)
  refine lv_iload hx hb d_M_feed_40 (lv_at hl 0 rfl) ?_
  refine lv_iconst (v := 4) hx hb d_M_feed_42 (by decide) ?_
  refine lv_icmp_ge (tgt := 50) hx hb d_M_feed_43 (by decide) (fun c9 => ?_) (fun c9 => absurd (by decide) c9)
  refine lv_iload hx hb d_M_feed_50 (lv_at hl 0 rfl) ?_
  refine lv_bipush (v := 8) hx hb d_M_feed_52 (by decide) ?_
  refine lv_icmp_ge (tgt := 61) hx hb d_M_feed_54 (by decide) (fun c9 => ?_) (fun c9 => absurd (by decide) c9)
  refine lv_iload hx hb d_M_feed_61 (lv_at hl 0 rfl) ?_
  refine lv_bipush (v := 12) hx hb d_M_feed_63 (by decide) ?_
  refine lv_icmp_ge (tgt := 72) hx hb d_M_feed_65 (by decide) (fun c9 => ?_) (fun c9 => absurd (by decide) c9)
  refine lv_iload hx hb d_M_feed_72 (lv_at hl 0 rfl) ?_
  refine lv_bipush (v := 16) hx hb d_M_feed_74 (by decide) ?_
  refine lv_icmp_ge (tgt := 84) hx hb d_M_feed_76 (by decide) (fun c9 => absurd c9 (by decide)) (fun c9 => ?_)
  refine lv_iload hx hb d_M_feed_79 (lv_at hl 6 rfl) ?_
  refine lv_goto (tgt := 86) hx hb d_M_feed_81 (by decide) ?_
  refine lv_istore (lv' := [(7, .int x4), (6, .int 14), (0, .ref h), (1, .int x1), (2, .int x2), (3, .int x3), (4, .int x4), (5, .int x5)]) hx hb d_M_feed_86 hl (by decide) rfl (fun ls hl => ?_)
  refine lv_aload_n hx hb d_M_feed_88 rfl (lv_at hl 2 rfl) ?_
  refine va_get (D := G.1) (ci := 4) (v := .ref m1) (C := "TreePressModel") (T := kb_F4) (N := 21) hx hb ht kb_w4 hown hE.1 hP 0 rfl rfl 1 (by decide) (ht _ wd_5836b793) (fun _ h9 => h9) rfl d_M_feed_89 ?_
  refine lv_aload_n hx hb d_M_feed_92 rfl (lv_at hl 2 rfl) ?_
  refine va_get (D := G.1) (ci := 4) (v := .int 14) (C := "TreePressModel") (T := kb_F4) (N := 21) hx hb ht kb_w4 hown hE.1 hP 0 rfl rfl 2 (by decide) (ht _ wd_822be019) (fun _ h9 => h9) rfl d_M_feed_93 ?_
  refine lv_iload hx hb d_M_feed_96 (lv_at hl 0 rfl) ?_
  refine lv_bipush (v := 24) hx hb d_M_feed_98 (by decide) ?_
  refine lv_bipush (v := 8) hx hb d_M_feed_100 (by decide) ?_
  refine lv_iload hx hb d_M_feed_102 (lv_at hl 1 rfl) ?_
  refine lv_iconst (v := 4) hx hb d_M_feed_104 (by decide) ?_
  refine lv_irem hx hb d_M_feed_105 (by decide) ?_
  refine kb_top (y := 2) (by decide) ?_
  refine lv_imul hx hb d_M_feed_106 ?_
  refine kb_top (y := 16) (by decide) ?_
  refine lv_isub hx hb d_M_feed_107 ?_
  refine kb_top (y := 8) (by decide) ?_
  refine lv_ishr hx hb d_M_feed_108 ?_
  refine lv_sipush (v := 255) hx hb d_M_feed_109 (by decide) ?_
  refine lv_iand hx hb d_M_feed_112 ?_
  refine va_iast hx hb hE.1 hP hD hS 1 0 rfl rfl (show ¬ ((14 : Int32) < 0 ∨ 65536 ≤ (14 : Int32).toNatClampNeg) by decide) d_M_feed_113 (fun H locs hP hD hS => ?_)
  have hP : va_P G.1 kb_cl [kb_o h 4 [.int 0, .ref m1, .int 14, .ref m3, .int 0, .ref m5, .ref m6, .ref m7, .ref m8, .ref m9, .ref m10, .ref m11, .ref m12, .ref m13, .ref m14, .ref m15, .int 0, .int 0, .int 0, .int 0, .int 0], kb_a G m1 65536 (upd gc14 14 ((x4 >>> (8 &&& 31)) &&& 255))] H := hP
  have hD : va_D A [kb_o h 4 [.int 0, .ref m1, .int 14, .ref m3, .int 0, .ref m5, .ref m6, .ref m7, .ref m8, .ref m9, .ref m10, .ref m11, .ref m12, .ref m13, .ref m14, .ref m15, .int 0, .int 0, .int 0, .int 0, .int 0], kb_a G m1 65536 (upd gc14 14 ((x4 >>> (8 &&& 31)) &&& 255))] := hD
  generalize (upd gc14 14 ((x4 >>> (8 &&& 31)) &&& 255)) = gc15 at hP hD
  refine lv_aload_n hx hb d_M_feed_114 rfl (lv_at hl 2 rfl) ?_
  refine lv_dup hx hb d_M_feed_115 rfl ?_
  refine va_get (D := G.1) (ci := 4) (v := .int 14) (C := "TreePressModel") (T := kb_F4) (N := 21) hx hb ht kb_w4 hown hE.1 hP 0 rfl rfl 2 (by decide) (ht _ wd_822be019) (fun _ h9 => h9) rfl d_M_feed_116 ?_
  refine lv_iconst (v := 1) hx hb d_M_feed_119 (by decide) ?_
  refine lv_iadd hx hb d_M_feed_120 ?_
  refine kb_top (y := 15) (by decide) ?_
  refine va_put (D := G.1) (ci := 4) (v := .int 15) (ty := .int) (C := "TreePressModel") (T := kb_F4) (N := 21) hx hb ht kb_w4 kb_y4 kb_p4 kb_n4 hown hE.1 hP hD hS 0 rfl rfl 2 (by decide) (ht _ wd_822be019) (fun _ h9 => h9) rfl (by decide +kernel) rfl rfl (Nat.le_of_ble_eq_true rfl) d_M_feed_121 (fun H locs hP hD hS => ?_)
  have hP : va_P G.1 kb_cl [kb_o h 4 [.int 0, .ref m1, .int 15, .ref m3, .int 0, .ref m5, .ref m6, .ref m7, .ref m8, .ref m9, .ref m10, .ref m11, .ref m12, .ref m13, .ref m14, .ref m15, .int 0, .int 0, .int 0, .int 0, .int 0], kb_a G m1 65536 gc15] H := hP
  have hD : va_D A [kb_o h 4 [.int 0, .ref m1, .int 15, .ref m3, .int 0, .ref m5, .ref m6, .ref m7, .ref m8, .ref m9, .ref m10, .ref m11, .ref m12, .ref m13, .ref m14, .ref m15, .int 0, .int 0, .int 0, .int 0, .int 0], kb_a G m1 65536 gc15] := hD
  refine lv_iinc (v := 15) (lv' := [(6, .int 15), (7, .int x4), (0, .ref h), (1, .int x1), (2, .int x2), (3, .int x3), (4, .int x4), (5, .int x5)]) hx hb d_M_feed_124 hl (k := 1) rfl (by decide) (by decide) rfl (fun ls hl => ?_)
  refine lv_goto (tgt := 33) hx hb d_M_feed_127 (by decide) ?_
  refine lv_iload hx hb d_M_feed_33 (lv_at hl 0 rfl) ?_
  refine lv_bipush (v := 20) hx hb d_M_feed_35 (by decide) ?_
  refine lv_icmp_ge (tgt := 130) hx hb d_M_feed_37 (by decide) (fun c9 => absurd c9 (by decide)) (fun c9 => ?_)
  refine lv_iload hx hb d_M_feed_40 (lv_at hl 0 rfl) ?_
  refine lv_iconst (v := 4) hx hb d_M_feed_42 (by decide) ?_
  refine lv_icmp_ge (tgt := 50) hx hb d_M_feed_43 (by decide) (fun c9 => ?_) (fun c9 => absurd (by decide) c9)
  refine lv_iload hx hb d_M_feed_50 (lv_at hl 0 rfl) ?_
  refine lv_bipush (v := 8) hx hb d_M_feed_52 (by decide) ?_
  refine lv_icmp_ge (tgt := 61) hx hb d_M_feed_54 (by decide) (fun c9 => ?_) (fun c9 => absurd (by decide) c9)
  refine lv_iload hx hb d_M_feed_61 (lv_at hl 0 rfl) ?_
  refine lv_bipush (v := 12) hx hb d_M_feed_63 (by decide) ?_
  refine lv_icmp_ge (tgt := 72) hx hb d_M_feed_65 (by decide) (fun c9 => ?_) (fun c9 => absurd (by decide) c9)
  refine lv_iload hx hb d_M_feed_72 (lv_at hl 0 rfl) ?_
  refine lv_bipush (v := 16) hx hb d_M_feed_74 (by decide) ?_
  refine lv_icmp_ge (tgt := 84) hx hb d_M_feed_76 (by decide) (fun c9 => absurd c9 (by decide)) (fun c9 => ?_)
  refine lv_iload hx hb d_M_feed_79 (lv_at hl 6 rfl) ?_
  refine lv_goto (tgt := 86) hx hb d_M_feed_81 (by decide) ?_
  refine lv_istore (lv' := [(7, .int x4), (6, .int 15), (0, .ref h), (1, .int x1), (2, .int x2), (3, .int x3), (4, .int x4), (5, .int x5)]) hx hb d_M_feed_86 hl (by decide) rfl (fun ls hl => ?_)
  refine lv_aload_n hx hb d_M_feed_88 rfl (lv_at hl 2 rfl) ?_
  refine va_get (D := G.1) (ci := 4) (v := .ref m1) (C := "TreePressModel") (T := kb_F4) (N := 21) hx hb ht kb_w4 hown hE.1 hP 0 rfl rfl 1 (by decide) (ht _ wd_5836b793) (fun _ h9 => h9) rfl d_M_feed_89 ?_
  refine lv_aload_n hx hb d_M_feed_92 rfl (lv_at hl 2 rfl) ?_
  refine va_get (D := G.1) (ci := 4) (v := .int 15) (C := "TreePressModel") (T := kb_F4) (N := 21) hx hb ht kb_w4 hown hE.1 hP 0 rfl rfl 2 (by decide) (ht _ wd_822be019) (fun _ h9 => h9) rfl d_M_feed_93 ?_
  refine lv_iload hx hb d_M_feed_96 (lv_at hl 0 rfl) ?_
  refine lv_bipush (v := 24) hx hb d_M_feed_98 (by decide) ?_
  refine lv_bipush (v := 8) hx hb d_M_feed_100 (by decide) ?_
  refine lv_iload hx hb d_M_feed_102 (lv_at hl 1 rfl) ?_
  refine lv_iconst (v := 4) hx hb d_M_feed_104 (by decide) ?_
  refine lv_irem hx hb d_M_feed_105 (by decide) ?_
  refine kb_top (y := 3) (by decide) ?_
  refine lv_imul hx hb d_M_feed_106 ?_
  refine kb_top (y := 24) (by decide) ?_
  refine lv_isub hx hb d_M_feed_107 ?_
  refine kb_top (y := 0) (by decide) ?_
  refine lv_ishr hx hb d_M_feed_108 ?_
  refine lv_sipush (v := 255) hx hb d_M_feed_109 (by decide) ?_
  refine lv_iand hx hb d_M_feed_112 ?_
  refine va_iast hx hb hE.1 hP hD hS 1 0 rfl rfl (show ¬ ((15 : Int32) < 0 ∨ 65536 ≤ (15 : Int32).toNatClampNeg) by decide) d_M_feed_113 (fun H locs hP hD hS => ?_)
  have hP : va_P G.1 kb_cl [kb_o h 4 [.int 0, .ref m1, .int 15, .ref m3, .int 0, .ref m5, .ref m6, .ref m7, .ref m8, .ref m9, .ref m10, .ref m11, .ref m12, .ref m13, .ref m14, .ref m15, .int 0, .int 0, .int 0, .int 0, .int 0], kb_a G m1 65536 (upd gc15 15 ((x4 >>> (0 &&& 31)) &&& 255))] H := hP
  have hD : va_D A [kb_o h 4 [.int 0, .ref m1, .int 15, .ref m3, .int 0, .ref m5, .ref m6, .ref m7, .ref m8, .ref m9, .ref m10, .ref m11, .ref m12, .ref m13, .ref m14, .ref m15, .int 0, .int 0, .int 0, .int 0, .int 0], kb_a G m1 65536 (upd gc15 15 ((x4 >>> (0 &&& 31)) &&& 255))] := hD
  generalize (upd gc15 15 ((x4 >>> (0 &&& 31)) &&& 255)) = gc16 at hP hD
  refine lv_aload_n hx hb d_M_feed_114 rfl (lv_at hl 2 rfl) ?_
  refine lv_dup hx hb d_M_feed_115 rfl ?_
  refine va_get (D := G.1) (ci := 4) (v := .int 15) (C := "TreePressModel") (T := kb_F4) (N := 21) hx hb ht kb_w4 hown hE.1 hP 0 rfl rfl 2 (by decide) (ht _ wd_822be019) (fun _ h9 => h9) rfl d_M_feed_116 ?_
  refine lv_iconst (v := 1) hx hb d_M_feed_119 (by decide) ?_
  refine lv_iadd hx hb d_M_feed_120 ?_
  refine kb_top (y := 16) (by decide) ?_
  refine va_put (D := G.1) (ci := 4) (v := .int 16) (ty := .int) (C := "TreePressModel") (T := kb_F4) (N := 21) hx hb ht kb_w4 kb_y4 kb_p4 kb_n4 hown hE.1 hP hD hS 0 rfl rfl 2 (by decide) (ht _ wd_822be019) (fun _ h9 => h9) rfl (by decide +kernel) rfl rfl (Nat.le_of_ble_eq_true rfl) d_M_feed_121 (fun H locs hP hD hS => ?_)
  have hP : va_P G.1 kb_cl [kb_o h 4 [.int 0, .ref m1, .int 16, .ref m3, .int 0, .ref m5, .ref m6, .ref m7, .ref m8, .ref m9, .ref m10, .ref m11, .ref m12, .ref m13, .ref m14, .ref m15, .int 0, .int 0, .int 0, .int 0, .int 0], kb_a G m1 65536 gc16] H := hP
  have hD : va_D A [kb_o h 4 [.int 0, .ref m1, .int 16, .ref m3, .int 0, .ref m5, .ref m6, .ref m7, .ref m8, .ref m9, .ref m10, .ref m11, .ref m12, .ref m13, .ref m14, .ref m15, .int 0, .int 0, .int 0, .int 0, .int 0], kb_a G m1 65536 gc16] := hD
  refine lv_iinc (v := 16) (lv' := [(6, .int 16), (7, .int x4), (0, .ref h), (1, .int x1), (2, .int x2), (3, .int x3), (4, .int x4), (5, .int x5)]) hx hb d_M_feed_124 hl (k := 1) rfl (by decide) (by decide) rfl (fun ls hl => ?_)
  refine lv_goto (tgt := 33) hx hb d_M_feed_127 (by decide) ?_
  refine lv_iload hx hb d_M_feed_33 (lv_at hl 0 rfl) ?_
  refine lv_bipush (v := 20) hx hb d_M_feed_35 (by decide) ?_
  refine lv_icmp_ge (tgt := 130) hx hb d_M_feed_37 (by decide) (fun c9 => absurd c9 (by decide)) (fun c9 => ?_)
  refine lv_iload hx hb d_M_feed_40 (lv_at hl 0 rfl) ?_
  refine lv_iconst (v := 4) hx hb d_M_feed_42 (by decide) ?_
  refine lv_icmp_ge (tgt := 50) hx hb d_M_feed_43 (by decide) (fun c9 => ?_) (fun c9 => absurd (by decide) c9)
  refine lv_iload hx hb d_M_feed_50 (lv_at hl 0 rfl) ?_
  refine lv_bipush (v := 8) hx hb d_M_feed_52 (by decide) ?_
  refine lv_icmp_ge (tgt := 61) hx hb d_M_feed_54 (by decide) (fun c9 => ?_) (fun c9 => absurd (by decide) c9)
  refine lv_iload hx hb d_M_feed_61 (lv_at hl 0 rfl) ?_
  refine lv_bipush (v := 12) hx hb d_M_feed_63 (by decide) ?_
  refine lv_icmp_ge (tgt := 72) hx hb d_M_feed_65 (by decide) (fun c9 => ?_) (fun c9 => absurd (by decide) c9)
  refine lv_iload hx hb d_M_feed_72 (lv_at hl 0 rfl) ?_
  refine lv_bipush (v := 16) hx hb d_M_feed_74 (by decide) ?_
  refine lv_icmp_ge (tgt := 84) hx hb d_M_feed_76 (by decide) (fun c9 => ?_) (fun c9 => absurd (by decide) c9)
  refine lv_iload hx hb d_M_feed_84 (lv_at hl 7 rfl) ?_
  refine lv_istore (lv' := [(7, .int x5), (6, .int 16), (0, .ref h), (1, .int x1), (2, .int x2), (3, .int x3), (4, .int x4), (5, .int x5)]) hx hb d_M_feed_86 hl (by decide) rfl (fun ls hl => ?_)
  refine lv_aload_n hx hb d_M_feed_88 rfl (lv_at hl 2 rfl) ?_
  refine va_get (D := G.1) (ci := 4) (v := .ref m1) (C := "TreePressModel") (T := kb_F4) (N := 21) hx hb ht kb_w4 hown hE.1 hP 0 rfl rfl 1 (by decide) (ht _ wd_5836b793) (fun _ h9 => h9) rfl d_M_feed_89 ?_
  refine lv_aload_n hx hb d_M_feed_92 rfl (lv_at hl 2 rfl) ?_
  refine va_get (D := G.1) (ci := 4) (v := .int 16) (C := "TreePressModel") (T := kb_F4) (N := 21) hx hb ht kb_w4 hown hE.1 hP 0 rfl rfl 2 (by decide) (ht _ wd_822be019) (fun _ h9 => h9) rfl d_M_feed_93 ?_
  refine lv_iload hx hb d_M_feed_96 (lv_at hl 0 rfl) ?_
  refine lv_bipush (v := 24) hx hb d_M_feed_98 (by decide) ?_
  refine lv_bipush (v := 8) hx hb d_M_feed_100 (by decide) ?_
  refine lv_iload hx hb d_M_feed_102 (lv_at hl 1 rfl) ?_
  refine lv_iconst (v := 4) hx hb d_M_feed_104 (by decide) ?_
  refine lv_irem hx hb d_M_feed_105 (by decide) ?_
  refine kb_top (y := 0) (by decide) ?_
  refine lv_imul hx hb d_M_feed_106 ?_
  refine kb_top (y := 0) (by decide) ?_
  refine lv_isub hx hb d_M_feed_107 ?_
  refine kb_top (y := 24) (by decide) ?_
  refine lv_ishr hx hb d_M_feed_108 ?_
  refine lv_sipush (v := 255) hx hb d_M_feed_109 (by decide) ?_
  refine lv_iand hx hb d_M_feed_112 ?_
  refine va_iast hx hb hE.1 hP hD hS 1 0 rfl rfl (show ¬ ((16 : Int32) < 0 ∨ 65536 ≤ (16 : Int32).toNatClampNeg) by decide) d_M_feed_113 (fun H locs hP hD hS => ?_)
  have hP : va_P G.1 kb_cl [kb_o h 4 [.int 0, .ref m1, .int 16, .ref m3, .int 0, .ref m5, .ref m6, .ref m7, .ref m8, .ref m9, .ref m10, .ref m11, .ref m12, .ref m13, .ref m14, .ref m15, .int 0, .int 0, .int 0, .int 0, .int 0], kb_a G m1 65536 (upd gc16 16 ((x5 >>> (24 &&& 31)) &&& 255))] H := hP
  have hD : va_D A [kb_o h 4 [.int 0, .ref m1, .int 16, .ref m3, .int 0, .ref m5, .ref m6, .ref m7, .ref m8, .ref m9, .ref m10, .ref m11, .ref m12, .ref m13, .ref m14, .ref m15, .int 0, .int 0, .int 0, .int 0, .int 0], kb_a G m1 65536 (upd gc16 16 ((x5 >>> (24 &&& 31)) &&& 255))] := hD
  generalize (upd gc16 16 ((x5 >>> (24 &&& 31)) &&& 255)) = gc17 at hP hD
  refine lv_aload_n hx hb d_M_feed_114 rfl (lv_at hl 2 rfl) ?_
  refine lv_dup hx hb d_M_feed_115 rfl ?_
  refine va_get (D := G.1) (ci := 4) (v := .int 16) (C := "TreePressModel") (T := kb_F4) (N := 21) hx hb ht kb_w4 hown hE.1 hP 0 rfl rfl 2 (by decide) (ht _ wd_822be019) (fun _ h9 => h9) rfl d_M_feed_116 ?_
  refine lv_iconst (v := 1) hx hb d_M_feed_119 (by decide) ?_
  refine lv_iadd hx hb d_M_feed_120 ?_
  refine kb_top (y := 17) (by decide) ?_
  refine va_put (D := G.1) (ci := 4) (v := .int 17) (ty := .int) (C := "TreePressModel") (T := kb_F4) (N := 21) hx hb ht kb_w4 kb_y4 kb_p4 kb_n4 hown hE.1 hP hD hS 0 rfl rfl 2 (by decide) (ht _ wd_822be019) (fun _ h9 => h9) rfl (by decide +kernel) rfl rfl (Nat.le_of_ble_eq_true rfl) d_M_feed_121 (fun H locs hP hD hS => ?_)
  have hP : va_P G.1 kb_cl [kb_o h 4 [.int 0, .ref m1, .int 17, .ref m3, .int 0, .ref m5, .ref m6, .ref m7, .ref m8, .ref m9, .ref m10, .ref m11, .ref m12, .ref m13, .ref m14, .ref m15, .int 0, .int 0, .int 0, .int 0, .int 0], kb_a G m1 65536 gc17] H := hP
  have hD : va_D A [kb_o h 4 [.int 0, .ref m1, .int 17, .ref m3, .int 0, .ref m5, .ref m6, .ref m7, .ref m8, .ref m9, .ref m10, .ref m11, .ref m12, .ref m13, .ref m14, .ref m15, .int 0, .int 0, .int 0, .int 0, .int 0], kb_a G m1 65536 gc17] := hD
  refine lv_iinc (v := 17) (lv' := [(6, .int 17), (7, .int x5), (0, .ref h), (1, .int x1), (2, .int x2), (3, .int x3), (4, .int x4), (5, .int x5)]) hx hb d_M_feed_124 hl (k := 1) rfl (by decide) (by decide) rfl (fun ls hl => ?_)
  refine lv_goto (tgt := 33) hx hb d_M_feed_127 (by decide) ?_
  refine lv_iload hx hb d_M_feed_33 (lv_at hl 0 rfl) ?_
  refine lv_bipush (v := 20) hx hb d_M_feed_35 (by decide) ?_
  refine lv_icmp_ge (tgt := 130) hx hb d_M_feed_37 (by decide) (fun c9 => absurd c9 (by decide)) (fun c9 => ?_)
  refine lv_iload hx hb d_M_feed_40 (lv_at hl 0 rfl) ?_
  refine lv_iconst (v := 4) hx hb d_M_feed_42 (by decide) ?_
  refine lv_icmp_ge (tgt := 50) hx hb d_M_feed_43 (by decide) (fun c9 => ?_) (fun c9 => absurd (by decide) c9)
  refine lv_iload hx hb d_M_feed_50 (lv_at hl 0 rfl) ?_
  refine lv_bipush (v := 8) hx hb d_M_feed_52 (by decide) ?_
  refine lv_icmp_ge (tgt := 61) hx hb d_M_feed_54 (by decide) (fun c9 => ?_) (fun c9 => absurd (by decide) c9)
  refine lv_iload hx hb d_M_feed_61 (lv_at hl 0 rfl) ?_
  refine lv_bipush (v := 12) hx hb d_M_feed_63 (by decide) ?_
  refine lv_icmp_ge (tgt := 72) hx hb d_M_feed_65 (by decide) (fun c9 => ?_) (fun c9 => absurd (by decide) c9)
  refine lv_iload hx hb d_M_feed_72 (lv_at hl 0 rfl) ?_
  refine lv_bipush (v := 16) hx hb d_M_feed_74 (by decide) ?_
  refine lv_icmp_ge (tgt := 84) hx hb d_M_feed_76 (by decide) (fun c9 => ?_) (fun c9 => absurd (by decide) c9)
  refine lv_iload hx hb d_M_feed_84 (lv_at hl 7 rfl) ?_
  refine lv_istore (lv' := [(7, .int x5), (6, .int 17), (0, .ref h), (1, .int x1), (2, .int x2), (3, .int x3), (4, .int x4), (5, .int x5)]) hx hb d_M_feed_86 hl (by decide) rfl (fun ls hl => ?_)
  refine lv_aload_n hx hb d_M_feed_88 rfl (lv_at hl 2 rfl) ?_
  refine va_get (D := G.1) (ci := 4) (v := .ref m1) (C := "TreePressModel") (T := kb_F4) (N := 21) hx hb ht kb_w4 hown hE.1 hP 0 rfl rfl 1 (by decide) (ht _ wd_5836b793) (fun _ h9 => h9) rfl d_M_feed_89 ?_
  refine lv_aload_n hx hb d_M_feed_92 rfl (lv_at hl 2 rfl) ?_
  refine va_get (D := G.1) (ci := 4) (v := .int 17) (C := "TreePressModel") (T := kb_F4) (N := 21) hx hb ht kb_w4 hown hE.1 hP 0 rfl rfl 2 (by decide) (ht _ wd_822be019) (fun _ h9 => h9) rfl d_M_feed_93 ?_
  refine lv_iload hx hb d_M_feed_96 (lv_at hl 0 rfl) ?_
  refine lv_bipush (v := 24) hx hb d_M_feed_98 (by decide) ?_
  refine lv_bipush (v := 8) hx hb d_M_feed_100 (by decide) ?_
  refine lv_iload hx hb d_M_feed_102 (lv_at hl 1 rfl) ?_
  refine lv_iconst (v := 4) hx hb d_M_feed_104 (by decide) ?_
  refine lv_irem hx hb d_M_feed_105 (by decide) ?_
  refine kb_top (y := 1) (by decide) ?_
  refine lv_imul hx hb d_M_feed_106 ?_
  refine kb_top (y := 8) (by decide) ?_
  refine lv_isub hx hb d_M_feed_107 ?_
  refine kb_top (y := 16) (by decide) ?_
  refine lv_ishr hx hb d_M_feed_108 ?_
  refine lv_sipush (v := 255) hx hb d_M_feed_109 (by decide) ?_
  refine lv_iand hx hb d_M_feed_112 ?_
  refine va_iast hx hb hE.1 hP hD hS 1 0 rfl rfl (show ¬ ((17 : Int32) < 0 ∨ 65536 ≤ (17 : Int32).toNatClampNeg) by decide) d_M_feed_113 (fun H locs hP hD hS => ?_)
  have hP : va_P G.1 kb_cl [kb_o h 4 [.int 0, .ref m1, .int 17, .ref m3, .int 0, .ref m5, .ref m6, .ref m7, .ref m8, .ref m9, .ref m10, .ref m11, .ref m12, .ref m13, .ref m14, .ref m15, .int 0, .int 0, .int 0, .int 0, .int 0], kb_a G m1 65536 (upd gc17 17 ((x5 >>> (16 &&& 31)) &&& 255))] H := hP
  have hD : va_D A [kb_o h 4 [.int 0, .ref m1, .int 17, .ref m3, .int 0, .ref m5, .ref m6, .ref m7, .ref m8, .ref m9, .ref m10, .ref m11, .ref m12, .ref m13, .ref m14, .ref m15, .int 0, .int 0, .int 0, .int 0, .int 0], kb_a G m1 65536 (upd gc17 17 ((x5 >>> (16 &&& 31)) &&& 255))] := hD
  generalize (upd gc17 17 ((x5 >>> (16 &&& 31)) &&& 255)) = gc18 at hP hD
  refine lv_aload_n hx hb d_M_feed_114 rfl (lv_at hl 2 rfl) ?_
  refine lv_dup hx hb d_M_feed_115 rfl ?_
  refine va_get (D := G.1) (ci := 4) (v := .int 17) (C := "TreePressModel") (T := kb_F4) (N := 21) hx hb ht kb_w4 hown hE.1 hP 0 rfl rfl 2 (by decide) (ht _ wd_822be019) (fun _ h9 => h9) rfl d_M_feed_116 ?_
  refine lv_iconst (v := 1) hx hb d_M_feed_119 (by decide) ?_
  refine lv_iadd hx hb d_M_feed_120 ?_
  refine kb_top (y := 18) (by decide) ?_
  refine va_put (D := G.1) (ci := 4) (v := .int 18) (ty := .int) (C := "TreePressModel") (T := kb_F4) (N := 21) hx hb ht kb_w4 kb_y4 kb_p4 kb_n4 hown hE.1 hP hD hS 0 rfl rfl 2 (by decide) (ht _ wd_822be019) (fun _ h9 => h9) rfl (by decide +kernel) rfl rfl (Nat.le_of_ble_eq_true rfl) d_M_feed_121 (fun H locs hP hD hS => ?_)
  have hP : va_P G.1 kb_cl [kb_o h 4 [.int 0, .ref m1, .int 18, .ref m3, .int 0, .ref m5, .ref m6, .ref m7, .ref m8, .ref m9, .ref m10, .ref m11, .ref m12, .ref m13, .ref m14, .ref m15, .int 0, .int 0, .int 0, .int 0, .int 0], kb_a G m1 65536 gc18] H := hP
  have hD : va_D A [kb_o h 4 [.int 0, .ref m1, .int 18, .ref m3, .int 0, .ref m5, .ref m6, .ref m7, .ref m8, .ref m9, .ref m10, .ref m11, .ref m12, .ref m13, .ref m14, .ref m15, .int 0, .int 0, .int 0, .int 0, .int 0], kb_a G m1 65536 gc18] := hD
  refine lv_iinc (v := 18) (lv' := [(6, .int 18), (7, .int x5), (0, .ref h), (1, .int x1), (2, .int x2), (3, .int x3), (4, .int x4), (5, .int x5)]) hx hb d_M_feed_124 hl (k := 1) rfl (by decide) (by decide) rfl (fun ls hl => ?_)
  refine lv_goto (tgt := 33) hx hb d_M_feed_127 (by decide) ?_
  refine lv_iload hx hb d_M_feed_33 (lv_at hl 0 rfl) ?_
  refine lv_bipush (v := 20) hx hb d_M_feed_35 (by decide) ?_
  refine lv_icmp_ge (tgt := 130) hx hb d_M_feed_37 (by decide) (fun c9 => absurd c9 (by decide)) (fun c9 => ?_)
  refine lv_iload hx hb d_M_feed_40 (lv_at hl 0 rfl) ?_
  refine lv_iconst (v := 4) hx hb d_M_feed_42 (by decide) ?_
  refine lv_icmp_ge (tgt := 50) hx hb d_M_feed_43 (by decide) (fun c9 => ?_) (fun c9 => absurd (by decide) c9)
  refine lv_iload hx hb d_M_feed_50 (lv_at hl 0 rfl) ?_
  refine lv_bipush (v := 8) hx hb d_M_feed_52 (by decide) ?_
  refine lv_icmp_ge (tgt := 61) hx hb d_M_feed_54 (by decide) (fun c9 => ?_) (fun c9 => absurd (by decide) c9)
  refine lv_iload hx hb d_M_feed_61 (lv_at hl 0 rfl) ?_
  refine lv_bipush (v := 12) hx hb d_M_feed_63 (by decide) ?_
  refine lv_icmp_ge (tgt := 72) hx hb d_M_feed_65 (by decide) (fun c9 => ?_) (fun c9 => absurd (by decide) c9)
  refine lv_iload hx hb d_M_feed_72 (lv_at hl 0 rfl) ?_
  refine lv_bipush (v := 16) hx hb d_M_feed_74 (by decide) ?_
  refine lv_icmp_ge (tgt := 84) hx hb d_M_feed_76 (by decide) (fun c9 => ?_) (fun c9 => absurd (by decide) c9)
  refine lv_iload hx hb d_M_feed_84 (lv_at hl 7 rfl) ?_
  refine lv_istore (lv' := [(7, .int x5), (6, .int 18), (0, .ref h), (1, .int x1), (2, .int x2), (3, .int x3), (4, .int x4), (5, .int x5)]) hx hb d_M_feed_86 hl (by decide) rfl (fun ls hl => ?_)
  refine lv_aload_n hx hb d_M_feed_88 rfl (lv_at hl 2 rfl) ?_
  refine va_get (D := G.1) (ci := 4) (v := .ref m1) (C := "TreePressModel") (T := kb_F4) (N := 21) hx hb ht kb_w4 hown hE.1 hP 0 rfl rfl 1 (by decide) (ht _ wd_5836b793) (fun _ h9 => h9) rfl d_M_feed_89 ?_
  refine lv_aload_n hx hb d_M_feed_92 rfl (lv_at hl 2 rfl) ?_
  refine va_get (D := G.1) (ci := 4) (v := .int 18) (C := "TreePressModel") (T := kb_F4) (N := 21) hx hb ht kb_w4 hown hE.1 hP 0 rfl rfl 2 (by decide) (ht _ wd_822be019) (fun _ h9 => h9) rfl d_M_feed_93 ?_
  refine lv_iload hx hb d_M_feed_96 (lv_at hl 0 rfl) ?_
  refine lv_bipush (v := 24) hx hb d_M_feed_98 (by decide) ?_
  refine lv_bipush (v := 8) hx hb d_M_feed_100 (by decide) ?_
  refine lv_iload hx hb d_M_feed_102 (lv_at hl 1 rfl) ?_
  refine lv_iconst (v := 4) hx hb d_M_feed_104 (by decide) ?_
  refine lv_irem hx hb d_M_feed_105 (by decide) ?_
  refine kb_top (y := 2) (by decide) ?_
  refine lv_imul hx hb d_M_feed_106 ?_
  refine kb_top (y := 16) (by decide) ?_
  refine lv_isub hx hb d_M_feed_107 ?_
  refine kb_top (y := 8) (by decide) ?_
  refine lv_ishr hx hb d_M_feed_108 ?_
  refine lv_sipush (v := 255) hx hb d_M_feed_109 (by decide) ?_
  refine lv_iand hx hb d_M_feed_112 ?_
  refine va_iast hx hb hE.1 hP hD hS 1 0 rfl rfl (show ¬ ((18 : Int32) < 0 ∨ 65536 ≤ (18 : Int32).toNatClampNeg) by decide) d_M_feed_113 (fun H locs hP hD hS => ?_)
  have hP : va_P G.1 kb_cl [kb_o h 4 [.int 0, .ref m1, .int 18, .ref m3, .int 0, .ref m5, .ref m6, .ref m7, .ref m8, .ref m9, .ref m10, .ref m11, .ref m12, .ref m13, .ref m14, .ref m15, .int 0, .int 0, .int 0, .int 0, .int 0], kb_a G m1 65536 (upd gc18 18 ((x5 >>> (8 &&& 31)) &&& 255))] H := hP
  have hD : va_D A [kb_o h 4 [.int 0, .ref m1, .int 18, .ref m3, .int 0, .ref m5, .ref m6, .ref m7, .ref m8, .ref m9, .ref m10, .ref m11, .ref m12, .ref m13, .ref m14, .ref m15, .int 0, .int 0, .int 0, .int 0, .int 0], kb_a G m1 65536 (upd gc18 18 ((x5 >>> (8 &&& 31)) &&& 255))] := hD
  generalize (upd gc18 18 ((x5 >>> (8 &&& 31)) &&& 255)) = gc19 at hP hD
  refine lv_aload_n hx hb d_M_feed_114 rfl (lv_at hl 2 rfl) ?_
  refine lv_dup hx hb d_M_feed_115 rfl ?_
  refine va_get (D := G.1) (ci := 4) (v := .int 18) (C := "TreePressModel") (T := kb_F4) (N := 21) hx hb ht kb_w4 hown hE.1 hP 0 rfl rfl 2 (by decide) (ht _ wd_822be019) (fun _ h9 => h9) rfl d_M_feed_116 ?_
  refine lv_iconst (v := 1) hx hb d_M_feed_119 (by decide) ?_
  refine lv_iadd hx hb d_M_feed_120 ?_
  refine kb_top (y := 19) (by decide) ?_
  refine va_put (D := G.1) (ci := 4) (v := .int 19) (ty := .int) (C := "TreePressModel") (T := kb_F4) (N := 21) hx hb ht kb_w4 kb_y4 kb_p4 kb_n4 hown hE.1 hP hD hS 0 rfl rfl 2 (by decide) (ht _ wd_822be019) (fun _ h9 => h9) rfl (by decide +kernel) rfl rfl (Nat.le_of_ble_eq_true rfl) d_M_feed_121 (fun H locs hP hD hS => ?_)
  have hP : va_P G.1 kb_cl [kb_o h 4 [.int 0, .ref m1, .int 19, .ref m3, .int 0, .ref m5, .ref m6, .ref m7, .ref m8, .ref m9, .ref m10, .ref m11, .ref m12, .ref m13, .ref m14, .ref m15, .int 0, .int 0, .int 0, .int 0, .int 0], kb_a G m1 65536 gc19] H := hP
  have hD : va_D A [kb_o h 4 [.int 0, .ref m1, .int 19, .ref m3, .int 0, .ref m5, .ref m6, .ref m7, .ref m8, .ref m9, .ref m10, .ref m11, .ref m12, .ref m13, .ref m14, .ref m15, .int 0, .int 0, .int 0, .int 0, .int 0], kb_a G m1 65536 gc19] := hD
  refine lv_iinc (v := 19) (lv' := [(6, .int 19), (7, .int x5), (0, .ref h), (1, .int x1), (2, .int x2), (3, .int x3), (4, .int x4), (5, .int x5)]) hx hb d_M_feed_124 hl (k := 1) rfl (by decide) (by decide) rfl (fun ls hl => ?_)
  refine lv_goto (tgt := 33) hx hb d_M_feed_127 (by decide) ?_
  refine lv_iload hx hb d_M_feed_33 (lv_at hl 0 rfl) ?_
  refine lv_bipush (v := 20) hx hb d_M_feed_35 (by decide) ?_
  refine lv_icmp_ge (tgt := 130) hx hb d_M_feed_37 (by decide) (fun c9 => absurd c9 (by decide)) (fun c9 => ?_)
  refine lv_iload hx hb d_M_feed_40 (lv_at hl 0 rfl) ?_
  refine lv_iconst (v := 4) hx hb d_M_feed_42 (by decide) ?_
  refine lv_icmp_ge (tgt := 50) hx hb d_M_feed_43 (by decide) (fun c9 => ?_) (fun c9 => absurd (by decide) c9)
  refine lv_iload hx hb d_M_feed_50 (lv_at hl 0 rfl) ?_
  refine lv_bipush (v := 8) hx hb d_M_feed_52 (by decide) ?_
  refine lv_icmp_ge (tgt := 61) hx hb d_M_feed_54 (by decide) (fun c9 => ?_) (fun c9 => absurd (by decide) c9)
  refine lv_iload hx hb d_M_feed_61 (lv_at hl 0 rfl) ?_
  refine lv_bipush (v := 12) hx hb d_M_feed_63 (by decide) ?_
  refine lv_icmp_ge (tgt := 72) hx hb d_M_feed_65 (by decide) (fun c9 => ?_) (fun c9 => absurd (by decide) c9)
  refine lv_iload hx hb d_M_feed_72 (lv_at hl 0 rfl) ?_
  refine lv_bipush (v := 16) hx hb d_M_feed_74 (by decide) ?_
  refine lv_icmp_ge (tgt := 84) hx hb d_M_feed_76 (by decide) (fun c9 => ?_) (fun c9 => absurd (by decide) c9)
  refine lv_iload hx hb d_M_feed_84 (lv_at hl 7 rfl) ?_
  refine lv_istore (lv' := [(7, .int x5), (6, .int 19), (0, .ref h), (1, .int x1), (2, .int x2), (3, .int x3), (4, .int x4), (5, .int x5)]) hx hb d_M_feed_86 hl (by decide) rfl (fun ls hl => ?_)
  refine lv_aload_n hx hb d_M_feed_88 rfl (lv_at hl 2 rfl) ?_
  refine va_get (D := G.1) (ci := 4) (v := .ref m1) (C := "TreePressModel") (T := kb_F4) (N := 21) hx hb ht kb_w4 hown hE.1 hP 0 rfl rfl 1 (by decide) (ht _ wd_5836b793) (fun _ h9 => h9) rfl d_M_feed_89 ?_
  refine lv_aload_n hx hb d_M_feed_92 rfl (lv_at hl 2 rfl) ?_
  refine va_get (D := G.1) (ci := 4) (v := .int 19) (C := "TreePressModel") (T := kb_F4) (N := 21) hx hb ht kb_w4 hown hE.1 hP 0 rfl rfl 2 (by decide) (ht _ wd_822be019) (fun _ h9 => h9) rfl d_M_feed_93 ?_
  refine lv_iload hx hb d_M_feed_96 (lv_at hl 0 rfl) ?_
  refine lv_bipush (v := 24) hx hb d_M_feed_98 (by decide) ?_
  refine lv_bipush (v := 8) hx hb d_M_feed_100 (by decide) ?_
  refine lv_iload hx hb d_M_feed_102 (lv_at hl 1 rfl) ?_
  refine lv_iconst (v := 4) hx hb d_M_feed_104 (by decide) ?_
  refine lv_irem hx hb d_M_feed_105 (by decide) ?_
  refine kb_top (y := 3) (by decide) ?_
  refine lv_imul hx hb d_M_feed_106 ?_
  refine kb_top (y := 24) (by decide) ?_
  refine lv_isub hx hb d_M_feed_107 ?_
  refine kb_top (y := 0) (by decide) ?_
  refine lv_ishr hx hb d_M_feed_108 ?_
  refine lv_sipush (v := 255) hx hb d_M_feed_109 (by decide) ?_
  refine lv_iand hx hb d_M_feed_112 ?_
  refine va_iast hx hb hE.1 hP hD hS 1 0 rfl rfl (show ¬ ((19 : Int32) < 0 ∨ 65536 ≤ (19 : Int32).toNatClampNeg) by decide) d_M_feed_113 (fun H locs hP hD hS => ?_)
  have hP : va_P G.1 kb_cl [kb_o h 4 [.int 0, .ref m1, .int 19, .ref m3, .int 0, .ref m5, .ref m6, .ref m7, .ref m8, .ref m9, .ref m10, .ref m11, .ref m12, .ref m13, .ref m14, .ref m15, .int 0, .int 0, .int 0, .int 0, .int 0], kb_a G m1 65536 (upd gc19 19 ((x5 >>> (0 &&& 31)) &&& 255))] H := hP
  have hD : va_D A [kb_o h 4 [.int 0, .ref m1, .int 19, .ref m3, .int 0, .ref m5, .ref m6, .ref m7, .ref m8, .ref m9, .ref m10, .ref m11, .ref m12, .ref m13, .ref m14, .ref m15, .int 0, .int 0, .int 0, .int 0, .int 0], kb_a G m1 65536 (upd gc19 19 ((x5 >>> (0 &&& 31)) &&& 255))] := hD
  generalize (upd gc19 19 ((x5 >>> (0 &&& 31)) &&& 255)) = gc20 at hP hD
  refine lv_aload_n hx hb d_M_feed_114 rfl (lv_at hl 2 rfl) ?_
  refine lv_dup hx hb d_M_feed_115 rfl ?_
  refine va_get (D := G.1) (ci := 4) (v := .int 19) (C := "TreePressModel") (T := kb_F4) (N := 21) hx hb ht kb_w4 hown hE.1 hP 0 rfl rfl 2 (by decide) (ht _ wd_822be019) (fun _ h9 => h9) rfl d_M_feed_116 ?_
  refine lv_iconst (v := 1) hx hb d_M_feed_119 (by decide) ?_
  refine lv_iadd hx hb d_M_feed_120 ?_
  refine kb_top (y := 20) (by decide) ?_
  refine va_put (D := G.1) (ci := 4) (v := .int 20) (ty := .int) (C := "TreePressModel") (T := kb_F4) (N := 21) hx hb ht kb_w4 kb_y4 kb_p4 kb_n4 hown hE.1 hP hD hS 0 rfl rfl 2 (by decide) (ht _ wd_822be019) (fun _ h9 => h9) rfl (by decide +kernel) rfl rfl (Nat.le_of_ble_eq_true rfl) d_M_feed_121 (fun H locs hP hD hS => ?_)
  have hP : va_P G.1 kb_cl [kb_o h 4 [.int 0, .ref m1, .int 20, .ref m3, .int 0, .ref m5, .ref m6, .ref m7, .ref m8, .ref m9, .ref m10, .ref m11, .ref m12, .ref m13, .ref m14, .ref m15, .int 0, .int 0, .int 0, .int 0, .int 0], kb_a G m1 65536 gc20] H := hP
  have hD : va_D A [kb_o h 4 [.int 0, .ref m1, .int 20, .ref m3, .int 0, .ref m5, .ref m6, .ref m7, .ref m8, .ref m9, .ref m10, .ref m11, .ref m12, .ref m13, .ref m14, .ref m15, .int 0, .int 0, .int 0, .int 0, .int 0], kb_a G m1 65536 gc20] := hD
  refine lv_iinc (v := 20) (lv' := [(6, .int 20), (7, .int x5), (0, .ref h), (1, .int x1), (2, .int x2), (3, .int x3), (4, .int x4), (5, .int x5)]) hx hb d_M_feed_124 hl (k := 1) rfl (by decide) (by decide) rfl (fun ls hl => ?_)
  refine lv_goto (tgt := 33) hx hb d_M_feed_127 (by decide) ?_
  refine lv_iload hx hb d_M_feed_33 (lv_at hl 0 rfl) ?_
  refine lv_bipush (v := 20) hx hb d_M_feed_35 (by decide) ?_
  refine lv_icmp_ge (tgt := 130) hx hb d_M_feed_37 (by decide) (fun c9 => ?_) (fun c9 => absurd (by decide) c9)
  refine lv_aload_n hx hb d_M_feed_130 rfl (lv_at hl 2 rfl) ?_
  refine va_get (D := G.1) (ci := 4) (v := .int 20) (C := "TreePressModel") (T := kb_F4) (N := 21) hx hb ht kb_w4 hown hE.1 hP 0 rfl rfl 2 (by decide) (ht _ wd_822be019) (fun _ h9 => h9) rfl d_M_feed_131 ?_
  exact kb_reti (kb_l [], kb_f []) hx hb hr hlocks hE hP hD hS [0] rfl (by decide) rfl rfl (Nat.le_of_ble_eq_true rfl) (Nat.le_of_ble_eq_true rfl) d_M_feed_134

set_option maxHeartbeats 4000000 in
set_option maxRecDepth 100000 in
theorem c_M_end0 (l : Launch) (G : kb_G) (h : Nat) (T : Int32) (m1 : Nat) (m3 : Nat) (m5 : Nat) (m6 : Nat) (m7 : Nat) (m8 : Nat) (m9 : Nat) (m10 : Nat) (m11 : Nat) (m12 : Nat) (m13 : Nat) (m14 : Nat) (m15 : Nat) : kb_cv l G ⟨"TreePressModel", "end", "(I)V"⟩ prog_6_method_5_code 2 1 0 0 [.ref h, .int 0] [kb_o h 4 [.int T, .ref m1, .int 0, .ref m3, .int 0, .ref m5, .ref m6, .ref m7, .ref m8, .ref m9, .ref m10, .ref m11, .ref m12, .ref m13, .ref m14, .ref m15, .int 0, .int 0, .int 0, .int 0, .int 0]] (fun u => True) (fun u => [kb_o h 4 [.int 0, .ref m1, .int 0, .ref m3, .int 0, .ref m5, .ref m6, .ref m7, .ref m8, .ref m9, .ref m10, .ref m11, .ref m12, .ref m13, .ref m14, .ref m15, .int 0, .int 0, .int 0, .int 0, .int 0]]) := by
  intro sz
  refine kb_body (QQ := fun A => kb_Qv G A (fun u => True) (fun u => [kb_o h 4 [.int 0, .ref m1, .int 0, .ref m3, .int 0, .ref m5, .ref m6, .ref m7, .ref m8, .ref m9, .ref m10, .ref m11, .ref m12, .ref m13, .ref m14, .ref m15, .int 0, .int 0, .int 0, .int 0, .int 0]])) (by decide) (Nat.le_of_ble_eq_true rfl) ?_
  intro p e s m below meth c A B ls hl
  obtain ⟨hx, hb, hr, hml, hlocks, hin, hown, ht, hE, hP, hD, hS⟩ := B
  have hl : lv_has ls 2 [(0, .ref h), (1, .int 0)] := hl
  have hP0 := hP
  obtain ⟨H, hHe⟩ : ∃ H, H = s.heap := ⟨_, rfl⟩
  rw [← hHe] at hP
  have hS : va_S A s.heap H [] := by rw [hHe]; exact hS
  refine kb_at hHe ?_
  clear hHe
  refine lv_aload_n hx hb d_M_end_0 rfl (lv_at hl 0 rfl) ?_
  refine lv_iload_n hx hb d_M_end_1 rfl (lv_at hl 1 rfl) ?_
  refine lv_if_lt (tgt := 13) hx hb d_M_end_2 (by decide) (fun c9 => absurd c9 (by decide)) (fun c9 => ?_)
  refine lv_iload_n hx hb d_M_end_5 rfl (lv_at hl 1 rfl) ?_
  refine lv_aload_n hx hb d_M_end_6 rfl (lv_at hl 0 rfl) ?_
  refine va_get (D := G.1) (ci := 4) (v := .int 0) (C := "TreePressModel") (T := kb_F4) (N := 21) hx hb ht kb_w4 hown hE.1 hP 0 rfl rfl 2 (by decide) (ht _ wd_822be019) (fun _ h9 => h9) rfl d_M_end_7 ?_
  refine lv_icmp_le (tgt := 17) hx hb d_M_end_10 (by decide) (fun c9 => ?_) (fun c9 => absurd (by decide) c9)
  refine lv_iconst (v := 0) hx hb d_M_end_17 (by decide) ?_
  refine va_put (D := G.1) (ci := 4) (v := .int 0) (ty := .int) (C := "TreePressModel") (T := kb_F4) (N := 21) hx hb ht kb_w4 kb_y4 kb_p4 kb_n4 hown hE.1 hP hD hS 0 rfl rfl 0 (by decide) (ht _ wd_d5599598) (fun _ h9 => h9) rfl (by decide +kernel) rfl rfl (Nat.le_of_ble_eq_true rfl) d_M_end_18 (fun H locs hP hD hS => ?_)
  have hP : va_P G.1 kb_cl [kb_o h 4 [.int 0, .ref m1, .int 0, .ref m3, .int 0, .ref m5, .ref m6, .ref m7, .ref m8, .ref m9, .ref m10, .ref m11, .ref m12, .ref m13, .ref m14, .ref m15, .int 0, .int 0, .int 0, .int 0, .int 0]] H := hP
  have hD : va_D A [kb_o h 4 [.int 0, .ref m1, .int 0, .ref m3, .int 0, .ref m5, .ref m6, .ref m7, .ref m8, .ref m9, .ref m10, .ref m11, .ref m12, .ref m13, .ref m14, .ref m15, .int 0, .int 0, .int 0, .int 0, .int 0]] := hD
  refine lv_aload_n hx hb d_M_end_21 rfl (lv_at hl 0 rfl) ?_
  refine lv_aload_n hx hb d_M_end_22 rfl (lv_at hl 0 rfl) ?_
  refine va_get (D := G.1) (ci := 4) (v := .int 0) (C := "TreePressModel") (T := kb_F4) (N := 21) hx hb ht kb_w4 hown hE.1 hP 0 rfl rfl 0 (by decide) (ht _ wd_d5599598) (fun _ h9 => h9) rfl d_M_end_23 ?_
  refine lv_if_le (tgt := 36) hx hb d_M_end_26 (by decide) (fun c9 => ?_) (fun c9 => absurd (by decide) c9)
  refine lv_iload_n hx hb d_M_end_36 rfl (lv_at hl 1 rfl) ?_
  refine va_put (D := G.1) (ci := 4) (v := .int 0) (ty := .int) (C := "TreePressModel") (T := kb_F4) (N := 21) hx hb ht kb_w4 kb_y4 kb_p4 kb_n4 hown hE.1 hP hD hS 0 rfl rfl 2 (by decide) (ht _ wd_822be019) (fun _ h9 => h9) rfl (by decide +kernel) rfl rfl (Nat.le_of_ble_eq_true rfl) d_M_end_37 (fun H locs hP hD hS => ?_)
  have hP : va_P G.1 kb_cl [kb_o h 4 [.int 0, .ref m1, .int 0, .ref m3, .int 0, .ref m5, .ref m6, .ref m7, .ref m8, .ref m9, .ref m10, .ref m11, .ref m12, .ref m13, .ref m14, .ref m15, .int 0, .int 0, .int 0, .int 0, .int 0]] H := hP
  have hD : va_D A [kb_o h 4 [.int 0, .ref m1, .int 0, .ref m3, .int 0, .ref m5, .ref m6, .ref m7, .ref m8, .ref m9, .ref m10, .ref m11, .ref m12, .ref m13, .ref m14, .ref m15, .int 0, .int 0, .int 0, .int 0, .int 0]] := hD
  exact kb_retv (kb_l [], kb_f []) hx hb hr hlocks hE hP hD hS [0] rfl (by decide) rfl trivial (Nat.le_of_ble_eq_true rfl) (Nat.le_of_ble_eq_true rfl) d_M_end_40

set_option maxHeartbeats 4000000 in
set_option maxRecDepth 100000 in
theorem c_M_endX (l : Launch) (G : kb_G) (h : Nat) (T : Int32) (m1 : Nat) (m3 : Nat) (m5 : Nat) (m6 : Nat) (m7 : Nat) (m8 : Nat) (m9 : Nat) (m10 : Nat) (m11 : Nat) (m12 : Nat) (m13 : Nat) (m14 : Nat) (m15 : Nat) (n : Int32) (hn : ¬ n = 0) : kb_cv l G ⟨"TreePressModel", "end", "(I)V"⟩ prog_6_method_5_code 2 1 0 0 [.ref h, .int n] [kb_o h 4 [.int T, .ref m1, .int 0, .ref m3, .int 0, .ref m5, .ref m6, .ref m7, .ref m8, .ref m9, .ref m10, .ref m11, .ref m12, .ref m13, .ref m14, .ref m15, .int 0, .int 0, .int 0, .int 0, .int 0]] (fun u => True) (fun u => [kb_o h 4 [.int 1, .ref m1, .int 0, .ref m3, .int 0, .ref m5, .ref m6, .ref m7, .ref m8, .ref m9, .ref m10, .ref m11, .ref m12, .ref m13, .ref m14, .ref m15, .int 0, .int 0, .int 0, .int 0, .int 0]]) := by
  intro sz
  refine kb_body (QQ := fun A => kb_Qv G A (fun u => True) (fun u => [kb_o h 4 [.int 1, .ref m1, .int 0, .ref m3, .int 0, .ref m5, .ref m6, .ref m7, .ref m8, .ref m9, .ref m10, .ref m11, .ref m12, .ref m13, .ref m14, .ref m15, .int 0, .int 0, .int 0, .int 0, .int 0]])) (by decide) (Nat.le_of_ble_eq_true rfl) ?_
  intro p e s m below meth c A B ls hl
  obtain ⟨hx, hb, hr, hml, hlocks, hin, hown, ht, hE, hP, hD, hS⟩ := B
  have hl : lv_has ls 2 [(0, .ref h), (1, .int n)] := hl
  have hP0 := hP
  obtain ⟨H, hHe⟩ : ∃ H, H = s.heap := ⟨_, rfl⟩
  rw [← hHe] at hP
  have hS : va_S A s.heap H [] := by rw [hHe]; exact hS
  refine kb_at hHe ?_
  clear hHe
  refine lv_aload_n hx hb d_M_end_0 rfl (lv_at hl 0 rfl) ?_
  refine lv_iload_n hx hb d_M_end_1 rfl (lv_at hl 1 rfl) ?_
  refine lv_if_lt (tgt := 13) hx hb d_M_end_2 (by decide) (fun cb1 => ?_) (fun cb1 => ?_)
  · refine lv_iconst (v := 1) hx hb d_M_end_13 (by decide) ?_
    refine lv_goto (tgt := 18) hx hb d_M_end_14 (by decide) ?_
    refine va_put (D := G.1) (ci := 4) (v := .int 1) (ty := .int) (C := "TreePressModel") (T := kb_F4) (N := 21) hx hb ht kb_w4 kb_y4 kb_p4 kb_n4 hown hE.1 hP hD hS 0 rfl rfl 0 (by decide) (ht _ wd_d5599598) (fun _ h9 => h9) rfl (by decide +kernel) rfl rfl (Nat.le_of_ble_eq_true rfl) d_M_end_18 (fun H locs hP hD hS => ?_)
    have hP : va_P G.1 kb_cl [kb_o h 4 [.int 1, .ref m1, .int 0, .ref m3, .int 0, .ref m5, .ref m6, .ref m7, .ref m8, .ref m9, .ref m10, .ref m11, .ref m12, .ref m13, .ref m14, .ref m15, .int 0, .int 0, .int 0, .int 0, .int 0]] H := hP
    have hD : va_D A [kb_o h 4 [.int 1, .ref m1, .int 0, .ref m3, .int 0, .ref m5, .ref m6, .ref m7, .ref m8, .ref m9, .ref m10, .ref m11, .ref m12, .ref m13, .ref m14, .ref m15, .int 0, .int 0, .int 0, .int 0, .int 0]] := hD
    refine lv_aload_n hx hb d_M_end_21 rfl (lv_at hl 0 rfl) ?_
    refine lv_aload_n hx hb d_M_end_22 rfl (lv_at hl 0 rfl) ?_
    refine va_get (D := G.1) (ci := 4) (v := .int 1) (C := "TreePressModel") (T := kb_F4) (N := 21) hx hb ht kb_w4 hown hE.1 hP 0 rfl rfl 0 (by decide) (ht _ wd_d5599598) (fun _ h9 => h9) rfl d_M_end_23 ?_
    refine lv_if_le (tgt := 36) hx hb d_M_end_26 (by decide) (fun c9 => absurd c9 (by decide)) (fun c9 => ?_)
    refine lv_aload_n hx hb d_M_end_29 rfl (lv_at hl 0 rfl) ?_
    refine va_get (D := G.1) (ci := 4) (v := .int 0) (C := "TreePressModel") (T := kb_F4) (N := 21) hx hb ht kb_w4 hown hE.1 hP 0 rfl rfl 2 (by decide) (ht _ wd_822be019) (fun _ h9 => h9) rfl d_M_end_30 ?_
    refine lv_goto (tgt := 37) hx hb d_M_end_33 (by decide) ?_
    refine va_put (D := G.1) (ci := 4) (v := .int 0) (ty := .int) (C := "TreePressModel") (T := kb_F4) (N := 21) hx hb ht kb_w4 kb_y4 kb_p4 kb_n4 hown hE.1 hP hD hS 0 rfl rfl 2 (by decide) (ht _ wd_822be019) (fun _ h9 => h9) rfl (by decide +kernel) rfl rfl (Nat.le_of_ble_eq_true rfl) d_M_end_37 (fun H locs hP hD hS => ?_)
    have hP : va_P G.1 kb_cl [kb_o h 4 [.int 1, .ref m1, .int 0, .ref m3, .int 0, .ref m5, .ref m6, .ref m7, .ref m8, .ref m9, .ref m10, .ref m11, .ref m12, .ref m13, .ref m14, .ref m15, .int 0, .int 0, .int 0, .int 0, .int 0]] H := hP
    have hD : va_D A [kb_o h 4 [.int 1, .ref m1, .int 0, .ref m3, .int 0, .ref m5, .ref m6, .ref m7, .ref m8, .ref m9, .ref m10, .ref m11, .ref m12, .ref m13, .ref m14, .ref m15, .int 0, .int 0, .int 0, .int 0, .int 0]] := hD
    exact kb_retv (kb_l [], kb_f []) hx hb hr hlocks hE hP hD hS [0] rfl (by decide) rfl trivial (Nat.le_of_ble_eq_true rfl) (Nat.le_of_ble_eq_true rfl) d_M_end_40
  · refine lv_iload_n hx hb d_M_end_5 rfl (lv_at hl 1 rfl) ?_
    refine lv_aload_n hx hb d_M_end_6 rfl (lv_at hl 0 rfl) ?_
    refine va_get (D := G.1) (ci := 4) (v := .int 0) (C := "TreePressModel") (T := kb_F4) (N := 21) hx hb ht kb_w4 hown hE.1 hP 0 rfl rfl 2 (by decide) (ht _ wd_822be019) (fun _ h9 => h9) rfl d_M_end_7 ?_
    refine lv_icmp_le (tgt := 17) hx hb d_M_end_10 (by decide) (fun c9 => False.elim (by have e0 : ¬ (n : Int32).toInt = (0 : Int32).toInt := fun z9 => hn (Int32.toInt_inj.mp z9); have e1 : ¬ (n : Int32).toInt < (0 : Int32).toInt := fun z9 => cb1 (Int32.lt_iff_toInt_lt.mpr z9); have e2 : (n : Int32).toInt ≤ (0 : Int32).toInt := Int32.le_iff_toInt_le.mp c9; have k0 : (0 : Int32).toInt = 0 := rfl; omega)) (fun c9 => ?_)
    refine lv_iconst (v := 1) hx hb d_M_end_13 (by decide) ?_
    refine lv_goto (tgt := 18) hx hb d_M_end_14 (by decide) ?_
    refine va_put (D := G.1) (ci := 4) (v := .int 1) (ty := .int) (C := "TreePressModel") (T := kb_F4) (N := 21) hx hb ht kb_w4 kb_y4 kb_p4 kb_n4 hown hE.1 hP hD hS 0 rfl rfl 0 (by decide) (ht _ wd_d5599598) (fun _ h9 => h9) rfl (by decide +kernel) rfl rfl (Nat.le_of_ble_eq_true rfl) d_M_end_18 (fun H locs hP hD hS => ?_)
    have hP : va_P G.1 kb_cl [kb_o h 4 [.int 1, .ref m1, .int 0, .ref m3, .int 0, .ref m5, .ref m6, .ref m7, .ref m8, .ref m9, .ref m10, .ref m11, .ref m12, .ref m13, .ref m14, .ref m15, .int 0, .int 0, .int 0, .int 0, .int 0]] H := hP
    have hD : va_D A [kb_o h 4 [.int 1, .ref m1, .int 0, .ref m3, .int 0, .ref m5, .ref m6, .ref m7, .ref m8, .ref m9, .ref m10, .ref m11, .ref m12, .ref m13, .ref m14, .ref m15, .int 0, .int 0, .int 0, .int 0, .int 0]] := hD
    refine lv_aload_n hx hb d_M_end_21 rfl (lv_at hl 0 rfl) ?_
    refine lv_aload_n hx hb d_M_end_22 rfl (lv_at hl 0 rfl) ?_
    refine va_get (D := G.1) (ci := 4) (v := .int 1) (C := "TreePressModel") (T := kb_F4) (N := 21) hx hb ht kb_w4 hown hE.1 hP 0 rfl rfl 0 (by decide) (ht _ wd_d5599598) (fun _ h9 => h9) rfl d_M_end_23 ?_
    refine lv_if_le (tgt := 36) hx hb d_M_end_26 (by decide) (fun c9 => absurd c9 (by decide)) (fun c9 => ?_)
    refine lv_aload_n hx hb d_M_end_29 rfl (lv_at hl 0 rfl) ?_
    refine va_get (D := G.1) (ci := 4) (v := .int 0) (C := "TreePressModel") (T := kb_F4) (N := 21) hx hb ht kb_w4 hown hE.1 hP 0 rfl rfl 2 (by decide) (ht _ wd_822be019) (fun _ h9 => h9) rfl d_M_end_30 ?_
    refine lv_goto (tgt := 37) hx hb d_M_end_33 (by decide) ?_
    refine va_put (D := G.1) (ci := 4) (v := .int 0) (ty := .int) (C := "TreePressModel") (T := kb_F4) (N := 21) hx hb ht kb_w4 kb_y4 kb_p4 kb_n4 hown hE.1 hP hD hS 0 rfl rfl 2 (by decide) (ht _ wd_822be019) (fun _ h9 => h9) rfl (by decide +kernel) rfl rfl (Nat.le_of_ble_eq_true rfl) d_M_end_37 (fun H locs hP hD hS => ?_)
    have hP : va_P G.1 kb_cl [kb_o h 4 [.int 1, .ref m1, .int 0, .ref m3, .int 0, .ref m5, .ref m6, .ref m7, .ref m8, .ref m9, .ref m10, .ref m11, .ref m12, .ref m13, .ref m14, .ref m15, .int 0, .int 0, .int 0, .int 0, .int 0]] H := hP
    have hD : va_D A [kb_o h 4 [.int 1, .ref m1, .int 0, .ref m3, .int 0, .ref m5, .ref m6, .ref m7, .ref m8, .ref m9, .ref m10, .ref m11, .ref m12, .ref m13, .ref m14, .ref m15, .int 0, .int 0, .int 0, .int 0, .int 0]] := hD
    exact kb_retv (kb_l [], kb_f []) hx hb hr hlocks hE hP hD hS [0] rfl (by decide) rfl trivial (Nat.le_of_ble_eq_true rfl) (Nat.le_of_ble_eq_true rfl) d_M_end_40

set_option maxHeartbeats 4000000 in
set_option maxRecDepth 100000 in
theorem c_M_clear (l : Launch) (G : kb_G) (h : Nat) (T : Int32) (m1 : Nat) (m3 : Nat) (m5 : Nat) (m6 : Nat) (m7 : Nat) (m8 : Nat) (m9 : Nat) (m10 : Nat) (m11 : Nat) (m12 : Nat) (m13 : Nat) (m14 : Nat) (m15 : Nat) : kb_cv l G ⟨"TreePressModel", "clear", "()V"⟩ prog_6_method_9_code 1 2 0 0 [.ref h] [kb_o h 4 [.int T, .ref m1, .int 0, .ref m3, .int 0, .ref m5, .ref m6, .ref m7, .ref m8, .ref m9, .ref m10, .ref m11, .ref m12, .ref m13, .ref m14, .ref m15, .int 0, .int 0, .int 0, .int 0, .int 0], kb_a G m5 2 (upd (fun _ => 0) 0 1), kb_a G m6 2 (upd (fun _ => 0) 0 0), kb_a G m7 2 (upd (fun _ => 0) 0 0), kb_a G m8 256 (upd (fun _ => 0) 0 (-1)), kb_a G m9 256 (upd (fun _ => 0) 0 0), kb_a G m10 256 (upd (fun _ => 0) 0 0)] (fun u => True) (fun u => [kb_o h 4 [.int 0, .ref m1, .int 0, .ref m3, .int 0, .ref m5, .ref m6, .ref m7, .ref m8, .ref m9, .ref m10, .ref m11, .ref m12, .ref m13, .ref m14, .ref m15, .int 0, .int 0, .int 0, .int 0, .int 0]]) := by
  intro sz
  refine kb_body (QQ := fun A => kb_Qv G A (fun u => True) (fun u => [kb_o h 4 [.int 0, .ref m1, .int 0, .ref m3, .int 0, .ref m5, .ref m6, .ref m7, .ref m8, .ref m9, .ref m10, .ref m11, .ref m12, .ref m13, .ref m14, .ref m15, .int 0, .int 0, .int 0, .int 0, .int 0]])) (by decide) (Nat.le_of_ble_eq_true rfl) ?_
  intro p e s m below meth c A B ls hl
  obtain ⟨hx, hb, hr, hml, hlocks, hin, hown, ht, hE, hP, hD, hS⟩ := B
  have hl : lv_has ls 1 [(0, .ref h)] := hl
  have hP0 := hP
  obtain ⟨H, hHe⟩ : ∃ H, H = s.heap := ⟨_, rfl⟩
  rw [← hHe] at hP
  have hS : va_S A s.heap H [] := by rw [hHe]; exact hS
  refine kb_at hHe ?_
  clear hHe
  refine lv_aload_n hx hb d_M_clear_0 rfl (lv_at hl 0 rfl) ?_
  refine lv_iconst (v := 0) hx hb d_M_clear_1 (by decide) ?_
  refine va_put (D := G.1) (ci := 4) (v := .int 0) (ty := .int) (C := "TreePressModel") (T := kb_F4) (N := 21) hx hb ht kb_w4 kb_y4 kb_p4 kb_n4 hown hE.1 hP hD hS 0 rfl rfl 0 (by decide) (ht _ wd_d5599598) (fun _ h9 => h9) rfl (by decide +kernel) rfl rfl (Nat.le_of_ble_eq_true rfl) d_M_clear_2 (fun H locs hP hD hS => ?_)
  have hP : va_P G.1 kb_cl [kb_o h 4 [.int 0, .ref m1, .int 0, .ref m3, .int 0, .ref m5, .ref m6, .ref m7, .ref m8, .ref m9, .ref m10, .ref m11, .ref m12, .ref m13, .ref m14, .ref m15, .int 0, .int 0, .int 0, .int 0, .int 0], kb_a G m5 2 (upd (fun _ => 0) 0 1), kb_a G m6 2 (upd (fun _ => 0) 0 0), kb_a G m7 2 (upd (fun _ => 0) 0 0), kb_a G m8 256 (upd (fun _ => 0) 0 (-1)), kb_a G m9 256 (upd (fun _ => 0) 0 0), kb_a G m10 256 (upd (fun _ => 0) 0 0)] H := hP
  have hD : va_D A [kb_o h 4 [.int 0, .ref m1, .int 0, .ref m3, .int 0, .ref m5, .ref m6, .ref m7, .ref m8, .ref m9, .ref m10, .ref m11, .ref m12, .ref m13, .ref m14, .ref m15, .int 0, .int 0, .int 0, .int 0, .int 0], kb_a G m5 2 (upd (fun _ => 0) 0 1), kb_a G m6 2 (upd (fun _ => 0) 0 0), kb_a G m7 2 (upd (fun _ => 0) 0 0), kb_a G m8 256 (upd (fun _ => 0) 0 (-1)), kb_a G m9 256 (upd (fun _ => 0) 0 0), kb_a G m10 256 (upd (fun _ => 0) 0 0)] := hD
  refine lv_aload_n hx hb d_M_clear_5 rfl (lv_at hl 0 rfl) ?_
  refine lv_iconst (v := 0) hx hb d_M_clear_6 (by decide) ?_
  refine kb_v (wc := [kb_o h 4 [.int 0, .ref m1, .int 0, .ref m3, .int 0, .ref m5, .ref m6, .ref m7, .ref m8, .ref m9, .ref m10, .ref m11, .ref m12, .ref m13, .ref m14, .ref m15, .int 0, .int 0, .int 0, .int 0, .int 0], kb_a G m5 2 (upd (fun _ => 0) 0 1), kb_a G m6 2 (upd (fun _ => 0) 0 0), kb_a G m7 2 (upd (fun _ => 0) 0 0), kb_a G m8 256 (upd (fun _ => 0) 0 (-1)), kb_a G m9 256 (upd (fun _ => 0) 0 0), kb_a G m10 256 (upd (fun _ => 0) 0 0)]) (wr := []) hE hP hD hS [0, 1, 2, 3, 4, 5, 6] [] rfl rfl (by decide) (by decide) (kb_rV (As := [.int 0]) (rest := []) (wc := [kb_o h 4 [.int 0, .ref m1, .int 0, .ref m3, .int 0, .ref m5, .ref m6, .ref m7, .ref m8, .ref m9, .ref m10, .ref m11, .ref m12, .ref m13, .ref m14, .ref m15, .int 0, .int 0, .int 0, .int 0, .int 0], kb_a G m5 2 (upd (fun _ => 0) 0 1), kb_a G m6 2 (upd (fun _ => 0) 0 0), kb_a G m7 2 (upd (fun _ => 0) 0 0), kb_a G m8 256 (upd (fun _ => 0) 0 (-1)), kb_a G m9 256 (upd (fun _ => 0) 0 0), kb_a G m10 256 (upd (fun _ => 0) 0 0)]) (q0 := 0) ⟨hx, hb, hml, hown, ht⟩ ((c_M_begin l G h 0 m1 m3 m5 m6 m7 m8 m9 m10 m11 m12 m13 m14 m15 (upd (fun _ => 0) 0 1) (upd (fun _ => 0) 0 0) (upd (fun _ => 0) 0 0) (upd (fun _ => 0) 0 (-1)) (upd (fun _ => 0) 0 0) (upd (fun _ => 0) 0 0)) _) (kb_gV wd_fd2dca98 wd_24b2fa7a wd_9befa8bf wd_38099713 wd_99c2ca70) ⟨rfl, hd_a18b8d5a⟩ ⟨(Nat.le_of_ble_eq_true rfl), (Nat.le_of_ble_eq_true rfl)⟩ hE hP hD hS [0, 1, 2, 3, 4, 5, 6] rfl (by decide) rfl rfl rfl hl.1 rfl (Nat.le_of_ble_eq_true rfl) d_M_clear_7 ⟨(Nat.le_of_ble_eq_true rfl), (Nat.le_of_ble_eq_true rfl)⟩) (fun uu1 H locs hw hP hD hS => ?_)
  have hP : va_P G.1 kb_cl [kb_o h 4 [.int 0, .ref m1, .int 0, .ref m3, .int 0, .ref m5, .ref m6, .ref m7, .ref m8, .ref m9, .ref m10, .ref m11, .ref m12, .ref m13, .ref m14, .ref m15, .int 0, .int 0, .int 0, .int 0, .int 0], kb_a G m5 2 (upd (upd (fun _ => 0) 0 1) 0 1), kb_a G m6 2 (upd (upd (fun _ => 0) 0 0) 0 0), kb_a G m7 2 (upd (upd (fun _ => 0) 0 0) 0 0), kb_a G m8 256 (upd (upd (fun _ => 0) 0 (-1)) 0 (-1)), kb_a G m9 256 (upd (upd (fun _ => 0) 0 0) 0 0), kb_a G m10 256 (upd (upd (fun _ => 0) 0 0) 0 0)] H := hP
  have hD : va_D A [kb_o h 4 [.int 0, .ref m1, .int 0, .ref m3, .int 0, .ref m5, .ref m6, .ref m7, .ref m8, .ref m9, .ref m10, .ref m11, .ref m12, .ref m13, .ref m14, .ref m15, .int 0, .int 0, .int 0, .int 0, .int 0], kb_a G m5 2 (upd (upd (fun _ => 0) 0 1) 0 1), kb_a G m6 2 (upd (upd (fun _ => 0) 0 0) 0 0), kb_a G m7 2 (upd (upd (fun _ => 0) 0 0) 0 0), kb_a G m8 256 (upd (upd (fun _ => 0) 0 (-1)) 0 (-1)), kb_a G m9 256 (upd (upd (fun _ => 0) 0 0) 0 0), kb_a G m10 256 (upd (upd (fun _ => 0) 0 0) 0 0)] := hD
  refine lv_aload_n hx hb d_M_clear_10 rfl (lv_at hl 0 rfl) ?_
  refine lv_iconst (v := 0) hx hb d_M_clear_11 (by decide) ?_
  refine va_put (D := G.1) (ci := 4) (v := .int 0) (ty := .int) (C := "TreePressModel") (T := kb_F4) (N := 21) hx hb ht kb_w4 kb_y4 kb_p4 kb_n4 hown hE.1 hP hD hS 0 rfl rfl 16 (by decide) (ht _ wd_2f283908) (fun _ h9 => h9) rfl (by decide +kernel) rfl rfl (Nat.le_of_ble_eq_true rfl) d_M_clear_12 (fun H locs hP hD hS => ?_)
  have hP : va_P G.1 kb_cl [kb_o h 4 [.int 0, .ref m1, .int 0, .ref m3, .int 0, .ref m5, .ref m6, .ref m7, .ref m8, .ref m9, .ref m10, .ref m11, .ref m12, .ref m13, .ref m14, .ref m15, .int 0, .int 0, .int 0, .int 0, .int 0], kb_a G m5 2 (upd (upd (fun _ => 0) 0 1) 0 1), kb_a G m6 2 (upd (upd (fun _ => 0) 0 0) 0 0), kb_a G m7 2 (upd (upd (fun _ => 0) 0 0) 0 0), kb_a G m8 256 (upd (upd (fun _ => 0) 0 (-1)) 0 (-1)), kb_a G m9 256 (upd (upd (fun _ => 0) 0 0) 0 0), kb_a G m10 256 (upd (upd (fun _ => 0) 0 0) 0 0)] H := hP
  have hD : va_D A [kb_o h 4 [.int 0, .ref m1, .int 0, .ref m3, .int 0, .ref m5, .ref m6, .ref m7, .ref m8, .ref m9, .ref m10, .ref m11, .ref m12, .ref m13, .ref m14, .ref m15, .int 0, .int 0, .int 0, .int 0, .int 0], kb_a G m5 2 (upd (upd (fun _ => 0) 0 1) 0 1), kb_a G m6 2 (upd (upd (fun _ => 0) 0 0) 0 0), kb_a G m7 2 (upd (upd (fun _ => 0) 0 0) 0 0), kb_a G m8 256 (upd (upd (fun _ => 0) 0 (-1)) 0 (-1)), kb_a G m9 256 (upd (upd (fun _ => 0) 0 0) 0 0), kb_a G m10 256 (upd (upd (fun _ => 0) 0 0) 0 0)] := hD
  exact kb_retv (kb_l [], kb_f []) hx hb hr hlocks hE hP hD hS [0] rfl (by decide) rfl trivial (Nat.le_of_ble_eq_true rfl) (Nat.le_of_ble_eq_true rfl) d_M_clear_15

set_option maxHeartbeats 4000000 in
set_option maxRecDepth 100000 in
theorem c_M_depthOf (l : Launch) (G : kb_G) (h : Nat) (T : Int32) (m1 : Nat) (m3 : Nat) (m5 : Nat) (m6 : Nat) (m7 : Nat) (m8 : Nat) (m9 : Nat) (m10 : Nat) (m11 : Nat) (m12 : Nat) (m13 : Nat) (m14 : Nat) (m15 : Nat) (w4 : Int32) : kb_ci l G ⟨"TreePressModel", "depthOf", "(II)I"⟩ prog_6_method_10_code 5 (some .int) 1 0 0 [.ref h, .int 0, .int 0] [kb_o h 4 [.int T, .ref m1, .int 0, .ref m3, .int w4, .ref m5, .ref m6, .ref m7, .ref m8, .ref m9, .ref m10, .ref m11, .ref m12, .ref m13, .ref m14, .ref m15, .int 0, .int 0, .int 0, .int 0, .int 0], kb_a G m8 256 (upd (fun _ => 0) 0 (-1))] (fun r u => r = 1) (fun u => [kb_o h 4 [.int T, .ref m1, .int 0, .ref m3, .int w4, .ref m5, .ref m6, .ref m7, .ref m8, .ref m9, .ref m10, .ref m11, .ref m12, .ref m13, .ref m14, .ref m15, .int 0, .int 0, .int 0, .int 0, .int 0], kb_a G m8 256 (upd (fun _ => 0) 0 (-1))]) := by
  intro sz
  refine kb_body (QQ := fun A => kb_Qi G A (fun r u => r = 1) (fun u => [kb_o h 4 [.int T, .ref m1, .int 0, .ref m3, .int w4, .ref m5, .ref m6, .ref m7, .ref m8, .ref m9, .ref m10, .ref m11, .ref m12, .ref m13, .ref m14, .ref m15, .int 0, .int 0, .int 0, .int 0, .int 0], kb_a G m8 256 (upd (fun _ => 0) 0 (-1))])) (by decide) (Nat.le_of_ble_eq_true rfl) ?_
  intro p e s m below meth c A B ls hl
  obtain ⟨hx, hb, hr, hml, hlocks, hin, hown, ht, hE, hP, hD, hS⟩ := B
  have hl : lv_has ls 5 [(0, .ref h), (1, .int 0), (2, .int 0)] := hl
  have hP0 := hP
  obtain ⟨H, hHe⟩ : ∃ H, H = s.heap := ⟨_, rfl⟩
  rw [← hHe] at hP
  have hS : va_S A s.heap H [] := by rw [hHe]; exact hS
  refine kb_at hHe ?_
  clear hHe
  refine lv_iconst (v := 0) hx hb d_M_depthOf_0 (by decide) ?_
  refine lv_istore_n (lv' := [(3, .int 0), (0, .ref h), (1, .int 0), (2, .int 0)]) hx hb d_M_depthOf_1 rfl hl (by decide) rfl (fun ls hl => ?_)
  refine lv_iload_n hx hb d_M_depthOf_2 rfl (lv_at hl 3 rfl) ?_
  refine lv_istore (lv' := [(4, .int 0), (3, .int 0), (0, .ref h), (1, .int 0), (2, .int 0)]) hx hb d_M_depthOf_3 hl (by decide) rfl (fun ls hl => ?_)
  refine lv_iload hx hb d_M_depthOf_5 (lv_at hl 0 rfl) ?_
  refine lv_if_lt (tgt := 31) hx hb d_M_depthOf_7 (by decide) (fun c9 => absurd c9 (by decide)) (fun c9 => ?_)
  refine lv_iinc (v := 1) (lv' := [(3, .int 1), (4, .int 0), (0, .ref h), (1, .int 0), (2, .int 0)]) hx hb d_M_depthOf_10 hl (k := 1) rfl (by decide) (by decide) rfl (fun ls hl => ?_)
  refine lv_aload_n hx hb d_M_depthOf_13 rfl (lv_at hl 2 rfl) ?_
  refine va_get (D := G.1) (ci := 4) (v := .ref m8) (C := "TreePressModel") (T := kb_F4) (N := 21) hx hb ht kb_w4 hown hE.1 hP 0 rfl rfl 8 (by decide) (ht _ wd_51ded947) (fun _ h9 => h9) rfl d_M_depthOf_14 ?_
  refine lv_sipush (v := 128) hx hb d_M_depthOf_17 (by decide) ?_
  refine lv_iload_n hx hb d_M_depthOf_20 rfl (lv_at hl 3 rfl) ?_
  refine lv_imul hx hb d_M_depthOf_21 ?_
  refine kb_top (y := 0) (by decide) ?_
  refine lv_iload hx hb d_M_depthOf_22 (lv_at hl 1 rfl) ?_
  refine lv_iadd hx hb d_M_depthOf_24 ?_
  refine kb_top (y := 0) (by decide) ?_
  refine va_iald hx hb hE.1 hP 1 0 rfl rfl (show ¬ ((0 : Int32) < 0 ∨ 256 ≤ (0 : Int32).toNatClampNeg) by decide) d_M_depthOf_25 ?_
  refine kb_top (y := (-1)) rfl ?_
  refine lv_istore (lv' := [(4, .int (-1)), (3, .int 1), (0, .ref h), (1, .int 0), (2, .int 0)]) hx hb d_M_depthOf_26 hl (by decide) rfl (fun ls hl => ?_)
  refine lv_goto (tgt := 5) hx hb d_M_depthOf_28 (by decide) ?_
  refine lv_iload hx hb d_M_depthOf_5 (lv_at hl 0 rfl) ?_
  refine lv_if_lt (tgt := 31) hx hb d_M_depthOf_7 (by decide) (fun c9 => ?_) (fun c9 => absurd (by decide) c9)
  refine lv_iload_n hx hb d_M_depthOf_31 rfl (lv_at hl 1 rfl) ?_
  exact kb_reti (kb_l [], kb_f []) hx hb hr hlocks hE hP hD hS [0, 1] rfl (by decide) rfl rfl (Nat.le_of_ble_eq_true rfl) (Nat.le_of_ble_eq_true rfl) d_M_depthOf_32

set_option maxHeartbeats 4000000 in
set_option maxRecDepth 100000 in
theorem c_M_isName (l : Launch) (G : kb_G) (h : Nat) (T : Int32) (m1 : Nat) (m3 : Nat) (m5 : Nat) (m6 : Nat) (m7 : Nat) (m8 : Nat) (m9 : Nat) (m10 : Nat) (m11 : Nat) (m12 : Nat) (m13 : Nat) (m14 : Nat) (m15 : Nat) (k : Int32) : kb_ci l G ⟨"TreePressModel", "isName", "(I)Z"⟩ prog_6_method_7_code 4 (some .boolean) 2 0 0 [.ref h, .int k] [kb_o h 4 [.int T, .ref m1, .int 0, .ref m3, .int 0, .ref m5, .ref m6, .ref m7, .ref m8, .ref m9, .ref m10, .ref m11, .ref m12, .ref m13, .ref m14, .ref m15, .int 0, .int 0, .int 0, .int 0, .int 0]] (fun r u => r = 0) (fun u => [kb_o h 4 [.int T, .ref m1, .int 0, .ref m3, .int 0, .ref m5, .ref m6, .ref m7, .ref m8, .ref m9, .ref m10, .ref m11, .ref m12, .ref m13, .ref m14, .ref m15, .int 0, .int 0, .int 0, .int 0, .int 0]]) := by
  intro sz
  refine kb_body (QQ := fun A => kb_Qi G A (fun r u => r = 0) (fun u => [kb_o h 4 [.int T, .ref m1, .int 0, .ref m3, .int 0, .ref m5, .ref m6, .ref m7, .ref m8, .ref m9, .ref m10, .ref m11, .ref m12, .ref m13, .ref m14, .ref m15, .int 0, .int 0, .int 0, .int 0, .int 0]])) (by decide) (Nat.le_of_ble_eq_true rfl) ?_
  intro p e s m below meth c A B ls hl
  obtain ⟨hx, hb, hr, hml, hlocks, hin, hown, ht, hE, hP, hD, hS⟩ := B
  have hl : lv_has ls 4 [(0, .ref h), (1, .int k)] := hl
  have hP0 := hP
  obtain ⟨H, hHe⟩ : ∃ H, H = s.heap := ⟨_, rfl⟩
  rw [← hHe] at hP
  have hS : va_S A s.heap H [] := by rw [hHe]; exact hS
  refine kb_at hHe ?_
  clear hHe
  refine lv_iload_n hx hb d_M_isName_0 rfl (lv_at hl 1 rfl) ?_
  refine lv_if_le (tgt := 22) hx hb d_M_isName_1 (by decide) (fun cb1 => ?_) (fun cb1 => ?_)
  · refine lv_iconst (v := 0) hx hb d_M_isName_22 (by decide) ?_
    refine lv_istore_n (lv' := [(2, .int 0), (0, .ref h), (1, .int k)]) hx hb d_M_isName_23 rfl hl (by decide) rfl (fun ls hl => ?_)
    refine lv_iconst (v := 0) hx hb d_M_isName_24 (by decide) ?_
    refine lv_istore_n (lv' := [(3, .int 0), (2, .int 0), (0, .ref h), (1, .int k)]) hx hb d_M_isName_25 rfl hl (by decide) rfl (fun ls hl => ?_)
    refine lv_iload_n hx hb d_M_isName_26 rfl (lv_at hl 0 rfl) ?_
    refine lv_iload_n hx hb d_M_isName_27 rfl (lv_at hl 3 rfl) ?_
    refine lv_icmp_ge (tgt := 51) hx hb d_M_isName_28 (by decide) (fun c9 => ?_) (fun c9 => False.elim (by have e0 : (k : Int32).toInt ≤ (0 : Int32).toInt := Int32.le_iff_toInt_le.mp cb1; have e1 : ¬ (k : Int32).toInt ≤ (0 : Int32).toInt := fun z9 => c9 (Int32.le_iff_toInt_le.mpr z9); have k0 : (0 : Int32).toInt = 0 := rfl; omega))
    refine lv_iload_n hx hb d_M_isName_51 rfl (lv_at hl 1 rfl) ?_
    exact kb_retz (kb_l [], kb_f []) hx hb hr rfl hlocks hE hP hD hS [0] rfl (by decide) rfl rfl (Nat.le_of_ble_eq_true rfl) (Nat.le_of_ble_eq_true rfl) d_M_isName_52
  · refine lv_iload_n hx hb d_M_isName_4 rfl (lv_at hl 1 rfl) ?_
    refine lv_bipush (v := 31) hx hb d_M_isName_5 (by decide) ?_
    refine lv_icmp_gt (tgt := 22) hx hb d_M_isName_7 (by decide) (fun cb2 => ?_) (fun cb2 => ?_)
    · refine lv_iconst (v := 0) hx hb d_M_isName_22 (by decide) ?_
      refine lv_istore_n (lv' := [(2, .int 0), (0, .ref h), (1, .int k)]) hx hb d_M_isName_23 rfl hl (by decide) rfl (fun ls hl => ?_)
      refine lv_iconst (v := 0) hx hb d_M_isName_24 (by decide) ?_
      refine lv_istore_n (lv' := [(3, .int 0), (2, .int 0), (0, .ref h), (1, .int k)]) hx hb d_M_isName_25 rfl hl (by decide) rfl (fun ls hl => ?_)
      refine lv_iload_n hx hb d_M_isName_26 rfl (lv_at hl 0 rfl) ?_
      refine lv_iload_n hx hb d_M_isName_27 rfl (lv_at hl 3 rfl) ?_
      refine lv_icmp_ge (tgt := 51) hx hb d_M_isName_28 (by decide) (fun c9 => False.elim (by have e0 : ¬ (k : Int32).toInt ≤ (0 : Int32).toInt := fun z9 => cb1 (Int32.le_iff_toInt_le.mpr z9); have e1 : (31 : Int32).toInt < (k : Int32).toInt := Int32.lt_iff_toInt_lt.mp cb2; have e2 : (k : Int32).toInt ≤ (0 : Int32).toInt := Int32.le_iff_toInt_le.mp c9; have k0 : (0 : Int32).toInt = 0 := rfl; have k1 : (31 : Int32).toInt = 31 := rfl; omega)) (fun c9 => ?_)
      refine lv_iload_n hx hb d_M_isName_31 rfl (lv_at hl 1 rfl) ?_
      refine lv_if_eq (tgt := 51) hx hb d_M_isName_32 (by decide) (fun c9 => ?_) (fun c9 => absurd (by decide) c9)
      refine lv_iload_n hx hb d_M_isName_51 rfl (lv_at hl 1 rfl) ?_
      exact kb_retz (kb_l [], kb_f []) hx hb hr rfl hlocks hE hP hD hS [0] rfl (by decide) rfl rfl (Nat.le_of_ble_eq_true rfl) (Nat.le_of_ble_eq_true rfl) d_M_isName_52
    · refine lv_iload_n hx hb d_M_isName_10 rfl (lv_at hl 1 rfl) ?_
      refine lv_aload_n hx hb d_M_isName_11 rfl (lv_at hl 0 rfl) ?_
      refine va_get (D := G.1) (ci := 4) (v := .int 0) (C := "TreePressModel") (T := kb_F4) (N := 21) hx hb ht kb_w4 hown hE.1 hP 0 rfl rfl 2 (by decide) (ht _ wd_822be019) (fun _ h9 => h9) rfl d_M_isName_12 ?_
      refine lv_icmp_gt (tgt := 22) hx hb d_M_isName_15 (by decide) (fun c9 => ?_) (fun c9 => False.elim (by have e0 : ¬ (k : Int32).toInt ≤ (0 : Int32).toInt := fun z9 => cb1 (Int32.le_iff_toInt_le.mpr z9); have e1 : ¬ (31 : Int32).toInt < (k : Int32).toInt := fun z9 => cb2 (Int32.lt_iff_toInt_lt.mpr z9); have e2 : ¬ (0 : Int32).toInt < (k : Int32).toInt := fun z9 => c9 (Int32.lt_iff_toInt_lt.mpr z9); have k0 : (0 : Int32).toInt = 0 := rfl; have k1 : (31 : Int32).toInt = 31 := rfl; omega))
      refine lv_iconst (v := 0) hx hb d_M_isName_22 (by decide) ?_
      refine lv_istore_n (lv' := [(2, .int 0), (0, .ref h), (1, .int k)]) hx hb d_M_isName_23 rfl hl (by decide) rfl (fun ls hl => ?_)
      refine lv_iconst (v := 0) hx hb d_M_isName_24 (by decide) ?_
      refine lv_istore_n (lv' := [(3, .int 0), (2, .int 0), (0, .ref h), (1, .int k)]) hx hb d_M_isName_25 rfl hl (by decide) rfl (fun ls hl => ?_)
      refine lv_iload_n hx hb d_M_isName_26 rfl (lv_at hl 0 rfl) ?_
      refine lv_iload_n hx hb d_M_isName_27 rfl (lv_at hl 3 rfl) ?_
      refine lv_icmp_ge (tgt := 51) hx hb d_M_isName_28 (by decide) (fun c9 => False.elim (by have e0 : ¬ (k : Int32).toInt ≤ (0 : Int32).toInt := fun z9 => cb1 (Int32.le_iff_toInt_le.mpr z9); have e1 : ¬ (31 : Int32).toInt < (k : Int32).toInt := fun z9 => cb2 (Int32.lt_iff_toInt_lt.mpr z9); have e2 : (k : Int32).toInt ≤ (0 : Int32).toInt := Int32.le_iff_toInt_le.mp c9; have k0 : (0 : Int32).toInt = 0 := rfl; have k1 : (31 : Int32).toInt = 31 := rfl; omega)) (fun c9 => ?_)
      refine lv_iload_n hx hb d_M_isName_31 rfl (lv_at hl 1 rfl) ?_
      refine lv_if_eq (tgt := 51) hx hb d_M_isName_32 (by decide) (fun c9 => ?_) (fun c9 => absurd (by decide) c9)
      refine lv_iload_n hx hb d_M_isName_51 rfl (lv_at hl 1 rfl) ?_
      exact kb_retz (kb_l [], kb_f []) hx hb hr rfl hlocks hE hP hD hS [0] rfl (by decide) rfl rfl (Nat.le_of_ble_eq_true rfl) (Nat.le_of_ble_eq_true rfl) d_M_isName_52

set_option maxHeartbeats 4000000 in
set_option maxRecDepth 100000 in
theorem c_M_open (l : Launch) (G : kb_G) (h : Nat) (T : Int32) (m1 : Nat) (m3 : Nat) (m5 : Nat) (m6 : Nat) (m7 : Nat) (m8 : Nat) (m9 : Nat) (m10 : Nat) (m11 : Nat) (m12 : Nat) (m13 : Nat) (m14 : Nat) (m15 : Nat) : kb_ci l G ⟨"TreePressModel", "open", "()I"⟩ prog_6_method_12_code 2 (some .int) 3 0 0 [.ref h] [kb_o h 4 [.int T, .ref m1, .int 0, .ref m3, .int 0, .ref m5, .ref m6, .ref m7, .ref m8, .ref m9, .ref m10, .ref m11, .ref m12, .ref m13, .ref m14, .ref m15, .int 0, .int 0, .int 0, .int 0, .int 0], kb_a G m5 2 (upd (fun _ => 0) 0 1), kb_a G m7 2 (upd (fun _ => 0) 0 0), kb_a G m8 256 (upd (fun _ => 0) 0 (-1))] (fun r u => r = 0) (fun u => [kb_o h 4 [.int 1, .ref m1, .int 0, .ref m3, .int 0, .ref m5, .ref m6, .ref m7, .ref m8, .ref m9, .ref m10, .ref m11, .ref m12, .ref m13, .ref m14, .ref m15, .int 0, .int 0, .int 0, .int 0, .int 0]]) := by
  intro sz
  refine kb_body (QQ := fun A => kb_Qi G A (fun r u => r = 0) (fun u => [kb_o h 4 [.int 1, .ref m1, .int 0, .ref m3, .int 0, .ref m5, .ref m6, .ref m7, .ref m8, .ref m9, .ref m10, .ref m11, .ref m12, .ref m13, .ref m14, .ref m15, .int 0, .int 0, .int 0, .int 0, .int 0]])) (by decide) (Nat.le_of_ble_eq_true rfl) ?_
  intro p e s m below meth c A B ls hl
  obtain ⟨hx, hb, hr, hml, hlocks, hin, hown, ht, hE, hP, hD, hS⟩ := B
  have hl : lv_has ls 2 [(0, .ref h)] := hl
  have hP0 := hP
  obtain ⟨H, hHe⟩ : ∃ H, H = s.heap := ⟨_, rfl⟩
  rw [← hHe] at hP
  have hS : va_S A s.heap H [] := by rw [hHe]; exact hS
  refine kb_at hHe ?_
  clear hHe
  refine lv_aload_n hx hb d_M_open_0 rfl (lv_at hl 0 rfl) ?_
  refine va_get (D := G.1) (ci := 4) (v := .ref m5) (C := "TreePressModel") (T := kb_F4) (N := 21) hx hb ht kb_w4 hown hE.1 hP 0 rfl rfl 5 (by decide) (ht _ wd_e8505d70) (fun _ h9 => h9) rfl d_M_open_1 ?_
  refine lv_iconst (v := 0) hx hb d_M_open_4 (by decide) ?_
  refine va_iald hx hb hE.1 hP 1 0 rfl rfl (show ¬ ((0 : Int32) < 0 ∨ 2 ≤ (0 : Int32).toNatClampNeg) by decide) d_M_open_5 ?_
  refine kb_top (y := 1) rfl ?_
  refine lv_sipush (v := 128) hx hb d_M_open_6 (by decide) ?_
  refine lv_icmp_eq (tgt := 43) hx hb d_M_open_9 (by decide) (fun c9 => absurd c9 (by decide)) (fun c9 => ?_)
  refine lv_aload_n hx hb d_M_open_12 rfl (lv_at hl 0 rfl) ?_
  refine va_get (D := G.1) (ci := 4) (v := .ref m7) (C := "TreePressModel") (T := kb_F4) (N := 21) hx hb ht kb_w4 hown hE.1 hP 0 rfl rfl 7 (by decide) (ht _ wd_9adf105c) (fun _ h9 => h9) rfl d_M_open_13 ?_
  refine lv_iconst (v := 0) hx hb d_M_open_16 (by decide) ?_
  refine va_iald hx hb hE.1 hP 2 0 rfl rfl (show ¬ ((0 : Int32) < 0 ∨ 2 ≤ (0 : Int32).toNatClampNeg) by decide) d_M_open_17 ?_
  refine kb_top (y := 0) rfl ?_
  refine lv_aload_n hx hb d_M_open_18 rfl (lv_at hl 0 rfl) ?_
  refine va_get (D := G.1) (ci := 4) (v := .int 0) (C := "TreePressModel") (T := kb_F4) (N := 21) hx hb ht kb_w4 hown hE.1 hP 0 rfl rfl 2 (by decide) (ht _ wd_822be019) (fun _ h9 => h9) rfl d_M_open_19 ?_
  refine lv_iadd hx hb d_M_open_22 ?_
  refine kb_top (y := 0) (by decide) ?_
  refine lv_sipush (v := 16384) hx hb d_M_open_23 (by decide) ?_
  refine lv_icmp_gt (tgt := 43) hx hb d_M_open_26 (by decide) (fun c9 => absurd c9 (by decide)) (fun c9 => ?_)
  refine lv_aload_n hx hb d_M_open_29 rfl (lv_at hl 0 rfl) ?_
  refine lv_iconst (v := 0) hx hb d_M_open_30 (by decide) ?_
  refine lv_aload_n hx hb d_M_open_31 rfl (lv_at hl 0 rfl) ?_
  refine va_get (D := G.1) (ci := 4) (v := .int 0) (C := "TreePressModel") (T := kb_F4) (N := 21) hx hb ht kb_w4 hown hE.1 hP 0 rfl rfl 16 (by decide) (ht _ wd_2f283908) (fun _ h9 => h9) rfl d_M_open_32 ?_
  refine kb_i (wc := [kb_o h 4 [.int T, .ref m1, .int 0, .ref m3, .int 0, .ref m5, .ref m6, .ref m7, .ref m8, .ref m9, .ref m10, .ref m11, .ref m12, .ref m13, .ref m14, .ref m15, .int 0, .int 0, .int 0, .int 0, .int 0], kb_a G m8 256 (upd (fun _ => 0) 0 (-1))]) (wr := [kb_a G m5 2 (upd (fun _ => 0) 0 1), kb_a G m7 2 (upd (fun _ => 0) 0 0)]) hE hP hD hS [0, 3] [1, 2] rfl rfl (by decide) (by decide) (kb_rV (As := [.int 0, .int 0]) (rest := []) (wc := [kb_o h 4 [.int T, .ref m1, .int 0, .ref m3, .int 0, .ref m5, .ref m6, .ref m7, .ref m8, .ref m9, .ref m10, .ref m11, .ref m12, .ref m13, .ref m14, .ref m15, .int 0, .int 0, .int 0, .int 0, .int 0], kb_a G m8 256 (upd (fun _ => 0) 0 (-1))]) (q0 := 0) ⟨hx, hb, hml, hown, ht⟩ ((c_M_depthOf l G h T m1 m3 m5 m6 m7 m8 m9 m10 m11 m12 m13 m14 m15 0) _) (kb_gV wd_f5cf975e wd_dd83edd5 wd_b1d2daa7 wd_38099713 wd_8a3d9a02) ⟨rfl, hd_b6e7653d⟩ ⟨(Nat.le_of_ble_eq_true rfl), (Nat.le_of_ble_eq_true rfl)⟩ hE hP hD hS [0, 3] rfl (by decide) rfl rfl rfl hl.1 rfl (Nat.le_of_ble_eq_true rfl) d_M_open_35 ⟨(Nat.le_of_ble_eq_true rfl), (Nat.le_of_ble_eq_true rfl)⟩) (fun rv2 uu1 H locs hw hP hD hS => ?_)
  have hP : va_P G.1 kb_cl [kb_a G m5 2 (upd (fun _ => 0) 0 1), kb_a G m7 2 (upd (fun _ => 0) 0 0), kb_o h 4 [.int T, .ref m1, .int 0, .ref m3, .int 0, .ref m5, .ref m6, .ref m7, .ref m8, .ref m9, .ref m10, .ref m11, .ref m12, .ref m13, .ref m14, .ref m15, .int 0, .int 0, .int 0, .int 0, .int 0], kb_a G m8 256 (upd (fun _ => 0) 0 (-1))] H := hP
  have hD : va_D A [kb_a G m5 2 (upd (fun _ => 0) 0 1), kb_a G m7 2 (upd (fun _ => 0) 0 0), kb_o h 4 [.int T, .ref m1, .int 0, .ref m3, .int 0, .ref m5, .ref m6, .ref m7, .ref m8, .ref m9, .ref m10, .ref m11, .ref m12, .ref m13, .ref m14, .ref m15, .int 0, .int 0, .int 0, .int 0, .int 0], kb_a G m8 256 (upd (fun _ => 0) 0 (-1))] := hD
  refine kb_top (y := 1) (show rv2 = 1 from hw) ?_
  refine lv_bipush (v := 16) hx hb d_M_open_38 (by decide) ?_
  refine lv_icmp_ne (tgt := 47) hx hb d_M_open_40 (by decide) (fun c9 => ?_) (fun c9 => absurd c9 (by decide))
  refine lv_iconst (v := 0) hx hb d_M_open_47 (by decide) ?_
  refine lv_istore_n (lv' := [(1, .int 0), (0, .ref h)]) hx hb d_M_open_48 rfl hl (by decide) rfl (fun ls hl => ?_)
  refine lv_aload_n hx hb d_M_open_49 rfl (lv_at hl 1 rfl) ?_
  refine lv_aload_n hx hb d_M_open_50 rfl (lv_at hl 1 rfl) ?_
  refine lv_aload_n hx hb d_M_open_51 rfl (lv_at hl 1 rfl) ?_
  refine va_get (D := G.1) (ci := 4) (v := .int 0) (C := "TreePressModel") (T := kb_F4) (N := 21) hx hb ht kb_w4 hown hE.1 hP 2 rfl rfl 2 (by decide) (ht _ wd_822be019) (fun _ h9 => h9) rfl d_M_open_52 ?_
  refine kb_i (wc := [kb_o h 4 [.int T, .ref m1, .int 0, .ref m3, .int 0, .ref m5, .ref m6, .ref m7, .ref m8, .ref m9, .ref m10, .ref m11, .ref m12, .ref m13, .ref m14, .ref m15, .int 0, .int 0, .int 0, .int 0, .int 0]]) (wr := [kb_a G m5 2 (upd (fun _ => 0) 0 1), kb_a G m7 2 (upd (fun _ => 0) 0 0), kb_a G m8 256 (upd (fun _ => 0) 0 (-1))]) hE hP hD hS [2] [0, 1, 3] rfl rfl (by decide) (by decide) (kb_rV (As := [.int 0]) (rest := [.ref h]) (wc := [kb_o h 4 [.int T, .ref m1, .int 0, .ref m3, .int 0, .ref m5, .ref m6, .ref m7, .ref m8, .ref m9, .ref m10, .ref m11, .ref m12, .ref m13, .ref m14, .ref m15, .int 0, .int 0, .int 0, .int 0, .int 0]]) (q0 := 0) ⟨hx, hb, hml, hown, ht⟩ ((c_M_isName l G h T m1 m3 m5 m6 m7 m8 m9 m10 m11 m12 m13 m14 m15 0) _) (kb_gV wd_1afab31a wd_89620341 wd_b6b46769 wd_38099713 wd_7ccd5f19) ⟨rfl, hd_ba6b4af3⟩ ⟨(Nat.le_of_ble_eq_true rfl), (Nat.le_of_ble_eq_true rfl)⟩ hE hP hD hS [2] rfl (by decide) rfl rfl rfl hl.1 rfl (Nat.le_of_ble_eq_true rfl) d_M_open_55 ⟨(Nat.le_of_ble_eq_true rfl), (Nat.le_of_ble_eq_true rfl)⟩) (fun rv4 uu3 H locs hw hP hD hS => ?_)
  have hP : va_P G.1 kb_cl [kb_a G m5 2 (upd (fun _ => 0) 0 1), kb_a G m7 2 (upd (fun _ => 0) 0 0), kb_a G m8 256 (upd (fun _ => 0) 0 (-1)), kb_o h 4 [.int T, .ref m1, .int 0, .ref m3, .int 0, .ref m5, .ref m6, .ref m7, .ref m8, .ref m9, .ref m10, .ref m11, .ref m12, .ref m13, .ref m14, .ref m15, .int 0, .int 0, .int 0, .int 0, .int 0]] H := hP
  have hD : va_D A [kb_a G m5 2 (upd (fun _ => 0) 0 1), kb_a G m7 2 (upd (fun _ => 0) 0 0), kb_a G m8 256 (upd (fun _ => 0) 0 (-1)), kb_o h 4 [.int T, .ref m1, .int 0, .ref m3, .int 0, .ref m5, .ref m6, .ref m7, .ref m8, .ref m9, .ref m10, .ref m11, .ref m12, .ref m13, .ref m14, .ref m15, .int 0, .int 0, .int 0, .int 0, .int 0]] := hD
  refine kb_top (y := 0) (show rv4 = 0 from hw) ?_
  refine lv_if_ne (tgt := 65) hx hb d_M_open_58 (by decide) (fun c9 => absurd (by decide) c9) (fun c9 => ?_)
  refine lv_iconst (v := 1) hx hb d_M_open_61 (by decide) ?_
  refine lv_goto (tgt := 74) hx hb d_M_open_62 (by decide) ?_
  refine va_put (D := G.1) (ci := 4) (v := .int 1) (ty := .int) (C := "TreePressModel") (T := kb_F4) (N := 21) hx hb ht kb_w4 kb_y4 kb_p4 kb_n4 hown hE.1 hP hD hS 3 rfl rfl 0 (by decide) (ht _ wd_d5599598) (fun _ h9 => h9) rfl (by decide +kernel) rfl rfl (Nat.le_of_ble_eq_true rfl) d_M_open_74 (fun H locs hP hD hS => ?_)
  have hP : va_P G.1 kb_cl [kb_a G m5 2 (upd (fun _ => 0) 0 1), kb_a G m7 2 (upd (fun _ => 0) 0 0), kb_a G m8 256 (upd (fun _ => 0) 0 (-1)), kb_o h 4 [.int 1, .ref m1, .int 0, .ref m3, .int 0, .ref m5, .ref m6, .ref m7, .ref m8, .ref m9, .ref m10, .ref m11, .ref m12, .ref m13, .ref m14, .ref m15, .int 0, .int 0, .int 0, .int 0, .int 0]] H := hP
  have hD : va_D A [kb_a G m5 2 (upd (fun _ => 0) 0 1), kb_a G m7 2 (upd (fun _ => 0) 0 0), kb_a G m8 256 (upd (fun _ => 0) 0 (-1)), kb_o h 4 [.int 1, .ref m1, .int 0, .ref m3, .int 0, .ref m5, .ref m6, .ref m7, .ref m8, .ref m9, .ref m10, .ref m11, .ref m12, .ref m13, .ref m14, .ref m15, .int 0, .int 0, .int 0, .int 0, .int 0]] := hD
  refine lv_aload_n hx hb d_M_open_77 rfl (lv_at hl 1 rfl) ?_
  refine va_get (D := G.1) (ci := 4) (v := .int 1) (C := "TreePressModel") (T := kb_F4) (N := 21) hx hb ht kb_w4 hown hE.1 hP 3 rfl rfl 0 (by decide) (ht _ wd_d5599598) (fun _ h9 => h9) rfl d_M_open_78 ?_
  refine lv_if_le (tgt := 86) hx hb d_M_open_81 (by decide) (fun c9 => absurd c9 (by decide)) (fun c9 => ?_)
  refine lv_iconst (v := 0) hx hb d_M_open_84 (by decide) ?_
  exact kb_reti (kb_l [], kb_f []) hx hb hr hlocks hE hP hD hS [3] rfl (by decide) rfl rfl (Nat.le_of_ble_eq_true rfl) (Nat.le_of_ble_eq_true rfl) d_M_open_85

set_option maxHeartbeats 4000000 in
set_option maxRecDepth 100000 in
theorem c_M_property (l : Launch) (G : kb_G) (h : Nat) (T : Int32) (m1 : Nat) (m3 : Nat) (m5 : Nat) (m6 : Nat) (m7 : Nat) (m8 : Nat) (m9 : Nat) (m10 : Nat) (m11 : Nat) (m12 : Nat) (m13 : Nat) (m14 : Nat) (m15 : Nat) (k : Int32) : kb_ci l G ⟨"TreePressModel", "property", "(I)I"⟩ prog_6_method_14_code 3 (some .int) 3 0 0 [.ref h, .int k] [kb_o h 4 [.int T, .ref m1, .int 0, .ref m3, .int 0, .ref m5, .ref m6, .ref m7, .ref m8, .ref m9, .ref m10, .ref m11, .ref m12, .ref m13, .ref m14, .ref m15, .int 0, .int 0, .int 0, .int 0, .int 0], kb_a G m6 2 (upd (fun _ => 0) 0 0), kb_a G m7 2 (upd (fun _ => 0) 0 0)] (fun r u => r = 0) (fun u => [kb_o h 4 [.int 1, .ref m1, .int 0, .ref m3, .int 0, .ref m5, .ref m6, .ref m7, .ref m8, .ref m9, .ref m10, .ref m11, .ref m12, .ref m13, .ref m14, .ref m15, .int 0, .int 0, .int 0, .int 0, .int 0]]) := by
  intro sz
  refine kb_body (QQ := fun A => kb_Qi G A (fun r u => r = 0) (fun u => [kb_o h 4 [.int 1, .ref m1, .int 0, .ref m3, .int 0, .ref m5, .ref m6, .ref m7, .ref m8, .ref m9, .ref m10, .ref m11, .ref m12, .ref m13, .ref m14, .ref m15, .int 0, .int 0, .int 0, .int 0, .int 0]])) (by decide) (Nat.le_of_ble_eq_true rfl) ?_
  intro p e s m below meth c A B ls hl
  obtain ⟨hx, hb, hr, hml, hlocks, hin, hown, ht, hE, hP, hD, hS⟩ := B
  have hl : lv_has ls 3 [(0, .ref h), (1, .int k)] := hl
  have hP0 := hP
  obtain ⟨H, hHe⟩ : ∃ H, H = s.heap := ⟨_, rfl⟩
  rw [← hHe] at hP
  have hS : va_S A s.heap H [] := by rw [hHe]; exact hS
  refine kb_at hHe ?_
  clear hHe
  refine lv_aload_n hx hb d_M_property_0 rfl (lv_at hl 0 rfl) ?_
  refine va_get (D := G.1) (ci := 4) (v := .ref m6) (C := "TreePressModel") (T := kb_F4) (N := 21) hx hb ht kb_w4 hown hE.1 hP 0 rfl rfl 6 (by decide) (ht _ wd_0c18f9c0) (fun _ h9 => h9) rfl d_M_property_1 ?_
  refine lv_iconst (v := 0) hx hb d_M_property_4 (by decide) ?_
  refine va_iald hx hb hE.1 hP 1 0 rfl rfl (show ¬ ((0 : Int32) < 0 ∨ 2 ≤ (0 : Int32).toNatClampNeg) by decide) d_M_property_5 ?_
  refine kb_top (y := 0) rfl ?_
  refine lv_sipush (v := 512) hx hb d_M_property_6 (by decide) ?_
  refine lv_icmp_eq (tgt := 29) hx hb d_M_property_9 (by decide) (fun c9 => absurd c9 (by decide)) (fun c9 => ?_)
  refine lv_aload_n hx hb d_M_property_12 rfl (lv_at hl 0 rfl) ?_
  refine va_get (D := G.1) (ci := 4) (v := .ref m7) (C := "TreePressModel") (T := kb_F4) (N := 21) hx hb ht kb_w4 hown hE.1 hP 0 rfl rfl 7 (by decide) (ht _ wd_9adf105c) (fun _ h9 => h9) rfl d_M_property_13 ?_
  refine lv_iconst (v := 0) hx hb d_M_property_16 (by decide) ?_
  refine va_iald hx hb hE.1 hP 2 0 rfl rfl (show ¬ ((0 : Int32) < 0 ∨ 2 ≤ (0 : Int32).toNatClampNeg) by decide) d_M_property_17 ?_
  refine kb_top (y := 0) rfl ?_
  refine lv_aload_n hx hb d_M_property_18 rfl (lv_at hl 0 rfl) ?_
  refine va_get (D := G.1) (ci := 4) (v := .int 0) (C := "TreePressModel") (T := kb_F4) (N := 21) hx hb ht kb_w4 hown hE.1 hP 0 rfl rfl 2 (by decide) (ht _ wd_822be019) (fun _ h9 => h9) rfl d_M_property_19 ?_
  refine lv_iadd hx hb d_M_property_22 ?_
  refine kb_top (y := 0) (by decide) ?_
  refine lv_sipush (v := 16384) hx hb d_M_property_23 (by decide) ?_
  refine lv_icmp_le (tgt := 33) hx hb d_M_property_26 (by decide) (fun c9 => ?_) (fun c9 => absurd (by decide) c9)
  refine lv_iconst (v := 0) hx hb d_M_property_33 (by decide) ?_
  refine lv_istore_n (lv' := [(2, .int 0), (0, .ref h), (1, .int k)]) hx hb d_M_property_34 rfl hl (by decide) rfl (fun ls hl => ?_)
  refine lv_aload_n hx hb d_M_property_35 rfl (lv_at hl 1 rfl) ?_
  refine lv_aload_n hx hb d_M_property_36 rfl (lv_at hl 1 rfl) ?_
  refine lv_iload_n hx hb d_M_property_37 rfl (lv_at hl 2 rfl) ?_
  refine kb_i (wc := [kb_o h 4 [.int T, .ref m1, .int 0, .ref m3, .int 0, .ref m5, .ref m6, .ref m7, .ref m8, .ref m9, .ref m10, .ref m11, .ref m12, .ref m13, .ref m14, .ref m15, .int 0, .int 0, .int 0, .int 0, .int 0]]) (wr := [kb_a G m6 2 (upd (fun _ => 0) 0 0), kb_a G m7 2 (upd (fun _ => 0) 0 0)]) hE hP hD hS [0] [1, 2] rfl rfl (by decide) (by decide) (kb_rV (As := [.int k]) (rest := [.ref h]) (wc := [kb_o h 4 [.int T, .ref m1, .int 0, .ref m3, .int 0, .ref m5, .ref m6, .ref m7, .ref m8, .ref m9, .ref m10, .ref m11, .ref m12, .ref m13, .ref m14, .ref m15, .int 0, .int 0, .int 0, .int 0, .int 0]]) (q0 := 0) ⟨hx, hb, hml, hown, ht⟩ ((c_M_isName l G h T m1 m3 m5 m6 m7 m8 m9 m10 m11 m12 m13 m14 m15 k) _) (kb_gV wd_1afab31a wd_89620341 wd_b6b46769 wd_38099713 wd_7ccd5f19) ⟨rfl, hd_ba6b4af3⟩ ⟨(Nat.le_of_ble_eq_true rfl), (Nat.le_of_ble_eq_true rfl)⟩ hE hP hD hS [0] rfl (by decide) rfl rfl rfl hl.1 rfl (Nat.le_of_ble_eq_true rfl) d_M_property_38 ⟨(Nat.le_of_ble_eq_true rfl), (Nat.le_of_ble_eq_true rfl)⟩) (fun rv2 uu1 H locs hw hP hD hS => ?_)
  have hP : va_P G.1 kb_cl [kb_a G m6 2 (upd (fun _ => 0) 0 0), kb_a G m7 2 (upd (fun _ => 0) 0 0), kb_o h 4 [.int T, .ref m1, .int 0, .ref m3, .int 0, .ref m5, .ref m6, .ref m7, .ref m8, .ref m9, .ref m10, .ref m11, .ref m12, .ref m13, .ref m14, .ref m15, .int 0, .int 0, .int 0, .int 0, .int 0]] H := hP
  have hD : va_D A [kb_a G m6 2 (upd (fun _ => 0) 0 0), kb_a G m7 2 (upd (fun _ => 0) 0 0), kb_o h 4 [.int T, .ref m1, .int 0, .ref m3, .int 0, .ref m5, .ref m6, .ref m7, .ref m8, .ref m9, .ref m10, .ref m11, .ref m12, .ref m13, .ref m14, .ref m15, .int 0, .int 0, .int 0, .int 0, .int 0]] := hD
  refine kb_top (y := 0) (show rv2 = 0 from hw) ?_
  refine lv_if_eq (tgt := 59) hx hb d_M_property_41 (by decide) (fun c9 => ?_) (fun c9 => absurd (by decide) c9)
  refine lv_iconst (v := 1) hx hb d_M_property_59 (by decide) ?_
  refine lv_goto (tgt := 72) hx hb d_M_property_60 (by decide) ?_
  refine va_put (D := G.1) (ci := 4) (v := .int 1) (ty := .int) (C := "TreePressModel") (T := kb_F4) (N := 21) hx hb ht kb_w4 kb_y4 kb_p4 kb_n4 hown hE.1 hP hD hS 2 rfl rfl 0 (by decide) (ht _ wd_d5599598) (fun _ h9 => h9) rfl (by decide +kernel) rfl rfl (Nat.le_of_ble_eq_true rfl) d_M_property_72 (fun H locs hP hD hS => ?_)
  have hP : va_P G.1 kb_cl [kb_a G m6 2 (upd (fun _ => 0) 0 0), kb_a G m7 2 (upd (fun _ => 0) 0 0), kb_o h 4 [.int 1, .ref m1, .int 0, .ref m3, .int 0, .ref m5, .ref m6, .ref m7, .ref m8, .ref m9, .ref m10, .ref m11, .ref m12, .ref m13, .ref m14, .ref m15, .int 0, .int 0, .int 0, .int 0, .int 0]] H := hP
  have hD : va_D A [kb_a G m6 2 (upd (fun _ => 0) 0 0), kb_a G m7 2 (upd (fun _ => 0) 0 0), kb_o h 4 [.int 1, .ref m1, .int 0, .ref m3, .int 0, .ref m5, .ref m6, .ref m7, .ref m8, .ref m9, .ref m10, .ref m11, .ref m12, .ref m13, .ref m14, .ref m15, .int 0, .int 0, .int 0, .int 0, .int 0]] := hD
  refine lv_aload_n hx hb d_M_property_75 rfl (lv_at hl 1 rfl) ?_
  refine va_get (D := G.1) (ci := 4) (v := .int 1) (C := "TreePressModel") (T := kb_F4) (N := 21) hx hb ht kb_w4 hown hE.1 hP 2 rfl rfl 0 (by decide) (ht _ wd_d5599598) (fun _ h9 => h9) rfl d_M_property_76 ?_
  refine lv_if_le (tgt := 84) hx hb d_M_property_79 (by decide) (fun c9 => absurd c9 (by decide)) (fun c9 => ?_)
  refine lv_iconst (v := 0) hx hb d_M_property_82 (by decide) ?_
  exact kb_reti (kb_l [], kb_f []) hx hb hr hlocks hE hP hD hS [2] rfl (by decide) rfl rfl (Nat.le_of_ble_eq_true rfl) (Nat.le_of_ble_eq_true rfl) d_M_property_83

set_option maxHeartbeats 4000000 in
set_option maxRecDepth 100000 in
theorem c_M_close (l : Launch) (G : kb_G) (h : Nat) (T : Int32) (m1 : Nat) (m3 : Nat) (m5 : Nat) (m6 : Nat) (m7 : Nat) (m8 : Nat) (m9 : Nat) (m10 : Nat) (m11 : Nat) (m12 : Nat) (m13 : Nat) (m14 : Nat) (m15 : Nat) : kb_ci l G ⟨"TreePressModel", "close", "()I"⟩ prog_6_method_15_code 1 (some .int) 1 0 0 [.ref h] [kb_o h 4 [.int T, .ref m1, .int 0, .ref m3, .int 0, .ref m5, .ref m6, .ref m7, .ref m8, .ref m9, .ref m10, .ref m11, .ref m12, .ref m13, .ref m14, .ref m15, .int 0, .int 0, .int 0, .int 0, .int 0]] (fun r u => r = 0) (fun u => [kb_o h 4 [.int 1, .ref m1, .int 0, .ref m3, .int 0, .ref m5, .ref m6, .ref m7, .ref m8, .ref m9, .ref m10, .ref m11, .ref m12, .ref m13, .ref m14, .ref m15, .int 0, .int 0, .int 0, .int 0, .int 0]]) := by
  intro sz
  refine kb_body (QQ := fun A => kb_Qi G A (fun r u => r = 0) (fun u => [kb_o h 4 [.int 1, .ref m1, .int 0, .ref m3, .int 0, .ref m5, .ref m6, .ref m7, .ref m8, .ref m9, .ref m10, .ref m11, .ref m12, .ref m13, .ref m14, .ref m15, .int 0, .int 0, .int 0, .int 0, .int 0]])) (by decide) (Nat.le_of_ble_eq_true rfl) ?_
  intro p e s m below meth c A B ls hl
  obtain ⟨hx, hb, hr, hml, hlocks, hin, hown, ht, hE, hP, hD, hS⟩ := B
  have hl : lv_has ls 1 [(0, .ref h)] := hl
  have hP0 := hP
  obtain ⟨H, hHe⟩ : ∃ H, H = s.heap := ⟨_, rfl⟩
  rw [← hHe] at hP
  have hS : va_S A s.heap H [] := by rw [hHe]; exact hS
  refine kb_at hHe ?_
  clear hHe
  refine lv_aload_n hx hb d_M_close_0 rfl (lv_at hl 0 rfl) ?_
  refine lv_aload_n hx hb d_M_close_1 rfl (lv_at hl 0 rfl) ?_
  refine va_get (D := G.1) (ci := 4) (v := .int 0) (C := "TreePressModel") (T := kb_F4) (N := 21) hx hb ht kb_w4 hown hE.1 hP 0 rfl rfl 16 (by decide) (ht _ wd_2f283908) (fun _ h9 => h9) rfl d_M_close_2 ?_
  refine lv_if_ne (tgt := 12) hx hb d_M_close_5 (by decide) (fun c9 => absurd (by decide) c9) (fun c9 => ?_)
  refine lv_iconst (v := 1) hx hb d_M_close_8 (by decide) ?_
  refine lv_goto (tgt := 13) hx hb d_M_close_9 (by decide) ?_
  refine va_put (D := G.1) (ci := 4) (v := .int 1) (ty := .int) (C := "TreePressModel") (T := kb_F4) (N := 21) hx hb ht kb_w4 kb_y4 kb_p4 kb_n4 hown hE.1 hP hD hS 0 rfl rfl 0 (by decide) (ht _ wd_d5599598) (fun _ h9 => h9) rfl (by decide +kernel) rfl rfl (Nat.le_of_ble_eq_true rfl) d_M_close_13 (fun H locs hP hD hS => ?_)
  have hP : va_P G.1 kb_cl [kb_o h 4 [.int 1, .ref m1, .int 0, .ref m3, .int 0, .ref m5, .ref m6, .ref m7, .ref m8, .ref m9, .ref m10, .ref m11, .ref m12, .ref m13, .ref m14, .ref m15, .int 0, .int 0, .int 0, .int 0, .int 0]] H := hP
  have hD : va_D A [kb_o h 4 [.int 1, .ref m1, .int 0, .ref m3, .int 0, .ref m5, .ref m6, .ref m7, .ref m8, .ref m9, .ref m10, .ref m11, .ref m12, .ref m13, .ref m14, .ref m15, .int 0, .int 0, .int 0, .int 0, .int 0]] := hD
  refine lv_aload_n hx hb d_M_close_16 rfl (lv_at hl 0 rfl) ?_
  refine lv_aload_n hx hb d_M_close_17 rfl (lv_at hl 0 rfl) ?_
  refine va_get (D := G.1) (ci := 4) (v := .int 1) (C := "TreePressModel") (T := kb_F4) (N := 21) hx hb ht kb_w4 hown hE.1 hP 0 rfl rfl 0 (by decide) (ht _ wd_d5599598) (fun _ h9 => h9) rfl d_M_close_18 ?_
  refine lv_if_le (tgt := 31) hx hb d_M_close_21 (by decide) (fun c9 => absurd c9 (by decide)) (fun c9 => ?_)
  refine lv_aload_n hx hb d_M_close_24 rfl (lv_at hl 0 rfl) ?_
  refine va_get (D := G.1) (ci := 4) (v := .int 0) (C := "TreePressModel") (T := kb_F4) (N := 21) hx hb ht kb_w4 hown hE.1 hP 0 rfl rfl 16 (by decide) (ht _ wd_2f283908) (fun _ h9 => h9) rfl d_M_close_25 ?_
  refine lv_goto (tgt := 40) hx hb d_M_close_28 (by decide) ?_
  refine va_put (D := G.1) (ci := 4) (v := .int 0) (ty := .int) (C := "TreePressModel") (T := kb_F4) (N := 21) hx hb ht kb_w4 kb_y4 kb_p4 kb_n4 hown hE.1 hP hD hS 0 rfl rfl 16 (by decide) (ht _ wd_2f283908) (fun _ h9 => h9) rfl (by decide +kernel) rfl rfl (Nat.le_of_ble_eq_true rfl) d_M_close_40 (fun H locs hP hD hS => ?_)
  have hP : va_P G.1 kb_cl [kb_o h 4 [.int 1, .ref m1, .int 0, .ref m3, .int 0, .ref m5, .ref m6, .ref m7, .ref m8, .ref m9, .ref m10, .ref m11, .ref m12, .ref m13, .ref m14, .ref m15, .int 0, .int 0, .int 0, .int 0, .int 0]] H := hP
  have hD : va_D A [kb_o h 4 [.int 1, .ref m1, .int 0, .ref m3, .int 0, .ref m5, .ref m6, .ref m7, .ref m8, .ref m9, .ref m10, .ref m11, .ref m12, .ref m13, .ref m14, .ref m15, .int 0, .int 0, .int 0, .int 0, .int 0]] := hD
  refine lv_aload_n hx hb d_M_close_43 rfl (lv_at hl 0 rfl) ?_
  refine va_get (D := G.1) (ci := 4) (v := .int 1) (C := "TreePressModel") (T := kb_F4) (N := 21) hx hb ht kb_w4 hown hE.1 hP 0 rfl rfl 0 (by decide) (ht _ wd_d5599598) (fun _ h9 => h9) rfl d_M_close_44 ?_
  refine lv_if_le (tgt := 54) hx hb d_M_close_47 (by decide) (fun c9 => absurd c9 (by decide)) (fun c9 => ?_)
  refine lv_iconst (v := 0) hx hb d_M_close_50 (by decide) ?_
  refine lv_goto (tgt := 58) hx hb d_M_close_51 (by decide) ?_
  exact kb_reti (kb_l [], kb_f []) hx hb hr hlocks hE hP hD hS [0] rfl (by decide) rfl rfl (Nat.le_of_ble_eq_true rfl) (Nat.le_of_ble_eq_true rfl) d_M_close_58

set_option maxHeartbeats 4000000 in
set_option maxRecDepth 100000 in
theorem c_M_put (l : Launch) (G : kb_G) (h : Nat) (T : Int32) (m1 : Nat) (m3 : Nat) (m5 : Nat) (m6 : Nat) (m7 : Nat) (m8 : Nat) (m9 : Nat) (m10 : Nat) (m11 : Nat) (m12 : Nat) (m13 : Nat) (m14 : Nat) (m15 : Nat) (n : Nat) (f3 : Nat → Int32) (x : Int32) (hn : n < 65536) : kb_cv l G ⟨"TreePressModel", "put", "(I)V"⟩ prog_6_method_16_code 2 1 0 0 [.ref h, .int x] [kb_o h 4 [.int T, .ref m1, .int 0, .ref m3, .int (nI n), .ref m5, .ref m6, .ref m7, .ref m8, .ref m9, .ref m10, .ref m11, .ref m12, .ref m13, .ref m14, .ref m15, .int 0, .int 0, .int 0, .int 0, .int 0], kb_a G m3 65536 f3] (fun u => True) (fun u => [kb_o h 4 [.int T, .ref m1, .int 0, .ref m3, .int (nI (n + 1)), .ref m5, .ref m6, .ref m7, .ref m8, .ref m9, .ref m10, .ref m11, .ref m12, .ref m13, .ref m14, .ref m15, .int 0, .int 0, .int 0, .int 0, .int 0], kb_a G m3 65536 (u.2 0)]) := by
  intro sz
  refine kb_body (QQ := fun A => kb_Qv G A (fun u => True) (fun u => [kb_o h 4 [.int T, .ref m1, .int 0, .ref m3, .int (nI (n + 1)), .ref m5, .ref m6, .ref m7, .ref m8, .ref m9, .ref m10, .ref m11, .ref m12, .ref m13, .ref m14, .ref m15, .int 0, .int 0, .int 0, .int 0, .int 0], kb_a G m3 65536 (u.2 0)])) (by decide) (Nat.le_of_ble_eq_true rfl) ?_
  intro p e s m below meth c A B ls hl
  obtain ⟨hx, hb, hr, hml, hlocks, hin, hown, ht, hE, hP, hD, hS⟩ := B
  have hl : lv_has ls 2 [(0, .ref h), (1, .int x)] := hl
  have hP0 := hP
  obtain ⟨H, hHe⟩ : ∃ H, H = s.heap := ⟨_, rfl⟩
  rw [← hHe] at hP
  have hS : va_S A s.heap H [] := by rw [hHe]; exact hS
  refine kb_at hHe ?_
  clear hHe
  refine lv_aload_n hx hb d_M_put_0 rfl (lv_at hl 0 rfl) ?_
  refine va_get (D := G.1) (ci := 4) (v := .ref m3) (C := "TreePressModel") (T := kb_F4) (N := 21) hx hb ht kb_w4 hown hE.1 hP 0 rfl rfl 3 (by decide) (ht _ wd_14e1aa9c) (fun _ h9 => h9) rfl d_M_put_1 ?_
  refine lv_aload_n hx hb d_M_put_4 rfl (lv_at hl 0 rfl) ?_
  refine va_get (D := G.1) (ci := 4) (v := .int (nI n)) (C := "TreePressModel") (T := kb_F4) (N := 21) hx hb ht kb_w4 hown hE.1 hP 0 rfl rfl 4 (by decide) (ht _ wd_09f6dca0) (fun _ h9 => h9) rfl d_M_put_5 ?_
  refine lv_iload_n hx hb d_M_put_8 rfl (lv_at hl 1 rfl) ?_
  refine va_iast hx hb hE.1 hP hD hS 1 0 rfl rfl (vp_in_nI hn (by decide)) d_M_put_9 (fun H locs hP hD hS => ?_)
  rw [nI_clamp (by omega)] at hP hD
  have hP : va_P G.1 kb_cl [kb_o h 4 [.int T, .ref m1, .int 0, .ref m3, .int (nI n), .ref m5, .ref m6, .ref m7, .ref m8, .ref m9, .ref m10, .ref m11, .ref m12, .ref m13, .ref m14, .ref m15, .int 0, .int 0, .int 0, .int 0, .int 0], kb_a G m3 65536 (upd f3 n x)] H := hP
  have hD : va_D A [kb_o h 4 [.int T, .ref m1, .int 0, .ref m3, .int (nI n), .ref m5, .ref m6, .ref m7, .ref m8, .ref m9, .ref m10, .ref m11, .ref m12, .ref m13, .ref m14, .ref m15, .int 0, .int 0, .int 0, .int 0, .int 0], kb_a G m3 65536 (upd f3 n x)] := hD
  generalize (upd f3 n x) = gc1 at hP hD
  refine lv_aload_n hx hb d_M_put_10 rfl (lv_at hl 0 rfl) ?_
  refine lv_dup hx hb d_M_put_11 rfl ?_
  refine va_get (D := G.1) (ci := 4) (v := .int (nI n)) (C := "TreePressModel") (T := kb_F4) (N := 21) hx hb ht kb_w4 hown hE.1 hP 0 rfl rfl 4 (by decide) (ht _ wd_09f6dca0) (fun _ h9 => h9) rfl d_M_put_12 ?_
  refine lv_iconst (v := 1) hx hb d_M_put_15 (by decide) ?_
  refine lv_iadd hx hb d_M_put_16 ?_
  refine kb_top (y := nI (n + 1)) ((nI_succ n).symm) ?_
  refine va_put (D := G.1) (ci := 4) (v := .int (nI (n + 1))) (ty := .int) (C := "TreePressModel") (T := kb_F4) (N := 21) hx hb ht kb_w4 kb_y4 kb_p4 kb_n4 hown hE.1 hP hD hS 0 rfl rfl 4 (by decide) (ht _ wd_09f6dca0) (fun _ h9 => h9) rfl (by decide +kernel) rfl rfl (Nat.le_of_ble_eq_true rfl) d_M_put_17 (fun H locs hP hD hS => ?_)
  have hP : va_P G.1 kb_cl [kb_o h 4 [.int T, .ref m1, .int 0, .ref m3, .int (nI (n + 1)), .ref m5, .ref m6, .ref m7, .ref m8, .ref m9, .ref m10, .ref m11, .ref m12, .ref m13, .ref m14, .ref m15, .int 0, .int 0, .int 0, .int 0, .int 0], kb_a G m3 65536 gc1] H := hP
  have hD : va_D A [kb_o h 4 [.int T, .ref m1, .int 0, .ref m3, .int (nI (n + 1)), .ref m5, .ref m6, .ref m7, .ref m8, .ref m9, .ref m10, .ref m11, .ref m12, .ref m13, .ref m14, .ref m15, .int 0, .int 0, .int 0, .int 0, .int 0], kb_a G m3 65536 gc1] := hD
  exact kb_retv (kb_l [], kb_f [gc1]) hx hb hr hlocks hE hP hD hS [0, 1] rfl (by decide) rfl trivial (Nat.le_of_ble_eq_true rfl) (Nat.le_of_ble_eq_true rfl) d_M_put_20

set_option maxHeartbeats 4000000 in
set_option maxRecDepth 100000 in
theorem c_M_number (l : Launch) (G : kb_G) (h : Nat) (T : Int32) (m1 : Nat) (m3 : Nat) (m5 : Nat) (m6 : Nat) (m7 : Nat) (m8 : Nat) (m9 : Nat) (m10 : Nat) (m11 : Nat) (m12 : Nat) (m13 : Nat) (m14 : Nat) (m15 : Nat) (n : Nat) (f3 : Nat → Int32) (x : Int32) (hn : n + 4 ≤ 65536) : kb_cv l G ⟨"TreePressModel", "number", "(I)V"⟩ prog_6_method_17_code 2 2 0 0 [.ref h, .int x] [kb_o h 4 [.int T, .ref m1, .int 0, .ref m3, .int (nI n), .ref m5, .ref m6, .ref m7, .ref m8, .ref m9, .ref m10, .ref m11, .ref m12, .ref m13, .ref m14, .ref m15, .int 0, .int 0, .int 0, .int 0, .int 0], kb_a G m3 65536 f3] (fun u => True) (fun u => [kb_o h 4 [.int T, .ref m1, .int 0, .ref m3, .int (nI ((((n + 1) + 1) + 1) + 1)), .ref m5, .ref m6, .ref m7, .ref m8, .ref m9, .ref m10, .ref m11, .ref m12, .ref m13, .ref m14, .ref m15, .int 0, .int 0, .int 0, .int 0, .int 0], kb_a G m3 65536 (u.2 0)]) := by
  intro sz
  refine kb_body (QQ := fun A => kb_Qv G A (fun u => True) (fun u => [kb_o h 4 [.int T, .ref m1, .int 0, .ref m3, .int (nI ((((n + 1) + 1) + 1) + 1)), .ref m5, .ref m6, .ref m7, .ref m8, .ref m9, .ref m10, .ref m11, .ref m12, .ref m13, .ref m14, .ref m15, .int 0, .int 0, .int 0, .int 0, .int 0], kb_a G m3 65536 (u.2 0)])) (by decide) (Nat.le_of_ble_eq_true rfl) ?_
  intro p e s m below meth c A B ls hl
  obtain ⟨hx, hb, hr, hml, hlocks, hin, hown, ht, hE, hP, hD, hS⟩ := B
  have hl : lv_has ls 2 [(0, .ref h), (1, .int x)] := hl
  have hP0 := hP
  obtain ⟨H, hHe⟩ : ∃ H, H = s.heap := ⟨_, rfl⟩
  rw [← hHe] at hP
  have hS : va_S A s.heap H [] := by rw [hHe]; exact hS
  refine kb_at hHe ?_
  clear hHe
  refine lv_aload_n hx hb d_M_number_0 rfl (lv_at hl 0 rfl) ?_
  refine lv_iload_n hx hb d_M_number_1 rfl (lv_at hl 1 rfl) ?_
  refine lv_bipush (v := 24) hx hb d_M_number_2 (by decide) ?_
  refine lv_iushr (v := ((x : Int32).toUInt32 >>> ((24 : Int32).toUInt32 &&& Int32.toUInt32 31)).toInt32) hx hb d_M_number_4 rfl ?_
  refine kb_v (wc := [kb_o h 4 [.int T, .ref m1, .int 0, .ref m3, .int (nI n), .ref m5, .ref m6, .ref m7, .ref m8, .ref m9, .ref m10, .ref m11, .ref m12, .ref m13, .ref m14, .ref m15, .int 0, .int 0, .int 0, .int 0, .int 0], kb_a G m3 65536 f3]) (wr := []) hE hP hD hS [0, 1] [] rfl rfl (by decide) (by decide) (kb_rV (As := [.int (((x : Int32).toUInt32 >>> ((24 : Int32).toUInt32 &&& Int32.toUInt32 31)).toInt32)]) (rest := []) (wc := [kb_o h 4 [.int T, .ref m1, .int 0, .ref m3, .int (nI n), .ref m5, .ref m6, .ref m7, .ref m8, .ref m9, .ref m10, .ref m11, .ref m12, .ref m13, .ref m14, .ref m15, .int 0, .int 0, .int 0, .int 0, .int 0], kb_a G m3 65536 f3]) (q0 := 0) ⟨hx, hb, hml, hown, ht⟩ ((c_M_put l G h T m1 m3 m5 m6 m7 m8 m9 m10 m11 m12 m13 m14 m15 n f3 (((x : Int32).toUInt32 >>> ((24 : Int32).toUInt32 &&& Int32.toUInt32 31)).toInt32) (by omega)) _) (kb_gV wd_b0cf3d0a wd_ad11063d wd_fc6365d8 wd_38099713 wd_7200cd9a) ⟨rfl, hd_4a8e392e⟩ ⟨(Nat.le_of_ble_eq_true rfl), (Nat.le_of_ble_eq_true rfl)⟩ hE hP hD hS [0, 1] rfl (by decide) rfl rfl rfl hl.1 rfl (Nat.le_of_ble_eq_true rfl) d_M_number_5 ⟨(Nat.le_of_ble_eq_true rfl), (Nat.le_of_ble_eq_true rfl)⟩) (fun uu1 H locs hw hP hD hS => ?_)
  have hP : va_P G.1 kb_cl [kb_o h 4 [.int T, .ref m1, .int 0, .ref m3, .int (nI (n + 1)), .ref m5, .ref m6, .ref m7, .ref m8, .ref m9, .ref m10, .ref m11, .ref m12, .ref m13, .ref m14, .ref m15, .int 0, .int 0, .int 0, .int 0, .int 0], kb_a G m3 65536 (uu1.2 0)] H := hP
  have hD : va_D A [kb_o h 4 [.int T, .ref m1, .int 0, .ref m3, .int (nI (n + 1)), .ref m5, .ref m6, .ref m7, .ref m8, .ref m9, .ref m10, .ref m11, .ref m12, .ref m13, .ref m14, .ref m15, .int 0, .int 0, .int 0, .int 0, .int 0], kb_a G m3 65536 (uu1.2 0)] := hD
  refine lv_aload_n hx hb d_M_number_8 rfl (lv_at hl 0 rfl) ?_
  refine lv_iload_n hx hb d_M_number_9 rfl (lv_at hl 1 rfl) ?_
  refine lv_bipush (v := 16) hx hb d_M_number_10 (by decide) ?_
  refine lv_ishr hx hb d_M_number_12 ?_
  refine lv_sipush (v := 255) hx hb d_M_number_13 (by decide) ?_
  refine lv_iand hx hb d_M_number_16 ?_
  refine kb_v (wc := [kb_o h 4 [.int T, .ref m1, .int 0, .ref m3, .int (nI (n + 1)), .ref m5, .ref m6, .ref m7, .ref m8, .ref m9, .ref m10, .ref m11, .ref m12, .ref m13, .ref m14, .ref m15, .int 0, .int 0, .int 0, .int 0, .int 0], kb_a G m3 65536 (uu1.2 0)]) (wr := []) hE hP hD hS [0, 1] [] rfl rfl (by decide) (by decide) (kb_rV (As := [.int ((x >>> (16 &&& 31)) &&& 255)]) (rest := []) (wc := [kb_o h 4 [.int T, .ref m1, .int 0, .ref m3, .int (nI (n + 1)), .ref m5, .ref m6, .ref m7, .ref m8, .ref m9, .ref m10, .ref m11, .ref m12, .ref m13, .ref m14, .ref m15, .int 0, .int 0, .int 0, .int 0, .int 0], kb_a G m3 65536 (uu1.2 0)]) (q0 := 0) ⟨hx, hb, hml, hown, ht⟩ ((c_M_put l G h T m1 m3 m5 m6 m7 m8 m9 m10 m11 m12 m13 m14 m15 (n + 1) (uu1.2 0) ((x >>> (16 &&& 31)) &&& 255) (by omega)) _) (kb_gV wd_b0cf3d0a wd_ad11063d wd_fc6365d8 wd_38099713 wd_7200cd9a) ⟨rfl, hd_4a8e392e⟩ ⟨(Nat.le_of_ble_eq_true rfl), (Nat.le_of_ble_eq_true rfl)⟩ hE hP hD hS [0, 1] rfl (by decide) rfl rfl rfl hl.1 rfl (Nat.le_of_ble_eq_true rfl) d_M_number_17 ⟨(Nat.le_of_ble_eq_true rfl), (Nat.le_of_ble_eq_true rfl)⟩) (fun uu3 H locs hw hP hD hS => ?_)
  have hP : va_P G.1 kb_cl [kb_o h 4 [.int T, .ref m1, .int 0, .ref m3, .int (nI ((n + 1) + 1)), .ref m5, .ref m6, .ref m7, .ref m8, .ref m9, .ref m10, .ref m11, .ref m12, .ref m13, .ref m14, .ref m15, .int 0, .int 0, .int 0, .int 0, .int 0], kb_a G m3 65536 (uu3.2 0)] H := hP
  have hD : va_D A [kb_o h 4 [.int T, .ref m1, .int 0, .ref m3, .int (nI ((n + 1) + 1)), .ref m5, .ref m6, .ref m7, .ref m8, .ref m9, .ref m10, .ref m11, .ref m12, .ref m13, .ref m14, .ref m15, .int 0, .int 0, .int 0, .int 0, .int 0], kb_a G m3 65536 (uu3.2 0)] := hD
  refine lv_aload_n hx hb d_M_number_20 rfl (lv_at hl 0 rfl) ?_
  refine lv_iload_n hx hb d_M_number_21 rfl (lv_at hl 1 rfl) ?_
  refine lv_bipush (v := 8) hx hb d_M_number_22 (by decide) ?_
  refine lv_ishr hx hb d_M_number_24 ?_
  refine lv_sipush (v := 255) hx hb d_M_number_25 (by decide) ?_
  refine lv_iand hx hb d_M_number_28 ?_
  refine kb_v (wc := [kb_o h 4 [.int T, .ref m1, .int 0, .ref m3, .int (nI ((n + 1) + 1)), .ref m5, .ref m6, .ref m7, .ref m8, .ref m9, .ref m10, .ref m11, .ref m12, .ref m13, .ref m14, .ref m15, .int 0, .int 0, .int 0, .int 0, .int 0], kb_a G m3 65536 (uu3.2 0)]) (wr := []) hE hP hD hS [0, 1] [] rfl rfl (by decide) (by decide) (kb_rV (As := [.int ((x >>> (8 &&& 31)) &&& 255)]) (rest := []) (wc := [kb_o h 4 [.int T, .ref m1, .int 0, .ref m3, .int (nI ((n + 1) + 1)), .ref m5, .ref m6, .ref m7, .ref m8, .ref m9, .ref m10, .ref m11, .ref m12, .ref m13, .ref m14, .ref m15, .int 0, .int 0, .int 0, .int 0, .int 0], kb_a G m3 65536 (uu3.2 0)]) (q0 := 0) ⟨hx, hb, hml, hown, ht⟩ ((c_M_put l G h T m1 m3 m5 m6 m7 m8 m9 m10 m11 m12 m13 m14 m15 ((n + 1) + 1) (uu3.2 0) ((x >>> (8 &&& 31)) &&& 255) (by omega)) _) (kb_gV wd_b0cf3d0a wd_ad11063d wd_fc6365d8 wd_38099713 wd_7200cd9a) ⟨rfl, hd_4a8e392e⟩ ⟨(Nat.le_of_ble_eq_true rfl), (Nat.le_of_ble_eq_true rfl)⟩ hE hP hD hS [0, 1] rfl (by decide) rfl rfl rfl hl.1 rfl (Nat.le_of_ble_eq_true rfl) d_M_number_29 ⟨(Nat.le_of_ble_eq_true rfl), (Nat.le_of_ble_eq_true rfl)⟩) (fun uu5 H locs hw hP hD hS => ?_)
  have hP : va_P G.1 kb_cl [kb_o h 4 [.int T, .ref m1, .int 0, .ref m3, .int (nI (((n + 1) + 1) + 1)), .ref m5, .ref m6, .ref m7, .ref m8, .ref m9, .ref m10, .ref m11, .ref m12, .ref m13, .ref m14, .ref m15, .int 0, .int 0, .int 0, .int 0, .int 0], kb_a G m3 65536 (uu5.2 0)] H := hP
  have hD : va_D A [kb_o h 4 [.int T, .ref m1, .int 0, .ref m3, .int (nI (((n + 1) + 1) + 1)), .ref m5, .ref m6, .ref m7, .ref m8, .ref m9, .ref m10, .ref m11, .ref m12, .ref m13, .ref m14, .ref m15, .int 0, .int 0, .int 0, .int 0, .int 0], kb_a G m3 65536 (uu5.2 0)] := hD
  refine lv_aload_n hx hb d_M_number_32 rfl (lv_at hl 0 rfl) ?_
  refine lv_iload_n hx hb d_M_number_33 rfl (lv_at hl 1 rfl) ?_
  refine lv_sipush (v := 255) hx hb d_M_number_34 (by decide) ?_
  refine lv_iand hx hb d_M_number_37 ?_
  refine kb_v (wc := [kb_o h 4 [.int T, .ref m1, .int 0, .ref m3, .int (nI (((n + 1) + 1) + 1)), .ref m5, .ref m6, .ref m7, .ref m8, .ref m9, .ref m10, .ref m11, .ref m12, .ref m13, .ref m14, .ref m15, .int 0, .int 0, .int 0, .int 0, .int 0], kb_a G m3 65536 (uu5.2 0)]) (wr := []) hE hP hD hS [0, 1] [] rfl rfl (by decide) (by decide) (kb_rV (As := [.int (x &&& 255)]) (rest := []) (wc := [kb_o h 4 [.int T, .ref m1, .int 0, .ref m3, .int (nI (((n + 1) + 1) + 1)), .ref m5, .ref m6, .ref m7, .ref m8, .ref m9, .ref m10, .ref m11, .ref m12, .ref m13, .ref m14, .ref m15, .int 0, .int 0, .int 0, .int 0, .int 0], kb_a G m3 65536 (uu5.2 0)]) (q0 := 0) ⟨hx, hb, hml, hown, ht⟩ ((c_M_put l G h T m1 m3 m5 m6 m7 m8 m9 m10 m11 m12 m13 m14 m15 (((n + 1) + 1) + 1) (uu5.2 0) (x &&& 255) (by omega)) _) (kb_gV wd_b0cf3d0a wd_ad11063d wd_fc6365d8 wd_38099713 wd_7200cd9a) ⟨rfl, hd_4a8e392e⟩ ⟨(Nat.le_of_ble_eq_true rfl), (Nat.le_of_ble_eq_true rfl)⟩ hE hP hD hS [0, 1] rfl (by decide) rfl rfl rfl hl.1 rfl (Nat.le_of_ble_eq_true rfl) d_M_number_38 ⟨(Nat.le_of_ble_eq_true rfl), (Nat.le_of_ble_eq_true rfl)⟩) (fun uu7 H locs hw hP hD hS => ?_)
  have hP : va_P G.1 kb_cl [kb_o h 4 [.int T, .ref m1, .int 0, .ref m3, .int (nI ((((n + 1) + 1) + 1) + 1)), .ref m5, .ref m6, .ref m7, .ref m8, .ref m9, .ref m10, .ref m11, .ref m12, .ref m13, .ref m14, .ref m15, .int 0, .int 0, .int 0, .int 0, .int 0], kb_a G m3 65536 (uu7.2 0)] H := hP
  have hD : va_D A [kb_o h 4 [.int T, .ref m1, .int 0, .ref m3, .int (nI ((((n + 1) + 1) + 1) + 1)), .ref m5, .ref m6, .ref m7, .ref m8, .ref m9, .ref m10, .ref m11, .ref m12, .ref m13, .ref m14, .ref m15, .int 0, .int 0, .int 0, .int 0, .int 0], kb_a G m3 65536 (uu7.2 0)] := hD
  exact kb_retv (kb_l [], kb_f [uu7.2 0]) hx hb hr hlocks hE hP hD hS [0, 1] rfl (by decide) rfl trivial (Nat.le_of_ble_eq_true rfl) (Nat.le_of_ble_eq_true rfl) d_M_number_41

set_option maxHeartbeats 4000000 in
set_option maxRecDepth 100000 in
theorem c_M_fillUp (l : Launch) (G : kb_G) (h : Nat) (T : Int32) (m1 : Nat) (m3 : Nat) (m5 : Nat) (m6 : Nat) (m7 : Nat) (m8 : Nat) (m9 : Nat) (m10 : Nat) (m11 : Nat) (m12 : Nat) (m13 : Nat) (m14 : Nat) (m15 : Nat) (f3 : Nat → Int32) : kb_cv l G ⟨"TreePressModel", "fillUp", "()V"⟩ prog_6_method_18_code 1 2 0 0 [.ref h] [kb_o h 4 [.int T, .ref m1, .int 0, .ref m3, .int 61, .ref m5, .ref m6, .ref m7, .ref m8, .ref m9, .ref m10, .ref m11, .ref m12, .ref m13, .ref m14, .ref m15, .int 0, .int 0, .int 0, .int 0, .int 0], kb_a G m3 65536 f3] (fun u => True) (fun u => [kb_o h 4 [.int T, .ref m1, .int 0, .ref m3, .int 64, .ref m5, .ref m6, .ref m7, .ref m8, .ref m9, .ref m10, .ref m11, .ref m12, .ref m13, .ref m14, .ref m15, .int 0, .int 0, .int 0, .int 0, .int 0], kb_a G m3 65536 (u.2 0)]) := by
  intro sz
  refine kb_body (QQ := fun A => kb_Qv G A (fun u => True) (fun u => [kb_o h 4 [.int T, .ref m1, .int 0, .ref m3, .int 64, .ref m5, .ref m6, .ref m7, .ref m8, .ref m9, .ref m10, .ref m11, .ref m12, .ref m13, .ref m14, .ref m15, .int 0, .int 0, .int 0, .int 0, .int 0], kb_a G m3 65536 (u.2 0)])) (by decide) (Nat.le_of_ble_eq_true rfl) ?_
  intro p e s m below meth c A B ls hl
  obtain ⟨hx, hb, hr, hml, hlocks, hin, hown, ht, hE, hP, hD, hS⟩ := B
  have hl : lv_has ls 1 [(0, .ref h)] := hl
  have hP0 := hP
  obtain ⟨H, hHe⟩ : ∃ H, H = s.heap := ⟨_, rfl⟩
  rw [← hHe] at hP
  have hS : va_S A s.heap H [] := by rw [hHe]; exact hS
  refine kb_at hHe ?_
  clear hHe
  refine lv_aload_n hx hb d_M_fillUp_0 rfl (lv_at hl 0 rfl) ?_
  refine va_get (D := G.1) (ci := 4) (v := .int 61) (C := "TreePressModel") (T := kb_F4) (N := 21) hx hb ht kb_w4 hown hE.1 hP 0 rfl rfl 4 (by decide) (ht _ wd_09f6dca0) (fun _ h9 => h9) rfl d_M_fillUp_1 ?_
  refine lv_iconst (v := 4) hx hb d_M_fillUp_4 (by decide) ?_
  refine lv_irem hx hb d_M_fillUp_5 (by decide) ?_
  refine kb_top (y := 1) (by decide) ?_
  refine lv_if_eq (tgt := 17) hx hb d_M_fillUp_6 (by decide) (fun c9 => absurd c9 (by decide)) (fun c9 => ?_)
  refine lv_aload_n hx hb d_M_fillUp_9 rfl (lv_at hl 0 rfl) ?_
  refine lv_iconst (v := 0) hx hb d_M_fillUp_10 (by decide) ?_
  refine kb_v (wc := [kb_o h 4 [.int T, .ref m1, .int 0, .ref m3, .int 61, .ref m5, .ref m6, .ref m7, .ref m8, .ref m9, .ref m10, .ref m11, .ref m12, .ref m13, .ref m14, .ref m15, .int 0, .int 0, .int 0, .int 0, .int 0], kb_a G m3 65536 f3]) (wr := []) hE hP hD hS [0, 1] [] rfl rfl (by decide) (by decide) (kb_rV (As := [.int 0]) (rest := []) (wc := [kb_o h 4 [.int T, .ref m1, .int 0, .ref m3, .int 61, .ref m5, .ref m6, .ref m7, .ref m8, .ref m9, .ref m10, .ref m11, .ref m12, .ref m13, .ref m14, .ref m15, .int 0, .int 0, .int 0, .int 0, .int 0], kb_a G m3 65536 f3]) (q0 := 0) ⟨hx, hb, hml, hown, ht⟩ ((c_M_put l G h T m1 m3 m5 m6 m7 m8 m9 m10 m11 m12 m13 m14 m15 61 f3 0 (by omega)) _) (kb_gV wd_b0cf3d0a wd_ad11063d wd_fc6365d8 wd_38099713 wd_7200cd9a) ⟨rfl, hd_4a8e392e⟩ ⟨(Nat.le_of_ble_eq_true rfl), (Nat.le_of_ble_eq_true rfl)⟩ hE hP hD hS [0, 1] rfl (by decide) rfl rfl rfl hl.1 rfl (Nat.le_of_ble_eq_true rfl) d_M_fillUp_11 ⟨(Nat.le_of_ble_eq_true rfl), (Nat.le_of_ble_eq_true rfl)⟩) (fun uu1 H locs hw hP hD hS => ?_)
  have hP : va_P G.1 kb_cl [kb_o h 4 [.int T, .ref m1, .int 0, .ref m3, .int 62, .ref m5, .ref m6, .ref m7, .ref m8, .ref m9, .ref m10, .ref m11, .ref m12, .ref m13, .ref m14, .ref m15, .int 0, .int 0, .int 0, .int 0, .int 0], kb_a G m3 65536 (uu1.2 0)] H := hP
  have hD : va_D A [kb_o h 4 [.int T, .ref m1, .int 0, .ref m3, .int 62, .ref m5, .ref m6, .ref m7, .ref m8, .ref m9, .ref m10, .ref m11, .ref m12, .ref m13, .ref m14, .ref m15, .int 0, .int 0, .int 0, .int 0, .int 0], kb_a G m3 65536 (uu1.2 0)] := hD
  refine lv_goto (tgt := 0) hx hb d_M_fillUp_14 (by decide) ?_
  refine lv_aload_n hx hb d_M_fillUp_0 rfl (lv_at hl 0 rfl) ?_
  refine va_get (D := G.1) (ci := 4) (v := .int 62) (C := "TreePressModel") (T := kb_F4) (N := 21) hx hb ht kb_w4 hown hE.1 hP 0 rfl rfl 4 (by decide) (ht _ wd_09f6dca0) (fun _ h9 => h9) rfl d_M_fillUp_1 ?_
  refine lv_iconst (v := 4) hx hb d_M_fillUp_4 (by decide) ?_
  refine lv_irem hx hb d_M_fillUp_5 (by decide) ?_
  refine kb_top (y := 2) (by decide) ?_
  refine lv_if_eq (tgt := 17) hx hb d_M_fillUp_6 (by decide) (fun c9 => absurd c9 (by decide)) (fun c9 => ?_)
  refine lv_aload_n hx hb d_M_fillUp_9 rfl (lv_at hl 0 rfl) ?_
  refine lv_iconst (v := 0) hx hb d_M_fillUp_10 (by decide) ?_
  refine kb_v (wc := [kb_o h 4 [.int T, .ref m1, .int 0, .ref m3, .int 62, .ref m5, .ref m6, .ref m7, .ref m8, .ref m9, .ref m10, .ref m11, .ref m12, .ref m13, .ref m14, .ref m15, .int 0, .int 0, .int 0, .int 0, .int 0], kb_a G m3 65536 (uu1.2 0)]) (wr := []) hE hP hD hS [0, 1] [] rfl rfl (by decide) (by decide) (kb_rV (As := [.int 0]) (rest := []) (wc := [kb_o h 4 [.int T, .ref m1, .int 0, .ref m3, .int 62, .ref m5, .ref m6, .ref m7, .ref m8, .ref m9, .ref m10, .ref m11, .ref m12, .ref m13, .ref m14, .ref m15, .int 0, .int 0, .int 0, .int 0, .int 0], kb_a G m3 65536 (uu1.2 0)]) (q0 := 0) ⟨hx, hb, hml, hown, ht⟩ ((c_M_put l G h T m1 m3 m5 m6 m7 m8 m9 m10 m11 m12 m13 m14 m15 62 (uu1.2 0) 0 (by omega)) _) (kb_gV wd_b0cf3d0a wd_ad11063d wd_fc6365d8 wd_38099713 wd_7200cd9a) ⟨rfl, hd_4a8e392e⟩ ⟨(Nat.le_of_ble_eq_true rfl), (Nat.le_of_ble_eq_true rfl)⟩ hE hP hD hS [0, 1] rfl (by decide) rfl rfl rfl hl.1 rfl (Nat.le_of_ble_eq_true rfl) d_M_fillUp_11 ⟨(Nat.le_of_ble_eq_true rfl), (Nat.le_of_ble_eq_true rfl)⟩) (fun uu3 H locs hw hP hD hS => ?_)
  have hP : va_P G.1 kb_cl [kb_o h 4 [.int T, .ref m1, .int 0, .ref m3, .int 63, .ref m5, .ref m6, .ref m7, .ref m8, .ref m9, .ref m10, .ref m11, .ref m12, .ref m13, .ref m14, .ref m15, .int 0, .int 0, .int 0, .int 0, .int 0], kb_a G m3 65536 (uu3.2 0)] H := hP
  have hD : va_D A [kb_o h 4 [.int T, .ref m1, .int 0, .ref m3, .int 63, .ref m5, .ref m6, .ref m7, .ref m8, .ref m9, .ref m10, .ref m11, .ref m12, .ref m13, .ref m14, .ref m15, .int 0, .int 0, .int 0, .int 0, .int 0], kb_a G m3 65536 (uu3.2 0)] := hD
  refine lv_goto (tgt := 0) hx hb d_M_fillUp_14 (by decide) ?_
  refine lv_aload_n hx hb d_M_fillUp_0 rfl (lv_at hl 0 rfl) ?_
  refine va_get (D := G.1) (ci := 4) (v := .int 63) (C := "TreePressModel") (T := kb_F4) (N := 21) hx hb ht kb_w4 hown hE.1 hP 0 rfl rfl 4 (by decide) (ht _ wd_09f6dca0) (fun _ h9 => h9) rfl d_M_fillUp_1 ?_
  refine lv_iconst (v := 4) hx hb d_M_fillUp_4 (by decide) ?_
  refine lv_irem hx hb d_M_fillUp_5 (by decide) ?_
  refine kb_top (y := 3) (by decide) ?_
  refine lv_if_eq (tgt := 17) hx hb d_M_fillUp_6 (by decide) (fun c9 => absurd c9 (by decide)) (fun c9 => ?_)
  refine lv_aload_n hx hb d_M_fillUp_9 rfl (lv_at hl 0 rfl) ?_
  refine lv_iconst (v := 0) hx hb d_M_fillUp_10 (by decide) ?_
  refine kb_v (wc := [kb_o h 4 [.int T, .ref m1, .int 0, .ref m3, .int 63, .ref m5, .ref m6, .ref m7, .ref m8, .ref m9, .ref m10, .ref m11, .ref m12, .ref m13, .ref m14, .ref m15, .int 0, .int 0, .int 0, .int 0, .int 0], kb_a G m3 65536 (uu3.2 0)]) (wr := []) hE hP hD hS [0, 1] [] rfl rfl (by decide) (by decide) (kb_rV (As := [.int 0]) (rest := []) (wc := [kb_o h 4 [.int T, .ref m1, .int 0, .ref m3, .int 63, .ref m5, .ref m6, .ref m7, .ref m8, .ref m9, .ref m10, .ref m11, .ref m12, .ref m13, .ref m14, .ref m15, .int 0, .int 0, .int 0, .int 0, .int 0], kb_a G m3 65536 (uu3.2 0)]) (q0 := 0) ⟨hx, hb, hml, hown, ht⟩ ((c_M_put l G h T m1 m3 m5 m6 m7 m8 m9 m10 m11 m12 m13 m14 m15 63 (uu3.2 0) 0 (by omega)) _) (kb_gV wd_b0cf3d0a wd_ad11063d wd_fc6365d8 wd_38099713 wd_7200cd9a) ⟨rfl, hd_4a8e392e⟩ ⟨(Nat.le_of_ble_eq_true rfl), (Nat.le_of_ble_eq_true rfl)⟩ hE hP hD hS [0, 1] rfl (by decide) rfl rfl rfl hl.1 rfl (Nat.le_of_ble_eq_true rfl) d_M_fillUp_11 ⟨(Nat.le_of_ble_eq_true rfl), (Nat.le_of_ble_eq_true rfl)⟩) (fun uu5 H locs hw hP hD hS => ?_)
  have hP : va_P G.1 kb_cl [kb_o h 4 [.int T, .ref m1, .int 0, .ref m3, .int 64, .ref m5, .ref m6, .ref m7, .ref m8, .ref m9, .ref m10, .ref m11, .ref m12, .ref m13, .ref m14, .ref m15, .int 0, .int 0, .int 0, .int 0, .int 0], kb_a G m3 65536 (uu5.2 0)] H := hP
  have hD : va_D A [kb_o h 4 [.int T, .ref m1, .int 0, .ref m3, .int 64, .ref m5, .ref m6, .ref m7, .ref m8, .ref m9, .ref m10, .ref m11, .ref m12, .ref m13, .ref m14, .ref m15, .int 0, .int 0, .int 0, .int 0, .int 0], kb_a G m3 65536 (uu5.2 0)] := hD
  refine lv_goto (tgt := 0) hx hb d_M_fillUp_14 (by decide) ?_
  refine lv_aload_n hx hb d_M_fillUp_0 rfl (lv_at hl 0 rfl) ?_
  refine va_get (D := G.1) (ci := 4) (v := .int 64) (C := "TreePressModel") (T := kb_F4) (N := 21) hx hb ht kb_w4 hown hE.1 hP 0 rfl rfl 4 (by decide) (ht _ wd_09f6dca0) (fun _ h9 => h9) rfl d_M_fillUp_1 ?_
  refine lv_iconst (v := 4) hx hb d_M_fillUp_4 (by decide) ?_
  refine lv_irem hx hb d_M_fillUp_5 (by decide) ?_
  refine kb_top (y := 0) (by decide) ?_
  refine lv_if_eq (tgt := 17) hx hb d_M_fillUp_6 (by decide) (fun c9 => ?_) (fun c9 => absurd (by decide) c9)
  exact kb_retv (kb_l [], kb_f [uu5.2 0]) hx hb hr hlocks hE hP hD hS [0, 1] rfl (by decide) rfl trivial (Nat.le_of_ble_eq_true rfl) (Nat.le_of_ble_eq_true rfl) d_M_fillUp_17

set_option maxHeartbeats 4000000 in
set_option maxRecDepth 100000 in
theorem c_M_layProperties (l : Launch) (G : kb_G) (h : Nat) (T : Int32) (m1 : Nat) (m3 : Nat) (m5 : Nat) (m6 : Nat) (m7 : Nat) (m8 : Nat) (m9 : Nat) (m10 : Nat) (m11 : Nat) (m12 : Nat) (m13 : Nat) (m14 : Nat) (m15 : Nat) (w4 : Int32) : kb_cv l G ⟨"TreePressModel", "layProperties", "(I)V"⟩ prog_6_method_22_code 4 3 0 0 [.ref h, .int 0] [kb_o h 4 [.int T, .ref m1, .int 0, .ref m3, .int w4, .ref m5, .ref m6, .ref m7, .ref m8, .ref m9, .ref m10, .ref m11, .ref m12, .ref m13, .ref m14, .ref m15, .int 0, .int 0, .int 0, .int 0, .int 0], kb_a G m6 2 (upd (fun _ => 0) 0 0)] (fun u => True) (fun u => [kb_o h 4 [.int T, .ref m1, .int 0, .ref m3, .int w4, .ref m5, .ref m6, .ref m7, .ref m8, .ref m9, .ref m10, .ref m11, .ref m12, .ref m13, .ref m14, .ref m15, .int 0, .int 0, .int 0, .int 0, .int 0], kb_a G m6 2 (upd (fun _ => 0) 0 0)]) := by
  intro sz
  refine kb_body (QQ := fun A => kb_Qv G A (fun u => True) (fun u => [kb_o h 4 [.int T, .ref m1, .int 0, .ref m3, .int w4, .ref m5, .ref m6, .ref m7, .ref m8, .ref m9, .ref m10, .ref m11, .ref m12, .ref m13, .ref m14, .ref m15, .int 0, .int 0, .int 0, .int 0, .int 0], kb_a G m6 2 (upd (fun _ => 0) 0 0)])) (by decide) (Nat.le_of_ble_eq_true rfl) ?_
  intro p e s m below meth c A B ls hl
  obtain ⟨hx, hb, hr, hml, hlocks, hin, hown, ht, hE, hP, hD, hS⟩ := B
  have hl : lv_has ls 4 [(0, .ref h), (1, .int 0)] := hl
  have hP0 := hP
  obtain ⟨H, hHe⟩ : ∃ H, H = s.heap := ⟨_, rfl⟩
  rw [← hHe] at hP
  have hS : va_S A s.heap H [] := by rw [hHe]; exact hS
  refine kb_at hHe ?_
  clear hHe
  refine lv_iconst (v := 0) hx hb d_M_layProperties_0 (by decide) ?_
  refine lv_istore_n (lv' := [(2, .int 0), (0, .ref h), (1, .int 0)]) hx hb d_M_layProperties_1 rfl hl (by decide) rfl (fun ls hl => ?_)
  refine lv_iload_n hx hb d_M_layProperties_2 rfl (lv_at hl 0 rfl) ?_
  refine lv_aload_n hx hb d_M_layProperties_3 rfl (lv_at hl 1 rfl) ?_
  refine va_get (D := G.1) (ci := 4) (v := .ref m6) (C := "TreePressModel") (T := kb_F4) (N := 21) hx hb ht kb_w4 hown hE.1 hP 0 rfl rfl 6 (by decide) (ht _ wd_0c18f9c0) (fun _ h9 => h9) rfl d_M_layProperties_4 ?_
  refine lv_iconst (v := 0) hx hb d_M_layProperties_7 (by decide) ?_
  refine va_iald hx hb hE.1 hP 1 0 rfl rfl (show ¬ ((0 : Int32) < 0 ∨ 2 ≤ (0 : Int32).toNatClampNeg) by decide) d_M_layProperties_8 ?_
  refine kb_top (y := 0) rfl ?_
  refine lv_icmp_ge (tgt := 96) hx hb d_M_layProperties_9 (by decide) (fun c9 => ?_) (fun c9 => absurd (by decide) c9)
  exact kb_retv (kb_l [], kb_f []) hx hb hr hlocks hE hP hD hS [0, 1] rfl (by decide) rfl trivial (Nat.le_of_ble_eq_true rfl) (Nat.le_of_ble_eq_true rfl) d_M_layProperties_96

set_option maxHeartbeats 4000000 in
set_option maxRecDepth 100000 in
theorem c_M_layNodes (l : Launch) (G : kb_G) (h : Nat) (T : Int32) (m1 : Nat) (m3 : Nat) (m5 : Nat) (m6 : Nat) (m7 : Nat) (m8 : Nat) (m9 : Nat) (m10 : Nat) (m11 : Nat) (m12 : Nat) (m13 : Nat) (m14 : Nat) (m15 : Nat) (f3 : Nat → Int32) : kb_cv l G ⟨"TreePressModel", "layNodes", "()V"⟩ prog_6_method_23_code 5 4 0 0 [.ref h] [kb_o h 4 [.int T, .ref m1, .int 0, .ref m3, .int 56, .ref m5, .ref m6, .ref m7, .ref m8, .ref m9, .ref m10, .ref m11, .ref m12, .ref m13, .ref m14, .ref m15, .int 0, .int 0, .int 0, .int 0, .int 0], kb_a G m3 65536 f3, kb_a G m5 2 (upd (fun _ => 0) 0 1), kb_a G m6 2 (upd (fun _ => 0) 0 0), kb_a G m8 256 (upd (fun _ => 0) 0 (-1)), kb_a G m9 256 (upd (fun _ => 0) 0 0), kb_a G m10 256 (upd (fun _ => 0) 0 0)] (fun u => True) (fun u => [kb_a G m5 2 (upd (fun _ => 0) 0 1), kb_a G m9 256 (upd (fun _ => 0) 0 0), kb_a G m10 256 (upd (fun _ => 0) 0 0), kb_a G m8 256 (upd (fun _ => 0) 0 (-1)), kb_a G m6 2 (upd (fun _ => 0) 0 0), kb_o h 4 [.int T, .ref m1, .int 0, .ref m3, .int 68, .ref m5, .ref m6, .ref m7, .ref m8, .ref m9, .ref m10, .ref m11, .ref m12, .ref m13, .ref m14, .ref m15, .int 0, .int 0, .int 0, .int 0, .int 0], kb_a G m3 65536 (u.2 0)]) := by
  intro sz
  refine kb_body (QQ := fun A => kb_Qv G A (fun u => True) (fun u => [kb_a G m5 2 (upd (fun _ => 0) 0 1), kb_a G m9 256 (upd (fun _ => 0) 0 0), kb_a G m10 256 (upd (fun _ => 0) 0 0), kb_a G m8 256 (upd (fun _ => 0) 0 (-1)), kb_a G m6 2 (upd (fun _ => 0) 0 0), kb_o h 4 [.int T, .ref m1, .int 0, .ref m3, .int 68, .ref m5, .ref m6, .ref m7, .ref m8, .ref m9, .ref m10, .ref m11, .ref m12, .ref m13, .ref m14, .ref m15, .int 0, .int 0, .int 0, .int 0, .int 0], kb_a G m3 65536 (u.2 0)])) (by decide) (Nat.le_of_ble_eq_true rfl) ?_
  intro p e s m below meth c A B ls hl
  obtain ⟨hx, hb, hr, hml, hlocks, hin, hown, ht, hE, hP, hD, hS⟩ := B
  have hl : lv_has ls 5 [(0, .ref h)] := hl
  have hP0 := hP
  obtain ⟨H, hHe⟩ : ∃ H, H = s.heap := ⟨_, rfl⟩
  rw [← hHe] at hP
  have hS : va_S A s.heap H [] := by rw [hHe]; exact hS
  refine kb_at hHe ?_
  clear hHe
  refine lv_iconst (v := 0) hx hb d_M_layNodes_0 (by decide) ?_
  refine lv_istore_n (lv' := [(1, .int 0), (0, .ref h)]) hx hb d_M_layNodes_1 rfl hl (by decide) rfl (fun ls hl => ?_)
  refine lv_iconst (v := 0) hx hb d_M_layNodes_2 (by decide) ?_
  refine lv_istore_n (lv' := [(2, .int 0), (1, .int 0), (0, .ref h)]) hx hb d_M_layNodes_3 rfl hl (by decide) rfl (fun ls hl => ?_)
  refine lv_iload_n hx hb d_M_layNodes_4 rfl (lv_at hl 0 rfl) ?_
  refine lv_aload_n hx hb d_M_layNodes_5 rfl (lv_at hl 2 rfl) ?_
  refine va_get (D := G.1) (ci := 4) (v := .ref m5) (C := "TreePressModel") (T := kb_F4) (N := 21) hx hb ht kb_w4 hown hE.1 hP 0 rfl rfl 5 (by decide) (ht _ wd_e8505d70) (fun _ h9 => h9) rfl d_M_layNodes_6 ?_
  refine lv_iconst (v := 0) hx hb d_M_layNodes_9 (by decide) ?_
  refine va_iald hx hb hE.1 hP 2 0 rfl rfl (show ¬ ((0 : Int32) < 0 ∨ 2 ≤ (0 : Int32).toNatClampNeg) by decide) d_M_layNodes_10 ?_
  refine kb_top (y := 1) rfl ?_
  refine lv_icmp_ge (tgt := 100) hx hb d_M_layNodes_11 (by decide) (fun c9 => absurd c9 (by decide)) (fun c9 => ?_)
  refine lv_aload_n hx hb d_M_layNodes_14 rfl (lv_at hl 2 rfl) ?_
  refine lv_iconst (v := 0) hx hb d_M_layNodes_15 (by decide) ?_
  refine lv_iload_n hx hb d_M_layNodes_16 rfl (lv_at hl 0 rfl) ?_
  refine kb_i (wc := [kb_o h 4 [.int T, .ref m1, .int 0, .ref m3, .int 56, .ref m5, .ref m6, .ref m7, .ref m8, .ref m9, .ref m10, .ref m11, .ref m12, .ref m13, .ref m14, .ref m15, .int 0, .int 0, .int 0, .int 0, .int 0], kb_a G m8 256 (upd (fun _ => 0) 0 (-1))]) (wr := [kb_a G m3 65536 f3, kb_a G m5 2 (upd (fun _ => 0) 0 1), kb_a G m6 2 (upd (fun _ => 0) 0 0), kb_a G m9 256 (upd (fun _ => 0) 0 0), kb_a G m10 256 (upd (fun _ => 0) 0 0)]) hE hP hD hS [0, 4] [1, 2, 3, 5, 6] rfl rfl (by decide) (by decide) (kb_rV (As := [.int 0, .int 0]) (rest := []) (wc := [kb_o h 4 [.int T, .ref m1, .int 0, .ref m3, .int 56, .ref m5, .ref m6, .ref m7, .ref m8, .ref m9, .ref m10, .ref m11, .ref m12, .ref m13, .ref m14, .ref m15, .int 0, .int 0, .int 0, .int 0, .int 0], kb_a G m8 256 (upd (fun _ => 0) 0 (-1))]) (q0 := 0) ⟨hx, hb, hml, hown, ht⟩ ((c_M_depthOf l G h T m1 m3 m5 m6 m7 m8 m9 m10 m11 m12 m13 m14 m15 56) _) (kb_gV wd_f5cf975e wd_dd83edd5 wd_b1d2daa7 wd_38099713 wd_8a3d9a02) ⟨rfl, hd_b6e7653d⟩ ⟨(Nat.le_of_ble_eq_true rfl), (Nat.le_of_ble_eq_true rfl)⟩ hE hP hD hS [0, 4] rfl (by decide) rfl rfl rfl hl.1 rfl (Nat.le_of_ble_eq_true rfl) d_M_layNodes_17 ⟨(Nat.le_of_ble_eq_true rfl), (Nat.le_of_ble_eq_true rfl)⟩) (fun rv2 uu1 H locs hw hP hD hS => ?_)
  have hP : va_P G.1 kb_cl [kb_a G m3 65536 f3, kb_a G m5 2 (upd (fun _ => 0) 0 1), kb_a G m6 2 (upd (fun _ => 0) 0 0), kb_a G m9 256 (upd (fun _ => 0) 0 0), kb_a G m10 256 (upd (fun _ => 0) 0 0), kb_o h 4 [.int T, .ref m1, .int 0, .ref m3, .int 56, .ref m5, .ref m6, .ref m7, .ref m8, .ref m9, .ref m10, .ref m11, .ref m12, .ref m13, .ref m14, .ref m15, .int 0, .int 0, .int 0, .int 0, .int 0], kb_a G m8 256 (upd (fun _ => 0) 0 (-1))] H := hP
  have hD : va_D A [kb_a G m3 65536 f3, kb_a G m5 2 (upd (fun _ => 0) 0 1), kb_a G m6 2 (upd (fun _ => 0) 0 0), kb_a G m9 256 (upd (fun _ => 0) 0 0), kb_a G m10 256 (upd (fun _ => 0) 0 0), kb_o h 4 [.int T, .ref m1, .int 0, .ref m3, .int 56, .ref m5, .ref m6, .ref m7, .ref m8, .ref m9, .ref m10, .ref m11, .ref m12, .ref m13, .ref m14, .ref m15, .int 0, .int 0, .int 0, .int 0, .int 0], kb_a G m8 256 (upd (fun _ => 0) 0 (-1))] := hD
  refine kb_top (y := 1) (show rv2 = 1 from hw) ?_
  refine lv_istore_n (lv' := [(3, .int 1), (2, .int 0), (1, .int 0), (0, .ref h)]) hx hb d_M_layNodes_20 rfl hl (by decide) rfl (fun ls hl => ?_)
  refine lv_iload_n hx hb d_M_layNodes_21 rfl (lv_at hl 2 rfl) ?_
  refine lv_iload_n hx hb d_M_layNodes_22 rfl (lv_at hl 0 rfl) ?_
  refine lv_icmp_lt (tgt := 37) hx hb d_M_layNodes_23 (by decide) (fun c9 => ?_) (fun c9 => absurd (by decide) c9)
  refine lv_iload_n hx hb d_M_layNodes_37 rfl (lv_at hl 0 rfl) ?_
  refine lv_istore_n (lv' := [(1, .int 1), (3, .int 1), (2, .int 0), (0, .ref h)]) hx hb d_M_layNodes_38 rfl hl (by decide) rfl (fun ls hl => ?_)
  refine lv_aload_n hx hb d_M_layNodes_39 rfl (lv_at hl 3 rfl) ?_
  refine lv_iconst (v := 1) hx hb d_M_layNodes_40 (by decide) ?_
  refine kb_v (wc := [kb_o h 4 [.int T, .ref m1, .int 0, .ref m3, .int 56, .ref m5, .ref m6, .ref m7, .ref m8, .ref m9, .ref m10, .ref m11, .ref m12, .ref m13, .ref m14, .ref m15, .int 0, .int 0, .int 0, .int 0, .int 0], kb_a G m3 65536 f3]) (wr := [kb_a G m5 2 (upd (fun _ => 0) 0 1), kb_a G m6 2 (upd (fun _ => 0) 0 0), kb_a G m9 256 (upd (fun _ => 0) 0 0), kb_a G m10 256 (upd (fun _ => 0) 0 0), kb_a G m8 256 (upd (fun _ => 0) 0 (-1))]) hE hP hD hS [5, 0] [1, 2, 3, 4, 6] rfl rfl (by decide) (by decide) (kb_rV (As := [.int 1]) (rest := []) (wc := [kb_o h 4 [.int T, .ref m1, .int 0, .ref m3, .int 56, .ref m5, .ref m6, .ref m7, .ref m8, .ref m9, .ref m10, .ref m11, .ref m12, .ref m13, .ref m14, .ref m15, .int 0, .int 0, .int 0, .int 0, .int 0], kb_a G m3 65536 f3]) (q0 := 0) ⟨hx, hb, hml, hown, ht⟩ ((c_M_number l G h T m1 m3 m5 m6 m7 m8 m9 m10 m11 m12 m13 m14 m15 56 f3 1 (by omega)) _) (kb_gV wd_283e8efb wd_3d04b7f3 wd_1b35c4b5 wd_38099713 wd_ce9eaa3f) ⟨rfl, hd_0217c5f0⟩ ⟨(Nat.le_of_ble_eq_true rfl), (Nat.le_of_ble_eq_true rfl)⟩ hE hP hD hS [5, 0] rfl (by decide) rfl rfl rfl hl.1 rfl (Nat.le_of_ble_eq_true rfl) d_M_layNodes_41 ⟨(Nat.le_of_ble_eq_true rfl), (Nat.le_of_ble_eq_true rfl)⟩) (fun uu3 H locs hw hP hD hS => ?_)
  have hP : va_P G.1 kb_cl [kb_a G m5 2 (upd (fun _ => 0) 0 1), kb_a G m6 2 (upd (fun _ => 0) 0 0), kb_a G m9 256 (upd (fun _ => 0) 0 0), kb_a G m10 256 (upd (fun _ => 0) 0 0), kb_a G m8 256 (upd (fun _ => 0) 0 (-1)), kb_o h 4 [.int T, .ref m1, .int 0, .ref m3, .int 60, .ref m5, .ref m6, .ref m7, .ref m8, .ref m9, .ref m10, .ref m11, .ref m12, .ref m13, .ref m14, .ref m15, .int 0, .int 0, .int 0, .int 0, .int 0], kb_a G m3 65536 (uu3.2 0)] H := hP
  have hD : va_D A [kb_a G m5 2 (upd (fun _ => 0) 0 1), kb_a G m6 2 (upd (fun _ => 0) 0 0), kb_a G m9 256 (upd (fun _ => 0) 0 0), kb_a G m10 256 (upd (fun _ => 0) 0 0), kb_a G m8 256 (upd (fun _ => 0) 0 (-1)), kb_o h 4 [.int T, .ref m1, .int 0, .ref m3, .int 60, .ref m5, .ref m6, .ref m7, .ref m8, .ref m9, .ref m10, .ref m11, .ref m12, .ref m13, .ref m14, .ref m15, .int 0, .int 0, .int 0, .int 0, .int 0], kb_a G m3 65536 (uu3.2 0)] := hD
  refine lv_aload_n hx hb d_M_layNodes_44 rfl (lv_at hl 3 rfl) ?_
  refine va_get (D := G.1) (ci := 4) (v := .ref m9) (C := "TreePressModel") (T := kb_F4) (N := 21) hx hb ht kb_w4 hown hE.1 hP 5 rfl rfl 9 (by decide) (ht _ wd_0465fd3b) (fun _ h9 => h9) rfl d_M_layNodes_45 ?_
  refine lv_iload_n hx hb d_M_layNodes_48 rfl (lv_at hl 2 rfl) ?_
  refine va_iald hx hb hE.1 hP 2 0 rfl rfl (show ¬ ((0 : Int32) < 0 ∨ 256 ≤ (0 : Int32).toNatClampNeg) by decide) d_M_layNodes_49 ?_
  refine kb_top (y := 0) rfl ?_
  refine lv_istore (lv' := [(4, .int 0), (1, .int 1), (3, .int 1), (2, .int 0), (0, .ref h)]) hx hb d_M_layNodes_50 hl (by decide) rfl (fun ls hl => ?_)
  refine lv_iload hx hb d_M_layNodes_52 (lv_at hl 0 rfl) ?_
  refine lv_aload_n hx hb d_M_layNodes_54 rfl (lv_at hl 4 rfl) ?_
  refine va_get (D := G.1) (ci := 4) (v := .ref m10) (C := "TreePressModel") (T := kb_F4) (N := 21) hx hb ht kb_w4 hown hE.1 hP 5 rfl rfl 10 (by decide) (ht _ wd_05d4d7b5) (fun _ h9 => h9) rfl d_M_layNodes_55 ?_
  refine lv_iload_n hx hb d_M_layNodes_58 rfl (lv_at hl 3 rfl) ?_
  refine va_iald hx hb hE.1 hP 3 0 rfl rfl (show ¬ ((0 : Int32) < 0 ∨ 256 ≤ (0 : Int32).toNatClampNeg) by decide) d_M_layNodes_59 ?_
  refine kb_top (y := 0) rfl ?_
  refine lv_icmp_ge (tgt := 80) hx hb d_M_layNodes_60 (by decide) (fun c9 => ?_) (fun c9 => absurd (by decide) c9)
  refine lv_aload_n hx hb d_M_layNodes_80 rfl (lv_at hl 4 rfl) ?_
  refine lv_iconst (v := 0) hx hb d_M_layNodes_81 (by decide) ?_
  refine kb_v (wc := [kb_o h 4 [.int T, .ref m1, .int 0, .ref m3, .int 60, .ref m5, .ref m6, .ref m7, .ref m8, .ref m9, .ref m10, .ref m11, .ref m12, .ref m13, .ref m14, .ref m15, .int 0, .int 0, .int 0, .int 0, .int 0], kb_a G m3 65536 (uu3.2 0)]) (wr := [kb_a G m5 2 (upd (fun _ => 0) 0 1), kb_a G m6 2 (upd (fun _ => 0) 0 0), kb_a G m9 256 (upd (fun _ => 0) 0 0), kb_a G m10 256 (upd (fun _ => 0) 0 0), kb_a G m8 256 (upd (fun _ => 0) 0 (-1))]) hE hP hD hS [5, 6] [0, 1, 2, 3, 4] rfl rfl (by decide) (by decide) (kb_rV (As := [.int 0]) (rest := []) (wc := [kb_o h 4 [.int T, .ref m1, .int 0, .ref m3, .int 60, .ref m5, .ref m6, .ref m7, .ref m8, .ref m9, .ref m10, .ref m11, .ref m12, .ref m13, .ref m14, .ref m15, .int 0, .int 0, .int 0, .int 0, .int 0], kb_a G m3 65536 (uu3.2 0)]) (q0 := 0) ⟨hx, hb, hml, hown, ht⟩ ((c_M_put l G h T m1 m3 m5 m6 m7 m8 m9 m10 m11 m12 m13 m14 m15 60 (uu3.2 0) 0 (by omega)) _) (kb_gV wd_b0cf3d0a wd_ad11063d wd_fc6365d8 wd_38099713 wd_7200cd9a) ⟨rfl, hd_4a8e392e⟩ ⟨(Nat.le_of_ble_eq_true rfl), (Nat.le_of_ble_eq_true rfl)⟩ hE hP hD hS [5, 6] rfl (by decide) rfl rfl rfl hl.1 rfl (Nat.le_of_ble_eq_true rfl) d_M_layNodes_82 ⟨(Nat.le_of_ble_eq_true rfl), (Nat.le_of_ble_eq_true rfl)⟩) (fun uu5 H locs hw hP hD hS => ?_)
  have hP : va_P G.1 kb_cl [kb_a G m5 2 (upd (fun _ => 0) 0 1), kb_a G m6 2 (upd (fun _ => 0) 0 0), kb_a G m9 256 (upd (fun _ => 0) 0 0), kb_a G m10 256 (upd (fun _ => 0) 0 0), kb_a G m8 256 (upd (fun _ => 0) 0 (-1)), kb_o h 4 [.int T, .ref m1, .int 0, .ref m3, .int 61, .ref m5, .ref m6, .ref m7, .ref m8, .ref m9, .ref m10, .ref m11, .ref m12, .ref m13, .ref m14, .ref m15, .int 0, .int 0, .int 0, .int 0, .int 0], kb_a G m3 65536 (uu5.2 0)] H := hP
  have hD : va_D A [kb_a G m5 2 (upd (fun _ => 0) 0 1), kb_a G m6 2 (upd (fun _ => 0) 0 0), kb_a G m9 256 (upd (fun _ => 0) 0 0), kb_a G m10 256 (upd (fun _ => 0) 0 0), kb_a G m8 256 (upd (fun _ => 0) 0 (-1)), kb_o h 4 [.int T, .ref m1, .int 0, .ref m3, .int 61, .ref m5, .ref m6, .ref m7, .ref m8, .ref m9, .ref m10, .ref m11, .ref m12, .ref m13, .ref m14, .ref m15, .int 0, .int 0, .int 0, .int 0, .int 0], kb_a G m3 65536 (uu5.2 0)] := hD
  refine lv_aload_n hx hb d_M_layNodes_85 rfl (lv_at hl 4 rfl) ?_
  refine kb_v (wc := [kb_o h 4 [.int T, .ref m1, .int 0, .ref m3, .int 61, .ref m5, .ref m6, .ref m7, .ref m8, .ref m9, .ref m10, .ref m11, .ref m12, .ref m13, .ref m14, .ref m15, .int 0, .int 0, .int 0, .int 0, .int 0], kb_a G m3 65536 (uu5.2 0)]) (wr := [kb_a G m5 2 (upd (fun _ => 0) 0 1), kb_a G m6 2 (upd (fun _ => 0) 0 0), kb_a G m9 256 (upd (fun _ => 0) 0 0), kb_a G m10 256 (upd (fun _ => 0) 0 0), kb_a G m8 256 (upd (fun _ => 0) 0 (-1))]) hE hP hD hS [5, 6] [0, 1, 2, 3, 4] rfl rfl (by decide) (by decide) (kb_rV (As := []) (rest := []) (wc := [kb_o h 4 [.int T, .ref m1, .int 0, .ref m3, .int 61, .ref m5, .ref m6, .ref m7, .ref m8, .ref m9, .ref m10, .ref m11, .ref m12, .ref m13, .ref m14, .ref m15, .int 0, .int 0, .int 0, .int 0, .int 0], kb_a G m3 65536 (uu5.2 0)]) (q0 := 0) ⟨hx, hb, hml, hown, ht⟩ ((c_M_fillUp l G h T m1 m3 m5 m6 m7 m8 m9 m10 m11 m12 m13 m14 m15 (uu5.2 0)) _) (kb_gV wd_e9f3229d wd_46c4b47c wd_cdbc4521 wd_38099713 wd_706b4b43) ⟨rfl, hd_ffc93103⟩ ⟨(Nat.le_of_ble_eq_true rfl), (Nat.le_of_ble_eq_true rfl)⟩ hE hP hD hS [5, 6] rfl (by decide) rfl rfl rfl hl.1 rfl (Nat.le_of_ble_eq_true rfl) d_M_layNodes_86 ⟨(Nat.le_of_ble_eq_true rfl), (Nat.le_of_ble_eq_true rfl)⟩) (fun uu7 H locs hw hP hD hS => ?_)
  have hP : va_P G.1 kb_cl [kb_a G m5 2 (upd (fun _ => 0) 0 1), kb_a G m6 2 (upd (fun _ => 0) 0 0), kb_a G m9 256 (upd (fun _ => 0) 0 0), kb_a G m10 256 (upd (fun _ => 0) 0 0), kb_a G m8 256 (upd (fun _ => 0) 0 (-1)), kb_o h 4 [.int T, .ref m1, .int 0, .ref m3, .int 64, .ref m5, .ref m6, .ref m7, .ref m8, .ref m9, .ref m10, .ref m11, .ref m12, .ref m13, .ref m14, .ref m15, .int 0, .int 0, .int 0, .int 0, .int 0], kb_a G m3 65536 (uu7.2 0)] H := hP
  have hD : va_D A [kb_a G m5 2 (upd (fun _ => 0) 0 1), kb_a G m6 2 (upd (fun _ => 0) 0 0), kb_a G m9 256 (upd (fun _ => 0) 0 0), kb_a G m10 256 (upd (fun _ => 0) 0 0), kb_a G m8 256 (upd (fun _ => 0) 0 (-1)), kb_o h 4 [.int T, .ref m1, .int 0, .ref m3, .int 64, .ref m5, .ref m6, .ref m7, .ref m8, .ref m9, .ref m10, .ref m11, .ref m12, .ref m13, .ref m14, .ref m15, .int 0, .int 0, .int 0, .int 0, .int 0], kb_a G m3 65536 (uu7.2 0)] := hD
  refine lv_aload_n hx hb d_M_layNodes_89 rfl (lv_at hl 4 rfl) ?_
  refine lv_iload_n hx hb d_M_layNodes_90 rfl (lv_at hl 3 rfl) ?_
  refine kb_v (wc := [kb_o h 4 [.int T, .ref m1, .int 0, .ref m3, .int 64, .ref m5, .ref m6, .ref m7, .ref m8, .ref m9, .ref m10, .ref m11, .ref m12, .ref m13, .ref m14, .ref m15, .int 0, .int 0, .int 0, .int 0, .int 0], kb_a G m6 2 (upd (fun _ => 0) 0 0)]) (wr := [kb_a G m5 2 (upd (fun _ => 0) 0 1), kb_a G m9 256 (upd (fun _ => 0) 0 0), kb_a G m10 256 (upd (fun _ => 0) 0 0), kb_a G m8 256 (upd (fun _ => 0) 0 (-1)), kb_a G m3 65536 (uu7.2 0)]) hE hP hD hS [5, 1] [0, 2, 3, 4, 6] rfl rfl (by decide) (by decide) (kb_rV (As := [.int 0]) (rest := []) (wc := [kb_o h 4 [.int T, .ref m1, .int 0, .ref m3, .int 64, .ref m5, .ref m6, .ref m7, .ref m8, .ref m9, .ref m10, .ref m11, .ref m12, .ref m13, .ref m14, .ref m15, .int 0, .int 0, .int 0, .int 0, .int 0], kb_a G m6 2 (upd (fun _ => 0) 0 0)]) (q0 := 0) ⟨hx, hb, hml, hown, ht⟩ ((c_M_layProperties l G h T m1 m3 m5 m6 m7 m8 m9 m10 m11 m12 m13 m14 m15 64) _) (kb_gV wd_d83df0ad wd_eaaaf557 wd_feaac75f wd_38099713 wd_bad3c462) ⟨rfl, hd_a12f3a47⟩ ⟨(Nat.le_of_ble_eq_true rfl), (Nat.le_of_ble_eq_true rfl)⟩ hE hP hD hS [5, 1] rfl (by decide) rfl rfl rfl hl.1 rfl (Nat.le_of_ble_eq_true rfl) d_M_layNodes_91 ⟨(Nat.le_of_ble_eq_true rfl), (Nat.le_of_ble_eq_true rfl)⟩) (fun uu9 H locs hw hP hD hS => ?_)
  have hP : va_P G.1 kb_cl [kb_a G m5 2 (upd (fun _ => 0) 0 1), kb_a G m9 256 (upd (fun _ => 0) 0 0), kb_a G m10 256 (upd (fun _ => 0) 0 0), kb_a G m8 256 (upd (fun _ => 0) 0 (-1)), kb_a G m3 65536 (uu7.2 0), kb_o h 4 [.int T, .ref m1, .int 0, .ref m3, .int 64, .ref m5, .ref m6, .ref m7, .ref m8, .ref m9, .ref m10, .ref m11, .ref m12, .ref m13, .ref m14, .ref m15, .int 0, .int 0, .int 0, .int 0, .int 0], kb_a G m6 2 (upd (fun _ => 0) 0 0)] H := hP
  have hD : va_D A [kb_a G m5 2 (upd (fun _ => 0) 0 1), kb_a G m9 256 (upd (fun _ => 0) 0 0), kb_a G m10 256 (upd (fun _ => 0) 0 0), kb_a G m8 256 (upd (fun _ => 0) 0 (-1)), kb_a G m3 65536 (uu7.2 0), kb_o h 4 [.int T, .ref m1, .int 0, .ref m3, .int 64, .ref m5, .ref m6, .ref m7, .ref m8, .ref m9, .ref m10, .ref m11, .ref m12, .ref m13, .ref m14, .ref m15, .int 0, .int 0, .int 0, .int 0, .int 0], kb_a G m6 2 (upd (fun _ => 0) 0 0)] := hD
  refine lv_iinc (v := 1) (lv' := [(2, .int 1), (4, .int 0), (1, .int 1), (3, .int 1), (0, .ref h)]) hx hb d_M_layNodes_94 hl (k := 3) rfl (by decide) (by decide) rfl (fun ls hl => ?_)
  refine lv_goto (tgt := 4) hx hb d_M_layNodes_97 (by decide) ?_
  refine lv_iload_n hx hb d_M_layNodes_4 rfl (lv_at hl 0 rfl) ?_
  refine lv_aload_n hx hb d_M_layNodes_5 rfl (lv_at hl 4 rfl) ?_
  refine va_get (D := G.1) (ci := 4) (v := .ref m5) (C := "TreePressModel") (T := kb_F4) (N := 21) hx hb ht kb_w4 hown hE.1 hP 5 rfl rfl 5 (by decide) (ht _ wd_e8505d70) (fun _ h9 => h9) rfl d_M_layNodes_6 ?_
  refine lv_iconst (v := 0) hx hb d_M_layNodes_9 (by decide) ?_
  refine va_iald hx hb hE.1 hP 0 0 rfl rfl (show ¬ ((0 : Int32) < 0 ∨ 2 ≤ (0 : Int32).toNatClampNeg) by decide) d_M_layNodes_10 ?_
  refine kb_top (y := 1) rfl ?_
  refine lv_icmp_ge (tgt := 100) hx hb d_M_layNodes_11 (by decide) (fun c9 => ?_) (fun c9 => absurd (by decide) c9)
  refine lv_iload_n hx hb d_M_layNodes_100 rfl (lv_at hl 2 rfl) ?_
  refine lv_if_le (tgt := 115) hx hb d_M_layNodes_101 (by decide) (fun c9 => absurd c9 (by decide)) (fun c9 => ?_)
  refine lv_aload_n hx hb d_M_layNodes_104 rfl (lv_at hl 4 rfl) ?_
  refine lv_iconst (v := 2) hx hb d_M_layNodes_105 (by decide) ?_
  refine kb_v (wc := [kb_o h 4 [.int T, .ref m1, .int 0, .ref m3, .int 64, .ref m5, .ref m6, .ref m7, .ref m8, .ref m9, .ref m10, .ref m11, .ref m12, .ref m13, .ref m14, .ref m15, .int 0, .int 0, .int 0, .int 0, .int 0], kb_a G m3 65536 (uu7.2 0)]) (wr := [kb_a G m5 2 (upd (fun _ => 0) 0 1), kb_a G m9 256 (upd (fun _ => 0) 0 0), kb_a G m10 256 (upd (fun _ => 0) 0 0), kb_a G m8 256 (upd (fun _ => 0) 0 (-1)), kb_a G m6 2 (upd (fun _ => 0) 0 0)]) hE hP hD hS [5, 4] [0, 1, 2, 3, 6] rfl rfl (by decide) (by decide) (kb_rV (As := [.int 2]) (rest := []) (wc := [kb_o h 4 [.int T, .ref m1, .int 0, .ref m3, .int 64, .ref m5, .ref m6, .ref m7, .ref m8, .ref m9, .ref m10, .ref m11, .ref m12, .ref m13, .ref m14, .ref m15, .int 0, .int 0, .int 0, .int 0, .int 0], kb_a G m3 65536 (uu7.2 0)]) (q0 := 0) ⟨hx, hb, hml, hown, ht⟩ ((c_M_number l G h T m1 m3 m5 m6 m7 m8 m9 m10 m11 m12 m13 m14 m15 64 (uu7.2 0) 2 (by omega)) _) (kb_gV wd_283e8efb wd_3d04b7f3 wd_1b35c4b5 wd_38099713 wd_ce9eaa3f) ⟨rfl, hd_0217c5f0⟩ ⟨(Nat.le_of_ble_eq_true rfl), (Nat.le_of_ble_eq_true rfl)⟩ hE hP hD hS [5, 4] rfl (by decide) rfl rfl rfl hl.1 rfl (Nat.le_of_ble_eq_true rfl) d_M_layNodes_106 ⟨(Nat.le_of_ble_eq_true rfl), (Nat.le_of_ble_eq_true rfl)⟩) (fun uu11 H locs hw hP hD hS => ?_)
  have hP : va_P G.1 kb_cl [kb_a G m5 2 (upd (fun _ => 0) 0 1), kb_a G m9 256 (upd (fun _ => 0) 0 0), kb_a G m10 256 (upd (fun _ => 0) 0 0), kb_a G m8 256 (upd (fun _ => 0) 0 (-1)), kb_a G m6 2 (upd (fun _ => 0) 0 0), kb_o h 4 [.int T, .ref m1, .int 0, .ref m3, .int 68, .ref m5, .ref m6, .ref m7, .ref m8, .ref m9, .ref m10, .ref m11, .ref m12, .ref m13, .ref m14, .ref m15, .int 0, .int 0, .int 0, .int 0, .int 0], kb_a G m3 65536 (uu11.2 0)] H := hP
  have hD : va_D A [kb_a G m5 2 (upd (fun _ => 0) 0 1), kb_a G m9 256 (upd (fun _ => 0) 0 0), kb_a G m10 256 (upd (fun _ => 0) 0 0), kb_a G m8 256 (upd (fun _ => 0) 0 (-1)), kb_a G m6 2 (upd (fun _ => 0) 0 0), kb_o h 4 [.int T, .ref m1, .int 0, .ref m3, .int 68, .ref m5, .ref m6, .ref m7, .ref m8, .ref m9, .ref m10, .ref m11, .ref m12, .ref m13, .ref m14, .ref m15, .int 0, .int 0, .int 0, .int 0, .int 0], kb_a G m3 65536 (uu11.2 0)] := hD
  refine lv_iinc (v := 0) (lv' := [(1, .int 0), (2, .int 1), (4, .int 0), (3, .int 1), (0, .ref h)]) hx hb d_M_layNodes_109 hl (k := 2) rfl (by decide) (by decide) rfl (fun ls hl => ?_)
  refine lv_goto (tgt := 100) hx hb d_M_layNodes_112 (by decide) ?_
  refine lv_iload_n hx hb d_M_layNodes_100 rfl (lv_at hl 0 rfl) ?_
  refine lv_if_le (tgt := 115) hx hb d_M_layNodes_101 (by decide) (fun c9 => ?_) (fun c9 => absurd (by decide) c9)
  exact kb_retv (kb_l [], kb_f [uu11.2 0]) hx hb hr hlocks hE hP hD hS [0, 1, 2, 3, 4, 5, 6] rfl (by decide) rfl trivial (Nat.le_of_ble_eq_true rfl) (Nat.le_of_ble_eq_true rfl) d_M_layNodes_115

set_option maxHeartbeats 4000000 in
set_option maxRecDepth 100000 in
theorem c_M_layNames (l : Launch) (G : kb_G) (h : Nat) (T : Int32) (m1 : Nat) (m3 : Nat) (m5 : Nat) (m6 : Nat) (m7 : Nat) (m8 : Nat) (m9 : Nat) (m10 : Nat) (m11 : Nat) (m12 : Nat) (m13 : Nat) (m14 : Nat) (m15 : Nat) (w4 : Int32) : kb_cv l G ⟨"TreePressModel", "layNames", "()V"⟩ prog_6_method_24_code 3 3 0 0 [.ref h] [kb_o h 4 [.int T, .ref m1, .int 0, .ref m3, .int w4, .ref m5, .ref m6, .ref m7, .ref m8, .ref m9, .ref m10, .ref m11, .ref m12, .ref m13, .ref m14, .ref m15, .int 0, .int 0, .int 0, .int 0, .int 0], kb_a G m6 2 (upd (fun _ => 0) 0 0)] (fun u => True) (fun u => [kb_o h 4 [.int T, .ref m1, .int 0, .ref m3, .int w4, .ref m5, .ref m6, .ref m7, .ref m8, .ref m9, .ref m10, .ref m11, .ref m12, .ref m13, .ref m14, .ref m15, .int 0, .int 0, .int 0, .int 0, .int 0], kb_a G m6 2 (upd (fun _ => 0) 0 0)]) := by
  intro sz
  refine kb_body (QQ := fun A => kb_Qv G A (fun u => True) (fun u => [kb_o h 4 [.int T, .ref m1, .int 0, .ref m3, .int w4, .ref m5, .ref m6, .ref m7, .ref m8, .ref m9, .ref m10, .ref m11, .ref m12, .ref m13, .ref m14, .ref m15, .int 0, .int 0, .int 0, .int 0, .int 0], kb_a G m6 2 (upd (fun _ => 0) 0 0)])) (by decide) (Nat.le_of_ble_eq_true rfl) ?_
  intro p e s m below meth c A B ls hl
  obtain ⟨hx, hb, hr, hml, hlocks, hin, hown, ht, hE, hP, hD, hS⟩ := B
  have hl : lv_has ls 3 [(0, .ref h)] := hl
  have hP0 := hP
  obtain ⟨H, hHe⟩ : ∃ H, H = s.heap := ⟨_, rfl⟩
  rw [← hHe] at hP
  have hS : va_S A s.heap H [] := by rw [hHe]; exact hS
  refine kb_at hHe ?_
  clear hHe
  refine lv_iconst (v := 0) hx hb d_M_layNames_0 (by decide) ?_
  refine lv_istore_n (lv' := [(1, .int 0), (0, .ref h)]) hx hb d_M_layNames_1 rfl hl (by decide) rfl (fun ls hl => ?_)
  refine lv_iload_n hx hb d_M_layNames_2 rfl (lv_at hl 0 rfl) ?_
  refine lv_aload_n hx hb d_M_layNames_3 rfl (lv_at hl 1 rfl) ?_
  refine va_get (D := G.1) (ci := 4) (v := .ref m6) (C := "TreePressModel") (T := kb_F4) (N := 21) hx hb ht kb_w4 hown hE.1 hP 0 rfl rfl 6 (by decide) (ht _ wd_0c18f9c0) (fun _ h9 => h9) rfl d_M_layNames_4 ?_
  refine lv_iconst (v := 0) hx hb d_M_layNames_7 (by decide) ?_
  refine va_iald hx hb hE.1 hP 1 0 rfl rfl (show ¬ ((0 : Int32) < 0 ∨ 2 ≤ (0 : Int32).toNatClampNeg) by decide) d_M_layNames_8 ?_
  refine kb_top (y := 0) rfl ?_
  refine lv_icmp_ge (tgt := 64) hx hb d_M_layNames_9 (by decide) (fun c9 => ?_) (fun c9 => absurd (by decide) c9)
  exact kb_retv (kb_l [], kb_f []) hx hb hr hlocks hE hP hD hS [0, 1] rfl (by decide) rfl trivial (Nat.le_of_ble_eq_true rfl) (Nat.le_of_ble_eq_true rfl) d_M_layNames_64

set_option maxHeartbeats 4000000 in
set_option maxRecDepth 100000 in
theorem c_M_head (l : Launch) (G : kb_G) (h : Nat) (T : Int32) (m1 : Nat) (m3 : Nat) (m5 : Nat) (m6 : Nat) (m7 : Nat) (m8 : Nat) (m9 : Nat) (m10 : Nat) (m11 : Nat) (m12 : Nat) (m13 : Nat) (m14 : Nat) (m15 : Nat) (f3 : Nat → Int32) : kb_cv l G ⟨"TreePressModel", "head", "(II)V"⟩ prog_6_method_25_code 4 3 0 0 [.ref h, .int 72, .int 16] [kb_o h 4 [.int T, .ref m1, .int 0, .ref m3, .int 72, .ref m5, .ref m6, .ref m7, .ref m8, .ref m9, .ref m10, .ref m11, .ref m12, .ref m13, .ref m14, .ref m15, .int 0, .int 0, .int 0, .int 0, .int 0], kb_a G m3 65536 f3] (fun u => True) (fun u => [kb_o h 4 [.int T, .ref m1, .int 0, .ref m3, .int 56, .ref m5, .ref m6, .ref m7, .ref m8, .ref m9, .ref m10, .ref m11, .ref m12, .ref m13, .ref m14, .ref m15, .int 0, .int 0, .int 0, .int 0, .int 0], kb_a G m3 65536 (u.2 0)]) := by
  intro sz
  refine kb_body (QQ := fun A => kb_Qv G A (fun u => True) (fun u => [kb_o h 4 [.int T, .ref m1, .int 0, .ref m3, .int 56, .ref m5, .ref m6, .ref m7, .ref m8, .ref m9, .ref m10, .ref m11, .ref m12, .ref m13, .ref m14, .ref m15, .int 0, .int 0, .int 0, .int 0, .int 0], kb_a G m3 65536 (u.2 0)])) (by decide) (Nat.le_of_ble_eq_true rfl) ?_
  intro p e s m below meth c A B ls hl
  obtain ⟨hx, hb, hr, hml, hlocks, hin, hown, ht, hE, hP, hD, hS⟩ := B
  have hl : lv_has ls 4 [(0, .ref h), (1, .int 72), (2, .int 16)] := hl
  have hP0 := hP
  obtain ⟨H, hHe⟩ : ∃ H, H = s.heap := ⟨_, rfl⟩
  rw [← hHe] at hP
  have hS : va_S A s.heap H [] := by rw [hHe]; exact hS
  refine kb_at hHe ?_
  clear hHe
  refine lv_aload_n hx hb d_M_head_0 rfl (lv_at hl 0 rfl) ?_
  refine lv_iconst (v := 0) hx hb d_M_head_1 (by decide) ?_
  refine va_put (D := G.1) (ci := 4) (v := .int 0) (ty := .int) (C := "TreePressModel") (T := kb_F4) (N := 21) hx hb ht kb_w4 kb_y4 kb_p4 kb_n4 hown hE.1 hP hD hS 0 rfl rfl 4 (by decide) (ht _ wd_09f6dca0) (fun _ h9 => h9) rfl (by decide +kernel) rfl rfl (Nat.le_of_ble_eq_true rfl) d_M_head_2 (fun H locs hP hD hS => ?_)
  have hP : va_P G.1 kb_cl [kb_o h 4 [.int T, .ref m1, .int 0, .ref m3, .int 0, .ref m5, .ref m6, .ref m7, .ref m8, .ref m9, .ref m10, .ref m11, .ref m12, .ref m13, .ref m14, .ref m15, .int 0, .int 0, .int 0, .int 0, .int 0], kb_a G m3 65536 f3] H := hP
  have hD : va_D A [kb_o h 4 [.int T, .ref m1, .int 0, .ref m3, .int 0, .ref m5, .ref m6, .ref m7, .ref m8, .ref m9, .ref m10, .ref m11, .ref m12, .ref m13, .ref m14, .ref m15, .int 0, .int 0, .int 0, .int 0, .int 0], kb_a G m3 65536 f3] := hD
  refine lv_aload_n hx hb d_M_head_5 rfl (lv_at hl 0 rfl) ?_
  refine lv_ldc (v := (-804389139)) hx hb hown (ht _ wd_89b26a29) d_M_head_6 ?_
  refine kb_v (wc := [kb_o h 4 [.int T, .ref m1, .int 0, .ref m3, .int 0, .ref m5, .ref m6, .ref m7, .ref m8, .ref m9, .ref m10, .ref m11, .ref m12, .ref m13, .ref m14, .ref m15, .int 0, .int 0, .int 0, .int 0, .int 0], kb_a G m3 65536 f3]) (wr := []) hE hP hD hS [0, 1] [] rfl rfl (by decide) (by decide) (kb_rV (As := [.int (-804389139)]) (rest := []) (wc := [kb_o h 4 [.int T, .ref m1, .int 0, .ref m3, .int 0, .ref m5, .ref m6, .ref m7, .ref m8, .ref m9, .ref m10, .ref m11, .ref m12, .ref m13, .ref m14, .ref m15, .int 0, .int 0, .int 0, .int 0, .int 0], kb_a G m3 65536 f3]) (q0 := 0) ⟨hx, hb, hml, hown, ht⟩ ((c_M_number l G h T m1 m3 m5 m6 m7 m8 m9 m10 m11 m12 m13 m14 m15 0 f3 (-804389139) (by omega)) _) (kb_gV wd_283e8efb wd_3d04b7f3 wd_1b35c4b5 wd_38099713 wd_ce9eaa3f) ⟨rfl, hd_0217c5f0⟩ ⟨(Nat.le_of_ble_eq_true rfl), (Nat.le_of_ble_eq_true rfl)⟩ hE hP hD hS [0, 1] rfl (by decide) rfl rfl rfl hl.1 rfl (Nat.le_of_ble_eq_true rfl) d_M_head_8 ⟨(Nat.le_of_ble_eq_true rfl), (Nat.le_of_ble_eq_true rfl)⟩) (fun uu1 H locs hw hP hD hS => ?_)
  have hP : va_P G.1 kb_cl [kb_o h 4 [.int T, .ref m1, .int 0, .ref m3, .int 4, .ref m5, .ref m6, .ref m7, .ref m8, .ref m9, .ref m10, .ref m11, .ref m12, .ref m13, .ref m14, .ref m15, .int 0, .int 0, .int 0, .int 0, .int 0], kb_a G m3 65536 (uu1.2 0)] H := hP
  have hD : va_D A [kb_o h 4 [.int T, .ref m1, .int 0, .ref m3, .int 4, .ref m5, .ref m6, .ref m7, .ref m8, .ref m9, .ref m10, .ref m11, .ref m12, .ref m13, .ref m14, .ref m15, .int 0, .int 0, .int 0, .int 0, .int 0], kb_a G m3 65536 (uu1.2 0)] := hD
  refine lv_aload_n hx hb d_M_head_11 rfl (lv_at hl 0 rfl) ?_
  refine lv_iload_n hx hb d_M_head_12 rfl (lv_at hl 1 rfl) ?_
  refine kb_v (wc := [kb_o h 4 [.int T, .ref m1, .int 0, .ref m3, .int 4, .ref m5, .ref m6, .ref m7, .ref m8, .ref m9, .ref m10, .ref m11, .ref m12, .ref m13, .ref m14, .ref m15, .int 0, .int 0, .int 0, .int 0, .int 0], kb_a G m3 65536 (uu1.2 0)]) (wr := []) hE hP hD hS [0, 1] [] rfl rfl (by decide) (by decide) (kb_rV (As := [.int 72]) (rest := []) (wc := [kb_o h 4 [.int T, .ref m1, .int 0, .ref m3, .int 4, .ref m5, .ref m6, .ref m7, .ref m8, .ref m9, .ref m10, .ref m11, .ref m12, .ref m13, .ref m14, .ref m15, .int 0, .int 0, .int 0, .int 0, .int 0], kb_a G m3 65536 (uu1.2 0)]) (q0 := 0) ⟨hx, hb, hml, hown, ht⟩ ((c_M_number l G h T m1 m3 m5 m6 m7 m8 m9 m10 m11 m12 m13 m14 m15 4 (uu1.2 0) 72 (by omega)) _) (kb_gV wd_283e8efb wd_3d04b7f3 wd_1b35c4b5 wd_38099713 wd_ce9eaa3f) ⟨rfl, hd_0217c5f0⟩ ⟨(Nat.le_of_ble_eq_true rfl), (Nat.le_of_ble_eq_true rfl)⟩ hE hP hD hS [0, 1] rfl (by decide) rfl rfl rfl hl.1 rfl (Nat.le_of_ble_eq_true rfl) d_M_head_13 ⟨(Nat.le_of_ble_eq_true rfl), (Nat.le_of_ble_eq_true rfl)⟩) (fun uu3 H locs hw hP hD hS => ?_)
  have hP : va_P G.1 kb_cl [kb_o h 4 [.int T, .ref m1, .int 0, .ref m3, .int 8, .ref m5, .ref m6, .ref m7, .ref m8, .ref m9, .ref m10, .ref m11, .ref m12, .ref m13, .ref m14, .ref m15, .int 0, .int 0, .int 0, .int 0, .int 0], kb_a G m3 65536 (uu3.2 0)] H := hP
  have hD : va_D A [kb_o h 4 [.int T, .ref m1, .int 0, .ref m3, .int 8, .ref m5, .ref m6, .ref m7, .ref m8, .ref m9, .ref m10, .ref m11, .ref m12, .ref m13, .ref m14, .ref m15, .int 0, .int 0, .int 0, .int 0, .int 0], kb_a G m3 65536 (uu3.2 0)] := hD
  refine lv_aload_n hx hb d_M_head_16 rfl (lv_at hl 0 rfl) ?_
  refine lv_bipush (v := 56) hx hb d_M_head_17 (by decide) ?_
  refine kb_v (wc := [kb_o h 4 [.int T, .ref m1, .int 0, .ref m3, .int 8, .ref m5, .ref m6, .ref m7, .ref m8, .ref m9, .ref m10, .ref m11, .ref m12, .ref m13, .ref m14, .ref m15, .int 0, .int 0, .int 0, .int 0, .int 0], kb_a G m3 65536 (uu3.2 0)]) (wr := []) hE hP hD hS [0, 1] [] rfl rfl (by decide) (by decide) (kb_rV (As := [.int 56]) (rest := []) (wc := [kb_o h 4 [.int T, .ref m1, .int 0, .ref m3, .int 8, .ref m5, .ref m6, .ref m7, .ref m8, .ref m9, .ref m10, .ref m11, .ref m12, .ref m13, .ref m14, .ref m15, .int 0, .int 0, .int 0, .int 0, .int 0], kb_a G m3 65536 (uu3.2 0)]) (q0 := 0) ⟨hx, hb, hml, hown, ht⟩ ((c_M_number l G h T m1 m3 m5 m6 m7 m8 m9 m10 m11 m12 m13 m14 m15 8 (uu3.2 0) 56 (by omega)) _) (kb_gV wd_283e8efb wd_3d04b7f3 wd_1b35c4b5 wd_38099713 wd_ce9eaa3f) ⟨rfl, hd_0217c5f0⟩ ⟨(Nat.le_of_ble_eq_true rfl), (Nat.le_of_ble_eq_true rfl)⟩ hE hP hD hS [0, 1] rfl (by decide) rfl rfl rfl hl.1 rfl (Nat.le_of_ble_eq_true rfl) d_M_head_19 ⟨(Nat.le_of_ble_eq_true rfl), (Nat.le_of_ble_eq_true rfl)⟩) (fun uu5 H locs hw hP hD hS => ?_)
  have hP : va_P G.1 kb_cl [kb_o h 4 [.int T, .ref m1, .int 0, .ref m3, .int 12, .ref m5, .ref m6, .ref m7, .ref m8, .ref m9, .ref m10, .ref m11, .ref m12, .ref m13, .ref m14, .ref m15, .int 0, .int 0, .int 0, .int 0, .int 0], kb_a G m3 65536 (uu5.2 0)] H := hP
  have hD : va_D A [kb_o h 4 [.int T, .ref m1, .int 0, .ref m3, .int 12, .ref m5, .ref m6, .ref m7, .ref m8, .ref m9, .ref m10, .ref m11, .ref m12, .ref m13, .ref m14, .ref m15, .int 0, .int 0, .int 0, .int 0, .int 0], kb_a G m3 65536 (uu5.2 0)] := hD
  refine lv_aload_n hx hb d_M_head_22 rfl (lv_at hl 0 rfl) ?_
  refine lv_bipush (v := 56) hx hb d_M_head_23 (by decide) ?_
  refine lv_iload_n hx hb d_M_head_25 rfl (lv_at hl 2 rfl) ?_
  refine lv_iadd hx hb d_M_head_26 ?_
  refine kb_top (y := 72) (by decide) ?_
  refine kb_v (wc := [kb_o h 4 [.int T, .ref m1, .int 0, .ref m3, .int 12, .ref m5, .ref m6, .ref m7, .ref m8, .ref m9, .ref m10, .ref m11, .ref m12, .ref m13, .ref m14, .ref m15, .int 0, .int 0, .int 0, .int 0, .int 0], kb_a G m3 65536 (uu5.2 0)]) (wr := []) hE hP hD hS [0, 1] [] rfl rfl (by decide) (by decide) (kb_rV (As := [.int 72]) (rest := []) (wc := [kb_o h 4 [.int T, .ref m1, .int 0, .ref m3, .int 12, .ref m5, .ref m6, .ref m7, .ref m8, .ref m9, .ref m10, .ref m11, .ref m12, .ref m13, .ref m14, .ref m15, .int 0, .int 0, .int 0, .int 0, .int 0], kb_a G m3 65536 (uu5.2 0)]) (q0 := 0) ⟨hx, hb, hml, hown, ht⟩ ((c_M_number l G h T m1 m3 m5 m6 m7 m8 m9 m10 m11 m12 m13 m14 m15 12 (uu5.2 0) 72 (by omega)) _) (kb_gV wd_283e8efb wd_3d04b7f3 wd_1b35c4b5 wd_38099713 wd_ce9eaa3f) ⟨rfl, hd_0217c5f0⟩ ⟨(Nat.le_of_ble_eq_true rfl), (Nat.le_of_ble_eq_true rfl)⟩ hE hP hD hS [0, 1] rfl (by decide) rfl rfl rfl hl.1 rfl (Nat.le_of_ble_eq_true rfl) d_M_head_27 ⟨(Nat.le_of_ble_eq_true rfl), (Nat.le_of_ble_eq_true rfl)⟩) (fun uu7 H locs hw hP hD hS => ?_)
  have hP : va_P G.1 kb_cl [kb_o h 4 [.int T, .ref m1, .int 0, .ref m3, .int 16, .ref m5, .ref m6, .ref m7, .ref m8, .ref m9, .ref m10, .ref m11, .ref m12, .ref m13, .ref m14, .ref m15, .int 0, .int 0, .int 0, .int 0, .int 0], kb_a G m3 65536 (uu7.2 0)] H := hP
  have hD : va_D A [kb_o h 4 [.int T, .ref m1, .int 0, .ref m3, .int 16, .ref m5, .ref m6, .ref m7, .ref m8, .ref m9, .ref m10, .ref m11, .ref m12, .ref m13, .ref m14, .ref m15, .int 0, .int 0, .int 0, .int 0, .int 0], kb_a G m3 65536 (uu7.2 0)] := hD
  refine lv_aload_n hx hb d_M_head_30 rfl (lv_at hl 0 rfl) ?_
  refine lv_bipush (v := 40) hx hb d_M_head_31 (by decide) ?_
  refine kb_v (wc := [kb_o h 4 [.int T, .ref m1, .int 0, .ref m3, .int 16, .ref m5, .ref m6, .ref m7, .ref m8, .ref m9, .ref m10, .ref m11, .ref m12, .ref m13, .ref m14, .ref m15, .int 0, .int 0, .int 0, .int 0, .int 0], kb_a G m3 65536 (uu7.2 0)]) (wr := []) hE hP hD hS [0, 1] [] rfl rfl (by decide) (by decide) (kb_rV (As := [.int 40]) (rest := []) (wc := [kb_o h 4 [.int T, .ref m1, .int 0, .ref m3, .int 16, .ref m5, .ref m6, .ref m7, .ref m8, .ref m9, .ref m10, .ref m11, .ref m12, .ref m13, .ref m14, .ref m15, .int 0, .int 0, .int 0, .int 0, .int 0], kb_a G m3 65536 (uu7.2 0)]) (q0 := 0) ⟨hx, hb, hml, hown, ht⟩ ((c_M_number l G h T m1 m3 m5 m6 m7 m8 m9 m10 m11 m12 m13 m14 m15 16 (uu7.2 0) 40 (by omega)) _) (kb_gV wd_283e8efb wd_3d04b7f3 wd_1b35c4b5 wd_38099713 wd_ce9eaa3f) ⟨rfl, hd_0217c5f0⟩ ⟨(Nat.le_of_ble_eq_true rfl), (Nat.le_of_ble_eq_true rfl)⟩ hE hP hD hS [0, 1] rfl (by decide) rfl rfl rfl hl.1 rfl (Nat.le_of_ble_eq_true rfl) d_M_head_33 ⟨(Nat.le_of_ble_eq_true rfl), (Nat.le_of_ble_eq_true rfl)⟩) (fun uu9 H locs hw hP hD hS => ?_)
  have hP : va_P G.1 kb_cl [kb_o h 4 [.int T, .ref m1, .int 0, .ref m3, .int 20, .ref m5, .ref m6, .ref m7, .ref m8, .ref m9, .ref m10, .ref m11, .ref m12, .ref m13, .ref m14, .ref m15, .int 0, .int 0, .int 0, .int 0, .int 0], kb_a G m3 65536 (uu9.2 0)] H := hP
  have hD : va_D A [kb_o h 4 [.int T, .ref m1, .int 0, .ref m3, .int 20, .ref m5, .ref m6, .ref m7, .ref m8, .ref m9, .ref m10, .ref m11, .ref m12, .ref m13, .ref m14, .ref m15, .int 0, .int 0, .int 0, .int 0, .int 0], kb_a G m3 65536 (uu9.2 0)] := hD
  refine lv_aload_n hx hb d_M_head_36 rfl (lv_at hl 0 rfl) ?_
  refine lv_bipush (v := 17) hx hb d_M_head_37 (by decide) ?_
  refine kb_v (wc := [kb_o h 4 [.int T, .ref m1, .int 0, .ref m3, .int 20, .ref m5, .ref m6, .ref m7, .ref m8, .ref m9, .ref m10, .ref m11, .ref m12, .ref m13, .ref m14, .ref m15, .int 0, .int 0, .int 0, .int 0, .int 0], kb_a G m3 65536 (uu9.2 0)]) (wr := []) hE hP hD hS [0, 1] [] rfl rfl (by decide) (by decide) (kb_rV (As := [.int 17]) (rest := []) (wc := [kb_o h 4 [.int T, .ref m1, .int 0, .ref m3, .int 20, .ref m5, .ref m6, .ref m7, .ref m8, .ref m9, .ref m10, .ref m11, .ref m12, .ref m13, .ref m14, .ref m15, .int 0, .int 0, .int 0, .int 0, .int 0], kb_a G m3 65536 (uu9.2 0)]) (q0 := 0) ⟨hx, hb, hml, hown, ht⟩ ((c_M_number l G h T m1 m3 m5 m6 m7 m8 m9 m10 m11 m12 m13 m14 m15 20 (uu9.2 0) 17 (by omega)) _) (kb_gV wd_283e8efb wd_3d04b7f3 wd_1b35c4b5 wd_38099713 wd_ce9eaa3f) ⟨rfl, hd_0217c5f0⟩ ⟨(Nat.le_of_ble_eq_true rfl), (Nat.le_of_ble_eq_true rfl)⟩ hE hP hD hS [0, 1] rfl (by decide) rfl rfl rfl hl.1 rfl (Nat.le_of_ble_eq_true rfl) d_M_head_39 ⟨(Nat.le_of_ble_eq_true rfl), (Nat.le_of_ble_eq_true rfl)⟩) (fun uu11 H locs hw hP hD hS => ?_)
  have hP : va_P G.1 kb_cl [kb_o h 4 [.int T, .ref m1, .int 0, .ref m3, .int 24, .ref m5, .ref m6, .ref m7, .ref m8, .ref m9, .ref m10, .ref m11, .ref m12, .ref m13, .ref m14, .ref m15, .int 0, .int 0, .int 0, .int 0, .int 0], kb_a G m3 65536 (uu11.2 0)] H := hP
  have hD : va_D A [kb_o h 4 [.int T, .ref m1, .int 0, .ref m3, .int 24, .ref m5, .ref m6, .ref m7, .ref m8, .ref m9, .ref m10, .ref m11, .ref m12, .ref m13, .ref m14, .ref m15, .int 0, .int 0, .int 0, .int 0, .int 0], kb_a G m3 65536 (uu11.2 0)] := hD
  refine lv_aload_n hx hb d_M_head_42 rfl (lv_at hl 0 rfl) ?_
  refine lv_bipush (v := 16) hx hb d_M_head_43 (by decide) ?_
  refine kb_v (wc := [kb_o h 4 [.int T, .ref m1, .int 0, .ref m3, .int 24, .ref m5, .ref m6, .ref m7, .ref m8, .ref m9, .ref m10, .ref m11, .ref m12, .ref m13, .ref m14, .ref m15, .int 0, .int 0, .int 0, .int 0, .int 0], kb_a G m3 65536 (uu11.2 0)]) (wr := []) hE hP hD hS [0, 1] [] rfl rfl (by decide) (by decide) (kb_rV (As := [.int 16]) (rest := []) (wc := [kb_o h 4 [.int T, .ref m1, .int 0, .ref m3, .int 24, .ref m5, .ref m6, .ref m7, .ref m8, .ref m9, .ref m10, .ref m11, .ref m12, .ref m13, .ref m14, .ref m15, .int 0, .int 0, .int 0, .int 0, .int 0], kb_a G m3 65536 (uu11.2 0)]) (q0 := 0) ⟨hx, hb, hml, hown, ht⟩ ((c_M_number l G h T m1 m3 m5 m6 m7 m8 m9 m10 m11 m12 m13 m14 m15 24 (uu11.2 0) 16 (by omega)) _) (kb_gV wd_283e8efb wd_3d04b7f3 wd_1b35c4b5 wd_38099713 wd_ce9eaa3f) ⟨rfl, hd_0217c5f0⟩ ⟨(Nat.le_of_ble_eq_true rfl), (Nat.le_of_ble_eq_true rfl)⟩ hE hP hD hS [0, 1] rfl (by decide) rfl rfl rfl hl.1 rfl (Nat.le_of_ble_eq_true rfl) d_M_head_45 ⟨(Nat.le_of_ble_eq_true rfl), (Nat.le_of_ble_eq_true rfl)⟩) (fun uu13 H locs hw hP hD hS => ?_)
  have hP : va_P G.1 kb_cl [kb_o h 4 [.int T, .ref m1, .int 0, .ref m3, .int 28, .ref m5, .ref m6, .ref m7, .ref m8, .ref m9, .ref m10, .ref m11, .ref m12, .ref m13, .ref m14, .ref m15, .int 0, .int 0, .int 0, .int 0, .int 0], kb_a G m3 65536 (uu13.2 0)] H := hP
  have hD : va_D A [kb_o h 4 [.int T, .ref m1, .int 0, .ref m3, .int 28, .ref m5, .ref m6, .ref m7, .ref m8, .ref m9, .ref m10, .ref m11, .ref m12, .ref m13, .ref m14, .ref m15, .int 0, .int 0, .int 0, .int 0, .int 0], kb_a G m3 65536 (uu13.2 0)] := hD
  refine lv_aload_n hx hb d_M_head_48 rfl (lv_at hl 0 rfl) ?_
  refine lv_iconst (v := 0) hx hb d_M_head_49 (by decide) ?_
  refine kb_v (wc := [kb_o h 4 [.int T, .ref m1, .int 0, .ref m3, .int 28, .ref m5, .ref m6, .ref m7, .ref m8, .ref m9, .ref m10, .ref m11, .ref m12, .ref m13, .ref m14, .ref m15, .int 0, .int 0, .int 0, .int 0, .int 0], kb_a G m3 65536 (uu13.2 0)]) (wr := []) hE hP hD hS [0, 1] [] rfl rfl (by decide) (by decide) (kb_rV (As := [.int 0]) (rest := []) (wc := [kb_o h 4 [.int T, .ref m1, .int 0, .ref m3, .int 28, .ref m5, .ref m6, .ref m7, .ref m8, .ref m9, .ref m10, .ref m11, .ref m12, .ref m13, .ref m14, .ref m15, .int 0, .int 0, .int 0, .int 0, .int 0], kb_a G m3 65536 (uu13.2 0)]) (q0 := 0) ⟨hx, hb, hml, hown, ht⟩ ((c_M_number l G h T m1 m3 m5 m6 m7 m8 m9 m10 m11 m12 m13 m14 m15 28 (uu13.2 0) 0 (by omega)) _) (kb_gV wd_283e8efb wd_3d04b7f3 wd_1b35c4b5 wd_38099713 wd_ce9eaa3f) ⟨rfl, hd_0217c5f0⟩ ⟨(Nat.le_of_ble_eq_true rfl), (Nat.le_of_ble_eq_true rfl)⟩ hE hP hD hS [0, 1] rfl (by decide) rfl rfl rfl hl.1 rfl (Nat.le_of_ble_eq_true rfl) d_M_head_50 ⟨(Nat.le_of_ble_eq_true rfl), (Nat.le_of_ble_eq_true rfl)⟩) (fun uu15 H locs hw hP hD hS => ?_)
  have hP : va_P G.1 kb_cl [kb_o h 4 [.int T, .ref m1, .int 0, .ref m3, .int 32, .ref m5, .ref m6, .ref m7, .ref m8, .ref m9, .ref m10, .ref m11, .ref m12, .ref m13, .ref m14, .ref m15, .int 0, .int 0, .int 0, .int 0, .int 0], kb_a G m3 65536 (uu15.2 0)] H := hP
  have hD : va_D A [kb_o h 4 [.int T, .ref m1, .int 0, .ref m3, .int 32, .ref m5, .ref m6, .ref m7, .ref m8, .ref m9, .ref m10, .ref m11, .ref m12, .ref m13, .ref m14, .ref m15, .int 0, .int 0, .int 0, .int 0, .int 0], kb_a G m3 65536 (uu15.2 0)] := hD
  refine lv_aload_n hx hb d_M_head_53 rfl (lv_at hl 0 rfl) ?_
  refine lv_iload_n hx hb d_M_head_54 rfl (lv_at hl 1 rfl) ?_
  refine lv_bipush (v := 56) hx hb d_M_head_55 (by decide) ?_
  refine lv_isub hx hb d_M_head_57 ?_
  refine kb_top (y := 16) (by decide) ?_
  refine lv_iload_n hx hb d_M_head_58 rfl (lv_at hl 2 rfl) ?_
  refine lv_isub hx hb d_M_head_59 ?_
  refine kb_top (y := 0) (by decide) ?_
  refine kb_v (wc := [kb_o h 4 [.int T, .ref m1, .int 0, .ref m3, .int 32, .ref m5, .ref m6, .ref m7, .ref m8, .ref m9, .ref m10, .ref m11, .ref m12, .ref m13, .ref m14, .ref m15, .int 0, .int 0, .int 0, .int 0, .int 0], kb_a G m3 65536 (uu15.2 0)]) (wr := []) hE hP hD hS [0, 1] [] rfl rfl (by decide) (by decide) (kb_rV (As := [.int 0]) (rest := []) (wc := [kb_o h 4 [.int T, .ref m1, .int 0, .ref m3, .int 32, .ref m5, .ref m6, .ref m7, .ref m8, .ref m9, .ref m10, .ref m11, .ref m12, .ref m13, .ref m14, .ref m15, .int 0, .int 0, .int 0, .int 0, .int 0], kb_a G m3 65536 (uu15.2 0)]) (q0 := 0) ⟨hx, hb, hml, hown, ht⟩ ((c_M_number l G h T m1 m3 m5 m6 m7 m8 m9 m10 m11 m12 m13 m14 m15 32 (uu15.2 0) 0 (by omega)) _) (kb_gV wd_283e8efb wd_3d04b7f3 wd_1b35c4b5 wd_38099713 wd_ce9eaa3f) ⟨rfl, hd_0217c5f0⟩ ⟨(Nat.le_of_ble_eq_true rfl), (Nat.le_of_ble_eq_true rfl)⟩ hE hP hD hS [0, 1] rfl (by decide) rfl rfl rfl hl.1 rfl (Nat.le_of_ble_eq_true rfl) d_M_head_60 ⟨(Nat.le_of_ble_eq_true rfl), (Nat.le_of_ble_eq_true rfl)⟩) (fun uu17 H locs hw hP hD hS => ?_)
  have hP : va_P G.1 kb_cl [kb_o h 4 [.int T, .ref m1, .int 0, .ref m3, .int 36, .ref m5, .ref m6, .ref m7, .ref m8, .ref m9, .ref m10, .ref m11, .ref m12, .ref m13, .ref m14, .ref m15, .int 0, .int 0, .int 0, .int 0, .int 0], kb_a G m3 65536 (uu17.2 0)] H := hP
  have hD : va_D A [kb_o h 4 [.int T, .ref m1, .int 0, .ref m3, .int 36, .ref m5, .ref m6, .ref m7, .ref m8, .ref m9, .ref m10, .ref m11, .ref m12, .ref m13, .ref m14, .ref m15, .int 0, .int 0, .int 0, .int 0, .int 0], kb_a G m3 65536 (uu17.2 0)] := hD
  refine lv_aload_n hx hb d_M_head_63 rfl (lv_at hl 0 rfl) ?_
  refine lv_iload_n hx hb d_M_head_64 rfl (lv_at hl 2 rfl) ?_
  refine kb_v (wc := [kb_o h 4 [.int T, .ref m1, .int 0, .ref m3, .int 36, .ref m5, .ref m6, .ref m7, .ref m8, .ref m9, .ref m10, .ref m11, .ref m12, .ref m13, .ref m14, .ref m15, .int 0, .int 0, .int 0, .int 0, .int 0], kb_a G m3 65536 (uu17.2 0)]) (wr := []) hE hP hD hS [0, 1] [] rfl rfl (by decide) (by decide) (kb_rV (As := [.int 16]) (rest := []) (wc := [kb_o h 4 [.int T, .ref m1, .int 0, .ref m3, .int 36, .ref m5, .ref m6, .ref m7, .ref m8, .ref m9, .ref m10, .ref m11, .ref m12, .ref m13, .ref m14, .ref m15, .int 0, .int 0, .int 0, .int 0, .int 0], kb_a G m3 65536 (uu17.2 0)]) (q0 := 0) ⟨hx, hb, hml, hown, ht⟩ ((c_M_number l G h T m1 m3 m5 m6 m7 m8 m9 m10 m11 m12 m13 m14 m15 36 (uu17.2 0) 16 (by omega)) _) (kb_gV wd_283e8efb wd_3d04b7f3 wd_1b35c4b5 wd_38099713 wd_ce9eaa3f) ⟨rfl, hd_0217c5f0⟩ ⟨(Nat.le_of_ble_eq_true rfl), (Nat.le_of_ble_eq_true rfl)⟩ hE hP hD hS [0, 1] rfl (by decide) rfl rfl rfl hl.1 rfl (Nat.le_of_ble_eq_true rfl) d_M_head_65 ⟨(Nat.le_of_ble_eq_true rfl), (Nat.le_of_ble_eq_true rfl)⟩) (fun uu19 H locs hw hP hD hS => ?_)
  have hP : va_P G.1 kb_cl [kb_o h 4 [.int T, .ref m1, .int 0, .ref m3, .int 40, .ref m5, .ref m6, .ref m7, .ref m8, .ref m9, .ref m10, .ref m11, .ref m12, .ref m13, .ref m14, .ref m15, .int 0, .int 0, .int 0, .int 0, .int 0], kb_a G m3 65536 (uu19.2 0)] H := hP
  have hD : va_D A [kb_o h 4 [.int T, .ref m1, .int 0, .ref m3, .int 40, .ref m5, .ref m6, .ref m7, .ref m8, .ref m9, .ref m10, .ref m11, .ref m12, .ref m13, .ref m14, .ref m15, .int 0, .int 0, .int 0, .int 0, .int 0], kb_a G m3 65536 (uu19.2 0)] := hD
  refine lv_iconst (v := 0) hx hb d_M_head_68 (by decide) ?_
  refine lv_istore_n (lv' := [(3, .int 0), (0, .ref h), (1, .int 72), (2, .int 16)]) hx hb d_M_head_69 rfl hl (by decide) rfl (fun ls hl => ?_)
  refine lv_iload_n hx hb d_M_head_70 rfl (lv_at hl 0 rfl) ?_
  refine lv_iconst (v := 4) hx hb d_M_head_71 (by decide) ?_
  refine lv_icmp_ge (tgt := 86) hx hb d_M_head_72 (by decide) (fun c9 => absurd c9 (by decide)) (fun c9 => ?_)
  refine lv_aload_n hx hb d_M_head_75 rfl (lv_at hl 1 rfl) ?_
  refine lv_iconst (v := 0) hx hb d_M_head_76 (by decide) ?_
  refine kb_v (wc := [kb_o h 4 [.int T, .ref m1, .int 0, .ref m3, .int 40, .ref m5, .ref m6, .ref m7, .ref m8, .ref m9, .ref m10, .ref m11, .ref m12, .ref m13, .ref m14, .ref m15, .int 0, .int 0, .int 0, .int 0, .int 0], kb_a G m3 65536 (uu19.2 0)]) (wr := []) hE hP hD hS [0, 1] [] rfl rfl (by decide) (by decide) (kb_rV (As := [.int 0]) (rest := []) (wc := [kb_o h 4 [.int T, .ref m1, .int 0, .ref m3, .int 40, .ref m5, .ref m6, .ref m7, .ref m8, .ref m9, .ref m10, .ref m11, .ref m12, .ref m13, .ref m14, .ref m15, .int 0, .int 0, .int 0, .int 0, .int 0], kb_a G m3 65536 (uu19.2 0)]) (q0 := 0) ⟨hx, hb, hml, hown, ht⟩ ((c_M_number l G h T m1 m3 m5 m6 m7 m8 m9 m10 m11 m12 m13 m14 m15 40 (uu19.2 0) 0 (by omega)) _) (kb_gV wd_283e8efb wd_3d04b7f3 wd_1b35c4b5 wd_38099713 wd_ce9eaa3f) ⟨rfl, hd_0217c5f0⟩ ⟨(Nat.le_of_ble_eq_true rfl), (Nat.le_of_ble_eq_true rfl)⟩ hE hP hD hS [0, 1] rfl (by decide) rfl rfl rfl hl.1 rfl (Nat.le_of_ble_eq_true rfl) d_M_head_77 ⟨(Nat.le_of_ble_eq_true rfl), (Nat.le_of_ble_eq_true rfl)⟩) (fun uu21 H locs hw hP hD hS => ?_)
  have hP : va_P G.1 kb_cl [kb_o h 4 [.int T, .ref m1, .int 0, .ref m3, .int 44, .ref m5, .ref m6, .ref m7, .ref m8, .ref m9, .ref m10, .ref m11, .ref m12, .ref m13, .ref m14, .ref m15, .int 0, .int 0, .int 0, .int 0, .int 0], kb_a G m3 65536 (uu21.2 0)] H := hP
  have hD : va_D A [kb_o h 4 [.int T, .ref m1, .int 0, .ref m3, .int 44, .ref m5, .ref m6, .ref m7, .ref m8, .ref m9, .ref m10, .ref m11, .ref m12, .ref m13, .ref m14, .ref m15, .int 0, .int 0, .int 0, .int 0, .int 0], kb_a G m3 65536 (uu21.2 0)] := hD
  refine lv_iinc (v := 1) (lv' := [(3, .int 1), (0, .ref h), (1, .int 72), (2, .int 16)]) hx hb d_M_head_80 hl (k := 0) rfl (by decide) (by decide) rfl (fun ls hl => ?_)
  refine lv_goto (tgt := 70) hx hb d_M_head_83 (by decide) ?_
  refine lv_iload_n hx hb d_M_head_70 rfl (lv_at hl 0 rfl) ?_
  refine lv_iconst (v := 4) hx hb d_M_head_71 (by decide) ?_
  refine lv_icmp_ge (tgt := 86) hx hb d_M_head_72 (by decide) (fun c9 => absurd c9 (by decide)) (fun c9 => ?_)
  refine lv_aload_n hx hb d_M_head_75 rfl (lv_at hl 1 rfl) ?_
  refine lv_iconst (v := 0) hx hb d_M_head_76 (by decide) ?_
  refine kb_v (wc := [kb_o h 4 [.int T, .ref m1, .int 0, .ref m3, .int 44, .ref m5, .ref m6, .ref m7, .ref m8, .ref m9, .ref m10, .ref m11, .ref m12, .ref m13, .ref m14, .ref m15, .int 0, .int 0, .int 0, .int 0, .int 0], kb_a G m3 65536 (uu21.2 0)]) (wr := []) hE hP hD hS [0, 1] [] rfl rfl (by decide) (by decide) (kb_rV (As := [.int 0]) (rest := []) (wc := [kb_o h 4 [.int T, .ref m1, .int 0, .ref m3, .int 44, .ref m5, .ref m6, .ref m7, .ref m8, .ref m9, .ref m10, .ref m11, .ref m12, .ref m13, .ref m14, .ref m15, .int 0, .int 0, .int 0, .int 0, .int 0], kb_a G m3 65536 (uu21.2 0)]) (q0 := 0) ⟨hx, hb, hml, hown, ht⟩ ((c_M_number l G h T m1 m3 m5 m6 m7 m8 m9 m10 m11 m12 m13 m14 m15 44 (uu21.2 0) 0 (by omega)) _) (kb_gV wd_283e8efb wd_3d04b7f3 wd_1b35c4b5 wd_38099713 wd_ce9eaa3f) ⟨rfl, hd_0217c5f0⟩ ⟨(Nat.le_of_ble_eq_true rfl), (Nat.le_of_ble_eq_true rfl)⟩ hE hP hD hS [0, 1] rfl (by decide) rfl rfl rfl hl.1 rfl (Nat.le_of_ble_eq_true rfl) d_M_head_77 ⟨(Nat.le_of_ble_eq_true rfl), (Nat.le_of_ble_eq_true rfl)⟩) (fun uu23 H locs hw hP hD hS => ?_)
  have hP : va_P G.1 kb_cl [kb_o h 4 [.int T, .ref m1, .int 0, .ref m3, .int 48, .ref m5, .ref m6, .ref m7, .ref m8, .ref m9, .ref m10, .ref m11, .ref m12, .ref m13, .ref m14, .ref m15, .int 0, .int 0, .int 0, .int 0, .int 0], kb_a G m3 65536 (uu23.2 0)] H := hP
  have hD : va_D A [kb_o h 4 [.int T, .ref m1, .int 0, .ref m3, .int 48, .ref m5, .ref m6, .ref m7, .ref m8, .ref m9, .ref m10, .ref m11, .ref m12, .ref m13, .ref m14, .ref m15, .int 0, .int 0, .int 0, .int 0, .int 0], kb_a G m3 65536 (uu23.2 0)] := hD
  refine lv_iinc (v := 2) (lv' := [(3, .int 2), (0, .ref h), (1, .int 72), (2, .int 16)]) hx hb d_M_head_80 hl (k := 0) rfl (by decide) (by decide) rfl (fun ls hl => ?_)
  refine lv_goto (tgt := 70) hx hb d_M_head_83 (by decide) ?_
  refine lv_iload_n hx hb d_M_head_70 rfl (lv_at hl 0 rfl) ?_
  refine lv_iconst (v := 4) hx hb d_M_head_71 (by decide) ?_
  refine lv_icmp_ge (tgt := 86) hx hb d_M_head_72 (by decide) (fun c9 => absurd c9 (by decide)) (fun c9 => ?_)
  refine lv_aload_n hx hb d_M_head_75 rfl (lv_at hl 1 rfl) ?_
  refine lv_iconst (v := 0) hx hb d_M_head_76 (by decide) ?_
  refine kb_v (wc := [kb_o h 4 [.int T, .ref m1, .int 0, .ref m3, .int 48, .ref m5, .ref m6, .ref m7, .ref m8, .ref m9, .ref m10, .ref m11, .ref m12, .ref m13, .ref m14, .ref m15, .int 0, .int 0, .int 0, .int 0, .int 0], kb_a G m3 65536 (uu23.2 0)]) (wr := []) hE hP hD hS [0, 1] [] rfl rfl (by decide) (by decide) (kb_rV (As := [.int 0]) (rest := []) (wc := [kb_o h 4 [.int T, .ref m1, .int 0, .ref m3, .int 48, .ref m5, .ref m6, .ref m7, .ref m8, .ref m9, .ref m10, .ref m11, .ref m12, .ref m13, .ref m14, .ref m15, .int 0, .int 0, .int 0, .int 0, .int 0], kb_a G m3 65536 (uu23.2 0)]) (q0 := 0) ⟨hx, hb, hml, hown, ht⟩ ((c_M_number l G h T m1 m3 m5 m6 m7 m8 m9 m10 m11 m12 m13 m14 m15 48 (uu23.2 0) 0 (by omega)) _) (kb_gV wd_283e8efb wd_3d04b7f3 wd_1b35c4b5 wd_38099713 wd_ce9eaa3f) ⟨rfl, hd_0217c5f0⟩ ⟨(Nat.le_of_ble_eq_true rfl), (Nat.le_of_ble_eq_true rfl)⟩ hE hP hD hS [0, 1] rfl (by decide) rfl rfl rfl hl.1 rfl (Nat.le_of_ble_eq_true rfl) d_M_head_77 ⟨(Nat.le_of_ble_eq_true rfl), (Nat.le_of_ble_eq_true rfl)⟩) (fun uu25 H locs hw hP hD hS => ?_)
  have hP : va_P G.1 kb_cl [kb_o h 4 [.int T, .ref m1, .int 0, .ref m3, .int 52, .ref m5, .ref m6, .ref m7, .ref m8, .ref m9, .ref m10, .ref m11, .ref m12, .ref m13, .ref m14, .ref m15, .int 0, .int 0, .int 0, .int 0, .int 0], kb_a G m3 65536 (uu25.2 0)] H := hP
  have hD : va_D A [kb_o h 4 [.int T, .ref m1, .int 0, .ref m3, .int 52, .ref m5, .ref m6, .ref m7, .ref m8, .ref m9, .ref m10, .ref m11, .ref m12, .ref m13, .ref m14, .ref m15, .int 0, .int 0, .int 0, .int 0, .int 0], kb_a G m3 65536 (uu25.2 0)] := hD
  refine lv_iinc (v := 3) (lv' := [(3, .int 3), (0, .ref h), (1, .int 72), (2, .int 16)]) hx hb d_M_head_80 hl (k := 0) rfl (by decide) (by decide) rfl (fun ls hl => ?_)
  refine lv_goto (tgt := 70) hx hb d_M_head_83 (by decide) ?_
  refine lv_iload_n hx hb d_M_head_70 rfl (lv_at hl 0 rfl) ?_
  refine lv_iconst (v := 4) hx hb d_M_head_71 (by decide) ?_
  refine lv_icmp_ge (tgt := 86) hx hb d_M_head_72 (by decide) (fun c9 => absurd c9 (by decide)) (fun c9 => ?_)
  refine lv_aload_n hx hb d_M_head_75 rfl (lv_at hl 1 rfl) ?_
  refine lv_iconst (v := 0) hx hb d_M_head_76 (by decide) ?_
  refine kb_v (wc := [kb_o h 4 [.int T, .ref m1, .int 0, .ref m3, .int 52, .ref m5, .ref m6, .ref m7, .ref m8, .ref m9, .ref m10, .ref m11, .ref m12, .ref m13, .ref m14, .ref m15, .int 0, .int 0, .int 0, .int 0, .int 0], kb_a G m3 65536 (uu25.2 0)]) (wr := []) hE hP hD hS [0, 1] [] rfl rfl (by decide) (by decide) (kb_rV (As := [.int 0]) (rest := []) (wc := [kb_o h 4 [.int T, .ref m1, .int 0, .ref m3, .int 52, .ref m5, .ref m6, .ref m7, .ref m8, .ref m9, .ref m10, .ref m11, .ref m12, .ref m13, .ref m14, .ref m15, .int 0, .int 0, .int 0, .int 0, .int 0], kb_a G m3 65536 (uu25.2 0)]) (q0 := 0) ⟨hx, hb, hml, hown, ht⟩ ((c_M_number l G h T m1 m3 m5 m6 m7 m8 m9 m10 m11 m12 m13 m14 m15 52 (uu25.2 0) 0 (by omega)) _) (kb_gV wd_283e8efb wd_3d04b7f3 wd_1b35c4b5 wd_38099713 wd_ce9eaa3f) ⟨rfl, hd_0217c5f0⟩ ⟨(Nat.le_of_ble_eq_true rfl), (Nat.le_of_ble_eq_true rfl)⟩ hE hP hD hS [0, 1] rfl (by decide) rfl rfl rfl hl.1 rfl (Nat.le_of_ble_eq_true rfl) d_M_head_77 ⟨(Nat.le_of_ble_eq_true rfl), (Nat.le_of_ble_eq_true rfl)⟩) (fun uu27 H locs hw hP hD hS => ?_)
  have hP : va_P G.1 kb_cl [kb_o h 4 [.int T, .ref m1, .int 0, .ref m3, .int 56, .ref m5, .ref m6, .ref m7, .ref m8, .ref m9, .ref m10, .ref m11, .ref m12, .ref m13, .ref m14, .ref m15, .int 0, .int 0, .int 0, .int 0, .int 0], kb_a G m3 65536 (uu27.2 0)] H := hP
  have hD : va_D A [kb_o h 4 [.int T, .ref m1, .int 0, .ref m3, .int 56, .ref m5, .ref m6, .ref m7, .ref m8, .ref m9, .ref m10, .ref m11, .ref m12, .ref m13, .ref m14, .ref m15, .int 0, .int 0, .int 0, .int 0, .int 0], kb_a G m3 65536 (uu27.2 0)] := hD
  refine lv_iinc (v := 4) (lv' := [(3, .int 4), (0, .ref h), (1, .int 72), (2, .int 16)]) hx hb d_M_head_80 hl (k := 0) rfl (by decide) (by decide) rfl (fun ls hl => ?_)
  refine lv_goto (tgt := 70) hx hb d_M_head_83 (by decide) ?_
  refine lv_iload_n hx hb d_M_head_70 rfl (lv_at hl 0 rfl) ?_
  refine lv_iconst (v := 4) hx hb d_M_head_71 (by decide) ?_
  refine lv_icmp_ge (tgt := 86) hx hb d_M_head_72 (by decide) (fun c9 => ?_) (fun c9 => absurd (by decide) c9)
  exact kb_retv (kb_l [], kb_f [uu27.2 0]) hx hb hr hlocks hE hP hD hS [0, 1] rfl (by decide) rfl trivial (Nat.le_of_ble_eq_true rfl) (Nat.le_of_ble_eq_true rfl) d_M_head_86

set_option maxHeartbeats 4000000 in
set_option maxRecDepth 100000 in
theorem c_M_lay (l : Launch) (G : kb_G) (h : Nat) (T : Int32) (m1 : Nat) (m3 : Nat) (m5 : Nat) (m6 : Nat) (m7 : Nat) (m8 : Nat) (m9 : Nat) (m10 : Nat) (m11 : Nat) (m12 : Nat) (m13 : Nat) (m14 : Nat) (m15 : Nat) (f3 : Nat → Int32) : kb_ci l G ⟨"TreePressModel", "lay", "()I"⟩ prog_6_method_26_code 3 (some .int) 5 0 0 [.ref h] [kb_o h 4 [.int T, .ref m1, .int 0, .ref m3, .int 0, .ref m5, .ref m6, .ref m7, .ref m8, .ref m9, .ref m10, .ref m11, .ref m12, .ref m13, .ref m14, .ref m15, .int 0, .int 0, .int 0, .int 0, .int 0], kb_a G m3 65536 f3, kb_a G m5 2 (upd (fun _ => 0) 0 1), kb_a G m6 2 (upd (fun _ => 0) 0 0), kb_a G m8 256 (upd (fun _ => 0) 0 (-1)), kb_a G m9 256 (upd (fun _ => 0) 0 0), kb_a G m10 256 (upd (fun _ => 0) 0 0)] (fun r u => r = 72) (fun u => [kb_o h 4 [.int 0, .ref m1, .int 0, .ref m3, .int 72, .ref m5, .ref m6, .ref m7, .ref m8, .ref m9, .ref m10, .ref m11, .ref m12, .ref m13, .ref m14, .ref m15, .int 0, .int 0, .int 0, .int 0, .int 0]]) := by
  intro sz
  refine kb_body (QQ := fun A => kb_Qi G A (fun r u => r = 72) (fun u => [kb_o h 4 [.int 0, .ref m1, .int 0, .ref m3, .int 72, .ref m5, .ref m6, .ref m7, .ref m8, .ref m9, .ref m10, .ref m11, .ref m12, .ref m13, .ref m14, .ref m15, .int 0, .int 0, .int 0, .int 0, .int 0]])) (by decide) (Nat.le_of_ble_eq_true rfl) ?_
  intro p e s m below meth c A B ls hl
  obtain ⟨hx, hb, hr, hml, hlocks, hin, hown, ht, hE, hP, hD, hS⟩ := B
  have hl : lv_has ls 3 [(0, .ref h)] := hl
  have hP0 := hP
  obtain ⟨H, hHe⟩ : ∃ H, H = s.heap := ⟨_, rfl⟩
  rw [← hHe] at hP
  have hS : va_S A s.heap H [] := by rw [hHe]; exact hS
  refine kb_at hHe ?_
  clear hHe
  refine lv_aload_n hx hb d_M_lay_0 rfl (lv_at hl 0 rfl) ?_
  refine lv_iconst (v := 0) hx hb d_M_lay_1 (by decide) ?_
  refine va_put (D := G.1) (ci := 4) (v := .int 0) (ty := .int) (C := "TreePressModel") (T := kb_F4) (N := 21) hx hb ht kb_w4 kb_y4 kb_p4 kb_n4 hown hE.1 hP hD hS 0 rfl rfl 0 (by decide) (ht _ wd_d5599598) (fun _ h9 => h9) rfl (by decide +kernel) rfl rfl (Nat.le_of_ble_eq_true rfl) d_M_lay_2 (fun H locs hP hD hS => ?_)
  have hP : va_P G.1 kb_cl [kb_o h 4 [.int 0, .ref m1, .int 0, .ref m3, .int 0, .ref m5, .ref m6, .ref m7, .ref m8, .ref m9, .ref m10, .ref m11, .ref m12, .ref m13, .ref m14, .ref m15, .int 0, .int 0, .int 0, .int 0, .int 0], kb_a G m3 65536 f3, kb_a G m5 2 (upd (fun _ => 0) 0 1), kb_a G m6 2 (upd (fun _ => 0) 0 0), kb_a G m8 256 (upd (fun _ => 0) 0 (-1)), kb_a G m9 256 (upd (fun _ => 0) 0 0), kb_a G m10 256 (upd (fun _ => 0) 0 0)] H := hP
  have hD : va_D A [kb_o h 4 [.int 0, .ref m1, .int 0, .ref m3, .int 0, .ref m5, .ref m6, .ref m7, .ref m8, .ref m9, .ref m10, .ref m11, .ref m12, .ref m13, .ref m14, .ref m15, .int 0, .int 0, .int 0, .int 0, .int 0], kb_a G m3 65536 f3, kb_a G m5 2 (upd (fun _ => 0) 0 1), kb_a G m6 2 (upd (fun _ => 0) 0 0), kb_a G m8 256 (upd (fun _ => 0) 0 (-1)), kb_a G m9 256 (upd (fun _ => 0) 0 0), kb_a G m10 256 (upd (fun _ => 0) 0 0)] := hD
  refine lv_aload_n hx hb d_M_lay_5 rfl (lv_at hl 0 rfl) ?_
  refine lv_bipush (v := 56) hx hb d_M_lay_6 (by decide) ?_
  refine va_put (D := G.1) (ci := 4) (v := .int 56) (ty := .int) (C := "TreePressModel") (T := kb_F4) (N := 21) hx hb ht kb_w4 kb_y4 kb_p4 kb_n4 hown hE.1 hP hD hS 0 rfl rfl 4 (by decide) (ht _ wd_09f6dca0) (fun _ h9 => h9) rfl (by decide +kernel) rfl rfl (Nat.le_of_ble_eq_true rfl) d_M_lay_8 (fun H locs hP hD hS => ?_)
  have hP : va_P G.1 kb_cl [kb_o h 4 [.int 0, .ref m1, .int 0, .ref m3, .int 56, .ref m5, .ref m6, .ref m7, .ref m8, .ref m9, .ref m10, .ref m11, .ref m12, .ref m13, .ref m14, .ref m15, .int 0, .int 0, .int 0, .int 0, .int 0], kb_a G m3 65536 f3, kb_a G m5 2 (upd (fun _ => 0) 0 1), kb_a G m6 2 (upd (fun _ => 0) 0 0), kb_a G m8 256 (upd (fun _ => 0) 0 (-1)), kb_a G m9 256 (upd (fun _ => 0) 0 0), kb_a G m10 256 (upd (fun _ => 0) 0 0)] H := hP
  have hD : va_D A [kb_o h 4 [.int 0, .ref m1, .int 0, .ref m3, .int 56, .ref m5, .ref m6, .ref m7, .ref m8, .ref m9, .ref m10, .ref m11, .ref m12, .ref m13, .ref m14, .ref m15, .int 0, .int 0, .int 0, .int 0, .int 0], kb_a G m3 65536 f3, kb_a G m5 2 (upd (fun _ => 0) 0 1), kb_a G m6 2 (upd (fun _ => 0) 0 0), kb_a G m8 256 (upd (fun _ => 0) 0 (-1)), kb_a G m9 256 (upd (fun _ => 0) 0 0), kb_a G m10 256 (upd (fun _ => 0) 0 0)] := hD
  refine lv_aload_n hx hb d_M_lay_11 rfl (lv_at hl 0 rfl) ?_
  refine kb_v (wc := [kb_o h 4 [.int 0, .ref m1, .int 0, .ref m3, .int 56, .ref m5, .ref m6, .ref m7, .ref m8, .ref m9, .ref m10, .ref m11, .ref m12, .ref m13, .ref m14, .ref m15, .int 0, .int 0, .int 0, .int 0, .int 0], kb_a G m3 65536 f3, kb_a G m5 2 (upd (fun _ => 0) 0 1), kb_a G m6 2 (upd (fun _ => 0) 0 0), kb_a G m8 256 (upd (fun _ => 0) 0 (-1)), kb_a G m9 256 (upd (fun _ => 0) 0 0), kb_a G m10 256 (upd (fun _ => 0) 0 0)]) (wr := []) hE hP hD hS [0, 1, 2, 3, 4, 5, 6] [] rfl rfl (by decide) (by decide) (kb_rV (As := []) (rest := []) (wc := [kb_o h 4 [.int 0, .ref m1, .int 0, .ref m3, .int 56, .ref m5, .ref m6, .ref m7, .ref m8, .ref m9, .ref m10, .ref m11, .ref m12, .ref m13, .ref m14, .ref m15, .int 0, .int 0, .int 0, .int 0, .int 0], kb_a G m3 65536 f3, kb_a G m5 2 (upd (fun _ => 0) 0 1), kb_a G m6 2 (upd (fun _ => 0) 0 0), kb_a G m8 256 (upd (fun _ => 0) 0 (-1)), kb_a G m9 256 (upd (fun _ => 0) 0 0), kb_a G m10 256 (upd (fun _ => 0) 0 0)]) (q0 := 0) ⟨hx, hb, hml, hown, ht⟩ ((c_M_layNodes l G h 0 m1 m3 m5 m6 m7 m8 m9 m10 m11 m12 m13 m14 m15 f3) _) (kb_gV wd_35f7ed29 wd_a8658d69 wd_cd6eb804 wd_38099713 wd_dacd265b) ⟨rfl, hd_cf861a33⟩ ⟨(Nat.le_of_ble_eq_true rfl), (Nat.le_of_ble_eq_true rfl)⟩ hE hP hD hS [0, 1, 2, 3, 4, 5, 6] rfl (by decide) rfl rfl rfl hl.1 rfl (Nat.le_of_ble_eq_true rfl) d_M_lay_12 ⟨(Nat.le_of_ble_eq_true rfl), (Nat.le_of_ble_eq_true rfl)⟩) (fun uu1 H locs hw hP hD hS => ?_)
  have hP : va_P G.1 kb_cl [kb_a G m5 2 (upd (fun _ => 0) 0 1), kb_a G m9 256 (upd (fun _ => 0) 0 0), kb_a G m10 256 (upd (fun _ => 0) 0 0), kb_a G m8 256 (upd (fun _ => 0) 0 (-1)), kb_a G m6 2 (upd (fun _ => 0) 0 0), kb_o h 4 [.int 0, .ref m1, .int 0, .ref m3, .int 68, .ref m5, .ref m6, .ref m7, .ref m8, .ref m9, .ref m10, .ref m11, .ref m12, .ref m13, .ref m14, .ref m15, .int 0, .int 0, .int 0, .int 0, .int 0], kb_a G m3 65536 (uu1.2 0)] H := hP
  have hD : va_D A [kb_a G m5 2 (upd (fun _ => 0) 0 1), kb_a G m9 256 (upd (fun _ => 0) 0 0), kb_a G m10 256 (upd (fun _ => 0) 0 0), kb_a G m8 256 (upd (fun _ => 0) 0 (-1)), kb_a G m6 2 (upd (fun _ => 0) 0 0), kb_o h 4 [.int 0, .ref m1, .int 0, .ref m3, .int 68, .ref m5, .ref m6, .ref m7, .ref m8, .ref m9, .ref m10, .ref m11, .ref m12, .ref m13, .ref m14, .ref m15, .int 0, .int 0, .int 0, .int 0, .int 0], kb_a G m3 65536 (uu1.2 0)] := hD
  refine lv_aload_n hx hb d_M_lay_15 rfl (lv_at hl 0 rfl) ?_
  refine lv_bipush (v := 9) hx hb d_M_lay_16 (by decide) ?_
  refine kb_v (wc := [kb_o h 4 [.int 0, .ref m1, .int 0, .ref m3, .int 68, .ref m5, .ref m6, .ref m7, .ref m8, .ref m9, .ref m10, .ref m11, .ref m12, .ref m13, .ref m14, .ref m15, .int 0, .int 0, .int 0, .int 0, .int 0], kb_a G m3 65536 (uu1.2 0)]) (wr := [kb_a G m5 2 (upd (fun _ => 0) 0 1), kb_a G m9 256 (upd (fun _ => 0) 0 0), kb_a G m10 256 (upd (fun _ => 0) 0 0), kb_a G m8 256 (upd (fun _ => 0) 0 (-1)), kb_a G m6 2 (upd (fun _ => 0) 0 0)]) hE hP hD hS [5, 6] [0, 1, 2, 3, 4] rfl rfl (by decide) (by decide) (kb_rV (As := [.int 9]) (rest := []) (wc := [kb_o h 4 [.int 0, .ref m1, .int 0, .ref m3, .int 68, .ref m5, .ref m6, .ref m7, .ref m8, .ref m9, .ref m10, .ref m11, .ref m12, .ref m13, .ref m14, .ref m15, .int 0, .int 0, .int 0, .int 0, .int 0], kb_a G m3 65536 (uu1.2 0)]) (q0 := 0) ⟨hx, hb, hml, hown, ht⟩ ((c_M_number l G h 0 m1 m3 m5 m6 m7 m8 m9 m10 m11 m12 m13 m14 m15 68 (uu1.2 0) 9 (by omega)) _) (kb_gV wd_283e8efb wd_3d04b7f3 wd_1b35c4b5 wd_38099713 wd_ce9eaa3f) ⟨rfl, hd_0217c5f0⟩ ⟨(Nat.le_of_ble_eq_true rfl), (Nat.le_of_ble_eq_true rfl)⟩ hE hP hD hS [5, 6] rfl (by decide) rfl rfl rfl hl.1 rfl (Nat.le_of_ble_eq_true rfl) d_M_lay_18 ⟨(Nat.le_of_ble_eq_true rfl), (Nat.le_of_ble_eq_true rfl)⟩) (fun uu3 H locs hw hP hD hS => ?_)
  have hP : va_P G.1 kb_cl [kb_a G m5 2 (upd (fun _ => 0) 0 1), kb_a G m9 256 (upd (fun _ => 0) 0 0), kb_a G m10 256 (upd (fun _ => 0) 0 0), kb_a G m8 256 (upd (fun _ => 0) 0 (-1)), kb_a G m6 2 (upd (fun _ => 0) 0 0), kb_o h 4 [.int 0, .ref m1, .int 0, .ref m3, .int 72, .ref m5, .ref m6, .ref m7, .ref m8, .ref m9, .ref m10, .ref m11, .ref m12, .ref m13, .ref m14, .ref m15, .int 0, .int 0, .int 0, .int 0, .int 0], kb_a G m3 65536 (uu3.2 0)] H := hP
  have hD : va_D A [kb_a G m5 2 (upd (fun _ => 0) 0 1), kb_a G m9 256 (upd (fun _ => 0) 0 0), kb_a G m10 256 (upd (fun _ => 0) 0 0), kb_a G m8 256 (upd (fun _ => 0) 0 (-1)), kb_a G m6 2 (upd (fun _ => 0) 0 0), kb_o h 4 [.int 0, .ref m1, .int 0, .ref m3, .int 72, .ref m5, .ref m6, .ref m7, .ref m8, .ref m9, .ref m10, .ref m11, .ref m12, .ref m13, .ref m14, .ref m15, .int 0, .int 0, .int 0, .int 0, .int 0], kb_a G m3 65536 (uu3.2 0)] := hD
  refine lv_aload_n hx hb d_M_lay_21 rfl (lv_at hl 0 rfl) ?_
  refine va_get (D := G.1) (ci := 4) (v := .int 72) (C := "TreePressModel") (T := kb_F4) (N := 21) hx hb ht kb_w4 hown hE.1 hP 5 rfl rfl 4 (by decide) (ht _ wd_09f6dca0) (fun _ h9 => h9) rfl d_M_lay_22 ?_
  refine lv_bipush (v := 56) hx hb d_M_lay_25 (by decide) ?_
  refine lv_isub hx hb d_M_lay_27 ?_
  refine kb_top (y := 16) (by decide) ?_
  refine lv_istore_n (lv' := [(1, .int 16), (0, .ref h)]) hx hb d_M_lay_28 rfl hl (by decide) rfl (fun ls hl => ?_)
  refine lv_aload_n hx hb d_M_lay_29 rfl (lv_at hl 1 rfl) ?_
  refine kb_v (wc := [kb_o h 4 [.int 0, .ref m1, .int 0, .ref m3, .int 72, .ref m5, .ref m6, .ref m7, .ref m8, .ref m9, .ref m10, .ref m11, .ref m12, .ref m13, .ref m14, .ref m15, .int 0, .int 0, .int 0, .int 0, .int 0], kb_a G m6 2 (upd (fun _ => 0) 0 0)]) (wr := [kb_a G m5 2 (upd (fun _ => 0) 0 1), kb_a G m9 256 (upd (fun _ => 0) 0 0), kb_a G m10 256 (upd (fun _ => 0) 0 0), kb_a G m8 256 (upd (fun _ => 0) 0 (-1)), kb_a G m3 65536 (uu3.2 0)]) hE hP hD hS [5, 4] [0, 1, 2, 3, 6] rfl rfl (by decide) (by decide) (kb_rV (As := []) (rest := []) (wc := [kb_o h 4 [.int 0, .ref m1, .int 0, .ref m3, .int 72, .ref m5, .ref m6, .ref m7, .ref m8, .ref m9, .ref m10, .ref m11, .ref m12, .ref m13, .ref m14, .ref m15, .int 0, .int 0, .int 0, .int 0, .int 0], kb_a G m6 2 (upd (fun _ => 0) 0 0)]) (q0 := 0) ⟨hx, hb, hml, hown, ht⟩ ((c_M_layNames l G h 0 m1 m3 m5 m6 m7 m8 m9 m10 m11 m12 m13 m14 m15 72) _) (kb_gV wd_562b93a7 wd_b878ab4e wd_1926cb46 wd_38099713 wd_ceb689d7) ⟨rfl, hd_1a0b9b25⟩ ⟨(Nat.le_of_ble_eq_true rfl), (Nat.le_of_ble_eq_true rfl)⟩ hE hP hD hS [5, 4] rfl (by decide) rfl rfl rfl hl.1 rfl (Nat.le_of_ble_eq_true rfl) d_M_lay_30 ⟨(Nat.le_of_ble_eq_true rfl), (Nat.le_of_ble_eq_true rfl)⟩) (fun uu5 H locs hw hP hD hS => ?_)
  have hP : va_P G.1 kb_cl [kb_a G m5 2 (upd (fun _ => 0) 0 1), kb_a G m9 256 (upd (fun _ => 0) 0 0), kb_a G m10 256 (upd (fun _ => 0) 0 0), kb_a G m8 256 (upd (fun _ => 0) 0 (-1)), kb_a G m3 65536 (uu3.2 0), kb_o h 4 [.int 0, .ref m1, .int 0, .ref m3, .int 72, .ref m5, .ref m6, .ref m7, .ref m8, .ref m9, .ref m10, .ref m11, .ref m12, .ref m13, .ref m14, .ref m15, .int 0, .int 0, .int 0, .int 0, .int 0], kb_a G m6 2 (upd (fun _ => 0) 0 0)] H := hP
  have hD : va_D A [kb_a G m5 2 (upd (fun _ => 0) 0 1), kb_a G m9 256 (upd (fun _ => 0) 0 0), kb_a G m10 256 (upd (fun _ => 0) 0 0), kb_a G m8 256 (upd (fun _ => 0) 0 (-1)), kb_a G m3 65536 (uu3.2 0), kb_o h 4 [.int 0, .ref m1, .int 0, .ref m3, .int 72, .ref m5, .ref m6, .ref m7, .ref m8, .ref m9, .ref m10, .ref m11, .ref m12, .ref m13, .ref m14, .ref m15, .int 0, .int 0, .int 0, .int 0, .int 0], kb_a G m6 2 (upd (fun _ => 0) 0 0)] := hD
  refine lv_aload_n hx hb d_M_lay_33 rfl (lv_at hl 1 rfl) ?_
  refine va_get (D := G.1) (ci := 4) (v := .int 72) (C := "TreePressModel") (T := kb_F4) (N := 21) hx hb ht kb_w4 hown hE.1 hP 5 rfl rfl 4 (by decide) (ht _ wd_09f6dca0) (fun _ h9 => h9) rfl d_M_lay_34 ?_
  refine lv_istore_n (lv' := [(2, .int 72), (1, .int 16), (0, .ref h)]) hx hb d_M_lay_37 rfl hl (by decide) rfl (fun ls hl => ?_)
  refine lv_aload_n hx hb d_M_lay_38 rfl (lv_at hl 2 rfl) ?_
  refine lv_iload_n hx hb d_M_lay_39 rfl (lv_at hl 0 rfl) ?_
  refine lv_iload_n hx hb d_M_lay_40 rfl (lv_at hl 1 rfl) ?_
  refine kb_v (wc := [kb_o h 4 [.int 0, .ref m1, .int 0, .ref m3, .int 72, .ref m5, .ref m6, .ref m7, .ref m8, .ref m9, .ref m10, .ref m11, .ref m12, .ref m13, .ref m14, .ref m15, .int 0, .int 0, .int 0, .int 0, .int 0], kb_a G m3 65536 (uu3.2 0)]) (wr := [kb_a G m5 2 (upd (fun _ => 0) 0 1), kb_a G m9 256 (upd (fun _ => 0) 0 0), kb_a G m10 256 (upd (fun _ => 0) 0 0), kb_a G m8 256 (upd (fun _ => 0) 0 (-1)), kb_a G m6 2 (upd (fun _ => 0) 0 0)]) hE hP hD hS [5, 4] [0, 1, 2, 3, 6] rfl rfl (by decide) (by decide) (kb_rV (As := [.int 72, .int 16]) (rest := []) (wc := [kb_o h 4 [.int 0, .ref m1, .int 0, .ref m3, .int 72, .ref m5, .ref m6, .ref m7, .ref m8, .ref m9, .ref m10, .ref m11, .ref m12, .ref m13, .ref m14, .ref m15, .int 0, .int 0, .int 0, .int 0, .int 0], kb_a G m3 65536 (uu3.2 0)]) (q0 := 0) ⟨hx, hb, hml, hown, ht⟩ ((c_M_head l G h 0 m1 m3 m5 m6 m7 m8 m9 m10 m11 m12 m13 m14 m15 (uu3.2 0)) _) (kb_gV wd_daee7685 wd_73fe5cf1 wd_4ef8592f wd_38099713 wd_ffa18b03) ⟨rfl, hd_e685c928⟩ ⟨(Nat.le_of_ble_eq_true rfl), (Nat.le_of_ble_eq_true rfl)⟩ hE hP hD hS [5, 4] rfl (by decide) rfl rfl rfl hl.1 rfl (Nat.le_of_ble_eq_true rfl) d_M_lay_41 ⟨(Nat.le_of_ble_eq_true rfl), (Nat.le_of_ble_eq_true rfl)⟩) (fun uu7 H locs hw hP hD hS => ?_)
  have hP : va_P G.1 kb_cl [kb_a G m5 2 (upd (fun _ => 0) 0 1), kb_a G m9 256 (upd (fun _ => 0) 0 0), kb_a G m10 256 (upd (fun _ => 0) 0 0), kb_a G m8 256 (upd (fun _ => 0) 0 (-1)), kb_a G m6 2 (upd (fun _ => 0) 0 0), kb_o h 4 [.int 0, .ref m1, .int 0, .ref m3, .int 56, .ref m5, .ref m6, .ref m7, .ref m8, .ref m9, .ref m10, .ref m11, .ref m12, .ref m13, .ref m14, .ref m15, .int 0, .int 0, .int 0, .int 0, .int 0], kb_a G m3 65536 (uu7.2 0)] H := hP
  have hD : va_D A [kb_a G m5 2 (upd (fun _ => 0) 0 1), kb_a G m9 256 (upd (fun _ => 0) 0 0), kb_a G m10 256 (upd (fun _ => 0) 0 0), kb_a G m8 256 (upd (fun _ => 0) 0 (-1)), kb_a G m6 2 (upd (fun _ => 0) 0 0), kb_o h 4 [.int 0, .ref m1, .int 0, .ref m3, .int 56, .ref m5, .ref m6, .ref m7, .ref m8, .ref m9, .ref m10, .ref m11, .ref m12, .ref m13, .ref m14, .ref m15, .int 0, .int 0, .int 0, .int 0, .int 0], kb_a G m3 65536 (uu7.2 0)] := hD
  refine lv_aload_n hx hb d_M_lay_44 rfl (lv_at hl 2 rfl) ?_
  refine lv_iload_n hx hb d_M_lay_45 rfl (lv_at hl 0 rfl) ?_
  refine va_put (D := G.1) (ci := 4) (v := .int 72) (ty := .int) (C := "TreePressModel") (T := kb_F4) (N := 21) hx hb ht kb_w4 kb_y4 kb_p4 kb_n4 hown hE.1 hP hD hS 5 rfl rfl 4 (by decide) (ht _ wd_09f6dca0) (fun _ h9 => h9) rfl (by decide +kernel) rfl rfl (Nat.le_of_ble_eq_true rfl) d_M_lay_46 (fun H locs hP hD hS => ?_)
  have hP : va_P G.1 kb_cl [kb_a G m5 2 (upd (fun _ => 0) 0 1), kb_a G m9 256 (upd (fun _ => 0) 0 0), kb_a G m10 256 (upd (fun _ => 0) 0 0), kb_a G m8 256 (upd (fun _ => 0) 0 (-1)), kb_a G m6 2 (upd (fun _ => 0) 0 0), kb_o h 4 [.int 0, .ref m1, .int 0, .ref m3, .int 72, .ref m5, .ref m6, .ref m7, .ref m8, .ref m9, .ref m10, .ref m11, .ref m12, .ref m13, .ref m14, .ref m15, .int 0, .int 0, .int 0, .int 0, .int 0], kb_a G m3 65536 (uu7.2 0)] H := hP
  have hD : va_D A [kb_a G m5 2 (upd (fun _ => 0) 0 1), kb_a G m9 256 (upd (fun _ => 0) 0 0), kb_a G m10 256 (upd (fun _ => 0) 0 0), kb_a G m8 256 (upd (fun _ => 0) 0 (-1)), kb_a G m6 2 (upd (fun _ => 0) 0 0), kb_o h 4 [.int 0, .ref m1, .int 0, .ref m3, .int 72, .ref m5, .ref m6, .ref m7, .ref m8, .ref m9, .ref m10, .ref m11, .ref m12, .ref m13, .ref m14, .ref m15, .int 0, .int 0, .int 0, .int 0, .int 0], kb_a G m3 65536 (uu7.2 0)] := hD
  refine lv_iload_n hx hb d_M_lay_49 rfl (lv_at hl 0 rfl) ?_
  exact kb_reti (kb_l [], kb_f []) hx hb hr hlocks hE hP hD hS [5] rfl (by decide) rfl rfl (Nat.le_of_ble_eq_true rfl) (Nat.le_of_ble_eq_true rfl) d_M_lay_50

set_option maxHeartbeats 4000000 in
set_option maxRecDepth 100000 in
theorem c_M_laid (l : Launch) (G : kb_G) (h : Nat) (T : Int32) (m1 : Nat) (m3 : Nat) (m5 : Nat) (m6 : Nat) (m7 : Nat) (m8 : Nat) (m9 : Nat) (m10 : Nat) (m11 : Nat) (m12 : Nat) (m13 : Nat) (m14 : Nat) (m15 : Nat) (i : Int32) : kb_ci l G ⟨"TreePressModel", "laid", "(I)I"⟩ prog_6_method_27_code 2 (some .int) 1 0 0 [.ref h, .int i] [kb_o h 4 [.int T, .ref m1, .int 0, .ref m3, .int 0, .ref m5, .ref m6, .ref m7, .ref m8, .ref m9, .ref m10, .ref m11, .ref m12, .ref m13, .ref m14, .ref m15, .int 0, .int 0, .int 0, .int 0, .int 0]] (fun r u => r = 0) (fun u => [kb_o h 4 [.int 1, .ref m1, .int 0, .ref m3, .int 0, .ref m5, .ref m6, .ref m7, .ref m8, .ref m9, .ref m10, .ref m11, .ref m12, .ref m13, .ref m14, .ref m15, .int 0, .int 0, .int 0, .int 0, .int 0]]) := by
  intro sz
  refine kb_body (QQ := fun A => kb_Qi G A (fun r u => r = 0) (fun u => [kb_o h 4 [.int 1, .ref m1, .int 0, .ref m3, .int 0, .ref m5, .ref m6, .ref m7, .ref m8, .ref m9, .ref m10, .ref m11, .ref m12, .ref m13, .ref m14, .ref m15, .int 0, .int 0, .int 0, .int 0, .int 0]])) (by decide) (Nat.le_of_ble_eq_true rfl) ?_
  intro p e s m below meth c A B ls hl
  obtain ⟨hx, hb, hr, hml, hlocks, hin, hown, ht, hE, hP, hD, hS⟩ := B
  have hl : lv_has ls 2 [(0, .ref h), (1, .int i)] := hl
  have hP0 := hP
  obtain ⟨H, hHe⟩ : ∃ H, H = s.heap := ⟨_, rfl⟩
  rw [← hHe] at hP
  have hS : va_S A s.heap H [] := by rw [hHe]; exact hS
  refine kb_at hHe ?_
  clear hHe
  refine lv_aload_n hx hb d_M_laid_0 rfl (lv_at hl 0 rfl) ?_
  refine lv_iload_n hx hb d_M_laid_1 rfl (lv_at hl 1 rfl) ?_
  refine lv_if_lt (tgt := 13) hx hb d_M_laid_2 (by decide) (fun cb1 => ?_) (fun cb1 => ?_)
  · refine lv_iconst (v := 1) hx hb d_M_laid_13 (by decide) ?_
    refine lv_goto (tgt := 18) hx hb d_M_laid_14 (by decide) ?_
    refine va_put (D := G.1) (ci := 4) (v := .int 1) (ty := .int) (C := "TreePressModel") (T := kb_F4) (N := 21) hx hb ht kb_w4 kb_y4 kb_p4 kb_n4 hown hE.1 hP hD hS 0 rfl rfl 0 (by decide) (ht _ wd_d5599598) (fun _ h9 => h9) rfl (by decide +kernel) rfl rfl (Nat.le_of_ble_eq_true rfl) d_M_laid_18 (fun H locs hP hD hS => ?_)
    have hP : va_P G.1 kb_cl [kb_o h 4 [.int 1, .ref m1, .int 0, .ref m3, .int 0, .ref m5, .ref m6, .ref m7, .ref m8, .ref m9, .ref m10, .ref m11, .ref m12, .ref m13, .ref m14, .ref m15, .int 0, .int 0, .int 0, .int 0, .int 0]] H := hP
    have hD : va_D A [kb_o h 4 [.int 1, .ref m1, .int 0, .ref m3, .int 0, .ref m5, .ref m6, .ref m7, .ref m8, .ref m9, .ref m10, .ref m11, .ref m12, .ref m13, .ref m14, .ref m15, .int 0, .int 0, .int 0, .int 0, .int 0]] := hD
    refine lv_aload_n hx hb d_M_laid_21 rfl (lv_at hl 0 rfl) ?_
    refine va_get (D := G.1) (ci := 4) (v := .int 1) (C := "TreePressModel") (T := kb_F4) (N := 21) hx hb ht kb_w4 hown hE.1 hP 0 rfl rfl 0 (by decide) (ht _ wd_d5599598) (fun _ h9 => h9) rfl d_M_laid_22 ?_
    refine lv_if_le (tgt := 32) hx hb d_M_laid_25 (by decide) (fun c9 => absurd c9 (by decide)) (fun c9 => ?_)
    refine lv_iconst (v := 0) hx hb d_M_laid_28 (by decide) ?_
    refine lv_goto (tgt := 38) hx hb d_M_laid_29 (by decide) ?_
    exact kb_reti (kb_l [], kb_f []) hx hb hr hlocks hE hP hD hS [0] rfl (by decide) rfl rfl (Nat.le_of_ble_eq_true rfl) (Nat.le_of_ble_eq_true rfl) d_M_laid_38
  · refine lv_iload_n hx hb d_M_laid_5 rfl (lv_at hl 1 rfl) ?_
    refine lv_aload_n hx hb d_M_laid_6 rfl (lv_at hl 0 rfl) ?_
    refine va_get (D := G.1) (ci := 4) (v := .int 0) (C := "TreePressModel") (T := kb_F4) (N := 21) hx hb ht kb_w4 hown hE.1 hP 0 rfl rfl 4 (by decide) (ht _ wd_09f6dca0) (fun _ h9 => h9) rfl d_M_laid_7 ?_
    refine lv_icmp_lt (tgt := 17) hx hb d_M_laid_10 (by decide) (fun c9 => False.elim (by have e0 : ¬ (i : Int32).toInt < (0 : Int32).toInt := fun z9 => cb1 (Int32.lt_iff_toInt_lt.mpr z9); have e1 : (i : Int32).toInt < (0 : Int32).toInt := Int32.lt_iff_toInt_lt.mp c9; have k0 : (0 : Int32).toInt = 0 := rfl; omega)) (fun c9 => ?_)
    refine lv_iconst (v := 1) hx hb d_M_laid_13 (by decide) ?_
    refine lv_goto (tgt := 18) hx hb d_M_laid_14 (by decide) ?_
    refine va_put (D := G.1) (ci := 4) (v := .int 1) (ty := .int) (C := "TreePressModel") (T := kb_F4) (N := 21) hx hb ht kb_w4 kb_y4 kb_p4 kb_n4 hown hE.1 hP hD hS 0 rfl rfl 0 (by decide) (ht _ wd_d5599598) (fun _ h9 => h9) rfl (by decide +kernel) rfl rfl (Nat.le_of_ble_eq_true rfl) d_M_laid_18 (fun H locs hP hD hS => ?_)
    have hP : va_P G.1 kb_cl [kb_o h 4 [.int 1, .ref m1, .int 0, .ref m3, .int 0, .ref m5, .ref m6, .ref m7, .ref m8, .ref m9, .ref m10, .ref m11, .ref m12, .ref m13, .ref m14, .ref m15, .int 0, .int 0, .int 0, .int 0, .int 0]] H := hP
    have hD : va_D A [kb_o h 4 [.int 1, .ref m1, .int 0, .ref m3, .int 0, .ref m5, .ref m6, .ref m7, .ref m8, .ref m9, .ref m10, .ref m11, .ref m12, .ref m13, .ref m14, .ref m15, .int 0, .int 0, .int 0, .int 0, .int 0]] := hD
    refine lv_aload_n hx hb d_M_laid_21 rfl (lv_at hl 0 rfl) ?_
    refine va_get (D := G.1) (ci := 4) (v := .int 1) (C := "TreePressModel") (T := kb_F4) (N := 21) hx hb ht kb_w4 hown hE.1 hP 0 rfl rfl 0 (by decide) (ht _ wd_d5599598) (fun _ h9 => h9) rfl d_M_laid_22 ?_
    refine lv_if_le (tgt := 32) hx hb d_M_laid_25 (by decide) (fun c9 => absurd c9 (by decide)) (fun c9 => ?_)
    refine lv_iconst (v := 0) hx hb d_M_laid_28 (by decide) ?_
    refine lv_goto (tgt := 38) hx hb d_M_laid_29 (by decide) ?_
    exact kb_reti (kb_l [], kb_f []) hx hb hr hlocks hE hP hD hS [0] rfl (by decide) rfl rfl (Nat.le_of_ble_eq_true rfl) (Nat.le_of_ble_eq_true rfl) d_M_laid_38

set_option maxHeartbeats 4000000 in
set_option maxRecDepth 100000 in
theorem c_M_fail (l : Launch) (G : kb_G) (h : Nat) (T : Int32) (m1 : Nat) (m3 : Nat) (m5 : Nat) (m6 : Nat) (m7 : Nat) (m8 : Nat) (m9 : Nat) (m10 : Nat) (m11 : Nat) (m12 : Nat) (m13 : Nat) (m14 : Nat) (m15 : Nat) : kb_ci l G ⟨"TreePressModel", "fail", "(I)Z"⟩ prog_6_method_28_code 2 (some .boolean) 1 0 0 [.ref h, .int 0] [kb_o h 4 [.int T, .ref m1, .int 0, .ref m3, .int 0, .ref m5, .ref m6, .ref m7, .ref m8, .ref m9, .ref m10, .ref m11, .ref m12, .ref m13, .ref m14, .ref m15, .int 0, .int 0, .int 0, .int 0, .int 0]] (fun r u => r = 0) (fun u => [kb_o h 4 [.int T, .ref m1, .int 0, .ref m3, .int 0, .ref m5, .ref m6, .ref m7, .ref m8, .ref m9, .ref m10, .ref m11, .ref m12, .ref m13, .ref m14, .ref m15, .int 0, .int 0, .int 0, .int 0, .int 0]]) := by
  intro sz
  refine kb_body (QQ := fun A => kb_Qi G A (fun r u => r = 0) (fun u => [kb_o h 4 [.int T, .ref m1, .int 0, .ref m3, .int 0, .ref m5, .ref m6, .ref m7, .ref m8, .ref m9, .ref m10, .ref m11, .ref m12, .ref m13, .ref m14, .ref m15, .int 0, .int 0, .int 0, .int 0, .int 0]])) (by decide) (Nat.le_of_ble_eq_true rfl) ?_
  intro p e s m below meth c A B ls hl
  obtain ⟨hx, hb, hr, hml, hlocks, hin, hown, ht, hE, hP, hD, hS⟩ := B
  have hl : lv_has ls 2 [(0, .ref h), (1, .int 0)] := hl
  have hP0 := hP
  obtain ⟨H, hHe⟩ : ∃ H, H = s.heap := ⟨_, rfl⟩
  rw [← hHe] at hP
  have hS : va_S A s.heap H [] := by rw [hHe]; exact hS
  refine kb_at hHe ?_
  clear hHe
  refine lv_aload_n hx hb d_M_fail_0 rfl (lv_at hl 0 rfl) ?_
  refine lv_iload_n hx hb d_M_fail_1 rfl (lv_at hl 1 rfl) ?_
  refine va_put (D := G.1) (ci := 4) (v := .int 0) (ty := .int) (C := "TreePressModel") (T := kb_F4) (N := 21) hx hb ht kb_w4 kb_y4 kb_p4 kb_n4 hown hE.1 hP hD hS 0 rfl rfl 19 (by decide) (ht _ wd_83f7538e) (fun _ h9 => h9) rfl (by decide +kernel) rfl rfl (Nat.le_of_ble_eq_true rfl) d_M_fail_2 (fun H locs hP hD hS => ?_)
  have hP : va_P G.1 kb_cl [kb_o h 4 [.int T, .ref m1, .int 0, .ref m3, .int 0, .ref m5, .ref m6, .ref m7, .ref m8, .ref m9, .ref m10, .ref m11, .ref m12, .ref m13, .ref m14, .ref m15, .int 0, .int 0, .int 0, .int 0, .int 0]] H := hP
  have hD : va_D A [kb_o h 4 [.int T, .ref m1, .int 0, .ref m3, .int 0, .ref m5, .ref m6, .ref m7, .ref m8, .ref m9, .ref m10, .ref m11, .ref m12, .ref m13, .ref m14, .ref m15, .int 0, .int 0, .int 0, .int 0, .int 0]] := hD
  refine lv_iconst (v := 0) hx hb d_M_fail_5 (by decide) ?_
  exact kb_retz (kb_l [], kb_f []) hx hb hr rfl hlocks hE hP hD hS [0] rfl (by decide) rfl rfl (Nat.le_of_ble_eq_true rfl) (Nat.le_of_ble_eq_true rfl) d_M_fail_6

set_option maxHeartbeats 4000000 in
set_option maxRecDepth 100000 in
theorem c_M_readsHead (l : Launch) (G : kb_G) (h : Nat) (T : Int32) (m1 : Nat) (m3 : Nat) (m5 : Nat) (m6 : Nat) (m7 : Nat) (m8 : Nat) (m9 : Nat) (m10 : Nat) (m11 : Nat) (m12 : Nat) (m13 : Nat) (m14 : Nat) (m15 : Nat) : kb_ci l G ⟨"TreePressModel", "readsHead", "()Z"⟩ prog_6_method_31_code 2 (some .boolean) 2 0 0 [.ref h] [kb_o h 4 [.int T, .ref m1, .int 0, .ref m3, .int 0, .ref m5, .ref m6, .ref m7, .ref m8, .ref m9, .ref m10, .ref m11, .ref m12, .ref m13, .ref m14, .ref m15, .int 0, .int 0, .int 0, .int 0, .int 0]] (fun r u => r = 0) (fun u => [kb_o h 4 [.int T, .ref m1, .int 0, .ref m3, .int 0, .ref m5, .ref m6, .ref m7, .ref m8, .ref m9, .ref m10, .ref m11, .ref m12, .ref m13, .ref m14, .ref m15, .int 0, .int 0, .int 0, .int 0, .int 0]]) := by
  intro sz
  refine kb_body (QQ := fun A => kb_Qi G A (fun r u => r = 0) (fun u => [kb_o h 4 [.int T, .ref m1, .int 0, .ref m3, .int 0, .ref m5, .ref m6, .ref m7, .ref m8, .ref m9, .ref m10, .ref m11, .ref m12, .ref m13, .ref m14, .ref m15, .int 0, .int 0, .int 0, .int 0, .int 0]])) (by decide) (Nat.le_of_ble_eq_true rfl) ?_
  intro p e s m below meth c A B ls hl
  obtain ⟨hx, hb, hr, hml, hlocks, hin, hown, ht, hE, hP, hD, hS⟩ := B
  have hl : lv_has ls 2 [(0, .ref h)] := hl
  have hP0 := hP
  obtain ⟨H, hHe⟩ : ∃ H, H = s.heap := ⟨_, rfl⟩
  rw [← hHe] at hP
  have hS : va_S A s.heap H [] := by rw [hHe]; exact hS
  refine kb_at hHe ?_
  clear hHe
  refine lv_iconst (v := 0) hx hb d_M_readsHead_0 (by decide) ?_
  refine lv_istore_n (lv' := [(1, .int 0), (0, .ref h)]) hx hb d_M_readsHead_1 rfl hl (by decide) rfl (fun ls hl => ?_)
  refine lv_iload_n hx hb d_M_readsHead_2 rfl (lv_at hl 0 rfl) ?_
  refine lv_bipush (v := 40) hx hb d_M_readsHead_3 (by decide) ?_
  refine lv_icmp_ge (tgt := 63) hx hb d_M_readsHead_5 (by decide) (fun c9 => absurd c9 (by decide)) (fun c9 => ?_)
  refine lv_iload_n hx hb d_M_readsHead_8 rfl (lv_at hl 0 rfl) ?_
  refine lv_iconst (v := 4) hx hb d_M_readsHead_9 (by decide) ?_
  refine lv_iadd hx hb d_M_readsHead_10 ?_
  refine kb_top (y := 4) (by decide) ?_
  refine lv_aload_n hx hb d_M_readsHead_11 rfl (lv_at hl 1 rfl) ?_
  refine va_get (D := G.1) (ci := 4) (v := .int 0) (C := "TreePressModel") (T := kb_F4) (N := 21) hx hb ht kb_w4 hown hE.1 hP 0 rfl rfl 2 (by decide) (ht _ wd_822be019) (fun _ h9 => h9) rfl d_M_readsHead_12 ?_
  refine lv_icmp_gt (tgt := 33) hx hb d_M_readsHead_15 (by decide) (fun c9 => ?_) (fun c9 => absurd (by decide) c9)
  refine lv_aload_n hx hb d_M_readsHead_33 rfl (lv_at hl 1 rfl) ?_
  refine lv_aload_n hx hb d_M_readsHead_34 rfl (lv_at hl 1 rfl) ?_
  refine va_get (D := G.1) (ci := 4) (v := .int 0) (C := "TreePressModel") (T := kb_F4) (N := 21) hx hb ht kb_w4 hown hE.1 hP 0 rfl rfl 2 (by decide) (ht _ wd_822be019) (fun _ h9 => h9) rfl d_M_readsHead_35 ?_
  refine kb_i (wc := [kb_o h 4 [.int T, .ref m1, .int 0, .ref m3, .int 0, .ref m5, .ref m6, .ref m7, .ref m8, .ref m9, .ref m10, .ref m11, .ref m12, .ref m13, .ref m14, .ref m15, .int 0, .int 0, .int 0, .int 0, .int 0]]) (wr := []) hE hP hD hS [0] [] rfl rfl (by decide) (by decide) (kb_rV (As := [.int 0]) (rest := []) (wc := [kb_o h 4 [.int T, .ref m1, .int 0, .ref m3, .int 0, .ref m5, .ref m6, .ref m7, .ref m8, .ref m9, .ref m10, .ref m11, .ref m12, .ref m13, .ref m14, .ref m15, .int 0, .int 0, .int 0, .int 0, .int 0]]) (q0 := 0) ⟨hx, hb, hml, hown, ht⟩ ((c_M_fail l G h T m1 m3 m5 m6 m7 m8 m9 m10 m11 m12 m13 m14 m15) _) (kb_gV wd_6df6ad16 wd_ba64779a wd_a31e5b27 wd_38099713 wd_dbf1a9fb) ⟨rfl, hd_69b7ab3d⟩ ⟨(Nat.le_of_ble_eq_true rfl), (Nat.le_of_ble_eq_true rfl)⟩ hE hP hD hS [0] rfl (by decide) rfl rfl rfl hl.1 rfl (Nat.le_of_ble_eq_true rfl) d_M_readsHead_38 ⟨(Nat.le_of_ble_eq_true rfl), (Nat.le_of_ble_eq_true rfl)⟩) (fun rv2 uu1 H locs hw hP hD hS => ?_)
  have hP : va_P G.1 kb_cl [kb_o h 4 [.int T, .ref m1, .int 0, .ref m3, .int 0, .ref m5, .ref m6, .ref m7, .ref m8, .ref m9, .ref m10, .ref m11, .ref m12, .ref m13, .ref m14, .ref m15, .int 0, .int 0, .int 0, .int 0, .int 0]] H := hP
  have hD : va_D A [kb_o h 4 [.int T, .ref m1, .int 0, .ref m3, .int 0, .ref m5, .ref m6, .ref m7, .ref m8, .ref m9, .ref m10, .ref m11, .ref m12, .ref m13, .ref m14, .ref m15, .int 0, .int 0, .int 0, .int 0, .int 0]] := hD
  refine kb_top (y := 0) (show rv2 = 0 from hw) ?_
  exact kb_retz (kb_l [], kb_f []) hx hb hr rfl hlocks hE hP hD hS [0] rfl (by decide) rfl rfl (Nat.le_of_ble_eq_true rfl) (Nat.le_of_ble_eq_true rfl) d_M_readsHead_41

set_option maxHeartbeats 4000000 in
set_option maxRecDepth 100000 in
theorem c_M_read (l : Launch) (G : kb_G) (h : Nat) (T : Int32) (m1 : Nat) (m3 : Nat) (m5 : Nat) (m6 : Nat) (m7 : Nat) (m8 : Nat) (m9 : Nat) (m10 : Nat) (m11 : Nat) (m12 : Nat) (m13 : Nat) (m14 : Nat) (m15 : Nat) : kb_ci l G ⟨"TreePressModel", "read", "()I"⟩ prog_6_method_39_code 2 (some .int) 3 0 0 [.ref h] [kb_o h 4 [.int T, .ref m1, .int 0, .ref m3, .int 0, .ref m5, .ref m6, .ref m7, .ref m8, .ref m9, .ref m10, .ref m11, .ref m12, .ref m13, .ref m14, .ref m15, .int 0, .int 0, .int 0, .int 0, .int 0]] (fun r u => r = 0) (fun u => [kb_o h 4 [.int 0, .ref m1, .int 0, .ref m3, .int 0, .ref m5, .ref m6, .ref m7, .ref m8, .ref m9, .ref m10, .ref m11, .ref m12, .ref m13, .ref m14, .ref m15, .int 0, .int 0, .int 0, .int 0, .int 0]]) := by
  intro sz
  refine kb_body (QQ := fun A => kb_Qi G A (fun r u => r = 0) (fun u => [kb_o h 4 [.int 0, .ref m1, .int 0, .ref m3, .int 0, .ref m5, .ref m6, .ref m7, .ref m8, .ref m9, .ref m10, .ref m11, .ref m12, .ref m13, .ref m14, .ref m15, .int 0, .int 0, .int 0, .int 0, .int 0]])) (by decide) (Nat.le_of_ble_eq_true rfl) ?_
  intro p e s m below meth c A B ls hl
  obtain ⟨hx, hb, hr, hml, hlocks, hin, hown, ht, hE, hP, hD, hS⟩ := B
  have hl : lv_has ls 2 [(0, .ref h)] := hl
  have hP0 := hP
  obtain ⟨H, hHe⟩ : ∃ H, H = s.heap := ⟨_, rfl⟩
  rw [← hHe] at hP
  have hS : va_S A s.heap H [] := by rw [hHe]; exact hS
  refine kb_at hHe ?_
  clear hHe
  refine lv_aload_n hx hb d_M_read_0 rfl (lv_at hl 0 rfl) ?_
  refine lv_iconst (v := 0) hx hb d_M_read_1 (by decide) ?_
  refine va_put (D := G.1) (ci := 4) (v := .int 0) (ty := .int) (C := "TreePressModel") (T := kb_F4) (N := 21) hx hb ht kb_w4 kb_y4 kb_p4 kb_n4 hown hE.1 hP hD hS 0 rfl rfl 0 (by decide) (ht _ wd_d5599598) (fun _ h9 => h9) rfl (by decide +kernel) rfl rfl (Nat.le_of_ble_eq_true rfl) d_M_read_2 (fun H locs hP hD hS => ?_)
  have hP : va_P G.1 kb_cl [kb_o h 4 [.int 0, .ref m1, .int 0, .ref m3, .int 0, .ref m5, .ref m6, .ref m7, .ref m8, .ref m9, .ref m10, .ref m11, .ref m12, .ref m13, .ref m14, .ref m15, .int 0, .int 0, .int 0, .int 0, .int 0]] H := hP
  have hD : va_D A [kb_o h 4 [.int 0, .ref m1, .int 0, .ref m3, .int 0, .ref m5, .ref m6, .ref m7, .ref m8, .ref m9, .ref m10, .ref m11, .ref m12, .ref m13, .ref m14, .ref m15, .int 0, .int 0, .int 0, .int 0, .int 0]] := hD
  refine lv_aload_n hx hb d_M_read_5 rfl (lv_at hl 0 rfl) ?_
  refine kb_i (wc := [kb_o h 4 [.int 0, .ref m1, .int 0, .ref m3, .int 0, .ref m5, .ref m6, .ref m7, .ref m8, .ref m9, .ref m10, .ref m11, .ref m12, .ref m13, .ref m14, .ref m15, .int 0, .int 0, .int 0, .int 0, .int 0]]) (wr := []) hE hP hD hS [0] [] rfl rfl (by decide) (by decide) (kb_rV (As := []) (rest := []) (wc := [kb_o h 4 [.int 0, .ref m1, .int 0, .ref m3, .int 0, .ref m5, .ref m6, .ref m7, .ref m8, .ref m9, .ref m10, .ref m11, .ref m12, .ref m13, .ref m14, .ref m15, .int 0, .int 0, .int 0, .int 0, .int 0]]) (q0 := 0) ⟨hx, hb, hml, hown, ht⟩ ((c_M_readsHead l G h 0 m1 m3 m5 m6 m7 m8 m9 m10 m11 m12 m13 m14 m15) _) (kb_gV wd_7f5301a3 wd_db297a23 wd_8316958c wd_38099713 wd_09e2758a) ⟨rfl, hd_06cacaa3⟩ ⟨(Nat.le_of_ble_eq_true rfl), (Nat.le_of_ble_eq_true rfl)⟩ hE hP hD hS [0] rfl (by decide) rfl rfl rfl hl.1 rfl (Nat.le_of_ble_eq_true rfl) d_M_read_6 ⟨(Nat.le_of_ble_eq_true rfl), (Nat.le_of_ble_eq_true rfl)⟩) (fun rv2 uu1 H locs hw hP hD hS => ?_)
  have hP : va_P G.1 kb_cl [kb_o h 4 [.int 0, .ref m1, .int 0, .ref m3, .int 0, .ref m5, .ref m6, .ref m7, .ref m8, .ref m9, .ref m10, .ref m11, .ref m12, .ref m13, .ref m14, .ref m15, .int 0, .int 0, .int 0, .int 0, .int 0]] H := hP
  have hD : va_D A [kb_o h 4 [.int 0, .ref m1, .int 0, .ref m3, .int 0, .ref m5, .ref m6, .ref m7, .ref m8, .ref m9, .ref m10, .ref m11, .ref m12, .ref m13, .ref m14, .ref m15, .int 0, .int 0, .int 0, .int 0, .int 0]] := hD
  refine kb_top (y := 0) (show rv2 = 0 from hw) ?_
  refine lv_istore_n (lv' := [(1, .int 0), (0, .ref h)]) hx hb d_M_read_9 rfl hl (by decide) rfl (fun ls hl => ?_)
  refine lv_iload_n hx hb d_M_read_10 rfl (lv_at hl 0 rfl) ?_
  refine lv_if_eq (tgt := 47) hx hb d_M_read_11 (by decide) (fun c9 => ?_) (fun c9 => absurd (by decide) c9)
  refine lv_aload_n hx hb d_M_read_47 rfl (lv_at hl 1 rfl) ?_
  refine lv_iconst (v := 0) hx hb d_M_read_48 (by decide) ?_
  refine va_put (D := G.1) (ci := 4) (v := .int 0) (ty := .int) (C := "TreePressModel") (T := kb_F4) (N := 21) hx hb ht kb_w4 kb_y4 kb_p4 kb_n4 hown hE.1 hP hD hS 0 rfl rfl 2 (by decide) (ht _ wd_822be019) (fun _ h9 => h9) rfl (by decide +kernel) rfl rfl (Nat.le_of_ble_eq_true rfl) d_M_read_49 (fun H locs hP hD hS => ?_)
  have hP : va_P G.1 kb_cl [kb_o h 4 [.int 0, .ref m1, .int 0, .ref m3, .int 0, .ref m5, .ref m6, .ref m7, .ref m8, .ref m9, .ref m10, .ref m11, .ref m12, .ref m13, .ref m14, .ref m15, .int 0, .int 0, .int 0, .int 0, .int 0]] H := hP
  have hD : va_D A [kb_o h 4 [.int 0, .ref m1, .int 0, .ref m3, .int 0, .ref m5, .ref m6, .ref m7, .ref m8, .ref m9, .ref m10, .ref m11, .ref m12, .ref m13, .ref m14, .ref m15, .int 0, .int 0, .int 0, .int 0, .int 0]] := hD
  refine lv_iload_n hx hb d_M_read_52 rfl (lv_at hl 0 rfl) ?_
  refine lv_if_eq (tgt := 60) hx hb d_M_read_53 (by decide) (fun c9 => ?_) (fun c9 => absurd (by decide) c9)
  refine lv_iload_n hx hb d_M_read_60 rfl (lv_at hl 0 rfl) ?_
  refine lv_if_eq (tgt := 68) hx hb d_M_read_61 (by decide) (fun c9 => ?_) (fun c9 => absurd (by decide) c9)
  refine lv_aload_n hx hb d_M_read_68 rfl (lv_at hl 1 rfl) ?_
  refine va_get (D := G.1) (ci := 4) (v := .int 0) (C := "TreePressModel") (T := kb_F4) (N := 21) hx hb ht kb_w4 hown hE.1 hP 0 rfl rfl 19 (by decide) (ht _ wd_83f7538e) (fun _ h9 => h9) rfl d_M_read_69 ?_
  exact kb_reti (kb_l [], kb_f []) hx hb hr hlocks hE hP hD hS [0] rfl (by decide) rfl rfl (Nat.le_of_ble_eq_true rfl) (Nat.le_of_ble_eq_true rfl) d_M_read_72

set_option maxHeartbeats 4000000 in
set_option maxRecDepth 100000 in
theorem c_M_nodes (l : Launch) (G : kb_G) (h : Nat) (T : Int32) (m1 : Nat) (m3 : Nat) (m5 : Nat) (m6 : Nat) (m7 : Nat) (m8 : Nat) (m9 : Nat) (m10 : Nat) (m11 : Nat) (m12 : Nat) (m13 : Nat) (m14 : Nat) (m15 : Nat) : kb_ci l G ⟨"TreePressModel", "nodes", "()I"⟩ prog_6_method_40_code 1 (some .int) 1 0 0 [.ref h] [kb_o h 4 [.int T, .ref m1, .int 0, .ref m3, .int 0, .ref m5, .ref m6, .ref m7, .ref m8, .ref m9, .ref m10, .ref m11, .ref m12, .ref m13, .ref m14, .ref m15, .int 0, .int 0, .int 0, .int 0, .int 0], kb_a G m5 2 (upd (fun _ => 0) 0 1)] (fun r u => r = 1) (fun u => [kb_o h 4 [.int 0, .ref m1, .int 0, .ref m3, .int 0, .ref m5, .ref m6, .ref m7, .ref m8, .ref m9, .ref m10, .ref m11, .ref m12, .ref m13, .ref m14, .ref m15, .int 0, .int 0, .int 0, .int 0, .int 0]]) := by
  intro sz
  refine kb_body (QQ := fun A => kb_Qi G A (fun r u => r = 1) (fun u => [kb_o h 4 [.int 0, .ref m1, .int 0, .ref m3, .int 0, .ref m5, .ref m6, .ref m7, .ref m8, .ref m9, .ref m10, .ref m11, .ref m12, .ref m13, .ref m14, .ref m15, .int 0, .int 0, .int 0, .int 0, .int 0]])) (by decide) (Nat.le_of_ble_eq_true rfl) ?_
  intro p e s m below meth c A B ls hl
  obtain ⟨hx, hb, hr, hml, hlocks, hin, hown, ht, hE, hP, hD, hS⟩ := B
  have hl : lv_has ls 1 [(0, .ref h)] := hl
  have hP0 := hP
  obtain ⟨H, hHe⟩ : ∃ H, H = s.heap := ⟨_, rfl⟩
  rw [← hHe] at hP
  have hS : va_S A s.heap H [] := by rw [hHe]; exact hS
  refine kb_at hHe ?_
  clear hHe
  refine lv_aload_n hx hb d_M_nodes_0 rfl (lv_at hl 0 rfl) ?_
  refine lv_iconst (v := 0) hx hb d_M_nodes_1 (by decide) ?_
  refine va_put (D := G.1) (ci := 4) (v := .int 0) (ty := .int) (C := "TreePressModel") (T := kb_F4) (N := 21) hx hb ht kb_w4 kb_y4 kb_p4 kb_n4 hown hE.1 hP hD hS 0 rfl rfl 0 (by decide) (ht _ wd_d5599598) (fun _ h9 => h9) rfl (by decide +kernel) rfl rfl (Nat.le_of_ble_eq_true rfl) d_M_nodes_2 (fun H locs hP hD hS => ?_)
  have hP : va_P G.1 kb_cl [kb_o h 4 [.int 0, .ref m1, .int 0, .ref m3, .int 0, .ref m5, .ref m6, .ref m7, .ref m8, .ref m9, .ref m10, .ref m11, .ref m12, .ref m13, .ref m14, .ref m15, .int 0, .int 0, .int 0, .int 0, .int 0], kb_a G m5 2 (upd (fun _ => 0) 0 1)] H := hP
  have hD : va_D A [kb_o h 4 [.int 0, .ref m1, .int 0, .ref m3, .int 0, .ref m5, .ref m6, .ref m7, .ref m8, .ref m9, .ref m10, .ref m11, .ref m12, .ref m13, .ref m14, .ref m15, .int 0, .int 0, .int 0, .int 0, .int 0], kb_a G m5 2 (upd (fun _ => 0) 0 1)] := hD
  refine lv_aload_n hx hb d_M_nodes_5 rfl (lv_at hl 0 rfl) ?_
  refine va_get (D := G.1) (ci := 4) (v := .ref m5) (C := "TreePressModel") (T := kb_F4) (N := 21) hx hb ht kb_w4 hown hE.1 hP 0 rfl rfl 5 (by decide) (ht _ wd_e8505d70) (fun _ h9 => h9) rfl d_M_nodes_6 ?_
  refine lv_iconst (v := 0) hx hb d_M_nodes_9 (by decide) ?_
  refine va_iald hx hb hE.1 hP 1 0 rfl rfl (show ¬ ((0 : Int32) < 0 ∨ 2 ≤ (0 : Int32).toNatClampNeg) by decide) d_M_nodes_10 ?_
  refine kb_top (y := 1) rfl ?_
  exact kb_reti (kb_l [], kb_f []) hx hb hr hlocks hE hP hD hS [0] rfl (by decide) rfl rfl (Nat.le_of_ble_eq_true rfl) (Nat.le_of_ble_eq_true rfl) d_M_nodes_11

set_option maxHeartbeats 4000000 in
set_option maxRecDepth 100000 in
theorem c_M_properties (l : Launch) (G : kb_G) (h : Nat) (T : Int32) (m1 : Nat) (m3 : Nat) (m5 : Nat) (m6 : Nat) (m7 : Nat) (m8 : Nat) (m9 : Nat) (m10 : Nat) (m11 : Nat) (m12 : Nat) (m13 : Nat) (m14 : Nat) (m15 : Nat) : kb_ci l G ⟨"TreePressModel", "properties", "()I"⟩ prog_6_method_41_code 1 (some .int) 1 0 0 [.ref h] [kb_o h 4 [.int T, .ref m1, .int 0, .ref m3, .int 0, .ref m5, .ref m6, .ref m7, .ref m8, .ref m9, .ref m10, .ref m11, .ref m12, .ref m13, .ref m14, .ref m15, .int 0, .int 0, .int 0, .int 0, .int 0], kb_a G m6 2 (upd (fun _ => 0) 0 0)] (fun r u => r = 0) (fun u => [kb_o h 4 [.int 0, .ref m1, .int 0, .ref m3, .int 0, .ref m5, .ref m6, .ref m7, .ref m8, .ref m9, .ref m10, .ref m11, .ref m12, .ref m13, .ref m14, .ref m15, .int 0, .int 0, .int 0, .int 0, .int 0]]) := by
  intro sz
  refine kb_body (QQ := fun A => kb_Qi G A (fun r u => r = 0) (fun u => [kb_o h 4 [.int 0, .ref m1, .int 0, .ref m3, .int 0, .ref m5, .ref m6, .ref m7, .ref m8, .ref m9, .ref m10, .ref m11, .ref m12, .ref m13, .ref m14, .ref m15, .int 0, .int 0, .int 0, .int 0, .int 0]])) (by decide) (Nat.le_of_ble_eq_true rfl) ?_
  intro p e s m below meth c A B ls hl
  obtain ⟨hx, hb, hr, hml, hlocks, hin, hown, ht, hE, hP, hD, hS⟩ := B
  have hl : lv_has ls 1 [(0, .ref h)] := hl
  have hP0 := hP
  obtain ⟨H, hHe⟩ : ∃ H, H = s.heap := ⟨_, rfl⟩
  rw [← hHe] at hP
  have hS : va_S A s.heap H [] := by rw [hHe]; exact hS
  refine kb_at hHe ?_
  clear hHe
  refine lv_aload_n hx hb d_M_properties_0 rfl (lv_at hl 0 rfl) ?_
  refine lv_iconst (v := 0) hx hb d_M_properties_1 (by decide) ?_
  refine va_put (D := G.1) (ci := 4) (v := .int 0) (ty := .int) (C := "TreePressModel") (T := kb_F4) (N := 21) hx hb ht kb_w4 kb_y4 kb_p4 kb_n4 hown hE.1 hP hD hS 0 rfl rfl 0 (by decide) (ht _ wd_d5599598) (fun _ h9 => h9) rfl (by decide +kernel) rfl rfl (Nat.le_of_ble_eq_true rfl) d_M_properties_2 (fun H locs hP hD hS => ?_)
  have hP : va_P G.1 kb_cl [kb_o h 4 [.int 0, .ref m1, .int 0, .ref m3, .int 0, .ref m5, .ref m6, .ref m7, .ref m8, .ref m9, .ref m10, .ref m11, .ref m12, .ref m13, .ref m14, .ref m15, .int 0, .int 0, .int 0, .int 0, .int 0], kb_a G m6 2 (upd (fun _ => 0) 0 0)] H := hP
  have hD : va_D A [kb_o h 4 [.int 0, .ref m1, .int 0, .ref m3, .int 0, .ref m5, .ref m6, .ref m7, .ref m8, .ref m9, .ref m10, .ref m11, .ref m12, .ref m13, .ref m14, .ref m15, .int 0, .int 0, .int 0, .int 0, .int 0], kb_a G m6 2 (upd (fun _ => 0) 0 0)] := hD
  refine lv_aload_n hx hb d_M_properties_5 rfl (lv_at hl 0 rfl) ?_
  refine va_get (D := G.1) (ci := 4) (v := .ref m6) (C := "TreePressModel") (T := kb_F4) (N := 21) hx hb ht kb_w4 hown hE.1 hP 0 rfl rfl 6 (by decide) (ht _ wd_0c18f9c0) (fun _ h9 => h9) rfl d_M_properties_6 ?_
  refine lv_iconst (v := 0) hx hb d_M_properties_9 (by decide) ?_
  refine va_iald hx hb hE.1 hP 1 0 rfl rfl (show ¬ ((0 : Int32) < 0 ∨ 2 ≤ (0 : Int32).toNatClampNeg) by decide) d_M_properties_10 ?_
  refine kb_top (y := 0) rfl ?_
  exact kb_reti (kb_l [], kb_f []) hx hb hr hlocks hE hP hD hS [0] rfl (by decide) rfl rfl (Nat.le_of_ble_eq_true rfl) (Nat.le_of_ble_eq_true rfl) d_M_properties_11

set_option maxHeartbeats 4000000 in
set_option maxRecDepth 100000 in
theorem c_M_firstOf (l : Launch) (G : kb_G) (h : Nat) (T : Int32) (m1 : Nat) (m3 : Nat) (m5 : Nat) (m6 : Nat) (m7 : Nat) (m8 : Nat) (m9 : Nat) (m10 : Nat) (m11 : Nat) (m12 : Nat) (m13 : Nat) (m14 : Nat) (m15 : Nat) : kb_ci l G ⟨"TreePressModel", "firstOf", "(I)I"⟩ prog_6_method_42_code 3 (some .int) 1 0 0 [.ref h, .int 0] [kb_o h 4 [.int T, .ref m1, .int 0, .ref m3, .int 0, .ref m5, .ref m6, .ref m7, .ref m8, .ref m9, .ref m10, .ref m11, .ref m12, .ref m13, .ref m14, .ref m15, .int 0, .int 0, .int 0, .int 0, .int 0], kb_a G m6 2 (upd (fun _ => 0) 0 0)] (fun r u => r = (-1)) (fun u => [kb_o h 4 [.int T, .ref m1, .int 0, .ref m3, .int 0, .ref m5, .ref m6, .ref m7, .ref m8, .ref m9, .ref m10, .ref m11, .ref m12, .ref m13, .ref m14, .ref m15, .int 0, .int 0, .int 0, .int 0, .int 0], kb_a G m6 2 (upd (fun _ => 0) 0 0)]) := by
  intro sz
  refine kb_body (QQ := fun A => kb_Qi G A (fun r u => r = (-1)) (fun u => [kb_o h 4 [.int T, .ref m1, .int 0, .ref m3, .int 0, .ref m5, .ref m6, .ref m7, .ref m8, .ref m9, .ref m10, .ref m11, .ref m12, .ref m13, .ref m14, .ref m15, .int 0, .int 0, .int 0, .int 0, .int 0], kb_a G m6 2 (upd (fun _ => 0) 0 0)])) (by decide) (Nat.le_of_ble_eq_true rfl) ?_
  intro p e s m below meth c A B ls hl
  obtain ⟨hx, hb, hr, hml, hlocks, hin, hown, ht, hE, hP, hD, hS⟩ := B
  have hl : lv_has ls 3 [(0, .ref h), (1, .int 0)] := hl
  have hP0 := hP
  obtain ⟨H, hHe⟩ : ∃ H, H = s.heap := ⟨_, rfl⟩
  rw [← hHe] at hP
  have hS : va_S A s.heap H [] := by rw [hHe]; exact hS
  refine kb_at hHe ?_
  clear hHe
  refine lv_iconst (v := 0) hx hb d_M_firstOf_0 (by decide) ?_
  refine lv_istore_n (lv' := [(2, .int 0), (0, .ref h), (1, .int 0)]) hx hb d_M_firstOf_1 rfl hl (by decide) rfl (fun ls hl => ?_)
  refine lv_iload_n hx hb d_M_firstOf_2 rfl (lv_at hl 0 rfl) ?_
  refine lv_aload_n hx hb d_M_firstOf_3 rfl (lv_at hl 1 rfl) ?_
  refine va_get (D := G.1) (ci := 4) (v := .ref m6) (C := "TreePressModel") (T := kb_F4) (N := 21) hx hb ht kb_w4 hown hE.1 hP 0 rfl rfl 6 (by decide) (ht _ wd_0c18f9c0) (fun _ h9 => h9) rfl d_M_firstOf_4 ?_
  refine lv_iconst (v := 0) hx hb d_M_firstOf_7 (by decide) ?_
  refine va_iald hx hb hE.1 hP 1 0 rfl rfl (show ¬ ((0 : Int32) < 0 ∨ 2 ≤ (0 : Int32).toNatClampNeg) by decide) d_M_firstOf_8 ?_
  refine kb_top (y := 0) rfl ?_
  refine lv_icmp_ge (tgt := 30) hx hb d_M_firstOf_9 (by decide) (fun c9 => ?_) (fun c9 => absurd (by decide) c9)
  refine lv_iconst (v := (-1)) hx hb d_M_firstOf_30 (by decide) ?_
  exact kb_reti (kb_l [], kb_f []) hx hb hr hlocks hE hP hD hS [0, 1] rfl (by decide) rfl rfl (Nat.le_of_ble_eq_true rfl) (Nat.le_of_ble_eq_true rfl) d_M_firstOf_31

set_option maxHeartbeats 4000000 in
set_option maxRecDepth 100000 in
theorem c_M_manyOf (l : Launch) (G : kb_G) (h : Nat) (T : Int32) (m1 : Nat) (m3 : Nat) (m5 : Nat) (m6 : Nat) (m7 : Nat) (m8 : Nat) (m9 : Nat) (m10 : Nat) (m11 : Nat) (m12 : Nat) (m13 : Nat) (m14 : Nat) (m15 : Nat) : kb_ci l G ⟨"TreePressModel", "manyOf", "(I)I"⟩ prog_6_method_43_code 4 (some .int) 1 0 0 [.ref h, .int 0] [kb_o h 4 [.int T, .ref m1, .int 0, .ref m3, .int 0, .ref m5, .ref m6, .ref m7, .ref m8, .ref m9, .ref m10, .ref m11, .ref m12, .ref m13, .ref m14, .ref m15, .int 0, .int 0, .int 0, .int 0, .int 0], kb_a G m6 2 (upd (fun _ => 0) 0 0)] (fun r u => r = 0) (fun u => [kb_o h 4 [.int T, .ref m1, .int 0, .ref m3, .int 0, .ref m5, .ref m6, .ref m7, .ref m8, .ref m9, .ref m10, .ref m11, .ref m12, .ref m13, .ref m14, .ref m15, .int 0, .int 0, .int 0, .int 0, .int 0], kb_a G m6 2 (upd (fun _ => 0) 0 0)]) := by
  intro sz
  refine kb_body (QQ := fun A => kb_Qi G A (fun r u => r = 0) (fun u => [kb_o h 4 [.int T, .ref m1, .int 0, .ref m3, .int 0, .ref m5, .ref m6, .ref m7, .ref m8, .ref m9, .ref m10, .ref m11, .ref m12, .ref m13, .ref m14, .ref m15, .int 0, .int 0, .int 0, .int 0, .int 0], kb_a G m6 2 (upd (fun _ => 0) 0 0)])) (by decide) (Nat.le_of_ble_eq_true rfl) ?_
  intro p e s m below meth c A B ls hl
  obtain ⟨hx, hb, hr, hml, hlocks, hin, hown, ht, hE, hP, hD, hS⟩ := B
  have hl : lv_has ls 4 [(0, .ref h), (1, .int 0)] := hl
  have hP0 := hP
  obtain ⟨H, hHe⟩ : ∃ H, H = s.heap := ⟨_, rfl⟩
  rw [← hHe] at hP
  have hS : va_S A s.heap H [] := by rw [hHe]; exact hS
  refine kb_at hHe ?_
  clear hHe
  refine lv_iconst (v := 0) hx hb d_M_manyOf_0 (by decide) ?_
  refine lv_istore_n (lv' := [(2, .int 0), (0, .ref h), (1, .int 0)]) hx hb d_M_manyOf_1 rfl hl (by decide) rfl (fun ls hl => ?_)
  refine lv_iconst (v := 0) hx hb d_M_manyOf_2 (by decide) ?_
  refine lv_istore_n (lv' := [(3, .int 0), (2, .int 0), (0, .ref h), (1, .int 0)]) hx hb d_M_manyOf_3 rfl hl (by decide) rfl (fun ls hl => ?_)
  refine lv_iload_n hx hb d_M_manyOf_4 rfl (lv_at hl 0 rfl) ?_
  refine lv_aload_n hx hb d_M_manyOf_5 rfl (lv_at hl 2 rfl) ?_
  refine va_get (D := G.1) (ci := 4) (v := .ref m6) (C := "TreePressModel") (T := kb_F4) (N := 21) hx hb ht kb_w4 hown hE.1 hP 0 rfl rfl 6 (by decide) (ht _ wd_0c18f9c0) (fun _ h9 => h9) rfl d_M_manyOf_6 ?_
  refine lv_iconst (v := 0) hx hb d_M_manyOf_9 (by decide) ?_
  refine va_iald hx hb hE.1 hP 1 0 rfl rfl (show ¬ ((0 : Int32) < 0 ∨ 2 ≤ (0 : Int32).toNatClampNeg) by decide) d_M_manyOf_10 ?_
  refine kb_top (y := 0) rfl ?_
  refine lv_icmp_ge (tgt := 38) hx hb d_M_manyOf_11 (by decide) (fun c9 => ?_) (fun c9 => absurd (by decide) c9)
  refine lv_iload_n hx hb d_M_manyOf_38 rfl (lv_at hl 1 rfl) ?_
  exact kb_reti (kb_l [], kb_f []) hx hb hr hlocks hE hP hD hS [0, 1] rfl (by decide) rfl rfl (Nat.le_of_ble_eq_true rfl) (Nat.le_of_ble_eq_true rfl) d_M_manyOf_39

set_option maxHeartbeats 4000000 in
set_option maxRecDepth 100000 in
theorem c_M_node0 (l : Launch) (G : kb_G) (h : Nat) (T : Int32) (m1 : Nat) (m3 : Nat) (m5 : Nat) (m6 : Nat) (m7 : Nat) (m8 : Nat) (m9 : Nat) (m10 : Nat) (m11 : Nat) (m12 : Nat) (m13 : Nat) (m14 : Nat) (m15 : Nat) : kb_ci l G ⟨"TreePressModel", "node", "(II)I"⟩ prog_6_method_44_code 3 (some .int) 2 0 0 [.ref h, .int 0, .int 0] [kb_o h 4 [.int T, .ref m1, .int 0, .ref m3, .int 0, .ref m5, .ref m6, .ref m7, .ref m8, .ref m9, .ref m10, .ref m11, .ref m12, .ref m13, .ref m14, .ref m15, .int 0, .int 0, .int 0, .int 0, .int 0], kb_a G m5 2 (upd (fun _ => 0) 0 1), kb_a G m6 2 (upd (fun _ => 0) 0 0), kb_a G m8 256 (upd (fun _ => 0) 0 (-1)), kb_a G m9 256 (upd (fun _ => 0) 0 0), kb_a G m10 256 (upd (fun _ => 0) 0 0)] (fun r u => r = (-1)) (fun u => [kb_o h 4 [.int 0, .ref m1, .int 0, .ref m3, .int 0, .ref m5, .ref m6, .ref m7, .ref m8, .ref m9, .ref m10, .ref m11, .ref m12, .ref m13, .ref m14, .ref m15, .int 0, .int 0, .int 0, .int 0, .int 0]]) := by
  intro sz
  refine kb_body (QQ := fun A => kb_Qi G A (fun r u => r = (-1)) (fun u => [kb_o h 4 [.int 0, .ref m1, .int 0, .ref m3, .int 0, .ref m5, .ref m6, .ref m7, .ref m8, .ref m9, .ref m10, .ref m11, .ref m12, .ref m13, .ref m14, .ref m15, .int 0, .int 0, .int 0, .int 0, .int 0]])) (by decide) (Nat.le_of_ble_eq_true rfl) ?_
  intro p e s m below meth c A B ls hl
  obtain ⟨hx, hb, hr, hml, hlocks, hin, hown, ht, hE, hP, hD, hS⟩ := B
  have hl : lv_has ls 3 [(0, .ref h), (1, .int 0), (2, .int 0)] := hl
  have hP0 := hP
  obtain ⟨H, hHe⟩ : ∃ H, H = s.heap := ⟨_, rfl⟩
  rw [← hHe] at hP
  have hS : va_S A s.heap H [] := by rw [hHe]; exact hS
  refine kb_at hHe ?_
  clear hHe
  refine lv_aload_n hx hb d_M_node_0 rfl (lv_at hl 0 rfl) ?_
  refine lv_iload_n hx hb d_M_node_1 rfl (lv_at hl 1 rfl) ?_
  refine lv_if_lt (tgt := 15) hx hb d_M_node_2 (by decide) (fun c9 => absurd c9 (by decide)) (fun c9 => ?_)
  refine lv_iload_n hx hb d_M_node_5 rfl (lv_at hl 1 rfl) ?_
  refine lv_aload_n hx hb d_M_node_6 rfl (lv_at hl 0 rfl) ?_
  refine va_get (D := G.1) (ci := 4) (v := .ref m5) (C := "TreePressModel") (T := kb_F4) (N := 21) hx hb ht kb_w4 hown hE.1 hP 0 rfl rfl 5 (by decide) (ht _ wd_e8505d70) (fun _ h9 => h9) rfl d_M_node_7 ?_
  refine lv_iconst (v := 0) hx hb d_M_node_10 (by decide) ?_
  refine va_iald hx hb hE.1 hP 1 0 rfl rfl (show ¬ ((0 : Int32) < 0 ∨ 2 ≤ (0 : Int32).toNatClampNeg) by decide) d_M_node_11 ?_
  refine kb_top (y := 1) rfl ?_
  refine lv_icmp_lt (tgt := 19) hx hb d_M_node_12 (by decide) (fun c9 => ?_) (fun c9 => absurd (by decide) c9)
  refine lv_iload_n hx hb d_M_node_19 rfl (lv_at hl 2 rfl) ?_
  refine lv_if_lt (tgt := 28) hx hb d_M_node_20 (by decide) (fun c9 => absurd c9 (by decide)) (fun c9 => ?_)
  refine lv_iload_n hx hb d_M_node_23 rfl (lv_at hl 2 rfl) ?_
  refine lv_iconst (v := 3) hx hb d_M_node_24 (by decide) ?_
  refine lv_icmp_le (tgt := 32) hx hb d_M_node_25 (by decide) (fun c9 => ?_) (fun c9 => absurd (by decide) c9)
  refine lv_iconst (v := 0) hx hb d_M_node_32 (by decide) ?_
  refine va_put (D := G.1) (ci := 4) (v := .int 0) (ty := .int) (C := "TreePressModel") (T := kb_F4) (N := 21) hx hb ht kb_w4 kb_y4 kb_p4 kb_n4 hown hE.1 hP hD hS 0 rfl rfl 0 (by decide) (ht _ wd_d5599598) (fun _ h9 => h9) rfl (by decide +kernel) rfl rfl (Nat.le_of_ble_eq_true rfl) d_M_node_33 (fun H locs hP hD hS => ?_)
  have hP : va_P G.1 kb_cl [kb_o h 4 [.int 0, .ref m1, .int 0, .ref m3, .int 0, .ref m5, .ref m6, .ref m7, .ref m8, .ref m9, .ref m10, .ref m11, .ref m12, .ref m13, .ref m14, .ref m15, .int 0, .int 0, .int 0, .int 0, .int 0], kb_a G m5 2 (upd (fun _ => 0) 0 1), kb_a G m6 2 (upd (fun _ => 0) 0 0), kb_a G m8 256 (upd (fun _ => 0) 0 (-1)), kb_a G m9 256 (upd (fun _ => 0) 0 0), kb_a G m10 256 (upd (fun _ => 0) 0 0)] H := hP
  have hD : va_D A [kb_o h 4 [.int 0, .ref m1, .int 0, .ref m3, .int 0, .ref m5, .ref m6, .ref m7, .ref m8, .ref m9, .ref m10, .ref m11, .ref m12, .ref m13, .ref m14, .ref m15, .int 0, .int 0, .int 0, .int 0, .int 0], kb_a G m5 2 (upd (fun _ => 0) 0 1), kb_a G m6 2 (upd (fun _ => 0) 0 0), kb_a G m8 256 (upd (fun _ => 0) 0 (-1)), kb_a G m9 256 (upd (fun _ => 0) 0 0), kb_a G m10 256 (upd (fun _ => 0) 0 0)] := hD
  refine lv_aload_n hx hb d_M_node_36 rfl (lv_at hl 0 rfl) ?_
  refine va_get (D := G.1) (ci := 4) (v := .int 0) (C := "TreePressModel") (T := kb_F4) (N := 21) hx hb ht kb_w4 hown hE.1 hP 0 rfl rfl 0 (by decide) (ht _ wd_d5599598) (fun _ h9 => h9) rfl d_M_node_37 ?_
  refine lv_if_le (tgt := 45) hx hb d_M_node_40 (by decide) (fun c9 => ?_) (fun c9 => absurd (by decide) c9)
  refine lv_iload_n hx hb d_M_node_45 rfl (lv_at hl 2 rfl) ?_
  refine lv_if_ne (tgt := 58) hx hb d_M_node_46 (by decide) (fun c9 => absurd (by decide) c9) (fun c9 => ?_)
  refine lv_aload_n hx hb d_M_node_49 rfl (lv_at hl 0 rfl) ?_
  refine va_get (D := G.1) (ci := 4) (v := .ref m8) (C := "TreePressModel") (T := kb_F4) (N := 21) hx hb ht kb_w4 hown hE.1 hP 0 rfl rfl 8 (by decide) (ht _ wd_51ded947) (fun _ h9 => h9) rfl d_M_node_50 ?_
  refine lv_iload_n hx hb d_M_node_53 rfl (lv_at hl 1 rfl) ?_
  refine va_iald hx hb hE.1 hP 3 0 rfl rfl (show ¬ ((0 : Int32) < 0 ∨ 256 ≤ (0 : Int32).toNatClampNeg) by decide) d_M_node_54 ?_
  refine kb_top (y := (-1)) rfl ?_
  refine lv_goto (tgt := 97) hx hb d_M_node_55 (by decide) ?_
  exact kb_reti (kb_l [], kb_f []) hx hb hr hlocks hE hP hD hS [0] rfl (by decide) rfl rfl (Nat.le_of_ble_eq_true rfl) (Nat.le_of_ble_eq_true rfl) d_M_node_97

set_option maxHeartbeats 4000000 in
set_option maxRecDepth 100000 in
theorem c_M_node1 (l : Launch) (G : kb_G) (h : Nat) (T : Int32) (m1 : Nat) (m3 : Nat) (m5 : Nat) (m6 : Nat) (m7 : Nat) (m8 : Nat) (m9 : Nat) (m10 : Nat) (m11 : Nat) (m12 : Nat) (m13 : Nat) (m14 : Nat) (m15 : Nat) : kb_ci l G ⟨"TreePressModel", "node", "(II)I"⟩ prog_6_method_44_code 3 (some .int) 2 0 0 [.ref h, .int 0, .int 1] [kb_o h 4 [.int T, .ref m1, .int 0, .ref m3, .int 0, .ref m5, .ref m6, .ref m7, .ref m8, .ref m9, .ref m10, .ref m11, .ref m12, .ref m13, .ref m14, .ref m15, .int 0, .int 0, .int 0, .int 0, .int 0], kb_a G m5 2 (upd (fun _ => 0) 0 1), kb_a G m6 2 (upd (fun _ => 0) 0 0), kb_a G m8 256 (upd (fun _ => 0) 0 (-1)), kb_a G m9 256 (upd (fun _ => 0) 0 0), kb_a G m10 256 (upd (fun _ => 0) 0 0)] (fun r u => r = 0) (fun u => [kb_o h 4 [.int 0, .ref m1, .int 0, .ref m3, .int 0, .ref m5, .ref m6, .ref m7, .ref m8, .ref m9, .ref m10, .ref m11, .ref m12, .ref m13, .ref m14, .ref m15, .int 0, .int 0, .int 0, .int 0, .int 0]]) := by
  intro sz
  refine kb_body (QQ := fun A => kb_Qi G A (fun r u => r = 0) (fun u => [kb_o h 4 [.int 0, .ref m1, .int 0, .ref m3, .int 0, .ref m5, .ref m6, .ref m7, .ref m8, .ref m9, .ref m10, .ref m11, .ref m12, .ref m13, .ref m14, .ref m15, .int 0, .int 0, .int 0, .int 0, .int 0]])) (by decide) (Nat.le_of_ble_eq_true rfl) ?_
  intro p e s m below meth c A B ls hl
  obtain ⟨hx, hb, hr, hml, hlocks, hin, hown, ht, hE, hP, hD, hS⟩ := B
  have hl : lv_has ls 3 [(0, .ref h), (1, .int 0), (2, .int 1)] := hl
  have hP0 := hP
  obtain ⟨H, hHe⟩ : ∃ H, H = s.heap := ⟨_, rfl⟩
  rw [← hHe] at hP
  have hS : va_S A s.heap H [] := by rw [hHe]; exact hS
  refine kb_at hHe ?_
  clear hHe
  refine lv_aload_n hx hb d_M_node_0 rfl (lv_at hl 0 rfl) ?_
  refine lv_iload_n hx hb d_M_node_1 rfl (lv_at hl 1 rfl) ?_
  refine lv_if_lt (tgt := 15) hx hb d_M_node_2 (by decide) (fun c9 => absurd c9 (by decide)) (fun c9 => ?_)
  refine lv_iload_n hx hb d_M_node_5 rfl (lv_at hl 1 rfl) ?_
  refine lv_aload_n hx hb d_M_node_6 rfl (lv_at hl 0 rfl) ?_
  refine va_get (D := G.1) (ci := 4) (v := .ref m5) (C := "TreePressModel") (T := kb_F4) (N := 21) hx hb ht kb_w4 hown hE.1 hP 0 rfl rfl 5 (by decide) (ht _ wd_e8505d70) (fun _ h9 => h9) rfl d_M_node_7 ?_
  refine lv_iconst (v := 0) hx hb d_M_node_10 (by decide) ?_
  refine va_iald hx hb hE.1 hP 1 0 rfl rfl (show ¬ ((0 : Int32) < 0 ∨ 2 ≤ (0 : Int32).toNatClampNeg) by decide) d_M_node_11 ?_
  refine kb_top (y := 1) rfl ?_
  refine lv_icmp_lt (tgt := 19) hx hb d_M_node_12 (by decide) (fun c9 => ?_) (fun c9 => absurd (by decide) c9)
  refine lv_iload_n hx hb d_M_node_19 rfl (lv_at hl 2 rfl) ?_
  refine lv_if_lt (tgt := 28) hx hb d_M_node_20 (by decide) (fun c9 => absurd c9 (by decide)) (fun c9 => ?_)
  refine lv_iload_n hx hb d_M_node_23 rfl (lv_at hl 2 rfl) ?_
  refine lv_iconst (v := 3) hx hb d_M_node_24 (by decide) ?_
  refine lv_icmp_le (tgt := 32) hx hb d_M_node_25 (by decide) (fun c9 => ?_) (fun c9 => absurd (by decide) c9)
  refine lv_iconst (v := 0) hx hb d_M_node_32 (by decide) ?_
  refine va_put (D := G.1) (ci := 4) (v := .int 0) (ty := .int) (C := "TreePressModel") (T := kb_F4) (N := 21) hx hb ht kb_w4 kb_y4 kb_p4 kb_n4 hown hE.1 hP hD hS 0 rfl rfl 0 (by decide) (ht _ wd_d5599598) (fun _ h9 => h9) rfl (by decide +kernel) rfl rfl (Nat.le_of_ble_eq_true rfl) d_M_node_33 (fun H locs hP hD hS => ?_)
  have hP : va_P G.1 kb_cl [kb_o h 4 [.int 0, .ref m1, .int 0, .ref m3, .int 0, .ref m5, .ref m6, .ref m7, .ref m8, .ref m9, .ref m10, .ref m11, .ref m12, .ref m13, .ref m14, .ref m15, .int 0, .int 0, .int 0, .int 0, .int 0], kb_a G m5 2 (upd (fun _ => 0) 0 1), kb_a G m6 2 (upd (fun _ => 0) 0 0), kb_a G m8 256 (upd (fun _ => 0) 0 (-1)), kb_a G m9 256 (upd (fun _ => 0) 0 0), kb_a G m10 256 (upd (fun _ => 0) 0 0)] H := hP
  have hD : va_D A [kb_o h 4 [.int 0, .ref m1, .int 0, .ref m3, .int 0, .ref m5, .ref m6, .ref m7, .ref m8, .ref m9, .ref m10, .ref m11, .ref m12, .ref m13, .ref m14, .ref m15, .int 0, .int 0, .int 0, .int 0, .int 0], kb_a G m5 2 (upd (fun _ => 0) 0 1), kb_a G m6 2 (upd (fun _ => 0) 0 0), kb_a G m8 256 (upd (fun _ => 0) 0 (-1)), kb_a G m9 256 (upd (fun _ => 0) 0 0), kb_a G m10 256 (upd (fun _ => 0) 0 0)] := hD
  refine lv_aload_n hx hb d_M_node_36 rfl (lv_at hl 0 rfl) ?_
  refine va_get (D := G.1) (ci := 4) (v := .int 0) (C := "TreePressModel") (T := kb_F4) (N := 21) hx hb ht kb_w4 hown hE.1 hP 0 rfl rfl 0 (by decide) (ht _ wd_d5599598) (fun _ h9 => h9) rfl d_M_node_37 ?_
  refine lv_if_le (tgt := 45) hx hb d_M_node_40 (by decide) (fun c9 => ?_) (fun c9 => absurd (by decide) c9)
  refine lv_iload_n hx hb d_M_node_45 rfl (lv_at hl 2 rfl) ?_
  refine lv_if_ne (tgt := 58) hx hb d_M_node_46 (by decide) (fun c9 => ?_) (fun c9 => absurd c9 (by decide))
  refine lv_iload_n hx hb d_M_node_58 rfl (lv_at hl 2 rfl) ?_
  refine lv_iconst (v := 1) hx hb d_M_node_59 (by decide) ?_
  refine lv_icmp_ne (tgt := 71) hx hb d_M_node_60 (by decide) (fun c9 => absurd (by decide) c9) (fun c9 => ?_)
  refine lv_aload_n hx hb d_M_node_63 rfl (lv_at hl 0 rfl) ?_
  refine lv_iload_n hx hb d_M_node_64 rfl (lv_at hl 1 rfl) ?_
  refine kb_i (wc := [kb_o h 4 [.int 0, .ref m1, .int 0, .ref m3, .int 0, .ref m5, .ref m6, .ref m7, .ref m8, .ref m9, .ref m10, .ref m11, .ref m12, .ref m13, .ref m14, .ref m15, .int 0, .int 0, .int 0, .int 0, .int 0], kb_a G m6 2 (upd (fun _ => 0) 0 0)]) (wr := [kb_a G m5 2 (upd (fun _ => 0) 0 1), kb_a G m8 256 (upd (fun _ => 0) 0 (-1)), kb_a G m9 256 (upd (fun _ => 0) 0 0), kb_a G m10 256 (upd (fun _ => 0) 0 0)]) hE hP hD hS [0, 2] [1, 3, 4, 5] rfl rfl (by decide) (by decide) (kb_rV (As := [.int 0]) (rest := []) (wc := [kb_o h 4 [.int 0, .ref m1, .int 0, .ref m3, .int 0, .ref m5, .ref m6, .ref m7, .ref m8, .ref m9, .ref m10, .ref m11, .ref m12, .ref m13, .ref m14, .ref m15, .int 0, .int 0, .int 0, .int 0, .int 0], kb_a G m6 2 (upd (fun _ => 0) 0 0)]) (q0 := 0) ⟨hx, hb, hml, hown, ht⟩ ((c_M_manyOf l G h 0 m1 m3 m5 m6 m7 m8 m9 m10 m11 m12 m13 m14 m15) _) (kb_gV wd_9a0734e4 wd_24891b17 wd_daa033e2 wd_38099713 wd_6f73b3d3) ⟨rfl, hd_cfdf9941⟩ ⟨(Nat.le_of_ble_eq_true rfl), (Nat.le_of_ble_eq_true rfl)⟩ hE hP hD hS [0, 2] rfl (by decide) rfl rfl rfl hl.1 rfl (Nat.le_of_ble_eq_true rfl) d_M_node_65 ⟨(Nat.le_of_ble_eq_true rfl), (Nat.le_of_ble_eq_true rfl)⟩) (fun rv2 uu1 H locs hw hP hD hS => ?_)
  have hP : va_P G.1 kb_cl [kb_a G m5 2 (upd (fun _ => 0) 0 1), kb_a G m8 256 (upd (fun _ => 0) 0 (-1)), kb_a G m9 256 (upd (fun _ => 0) 0 0), kb_a G m10 256 (upd (fun _ => 0) 0 0), kb_o h 4 [.int 0, .ref m1, .int 0, .ref m3, .int 0, .ref m5, .ref m6, .ref m7, .ref m8, .ref m9, .ref m10, .ref m11, .ref m12, .ref m13, .ref m14, .ref m15, .int 0, .int 0, .int 0, .int 0, .int 0], kb_a G m6 2 (upd (fun _ => 0) 0 0)] H := hP
  have hD : va_D A [kb_a G m5 2 (upd (fun _ => 0) 0 1), kb_a G m8 256 (upd (fun _ => 0) 0 (-1)), kb_a G m9 256 (upd (fun _ => 0) 0 0), kb_a G m10 256 (upd (fun _ => 0) 0 0), kb_o h 4 [.int 0, .ref m1, .int 0, .ref m3, .int 0, .ref m5, .ref m6, .ref m7, .ref m8, .ref m9, .ref m10, .ref m11, .ref m12, .ref m13, .ref m14, .ref m15, .int 0, .int 0, .int 0, .int 0, .int 0], kb_a G m6 2 (upd (fun _ => 0) 0 0)] := hD
  refine kb_top (y := 0) (show rv2 = 0 from hw) ?_
  refine lv_goto (tgt := 97) hx hb d_M_node_68 (by decide) ?_
  exact kb_reti (kb_l [], kb_f []) hx hb hr hlocks hE hP hD hS [4] rfl (by decide) rfl rfl (Nat.le_of_ble_eq_true rfl) (Nat.le_of_ble_eq_true rfl) d_M_node_97

set_option maxHeartbeats 4000000 in
set_option maxRecDepth 100000 in
theorem c_M_node2 (l : Launch) (G : kb_G) (h : Nat) (T : Int32) (m1 : Nat) (m3 : Nat) (m5 : Nat) (m6 : Nat) (m7 : Nat) (m8 : Nat) (m9 : Nat) (m10 : Nat) (m11 : Nat) (m12 : Nat) (m13 : Nat) (m14 : Nat) (m15 : Nat) : kb_ci l G ⟨"TreePressModel", "node", "(II)I"⟩ prog_6_method_44_code 3 (some .int) 2 0 0 [.ref h, .int 0, .int 2] [kb_o h 4 [.int T, .ref m1, .int 0, .ref m3, .int 0, .ref m5, .ref m6, .ref m7, .ref m8, .ref m9, .ref m10, .ref m11, .ref m12, .ref m13, .ref m14, .ref m15, .int 0, .int 0, .int 0, .int 0, .int 0], kb_a G m5 2 (upd (fun _ => 0) 0 1), kb_a G m6 2 (upd (fun _ => 0) 0 0), kb_a G m8 256 (upd (fun _ => 0) 0 (-1)), kb_a G m9 256 (upd (fun _ => 0) 0 0), kb_a G m10 256 (upd (fun _ => 0) 0 0)] (fun r u => r = (-1)) (fun u => [kb_o h 4 [.int 0, .ref m1, .int 0, .ref m3, .int 0, .ref m5, .ref m6, .ref m7, .ref m8, .ref m9, .ref m10, .ref m11, .ref m12, .ref m13, .ref m14, .ref m15, .int 0, .int 0, .int 0, .int 0, .int 0]]) := by
  intro sz
  refine kb_body (QQ := fun A => kb_Qi G A (fun r u => r = (-1)) (fun u => [kb_o h 4 [.int 0, .ref m1, .int 0, .ref m3, .int 0, .ref m5, .ref m6, .ref m7, .ref m8, .ref m9, .ref m10, .ref m11, .ref m12, .ref m13, .ref m14, .ref m15, .int 0, .int 0, .int 0, .int 0, .int 0]])) (by decide) (Nat.le_of_ble_eq_true rfl) ?_
  intro p e s m below meth c A B ls hl
  obtain ⟨hx, hb, hr, hml, hlocks, hin, hown, ht, hE, hP, hD, hS⟩ := B
  have hl : lv_has ls 3 [(0, .ref h), (1, .int 0), (2, .int 2)] := hl
  have hP0 := hP
  obtain ⟨H, hHe⟩ : ∃ H, H = s.heap := ⟨_, rfl⟩
  rw [← hHe] at hP
  have hS : va_S A s.heap H [] := by rw [hHe]; exact hS
  refine kb_at hHe ?_
  clear hHe
  refine lv_aload_n hx hb d_M_node_0 rfl (lv_at hl 0 rfl) ?_
  refine lv_iload_n hx hb d_M_node_1 rfl (lv_at hl 1 rfl) ?_
  refine lv_if_lt (tgt := 15) hx hb d_M_node_2 (by decide) (fun c9 => absurd c9 (by decide)) (fun c9 => ?_)
  refine lv_iload_n hx hb d_M_node_5 rfl (lv_at hl 1 rfl) ?_
  refine lv_aload_n hx hb d_M_node_6 rfl (lv_at hl 0 rfl) ?_
  refine va_get (D := G.1) (ci := 4) (v := .ref m5) (C := "TreePressModel") (T := kb_F4) (N := 21) hx hb ht kb_w4 hown hE.1 hP 0 rfl rfl 5 (by decide) (ht _ wd_e8505d70) (fun _ h9 => h9) rfl d_M_node_7 ?_
  refine lv_iconst (v := 0) hx hb d_M_node_10 (by decide) ?_
  refine va_iald hx hb hE.1 hP 1 0 rfl rfl (show ¬ ((0 : Int32) < 0 ∨ 2 ≤ (0 : Int32).toNatClampNeg) by decide) d_M_node_11 ?_
  refine kb_top (y := 1) rfl ?_
  refine lv_icmp_lt (tgt := 19) hx hb d_M_node_12 (by decide) (fun c9 => ?_) (fun c9 => absurd (by decide) c9)
  refine lv_iload_n hx hb d_M_node_19 rfl (lv_at hl 2 rfl) ?_
  refine lv_if_lt (tgt := 28) hx hb d_M_node_20 (by decide) (fun c9 => absurd c9 (by decide)) (fun c9 => ?_)
  refine lv_iload_n hx hb d_M_node_23 rfl (lv_at hl 2 rfl) ?_
  refine lv_iconst (v := 3) hx hb d_M_node_24 (by decide) ?_
  refine lv_icmp_le (tgt := 32) hx hb d_M_node_25 (by decide) (fun c9 => ?_) (fun c9 => absurd (by decide) c9)
  refine lv_iconst (v := 0) hx hb d_M_node_32 (by decide) ?_
  refine va_put (D := G.1) (ci := 4) (v := .int 0) (ty := .int) (C := "TreePressModel") (T := kb_F4) (N := 21) hx hb ht kb_w4 kb_y4 kb_p4 kb_n4 hown hE.1 hP hD hS 0 rfl rfl 0 (by decide) (ht _ wd_d5599598) (fun _ h9 => h9) rfl (by decide +kernel) rfl rfl (Nat.le_of_ble_eq_true rfl) d_M_node_33 (fun H locs hP hD hS => ?_)
  have hP : va_P G.1 kb_cl [kb_o h 4 [.int 0, .ref m1, .int 0, .ref m3, .int 0, .ref m5, .ref m6, .ref m7, .ref m8, .ref m9, .ref m10, .ref m11, .ref m12, .ref m13, .ref m14, .ref m15, .int 0, .int 0, .int 0, .int 0, .int 0], kb_a G m5 2 (upd (fun _ => 0) 0 1), kb_a G m6 2 (upd (fun _ => 0) 0 0), kb_a G m8 256 (upd (fun _ => 0) 0 (-1)), kb_a G m9 256 (upd (fun _ => 0) 0 0), kb_a G m10 256 (upd (fun _ => 0) 0 0)] H := hP
  have hD : va_D A [kb_o h 4 [.int 0, .ref m1, .int 0, .ref m3, .int 0, .ref m5, .ref m6, .ref m7, .ref m8, .ref m9, .ref m10, .ref m11, .ref m12, .ref m13, .ref m14, .ref m15, .int 0, .int 0, .int 0, .int 0, .int 0], kb_a G m5 2 (upd (fun _ => 0) 0 1), kb_a G m6 2 (upd (fun _ => 0) 0 0), kb_a G m8 256 (upd (fun _ => 0) 0 (-1)), kb_a G m9 256 (upd (fun _ => 0) 0 0), kb_a G m10 256 (upd (fun _ => 0) 0 0)] := hD
  refine lv_aload_n hx hb d_M_node_36 rfl (lv_at hl 0 rfl) ?_
  refine va_get (D := G.1) (ci := 4) (v := .int 0) (C := "TreePressModel") (T := kb_F4) (N := 21) hx hb ht kb_w4 hown hE.1 hP 0 rfl rfl 0 (by decide) (ht _ wd_d5599598) (fun _ h9 => h9) rfl d_M_node_37 ?_
  refine lv_if_le (tgt := 45) hx hb d_M_node_40 (by decide) (fun c9 => ?_) (fun c9 => absurd (by decide) c9)
  refine lv_iload_n hx hb d_M_node_45 rfl (lv_at hl 2 rfl) ?_
  refine lv_if_ne (tgt := 58) hx hb d_M_node_46 (by decide) (fun c9 => ?_) (fun c9 => absurd c9 (by decide))
  refine lv_iload_n hx hb d_M_node_58 rfl (lv_at hl 2 rfl) ?_
  refine lv_iconst (v := 1) hx hb d_M_node_59 (by decide) ?_
  refine lv_icmp_ne (tgt := 71) hx hb d_M_node_60 (by decide) (fun c9 => ?_) (fun c9 => absurd c9 (by decide))
  refine lv_iload_n hx hb d_M_node_71 rfl (lv_at hl 2 rfl) ?_
  refine lv_iconst (v := 2) hx hb d_M_node_72 (by decide) ?_
  refine lv_icmp_ne (tgt := 84) hx hb d_M_node_73 (by decide) (fun c9 => absurd (by decide) c9) (fun c9 => ?_)
  refine lv_aload_n hx hb d_M_node_76 rfl (lv_at hl 0 rfl) ?_
  refine lv_iload_n hx hb d_M_node_77 rfl (lv_at hl 1 rfl) ?_
  refine kb_i (wc := [kb_o h 4 [.int 0, .ref m1, .int 0, .ref m3, .int 0, .ref m5, .ref m6, .ref m7, .ref m8, .ref m9, .ref m10, .ref m11, .ref m12, .ref m13, .ref m14, .ref m15, .int 0, .int 0, .int 0, .int 0, .int 0], kb_a G m6 2 (upd (fun _ => 0) 0 0)]) (wr := [kb_a G m5 2 (upd (fun _ => 0) 0 1), kb_a G m8 256 (upd (fun _ => 0) 0 (-1)), kb_a G m9 256 (upd (fun _ => 0) 0 0), kb_a G m10 256 (upd (fun _ => 0) 0 0)]) hE hP hD hS [0, 2] [1, 3, 4, 5] rfl rfl (by decide) (by decide) (kb_rV (As := [.int 0]) (rest := []) (wc := [kb_o h 4 [.int 0, .ref m1, .int 0, .ref m3, .int 0, .ref m5, .ref m6, .ref m7, .ref m8, .ref m9, .ref m10, .ref m11, .ref m12, .ref m13, .ref m14, .ref m15, .int 0, .int 0, .int 0, .int 0, .int 0], kb_a G m6 2 (upd (fun _ => 0) 0 0)]) (q0 := 0) ⟨hx, hb, hml, hown, ht⟩ ((c_M_firstOf l G h 0 m1 m3 m5 m6 m7 m8 m9 m10 m11 m12 m13 m14 m15) _) (kb_gV wd_d83a94e0 wd_7550796f wd_d757f374 wd_38099713 wd_b1639252) ⟨rfl, hd_116c3d66⟩ ⟨(Nat.le_of_ble_eq_true rfl), (Nat.le_of_ble_eq_true rfl)⟩ hE hP hD hS [0, 2] rfl (by decide) rfl rfl rfl hl.1 rfl (Nat.le_of_ble_eq_true rfl) d_M_node_78 ⟨(Nat.le_of_ble_eq_true rfl), (Nat.le_of_ble_eq_true rfl)⟩) (fun rv2 uu1 H locs hw hP hD hS => ?_)
  have hP : va_P G.1 kb_cl [kb_a G m5 2 (upd (fun _ => 0) 0 1), kb_a G m8 256 (upd (fun _ => 0) 0 (-1)), kb_a G m9 256 (upd (fun _ => 0) 0 0), kb_a G m10 256 (upd (fun _ => 0) 0 0), kb_o h 4 [.int 0, .ref m1, .int 0, .ref m3, .int 0, .ref m5, .ref m6, .ref m7, .ref m8, .ref m9, .ref m10, .ref m11, .ref m12, .ref m13, .ref m14, .ref m15, .int 0, .int 0, .int 0, .int 0, .int 0], kb_a G m6 2 (upd (fun _ => 0) 0 0)] H := hP
  have hD : va_D A [kb_a G m5 2 (upd (fun _ => 0) 0 1), kb_a G m8 256 (upd (fun _ => 0) 0 (-1)), kb_a G m9 256 (upd (fun _ => 0) 0 0), kb_a G m10 256 (upd (fun _ => 0) 0 0), kb_o h 4 [.int 0, .ref m1, .int 0, .ref m3, .int 0, .ref m5, .ref m6, .ref m7, .ref m8, .ref m9, .ref m10, .ref m11, .ref m12, .ref m13, .ref m14, .ref m15, .int 0, .int 0, .int 0, .int 0, .int 0], kb_a G m6 2 (upd (fun _ => 0) 0 0)] := hD
  refine kb_top (y := (-1)) (show rv2 = (-1) from hw) ?_
  refine lv_goto (tgt := 97) hx hb d_M_node_81 (by decide) ?_
  exact kb_reti (kb_l [], kb_f []) hx hb hr hlocks hE hP hD hS [4] rfl (by decide) rfl rfl (Nat.le_of_ble_eq_true rfl) (Nat.le_of_ble_eq_true rfl) d_M_node_97

set_option maxHeartbeats 4000000 in
set_option maxRecDepth 100000 in
theorem c_M_node3 (l : Launch) (G : kb_G) (h : Nat) (T : Int32) (m1 : Nat) (m3 : Nat) (m5 : Nat) (m6 : Nat) (m7 : Nat) (m8 : Nat) (m9 : Nat) (m10 : Nat) (m11 : Nat) (m12 : Nat) (m13 : Nat) (m14 : Nat) (m15 : Nat) : kb_ci l G ⟨"TreePressModel", "node", "(II)I"⟩ prog_6_method_44_code 3 (some .int) 2 0 0 [.ref h, .int 0, .int 3] [kb_o h 4 [.int T, .ref m1, .int 0, .ref m3, .int 0, .ref m5, .ref m6, .ref m7, .ref m8, .ref m9, .ref m10, .ref m11, .ref m12, .ref m13, .ref m14, .ref m15, .int 0, .int 0, .int 0, .int 0, .int 0], kb_a G m5 2 (upd (fun _ => 0) 0 1), kb_a G m6 2 (upd (fun _ => 0) 0 0), kb_a G m8 256 (upd (fun _ => 0) 0 (-1)), kb_a G m9 256 (upd (fun _ => 0) 0 0), kb_a G m10 256 (upd (fun _ => 0) 0 0)] (fun r u => r = 0) (fun u => [kb_o h 4 [.int 0, .ref m1, .int 0, .ref m3, .int 0, .ref m5, .ref m6, .ref m7, .ref m8, .ref m9, .ref m10, .ref m11, .ref m12, .ref m13, .ref m14, .ref m15, .int 0, .int 0, .int 0, .int 0, .int 0]]) := by
  intro sz
  refine kb_body (QQ := fun A => kb_Qi G A (fun r u => r = 0) (fun u => [kb_o h 4 [.int 0, .ref m1, .int 0, .ref m3, .int 0, .ref m5, .ref m6, .ref m7, .ref m8, .ref m9, .ref m10, .ref m11, .ref m12, .ref m13, .ref m14, .ref m15, .int 0, .int 0, .int 0, .int 0, .int 0]])) (by decide) (Nat.le_of_ble_eq_true rfl) ?_
  intro p e s m below meth c A B ls hl
  obtain ⟨hx, hb, hr, hml, hlocks, hin, hown, ht, hE, hP, hD, hS⟩ := B
  have hl : lv_has ls 3 [(0, .ref h), (1, .int 0), (2, .int 3)] := hl
  have hP0 := hP
  obtain ⟨H, hHe⟩ : ∃ H, H = s.heap := ⟨_, rfl⟩
  rw [← hHe] at hP
  have hS : va_S A s.heap H [] := by rw [hHe]; exact hS
  refine kb_at hHe ?_
  clear hHe
  refine lv_aload_n hx hb d_M_node_0 rfl (lv_at hl 0 rfl) ?_
  refine lv_iload_n hx hb d_M_node_1 rfl (lv_at hl 1 rfl) ?_
  refine lv_if_lt (tgt := 15) hx hb d_M_node_2 (by decide) (fun c9 => absurd c9 (by decide)) (fun c9 => ?_)
  refine lv_iload_n hx hb d_M_node_5 rfl (lv_at hl 1 rfl) ?_
  refine lv_aload_n hx hb d_M_node_6 rfl (lv_at hl 0 rfl) ?_
  refine va_get (D := G.1) (ci := 4) (v := .ref m5) (C := "TreePressModel") (T := kb_F4) (N := 21) hx hb ht kb_w4 hown hE.1 hP 0 rfl rfl 5 (by decide) (ht _ wd_e8505d70) (fun _ h9 => h9) rfl d_M_node_7 ?_
  refine lv_iconst (v := 0) hx hb d_M_node_10 (by decide) ?_
  refine va_iald hx hb hE.1 hP 1 0 rfl rfl (show ¬ ((0 : Int32) < 0 ∨ 2 ≤ (0 : Int32).toNatClampNeg) by decide) d_M_node_11 ?_
  refine kb_top (y := 1) rfl ?_
  refine lv_icmp_lt (tgt := 19) hx hb d_M_node_12 (by decide) (fun c9 => ?_) (fun c9 => absurd (by decide) c9)
  refine lv_iload_n hx hb d_M_node_19 rfl (lv_at hl 2 rfl) ?_
  refine lv_if_lt (tgt := 28) hx hb d_M_node_20 (by decide) (fun c9 => absurd c9 (by decide)) (fun c9 => ?_)
  refine lv_iload_n hx hb d_M_node_23 rfl (lv_at hl 2 rfl) ?_
  refine lv_iconst (v := 3) hx hb d_M_node_24 (by decide) ?_
  refine lv_icmp_le (tgt := 32) hx hb d_M_node_25 (by decide) (fun c9 => ?_) (fun c9 => absurd (by decide) c9)
  refine lv_iconst (v := 0) hx hb d_M_node_32 (by decide) ?_
  refine va_put (D := G.1) (ci := 4) (v := .int 0) (ty := .int) (C := "TreePressModel") (T := kb_F4) (N := 21) hx hb ht kb_w4 kb_y4 kb_p4 kb_n4 hown hE.1 hP hD hS 0 rfl rfl 0 (by decide) (ht _ wd_d5599598) (fun _ h9 => h9) rfl (by decide +kernel) rfl rfl (Nat.le_of_ble_eq_true rfl) d_M_node_33 (fun H locs hP hD hS => ?_)
  have hP : va_P G.1 kb_cl [kb_o h 4 [.int 0, .ref m1, .int 0, .ref m3, .int 0, .ref m5, .ref m6, .ref m7, .ref m8, .ref m9, .ref m10, .ref m11, .ref m12, .ref m13, .ref m14, .ref m15, .int 0, .int 0, .int 0, .int 0, .int 0], kb_a G m5 2 (upd (fun _ => 0) 0 1), kb_a G m6 2 (upd (fun _ => 0) 0 0), kb_a G m8 256 (upd (fun _ => 0) 0 (-1)), kb_a G m9 256 (upd (fun _ => 0) 0 0), kb_a G m10 256 (upd (fun _ => 0) 0 0)] H := hP
  have hD : va_D A [kb_o h 4 [.int 0, .ref m1, .int 0, .ref m3, .int 0, .ref m5, .ref m6, .ref m7, .ref m8, .ref m9, .ref m10, .ref m11, .ref m12, .ref m13, .ref m14, .ref m15, .int 0, .int 0, .int 0, .int 0, .int 0], kb_a G m5 2 (upd (fun _ => 0) 0 1), kb_a G m6 2 (upd (fun _ => 0) 0 0), kb_a G m8 256 (upd (fun _ => 0) 0 (-1)), kb_a G m9 256 (upd (fun _ => 0) 0 0), kb_a G m10 256 (upd (fun _ => 0) 0 0)] := hD
  refine lv_aload_n hx hb d_M_node_36 rfl (lv_at hl 0 rfl) ?_
  refine va_get (D := G.1) (ci := 4) (v := .int 0) (C := "TreePressModel") (T := kb_F4) (N := 21) hx hb ht kb_w4 hown hE.1 hP 0 rfl rfl 0 (by decide) (ht _ wd_d5599598) (fun _ h9 => h9) rfl d_M_node_37 ?_
  refine lv_if_le (tgt := 45) hx hb d_M_node_40 (by decide) (fun c9 => ?_) (fun c9 => absurd (by decide) c9)
  refine lv_iload_n hx hb d_M_node_45 rfl (lv_at hl 2 rfl) ?_
  refine lv_if_ne (tgt := 58) hx hb d_M_node_46 (by decide) (fun c9 => ?_) (fun c9 => absurd c9 (by decide))
  refine lv_iload_n hx hb d_M_node_58 rfl (lv_at hl 2 rfl) ?_
  refine lv_iconst (v := 1) hx hb d_M_node_59 (by decide) ?_
  refine lv_icmp_ne (tgt := 71) hx hb d_M_node_60 (by decide) (fun c9 => ?_) (fun c9 => absurd c9 (by decide))
  refine lv_iload_n hx hb d_M_node_71 rfl (lv_at hl 2 rfl) ?_
  refine lv_iconst (v := 2) hx hb d_M_node_72 (by decide) ?_
  refine lv_icmp_ne (tgt := 84) hx hb d_M_node_73 (by decide) (fun c9 => ?_) (fun c9 => absurd c9 (by decide))
  refine lv_aload_n hx hb d_M_node_84 rfl (lv_at hl 0 rfl) ?_
  refine va_get (D := G.1) (ci := 4) (v := .ref m10) (C := "TreePressModel") (T := kb_F4) (N := 21) hx hb ht kb_w4 hown hE.1 hP 0 rfl rfl 10 (by decide) (ht _ wd_05d4d7b5) (fun _ h9 => h9) rfl d_M_node_85 ?_
  refine lv_iload_n hx hb d_M_node_88 rfl (lv_at hl 1 rfl) ?_
  refine va_iald hx hb hE.1 hP 5 0 rfl rfl (show ¬ ((0 : Int32) < 0 ∨ 256 ≤ (0 : Int32).toNatClampNeg) by decide) d_M_node_89 ?_
  refine kb_top (y := 0) rfl ?_
  refine lv_aload_n hx hb d_M_node_90 rfl (lv_at hl 0 rfl) ?_
  refine va_get (D := G.1) (ci := 4) (v := .ref m9) (C := "TreePressModel") (T := kb_F4) (N := 21) hx hb ht kb_w4 hown hE.1 hP 0 rfl rfl 9 (by decide) (ht _ wd_0465fd3b) (fun _ h9 => h9) rfl d_M_node_91 ?_
  refine lv_iload_n hx hb d_M_node_94 rfl (lv_at hl 1 rfl) ?_
  refine va_iald hx hb hE.1 hP 4 0 rfl rfl (show ¬ ((0 : Int32) < 0 ∨ 256 ≤ (0 : Int32).toNatClampNeg) by decide) d_M_node_95 ?_
  refine kb_top (y := 0) rfl ?_
  refine lv_isub hx hb d_M_node_96 ?_
  refine kb_top (y := 0) (by decide) ?_
  exact kb_reti (kb_l [], kb_f []) hx hb hr hlocks hE hP hD hS [0] rfl (by decide) rfl rfl (Nat.le_of_ble_eq_true rfl) (Nat.le_of_ble_eq_true rfl) d_M_node_97

set_option maxHeartbeats 4000000 in
set_option maxRecDepth 100000 in
theorem c_M_nodeX1 (l : Launch) (G : kb_G) (h : Nat) (T : Int32) (m1 : Nat) (m3 : Nat) (m5 : Nat) (m6 : Nat) (m7 : Nat) (m8 : Nat) (m9 : Nat) (m10 : Nat) (m11 : Nat) (m12 : Nat) (m13 : Nat) (m14 : Nat) (m15 : Nat) (i : Int32) (k : Int32) (hi : ¬ i = 0) : kb_ci l G ⟨"TreePressModel", "node", "(II)I"⟩ prog_6_method_44_code 3 (some .int) 2 0 0 [.ref h, .int i, .int k] [kb_o h 4 [.int T, .ref m1, .int 0, .ref m3, .int 0, .ref m5, .ref m6, .ref m7, .ref m8, .ref m9, .ref m10, .ref m11, .ref m12, .ref m13, .ref m14, .ref m15, .int 0, .int 0, .int 0, .int 0, .int 0], kb_a G m5 2 (upd (fun _ => 0) 0 1)] (fun r u => r = 0) (fun u => [kb_o h 4 [.int 1, .ref m1, .int 0, .ref m3, .int 0, .ref m5, .ref m6, .ref m7, .ref m8, .ref m9, .ref m10, .ref m11, .ref m12, .ref m13, .ref m14, .ref m15, .int 0, .int 0, .int 0, .int 0, .int 0]]) := by
  intro sz
  refine kb_body (QQ := fun A => kb_Qi G A (fun r u => r = 0) (fun u => [kb_o h 4 [.int 1, .ref m1, .int 0, .ref m3, .int 0, .ref m5, .ref m6, .ref m7, .ref m8, .ref m9, .ref m10, .ref m11, .ref m12, .ref m13, .ref m14, .ref m15, .int 0, .int 0, .int 0, .int 0, .int 0]])) (by decide) (Nat.le_of_ble_eq_true rfl) ?_
  intro p e s m below meth c A B ls hl
  obtain ⟨hx, hb, hr, hml, hlocks, hin, hown, ht, hE, hP, hD, hS⟩ := B
  have hl : lv_has ls 3 [(0, .ref h), (1, .int i), (2, .int k)] := hl
  have hP0 := hP
  obtain ⟨H, hHe⟩ : ∃ H, H = s.heap := ⟨_, rfl⟩
  rw [← hHe] at hP
  have hS : va_S A s.heap H [] := by rw [hHe]; exact hS
  refine kb_at hHe ?_
  clear hHe
  refine lv_aload_n hx hb d_M_node_0 rfl (lv_at hl 0 rfl) ?_
  refine lv_iload_n hx hb d_M_node_1 rfl (lv_at hl 1 rfl) ?_
  refine lv_if_lt (tgt := 15) hx hb d_M_node_2 (by decide) (fun cb1 => ?_) (fun cb1 => ?_)
  · refine lv_iconst (v := 1) hx hb d_M_node_15 (by decide) ?_
    refine lv_goto (tgt := 33) hx hb d_M_node_16 (by decide) ?_
    refine va_put (D := G.1) (ci := 4) (v := .int 1) (ty := .int) (C := "TreePressModel") (T := kb_F4) (N := 21) hx hb ht kb_w4 kb_y4 kb_p4 kb_n4 hown hE.1 hP hD hS 0 rfl rfl 0 (by decide) (ht _ wd_d5599598) (fun _ h9 => h9) rfl (by decide +kernel) rfl rfl (Nat.le_of_ble_eq_true rfl) d_M_node_33 (fun H locs hP hD hS => ?_)
    have hP : va_P G.1 kb_cl [kb_o h 4 [.int 1, .ref m1, .int 0, .ref m3, .int 0, .ref m5, .ref m6, .ref m7, .ref m8, .ref m9, .ref m10, .ref m11, .ref m12, .ref m13, .ref m14, .ref m15, .int 0, .int 0, .int 0, .int 0, .int 0], kb_a G m5 2 (upd (fun _ => 0) 0 1)] H := hP
    have hD : va_D A [kb_o h 4 [.int 1, .ref m1, .int 0, .ref m3, .int 0, .ref m5, .ref m6, .ref m7, .ref m8, .ref m9, .ref m10, .ref m11, .ref m12, .ref m13, .ref m14, .ref m15, .int 0, .int 0, .int 0, .int 0, .int 0], kb_a G m5 2 (upd (fun _ => 0) 0 1)] := hD
    refine lv_aload_n hx hb d_M_node_36 rfl (lv_at hl 0 rfl) ?_
    refine va_get (D := G.1) (ci := 4) (v := .int 1) (C := "TreePressModel") (T := kb_F4) (N := 21) hx hb ht kb_w4 hown hE.1 hP 0 rfl rfl 0 (by decide) (ht _ wd_d5599598) (fun _ h9 => h9) rfl d_M_node_37 ?_
    refine lv_if_le (tgt := 45) hx hb d_M_node_40 (by decide) (fun c9 => absurd c9 (by decide)) (fun c9 => ?_)
    refine lv_iconst (v := 0) hx hb d_M_node_43 (by decide) ?_
    exact kb_reti (kb_l [], kb_f []) hx hb hr hlocks hE hP hD hS [0] rfl (by decide) rfl rfl (Nat.le_of_ble_eq_true rfl) (Nat.le_of_ble_eq_true rfl) d_M_node_44
  · refine lv_iload_n hx hb d_M_node_5 rfl (lv_at hl 1 rfl) ?_
    refine lv_aload_n hx hb d_M_node_6 rfl (lv_at hl 0 rfl) ?_
    refine va_get (D := G.1) (ci := 4) (v := .ref m5) (C := "TreePressModel") (T := kb_F4) (N := 21) hx hb ht kb_w4 hown hE.1 hP 0 rfl rfl 5 (by decide) (ht _ wd_e8505d70) (fun _ h9 => h9) rfl d_M_node_7 ?_
    refine lv_iconst (v := 0) hx hb d_M_node_10 (by decide) ?_
    refine va_iald hx hb hE.1 hP 1 0 rfl rfl (show ¬ ((0 : Int32) < 0 ∨ 2 ≤ (0 : Int32).toNatClampNeg) by decide) d_M_node_11 ?_
    refine kb_top (y := 1) rfl ?_
    refine lv_icmp_lt (tgt := 19) hx hb d_M_node_12 (by decide) (fun c9 => False.elim (by have e0 : ¬ (i : Int32).toInt = (0 : Int32).toInt := fun z9 => hi (Int32.toInt_inj.mp z9); have e1 : ¬ (i : Int32).toInt < (0 : Int32).toInt := fun z9 => cb1 (Int32.lt_iff_toInt_lt.mpr z9); have e2 : (i : Int32).toInt < (1 : Int32).toInt := Int32.lt_iff_toInt_lt.mp c9; have k0 : (0 : Int32).toInt = 0 := rfl; have k1 : (1 : Int32).toInt = 1 := rfl; omega)) (fun c9 => ?_)
    refine lv_iconst (v := 1) hx hb d_M_node_15 (by decide) ?_
    refine lv_goto (tgt := 33) hx hb d_M_node_16 (by decide) ?_
    refine va_put (D := G.1) (ci := 4) (v := .int 1) (ty := .int) (C := "TreePressModel") (T := kb_F4) (N := 21) hx hb ht kb_w4 kb_y4 kb_p4 kb_n4 hown hE.1 hP hD hS 0 rfl rfl 0 (by decide) (ht _ wd_d5599598) (fun _ h9 => h9) rfl (by decide +kernel) rfl rfl (Nat.le_of_ble_eq_true rfl) d_M_node_33 (fun H locs hP hD hS => ?_)
    have hP : va_P G.1 kb_cl [kb_o h 4 [.int 1, .ref m1, .int 0, .ref m3, .int 0, .ref m5, .ref m6, .ref m7, .ref m8, .ref m9, .ref m10, .ref m11, .ref m12, .ref m13, .ref m14, .ref m15, .int 0, .int 0, .int 0, .int 0, .int 0], kb_a G m5 2 (upd (fun _ => 0) 0 1)] H := hP
    have hD : va_D A [kb_o h 4 [.int 1, .ref m1, .int 0, .ref m3, .int 0, .ref m5, .ref m6, .ref m7, .ref m8, .ref m9, .ref m10, .ref m11, .ref m12, .ref m13, .ref m14, .ref m15, .int 0, .int 0, .int 0, .int 0, .int 0], kb_a G m5 2 (upd (fun _ => 0) 0 1)] := hD
    refine lv_aload_n hx hb d_M_node_36 rfl (lv_at hl 0 rfl) ?_
    refine va_get (D := G.1) (ci := 4) (v := .int 1) (C := "TreePressModel") (T := kb_F4) (N := 21) hx hb ht kb_w4 hown hE.1 hP 0 rfl rfl 0 (by decide) (ht _ wd_d5599598) (fun _ h9 => h9) rfl d_M_node_37 ?_
    refine lv_if_le (tgt := 45) hx hb d_M_node_40 (by decide) (fun c9 => absurd c9 (by decide)) (fun c9 => ?_)
    refine lv_iconst (v := 0) hx hb d_M_node_43 (by decide) ?_
    exact kb_reti (kb_l [], kb_f []) hx hb hr hlocks hE hP hD hS [0] rfl (by decide) rfl rfl (Nat.le_of_ble_eq_true rfl) (Nat.le_of_ble_eq_true rfl) d_M_node_44

set_option maxHeartbeats 4000000 in
set_option maxRecDepth 100000 in
theorem c_M_nodeX2 (l : Launch) (G : kb_G) (h : Nat) (T : Int32) (m1 : Nat) (m3 : Nat) (m5 : Nat) (m6 : Nat) (m7 : Nat) (m8 : Nat) (m9 : Nat) (m10 : Nat) (m11 : Nat) (m12 : Nat) (m13 : Nat) (m14 : Nat) (m15 : Nat) (k : Int32) (hk0 : ¬ k = 0) (hk1 : ¬ k = 1) (hk2 : ¬ k = 2) (hk3 : ¬ k = 3) : kb_ci l G ⟨"TreePressModel", "node", "(II)I"⟩ prog_6_method_44_code 3 (some .int) 2 0 0 [.ref h, .int 0, .int k] [kb_o h 4 [.int T, .ref m1, .int 0, .ref m3, .int 0, .ref m5, .ref m6, .ref m7, .ref m8, .ref m9, .ref m10, .ref m11, .ref m12, .ref m13, .ref m14, .ref m15, .int 0, .int 0, .int 0, .int 0, .int 0], kb_a G m5 2 (upd (fun _ => 0) 0 1)] (fun r u => r = 0) (fun u => [kb_o h 4 [.int 2, .ref m1, .int 0, .ref m3, .int 0, .ref m5, .ref m6, .ref m7, .ref m8, .ref m9, .ref m10, .ref m11, .ref m12, .ref m13, .ref m14, .ref m15, .int 0, .int 0, .int 0, .int 0, .int 0]]) := by
  intro sz
  refine kb_body (QQ := fun A => kb_Qi G A (fun r u => r = 0) (fun u => [kb_o h 4 [.int 2, .ref m1, .int 0, .ref m3, .int 0, .ref m5, .ref m6, .ref m7, .ref m8, .ref m9, .ref m10, .ref m11, .ref m12, .ref m13, .ref m14, .ref m15, .int 0, .int 0, .int 0, .int 0, .int 0]])) (by decide) (Nat.le_of_ble_eq_true rfl) ?_
  intro p e s m below meth c A B ls hl
  obtain ⟨hx, hb, hr, hml, hlocks, hin, hown, ht, hE, hP, hD, hS⟩ := B
  have hl : lv_has ls 3 [(0, .ref h), (1, .int 0), (2, .int k)] := hl
  have hP0 := hP
  obtain ⟨H, hHe⟩ : ∃ H, H = s.heap := ⟨_, rfl⟩
  rw [← hHe] at hP
  have hS : va_S A s.heap H [] := by rw [hHe]; exact hS
  refine kb_at hHe ?_
  clear hHe
  refine lv_aload_n hx hb d_M_node_0 rfl (lv_at hl 0 rfl) ?_
  refine lv_iload_n hx hb d_M_node_1 rfl (lv_at hl 1 rfl) ?_
  refine lv_if_lt (tgt := 15) hx hb d_M_node_2 (by decide) (fun c9 => absurd c9 (by decide)) (fun c9 => ?_)
  refine lv_iload_n hx hb d_M_node_5 rfl (lv_at hl 1 rfl) ?_
  refine lv_aload_n hx hb d_M_node_6 rfl (lv_at hl 0 rfl) ?_
  refine va_get (D := G.1) (ci := 4) (v := .ref m5) (C := "TreePressModel") (T := kb_F4) (N := 21) hx hb ht kb_w4 hown hE.1 hP 0 rfl rfl 5 (by decide) (ht _ wd_e8505d70) (fun _ h9 => h9) rfl d_M_node_7 ?_
  refine lv_iconst (v := 0) hx hb d_M_node_10 (by decide) ?_
  refine va_iald hx hb hE.1 hP 1 0 rfl rfl (show ¬ ((0 : Int32) < 0 ∨ 2 ≤ (0 : Int32).toNatClampNeg) by decide) d_M_node_11 ?_
  refine kb_top (y := 1) rfl ?_
  refine lv_icmp_lt (tgt := 19) hx hb d_M_node_12 (by decide) (fun c9 => ?_) (fun c9 => absurd (by decide) c9)
  refine lv_iload_n hx hb d_M_node_19 rfl (lv_at hl 2 rfl) ?_
  refine lv_if_lt (tgt := 28) hx hb d_M_node_20 (by decide) (fun cb1 => ?_) (fun cb1 => ?_)
  · refine lv_iconst (v := 2) hx hb d_M_node_28 (by decide) ?_
    refine lv_goto (tgt := 33) hx hb d_M_node_29 (by decide) ?_
    refine va_put (D := G.1) (ci := 4) (v := .int 2) (ty := .int) (C := "TreePressModel") (T := kb_F4) (N := 21) hx hb ht kb_w4 kb_y4 kb_p4 kb_n4 hown hE.1 hP hD hS 0 rfl rfl 0 (by decide) (ht _ wd_d5599598) (fun _ h9 => h9) rfl (by decide +kernel) rfl rfl (Nat.le_of_ble_eq_true rfl) d_M_node_33 (fun H locs hP hD hS => ?_)
    have hP : va_P G.1 kb_cl [kb_o h 4 [.int 2, .ref m1, .int 0, .ref m3, .int 0, .ref m5, .ref m6, .ref m7, .ref m8, .ref m9, .ref m10, .ref m11, .ref m12, .ref m13, .ref m14, .ref m15, .int 0, .int 0, .int 0, .int 0, .int 0], kb_a G m5 2 (upd (fun _ => 0) 0 1)] H := hP
    have hD : va_D A [kb_o h 4 [.int 2, .ref m1, .int 0, .ref m3, .int 0, .ref m5, .ref m6, .ref m7, .ref m8, .ref m9, .ref m10, .ref m11, .ref m12, .ref m13, .ref m14, .ref m15, .int 0, .int 0, .int 0, .int 0, .int 0], kb_a G m5 2 (upd (fun _ => 0) 0 1)] := hD
    refine lv_aload_n hx hb d_M_node_36 rfl (lv_at hl 0 rfl) ?_
    refine va_get (D := G.1) (ci := 4) (v := .int 2) (C := "TreePressModel") (T := kb_F4) (N := 21) hx hb ht kb_w4 hown hE.1 hP 0 rfl rfl 0 (by decide) (ht _ wd_d5599598) (fun _ h9 => h9) rfl d_M_node_37 ?_
    refine lv_if_le (tgt := 45) hx hb d_M_node_40 (by decide) (fun c9 => absurd c9 (by decide)) (fun c9 => ?_)
    refine lv_iconst (v := 0) hx hb d_M_node_43 (by decide) ?_
    exact kb_reti (kb_l [], kb_f []) hx hb hr hlocks hE hP hD hS [0] rfl (by decide) rfl rfl (Nat.le_of_ble_eq_true rfl) (Nat.le_of_ble_eq_true rfl) d_M_node_44
  · refine lv_iload_n hx hb d_M_node_23 rfl (lv_at hl 2 rfl) ?_
    refine lv_iconst (v := 3) hx hb d_M_node_24 (by decide) ?_
    refine lv_icmp_le (tgt := 32) hx hb d_M_node_25 (by decide) (fun c9 => False.elim (by have e0 : ¬ (k : Int32).toInt = (0 : Int32).toInt := fun z9 => hk0 (Int32.toInt_inj.mp z9); have e1 : ¬ (k : Int32).toInt = (1 : Int32).toInt := fun z9 => hk1 (Int32.toInt_inj.mp z9); have e2 : ¬ (k : Int32).toInt = (2 : Int32).toInt := fun z9 => hk2 (Int32.toInt_inj.mp z9); have e3 : ¬ (k : Int32).toInt = (3 : Int32).toInt := fun z9 => hk3 (Int32.toInt_inj.mp z9); have e4 : ¬ (k : Int32).toInt < (0 : Int32).toInt := fun z9 => cb1 (Int32.lt_iff_toInt_lt.mpr z9); have e5 : (k : Int32).toInt ≤ (3 : Int32).toInt := Int32.le_iff_toInt_le.mp c9; have k0 : (0 : Int32).toInt = 0 := rfl; have k1 : (1 : Int32).toInt = 1 := rfl; have k2 : (2 : Int32).toInt = 2 := rfl; have k3 : (3 : Int32).toInt = 3 := rfl; omega)) (fun c9 => ?_)
    refine lv_iconst (v := 2) hx hb d_M_node_28 (by decide) ?_
    refine lv_goto (tgt := 33) hx hb d_M_node_29 (by decide) ?_
    refine va_put (D := G.1) (ci := 4) (v := .int 2) (ty := .int) (C := "TreePressModel") (T := kb_F4) (N := 21) hx hb ht kb_w4 kb_y4 kb_p4 kb_n4 hown hE.1 hP hD hS 0 rfl rfl 0 (by decide) (ht _ wd_d5599598) (fun _ h9 => h9) rfl (by decide +kernel) rfl rfl (Nat.le_of_ble_eq_true rfl) d_M_node_33 (fun H locs hP hD hS => ?_)
    have hP : va_P G.1 kb_cl [kb_o h 4 [.int 2, .ref m1, .int 0, .ref m3, .int 0, .ref m5, .ref m6, .ref m7, .ref m8, .ref m9, .ref m10, .ref m11, .ref m12, .ref m13, .ref m14, .ref m15, .int 0, .int 0, .int 0, .int 0, .int 0], kb_a G m5 2 (upd (fun _ => 0) 0 1)] H := hP
    have hD : va_D A [kb_o h 4 [.int 2, .ref m1, .int 0, .ref m3, .int 0, .ref m5, .ref m6, .ref m7, .ref m8, .ref m9, .ref m10, .ref m11, .ref m12, .ref m13, .ref m14, .ref m15, .int 0, .int 0, .int 0, .int 0, .int 0], kb_a G m5 2 (upd (fun _ => 0) 0 1)] := hD
    refine lv_aload_n hx hb d_M_node_36 rfl (lv_at hl 0 rfl) ?_
    refine va_get (D := G.1) (ci := 4) (v := .int 2) (C := "TreePressModel") (T := kb_F4) (N := 21) hx hb ht kb_w4 hown hE.1 hP 0 rfl rfl 0 (by decide) (ht _ wd_d5599598) (fun _ h9 => h9) rfl d_M_node_37 ?_
    refine lv_if_le (tgt := 45) hx hb d_M_node_40 (by decide) (fun c9 => absurd c9 (by decide)) (fun c9 => ?_)
    refine lv_iconst (v := 0) hx hb d_M_node_43 (by decide) ?_
    exact kb_reti (kb_l [], kb_f []) hx hb hr hlocks hE hP hD hS [0] rfl (by decide) rfl rfl (Nat.le_of_ble_eq_true rfl) (Nat.le_of_ble_eq_true rfl) d_M_node_44

set_option maxHeartbeats 4000000 in
set_option maxRecDepth 100000 in
theorem c_M_about (l : Launch) (G : kb_G) (h : Nat) (T : Int32) (m1 : Nat) (m3 : Nat) (m5 : Nat) (m6 : Nat) (m7 : Nat) (m8 : Nat) (m9 : Nat) (m10 : Nat) (m11 : Nat) (m12 : Nat) (m13 : Nat) (m14 : Nat) (m15 : Nat) (i : Int32) (k : Int32) : kb_ci l G ⟨"TreePressModel", "about", "(II)I"⟩ prog_6_method_45_code 3 (some .int) 1 0 0 [.ref h, .int i, .int k] [kb_o h 4 [.int T, .ref m1, .int 0, .ref m3, .int 0, .ref m5, .ref m6, .ref m7, .ref m8, .ref m9, .ref m10, .ref m11, .ref m12, .ref m13, .ref m14, .ref m15, .int 0, .int 0, .int 0, .int 0, .int 0], kb_a G m6 2 (upd (fun _ => 0) 0 0)] (fun r u => r = 0) (fun u => [kb_o h 4 [.int 1, .ref m1, .int 0, .ref m3, .int 0, .ref m5, .ref m6, .ref m7, .ref m8, .ref m9, .ref m10, .ref m11, .ref m12, .ref m13, .ref m14, .ref m15, .int 0, .int 0, .int 0, .int 0, .int 0]]) := by
  intro sz
  refine kb_body (QQ := fun A => kb_Qi G A (fun r u => r = 0) (fun u => [kb_o h 4 [.int 1, .ref m1, .int 0, .ref m3, .int 0, .ref m5, .ref m6, .ref m7, .ref m8, .ref m9, .ref m10, .ref m11, .ref m12, .ref m13, .ref m14, .ref m15, .int 0, .int 0, .int 0, .int 0, .int 0]])) (by decide) (Nat.le_of_ble_eq_true rfl) ?_
  intro p e s m below meth c A B ls hl
  obtain ⟨hx, hb, hr, hml, hlocks, hin, hown, ht, hE, hP, hD, hS⟩ := B
  have hl : lv_has ls 3 [(0, .ref h), (1, .int i), (2, .int k)] := hl
  have hP0 := hP
  obtain ⟨H, hHe⟩ : ∃ H, H = s.heap := ⟨_, rfl⟩
  rw [← hHe] at hP
  have hS : va_S A s.heap H [] := by rw [hHe]; exact hS
  refine kb_at hHe ?_
  clear hHe
  refine lv_aload_n hx hb d_M_about_0 rfl (lv_at hl 0 rfl) ?_
  refine lv_iload_n hx hb d_M_about_1 rfl (lv_at hl 1 rfl) ?_
  refine lv_if_lt (tgt := 15) hx hb d_M_about_2 (by decide) (fun cb1 => ?_) (fun cb1 => ?_)
  · refine lv_iconst (v := 1) hx hb d_M_about_15 (by decide) ?_
    refine lv_goto (tgt := 33) hx hb d_M_about_16 (by decide) ?_
    refine va_put (D := G.1) (ci := 4) (v := .int 1) (ty := .int) (C := "TreePressModel") (T := kb_F4) (N := 21) hx hb ht kb_w4 kb_y4 kb_p4 kb_n4 hown hE.1 hP hD hS 0 rfl rfl 0 (by decide) (ht _ wd_d5599598) (fun _ h9 => h9) rfl (by decide +kernel) rfl rfl (Nat.le_of_ble_eq_true rfl) d_M_about_33 (fun H locs hP hD hS => ?_)
    have hP : va_P G.1 kb_cl [kb_o h 4 [.int 1, .ref m1, .int 0, .ref m3, .int 0, .ref m5, .ref m6, .ref m7, .ref m8, .ref m9, .ref m10, .ref m11, .ref m12, .ref m13, .ref m14, .ref m15, .int 0, .int 0, .int 0, .int 0, .int 0], kb_a G m6 2 (upd (fun _ => 0) 0 0)] H := hP
    have hD : va_D A [kb_o h 4 [.int 1, .ref m1, .int 0, .ref m3, .int 0, .ref m5, .ref m6, .ref m7, .ref m8, .ref m9, .ref m10, .ref m11, .ref m12, .ref m13, .ref m14, .ref m15, .int 0, .int 0, .int 0, .int 0, .int 0], kb_a G m6 2 (upd (fun _ => 0) 0 0)] := hD
    refine lv_aload_n hx hb d_M_about_36 rfl (lv_at hl 0 rfl) ?_
    refine va_get (D := G.1) (ci := 4) (v := .int 1) (C := "TreePressModel") (T := kb_F4) (N := 21) hx hb ht kb_w4 hown hE.1 hP 0 rfl rfl 0 (by decide) (ht _ wd_d5599598) (fun _ h9 => h9) rfl d_M_about_37 ?_
    refine lv_if_le (tgt := 45) hx hb d_M_about_40 (by decide) (fun c9 => absurd c9 (by decide)) (fun c9 => ?_)
    refine lv_iconst (v := 0) hx hb d_M_about_43 (by decide) ?_
    exact kb_reti (kb_l [], kb_f []) hx hb hr hlocks hE hP hD hS [0] rfl (by decide) rfl rfl (Nat.le_of_ble_eq_true rfl) (Nat.le_of_ble_eq_true rfl) d_M_about_44
  · refine lv_iload_n hx hb d_M_about_5 rfl (lv_at hl 1 rfl) ?_
    refine lv_aload_n hx hb d_M_about_6 rfl (lv_at hl 0 rfl) ?_
    refine va_get (D := G.1) (ci := 4) (v := .ref m6) (C := "TreePressModel") (T := kb_F4) (N := 21) hx hb ht kb_w4 hown hE.1 hP 0 rfl rfl 6 (by decide) (ht _ wd_0c18f9c0) (fun _ h9 => h9) rfl d_M_about_7 ?_
    refine lv_iconst (v := 0) hx hb d_M_about_10 (by decide) ?_
    refine va_iald hx hb hE.1 hP 1 0 rfl rfl (show ¬ ((0 : Int32) < 0 ∨ 2 ≤ (0 : Int32).toNatClampNeg) by decide) d_M_about_11 ?_
    refine kb_top (y := 0) rfl ?_
    refine lv_icmp_lt (tgt := 19) hx hb d_M_about_12 (by decide) (fun c9 => False.elim (by have e0 : ¬ (i : Int32).toInt < (0 : Int32).toInt := fun z9 => cb1 (Int32.lt_iff_toInt_lt.mpr z9); have e1 : (i : Int32).toInt < (0 : Int32).toInt := Int32.lt_iff_toInt_lt.mp c9; have k0 : (0 : Int32).toInt = 0 := rfl; omega)) (fun c9 => ?_)
    refine lv_iconst (v := 1) hx hb d_M_about_15 (by decide) ?_
    refine lv_goto (tgt := 33) hx hb d_M_about_16 (by decide) ?_
    refine va_put (D := G.1) (ci := 4) (v := .int 1) (ty := .int) (C := "TreePressModel") (T := kb_F4) (N := 21) hx hb ht kb_w4 kb_y4 kb_p4 kb_n4 hown hE.1 hP hD hS 0 rfl rfl 0 (by decide) (ht _ wd_d5599598) (fun _ h9 => h9) rfl (by decide +kernel) rfl rfl (Nat.le_of_ble_eq_true rfl) d_M_about_33 (fun H locs hP hD hS => ?_)
    have hP : va_P G.1 kb_cl [kb_o h 4 [.int 1, .ref m1, .int 0, .ref m3, .int 0, .ref m5, .ref m6, .ref m7, .ref m8, .ref m9, .ref m10, .ref m11, .ref m12, .ref m13, .ref m14, .ref m15, .int 0, .int 0, .int 0, .int 0, .int 0], kb_a G m6 2 (upd (fun _ => 0) 0 0)] H := hP
    have hD : va_D A [kb_o h 4 [.int 1, .ref m1, .int 0, .ref m3, .int 0, .ref m5, .ref m6, .ref m7, .ref m8, .ref m9, .ref m10, .ref m11, .ref m12, .ref m13, .ref m14, .ref m15, .int 0, .int 0, .int 0, .int 0, .int 0], kb_a G m6 2 (upd (fun _ => 0) 0 0)] := hD
    refine lv_aload_n hx hb d_M_about_36 rfl (lv_at hl 0 rfl) ?_
    refine va_get (D := G.1) (ci := 4) (v := .int 1) (C := "TreePressModel") (T := kb_F4) (N := 21) hx hb ht kb_w4 hown hE.1 hP 0 rfl rfl 0 (by decide) (ht _ wd_d5599598) (fun _ h9 => h9) rfl d_M_about_37 ?_
    refine lv_if_le (tgt := 45) hx hb d_M_about_40 (by decide) (fun c9 => absurd c9 (by decide)) (fun c9 => ?_)
    refine lv_iconst (v := 0) hx hb d_M_about_43 (by decide) ?_
    exact kb_reti (kb_l [], kb_f []) hx hb hr hlocks hE hP hD hS [0] rfl (by decide) rfl rfl (Nat.le_of_ble_eq_true rfl) (Nat.le_of_ble_eq_true rfl) d_M_about_44

set_option maxHeartbeats 4000000 in
set_option maxRecDepth 100000 in
theorem c_M_byteOf0 (l : Launch) (G : kb_G) (h : Nat) (T : Int32) (m1 : Nat) (m3 : Nat) (m5 : Nat) (m6 : Nat) (m7 : Nat) (m8 : Nat) (m9 : Nat) (m10 : Nat) (m11 : Nat) (m12 : Nat) (m13 : Nat) (m14 : Nat) (m15 : Nat) (k : Int32) : kb_ci l G ⟨"TreePressModel", "byteOf", "(ZIII)I"⟩ prog_6_method_46_code 5 (some .int) 1 0 0 [.ref h, .int 0, .int 0, .int 0, .int k] [kb_o h 4 [.int T, .ref m1, .int 0, .ref m3, .int 0, .ref m5, .ref m6, .ref m7, .ref m8, .ref m9, .ref m10, .ref m11, .ref m12, .ref m13, .ref m14, .ref m15, .int 0, .int 0, .int 0, .int 0, .int 0]] (fun r u => r = 0) (fun u => [kb_o h 4 [.int 1, .ref m1, .int 0, .ref m3, .int 0, .ref m5, .ref m6, .ref m7, .ref m8, .ref m9, .ref m10, .ref m11, .ref m12, .ref m13, .ref m14, .ref m15, .int 0, .int 0, .int 0, .int 0, .int 0]]) := by
  intro sz
  refine kb_body (QQ := fun A => kb_Qi G A (fun r u => r = 0) (fun u => [kb_o h 4 [.int 1, .ref m1, .int 0, .ref m3, .int 0, .ref m5, .ref m6, .ref m7, .ref m8, .ref m9, .ref m10, .ref m11, .ref m12, .ref m13, .ref m14, .ref m15, .int 0, .int 0, .int 0, .int 0, .int 0]])) (by decide) (Nat.le_of_ble_eq_true rfl) ?_
  intro p e s m below meth c A B ls hl
  obtain ⟨hx, hb, hr, hml, hlocks, hin, hown, ht, hE, hP, hD, hS⟩ := B
  have hl : lv_has ls 5 [(0, .ref h), (1, .int 0), (2, .int 0), (3, .int 0), (4, .int k)] := hl
  have hP0 := hP
  obtain ⟨H, hHe⟩ : ∃ H, H = s.heap := ⟨_, rfl⟩
  rw [← hHe] at hP
  have hS : va_S A s.heap H [] := by rw [hHe]; exact hS
  refine kb_at hHe ?_
  clear hHe
  refine lv_aload_n hx hb d_M_byteOf_0 rfl (lv_at hl 0 rfl) ?_
  refine lv_iload_n hx hb d_M_byteOf_1 rfl (lv_at hl 1 rfl) ?_
  refine lv_if_eq (tgt := 22) hx hb d_M_byteOf_2 (by decide) (fun c9 => ?_) (fun c9 => absurd (by decide) c9)
  refine lv_iconst (v := 1) hx hb d_M_byteOf_22 (by decide) ?_
  refine va_put (D := G.1) (ci := 4) (v := .int 1) (ty := .int) (C := "TreePressModel") (T := kb_F4) (N := 21) hx hb ht kb_w4 kb_y4 kb_p4 kb_n4 hown hE.1 hP hD hS 0 rfl rfl 0 (by decide) (ht _ wd_d5599598) (fun _ h9 => h9) rfl (by decide +kernel) rfl rfl (Nat.le_of_ble_eq_true rfl) d_M_byteOf_23 (fun H locs hP hD hS => ?_)
  have hP : va_P G.1 kb_cl [kb_o h 4 [.int 1, .ref m1, .int 0, .ref m3, .int 0, .ref m5, .ref m6, .ref m7, .ref m8, .ref m9, .ref m10, .ref m11, .ref m12, .ref m13, .ref m14, .ref m15, .int 0, .int 0, .int 0, .int 0, .int 0]] H := hP
  have hD : va_D A [kb_o h 4 [.int 1, .ref m1, .int 0, .ref m3, .int 0, .ref m5, .ref m6, .ref m7, .ref m8, .ref m9, .ref m10, .ref m11, .ref m12, .ref m13, .ref m14, .ref m15, .int 0, .int 0, .int 0, .int 0, .int 0]] := hD
  refine lv_aload_n hx hb d_M_byteOf_26 rfl (lv_at hl 0 rfl) ?_
  refine va_get (D := G.1) (ci := 4) (v := .int 1) (C := "TreePressModel") (T := kb_F4) (N := 21) hx hb ht kb_w4 hown hE.1 hP 0 rfl rfl 0 (by decide) (ht _ wd_d5599598) (fun _ h9 => h9) rfl d_M_byteOf_27 ?_
  refine lv_if_le (tgt := 37) hx hb d_M_byteOf_30 (by decide) (fun c9 => absurd c9 (by decide)) (fun c9 => ?_)
  refine lv_iconst (v := 0) hx hb d_M_byteOf_33 (by decide) ?_
  refine lv_goto (tgt := 46) hx hb d_M_byteOf_34 (by decide) ?_
  exact kb_reti (kb_l [], kb_f []) hx hb hr hlocks hE hP hD hS [0] rfl (by decide) rfl rfl (Nat.le_of_ble_eq_true rfl) (Nat.le_of_ble_eq_true rfl) d_M_byteOf_46

set_option maxHeartbeats 4000000 in
set_option maxRecDepth 100000 in
theorem c_M_byteOf1 (l : Launch) (G : kb_G) (h : Nat) (T : Int32) (m1 : Nat) (m3 : Nat) (m5 : Nat) (m6 : Nat) (m7 : Nat) (m8 : Nat) (m9 : Nat) (m10 : Nat) (m11 : Nat) (m12 : Nat) (m13 : Nat) (m14 : Nat) (m15 : Nat) (k : Int32) : kb_ci l G ⟨"TreePressModel", "byteOf", "(ZIII)I"⟩ prog_6_method_46_code 5 (some .int) 1 0 0 [.ref h, .int 1, .int 0, .int 0, .int k] [kb_o h 4 [.int T, .ref m1, .int 0, .ref m3, .int 0, .ref m5, .ref m6, .ref m7, .ref m8, .ref m9, .ref m10, .ref m11, .ref m12, .ref m13, .ref m14, .ref m15, .int 0, .int 0, .int 0, .int 0, .int 0]] (fun r u => r = 0) (fun u => [kb_o h 4 [.int 1, .ref m1, .int 0, .ref m3, .int 0, .ref m5, .ref m6, .ref m7, .ref m8, .ref m9, .ref m10, .ref m11, .ref m12, .ref m13, .ref m14, .ref m15, .int 0, .int 0, .int 0, .int 0, .int 0]]) := by
  intro sz
  refine kb_body (QQ := fun A => kb_Qi G A (fun r u => r = 0) (fun u => [kb_o h 4 [.int 1, .ref m1, .int 0, .ref m3, .int 0, .ref m5, .ref m6, .ref m7, .ref m8, .ref m9, .ref m10, .ref m11, .ref m12, .ref m13, .ref m14, .ref m15, .int 0, .int 0, .int 0, .int 0, .int 0]])) (by decide) (Nat.le_of_ble_eq_true rfl) ?_
  intro p e s m below meth c A B ls hl
  obtain ⟨hx, hb, hr, hml, hlocks, hin, hown, ht, hE, hP, hD, hS⟩ := B
  have hl : lv_has ls 5 [(0, .ref h), (1, .int 1), (2, .int 0), (3, .int 0), (4, .int k)] := hl
  have hP0 := hP
  obtain ⟨H, hHe⟩ : ∃ H, H = s.heap := ⟨_, rfl⟩
  rw [← hHe] at hP
  have hS : va_S A s.heap H [] := by rw [hHe]; exact hS
  refine kb_at hHe ?_
  clear hHe
  refine lv_aload_n hx hb d_M_byteOf_0 rfl (lv_at hl 0 rfl) ?_
  refine lv_iload_n hx hb d_M_byteOf_1 rfl (lv_at hl 1 rfl) ?_
  refine lv_if_eq (tgt := 22) hx hb d_M_byteOf_2 (by decide) (fun c9 => absurd c9 (by decide)) (fun c9 => ?_)
  refine lv_iload hx hb d_M_byteOf_5 (lv_at hl 4 rfl) ?_
  refine lv_if_lt (tgt := 22) hx hb d_M_byteOf_7 (by decide) (fun cb1 => ?_) (fun cb1 => ?_)
  · refine lv_iconst (v := 1) hx hb d_M_byteOf_22 (by decide) ?_
    refine va_put (D := G.1) (ci := 4) (v := .int 1) (ty := .int) (C := "TreePressModel") (T := kb_F4) (N := 21) hx hb ht kb_w4 kb_y4 kb_p4 kb_n4 hown hE.1 hP hD hS 0 rfl rfl 0 (by decide) (ht _ wd_d5599598) (fun _ h9 => h9) rfl (by decide +kernel) rfl rfl (Nat.le_of_ble_eq_true rfl) d_M_byteOf_23 (fun H locs hP hD hS => ?_)
    have hP : va_P G.1 kb_cl [kb_o h 4 [.int 1, .ref m1, .int 0, .ref m3, .int 0, .ref m5, .ref m6, .ref m7, .ref m8, .ref m9, .ref m10, .ref m11, .ref m12, .ref m13, .ref m14, .ref m15, .int 0, .int 0, .int 0, .int 0, .int 0]] H := hP
    have hD : va_D A [kb_o h 4 [.int 1, .ref m1, .int 0, .ref m3, .int 0, .ref m5, .ref m6, .ref m7, .ref m8, .ref m9, .ref m10, .ref m11, .ref m12, .ref m13, .ref m14, .ref m15, .int 0, .int 0, .int 0, .int 0, .int 0]] := hD
    refine lv_aload_n hx hb d_M_byteOf_26 rfl (lv_at hl 0 rfl) ?_
    refine va_get (D := G.1) (ci := 4) (v := .int 1) (C := "TreePressModel") (T := kb_F4) (N := 21) hx hb ht kb_w4 hown hE.1 hP 0 rfl rfl 0 (by decide) (ht _ wd_d5599598) (fun _ h9 => h9) rfl d_M_byteOf_27 ?_
    refine lv_if_le (tgt := 37) hx hb d_M_byteOf_30 (by decide) (fun c9 => absurd c9 (by decide)) (fun c9 => ?_)
    refine lv_iconst (v := 0) hx hb d_M_byteOf_33 (by decide) ?_
    refine lv_goto (tgt := 46) hx hb d_M_byteOf_34 (by decide) ?_
    exact kb_reti (kb_l [], kb_f []) hx hb hr hlocks hE hP hD hS [0] rfl (by decide) rfl rfl (Nat.le_of_ble_eq_true rfl) (Nat.le_of_ble_eq_true rfl) d_M_byteOf_46
  · refine lv_iload hx hb d_M_byteOf_10 (lv_at hl 4 rfl) ?_
    refine lv_iload_n hx hb d_M_byteOf_12 rfl (lv_at hl 3 rfl) ?_
    refine lv_iload_n hx hb d_M_byteOf_13 rfl (lv_at hl 2 rfl) ?_
    refine lv_isub hx hb d_M_byteOf_14 ?_
    refine kb_top (y := 0) (by decide) ?_
    refine lv_icmp_ge (tgt := 22) hx hb d_M_byteOf_15 (by decide) (fun c9 => ?_) (fun c9 => False.elim (by have e0 : ¬ (k : Int32).toInt < (0 : Int32).toInt := fun z9 => cb1 (Int32.lt_iff_toInt_lt.mpr z9); have e1 : ¬ (0 : Int32).toInt ≤ (k : Int32).toInt := fun z9 => c9 (Int32.le_iff_toInt_le.mpr z9); have k0 : (0 : Int32).toInt = 0 := rfl; omega))
    refine lv_iconst (v := 1) hx hb d_M_byteOf_22 (by decide) ?_
    refine va_put (D := G.1) (ci := 4) (v := .int 1) (ty := .int) (C := "TreePressModel") (T := kb_F4) (N := 21) hx hb ht kb_w4 kb_y4 kb_p4 kb_n4 hown hE.1 hP hD hS 0 rfl rfl 0 (by decide) (ht _ wd_d5599598) (fun _ h9 => h9) rfl (by decide +kernel) rfl rfl (Nat.le_of_ble_eq_true rfl) d_M_byteOf_23 (fun H locs hP hD hS => ?_)
    have hP : va_P G.1 kb_cl [kb_o h 4 [.int 1, .ref m1, .int 0, .ref m3, .int 0, .ref m5, .ref m6, .ref m7, .ref m8, .ref m9, .ref m10, .ref m11, .ref m12, .ref m13, .ref m14, .ref m15, .int 0, .int 0, .int 0, .int 0, .int 0]] H := hP
    have hD : va_D A [kb_o h 4 [.int 1, .ref m1, .int 0, .ref m3, .int 0, .ref m5, .ref m6, .ref m7, .ref m8, .ref m9, .ref m10, .ref m11, .ref m12, .ref m13, .ref m14, .ref m15, .int 0, .int 0, .int 0, .int 0, .int 0]] := hD
    refine lv_aload_n hx hb d_M_byteOf_26 rfl (lv_at hl 0 rfl) ?_
    refine va_get (D := G.1) (ci := 4) (v := .int 1) (C := "TreePressModel") (T := kb_F4) (N := 21) hx hb ht kb_w4 hown hE.1 hP 0 rfl rfl 0 (by decide) (ht _ wd_d5599598) (fun _ h9 => h9) rfl d_M_byteOf_27 ?_
    refine lv_if_le (tgt := 37) hx hb d_M_byteOf_30 (by decide) (fun c9 => absurd c9 (by decide)) (fun c9 => ?_)
    refine lv_iconst (v := 0) hx hb d_M_byteOf_33 (by decide) ?_
    refine lv_goto (tgt := 46) hx hb d_M_byteOf_34 (by decide) ?_
    exact kb_reti (kb_l [], kb_f []) hx hb hr hlocks hE hP hD hS [0] rfl (by decide) rfl rfl (Nat.le_of_ble_eq_true rfl) (Nat.le_of_ble_eq_true rfl) d_M_byteOf_46

set_option maxHeartbeats 4000000 in
set_option maxRecDepth 100000 in
theorem c_M_nodeNameX1 (l : Launch) (G : kb_G) (h : Nat) (T : Int32) (m1 : Nat) (m3 : Nat) (m5 : Nat) (m6 : Nat) (m7 : Nat) (m8 : Nat) (m9 : Nat) (m10 : Nat) (m11 : Nat) (m12 : Nat) (m13 : Nat) (m14 : Nat) (m15 : Nat) (i : Int32) (k : Int32) (hi : ¬ i = 0) : kb_ci l G ⟨"TreePressModel", "nodeName", "(II)I"⟩ prog_6_method_47_code 4 (some .int) 2 0 0 [.ref h, .int i, .int k] [kb_o h 4 [.int T, .ref m1, .int 0, .ref m3, .int 0, .ref m5, .ref m6, .ref m7, .ref m8, .ref m9, .ref m10, .ref m11, .ref m12, .ref m13, .ref m14, .ref m15, .int 0, .int 0, .int 0, .int 0, .int 0], kb_a G m5 2 (upd (fun _ => 0) 0 1)] (fun r u => r = 0) (fun u => [kb_o h 4 [.int 1, .ref m1, .int 0, .ref m3, .int 0, .ref m5, .ref m6, .ref m7, .ref m8, .ref m9, .ref m10, .ref m11, .ref m12, .ref m13, .ref m14, .ref m15, .int 0, .int 0, .int 0, .int 0, .int 0]]) := by
  intro sz
  refine kb_body (QQ := fun A => kb_Qi G A (fun r u => r = 0) (fun u => [kb_o h 4 [.int 1, .ref m1, .int 0, .ref m3, .int 0, .ref m5, .ref m6, .ref m7, .ref m8, .ref m9, .ref m10, .ref m11, .ref m12, .ref m13, .ref m14, .ref m15, .int 0, .int 0, .int 0, .int 0, .int 0]])) (by decide) (Nat.le_of_ble_eq_true rfl) ?_
  intro p e s m below meth c A B ls hl
  obtain ⟨hx, hb, hr, hml, hlocks, hin, hown, ht, hE, hP, hD, hS⟩ := B
  have hl : lv_has ls 4 [(0, .ref h), (1, .int i), (2, .int k)] := hl
  have hP0 := hP
  obtain ⟨H, hHe⟩ : ∃ H, H = s.heap := ⟨_, rfl⟩
  rw [← hHe] at hP
  have hS : va_S A s.heap H [] := by rw [hHe]; exact hS
  refine kb_at hHe ?_
  clear hHe
  refine lv_iload_n hx hb d_M_nodeName_0 rfl (lv_at hl 1 rfl) ?_
  refine lv_if_lt (tgt := 18) hx hb d_M_nodeName_1 (by decide) (fun cb1 => ?_) (fun cb1 => ?_)
  · refine lv_iconst (v := 0) hx hb d_M_nodeName_18 (by decide) ?_
    refine lv_istore_n (lv' := [(3, .int 0), (0, .ref h), (1, .int i), (2, .int k)]) hx hb d_M_nodeName_19 rfl hl (by decide) rfl (fun ls hl => ?_)
    refine lv_aload_n hx hb d_M_nodeName_20 rfl (lv_at hl 1 rfl) ?_
    refine lv_iload_n hx hb d_M_nodeName_21 rfl (lv_at hl 0 rfl) ?_
    refine lv_iload_n hx hb d_M_nodeName_22 rfl (lv_at hl 0 rfl) ?_
    refine lv_if_eq (tgt := 35) hx hb d_M_nodeName_23 (by decide) (fun c9 => ?_) (fun c9 => absurd (by decide) c9)
    refine lv_iconst (v := 0) hx hb d_M_nodeName_35 (by decide) ?_
    refine lv_iload_n hx hb d_M_nodeName_36 rfl (lv_at hl 0 rfl) ?_
    refine lv_if_eq (tgt := 49) hx hb d_M_nodeName_37 (by decide) (fun c9 => ?_) (fun c9 => absurd (by decide) c9)
    refine lv_iconst (v := 0) hx hb d_M_nodeName_49 (by decide) ?_
    refine lv_iload_n hx hb d_M_nodeName_50 rfl (lv_at hl 3 rfl) ?_
    refine kb_i (wc := [kb_o h 4 [.int T, .ref m1, .int 0, .ref m3, .int 0, .ref m5, .ref m6, .ref m7, .ref m8, .ref m9, .ref m10, .ref m11, .ref m12, .ref m13, .ref m14, .ref m15, .int 0, .int 0, .int 0, .int 0, .int 0]]) (wr := [kb_a G m5 2 (upd (fun _ => 0) 0 1)]) hE hP hD hS [0] [1] rfl rfl (by decide) (by decide) (kb_rV (As := [.int 0, .int 0, .int 0, .int k]) (rest := []) (wc := [kb_o h 4 [.int T, .ref m1, .int 0, .ref m3, .int 0, .ref m5, .ref m6, .ref m7, .ref m8, .ref m9, .ref m10, .ref m11, .ref m12, .ref m13, .ref m14, .ref m15, .int 0, .int 0, .int 0, .int 0, .int 0]]) (q0 := 0) ⟨hx, hb, hml, hown, ht⟩ ((c_M_byteOf0 l G h T m1 m3 m5 m6 m7 m8 m9 m10 m11 m12 m13 m14 m15 k) _) (kb_gV wd_6004c2cc wd_903ed9c1 wd_9a16153c wd_38099713 wd_07421635) ⟨rfl, hd_e3670b92⟩ ⟨(Nat.le_of_ble_eq_true rfl), (Nat.le_of_ble_eq_true rfl)⟩ hE hP hD hS [0] rfl (by decide) rfl rfl rfl hl.1 rfl (Nat.le_of_ble_eq_true rfl) d_M_nodeName_51 ⟨(Nat.le_of_ble_eq_true rfl), (Nat.le_of_ble_eq_true rfl)⟩) (fun rv3 uu2 H locs hw hP hD hS => ?_)
    have hP : va_P G.1 kb_cl [kb_a G m5 2 (upd (fun _ => 0) 0 1), kb_o h 4 [.int 1, .ref m1, .int 0, .ref m3, .int 0, .ref m5, .ref m6, .ref m7, .ref m8, .ref m9, .ref m10, .ref m11, .ref m12, .ref m13, .ref m14, .ref m15, .int 0, .int 0, .int 0, .int 0, .int 0]] H := hP
    have hD : va_D A [kb_a G m5 2 (upd (fun _ => 0) 0 1), kb_o h 4 [.int 1, .ref m1, .int 0, .ref m3, .int 0, .ref m5, .ref m6, .ref m7, .ref m8, .ref m9, .ref m10, .ref m11, .ref m12, .ref m13, .ref m14, .ref m15, .int 0, .int 0, .int 0, .int 0, .int 0]] := hD
    refine kb_top (y := 0) (show rv3 = 0 from hw) ?_
    exact kb_reti (kb_l [], kb_f []) hx hb hr hlocks hE hP hD hS [1] rfl (by decide) rfl rfl (Nat.le_of_ble_eq_true rfl) (Nat.le_of_ble_eq_true rfl) d_M_nodeName_54
  · refine lv_iload_n hx hb d_M_nodeName_4 rfl (lv_at hl 1 rfl) ?_
    refine lv_aload_n hx hb d_M_nodeName_5 rfl (lv_at hl 0 rfl) ?_
    refine va_get (D := G.1) (ci := 4) (v := .ref m5) (C := "TreePressModel") (T := kb_F4) (N := 21) hx hb ht kb_w4 hown hE.1 hP 0 rfl rfl 5 (by decide) (ht _ wd_e8505d70) (fun _ h9 => h9) rfl d_M_nodeName_6 ?_
    refine lv_iconst (v := 0) hx hb d_M_nodeName_9 (by decide) ?_
    refine va_iald hx hb hE.1 hP 1 0 rfl rfl (show ¬ ((0 : Int32) < 0 ∨ 2 ≤ (0 : Int32).toNatClampNeg) by decide) d_M_nodeName_10 ?_
    refine kb_top (y := 1) rfl ?_
    refine lv_icmp_ge (tgt := 18) hx hb d_M_nodeName_11 (by decide) (fun c9 => ?_) (fun c9 => False.elim (by have e0 : ¬ (i : Int32).toInt = (0 : Int32).toInt := fun z9 => hi (Int32.toInt_inj.mp z9); have e1 : ¬ (i : Int32).toInt < (0 : Int32).toInt := fun z9 => cb1 (Int32.lt_iff_toInt_lt.mpr z9); have e2 : ¬ (1 : Int32).toInt ≤ (i : Int32).toInt := fun z9 => c9 (Int32.le_iff_toInt_le.mpr z9); have k0 : (0 : Int32).toInt = 0 := rfl; have k1 : (1 : Int32).toInt = 1 := rfl; omega))
    refine lv_iconst (v := 0) hx hb d_M_nodeName_18 (by decide) ?_
    refine lv_istore_n (lv' := [(3, .int 0), (0, .ref h), (1, .int i), (2, .int k)]) hx hb d_M_nodeName_19 rfl hl (by decide) rfl (fun ls hl => ?_)
    refine lv_aload_n hx hb d_M_nodeName_20 rfl (lv_at hl 1 rfl) ?_
    refine lv_iload_n hx hb d_M_nodeName_21 rfl (lv_at hl 0 rfl) ?_
    refine lv_iload_n hx hb d_M_nodeName_22 rfl (lv_at hl 0 rfl) ?_
    refine lv_if_eq (tgt := 35) hx hb d_M_nodeName_23 (by decide) (fun c9 => ?_) (fun c9 => absurd (by decide) c9)
    refine lv_iconst (v := 0) hx hb d_M_nodeName_35 (by decide) ?_
    refine lv_iload_n hx hb d_M_nodeName_36 rfl (lv_at hl 0 rfl) ?_
    refine lv_if_eq (tgt := 49) hx hb d_M_nodeName_37 (by decide) (fun c9 => ?_) (fun c9 => absurd (by decide) c9)
    refine lv_iconst (v := 0) hx hb d_M_nodeName_49 (by decide) ?_
    refine lv_iload_n hx hb d_M_nodeName_50 rfl (lv_at hl 3 rfl) ?_
    refine kb_i (wc := [kb_o h 4 [.int T, .ref m1, .int 0, .ref m3, .int 0, .ref m5, .ref m6, .ref m7, .ref m8, .ref m9, .ref m10, .ref m11, .ref m12, .ref m13, .ref m14, .ref m15, .int 0, .int 0, .int 0, .int 0, .int 0]]) (wr := [kb_a G m5 2 (upd (fun _ => 0) 0 1)]) hE hP hD hS [0] [1] rfl rfl (by decide) (by decide) (kb_rV (As := [.int 0, .int 0, .int 0, .int k]) (rest := []) (wc := [kb_o h 4 [.int T, .ref m1, .int 0, .ref m3, .int 0, .ref m5, .ref m6, .ref m7, .ref m8, .ref m9, .ref m10, .ref m11, .ref m12, .ref m13, .ref m14, .ref m15, .int 0, .int 0, .int 0, .int 0, .int 0]]) (q0 := 0) ⟨hx, hb, hml, hown, ht⟩ ((c_M_byteOf0 l G h T m1 m3 m5 m6 m7 m8 m9 m10 m11 m12 m13 m14 m15 k) _) (kb_gV wd_6004c2cc wd_903ed9c1 wd_9a16153c wd_38099713 wd_07421635) ⟨rfl, hd_e3670b92⟩ ⟨(Nat.le_of_ble_eq_true rfl), (Nat.le_of_ble_eq_true rfl)⟩ hE hP hD hS [0] rfl (by decide) rfl rfl rfl hl.1 rfl (Nat.le_of_ble_eq_true rfl) d_M_nodeName_51 ⟨(Nat.le_of_ble_eq_true rfl), (Nat.le_of_ble_eq_true rfl)⟩) (fun rv5 uu4 H locs hw hP hD hS => ?_)
    have hP : va_P G.1 kb_cl [kb_a G m5 2 (upd (fun _ => 0) 0 1), kb_o h 4 [.int 1, .ref m1, .int 0, .ref m3, .int 0, .ref m5, .ref m6, .ref m7, .ref m8, .ref m9, .ref m10, .ref m11, .ref m12, .ref m13, .ref m14, .ref m15, .int 0, .int 0, .int 0, .int 0, .int 0]] H := hP
    have hD : va_D A [kb_a G m5 2 (upd (fun _ => 0) 0 1), kb_o h 4 [.int 1, .ref m1, .int 0, .ref m3, .int 0, .ref m5, .ref m6, .ref m7, .ref m8, .ref m9, .ref m10, .ref m11, .ref m12, .ref m13, .ref m14, .ref m15, .int 0, .int 0, .int 0, .int 0, .int 0]] := hD
    refine kb_top (y := 0) (show rv5 = 0 from hw) ?_
    exact kb_reti (kb_l [], kb_f []) hx hb hr hlocks hE hP hD hS [1] rfl (by decide) rfl rfl (Nat.le_of_ble_eq_true rfl) (Nat.le_of_ble_eq_true rfl) d_M_nodeName_54

set_option maxHeartbeats 4000000 in
set_option maxRecDepth 100000 in
theorem c_M_nodeNameX2 (l : Launch) (G : kb_G) (h : Nat) (T : Int32) (m1 : Nat) (m3 : Nat) (m5 : Nat) (m6 : Nat) (m7 : Nat) (m8 : Nat) (m9 : Nat) (m10 : Nat) (m11 : Nat) (m12 : Nat) (m13 : Nat) (m14 : Nat) (m15 : Nat) (k : Int32) : kb_ci l G ⟨"TreePressModel", "nodeName", "(II)I"⟩ prog_6_method_47_code 4 (some .int) 2 0 0 [.ref h, .int 0, .int k] [kb_o h 4 [.int T, .ref m1, .int 0, .ref m3, .int 0, .ref m5, .ref m6, .ref m7, .ref m8, .ref m9, .ref m10, .ref m11, .ref m12, .ref m13, .ref m14, .ref m15, .int 0, .int 0, .int 0, .int 0, .int 0], kb_a G m5 2 (upd (fun _ => 0) 0 1), kb_a G m9 256 (upd (fun _ => 0) 0 0), kb_a G m10 256 (upd (fun _ => 0) 0 0)] (fun r u => r = 0) (fun u => [kb_o h 4 [.int 1, .ref m1, .int 0, .ref m3, .int 0, .ref m5, .ref m6, .ref m7, .ref m8, .ref m9, .ref m10, .ref m11, .ref m12, .ref m13, .ref m14, .ref m15, .int 0, .int 0, .int 0, .int 0, .int 0]]) := by
  intro sz
  refine kb_body (QQ := fun A => kb_Qi G A (fun r u => r = 0) (fun u => [kb_o h 4 [.int 1, .ref m1, .int 0, .ref m3, .int 0, .ref m5, .ref m6, .ref m7, .ref m8, .ref m9, .ref m10, .ref m11, .ref m12, .ref m13, .ref m14, .ref m15, .int 0, .int 0, .int 0, .int 0, .int 0]])) (by decide) (Nat.le_of_ble_eq_true rfl) ?_
  intro p e s m below meth c A B ls hl
  obtain ⟨hx, hb, hr, hml, hlocks, hin, hown, ht, hE, hP, hD, hS⟩ := B
  have hl : lv_has ls 4 [(0, .ref h), (1, .int 0), (2, .int k)] := hl
  have hP0 := hP
  obtain ⟨H, hHe⟩ : ∃ H, H = s.heap := ⟨_, rfl⟩
  rw [← hHe] at hP
  have hS : va_S A s.heap H [] := by rw [hHe]; exact hS
  refine kb_at hHe ?_
  clear hHe
  refine lv_iload_n hx hb d_M_nodeName_0 rfl (lv_at hl 1 rfl) ?_
  refine lv_if_lt (tgt := 18) hx hb d_M_nodeName_1 (by decide) (fun c9 => absurd c9 (by decide)) (fun c9 => ?_)
  refine lv_iload_n hx hb d_M_nodeName_4 rfl (lv_at hl 1 rfl) ?_
  refine lv_aload_n hx hb d_M_nodeName_5 rfl (lv_at hl 0 rfl) ?_
  refine va_get (D := G.1) (ci := 4) (v := .ref m5) (C := "TreePressModel") (T := kb_F4) (N := 21) hx hb ht kb_w4 hown hE.1 hP 0 rfl rfl 5 (by decide) (ht _ wd_e8505d70) (fun _ h9 => h9) rfl d_M_nodeName_6 ?_
  refine lv_iconst (v := 0) hx hb d_M_nodeName_9 (by decide) ?_
  refine va_iald hx hb hE.1 hP 1 0 rfl rfl (show ¬ ((0 : Int32) < 0 ∨ 2 ≤ (0 : Int32).toNatClampNeg) by decide) d_M_nodeName_10 ?_
  refine kb_top (y := 1) rfl ?_
  refine lv_icmp_ge (tgt := 18) hx hb d_M_nodeName_11 (by decide) (fun c9 => absurd c9 (by decide)) (fun c9 => ?_)
  refine lv_iconst (v := 1) hx hb d_M_nodeName_14 (by decide) ?_
  refine lv_goto (tgt := 19) hx hb d_M_nodeName_15 (by decide) ?_
  refine lv_istore_n (lv' := [(3, .int 1), (0, .ref h), (1, .int 0), (2, .int k)]) hx hb d_M_nodeName_19 rfl hl (by decide) rfl (fun ls hl => ?_)
  refine lv_aload_n hx hb d_M_nodeName_20 rfl (lv_at hl 1 rfl) ?_
  refine lv_iload_n hx hb d_M_nodeName_21 rfl (lv_at hl 0 rfl) ?_
  refine lv_iload_n hx hb d_M_nodeName_22 rfl (lv_at hl 0 rfl) ?_
  refine lv_if_eq (tgt := 35) hx hb d_M_nodeName_23 (by decide) (fun c9 => absurd c9 (by decide)) (fun c9 => ?_)
  refine lv_aload_n hx hb d_M_nodeName_26 rfl (lv_at hl 1 rfl) ?_
  refine va_get (D := G.1) (ci := 4) (v := .ref m9) (C := "TreePressModel") (T := kb_F4) (N := 21) hx hb ht kb_w4 hown hE.1 hP 0 rfl rfl 9 (by decide) (ht _ wd_0465fd3b) (fun _ h9 => h9) rfl d_M_nodeName_27 ?_
  refine lv_iload_n hx hb d_M_nodeName_30 rfl (lv_at hl 2 rfl) ?_
  refine va_iald hx hb hE.1 hP 2 0 rfl rfl (show ¬ ((0 : Int32) < 0 ∨ 256 ≤ (0 : Int32).toNatClampNeg) by decide) d_M_nodeName_31 ?_
  refine kb_top (y := 0) rfl ?_
  refine lv_goto (tgt := 36) hx hb d_M_nodeName_32 (by decide) ?_
  refine lv_iload_n hx hb d_M_nodeName_36 rfl (lv_at hl 0 rfl) ?_
  refine lv_if_eq (tgt := 49) hx hb d_M_nodeName_37 (by decide) (fun c9 => absurd c9 (by decide)) (fun c9 => ?_)
  refine lv_aload_n hx hb d_M_nodeName_40 rfl (lv_at hl 1 rfl) ?_
  refine va_get (D := G.1) (ci := 4) (v := .ref m10) (C := "TreePressModel") (T := kb_F4) (N := 21) hx hb ht kb_w4 hown hE.1 hP 0 rfl rfl 10 (by decide) (ht _ wd_05d4d7b5) (fun _ h9 => h9) rfl d_M_nodeName_41 ?_
  refine lv_iload_n hx hb d_M_nodeName_44 rfl (lv_at hl 2 rfl) ?_
  refine va_iald hx hb hE.1 hP 3 0 rfl rfl (show ¬ ((0 : Int32) < 0 ∨ 256 ≤ (0 : Int32).toNatClampNeg) by decide) d_M_nodeName_45 ?_
  refine kb_top (y := 0) rfl ?_
  refine lv_goto (tgt := 50) hx hb d_M_nodeName_46 (by decide) ?_
  refine lv_iload_n hx hb d_M_nodeName_50 rfl (lv_at hl 3 rfl) ?_
  refine kb_i (wc := [kb_o h 4 [.int T, .ref m1, .int 0, .ref m3, .int 0, .ref m5, .ref m6, .ref m7, .ref m8, .ref m9, .ref m10, .ref m11, .ref m12, .ref m13, .ref m14, .ref m15, .int 0, .int 0, .int 0, .int 0, .int 0]]) (wr := [kb_a G m5 2 (upd (fun _ => 0) 0 1), kb_a G m9 256 (upd (fun _ => 0) 0 0), kb_a G m10 256 (upd (fun _ => 0) 0 0)]) hE hP hD hS [0] [1, 2, 3] rfl rfl (by decide) (by decide) (kb_rV (As := [.int 1, .int 0, .int 0, .int k]) (rest := []) (wc := [kb_o h 4 [.int T, .ref m1, .int 0, .ref m3, .int 0, .ref m5, .ref m6, .ref m7, .ref m8, .ref m9, .ref m10, .ref m11, .ref m12, .ref m13, .ref m14, .ref m15, .int 0, .int 0, .int 0, .int 0, .int 0]]) (q0 := 0) ⟨hx, hb, hml, hown, ht⟩ ((c_M_byteOf1 l G h T m1 m3 m5 m6 m7 m8 m9 m10 m11 m12 m13 m14 m15 k) _) (kb_gV wd_6004c2cc wd_903ed9c1 wd_9a16153c wd_38099713 wd_07421635) ⟨rfl, hd_e3670b92⟩ ⟨(Nat.le_of_ble_eq_true rfl), (Nat.le_of_ble_eq_true rfl)⟩ hE hP hD hS [0] rfl (by decide) rfl rfl rfl hl.1 rfl (Nat.le_of_ble_eq_true rfl) d_M_nodeName_51 ⟨(Nat.le_of_ble_eq_true rfl), (Nat.le_of_ble_eq_true rfl)⟩) (fun rv2 uu1 H locs hw hP hD hS => ?_)
  have hP : va_P G.1 kb_cl [kb_a G m5 2 (upd (fun _ => 0) 0 1), kb_a G m9 256 (upd (fun _ => 0) 0 0), kb_a G m10 256 (upd (fun _ => 0) 0 0), kb_o h 4 [.int 1, .ref m1, .int 0, .ref m3, .int 0, .ref m5, .ref m6, .ref m7, .ref m8, .ref m9, .ref m10, .ref m11, .ref m12, .ref m13, .ref m14, .ref m15, .int 0, .int 0, .int 0, .int 0, .int 0]] H := hP
  have hD : va_D A [kb_a G m5 2 (upd (fun _ => 0) 0 1), kb_a G m9 256 (upd (fun _ => 0) 0 0), kb_a G m10 256 (upd (fun _ => 0) 0 0), kb_o h 4 [.int 1, .ref m1, .int 0, .ref m3, .int 0, .ref m5, .ref m6, .ref m7, .ref m8, .ref m9, .ref m10, .ref m11, .ref m12, .ref m13, .ref m14, .ref m15, .int 0, .int 0, .int 0, .int 0, .int 0]] := hD
  refine kb_top (y := 0) (show rv2 = 0 from hw) ?_
  exact kb_reti (kb_l [], kb_f []) hx hb hr hlocks hE hP hD hS [3] rfl (by decide) rfl rfl (Nat.le_of_ble_eq_true rfl) (Nat.le_of_ble_eq_true rfl) d_M_nodeName_54

set_option maxHeartbeats 4000000 in
set_option maxRecDepth 100000 in
theorem c_M_name (l : Launch) (G : kb_G) (h : Nat) (T : Int32) (m1 : Nat) (m3 : Nat) (m5 : Nat) (m6 : Nat) (m7 : Nat) (m8 : Nat) (m9 : Nat) (m10 : Nat) (m11 : Nat) (m12 : Nat) (m13 : Nat) (m14 : Nat) (m15 : Nat) (i : Int32) (k : Int32) : kb_ci l G ⟨"TreePressModel", "name", "(II)I"⟩ prog_6_method_48_code 4 (some .int) 2 0 0 [.ref h, .int i, .int k] [kb_o h 4 [.int T, .ref m1, .int 0, .ref m3, .int 0, .ref m5, .ref m6, .ref m7, .ref m8, .ref m9, .ref m10, .ref m11, .ref m12, .ref m13, .ref m14, .ref m15, .int 0, .int 0, .int 0, .int 0, .int 0], kb_a G m6 2 (upd (fun _ => 0) 0 0)] (fun r u => r = 0) (fun u => [kb_o h 4 [.int 1, .ref m1, .int 0, .ref m3, .int 0, .ref m5, .ref m6, .ref m7, .ref m8, .ref m9, .ref m10, .ref m11, .ref m12, .ref m13, .ref m14, .ref m15, .int 0, .int 0, .int 0, .int 0, .int 0]]) := by
  intro sz
  refine kb_body (QQ := fun A => kb_Qi G A (fun r u => r = 0) (fun u => [kb_o h 4 [.int 1, .ref m1, .int 0, .ref m3, .int 0, .ref m5, .ref m6, .ref m7, .ref m8, .ref m9, .ref m10, .ref m11, .ref m12, .ref m13, .ref m14, .ref m15, .int 0, .int 0, .int 0, .int 0, .int 0]])) (by decide) (Nat.le_of_ble_eq_true rfl) ?_
  intro p e s m below meth c A B ls hl
  obtain ⟨hx, hb, hr, hml, hlocks, hin, hown, ht, hE, hP, hD, hS⟩ := B
  have hl : lv_has ls 4 [(0, .ref h), (1, .int i), (2, .int k)] := hl
  have hP0 := hP
  obtain ⟨H, hHe⟩ : ∃ H, H = s.heap := ⟨_, rfl⟩
  rw [← hHe] at hP
  have hS : va_S A s.heap H [] := by rw [hHe]; exact hS
  refine kb_at hHe ?_
  clear hHe
  refine lv_iload_n hx hb d_M_name_0 rfl (lv_at hl 1 rfl) ?_
  refine lv_if_lt (tgt := 18) hx hb d_M_name_1 (by decide) (fun cb1 => ?_) (fun cb1 => ?_)
  · refine lv_iconst (v := 0) hx hb d_M_name_18 (by decide) ?_
    refine lv_istore_n (lv' := [(3, .int 0), (0, .ref h), (1, .int i), (2, .int k)]) hx hb d_M_name_19 rfl hl (by decide) rfl (fun ls hl => ?_)
    refine lv_aload_n hx hb d_M_name_20 rfl (lv_at hl 1 rfl) ?_
    refine lv_iload_n hx hb d_M_name_21 rfl (lv_at hl 0 rfl) ?_
    refine lv_iload_n hx hb d_M_name_22 rfl (lv_at hl 0 rfl) ?_
    refine lv_if_eq (tgt := 35) hx hb d_M_name_23 (by decide) (fun c9 => ?_) (fun c9 => absurd (by decide) c9)
    refine lv_iconst (v := 0) hx hb d_M_name_35 (by decide) ?_
    refine lv_iload_n hx hb d_M_name_36 rfl (lv_at hl 0 rfl) ?_
    refine lv_if_eq (tgt := 49) hx hb d_M_name_37 (by decide) (fun c9 => ?_) (fun c9 => absurd (by decide) c9)
    refine lv_iconst (v := 0) hx hb d_M_name_49 (by decide) ?_
    refine lv_iload_n hx hb d_M_name_50 rfl (lv_at hl 3 rfl) ?_
    refine kb_i (wc := [kb_o h 4 [.int T, .ref m1, .int 0, .ref m3, .int 0, .ref m5, .ref m6, .ref m7, .ref m8, .ref m9, .ref m10, .ref m11, .ref m12, .ref m13, .ref m14, .ref m15, .int 0, .int 0, .int 0, .int 0, .int 0]]) (wr := [kb_a G m6 2 (upd (fun _ => 0) 0 0)]) hE hP hD hS [0] [1] rfl rfl (by decide) (by decide) (kb_rV (As := [.int 0, .int 0, .int 0, .int k]) (rest := []) (wc := [kb_o h 4 [.int T, .ref m1, .int 0, .ref m3, .int 0, .ref m5, .ref m6, .ref m7, .ref m8, .ref m9, .ref m10, .ref m11, .ref m12, .ref m13, .ref m14, .ref m15, .int 0, .int 0, .int 0, .int 0, .int 0]]) (q0 := 0) ⟨hx, hb, hml, hown, ht⟩ ((c_M_byteOf0 l G h T m1 m3 m5 m6 m7 m8 m9 m10 m11 m12 m13 m14 m15 k) _) (kb_gV wd_6004c2cc wd_903ed9c1 wd_9a16153c wd_38099713 wd_07421635) ⟨rfl, hd_e3670b92⟩ ⟨(Nat.le_of_ble_eq_true rfl), (Nat.le_of_ble_eq_true rfl)⟩ hE hP hD hS [0] rfl (by decide) rfl rfl rfl hl.1 rfl (Nat.le_of_ble_eq_true rfl) d_M_name_51 ⟨(Nat.le_of_ble_eq_true rfl), (Nat.le_of_ble_eq_true rfl)⟩) (fun rv3 uu2 H locs hw hP hD hS => ?_)
    have hP : va_P G.1 kb_cl [kb_a G m6 2 (upd (fun _ => 0) 0 0), kb_o h 4 [.int 1, .ref m1, .int 0, .ref m3, .int 0, .ref m5, .ref m6, .ref m7, .ref m8, .ref m9, .ref m10, .ref m11, .ref m12, .ref m13, .ref m14, .ref m15, .int 0, .int 0, .int 0, .int 0, .int 0]] H := hP
    have hD : va_D A [kb_a G m6 2 (upd (fun _ => 0) 0 0), kb_o h 4 [.int 1, .ref m1, .int 0, .ref m3, .int 0, .ref m5, .ref m6, .ref m7, .ref m8, .ref m9, .ref m10, .ref m11, .ref m12, .ref m13, .ref m14, .ref m15, .int 0, .int 0, .int 0, .int 0, .int 0]] := hD
    refine kb_top (y := 0) (show rv3 = 0 from hw) ?_
    exact kb_reti (kb_l [], kb_f []) hx hb hr hlocks hE hP hD hS [1] rfl (by decide) rfl rfl (Nat.le_of_ble_eq_true rfl) (Nat.le_of_ble_eq_true rfl) d_M_name_54
  · refine lv_iload_n hx hb d_M_name_4 rfl (lv_at hl 1 rfl) ?_
    refine lv_aload_n hx hb d_M_name_5 rfl (lv_at hl 0 rfl) ?_
    refine va_get (D := G.1) (ci := 4) (v := .ref m6) (C := "TreePressModel") (T := kb_F4) (N := 21) hx hb ht kb_w4 hown hE.1 hP 0 rfl rfl 6 (by decide) (ht _ wd_0c18f9c0) (fun _ h9 => h9) rfl d_M_name_6 ?_
    refine lv_iconst (v := 0) hx hb d_M_name_9 (by decide) ?_
    refine va_iald hx hb hE.1 hP 1 0 rfl rfl (show ¬ ((0 : Int32) < 0 ∨ 2 ≤ (0 : Int32).toNatClampNeg) by decide) d_M_name_10 ?_
    refine kb_top (y := 0) rfl ?_
    refine lv_icmp_ge (tgt := 18) hx hb d_M_name_11 (by decide) (fun c9 => ?_) (fun c9 => False.elim (by have e0 : ¬ (i : Int32).toInt < (0 : Int32).toInt := fun z9 => cb1 (Int32.lt_iff_toInt_lt.mpr z9); have e1 : ¬ (0 : Int32).toInt ≤ (i : Int32).toInt := fun z9 => c9 (Int32.le_iff_toInt_le.mpr z9); have k0 : (0 : Int32).toInt = 0 := rfl; omega))
    refine lv_iconst (v := 0) hx hb d_M_name_18 (by decide) ?_
    refine lv_istore_n (lv' := [(3, .int 0), (0, .ref h), (1, .int i), (2, .int k)]) hx hb d_M_name_19 rfl hl (by decide) rfl (fun ls hl => ?_)
    refine lv_aload_n hx hb d_M_name_20 rfl (lv_at hl 1 rfl) ?_
    refine lv_iload_n hx hb d_M_name_21 rfl (lv_at hl 0 rfl) ?_
    refine lv_iload_n hx hb d_M_name_22 rfl (lv_at hl 0 rfl) ?_
    refine lv_if_eq (tgt := 35) hx hb d_M_name_23 (by decide) (fun c9 => ?_) (fun c9 => absurd (by decide) c9)
    refine lv_iconst (v := 0) hx hb d_M_name_35 (by decide) ?_
    refine lv_iload_n hx hb d_M_name_36 rfl (lv_at hl 0 rfl) ?_
    refine lv_if_eq (tgt := 49) hx hb d_M_name_37 (by decide) (fun c9 => ?_) (fun c9 => absurd (by decide) c9)
    refine lv_iconst (v := 0) hx hb d_M_name_49 (by decide) ?_
    refine lv_iload_n hx hb d_M_name_50 rfl (lv_at hl 3 rfl) ?_
    refine kb_i (wc := [kb_o h 4 [.int T, .ref m1, .int 0, .ref m3, .int 0, .ref m5, .ref m6, .ref m7, .ref m8, .ref m9, .ref m10, .ref m11, .ref m12, .ref m13, .ref m14, .ref m15, .int 0, .int 0, .int 0, .int 0, .int 0]]) (wr := [kb_a G m6 2 (upd (fun _ => 0) 0 0)]) hE hP hD hS [0] [1] rfl rfl (by decide) (by decide) (kb_rV (As := [.int 0, .int 0, .int 0, .int k]) (rest := []) (wc := [kb_o h 4 [.int T, .ref m1, .int 0, .ref m3, .int 0, .ref m5, .ref m6, .ref m7, .ref m8, .ref m9, .ref m10, .ref m11, .ref m12, .ref m13, .ref m14, .ref m15, .int 0, .int 0, .int 0, .int 0, .int 0]]) (q0 := 0) ⟨hx, hb, hml, hown, ht⟩ ((c_M_byteOf0 l G h T m1 m3 m5 m6 m7 m8 m9 m10 m11 m12 m13 m14 m15 k) _) (kb_gV wd_6004c2cc wd_903ed9c1 wd_9a16153c wd_38099713 wd_07421635) ⟨rfl, hd_e3670b92⟩ ⟨(Nat.le_of_ble_eq_true rfl), (Nat.le_of_ble_eq_true rfl)⟩ hE hP hD hS [0] rfl (by decide) rfl rfl rfl hl.1 rfl (Nat.le_of_ble_eq_true rfl) d_M_name_51 ⟨(Nat.le_of_ble_eq_true rfl), (Nat.le_of_ble_eq_true rfl)⟩) (fun rv5 uu4 H locs hw hP hD hS => ?_)
    have hP : va_P G.1 kb_cl [kb_a G m6 2 (upd (fun _ => 0) 0 0), kb_o h 4 [.int 1, .ref m1, .int 0, .ref m3, .int 0, .ref m5, .ref m6, .ref m7, .ref m8, .ref m9, .ref m10, .ref m11, .ref m12, .ref m13, .ref m14, .ref m15, .int 0, .int 0, .int 0, .int 0, .int 0]] H := hP
    have hD : va_D A [kb_a G m6 2 (upd (fun _ => 0) 0 0), kb_o h 4 [.int 1, .ref m1, .int 0, .ref m3, .int 0, .ref m5, .ref m6, .ref m7, .ref m8, .ref m9, .ref m10, .ref m11, .ref m12, .ref m13, .ref m14, .ref m15, .int 0, .int 0, .int 0, .int 0, .int 0]] := hD
    refine kb_top (y := 0) (show rv5 = 0 from hw) ?_
    exact kb_reti (kb_l [], kb_f []) hx hb hr hlocks hE hP hD hS [1] rfl (by decide) rfl rfl (Nat.le_of_ble_eq_true rfl) (Nat.le_of_ble_eq_true rfl) d_M_name_54

set_option maxHeartbeats 4000000 in
set_option maxRecDepth 100000 in
theorem c_M_value (l : Launch) (G : kb_G) (h : Nat) (T : Int32) (m1 : Nat) (m3 : Nat) (m5 : Nat) (m6 : Nat) (m7 : Nat) (m8 : Nat) (m9 : Nat) (m10 : Nat) (m11 : Nat) (m12 : Nat) (m13 : Nat) (m14 : Nat) (m15 : Nat) (i : Int32) (k : Int32) : kb_ci l G ⟨"TreePressModel", "value", "(II)I"⟩ prog_6_method_49_code 4 (some .int) 2 0 0 [.ref h, .int i, .int k] [kb_o h 4 [.int T, .ref m1, .int 0, .ref m3, .int 0, .ref m5, .ref m6, .ref m7, .ref m8, .ref m9, .ref m10, .ref m11, .ref m12, .ref m13, .ref m14, .ref m15, .int 0, .int 0, .int 0, .int 0, .int 0], kb_a G m6 2 (upd (fun _ => 0) 0 0)] (fun r u => r = 0) (fun u => [kb_o h 4 [.int 1, .ref m1, .int 0, .ref m3, .int 0, .ref m5, .ref m6, .ref m7, .ref m8, .ref m9, .ref m10, .ref m11, .ref m12, .ref m13, .ref m14, .ref m15, .int 0, .int 0, .int 0, .int 0, .int 0]]) := by
  intro sz
  refine kb_body (QQ := fun A => kb_Qi G A (fun r u => r = 0) (fun u => [kb_o h 4 [.int 1, .ref m1, .int 0, .ref m3, .int 0, .ref m5, .ref m6, .ref m7, .ref m8, .ref m9, .ref m10, .ref m11, .ref m12, .ref m13, .ref m14, .ref m15, .int 0, .int 0, .int 0, .int 0, .int 0]])) (by decide) (Nat.le_of_ble_eq_true rfl) ?_
  intro p e s m below meth c A B ls hl
  obtain ⟨hx, hb, hr, hml, hlocks, hin, hown, ht, hE, hP, hD, hS⟩ := B
  have hl : lv_has ls 4 [(0, .ref h), (1, .int i), (2, .int k)] := hl
  have hP0 := hP
  obtain ⟨H, hHe⟩ : ∃ H, H = s.heap := ⟨_, rfl⟩
  rw [← hHe] at hP
  have hS : va_S A s.heap H [] := by rw [hHe]; exact hS
  refine kb_at hHe ?_
  clear hHe
  refine lv_iload_n hx hb d_M_value_0 rfl (lv_at hl 1 rfl) ?_
  refine lv_if_lt (tgt := 18) hx hb d_M_value_1 (by decide) (fun cb1 => ?_) (fun cb1 => ?_)
  · refine lv_iconst (v := 0) hx hb d_M_value_18 (by decide) ?_
    refine lv_istore_n (lv' := [(3, .int 0), (0, .ref h), (1, .int i), (2, .int k)]) hx hb d_M_value_19 rfl hl (by decide) rfl (fun ls hl => ?_)
    refine lv_aload_n hx hb d_M_value_20 rfl (lv_at hl 1 rfl) ?_
    refine lv_iload_n hx hb d_M_value_21 rfl (lv_at hl 0 rfl) ?_
    refine lv_iload_n hx hb d_M_value_22 rfl (lv_at hl 0 rfl) ?_
    refine lv_if_eq (tgt := 35) hx hb d_M_value_23 (by decide) (fun c9 => ?_) (fun c9 => absurd (by decide) c9)
    refine lv_iconst (v := 0) hx hb d_M_value_35 (by decide) ?_
    refine lv_iload_n hx hb d_M_value_36 rfl (lv_at hl 0 rfl) ?_
    refine lv_if_eq (tgt := 49) hx hb d_M_value_37 (by decide) (fun c9 => ?_) (fun c9 => absurd (by decide) c9)
    refine lv_iconst (v := 0) hx hb d_M_value_49 (by decide) ?_
    refine lv_iload_n hx hb d_M_value_50 rfl (lv_at hl 3 rfl) ?_
    refine kb_i (wc := [kb_o h 4 [.int T, .ref m1, .int 0, .ref m3, .int 0, .ref m5, .ref m6, .ref m7, .ref m8, .ref m9, .ref m10, .ref m11, .ref m12, .ref m13, .ref m14, .ref m15, .int 0, .int 0, .int 0, .int 0, .int 0]]) (wr := [kb_a G m6 2 (upd (fun _ => 0) 0 0)]) hE hP hD hS [0] [1] rfl rfl (by decide) (by decide) (kb_rV (As := [.int 0, .int 0, .int 0, .int k]) (rest := []) (wc := [kb_o h 4 [.int T, .ref m1, .int 0, .ref m3, .int 0, .ref m5, .ref m6, .ref m7, .ref m8, .ref m9, .ref m10, .ref m11, .ref m12, .ref m13, .ref m14, .ref m15, .int 0, .int 0, .int 0, .int 0, .int 0]]) (q0 := 0) ⟨hx, hb, hml, hown, ht⟩ ((c_M_byteOf0 l G h T m1 m3 m5 m6 m7 m8 m9 m10 m11 m12 m13 m14 m15 k) _) (kb_gV wd_6004c2cc wd_903ed9c1 wd_9a16153c wd_38099713 wd_07421635) ⟨rfl, hd_e3670b92⟩ ⟨(Nat.le_of_ble_eq_true rfl), (Nat.le_of_ble_eq_true rfl)⟩ hE hP hD hS [0] rfl (by decide) rfl rfl rfl hl.1 rfl (Nat.le_of_ble_eq_true rfl) d_M_value_51 ⟨(Nat.le_of_ble_eq_true rfl), (Nat.le_of_ble_eq_true rfl)⟩) (fun rv3 uu2 H locs hw hP hD hS => ?_)
    have hP : va_P G.1 kb_cl [kb_a G m6 2 (upd (fun _ => 0) 0 0), kb_o h 4 [.int 1, .ref m1, .int 0, .ref m3, .int 0, .ref m5, .ref m6, .ref m7, .ref m8, .ref m9, .ref m10, .ref m11, .ref m12, .ref m13, .ref m14, .ref m15, .int 0, .int 0, .int 0, .int 0, .int 0]] H := hP
    have hD : va_D A [kb_a G m6 2 (upd (fun _ => 0) 0 0), kb_o h 4 [.int 1, .ref m1, .int 0, .ref m3, .int 0, .ref m5, .ref m6, .ref m7, .ref m8, .ref m9, .ref m10, .ref m11, .ref m12, .ref m13, .ref m14, .ref m15, .int 0, .int 0, .int 0, .int 0, .int 0]] := hD
    refine kb_top (y := 0) (show rv3 = 0 from hw) ?_
    exact kb_reti (kb_l [], kb_f []) hx hb hr hlocks hE hP hD hS [1] rfl (by decide) rfl rfl (Nat.le_of_ble_eq_true rfl) (Nat.le_of_ble_eq_true rfl) d_M_value_54
  · refine lv_iload_n hx hb d_M_value_4 rfl (lv_at hl 1 rfl) ?_
    refine lv_aload_n hx hb d_M_value_5 rfl (lv_at hl 0 rfl) ?_
    refine va_get (D := G.1) (ci := 4) (v := .ref m6) (C := "TreePressModel") (T := kb_F4) (N := 21) hx hb ht kb_w4 hown hE.1 hP 0 rfl rfl 6 (by decide) (ht _ wd_0c18f9c0) (fun _ h9 => h9) rfl d_M_value_6 ?_
    refine lv_iconst (v := 0) hx hb d_M_value_9 (by decide) ?_
    refine va_iald hx hb hE.1 hP 1 0 rfl rfl (show ¬ ((0 : Int32) < 0 ∨ 2 ≤ (0 : Int32).toNatClampNeg) by decide) d_M_value_10 ?_
    refine kb_top (y := 0) rfl ?_
    refine lv_icmp_ge (tgt := 18) hx hb d_M_value_11 (by decide) (fun c9 => ?_) (fun c9 => False.elim (by have e0 : ¬ (i : Int32).toInt < (0 : Int32).toInt := fun z9 => cb1 (Int32.lt_iff_toInt_lt.mpr z9); have e1 : ¬ (0 : Int32).toInt ≤ (i : Int32).toInt := fun z9 => c9 (Int32.le_iff_toInt_le.mpr z9); have k0 : (0 : Int32).toInt = 0 := rfl; omega))
    refine lv_iconst (v := 0) hx hb d_M_value_18 (by decide) ?_
    refine lv_istore_n (lv' := [(3, .int 0), (0, .ref h), (1, .int i), (2, .int k)]) hx hb d_M_value_19 rfl hl (by decide) rfl (fun ls hl => ?_)
    refine lv_aload_n hx hb d_M_value_20 rfl (lv_at hl 1 rfl) ?_
    refine lv_iload_n hx hb d_M_value_21 rfl (lv_at hl 0 rfl) ?_
    refine lv_iload_n hx hb d_M_value_22 rfl (lv_at hl 0 rfl) ?_
    refine lv_if_eq (tgt := 35) hx hb d_M_value_23 (by decide) (fun c9 => ?_) (fun c9 => absurd (by decide) c9)
    refine lv_iconst (v := 0) hx hb d_M_value_35 (by decide) ?_
    refine lv_iload_n hx hb d_M_value_36 rfl (lv_at hl 0 rfl) ?_
    refine lv_if_eq (tgt := 49) hx hb d_M_value_37 (by decide) (fun c9 => ?_) (fun c9 => absurd (by decide) c9)
    refine lv_iconst (v := 0) hx hb d_M_value_49 (by decide) ?_
    refine lv_iload_n hx hb d_M_value_50 rfl (lv_at hl 3 rfl) ?_
    refine kb_i (wc := [kb_o h 4 [.int T, .ref m1, .int 0, .ref m3, .int 0, .ref m5, .ref m6, .ref m7, .ref m8, .ref m9, .ref m10, .ref m11, .ref m12, .ref m13, .ref m14, .ref m15, .int 0, .int 0, .int 0, .int 0, .int 0]]) (wr := [kb_a G m6 2 (upd (fun _ => 0) 0 0)]) hE hP hD hS [0] [1] rfl rfl (by decide) (by decide) (kb_rV (As := [.int 0, .int 0, .int 0, .int k]) (rest := []) (wc := [kb_o h 4 [.int T, .ref m1, .int 0, .ref m3, .int 0, .ref m5, .ref m6, .ref m7, .ref m8, .ref m9, .ref m10, .ref m11, .ref m12, .ref m13, .ref m14, .ref m15, .int 0, .int 0, .int 0, .int 0, .int 0]]) (q0 := 0) ⟨hx, hb, hml, hown, ht⟩ ((c_M_byteOf0 l G h T m1 m3 m5 m6 m7 m8 m9 m10 m11 m12 m13 m14 m15 k) _) (kb_gV wd_6004c2cc wd_903ed9c1 wd_9a16153c wd_38099713 wd_07421635) ⟨rfl, hd_e3670b92⟩ ⟨(Nat.le_of_ble_eq_true rfl), (Nat.le_of_ble_eq_true rfl)⟩ hE hP hD hS [0] rfl (by decide) rfl rfl rfl hl.1 rfl (Nat.le_of_ble_eq_true rfl) d_M_value_51 ⟨(Nat.le_of_ble_eq_true rfl), (Nat.le_of_ble_eq_true rfl)⟩) (fun rv5 uu4 H locs hw hP hD hS => ?_)
    have hP : va_P G.1 kb_cl [kb_a G m6 2 (upd (fun _ => 0) 0 0), kb_o h 4 [.int 1, .ref m1, .int 0, .ref m3, .int 0, .ref m5, .ref m6, .ref m7, .ref m8, .ref m9, .ref m10, .ref m11, .ref m12, .ref m13, .ref m14, .ref m15, .int 0, .int 0, .int 0, .int 0, .int 0]] H := hP
    have hD : va_D A [kb_a G m6 2 (upd (fun _ => 0) 0 0), kb_o h 4 [.int 1, .ref m1, .int 0, .ref m3, .int 0, .ref m5, .ref m6, .ref m7, .ref m8, .ref m9, .ref m10, .ref m11, .ref m12, .ref m13, .ref m14, .ref m15, .int 0, .int 0, .int 0, .int 0, .int 0]] := hD
    refine kb_top (y := 0) (show rv5 = 0 from hw) ?_
    exact kb_reti (kb_l [], kb_f []) hx hb hr hlocks hE hP hD hS [1] rfl (by decide) rfl rfl (Nat.le_of_ble_eq_true rfl) (Nat.le_of_ble_eq_true rfl) d_M_value_54

set_option maxHeartbeats 4000000 in
set_option maxRecDepth 100000 in
theorem c_M_find (l : Launch) (G : kb_G) (h : Nat) (T : Int32) (m1 : Nat) (m3 : Nat) (m5 : Nat) (m6 : Nat) (m7 : Nat) (m8 : Nat) (m9 : Nat) (m10 : Nat) (m11 : Nat) (m12 : Nat) (m13 : Nat) (m14 : Nat) (m15 : Nat) : kb_ci l G ⟨"TreePressModel", "find", "()I"⟩ prog_6_method_52_code 5 (some .int) 1 0 0 [.ref h] [kb_o h 4 [.int T, .ref m1, .int 0, .ref m3, .int 0, .ref m5, .ref m6, .ref m7, .ref m8, .ref m9, .ref m10, .ref m11, .ref m12, .ref m13, .ref m14, .ref m15, .int 0, .int 0, .int 0, .int 0, .int 0]] (fun r u => r = 0) (fun u => [kb_o h 4 [.int 0, .ref m1, .int 0, .ref m3, .int 0, .ref m5, .ref m6, .ref m7, .ref m8, .ref m9, .ref m10, .ref m11, .ref m12, .ref m13, .ref m14, .ref m15, .int 0, .int 0, .int 0, .int 0, .int 0]]) := by
  intro sz
  refine kb_body (QQ := fun A => kb_Qi G A (fun r u => r = 0) (fun u => [kb_o h 4 [.int 0, .ref m1, .int 0, .ref m3, .int 0, .ref m5, .ref m6, .ref m7, .ref m8, .ref m9, .ref m10, .ref m11, .ref m12, .ref m13, .ref m14, .ref m15, .int 0, .int 0, .int 0, .int 0, .int 0]])) (by decide) (Nat.le_of_ble_eq_true rfl) ?_
  intro p e s m below meth c A B ls hl
  obtain ⟨hx, hb, hr, hml, hlocks, hin, hown, ht, hE, hP, hD, hS⟩ := B
  have hl : lv_has ls 5 [(0, .ref h)] := hl
  have hP0 := hP
  obtain ⟨H, hHe⟩ : ∃ H, H = s.heap := ⟨_, rfl⟩
  rw [← hHe] at hP
  have hS : va_S A s.heap H [] := by rw [hHe]; exact hS
  refine kb_at hHe ?_
  clear hHe
  refine lv_aload_n hx hb d_M_find_0 rfl (lv_at hl 0 rfl) ?_
  refine lv_iconst (v := 0) hx hb d_M_find_1 (by decide) ?_
  refine va_put (D := G.1) (ci := 4) (v := .int 0) (ty := .int) (C := "TreePressModel") (T := kb_F4) (N := 21) hx hb ht kb_w4 kb_y4 kb_p4 kb_n4 hown hE.1 hP hD hS 0 rfl rfl 0 (by decide) (ht _ wd_d5599598) (fun _ h9 => h9) rfl (by decide +kernel) rfl rfl (Nat.le_of_ble_eq_true rfl) d_M_find_2 (fun H locs hP hD hS => ?_)
  have hP : va_P G.1 kb_cl [kb_o h 4 [.int 0, .ref m1, .int 0, .ref m3, .int 0, .ref m5, .ref m6, .ref m7, .ref m8, .ref m9, .ref m10, .ref m11, .ref m12, .ref m13, .ref m14, .ref m15, .int 0, .int 0, .int 0, .int 0, .int 0]] H := hP
  have hD : va_D A [kb_o h 4 [.int 0, .ref m1, .int 0, .ref m3, .int 0, .ref m5, .ref m6, .ref m7, .ref m8, .ref m9, .ref m10, .ref m11, .ref m12, .ref m13, .ref m14, .ref m15, .int 0, .int 0, .int 0, .int 0, .int 0]] := hD
  refine lv_iconst (v := 0) hx hb d_M_find_5 (by decide) ?_
  refine lv_istore_n (lv' := [(1, .int 0), (0, .ref h)]) hx hb d_M_find_6 rfl hl (by decide) rfl (fun ls hl => ?_)
  refine lv_iconst (v := 0) hx hb d_M_find_7 (by decide) ?_
  refine lv_istore_n (lv' := [(2, .int 0), (1, .int 0), (0, .ref h)]) hx hb d_M_find_8 rfl hl (by decide) rfl (fun ls hl => ?_)
  refine lv_aload_n hx hb d_M_find_9 rfl (lv_at hl 2 rfl) ?_
  refine va_get (D := G.1) (ci := 4) (v := .int 0) (C := "TreePressModel") (T := kb_F4) (N := 21) hx hb ht kb_w4 hown hE.1 hP 0 rfl rfl 2 (by decide) (ht _ wd_822be019) (fun _ h9 => h9) rfl d_M_find_10 ?_
  refine lv_if_eq (tgt := 35) hx hb d_M_find_13 (by decide) (fun c9 => ?_) (fun c9 => absurd (by decide) c9)
  refine lv_iconst (v := 1) hx hb d_M_find_35 (by decide) ?_
  refine lv_goto (tgt := 40) hx hb d_M_find_36 (by decide) ?_
  refine lv_istore_n (lv' := [(3, .int 1), (2, .int 0), (1, .int 0), (0, .ref h)]) hx hb d_M_find_40 rfl hl (by decide) rfl (fun ls hl => ?_)
  refine lv_iload_n hx hb d_M_find_41 rfl (lv_at hl 0 rfl) ?_
  refine lv_if_ne (tgt := 121) hx hb d_M_find_42 (by decide) (fun c9 => ?_) (fun c9 => absurd c9 (by decide))
  refine lv_aload_n hx hb d_M_find_121 rfl (lv_at hl 3 rfl) ?_
  refine lv_iconst (v := 0) hx hb d_M_find_122 (by decide) ?_
  refine va_put (D := G.1) (ci := 4) (v := .int 0) (ty := .int) (C := "TreePressModel") (T := kb_F4) (N := 21) hx hb ht kb_w4 kb_y4 kb_p4 kb_n4 hown hE.1 hP hD hS 0 rfl rfl 2 (by decide) (ht _ wd_822be019) (fun _ h9 => h9) rfl (by decide +kernel) rfl rfl (Nat.le_of_ble_eq_true rfl) d_M_find_123 (fun H locs hP hD hS => ?_)
  have hP : va_P G.1 kb_cl [kb_o h 4 [.int 0, .ref m1, .int 0, .ref m3, .int 0, .ref m5, .ref m6, .ref m7, .ref m8, .ref m9, .ref m10, .ref m11, .ref m12, .ref m13, .ref m14, .ref m15, .int 0, .int 0, .int 0, .int 0, .int 0]] H := hP
  have hD : va_D A [kb_o h 4 [.int 0, .ref m1, .int 0, .ref m3, .int 0, .ref m5, .ref m6, .ref m7, .ref m8, .ref m9, .ref m10, .ref m11, .ref m12, .ref m13, .ref m14, .ref m15, .int 0, .int 0, .int 0, .int 0, .int 0]] := hD
  refine lv_iload_n hx hb d_M_find_126 rfl (lv_at hl 2 rfl) ?_
  exact kb_reti (kb_l [], kb_f []) hx hb hr hlocks hE hP hD hS [0] rfl (by decide) rfl rfl (Nat.le_of_ble_eq_true rfl) (Nat.le_of_ble_eq_true rfl) d_M_find_127

set_option maxHeartbeats 4000000 in
set_option maxRecDepth 100000 in
theorem c_M_seek0 (l : Launch) (G : kb_G) (h : Nat) (T : Int32) (m1 : Nat) (m3 : Nat) (m5 : Nat) (m6 : Nat) (m7 : Nat) (m8 : Nat) (m9 : Nat) (m10 : Nat) (m11 : Nat) (m12 : Nat) (m13 : Nat) (m14 : Nat) (m15 : Nat) : kb_ci l G ⟨"TreePressModel", "seek", "(I)I"⟩ prog_6_method_53_code 4 (some .int) 1 0 0 [.ref h, .int 0] [kb_o h 4 [.int T, .ref m1, .int 0, .ref m3, .int 0, .ref m5, .ref m6, .ref m7, .ref m8, .ref m9, .ref m10, .ref m11, .ref m12, .ref m13, .ref m14, .ref m15, .int 0, .int 0, .int 0, .int 0, .int 0], kb_a G m5 2 (upd (fun _ => 0) 0 1), kb_a G m6 2 (upd (fun _ => 0) 0 0)] (fun r u => r = (-1)) (fun u => [kb_o h 4 [.int 0, .ref m1, .int 0, .ref m3, .int 0, .ref m5, .ref m6, .ref m7, .ref m8, .ref m9, .ref m10, .ref m11, .ref m12, .ref m13, .ref m14, .ref m15, .int 0, .int 0, .int 0, .int 0, .int 0]]) := by
  intro sz
  refine kb_body (QQ := fun A => kb_Qi G A (fun r u => r = (-1)) (fun u => [kb_o h 4 [.int 0, .ref m1, .int 0, .ref m3, .int 0, .ref m5, .ref m6, .ref m7, .ref m8, .ref m9, .ref m10, .ref m11, .ref m12, .ref m13, .ref m14, .ref m15, .int 0, .int 0, .int 0, .int 0, .int 0]])) (by decide) (Nat.le_of_ble_eq_true rfl) ?_
  intro p e s m below meth c A B ls hl
  obtain ⟨hx, hb, hr, hml, hlocks, hin, hown, ht, hE, hP, hD, hS⟩ := B
  have hl : lv_has ls 4 [(0, .ref h), (1, .int 0)] := hl
  have hP0 := hP
  obtain ⟨H, hHe⟩ : ∃ H, H = s.heap := ⟨_, rfl⟩
  rw [← hHe] at hP
  have hS : va_S A s.heap H [] := by rw [hHe]; exact hS
  refine kb_at hHe ?_
  clear hHe
  refine lv_aload_n hx hb d_M_seek_0 rfl (lv_at hl 0 rfl) ?_
  refine lv_iload_n hx hb d_M_seek_1 rfl (lv_at hl 1 rfl) ?_
  refine lv_if_lt (tgt := 15) hx hb d_M_seek_2 (by decide) (fun c9 => absurd c9 (by decide)) (fun c9 => ?_)
  refine lv_iload_n hx hb d_M_seek_5 rfl (lv_at hl 1 rfl) ?_
  refine lv_aload_n hx hb d_M_seek_6 rfl (lv_at hl 0 rfl) ?_
  refine va_get (D := G.1) (ci := 4) (v := .ref m5) (C := "TreePressModel") (T := kb_F4) (N := 21) hx hb ht kb_w4 hown hE.1 hP 0 rfl rfl 5 (by decide) (ht _ wd_e8505d70) (fun _ h9 => h9) rfl d_M_seek_7 ?_
  refine lv_iconst (v := 0) hx hb d_M_seek_10 (by decide) ?_
  refine va_iald hx hb hE.1 hP 1 0 rfl rfl (show ¬ ((0 : Int32) < 0 ∨ 2 ≤ (0 : Int32).toNatClampNeg) by decide) d_M_seek_11 ?_
  refine kb_top (y := 1) rfl ?_
  refine lv_icmp_lt (tgt := 19) hx hb d_M_seek_12 (by decide) (fun c9 => ?_) (fun c9 => absurd (by decide) c9)
  refine lv_iconst (v := 0) hx hb d_M_seek_19 (by decide) ?_
  refine va_put (D := G.1) (ci := 4) (v := .int 0) (ty := .int) (C := "TreePressModel") (T := kb_F4) (N := 21) hx hb ht kb_w4 kb_y4 kb_p4 kb_n4 hown hE.1 hP hD hS 0 rfl rfl 0 (by decide) (ht _ wd_d5599598) (fun _ h9 => h9) rfl (by decide +kernel) rfl rfl (Nat.le_of_ble_eq_true rfl) d_M_seek_20 (fun H locs hP hD hS => ?_)
  have hP : va_P G.1 kb_cl [kb_o h 4 [.int 0, .ref m1, .int 0, .ref m3, .int 0, .ref m5, .ref m6, .ref m7, .ref m8, .ref m9, .ref m10, .ref m11, .ref m12, .ref m13, .ref m14, .ref m15, .int 0, .int 0, .int 0, .int 0, .int 0], kb_a G m5 2 (upd (fun _ => 0) 0 1), kb_a G m6 2 (upd (fun _ => 0) 0 0)] H := hP
  have hD : va_D A [kb_o h 4 [.int 0, .ref m1, .int 0, .ref m3, .int 0, .ref m5, .ref m6, .ref m7, .ref m8, .ref m9, .ref m10, .ref m11, .ref m12, .ref m13, .ref m14, .ref m15, .int 0, .int 0, .int 0, .int 0, .int 0], kb_a G m5 2 (upd (fun _ => 0) 0 1), kb_a G m6 2 (upd (fun _ => 0) 0 0)] := hD
  refine lv_aload_n hx hb d_M_seek_23 rfl (lv_at hl 0 rfl) ?_
  refine va_get (D := G.1) (ci := 4) (v := .int 0) (C := "TreePressModel") (T := kb_F4) (N := 21) hx hb ht kb_w4 hown hE.1 hP 0 rfl rfl 0 (by decide) (ht _ wd_d5599598) (fun _ h9 => h9) rfl d_M_seek_24 ?_
  refine lv_if_le (tgt := 32) hx hb d_M_seek_27 (by decide) (fun c9 => ?_) (fun c9 => absurd (by decide) c9)
  refine lv_iconst (v := (-1)) hx hb d_M_seek_32 (by decide) ?_
  refine lv_istore_n (lv' := [(2, .int (-1)), (0, .ref h), (1, .int 0)]) hx hb d_M_seek_33 rfl hl (by decide) rfl (fun ls hl => ?_)
  refine lv_aload_n hx hb d_M_seek_34 rfl (lv_at hl 1 rfl) ?_
  refine va_get (D := G.1) (ci := 4) (v := .ref m6) (C := "TreePressModel") (T := kb_F4) (N := 21) hx hb ht kb_w4 hown hE.1 hP 0 rfl rfl 6 (by decide) (ht _ wd_0c18f9c0) (fun _ h9 => h9) rfl d_M_seek_35 ?_
  refine lv_iconst (v := 0) hx hb d_M_seek_38 (by decide) ?_
  refine va_iald hx hb hE.1 hP 2 0 rfl rfl (show ¬ ((0 : Int32) < 0 ∨ 2 ≤ (0 : Int32).toNatClampNeg) by decide) d_M_seek_39 ?_
  refine kb_top (y := 0) rfl ?_
  refine lv_iconst (v := 1) hx hb d_M_seek_40 (by decide) ?_
  refine lv_isub hx hb d_M_seek_41 ?_
  refine kb_top (y := (-1)) (by decide) ?_
  refine lv_istore_n (lv' := [(3, .int (-1)), (2, .int (-1)), (0, .ref h), (1, .int 0)]) hx hb d_M_seek_42 rfl hl (by decide) rfl (fun ls hl => ?_)
  refine lv_iload_n hx hb d_M_seek_43 rfl (lv_at hl 0 rfl) ?_
  refine lv_if_lt (tgt := 93) hx hb d_M_seek_44 (by decide) (fun c9 => ?_) (fun c9 => absurd (by decide) c9)
  refine lv_aload_n hx hb d_M_seek_93 rfl (lv_at hl 2 rfl) ?_
  refine lv_iconst (v := 0) hx hb d_M_seek_94 (by decide) ?_
  refine va_put (D := G.1) (ci := 4) (v := .int 0) (ty := .int) (C := "TreePressModel") (T := kb_F4) (N := 21) hx hb ht kb_w4 kb_y4 kb_p4 kb_n4 hown hE.1 hP hD hS 0 rfl rfl 2 (by decide) (ht _ wd_822be019) (fun _ h9 => h9) rfl (by decide +kernel) rfl rfl (Nat.le_of_ble_eq_true rfl) d_M_seek_95 (fun H locs hP hD hS => ?_)
  have hP : va_P G.1 kb_cl [kb_o h 4 [.int 0, .ref m1, .int 0, .ref m3, .int 0, .ref m5, .ref m6, .ref m7, .ref m8, .ref m9, .ref m10, .ref m11, .ref m12, .ref m13, .ref m14, .ref m15, .int 0, .int 0, .int 0, .int 0, .int 0], kb_a G m5 2 (upd (fun _ => 0) 0 1), kb_a G m6 2 (upd (fun _ => 0) 0 0)] H := hP
  have hD : va_D A [kb_o h 4 [.int 0, .ref m1, .int 0, .ref m3, .int 0, .ref m5, .ref m6, .ref m7, .ref m8, .ref m9, .ref m10, .ref m11, .ref m12, .ref m13, .ref m14, .ref m15, .int 0, .int 0, .int 0, .int 0, .int 0], kb_a G m5 2 (upd (fun _ => 0) 0 1), kb_a G m6 2 (upd (fun _ => 0) 0 0)] := hD
  refine lv_iload_n hx hb d_M_seek_98 rfl (lv_at hl 1 rfl) ?_
  exact kb_reti (kb_l [], kb_f []) hx hb hr hlocks hE hP hD hS [0] rfl (by decide) rfl rfl (Nat.le_of_ble_eq_true rfl) (Nat.le_of_ble_eq_true rfl) d_M_seek_99

set_option maxHeartbeats 4000000 in
set_option maxRecDepth 100000 in
theorem c_M_seekX (l : Launch) (G : kb_G) (h : Nat) (T : Int32) (m1 : Nat) (m3 : Nat) (m5 : Nat) (m6 : Nat) (m7 : Nat) (m8 : Nat) (m9 : Nat) (m10 : Nat) (m11 : Nat) (m12 : Nat) (m13 : Nat) (m14 : Nat) (m15 : Nat) (i : Int32) (hi : ¬ i = 0) : kb_ci l G ⟨"TreePressModel", "seek", "(I)I"⟩ prog_6_method_53_code 4 (some .int) 1 0 0 [.ref h, .int i] [kb_o h 4 [.int T, .ref m1, .int 0, .ref m3, .int 0, .ref m5, .ref m6, .ref m7, .ref m8, .ref m9, .ref m10, .ref m11, .ref m12, .ref m13, .ref m14, .ref m15, .int 0, .int 0, .int 0, .int 0, .int 0], kb_a G m5 2 (upd (fun _ => 0) 0 1)] (fun r u => r = 0) (fun u => [kb_o h 4 [.int 1, .ref m1, .int 0, .ref m3, .int 0, .ref m5, .ref m6, .ref m7, .ref m8, .ref m9, .ref m10, .ref m11, .ref m12, .ref m13, .ref m14, .ref m15, .int 0, .int 0, .int 0, .int 0, .int 0]]) := by
  intro sz
  refine kb_body (QQ := fun A => kb_Qi G A (fun r u => r = 0) (fun u => [kb_o h 4 [.int 1, .ref m1, .int 0, .ref m3, .int 0, .ref m5, .ref m6, .ref m7, .ref m8, .ref m9, .ref m10, .ref m11, .ref m12, .ref m13, .ref m14, .ref m15, .int 0, .int 0, .int 0, .int 0, .int 0]])) (by decide) (Nat.le_of_ble_eq_true rfl) ?_
  intro p e s m below meth c A B ls hl
  obtain ⟨hx, hb, hr, hml, hlocks, hin, hown, ht, hE, hP, hD, hS⟩ := B
  have hl : lv_has ls 4 [(0, .ref h), (1, .int i)] := hl
  have hP0 := hP
  obtain ⟨H, hHe⟩ : ∃ H, H = s.heap := ⟨_, rfl⟩
  rw [← hHe] at hP
  have hS : va_S A s.heap H [] := by rw [hHe]; exact hS
  refine kb_at hHe ?_
  clear hHe
  refine lv_aload_n hx hb d_M_seek_0 rfl (lv_at hl 0 rfl) ?_
  refine lv_iload_n hx hb d_M_seek_1 rfl (lv_at hl 1 rfl) ?_
  refine lv_if_lt (tgt := 15) hx hb d_M_seek_2 (by decide) (fun cb1 => ?_) (fun cb1 => ?_)
  · refine lv_iconst (v := 1) hx hb d_M_seek_15 (by decide) ?_
    refine lv_goto (tgt := 20) hx hb d_M_seek_16 (by decide) ?_
    refine va_put (D := G.1) (ci := 4) (v := .int 1) (ty := .int) (C := "TreePressModel") (T := kb_F4) (N := 21) hx hb ht kb_w4 kb_y4 kb_p4 kb_n4 hown hE.1 hP hD hS 0 rfl rfl 0 (by decide) (ht _ wd_d5599598) (fun _ h9 => h9) rfl (by decide +kernel) rfl rfl (Nat.le_of_ble_eq_true rfl) d_M_seek_20 (fun H locs hP hD hS => ?_)
    have hP : va_P G.1 kb_cl [kb_o h 4 [.int 1, .ref m1, .int 0, .ref m3, .int 0, .ref m5, .ref m6, .ref m7, .ref m8, .ref m9, .ref m10, .ref m11, .ref m12, .ref m13, .ref m14, .ref m15, .int 0, .int 0, .int 0, .int 0, .int 0], kb_a G m5 2 (upd (fun _ => 0) 0 1)] H := hP
    have hD : va_D A [kb_o h 4 [.int 1, .ref m1, .int 0, .ref m3, .int 0, .ref m5, .ref m6, .ref m7, .ref m8, .ref m9, .ref m10, .ref m11, .ref m12, .ref m13, .ref m14, .ref m15, .int 0, .int 0, .int 0, .int 0, .int 0], kb_a G m5 2 (upd (fun _ => 0) 0 1)] := hD
    refine lv_aload_n hx hb d_M_seek_23 rfl (lv_at hl 0 rfl) ?_
    refine va_get (D := G.1) (ci := 4) (v := .int 1) (C := "TreePressModel") (T := kb_F4) (N := 21) hx hb ht kb_w4 hown hE.1 hP 0 rfl rfl 0 (by decide) (ht _ wd_d5599598) (fun _ h9 => h9) rfl d_M_seek_24 ?_
    refine lv_if_le (tgt := 32) hx hb d_M_seek_27 (by decide) (fun c9 => absurd c9 (by decide)) (fun c9 => ?_)
    refine lv_iconst (v := 0) hx hb d_M_seek_30 (by decide) ?_
    exact kb_reti (kb_l [], kb_f []) hx hb hr hlocks hE hP hD hS [0] rfl (by decide) rfl rfl (Nat.le_of_ble_eq_true rfl) (Nat.le_of_ble_eq_true rfl) d_M_seek_31
  · refine lv_iload_n hx hb d_M_seek_5 rfl (lv_at hl 1 rfl) ?_
    refine lv_aload_n hx hb d_M_seek_6 rfl (lv_at hl 0 rfl) ?_
    refine va_get (D := G.1) (ci := 4) (v := .ref m5) (C := "TreePressModel") (T := kb_F4) (N := 21) hx hb ht kb_w4 hown hE.1 hP 0 rfl rfl 5 (by decide) (ht _ wd_e8505d70) (fun _ h9 => h9) rfl d_M_seek_7 ?_
    refine lv_iconst (v := 0) hx hb d_M_seek_10 (by decide) ?_
    refine va_iald hx hb hE.1 hP 1 0 rfl rfl (show ¬ ((0 : Int32) < 0 ∨ 2 ≤ (0 : Int32).toNatClampNeg) by decide) d_M_seek_11 ?_
    refine kb_top (y := 1) rfl ?_
    refine lv_icmp_lt (tgt := 19) hx hb d_M_seek_12 (by decide) (fun c9 => False.elim (by have e0 : ¬ (i : Int32).toInt = (0 : Int32).toInt := fun z9 => hi (Int32.toInt_inj.mp z9); have e1 : ¬ (i : Int32).toInt < (0 : Int32).toInt := fun z9 => cb1 (Int32.lt_iff_toInt_lt.mpr z9); have e2 : (i : Int32).toInt < (1 : Int32).toInt := Int32.lt_iff_toInt_lt.mp c9; have k0 : (0 : Int32).toInt = 0 := rfl; have k1 : (1 : Int32).toInt = 1 := rfl; omega)) (fun c9 => ?_)
    refine lv_iconst (v := 1) hx hb d_M_seek_15 (by decide) ?_
    refine lv_goto (tgt := 20) hx hb d_M_seek_16 (by decide) ?_
    refine va_put (D := G.1) (ci := 4) (v := .int 1) (ty := .int) (C := "TreePressModel") (T := kb_F4) (N := 21) hx hb ht kb_w4 kb_y4 kb_p4 kb_n4 hown hE.1 hP hD hS 0 rfl rfl 0 (by decide) (ht _ wd_d5599598) (fun _ h9 => h9) rfl (by decide +kernel) rfl rfl (Nat.le_of_ble_eq_true rfl) d_M_seek_20 (fun H locs hP hD hS => ?_)
    have hP : va_P G.1 kb_cl [kb_o h 4 [.int 1, .ref m1, .int 0, .ref m3, .int 0, .ref m5, .ref m6, .ref m7, .ref m8, .ref m9, .ref m10, .ref m11, .ref m12, .ref m13, .ref m14, .ref m15, .int 0, .int 0, .int 0, .int 0, .int 0], kb_a G m5 2 (upd (fun _ => 0) 0 1)] H := hP
    have hD : va_D A [kb_o h 4 [.int 1, .ref m1, .int 0, .ref m3, .int 0, .ref m5, .ref m6, .ref m7, .ref m8, .ref m9, .ref m10, .ref m11, .ref m12, .ref m13, .ref m14, .ref m15, .int 0, .int 0, .int 0, .int 0, .int 0], kb_a G m5 2 (upd (fun _ => 0) 0 1)] := hD
    refine lv_aload_n hx hb d_M_seek_23 rfl (lv_at hl 0 rfl) ?_
    refine va_get (D := G.1) (ci := 4) (v := .int 1) (C := "TreePressModel") (T := kb_F4) (N := 21) hx hb ht kb_w4 hown hE.1 hP 0 rfl rfl 0 (by decide) (ht _ wd_d5599598) (fun _ h9 => h9) rfl d_M_seek_24 ?_
    refine lv_if_le (tgt := 32) hx hb d_M_seek_27 (by decide) (fun c9 => absurd c9 (by decide)) (fun c9 => ?_)
    refine lv_iconst (v := 0) hx hb d_M_seek_30 (by decide) ?_
    exact kb_reti (kb_l [], kb_f []) hx hb hr hlocks hE hP hD hS [0] rfl (by decide) rfl rfl (Nat.le_of_ble_eq_true rfl) (Nat.le_of_ble_eq_true rfl) d_M_seek_31
