theorem wd_27b8bd78 : (Jvm.Cond.methodLink "TreePress$Tree" (96 : Nat) ({ cls := "TreePress$Tree", name := "firstNamed", desc := "(IILTreePress$Row;II)I" } : Jvm.MethodName)) ∈ kb_T := kb_t2 107 (by decide +kernel) (by decide +kernel)
theorem wd_dddc6343 : (Jvm.Cond.instanceMethod ({ cls := "TreePress$Tree", name := "firstNamed", desc := "(IILTreePress$Row;II)I" } : Jvm.MethodName)) ∈ kb_T := kb_t2 109 (by decide +kernel) (by decide +kernel)
theorem wd_7dd518e9 : Cond.selects "TreePress$Tree" ⟨"TreePress$Tree", "firstNamed", "(IILTreePress$Row;II)I"⟩ ⟨"TreePress$Tree", "firstNamed", "(IILTreePress$Row;II)I"⟩ ∈ kb_T := kb_t0 (y := ⟨"TreePress$Tree", "firstNamed", "(IILTreePress$Row;II)I"⟩) (n := 14) (by decide +kernel) (by decide +kernel)
theorem wd_fb620020 : (Jvm.Cond.code ({ cls := "TreePress$Tree", name := "firstNamed", desc := "(IILTreePress$Row;II)I" } : Jvm.MethodName) prog_4_method_25_code (7 : Nat) (Option.some Jvm.ClassFile.FieldType.int)) ∈ kb_T := kb_t2 110 (by decide +kernel) (by decide +kernel)
theorem hd_f7d4c618 : (⟨"TreePress$Tree", "firstNamed", "(IILTreePress$Row;II)I"⟩ : MethodName).cls ≠ "java/lang/invoke/MethodHandle" ∧ (⟨"TreePress$Tree", "firstNamed", "(IILTreePress$Row;II)I"⟩ : MethodName).cls ≠ "java/lang/invoke/VarHandle" ∧ (parseMethodDescriptor (⟨"TreePress$Tree", "firstNamed", "(IILTreePress$Row;II)I"⟩ : MethodName).desc).map (fun d => d.parameters.length) = some 5 := by decide +kernel
theorem wd_5f5b0b19 : (Jvm.Cond.methodLink "TreePress$Reader" (9 : Nat) ({ cls := "TreePress$Row", name := "length", desc := "()I" } : Jvm.MethodName)) ∈ kb_T := kb_t2 24 (by decide +kernel) (by decide +kernel)
theorem wd_b6aba818 : (Jvm.Cond.methodLink "TreePress" (36 : Nat) ({ cls := "TreePress$Row", name := "length", desc := "()I" } : Jvm.MethodName)) ∈ kb_T := kb_t2 15 (by decide +kernel) (by decide +kernel)
theorem wd_1c022c51 : (Jvm.Cond.constant "TreePress" (40 : Nat) (65516 : Int32)) ∈ kb_T := kb_t2 169 (by decide +kernel) (by decide +kernel)
theorem wd_ea688bce : (Jvm.Cond.methodLink "TreePress" (48 : Nat) ({ cls := "TreePress$Row", name := "addNumber", desc := "(I)V" } : Jvm.MethodName)) ∈ kb_T := kb_t2 238 (by decide +kernel) (by decide +kernel)
theorem wd_50e9e1ec : (Jvm.Cond.methodLink "TreePress" (57 : Nat) ({ cls := "TreePress$Row", name := "cut", desc := "(I)V" } : Jvm.MethodName)) ∈ kb_T := kb_t2 129 (by decide +kernel) (by decide +kernel)
theorem wd_c02bd52e : (Jvm.Cond.classLink "TreePress" (52 : Nat) "java/lang/IllegalArgumentException") ∈ kb_T := kb_t3 7 (by decide +kernel) (by decide +kernel)
theorem wd_2cf38b0f : (Jvm.Cond.initialized "java/lang/IllegalArgumentException") ∈ kb_T := kb_t1 13 (by decide +kernel) (by decide +kernel)
theorem wd_89e4deee : (Jvm.Cond.methodLink "TreePress" (60 : Nat) ({ cls := "TreePress$Tree", name := "wipe", desc := "()V" } : Jvm.MethodName)) ∈ kb_T := kb_t1 182 (by decide +kernel) (by decide +kernel)
theorem wd_7ead187f : (Jvm.Cond.methodLink "TreePress" (63 : Nat) ({ cls := "TreePress$Row", name := "hasName", desc := "(II)Z" } : Jvm.MethodName)) ∈ kb_T := kb_t3 30 (by decide +kernel) (by decide +kernel)
theorem wd_9b3ab837 : (Jvm.Cond.instanceMethod ({ cls := "TreePress$Row", name := "hasName", desc := "(II)Z" } : Jvm.MethodName)) ∈ kb_T := kb_t3 31 (by decide +kernel) (by decide +kernel)
theorem wd_de0cb18c : (Jvm.Cond.selects "TreePress$Row" ({ cls := "TreePress$Row", name := "hasName", desc := "(II)Z" } : Jvm.MethodName) ({ cls := "TreePress$Row", name := "hasName", desc := "(II)Z" } : Jvm.MethodName)) ∈ kb_T := kb_t3 32 (by decide +kernel) (by decide +kernel)
theorem wd_b70b5cc0 : (Jvm.Cond.code ({ cls := "TreePress$Row", name := "hasName", desc := "(II)Z" } : Jvm.MethodName) prog_3_method_12_code (3 : Nat) (Option.some Jvm.ClassFile.FieldType.boolean)) ∈ kb_T := kb_t3 33 (by decide +kernel) (by decide +kernel)
theorem hd_fc8c0803 : (⟨"TreePress$Row", "hasName", "(II)Z"⟩ : MethodName).cls ≠ "java/lang/invoke/MethodHandle" ∧ (⟨"TreePress$Row", "hasName", "(II)Z"⟩ : MethodName).cls ≠ "java/lang/invoke/VarHandle" ∧ (parseMethodDescriptor (⟨"TreePress$Row", "hasName", "(II)Z"⟩ : MethodName).desc).map (fun d => d.parameters.length) = some 2 := by decide +kernel
theorem wd_00104652 : (Jvm.Cond.methodLink "TreePress" (96 : Nat) ({ cls := "TreePress$Tree", name := "placeIsFirst", desc := "()Z" } : Jvm.MethodName)) ∈ kb_T := kb_t3 59 (by decide +kernel) (by decide +kernel)
theorem wd_07d8eb28 : (Jvm.Cond.instanceMethod ({ cls := "TreePress$Tree", name := "placeIsFirst", desc := "()Z" } : Jvm.MethodName)) ∈ kb_T := kb_t3 60 (by decide +kernel) (by decide +kernel)
theorem wd_47ccf0f8 : (Jvm.Cond.selects "TreePress$Tree" ({ cls := "TreePress$Tree", name := "placeIsFirst", desc := "()Z" } : Jvm.MethodName) ({ cls := "TreePress$Tree", name := "placeIsFirst", desc := "()Z" } : Jvm.MethodName)) ∈ kb_T := kb_t3 61 (by decide +kernel) (by decide +kernel)
theorem wd_032c31a5 : (Jvm.Cond.code ({ cls := "TreePress$Tree", name := "placeIsFirst", desc := "()Z" } : Jvm.MethodName) prog_4_method_20_code (1 : Nat) (Option.some Jvm.ClassFile.FieldType.boolean)) ∈ kb_T := kb_t3 62 (by decide +kernel) (by decide +kernel)
theorem hd_0c218c32 : (⟨"TreePress$Tree", "placeIsFirst", "()Z"⟩ : MethodName).cls ≠ "java/lang/invoke/MethodHandle" ∧ (⟨"TreePress$Tree", "placeIsFirst", "()Z"⟩ : MethodName).cls ≠ "java/lang/invoke/VarHandle" ∧ (parseMethodDescriptor (⟨"TreePress$Tree", "placeIsFirst", "()Z"⟩ : MethodName).desc).map (fun d => d.parameters.length) = some 0 := by decide +kernel
theorem wd_4bed6c35 : (Jvm.Cond.methodLink "TreePress" (104 : Nat) ({ cls := "TreePress$Tree", name := "layInto", desc := "(LTreePress$Row;)V" } : Jvm.MethodName)) ∈ kb_T := kb_t1 187 (by decide +kernel) (by decide +kernel)
theorem wd_04c55ec2 : (Jvm.Cond.instanceMethod ({ cls := "TreePress$Tree", name := "layInto", desc := "(LTreePress$Row;)V" } : Jvm.MethodName)) ∈ kb_T := kb_t1 188 (by decide +kernel) (by decide +kernel)
theorem wd_f9b29598 : (Jvm.Cond.selects "TreePress$Tree" ({ cls := "TreePress$Tree", name := "layInto", desc := "(LTreePress$Row;)V" } : Jvm.MethodName) ({ cls := "TreePress$Tree", name := "layInto", desc := "(LTreePress$Row;)V" } : Jvm.MethodName)) ∈ kb_T := kb_t1 189 (by decide +kernel) (by decide +kernel)
theorem wd_f0b1e0c4 : (Jvm.Cond.code ({ cls := "TreePress$Tree", name := "layInto", desc := "(LTreePress$Row;)V" } : Jvm.MethodName) prog_4_method_29_code (3 : Nat) (Option.none : Option Jvm.ClassFile.FieldType)) ∈ kb_T := kb_t1 190 (by decide +kernel) (by decide +kernel)
theorem hd_3ffc8199 : (⟨"TreePress$Tree", "layInto", "(LTreePress$Row;)V"⟩ : MethodName).cls ≠ "java/lang/invoke/MethodHandle" ∧ (⟨"TreePress$Tree", "layInto", "(LTreePress$Row;)V"⟩ : MethodName).cls ≠ "java/lang/invoke/VarHandle" ∧ (parseMethodDescriptor (⟨"TreePress$Tree", "layInto", "(LTreePress$Row;)V"⟩ : MethodName).desc).map (fun d => d.parameters.length) = some 1 := by decide +kernel
theorem wd_6ce1761d : (Jvm.Cond.classLink "TreePress" (108 : Nat) "java/lang/IndexOutOfBoundsException") ∈ kb_T := kb_t3 73 (by decide +kernel) (by decide +kernel)
theorem wd_37a516df : (Jvm.Cond.initialized "java/lang/IndexOutOfBoundsException") ∈ kb_T := kb_t1 14 (by decide +kernel) (by decide +kernel)
theorem wd_69af0a74 : (Jvm.Cond.methodLink "TreePress" (117 : Nat) ({ cls := "TreePress$Reader", name := "failureOfHead", desc := "(LTreePress$Row;)I" } : Jvm.MethodName)) ∈ kb_T := kb_t2 20 (by decide +kernel) (by decide +kernel)
theorem wd_5df73203 : (Jvm.Cond.instanceMethod ({ cls := "TreePress$Reader", name := "failureOfHead", desc := "(LTreePress$Row;)I" } : Jvm.MethodName)) ∈ kb_T := kb_t2 21 (by decide +kernel) (by decide +kernel)
theorem wd_849b4cd1 : (Jvm.Cond.selects "TreePress$Reader" ({ cls := "TreePress$Reader", name := "failureOfHead", desc := "(LTreePress$Row;)I" } : Jvm.MethodName) ({ cls := "TreePress$Reader", name := "failureOfHead", desc := "(LTreePress$Row;)I" } : Jvm.MethodName)) ∈ kb_T := kb_t2 22 (by decide +kernel) (by decide +kernel)
theorem wd_5a273ca5 : (Jvm.Cond.code ({ cls := "TreePress$Reader", name := "failureOfHead", desc := "(LTreePress$Row;)I" } : Jvm.MethodName) prog_2_method_2_code (6 : Nat) (Option.some Jvm.ClassFile.FieldType.int)) ∈ kb_T := kb_t2 23 (by decide +kernel) (by decide +kernel)
theorem hd_088e31de : (⟨"TreePress$Reader", "failureOfHead", "(LTreePress$Row;)I"⟩ : MethodName).cls ≠ "java/lang/invoke/MethodHandle" ∧ (⟨"TreePress$Reader", "failureOfHead", "(LTreePress$Row;)I"⟩ : MethodName).cls ≠ "java/lang/invoke/VarHandle" ∧ (parseMethodDescriptor (⟨"TreePress$Reader", "failureOfHead", "(LTreePress$Row;)I"⟩ : MethodName).desc).map (fun d => d.parameters.length) = some 1 := by decide +kernel
theorem wd_b7ad6793 : (Jvm.Cond.methodLink "TreePress" (128 : Nat) ({ cls := "TreePress$Tree", name := "makeFirstThePlace", desc := "()V" } : Jvm.MethodName)) ∈ kb_T := kb_t2 134 (by decide +kernel) (by decide +kernel)
theorem wd_8b8de08e : (Jvm.Cond.instanceMethod ({ cls := "TreePress$Tree", name := "makeFirstThePlace", desc := "()V" } : Jvm.MethodName)) ∈ kb_T := kb_t2 135 (by decide +kernel) (by decide +kernel)
theorem wd_329d51d3 : (Jvm.Cond.selects "TreePress$Tree" ({ cls := "TreePress$Tree", name := "makeFirstThePlace", desc := "()V" } : Jvm.MethodName) ({ cls := "TreePress$Tree", name := "makeFirstThePlace", desc := "()V" } : Jvm.MethodName)) ∈ kb_T := kb_t2 136 (by decide +kernel) (by decide +kernel)
theorem wd_72b6c249 : (Jvm.Cond.code ({ cls := "TreePress$Tree", name := "makeFirstThePlace", desc := "()V" } : Jvm.MethodName) prog_4_method_21_code (1 : Nat) (Option.none : Option Jvm.ClassFile.FieldType)) ∈ kb_T := kb_t2 137 (by decide +kernel) (by decide +kernel)
theorem hd_5d0c0cc3 : (⟨"TreePress$Tree", "makeFirstThePlace", "()V"⟩ : MethodName).cls ≠ "java/lang/invoke/MethodHandle" ∧ (⟨"TreePress$Tree", "makeFirstThePlace", "()V"⟩ : MethodName).cls ≠ "java/lang/invoke/VarHandle" ∧ (parseMethodDescriptor (⟨"TreePress$Tree", "makeFirstThePlace", "()V"⟩ : MethodName).desc).map (fun d => d.parameters.length) = some 0 := by decide +kernel
theorem wd_b4350c08 : (Jvm.Cond.methodLink "TreePress" (131 : Nat) ({ cls := "TreePress$Tree", name := "countOfNodes", desc := "()I" } : Jvm.MethodName)) ∈ kb_T := kb_t2 142 (by decide +kernel) (by decide +kernel)
theorem wd_4921e727 : (Jvm.Cond.methodLink "TreePress" (134 : Nat) ({ cls := "TreePress$Tree", name := "countOfProperties", desc := "()I" } : Jvm.MethodName)) ∈ kb_T := kb_t2 147 (by decide +kernel) (by decide +kernel)
theorem wd_cef057ed : (Jvm.Cond.methodLink "TreePress" (137 : Nat) ({ cls := "TreePress", name := "refuseWrongNode", desc := "(I)V" } : Jvm.MethodName)) ∈ kb_T := kb_t3 97 (by decide +kernel) (by decide +kernel)
theorem wd_8ab2e778 : (Jvm.Cond.instanceMethod ({ cls := "TreePress", name := "refuseWrongNode", desc := "(I)V" } : Jvm.MethodName)) ∈ kb_T := kb_t3 99 (by decide +kernel) (by decide +kernel)
theorem wd_df57965e : Cond.selects "TreePress" ⟨"TreePress", "refuseWrongNode", "(I)V"⟩ ⟨"TreePress", "refuseWrongNode", "(I)V"⟩ ∈ kb_T := kb_t0 (y := ⟨"TreePress", "refuseWrongNode", "(I)V"⟩) (n := 5) (by decide +kernel) (by decide +kernel)
theorem wd_aac2f91e : (Jvm.Cond.code ({ cls := "TreePress", name := "refuseWrongNode", desc := "(I)V" } : Jvm.MethodName) prog_1_method_21_code (2 : Nat) (Option.none : Option Jvm.ClassFile.FieldType)) ∈ kb_T := kb_t3 100 (by decide +kernel) (by decide +kernel)
theorem hd_9eec11a5 : (⟨"TreePress", "refuseWrongNode", "(I)V"⟩ : MethodName).cls ≠ "java/lang/invoke/MethodHandle" ∧ (⟨"TreePress", "refuseWrongNode", "(I)V"⟩ : MethodName).cls ≠ "java/lang/invoke/VarHandle" ∧ (parseMethodDescriptor (⟨"TreePress", "refuseWrongNode", "(I)V"⟩ : MethodName).desc).map (fun d => d.parameters.length) = some 1 := by decide +kernel
theorem wd_027edd69 : (Jvm.Cond.methodLink "TreePress" (140 : Nat) ({ cls := "TreePress$Tree", name := "parentOf", desc := "(I)I" } : Jvm.MethodName)) ∈ kb_T := kb_t3 102 (by decide +kernel) (by decide +kernel)
theorem wd_e9a4ab07 : (Jvm.Cond.instanceMethod ({ cls := "TreePress$Tree", name := "parentOf", desc := "(I)I" } : Jvm.MethodName)) ∈ kb_T := kb_t2 126 (by decide +kernel) (by decide +kernel)
theorem wd_965ae80d : (Jvm.Cond.selects "TreePress$Tree" ({ cls := "TreePress$Tree", name := "parentOf", desc := "(I)I" } : Jvm.MethodName) ({ cls := "TreePress$Tree", name := "parentOf", desc := "(I)I" } : Jvm.MethodName)) ∈ kb_T := kb_t2 127 (by decide +kernel) (by decide +kernel)
theorem wd_1d64fd41 : (Jvm.Cond.code ({ cls := "TreePress$Tree", name := "parentOf", desc := "(I)I" } : Jvm.MethodName) prog_4_method_5_code (2 : Nat) (Option.some Jvm.ClassFile.FieldType.int)) ∈ kb_T := kb_t2 128 (by decide +kernel) (by decide +kernel)
theorem hd_452d295b : (⟨"TreePress$Tree", "parentOf", "(I)I"⟩ : MethodName).cls ≠ "java/lang/invoke/MethodHandle" ∧ (⟨"TreePress$Tree", "parentOf", "(I)I"⟩ : MethodName).cls ≠ "java/lang/invoke/VarHandle" ∧ (parseMethodDescriptor (⟨"TreePress$Tree", "parentOf", "(I)I"⟩ : MethodName).desc).map (fun d => d.parameters.length) = some 1 := by decide +kernel
theorem wd_a51d1720 : (Jvm.Cond.methodLink "TreePress" (143 : Nat) ({ cls := "TreePress$Tree", name := "propertiesOf", desc := "(I)I" } : Jvm.MethodName)) ∈ kb_T := kb_t3 103 (by decide +kernel) (by decide +kernel)
theorem wd_7c0e2508 : (Jvm.Cond.methodLink "TreePress" (149 : Nat) ({ cls := "TreePress$Tree", name := "lengthOfNodeName", desc := "(I)I" } : Jvm.MethodName)) ∈ kb_T := kb_t3 105 (by decide +kernel) (by decide +kernel)
theorem wd_211cd185 : (Jvm.Cond.methodLink "TreePress" (154 : Nat) ({ cls := "TreePress", name := "refuseWrongProperty", desc := "(I)V" } : Jvm.MethodName)) ∈ kb_T := kb_t3 114 (by decide +kernel) (by decide +kernel)
theorem wd_e5093493 : (Jvm.Cond.instanceMethod ({ cls := "TreePress", name := "refuseWrongProperty", desc := "(I)V" } : Jvm.MethodName)) ∈ kb_T := kb_t3 116 (by decide +kernel) (by decide +kernel)
theorem wd_779fc113 : Cond.selects "TreePress" ⟨"TreePress", "refuseWrongProperty", "(I)V"⟩ ⟨"TreePress", "refuseWrongProperty", "(I)V"⟩ ∈ kb_T := kb_t0 (y := ⟨"TreePress", "refuseWrongProperty", "(I)V"⟩) (n := 5) (by decide +kernel) (by decide +kernel)
theorem wd_2caac5ad : (Jvm.Cond.code ({ cls := "TreePress", name := "refuseWrongProperty", desc := "(I)V" } : Jvm.MethodName) prog_1_method_22_code (2 : Nat) (Option.none : Option Jvm.ClassFile.FieldType)) ∈ kb_T := kb_t3 117 (by decide +kernel) (by decide +kernel)
theorem hd_9c0fd48f : (⟨"TreePress", "refuseWrongProperty", "(I)V"⟩ : MethodName).cls ≠ "java/lang/invoke/MethodHandle" ∧ (⟨"TreePress", "refuseWrongProperty", "(I)V"⟩ : MethodName).cls ≠ "java/lang/invoke/VarHandle" ∧ (parseMethodDescriptor (⟨"TreePress", "refuseWrongProperty", "(I)V"⟩ : MethodName).desc).map (fun d => d.parameters.length) = some 1 := by decide +kernel
theorem wd_a848cb19 : (Jvm.Cond.methodLink "TreePress" (168 : Nat) ({ cls := "TreePress", name := "refuseWrongByte", desc := "(II)V" } : Jvm.MethodName)) ∈ kb_T := kb_t3 133 (by decide +kernel) (by decide +kernel)
theorem wd_64969b3a : (Jvm.Cond.static ({ cls := "TreePress", name := "refuseWrongByte", desc := "(II)V" } : Jvm.MethodName)) ∈ kb_T := kb_t3 134 (by decide +kernel) (by decide +kernel)
theorem wd_07eee442 : (Jvm.Cond.code ({ cls := "TreePress", name := "refuseWrongByte", desc := "(II)V" } : Jvm.MethodName) prog_1_method_23_code (2 : Nat) (Option.none : Option Jvm.ClassFile.FieldType)) ∈ kb_T := kb_t3 135 (by decide +kernel) (by decide +kernel)
theorem hd_08f3cc26 : (⟨"TreePress", "refuseWrongByte", "(II)V"⟩ : MethodName).cls ≠ "java/lang/invoke/MethodHandle" ∧ (⟨"TreePress", "refuseWrongByte", "(II)V"⟩ : MethodName).cls ≠ "java/lang/invoke/VarHandle" ∧ (parseMethodDescriptor (⟨"TreePress", "refuseWrongByte", "(II)V"⟩ : MethodName).desc).map (fun d => d.parameters.length) = some 2 := by decide +kernel
theorem wd_51c0458f : (Jvm.Cond.methodLink "TreePress" (182 : Nat) ({ cls := "TreePress$Tree", name := "nodeOnPath", desc := "(LTreePress$Row;)I" } : Jvm.MethodName)) ∈ kb_T := kb_t2 152 (by decide +kernel) (by decide +kernel)
theorem wd_82694476 : (Jvm.Cond.instanceMethod ({ cls := "TreePress$Tree", name := "nodeOnPath", desc := "(LTreePress$Row;)I" } : Jvm.MethodName)) ∈ kb_T := kb_t2 153 (by decide +kernel) (by decide +kernel)
theorem wd_297977ec : (Jvm.Cond.selects "TreePress$Tree" ({ cls := "TreePress$Tree", name := "nodeOnPath", desc := "(LTreePress$Row;)I" } : Jvm.MethodName) ({ cls := "TreePress$Tree", name := "nodeOnPath", desc := "(LTreePress$Row;)I" } : Jvm.MethodName)) ∈ kb_T := kb_t2 154 (by decide +kernel) (by decide +kernel)
theorem wd_0b06b708 : (Jvm.Cond.code ({ cls := "TreePress$Tree", name := "nodeOnPath", desc := "(LTreePress$Row;)I" } : Jvm.MethodName) prog_4_method_27_code (7 : Nat) (Option.some Jvm.ClassFile.FieldType.int)) ∈ kb_T := kb_t2 155 (by decide +kernel) (by decide +kernel)
theorem hd_c7bd48b6 : (⟨"TreePress$Tree", "nodeOnPath", "(LTreePress$Row;)I"⟩ : MethodName).cls ≠ "java/lang/invoke/MethodHandle" ∧ (⟨"TreePress$Tree", "nodeOnPath", "(LTreePress$Row;)I"⟩ : MethodName).cls ≠ "java/lang/invoke/VarHandle" ∧ (parseMethodDescriptor (⟨"TreePress$Tree", "nodeOnPath", "(LTreePress$Row;)I"⟩ : MethodName).desc).map (fun d => d.parameters.length) = some 1 := by decide +kernel
theorem wd_b8a9a485 : (Jvm.Cond.methodLink "TreePress" (185 : Nat) ({ cls := "TreePress$Tree", name := "propertyNamed", desc := "(ILTreePress$Row;)I" } : Jvm.MethodName)) ∈ kb_T := kb_t3 170 (by decide +kernel) (by decide +kernel)
theorem wd_aac1b7bf : (Jvm.Cond.instanceMethod ({ cls := "TreePress$Tree", name := "propertyNamed", desc := "(ILTreePress$Row;)I" } : Jvm.MethodName)) ∈ kb_T := kb_t3 171 (by decide +kernel) (by decide +kernel)
theorem wd_9f1def76 : (Jvm.Cond.selects "TreePress$Tree" ({ cls := "TreePress$Tree", name := "propertyNamed", desc := "(ILTreePress$Row;)I" } : Jvm.MethodName) ({ cls := "TreePress$Tree", name := "propertyNamed", desc := "(ILTreePress$Row;)I" } : Jvm.MethodName)) ∈ kb_T := kb_t3 172 (by decide +kernel) (by decide +kernel)
theorem wd_74d40f9d : (Jvm.Cond.code ({ cls := "TreePress$Tree", name := "propertyNamed", desc := "(ILTreePress$Row;)I" } : Jvm.MethodName) prog_4_method_26_code (4 : Nat) (Option.some Jvm.ClassFile.FieldType.int)) ∈ kb_T := kb_t3 173 (by decide +kernel) (by decide +kernel)
theorem hd_47559c00 : (⟨"TreePress$Tree", "propertyNamed", "(ILTreePress$Row;)I"⟩ : MethodName).cls ≠ "java/lang/invoke/MethodHandle" ∧ (⟨"TreePress$Tree", "propertyNamed", "(ILTreePress$Row;)I"⟩ : MethodName).cls ≠ "java/lang/invoke/VarHandle" ∧ (parseMethodDescriptor (⟨"TreePress$Tree", "propertyNamed", "(ILTreePress$Row;)I"⟩ : MethodName).desc).map (fun d => d.parameters.length) = some 2 := by decide +kernel
theorem d_Tree_placeIsFirst_0 : decode prog_4_method_20_code 0 = .ok (.aload_n 0, 1) := by decide +kernel
theorem d_Tree_placeIsFirst_1 : decode prog_4_method_20_code 1 = .ok (.getfield 62, 3) := by decide +kernel
theorem d_Tree_placeIsFirst_4 : decode prog_4_method_20_code 4 = .ok (.ifCond .ne 7, 3) := by decide +kernel
theorem d_Tree_placeIsFirst_7 : decode prog_4_method_20_code 7 = .ok (.iconst 1, 1) := by decide +kernel
theorem d_Tree_placeIsFirst_8 : decode prog_4_method_20_code 8 = .ok (.goto 4, 3) := by decide +kernel
theorem d_Tree_placeIsFirst_12 : decode prog_4_method_20_code 12 = .ok (.ireturn, 1) := by decide +kernel
theorem d_Tree_makeFirstThePlace_0 : decode prog_4_method_21_code 0 = .ok (.aload_n 0, 1) := by decide +kernel
theorem d_Tree_makeFirstThePlace_1 : decode prog_4_method_21_code 1 = .ok (.iconst 0, 1) := by decide +kernel
theorem d_Tree_makeFirstThePlace_2 : decode prog_4_method_21_code 2 = .ok (.putfield 62, 3) := by decide +kernel
theorem d_Tree_makeFirstThePlace_5 : decode prog_4_method_21_code 5 = .ok (.return_, 1) := by decide +kernel
theorem d_Tree_firstNamed_0 : decode prog_4_method_25_code 0 = .ok (.iload_n 1, 1) := by decide +kernel
theorem d_Tree_firstNamed_1 : decode prog_4_method_25_code 1 = .ok (.istore 6, 2) := by decide +kernel
theorem d_Tree_firstNamed_3 : decode prog_4_method_25_code 3 = .ok (.iload 6, 2) := by decide +kernel
theorem d_Tree_firstNamed_5 : decode prog_4_method_25_code 5 = .ok (.iload_n 2, 1) := by decide +kernel
theorem d_Tree_firstNamed_6 : decode prog_4_method_25_code 6 = .ok (.if_icmp .ge 47, 3) := by decide +kernel
theorem d_Tree_firstNamed_53 : decode prog_4_method_25_code 53 = .ok (.iconst (-1), 1) := by decide +kernel
theorem d_Tree_firstNamed_54 : decode prog_4_method_25_code 54 = .ok (.ireturn, 1) := by decide +kernel
theorem d_Tree_propertyNamed_0 : decode prog_4_method_26_code 0 = .ok (.aload_n 0, 1) := by decide +kernel
theorem d_Tree_propertyNamed_1 : decode prog_4_method_26_code 1 = .ok (.iload_n 1, 1) := by decide +kernel
theorem d_Tree_propertyNamed_2 : decode prog_4_method_26_code 2 = .ok (.invokevirtual 114, 3) := by decide +kernel
theorem d_Tree_propertyNamed_5 : decode prog_4_method_26_code 5 = .ok (.istore_n 3, 1) := by decide +kernel
theorem d_Tree_propertyNamed_6 : decode prog_4_method_26_code 6 = .ok (.aload_n 0, 1) := by decide +kernel
theorem d_Tree_propertyNamed_7 : decode prog_4_method_26_code 7 = .ok (.iload_n 3, 1) := by decide +kernel
theorem d_Tree_propertyNamed_8 : decode prog_4_method_26_code 8 = .ok (.iload_n 3, 1) := by decide +kernel
theorem d_Tree_propertyNamed_9 : decode prog_4_method_26_code 9 = .ok (.aload_n 0, 1) := by decide +kernel
theorem d_Tree_propertyNamed_10 : decode prog_4_method_26_code 10 = .ok (.iload_n 1, 1) := by decide +kernel
theorem d_Tree_propertyNamed_11 : decode prog_4_method_26_code 11 = .ok (.invokevirtual 100, 3) := by decide +kernel
theorem d_Tree_propertyNamed_14 : decode prog_4_method_26_code 14 = .ok (.iadd, 1) := by decide +kernel
theorem d_Tree_propertyNamed_15 : decode prog_4_method_26_code 15 = .ok (.aload_n 2, 1) := by decide +kernel
theorem d_Tree_propertyNamed_16 : decode prog_4_method_26_code 16 = .ok (.iconst 0, 1) := by decide +kernel
theorem d_Tree_propertyNamed_17 : decode prog_4_method_26_code 17 = .ok (.aload_n 2, 1) := by decide +kernel
theorem d_Tree_propertyNamed_18 : decode prog_4_method_26_code 18 = .ok (.invokevirtual 69, 3) := by decide +kernel
theorem d_Tree_propertyNamed_21 : decode prog_4_method_26_code 21 = .ok (.invokevirtual 96, 3) := by decide +kernel
theorem d_Tree_propertyNamed_24 : decode prog_4_method_26_code 24 = .ok (.ireturn, 1) := by decide +kernel
theorem d_Tree_nodeOnPath_0 : decode prog_4_method_27_code 0 = .ok (.aload_n 1, 1) := by decide +kernel
theorem d_Tree_nodeOnPath_1 : decode prog_4_method_27_code 1 = .ok (.invokevirtual 69, 3) := by decide +kernel
theorem d_Tree_nodeOnPath_4 : decode prog_4_method_27_code 4 = .ok (.istore_n 2, 1) := by decide +kernel
theorem d_Tree_nodeOnPath_5 : decode prog_4_method_27_code 5 = .ok (.iload_n 2, 1) := by decide +kernel
theorem d_Tree_nodeOnPath_6 : decode prog_4_method_27_code 6 = .ok (.iconst 1, 1) := by decide +kernel
theorem d_Tree_nodeOnPath_7 : decode prog_4_method_27_code 7 = .ok (.if_icmp .ne 15, 3) := by decide +kernel
theorem d_Tree_nodeOnPath_22 : decode prog_4_method_27_code 22 = .ok (.iconst 0, 1) := by decide +kernel
theorem d_Tree_nodeOnPath_23 : decode prog_4_method_27_code 23 = .ok (.istore_n 3, 1) := by decide +kernel
theorem d_Tree_nodeOnPath_24 : decode prog_4_method_27_code 24 = .ok (.iconst 0, 1) := by decide +kernel
theorem d_Tree_nodeOnPath_25 : decode prog_4_method_27_code 25 = .ok (.istore 4, 2) := by decide +kernel
theorem d_Tree_nodeOnPath_27 : decode prog_4_method_27_code 27 = .ok (.iconst 0, 1) := by decide +kernel
theorem d_Tree_nodeOnPath_28 : decode prog_4_method_27_code 28 = .ok (.istore 5, 2) := by decide +kernel
theorem d_Tree_nodeOnPath_30 : decode prog_4_method_27_code 30 = .ok (.iload 5, 2) := by decide +kernel
theorem d_Tree_nodeOnPath_32 : decode prog_4_method_27_code 32 = .ok (.bipush 16, 2) := by decide +kernel
theorem d_Tree_nodeOnPath_34 : decode prog_4_method_27_code 34 = .ok (.if_icmp .ge 68, 3) := by decide +kernel
theorem d_Tree_nodeOnPath_37 : decode prog_4_method_27_code 37 = .ok (.iload 4, 2) := by decide +kernel
theorem d_Tree_nodeOnPath_39 : decode prog_4_method_27_code 39 = .ok (.iload_n 2, 1) := by decide +kernel
theorem d_Tree_nodeOnPath_40 : decode prog_4_method_27_code 40 = .ok (.if_icmp .ge 62, 3) := by decide +kernel
theorem d_Tree_nodeOnPath_102 : decode prog_4_method_27_code 102 = .ok (.iload 4, 2) := by decide +kernel
theorem d_Tree_nodeOnPath_104 : decode prog_4_method_27_code 104 = .ok (.iload_n 2, 1) := by decide +kernel
theorem d_Tree_nodeOnPath_105 : decode prog_4_method_27_code 105 = .ok (.if_icmp .ge 7, 3) := by decide +kernel
theorem d_Tree_nodeOnPath_112 : decode prog_4_method_27_code 112 = .ok (.iload_n 3, 1) := by decide +kernel
theorem d_Tree_nodeOnPath_113 : decode prog_4_method_27_code 113 = .ok (.ireturn, 1) := by decide +kernel
theorem d_Rd_failureOfHead_0 : decode prog_2_method_2_code 0 = .ok (.aload_n 1, 1) := by decide +kernel
theorem d_Rd_failureOfHead_1 : decode prog_2_method_2_code 1 = .ok (.invokevirtual 9, 3) := by decide +kernel
theorem d_Rd_failureOfHead_4 : decode prog_2_method_2_code 4 = .ok (.istore_n 2, 1) := by decide +kernel
theorem d_Rd_failureOfHead_5 : decode prog_2_method_2_code 5 = .ok (.iconst 0, 1) := by decide +kernel
theorem d_Rd_failureOfHead_6 : decode prog_2_method_2_code 6 = .ok (.istore_n 3, 1) := by decide +kernel
theorem d_Rd_failureOfHead_7 : decode prog_2_method_2_code 7 = .ok (.iload_n 3, 1) := by decide +kernel
theorem d_Rd_failureOfHead_8 : decode prog_2_method_2_code 8 = .ok (.bipush 10, 2) := by decide +kernel
theorem d_Rd_failureOfHead_10 : decode prog_2_method_2_code 10 = .ok (.if_icmp .ge 51, 3) := by decide +kernel
theorem d_Rd_failureOfHead_13 : decode prog_2_method_2_code 13 = .ok (.iload_n 3, 1) := by decide +kernel
theorem d_Rd_failureOfHead_14 : decode prog_2_method_2_code 14 = .ok (.iconst 4, 1) := by decide +kernel
theorem d_Rd_failureOfHead_15 : decode prog_2_method_2_code 15 = .ok (.imul, 1) := by decide +kernel
theorem d_Rd_failureOfHead_16 : decode prog_2_method_2_code 16 = .ok (.istore 4, 2) := by decide +kernel
theorem d_Rd_failureOfHead_18 : decode prog_2_method_2_code 18 = .ok (.iload 4, 2) := by decide +kernel
theorem d_Rd_failureOfHead_20 : decode prog_2_method_2_code 20 = .ok (.bipush 12, 2) := by decide +kernel
theorem d_Rd_failureOfHead_22 : decode prog_2_method_2_code 22 = .ok (.if_icmp .ne 8, 3) := by decide +kernel
theorem d_Rd_failureOfHead_30 : decode prog_2_method_2_code 30 = .ok (.iload 4, 2) := by decide +kernel
theorem d_Rd_failureOfHead_32 : decode prog_2_method_2_code 32 = .ok (.iconst 4, 1) := by decide +kernel
theorem d_Rd_failureOfHead_33 : decode prog_2_method_2_code 33 = .ok (.iadd, 1) := by decide +kernel
theorem d_Rd_failureOfHead_34 : decode prog_2_method_2_code 34 = .ok (.istore 5, 2) := by decide +kernel
theorem d_Rd_failureOfHead_36 : decode prog_2_method_2_code 36 = .ok (.iload_n 2, 1) := by decide +kernel
theorem d_Rd_failureOfHead_37 : decode prog_2_method_2_code 37 = .ok (.iload 5, 2) := by decide +kernel
theorem d_Rd_failureOfHead_39 : decode prog_2_method_2_code 39 = .ok (.if_icmp .ge 5, 3) := by decide +kernel
theorem d_Rd_failureOfHead_42 : decode prog_2_method_2_code 42 = .ok (.iload_n 2, 1) := by decide +kernel
theorem d_Rd_failureOfHead_43 : decode prog_2_method_2_code 43 = .ok (.ireturn, 1) := by decide +kernel
theorem d_Press_feed_0 : decode prog_1_method_2_code 0 = .ok (.aload_n 0, 1) := by decide +kernel
theorem d_Press_feed_1 : decode prog_1_method_2_code 1 = .ok (.getfield 12, 3) := by decide +kernel
theorem d_Press_feed_4 : decode prog_1_method_2_code 4 = .ok (.invokevirtual 36, 3) := by decide +kernel
theorem d_Press_feed_7 : decode prog_1_method_2_code 7 = .ok (.ldc 40, 2) := by decide +kernel
theorem d_Press_feed_9 : decode prog_1_method_2_code 9 = .ok (.if_icmp .le 13, 3) := by decide +kernel
theorem d_Press_feed_22 : decode prog_1_method_2_code 22 = .ok (.aload_n 0, 1) := by decide +kernel
theorem d_Press_feed_23 : decode prog_1_method_2_code 23 = .ok (.getfield 12, 3) := by decide +kernel
theorem d_Press_feed_26 : decode prog_1_method_2_code 26 = .ok (.iload_n 1, 1) := by decide +kernel
theorem d_Press_feed_27 : decode prog_1_method_2_code 27 = .ok (.invokevirtual 48, 3) := by decide +kernel
theorem d_Press_feed_30 : decode prog_1_method_2_code 30 = .ok (.aload_n 0, 1) := by decide +kernel
theorem d_Press_feed_31 : decode prog_1_method_2_code 31 = .ok (.getfield 12, 3) := by decide +kernel
theorem d_Press_feed_34 : decode prog_1_method_2_code 34 = .ok (.iload_n 2, 1) := by decide +kernel
theorem d_Press_feed_35 : decode prog_1_method_2_code 35 = .ok (.invokevirtual 48, 3) := by decide +kernel
theorem d_Press_feed_38 : decode prog_1_method_2_code 38 = .ok (.aload_n 0, 1) := by decide +kernel
theorem d_Press_feed_39 : decode prog_1_method_2_code 39 = .ok (.getfield 12, 3) := by decide +kernel
theorem d_Press_feed_42 : decode prog_1_method_2_code 42 = .ok (.iload_n 3, 1) := by decide +kernel
theorem d_Press_feed_43 : decode prog_1_method_2_code 43 = .ok (.invokevirtual 48, 3) := by decide +kernel
theorem d_Press_feed_46 : decode prog_1_method_2_code 46 = .ok (.aload_n 0, 1) := by decide +kernel
theorem d_Press_feed_47 : decode prog_1_method_2_code 47 = .ok (.getfield 12, 3) := by decide +kernel
theorem d_Press_feed_50 : decode prog_1_method_2_code 50 = .ok (.iload 4, 2) := by decide +kernel
theorem d_Press_feed_52 : decode prog_1_method_2_code 52 = .ok (.invokevirtual 48, 3) := by decide +kernel
theorem d_Press_feed_55 : decode prog_1_method_2_code 55 = .ok (.aload_n 0, 1) := by decide +kernel
theorem d_Press_feed_56 : decode prog_1_method_2_code 56 = .ok (.getfield 12, 3) := by decide +kernel
theorem d_Press_feed_59 : decode prog_1_method_2_code 59 = .ok (.iload 5, 2) := by decide +kernel
theorem d_Press_feed_61 : decode prog_1_method_2_code 61 = .ok (.invokevirtual 48, 3) := by decide +kernel
theorem d_Press_feed_64 : decode prog_1_method_2_code 64 = .ok (.aload_n 0, 1) := by decide +kernel
theorem d_Press_feed_65 : decode prog_1_method_2_code 65 = .ok (.getfield 12, 3) := by decide +kernel
theorem d_Press_feed_68 : decode prog_1_method_2_code 68 = .ok (.invokevirtual 36, 3) := by decide +kernel
theorem d_Press_feed_71 : decode prog_1_method_2_code 71 = .ok (.ireturn, 1) := by decide +kernel
theorem d_Press_end_0 : decode prog_1_method_3_code 0 = .ok (.iload_n 1, 1) := by decide +kernel
theorem d_Press_end_1 : decode prog_1_method_3_code 1 = .ok (.ifCond .lt 14, 3) := by decide +kernel
theorem d_Press_end_4 : decode prog_1_method_3_code 4 = .ok (.iload_n 1, 1) := by decide +kernel
theorem d_Press_end_5 : decode prog_1_method_3_code 5 = .ok (.aload_n 0, 1) := by decide +kernel
theorem d_Press_end_6 : decode prog_1_method_3_code 6 = .ok (.getfield 12, 3) := by decide +kernel
theorem d_Press_end_9 : decode prog_1_method_3_code 9 = .ok (.invokevirtual 36, 3) := by decide +kernel
theorem d_Press_end_12 : decode prog_1_method_3_code 12 = .ok (.if_icmp .le 13, 3) := by decide +kernel
theorem d_Press_end_25 : decode prog_1_method_3_code 25 = .ok (.aload_n 0, 1) := by decide +kernel
theorem d_Press_end_26 : decode prog_1_method_3_code 26 = .ok (.getfield 12, 3) := by decide +kernel
theorem d_Press_end_29 : decode prog_1_method_3_code 29 = .ok (.iload_n 1, 1) := by decide +kernel
theorem d_Press_end_30 : decode prog_1_method_3_code 30 = .ok (.invokevirtual 57, 3) := by decide +kernel
theorem d_Press_end_33 : decode prog_1_method_3_code 33 = .ok (.return_, 1) := by decide +kernel
theorem d_Press_end_15 : decode prog_1_method_3_code 15 = .ok (.new 52, 3) := by decide +kernel
theorem d_Press_end_18 : decode prog_1_method_3_code 18 = .ok (.dup, 1) := by decide +kernel
theorem d_Press_end_19 : decode prog_1_method_3_code 19 = .ok (.ldc 54, 2) := by decide +kernel
theorem d_Press_end_21 : decode prog_1_method_3_code 21 = .ok (.invokespecial 56, 3) := by decide +kernel
theorem d_Press_end_24 : decode prog_1_method_3_code 24 = .ok (.athrow, 1) := by decide +kernel
theorem d_Press_clear_0 : decode prog_1_method_4_code 0 = .ok (.aload_n 0, 1) := by decide +kernel
theorem d_Press_clear_1 : decode prog_1_method_4_code 1 = .ok (.getfield 29, 3) := by decide +kernel
theorem d_Press_clear_4 : decode prog_1_method_4_code 4 = .ok (.invokevirtual 60, 3) := by decide +kernel
theorem d_Press_clear_7 : decode prog_1_method_4_code 7 = .ok (.return_, 1) := by decide +kernel
theorem d_Press_open_0 : decode prog_1_method_5_code 0 = .ok (.aload_n 0, 1) := by decide +kernel
theorem d_Press_open_1 : decode prog_1_method_5_code 1 = .ok (.getfield 12, 3) := by decide +kernel
theorem d_Press_open_4 : decode prog_1_method_5_code 4 = .ok (.invokevirtual 36, 3) := by decide +kernel
theorem d_Press_open_7 : decode prog_1_method_5_code 7 = .ok (.istore_n 1, 1) := by decide +kernel
theorem d_Press_open_8 : decode prog_1_method_5_code 8 = .ok (.aload_n 0, 1) := by decide +kernel
theorem d_Press_open_9 : decode prog_1_method_5_code 9 = .ok (.getfield 12, 3) := by decide +kernel
theorem d_Press_open_12 : decode prog_1_method_5_code 12 = .ok (.iconst 0, 1) := by decide +kernel
theorem d_Press_open_13 : decode prog_1_method_5_code 13 = .ok (.iload_n 1, 1) := by decide +kernel
theorem d_Press_open_14 : decode prog_1_method_5_code 14 = .ok (.invokevirtual 63, 3) := by decide +kernel
theorem d_Press_open_17 : decode prog_1_method_5_code 17 = .ok (.ifCond .ne 13, 3) := by decide +kernel
theorem d_Press_open_20 : decode prog_1_method_5_code 20 = .ok (.new 52, 3) := by decide +kernel
theorem d_Press_open_23 : decode prog_1_method_5_code 23 = .ok (.dup, 1) := by decide +kernel
theorem d_Press_open_24 : decode prog_1_method_5_code 24 = .ok (.ldc 67, 2) := by decide +kernel
theorem d_Press_open_26 : decode prog_1_method_5_code 26 = .ok (.invokespecial 56, 3) := by decide +kernel
theorem d_Press_open_29 : decode prog_1_method_5_code 29 = .ok (.athrow, 1) := by decide +kernel
theorem d_Press_property_0 : decode prog_1_method_6_code 0 = .ok (.aload_n 0, 1) := by decide +kernel
theorem d_Press_property_1 : decode prog_1_method_6_code 1 = .ok (.getfield 12, 3) := by decide +kernel
theorem d_Press_property_4 : decode prog_1_method_6_code 4 = .ok (.invokevirtual 36, 3) := by decide +kernel
theorem d_Press_property_7 : decode prog_1_method_6_code 7 = .ok (.istore_n 2, 1) := by decide +kernel
theorem d_Press_property_8 : decode prog_1_method_6_code 8 = .ok (.iload_n 1, 1) := by decide +kernel
theorem d_Press_property_9 : decode prog_1_method_6_code 9 = .ok (.ifCond .lt 20, 3) := by decide +kernel
theorem d_Press_property_29 : decode prog_1_method_6_code 29 = .ok (.new 52, 3) := by decide +kernel
theorem d_Press_property_32 : decode prog_1_method_6_code 32 = .ok (.dup, 1) := by decide +kernel
theorem d_Press_property_33 : decode prog_1_method_6_code 33 = .ok (.ldc 82, 2) := by decide +kernel
theorem d_Press_property_35 : decode prog_1_method_6_code 35 = .ok (.invokespecial 56, 3) := by decide +kernel
theorem d_Press_property_38 : decode prog_1_method_6_code 38 = .ok (.athrow, 1) := by decide +kernel
theorem d_Press_property_12 : decode prog_1_method_6_code 12 = .ok (.iload_n 1, 1) := by decide +kernel
theorem d_Press_property_13 : decode prog_1_method_6_code 13 = .ok (.iload_n 2, 1) := by decide +kernel
theorem d_Press_property_14 : decode prog_1_method_6_code 14 = .ok (.if_icmp .gt 15, 3) := by decide +kernel
theorem d_Press_property_17 : decode prog_1_method_6_code 17 = .ok (.aload_n 0, 1) := by decide +kernel
theorem d_Press_property_18 : decode prog_1_method_6_code 18 = .ok (.getfield 12, 3) := by decide +kernel
theorem d_Press_property_21 : decode prog_1_method_6_code 21 = .ok (.iconst 0, 1) := by decide +kernel
theorem d_Press_property_22 : decode prog_1_method_6_code 22 = .ok (.iload_n 1, 1) := by decide +kernel
theorem d_Press_property_23 : decode prog_1_method_6_code 23 = .ok (.invokevirtual 63, 3) := by decide +kernel
theorem d_Press_property_26 : decode prog_1_method_6_code 26 = .ok (.ifCond .ne 13, 3) := by decide +kernel
theorem d_Press_close_0 : decode prog_1_method_7_code 0 = .ok (.aload_n 0, 1) := by decide +kernel
theorem d_Press_close_1 : decode prog_1_method_7_code 1 = .ok (.getfield 29, 3) := by decide +kernel
theorem d_Press_close_4 : decode prog_1_method_7_code 4 = .ok (.invokevirtual 96, 3) := by decide +kernel
theorem d_Press_close_7 : decode prog_1_method_7_code 7 = .ok (.ifCond .eq 13, 3) := by decide +kernel
theorem d_Press_close_10 : decode prog_1_method_7_code 10 = .ok (.new 52, 3) := by decide +kernel
theorem d_Press_close_13 : decode prog_1_method_7_code 13 = .ok (.dup, 1) := by decide +kernel
theorem d_Press_close_14 : decode prog_1_method_7_code 14 = .ok (.ldc 99, 2) := by decide +kernel
theorem d_Press_close_16 : decode prog_1_method_7_code 16 = .ok (.invokespecial 56, 3) := by decide +kernel
theorem d_Press_close_19 : decode prog_1_method_7_code 19 = .ok (.athrow, 1) := by decide +kernel
theorem d_Press_lay_0 : decode prog_1_method_8_code 0 = .ok (.aload_n 0, 1) := by decide +kernel
theorem d_Press_lay_1 : decode prog_1_method_8_code 1 = .ok (.getfield 29, 3) := by decide +kernel
theorem d_Press_lay_4 : decode prog_1_method_8_code 4 = .ok (.aload_n 0, 1) := by decide +kernel
theorem d_Press_lay_5 : decode prog_1_method_8_code 5 = .ok (.getfield 16, 3) := by decide +kernel
theorem d_Press_lay_8 : decode prog_1_method_8_code 8 = .ok (.invokevirtual 104, 3) := by decide +kernel
theorem d_Press_lay_11 : decode prog_1_method_8_code 11 = .ok (.aload_n 0, 1) := by decide +kernel
theorem d_Press_lay_12 : decode prog_1_method_8_code 12 = .ok (.getfield 16, 3) := by decide +kernel
theorem d_Press_lay_15 : decode prog_1_method_8_code 15 = .ok (.invokevirtual 36, 3) := by decide +kernel
theorem d_Press_lay_18 : decode prog_1_method_8_code 18 = .ok (.ireturn, 1) := by decide +kernel
theorem d_Press_laid_0 : decode prog_1_method_9_code 0 = .ok (.iload_n 1, 1) := by decide +kernel
theorem d_Press_laid_1 : decode prog_1_method_9_code 1 = .ok (.ifCond .lt 14, 3) := by decide +kernel
theorem d_Press_laid_15 : decode prog_1_method_9_code 15 = .ok (.new 108, 3) := by decide +kernel
theorem d_Press_laid_18 : decode prog_1_method_9_code 18 = .ok (.dup, 1) := by decide +kernel
theorem d_Press_laid_19 : decode prog_1_method_9_code 19 = .ok (.ldc 110, 2) := by decide +kernel
theorem d_Press_laid_21 : decode prog_1_method_9_code 21 = .ok (.invokespecial 112, 3) := by decide +kernel
theorem d_Press_laid_24 : decode prog_1_method_9_code 24 = .ok (.athrow, 1) := by decide +kernel
theorem d_Press_laid_4 : decode prog_1_method_9_code 4 = .ok (.iload_n 1, 1) := by decide +kernel
theorem d_Press_laid_5 : decode prog_1_method_9_code 5 = .ok (.aload_n 0, 1) := by decide +kernel
theorem d_Press_laid_6 : decode prog_1_method_9_code 6 = .ok (.getfield 16, 3) := by decide +kernel
theorem d_Press_laid_9 : decode prog_1_method_9_code 9 = .ok (.invokevirtual 36, 3) := by decide +kernel
theorem d_Press_laid_12 : decode prog_1_method_9_code 12 = .ok (.if_icmp .lt 13, 3) := by decide +kernel
theorem d_Press_read_0 : decode prog_1_method_10_code 0 = .ok (.aload_n 0, 1) := by decide +kernel
theorem d_Press_read_1 : decode prog_1_method_10_code 1 = .ok (.getfield 22, 3) := by decide +kernel
theorem d_Press_read_4 : decode prog_1_method_10_code 4 = .ok (.aload_n 0, 1) := by decide +kernel
theorem d_Press_read_5 : decode prog_1_method_10_code 5 = .ok (.getfield 12, 3) := by decide +kernel
theorem d_Press_read_8 : decode prog_1_method_10_code 8 = .ok (.invokevirtual 117, 3) := by decide +kernel
theorem d_Press_read_11 : decode prog_1_method_10_code 11 = .ok (.istore_n 1, 1) := by decide +kernel
theorem d_Press_read_12 : decode prog_1_method_10_code 12 = .ok (.iload_n 1, 1) := by decide +kernel
theorem d_Press_read_13 : decode prog_1_method_10_code 13 = .ok (.iconst (-1), 1) := by decide +kernel
theorem d_Press_read_14 : decode prog_1_method_10_code 14 = .ok (.if_icmp .ne 19, 3) := by decide +kernel
theorem d_Press_read_33 : decode prog_1_method_10_code 33 = .ok (.aload_n 0, 1) := by decide +kernel
theorem d_Press_read_34 : decode prog_1_method_10_code 34 = .ok (.getfield 12, 3) := by decide +kernel
theorem d_Press_read_37 : decode prog_1_method_10_code 37 = .ok (.iconst 0, 1) := by decide +kernel
theorem d_Press_read_38 : decode prog_1_method_10_code 38 = .ok (.invokevirtual 57, 3) := by decide +kernel
theorem d_Press_read_41 : decode prog_1_method_10_code 41 = .ok (.iload_n 1, 1) := by decide +kernel
theorem d_Press_read_42 : decode prog_1_method_10_code 42 = .ok (.iconst (-1), 1) := by decide +kernel
theorem d_Press_read_43 : decode prog_1_method_10_code 43 = .ok (.if_icmp .ne 7, 3) := by decide +kernel
theorem d_Press_read_50 : decode prog_1_method_10_code 50 = .ok (.aload_n 0, 1) := by decide +kernel
theorem d_Press_read_51 : decode prog_1_method_10_code 51 = .ok (.getfield 29, 3) := by decide +kernel
theorem d_Press_read_54 : decode prog_1_method_10_code 54 = .ok (.invokevirtual 128, 3) := by decide +kernel
theorem d_Press_read_57 : decode prog_1_method_10_code 57 = .ok (.iload_n 1, 1) := by decide +kernel
theorem d_Press_read_58 : decode prog_1_method_10_code 58 = .ok (.ireturn, 1) := by decide +kernel
theorem d_Press_nodes_0 : decode prog_1_method_11_code 0 = .ok (.aload_n 0, 1) := by decide +kernel
theorem d_Press_nodes_1 : decode prog_1_method_11_code 1 = .ok (.getfield 29, 3) := by decide +kernel
theorem d_Press_nodes_4 : decode prog_1_method_11_code 4 = .ok (.invokevirtual 131, 3) := by decide +kernel
theorem d_Press_nodes_7 : decode prog_1_method_11_code 7 = .ok (.ireturn, 1) := by decide +kernel
theorem d_Press_properties_0 : decode prog_1_method_12_code 0 = .ok (.aload_n 0, 1) := by decide +kernel
theorem d_Press_properties_1 : decode prog_1_method_12_code 1 = .ok (.getfield 29, 3) := by decide +kernel
theorem d_Press_properties_4 : decode prog_1_method_12_code 4 = .ok (.invokevirtual 134, 3) := by decide +kernel
theorem d_Press_properties_7 : decode prog_1_method_12_code 7 = .ok (.ireturn, 1) := by decide +kernel
theorem d_Press_refuseWrongNode_0 : decode prog_1_method_21_code 0 = .ok (.iload_n 1, 1) := by decide +kernel
theorem d_Press_refuseWrongNode_1 : decode prog_1_method_21_code 1 = .ok (.ifCond .lt 14, 3) := by decide +kernel
theorem d_Press_refuseWrongNode_4 : decode prog_1_method_21_code 4 = .ok (.iload_n 1, 1) := by decide +kernel
theorem d_Press_refuseWrongNode_5 : decode prog_1_method_21_code 5 = .ok (.aload_n 0, 1) := by decide +kernel
theorem d_Press_refuseWrongNode_6 : decode prog_1_method_21_code 6 = .ok (.getfield 29, 3) := by decide +kernel
theorem d_Press_refuseWrongNode_9 : decode prog_1_method_21_code 9 = .ok (.invokevirtual 131, 3) := by decide +kernel
theorem d_Press_refuseWrongNode_12 : decode prog_1_method_21_code 12 = .ok (.if_icmp .lt 13, 3) := by decide +kernel
theorem d_Press_refuseWrongNode_25 : decode prog_1_method_21_code 25 = .ok (.return_, 1) := by decide +kernel
theorem d_Press_refuseWrongNode_15 : decode prog_1_method_21_code 15 = .ok (.new 108, 3) := by decide +kernel
theorem d_Press_refuseWrongNode_18 : decode prog_1_method_21_code 18 = .ok (.dup, 1) := by decide +kernel
theorem d_Press_refuseWrongNode_19 : decode prog_1_method_21_code 19 = .ok (.ldc 189, 2) := by decide +kernel
theorem d_Press_refuseWrongNode_21 : decode prog_1_method_21_code 21 = .ok (.invokespecial 112, 3) := by decide +kernel
theorem d_Press_refuseWrongNode_24 : decode prog_1_method_21_code 24 = .ok (.athrow, 1) := by decide +kernel
theorem d_Press_refuseWrongProperty_0 : decode prog_1_method_22_code 0 = .ok (.iload_n 1, 1) := by decide +kernel
theorem d_Press_refuseWrongProperty_1 : decode prog_1_method_22_code 1 = .ok (.ifCond .lt 14, 3) := by decide +kernel
theorem d_Press_refuseWrongProperty_15 : decode prog_1_method_22_code 15 = .ok (.new 108, 3) := by decide +kernel
theorem d_Press_refuseWrongProperty_18 : decode prog_1_method_22_code 18 = .ok (.dup, 1) := by decide +kernel
theorem d_Press_refuseWrongProperty_19 : decode prog_1_method_22_code 19 = .ok (.ldc 191, 2) := by decide +kernel
theorem d_Press_refuseWrongProperty_21 : decode prog_1_method_22_code 21 = .ok (.invokespecial 112, 3) := by decide +kernel
theorem d_Press_refuseWrongProperty_24 : decode prog_1_method_22_code 24 = .ok (.athrow, 1) := by decide +kernel
theorem d_Press_refuseWrongProperty_4 : decode prog_1_method_22_code 4 = .ok (.iload_n 1, 1) := by decide +kernel
theorem d_Press_refuseWrongProperty_5 : decode prog_1_method_22_code 5 = .ok (.aload_n 0, 1) := by decide +kernel
theorem d_Press_refuseWrongProperty_6 : decode prog_1_method_22_code 6 = .ok (.getfield 29, 3) := by decide +kernel
theorem d_Press_refuseWrongProperty_9 : decode prog_1_method_22_code 9 = .ok (.invokevirtual 134, 3) := by decide +kernel
theorem d_Press_refuseWrongProperty_12 : decode prog_1_method_22_code 12 = .ok (.if_icmp .lt 13, 3) := by decide +kernel
theorem d_Press_refuseWrongByte_0 : decode prog_1_method_23_code 0 = .ok (.iload_n 0, 1) := by decide +kernel
theorem d_Press_refuseWrongByte_1 : decode prog_1_method_23_code 1 = .ok (.ifCond .lt 8, 3) := by decide +kernel
theorem d_Press_refuseWrongByte_9 : decode prog_1_method_23_code 9 = .ok (.new 108, 3) := by decide +kernel
theorem d_Press_refuseWrongByte_12 : decode prog_1_method_23_code 12 = .ok (.dup, 1) := by decide +kernel
theorem d_Press_refuseWrongByte_13 : decode prog_1_method_23_code 13 = .ok (.ldc 193, 2) := by decide +kernel
theorem d_Press_refuseWrongByte_15 : decode prog_1_method_23_code 15 = .ok (.invokespecial 112, 3) := by decide +kernel
theorem d_Press_refuseWrongByte_18 : decode prog_1_method_23_code 18 = .ok (.athrow, 1) := by decide +kernel
theorem d_Press_refuseWrongByte_4 : decode prog_1_method_23_code 4 = .ok (.iload_n 0, 1) := by decide +kernel
theorem d_Press_refuseWrongByte_5 : decode prog_1_method_23_code 5 = .ok (.iload_n 1, 1) := by decide +kernel
theorem d_Press_refuseWrongByte_6 : decode prog_1_method_23_code 6 = .ok (.if_icmp .lt 13, 3) := by decide +kernel
theorem d_Press_node_0 : decode prog_1_method_13_code 0 = .ok (.aload_n 0, 1) := by decide +kernel
theorem d_Press_node_1 : decode prog_1_method_13_code 1 = .ok (.iload_n 1, 1) := by decide +kernel
theorem d_Press_node_2 : decode prog_1_method_13_code 2 = .ok (.invokevirtual 137, 3) := by decide +kernel
theorem d_Press_node_5 : decode prog_1_method_13_code 5 = .ok (.iload_n 2, 1) := by decide +kernel
theorem d_Press_node_6 : decode prog_1_method_13_code 6 = .ok (.tableswitch 81 0 3 #[30, 39, 48, 72], 30) := by decide +kernel
theorem d_Press_node_36 : decode prog_1_method_13_code 36 = .ok (.aload_n 0, 1) := by decide +kernel
theorem d_Press_node_37 : decode prog_1_method_13_code 37 = .ok (.getfield 29, 3) := by decide +kernel
theorem d_Press_node_40 : decode prog_1_method_13_code 40 = .ok (.iload_n 1, 1) := by decide +kernel
theorem d_Press_node_41 : decode prog_1_method_13_code 41 = .ok (.invokevirtual 140, 3) := by decide +kernel
theorem d_Press_node_44 : decode prog_1_method_13_code 44 = .ok (.ireturn, 1) := by decide +kernel
theorem d_Press_node_45 : decode prog_1_method_13_code 45 = .ok (.aload_n 0, 1) := by decide +kernel
theorem d_Press_node_46 : decode prog_1_method_13_code 46 = .ok (.getfield 29, 3) := by decide +kernel
theorem d_Press_node_49 : decode prog_1_method_13_code 49 = .ok (.iload_n 1, 1) := by decide +kernel
theorem d_Press_node_50 : decode prog_1_method_13_code 50 = .ok (.invokevirtual 143, 3) := by decide +kernel
theorem d_Press_node_53 : decode prog_1_method_13_code 53 = .ok (.ireturn, 1) := by decide +kernel
theorem d_Press_node_54 : decode prog_1_method_13_code 54 = .ok (.aload_n 0, 1) := by decide +kernel
theorem d_Press_node_55 : decode prog_1_method_13_code 55 = .ok (.getfield 29, 3) := by decide +kernel
theorem d_Press_node_58 : decode prog_1_method_13_code 58 = .ok (.iload_n 1, 1) := by decide +kernel
theorem d_Press_node_59 : decode prog_1_method_13_code 59 = .ok (.invokevirtual 143, 3) := by decide +kernel
theorem d_Press_node_62 : decode prog_1_method_13_code 62 = .ok (.ifCond .ne 7, 3) := by decide +kernel
theorem d_Press_node_65 : decode prog_1_method_13_code 65 = .ok (.iconst (-1), 1) := by decide +kernel
theorem d_Press_node_66 : decode prog_1_method_13_code 66 = .ok (.goto 11, 3) := by decide +kernel
theorem d_Press_node_77 : decode prog_1_method_13_code 77 = .ok (.ireturn, 1) := by decide +kernel
theorem d_Press_node_78 : decode prog_1_method_13_code 78 = .ok (.aload_n 0, 1) := by decide +kernel
theorem d_Press_node_79 : decode prog_1_method_13_code 79 = .ok (.getfield 29, 3) := by decide +kernel
theorem d_Press_node_82 : decode prog_1_method_13_code 82 = .ok (.iload_n 1, 1) := by decide +kernel
theorem d_Press_node_83 : decode prog_1_method_13_code 83 = .ok (.invokevirtual 149, 3) := by decide +kernel
theorem d_Press_node_86 : decode prog_1_method_13_code 86 = .ok (.ireturn, 1) := by decide +kernel
theorem d_Press_node_87 : decode prog_1_method_13_code 87 = .ok (.new 52, 3) := by decide +kernel
theorem d_Press_node_90 : decode prog_1_method_13_code 90 = .ok (.dup, 1) := by decide +kernel
theorem d_Press_node_91 : decode prog_1_method_13_code 91 = .ok (.ldc 152, 2) := by decide +kernel
theorem d_Press_node_93 : decode prog_1_method_13_code 93 = .ok (.invokespecial 56, 3) := by decide +kernel
theorem d_Press_node_96 : decode prog_1_method_13_code 96 = .ok (.athrow, 1) := by decide +kernel
theorem d_Press_about_0 : decode prog_1_method_14_code 0 = .ok (.aload_n 0, 1) := by decide +kernel
theorem d_Press_about_1 : decode prog_1_method_14_code 1 = .ok (.iload_n 1, 1) := by decide +kernel
theorem d_Press_about_2 : decode prog_1_method_14_code 2 = .ok (.invokevirtual 154, 3) := by decide +kernel
theorem d_Press_name_0 : decode prog_1_method_16_code 0 = .ok (.aload_n 0, 1) := by decide +kernel
theorem d_Press_name_1 : decode prog_1_method_16_code 1 = .ok (.iload_n 1, 1) := by decide +kernel
theorem d_Press_name_2 : decode prog_1_method_16_code 2 = .ok (.invokevirtual 154, 3) := by decide +kernel
theorem d_Press_value_0 : decode prog_1_method_17_code 0 = .ok (.aload_n 0, 1) := by decide +kernel
theorem d_Press_value_1 : decode prog_1_method_17_code 1 = .ok (.iload_n 1, 1) := by decide +kernel
theorem d_Press_value_2 : decode prog_1_method_17_code 2 = .ok (.invokevirtual 154, 3) := by decide +kernel
theorem d_Press_nodeName_0 : decode prog_1_method_15_code 0 = .ok (.aload_n 0, 1) := by decide +kernel
theorem d_Press_nodeName_1 : decode prog_1_method_15_code 1 = .ok (.iload_n 1, 1) := by decide +kernel
theorem d_Press_nodeName_2 : decode prog_1_method_15_code 2 = .ok (.invokevirtual 137, 3) := by decide +kernel
theorem d_Press_nodeName_5 : decode prog_1_method_15_code 5 = .ok (.iload_n 2, 1) := by decide +kernel
theorem d_Press_nodeName_6 : decode prog_1_method_15_code 6 = .ok (.aload_n 0, 1) := by decide +kernel
theorem d_Press_nodeName_7 : decode prog_1_method_15_code 7 = .ok (.getfield 29, 3) := by decide +kernel
theorem d_Press_nodeName_10 : decode prog_1_method_15_code 10 = .ok (.iload_n 1, 1) := by decide +kernel
theorem d_Press_nodeName_11 : decode prog_1_method_15_code 11 = .ok (.invokevirtual 149, 3) := by decide +kernel
theorem d_Press_nodeName_14 : decode prog_1_method_15_code 14 = .ok (.invokestatic 168, 3) := by decide +kernel
theorem d_Press_find_0 : decode prog_1_method_18_code 0 = .ok (.aload_n 0, 1) := by decide +kernel
theorem d_Press_find_1 : decode prog_1_method_18_code 1 = .ok (.getfield 29, 3) := by decide +kernel
theorem d_Press_find_4 : decode prog_1_method_18_code 4 = .ok (.aload_n 0, 1) := by decide +kernel
theorem d_Press_find_5 : decode prog_1_method_18_code 5 = .ok (.getfield 12, 3) := by decide +kernel
theorem d_Press_find_8 : decode prog_1_method_18_code 8 = .ok (.invokevirtual 182, 3) := by decide +kernel
theorem d_Press_find_11 : decode prog_1_method_18_code 11 = .ok (.istore_n 1, 1) := by decide +kernel
theorem d_Press_find_12 : decode prog_1_method_18_code 12 = .ok (.aload_n 0, 1) := by decide +kernel
theorem d_Press_find_13 : decode prog_1_method_18_code 13 = .ok (.getfield 12, 3) := by decide +kernel
theorem d_Press_find_16 : decode prog_1_method_18_code 16 = .ok (.iconst 0, 1) := by decide +kernel
theorem d_Press_find_17 : decode prog_1_method_18_code 17 = .ok (.invokevirtual 57, 3) := by decide +kernel
theorem d_Press_find_20 : decode prog_1_method_18_code 20 = .ok (.iload_n 1, 1) := by decide +kernel
theorem d_Press_find_21 : decode prog_1_method_18_code 21 = .ok (.ireturn, 1) := by decide +kernel
theorem d_Press_seek_0 : decode prog_1_method_19_code 0 = .ok (.aload_n 0, 1) := by decide +kernel
theorem d_Press_seek_1 : decode prog_1_method_19_code 1 = .ok (.iload_n 1, 1) := by decide +kernel
theorem d_Press_seek_2 : decode prog_1_method_19_code 2 = .ok (.invokevirtual 137, 3) := by decide +kernel
theorem d_Press_seek_5 : decode prog_1_method_19_code 5 = .ok (.aload_n 0, 1) := by decide +kernel
theorem d_Press_seek_6 : decode prog_1_method_19_code 6 = .ok (.getfield 29, 3) := by decide +kernel
theorem d_Press_seek_9 : decode prog_1_method_19_code 9 = .ok (.iload_n 1, 1) := by decide +kernel
theorem d_Press_seek_10 : decode prog_1_method_19_code 10 = .ok (.aload_n 0, 1) := by decide +kernel
theorem d_Press_seek_11 : decode prog_1_method_19_code 11 = .ok (.getfield 12, 3) := by decide +kernel
theorem d_Press_seek_14 : decode prog_1_method_19_code 14 = .ok (.invokevirtual 185, 3) := by decide +kernel
theorem d_Press_seek_17 : decode prog_1_method_19_code 17 = .ok (.istore_n 2, 1) := by decide +kernel
theorem d_Press_seek_18 : decode prog_1_method_19_code 18 = .ok (.aload_n 0, 1) := by decide +kernel
theorem d_Press_seek_19 : decode prog_1_method_19_code 19 = .ok (.getfield 12, 3) := by decide +kernel
theorem d_Press_seek_22 : decode prog_1_method_19_code 22 = .ok (.iconst 0, 1) := by decide +kernel
theorem d_Press_seek_23 : decode prog_1_method_19_code 23 = .ok (.invokevirtual 57, 3) := by decide +kernel
theorem d_Press_seek_26 : decode prog_1_method_19_code 26 = .ok (.iload_n 2, 1) := by decide +kernel
theorem d_Press_seek_27 : decode prog_1_method_19_code 27 = .ok (.ireturn, 1) := by decide +kernel
set_option maxHeartbeats 4000000 in
set_option maxRecDepth 100000 in
theorem c_Tree_placeIsFirst (l : Launch) (G : kb_G) (h : Nat) (r0 : Nat) (r1 : Nat) (r2 : Nat) (r3 : Nat) (r4 : Nat) (r5 : Nat) (r6 : Nat) (r7 : Nat) (r8 : Nat) (r9 : Nat) (r10 : Nat) (r11 : Nat) (L : Int32) : kb_ci l G ⟨"TreePress$Tree", "placeIsFirst", "()Z"⟩ prog_4_method_20_code 1 (some .boolean) 1 0 0 [.ref h] [kb_o h 2 [.ref r0, .ref r1, .ref r2, .ref r3, .ref r4, .ref r5, .ref r6, .ref r7, .ref r8, .ref r9, .ref r10, .ref r11, .int L, .int 0]] (fun r u => r = 1) (fun u => [kb_o h 2 [.ref r0, .ref r1, .ref r2, .ref r3, .ref r4, .ref r5, .ref r6, .ref r7, .ref r8, .ref r9, .ref r10, .ref r11, .int L, .int 0]]) := by
  intro sz
  refine kb_body (QQ := fun A => kb_Qi G A (fun r u => r = 1) (fun u => [kb_o h 2 [.ref r0, .ref r1, .ref r2, .ref r3, .ref r4, .ref r5, .ref r6, .ref r7, .ref r8, .ref r9, .ref r10, .ref r11, .int L, .int 0]])) (by decide) (Nat.le_of_ble_eq_true rfl) ?_
  intro p e s m below meth c A B ls hl
  obtain ⟨hx, hb, hr, hml, hlocks, hin, hown, ht, hE, hP, hD, hS⟩ := B
  have hl : lv_has ls 1 [(0, .ref h)] := hl
  have hP0 := hP
  obtain ⟨H, hHe⟩ : ∃ H, H = s.heap := ⟨_, rfl⟩
  rw [← hHe] at hP
  have hS : va_S A s.heap H [] := by rw [hHe]; exact hS
  refine kb_at hHe ?_
  clear hHe
  refine lv_aload_n hx hb d_Tree_placeIsFirst_0 rfl (lv_at hl 0 rfl) ?_
  refine va_get (D := G.1) (ci := 2) (v := .int 0) (C := "TreePress$Tree") (T := kb_F2) (N := 14) hx hb ht kb_w2 hown hE.1 hP 0 rfl rfl 13 (by decide) (ht _ wd_f08393eb) (fun _ h9 => h9) rfl d_Tree_placeIsFirst_1 ?_
  refine lv_if_ne (tgt := 11) hx hb d_Tree_placeIsFirst_4 (by decide) (fun c9 => absurd (by decide) c9) (fun c9 => ?_)
  refine lv_iconst (v := 1) hx hb d_Tree_placeIsFirst_7 (by decide) ?_
  refine lv_goto (tgt := 12) hx hb d_Tree_placeIsFirst_8 (by decide) ?_
  exact kb_retz (kb_l [], kb_f []) hx hb hr rfl hlocks hE hP hD hS [0] rfl (by decide) rfl rfl (Nat.le_of_ble_eq_true rfl) (Nat.le_of_ble_eq_true rfl) d_Tree_placeIsFirst_12

set_option maxHeartbeats 4000000 in
set_option maxRecDepth 100000 in
theorem c_Tree_makeFirstThePlace (l : Launch) (G : kb_G) (h : Nat) (r0 : Nat) (r1 : Nat) (r2 : Nat) (r3 : Nat) (r4 : Nat) (r5 : Nat) (r6 : Nat) (r7 : Nat) (r8 : Nat) (r9 : Nat) (r10 : Nat) (r11 : Nat) (L : Int32) (P : Int32) : kb_cv l G ⟨"TreePress$Tree", "makeFirstThePlace", "()V"⟩ prog_4_method_21_code 1 1 0 0 [.ref h] [kb_o h 2 [.ref r0, .ref r1, .ref r2, .ref r3, .ref r4, .ref r5, .ref r6, .ref r7, .ref r8, .ref r9, .ref r10, .ref r11, .int L, .int P]] (fun u => True) (fun u => [kb_o h 2 [.ref r0, .ref r1, .ref r2, .ref r3, .ref r4, .ref r5, .ref r6, .ref r7, .ref r8, .ref r9, .ref r10, .ref r11, .int L, .int 0]]) := by
  intro sz
  refine kb_body (QQ := fun A => kb_Qv G A (fun u => True) (fun u => [kb_o h 2 [.ref r0, .ref r1, .ref r2, .ref r3, .ref r4, .ref r5, .ref r6, .ref r7, .ref r8, .ref r9, .ref r10, .ref r11, .int L, .int 0]])) (by decide) (Nat.le_of_ble_eq_true rfl) ?_
  intro p e s m below meth c A B ls hl
  obtain ⟨hx, hb, hr, hml, hlocks, hin, hown, ht, hE, hP, hD, hS⟩ := B
  have hl : lv_has ls 1 [(0, .ref h)] := hl
  have hP0 := hP
  obtain ⟨H, hHe⟩ : ∃ H, H = s.heap := ⟨_, rfl⟩
  rw [← hHe] at hP
  have hS : va_S A s.heap H [] := by rw [hHe]; exact hS
  refine kb_at hHe ?_
  clear hHe
  refine lv_aload_n hx hb d_Tree_makeFirstThePlace_0 rfl (lv_at hl 0 rfl) ?_
  refine lv_iconst (v := 0) hx hb d_Tree_makeFirstThePlace_1 (by decide) ?_
  refine va_put (D := G.1) (ci := 2) (v := .int 0) (ty := .int) (C := "TreePress$Tree") (T := kb_F2) (N := 14) hx hb ht kb_w2 kb_y2 kb_p2 kb_n2 hown hE.1 hP hD hS 0 rfl rfl 13 (by decide) (ht _ wd_f08393eb) (fun _ h9 => h9) rfl (by decide +kernel) rfl rfl (Nat.le_of_ble_eq_true rfl) d_Tree_makeFirstThePlace_2 (fun H locs hP hD hS => ?_)
  have hP : va_P G.1 kb_cl [kb_o h 2 [.ref r0, .ref r1, .ref r2, .ref r3, .ref r4, .ref r5, .ref r6, .ref r7, .ref r8, .ref r9, .ref r10, .ref r11, .int L, .int 0]] H := hP
  have hD : va_D A [kb_o h 2 [.ref r0, .ref r1, .ref r2, .ref r3, .ref r4, .ref r5, .ref r6, .ref r7, .ref r8, .ref r9, .ref r10, .ref r11, .int L, .int 0]] := hD
  exact kb_retv (kb_l [], kb_f []) hx hb hr hlocks hE hP hD hS [0] rfl (by decide) rfl trivial (Nat.le_of_ble_eq_true rfl) (Nat.le_of_ble_eq_true rfl) d_Tree_makeFirstThePlace_5

set_option maxHeartbeats 4000000 in
set_option maxRecDepth 100000 in
theorem c_Tree_firstNamed (l : Launch) (G : kb_G) (h : Nat) (r0 : Nat) (r1 : Nat) (r2 : Nat) (r3 : Nat) (r4 : Nat) (r5 : Nat) (r6 : Nat) (r7 : Nat) (r8 : Nat) (r9 : Nat) (r10 : Nat) (r11 : Nat) (L : Int32) (P : Int32) (g : Nat) (x : Int32) (y : Int32) : kb_ci l G ⟨"TreePress$Tree", "firstNamed", "(IILTreePress$Row;II)I"⟩ prog_4_method_25_code 7 (some .int) 2 0 0 [.ref h, .int 0, .int 0, .ref g, .int x, .int y] [kb_o h 2 [.ref r0, .ref r1, .ref r2, .ref r3, .ref r4, .ref r5, .ref r6, .ref r7, .ref r8, .ref r9, .ref r10, .ref r11, .int L, .int P]] (fun r u => r = (-1)) (fun u => [kb_o h 2 [.ref r0, .ref r1, .ref r2, .ref r3, .ref r4, .ref r5, .ref r6, .ref r7, .ref r8, .ref r9, .ref r10, .ref r11, .int L, .int P]]) := by
  intro sz
  refine kb_body (QQ := fun A => kb_Qi G A (fun r u => r = (-1)) (fun u => [kb_o h 2 [.ref r0, .ref r1, .ref r2, .ref r3, .ref r4, .ref r5, .ref r6, .ref r7, .ref r8, .ref r9, .ref r10, .ref r11, .int L, .int P]])) (by decide) (Nat.le_of_ble_eq_true rfl) ?_
  intro p e s m below meth c A B ls hl
  obtain ⟨hx, hb, hr, hml, hlocks, hin, hown, ht, hE, hP, hD, hS⟩ := B
  have hl : lv_has ls 7 [(0, .ref h), (1, .int 0), (2, .int 0), (3, .ref g), (4, .int x), (5, .int y)] := hl
  have hP0 := hP
  obtain ⟨H, hHe⟩ : ∃ H, H = s.heap := ⟨_, rfl⟩
  rw [← hHe] at hP
  have hS : va_S A s.heap H [] := by rw [hHe]; exact hS
  refine kb_at hHe ?_
  clear hHe
  refine lv_iload_n hx hb d_Tree_firstNamed_0 rfl (lv_at hl 1 rfl) ?_
  refine lv_istore (lv' := [(6, .int 0), (0, .ref h), (1, .int 0), (2, .int 0), (3, .ref g), (4, .int x), (5, .int y)]) hx hb d_Tree_firstNamed_1 hl (by decide) rfl (fun ls hl => ?_)
  refine lv_iload hx hb d_Tree_firstNamed_3 (lv_at hl 0 rfl) ?_
  refine lv_iload_n hx hb d_Tree_firstNamed_5 rfl (lv_at hl 3 rfl) ?_
  refine lv_icmp_ge (tgt := 53) hx hb d_Tree_firstNamed_6 (by decide) (fun c9 => ?_) (fun c9 => absurd (by decide) c9)
  refine lv_iconst (v := (-1)) hx hb d_Tree_firstNamed_53 (by decide) ?_
  exact kb_reti (kb_l [], kb_f []) hx hb hr hlocks hE hP hD hS [0] rfl (by decide) rfl rfl (Nat.le_of_ble_eq_true rfl) (Nat.le_of_ble_eq_true rfl) d_Tree_firstNamed_54

set_option maxHeartbeats 4000000 in
set_option maxRecDepth 100000 in
theorem c_Tree_propertyNamed (l : Launch) (G : kb_G) (h : Nat) (r0 : Nat) (r1 : Nat) (r2 : Nat) (r3 : Nat) (r4 : Nat) (r5 : Nat) (r6 : Nat) (r7 : Nat) (r8 : Nat) (r9 : Nat) (r10 : Nat) (r11 : Nat) (L : Int32) (P : Int32) (g : Nat) (b : Nat) (v : Int32) (a5 : Nat) (a6 : Nat) : kb_ci l G ⟨"TreePress$Tree", "propertyNamed", "(ILTreePress$Row;)I"⟩ prog_4_method_26_code 4 (some .int) 3 0 0 [.ref h, .int 0, .ref g] [kb_o h 2 [.ref r0, .ref r1, .ref r2, .ref r3, .ref r4, .ref r5, .ref r6, .ref r7, .ref r8, .ref r9, .ref r10, .ref r11, .int L, .int P], kb_o r5 1 [.ref a5, .int 1], kb_o r6 1 [.ref a6, .int 1], kb_a G a5 16 (upd (fun _ => 0) 0 0), kb_a G a6 16 (upd (fun _ => 0) 0 0), kb_o g 1 [.ref b, .int v]] (fun r u => r = (-1)) (fun u => [kb_o r5 1 [.ref a5, .int 1], kb_a G a5 16 (upd (fun _ => 0) 0 0), kb_o r6 1 [.ref a6, .int 1], kb_a G a6 16 (upd (fun _ => 0) 0 0), kb_o g 1 [.ref b, .int v], kb_o h 2 [.ref r0, .ref r1, .ref r2, .ref r3, .ref r4, .ref r5, .ref r6, .ref r7, .ref r8, .ref r9, .ref r10, .ref r11, .int L, .int P]]) := by
  intro sz
  refine kb_body (QQ := fun A => kb_Qi G A (fun r u => r = (-1)) (fun u => [kb_o r5 1 [.ref a5, .int 1], kb_a G a5 16 (upd (fun _ => 0) 0 0), kb_o r6 1 [.ref a6, .int 1], kb_a G a6 16 (upd (fun _ => 0) 0 0), kb_o g 1 [.ref b, .int v], kb_o h 2 [.ref r0, .ref r1, .ref r2, .ref r3, .ref r4, .ref r5, .ref r6, .ref r7, .ref r8, .ref r9, .ref r10, .ref r11, .int L, .int P]])) (by decide) (Nat.le_of_ble_eq_true rfl) ?_
  intro p e s m below meth c A B ls hl
  obtain ⟨hx, hb, hr, hml, hlocks, hin, hown, ht, hE, hP, hD, hS⟩ := B
  have hl : lv_has ls 4 [(0, .ref h), (1, .int 0), (2, .ref g)] := hl
  have hP0 := hP
  obtain ⟨H, hHe⟩ : ∃ H, H = s.heap := ⟨_, rfl⟩
  rw [← hHe] at hP
  have hS : va_S A s.heap H [] := by rw [hHe]; exact hS
  refine kb_at hHe ?_
  clear hHe
  refine lv_aload_n hx hb d_Tree_propertyNamed_0 rfl (lv_at hl 0 rfl) ?_
  refine lv_iload_n hx hb d_Tree_propertyNamed_1 rfl (lv_at hl 1 rfl) ?_
  refine kb_i (wc := [kb_o h 2 [.ref r0, .ref r1, .ref r2, .ref r3, .ref r4, .ref r5, .ref r6, .ref r7, .ref r8, .ref r9, .ref r10, .ref r11, .int L, .int P], kb_o r5 1 [.ref a5, .int 1], kb_a G a5 16 (upd (fun _ => 0) 0 0)]) (wr := [kb_o r6 1 [.ref a6, .int 1], kb_a G a6 16 (upd (fun _ => 0) 0 0), kb_o g 1 [.ref b, .int v]]) hE hP hD hS [0, 1, 3] [2, 4, 5] rfl rfl (by decide) (by decide) (kb_rV (As := [.int 0]) (rest := []) (wc := [kb_o h 2 [.ref r0, .ref r1, .ref r2, .ref r3, .ref r4, .ref r5, .ref r6, .ref r7, .ref r8, .ref r9, .ref r10, .ref r11, .int L, .int P], kb_o r5 1 [.ref a5, .int 1], kb_a G a5 16 (upd (fun _ => 0) 0 0)]) (q0 := 0) ⟨hx, hb, hml, hown, ht⟩ ((c_Tree_firstPropertyOf l G h r0 r1 r2 r3 r4 r5 r6 r7 r8 r9 r10 r11 L P a5 (upd (fun _ => 0) 0 0)) _) (kb_gV wd_b5e54596 wd_16213a5f wd_bba391b2 wd_ebf91e09 wd_a2bf9666) ⟨rfl, hd_ce73edbf⟩ ⟨(Nat.le_of_ble_eq_true rfl), (Nat.le_of_ble_eq_true rfl)⟩ hE hP hD hS [0, 1, 3] rfl (by decide) rfl rfl rfl hl.1 rfl (Nat.le_of_ble_eq_true rfl) d_Tree_propertyNamed_2 ⟨(Nat.le_of_ble_eq_true rfl), (Nat.le_of_ble_eq_true rfl)⟩) (fun rv2 uu1 H locs hw hP hD hS => ?_)
  have hP : va_P G.1 kb_cl [kb_o r6 1 [.ref a6, .int 1], kb_a G a6 16 (upd (fun _ => 0) 0 0), kb_o g 1 [.ref b, .int v], kb_o h 2 [.ref r0, .ref r1, .ref r2, .ref r3, .ref r4, .ref r5, .ref r6, .ref r7, .ref r8, .ref r9, .ref r10, .ref r11, .int L, .int P], kb_o r5 1 [.ref a5, .int 1], kb_a G a5 16 (upd (fun _ => 0) 0 0)] H := hP
  have hD : va_D A [kb_o r6 1 [.ref a6, .int 1], kb_a G a6 16 (upd (fun _ => 0) 0 0), kb_o g 1 [.ref b, .int v], kb_o h 2 [.ref r0, .ref r1, .ref r2, .ref r3, .ref r4, .ref r5, .ref r6, .ref r7, .ref r8, .ref r9, .ref r10, .ref r11, .int L, .int P], kb_o r5 1 [.ref a5, .int 1], kb_a G a5 16 (upd (fun _ => 0) 0 0)] := hD
  refine kb_top (y := 0) (show rv2 = 0 from hw) ?_
  refine lv_istore_n (lv' := [(3, .int 0), (0, .ref h), (1, .int 0), (2, .ref g)]) hx hb d_Tree_propertyNamed_5 rfl hl (by decide) rfl (fun ls hl => ?_)
  refine lv_aload_n hx hb d_Tree_propertyNamed_6 rfl (lv_at hl 1 rfl) ?_
  refine lv_iload_n hx hb d_Tree_propertyNamed_7 rfl (lv_at hl 0 rfl) ?_
  refine lv_iload_n hx hb d_Tree_propertyNamed_8 rfl (lv_at hl 0 rfl) ?_
  refine lv_aload_n hx hb d_Tree_propertyNamed_9 rfl (lv_at hl 1 rfl) ?_
  refine lv_iload_n hx hb d_Tree_propertyNamed_10 rfl (lv_at hl 2 rfl) ?_
  refine kb_i (wc := [kb_o h 2 [.ref r0, .ref r1, .ref r2, .ref r3, .ref r4, .ref r5, .ref r6, .ref r7, .ref r8, .ref r9, .ref r10, .ref r11, .int L, .int P], kb_o r6 1 [.ref a6, .int 1], kb_a G a6 16 (upd (fun _ => 0) 0 0)]) (wr := [kb_o g 1 [.ref b, .int v], kb_o r5 1 [.ref a5, .int 1], kb_a G a5 16 (upd (fun _ => 0) 0 0)]) hE hP hD hS [3, 0, 1] [2, 4, 5] rfl rfl (by decide) (by decide) (kb_rV (As := [.int 0]) (rest := [.int 0, .int 0, .ref h]) (wc := [kb_o h 2 [.ref r0, .ref r1, .ref r2, .ref r3, .ref r4, .ref r5, .ref r6, .ref r7, .ref r8, .ref r9, .ref r10, .ref r11, .int L, .int P], kb_o r6 1 [.ref a6, .int 1], kb_a G a6 16 (upd (fun _ => 0) 0 0)]) (q0 := 0) ⟨hx, hb, hml, hown, ht⟩ ((c_Tree_propertiesOf l G h r0 r1 r2 r3 r4 r5 r6 r7 r8 r9 r10 r11 L P a6 (upd (fun _ => 0) 0 0)) _) (kb_gV wd_8341cc6b wd_c1c67d0b wd_a7a256ac wd_ebf91e09 wd_f59b7322) ⟨rfl, hd_c0e23879⟩ ⟨(Nat.le_of_ble_eq_true rfl), (Nat.le_of_ble_eq_true rfl)⟩ hE hP hD hS [3, 0, 1] rfl (by decide) rfl rfl rfl hl.1 rfl (Nat.le_of_ble_eq_true rfl) d_Tree_propertyNamed_11 ⟨(Nat.le_of_ble_eq_true rfl), (Nat.le_of_ble_eq_true rfl)⟩) (fun rv4 uu3 H locs hw hP hD hS => ?_)
  have hP : va_P G.1 kb_cl [kb_o g 1 [.ref b, .int v], kb_o r5 1 [.ref a5, .int 1], kb_a G a5 16 (upd (fun _ => 0) 0 0), kb_o h 2 [.ref r0, .ref r1, .ref r2, .ref r3, .ref r4, .ref r5, .ref r6, .ref r7, .ref r8, .ref r9, .ref r10, .ref r11, .int L, .int P], kb_o r6 1 [.ref a6, .int 1], kb_a G a6 16 (upd (fun _ => 0) 0 0)] H := hP
  have hD : va_D A [kb_o g 1 [.ref b, .int v], kb_o r5 1 [.ref a5, .int 1], kb_a G a5 16 (upd (fun _ => 0) 0 0), kb_o h 2 [.ref r0, .ref r1, .ref r2, .ref r3, .ref r4, .ref r5, .ref r6, .ref r7, .ref r8, .ref r9, .ref r10, .ref r11, .int L, .int P], kb_o r6 1 [.ref a6, .int 1], kb_a G a6 16 (upd (fun _ => 0) 0 0)] := hD
  refine kb_top (y := 0) (show rv4 = 0 from hw) ?_
  refine lv_iadd hx hb d_Tree_propertyNamed_14 ?_
  refine kb_top (y := 0) (by decide) ?_
  refine lv_aload_n hx hb d_Tree_propertyNamed_15 rfl (lv_at hl 3 rfl) ?_
  refine lv_iconst (v := 0) hx hb d_Tree_propertyNamed_16 (by decide) ?_
  refine lv_aload_n hx hb d_Tree_propertyNamed_17 rfl (lv_at hl 3 rfl) ?_
  refine kb_i (wc := [kb_o g 1 [.ref b, .int v]]) (wr := [kb_o r5 1 [.ref a5, .int 1], kb_a G a5 16 (upd (fun _ => 0) 0 0), kb_o h 2 [.ref r0, .ref r1, .ref r2, .ref r3, .ref r4, .ref r5, .ref r6, .ref r7, .ref r8, .ref r9, .ref r10, .ref r11, .int L, .int P], kb_o r6 1 [.ref a6, .int 1], kb_a G a6 16 (upd (fun _ => 0) 0 0)]) hE hP hD hS [0] [1, 2, 3, 4, 5] rfl rfl (by decide) (by decide) (kb_rV (As := []) (rest := [.int 0, .ref g, .int 0, .int 0, .ref h]) (wc := [kb_o g 1 [.ref b, .int v]]) (q0 := 0) ⟨hx, hb, hml, hown, ht⟩ ((c_Row_length l G g b v) _) (kb_gV wd_d02778d4 wd_5e08083b wd_489345cb wd_4182e433 wd_8d5193a7) ⟨rfl, hd_d85231f4⟩ ⟨(Nat.le_of_ble_eq_true rfl), (Nat.le_of_ble_eq_true rfl)⟩ hE hP hD hS [0] rfl (by decide) rfl rfl rfl hl.1 rfl (Nat.le_of_ble_eq_true rfl) d_Tree_propertyNamed_18 ⟨(Nat.le_of_ble_eq_true rfl), (Nat.le_of_ble_eq_true rfl)⟩) (fun rv6 uu5 H locs hw hP hD hS => ?_)
  have hP : va_P G.1 kb_cl [kb_o r5 1 [.ref a5, .int 1], kb_a G a5 16 (upd (fun _ => 0) 0 0), kb_o h 2 [.ref r0, .ref r1, .ref r2, .ref r3, .ref r4, .ref r5, .ref r6, .ref r7, .ref r8, .ref r9, .ref r10, .ref r11, .int L, .int P], kb_o r6 1 [.ref a6, .int 1], kb_a G a6 16 (upd (fun _ => 0) 0 0), kb_o g 1 [.ref b, .int v]] H := hP
  have hD : va_D A [kb_o r5 1 [.ref a5, .int 1], kb_a G a5 16 (upd (fun _ => 0) 0 0), kb_o h 2 [.ref r0, .ref r1, .ref r2, .ref r3, .ref r4, .ref r5, .ref r6, .ref r7, .ref r8, .ref r9, .ref r10, .ref r11, .int L, .int P], kb_o r6 1 [.ref a6, .int 1], kb_a G a6 16 (upd (fun _ => 0) 0 0), kb_o g 1 [.ref b, .int v]] := hD
  refine kb_top (y := v) (show rv6 = v from hw) ?_
  refine kb_i (wc := [kb_o h 2 [.ref r0, .ref r1, .ref r2, .ref r3, .ref r4, .ref r5, .ref r6, .ref r7, .ref r8, .ref r9, .ref r10, .ref r11, .int L, .int P]]) (wr := [kb_o r5 1 [.ref a5, .int 1], kb_a G a5 16 (upd (fun _ => 0) 0 0), kb_o r6 1 [.ref a6, .int 1], kb_a G a6 16 (upd (fun _ => 0) 0 0), kb_o g 1 [.ref b, .int v]]) hE hP hD hS [2] [0, 1, 3, 4, 5] rfl rfl (by decide) (by decide) (kb_rV (As := [.int 0, .int 0, .ref g, .int 0, .int v]) (rest := []) (wc := [kb_o h 2 [.ref r0, .ref r1, .ref r2, .ref r3, .ref r4, .ref r5, .ref r6, .ref r7, .ref r8, .ref r9, .ref r10, .ref r11, .int L, .int P]]) (q0 := 0) ⟨hx, hb, hml, hown, ht⟩ ((c_Tree_firstNamed l G h r0 r1 r2 r3 r4 r5 r6 r7 r8 r9 r10 r11 L P g 0 v) _) (kb_gV wd_27b8bd78 wd_dddc6343 wd_7dd518e9 wd_ebf91e09 wd_fb620020) ⟨rfl, hd_f7d4c618⟩ ⟨(Nat.le_of_ble_eq_true rfl), (Nat.le_of_ble_eq_true rfl)⟩ hE hP hD hS [2] rfl (by decide) rfl rfl rfl hl.1 rfl (Nat.le_of_ble_eq_true rfl) d_Tree_propertyNamed_21 ⟨(Nat.le_of_ble_eq_true rfl), (Nat.le_of_ble_eq_true rfl)⟩) (fun rv8 uu7 H locs hw hP hD hS => ?_)
  have hP : va_P G.1 kb_cl [kb_o r5 1 [.ref a5, .int 1], kb_a G a5 16 (upd (fun _ => 0) 0 0), kb_o r6 1 [.ref a6, .int 1], kb_a G a6 16 (upd (fun _ => 0) 0 0), kb_o g 1 [.ref b, .int v], kb_o h 2 [.ref r0, .ref r1, .ref r2, .ref r3, .ref r4, .ref r5, .ref r6, .ref r7, .ref r8, .ref r9, .ref r10, .ref r11, .int L, .int P]] H := hP
  have hD : va_D A [kb_o r5 1 [.ref a5, .int 1], kb_a G a5 16 (upd (fun _ => 0) 0 0), kb_o r6 1 [.ref a6, .int 1], kb_a G a6 16 (upd (fun _ => 0) 0 0), kb_o g 1 [.ref b, .int v], kb_o h 2 [.ref r0, .ref r1, .ref r2, .ref r3, .ref r4, .ref r5, .ref r6, .ref r7, .ref r8, .ref r9, .ref r10, .ref r11, .int L, .int P]] := hD
  refine kb_top (y := (-1)) (show rv8 = (-1) from hw) ?_
  exact kb_reti (kb_l [], kb_f []) hx hb hr hlocks hE hP hD hS [0, 1, 2, 3, 4, 5] rfl (by decide) rfl rfl (Nat.le_of_ble_eq_true rfl) (Nat.le_of_ble_eq_true rfl) d_Tree_propertyNamed_24

set_option maxHeartbeats 4000000 in
set_option maxRecDepth 100000 in
theorem c_Tree_nodeOnPath (l : Launch) (G : kb_G) (h : Nat) (r0 : Nat) (r1 : Nat) (r2 : Nat) (r3 : Nat) (r4 : Nat) (r5 : Nat) (r6 : Nat) (r7 : Nat) (r8 : Nat) (r9 : Nat) (r10 : Nat) (r11 : Nat) (L : Int32) (P : Int32) (g : Nat) (b : Nat) : kb_ci l G ⟨"TreePress$Tree", "nodeOnPath", "(LTreePress$Row;)I"⟩ prog_4_method_27_code 7 (some .int) 2 0 0 [.ref h, .ref g] [kb_o h 2 [.ref r0, .ref r1, .ref r2, .ref r3, .ref r4, .ref r5, .ref r6, .ref r7, .ref r8, .ref r9, .ref r10, .ref r11, .int L, .int P], kb_o g 1 [.ref b, .int 0]] (fun r u => r = 0) (fun u => [kb_o h 2 [.ref r0, .ref r1, .ref r2, .ref r3, .ref r4, .ref r5, .ref r6, .ref r7, .ref r8, .ref r9, .ref r10, .ref r11, .int L, .int P], kb_o g 1 [.ref b, .int 0]]) := by
  intro sz
  refine kb_body (QQ := fun A => kb_Qi G A (fun r u => r = 0) (fun u => [kb_o h 2 [.ref r0, .ref r1, .ref r2, .ref r3, .ref r4, .ref r5, .ref r6, .ref r7, .ref r8, .ref r9, .ref r10, .ref r11, .int L, .int P], kb_o g 1 [.ref b, .int 0]])) (by decide) (Nat.le_of_ble_eq_true rfl) ?_
  intro p e s m below meth c A B ls hl
  obtain ⟨hx, hb, hr, hml, hlocks, hin, hown, ht, hE, hP, hD, hS⟩ := B
  have hl : lv_has ls 7 [(0, .ref h), (1, .ref g)] := hl
  have hP0 := hP
  obtain ⟨H, hHe⟩ : ∃ H, H = s.heap := ⟨_, rfl⟩
  rw [← hHe] at hP
  have hS : va_S A s.heap H [] := by rw [hHe]; exact hS
  refine kb_at hHe ?_
  clear hHe
  refine lv_aload_n hx hb d_Tree_nodeOnPath_0 rfl (lv_at hl 1 rfl) ?_
  refine kb_i (wc := [kb_o g 1 [.ref b, .int 0]]) (wr := [kb_o h 2 [.ref r0, .ref r1, .ref r2, .ref r3, .ref r4, .ref r5, .ref r6, .ref r7, .ref r8, .ref r9, .ref r10, .ref r11, .int L, .int P]]) hE hP hD hS [1] [0] rfl rfl (by decide) (by decide) (kb_rV (As := []) (rest := []) (wc := [kb_o g 1 [.ref b, .int 0]]) (q0 := 0) ⟨hx, hb, hml, hown, ht⟩ ((c_Row_length l G g b 0) _) (kb_gV wd_d02778d4 wd_5e08083b wd_489345cb wd_4182e433 wd_8d5193a7) ⟨rfl, hd_d85231f4⟩ ⟨(Nat.le_of_ble_eq_true rfl), (Nat.le_of_ble_eq_true rfl)⟩ hE hP hD hS [1] rfl (by decide) rfl rfl rfl hl.1 rfl (Nat.le_of_ble_eq_true rfl) d_Tree_nodeOnPath_1 ⟨(Nat.le_of_ble_eq_true rfl), (Nat.le_of_ble_eq_true rfl)⟩) (fun rv2 uu1 H locs hw hP hD hS => ?_)
  have hP : va_P G.1 kb_cl [kb_o h 2 [.ref r0, .ref r1, .ref r2, .ref r3, .ref r4, .ref r5, .ref r6, .ref r7, .ref r8, .ref r9, .ref r10, .ref r11, .int L, .int P], kb_o g 1 [.ref b, .int 0]] H := hP
  have hD : va_D A [kb_o h 2 [.ref r0, .ref r1, .ref r2, .ref r3, .ref r4, .ref r5, .ref r6, .ref r7, .ref r8, .ref r9, .ref r10, .ref r11, .int L, .int P], kb_o g 1 [.ref b, .int 0]] := hD
  refine kb_top (y := 0) (show rv2 = 0 from hw) ?_
  refine lv_istore_n (lv' := [(2, .int 0), (0, .ref h), (1, .ref g)]) hx hb d_Tree_nodeOnPath_4 rfl hl (by decide) rfl (fun ls hl => ?_)
  refine lv_iload_n hx hb d_Tree_nodeOnPath_5 rfl (lv_at hl 0 rfl) ?_
  refine lv_iconst (v := 1) hx hb d_Tree_nodeOnPath_6 (by decide) ?_
  refine lv_icmp_ne (tgt := 22) hx hb d_Tree_nodeOnPath_7 (by decide) (fun c9 => ?_) (fun c9 => absurd c9 (by decide))
  refine lv_iconst (v := 0) hx hb d_Tree_nodeOnPath_22 (by decide) ?_
  refine lv_istore_n (lv' := [(3, .int 0), (2, .int 0), (0, .ref h), (1, .ref g)]) hx hb d_Tree_nodeOnPath_23 rfl hl (by decide) rfl (fun ls hl => ?_)
  refine lv_iconst (v := 0) hx hb d_Tree_nodeOnPath_24 (by decide) ?_
  refine lv_istore (lv' := [(4, .int 0), (3, .int 0), (2, .int 0), (0, .ref h), (1, .ref g)]) hx hb d_Tree_nodeOnPath_25 hl (by decide) rfl (fun ls hl => ?_)
  refine lv_iconst (v := 0) hx hb d_Tree_nodeOnPath_27 (by decide) ?_
  refine lv_istore (lv' := [(5, .int 0), (4, .int 0), (3, .int 0), (2, .int 0), (0, .ref h), (1, .ref g)]) hx hb d_Tree_nodeOnPath_28 hl (by decide) rfl (fun ls hl => ?_)
  refine lv_iload hx hb d_Tree_nodeOnPath_30 (lv_at hl 0 rfl) ?_
  refine lv_bipush (v := 16) hx hb d_Tree_nodeOnPath_32 (by decide) ?_
  refine lv_icmp_ge (tgt := 102) hx hb d_Tree_nodeOnPath_34 (by decide) (fun c9 => absurd c9 (by decide)) (fun c9 => ?_)
  refine lv_iload hx hb d_Tree_nodeOnPath_37 (lv_at hl 1 rfl) ?_
  refine lv_iload_n hx hb d_Tree_nodeOnPath_39 rfl (lv_at hl 3 rfl) ?_
  refine lv_icmp_ge (tgt := 102) hx hb d_Tree_nodeOnPath_40 (by decide) (fun c9 => ?_) (fun c9 => absurd (by decide) c9)
  refine lv_iload hx hb d_Tree_nodeOnPath_102 (lv_at hl 1 rfl) ?_
  refine lv_iload_n hx hb d_Tree_nodeOnPath_104 rfl (lv_at hl 3 rfl) ?_
  refine lv_icmp_ge (tgt := 112) hx hb d_Tree_nodeOnPath_105 (by decide) (fun c9 => ?_) (fun c9 => absurd (by decide) c9)
  refine lv_iload_n hx hb d_Tree_nodeOnPath_112 rfl (lv_at hl 2 rfl) ?_
  exact kb_reti (kb_l [], kb_f []) hx hb hr hlocks hE hP hD hS [0, 1] rfl (by decide) rfl rfl (Nat.le_of_ble_eq_true rfl) (Nat.le_of_ble_eq_true rfl) d_Tree_nodeOnPath_113

set_option maxHeartbeats 4000000 in
set_option maxRecDepth 100000 in
theorem c_Rd_failureOfHead (l : Launch) (G : kb_G) (h : Nat) (i0 : Int32) (i1 : Int32) (i2 : Int32) (i3 : Int32) (g : Nat) (b : Nat) : kb_ci l G ⟨"TreePress$Reader", "failureOfHead", "(LTreePress$Row;)I"⟩ prog_2_method_2_code 6 (some .int) 2 0 0 [.ref h, .ref g] [kb_o h 0 [.int i0, .int i1, .int i2, .int i3], kb_o g 1 [.ref b, .int 0]] (fun r u => r = 0) (fun u => [kb_o h 0 [.int i0, .int i1, .int i2, .int i3], kb_o g 1 [.ref b, .int 0]]) := by
  intro sz
  refine kb_body (QQ := fun A => kb_Qi G A (fun r u => r = 0) (fun u => [kb_o h 0 [.int i0, .int i1, .int i2, .int i3], kb_o g 1 [.ref b, .int 0]])) (by decide) (Nat.le_of_ble_eq_true rfl) ?_
  intro p e s m below meth c A B ls hl
  obtain ⟨hx, hb, hr, hml, hlocks, hin, hown, ht, hE, hP, hD, hS⟩ := B
  have hl : lv_has ls 6 [(0, .ref h), (1, .ref g)] := hl
  have hP0 := hP
  obtain ⟨H, hHe⟩ : ∃ H, H = s.heap := ⟨_, rfl⟩
  rw [← hHe] at hP
  have hS : va_S A s.heap H [] := by rw [hHe]; exact hS
  refine kb_at hHe ?_
  clear hHe
  refine lv_aload_n hx hb d_Rd_failureOfHead_0 rfl (lv_at hl 1 rfl) ?_
  refine kb_i (wc := [kb_o g 1 [.ref b, .int 0]]) (wr := [kb_o h 0 [.int i0, .int i1, .int i2, .int i3]]) hE hP hD hS [1] [0] rfl rfl (by decide) (by decide) (kb_rV (As := []) (rest := []) (wc := [kb_o g 1 [.ref b, .int 0]]) (q0 := 0) ⟨hx, hb, hml, hown, ht⟩ ((c_Row_length l G g b 0) _) (kb_gV wd_5f5b0b19 wd_5e08083b wd_489345cb wd_4182e433 wd_8d5193a7) ⟨rfl, hd_d85231f4⟩ ⟨(Nat.le_of_ble_eq_true rfl), (Nat.le_of_ble_eq_true rfl)⟩ hE hP hD hS [1] rfl (by decide) rfl rfl rfl hl.1 rfl (Nat.le_of_ble_eq_true rfl) d_Rd_failureOfHead_1 ⟨(Nat.le_of_ble_eq_true rfl), (Nat.le_of_ble_eq_true rfl)⟩) (fun rv2 uu1 H locs hw hP hD hS => ?_)
  have hP : va_P G.1 kb_cl [kb_o h 0 [.int i0, .int i1, .int i2, .int i3], kb_o g 1 [.ref b, .int 0]] H := hP
  have hD : va_D A [kb_o h 0 [.int i0, .int i1, .int i2, .int i3], kb_o g 1 [.ref b, .int 0]] := hD
  refine kb_top (y := 0) (show rv2 = 0 from hw) ?_
  refine lv_istore_n (lv' := [(2, .int 0), (0, .ref h), (1, .ref g)]) hx hb d_Rd_failureOfHead_4 rfl hl (by decide) rfl (fun ls hl => ?_)
  refine lv_iconst (v := 0) hx hb d_Rd_failureOfHead_5 (by decide) ?_
  refine lv_istore_n (lv' := [(3, .int 0), (2, .int 0), (0, .ref h), (1, .ref g)]) hx hb d_Rd_failureOfHead_6 rfl hl (by decide) rfl (fun ls hl => ?_)
  refine lv_iload_n hx hb d_Rd_failureOfHead_7 rfl (lv_at hl 0 rfl) ?_
  refine lv_bipush (v := 10) hx hb d_Rd_failureOfHead_8 (by decide) ?_
  refine lv_icmp_ge (tgt := 61) hx hb d_Rd_failureOfHead_10 (by decide) (fun c9 => absurd c9 (by decide)) (fun c9 => ?_)
  refine lv_iload_n hx hb d_Rd_failureOfHead_13 rfl (lv_at hl 0 rfl) ?_
  refine lv_iconst (v := 4) hx hb d_Rd_failureOfHead_14 (by decide) ?_
  refine lv_imul hx hb d_Rd_failureOfHead_15 ?_
  refine kb_top (y := 0) (by decide) ?_
  refine lv_istore (lv' := [(4, .int 0), (3, .int 0), (2, .int 0), (0, .ref h), (1, .ref g)]) hx hb d_Rd_failureOfHead_16 hl (by decide) rfl (fun ls hl => ?_)
  refine lv_iload hx hb d_Rd_failureOfHead_18 (lv_at hl 0 rfl) ?_
  refine lv_bipush (v := 12) hx hb d_Rd_failureOfHead_20 (by decide) ?_
  refine lv_icmp_ne (tgt := 30) hx hb d_Rd_failureOfHead_22 (by decide) (fun c9 => ?_) (fun c9 => absurd c9 (by decide))
  refine lv_iload hx hb d_Rd_failureOfHead_30 (lv_at hl 0 rfl) ?_
  refine lv_iconst (v := 4) hx hb d_Rd_failureOfHead_32 (by decide) ?_
  refine lv_iadd hx hb d_Rd_failureOfHead_33 ?_
  refine kb_top (y := 4) (by decide) ?_
  refine lv_istore (lv' := [(5, .int 4), (4, .int 0), (3, .int 0), (2, .int 0), (0, .ref h), (1, .ref g)]) hx hb d_Rd_failureOfHead_34 hl (by decide) rfl (fun ls hl => ?_)
  refine lv_iload_n hx hb d_Rd_failureOfHead_36 rfl (lv_at hl 3 rfl) ?_
  refine lv_iload hx hb d_Rd_failureOfHead_37 (lv_at hl 0 rfl) ?_
  refine lv_icmp_ge (tgt := 44) hx hb d_Rd_failureOfHead_39 (by decide) (fun c9 => absurd c9 (by decide)) (fun c9 => ?_)
  refine lv_iload_n hx hb d_Rd_failureOfHead_42 rfl (lv_at hl 3 rfl) ?_
  exact kb_reti (kb_l [], kb_f []) hx hb hr hlocks hE hP hD hS [0, 1] rfl (by decide) rfl rfl (Nat.le_of_ble_eq_true rfl) (Nat.le_of_ble_eq_true rfl) d_Rd_failureOfHead_43

set_option maxHeartbeats 4000000 in
set_option maxRecDepth 100000 in
theorem c_Press_feed (l : Launch) (G : kb_G) (h : Nat) (tp : Nat) (ld : Nat) (rd : Nat) (tr : Nat) (sp : Nat) (ta : Nat) (f : Nat → Int32) (x1 : Int32) (x2 : Int32) (x3 : Int32) (x4 : Int32) (x5 : Int32) : kb_ci l G ⟨"TreePress", "feed", "(IIIII)I"⟩ prog_1_method_2_code 6 (some .int) 6 1 32 [.ref h, .int x1, .int x2, .int x3, .int x4, .int x5] [kb_o h 3 [.ref tp, .ref ld, .ref rd, .ref tr, .ref sp], kb_o tp 1 [.ref ta, .int 0], kb_a G ta 16 f] (fun r u => r = 20) (fun u => []) := by
  intro sz
  refine kb_body (QQ := fun A => kb_Qi G A (fun r u => r = 20) (fun u => [])) (by decide) (Nat.le_of_ble_eq_true rfl) ?_
  intro p e s m below meth c A B ls hl
  obtain ⟨hx, hb, hr, hml, hlocks, hin, hown, ht, hE, hP, hD, hS⟩ := B
  have hl : lv_has ls 6 [(0, .ref h), (1, .int x1), (2, .int x2), (3, .int x3), (4, .int x4), (5, .int x5)] := hl
  have hP0 := hP
  obtain ⟨H, hHe⟩ : ∃ H, H = s.heap := ⟨_, rfl⟩
  rw [← hHe] at hP
  have hS : va_S A s.heap H [] := by rw [hHe]; exact hS
  refine kb_at hHe ?_
  clear hHe
  refine lv_aload_n hx hb d_Press_feed_0 rfl (lv_at hl 0 rfl) ?_
  refine va_get (D := G.1) (ci := 3) (v := .ref tp) (C := "TreePress") (T := kb_F3) (N := 5) hx hb ht kb_w3 hown hE.1 hP 0 rfl rfl 0 (by decide) (ht _ wd_667fbbc4) (fun _ h9 => h9) rfl d_Press_feed_1 ?_
  refine kb_i (wc := [kb_o tp 1 [.ref ta, .int 0]]) (wr := [kb_o h 3 [.ref tp, .ref ld, .ref rd, .ref tr, .ref sp], kb_a G ta 16 f]) hE hP hD hS [1] [0, 2] rfl rfl (by decide) (by decide) (kb_rV (As := []) (rest := []) (wc := [kb_o tp 1 [.ref ta, .int 0]]) (q0 := 0) ⟨hx, hb, hml, hown, ht⟩ ((c_Row_length l G tp ta 0) _) (kb_gV wd_b6aba818 wd_5e08083b wd_489345cb wd_4182e433 wd_8d5193a7) ⟨rfl, hd_d85231f4⟩ ⟨(Nat.le_of_ble_eq_true rfl), (Nat.le_of_ble_eq_true rfl)⟩ hE hP hD hS [1] rfl (by decide) rfl rfl rfl hl.1 rfl (Nat.le_of_ble_eq_true rfl) d_Press_feed_4 ⟨(Nat.le_of_ble_eq_true rfl), (Nat.le_of_ble_eq_true rfl)⟩) (fun rv2 uu1 H locs hw hP hD hS => ?_)
  have hP : va_P G.1 kb_cl [kb_o h 3 [.ref tp, .ref ld, .ref rd, .ref tr, .ref sp], kb_a G ta 16 f, kb_o tp 1 [.ref ta, .int 0]] H := hP
  have hD : va_D A [kb_o h 3 [.ref tp, .ref ld, .ref rd, .ref tr, .ref sp], kb_a G ta 16 f, kb_o tp 1 [.ref ta, .int 0]] := hD
  refine kb_top (y := 0) (show rv2 = 0 from hw) ?_
  refine lv_ldc (v := 65516) hx hb hown (ht _ wd_1c022c51) d_Press_feed_7 ?_
  refine lv_icmp_le (tgt := 22) hx hb d_Press_feed_9 (by decide) (fun c9 => ?_) (fun c9 => absurd (by decide) c9)
  refine lv_aload_n hx hb d_Press_feed_22 rfl (lv_at hl 0 rfl) ?_
  refine va_get (D := G.1) (ci := 3) (v := .ref tp) (C := "TreePress") (T := kb_F3) (N := 5) hx hb ht kb_w3 hown hE.1 hP 0 rfl rfl 0 (by decide) (ht _ wd_667fbbc4) (fun _ h9 => h9) rfl d_Press_feed_23 ?_
  refine lv_iload_n hx hb d_Press_feed_26 rfl (lv_at hl 1 rfl) ?_
  refine kb_v (wc := [kb_o tp 1 [.ref ta, .int 0], kb_a G ta 16 f]) (wr := [kb_o h 3 [.ref tp, .ref ld, .ref rd, .ref tr, .ref sp]]) hE hP hD hS [2, 1] [0] rfl rfl (by decide) (by decide) (kb_rV (As := [.int x1]) (rest := []) (wc := [kb_o tp 1 [.ref ta, .int 0], kb_a G ta 16 f]) (q0 := 0) ⟨hx, hb, hml, hown, ht⟩ ((c_Row_addNumber_n l G tp ta 0 16 f x1 (by omega) (by omega)) _) (kb_gV wd_ea688bce wd_091fe404 wd_2d8090cf wd_4182e433 wd_378b6872) ⟨rfl, hd_6154874f⟩ ⟨(Nat.le_of_ble_eq_true rfl), (Nat.le_of_ble_eq_true rfl)⟩ hE hP hD hS [2, 1] rfl (by decide) rfl rfl rfl hl.1 rfl (Nat.le_of_ble_eq_true rfl) d_Press_feed_27 ⟨(Nat.le_of_ble_eq_true rfl), (Nat.le_of_ble_eq_true rfl)⟩) (fun uu3 H locs hw hP hD hS => ?_)
  have hP : va_P G.1 kb_cl [kb_o h 3 [.ref tp, .ref ld, .ref rd, .ref tr, .ref sp], kb_o tp 1 [.ref ta, .int 4], kb_a G ta 16 (uu3.2 0)] H := hP
  have hD : va_D A [kb_o h 3 [.ref tp, .ref ld, .ref rd, .ref tr, .ref sp], kb_o tp 1 [.ref ta, .int 4], kb_a G ta 16 (uu3.2 0)] := hD
  refine lv_aload_n hx hb d_Press_feed_30 rfl (lv_at hl 0 rfl) ?_
  refine va_get (D := G.1) (ci := 3) (v := .ref tp) (C := "TreePress") (T := kb_F3) (N := 5) hx hb ht kb_w3 hown hE.1 hP 0 rfl rfl 0 (by decide) (ht _ wd_667fbbc4) (fun _ h9 => h9) rfl d_Press_feed_31 ?_
  refine lv_iload_n hx hb d_Press_feed_34 rfl (lv_at hl 2 rfl) ?_
  refine kb_v (wc := [kb_o tp 1 [.ref ta, .int 4], kb_a G ta 16 (uu3.2 0)]) (wr := [kb_o h 3 [.ref tp, .ref ld, .ref rd, .ref tr, .ref sp]]) hE hP hD hS [1, 2] [0] rfl rfl (by decide) (by decide) (kb_rV (As := [.int x2]) (rest := []) (wc := [kb_o tp 1 [.ref ta, .int 4], kb_a G ta 16 (uu3.2 0)]) (q0 := 0) ⟨hx, hb, hml, hown, ht⟩ ((c_Row_addNumber_n l G tp ta 4 16 (uu3.2 0) x2 (by omega) (by omega)) _) (kb_gV wd_ea688bce wd_091fe404 wd_2d8090cf wd_4182e433 wd_378b6872) ⟨rfl, hd_6154874f⟩ ⟨(Nat.le_of_ble_eq_true rfl), (Nat.le_of_ble_eq_true rfl)⟩ hE hP hD hS [1, 2] rfl (by decide) rfl rfl rfl hl.1 rfl (Nat.le_of_ble_eq_true rfl) d_Press_feed_35 ⟨(Nat.le_of_ble_eq_true rfl), (Nat.le_of_ble_eq_true rfl)⟩) (fun uu5 H locs hw hP hD hS => ?_)
  have hP : va_P G.1 kb_cl [kb_o h 3 [.ref tp, .ref ld, .ref rd, .ref tr, .ref sp], kb_o tp 1 [.ref ta, .int 8], kb_a G ta 16 (uu5.2 0)] H := hP
  have hD : va_D A [kb_o h 3 [.ref tp, .ref ld, .ref rd, .ref tr, .ref sp], kb_o tp 1 [.ref ta, .int 8], kb_a G ta 16 (uu5.2 0)] := hD
  refine lv_aload_n hx hb d_Press_feed_38 rfl (lv_at hl 0 rfl) ?_
  refine va_get (D := G.1) (ci := 3) (v := .ref tp) (C := "TreePress") (T := kb_F3) (N := 5) hx hb ht kb_w3 hown hE.1 hP 0 rfl rfl 0 (by decide) (ht _ wd_667fbbc4) (fun _ h9 => h9) rfl d_Press_feed_39 ?_
  refine lv_iload_n hx hb d_Press_feed_42 rfl (lv_at hl 3 rfl) ?_
  refine kb_v (wc := [kb_o tp 1 [.ref ta, .int 8], kb_a G ta 16 (uu5.2 0)]) (wr := [kb_o h 3 [.ref tp, .ref ld, .ref rd, .ref tr, .ref sp]]) hE hP hD hS [1, 2] [0] rfl rfl (by decide) (by decide) (kb_rV (As := [.int x3]) (rest := []) (wc := [kb_o tp 1 [.ref ta, .int 8], kb_a G ta 16 (uu5.2 0)]) (q0 := 0) ⟨hx, hb, hml, hown, ht⟩ ((c_Row_addNumber_n l G tp ta 8 16 (uu5.2 0) x3 (by omega) (by omega)) _) (kb_gV wd_ea688bce wd_091fe404 wd_2d8090cf wd_4182e433 wd_378b6872) ⟨rfl, hd_6154874f⟩ ⟨(Nat.le_of_ble_eq_true rfl), (Nat.le_of_ble_eq_true rfl)⟩ hE hP hD hS [1, 2] rfl (by decide) rfl rfl rfl hl.1 rfl (Nat.le_of_ble_eq_true rfl) d_Press_feed_43 ⟨(Nat.le_of_ble_eq_true rfl), (Nat.le_of_ble_eq_true rfl)⟩) (fun uu7 H locs hw hP hD hS => ?_)
  have hP : va_P G.1 kb_cl [kb_o h 3 [.ref tp, .ref ld, .ref rd, .ref tr, .ref sp], kb_o tp 1 [.ref ta, .int 12], kb_a G ta 16 (uu7.2 0)] H := hP
  have hD : va_D A [kb_o h 3 [.ref tp, .ref ld, .ref rd, .ref tr, .ref sp], kb_o tp 1 [.ref ta, .int 12], kb_a G ta 16 (uu7.2 0)] := hD
  refine lv_aload_n hx hb d_Press_feed_46 rfl (lv_at hl 0 rfl) ?_
  refine va_get (D := G.1) (ci := 3) (v := .ref tp) (C := "TreePress") (T := kb_F3) (N := 5) hx hb ht kb_w3 hown hE.1 hP 0 rfl rfl 0 (by decide) (ht _ wd_667fbbc4) (fun _ h9 => h9) rfl d_Press_feed_47 ?_
  refine lv_iload hx hb d_Press_feed_50 (lv_at hl 4 rfl) ?_
  refine kb_v (wc := [kb_o tp 1 [.ref ta, .int 12], kb_a G ta 16 (uu7.2 0)]) (wr := [kb_o h 3 [.ref tp, .ref ld, .ref rd, .ref tr, .ref sp]]) hE hP hD hS [1, 2] [0] rfl rfl (by decide) (by decide) (kb_rV (As := [.int x4]) (rest := []) (wc := [kb_o tp 1 [.ref ta, .int 12], kb_a G ta 16 (uu7.2 0)]) (q0 := 0) ⟨hx, hb, hml, hown, ht⟩ ((c_Row_addNumber_n l G tp ta 12 16 (uu7.2 0) x4 (by omega) (by omega)) _) (kb_gV wd_ea688bce wd_091fe404 wd_2d8090cf wd_4182e433 wd_378b6872) ⟨rfl, hd_6154874f⟩ ⟨(Nat.le_of_ble_eq_true rfl), (Nat.le_of_ble_eq_true rfl)⟩ hE hP hD hS [1, 2] rfl (by decide) rfl rfl rfl hl.1 rfl (Nat.le_of_ble_eq_true rfl) d_Press_feed_52 ⟨(Nat.le_of_ble_eq_true rfl), (Nat.le_of_ble_eq_true rfl)⟩) (fun uu9 H locs hw hP hD hS => ?_)
  have hP : va_P G.1 kb_cl [kb_o h 3 [.ref tp, .ref ld, .ref rd, .ref tr, .ref sp], kb_o tp 1 [.ref ta, .int 16], kb_a G ta 16 (uu9.2 0)] H := hP
  have hD : va_D A [kb_o h 3 [.ref tp, .ref ld, .ref rd, .ref tr, .ref sp], kb_o tp 1 [.ref ta, .int 16], kb_a G ta 16 (uu9.2 0)] := hD
  refine lv_aload_n hx hb d_Press_feed_55 rfl (lv_at hl 0 rfl) ?_
  refine va_get (D := G.1) (ci := 3) (v := .ref tp) (C := "TreePress") (T := kb_F3) (N := 5) hx hb ht kb_w3 hown hE.1 hP 0 rfl rfl 0 (by decide) (ht _ wd_667fbbc4) (fun _ h9 => h9) rfl d_Press_feed_56 ?_
  refine lv_iload hx hb d_Press_feed_59 (lv_at hl 5 rfl) ?_
  refine kb_v (wc := [kb_o tp 1 [.ref ta, .int 16], kb_a G ta 16 (uu9.2 0)]) (wr := [kb_o h 3 [.ref tp, .ref ld, .ref rd, .ref tr, .ref sp]]) hE hP hD hS [1, 2] [0] rfl rfl (by decide) (by decide) (kb_rV (As := [.int x5]) (rest := []) (wc := [kb_o tp 1 [.ref ta, .int 16], kb_a G ta 16 (uu9.2 0)]) (q0 := 0) ⟨hx, hb, hml, hown, ht⟩ ((c_Row_addNumber_g16 l G tp ta (uu9.2 0) x5) _) (kb_gV wd_ea688bce wd_091fe404 wd_2d8090cf wd_4182e433 wd_378b6872) ⟨rfl, hd_6154874f⟩ ⟨(Nat.le_of_ble_eq_true rfl), (Nat.le_of_ble_eq_true rfl)⟩ hE hP hD hS [1, 2] rfl (by decide) rfl rfl rfl hl.1 rfl (Nat.le_of_ble_eq_true rfl) d_Press_feed_61 ⟨(Nat.le_of_ble_eq_true rfl), (Nat.le_of_ble_eq_true rfl)⟩) (fun uu11 H locs hw hP hD hS => ?_)
  have hP : va_P G.1 kb_cl [kb_o h 3 [.ref tp, .ref ld, .ref rd, .ref tr, .ref sp], kb_o tp 1 [.ref (uu11.1 0), .int 20], kb_a G (uu11.1 0) 32 (uu11.2 0)] H := hP
  have hD : va_D A [kb_o h 3 [.ref tp, .ref ld, .ref rd, .ref tr, .ref sp], kb_o tp 1 [.ref (uu11.1 0), .int 20], kb_a G (uu11.1 0) 32 (uu11.2 0)] := hD
  refine lv_aload_n hx hb d_Press_feed_64 rfl (lv_at hl 0 rfl) ?_
  refine va_get (D := G.1) (ci := 3) (v := .ref tp) (C := "TreePress") (T := kb_F3) (N := 5) hx hb ht kb_w3 hown hE.1 hP 0 rfl rfl 0 (by decide) (ht _ wd_667fbbc4) (fun _ h9 => h9) rfl d_Press_feed_65 ?_
  refine kb_i (wc := [kb_o tp 1 [.ref (uu11.1 0), .int 20]]) (wr := [kb_o h 3 [.ref tp, .ref ld, .ref rd, .ref tr, .ref sp], kb_a G (uu11.1 0) 32 (uu11.2 0)]) hE hP hD hS [1] [0, 2] rfl rfl (by decide) (by decide) (kb_rV (As := []) (rest := []) (wc := [kb_o tp 1 [.ref (uu11.1 0), .int 20]]) (q0 := 0) ⟨hx, hb, hml, hown, ht⟩ ((c_Row_length l G tp (uu11.1 0) 20) _) (kb_gV wd_b6aba818 wd_5e08083b wd_489345cb wd_4182e433 wd_8d5193a7) ⟨rfl, hd_d85231f4⟩ ⟨(Nat.le_of_ble_eq_true rfl), (Nat.le_of_ble_eq_true rfl)⟩ hE hP hD hS [1] rfl (by decide) rfl rfl rfl hl.1 rfl (Nat.le_of_ble_eq_true rfl) d_Press_feed_68 ⟨(Nat.le_of_ble_eq_true rfl), (Nat.le_of_ble_eq_true rfl)⟩) (fun rv14 uu13 H locs hw hP hD hS => ?_)
  have hP : va_P G.1 kb_cl [kb_o h 3 [.ref tp, .ref ld, .ref rd, .ref tr, .ref sp], kb_a G (uu11.1 0) 32 (uu11.2 0), kb_o tp 1 [.ref (uu11.1 0), .int 20]] H := hP
  have hD : va_D A [kb_o h 3 [.ref tp, .ref ld, .ref rd, .ref tr, .ref sp], kb_a G (uu11.1 0) 32 (uu11.2 0), kb_o tp 1 [.ref (uu11.1 0), .int 20]] := hD
  refine kb_top (y := 20) (show rv14 = 20 from hw) ?_
  exact kb_reti (kb_l [], kb_f []) hx hb hr hlocks hE hP hD hS [] rfl (by decide) rfl rfl (Nat.le_of_ble_eq_true rfl) (Nat.le_of_ble_eq_true rfl) d_Press_feed_71

set_option maxHeartbeats 4000000 in
set_option maxRecDepth 100000 in
theorem c_Press_end0 (l : Launch) (G : kb_G) (h : Nat) (tp : Nat) (ld : Nat) (rd : Nat) (tr : Nat) (sp : Nat) (ta : Nat) : kb_cv l G ⟨"TreePress", "end", "(I)V"⟩ prog_1_method_3_code 2 6 0 0 [.ref h, .int 0] [kb_o h 3 [.ref tp, .ref ld, .ref rd, .ref tr, .ref sp], kb_o tp 1 [.ref ta, .int 0]] (fun u => True) (fun u => []) := by
  intro sz
  refine kb_body (QQ := fun A => kb_Qv G A (fun u => True) (fun u => [])) (by decide) (Nat.le_of_ble_eq_true rfl) ?_
  intro p e s m below meth c A B ls hl
  obtain ⟨hx, hb, hr, hml, hlocks, hin, hown, ht, hE, hP, hD, hS⟩ := B
  have hl : lv_has ls 2 [(0, .ref h), (1, .int 0)] := hl
  have hP0 := hP
  obtain ⟨H, hHe⟩ : ∃ H, H = s.heap := ⟨_, rfl⟩
  rw [← hHe] at hP
  have hS : va_S A s.heap H [] := by rw [hHe]; exact hS
  refine kb_at hHe ?_
  clear hHe
  refine lv_iload_n hx hb d_Press_end_0 rfl (lv_at hl 1 rfl) ?_
  refine lv_if_lt (tgt := 15) hx hb d_Press_end_1 (by decide) (fun c9 => absurd c9 (by decide)) (fun c9 => ?_)
  refine lv_iload_n hx hb d_Press_end_4 rfl (lv_at hl 1 rfl) ?_
  refine lv_aload_n hx hb d_Press_end_5 rfl (lv_at hl 0 rfl) ?_
  refine va_get (D := G.1) (ci := 3) (v := .ref tp) (C := "TreePress") (T := kb_F3) (N := 5) hx hb ht kb_w3 hown hE.1 hP 0 rfl rfl 0 (by decide) (ht _ wd_667fbbc4) (fun _ h9 => h9) rfl d_Press_end_6 ?_
  refine kb_i (wc := [kb_o tp 1 [.ref ta, .int 0]]) (wr := [kb_o h 3 [.ref tp, .ref ld, .ref rd, .ref tr, .ref sp]]) hE hP hD hS [1] [0] rfl rfl (by decide) (by decide) (kb_rV (As := []) (rest := [.int 0]) (wc := [kb_o tp 1 [.ref ta, .int 0]]) (q0 := 0) ⟨hx, hb, hml, hown, ht⟩ ((c_Row_length l G tp ta 0) _) (kb_gV wd_b6aba818 wd_5e08083b wd_489345cb wd_4182e433 wd_8d5193a7) ⟨rfl, hd_d85231f4⟩ ⟨(Nat.le_of_ble_eq_true rfl), (Nat.le_of_ble_eq_true rfl)⟩ hE hP hD hS [1] rfl (by decide) rfl rfl rfl hl.1 rfl (Nat.le_of_ble_eq_true rfl) d_Press_end_9 ⟨(Nat.le_of_ble_eq_true rfl), (Nat.le_of_ble_eq_true rfl)⟩) (fun rv2 uu1 H locs hw hP hD hS => ?_)
  have hP : va_P G.1 kb_cl [kb_o h 3 [.ref tp, .ref ld, .ref rd, .ref tr, .ref sp], kb_o tp 1 [.ref ta, .int 0]] H := hP
  have hD : va_D A [kb_o h 3 [.ref tp, .ref ld, .ref rd, .ref tr, .ref sp], kb_o tp 1 [.ref ta, .int 0]] := hD
  refine kb_top (y := 0) (show rv2 = 0 from hw) ?_
  refine lv_icmp_le (tgt := 25) hx hb d_Press_end_12 (by decide) (fun c9 => ?_) (fun c9 => absurd (by decide) c9)
  refine lv_aload_n hx hb d_Press_end_25 rfl (lv_at hl 0 rfl) ?_
  refine va_get (D := G.1) (ci := 3) (v := .ref tp) (C := "TreePress") (T := kb_F3) (N := 5) hx hb ht kb_w3 hown hE.1 hP 0 rfl rfl 0 (by decide) (ht _ wd_667fbbc4) (fun _ h9 => h9) rfl d_Press_end_26 ?_
  refine lv_iload_n hx hb d_Press_end_29 rfl (lv_at hl 1 rfl) ?_
  refine kb_v (wc := [kb_o tp 1 [.ref ta, .int 0]]) (wr := [kb_o h 3 [.ref tp, .ref ld, .ref rd, .ref tr, .ref sp]]) hE hP hD hS [1] [0] rfl rfl (by decide) (by decide) (kb_rV (As := [.int 0]) (rest := []) (wc := [kb_o tp 1 [.ref ta, .int 0]]) (q0 := 0) ⟨hx, hb, hml, hown, ht⟩ ((c_Row_cut0 l G tp ta) _) (kb_gV wd_50e9e1ec wd_a30f3437 wd_8c6818e9 wd_4182e433 wd_86891071) ⟨rfl, hd_934340dd⟩ ⟨(Nat.le_of_ble_eq_true rfl), (Nat.le_of_ble_eq_true rfl)⟩ hE hP hD hS [1] rfl (by decide) rfl rfl rfl hl.1 rfl (Nat.le_of_ble_eq_true rfl) d_Press_end_30 ⟨(Nat.le_of_ble_eq_true rfl), (Nat.le_of_ble_eq_true rfl)⟩) (fun uu3 H locs hw hP hD hS => ?_)
  have hP : va_P G.1 kb_cl [kb_o h 3 [.ref tp, .ref ld, .ref rd, .ref tr, .ref sp], kb_o tp 1 [.ref ta, .int 0]] H := hP
  have hD : va_D A [kb_o h 3 [.ref tp, .ref ld, .ref rd, .ref tr, .ref sp], kb_o tp 1 [.ref ta, .int 0]] := hD
  exact kb_retv (kb_l [], kb_f []) hx hb hr hlocks hE hP hD hS [] rfl (by decide) rfl trivial (Nat.le_of_ble_eq_true rfl) (Nat.le_of_ble_eq_true rfl) d_Press_end_33

set_option maxHeartbeats 4000000 in
set_option maxRecDepth 100000 in
theorem c_Press_endX (l : Launch) (hst : l.stackTraces = false) (G : kb_G) (h : Nat) (tp : Nat) (ld : Nat) (rd : Nat) (tr : Nat) (sp : Nat) (ta : Nat) (n : Int32) (hn : ¬ n = 0) : kb_cx l G ⟨"TreePress", "end", "(I)V"⟩ prog_1_method_3_code 2 none 6 1 6 [.ref h, .int n] [kb_o h 3 [.ref tp, .ref ld, .ref rd, .ref tr, .ref sp], kb_o tp 1 [.ref ta, .int 0]] "java/lang/IllegalArgumentException" := by
  refine kb_bodyX (by decide) (Nat.le_of_ble_eq_true rfl) ?_
  intro p e s m below meth c A B hno hAw ls hl
  obtain ⟨hx, hb, hr, hml, hlocks, hin, hown, ht, hE, hP, hD, hS⟩ := B
  have hl : lv_has ls 2 [(0, .ref h), (1, .int n)] := hl
  have hP0 := hP
  obtain ⟨H, hHe⟩ : ∃ H, H = s.heap := ⟨_, rfl⟩
  rw [← hHe] at hP
  have hS : va_S A s.heap H [] := by rw [hHe]; exact hS
  refine kb_at hHe ?_
  clear hHe
  refine lv_iload_n hx hb d_Press_end_0 rfl (lv_at hl 1 rfl) ?_
  refine lv_if_lt (tgt := 15) hx hb d_Press_end_1 (by decide) (fun cb1 => ?_) (fun cb1 => ?_)
  · exact kb_throw (E := "java/lang/IllegalArgumentException") (names := kb_names) (wi := [kb_o h 3 [.ref tp, .ref ld, .ref rd, .ref tr, .ref sp], kb_o tp 1 [.ref ta, .int 0]]) hx hb hst hown ht hE (by decide +kernel) (by decide +kernel) wd_c02bd52e wd_2cf38b0f kb_own_IllegalArgument kb_ownb_IllegalArgument (by decide +kernel) (List.mem_of_getElem? (i := 1) rfl) hP0 hAw hS (hl.1.trans hml.symm) hno hlocks d_Press_end_15 d_Press_end_18 d_Press_end_19 d_Press_end_21 d_Press_end_24 (Nat.le_of_ble_eq_true rfl) (Nat.le_of_ble_eq_true rfl) (Nat.le_of_ble_eq_true rfl) (Nat.le_of_ble_eq_true rfl) (Nat.le_of_ble_eq_true rfl) (Nat.le_of_ble_eq_true rfl)
  · refine lv_iload_n hx hb d_Press_end_4 rfl (lv_at hl 1 rfl) ?_
    refine lv_aload_n hx hb d_Press_end_5 rfl (lv_at hl 0 rfl) ?_
    refine va_get (D := G.1) (ci := 3) (v := .ref tp) (C := "TreePress") (T := kb_F3) (N := 5) hx hb ht kb_w3 hown hE.1 hP 0 rfl rfl 0 (by decide) (ht _ wd_667fbbc4) (fun _ h9 => h9) rfl d_Press_end_6 ?_
    refine kb_i (wc := [kb_o tp 1 [.ref ta, .int 0]]) (wr := [kb_o h 3 [.ref tp, .ref ld, .ref rd, .ref tr, .ref sp]]) hE hP hD hS [1] [0] rfl rfl (by decide) (by decide) (kb_rV (As := []) (rest := [.int n]) (wc := [kb_o tp 1 [.ref ta, .int 0]]) (q0 := 0) ⟨hx, hb, hml, hown, ht⟩ ((c_Row_length l G tp ta 0) _) (kb_gV wd_b6aba818 wd_5e08083b wd_489345cb wd_4182e433 wd_8d5193a7) ⟨rfl, hd_d85231f4⟩ ⟨(Nat.le_of_ble_eq_true rfl), (Nat.le_of_ble_eq_true rfl)⟩ hE hP hD hS [1] rfl (by decide) rfl rfl rfl hl.1 rfl (Nat.le_of_ble_eq_true rfl) d_Press_end_9 ⟨(Nat.le_of_ble_eq_true rfl), (Nat.le_of_ble_eq_true rfl)⟩) (fun rv3 uu2 H locs hw hP hD hS => ?_)
    have hP : va_P G.1 kb_cl [kb_o h 3 [.ref tp, .ref ld, .ref rd, .ref tr, .ref sp], kb_o tp 1 [.ref ta, .int 0]] H := hP
    have hD : va_D A [kb_o h 3 [.ref tp, .ref ld, .ref rd, .ref tr, .ref sp], kb_o tp 1 [.ref ta, .int 0]] := hD
    refine kb_top (y := 0) (show rv3 = 0 from hw) ?_
    refine lv_icmp_le (tgt := 25) hx hb d_Press_end_12 (by decide) (fun c9 => False.elim (by have e0 : ¬ (n : Int32).toInt = (0 : Int32).toInt := fun z9 => hn (Int32.toInt_inj.mp z9); have e1 : ¬ (n : Int32).toInt < (0 : Int32).toInt := fun z9 => cb1 (Int32.lt_iff_toInt_lt.mpr z9); have e2 : (n : Int32).toInt ≤ (0 : Int32).toInt := Int32.le_iff_toInt_le.mp c9; have k0 : (0 : Int32).toInt = 0 := rfl; omega)) (fun c9 => ?_)
    exact kb_throw (E := "java/lang/IllegalArgumentException") (names := kb_names) (wi := [kb_o h 3 [.ref tp, .ref ld, .ref rd, .ref tr, .ref sp], kb_o tp 1 [.ref ta, .int 0]]) hx hb hst hown ht hE (by decide +kernel) (by decide +kernel) wd_c02bd52e wd_2cf38b0f kb_own_IllegalArgument kb_ownb_IllegalArgument (by decide +kernel) (List.mem_of_getElem? (i := 1) rfl) hP0 hAw hS (hl.1.trans hml.symm) hno hlocks d_Press_end_15 d_Press_end_18 d_Press_end_19 d_Press_end_21 d_Press_end_24 (Nat.le_of_ble_eq_true rfl) (Nat.le_of_ble_eq_true rfl) (Nat.le_of_ble_eq_true rfl) (Nat.le_of_ble_eq_true rfl) (Nat.le_of_ble_eq_true rfl) (Nat.le_of_ble_eq_true rfl)

set_option maxHeartbeats 4000000 in
set_option maxRecDepth 100000 in
theorem c_Press_clear (l : Launch) (G : kb_G) (h : Nat) (tp : Nat) (ld : Nat) (rd : Nat) (tr : Nat) (sp : Nat) (r0 : Nat) (r1 : Nat) (r2 : Nat) (r3 : Nat) (r4 : Nat) (r5 : Nat) (r6 : Nat) (r7 : Nat) (r8 : Nat) (r9 : Nat) (r10 : Nat) (r11 : Nat) (L : Int32) (P : Int32) (a0 : Nat) (a1 : Nat) (a2 : Nat) (a3 : Nat) (a4 : Nat) (a5 : Nat) (a6 : Nat) (a7 : Nat) (a8 : Nat) (a9 : Nat) (a10 : Nat) (a11 : Nat) : kb_cv l G ⟨"TreePress", "clear", "()V"⟩ prog_1_method_4_code 1 7 0 0 [.ref h] [kb_o h 3 [.ref tp, .ref ld, .ref rd, .ref tr, .ref sp], kb_o tr 2 [.ref r0, .ref r1, .ref r2, .ref r3, .ref r4, .ref r5, .ref r6, .ref r7, .ref r8, .ref r9, .ref r10, .ref r11, .int L, .int P], kb_o r0 1 [.ref a0, .int 0], kb_o r1 1 [.ref a1, .int 1], kb_o r2 1 [.ref a2, .int 1], kb_o r3 1 [.ref a3, .int 1], kb_o r4 1 [.ref a4, .int 1], kb_o r5 1 [.ref a5, .int 1], kb_o r6 1 [.ref a6, .int 1], kb_o r7 1 [.ref a7, .int 0], kb_o r8 1 [.ref a8, .int 0], kb_o r9 1 [.ref a9, .int 0], kb_o r10 1 [.ref a10, .int 0], kb_o r11 1 [.ref a11, .int 0], kb_a G a1 16 (upd (fun _ => 0) 0 (-1)), kb_a G a2 16 (upd (fun _ => 0) 0 1), kb_a G a3 16 (upd (fun _ => 0) 0 0), kb_a G a4 16 (upd (fun _ => 0) 0 0), kb_a G a5 16 (upd (fun _ => 0) 0 0), kb_a G a6 16 (upd (fun _ => 0) 0 0)] (fun u => True) (fun u => []) := by
  intro sz
  refine kb_body (QQ := fun A => kb_Qv G A (fun u => True) (fun u => [])) (by decide) (Nat.le_of_ble_eq_true rfl) ?_
  intro p e s m below meth c A B ls hl
  obtain ⟨hx, hb, hr, hml, hlocks, hin, hown, ht, hE, hP, hD, hS⟩ := B
  have hl : lv_has ls 1 [(0, .ref h)] := hl
  have hP0 := hP
  obtain ⟨H, hHe⟩ : ∃ H, H = s.heap := ⟨_, rfl⟩
  rw [← hHe] at hP
  have hS : va_S A s.heap H [] := by rw [hHe]; exact hS
  refine kb_at hHe ?_
  clear hHe
  refine lv_aload_n hx hb d_Press_clear_0 rfl (lv_at hl 0 rfl) ?_
  refine va_get (D := G.1) (ci := 3) (v := .ref tr) (C := "TreePress") (T := kb_F3) (N := 5) hx hb ht kb_w3 hown hE.1 hP 0 rfl rfl 3 (by decide) (ht _ wd_29809c8a) (fun _ h9 => h9) rfl d_Press_clear_1 ?_
  refine kb_v (wc := [kb_o tr 2 [.ref r0, .ref r1, .ref r2, .ref r3, .ref r4, .ref r5, .ref r6, .ref r7, .ref r8, .ref r9, .ref r10, .ref r11, .int L, .int P], kb_o r0 1 [.ref a0, .int 0], kb_o r1 1 [.ref a1, .int 1], kb_o r2 1 [.ref a2, .int 1], kb_o r3 1 [.ref a3, .int 1], kb_o r4 1 [.ref a4, .int 1], kb_o r5 1 [.ref a5, .int 1], kb_o r6 1 [.ref a6, .int 1], kb_o r7 1 [.ref a7, .int 0], kb_o r8 1 [.ref a8, .int 0], kb_o r9 1 [.ref a9, .int 0], kb_o r10 1 [.ref a10, .int 0], kb_o r11 1 [.ref a11, .int 0], kb_a G a1 16 (upd (fun _ => 0) 0 (-1)), kb_a G a2 16 (upd (fun _ => 0) 0 1), kb_a G a3 16 (upd (fun _ => 0) 0 0), kb_a G a4 16 (upd (fun _ => 0) 0 0), kb_a G a5 16 (upd (fun _ => 0) 0 0), kb_a G a6 16 (upd (fun _ => 0) 0 0)]) (wr := [kb_o h 3 [.ref tp, .ref ld, .ref rd, .ref tr, .ref sp]]) hE hP hD hS [1, 2, 3, 4, 5, 6, 7, 8, 9, 10, 11, 12, 13, 14, 15, 16, 17, 18, 19] [0] rfl rfl (by decide) (by decide) (kb_rV (As := []) (rest := []) (wc := [kb_o tr 2 [.ref r0, .ref r1, .ref r2, .ref r3, .ref r4, .ref r5, .ref r6, .ref r7, .ref r8, .ref r9, .ref r10, .ref r11, .int L, .int P], kb_o r0 1 [.ref a0, .int 0], kb_o r1 1 [.ref a1, .int 1], kb_o r2 1 [.ref a2, .int 1], kb_o r3 1 [.ref a3, .int 1], kb_o r4 1 [.ref a4, .int 1], kb_o r5 1 [.ref a5, .int 1], kb_o r6 1 [.ref a6, .int 1], kb_o r7 1 [.ref a7, .int 0], kb_o r8 1 [.ref a8, .int 0], kb_o r9 1 [.ref a9, .int 0], kb_o r10 1 [.ref a10, .int 0], kb_o r11 1 [.ref a11, .int 0], kb_a G a1 16 (upd (fun _ => 0) 0 (-1)), kb_a G a2 16 (upd (fun _ => 0) 0 1), kb_a G a3 16 (upd (fun _ => 0) 0 0), kb_a G a4 16 (upd (fun _ => 0) 0 0), kb_a G a5 16 (upd (fun _ => 0) 0 0), kb_a G a6 16 (upd (fun _ => 0) 0 0)]) (q0 := 0) ⟨hx, hb, hml, hown, ht⟩ ((c_Tree_wipe1 l G tr r0 r1 r2 r3 r4 r5 r6 r7 r8 r9 r10 r11 L P a0 a1 a2 a3 a4 a5 a6 a7 a8 a9 a10 a11 (upd (fun _ => 0) 0 (-1)) (upd (fun _ => 0) 0 1) (upd (fun _ => 0) 0 0) (upd (fun _ => 0) 0 0) (upd (fun _ => 0) 0 0) (upd (fun _ => 0) 0 0)) _) (kb_gV wd_89e4deee wd_ece7ca0c wd_737eaf02 wd_ebf91e09 wd_aec3778d) ⟨rfl, hd_4ac2e733⟩ ⟨(Nat.le_of_ble_eq_true rfl), (Nat.le_of_ble_eq_true rfl)⟩ hE hP hD hS [1, 2, 3, 4, 5, 6, 7, 8, 9, 10, 11, 12, 13, 14, 15, 16, 17, 18, 19] rfl (by decide) rfl rfl rfl hl.1 rfl (Nat.le_of_ble_eq_true rfl) d_Press_clear_4 ⟨(Nat.le_of_ble_eq_true rfl), (Nat.le_of_ble_eq_true rfl)⟩) (fun uu1 H locs hw hP hD hS => ?_)
  have hP : va_P G.1 kb_cl [kb_o h 3 [.ref tp, .ref ld, .ref rd, .ref tr, .ref sp], kb_o r8 1 [.ref a8, .int 0], kb_o r9 1 [.ref a9, .int 0], kb_o r10 1 [.ref a10, .int 0], kb_o r11 1 [.ref a11, .int 0], kb_o r1 1 [.ref a1, .int 1], kb_a G a1 16 (upd (upd (fun _ => 0) 0 (-1)) 0 (-1)), kb_o r2 1 [.ref a2, .int 1], kb_a G a2 16 (upd (upd (fun _ => 0) 0 1) 0 1), kb_o r3 1 [.ref a3, .int 1], kb_a G a3 16 (upd (upd (fun _ => 0) 0 0) 0 0), kb_o r4 1 [.ref a4, .int 1], kb_a G a4 16 (upd (upd (fun _ => 0) 0 0) 0 0), kb_o tr 2 [.ref r0, .ref r1, .ref r2, .ref r3, .ref r4, .ref r5, .ref r6, .ref r7, .ref r8, .ref r9, .ref r10, .ref r11, .int 0, .int 0], kb_o r7 1 [.ref a7, .int 0], kb_o r5 1 [.ref a5, .int 1], kb_a G a5 16 (upd (upd (fun _ => 0) 0 0) 0 0), kb_o r6 1 [.ref a6, .int 1], kb_a G a6 16 (upd (upd (fun _ => 0) 0 0) 0 0), kb_o r0 1 [.ref a0, .int 0]] H := hP
  have hD : va_D A [kb_o h 3 [.ref tp, .ref ld, .ref rd, .ref tr, .ref sp], kb_o r8 1 [.ref a8, .int 0], kb_o r9 1 [.ref a9, .int 0], kb_o r10 1 [.ref a10, .int 0], kb_o r11 1 [.ref a11, .int 0], kb_o r1 1 [.ref a1, .int 1], kb_a G a1 16 (upd (upd (fun _ => 0) 0 (-1)) 0 (-1)), kb_o r2 1 [.ref a2, .int 1], kb_a G a2 16 (upd (upd (fun _ => 0) 0 1) 0 1), kb_o r3 1 [.ref a3, .int 1], kb_a G a3 16 (upd (upd (fun _ => 0) 0 0) 0 0), kb_o r4 1 [.ref a4, .int 1], kb_a G a4 16 (upd (upd (fun _ => 0) 0 0) 0 0), kb_o tr 2 [.ref r0, .ref r1, .ref r2, .ref r3, .ref r4, .ref r5, .ref r6, .ref r7, .ref r8, .ref r9, .ref r10, .ref r11, .int 0, .int 0], kb_o r7 1 [.ref a7, .int 0], kb_o r5 1 [.ref a5, .int 1], kb_a G a5 16 (upd (upd (fun _ => 0) 0 0) 0 0), kb_o r6 1 [.ref a6, .int 1], kb_a G a6 16 (upd (upd (fun _ => 0) 0 0) 0 0), kb_o r0 1 [.ref a0, .int 0]] := hD
  exact kb_retv (kb_l [], kb_f []) hx hb hr hlocks hE hP hD hS [] rfl (by decide) rfl trivial (Nat.le_of_ble_eq_true rfl) (Nat.le_of_ble_eq_true rfl) d_Press_clear_7

set_option maxHeartbeats 4000000 in
set_option maxRecDepth 100000 in
theorem c_Press_openX (l : Launch) (hst : l.stackTraces = false) (G : kb_G) (h : Nat) (tp : Nat) (ld : Nat) (rd : Nat) (tr : Nat) (sp : Nat) (ta : Nat) : kb_cx l G ⟨"TreePress", "open", "()I"⟩ prog_1_method_5_code 3 (some .int) 6 1 6 [.ref h] [kb_o h 3 [.ref tp, .ref ld, .ref rd, .ref tr, .ref sp], kb_o tp 1 [.ref ta, .int 0]] "java/lang/IllegalArgumentException" := by
  refine kb_bodyX (by decide) (Nat.le_of_ble_eq_true rfl) ?_
  intro p e s m below meth c A B hno hAw ls hl
  obtain ⟨hx, hb, hr, hml, hlocks, hin, hown, ht, hE, hP, hD, hS⟩ := B
  have hl : lv_has ls 3 [(0, .ref h)] := hl
  have hP0 := hP
  obtain ⟨H, hHe⟩ : ∃ H, H = s.heap := ⟨_, rfl⟩
  rw [← hHe] at hP
  have hS : va_S A s.heap H [] := by rw [hHe]; exact hS
  refine kb_at hHe ?_
  clear hHe
  refine lv_aload_n hx hb d_Press_open_0 rfl (lv_at hl 0 rfl) ?_
  refine va_get (D := G.1) (ci := 3) (v := .ref tp) (C := "TreePress") (T := kb_F3) (N := 5) hx hb ht kb_w3 hown hE.1 hP 0 rfl rfl 0 (by decide) (ht _ wd_667fbbc4) (fun _ h9 => h9) rfl d_Press_open_1 ?_
  refine kb_i (wc := [kb_o tp 1 [.ref ta, .int 0]]) (wr := [kb_o h 3 [.ref tp, .ref ld, .ref rd, .ref tr, .ref sp]]) hE hP hD hS [1] [0] rfl rfl (by decide) (by decide) (kb_rV (As := []) (rest := []) (wc := [kb_o tp 1 [.ref ta, .int 0]]) (q0 := 0) ⟨hx, hb, hml, hown, ht⟩ ((c_Row_length l G tp ta 0) _) (kb_gV wd_b6aba818 wd_5e08083b wd_489345cb wd_4182e433 wd_8d5193a7) ⟨rfl, hd_d85231f4⟩ ⟨(Nat.le_of_ble_eq_true rfl), (Nat.le_of_ble_eq_true rfl)⟩ hE hP hD hS [1] rfl (by decide) rfl rfl rfl hl.1 rfl (Nat.le_of_ble_eq_true rfl) d_Press_open_4 ⟨(Nat.le_of_ble_eq_true rfl), (Nat.le_of_ble_eq_true rfl)⟩) (fun rv2 uu1 H locs hw hP hD hS => ?_)
  have hP : va_P G.1 kb_cl [kb_o h 3 [.ref tp, .ref ld, .ref rd, .ref tr, .ref sp], kb_o tp 1 [.ref ta, .int 0]] H := hP
  have hD : va_D A [kb_o h 3 [.ref tp, .ref ld, .ref rd, .ref tr, .ref sp], kb_o tp 1 [.ref ta, .int 0]] := hD
  refine kb_top (y := 0) (show rv2 = 0 from hw) ?_
  refine lv_istore_n (lv' := [(1, .int 0), (0, .ref h)]) hx hb d_Press_open_7 rfl hl (by decide) rfl (fun ls hl => ?_)
  refine lv_aload_n hx hb d_Press_open_8 rfl (lv_at hl 1 rfl) ?_
  refine va_get (D := G.1) (ci := 3) (v := .ref tp) (C := "TreePress") (T := kb_F3) (N := 5) hx hb ht kb_w3 hown hE.1 hP 0 rfl rfl 0 (by decide) (ht _ wd_667fbbc4) (fun _ h9 => h9) rfl d_Press_open_9 ?_
  refine lv_iconst (v := 0) hx hb d_Press_open_12 (by decide) ?_
  refine lv_iload_n hx hb d_Press_open_13 rfl (lv_at hl 0 rfl) ?_
  refine kb_i (wc := [kb_o tp 1 [.ref ta, .int 0]]) (wr := [kb_o h 3 [.ref tp, .ref ld, .ref rd, .ref tr, .ref sp]]) hE hP hD hS [1] [0] rfl rfl (by decide) (by decide) (kb_rV (As := [.int 0, .int 0]) (rest := []) (wc := [kb_o tp 1 [.ref ta, .int 0]]) (q0 := 0) ⟨hx, hb, hml, hown, ht⟩ ((c_Row_hasName_no l G tp ta 0 0 0 (by decide)) _) (kb_gV wd_7ead187f wd_9b3ab837 wd_de0cb18c wd_4182e433 wd_b70b5cc0) ⟨rfl, hd_fc8c0803⟩ ⟨(Nat.le_of_ble_eq_true rfl), (Nat.le_of_ble_eq_true rfl)⟩ hE hP hD hS [1] rfl (by decide) rfl rfl rfl hl.1 rfl (Nat.le_of_ble_eq_true rfl) d_Press_open_14 ⟨(Nat.le_of_ble_eq_true rfl), (Nat.le_of_ble_eq_true rfl)⟩) (fun rv4 uu3 H locs hw hP hD hS => ?_)
  have hP : va_P G.1 kb_cl [kb_o h 3 [.ref tp, .ref ld, .ref rd, .ref tr, .ref sp], kb_o tp 1 [.ref ta, .int 0]] H := hP
  have hD : va_D A [kb_o h 3 [.ref tp, .ref ld, .ref rd, .ref tr, .ref sp], kb_o tp 1 [.ref ta, .int 0]] := hD
  refine kb_top (y := 0) (show rv4 = 0 from hw) ?_
  refine lv_if_ne (tgt := 30) hx hb d_Press_open_17 (by decide) (fun c9 => absurd (by decide) c9) (fun c9 => ?_)
  exact kb_throw (E := "java/lang/IllegalArgumentException") (names := kb_names) (wi := [kb_o h 3 [.ref tp, .ref ld, .ref rd, .ref tr, .ref sp], kb_o tp 1 [.ref ta, .int 0]]) hx hb hst hown ht hE (by decide +kernel) (by decide +kernel) wd_c02bd52e wd_2cf38b0f kb_own_IllegalArgument kb_ownb_IllegalArgument (by decide +kernel) (List.mem_of_getElem? (i := 2) rfl) hP0 hAw hS (hl.1.trans hml.symm) hno hlocks d_Press_open_20 d_Press_open_23 d_Press_open_24 d_Press_open_26 d_Press_open_29 (Nat.le_of_ble_eq_true rfl) (Nat.le_of_ble_eq_true rfl) (Nat.le_of_ble_eq_true rfl) (Nat.le_of_ble_eq_true rfl) (Nat.le_of_ble_eq_true rfl) (Nat.le_of_ble_eq_true rfl)

set_option maxHeartbeats 4000000 in
set_option maxRecDepth 100000 in
theorem c_Press_propertyX (l : Launch) (hst : l.stackTraces = false) (G : kb_G) (h : Nat) (tp : Nat) (ld : Nat) (rd : Nat) (tr : Nat) (sp : Nat) (ta : Nat) (k : Int32) : kb_cx l G ⟨"TreePress", "property", "(I)I"⟩ prog_1_method_6_code 4 (some .int) 6 1 6 [.ref h, .int k] [kb_o h 3 [.ref tp, .ref ld, .ref rd, .ref tr, .ref sp], kb_o tp 1 [.ref ta, .int 0]] "java/lang/IllegalArgumentException" := by
  refine kb_bodyX (by decide) (Nat.le_of_ble_eq_true rfl) ?_
  intro p e s m below meth c A B hno hAw ls hl
  obtain ⟨hx, hb, hr, hml, hlocks, hin, hown, ht, hE, hP, hD, hS⟩ := B
  have hl : lv_has ls 4 [(0, .ref h), (1, .int k)] := hl
  have hP0 := hP
  obtain ⟨H, hHe⟩ : ∃ H, H = s.heap := ⟨_, rfl⟩
  rw [← hHe] at hP
  have hS : va_S A s.heap H [] := by rw [hHe]; exact hS
  refine kb_at hHe ?_
  clear hHe
  refine lv_aload_n hx hb d_Press_property_0 rfl (lv_at hl 0 rfl) ?_
  refine va_get (D := G.1) (ci := 3) (v := .ref tp) (C := "TreePress") (T := kb_F3) (N := 5) hx hb ht kb_w3 hown hE.1 hP 0 rfl rfl 0 (by decide) (ht _ wd_667fbbc4) (fun _ h9 => h9) rfl d_Press_property_1 ?_
  refine kb_i (wc := [kb_o tp 1 [.ref ta, .int 0]]) (wr := [kb_o h 3 [.ref tp, .ref ld, .ref rd, .ref tr, .ref sp]]) hE hP hD hS [1] [0] rfl rfl (by decide) (by decide) (kb_rV (As := []) (rest := []) (wc := [kb_o tp 1 [.ref ta, .int 0]]) (q0 := 0) ⟨hx, hb, hml, hown, ht⟩ ((c_Row_length l G tp ta 0) _) (kb_gV wd_b6aba818 wd_5e08083b wd_489345cb wd_4182e433 wd_8d5193a7) ⟨rfl, hd_d85231f4⟩ ⟨(Nat.le_of_ble_eq_true rfl), (Nat.le_of_ble_eq_true rfl)⟩ hE hP hD hS [1] rfl (by decide) rfl rfl rfl hl.1 rfl (Nat.le_of_ble_eq_true rfl) d_Press_property_4 ⟨(Nat.le_of_ble_eq_true rfl), (Nat.le_of_ble_eq_true rfl)⟩) (fun rv2 uu1 H locs hw hP hD hS => ?_)
  have hP : va_P G.1 kb_cl [kb_o h 3 [.ref tp, .ref ld, .ref rd, .ref tr, .ref sp], kb_o tp 1 [.ref ta, .int 0]] H := hP
  have hD : va_D A [kb_o h 3 [.ref tp, .ref ld, .ref rd, .ref tr, .ref sp], kb_o tp 1 [.ref ta, .int 0]] := hD
  refine kb_top (y := 0) (show rv2 = 0 from hw) ?_
  refine lv_istore_n (lv' := [(2, .int 0), (0, .ref h), (1, .int k)]) hx hb d_Press_property_7 rfl hl (by decide) rfl (fun ls hl => ?_)
  refine lv_iload_n hx hb d_Press_property_8 rfl (lv_at hl 2 rfl) ?_
  refine lv_if_lt (tgt := 29) hx hb d_Press_property_9 (by decide) (fun cb3 => ?_) (fun cb3 => ?_)
  · exact kb_throw (E := "java/lang/IllegalArgumentException") (names := kb_names) (wi := [kb_o h 3 [.ref tp, .ref ld, .ref rd, .ref tr, .ref sp], kb_o tp 1 [.ref ta, .int 0]]) hx hb hst hown ht hE (by decide +kernel) (by decide +kernel) wd_c02bd52e wd_2cf38b0f kb_own_IllegalArgument kb_ownb_IllegalArgument (by decide +kernel) (List.mem_of_getElem? (i := 4) rfl) hP0 hAw hS (hl.1.trans hml.symm) hno hlocks d_Press_property_29 d_Press_property_32 d_Press_property_33 d_Press_property_35 d_Press_property_38 (Nat.le_of_ble_eq_true rfl) (Nat.le_of_ble_eq_true rfl) (Nat.le_of_ble_eq_true rfl) (Nat.le_of_ble_eq_true rfl) (Nat.le_of_ble_eq_true rfl) (Nat.le_of_ble_eq_true rfl)
  · refine lv_iload_n hx hb d_Press_property_12 rfl (lv_at hl 2 rfl) ?_
    refine lv_iload_n hx hb d_Press_property_13 rfl (lv_at hl 0 rfl) ?_
    refine lv_icmp_gt (tgt := 29) hx hb d_Press_property_14 (by decide) (fun cb4 => ?_) (fun cb4 => ?_)
    · exact kb_throw (E := "java/lang/IllegalArgumentException") (names := kb_names) (wi := [kb_o h 3 [.ref tp, .ref ld, .ref rd, .ref tr, .ref sp], kb_o tp 1 [.ref ta, .int 0]]) hx hb hst hown ht hE (by decide +kernel) (by decide +kernel) wd_c02bd52e wd_2cf38b0f kb_own_IllegalArgument kb_ownb_IllegalArgument (by decide +kernel) (List.mem_of_getElem? (i := 4) rfl) hP0 hAw hS (hl.1.trans hml.symm) hno hlocks d_Press_property_29 d_Press_property_32 d_Press_property_33 d_Press_property_35 d_Press_property_38 (Nat.le_of_ble_eq_true rfl) (Nat.le_of_ble_eq_true rfl) (Nat.le_of_ble_eq_true rfl) (Nat.le_of_ble_eq_true rfl) (Nat.le_of_ble_eq_true rfl) (Nat.le_of_ble_eq_true rfl)
    · refine lv_aload_n hx hb d_Press_property_17 rfl (lv_at hl 1 rfl) ?_
      refine va_get (D := G.1) (ci := 3) (v := .ref tp) (C := "TreePress") (T := kb_F3) (N := 5) hx hb ht kb_w3 hown hE.1 hP 0 rfl rfl 0 (by decide) (ht _ wd_667fbbc4) (fun _ h9 => h9) rfl d_Press_property_18 ?_
      refine lv_iconst (v := 0) hx hb d_Press_property_21 (by decide) ?_
      refine lv_iload_n hx hb d_Press_property_22 rfl (lv_at hl 2 rfl) ?_
      refine kb_i (wc := [kb_o tp 1 [.ref ta, .int 0]]) (wr := [kb_o h 3 [.ref tp, .ref ld, .ref rd, .ref tr, .ref sp]]) hE hP hD hS [1] [0] rfl rfl (by decide) (by decide) (kb_rV (As := [.int 0, .int k]) (rest := []) (wc := [kb_o tp 1 [.ref ta, .int 0]]) (q0 := 0) ⟨hx, hb, hml, hown, ht⟩ ((c_Row_hasName_no l G tp ta 0 0 k (Decidable.byContradiction (fun z8 => (False.elim (by have e0 : ¬ (k : Int32).toInt < (0 : Int32).toInt := fun z9 => cb3 (Int32.lt_iff_toInt_lt.mpr z9); have e1 : ¬ (0 : Int32).toInt < (k : Int32).toInt := fun z9 => cb4 (Int32.lt_iff_toInt_lt.mpr z9); have e2 : ¬ (k : Int32).toInt < (1 : Int32).toInt := fun z9 => z8 (Int32.lt_iff_toInt_lt.mpr z9); have k0 : (0 : Int32).toInt = 0 := rfl; have k1 : (1 : Int32).toInt = 1 := rfl; omega))))) _) (kb_gV wd_7ead187f wd_9b3ab837 wd_de0cb18c wd_4182e433 wd_b70b5cc0) ⟨rfl, hd_fc8c0803⟩ ⟨(Nat.le_of_ble_eq_true rfl), (Nat.le_of_ble_eq_true rfl)⟩ hE hP hD hS [1] rfl (by decide) rfl rfl rfl hl.1 rfl (Nat.le_of_ble_eq_true rfl) d_Press_property_23 ⟨(Nat.le_of_ble_eq_true rfl), (Nat.le_of_ble_eq_true rfl)⟩) (fun rv6 uu5 H locs hw hP hD hS => ?_)
      have hP : va_P G.1 kb_cl [kb_o h 3 [.ref tp, .ref ld, .ref rd, .ref tr, .ref sp], kb_o tp 1 [.ref ta, .int 0]] H := hP
      have hD : va_D A [kb_o h 3 [.ref tp, .ref ld, .ref rd, .ref tr, .ref sp], kb_o tp 1 [.ref ta, .int 0]] := hD
      refine kb_top (y := 0) (show rv6 = 0 from hw) ?_
      refine lv_if_ne (tgt := 39) hx hb d_Press_property_26 (by decide) (fun c9 => absurd (by decide) c9) (fun c9 => ?_)
      exact kb_throw (E := "java/lang/IllegalArgumentException") (names := kb_names) (wi := [kb_o h 3 [.ref tp, .ref ld, .ref rd, .ref tr, .ref sp], kb_o tp 1 [.ref ta, .int 0]]) hx hb hst hown ht hE (by decide +kernel) (by decide +kernel) wd_c02bd52e wd_2cf38b0f kb_own_IllegalArgument kb_ownb_IllegalArgument (by decide +kernel) (List.mem_of_getElem? (i := 4) rfl) hP0 hAw hS (hl.1.trans hml.symm) hno hlocks d_Press_property_29 d_Press_property_32 d_Press_property_33 d_Press_property_35 d_Press_property_38 (Nat.le_of_ble_eq_true rfl) (Nat.le_of_ble_eq_true rfl) (Nat.le_of_ble_eq_true rfl) (Nat.le_of_ble_eq_true rfl) (Nat.le_of_ble_eq_true rfl) (Nat.le_of_ble_eq_true rfl)

set_option maxHeartbeats 4000000 in
set_option maxRecDepth 100000 in
theorem c_Press_closeX (l : Launch) (hst : l.stackTraces = false) (G : kb_G) (h : Nat) (tp : Nat) (ld : Nat) (rd : Nat) (tr : Nat) (sp : Nat) (r0 : Nat) (r1 : Nat) (r2 : Nat) (r3 : Nat) (r4 : Nat) (r5 : Nat) (r6 : Nat) (r7 : Nat) (r8 : Nat) (r9 : Nat) (r10 : Nat) (r11 : Nat) (L : Int32) : kb_cx l G ⟨"TreePress", "close", "()I"⟩ prog_1_method_7_code 1 (some .int) 6 1 6 [.ref h] [kb_o h 3 [.ref tp, .ref ld, .ref rd, .ref tr, .ref sp], kb_o tr 2 [.ref r0, .ref r1, .ref r2, .ref r3, .ref r4, .ref r5, .ref r6, .ref r7, .ref r8, .ref r9, .ref r10, .ref r11, .int L, .int 0]] "java/lang/IllegalArgumentException" := by
  refine kb_bodyX (by decide) (Nat.le_of_ble_eq_true rfl) ?_
  intro p e s m below meth c A B hno hAw ls hl
  obtain ⟨hx, hb, hr, hml, hlocks, hin, hown, ht, hE, hP, hD, hS⟩ := B
  have hl : lv_has ls 1 [(0, .ref h)] := hl
  have hP0 := hP
  obtain ⟨H, hHe⟩ : ∃ H, H = s.heap := ⟨_, rfl⟩
  rw [← hHe] at hP
  have hS : va_S A s.heap H [] := by rw [hHe]; exact hS
  refine kb_at hHe ?_
  clear hHe
  refine lv_aload_n hx hb d_Press_close_0 rfl (lv_at hl 0 rfl) ?_
  refine va_get (D := G.1) (ci := 3) (v := .ref tr) (C := "TreePress") (T := kb_F3) (N := 5) hx hb ht kb_w3 hown hE.1 hP 0 rfl rfl 3 (by decide) (ht _ wd_29809c8a) (fun _ h9 => h9) rfl d_Press_close_1 ?_
  refine kb_i (wc := [kb_o tr 2 [.ref r0, .ref r1, .ref r2, .ref r3, .ref r4, .ref r5, .ref r6, .ref r7, .ref r8, .ref r9, .ref r10, .ref r11, .int L, .int 0]]) (wr := [kb_o h 3 [.ref tp, .ref ld, .ref rd, .ref tr, .ref sp]]) hE hP hD hS [1] [0] rfl rfl (by decide) (by decide) (kb_rV (As := []) (rest := []) (wc := [kb_o tr 2 [.ref r0, .ref r1, .ref r2, .ref r3, .ref r4, .ref r5, .ref r6, .ref r7, .ref r8, .ref r9, .ref r10, .ref r11, .int L, .int 0]]) (q0 := 0) ⟨hx, hb, hml, hown, ht⟩ ((c_Tree_placeIsFirst l G tr r0 r1 r2 r3 r4 r5 r6 r7 r8 r9 r10 r11 L) _) (kb_gV wd_00104652 wd_07d8eb28 wd_47ccf0f8 wd_ebf91e09 wd_032c31a5) ⟨rfl, hd_0c218c32⟩ ⟨(Nat.le_of_ble_eq_true rfl), (Nat.le_of_ble_eq_true rfl)⟩ hE hP hD hS [1] rfl (by decide) rfl rfl rfl hl.1 rfl (Nat.le_of_ble_eq_true rfl) d_Press_close_4 ⟨(Nat.le_of_ble_eq_true rfl), (Nat.le_of_ble_eq_true rfl)⟩) (fun rv2 uu1 H locs hw hP hD hS => ?_)
  have hP : va_P G.1 kb_cl [kb_o h 3 [.ref tp, .ref ld, .ref rd, .ref tr, .ref sp], kb_o tr 2 [.ref r0, .ref r1, .ref r2, .ref r3, .ref r4, .ref r5, .ref r6, .ref r7, .ref r8, .ref r9, .ref r10, .ref r11, .int L, .int 0]] H := hP
  have hD : va_D A [kb_o h 3 [.ref tp, .ref ld, .ref rd, .ref tr, .ref sp], kb_o tr 2 [.ref r0, .ref r1, .ref r2, .ref r3, .ref r4, .ref r5, .ref r6, .ref r7, .ref r8, .ref r9, .ref r10, .ref r11, .int L, .int 0]] := hD
  refine kb_top (y := 1) (show rv2 = 1 from hw) ?_
  refine lv_if_eq (tgt := 20) hx hb d_Press_close_7 (by decide) (fun c9 => absurd c9 (by decide)) (fun c9 => ?_)
  exact kb_throw (E := "java/lang/IllegalArgumentException") (names := kb_names) (wi := [kb_o h 3 [.ref tp, .ref ld, .ref rd, .ref tr, .ref sp], kb_o tr 2 [.ref r0, .ref r1, .ref r2, .ref r3, .ref r4, .ref r5, .ref r6, .ref r7, .ref r8, .ref r9, .ref r10, .ref r11, .int L, .int 0]]) hx hb hst hown ht hE (by decide +kernel) (by decide +kernel) wd_c02bd52e wd_2cf38b0f kb_own_IllegalArgument kb_ownb_IllegalArgument (by decide +kernel) (List.mem_of_getElem? (i := 6) rfl) hP0 hAw hS (hl.1.trans hml.symm) hno hlocks d_Press_close_10 d_Press_close_13 d_Press_close_14 d_Press_close_16 d_Press_close_19 (Nat.le_of_ble_eq_true rfl) (Nat.le_of_ble_eq_true rfl) (Nat.le_of_ble_eq_true rfl) (Nat.le_of_ble_eq_true rfl) (Nat.le_of_ble_eq_true rfl) (Nat.le_of_ble_eq_true rfl)

set_option maxHeartbeats 4000000 in
set_option maxRecDepth 100000 in
theorem c_Press_lay (l : Launch) (G : kb_G) (h : Nat) (tp : Nat) (ld : Nat) (rd : Nat) (tr : Nat) (sp : Nat) (r0 : Nat) (r1 : Nat) (r2 : Nat) (r3 : Nat) (r4 : Nat) (r5 : Nat) (r6 : Nat) (r7 : Nat) (r8 : Nat) (r9 : Nat) (r10 : Nat) (r11 : Nat) (L : Int32) (P : Int32) (a1 : Nat) (a2 : Nat) (a3 : Nat) (a4 : Nat) (a5 : Nat) (a6 : Nat) (a7 : Nat) (b : Nat) (f : Nat → Int32) : kb_ci l G ⟨"TreePress", "lay", "()I"⟩ prog_1_method_8_code 1 (some .int) 7 3 224 [.ref h] [kb_o h 3 [.ref tp, .ref ld, .ref rd, .ref tr, .ref sp], kb_o tr 2 [.ref r0, .ref r1, .ref r2, .ref r3, .ref r4, .ref r5, .ref r6, .ref r7, .ref r8, .ref r9, .ref r10, .ref r11, .int L, .int P], kb_o r1 1 [.ref a1, .int 1], kb_o r2 1 [.ref a2, .int 1], kb_o r3 1 [.ref a3, .int 1], kb_o r4 1 [.ref a4, .int 1], kb_o r5 1 [.ref a5, .int 1], kb_o r6 1 [.ref a6, .int 1], kb_o r7 1 [.ref a7, .int 0], kb_a G a2 16 (upd (fun _ => 0) 0 1), kb_a G a3 16 (upd (fun _ => 0) 0 0), kb_a G a4 16 (upd (fun _ => 0) 0 0), kb_a G a5 16 (upd (fun _ => 0) 0 0), kb_a G a6 16 (upd (fun _ => 0) 0 0), kb_o ld 1 [.ref b, .int 0], kb_a G b 16 f] (fun r u => r = 72) (fun u => []) := by
  intro sz
  refine kb_body (QQ := fun A => kb_Qi G A (fun r u => r = 72) (fun u => [])) (by decide) (Nat.le_of_ble_eq_true rfl) ?_
  intro p e s m below meth c A B ls hl
  obtain ⟨hx, hb, hr, hml, hlocks, hin, hown, ht, hE, hP, hD, hS⟩ := B
  have hl : lv_has ls 1 [(0, .ref h)] := hl
  have hP0 := hP
  obtain ⟨H, hHe⟩ : ∃ H, H = s.heap := ⟨_, rfl⟩
  rw [← hHe] at hP
  have hS : va_S A s.heap H [] := by rw [hHe]; exact hS
  refine kb_at hHe ?_
  clear hHe
  refine lv_aload_n hx hb d_Press_lay_0 rfl (lv_at hl 0 rfl) ?_
  refine va_get (D := G.1) (ci := 3) (v := .ref tr) (C := "TreePress") (T := kb_F3) (N := 5) hx hb ht kb_w3 hown hE.1 hP 0 rfl rfl 3 (by decide) (ht _ wd_29809c8a) (fun _ h9 => h9) rfl d_Press_lay_1 ?_
  refine lv_aload_n hx hb d_Press_lay_4 rfl (lv_at hl 0 rfl) ?_
  refine va_get (D := G.1) (ci := 3) (v := .ref ld) (C := "TreePress") (T := kb_F3) (N := 5) hx hb ht kb_w3 hown hE.1 hP 0 rfl rfl 1 (by decide) (ht _ wd_f079d5f7) (fun _ h9 => h9) rfl d_Press_lay_5 ?_
  refine kb_v (wc := [kb_o tr 2 [.ref r0, .ref r1, .ref r2, .ref r3, .ref r4, .ref r5, .ref r6, .ref r7, .ref r8, .ref r9, .ref r10, .ref r11, .int L, .int P], kb_o r1 1 [.ref a1, .int 1], kb_o r2 1 [.ref a2, .int 1], kb_o r3 1 [.ref a3, .int 1], kb_o r4 1 [.ref a4, .int 1], kb_o r5 1 [.ref a5, .int 1], kb_o r6 1 [.ref a6, .int 1], kb_o r7 1 [.ref a7, .int 0], kb_a G a2 16 (upd (fun _ => 0) 0 1), kb_a G a3 16 (upd (fun _ => 0) 0 0), kb_a G a4 16 (upd (fun _ => 0) 0 0), kb_a G a5 16 (upd (fun _ => 0) 0 0), kb_a G a6 16 (upd (fun _ => 0) 0 0), kb_o ld 1 [.ref b, .int 0], kb_a G b 16 f]) (wr := [kb_o h 3 [.ref tp, .ref ld, .ref rd, .ref tr, .ref sp]]) hE hP hD hS [1, 2, 3, 4, 5, 6, 7, 8, 9, 10, 11, 12, 13, 14, 15] [0] rfl rfl (by decide) (by decide) (kb_rV (As := [.ref ld]) (rest := []) (wc := [kb_o tr 2 [.ref r0, .ref r1, .ref r2, .ref r3, .ref r4, .ref r5, .ref r6, .ref r7, .ref r8, .ref r9, .ref r10, .ref r11, .int L, .int P], kb_o r1 1 [.ref a1, .int 1], kb_o r2 1 [.ref a2, .int 1], kb_o r3 1 [.ref a3, .int 1], kb_o r4 1 [.ref a4, .int 1], kb_o r5 1 [.ref a5, .int 1], kb_o r6 1 [.ref a6, .int 1], kb_o r7 1 [.ref a7, .int 0], kb_a G a2 16 (upd (fun _ => 0) 0 1), kb_a G a3 16 (upd (fun _ => 0) 0 0), kb_a G a4 16 (upd (fun _ => 0) 0 0), kb_a G a5 16 (upd (fun _ => 0) 0 0), kb_a G a6 16 (upd (fun _ => 0) 0 0), kb_o ld 1 [.ref b, .int 0], kb_a G b 16 f]) (q0 := 0) ⟨hx, hb, hml, hown, ht⟩ ((c_Tree_layInto l G tr r0 r1 r2 r3 r4 r5 r6 r7 r8 r9 r10 r11 L P a1 a2 a3 a4 a5 a6 a7 ld b f) _) (kb_gV wd_4bed6c35 wd_04c55ec2 wd_f9b29598 wd_ebf91e09 wd_f0b1e0c4) ⟨rfl, hd_3ffc8199⟩ ⟨(Nat.le_of_ble_eq_true rfl), (Nat.le_of_ble_eq_true rfl)⟩ hE hP hD hS [1, 2, 3, 4, 5, 6, 7, 8, 9, 10, 11, 12, 13, 14, 15] rfl (by decide) rfl rfl rfl hl.1 rfl (Nat.le_of_ble_eq_true rfl) d_Press_lay_8 ⟨(Nat.le_of_ble_eq_true rfl), (Nat.le_of_ble_eq_true rfl)⟩) (fun uu1 H locs hw hP hD hS => ?_)
  have hP : va_P G.1 kb_cl [kb_o h 3 [.ref tp, .ref ld, .ref rd, .ref tr, .ref sp], kb_o ld 1 [.ref (uu1.1 0), .int 72]] H := hP
  have hD : va_D A [kb_o h 3 [.ref tp, .ref ld, .ref rd, .ref tr, .ref sp], kb_o ld 1 [.ref (uu1.1 0), .int 72]] := hD
  refine lv_aload_n hx hb d_Press_lay_11 rfl (lv_at hl 0 rfl) ?_
  refine va_get (D := G.1) (ci := 3) (v := .ref ld) (C := "TreePress") (T := kb_F3) (N := 5) hx hb ht kb_w3 hown hE.1 hP 0 rfl rfl 1 (by decide) (ht _ wd_f079d5f7) (fun _ h9 => h9) rfl d_Press_lay_12 ?_
  refine kb_i (wc := [kb_o ld 1 [.ref (uu1.1 0), .int 72]]) (wr := [kb_o h 3 [.ref tp, .ref ld, .ref rd, .ref tr, .ref sp]]) hE hP hD hS [1] [0] rfl rfl (by decide) (by decide) (kb_rV (As := []) (rest := []) (wc := [kb_o ld 1 [.ref (uu1.1 0), .int 72]]) (q0 := 0) ⟨hx, hb, hml, hown, ht⟩ ((c_Row_length l G ld (uu1.1 0) 72) _) (kb_gV wd_b6aba818 wd_5e08083b wd_489345cb wd_4182e433 wd_8d5193a7) ⟨rfl, hd_d85231f4⟩ ⟨(Nat.le_of_ble_eq_true rfl), (Nat.le_of_ble_eq_true rfl)⟩ hE hP hD hS [1] rfl (by decide) rfl rfl rfl hl.1 rfl (Nat.le_of_ble_eq_true rfl) d_Press_lay_15 ⟨(Nat.le_of_ble_eq_true rfl), (Nat.le_of_ble_eq_true rfl)⟩) (fun rv4 uu3 H locs hw hP hD hS => ?_)
  have hP : va_P G.1 kb_cl [kb_o h 3 [.ref tp, .ref ld, .ref rd, .ref tr, .ref sp], kb_o ld 1 [.ref (uu1.1 0), .int 72]] H := hP
  have hD : va_D A [kb_o h 3 [.ref tp, .ref ld, .ref rd, .ref tr, .ref sp], kb_o ld 1 [.ref (uu1.1 0), .int 72]] := hD
  refine kb_top (y := 72) (show rv4 = 72 from hw) ?_
  exact kb_reti (kb_l [], kb_f []) hx hb hr hlocks hE hP hD hS [] rfl (by decide) rfl rfl (Nat.le_of_ble_eq_true rfl) (Nat.le_of_ble_eq_true rfl) d_Press_lay_18

set_option maxHeartbeats 4000000 in
set_option maxRecDepth 100000 in
theorem c_Press_laidX (l : Launch) (hst : l.stackTraces = false) (G : kb_G) (h : Nat) (tp : Nat) (ld : Nat) (rd : Nat) (tr : Nat) (sp : Nat) (b : Nat) (i : Int32) : kb_cx l G ⟨"TreePress", "laid", "(I)I"⟩ prog_1_method_9_code 2 (some .int) 6 1 6 [.ref h, .int i] [kb_o h 3 [.ref tp, .ref ld, .ref rd, .ref tr, .ref sp], kb_o ld 1 [.ref b, .int 0]] "java/lang/IndexOutOfBoundsException" := by
  refine kb_bodyX (by decide) (Nat.le_of_ble_eq_true rfl) ?_
  intro p e s m below meth c A B hno hAw ls hl
  obtain ⟨hx, hb, hr, hml, hlocks, hin, hown, ht, hE, hP, hD, hS⟩ := B
  have hl : lv_has ls 2 [(0, .ref h), (1, .int i)] := hl
  have hP0 := hP
  obtain ⟨H, hHe⟩ : ∃ H, H = s.heap := ⟨_, rfl⟩
  rw [← hHe] at hP
  have hS : va_S A s.heap H [] := by rw [hHe]; exact hS
  refine kb_at hHe ?_
  clear hHe
  refine lv_iload_n hx hb d_Press_laid_0 rfl (lv_at hl 1 rfl) ?_
  refine lv_if_lt (tgt := 15) hx hb d_Press_laid_1 (by decide) (fun cb1 => ?_) (fun cb1 => ?_)
  · exact kb_throw (E := "java/lang/IndexOutOfBoundsException") (names := kb_names) (wi := [kb_o h 3 [.ref tp, .ref ld, .ref rd, .ref tr, .ref sp], kb_o ld 1 [.ref b, .int 0]]) hx hb hst hown ht hE (by decide +kernel) (by decide +kernel) wd_6ce1761d wd_37a516df kb_own_IndexOutOfBounds kb_ownb_IndexOutOfBounds (by decide +kernel) (List.mem_of_getElem? (i := 7) rfl) hP0 hAw hS (hl.1.trans hml.symm) hno hlocks d_Press_laid_15 d_Press_laid_18 d_Press_laid_19 d_Press_laid_21 d_Press_laid_24 (Nat.le_of_ble_eq_true rfl) (Nat.le_of_ble_eq_true rfl) (Nat.le_of_ble_eq_true rfl) (Nat.le_of_ble_eq_true rfl) (Nat.le_of_ble_eq_true rfl) (Nat.le_of_ble_eq_true rfl)
  · refine lv_iload_n hx hb d_Press_laid_4 rfl (lv_at hl 1 rfl) ?_
    refine lv_aload_n hx hb d_Press_laid_5 rfl (lv_at hl 0 rfl) ?_
    refine va_get (D := G.1) (ci := 3) (v := .ref ld) (C := "TreePress") (T := kb_F3) (N := 5) hx hb ht kb_w3 hown hE.1 hP 0 rfl rfl 1 (by decide) (ht _ wd_f079d5f7) (fun _ h9 => h9) rfl d_Press_laid_6 ?_
    refine kb_i (wc := [kb_o ld 1 [.ref b, .int 0]]) (wr := [kb_o h 3 [.ref tp, .ref ld, .ref rd, .ref tr, .ref sp]]) hE hP hD hS [1] [0] rfl rfl (by decide) (by decide) (kb_rV (As := []) (rest := [.int i]) (wc := [kb_o ld 1 [.ref b, .int 0]]) (q0 := 0) ⟨hx, hb, hml, hown, ht⟩ ((c_Row_length l G ld b 0) _) (kb_gV wd_b6aba818 wd_5e08083b wd_489345cb wd_4182e433 wd_8d5193a7) ⟨rfl, hd_d85231f4⟩ ⟨(Nat.le_of_ble_eq_true rfl), (Nat.le_of_ble_eq_true rfl)⟩ hE hP hD hS [1] rfl (by decide) rfl rfl rfl hl.1 rfl (Nat.le_of_ble_eq_true rfl) d_Press_laid_9 ⟨(Nat.le_of_ble_eq_true rfl), (Nat.le_of_ble_eq_true rfl)⟩) (fun rv3 uu2 H locs hw hP hD hS => ?_)
    have hP : va_P G.1 kb_cl [kb_o h 3 [.ref tp, .ref ld, .ref rd, .ref tr, .ref sp], kb_o ld 1 [.ref b, .int 0]] H := hP
    have hD : va_D A [kb_o h 3 [.ref tp, .ref ld, .ref rd, .ref tr, .ref sp], kb_o ld 1 [.ref b, .int 0]] := hD
    refine kb_top (y := 0) (show rv3 = 0 from hw) ?_
    refine lv_icmp_lt (tgt := 25) hx hb d_Press_laid_12 (by decide) (fun c9 => False.elim (by have e0 : ¬ (i : Int32).toInt < (0 : Int32).toInt := fun z9 => cb1 (Int32.lt_iff_toInt_lt.mpr z9); have e1 : (i : Int32).toInt < (0 : Int32).toInt := Int32.lt_iff_toInt_lt.mp c9; have k0 : (0 : Int32).toInt = 0 := rfl; omega)) (fun c9 => ?_)
    exact kb_throw (E := "java/lang/IndexOutOfBoundsException") (names := kb_names) (wi := [kb_o h 3 [.ref tp, .ref ld, .ref rd, .ref tr, .ref sp], kb_o ld 1 [.ref b, .int 0]]) hx hb hst hown ht hE (by decide +kernel) (by decide +kernel) wd_6ce1761d wd_37a516df kb_own_IndexOutOfBounds kb_ownb_IndexOutOfBounds (by decide +kernel) (List.mem_of_getElem? (i := 7) rfl) hP0 hAw hS (hl.1.trans hml.symm) hno hlocks d_Press_laid_15 d_Press_laid_18 d_Press_laid_19 d_Press_laid_21 d_Press_laid_24 (Nat.le_of_ble_eq_true rfl) (Nat.le_of_ble_eq_true rfl) (Nat.le_of_ble_eq_true rfl) (Nat.le_of_ble_eq_true rfl) (Nat.le_of_ble_eq_true rfl) (Nat.le_of_ble_eq_true rfl)

set_option maxHeartbeats 4000000 in
set_option maxRecDepth 100000 in
theorem c_Press_read (l : Launch) (G : kb_G) (h : Nat) (tp : Nat) (ld : Nat) (rd : Nat) (tr : Nat) (sp : Nat) (ta : Nat) (r0 : Nat) (r1 : Nat) (r2 : Nat) (r3 : Nat) (r4 : Nat) (r5 : Nat) (r6 : Nat) (r7 : Nat) (r8 : Nat) (r9 : Nat) (r10 : Nat) (r11 : Nat) (L : Int32) (P : Int32) (i0 : Int32) (i1 : Int32) (i2 : Int32) (i3 : Int32) : kb_ci l G ⟨"TreePress", "read", "()I"⟩ prog_1_method_10_code 2 (some .int) 6 0 0 [.ref h] [kb_o h 3 [.ref tp, .ref ld, .ref rd, .ref tr, .ref sp], kb_o tp 1 [.ref ta, .int 0], kb_o rd 0 [.int i0, .int i1, .int i2, .int i3], kb_o tr 2 [.ref r0, .ref r1, .ref r2, .ref r3, .ref r4, .ref r5, .ref r6, .ref r7, .ref r8, .ref r9, .ref r10, .ref r11, .int L, .int P]] (fun r u => r = 0) (fun u => []) := by
  intro sz
  refine kb_body (QQ := fun A => kb_Qi G A (fun r u => r = 0) (fun u => [])) (by decide) (Nat.le_of_ble_eq_true rfl) ?_
  intro p e s m below meth c A B ls hl
  obtain ⟨hx, hb, hr, hml, hlocks, hin, hown, ht, hE, hP, hD, hS⟩ := B
  have hl : lv_has ls 2 [(0, .ref h)] := hl
  have hP0 := hP
  obtain ⟨H, hHe⟩ : ∃ H, H = s.heap := ⟨_, rfl⟩
  rw [← hHe] at hP
  have hS : va_S A s.heap H [] := by rw [hHe]; exact hS
  refine kb_at hHe ?_
  clear hHe
  refine lv_aload_n hx hb d_Press_read_0 rfl (lv_at hl 0 rfl) ?_
  refine va_get (D := G.1) (ci := 3) (v := .ref rd) (C := "TreePress") (T := kb_F3) (N := 5) hx hb ht kb_w3 hown hE.1 hP 0 rfl rfl 2 (by decide) (ht _ wd_911c2fc6) (fun _ h9 => h9) rfl d_Press_read_1 ?_
  refine lv_aload_n hx hb d_Press_read_4 rfl (lv_at hl 0 rfl) ?_
  refine va_get (D := G.1) (ci := 3) (v := .ref tp) (C := "TreePress") (T := kb_F3) (N := 5) hx hb ht kb_w3 hown hE.1 hP 0 rfl rfl 0 (by decide) (ht _ wd_667fbbc4) (fun _ h9 => h9) rfl d_Press_read_5 ?_
  refine kb_i (wc := [kb_o rd 0 [.int i0, .int i1, .int i2, .int i3], kb_o tp 1 [.ref ta, .int 0]]) (wr := [kb_o h 3 [.ref tp, .ref ld, .ref rd, .ref tr, .ref sp], kb_o tr 2 [.ref r0, .ref r1, .ref r2, .ref r3, .ref r4, .ref r5, .ref r6, .ref r7, .ref r8, .ref r9, .ref r10, .ref r11, .int L, .int P]]) hE hP hD hS [2, 1] [0, 3] rfl rfl (by decide) (by decide) (kb_rV (As := [.ref tp]) (rest := []) (wc := [kb_o rd 0 [.int i0, .int i1, .int i2, .int i3], kb_o tp 1 [.ref ta, .int 0]]) (q0 := 0) ⟨hx, hb, hml, hown, ht⟩ ((c_Rd_failureOfHead l G rd i0 i1 i2 i3 tp ta) _) (kb_gV wd_69af0a74 wd_5df73203 wd_849b4cd1 wd_6b307554 wd_5a273ca5) ⟨rfl, hd_088e31de⟩ ⟨(Nat.le_of_ble_eq_true rfl), (Nat.le_of_ble_eq_true rfl)⟩ hE hP hD hS [2, 1] rfl (by decide) rfl rfl rfl hl.1 rfl (Nat.le_of_ble_eq_true rfl) d_Press_read_8 ⟨(Nat.le_of_ble_eq_true rfl), (Nat.le_of_ble_eq_true rfl)⟩) (fun rv2 uu1 H locs hw hP hD hS => ?_)
  have hP : va_P G.1 kb_cl [kb_o h 3 [.ref tp, .ref ld, .ref rd, .ref tr, .ref sp], kb_o tr 2 [.ref r0, .ref r1, .ref r2, .ref r3, .ref r4, .ref r5, .ref r6, .ref r7, .ref r8, .ref r9, .ref r10, .ref r11, .int L, .int P], kb_o rd 0 [.int i0, .int i1, .int i2, .int i3], kb_o tp 1 [.ref ta, .int 0]] H := hP
  have hD : va_D A [kb_o h 3 [.ref tp, .ref ld, .ref rd, .ref tr, .ref sp], kb_o tr 2 [.ref r0, .ref r1, .ref r2, .ref r3, .ref r4, .ref r5, .ref r6, .ref r7, .ref r8, .ref r9, .ref r10, .ref r11, .int L, .int P], kb_o rd 0 [.int i0, .int i1, .int i2, .int i3], kb_o tp 1 [.ref ta, .int 0]] := hD
  refine kb_top (y := 0) (show rv2 = 0 from hw) ?_
  refine lv_istore_n (lv' := [(1, .int 0), (0, .ref h)]) hx hb d_Press_read_11 rfl hl (by decide) rfl (fun ls hl => ?_)
  refine lv_iload_n hx hb d_Press_read_12 rfl (lv_at hl 0 rfl) ?_
  refine lv_iconst (v := (-1)) hx hb d_Press_read_13 (by decide) ?_
  refine lv_icmp_ne (tgt := 33) hx hb d_Press_read_14 (by decide) (fun c9 => ?_) (fun c9 => absurd c9 (by decide))
  refine lv_aload_n hx hb d_Press_read_33 rfl (lv_at hl 1 rfl) ?_
  refine va_get (D := G.1) (ci := 3) (v := .ref tp) (C := "TreePress") (T := kb_F3) (N := 5) hx hb ht kb_w3 hown hE.1 hP 0 rfl rfl 0 (by decide) (ht _ wd_667fbbc4) (fun _ h9 => h9) rfl d_Press_read_34 ?_
  refine lv_iconst (v := 0) hx hb d_Press_read_37 (by decide) ?_
  refine kb_v (wc := [kb_o tp 1 [.ref ta, .int 0]]) (wr := [kb_o h 3 [.ref tp, .ref ld, .ref rd, .ref tr, .ref sp], kb_o tr 2 [.ref r0, .ref r1, .ref r2, .ref r3, .ref r4, .ref r5, .ref r6, .ref r7, .ref r8, .ref r9, .ref r10, .ref r11, .int L, .int P], kb_o rd 0 [.int i0, .int i1, .int i2, .int i3]]) hE hP hD hS [3] [0, 1, 2] rfl rfl (by decide) (by decide) (kb_rV (As := [.int 0]) (rest := []) (wc := [kb_o tp 1 [.ref ta, .int 0]]) (q0 := 0) ⟨hx, hb, hml, hown, ht⟩ ((c_Row_cut0 l G tp ta) _) (kb_gV wd_50e9e1ec wd_a30f3437 wd_8c6818e9 wd_4182e433 wd_86891071) ⟨rfl, hd_934340dd⟩ ⟨(Nat.le_of_ble_eq_true rfl), (Nat.le_of_ble_eq_true rfl)⟩ hE hP hD hS [3] rfl (by decide) rfl rfl rfl hl.1 rfl (Nat.le_of_ble_eq_true rfl) d_Press_read_38 ⟨(Nat.le_of_ble_eq_true rfl), (Nat.le_of_ble_eq_true rfl)⟩) (fun uu3 H locs hw hP hD hS => ?_)
  have hP : va_P G.1 kb_cl [kb_o h 3 [.ref tp, .ref ld, .ref rd, .ref tr, .ref sp], kb_o tr 2 [.ref r0, .ref r1, .ref r2, .ref r3, .ref r4, .ref r5, .ref r6, .ref r7, .ref r8, .ref r9, .ref r10, .ref r11, .int L, .int P], kb_o rd 0 [.int i0, .int i1, .int i2, .int i3], kb_o tp 1 [.ref ta, .int 0]] H := hP
  have hD : va_D A [kb_o h 3 [.ref tp, .ref ld, .ref rd, .ref tr, .ref sp], kb_o tr 2 [.ref r0, .ref r1, .ref r2, .ref r3, .ref r4, .ref r5, .ref r6, .ref r7, .ref r8, .ref r9, .ref r10, .ref r11, .int L, .int P], kb_o rd 0 [.int i0, .int i1, .int i2, .int i3], kb_o tp 1 [.ref ta, .int 0]] := hD
  refine lv_iload_n hx hb d_Press_read_41 rfl (lv_at hl 0 rfl) ?_
  refine lv_iconst (v := (-1)) hx hb d_Press_read_42 (by decide) ?_
  refine lv_icmp_ne (tgt := 50) hx hb d_Press_read_43 (by decide) (fun c9 => ?_) (fun c9 => absurd c9 (by decide))
  refine lv_aload_n hx hb d_Press_read_50 rfl (lv_at hl 1 rfl) ?_
  refine va_get (D := G.1) (ci := 3) (v := .ref tr) (C := "TreePress") (T := kb_F3) (N := 5) hx hb ht kb_w3 hown hE.1 hP 0 rfl rfl 3 (by decide) (ht _ wd_29809c8a) (fun _ h9 => h9) rfl d_Press_read_51 ?_
  refine kb_v (wc := [kb_o tr 2 [.ref r0, .ref r1, .ref r2, .ref r3, .ref r4, .ref r5, .ref r6, .ref r7, .ref r8, .ref r9, .ref r10, .ref r11, .int L, .int P]]) (wr := [kb_o h 3 [.ref tp, .ref ld, .ref rd, .ref tr, .ref sp], kb_o rd 0 [.int i0, .int i1, .int i2, .int i3], kb_o tp 1 [.ref ta, .int 0]]) hE hP hD hS [1] [0, 2, 3] rfl rfl (by decide) (by decide) (kb_rV (As := []) (rest := []) (wc := [kb_o tr 2 [.ref r0, .ref r1, .ref r2, .ref r3, .ref r4, .ref r5, .ref r6, .ref r7, .ref r8, .ref r9, .ref r10, .ref r11, .int L, .int P]]) (q0 := 0) ⟨hx, hb, hml, hown, ht⟩ ((c_Tree_makeFirstThePlace l G tr r0 r1 r2 r3 r4 r5 r6 r7 r8 r9 r10 r11 L P) _) (kb_gV wd_b7ad6793 wd_8b8de08e wd_329d51d3 wd_ebf91e09 wd_72b6c249) ⟨rfl, hd_5d0c0cc3⟩ ⟨(Nat.le_of_ble_eq_true rfl), (Nat.le_of_ble_eq_true rfl)⟩ hE hP hD hS [1] rfl (by decide) rfl rfl rfl hl.1 rfl (Nat.le_of_ble_eq_true rfl) d_Press_read_54 ⟨(Nat.le_of_ble_eq_true rfl), (Nat.le_of_ble_eq_true rfl)⟩) (fun uu5 H locs hw hP hD hS => ?_)
  have hP : va_P G.1 kb_cl [kb_o h 3 [.ref tp, .ref ld, .ref rd, .ref tr, .ref sp], kb_o rd 0 [.int i0, .int i1, .int i2, .int i3], kb_o tp 1 [.ref ta, .int 0], kb_o tr 2 [.ref r0, .ref r1, .ref r2, .ref r3, .ref r4, .ref r5, .ref r6, .ref r7, .ref r8, .ref r9, .ref r10, .ref r11, .int L, .int 0]] H := hP
  have hD : va_D A [kb_o h 3 [.ref tp, .ref ld, .ref rd, .ref tr, .ref sp], kb_o rd 0 [.int i0, .int i1, .int i2, .int i3], kb_o tp 1 [.ref ta, .int 0], kb_o tr 2 [.ref r0, .ref r1, .ref r2, .ref r3, .ref r4, .ref r5, .ref r6, .ref r7, .ref r8, .ref r9, .ref r10, .ref r11, .int L, .int 0]] := hD
  refine lv_iload_n hx hb d_Press_read_57 rfl (lv_at hl 0 rfl) ?_
  exact kb_reti (kb_l [], kb_f []) hx hb hr hlocks hE hP hD hS [] rfl (by decide) rfl rfl (Nat.le_of_ble_eq_true rfl) (Nat.le_of_ble_eq_true rfl) d_Press_read_58

set_option maxHeartbeats 4000000 in
set_option maxRecDepth 100000 in
theorem c_Press_nodes (l : Launch) (G : kb_G) (h : Nat) (tp : Nat) (ld : Nat) (rd : Nat) (tr : Nat) (sp : Nat) (r0 : Nat) (r1 : Nat) (r2 : Nat) (r3 : Nat) (r4 : Nat) (r5 : Nat) (r6 : Nat) (r7 : Nat) (r8 : Nat) (r9 : Nat) (r10 : Nat) (r11 : Nat) (L : Int32) (P : Int32) (a : Nat) (v : Int32) : kb_ci l G ⟨"TreePress", "nodes", "()I"⟩ prog_1_method_11_code 1 (some .int) 6 0 0 [.ref h] [kb_o h 3 [.ref tp, .ref ld, .ref rd, .ref tr, .ref sp], kb_o tr 2 [.ref r0, .ref r1, .ref r2, .ref r3, .ref r4, .ref r5, .ref r6, .ref r7, .ref r8, .ref r9, .ref r10, .ref r11, .int L, .int P], kb_o r1 1 [.ref a, .int v]] (fun r u => r = v) (fun u => [kb_o h 3 [.ref tp, .ref ld, .ref rd, .ref tr, .ref sp], kb_o tr 2 [.ref r0, .ref r1, .ref r2, .ref r3, .ref r4, .ref r5, .ref r6, .ref r7, .ref r8, .ref r9, .ref r10, .ref r11, .int L, .int P], kb_o r1 1 [.ref a, .int v]]) := by
  intro sz
  refine kb_body (QQ := fun A => kb_Qi G A (fun r u => r = v) (fun u => [kb_o h 3 [.ref tp, .ref ld, .ref rd, .ref tr, .ref sp], kb_o tr 2 [.ref r0, .ref r1, .ref r2, .ref r3, .ref r4, .ref r5, .ref r6, .ref r7, .ref r8, .ref r9, .ref r10, .ref r11, .int L, .int P], kb_o r1 1 [.ref a, .int v]])) (by decide) (Nat.le_of_ble_eq_true rfl) ?_
  intro p e s m below meth c A B ls hl
  obtain ⟨hx, hb, hr, hml, hlocks, hin, hown, ht, hE, hP, hD, hS⟩ := B
  have hl : lv_has ls 1 [(0, .ref h)] := hl
  have hP0 := hP
  obtain ⟨H, hHe⟩ : ∃ H, H = s.heap := ⟨_, rfl⟩
  rw [← hHe] at hP
  have hS : va_S A s.heap H [] := by rw [hHe]; exact hS
  refine kb_at hHe ?_
  clear hHe
  refine lv_aload_n hx hb d_Press_nodes_0 rfl (lv_at hl 0 rfl) ?_
  refine va_get (D := G.1) (ci := 3) (v := .ref tr) (C := "TreePress") (T := kb_F3) (N := 5) hx hb ht kb_w3 hown hE.1 hP 0 rfl rfl 3 (by decide) (ht _ wd_29809c8a) (fun _ h9 => h9) rfl d_Press_nodes_1 ?_
  refine kb_i (wc := [kb_o tr 2 [.ref r0, .ref r1, .ref r2, .ref r3, .ref r4, .ref r5, .ref r6, .ref r7, .ref r8, .ref r9, .ref r10, .ref r11, .int L, .int P], kb_o r1 1 [.ref a, .int v]]) (wr := [kb_o h 3 [.ref tp, .ref ld, .ref rd, .ref tr, .ref sp]]) hE hP hD hS [1, 2] [0] rfl rfl (by decide) (by decide) (kb_rV (As := []) (rest := []) (wc := [kb_o tr 2 [.ref r0, .ref r1, .ref r2, .ref r3, .ref r4, .ref r5, .ref r6, .ref r7, .ref r8, .ref r9, .ref r10, .ref r11, .int L, .int P], kb_o r1 1 [.ref a, .int v]]) (q0 := 0) ⟨hx, hb, hml, hown, ht⟩ ((c_Tree_countOfNodes l G tr r0 r1 r2 r3 r4 r5 r6 r7 r8 r9 r10 r11 L P a v) _) (kb_gV wd_b4350c08 wd_004c0445 wd_dbedc27b wd_ebf91e09 wd_8a7bf582) ⟨rfl, hd_a0b17e13⟩ ⟨(Nat.le_of_ble_eq_true rfl), (Nat.le_of_ble_eq_true rfl)⟩ hE hP hD hS [1, 2] rfl (by decide) rfl rfl rfl hl.1 rfl (Nat.le_of_ble_eq_true rfl) d_Press_nodes_4 ⟨(Nat.le_of_ble_eq_true rfl), (Nat.le_of_ble_eq_true rfl)⟩) (fun rv2 uu1 H locs hw hP hD hS => ?_)
  have hP : va_P G.1 kb_cl [kb_o h 3 [.ref tp, .ref ld, .ref rd, .ref tr, .ref sp], kb_o tr 2 [.ref r0, .ref r1, .ref r2, .ref r3, .ref r4, .ref r5, .ref r6, .ref r7, .ref r8, .ref r9, .ref r10, .ref r11, .int L, .int P], kb_o r1 1 [.ref a, .int v]] H := hP
  have hD : va_D A [kb_o h 3 [.ref tp, .ref ld, .ref rd, .ref tr, .ref sp], kb_o tr 2 [.ref r0, .ref r1, .ref r2, .ref r3, .ref r4, .ref r5, .ref r6, .ref r7, .ref r8, .ref r9, .ref r10, .ref r11, .int L, .int P], kb_o r1 1 [.ref a, .int v]] := hD
  refine kb_top (y := v) (show rv2 = v from hw) ?_
  exact kb_reti (kb_l [], kb_f []) hx hb hr hlocks hE hP hD hS [0, 1, 2] rfl (by decide) rfl rfl (Nat.le_of_ble_eq_true rfl) (Nat.le_of_ble_eq_true rfl) d_Press_nodes_7

set_option maxHeartbeats 4000000 in
set_option maxRecDepth 100000 in
theorem c_Press_properties (l : Launch) (G : kb_G) (h : Nat) (tp : Nat) (ld : Nat) (rd : Nat) (tr : Nat) (sp : Nat) (r0 : Nat) (r1 : Nat) (r2 : Nat) (r3 : Nat) (r4 : Nat) (r5 : Nat) (r6 : Nat) (r7 : Nat) (r8 : Nat) (r9 : Nat) (r10 : Nat) (r11 : Nat) (L : Int32) (P : Int32) (a : Nat) (v : Int32) : kb_ci l G ⟨"TreePress", "properties", "()I"⟩ prog_1_method_12_code 1 (some .int) 6 0 0 [.ref h] [kb_o h 3 [.ref tp, .ref ld, .ref rd, .ref tr, .ref sp], kb_o tr 2 [.ref r0, .ref r1, .ref r2, .ref r3, .ref r4, .ref r5, .ref r6, .ref r7, .ref r8, .ref r9, .ref r10, .ref r11, .int L, .int P], kb_o r7 1 [.ref a, .int v]] (fun r u => r = v) (fun u => [kb_o h 3 [.ref tp, .ref ld, .ref rd, .ref tr, .ref sp], kb_o tr 2 [.ref r0, .ref r1, .ref r2, .ref r3, .ref r4, .ref r5, .ref r6, .ref r7, .ref r8, .ref r9, .ref r10, .ref r11, .int L, .int P], kb_o r7 1 [.ref a, .int v]]) := by
  intro sz
  refine kb_body (QQ := fun A => kb_Qi G A (fun r u => r = v) (fun u => [kb_o h 3 [.ref tp, .ref ld, .ref rd, .ref tr, .ref sp], kb_o tr 2 [.ref r0, .ref r1, .ref r2, .ref r3, .ref r4, .ref r5, .ref r6, .ref r7, .ref r8, .ref r9, .ref r10, .ref r11, .int L, .int P], kb_o r7 1 [.ref a, .int v]])) (by decide) (Nat.le_of_ble_eq_true rfl) ?_
  intro p e s m below meth c A B ls hl
  obtain ⟨hx, hb, hr, hml, hlocks, hin, hown, ht, hE, hP, hD, hS⟩ := B
  have hl : lv_has ls 1 [(0, .ref h)] := hl
  have hP0 := hP
  obtain ⟨H, hHe⟩ : ∃ H, H = s.heap := ⟨_, rfl⟩
  rw [← hHe] at hP
  have hS : va_S A s.heap H [] := by rw [hHe]; exact hS
  refine kb_at hHe ?_
  clear hHe
  refine lv_aload_n hx hb d_Press_properties_0 rfl (lv_at hl 0 rfl) ?_
  refine va_get (D := G.1) (ci := 3) (v := .ref tr) (C := "TreePress") (T := kb_F3) (N := 5) hx hb ht kb_w3 hown hE.1 hP 0 rfl rfl 3 (by decide) (ht _ wd_29809c8a) (fun _ h9 => h9) rfl d_Press_properties_1 ?_
  refine kb_i (wc := [kb_o tr 2 [.ref r0, .ref r1, .ref r2, .ref r3, .ref r4, .ref r5, .ref r6, .ref r7, .ref r8, .ref r9, .ref r10, .ref r11, .int L, .int P], kb_o r7 1 [.ref a, .int v]]) (wr := [kb_o h 3 [.ref tp, .ref ld, .ref rd, .ref tr, .ref sp]]) hE hP hD hS [1, 2] [0] rfl rfl (by decide) (by decide) (kb_rV (As := []) (rest := []) (wc := [kb_o tr 2 [.ref r0, .ref r1, .ref r2, .ref r3, .ref r4, .ref r5, .ref r6, .ref r7, .ref r8, .ref r9, .ref r10, .ref r11, .int L, .int P], kb_o r7 1 [.ref a, .int v]]) (q0 := 0) ⟨hx, hb, hml, hown, ht⟩ ((c_Tree_countOfProperties l G tr r0 r1 r2 r3 r4 r5 r6 r7 r8 r9 r10 r11 L P a v) _) (kb_gV wd_4921e727 wd_5e59c8fd wd_1e6fdce3 wd_ebf91e09 wd_402a7dff) ⟨rfl, hd_e49549c8⟩ ⟨(Nat.le_of_ble_eq_true rfl), (Nat.le_of_ble_eq_true rfl)⟩ hE hP hD hS [1, 2] rfl (by decide) rfl rfl rfl hl.1 rfl (Nat.le_of_ble_eq_true rfl) d_Press_properties_4 ⟨(Nat.le_of_ble_eq_true rfl), (Nat.le_of_ble_eq_true rfl)⟩) (fun rv2 uu1 H locs hw hP hD hS => ?_)
  have hP : va_P G.1 kb_cl [kb_o h 3 [.ref tp, .ref ld, .ref rd, .ref tr, .ref sp], kb_o tr 2 [.ref r0, .ref r1, .ref r2, .ref r3, .ref r4, .ref r5, .ref r6, .ref r7, .ref r8, .ref r9, .ref r10, .ref r11, .int L, .int P], kb_o r7 1 [.ref a, .int v]] H := hP
  have hD : va_D A [kb_o h 3 [.ref tp, .ref ld, .ref rd, .ref tr, .ref sp], kb_o tr 2 [.ref r0, .ref r1, .ref r2, .ref r3, .ref r4, .ref r5, .ref r6, .ref r7, .ref r8, .ref r9, .ref r10, .ref r11, .int L, .int P], kb_o r7 1 [.ref a, .int v]] := hD
  refine kb_top (y := v) (show rv2 = v from hw) ?_
  exact kb_reti (kb_l [], kb_f []) hx hb hr hlocks hE hP hD hS [0, 1, 2] rfl (by decide) rfl rfl (Nat.le_of_ble_eq_true rfl) (Nat.le_of_ble_eq_true rfl) d_Press_properties_7

set_option maxHeartbeats 4000000 in
set_option maxRecDepth 100000 in
theorem c_Press_refuseNode0 (l : Launch) (G : kb_G) (h : Nat) (tp : Nat) (ld : Nat) (rd : Nat) (tr : Nat) (sp : Nat) (r0 : Nat) (r1 : Nat) (r2 : Nat) (r3 : Nat) (r4 : Nat) (r5 : Nat) (r6 : Nat) (r7 : Nat) (r8 : Nat) (r9 : Nat) (r10 : Nat) (r11 : Nat) (L : Int32) (P : Int32) (a1 : Nat) : kb_cv l G ⟨"TreePress", "refuseWrongNode", "(I)V"⟩ prog_1_method_21_code 2 6 0 0 [.ref h, .int 0] [kb_o h 3 [.ref tp, .ref ld, .ref rd, .ref tr, .ref sp], kb_o tr 2 [.ref r0, .ref r1, .ref r2, .ref r3, .ref r4, .ref r5, .ref r6, .ref r7, .ref r8, .ref r9, .ref r10, .ref r11, .int L, .int P], kb_o r1 1 [.ref a1, .int 1]] (fun u => True) (fun u => [kb_o h 3 [.ref tp, .ref ld, .ref rd, .ref tr, .ref sp], kb_o tr 2 [.ref r0, .ref r1, .ref r2, .ref r3, .ref r4, .ref r5, .ref r6, .ref r7, .ref r8, .ref r9, .ref r10, .ref r11, .int L, .int P], kb_o r1 1 [.ref a1, .int 1]]) := by
  intro sz
  refine kb_body (QQ := fun A => kb_Qv G A (fun u => True) (fun u => [kb_o h 3 [.ref tp, .ref ld, .ref rd, .ref tr, .ref sp], kb_o tr 2 [.ref r0, .ref r1, .ref r2, .ref r3, .ref r4, .ref r5, .ref r6, .ref r7, .ref r8, .ref r9, .ref r10, .ref r11, .int L, .int P], kb_o r1 1 [.ref a1, .int 1]])) (by decide) (Nat.le_of_ble_eq_true rfl) ?_
  intro p e s m below meth c A B ls hl
  obtain ⟨hx, hb, hr, hml, hlocks, hin, hown, ht, hE, hP, hD, hS⟩ := B
  have hl : lv_has ls 2 [(0, .ref h), (1, .int 0)] := hl
  have hP0 := hP
  obtain ⟨H, hHe⟩ : ∃ H, H = s.heap := ⟨_, rfl⟩
  rw [← hHe] at hP
  have hS : va_S A s.heap H [] := by rw [hHe]; exact hS
  refine kb_at hHe ?_
  clear hHe
  refine lv_iload_n hx hb d_Press_refuseWrongNode_0 rfl (lv_at hl 1 rfl) ?_
  refine lv_if_lt (tgt := 15) hx hb d_Press_refuseWrongNode_1 (by decide) (fun c9 => absurd c9 (by decide)) (fun c9 => ?_)
  refine lv_iload_n hx hb d_Press_refuseWrongNode_4 rfl (lv_at hl 1 rfl) ?_
  refine lv_aload_n hx hb d_Press_refuseWrongNode_5 rfl (lv_at hl 0 rfl) ?_
  refine va_get (D := G.1) (ci := 3) (v := .ref tr) (C := "TreePress") (T := kb_F3) (N := 5) hx hb ht kb_w3 hown hE.1 hP 0 rfl rfl 3 (by decide) (ht _ wd_29809c8a) (fun _ h9 => h9) rfl d_Press_refuseWrongNode_6 ?_
  refine kb_i (wc := [kb_o tr 2 [.ref r0, .ref r1, .ref r2, .ref r3, .ref r4, .ref r5, .ref r6, .ref r7, .ref r8, .ref r9, .ref r10, .ref r11, .int L, .int P], kb_o r1 1 [.ref a1, .int 1]]) (wr := [kb_o h 3 [.ref tp, .ref ld, .ref rd, .ref tr, .ref sp]]) hE hP hD hS [1, 2] [0] rfl rfl (by decide) (by decide) (kb_rV (As := []) (rest := [.int 0]) (wc := [kb_o tr 2 [.ref r0, .ref r1, .ref r2, .ref r3, .ref r4, .ref r5, .ref r6, .ref r7, .ref r8, .ref r9, .ref r10, .ref r11, .int L, .int P], kb_o r1 1 [.ref a1, .int 1]]) (q0 := 0) ⟨hx, hb, hml, hown, ht⟩ ((c_Tree_countOfNodes l G tr r0 r1 r2 r3 r4 r5 r6 r7 r8 r9 r10 r11 L P a1 1) _) (kb_gV wd_b4350c08 wd_004c0445 wd_dbedc27b wd_ebf91e09 wd_8a7bf582) ⟨rfl, hd_a0b17e13⟩ ⟨(Nat.le_of_ble_eq_true rfl), (Nat.le_of_ble_eq_true rfl)⟩ hE hP hD hS [1, 2] rfl (by decide) rfl rfl rfl hl.1 rfl (Nat.le_of_ble_eq_true rfl) d_Press_refuseWrongNode_9 ⟨(Nat.le_of_ble_eq_true rfl), (Nat.le_of_ble_eq_true rfl)⟩) (fun rv2 uu1 H locs hw hP hD hS => ?_)
  have hP : va_P G.1 kb_cl [kb_o h 3 [.ref tp, .ref ld, .ref rd, .ref tr, .ref sp], kb_o tr 2 [.ref r0, .ref r1, .ref r2, .ref r3, .ref r4, .ref r5, .ref r6, .ref r7, .ref r8, .ref r9, .ref r10, .ref r11, .int L, .int P], kb_o r1 1 [.ref a1, .int 1]] H := hP
  have hD : va_D A [kb_o h 3 [.ref tp, .ref ld, .ref rd, .ref tr, .ref sp], kb_o tr 2 [.ref r0, .ref r1, .ref r2, .ref r3, .ref r4, .ref r5, .ref r6, .ref r7, .ref r8, .ref r9, .ref r10, .ref r11, .int L, .int P], kb_o r1 1 [.ref a1, .int 1]] := hD
  refine kb_top (y := 1) (show rv2 = 1 from hw) ?_
  refine lv_icmp_lt (tgt := 25) hx hb d_Press_refuseWrongNode_12 (by decide) (fun c9 => ?_) (fun c9 => absurd (by decide) c9)
  exact kb_retv (kb_l [], kb_f []) hx hb hr hlocks hE hP hD hS [0, 1, 2] rfl (by decide) rfl trivial (Nat.le_of_ble_eq_true rfl) (Nat.le_of_ble_eq_true rfl) d_Press_refuseWrongNode_25

set_option maxHeartbeats 4000000 in
set_option maxRecDepth 100000 in
theorem c_Press_refuseNodeX (l : Launch) (hst : l.stackTraces = false) (G : kb_G) (h : Nat) (tp : Nat) (ld : Nat) (rd : Nat) (tr : Nat) (sp : Nat) (r0 : Nat) (r1 : Nat) (r2 : Nat) (r3 : Nat) (r4 : Nat) (r5 : Nat) (r6 : Nat) (r7 : Nat) (r8 : Nat) (r9 : Nat) (r10 : Nat) (r11 : Nat) (L : Int32) (P : Int32) (a1 : Nat) (i : Int32) (hi : ¬ i = 0) : kb_cx l G ⟨"TreePress", "refuseWrongNode", "(I)V"⟩ prog_1_method_21_code 2 none 6 1 6 [.ref h, .int i] [kb_o h 3 [.ref tp, .ref ld, .ref rd, .ref tr, .ref sp], kb_o tr 2 [.ref r0, .ref r1, .ref r2, .ref r3, .ref r4, .ref r5, .ref r6, .ref r7, .ref r8, .ref r9, .ref r10, .ref r11, .int L, .int P], kb_o r1 1 [.ref a1, .int 1]] "java/lang/IndexOutOfBoundsException" := by
  refine kb_bodyX (by decide) (Nat.le_of_ble_eq_true rfl) ?_
  intro p e s m below meth c A B hno hAw ls hl
  obtain ⟨hx, hb, hr, hml, hlocks, hin, hown, ht, hE, hP, hD, hS⟩ := B
  have hl : lv_has ls 2 [(0, .ref h), (1, .int i)] := hl
  have hP0 := hP
  obtain ⟨H, hHe⟩ : ∃ H, H = s.heap := ⟨_, rfl⟩
  rw [← hHe] at hP
  have hS : va_S A s.heap H [] := by rw [hHe]; exact hS
  refine kb_at hHe ?_
  clear hHe
  refine lv_iload_n hx hb d_Press_refuseWrongNode_0 rfl (lv_at hl 1 rfl) ?_
  refine lv_if_lt (tgt := 15) hx hb d_Press_refuseWrongNode_1 (by decide) (fun cb1 => ?_) (fun cb1 => ?_)
  · exact kb_throw (E := "java/lang/IndexOutOfBoundsException") (names := kb_names) (wi := [kb_o h 3 [.ref tp, .ref ld, .ref rd, .ref tr, .ref sp], kb_o tr 2 [.ref r0, .ref r1, .ref r2, .ref r3, .ref r4, .ref r5, .ref r6, .ref r7, .ref r8, .ref r9, .ref r10, .ref r11, .int L, .int P], kb_o r1 1 [.ref a1, .int 1]]) hx hb hst hown ht hE (by decide +kernel) (by decide +kernel) wd_6ce1761d wd_37a516df kb_own_IndexOutOfBounds kb_ownb_IndexOutOfBounds (by decide +kernel) (List.mem_of_getElem? (i := 10) rfl) hP0 hAw hS (hl.1.trans hml.symm) hno hlocks d_Press_refuseWrongNode_15 d_Press_refuseWrongNode_18 d_Press_refuseWrongNode_19 d_Press_refuseWrongNode_21 d_Press_refuseWrongNode_24 (Nat.le_of_ble_eq_true rfl) (Nat.le_of_ble_eq_true rfl) (Nat.le_of_ble_eq_true rfl) (Nat.le_of_ble_eq_true rfl) (Nat.le_of_ble_eq_true rfl) (Nat.le_of_ble_eq_true rfl)
  · refine lv_iload_n hx hb d_Press_refuseWrongNode_4 rfl (lv_at hl 1 rfl) ?_
    refine lv_aload_n hx hb d_Press_refuseWrongNode_5 rfl (lv_at hl 0 rfl) ?_
    refine va_get (D := G.1) (ci := 3) (v := .ref tr) (C := "TreePress") (T := kb_F3) (N := 5) hx hb ht kb_w3 hown hE.1 hP 0 rfl rfl 3 (by decide) (ht _ wd_29809c8a) (fun _ h9 => h9) rfl d_Press_refuseWrongNode_6 ?_
    refine kb_i (wc := [kb_o tr 2 [.ref r0, .ref r1, .ref r2, .ref r3, .ref r4, .ref r5, .ref r6, .ref r7, .ref r8, .ref r9, .ref r10, .ref r11, .int L, .int P], kb_o r1 1 [.ref a1, .int 1]]) (wr := [kb_o h 3 [.ref tp, .ref ld, .ref rd, .ref tr, .ref sp]]) hE hP hD hS [1, 2] [0] rfl rfl (by decide) (by decide) (kb_rV (As := []) (rest := [.int i]) (wc := [kb_o tr 2 [.ref r0, .ref r1, .ref r2, .ref r3, .ref r4, .ref r5, .ref r6, .ref r7, .ref r8, .ref r9, .ref r10, .ref r11, .int L, .int P], kb_o r1 1 [.ref a1, .int 1]]) (q0 := 0) ⟨hx, hb, hml, hown, ht⟩ ((c_Tree_countOfNodes l G tr r0 r1 r2 r3 r4 r5 r6 r7 r8 r9 r10 r11 L P a1 1) _) (kb_gV wd_b4350c08 wd_004c0445 wd_dbedc27b wd_ebf91e09 wd_8a7bf582) ⟨rfl, hd_a0b17e13⟩ ⟨(Nat.le_of_ble_eq_true rfl), (Nat.le_of_ble_eq_true rfl)⟩ hE hP hD hS [1, 2] rfl (by decide) rfl rfl rfl hl.1 rfl (Nat.le_of_ble_eq_true rfl) d_Press_refuseWrongNode_9 ⟨(Nat.le_of_ble_eq_true rfl), (Nat.le_of_ble_eq_true rfl)⟩) (fun rv3 uu2 H locs hw hP hD hS => ?_)
    have hP : va_P G.1 kb_cl [kb_o h 3 [.ref tp, .ref ld, .ref rd, .ref tr, .ref sp], kb_o tr 2 [.ref r0, .ref r1, .ref r2, .ref r3, .ref r4, .ref r5, .ref r6, .ref r7, .ref r8, .ref r9, .ref r10, .ref r11, .int L, .int P], kb_o r1 1 [.ref a1, .int 1]] H := hP
    have hD : va_D A [kb_o h 3 [.ref tp, .ref ld, .ref rd, .ref tr, .ref sp], kb_o tr 2 [.ref r0, .ref r1, .ref r2, .ref r3, .ref r4, .ref r5, .ref r6, .ref r7, .ref r8, .ref r9, .ref r10, .ref r11, .int L, .int P], kb_o r1 1 [.ref a1, .int 1]] := hD
    refine kb_top (y := 1) (show rv3 = 1 from hw) ?_
    refine lv_icmp_lt (tgt := 25) hx hb d_Press_refuseWrongNode_12 (by decide) (fun c9 => False.elim (by have e0 : ¬ (i : Int32).toInt = (0 : Int32).toInt := fun z9 => hi (Int32.toInt_inj.mp z9); have e1 : ¬ (i : Int32).toInt < (0 : Int32).toInt := fun z9 => cb1 (Int32.lt_iff_toInt_lt.mpr z9); have e2 : (i : Int32).toInt < (1 : Int32).toInt := Int32.lt_iff_toInt_lt.mp c9; have k0 : (0 : Int32).toInt = 0 := rfl; have k1 : (1 : Int32).toInt = 1 := rfl; omega)) (fun c9 => ?_)
    exact kb_throw (E := "java/lang/IndexOutOfBoundsException") (names := kb_names) (wi := [kb_o h 3 [.ref tp, .ref ld, .ref rd, .ref tr, .ref sp], kb_o tr 2 [.ref r0, .ref r1, .ref r2, .ref r3, .ref r4, .ref r5, .ref r6, .ref r7, .ref r8, .ref r9, .ref r10, .ref r11, .int L, .int P], kb_o r1 1 [.ref a1, .int 1]]) hx hb hst hown ht hE (by decide +kernel) (by decide +kernel) wd_6ce1761d wd_37a516df kb_own_IndexOutOfBounds kb_ownb_IndexOutOfBounds (by decide +kernel) (List.mem_of_getElem? (i := 10) rfl) hP0 hAw hS (hl.1.trans hml.symm) hno hlocks d_Press_refuseWrongNode_15 d_Press_refuseWrongNode_18 d_Press_refuseWrongNode_19 d_Press_refuseWrongNode_21 d_Press_refuseWrongNode_24 (Nat.le_of_ble_eq_true rfl) (Nat.le_of_ble_eq_true rfl) (Nat.le_of_ble_eq_true rfl) (Nat.le_of_ble_eq_true rfl) (Nat.le_of_ble_eq_true rfl) (Nat.le_of_ble_eq_true rfl)

set_option maxHeartbeats 4000000 in
set_option maxRecDepth 100000 in
theorem c_Press_refusePropX (l : Launch) (hst : l.stackTraces = false) (G : kb_G) (h : Nat) (tp : Nat) (ld : Nat) (rd : Nat) (tr : Nat) (sp : Nat) (r0 : Nat) (r1 : Nat) (r2 : Nat) (r3 : Nat) (r4 : Nat) (r5 : Nat) (r6 : Nat) (r7 : Nat) (r8 : Nat) (r9 : Nat) (r10 : Nat) (r11 : Nat) (L : Int32) (P : Int32) (a7 : Nat) (i : Int32) : kb_cx l G ⟨"TreePress", "refuseWrongProperty", "(I)V"⟩ prog_1_method_22_code 2 none 6 1 6 [.ref h, .int i] [kb_o h 3 [.ref tp, .ref ld, .ref rd, .ref tr, .ref sp], kb_o tr 2 [.ref r0, .ref r1, .ref r2, .ref r3, .ref r4, .ref r5, .ref r6, .ref r7, .ref r8, .ref r9, .ref r10, .ref r11, .int L, .int P], kb_o r7 1 [.ref a7, .int 0]] "java/lang/IndexOutOfBoundsException" := by
  refine kb_bodyX (by decide) (Nat.le_of_ble_eq_true rfl) ?_
  intro p e s m below meth c A B hno hAw ls hl
  obtain ⟨hx, hb, hr, hml, hlocks, hin, hown, ht, hE, hP, hD, hS⟩ := B
  have hl : lv_has ls 2 [(0, .ref h), (1, .int i)] := hl
  have hP0 := hP
  obtain ⟨H, hHe⟩ : ∃ H, H = s.heap := ⟨_, rfl⟩
  rw [← hHe] at hP
  have hS : va_S A s.heap H [] := by rw [hHe]; exact hS
  refine kb_at hHe ?_
  clear hHe
  refine lv_iload_n hx hb d_Press_refuseWrongProperty_0 rfl (lv_at hl 1 rfl) ?_
  refine lv_if_lt (tgt := 15) hx hb d_Press_refuseWrongProperty_1 (by decide) (fun cb1 => ?_) (fun cb1 => ?_)
  · exact kb_throw (E := "java/lang/IndexOutOfBoundsException") (names := kb_names) (wi := [kb_o h 3 [.ref tp, .ref ld, .ref rd, .ref tr, .ref sp], kb_o tr 2 [.ref r0, .ref r1, .ref r2, .ref r3, .ref r4, .ref r5, .ref r6, .ref r7, .ref r8, .ref r9, .ref r10, .ref r11, .int L, .int P], kb_o r7 1 [.ref a7, .int 0]]) hx hb hst hown ht hE (by decide +kernel) (by decide +kernel) wd_6ce1761d wd_37a516df kb_own_IndexOutOfBounds kb_ownb_IndexOutOfBounds (by decide +kernel) (List.mem_of_getElem? (i := 11) rfl) hP0 hAw hS (hl.1.trans hml.symm) hno hlocks d_Press_refuseWrongProperty_15 d_Press_refuseWrongProperty_18 d_Press_refuseWrongProperty_19 d_Press_refuseWrongProperty_21 d_Press_refuseWrongProperty_24 (Nat.le_of_ble_eq_true rfl) (Nat.le_of_ble_eq_true rfl) (Nat.le_of_ble_eq_true rfl) (Nat.le_of_ble_eq_true rfl) (Nat.le_of_ble_eq_true rfl) (Nat.le_of_ble_eq_true rfl)
  · refine lv_iload_n hx hb d_Press_refuseWrongProperty_4 rfl (lv_at hl 1 rfl) ?_
    refine lv_aload_n hx hb d_Press_refuseWrongProperty_5 rfl (lv_at hl 0 rfl) ?_
    refine va_get (D := G.1) (ci := 3) (v := .ref tr) (C := "TreePress") (T := kb_F3) (N := 5) hx hb ht kb_w3 hown hE.1 hP 0 rfl rfl 3 (by decide) (ht _ wd_29809c8a) (fun _ h9 => h9) rfl d_Press_refuseWrongProperty_6 ?_
    refine kb_i (wc := [kb_o tr 2 [.ref r0, .ref r1, .ref r2, .ref r3, .ref r4, .ref r5, .ref r6, .ref r7, .ref r8, .ref r9, .ref r10, .ref r11, .int L, .int P], kb_o r7 1 [.ref a7, .int 0]]) (wr := [kb_o h 3 [.ref tp, .ref ld, .ref rd, .ref tr, .ref sp]]) hE hP hD hS [1, 2] [0] rfl rfl (by decide) (by decide) (kb_rV (As := []) (rest := [.int i]) (wc := [kb_o tr 2 [.ref r0, .ref r1, .ref r2, .ref r3, .ref r4, .ref r5, .ref r6, .ref r7, .ref r8, .ref r9, .ref r10, .ref r11, .int L, .int P], kb_o r7 1 [.ref a7, .int 0]]) (q0 := 0) ⟨hx, hb, hml, hown, ht⟩ ((c_Tree_countOfProperties l G tr r0 r1 r2 r3 r4 r5 r6 r7 r8 r9 r10 r11 L P a7 0) _) (kb_gV wd_4921e727 wd_5e59c8fd wd_1e6fdce3 wd_ebf91e09 wd_402a7dff) ⟨rfl, hd_e49549c8⟩ ⟨(Nat.le_of_ble_eq_true rfl), (Nat.le_of_ble_eq_true rfl)⟩ hE hP hD hS [1, 2] rfl (by decide) rfl rfl rfl hl.1 rfl (Nat.le_of_ble_eq_true rfl) d_Press_refuseWrongProperty_9 ⟨(Nat.le_of_ble_eq_true rfl), (Nat.le_of_ble_eq_true rfl)⟩) (fun rv3 uu2 H locs hw hP hD hS => ?_)
    have hP : va_P G.1 kb_cl [kb_o h 3 [.ref tp, .ref ld, .ref rd, .ref tr, .ref sp], kb_o tr 2 [.ref r0, .ref r1, .ref r2, .ref r3, .ref r4, .ref r5, .ref r6, .ref r7, .ref r8, .ref r9, .ref r10, .ref r11, .int L, .int P], kb_o r7 1 [.ref a7, .int 0]] H := hP
    have hD : va_D A [kb_o h 3 [.ref tp, .ref ld, .ref rd, .ref tr, .ref sp], kb_o tr 2 [.ref r0, .ref r1, .ref r2, .ref r3, .ref r4, .ref r5, .ref r6, .ref r7, .ref r8, .ref r9, .ref r10, .ref r11, .int L, .int P], kb_o r7 1 [.ref a7, .int 0]] := hD
    refine kb_top (y := 0) (show rv3 = 0 from hw) ?_
    refine lv_icmp_lt (tgt := 25) hx hb d_Press_refuseWrongProperty_12 (by decide) (fun c9 => False.elim (by have e0 : ¬ (i : Int32).toInt < (0 : Int32).toInt := fun z9 => cb1 (Int32.lt_iff_toInt_lt.mpr z9); have e1 : (i : Int32).toInt < (0 : Int32).toInt := Int32.lt_iff_toInt_lt.mp c9; have k0 : (0 : Int32).toInt = 0 := rfl; omega)) (fun c9 => ?_)
    exact kb_throw (E := "java/lang/IndexOutOfBoundsException") (names := kb_names) (wi := [kb_o h 3 [.ref tp, .ref ld, .ref rd, .ref tr, .ref sp], kb_o tr 2 [.ref r0, .ref r1, .ref r2, .ref r3, .ref r4, .ref r5, .ref r6, .ref r7, .ref r8, .ref r9, .ref r10, .ref r11, .int L, .int P], kb_o r7 1 [.ref a7, .int 0]]) hx hb hst hown ht hE (by decide +kernel) (by decide +kernel) wd_6ce1761d wd_37a516df kb_own_IndexOutOfBounds kb_ownb_IndexOutOfBounds (by decide +kernel) (List.mem_of_getElem? (i := 11) rfl) hP0 hAw hS (hl.1.trans hml.symm) hno hlocks d_Press_refuseWrongProperty_15 d_Press_refuseWrongProperty_18 d_Press_refuseWrongProperty_19 d_Press_refuseWrongProperty_21 d_Press_refuseWrongProperty_24 (Nat.le_of_ble_eq_true rfl) (Nat.le_of_ble_eq_true rfl) (Nat.le_of_ble_eq_true rfl) (Nat.le_of_ble_eq_true rfl) (Nat.le_of_ble_eq_true rfl) (Nat.le_of_ble_eq_true rfl)

set_option maxHeartbeats 4000000 in
set_option maxRecDepth 100000 in
theorem c_Press_refuseByteX (l : Launch) (hst : l.stackTraces = false) (G : kb_G) (j : Int32) : kb_cx l G ⟨"TreePress", "refuseWrongByte", "(II)V"⟩ prog_1_method_23_code 2 none 6 1 6 [.int j, .int 0] [] "java/lang/IndexOutOfBoundsException" := by
  refine kb_bodyX (by decide) (Nat.le_of_ble_eq_true rfl) ?_
  intro p e s m below meth c A B hno hAw ls hl
  obtain ⟨hx, hb, hr, hml, hlocks, hin, hown, ht, hE, hP, hD, hS⟩ := B
  have hl : lv_has ls 2 [(0, .int j), (1, .int 0)] := hl
  have hP0 := hP
  obtain ⟨H, hHe⟩ : ∃ H, H = s.heap := ⟨_, rfl⟩
  rw [← hHe] at hP
  have hS : va_S A s.heap H [] := by rw [hHe]; exact hS
  refine kb_at hHe ?_
  clear hHe
  refine lv_iload_n hx hb d_Press_refuseWrongByte_0 rfl (lv_at hl 0 rfl) ?_
  refine lv_if_lt (tgt := 9) hx hb d_Press_refuseWrongByte_1 (by decide) (fun cb1 => ?_) (fun cb1 => ?_)
  · exact kb_throw (E := "java/lang/IndexOutOfBoundsException") (names := kb_names) (wi := []) hx hb hst hown ht hE (by decide +kernel) (by decide +kernel) wd_6ce1761d wd_37a516df kb_own_IndexOutOfBounds kb_ownb_IndexOutOfBounds (by decide +kernel) (List.mem_of_getElem? (i := 12) rfl) hP0 hAw hS (hl.1.trans hml.symm) hno hlocks d_Press_refuseWrongByte_9 d_Press_refuseWrongByte_12 d_Press_refuseWrongByte_13 d_Press_refuseWrongByte_15 d_Press_refuseWrongByte_18 (Nat.le_of_ble_eq_true rfl) (Nat.le_of_ble_eq_true rfl) (Nat.le_of_ble_eq_true rfl) (Nat.le_of_ble_eq_true rfl) (Nat.le_of_ble_eq_true rfl) (Nat.le_of_ble_eq_true rfl)
  · refine lv_iload_n hx hb d_Press_refuseWrongByte_4 rfl (lv_at hl 0 rfl) ?_
    refine lv_iload_n hx hb d_Press_refuseWrongByte_5 rfl (lv_at hl 1 rfl) ?_
    refine lv_icmp_lt (tgt := 19) hx hb d_Press_refuseWrongByte_6 (by decide) (fun c9 => False.elim (by have e0 : ¬ (j : Int32).toInt < (0 : Int32).toInt := fun z9 => cb1 (Int32.lt_iff_toInt_lt.mpr z9); have e1 : (j : Int32).toInt < (0 : Int32).toInt := Int32.lt_iff_toInt_lt.mp c9; have k0 : (0 : Int32).toInt = 0 := rfl; omega)) (fun c9 => ?_)
    exact kb_throw (E := "java/lang/IndexOutOfBoundsException") (names := kb_names) (wi := []) hx hb hst hown ht hE (by decide +kernel) (by decide +kernel) wd_6ce1761d wd_37a516df kb_own_IndexOutOfBounds kb_ownb_IndexOutOfBounds (by decide +kernel) (List.mem_of_getElem? (i := 12) rfl) hP0 hAw hS (hl.1.trans hml.symm) hno hlocks d_Press_refuseWrongByte_9 d_Press_refuseWrongByte_12 d_Press_refuseWrongByte_13 d_Press_refuseWrongByte_15 d_Press_refuseWrongByte_18 (Nat.le_of_ble_eq_true rfl) (Nat.le_of_ble_eq_true rfl) (Nat.le_of_ble_eq_true rfl) (Nat.le_of_ble_eq_true rfl) (Nat.le_of_ble_eq_true rfl) (Nat.le_of_ble_eq_true rfl)

set_option maxHeartbeats 4000000 in
set_option maxRecDepth 100000 in
theorem c_Press_node0 (l : Launch) (G : kb_G) (h : Nat) (tp : Nat) (ld : Nat) (rd : Nat) (tr : Nat) (sp : Nat) (r0 : Nat) (r1 : Nat) (r2 : Nat) (r3 : Nat) (r4 : Nat) (r5 : Nat) (r6 : Nat) (r7 : Nat) (r8 : Nat) (r9 : Nat) (r10 : Nat) (r11 : Nat) (L : Int32) (P : Int32) (a1 : Nat) : kb_ci l G ⟨"TreePress", "node", "(II)I"⟩ prog_1_method_13_code 3 (some .int) 7 0 0 [.ref h, .int 0, .int 0] [kb_o h 3 [.ref tp, .ref ld, .ref rd, .ref tr, .ref sp], kb_o tr 2 [.ref r0, .ref r1, .ref r2, .ref r3, .ref r4, .ref r5, .ref r6, .ref r7, .ref r8, .ref r9, .ref r10, .ref r11, .int L, .int P], kb_o r1 1 [.ref a1, .int 1], kb_a G a1 16 (upd (fun _ => 0) 0 (-1))] (fun r u => r = (-1)) (fun u => []) := by
  intro sz
  refine kb_body (QQ := fun A => kb_Qi G A (fun r u => r = (-1)) (fun u => [])) (by decide) (Nat.le_of_ble_eq_true rfl) ?_
  intro p e s m below meth c A B ls hl
  obtain ⟨hx, hb, hr, hml, hlocks, hin, hown, ht, hE, hP, hD, hS⟩ := B
  have hl : lv_has ls 3 [(0, .ref h), (1, .int 0), (2, .int 0)] := hl
  have hP0 := hP
  obtain ⟨H, hHe⟩ : ∃ H, H = s.heap := ⟨_, rfl⟩
  rw [← hHe] at hP
  have hS : va_S A s.heap H [] := by rw [hHe]; exact hS
  refine kb_at hHe ?_
  clear hHe
  refine lv_aload_n hx hb d_Press_node_0 rfl (lv_at hl 0 rfl) ?_
  refine lv_iload_n hx hb d_Press_node_1 rfl (lv_at hl 1 rfl) ?_
  refine kb_v (wc := [kb_o h 3 [.ref tp, .ref ld, .ref rd, .ref tr, .ref sp], kb_o tr 2 [.ref r0, .ref r1, .ref r2, .ref r3, .ref r4, .ref r5, .ref r6, .ref r7, .ref r8, .ref r9, .ref r10, .ref r11, .int L, .int P], kb_o r1 1 [.ref a1, .int 1]]) (wr := [kb_a G a1 16 (upd (fun _ => 0) 0 (-1))]) hE hP hD hS [0, 1, 2] [3] rfl rfl (by decide) (by decide) (kb_rV (As := [.int 0]) (rest := []) (wc := [kb_o h 3 [.ref tp, .ref ld, .ref rd, .ref tr, .ref sp], kb_o tr 2 [.ref r0, .ref r1, .ref r2, .ref r3, .ref r4, .ref r5, .ref r6, .ref r7, .ref r8, .ref r9, .ref r10, .ref r11, .int L, .int P], kb_o r1 1 [.ref a1, .int 1]]) (q0 := 0) ⟨hx, hb, hml, hown, ht⟩ ((c_Press_refuseNode0 l G h tp ld rd tr sp r0 r1 r2 r3 r4 r5 r6 r7 r8 r9 r10 r11 L P a1) _) (kb_gV wd_cef057ed wd_8ab2e778 wd_df57965e wd_28603eaf wd_aac2f91e) ⟨rfl, hd_9eec11a5⟩ ⟨(Nat.le_of_ble_eq_true rfl), (Nat.le_of_ble_eq_true rfl)⟩ hE hP hD hS [0, 1, 2] rfl (by decide) rfl rfl rfl hl.1 rfl (Nat.le_of_ble_eq_true rfl) d_Press_node_2 ⟨(Nat.le_of_ble_eq_true rfl), (Nat.le_of_ble_eq_true rfl)⟩) (fun uu1 H locs hw hP hD hS => ?_)
  have hP : va_P G.1 kb_cl [kb_a G a1 16 (upd (fun _ => 0) 0 (-1)), kb_o h 3 [.ref tp, .ref ld, .ref rd, .ref tr, .ref sp], kb_o tr 2 [.ref r0, .ref r1, .ref r2, .ref r3, .ref r4, .ref r5, .ref r6, .ref r7, .ref r8, .ref r9, .ref r10, .ref r11, .int L, .int P], kb_o r1 1 [.ref a1, .int 1]] H := hP
  have hD : va_D A [kb_a G a1 16 (upd (fun _ => 0) 0 (-1)), kb_o h 3 [.ref tp, .ref ld, .ref rd, .ref tr, .ref sp], kb_o tr 2 [.ref r0, .ref r1, .ref r2, .ref r3, .ref r4, .ref r5, .ref r6, .ref r7, .ref r8, .ref r9, .ref r10, .ref r11, .int L, .int P], kb_o r1 1 [.ref a1, .int 1]] := hD
  refine lv_iload_n hx hb d_Press_node_5 rfl (lv_at hl 2 rfl) ?_
  refine lv_tableIn (tgt := 36) (off := 30) hx hb d_Press_node_6 (by decide) (by decide) (by decide) (by decide) ?_
  refine lv_aload_n hx hb d_Press_node_36 rfl (lv_at hl 0 rfl) ?_
  refine va_get (D := G.1) (ci := 3) (v := .ref tr) (C := "TreePress") (T := kb_F3) (N := 5) hx hb ht kb_w3 hown hE.1 hP 1 rfl rfl 3 (by decide) (ht _ wd_29809c8a) (fun _ h9 => h9) rfl d_Press_node_37 ?_
  refine lv_iload_n hx hb d_Press_node_40 rfl (lv_at hl 1 rfl) ?_
  refine kb_i (wc := [kb_o tr 2 [.ref r0, .ref r1, .ref r2, .ref r3, .ref r4, .ref r5, .ref r6, .ref r7, .ref r8, .ref r9, .ref r10, .ref r11, .int L, .int P], kb_o r1 1 [.ref a1, .int 1], kb_a G a1 16 (upd (fun _ => 0) 0 (-1))]) (wr := [kb_o h 3 [.ref tp, .ref ld, .ref rd, .ref tr, .ref sp]]) hE hP hD hS [2, 3, 0] [1] rfl rfl (by decide) (by decide) (kb_rV (As := [.int 0]) (rest := []) (wc := [kb_o tr 2 [.ref r0, .ref r1, .ref r2, .ref r3, .ref r4, .ref r5, .ref r6, .ref r7, .ref r8, .ref r9, .ref r10, .ref r11, .int L, .int P], kb_o r1 1 [.ref a1, .int 1], kb_a G a1 16 (upd (fun _ => 0) 0 (-1))]) (q0 := 0) ⟨hx, hb, hml, hown, ht⟩ ((c_Tree_parentOf l G tr r0 r1 r2 r3 r4 r5 r6 r7 r8 r9 r10 r11 L P a1 (upd (fun _ => 0) 0 (-1))) _) (kb_gV wd_027edd69 wd_e9a4ab07 wd_965ae80d wd_ebf91e09 wd_1d64fd41) ⟨rfl, hd_452d295b⟩ ⟨(Nat.le_of_ble_eq_true rfl), (Nat.le_of_ble_eq_true rfl)⟩ hE hP hD hS [2, 3, 0] rfl (by decide) rfl rfl rfl hl.1 rfl (Nat.le_of_ble_eq_true rfl) d_Press_node_41 ⟨(Nat.le_of_ble_eq_true rfl), (Nat.le_of_ble_eq_true rfl)⟩) (fun rv4 uu3 H locs hw hP hD hS => ?_)
  have hP : va_P G.1 kb_cl [kb_o h 3 [.ref tp, .ref ld, .ref rd, .ref tr, .ref sp], kb_o tr 2 [.ref r0, .ref r1, .ref r2, .ref r3, .ref r4, .ref r5, .ref r6, .ref r7, .ref r8, .ref r9, .ref r10, .ref r11, .int L, .int P], kb_o r1 1 [.ref a1, .int 1], kb_a G a1 16 (upd (fun _ => 0) 0 (-1))] H := hP
  have hD : va_D A [kb_o h 3 [.ref tp, .ref ld, .ref rd, .ref tr, .ref sp], kb_o tr 2 [.ref r0, .ref r1, .ref r2, .ref r3, .ref r4, .ref r5, .ref r6, .ref r7, .ref r8, .ref r9, .ref r10, .ref r11, .int L, .int P], kb_o r1 1 [.ref a1, .int 1], kb_a G a1 16 (upd (fun _ => 0) 0 (-1))] := hD
  refine kb_top (y := (-1)) (show rv4 = (-1) from hw) ?_
  exact kb_reti (kb_l [], kb_f []) hx hb hr hlocks hE hP hD hS [] rfl (by decide) rfl rfl (Nat.le_of_ble_eq_true rfl) (Nat.le_of_ble_eq_true rfl) d_Press_node_44

set_option maxHeartbeats 4000000 in
set_option maxRecDepth 100000 in
theorem c_Press_node1 (l : Launch) (G : kb_G) (h : Nat) (tp : Nat) (ld : Nat) (rd : Nat) (tr : Nat) (sp : Nat) (r0 : Nat) (r1 : Nat) (r2 : Nat) (r3 : Nat) (r4 : Nat) (r5 : Nat) (r6 : Nat) (r7 : Nat) (r8 : Nat) (r9 : Nat) (r10 : Nat) (r11 : Nat) (L : Int32) (P : Int32) (a1 : Nat) (a6 : Nat) : kb_ci l G ⟨"TreePress", "node", "(II)I"⟩ prog_1_method_13_code 3 (some .int) 7 0 0 [.ref h, .int 0, .int 1] [kb_o h 3 [.ref tp, .ref ld, .ref rd, .ref tr, .ref sp], kb_o tr 2 [.ref r0, .ref r1, .ref r2, .ref r3, .ref r4, .ref r5, .ref r6, .ref r7, .ref r8, .ref r9, .ref r10, .ref r11, .int L, .int P], kb_o r1 1 [.ref a1, .int 1], kb_o r6 1 [.ref a6, .int 1], kb_a G a6 16 (upd (fun _ => 0) 0 0)] (fun r u => r = 0) (fun u => []) := by
  intro sz
  refine kb_body (QQ := fun A => kb_Qi G A (fun r u => r = 0) (fun u => [])) (by decide) (Nat.le_of_ble_eq_true rfl) ?_
  intro p e s m below meth c A B ls hl
  obtain ⟨hx, hb, hr, hml, hlocks, hin, hown, ht, hE, hP, hD, hS⟩ := B
  have hl : lv_has ls 3 [(0, .ref h), (1, .int 0), (2, .int 1)] := hl
  have hP0 := hP
  obtain ⟨H, hHe⟩ : ∃ H, H = s.heap := ⟨_, rfl⟩
  rw [← hHe] at hP
  have hS : va_S A s.heap H [] := by rw [hHe]; exact hS
  refine kb_at hHe ?_
  clear hHe
  refine lv_aload_n hx hb d_Press_node_0 rfl (lv_at hl 0 rfl) ?_
  refine lv_iload_n hx hb d_Press_node_1 rfl (lv_at hl 1 rfl) ?_
  refine kb_v (wc := [kb_o h 3 [.ref tp, .ref ld, .ref rd, .ref tr, .ref sp], kb_o tr 2 [.ref r0, .ref r1, .ref r2, .ref r3, .ref r4, .ref r5, .ref r6, .ref r7, .ref r8, .ref r9, .ref r10, .ref r11, .int L, .int P], kb_o r1 1 [.ref a1, .int 1]]) (wr := [kb_o r6 1 [.ref a6, .int 1], kb_a G a6 16 (upd (fun _ => 0) 0 0)]) hE hP hD hS [0, 1, 2] [3, 4] rfl rfl (by decide) (by decide) (kb_rV (As := [.int 0]) (rest := []) (wc := [kb_o h 3 [.ref tp, .ref ld, .ref rd, .ref tr, .ref sp], kb_o tr 2 [.ref r0, .ref r1, .ref r2, .ref r3, .ref r4, .ref r5, .ref r6, .ref r7, .ref r8, .ref r9, .ref r10, .ref r11, .int L, .int P], kb_o r1 1 [.ref a1, .int 1]]) (q0 := 0) ⟨hx, hb, hml, hown, ht⟩ ((c_Press_refuseNode0 l G h tp ld rd tr sp r0 r1 r2 r3 r4 r5 r6 r7 r8 r9 r10 r11 L P a1) _) (kb_gV wd_cef057ed wd_8ab2e778 wd_df57965e wd_28603eaf wd_aac2f91e) ⟨rfl, hd_9eec11a5⟩ ⟨(Nat.le_of_ble_eq_true rfl), (Nat.le_of_ble_eq_true rfl)⟩ hE hP hD hS [0, 1, 2] rfl (by decide) rfl rfl rfl hl.1 rfl (Nat.le_of_ble_eq_true rfl) d_Press_node_2 ⟨(Nat.le_of_ble_eq_true rfl), (Nat.le_of_ble_eq_true rfl)⟩) (fun uu1 H locs hw hP hD hS => ?_)
  have hP : va_P G.1 kb_cl [kb_o r6 1 [.ref a6, .int 1], kb_a G a6 16 (upd (fun _ => 0) 0 0), kb_o h 3 [.ref tp, .ref ld, .ref rd, .ref tr, .ref sp], kb_o tr 2 [.ref r0, .ref r1, .ref r2, .ref r3, .ref r4, .ref r5, .ref r6, .ref r7, .ref r8, .ref r9, .ref r10, .ref r11, .int L, .int P], kb_o r1 1 [.ref a1, .int 1]] H := hP
  have hD : va_D A [kb_o r6 1 [.ref a6, .int 1], kb_a G a6 16 (upd (fun _ => 0) 0 0), kb_o h 3 [.ref tp, .ref ld, .ref rd, .ref tr, .ref sp], kb_o tr 2 [.ref r0, .ref r1, .ref r2, .ref r3, .ref r4, .ref r5, .ref r6, .ref r7, .ref r8, .ref r9, .ref r10, .ref r11, .int L, .int P], kb_o r1 1 [.ref a1, .int 1]] := hD
  refine lv_iload_n hx hb d_Press_node_5 rfl (lv_at hl 2 rfl) ?_
  refine lv_tableIn (tgt := 45) (off := 39) hx hb d_Press_node_6 (by decide) (by decide) (by decide) (by decide) ?_
  refine lv_aload_n hx hb d_Press_node_45 rfl (lv_at hl 0 rfl) ?_
  refine va_get (D := G.1) (ci := 3) (v := .ref tr) (C := "TreePress") (T := kb_F3) (N := 5) hx hb ht kb_w3 hown hE.1 hP 2 rfl rfl 3 (by decide) (ht _ wd_29809c8a) (fun _ h9 => h9) rfl d_Press_node_46 ?_
  refine lv_iload_n hx hb d_Press_node_49 rfl (lv_at hl 1 rfl) ?_
  refine kb_i (wc := [kb_o tr 2 [.ref r0, .ref r1, .ref r2, .ref r3, .ref r4, .ref r5, .ref r6, .ref r7, .ref r8, .ref r9, .ref r10, .ref r11, .int L, .int P], kb_o r6 1 [.ref a6, .int 1], kb_a G a6 16 (upd (fun _ => 0) 0 0)]) (wr := [kb_o h 3 [.ref tp, .ref ld, .ref rd, .ref tr, .ref sp], kb_o r1 1 [.ref a1, .int 1]]) hE hP hD hS [3, 0, 1] [2, 4] rfl rfl (by decide) (by decide) (kb_rV (As := [.int 0]) (rest := []) (wc := [kb_o tr 2 [.ref r0, .ref r1, .ref r2, .ref r3, .ref r4, .ref r5, .ref r6, .ref r7, .ref r8, .ref r9, .ref r10, .ref r11, .int L, .int P], kb_o r6 1 [.ref a6, .int 1], kb_a G a6 16 (upd (fun _ => 0) 0 0)]) (q0 := 0) ⟨hx, hb, hml, hown, ht⟩ ((c_Tree_propertiesOf l G tr r0 r1 r2 r3 r4 r5 r6 r7 r8 r9 r10 r11 L P a6 (upd (fun _ => 0) 0 0)) _) (kb_gV wd_a51d1720 wd_c1c67d0b wd_a7a256ac wd_ebf91e09 wd_f59b7322) ⟨rfl, hd_c0e23879⟩ ⟨(Nat.le_of_ble_eq_true rfl), (Nat.le_of_ble_eq_true rfl)⟩ hE hP hD hS [3, 0, 1] rfl (by decide) rfl rfl rfl hl.1 rfl (Nat.le_of_ble_eq_true rfl) d_Press_node_50 ⟨(Nat.le_of_ble_eq_true rfl), (Nat.le_of_ble_eq_true rfl)⟩) (fun rv4 uu3 H locs hw hP hD hS => ?_)
  have hP : va_P G.1 kb_cl [kb_o h 3 [.ref tp, .ref ld, .ref rd, .ref tr, .ref sp], kb_o r1 1 [.ref a1, .int 1], kb_o tr 2 [.ref r0, .ref r1, .ref r2, .ref r3, .ref r4, .ref r5, .ref r6, .ref r7, .ref r8, .ref r9, .ref r10, .ref r11, .int L, .int P], kb_o r6 1 [.ref a6, .int 1], kb_a G a6 16 (upd (fun _ => 0) 0 0)] H := hP
  have hD : va_D A [kb_o h 3 [.ref tp, .ref ld, .ref rd, .ref tr, .ref sp], kb_o r1 1 [.ref a1, .int 1], kb_o tr 2 [.ref r0, .ref r1, .ref r2, .ref r3, .ref r4, .ref r5, .ref r6, .ref r7, .ref r8, .ref r9, .ref r10, .ref r11, .int L, .int P], kb_o r6 1 [.ref a6, .int 1], kb_a G a6 16 (upd (fun _ => 0) 0 0)] := hD
  refine kb_top (y := 0) (show rv4 = 0 from hw) ?_
  exact kb_reti (kb_l [], kb_f []) hx hb hr hlocks hE hP hD hS [] rfl (by decide) rfl rfl (Nat.le_of_ble_eq_true rfl) (Nat.le_of_ble_eq_true rfl) d_Press_node_53

set_option maxHeartbeats 4000000 in
set_option maxRecDepth 100000 in
theorem c_Press_node2 (l : Launch) (G : kb_G) (h : Nat) (tp : Nat) (ld : Nat) (rd : Nat) (tr : Nat) (sp : Nat) (r0 : Nat) (r1 : Nat) (r2 : Nat) (r3 : Nat) (r4 : Nat) (r5 : Nat) (r6 : Nat) (r7 : Nat) (r8 : Nat) (r9 : Nat) (r10 : Nat) (r11 : Nat) (L : Int32) (P : Int32) (a1 : Nat) (a6 : Nat) : kb_ci l G ⟨"TreePress", "node", "(II)I"⟩ prog_1_method_13_code 3 (some .int) 7 0 0 [.ref h, .int 0, .int 2] [kb_o h 3 [.ref tp, .ref ld, .ref rd, .ref tr, .ref sp], kb_o tr 2 [.ref r0, .ref r1, .ref r2, .ref r3, .ref r4, .ref r5, .ref r6, .ref r7, .ref r8, .ref r9, .ref r10, .ref r11, .int L, .int P], kb_o r1 1 [.ref a1, .int 1], kb_o r6 1 [.ref a6, .int 1], kb_a G a6 16 (upd (fun _ => 0) 0 0)] (fun r u => r = (-1)) (fun u => []) := by
  intro sz
  refine kb_body (QQ := fun A => kb_Qi G A (fun r u => r = (-1)) (fun u => [])) (by decide) (Nat.le_of_ble_eq_true rfl) ?_
  intro p e s m below meth c A B ls hl
  obtain ⟨hx, hb, hr, hml, hlocks, hin, hown, ht, hE, hP, hD, hS⟩ := B
  have hl : lv_has ls 3 [(0, .ref h), (1, .int 0), (2, .int 2)] := hl
  have hP0 := hP
  obtain ⟨H, hHe⟩ : ∃ H, H = s.heap := ⟨_, rfl⟩
  rw [← hHe] at hP
  have hS : va_S A s.heap H [] := by rw [hHe]; exact hS
  refine kb_at hHe ?_
  clear hHe
  refine lv_aload_n hx hb d_Press_node_0 rfl (lv_at hl 0 rfl) ?_
  refine lv_iload_n hx hb d_Press_node_1 rfl (lv_at hl 1 rfl) ?_
  refine kb_v (wc := [kb_o h 3 [.ref tp, .ref ld, .ref rd, .ref tr, .ref sp], kb_o tr 2 [.ref r0, .ref r1, .ref r2, .ref r3, .ref r4, .ref r5, .ref r6, .ref r7, .ref r8, .ref r9, .ref r10, .ref r11, .int L, .int P], kb_o r1 1 [.ref a1, .int 1]]) (wr := [kb_o r6 1 [.ref a6, .int 1], kb_a G a6 16 (upd (fun _ => 0) 0 0)]) hE hP hD hS [0, 1, 2] [3, 4] rfl rfl (by decide) (by decide) (kb_rV (As := [.int 0]) (rest := []) (wc := [kb_o h 3 [.ref tp, .ref ld, .ref rd, .ref tr, .ref sp], kb_o tr 2 [.ref r0, .ref r1, .ref r2, .ref r3, .ref r4, .ref r5, .ref r6, .ref r7, .ref r8, .ref r9, .ref r10, .ref r11, .int L, .int P], kb_o r1 1 [.ref a1, .int 1]]) (q0 := 0) ⟨hx, hb, hml, hown, ht⟩ ((c_Press_refuseNode0 l G h tp ld rd tr sp r0 r1 r2 r3 r4 r5 r6 r7 r8 r9 r10 r11 L P a1) _) (kb_gV wd_cef057ed wd_8ab2e778 wd_df57965e wd_28603eaf wd_aac2f91e) ⟨rfl, hd_9eec11a5⟩ ⟨(Nat.le_of_ble_eq_true rfl), (Nat.le_of_ble_eq_true rfl)⟩ hE hP hD hS [0, 1, 2] rfl (by decide) rfl rfl rfl hl.1 rfl (Nat.le_of_ble_eq_true rfl) d_Press_node_2 ⟨(Nat.le_of_ble_eq_true rfl), (Nat.le_of_ble_eq_true rfl)⟩) (fun uu1 H locs hw hP hD hS => ?_)
  have hP : va_P G.1 kb_cl [kb_o r6 1 [.ref a6, .int 1], kb_a G a6 16 (upd (fun _ => 0) 0 0), kb_o h 3 [.ref tp, .ref ld, .ref rd, .ref tr, .ref sp], kb_o tr 2 [.ref r0, .ref r1, .ref r2, .ref r3, .ref r4, .ref r5, .ref r6, .ref r7, .ref r8, .ref r9, .ref r10, .ref r11, .int L, .int P], kb_o r1 1 [.ref a1, .int 1]] H := hP
  have hD : va_D A [kb_o r6 1 [.ref a6, .int 1], kb_a G a6 16 (upd (fun _ => 0) 0 0), kb_o h 3 [.ref tp, .ref ld, .ref rd, .ref tr, .ref sp], kb_o tr 2 [.ref r0, .ref r1, .ref r2, .ref r3, .ref r4, .ref r5, .ref r6, .ref r7, .ref r8, .ref r9, .ref r10, .ref r11, .int L, .int P], kb_o r1 1 [.ref a1, .int 1]] := hD
  refine lv_iload_n hx hb d_Press_node_5 rfl (lv_at hl 2 rfl) ?_
  refine lv_tableIn (tgt := 54) (off := 48) hx hb d_Press_node_6 (by decide) (by decide) (by decide) (by decide) ?_
  refine lv_aload_n hx hb d_Press_node_54 rfl (lv_at hl 0 rfl) ?_
  refine va_get (D := G.1) (ci := 3) (v := .ref tr) (C := "TreePress") (T := kb_F3) (N := 5) hx hb ht kb_w3 hown hE.1 hP 2 rfl rfl 3 (by decide) (ht _ wd_29809c8a) (fun _ h9 => h9) rfl d_Press_node_55 ?_
  refine lv_iload_n hx hb d_Press_node_58 rfl (lv_at hl 1 rfl) ?_
  refine kb_i (wc := [kb_o tr 2 [.ref r0, .ref r1, .ref r2, .ref r3, .ref r4, .ref r5, .ref r6, .ref r7, .ref r8, .ref r9, .ref r10, .ref r11, .int L, .int P], kb_o r6 1 [.ref a6, .int 1], kb_a G a6 16 (upd (fun _ => 0) 0 0)]) (wr := [kb_o h 3 [.ref tp, .ref ld, .ref rd, .ref tr, .ref sp], kb_o r1 1 [.ref a1, .int 1]]) hE hP hD hS [3, 0, 1] [2, 4] rfl rfl (by decide) (by decide) (kb_rV (As := [.int 0]) (rest := []) (wc := [kb_o tr 2 [.ref r0, .ref r1, .ref r2, .ref r3, .ref r4, .ref r5, .ref r6, .ref r7, .ref r8, .ref r9, .ref r10, .ref r11, .int L, .int P], kb_o r6 1 [.ref a6, .int 1], kb_a G a6 16 (upd (fun _ => 0) 0 0)]) (q0 := 0) ⟨hx, hb, hml, hown, ht⟩ ((c_Tree_propertiesOf l G tr r0 r1 r2 r3 r4 r5 r6 r7 r8 r9 r10 r11 L P a6 (upd (fun _ => 0) 0 0)) _) (kb_gV wd_a51d1720 wd_c1c67d0b wd_a7a256ac wd_ebf91e09 wd_f59b7322) ⟨rfl, hd_c0e23879⟩ ⟨(Nat.le_of_ble_eq_true rfl), (Nat.le_of_ble_eq_true rfl)⟩ hE hP hD hS [3, 0, 1] rfl (by decide) rfl rfl rfl hl.1 rfl (Nat.le_of_ble_eq_true rfl) d_Press_node_59 ⟨(Nat.le_of_ble_eq_true rfl), (Nat.le_of_ble_eq_true rfl)⟩) (fun rv4 uu3 H locs hw hP hD hS => ?_)
  have hP : va_P G.1 kb_cl [kb_o h 3 [.ref tp, .ref ld, .ref rd, .ref tr, .ref sp], kb_o r1 1 [.ref a1, .int 1], kb_o tr 2 [.ref r0, .ref r1, .ref r2, .ref r3, .ref r4, .ref r5, .ref r6, .ref r7, .ref r8, .ref r9, .ref r10, .ref r11, .int L, .int P], kb_o r6 1 [.ref a6, .int 1], kb_a G a6 16 (upd (fun _ => 0) 0 0)] H := hP
  have hD : va_D A [kb_o h 3 [.ref tp, .ref ld, .ref rd, .ref tr, .ref sp], kb_o r1 1 [.ref a1, .int 1], kb_o tr 2 [.ref r0, .ref r1, .ref r2, .ref r3, .ref r4, .ref r5, .ref r6, .ref r7, .ref r8, .ref r9, .ref r10, .ref r11, .int L, .int P], kb_o r6 1 [.ref a6, .int 1], kb_a G a6 16 (upd (fun _ => 0) 0 0)] := hD
  refine kb_top (y := 0) (show rv4 = 0 from hw) ?_
  refine lv_if_ne (tgt := 69) hx hb d_Press_node_62 (by decide) (fun c9 => absurd (by decide) c9) (fun c9 => ?_)
  refine lv_iconst (v := (-1)) hx hb d_Press_node_65 (by decide) ?_
  refine lv_goto (tgt := 77) hx hb d_Press_node_66 (by decide) ?_
  exact kb_reti (kb_l [], kb_f []) hx hb hr hlocks hE hP hD hS [] rfl (by decide) rfl rfl (Nat.le_of_ble_eq_true rfl) (Nat.le_of_ble_eq_true rfl) d_Press_node_77

set_option maxHeartbeats 4000000 in
set_option maxRecDepth 100000 in
theorem c_Press_node3 (l : Launch) (G : kb_G) (h : Nat) (tp : Nat) (ld : Nat) (rd : Nat) (tr : Nat) (sp : Nat) (r0 : Nat) (r1 : Nat) (r2 : Nat) (r3 : Nat) (r4 : Nat) (r5 : Nat) (r6 : Nat) (r7 : Nat) (r8 : Nat) (r9 : Nat) (r10 : Nat) (r11 : Nat) (L : Int32) (P : Int32) (a1 : Nat) (a4 : Nat) : kb_ci l G ⟨"TreePress", "node", "(II)I"⟩ prog_1_method_13_code 3 (some .int) 7 0 0 [.ref h, .int 0, .int 3] [kb_o h 3 [.ref tp, .ref ld, .ref rd, .ref tr, .ref sp], kb_o tr 2 [.ref r0, .ref r1, .ref r2, .ref r3, .ref r4, .ref r5, .ref r6, .ref r7, .ref r8, .ref r9, .ref r10, .ref r11, .int L, .int P], kb_o r1 1 [.ref a1, .int 1], kb_o r4 1 [.ref a4, .int 1], kb_a G a4 16 (upd (fun _ => 0) 0 0)] (fun r u => r = 0) (fun u => []) := by
  intro sz
  refine kb_body (QQ := fun A => kb_Qi G A (fun r u => r = 0) (fun u => [])) (by decide) (Nat.le_of_ble_eq_true rfl) ?_
  intro p e s m below meth c A B ls hl
  obtain ⟨hx, hb, hr, hml, hlocks, hin, hown, ht, hE, hP, hD, hS⟩ := B
  have hl : lv_has ls 3 [(0, .ref h), (1, .int 0), (2, .int 3)] := hl
  have hP0 := hP
  obtain ⟨H, hHe⟩ : ∃ H, H = s.heap := ⟨_, rfl⟩
  rw [← hHe] at hP
  have hS : va_S A s.heap H [] := by rw [hHe]; exact hS
  refine kb_at hHe ?_
  clear hHe
  refine lv_aload_n hx hb d_Press_node_0 rfl (lv_at hl 0 rfl) ?_
  refine lv_iload_n hx hb d_Press_node_1 rfl (lv_at hl 1 rfl) ?_
  refine kb_v (wc := [kb_o h 3 [.ref tp, .ref ld, .ref rd, .ref tr, .ref sp], kb_o tr 2 [.ref r0, .ref r1, .ref r2, .ref r3, .ref r4, .ref r5, .ref r6, .ref r7, .ref r8, .ref r9, .ref r10, .ref r11, .int L, .int P], kb_o r1 1 [.ref a1, .int 1]]) (wr := [kb_o r4 1 [.ref a4, .int 1], kb_a G a4 16 (upd (fun _ => 0) 0 0)]) hE hP hD hS [0, 1, 2] [3, 4] rfl rfl (by decide) (by decide) (kb_rV (As := [.int 0]) (rest := []) (wc := [kb_o h 3 [.ref tp, .ref ld, .ref rd, .ref tr, .ref sp], kb_o tr 2 [.ref r0, .ref r1, .ref r2, .ref r3, .ref r4, .ref r5, .ref r6, .ref r7, .ref r8, .ref r9, .ref r10, .ref r11, .int L, .int P], kb_o r1 1 [.ref a1, .int 1]]) (q0 := 0) ⟨hx, hb, hml, hown, ht⟩ ((c_Press_refuseNode0 l G h tp ld rd tr sp r0 r1 r2 r3 r4 r5 r6 r7 r8 r9 r10 r11 L P a1) _) (kb_gV wd_cef057ed wd_8ab2e778 wd_df57965e wd_28603eaf wd_aac2f91e) ⟨rfl, hd_9eec11a5⟩ ⟨(Nat.le_of_ble_eq_true rfl), (Nat.le_of_ble_eq_true rfl)⟩ hE hP hD hS [0, 1, 2] rfl (by decide) rfl rfl rfl hl.1 rfl (Nat.le_of_ble_eq_true rfl) d_Press_node_2 ⟨(Nat.le_of_ble_eq_true rfl), (Nat.le_of_ble_eq_true rfl)⟩) (fun uu1 H locs hw hP hD hS => ?_)
  have hP : va_P G.1 kb_cl [kb_o r4 1 [.ref a4, .int 1], kb_a G a4 16 (upd (fun _ => 0) 0 0), kb_o h 3 [.ref tp, .ref ld, .ref rd, .ref tr, .ref sp], kb_o tr 2 [.ref r0, .ref r1, .ref r2, .ref r3, .ref r4, .ref r5, .ref r6, .ref r7, .ref r8, .ref r9, .ref r10, .ref r11, .int L, .int P], kb_o r1 1 [.ref a1, .int 1]] H := hP
  have hD : va_D A [kb_o r4 1 [.ref a4, .int 1], kb_a G a4 16 (upd (fun _ => 0) 0 0), kb_o h 3 [.ref tp, .ref ld, .ref rd, .ref tr, .ref sp], kb_o tr 2 [.ref r0, .ref r1, .ref r2, .ref r3, .ref r4, .ref r5, .ref r6, .ref r7, .ref r8, .ref r9, .ref r10, .ref r11, .int L, .int P], kb_o r1 1 [.ref a1, .int 1]] := hD
  refine lv_iload_n hx hb d_Press_node_5 rfl (lv_at hl 2 rfl) ?_
  refine lv_tableIn (tgt := 78) (off := 72) hx hb d_Press_node_6 (by decide) (by decide) (by decide) (by decide) ?_
  refine lv_aload_n hx hb d_Press_node_78 rfl (lv_at hl 0 rfl) ?_
  refine va_get (D := G.1) (ci := 3) (v := .ref tr) (C := "TreePress") (T := kb_F3) (N := 5) hx hb ht kb_w3 hown hE.1 hP 2 rfl rfl 3 (by decide) (ht _ wd_29809c8a) (fun _ h9 => h9) rfl d_Press_node_79 ?_
  refine lv_iload_n hx hb d_Press_node_82 rfl (lv_at hl 1 rfl) ?_
  refine kb_i (wc := [kb_o tr 2 [.ref r0, .ref r1, .ref r2, .ref r3, .ref r4, .ref r5, .ref r6, .ref r7, .ref r8, .ref r9, .ref r10, .ref r11, .int L, .int P], kb_o r4 1 [.ref a4, .int 1], kb_a G a4 16 (upd (fun _ => 0) 0 0)]) (wr := [kb_o h 3 [.ref tp, .ref ld, .ref rd, .ref tr, .ref sp], kb_o r1 1 [.ref a1, .int 1]]) hE hP hD hS [3, 0, 1] [2, 4] rfl rfl (by decide) (by decide) (kb_rV (As := [.int 0]) (rest := []) (wc := [kb_o tr 2 [.ref r0, .ref r1, .ref r2, .ref r3, .ref r4, .ref r5, .ref r6, .ref r7, .ref r8, .ref r9, .ref r10, .ref r11, .int L, .int P], kb_o r4 1 [.ref a4, .int 1], kb_a G a4 16 (upd (fun _ => 0) 0 0)]) (q0 := 0) ⟨hx, hb, hml, hown, ht⟩ ((c_Tree_lengthOfNodeName l G tr r0 r1 r2 r3 r4 r5 r6 r7 r8 r9 r10 r11 L P a4 (upd (fun _ => 0) 0 0)) _) (kb_gV wd_7c0e2508 wd_13543ba7 wd_7ab071a6 wd_ebf91e09 wd_ba1edb6a) ⟨rfl, hd_e4346e9a⟩ ⟨(Nat.le_of_ble_eq_true rfl), (Nat.le_of_ble_eq_true rfl)⟩ hE hP hD hS [3, 0, 1] rfl (by decide) rfl rfl rfl hl.1 rfl (Nat.le_of_ble_eq_true rfl) d_Press_node_83 ⟨(Nat.le_of_ble_eq_true rfl), (Nat.le_of_ble_eq_true rfl)⟩) (fun rv4 uu3 H locs hw hP hD hS => ?_)
  have hP : va_P G.1 kb_cl [kb_o h 3 [.ref tp, .ref ld, .ref rd, .ref tr, .ref sp], kb_o r1 1 [.ref a1, .int 1], kb_o tr 2 [.ref r0, .ref r1, .ref r2, .ref r3, .ref r4, .ref r5, .ref r6, .ref r7, .ref r8, .ref r9, .ref r10, .ref r11, .int L, .int P], kb_o r4 1 [.ref a4, .int 1], kb_a G a4 16 (upd (fun _ => 0) 0 0)] H := hP
  have hD : va_D A [kb_o h 3 [.ref tp, .ref ld, .ref rd, .ref tr, .ref sp], kb_o r1 1 [.ref a1, .int 1], kb_o tr 2 [.ref r0, .ref r1, .ref r2, .ref r3, .ref r4, .ref r5, .ref r6, .ref r7, .ref r8, .ref r9, .ref r10, .ref r11, .int L, .int P], kb_o r4 1 [.ref a4, .int 1], kb_a G a4 16 (upd (fun _ => 0) 0 0)] := hD
  refine kb_top (y := 0) (show rv4 = 0 from hw) ?_
  exact kb_reti (kb_l [], kb_f []) hx hb hr hlocks hE hP hD hS [] rfl (by decide) rfl rfl (Nat.le_of_ble_eq_true rfl) (Nat.le_of_ble_eq_true rfl) d_Press_node_86

set_option maxHeartbeats 4000000 in
set_option maxRecDepth 100000 in
theorem c_Press_nodeX1 (l : Launch) (hst : l.stackTraces = false) (G : kb_G) (h : Nat) (tp : Nat) (ld : Nat) (rd : Nat) (tr : Nat) (sp : Nat) (r0 : Nat) (r1 : Nat) (r2 : Nat) (r3 : Nat) (r4 : Nat) (r5 : Nat) (r6 : Nat) (r7 : Nat) (r8 : Nat) (r9 : Nat) (r10 : Nat) (r11 : Nat) (L : Int32) (P : Int32) (a1 : Nat) (i : Int32) (k : Int32) (hi : ¬ i = 0) : kb_cx l G ⟨"TreePress", "node", "(II)I"⟩ prog_1_method_13_code 3 (some .int) 7 1 6 [.ref h, .int i, .int k] [kb_o h 3 [.ref tp, .ref ld, .ref rd, .ref tr, .ref sp], kb_o tr 2 [.ref r0, .ref r1, .ref r2, .ref r3, .ref r4, .ref r5, .ref r6, .ref r7, .ref r8, .ref r9, .ref r10, .ref r11, .int L, .int P], kb_o r1 1 [.ref a1, .int 1]] "java/lang/IndexOutOfBoundsException" := by
  refine kb_bodyX (by decide) (Nat.le_of_ble_eq_true rfl) ?_
  intro p e s m below meth c A B hno hAw ls hl
  obtain ⟨hx, hb, hr, hml, hlocks, hin, hown, ht, hE, hP, hD, hS⟩ := B
  have hl : lv_has ls 3 [(0, .ref h), (1, .int i), (2, .int k)] := hl
  have hP0 := hP
  obtain ⟨H, hHe⟩ : ∃ H, H = s.heap := ⟨_, rfl⟩
  rw [← hHe] at hP
  have hS : va_S A s.heap H [] := by rw [hHe]; exact hS
  refine kb_at hHe ?_
  clear hHe
  refine lv_aload_n hx hb d_Press_node_0 rfl (lv_at hl 0 rfl) ?_
  refine lv_iload_n hx hb d_Press_node_1 rfl (lv_at hl 1 rfl) ?_
  refine kb_xV (As := [.int i]) (rest := []) (wc := [kb_o h 3 [.ref tp, .ref ld, .ref rd, .ref tr, .ref sp], kb_o tr 2 [.ref r0, .ref r1, .ref r2, .ref r3, .ref r4, .ref r5, .ref r6, .ref r7, .ref r8, .ref r9, .ref r10, .ref r11, .int L, .int P], kb_o r1 1 [.ref a1, .int 1]]) (wr := []) (q0 := 0) ⟨hx, hb, hml, hown, ht⟩ (c_Press_refuseNodeX l hst G h tp ld rd tr sp r0 r1 r2 r3 r4 r5 r6 r7 r8 r9 r10 r11 L P a1 i hi) wd_cef057ed wd_8ab2e778 wd_df57965e wd_28603eaf wd_aac2f91e hd_9eec11a5 ⟨(Nat.le_of_ble_eq_true rfl), (Nat.le_of_ble_eq_true rfl)⟩ hE hP hD hS [0, 1, 2] [] rfl rfl (by decide) (by decide) (by decide) rfl rfl rfl hl.1 rfl (Nat.le_of_ble_eq_true rfl) d_Press_node_2 ⟨(Nat.le_of_ble_eq_true rfl), (Nat.le_of_ble_eq_true rfl)⟩ (fun q9 ce H locs hce hcv hcl hP hD hS => ?_)
  exact kb_out hno hlocks hce hcv hcl hS (Nat.le_of_ble_eq_true rfl) (Nat.le_of_ble_eq_true rfl)

set_option maxHeartbeats 4000000 in
set_option maxRecDepth 100000 in
theorem c_Press_nodeX2 (l : Launch) (hst : l.stackTraces = false) (G : kb_G) (h : Nat) (tp : Nat) (ld : Nat) (rd : Nat) (tr : Nat) (sp : Nat) (r0 : Nat) (r1 : Nat) (r2 : Nat) (r3 : Nat) (r4 : Nat) (r5 : Nat) (r6 : Nat) (r7 : Nat) (r8 : Nat) (r9 : Nat) (r10 : Nat) (r11 : Nat) (L : Int32) (P : Int32) (a1 : Nat) (k : Int32) (hk : k.toInt < 0 ∨ 3 < k.toInt) : kb_cx l G ⟨"TreePress", "node", "(II)I"⟩ prog_1_method_13_code 3 (some .int) 7 1 6 [.ref h, .int 0, .int k] [kb_o h 3 [.ref tp, .ref ld, .ref rd, .ref tr, .ref sp], kb_o tr 2 [.ref r0, .ref r1, .ref r2, .ref r3, .ref r4, .ref r5, .ref r6, .ref r7, .ref r8, .ref r9, .ref r10, .ref r11, .int L, .int P], kb_o r1 1 [.ref a1, .int 1]] "java/lang/IllegalArgumentException" := by
  refine kb_bodyX (by decide) (Nat.le_of_ble_eq_true rfl) ?_
  intro p e s m below meth c A B hno hAw ls hl
  obtain ⟨hx, hb, hr, hml, hlocks, hin, hown, ht, hE, hP, hD, hS⟩ := B
  have hl : lv_has ls 3 [(0, .ref h), (1, .int 0), (2, .int k)] := hl
  have hP0 := hP
  obtain ⟨H, hHe⟩ : ∃ H, H = s.heap := ⟨_, rfl⟩
  rw [← hHe] at hP
  have hS : va_S A s.heap H [] := by rw [hHe]; exact hS
  refine kb_at hHe ?_
  clear hHe
  refine lv_aload_n hx hb d_Press_node_0 rfl (lv_at hl 0 rfl) ?_
  refine lv_iload_n hx hb d_Press_node_1 rfl (lv_at hl 1 rfl) ?_
  refine kb_v (wc := [kb_o h 3 [.ref tp, .ref ld, .ref rd, .ref tr, .ref sp], kb_o tr 2 [.ref r0, .ref r1, .ref r2, .ref r3, .ref r4, .ref r5, .ref r6, .ref r7, .ref r8, .ref r9, .ref r10, .ref r11, .int L, .int P], kb_o r1 1 [.ref a1, .int 1]]) (wr := []) hE hP hD hS [0, 1, 2] [] rfl rfl (by decide) (by decide) (kb_rV (As := [.int 0]) (rest := []) (wc := [kb_o h 3 [.ref tp, .ref ld, .ref rd, .ref tr, .ref sp], kb_o tr 2 [.ref r0, .ref r1, .ref r2, .ref r3, .ref r4, .ref r5, .ref r6, .ref r7, .ref r8, .ref r9, .ref r10, .ref r11, .int L, .int P], kb_o r1 1 [.ref a1, .int 1]]) (q0 := 0) ⟨hx, hb, hml, hown, ht⟩ ((c_Press_refuseNode0 l G h tp ld rd tr sp r0 r1 r2 r3 r4 r5 r6 r7 r8 r9 r10 r11 L P a1) _) (kb_gV wd_cef057ed wd_8ab2e778 wd_df57965e wd_28603eaf wd_aac2f91e) ⟨rfl, hd_9eec11a5⟩ ⟨(Nat.le_of_ble_eq_true rfl), (Nat.le_of_ble_eq_true rfl)⟩ hE hP hD hS [0, 1, 2] rfl (by decide) rfl rfl rfl hl.1 rfl (Nat.le_of_ble_eq_true rfl) d_Press_node_2 ⟨(Nat.le_of_ble_eq_true rfl), (Nat.le_of_ble_eq_true rfl)⟩) (fun uu1 H locs hw hP hD hS => ?_)
  have hP : va_P G.1 kb_cl [kb_o h 3 [.ref tp, .ref ld, .ref rd, .ref tr, .ref sp], kb_o tr 2 [.ref r0, .ref r1, .ref r2, .ref r3, .ref r4, .ref r5, .ref r6, .ref r7, .ref r8, .ref r9, .ref r10, .ref r11, .int L, .int P], kb_o r1 1 [.ref a1, .int 1]] H := hP
  have hD : va_D A [kb_o h 3 [.ref tp, .ref ld, .ref rd, .ref tr, .ref sp], kb_o tr 2 [.ref r0, .ref r1, .ref r2, .ref r3, .ref r4, .ref r5, .ref r6, .ref r7, .ref r8, .ref r9, .ref r10, .ref r11, .int L, .int P], kb_o r1 1 [.ref a1, .int 1]] := hD
  refine lv_iload_n hx hb d_Press_node_5 rfl (lv_at hl 2 rfl) ?_
  refine lv_tableOut (tgt := 87) hx hb d_Press_node_6 hk (by decide) ?_
  exact kb_throw (E := "java/lang/IllegalArgumentException") (names := kb_names) (wi := [kb_o h 3 [.ref tp, .ref ld, .ref rd, .ref tr, .ref sp], kb_o tr 2 [.ref r0, .ref r1, .ref r2, .ref r3, .ref r4, .ref r5, .ref r6, .ref r7, .ref r8, .ref r9, .ref r10, .ref r11, .int L, .int P], kb_o r1 1 [.ref a1, .int 1]]) hx hb hst hown ht hE (by decide +kernel) (by decide +kernel) wd_c02bd52e wd_2cf38b0f kb_own_IllegalArgument kb_ownb_IllegalArgument (by decide +kernel) (List.mem_of_getElem? (i := 8) rfl) hP0 hAw hS (hl.1.trans hml.symm) hno hlocks d_Press_node_87 d_Press_node_90 d_Press_node_91 d_Press_node_93 d_Press_node_96 (Nat.le_of_ble_eq_true rfl) (Nat.le_of_ble_eq_true rfl) (Nat.le_of_ble_eq_true rfl) (Nat.le_of_ble_eq_true rfl) (Nat.le_of_ble_eq_true rfl) (Nat.le_of_ble_eq_true rfl)

set_option maxHeartbeats 4000000 in
set_option maxRecDepth 100000 in
theorem c_Press_aboutX (l : Launch) (hst : l.stackTraces = false) (G : kb_G) (h : Nat) (tp : Nat) (ld : Nat) (rd : Nat) (tr : Nat) (sp : Nat) (r0 : Nat) (r1 : Nat) (r2 : Nat) (r3 : Nat) (r4 : Nat) (r5 : Nat) (r6 : Nat) (r7 : Nat) (r8 : Nat) (r9 : Nat) (r10 : Nat) (r11 : Nat) (L : Int32) (P : Int32) (a7 : Nat) (i : Int32) (k : Int32) : kb_cx l G ⟨"TreePress", "about", "(II)I"⟩ prog_1_method_14_code 3 (some .int) 7 1 6 [.ref h, .int i, .int k] [kb_o h 3 [.ref tp, .ref ld, .ref rd, .ref tr, .ref sp], kb_o tr 2 [.ref r0, .ref r1, .ref r2, .ref r3, .ref r4, .ref r5, .ref r6, .ref r7, .ref r8, .ref r9, .ref r10, .ref r11, .int L, .int P], kb_o r7 1 [.ref a7, .int 0]] "java/lang/IndexOutOfBoundsException" := by
  refine kb_bodyX (by decide) (Nat.le_of_ble_eq_true rfl) ?_
  intro p e s m below meth c A B hno hAw ls hl
  obtain ⟨hx, hb, hr, hml, hlocks, hin, hown, ht, hE, hP, hD, hS⟩ := B
  have hl : lv_has ls 3 [(0, .ref h), (1, .int i), (2, .int k)] := hl
  have hP0 := hP
  obtain ⟨H, hHe⟩ : ∃ H, H = s.heap := ⟨_, rfl⟩
  rw [← hHe] at hP
  have hS : va_S A s.heap H [] := by rw [hHe]; exact hS
  refine kb_at hHe ?_
  clear hHe
  refine lv_aload_n hx hb d_Press_about_0 rfl (lv_at hl 0 rfl) ?_
  refine lv_iload_n hx hb d_Press_about_1 rfl (lv_at hl 1 rfl) ?_
  refine kb_xV (As := [.int i]) (rest := []) (wc := [kb_o h 3 [.ref tp, .ref ld, .ref rd, .ref tr, .ref sp], kb_o tr 2 [.ref r0, .ref r1, .ref r2, .ref r3, .ref r4, .ref r5, .ref r6, .ref r7, .ref r8, .ref r9, .ref r10, .ref r11, .int L, .int P], kb_o r7 1 [.ref a7, .int 0]]) (wr := []) (q0 := 0) ⟨hx, hb, hml, hown, ht⟩ (c_Press_refusePropX l hst G h tp ld rd tr sp r0 r1 r2 r3 r4 r5 r6 r7 r8 r9 r10 r11 L P a7 i) wd_211cd185 wd_e5093493 wd_779fc113 wd_28603eaf wd_2caac5ad hd_9c0fd48f ⟨(Nat.le_of_ble_eq_true rfl), (Nat.le_of_ble_eq_true rfl)⟩ hE hP hD hS [0, 1, 2] [] rfl rfl (by decide) (by decide) (by decide) rfl rfl rfl hl.1 rfl (Nat.le_of_ble_eq_true rfl) d_Press_about_2 ⟨(Nat.le_of_ble_eq_true rfl), (Nat.le_of_ble_eq_true rfl)⟩ (fun q9 ce H locs hce hcv hcl hP hD hS => ?_)
  exact kb_out hno hlocks hce hcv hcl hS (Nat.le_of_ble_eq_true rfl) (Nat.le_of_ble_eq_true rfl)

set_option maxHeartbeats 4000000 in
set_option maxRecDepth 100000 in
theorem c_Press_nameX (l : Launch) (hst : l.stackTraces = false) (G : kb_G) (h : Nat) (tp : Nat) (ld : Nat) (rd : Nat) (tr : Nat) (sp : Nat) (r0 : Nat) (r1 : Nat) (r2 : Nat) (r3 : Nat) (r4 : Nat) (r5 : Nat) (r6 : Nat) (r7 : Nat) (r8 : Nat) (r9 : Nat) (r10 : Nat) (r11 : Nat) (L : Int32) (P : Int32) (a7 : Nat) (i : Int32) (k : Int32) : kb_cx l G ⟨"TreePress", "name", "(II)I"⟩ prog_1_method_16_code 3 (some .int) 7 1 6 [.ref h, .int i, .int k] [kb_o h 3 [.ref tp, .ref ld, .ref rd, .ref tr, .ref sp], kb_o tr 2 [.ref r0, .ref r1, .ref r2, .ref r3, .ref r4, .ref r5, .ref r6, .ref r7, .ref r8, .ref r9, .ref r10, .ref r11, .int L, .int P], kb_o r7 1 [.ref a7, .int 0]] "java/lang/IndexOutOfBoundsException" := by
  refine kb_bodyX (by decide) (Nat.le_of_ble_eq_true rfl) ?_
  intro p e s m below meth c A B hno hAw ls hl
  obtain ⟨hx, hb, hr, hml, hlocks, hin, hown, ht, hE, hP, hD, hS⟩ := B
  have hl : lv_has ls 3 [(0, .ref h), (1, .int i), (2, .int k)] := hl
  have hP0 := hP
  obtain ⟨H, hHe⟩ : ∃ H, H = s.heap := ⟨_, rfl⟩
  rw [← hHe] at hP
  have hS : va_S A s.heap H [] := by rw [hHe]; exact hS
  refine kb_at hHe ?_
  clear hHe
  refine lv_aload_n hx hb d_Press_name_0 rfl (lv_at hl 0 rfl) ?_
  refine lv_iload_n hx hb d_Press_name_1 rfl (lv_at hl 1 rfl) ?_
  refine kb_xV (As := [.int i]) (rest := []) (wc := [kb_o h 3 [.ref tp, .ref ld, .ref rd, .ref tr, .ref sp], kb_o tr 2 [.ref r0, .ref r1, .ref r2, .ref r3, .ref r4, .ref r5, .ref r6, .ref r7, .ref r8, .ref r9, .ref r10, .ref r11, .int L, .int P], kb_o r7 1 [.ref a7, .int 0]]) (wr := []) (q0 := 0) ⟨hx, hb, hml, hown, ht⟩ (c_Press_refusePropX l hst G h tp ld rd tr sp r0 r1 r2 r3 r4 r5 r6 r7 r8 r9 r10 r11 L P a7 i) wd_211cd185 wd_e5093493 wd_779fc113 wd_28603eaf wd_2caac5ad hd_9c0fd48f ⟨(Nat.le_of_ble_eq_true rfl), (Nat.le_of_ble_eq_true rfl)⟩ hE hP hD hS [0, 1, 2] [] rfl rfl (by decide) (by decide) (by decide) rfl rfl rfl hl.1 rfl (Nat.le_of_ble_eq_true rfl) d_Press_name_2 ⟨(Nat.le_of_ble_eq_true rfl), (Nat.le_of_ble_eq_true rfl)⟩ (fun q9 ce H locs hce hcv hcl hP hD hS => ?_)
  exact kb_out hno hlocks hce hcv hcl hS (Nat.le_of_ble_eq_true rfl) (Nat.le_of_ble_eq_true rfl)

set_option maxHeartbeats 4000000 in
set_option maxRecDepth 100000 in
theorem c_Press_valueX (l : Launch) (hst : l.stackTraces = false) (G : kb_G) (h : Nat) (tp : Nat) (ld : Nat) (rd : Nat) (tr : Nat) (sp : Nat) (r0 : Nat) (r1 : Nat) (r2 : Nat) (r3 : Nat) (r4 : Nat) (r5 : Nat) (r6 : Nat) (r7 : Nat) (r8 : Nat) (r9 : Nat) (r10 : Nat) (r11 : Nat) (L : Int32) (P : Int32) (a7 : Nat) (i : Int32) (k : Int32) : kb_cx l G ⟨"TreePress", "value", "(II)I"⟩ prog_1_method_17_code 3 (some .int) 7 1 6 [.ref h, .int i, .int k] [kb_o h 3 [.ref tp, .ref ld, .ref rd, .ref tr, .ref sp], kb_o tr 2 [.ref r0, .ref r1, .ref r2, .ref r3, .ref r4, .ref r5, .ref r6, .ref r7, .ref r8, .ref r9, .ref r10, .ref r11, .int L, .int P], kb_o r7 1 [.ref a7, .int 0]] "java/lang/IndexOutOfBoundsException" := by
  refine kb_bodyX (by decide) (Nat.le_of_ble_eq_true rfl) ?_
  intro p e s m below meth c A B hno hAw ls hl
  obtain ⟨hx, hb, hr, hml, hlocks, hin, hown, ht, hE, hP, hD, hS⟩ := B
  have hl : lv_has ls 3 [(0, .ref h), (1, .int i), (2, .int k)] := hl
  have hP0 := hP
  obtain ⟨H, hHe⟩ : ∃ H, H = s.heap := ⟨_, rfl⟩
  rw [← hHe] at hP
  have hS : va_S A s.heap H [] := by rw [hHe]; exact hS
  refine kb_at hHe ?_
  clear hHe
  refine lv_aload_n hx hb d_Press_value_0 rfl (lv_at hl 0 rfl) ?_
  refine lv_iload_n hx hb d_Press_value_1 rfl (lv_at hl 1 rfl) ?_
  refine kb_xV (As := [.int i]) (rest := []) (wc := [kb_o h 3 [.ref tp, .ref ld, .ref rd, .ref tr, .ref sp], kb_o tr 2 [.ref r0, .ref r1, .ref r2, .ref r3, .ref r4, .ref r5, .ref r6, .ref r7, .ref r8, .ref r9, .ref r10, .ref r11, .int L, .int P], kb_o r7 1 [.ref a7, .int 0]]) (wr := []) (q0 := 0) ⟨hx, hb, hml, hown, ht⟩ (c_Press_refusePropX l hst G h tp ld rd tr sp r0 r1 r2 r3 r4 r5 r6 r7 r8 r9 r10 r11 L P a7 i) wd_211cd185 wd_e5093493 wd_779fc113 wd_28603eaf wd_2caac5ad hd_9c0fd48f ⟨(Nat.le_of_ble_eq_true rfl), (Nat.le_of_ble_eq_true rfl)⟩ hE hP hD hS [0, 1, 2] [] rfl rfl (by decide) (by decide) (by decide) rfl rfl rfl hl.1 rfl (Nat.le_of_ble_eq_true rfl) d_Press_value_2 ⟨(Nat.le_of_ble_eq_true rfl), (Nat.le_of_ble_eq_true rfl)⟩ (fun q9 ce H locs hce hcv hcl hP hD hS => ?_)
  exact kb_out hno hlocks hce hcv hcl hS (Nat.le_of_ble_eq_true rfl) (Nat.le_of_ble_eq_true rfl)

set_option maxHeartbeats 4000000 in
set_option maxRecDepth 100000 in
theorem c_Press_nodeNameX1 (l : Launch) (hst : l.stackTraces = false) (G : kb_G) (h : Nat) (tp : Nat) (ld : Nat) (rd : Nat) (tr : Nat) (sp : Nat) (r0 : Nat) (r1 : Nat) (r2 : Nat) (r3 : Nat) (r4 : Nat) (r5 : Nat) (r6 : Nat) (r7 : Nat) (r8 : Nat) (r9 : Nat) (r10 : Nat) (r11 : Nat) (L : Int32) (P : Int32) (a1 : Nat) (i : Int32) (k : Int32) (hi : ¬ i = 0) : kb_cx l G ⟨"TreePress", "nodeName", "(II)I"⟩ prog_1_method_15_code 3 (some .int) 7 1 6 [.ref h, .int i, .int k] [kb_o h 3 [.ref tp, .ref ld, .ref rd, .ref tr, .ref sp], kb_o tr 2 [.ref r0, .ref r1, .ref r2, .ref r3, .ref r4, .ref r5, .ref r6, .ref r7, .ref r8, .ref r9, .ref r10, .ref r11, .int L, .int P], kb_o r1 1 [.ref a1, .int 1]] "java/lang/IndexOutOfBoundsException" := by
  refine kb_bodyX (by decide) (Nat.le_of_ble_eq_true rfl) ?_
  intro p e s m below meth c A B hno hAw ls hl
  obtain ⟨hx, hb, hr, hml, hlocks, hin, hown, ht, hE, hP, hD, hS⟩ := B
  have hl : lv_has ls 3 [(0, .ref h), (1, .int i), (2, .int k)] := hl
  have hP0 := hP
  obtain ⟨H, hHe⟩ : ∃ H, H = s.heap := ⟨_, rfl⟩
  rw [← hHe] at hP
  have hS : va_S A s.heap H [] := by rw [hHe]; exact hS
  refine kb_at hHe ?_
  clear hHe
  refine lv_aload_n hx hb d_Press_nodeName_0 rfl (lv_at hl 0 rfl) ?_
  refine lv_iload_n hx hb d_Press_nodeName_1 rfl (lv_at hl 1 rfl) ?_
  refine kb_xV (As := [.int i]) (rest := []) (wc := [kb_o h 3 [.ref tp, .ref ld, .ref rd, .ref tr, .ref sp], kb_o tr 2 [.ref r0, .ref r1, .ref r2, .ref r3, .ref r4, .ref r5, .ref r6, .ref r7, .ref r8, .ref r9, .ref r10, .ref r11, .int L, .int P], kb_o r1 1 [.ref a1, .int 1]]) (wr := []) (q0 := 0) ⟨hx, hb, hml, hown, ht⟩ (c_Press_refuseNodeX l hst G h tp ld rd tr sp r0 r1 r2 r3 r4 r5 r6 r7 r8 r9 r10 r11 L P a1 i hi) wd_cef057ed wd_8ab2e778 wd_df57965e wd_28603eaf wd_aac2f91e hd_9eec11a5 ⟨(Nat.le_of_ble_eq_true rfl), (Nat.le_of_ble_eq_true rfl)⟩ hE hP hD hS [0, 1, 2] [] rfl rfl (by decide) (by decide) (by decide) rfl rfl rfl hl.1 rfl (Nat.le_of_ble_eq_true rfl) d_Press_nodeName_2 ⟨(Nat.le_of_ble_eq_true rfl), (Nat.le_of_ble_eq_true rfl)⟩ (fun q9 ce H locs hce hcv hcl hP hD hS => ?_)
  exact kb_out hno hlocks hce hcv hcl hS (Nat.le_of_ble_eq_true rfl) (Nat.le_of_ble_eq_true rfl)

set_option maxHeartbeats 4000000 in
set_option maxRecDepth 100000 in
theorem c_Press_nodeNameX2 (l : Launch) (hst : l.stackTraces = false) (G : kb_G) (h : Nat) (tp : Nat) (ld : Nat) (rd : Nat) (tr : Nat) (sp : Nat) (r0 : Nat) (r1 : Nat) (r2 : Nat) (r3 : Nat) (r4 : Nat) (r5 : Nat) (r6 : Nat) (r7 : Nat) (r8 : Nat) (r9 : Nat) (r10 : Nat) (r11 : Nat) (L : Int32) (P : Int32) (a1 : Nat) (a4 : Nat) (k : Int32) : kb_cx l G ⟨"TreePress", "nodeName", "(II)I"⟩ prog_1_method_15_code 3 (some .int) 7 1 6 [.ref h, .int 0, .int k] [kb_o h 3 [.ref tp, .ref ld, .ref rd, .ref tr, .ref sp], kb_o tr 2 [.ref r0, .ref r1, .ref r2, .ref r3, .ref r4, .ref r5, .ref r6, .ref r7, .ref r8, .ref r9, .ref r10, .ref r11, .int L, .int P], kb_o r1 1 [.ref a1, .int 1], kb_o r4 1 [.ref a4, .int 1], kb_a G a4 16 (upd (fun _ => 0) 0 0)] "java/lang/IndexOutOfBoundsException" := by
  refine kb_bodyX (by decide) (Nat.le_of_ble_eq_true rfl) ?_
  intro p e s m below meth c A B hno hAw ls hl
  obtain ⟨hx, hb, hr, hml, hlocks, hin, hown, ht, hE, hP, hD, hS⟩ := B
  have hl : lv_has ls 3 [(0, .ref h), (1, .int 0), (2, .int k)] := hl
  have hP0 := hP
  obtain ⟨H, hHe⟩ : ∃ H, H = s.heap := ⟨_, rfl⟩
  rw [← hHe] at hP
  have hS : va_S A s.heap H [] := by rw [hHe]; exact hS
  refine kb_at hHe ?_
  clear hHe
  refine lv_aload_n hx hb d_Press_nodeName_0 rfl (lv_at hl 0 rfl) ?_
  refine lv_iload_n hx hb d_Press_nodeName_1 rfl (lv_at hl 1 rfl) ?_
  refine kb_v (wc := [kb_o h 3 [.ref tp, .ref ld, .ref rd, .ref tr, .ref sp], kb_o tr 2 [.ref r0, .ref r1, .ref r2, .ref r3, .ref r4, .ref r5, .ref r6, .ref r7, .ref r8, .ref r9, .ref r10, .ref r11, .int L, .int P], kb_o r1 1 [.ref a1, .int 1]]) (wr := [kb_o r4 1 [.ref a4, .int 1], kb_a G a4 16 (upd (fun _ => 0) 0 0)]) hE hP hD hS [0, 1, 2] [3, 4] rfl rfl (by decide) (by decide) (kb_rV (As := [.int 0]) (rest := []) (wc := [kb_o h 3 [.ref tp, .ref ld, .ref rd, .ref tr, .ref sp], kb_o tr 2 [.ref r0, .ref r1, .ref r2, .ref r3, .ref r4, .ref r5, .ref r6, .ref r7, .ref r8, .ref r9, .ref r10, .ref r11, .int L, .int P], kb_o r1 1 [.ref a1, .int 1]]) (q0 := 0) ⟨hx, hb, hml, hown, ht⟩ ((c_Press_refuseNode0 l G h tp ld rd tr sp r0 r1 r2 r3 r4 r5 r6 r7 r8 r9 r10 r11 L P a1) _) (kb_gV wd_cef057ed wd_8ab2e778 wd_df57965e wd_28603eaf wd_aac2f91e) ⟨rfl, hd_9eec11a5⟩ ⟨(Nat.le_of_ble_eq_true rfl), (Nat.le_of_ble_eq_true rfl)⟩ hE hP hD hS [0, 1, 2] rfl (by decide) rfl rfl rfl hl.1 rfl (Nat.le_of_ble_eq_true rfl) d_Press_nodeName_2 ⟨(Nat.le_of_ble_eq_true rfl), (Nat.le_of_ble_eq_true rfl)⟩) (fun uu1 H locs hw hP hD hS => ?_)
  have hP : va_P G.1 kb_cl [kb_o r4 1 [.ref a4, .int 1], kb_a G a4 16 (upd (fun _ => 0) 0 0), kb_o h 3 [.ref tp, .ref ld, .ref rd, .ref tr, .ref sp], kb_o tr 2 [.ref r0, .ref r1, .ref r2, .ref r3, .ref r4, .ref r5, .ref r6, .ref r7, .ref r8, .ref r9, .ref r10, .ref r11, .int L, .int P], kb_o r1 1 [.ref a1, .int 1]] H := hP
  have hD : va_D A [kb_o r4 1 [.ref a4, .int 1], kb_a G a4 16 (upd (fun _ => 0) 0 0), kb_o h 3 [.ref tp, .ref ld, .ref rd, .ref tr, .ref sp], kb_o tr 2 [.ref r0, .ref r1, .ref r2, .ref r3, .ref r4, .ref r5, .ref r6, .ref r7, .ref r8, .ref r9, .ref r10, .ref r11, .int L, .int P], kb_o r1 1 [.ref a1, .int 1]] := hD
  refine lv_iload_n hx hb d_Press_nodeName_5 rfl (lv_at hl 2 rfl) ?_
  refine lv_aload_n hx hb d_Press_nodeName_6 rfl (lv_at hl 0 rfl) ?_
  refine va_get (D := G.1) (ci := 3) (v := .ref tr) (C := "TreePress") (T := kb_F3) (N := 5) hx hb ht kb_w3 hown hE.1 hP 2 rfl rfl 3 (by decide) (ht _ wd_29809c8a) (fun _ h9 => h9) rfl d_Press_nodeName_7 ?_
  refine lv_iload_n hx hb d_Press_nodeName_10 rfl (lv_at hl 1 rfl) ?_
  refine kb_i (wc := [kb_o tr 2 [.ref r0, .ref r1, .ref r2, .ref r3, .ref r4, .ref r5, .ref r6, .ref r7, .ref r8, .ref r9, .ref r10, .ref r11, .int L, .int P], kb_o r4 1 [.ref a4, .int 1], kb_a G a4 16 (upd (fun _ => 0) 0 0)]) (wr := [kb_o h 3 [.ref tp, .ref ld, .ref rd, .ref tr, .ref sp], kb_o r1 1 [.ref a1, .int 1]]) hE hP hD hS [3, 0, 1] [2, 4] rfl rfl (by decide) (by decide) (kb_rV (As := [.int 0]) (rest := [.int k]) (wc := [kb_o tr 2 [.ref r0, .ref r1, .ref r2, .ref r3, .ref r4, .ref r5, .ref r6, .ref r7, .ref r8, .ref r9, .ref r10, .ref r11, .int L, .int P], kb_o r4 1 [.ref a4, .int 1], kb_a G a4 16 (upd (fun _ => 0) 0 0)]) (q0 := 0) ⟨hx, hb, hml, hown, ht⟩ ((c_Tree_lengthOfNodeName l G tr r0 r1 r2 r3 r4 r5 r6 r7 r8 r9 r10 r11 L P a4 (upd (fun _ => 0) 0 0)) _) (kb_gV wd_7c0e2508 wd_13543ba7 wd_7ab071a6 wd_ebf91e09 wd_ba1edb6a) ⟨rfl, hd_e4346e9a⟩ ⟨(Nat.le_of_ble_eq_true rfl), (Nat.le_of_ble_eq_true rfl)⟩ hE hP hD hS [3, 0, 1] rfl (by decide) rfl rfl rfl hl.1 rfl (Nat.le_of_ble_eq_true rfl) d_Press_nodeName_11 ⟨(Nat.le_of_ble_eq_true rfl), (Nat.le_of_ble_eq_true rfl)⟩) (fun rv4 uu3 H locs hw hP hD hS => ?_)
  have hP : va_P G.1 kb_cl [kb_o h 3 [.ref tp, .ref ld, .ref rd, .ref tr, .ref sp], kb_o r1 1 [.ref a1, .int 1], kb_o tr 2 [.ref r0, .ref r1, .ref r2, .ref r3, .ref r4, .ref r5, .ref r6, .ref r7, .ref r8, .ref r9, .ref r10, .ref r11, .int L, .int P], kb_o r4 1 [.ref a4, .int 1], kb_a G a4 16 (upd (fun _ => 0) 0 0)] H := hP
  have hD : va_D A [kb_o h 3 [.ref tp, .ref ld, .ref rd, .ref tr, .ref sp], kb_o r1 1 [.ref a1, .int 1], kb_o tr 2 [.ref r0, .ref r1, .ref r2, .ref r3, .ref r4, .ref r5, .ref r6, .ref r7, .ref r8, .ref r9, .ref r10, .ref r11, .int L, .int P], kb_o r4 1 [.ref a4, .int 1], kb_a G a4 16 (upd (fun _ => 0) 0 0)] := hD
  refine kb_top (y := 0) (show rv4 = 0 from hw) ?_
  refine kb_xS (As := [.int k, .int 0]) (rest := []) (wc := []) (wr := [kb_o h 3 [.ref tp, .ref ld, .ref rd, .ref tr, .ref sp], kb_o r1 1 [.ref a1, .int 1], kb_o tr 2 [.ref r0, .ref r1, .ref r2, .ref r3, .ref r4, .ref r5, .ref r6, .ref r7, .ref r8, .ref r9, .ref r10, .ref r11, .int L, .int P], kb_o r4 1 [.ref a4, .int 1], kb_a G a4 16 (upd (fun _ => 0) 0 0)]) ⟨hx, hb, hml, hown, ht⟩ (c_Press_refuseByteX l hst G k) wd_a848cb19 wd_64969b3a wd_28603eaf wd_07eee442 hd_08f3cc26 ⟨(Nat.le_of_ble_eq_true rfl), (Nat.le_of_ble_eq_true rfl)⟩ hE hP hD hS [] [0, 1, 2, 3, 4] rfl rfl (by decide) (by decide) (by decide) hl.1 rfl (Nat.le_of_ble_eq_true rfl) d_Press_nodeName_14 ⟨(Nat.le_of_ble_eq_true rfl), (Nat.le_of_ble_eq_true rfl)⟩ (fun q9 ce H locs hce hcv hcl hP hD hS => ?_)
  exact kb_out hno hlocks hce hcv hcl hS (Nat.le_of_ble_eq_true rfl) (Nat.le_of_ble_eq_true rfl)

set_option maxHeartbeats 4000000 in
set_option maxRecDepth 100000 in
theorem c_Press_find (l : Launch) (G : kb_G) (h : Nat) (tp : Nat) (ld : Nat) (rd : Nat) (tr : Nat) (sp : Nat) (ta : Nat) (r0 : Nat) (r1 : Nat) (r2 : Nat) (r3 : Nat) (r4 : Nat) (r5 : Nat) (r6 : Nat) (r7 : Nat) (r8 : Nat) (r9 : Nat) (r10 : Nat) (r11 : Nat) (L : Int32) (P : Int32) : kb_ci l G ⟨"TreePress", "find", "()I"⟩ prog_1_method_18_code 2 (some .int) 6 0 0 [.ref h] [kb_o h 3 [.ref tp, .ref ld, .ref rd, .ref tr, .ref sp], kb_o tp 1 [.ref ta, .int 0], kb_o tr 2 [.ref r0, .ref r1, .ref r2, .ref r3, .ref r4, .ref r5, .ref r6, .ref r7, .ref r8, .ref r9, .ref r10, .ref r11, .int L, .int P]] (fun r u => r = 0) (fun u => []) := by
  intro sz
  refine kb_body (QQ := fun A => kb_Qi G A (fun r u => r = 0) (fun u => [])) (by decide) (Nat.le_of_ble_eq_true rfl) ?_
  intro p e s m below meth c A B ls hl
  obtain ⟨hx, hb, hr, hml, hlocks, hin, hown, ht, hE, hP, hD, hS⟩ := B
  have hl : lv_has ls 2 [(0, .ref h)] := hl
  have hP0 := hP
  obtain ⟨H, hHe⟩ : ∃ H, H = s.heap := ⟨_, rfl⟩
  rw [← hHe] at hP
  have hS : va_S A s.heap H [] := by rw [hHe]; exact hS
  refine kb_at hHe ?_
  clear hHe
  refine lv_aload_n hx hb d_Press_find_0 rfl (lv_at hl 0 rfl) ?_
  refine va_get (D := G.1) (ci := 3) (v := .ref tr) (C := "TreePress") (T := kb_F3) (N := 5) hx hb ht kb_w3 hown hE.1 hP 0 rfl rfl 3 (by decide) (ht _ wd_29809c8a) (fun _ h9 => h9) rfl d_Press_find_1 ?_
  refine lv_aload_n hx hb d_Press_find_4 rfl (lv_at hl 0 rfl) ?_
  refine va_get (D := G.1) (ci := 3) (v := .ref tp) (C := "TreePress") (T := kb_F3) (N := 5) hx hb ht kb_w3 hown hE.1 hP 0 rfl rfl 0 (by decide) (ht _ wd_667fbbc4) (fun _ h9 => h9) rfl d_Press_find_5 ?_
  refine kb_i (wc := [kb_o tr 2 [.ref r0, .ref r1, .ref r2, .ref r3, .ref r4, .ref r5, .ref r6, .ref r7, .ref r8, .ref r9, .ref r10, .ref r11, .int L, .int P], kb_o tp 1 [.ref ta, .int 0]]) (wr := [kb_o h 3 [.ref tp, .ref ld, .ref rd, .ref tr, .ref sp]]) hE hP hD hS [2, 1] [0] rfl rfl (by decide) (by decide) (kb_rV (As := [.ref tp]) (rest := []) (wc := [kb_o tr 2 [.ref r0, .ref r1, .ref r2, .ref r3, .ref r4, .ref r5, .ref r6, .ref r7, .ref r8, .ref r9, .ref r10, .ref r11, .int L, .int P], kb_o tp 1 [.ref ta, .int 0]]) (q0 := 0) ⟨hx, hb, hml, hown, ht⟩ ((c_Tree_nodeOnPath l G tr r0 r1 r2 r3 r4 r5 r6 r7 r8 r9 r10 r11 L P tp ta) _) (kb_gV wd_51c0458f wd_82694476 wd_297977ec wd_ebf91e09 wd_0b06b708) ⟨rfl, hd_c7bd48b6⟩ ⟨(Nat.le_of_ble_eq_true rfl), (Nat.le_of_ble_eq_true rfl)⟩ hE hP hD hS [2, 1] rfl (by decide) rfl rfl rfl hl.1 rfl (Nat.le_of_ble_eq_true rfl) d_Press_find_8 ⟨(Nat.le_of_ble_eq_true rfl), (Nat.le_of_ble_eq_true rfl)⟩) (fun rv2 uu1 H locs hw hP hD hS => ?_)
  have hP : va_P G.1 kb_cl [kb_o h 3 [.ref tp, .ref ld, .ref rd, .ref tr, .ref sp], kb_o tr 2 [.ref r0, .ref r1, .ref r2, .ref r3, .ref r4, .ref r5, .ref r6, .ref r7, .ref r8, .ref r9, .ref r10, .ref r11, .int L, .int P], kb_o tp 1 [.ref ta, .int 0]] H := hP
  have hD : va_D A [kb_o h 3 [.ref tp, .ref ld, .ref rd, .ref tr, .ref sp], kb_o tr 2 [.ref r0, .ref r1, .ref r2, .ref r3, .ref r4, .ref r5, .ref r6, .ref r7, .ref r8, .ref r9, .ref r10, .ref r11, .int L, .int P], kb_o tp 1 [.ref ta, .int 0]] := hD
  refine kb_top (y := 0) (show rv2 = 0 from hw) ?_
  refine lv_istore_n (lv' := [(1, .int 0), (0, .ref h)]) hx hb d_Press_find_11 rfl hl (by decide) rfl (fun ls hl => ?_)
  refine lv_aload_n hx hb d_Press_find_12 rfl (lv_at hl 1 rfl) ?_
  refine va_get (D := G.1) (ci := 3) (v := .ref tp) (C := "TreePress") (T := kb_F3) (N := 5) hx hb ht kb_w3 hown hE.1 hP 0 rfl rfl 0 (by decide) (ht _ wd_667fbbc4) (fun _ h9 => h9) rfl d_Press_find_13 ?_
  refine lv_iconst (v := 0) hx hb d_Press_find_16 (by decide) ?_
  refine kb_v (wc := [kb_o tp 1 [.ref ta, .int 0]]) (wr := [kb_o h 3 [.ref tp, .ref ld, .ref rd, .ref tr, .ref sp], kb_o tr 2 [.ref r0, .ref r1, .ref r2, .ref r3, .ref r4, .ref r5, .ref r6, .ref r7, .ref r8, .ref r9, .ref r10, .ref r11, .int L, .int P]]) hE hP hD hS [2] [0, 1] rfl rfl (by decide) (by decide) (kb_rV (As := [.int 0]) (rest := []) (wc := [kb_o tp 1 [.ref ta, .int 0]]) (q0 := 0) ⟨hx, hb, hml, hown, ht⟩ ((c_Row_cut0 l G tp ta) _) (kb_gV wd_50e9e1ec wd_a30f3437 wd_8c6818e9 wd_4182e433 wd_86891071) ⟨rfl, hd_934340dd⟩ ⟨(Nat.le_of_ble_eq_true rfl), (Nat.le_of_ble_eq_true rfl)⟩ hE hP hD hS [2] rfl (by decide) rfl rfl rfl hl.1 rfl (Nat.le_of_ble_eq_true rfl) d_Press_find_17 ⟨(Nat.le_of_ble_eq_true rfl), (Nat.le_of_ble_eq_true rfl)⟩) (fun uu3 H locs hw hP hD hS => ?_)
  have hP : va_P G.1 kb_cl [kb_o h 3 [.ref tp, .ref ld, .ref rd, .ref tr, .ref sp], kb_o tr 2 [.ref r0, .ref r1, .ref r2, .ref r3, .ref r4, .ref r5, .ref r6, .ref r7, .ref r8, .ref r9, .ref r10, .ref r11, .int L, .int P], kb_o tp 1 [.ref ta, .int 0]] H := hP
  have hD : va_D A [kb_o h 3 [.ref tp, .ref ld, .ref rd, .ref tr, .ref sp], kb_o tr 2 [.ref r0, .ref r1, .ref r2, .ref r3, .ref r4, .ref r5, .ref r6, .ref r7, .ref r8, .ref r9, .ref r10, .ref r11, .int L, .int P], kb_o tp 1 [.ref ta, .int 0]] := hD
  refine lv_iload_n hx hb d_Press_find_20 rfl (lv_at hl 0 rfl) ?_
  exact kb_reti (kb_l [], kb_f []) hx hb hr hlocks hE hP hD hS [] rfl (by decide) rfl rfl (Nat.le_of_ble_eq_true rfl) (Nat.le_of_ble_eq_true rfl) d_Press_find_21

set_option maxHeartbeats 4000000 in
set_option maxRecDepth 100000 in
theorem c_Press_seek0 (l : Launch) (G : kb_G) (h : Nat) (tp : Nat) (ld : Nat) (rd : Nat) (tr : Nat) (sp : Nat) (ta : Nat) (r0 : Nat) (r1 : Nat) (r2 : Nat) (r3 : Nat) (r4 : Nat) (r5 : Nat) (r6 : Nat) (r7 : Nat) (r8 : Nat) (r9 : Nat) (r10 : Nat) (r11 : Nat) (L : Int32) (P : Int32) (a1 : Nat) (a5 : Nat) (a6 : Nat) : kb_ci l G ⟨"TreePress", "seek", "(I)I"⟩ prog_1_method_19_code 3 (some .int) 7 0 0 [.ref h, .int 0] [kb_o h 3 [.ref tp, .ref ld, .ref rd, .ref tr, .ref sp], kb_o tp 1 [.ref ta, .int 0], kb_o tr 2 [.ref r0, .ref r1, .ref r2, .ref r3, .ref r4, .ref r5, .ref r6, .ref r7, .ref r8, .ref r9, .ref r10, .ref r11, .int L, .int P], kb_o r1 1 [.ref a1, .int 1], kb_o r5 1 [.ref a5, .int 1], kb_o r6 1 [.ref a6, .int 1], kb_a G a5 16 (upd (fun _ => 0) 0 0), kb_a G a6 16 (upd (fun _ => 0) 0 0)] (fun r u => r = (-1)) (fun u => []) := by
  intro sz
  refine kb_body (QQ := fun A => kb_Qi G A (fun r u => r = (-1)) (fun u => [])) (by decide) (Nat.le_of_ble_eq_true rfl) ?_
  intro p e s m below meth c A B ls hl
  obtain ⟨hx, hb, hr, hml, hlocks, hin, hown, ht, hE, hP, hD, hS⟩ := B
  have hl : lv_has ls 3 [(0, .ref h), (1, .int 0)] := hl
  have hP0 := hP
  obtain ⟨H, hHe⟩ : ∃ H, H = s.heap := ⟨_, rfl⟩
  rw [← hHe] at hP
  have hS : va_S A s.heap H [] := by rw [hHe]; exact hS
  refine kb_at hHe ?_
  clear hHe
  refine lv_aload_n hx hb d_Press_seek_0 rfl (lv_at hl 0 rfl) ?_
  refine lv_iload_n hx hb d_Press_seek_1 rfl (lv_at hl 1 rfl) ?_
  refine kb_v (wc := [kb_o h 3 [.ref tp, .ref ld, .ref rd, .ref tr, .ref sp], kb_o tr 2 [.ref r0, .ref r1, .ref r2, .ref r3, .ref r4, .ref r5, .ref r6, .ref r7, .ref r8, .ref r9, .ref r10, .ref r11, .int L, .int P], kb_o r1 1 [.ref a1, .int 1]]) (wr := [kb_o tp 1 [.ref ta, .int 0], kb_o r5 1 [.ref a5, .int 1], kb_o r6 1 [.ref a6, .int 1], kb_a G a5 16 (upd (fun _ => 0) 0 0), kb_a G a6 16 (upd (fun _ => 0) 0 0)]) hE hP hD hS [0, 2, 3] [1, 4, 5, 6, 7] rfl rfl (by decide) (by decide) (kb_rV (As := [.int 0]) (rest := []) (wc := [kb_o h 3 [.ref tp, .ref ld, .ref rd, .ref tr, .ref sp], kb_o tr 2 [.ref r0, .ref r1, .ref r2, .ref r3, .ref r4, .ref r5, .ref r6, .ref r7, .ref r8, .ref r9, .ref r10, .ref r11, .int L, .int P], kb_o r1 1 [.ref a1, .int 1]]) (q0 := 0) ⟨hx, hb, hml, hown, ht⟩ ((c_Press_refuseNode0 l G h tp ld rd tr sp r0 r1 r2 r3 r4 r5 r6 r7 r8 r9 r10 r11 L P a1) _) (kb_gV wd_cef057ed wd_8ab2e778 wd_df57965e wd_28603eaf wd_aac2f91e) ⟨rfl, hd_9eec11a5⟩ ⟨(Nat.le_of_ble_eq_true rfl), (Nat.le_of_ble_eq_true rfl)⟩ hE hP hD hS [0, 2, 3] rfl (by decide) rfl rfl rfl hl.1 rfl (Nat.le_of_ble_eq_true rfl) d_Press_seek_2 ⟨(Nat.le_of_ble_eq_true rfl), (Nat.le_of_ble_eq_true rfl)⟩) (fun uu1 H locs hw hP hD hS => ?_)
  have hP : va_P G.1 kb_cl [kb_o tp 1 [.ref ta, .int 0], kb_o r5 1 [.ref a5, .int 1], kb_o r6 1 [.ref a6, .int 1], kb_a G a5 16 (upd (fun _ => 0) 0 0), kb_a G a6 16 (upd (fun _ => 0) 0 0), kb_o h 3 [.ref tp, .ref ld, .ref rd, .ref tr, .ref sp], kb_o tr 2 [.ref r0, .ref r1, .ref r2, .ref r3, .ref r4, .ref r5, .ref r6, .ref r7, .ref r8, .ref r9, .ref r10, .ref r11, .int L, .int P], kb_o r1 1 [.ref a1, .int 1]] H := hP
  have hD : va_D A [kb_o tp 1 [.ref ta, .int 0], kb_o r5 1 [.ref a5, .int 1], kb_o r6 1 [.ref a6, .int 1], kb_a G a5 16 (upd (fun _ => 0) 0 0), kb_a G a6 16 (upd (fun _ => 0) 0 0), kb_o h 3 [.ref tp, .ref ld, .ref rd, .ref tr, .ref sp], kb_o tr 2 [.ref r0, .ref r1, .ref r2, .ref r3, .ref r4, .ref r5, .ref r6, .ref r7, .ref r8, .ref r9, .ref r10, .ref r11, .int L, .int P], kb_o r1 1 [.ref a1, .int 1]] := hD
  refine lv_aload_n hx hb d_Press_seek_5 rfl (lv_at hl 0 rfl) ?_
  refine va_get (D := G.1) (ci := 3) (v := .ref tr) (C := "TreePress") (T := kb_F3) (N := 5) hx hb ht kb_w3 hown hE.1 hP 5 rfl rfl 3 (by decide) (ht _ wd_29809c8a) (fun _ h9 => h9) rfl d_Press_seek_6 ?_
  refine lv_iload_n hx hb d_Press_seek_9 rfl (lv_at hl 1 rfl) ?_
  refine lv_aload_n hx hb d_Press_seek_10 rfl (lv_at hl 0 rfl) ?_
  refine va_get (D := G.1) (ci := 3) (v := .ref tp) (C := "TreePress") (T := kb_F3) (N := 5) hx hb ht kb_w3 hown hE.1 hP 5 rfl rfl 0 (by decide) (ht _ wd_667fbbc4) (fun _ h9 => h9) rfl d_Press_seek_11 ?_
  refine kb_i (wc := [kb_o tr 2 [.ref r0, .ref r1, .ref r2, .ref r3, .ref r4, .ref r5, .ref r6, .ref r7, .ref r8, .ref r9, .ref r10, .ref r11, .int L, .int P], kb_o r5 1 [.ref a5, .int 1], kb_o r6 1 [.ref a6, .int 1], kb_a G a5 16 (upd (fun _ => 0) 0 0), kb_a G a6 16 (upd (fun _ => 0) 0 0), kb_o tp 1 [.ref ta, .int 0]]) (wr := [kb_o h 3 [.ref tp, .ref ld, .ref rd, .ref tr, .ref sp], kb_o r1 1 [.ref a1, .int 1]]) hE hP hD hS [6, 1, 2, 3, 4, 0] [5, 7] rfl rfl (by decide) (by decide) (kb_rV (As := [.int 0, .ref tp]) (rest := []) (wc := [kb_o tr 2 [.ref r0, .ref r1, .ref r2, .ref r3, .ref r4, .ref r5, .ref r6, .ref r7, .ref r8, .ref r9, .ref r10, .ref r11, .int L, .int P], kb_o r5 1 [.ref a5, .int 1], kb_o r6 1 [.ref a6, .int 1], kb_a G a5 16 (upd (fun _ => 0) 0 0), kb_a G a6 16 (upd (fun _ => 0) 0 0), kb_o tp 1 [.ref ta, .int 0]]) (q0 := 0) ⟨hx, hb, hml, hown, ht⟩ ((c_Tree_propertyNamed l G tr r0 r1 r2 r3 r4 r5 r6 r7 r8 r9 r10 r11 L P tp ta 0 a5 a6) _) (kb_gV wd_b8a9a485 wd_aac1b7bf wd_9f1def76 wd_ebf91e09 wd_74d40f9d) ⟨rfl, hd_47559c00⟩ ⟨(Nat.le_of_ble_eq_true rfl), (Nat.le_of_ble_eq_true rfl)⟩ hE hP hD hS [6, 1, 2, 3, 4, 0] rfl (by decide) rfl rfl rfl hl.1 rfl (Nat.le_of_ble_eq_true rfl) d_Press_seek_14 ⟨(Nat.le_of_ble_eq_true rfl), (Nat.le_of_ble_eq_true rfl)⟩) (fun rv4 uu3 H locs hw hP hD hS => ?_)
  have hP : va_P G.1 kb_cl [kb_o h 3 [.ref tp, .ref ld, .ref rd, .ref tr, .ref sp], kb_o r1 1 [.ref a1, .int 1], kb_o r5 1 [.ref a5, .int 1], kb_a G a5 16 (upd (fun _ => 0) 0 0), kb_o r6 1 [.ref a6, .int 1], kb_a G a6 16 (upd (fun _ => 0) 0 0), kb_o tp 1 [.ref ta, .int 0], kb_o tr 2 [.ref r0, .ref r1, .ref r2, .ref r3, .ref r4, .ref r5, .ref r6, .ref r7, .ref r8, .ref r9, .ref r10, .ref r11, .int L, .int P]] H := hP
  have hD : va_D A [kb_o h 3 [.ref tp, .ref ld, .ref rd, .ref tr, .ref sp], kb_o r1 1 [.ref a1, .int 1], kb_o r5 1 [.ref a5, .int 1], kb_a G a5 16 (upd (fun _ => 0) 0 0), kb_o r6 1 [.ref a6, .int 1], kb_a G a6 16 (upd (fun _ => 0) 0 0), kb_o tp 1 [.ref ta, .int 0], kb_o tr 2 [.ref r0, .ref r1, .ref r2, .ref r3, .ref r4, .ref r5, .ref r6, .ref r7, .ref r8, .ref r9, .ref r10, .ref r11, .int L, .int P]] := hD
  refine kb_top (y := (-1)) (show rv4 = (-1) from hw) ?_
  refine lv_istore_n (lv' := [(2, .int (-1)), (0, .ref h), (1, .int 0)]) hx hb d_Press_seek_17 rfl hl (by decide) rfl (fun ls hl => ?_)
  refine lv_aload_n hx hb d_Press_seek_18 rfl (lv_at hl 1 rfl) ?_
  refine va_get (D := G.1) (ci := 3) (v := .ref tp) (C := "TreePress") (T := kb_F3) (N := 5) hx hb ht kb_w3 hown hE.1 hP 0 rfl rfl 0 (by decide) (ht _ wd_667fbbc4) (fun _ h9 => h9) rfl d_Press_seek_19 ?_
  refine lv_iconst (v := 0) hx hb d_Press_seek_22 (by decide) ?_
  refine kb_v (wc := [kb_o tp 1 [.ref ta, .int 0]]) (wr := [kb_o h 3 [.ref tp, .ref ld, .ref rd, .ref tr, .ref sp], kb_o r1 1 [.ref a1, .int 1], kb_o r5 1 [.ref a5, .int 1], kb_a G a5 16 (upd (fun _ => 0) 0 0), kb_o r6 1 [.ref a6, .int 1], kb_a G a6 16 (upd (fun _ => 0) 0 0), kb_o tr 2 [.ref r0, .ref r1, .ref r2, .ref r3, .ref r4, .ref r5, .ref r6, .ref r7, .ref r8, .ref r9, .ref r10, .ref r11, .int L, .int P]]) hE hP hD hS [6] [0, 1, 2, 3, 4, 5, 7] rfl rfl (by decide) (by decide) (kb_rV (As := [.int 0]) (rest := []) (wc := [kb_o tp 1 [.ref ta, .int 0]]) (q0 := 0) ⟨hx, hb, hml, hown, ht⟩ ((c_Row_cut0 l G tp ta) _) (kb_gV wd_50e9e1ec wd_a30f3437 wd_8c6818e9 wd_4182e433 wd_86891071) ⟨rfl, hd_934340dd⟩ ⟨(Nat.le_of_ble_eq_true rfl), (Nat.le_of_ble_eq_true rfl)⟩ hE hP hD hS [6] rfl (by decide) rfl rfl rfl hl.1 rfl (Nat.le_of_ble_eq_true rfl) d_Press_seek_23 ⟨(Nat.le_of_ble_eq_true rfl), (Nat.le_of_ble_eq_true rfl)⟩) (fun uu5 H locs hw hP hD hS => ?_)
  have hP : va_P G.1 kb_cl [kb_o h 3 [.ref tp, .ref ld, .ref rd, .ref tr, .ref sp], kb_o r1 1 [.ref a1, .int 1], kb_o r5 1 [.ref a5, .int 1], kb_a G a5 16 (upd (fun _ => 0) 0 0), kb_o r6 1 [.ref a6, .int 1], kb_a G a6 16 (upd (fun _ => 0) 0 0), kb_o tr 2 [.ref r0, .ref r1, .ref r2, .ref r3, .ref r4, .ref r5, .ref r6, .ref r7, .ref r8, .ref r9, .ref r10, .ref r11, .int L, .int P], kb_o tp 1 [.ref ta, .int 0]] H := hP
  have hD : va_D A [kb_o h 3 [.ref tp, .ref ld, .ref rd, .ref tr, .ref sp], kb_o r1 1 [.ref a1, .int 1], kb_o r5 1 [.ref a5, .int 1], kb_a G a5 16 (upd (fun _ => 0) 0 0), kb_o r6 1 [.ref a6, .int 1], kb_a G a6 16 (upd (fun _ => 0) 0 0), kb_o tr 2 [.ref r0, .ref r1, .ref r2, .ref r3, .ref r4, .ref r5, .ref r6, .ref r7, .ref r8, .ref r9, .ref r10, .ref r11, .int L, .int P], kb_o tp 1 [.ref ta, .int 0]] := hD
  refine lv_iload_n hx hb d_Press_seek_26 rfl (lv_at hl 0 rfl) ?_
  exact kb_reti (kb_l [], kb_f []) hx hb hr hlocks hE hP hD hS [] rfl (by decide) rfl rfl (Nat.le_of_ble_eq_true rfl) (Nat.le_of_ble_eq_true rfl) d_Press_seek_27

set_option maxHeartbeats 4000000 in
set_option maxRecDepth 100000 in
theorem c_Press_seekX (l : Launch) (hst : l.stackTraces = false) (G : kb_G) (h : Nat) (tp : Nat) (ld : Nat) (rd : Nat) (tr : Nat) (sp : Nat) (r0 : Nat) (r1 : Nat) (r2 : Nat) (r3 : Nat) (r4 : Nat) (r5 : Nat) (r6 : Nat) (r7 : Nat) (r8 : Nat) (r9 : Nat) (r10 : Nat) (r11 : Nat) (L : Int32) (P : Int32) (a1 : Nat) (i : Int32) (hi : ¬ i = 0) : kb_cx l G ⟨"TreePress", "seek", "(I)I"⟩ prog_1_method_19_code 3 (some .int) 7 1 6 [.ref h, .int i] [kb_o h 3 [.ref tp, .ref ld, .ref rd, .ref tr, .ref sp], kb_o tr 2 [.ref r0, .ref r1, .ref r2, .ref r3, .ref r4, .ref r5, .ref r6, .ref r7, .ref r8, .ref r9, .ref r10, .ref r11, .int L, .int P], kb_o r1 1 [.ref a1, .int 1]] "java/lang/IndexOutOfBoundsException" := by
  refine kb_bodyX (by decide) (Nat.le_of_ble_eq_true rfl) ?_
  intro p e s m below meth c A B hno hAw ls hl
  obtain ⟨hx, hb, hr, hml, hlocks, hin, hown, ht, hE, hP, hD, hS⟩ := B
  have hl : lv_has ls 3 [(0, .ref h), (1, .int i)] := hl
  have hP0 := hP
  obtain ⟨H, hHe⟩ : ∃ H, H = s.heap := ⟨_, rfl⟩
  rw [← hHe] at hP
  have hS : va_S A s.heap H [] := by rw [hHe]; exact hS
  refine kb_at hHe ?_
  clear hHe
  refine lv_aload_n hx hb d_Press_seek_0 rfl (lv_at hl 0 rfl) ?_
  refine lv_iload_n hx hb d_Press_seek_1 rfl (lv_at hl 1 rfl) ?_
  refine kb_xV (As := [.int i]) (rest := []) (wc := [kb_o h 3 [.ref tp, .ref ld, .ref rd, .ref tr, .ref sp], kb_o tr 2 [.ref r0, .ref r1, .ref r2, .ref r3, .ref r4, .ref r5, .ref r6, .ref r7, .ref r8, .ref r9, .ref r10, .ref r11, .int L, .int P], kb_o r1 1 [.ref a1, .int 1]]) (wr := []) (q0 := 0) ⟨hx, hb, hml, hown, ht⟩ (c_Press_refuseNodeX l hst G h tp ld rd tr sp r0 r1 r2 r3 r4 r5 r6 r7 r8 r9 r10 r11 L P a1 i hi) wd_cef057ed wd_8ab2e778 wd_df57965e wd_28603eaf wd_aac2f91e hd_9eec11a5 ⟨(Nat.le_of_ble_eq_true rfl), (Nat.le_of_ble_eq_true rfl)⟩ hE hP hD hS [0, 1, 2] [] rfl rfl (by decide) (by decide) (by decide) rfl rfl rfl hl.1 rfl (Nat.le_of_ble_eq_true rfl) d_Press_seek_2 ⟨(Nat.le_of_ble_eq_true rfl), (Nat.le_of_ble_eq_true rfl)⟩ (fun q9 ce H locs hce hcv hcl hP hD hS => ?_)
  exact kb_out hno hlocks hce hcv hcl hS (Nat.le_of_ble_eq_true rfl) (Nat.le_of_ble_eq_true rfl)
