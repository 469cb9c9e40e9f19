theorem wd_e671cba5 : (Jvm.Cond.classLink "TreePressLaw" (8 : Nat) "TreePress") ∈ kb_T := kb_t1 15 (by decide +kernel) (by decide +kernel)
theorem wd_720f3217 : (Jvm.Cond.instantiable "TreePress" (5 : Nat)) ∈ kb_T := kb_t1 16 (by decide +kernel) (by decide +kernel)
theorem wd_56cc7262 : (Jvm.Cond.code ({ cls := "TreePress", name := "<init>", desc := "()V" } : Jvm.MethodName) prog_1_method_1_code (1 : Nat) (Option.none : Option Jvm.ClassFile.FieldType)) ∈ kb_T := kb_t1 19 (by decide +kernel) (by decide +kernel)
theorem wd_9271ed33 : (Jvm.Cond.methodLink "TreePressLaw" (56 : Nat) ({ cls := "TreePress", name := "<init>", desc := "()V" } : Jvm.MethodName)) ∈ kb_T := kb_t1 17 (by decide +kernel) (by decide +kernel)
theorem wd_0a77ec7f : (Jvm.Cond.instanceMethod ({ cls := "TreePress", name := "<init>", desc := "()V" } : Jvm.MethodName)) ∈ kb_T := kb_t1 18 (by decide +kernel) (by decide +kernel)
theorem hd_7fd5b08e : (⟨"TreePress", "<init>", "()V"⟩ : MethodName).cls ≠ "java/lang/invoke/MethodHandle" ∧ (⟨"TreePress", "<init>", "()V"⟩ : MethodName).cls ≠ "java/lang/invoke/VarHandle" ∧ (parseMethodDescriptor (⟨"TreePress", "<init>", "()V"⟩ : MethodName).desc).map (fun d => d.parameters.length) = some 0 := by decide +kernel
theorem wd_ac4aa980 : (Jvm.Cond.classLink "TreePressLaw" (57 : Nat) "TreePressModel") ∈ kb_T := kb_t3 174 (by decide +kernel) (by decide +kernel)
theorem wd_762ef90f : (Jvm.Cond.instantiable "TreePressModel" (21 : Nat)) ∈ kb_T := kb_t3 175 (by decide +kernel) (by decide +kernel)
theorem wd_e27998ee : (Jvm.Cond.code ({ cls := "TreePressModel", name := "<init>", desc := "()V" } : Jvm.MethodName) prog_6_method_1_code (1 : Nat) (Option.none : Option Jvm.ClassFile.FieldType)) ∈ kb_T := kb_t3 178 (by decide +kernel) (by decide +kernel)
theorem wd_d97c1bf5 : (Jvm.Cond.methodLink "TreePressLaw" (59 : Nat) ({ cls := "TreePressModel", name := "<init>", desc := "()V" } : Jvm.MethodName)) ∈ kb_T := kb_t3 176 (by decide +kernel) (by decide +kernel)
theorem wd_eec02a1f : (Jvm.Cond.instanceMethod ({ cls := "TreePressModel", name := "<init>", desc := "()V" } : Jvm.MethodName)) ∈ kb_T := kb_t3 177 (by decide +kernel) (by decide +kernel)
theorem hd_b8afc2a8 : (⟨"TreePressModel", "<init>", "()V"⟩ : MethodName).cls ≠ "java/lang/invoke/MethodHandle" ∧ (⟨"TreePressModel", "<init>", "()V"⟩ : MethodName).cls ≠ "java/lang/invoke/VarHandle" ∧ (parseMethodDescriptor (⟨"TreePressModel", "<init>", "()V"⟩ : MethodName).desc).map (fun d => d.parameters.length) = some 0 := by decide +kernel
theorem wd_e7fb1018 : (Jvm.Cond.arrayClass Jvm.ClassFile.FieldType.long) ∈ kb_T := kb_t4 228 (by decide +kernel) (by decide +kernel)
theorem wd_1b307c93 : (Jvm.Cond.codeWith ({ cls := "TreePressLaw", name := "feed", desc := "(LTreePress;IIIII[J)I" } : Jvm.MethodName) method_3_code (8 : Nat) (Option.some Jvm.ClassFile.FieldType.int) [((0 : Nat), (16 : Nat), (19 : Nat), (13 : Nat))]) ∈ kb_T := kb_t2 163 (by decide +kernel) (by decide +kernel)
theorem wd_e4ece85a : (Jvm.Cond.initialized "TreePressLaw") ∈ kb_T := kb_t1 0 (by decide +kernel) (by decide +kernel)
theorem wd_41d766e6 : (Jvm.Cond.methodLink "TreePressLaw" (60 : Nat) ({ cls := "TreePressLaw", name := "feed", desc := "(LTreePress;IIIII[J)I" } : Jvm.MethodName)) ∈ kb_T := kb_t2 161 (by decide +kernel) (by decide +kernel)
theorem wd_698e49dd : (Jvm.Cond.static ({ cls := "TreePressLaw", name := "feed", desc := "(LTreePress;IIIII[J)I" } : Jvm.MethodName)) ∈ kb_T := kb_t2 162 (by decide +kernel) (by decide +kernel)
theorem hd_81fe37d1 : (⟨"TreePressLaw", "feed", "(LTreePress;IIIII[J)I"⟩ : MethodName).cls ≠ "java/lang/invoke/MethodHandle" ∧ (⟨"TreePressLaw", "feed", "(LTreePress;IIIII[J)I"⟩ : MethodName).cls ≠ "java/lang/invoke/VarHandle" ∧ (parseMethodDescriptor (⟨"TreePressLaw", "feed", "(LTreePress;IIIII[J)I"⟩ : MethodName).desc).map (fun d => d.parameters.length) = some 7 := by decide +kernel
theorem wd_dcc8a43d : (Jvm.Cond.methodLink "TreePressLaw" (65 : Nat) ({ cls := "TreePressModel", name := "feed", desc := "(IIIII)I" } : Jvm.MethodName)) ∈ kb_T := kb_t4 14 (by decide +kernel) (by decide +kernel)
theorem wd_e3f55f0d : (Jvm.Cond.instanceMethod ({ cls := "TreePressModel", name := "feed", desc := "(IIIII)I" } : Jvm.MethodName)) ∈ kb_T := kb_t4 15 (by decide +kernel) (by decide +kernel)
theorem wd_5d0768fe : (Jvm.Cond.selects "TreePressModel" ({ cls := "TreePressModel", name := "feed", desc := "(IIIII)I" } : Jvm.MethodName) ({ cls := "TreePressModel", name := "feed", desc := "(IIIII)I" } : Jvm.MethodName)) ∈ kb_T := kb_t4 16 (by decide +kernel) (by decide +kernel)
theorem wd_11677a60 : (Jvm.Cond.code ({ cls := "TreePressModel", name := "feed", desc := "(IIIII)I" } : Jvm.MethodName) prog_6_method_4_code (8 : Nat) (Option.some Jvm.ClassFile.FieldType.int)) ∈ kb_T := kb_t4 17 (by decide +kernel) (by decide +kernel)
theorem hd_dd4544fd : (⟨"TreePressModel", "feed", "(IIIII)I"⟩ : MethodName).cls ≠ "java/lang/invoke/MethodHandle" ∧ (⟨"TreePressModel", "feed", "(IIIII)I"⟩ : MethodName).cls ≠ "java/lang/invoke/VarHandle" ∧ (parseMethodDescriptor (⟨"TreePressModel", "feed", "(IIIII)I"⟩ : MethodName).desc).map (fun d => d.parameters.length) = some 5 := by decide +kernel
theorem wd_1946a056 : (Jvm.Cond.methodLink "TreePressLaw" (66 : Nat) ({ cls := "TreePressModel", name := "thrown", desc := "()I" } : Jvm.MethodName)) ∈ kb_T := kb_t4 10 (by decide +kernel) (by decide +kernel)
theorem wd_e9c50365 : (Jvm.Cond.instanceMethod ({ cls := "TreePressModel", name := "thrown", desc := "()I" } : Jvm.MethodName)) ∈ kb_T := kb_t4 11 (by decide +kernel) (by decide +kernel)
theorem wd_a707e5a8 : (Jvm.Cond.selects "TreePressModel" ({ cls := "TreePressModel", name := "thrown", desc := "()I" } : Jvm.MethodName) ({ cls := "TreePressModel", name := "thrown", desc := "()I" } : Jvm.MethodName)) ∈ kb_T := kb_t4 12 (by decide +kernel) (by decide +kernel)
theorem wd_79f18ba3 : (Jvm.Cond.code ({ cls := "TreePressModel", name := "thrown", desc := "()I" } : Jvm.MethodName) prog_6_method_2_code (1 : Nat) (Option.some Jvm.ClassFile.FieldType.int)) ∈ kb_T := kb_t4 13 (by decide +kernel) (by decide +kernel)
theorem hd_2a236ec3 : (⟨"TreePressModel", "thrown", "()I"⟩ : MethodName).cls ≠ "java/lang/invoke/MethodHandle" ∧ (⟨"TreePressModel", "thrown", "()I"⟩ : MethodName).cls ≠ "java/lang/invoke/VarHandle" ∧ (parseMethodDescriptor (⟨"TreePressModel", "thrown", "()I"⟩ : MethodName).desc).map (fun d => d.parameters.length) = some 0 := by decide +kernel
theorem wd_6ba7000f : (Jvm.Cond.codeWith ({ cls := "TreePressLaw", name := "end", desc := "(LTreePress;I)I" } : Jvm.MethodName) method_4_code (3 : Nat) (Option.some Jvm.ClassFile.FieldType.int) [((0 : Nat), (5 : Nat), (8 : Nat), (19 : Nat))]) ∈ kb_T := kb_t3 1 (by decide +kernel) (by decide +kernel)
theorem wd_5538317d : (Jvm.Cond.methodLink "TreePressLaw" (69 : Nat) ({ cls := "TreePressLaw", name := "end", desc := "(LTreePress;I)I" } : Jvm.MethodName)) ∈ kb_T := kb_t2 239 (by decide +kernel) (by decide +kernel)
theorem wd_4b10f5b3 : (Jvm.Cond.static ({ cls := "TreePressLaw", name := "end", desc := "(LTreePress;I)I" } : Jvm.MethodName)) ∈ kb_T := kb_t3 0 (by decide +kernel) (by decide +kernel)
theorem hd_c5435246 : (⟨"TreePressLaw", "end", "(LTreePress;I)I"⟩ : MethodName).cls ≠ "java/lang/invoke/MethodHandle" ∧ (⟨"TreePressLaw", "end", "(LTreePress;I)I"⟩ : MethodName).cls ≠ "java/lang/invoke/VarHandle" ∧ (parseMethodDescriptor (⟨"TreePressLaw", "end", "(LTreePress;I)I"⟩ : MethodName).desc).map (fun d => d.parameters.length) = some 2 := by decide +kernel
theorem wd_f70860fa : (Jvm.Cond.methodLink "TreePressLaw" (72 : Nat) ({ cls := "TreePressModel", name := "end", desc := "(I)V" } : Jvm.MethodName)) ∈ kb_T := kb_t4 18 (by decide +kernel) (by decide +kernel)
theorem wd_d3e04aa9 : (Jvm.Cond.instanceMethod ({ cls := "TreePressModel", name := "end", desc := "(I)V" } : Jvm.MethodName)) ∈ kb_T := kb_t4 19 (by decide +kernel) (by decide +kernel)
theorem wd_b17cb2e3 : (Jvm.Cond.selects "TreePressModel" ({ cls := "TreePressModel", name := "end", desc := "(I)V" } : Jvm.MethodName) ({ cls := "TreePressModel", name := "end", desc := "(I)V" } : Jvm.MethodName)) ∈ kb_T := kb_t4 20 (by decide +kernel) (by decide +kernel)
theorem wd_9a9fbd5b : (Jvm.Cond.code ({ cls := "TreePressModel", name := "end", desc := "(I)V" } : Jvm.MethodName) prog_6_method_5_code (2 : Nat) (Option.none : Option Jvm.ClassFile.FieldType)) ∈ kb_T := kb_t4 21 (by decide +kernel) (by decide +kernel)
theorem hd_fe5d2082 : (⟨"TreePressModel", "end", "(I)V"⟩ : MethodName).cls ≠ "java/lang/invoke/MethodHandle" ∧ (⟨"TreePressModel", "end", "(I)V"⟩ : MethodName).cls ≠ "java/lang/invoke/VarHandle" ∧ (parseMethodDescriptor (⟨"TreePressModel", "end", "(I)V"⟩ : MethodName).desc).map (fun d => d.parameters.length) = some 1 := by decide +kernel
theorem wd_64b81240 : (Jvm.Cond.methodLink "TreePressLaw" (73 : Nat) ({ cls := "TreePress", name := "clear", desc := "()V" } : Jvm.MethodName)) ∈ kb_T := kb_t1 178 (by decide +kernel) (by decide +kernel)
theorem wd_9f999bb7 : (Jvm.Cond.instanceMethod ({ cls := "TreePress", name := "clear", desc := "()V" } : Jvm.MethodName)) ∈ kb_T := kb_t1 179 (by decide +kernel) (by decide +kernel)
theorem wd_83fc0403 : (Jvm.Cond.selects "TreePress" ({ cls := "TreePress", name := "clear", desc := "()V" } : Jvm.MethodName) ({ cls := "TreePress", name := "clear", desc := "()V" } : Jvm.MethodName)) ∈ kb_T := kb_t1 180 (by decide +kernel) (by decide +kernel)
theorem wd_041f142a : (Jvm.Cond.code ({ cls := "TreePress", name := "clear", desc := "()V" } : Jvm.MethodName) prog_1_method_4_code (1 : Nat) (Option.none : Option Jvm.ClassFile.FieldType)) ∈ kb_T := kb_t1 181 (by decide +kernel) (by decide +kernel)
theorem hd_6245d470 : (⟨"TreePress", "clear", "()V"⟩ : MethodName).cls ≠ "java/lang/invoke/MethodHandle" ∧ (⟨"TreePress", "clear", "()V"⟩ : MethodName).cls ≠ "java/lang/invoke/VarHandle" ∧ (parseMethodDescriptor (⟨"TreePress", "clear", "()V"⟩ : MethodName).desc).map (fun d => d.parameters.length) = some 0 := by decide +kernel
theorem wd_dae62bba : (Jvm.Cond.methodLink "TreePressLaw" (76 : Nat) ({ cls := "TreePressModel", name := "clear", desc := "()V" } : Jvm.MethodName)) ∈ kb_T := kb_t4 22 (by decide +kernel) (by decide +kernel)
theorem wd_5380ecfc : (Jvm.Cond.instanceMethod ({ cls := "TreePressModel", name := "clear", desc := "()V" } : Jvm.MethodName)) ∈ kb_T := kb_t4 23 (by decide +kernel) (by decide +kernel)
theorem wd_8b3c037b : (Jvm.Cond.selects "TreePressModel" ({ cls := "TreePressModel", name := "clear", desc := "()V" } : Jvm.MethodName) ({ cls := "TreePressModel", name := "clear", desc := "()V" } : Jvm.MethodName)) ∈ kb_T := kb_t4 24 (by decide +kernel) (by decide +kernel)
theorem wd_1ed01684 : (Jvm.Cond.code ({ cls := "TreePressModel", name := "clear", desc := "()V" } : Jvm.MethodName) prog_6_method_9_code (1 : Nat) (Option.none : Option Jvm.ClassFile.FieldType)) ∈ kb_T := kb_t4 25 (by decide +kernel) (by decide +kernel)
theorem hd_f1962557 : (⟨"TreePressModel", "clear", "()V"⟩ : MethodName).cls ≠ "java/lang/invoke/MethodHandle" ∧ (⟨"TreePressModel", "clear", "()V"⟩ : MethodName).cls ≠ "java/lang/invoke/VarHandle" ∧ (parseMethodDescriptor (⟨"TreePressModel", "clear", "()V"⟩ : MethodName).desc).map (fun d => d.parameters.length) = some 0 := by decide +kernel
theorem wd_9f741124 : (Jvm.Cond.codeWith ({ cls := "TreePressLaw", name := "open", desc := "(LTreePress;[J)I" } : Jvm.MethodName) method_5_code (3 : Nat) (Option.some Jvm.ClassFile.FieldType.int) [((0 : Nat), (8 : Nat), (11 : Nat), (19 : Nat)), ((0 : Nat), (8 : Nat), (14 : Nat), (13 : Nat))]) ∈ kb_T := kb_t3 25 (by decide +kernel) (by decide +kernel)
theorem wd_3986aa67 : (Jvm.Cond.methodLink "TreePressLaw" (77 : Nat) ({ cls := "TreePressLaw", name := "open", desc := "(LTreePress;[J)I" } : Jvm.MethodName)) ∈ kb_T := kb_t3 23 (by decide +kernel) (by decide +kernel)
theorem wd_990c6c54 : (Jvm.Cond.static ({ cls := "TreePressLaw", name := "open", desc := "(LTreePress;[J)I" } : Jvm.MethodName)) ∈ kb_T := kb_t3 24 (by decide +kernel) (by decide +kernel)
theorem hd_265c11da : (⟨"TreePressLaw", "open", "(LTreePress;[J)I"⟩ : MethodName).cls ≠ "java/lang/invoke/MethodHandle" ∧ (⟨"TreePressLaw", "open", "(LTreePress;[J)I"⟩ : MethodName).cls ≠ "java/lang/invoke/VarHandle" ∧ (parseMethodDescriptor (⟨"TreePressLaw", "open", "(LTreePress;[J)I"⟩ : MethodName).desc).map (fun d => d.parameters.length) = some 2 := by decide +kernel
theorem wd_51a656f5 : (Jvm.Cond.methodLink "TreePressLaw" (80 : Nat) ({ cls := "TreePressModel", name := "open", desc := "()I" } : Jvm.MethodName)) ∈ kb_T := kb_t4 26 (by decide +kernel) (by decide +kernel)
theorem wd_8640e62f : (Jvm.Cond.instanceMethod ({ cls := "TreePressModel", name := "open", desc := "()I" } : Jvm.MethodName)) ∈ kb_T := kb_t4 27 (by decide +kernel) (by decide +kernel)
theorem wd_09fa5bb0 : (Jvm.Cond.selects "TreePressModel" ({ cls := "TreePressModel", name := "open", desc := "()I" } : Jvm.MethodName) ({ cls := "TreePressModel", name := "open", desc := "()I" } : Jvm.MethodName)) ∈ kb_T := kb_t4 28 (by decide +kernel) (by decide +kernel)
theorem wd_2793d320 : (Jvm.Cond.code ({ cls := "TreePressModel", name := "open", desc := "()I" } : Jvm.MethodName) prog_6_method_12_code (2 : Nat) (Option.some Jvm.ClassFile.FieldType.int)) ∈ kb_T := kb_t4 29 (by decide +kernel) (by decide +kernel)
theorem hd_f6295e56 : (⟨"TreePressModel", "open", "()I"⟩ : MethodName).cls ≠ "java/lang/invoke/MethodHandle" ∧ (⟨"TreePressModel", "open", "()I"⟩ : MethodName).cls ≠ "java/lang/invoke/VarHandle" ∧ (parseMethodDescriptor (⟨"TreePressModel", "open", "()I"⟩ : MethodName).desc).map (fun d => d.parameters.length) = some 0 := by decide +kernel
theorem wd_cf6362a0 : (Jvm.Cond.codeWith ({ cls := "TreePressLaw", name := "property", desc := "(LTreePress;I[J)I" } : Jvm.MethodName) method_6_code (4 : Nat) (Option.some Jvm.ClassFile.FieldType.int) [((0 : Nat), (9 : Nat), (12 : Nat), (19 : Nat)), ((0 : Nat), (9 : Nat), (15 : Nat), (13 : Nat))]) ∈ kb_T := kb_t3 42 (by decide +kernel) (by decide +kernel)
theorem wd_66d3794d : (Jvm.Cond.methodLink "TreePressLaw" (81 : Nat) ({ cls := "TreePressLaw", name := "property", desc := "(LTreePress;I[J)I" } : Jvm.MethodName)) ∈ kb_T := kb_t3 40 (by decide +kernel) (by decide +kernel)
theorem wd_2b63c693 : (Jvm.Cond.static ({ cls := "TreePressLaw", name := "property", desc := "(LTreePress;I[J)I" } : Jvm.MethodName)) ∈ kb_T := kb_t3 41 (by decide +kernel) (by decide +kernel)
theorem hd_b11d2f41 : (⟨"TreePressLaw", "property", "(LTreePress;I[J)I"⟩ : MethodName).cls ≠ "java/lang/invoke/MethodHandle" ∧ (⟨"TreePressLaw", "property", "(LTreePress;I[J)I"⟩ : MethodName).cls ≠ "java/lang/invoke/VarHandle" ∧ (parseMethodDescriptor (⟨"TreePressLaw", "property", "(LTreePress;I[J)I"⟩ : MethodName).desc).map (fun d => d.parameters.length) = some 3 := by decide +kernel
theorem wd_939332a7 : (Jvm.Cond.methodLink "TreePressLaw" (84 : Nat) ({ cls := "TreePressModel", name := "property", desc := "(I)I" } : Jvm.MethodName)) ∈ kb_T := kb_t4 49 (by decide +kernel) (by decide +kernel)
theorem wd_4b15fc80 : (Jvm.Cond.instanceMethod ({ cls := "TreePressModel", name := "property", desc := "(I)I" } : Jvm.MethodName)) ∈ kb_T := kb_t4 50 (by decide +kernel) (by decide +kernel)
theorem wd_9969d772 : (Jvm.Cond.selects "TreePressModel" ({ cls := "TreePressModel", name := "property", desc := "(I)I" } : Jvm.MethodName) ({ cls := "TreePressModel", name := "property", desc := "(I)I" } : Jvm.MethodName)) ∈ kb_T := kb_t4 51 (by decide +kernel) (by decide +kernel)
theorem wd_cdf7aa9a : (Jvm.Cond.code ({ cls := "TreePressModel", name := "property", desc := "(I)I" } : Jvm.MethodName) prog_6_method_14_code (3 : Nat) (Option.some Jvm.ClassFile.FieldType.int)) ∈ kb_T := kb_t4 52 (by decide +kernel) (by decide +kernel)
theorem hd_809f5210 : (⟨"TreePressModel", "property", "(I)I"⟩ : MethodName).cls ≠ "java/lang/invoke/MethodHandle" ∧ (⟨"TreePressModel", "property", "(I)I"⟩ : MethodName).cls ≠ "java/lang/invoke/VarHandle" ∧ (parseMethodDescriptor (⟨"TreePressModel", "property", "(I)I"⟩ : MethodName).desc).map (fun d => d.parameters.length) = some 1 := by decide +kernel
theorem wd_34830460 : (Jvm.Cond.codeWith ({ cls := "TreePressLaw", name := "close", desc := "(LTreePress;[J)I" } : Jvm.MethodName) method_7_code (3 : Nat) (Option.some Jvm.ClassFile.FieldType.int) [((0 : Nat), (8 : Nat), (11 : Nat), (19 : Nat))]) ∈ kb_T := kb_t3 54 (by decide +kernel) (by decide +kernel)
theorem wd_06ba80b6 : (Jvm.Cond.methodLink "TreePressLaw" (85 : Nat) ({ cls := "TreePressLaw", name := "close", desc := "(LTreePress;[J)I" } : Jvm.MethodName)) ∈ kb_T := kb_t3 52 (by decide +kernel) (by decide +kernel)
theorem wd_b2706fb8 : (Jvm.Cond.static ({ cls := "TreePressLaw", name := "close", desc := "(LTreePress;[J)I" } : Jvm.MethodName)) ∈ kb_T := kb_t3 53 (by decide +kernel) (by decide +kernel)
theorem hd_4db4e41c : (⟨"TreePressLaw", "close", "(LTreePress;[J)I"⟩ : MethodName).cls ≠ "java/lang/invoke/MethodHandle" ∧ (⟨"TreePressLaw", "close", "(LTreePress;[J)I"⟩ : MethodName).cls ≠ "java/lang/invoke/VarHandle" ∧ (parseMethodDescriptor (⟨"TreePressLaw", "close", "(LTreePress;[J)I"⟩ : MethodName).desc).map (fun d => d.parameters.length) = some 2 := by decide +kernel
theorem wd_1232fd34 : (Jvm.Cond.methodLink "TreePressLaw" (87 : Nat) ({ cls := "TreePressModel", name := "close", desc := "()I" } : Jvm.MethodName)) ∈ kb_T := kb_t4 57 (by decide +kernel) (by decide +kernel)
theorem wd_4834e6c3 : (Jvm.Cond.instanceMethod ({ cls := "TreePressModel", name := "close", desc := "()I" } : Jvm.MethodName)) ∈ kb_T := kb_t4 58 (by decide +kernel) (by decide +kernel)
theorem wd_1a995207 : (Jvm.Cond.selects "TreePressModel" ({ cls := "TreePressModel", name := "close", desc := "()I" } : Jvm.MethodName) ({ cls := "TreePressModel", name := "close", desc := "()I" } : Jvm.MethodName)) ∈ kb_T := kb_t4 59 (by decide +kernel) (by decide +kernel)
theorem wd_91b61722 : (Jvm.Cond.code ({ cls := "TreePressModel", name := "close", desc := "()I" } : Jvm.MethodName) prog_6_method_15_code (1 : Nat) (Option.some Jvm.ClassFile.FieldType.int)) ∈ kb_T := kb_t4 60 (by decide +kernel) (by decide +kernel)
theorem hd_185ad284 : (⟨"TreePressModel", "close", "()I"⟩ : MethodName).cls ≠ "java/lang/invoke/MethodHandle" ∧ (⟨"TreePressModel", "close", "()I"⟩ : MethodName).cls ≠ "java/lang/invoke/VarHandle" ∧ (parseMethodDescriptor (⟨"TreePressModel", "close", "()I"⟩ : MethodName).desc).map (fun d => d.parameters.length) = some 0 := by decide +kernel
theorem wd_5f84cef8 : (Jvm.Cond.methodLink "TreePressLaw" (88 : Nat) ({ cls := "TreePress", name := "lay", desc := "()I" } : Jvm.MethodName)) ∈ kb_T := kb_t1 183 (by decide +kernel) (by decide +kernel)
theorem wd_3128b7ad : (Jvm.Cond.instanceMethod ({ cls := "TreePress", name := "lay", desc := "()I" } : Jvm.MethodName)) ∈ kb_T := kb_t1 184 (by decide +kernel) (by decide +kernel)
theorem wd_60d817db : (Jvm.Cond.selects "TreePress" ({ cls := "TreePress", name := "lay", desc := "()I" } : Jvm.MethodName) ({ cls := "TreePress", name := "lay", desc := "()I" } : Jvm.MethodName)) ∈ kb_T := kb_t1 185 (by decide +kernel) (by decide +kernel)
theorem wd_1feb61cb : (Jvm.Cond.code ({ cls := "TreePress", name := "lay", desc := "()I" } : Jvm.MethodName) prog_1_method_8_code (1 : Nat) (Option.some Jvm.ClassFile.FieldType.int)) ∈ kb_T := kb_t1 186 (by decide +kernel) (by decide +kernel)
theorem hd_756b451b : (⟨"TreePress", "lay", "()I"⟩ : MethodName).cls ≠ "java/lang/invoke/MethodHandle" ∧ (⟨"TreePress", "lay", "()I"⟩ : MethodName).cls ≠ "java/lang/invoke/VarHandle" ∧ (parseMethodDescriptor (⟨"TreePress", "lay", "()I"⟩ : MethodName).desc).map (fun d => d.parameters.length) = some 0 := by decide +kernel
theorem wd_1b776702 : (Jvm.Cond.methodLink "TreePressLaw" (91 : Nat) ({ cls := "TreePressModel", name := "lay", desc := "()I" } : Jvm.MethodName)) ∈ kb_T := kb_t4 61 (by decide +kernel) (by decide +kernel)
theorem wd_f00d4ad2 : (Jvm.Cond.instanceMethod ({ cls := "TreePressModel", name := "lay", desc := "()I" } : Jvm.MethodName)) ∈ kb_T := kb_t4 62 (by decide +kernel) (by decide +kernel)
theorem wd_979bd664 : (Jvm.Cond.selects "TreePressModel" ({ cls := "TreePressModel", name := "lay", desc := "()I" } : Jvm.MethodName) ({ cls := "TreePressModel", name := "lay", desc := "()I" } : Jvm.MethodName)) ∈ kb_T := kb_t4 63 (by decide +kernel) (by decide +kernel)
theorem wd_92160c17 : (Jvm.Cond.code ({ cls := "TreePressModel", name := "lay", desc := "()I" } : Jvm.MethodName) prog_6_method_26_code (3 : Nat) (Option.some Jvm.ClassFile.FieldType.int)) ∈ kb_T := kb_t4 64 (by decide +kernel) (by decide +kernel)
theorem hd_ceca1969 : (⟨"TreePressModel", "lay", "()I"⟩ : MethodName).cls ≠ "java/lang/invoke/MethodHandle" ∧ (⟨"TreePressModel", "lay", "()I"⟩ : MethodName).cls ≠ "java/lang/invoke/VarHandle" ∧ (parseMethodDescriptor (⟨"TreePressModel", "lay", "()I"⟩ : MethodName).desc).map (fun d => d.parameters.length) = some 0 := by decide +kernel
theorem wd_91de2b8f : (Jvm.Cond.codeWith ({ cls := "TreePressLaw", name := "laid", desc := "(LTreePress;I[J)I" } : Jvm.MethodName) method_8_code (4 : Nat) (Option.some Jvm.ClassFile.FieldType.int) [((0 : Nat), (9 : Nat), (12 : Nat), (35 : Nat))]) ∈ kb_T := kb_t3 67 (by decide +kernel) (by decide +kernel)
theorem wd_b690e1d1 : (Jvm.Cond.methodLink "TreePressLaw" (92 : Nat) ({ cls := "TreePressLaw", name := "laid", desc := "(LTreePress;I[J)I" } : Jvm.MethodName)) ∈ kb_T := kb_t3 65 (by decide +kernel) (by decide +kernel)
theorem wd_f349fea7 : (Jvm.Cond.static ({ cls := "TreePressLaw", name := "laid", desc := "(LTreePress;I[J)I" } : Jvm.MethodName)) ∈ kb_T := kb_t3 66 (by decide +kernel) (by decide +kernel)
theorem hd_5f2fd636 : (⟨"TreePressLaw", "laid", "(LTreePress;I[J)I"⟩ : MethodName).cls ≠ "java/lang/invoke/MethodHandle" ∧ (⟨"TreePressLaw", "laid", "(LTreePress;I[J)I"⟩ : MethodName).cls ≠ "java/lang/invoke/VarHandle" ∧ (parseMethodDescriptor (⟨"TreePressLaw", "laid", "(LTreePress;I[J)I"⟩ : MethodName).desc).map (fun d => d.parameters.length) = some 3 := by decide +kernel
theorem wd_8287ed1d : (Jvm.Cond.methodLink "TreePressLaw" (94 : Nat) ({ cls := "TreePressModel", name := "laid", desc := "(I)I" } : Jvm.MethodName)) ∈ kb_T := kb_t4 106 (by decide +kernel) (by decide +kernel)
theorem wd_fff27092 : (Jvm.Cond.instanceMethod ({ cls := "TreePressModel", name := "laid", desc := "(I)I" } : Jvm.MethodName)) ∈ kb_T := kb_t4 107 (by decide +kernel) (by decide +kernel)
theorem wd_d27d6c24 : (Jvm.Cond.selects "TreePressModel" ({ cls := "TreePressModel", name := "laid", desc := "(I)I" } : Jvm.MethodName) ({ cls := "TreePressModel", name := "laid", desc := "(I)I" } : Jvm.MethodName)) ∈ kb_T := kb_t4 108 (by decide +kernel) (by decide +kernel)
theorem wd_3b9c5a3f : (Jvm.Cond.code ({ cls := "TreePressModel", name := "laid", desc := "(I)I" } : Jvm.MethodName) prog_6_method_27_code (2 : Nat) (Option.some Jvm.ClassFile.FieldType.int)) ∈ kb_T := kb_t4 109 (by decide +kernel) (by decide +kernel)
theorem hd_90767ece : (⟨"TreePressModel", "laid", "(I)I"⟩ : MethodName).cls ≠ "java/lang/invoke/MethodHandle" ∧ (⟨"TreePressModel", "laid", "(I)I"⟩ : MethodName).cls ≠ "java/lang/invoke/VarHandle" ∧ (parseMethodDescriptor (⟨"TreePressModel", "laid", "(I)I"⟩ : MethodName).desc).map (fun d => d.parameters.length) = some 1 := by decide +kernel
theorem wd_6a8a12a1 : (Jvm.Cond.methodLink "TreePressLaw" (95 : Nat) ({ cls := "TreePress", name := "read", desc := "()I" } : Jvm.MethodName)) ∈ kb_T := kb_t2 16 (by decide +kernel) (by decide +kernel)
theorem wd_8f111bbc : (Jvm.Cond.instanceMethod ({ cls := "TreePress", name := "read", desc := "()I" } : Jvm.MethodName)) ∈ kb_T := kb_t2 17 (by decide +kernel) (by decide +kernel)
theorem wd_9e3db72e : (Jvm.Cond.selects "TreePress" ({ cls := "TreePress", name := "read", desc := "()I" } : Jvm.MethodName) ({ cls := "TreePress", name := "read", desc := "()I" } : Jvm.MethodName)) ∈ kb_T := kb_t2 18 (by decide +kernel) (by decide +kernel)
theorem wd_56e7c0fe : (Jvm.Cond.code ({ cls := "TreePress", name := "read", desc := "()I" } : Jvm.MethodName) prog_1_method_10_code (2 : Nat) (Option.some Jvm.ClassFile.FieldType.int)) ∈ kb_T := kb_t2 19 (by decide +kernel) (by decide +kernel)
theorem hd_902d9acb : (⟨"TreePress", "read", "()I"⟩ : MethodName).cls ≠ "java/lang/invoke/MethodHandle" ∧ (⟨"TreePress", "read", "()I"⟩ : MethodName).cls ≠ "java/lang/invoke/VarHandle" ∧ (parseMethodDescriptor (⟨"TreePress", "read", "()I"⟩ : MethodName).desc).map (fun d => d.parameters.length) = some 0 := by decide +kernel
theorem wd_4120798b : (Jvm.Cond.methodLink "TreePressLaw" (98 : Nat) ({ cls := "TreePressModel", name := "read", desc := "()I" } : Jvm.MethodName)) ∈ kb_T := kb_t4 110 (by decide +kernel) (by decide +kernel)
theorem wd_ff41a2ba : (Jvm.Cond.instanceMethod ({ cls := "TreePressModel", name := "read", desc := "()I" } : Jvm.MethodName)) ∈ kb_T := kb_t4 111 (by decide +kernel) (by decide +kernel)
theorem wd_72c62116 : (Jvm.Cond.selects "TreePressModel" ({ cls := "TreePressModel", name := "read", desc := "()I" } : Jvm.MethodName) ({ cls := "TreePressModel", name := "read", desc := "()I" } : Jvm.MethodName)) ∈ kb_T := kb_t4 112 (by decide +kernel) (by decide +kernel)
theorem wd_0bd856fa : (Jvm.Cond.code ({ cls := "TreePressModel", name := "read", desc := "()I" } : Jvm.MethodName) prog_6_method_39_code (2 : Nat) (Option.some Jvm.ClassFile.FieldType.int)) ∈ kb_T := kb_t4 113 (by decide +kernel) (by decide +kernel)
theorem hd_240c9376 : (⟨"TreePressModel", "read", "()I"⟩ : MethodName).cls ≠ "java/lang/invoke/MethodHandle" ∧ (⟨"TreePressModel", "read", "()I"⟩ : MethodName).cls ≠ "java/lang/invoke/VarHandle" ∧ (parseMethodDescriptor (⟨"TreePressModel", "read", "()I"⟩ : MethodName).desc).map (fun d => d.parameters.length) = some 0 := by decide +kernel
theorem wd_2ced71a4 : (Jvm.Cond.methodLink "TreePressLaw" (99 : Nat) ({ cls := "TreePress", name := "nodes", desc := "()I" } : Jvm.MethodName)) ∈ kb_T := kb_t2 138 (by decide +kernel) (by decide +kernel)
theorem wd_704bff53 : (Jvm.Cond.instanceMethod ({ cls := "TreePress", name := "nodes", desc := "()I" } : Jvm.MethodName)) ∈ kb_T := kb_t2 139 (by decide +kernel) (by decide +kernel)
theorem wd_60c1f3f4 : (Jvm.Cond.selects "TreePress" ({ cls := "TreePress", name := "nodes", desc := "()I" } : Jvm.MethodName) ({ cls := "TreePress", name := "nodes", desc := "()I" } : Jvm.MethodName)) ∈ kb_T := kb_t2 140 (by decide +kernel) (by decide +kernel)
theorem wd_0780822e : (Jvm.Cond.code ({ cls := "TreePress", name := "nodes", desc := "()I" } : Jvm.MethodName) prog_1_method_11_code (1 : Nat) (Option.some Jvm.ClassFile.FieldType.int)) ∈ kb_T := kb_t2 141 (by decide +kernel) (by decide +kernel)
theorem hd_50a5937a : (⟨"TreePress", "nodes", "()I"⟩ : MethodName).cls ≠ "java/lang/invoke/MethodHandle" ∧ (⟨"TreePress", "nodes", "()I"⟩ : MethodName).cls ≠ "java/lang/invoke/VarHandle" ∧ (parseMethodDescriptor (⟨"TreePress", "nodes", "()I"⟩ : MethodName).desc).map (fun d => d.parameters.length) = some 0 := by decide +kernel
theorem wd_84389235 : (Jvm.Cond.methodLink "TreePressLaw" (102 : Nat) ({ cls := "TreePressModel", name := "nodes", desc := "()I" } : Jvm.MethodName)) ∈ kb_T := kb_t4 172 (by decide +kernel) (by decide +kernel)
theorem wd_1ba3f21d : (Jvm.Cond.instanceMethod ({ cls := "TreePressModel", name := "nodes", desc := "()I" } : Jvm.MethodName)) ∈ kb_T := kb_t4 173 (by decide +kernel) (by decide +kernel)
theorem wd_8b8a4436 : (Jvm.Cond.selects "TreePressModel" ({ cls := "TreePressModel", name := "nodes", desc := "()I" } : Jvm.MethodName) ({ cls := "TreePressModel", name := "nodes", desc := "()I" } : Jvm.MethodName)) ∈ kb_T := kb_t4 174 (by decide +kernel) (by decide +kernel)
theorem wd_797876fe : (Jvm.Cond.code ({ cls := "TreePressModel", name := "nodes", desc := "()I" } : Jvm.MethodName) prog_6_method_40_code (1 : Nat) (Option.some Jvm.ClassFile.FieldType.int)) ∈ kb_T := kb_t4 175 (by decide +kernel) (by decide +kernel)
theorem hd_8027e590 : (⟨"TreePressModel", "nodes", "()I"⟩ : MethodName).cls ≠ "java/lang/invoke/MethodHandle" ∧ (⟨"TreePressModel", "nodes", "()I"⟩ : MethodName).cls ≠ "java/lang/invoke/VarHandle" ∧ (parseMethodDescriptor (⟨"TreePressModel", "nodes", "()I"⟩ : MethodName).desc).map (fun d => d.parameters.length) = some 0 := by decide +kernel
theorem wd_c64c586a : (Jvm.Cond.methodLink "TreePressLaw" (103 : Nat) ({ cls := "TreePress", name := "properties", desc := "()I" } : Jvm.MethodName)) ∈ kb_T := kb_t2 143 (by decide +kernel) (by decide +kernel)
theorem wd_fcd694ef : (Jvm.Cond.instanceMethod ({ cls := "TreePress", name := "properties", desc := "()I" } : Jvm.MethodName)) ∈ kb_T := kb_t2 144 (by decide +kernel) (by decide +kernel)
theorem wd_5dc1af12 : (Jvm.Cond.selects "TreePress" ({ cls := "TreePress", name := "properties", desc := "()I" } : Jvm.MethodName) ({ cls := "TreePress", name := "properties", desc := "()I" } : Jvm.MethodName)) ∈ kb_T := kb_t2 145 (by decide +kernel) (by decide +kernel)
theorem wd_7a11eb11 : (Jvm.Cond.code ({ cls := "TreePress", name := "properties", desc := "()I" } : Jvm.MethodName) prog_1_method_12_code (1 : Nat) (Option.some Jvm.ClassFile.FieldType.int)) ∈ kb_T := kb_t2 146 (by decide +kernel) (by decide +kernel)
theorem hd_cda5629d : (⟨"TreePress", "properties", "()I"⟩ : MethodName).cls ≠ "java/lang/invoke/MethodHandle" ∧ (⟨"TreePress", "properties", "()I"⟩ : MethodName).cls ≠ "java/lang/invoke/VarHandle" ∧ (parseMethodDescriptor (⟨"TreePress", "properties", "()I"⟩ : MethodName).desc).map (fun d => d.parameters.length) = some 0 := by decide +kernel
theorem wd_a068461e : (Jvm.Cond.methodLink "TreePressLaw" (106 : Nat) ({ cls := "TreePressModel", name := "properties", desc := "()I" } : Jvm.MethodName)) ∈ kb_T := kb_t4 176 (by decide +kernel) (by decide +kernel)
theorem wd_83621bfd : (Jvm.Cond.instanceMethod ({ cls := "TreePressModel", name := "properties", desc := "()I" } : Jvm.MethodName)) ∈ kb_T := kb_t4 177 (by decide +kernel) (by decide +kernel)
theorem wd_d8a06f27 : (Jvm.Cond.selects "TreePressModel" ({ cls := "TreePressModel", name := "properties", desc := "()I" } : Jvm.MethodName) ({ cls := "TreePressModel", name := "properties", desc := "()I" } : Jvm.MethodName)) ∈ kb_T := kb_t4 178 (by decide +kernel) (by decide +kernel)
theorem wd_3142eac6 : (Jvm.Cond.code ({ cls := "TreePressModel", name := "properties", desc := "()I" } : Jvm.MethodName) prog_6_method_41_code (1 : Nat) (Option.some Jvm.ClassFile.FieldType.int)) ∈ kb_T := kb_t4 179 (by decide +kernel) (by decide +kernel)
theorem hd_239ee2a7 : (⟨"TreePressModel", "properties", "()I"⟩ : MethodName).cls ≠ "java/lang/invoke/MethodHandle" ∧ (⟨"TreePressModel", "properties", "()I"⟩ : MethodName).cls ≠ "java/lang/invoke/VarHandle" ∧ (parseMethodDescriptor (⟨"TreePressModel", "properties", "()I"⟩ : MethodName).desc).map (fun d => d.parameters.length) = some 0 := by decide +kernel
theorem wd_9c016892 : (Jvm.Cond.codeWith ({ cls := "TreePressLaw", name := "node", desc := "(LTreePress;II[J)I" } : Jvm.MethodName) method_9_code (5 : Nat) (Option.some Jvm.ClassFile.FieldType.int) [((0 : Nat), (10 : Nat), (13 : Nat), (35 : Nat)), ((0 : Nat), (10 : Nat), (17 : Nat), (19 : Nat))]) ∈ kb_T := kb_t3 92 (by decide +kernel) (by decide +kernel)
theorem wd_624a7d0e : (Jvm.Cond.methodLink "TreePressLaw" (107 : Nat) ({ cls := "TreePressLaw", name := "node", desc := "(LTreePress;II[J)I" } : Jvm.MethodName)) ∈ kb_T := kb_t3 90 (by decide +kernel) (by decide +kernel)
theorem wd_41ba3b2e : (Jvm.Cond.static ({ cls := "TreePressLaw", name := "node", desc := "(LTreePress;II[J)I" } : Jvm.MethodName)) ∈ kb_T := kb_t3 91 (by decide +kernel) (by decide +kernel)
theorem hd_6398135a : (⟨"TreePressLaw", "node", "(LTreePress;II[J)I"⟩ : MethodName).cls ≠ "java/lang/invoke/MethodHandle" ∧ (⟨"TreePressLaw", "node", "(LTreePress;II[J)I"⟩ : MethodName).cls ≠ "java/lang/invoke/VarHandle" ∧ (parseMethodDescriptor (⟨"TreePressLaw", "node", "(LTreePress;II[J)I"⟩ : MethodName).desc).map (fun d => d.parameters.length) = some 4 := by decide +kernel
theorem wd_342a0efc : (Jvm.Cond.methodLink "TreePressLaw" (110 : Nat) ({ cls := "TreePressModel", name := "node", desc := "(II)I" } : Jvm.MethodName)) ∈ kb_T := kb_t4 180 (by decide +kernel) (by decide +kernel)
theorem wd_518e3e71 : (Jvm.Cond.instanceMethod ({ cls := "TreePressModel", name := "node", desc := "(II)I" } : Jvm.MethodName)) ∈ kb_T := kb_t4 181 (by decide +kernel) (by decide +kernel)
theorem wd_42666347 : (Jvm.Cond.selects "TreePressModel" ({ cls := "TreePressModel", name := "node", desc := "(II)I" } : Jvm.MethodName) ({ cls := "TreePressModel", name := "node", desc := "(II)I" } : Jvm.MethodName)) ∈ kb_T := kb_t4 182 (by decide +kernel) (by decide +kernel)
theorem wd_797669bc : (Jvm.Cond.code ({ cls := "TreePressModel", name := "node", desc := "(II)I" } : Jvm.MethodName) prog_6_method_44_code (3 : Nat) (Option.some Jvm.ClassFile.FieldType.int)) ∈ kb_T := kb_t4 183 (by decide +kernel) (by decide +kernel)
theorem hd_765c9157 : (⟨"TreePressModel", "node", "(II)I"⟩ : MethodName).cls ≠ "java/lang/invoke/MethodHandle" ∧ (⟨"TreePressModel", "node", "(II)I"⟩ : MethodName).cls ≠ "java/lang/invoke/VarHandle" ∧ (parseMethodDescriptor (⟨"TreePressModel", "node", "(II)I"⟩ : MethodName).desc).map (fun d => d.parameters.length) = some 2 := by decide +kernel
theorem wd_f2309069 : (Jvm.Cond.codeWith ({ cls := "TreePressLaw", name := "about", desc := "(LTreePress;II[J)I" } : Jvm.MethodName) method_10_code (5 : Nat) (Option.some Jvm.ClassFile.FieldType.int) [((0 : Nat), (10 : Nat), (13 : Nat), (35 : Nat)), ((0 : Nat), (10 : Nat), (17 : Nat), (19 : Nat))]) ∈ kb_T := kb_t3 109 (by decide +kernel) (by decide +kernel)
theorem wd_b27fa55b : (Jvm.Cond.methodLink "TreePressLaw" (111 : Nat) ({ cls := "TreePressLaw", name := "about", desc := "(LTreePress;II[J)I" } : Jvm.MethodName)) ∈ kb_T := kb_t3 107 (by decide +kernel) (by decide +kernel)
theorem wd_07eafb88 : (Jvm.Cond.static ({ cls := "TreePressLaw", name := "about", desc := "(LTreePress;II[J)I" } : Jvm.MethodName)) ∈ kb_T := kb_t3 108 (by decide +kernel) (by decide +kernel)
theorem hd_6fbca7b6 : (⟨"TreePressLaw", "about", "(LTreePress;II[J)I"⟩ : MethodName).cls ≠ "java/lang/invoke/MethodHandle" ∧ (⟨"TreePressLaw", "about", "(LTreePress;II[J)I"⟩ : MethodName).cls ≠ "java/lang/invoke/VarHandle" ∧ (parseMethodDescriptor (⟨"TreePressLaw", "about", "(LTreePress;II[J)I"⟩ : MethodName).desc).map (fun d => d.parameters.length) = some 4 := by decide +kernel
theorem wd_9755b50b : (Jvm.Cond.methodLink "TreePressLaw" (113 : Nat) ({ cls := "TreePressModel", name := "about", desc := "(II)I" } : Jvm.MethodName)) ∈ kb_T := kb_t4 192 (by decide +kernel) (by decide +kernel)
theorem wd_076ebd16 : (Jvm.Cond.instanceMethod ({ cls := "TreePressModel", name := "about", desc := "(II)I" } : Jvm.MethodName)) ∈ kb_T := kb_t4 193 (by decide +kernel) (by decide +kernel)
theorem wd_de8ac0d4 : (Jvm.Cond.selects "TreePressModel" ({ cls := "TreePressModel", name := "about", desc := "(II)I" } : Jvm.MethodName) ({ cls := "TreePressModel", name := "about", desc := "(II)I" } : Jvm.MethodName)) ∈ kb_T := kb_t4 194 (by decide +kernel) (by decide +kernel)
theorem wd_bd6edd5e : (Jvm.Cond.code ({ cls := "TreePressModel", name := "about", desc := "(II)I" } : Jvm.MethodName) prog_6_method_45_code (3 : Nat) (Option.some Jvm.ClassFile.FieldType.int)) ∈ kb_T := kb_t4 195 (by decide +kernel) (by decide +kernel)
theorem hd_ef5bbb11 : (⟨"TreePressModel", "about", "(II)I"⟩ : MethodName).cls ≠ "java/lang/invoke/MethodHandle" ∧ (⟨"TreePressModel", "about", "(II)I"⟩ : MethodName).cls ≠ "java/lang/invoke/VarHandle" ∧ (parseMethodDescriptor (⟨"TreePressModel", "about", "(II)I"⟩ : MethodName).desc).map (fun d => d.parameters.length) = some 2 := by decide +kernel
theorem wd_7063e20a : (Jvm.Cond.codeWith ({ cls := "TreePressLaw", name := "nodeName", desc := "(LTreePress;II[J)I" } : Jvm.MethodName) method_11_code (5 : Nat) (Option.some Jvm.ClassFile.FieldType.int) [((0 : Nat), (10 : Nat), (13 : Nat), (35 : Nat))]) ∈ kb_T := kb_t3 128 (by decide +kernel) (by decide +kernel)
theorem wd_f987af97 : (Jvm.Cond.methodLink "TreePressLaw" (114 : Nat) ({ cls := "TreePressLaw", name := "nodeName", desc := "(LTreePress;II[J)I" } : Jvm.MethodName)) ∈ kb_T := kb_t3 126 (by decide +kernel) (by decide +kernel)
theorem wd_e944f0bc : (Jvm.Cond.static ({ cls := "TreePressLaw", name := "nodeName", desc := "(LTreePress;II[J)I" } : Jvm.MethodName)) ∈ kb_T := kb_t3 127 (by decide +kernel) (by decide +kernel)
theorem hd_7ad186f5 : (⟨"TreePressLaw", "nodeName", "(LTreePress;II[J)I"⟩ : MethodName).cls ≠ "java/lang/invoke/MethodHandle" ∧ (⟨"TreePressLaw", "nodeName", "(LTreePress;II[J)I"⟩ : MethodName).cls ≠ "java/lang/invoke/VarHandle" ∧ (parseMethodDescriptor (⟨"TreePressLaw", "nodeName", "(LTreePress;II[J)I"⟩ : MethodName).desc).map (fun d => d.parameters.length) = some 4 := by decide +kernel
theorem wd_448c0aa3 : (Jvm.Cond.methodLink "TreePressLaw" (116 : Nat) ({ cls := "TreePressModel", name := "nodeName", desc := "(II)I" } : Jvm.MethodName)) ∈ kb_T := kb_t4 196 (by decide +kernel) (by decide +kernel)
theorem wd_02fa87e8 : (Jvm.Cond.instanceMethod ({ cls := "TreePressModel", name := "nodeName", desc := "(II)I" } : Jvm.MethodName)) ∈ kb_T := kb_t4 197 (by decide +kernel) (by decide +kernel)
theorem wd_dd258d81 : (Jvm.Cond.selects "TreePressModel" ({ cls := "TreePressModel", name := "nodeName", desc := "(II)I" } : Jvm.MethodName) ({ cls := "TreePressModel", name := "nodeName", desc := "(II)I" } : Jvm.MethodName)) ∈ kb_T := kb_t4 198 (by decide +kernel) (by decide +kernel)
theorem wd_0cb4a392 : (Jvm.Cond.code ({ cls := "TreePressModel", name := "nodeName", desc := "(II)I" } : Jvm.MethodName) prog_6_method_47_code (4 : Nat) (Option.some Jvm.ClassFile.FieldType.int)) ∈ kb_T := kb_t4 199 (by decide +kernel) (by decide +kernel)
theorem hd_b67ffbce : (⟨"TreePressModel", "nodeName", "(II)I"⟩ : MethodName).cls ≠ "java/lang/invoke/MethodHandle" ∧ (⟨"TreePressModel", "nodeName", "(II)I"⟩ : MethodName).cls ≠ "java/lang/invoke/VarHandle" ∧ (parseMethodDescriptor (⟨"TreePressModel", "nodeName", "(II)I"⟩ : MethodName).desc).map (fun d => d.parameters.length) = some 2 := by decide +kernel
theorem wd_a5668102 : (Jvm.Cond.codeWith ({ cls := "TreePressLaw", name := "name", desc := "(LTreePress;II[J)I" } : Jvm.MethodName) method_12_code (5 : Nat) (Option.some Jvm.ClassFile.FieldType.int) [((0 : Nat), (10 : Nat), (13 : Nat), (35 : Nat))]) ∈ kb_T := kb_t3 143 (by decide +kernel) (by decide +kernel)
theorem wd_0b3f8154 : (Jvm.Cond.methodLink "TreePressLaw" (117 : Nat) ({ cls := "TreePressLaw", name := "name", desc := "(LTreePress;II[J)I" } : Jvm.MethodName)) ∈ kb_T := kb_t3 141 (by decide +kernel) (by decide +kernel)
theorem wd_c5d8a199 : (Jvm.Cond.static ({ cls := "TreePressLaw", name := "name", desc := "(LTreePress;II[J)I" } : Jvm.MethodName)) ∈ kb_T := kb_t3 142 (by decide +kernel) (by decide +kernel)
theorem hd_df263b77 : (⟨"TreePressLaw", "name", "(LTreePress;II[J)I"⟩ : MethodName).cls ≠ "java/lang/invoke/MethodHandle" ∧ (⟨"TreePressLaw", "name", "(LTreePress;II[J)I"⟩ : MethodName).cls ≠ "java/lang/invoke/VarHandle" ∧ (parseMethodDescriptor (⟨"TreePressLaw", "name", "(LTreePress;II[J)I"⟩ : MethodName).desc).map (fun d => d.parameters.length) = some 4 := by decide +kernel
theorem wd_36618209 : (Jvm.Cond.methodLink "TreePressLaw" (119 : Nat) ({ cls := "TreePressModel", name := "name", desc := "(II)I" } : Jvm.MethodName)) ∈ kb_T := kb_t4 204 (by decide +kernel) (by decide +kernel)
theorem wd_b6514b99 : (Jvm.Cond.instanceMethod ({ cls := "TreePressModel", name := "name", desc := "(II)I" } : Jvm.MethodName)) ∈ kb_T := kb_t4 205 (by decide +kernel) (by decide +kernel)
theorem wd_86da7254 : (Jvm.Cond.selects "TreePressModel" ({ cls := "TreePressModel", name := "name", desc := "(II)I" } : Jvm.MethodName) ({ cls := "TreePressModel", name := "name", desc := "(II)I" } : Jvm.MethodName)) ∈ kb_T := kb_t4 206 (by decide +kernel) (by decide +kernel)
theorem wd_b9999332 : (Jvm.Cond.code ({ cls := "TreePressModel", name := "name", desc := "(II)I" } : Jvm.MethodName) prog_6_method_48_code (4 : Nat) (Option.some Jvm.ClassFile.FieldType.int)) ∈ kb_T := kb_t4 207 (by decide +kernel) (by decide +kernel)
theorem hd_62d7d86a : (⟨"TreePressModel", "name", "(II)I"⟩ : MethodName).cls ≠ "java/lang/invoke/MethodHandle" ∧ (⟨"TreePressModel", "name", "(II)I"⟩ : MethodName).cls ≠ "java/lang/invoke/VarHandle" ∧ (parseMethodDescriptor (⟨"TreePressModel", "name", "(II)I"⟩ : MethodName).desc).map (fun d => d.parameters.length) = some 2 := by decide +kernel
theorem wd_f8ebff76 : (Jvm.Cond.codeWith ({ cls := "TreePressLaw", name := "value", desc := "(LTreePress;II[J)I" } : Jvm.MethodName) method_13_code (5 : Nat) (Option.some Jvm.ClassFile.FieldType.int) [((0 : Nat), (10 : Nat), (13 : Nat), (35 : Nat))]) ∈ kb_T := kb_t3 154 (by decide +kernel) (by decide +kernel)
theorem wd_e029dbcf : (Jvm.Cond.methodLink "TreePressLaw" (120 : Nat) ({ cls := "TreePressLaw", name := "value", desc := "(LTreePress;II[J)I" } : Jvm.MethodName)) ∈ kb_T := kb_t3 152 (by decide +kernel) (by decide +kernel)
theorem wd_ab3bf783 : (Jvm.Cond.static ({ cls := "TreePressLaw", name := "value", desc := "(LTreePress;II[J)I" } : Jvm.MethodName)) ∈ kb_T := kb_t3 153 (by decide +kernel) (by decide +kernel)
theorem hd_b9833cb3 : (⟨"TreePressLaw", "value", "(LTreePress;II[J)I"⟩ : MethodName).cls ≠ "java/lang/invoke/MethodHandle" ∧ (⟨"TreePressLaw", "value", "(LTreePress;II[J)I"⟩ : MethodName).cls ≠ "java/lang/invoke/VarHandle" ∧ (parseMethodDescriptor (⟨"TreePressLaw", "value", "(LTreePress;II[J)I"⟩ : MethodName).desc).map (fun d => d.parameters.length) = some 4 := by decide +kernel
theorem wd_5e3f2a1e : (Jvm.Cond.methodLink "TreePressLaw" (122 : Nat) ({ cls := "TreePressModel", name := "value", desc := "(II)I" } : Jvm.MethodName)) ∈ kb_T := kb_t4 208 (by decide +kernel) (by decide +kernel)
theorem wd_e4f594d4 : (Jvm.Cond.instanceMethod ({ cls := "TreePressModel", name := "value", desc := "(II)I" } : Jvm.MethodName)) ∈ kb_T := kb_t4 209 (by decide +kernel) (by decide +kernel)
theorem wd_2fbd51b2 : (Jvm.Cond.selects "TreePressModel" ({ cls := "TreePressModel", name := "value", desc := "(II)I" } : Jvm.MethodName) ({ cls := "TreePressModel", name := "value", desc := "(II)I" } : Jvm.MethodName)) ∈ kb_T := kb_t4 210 (by decide +kernel) (by decide +kernel)
theorem wd_f1bcb86e : (Jvm.Cond.code ({ cls := "TreePressModel", name := "value", desc := "(II)I" } : Jvm.MethodName) prog_6_method_49_code (4 : Nat) (Option.some Jvm.ClassFile.FieldType.int)) ∈ kb_T := kb_t4 211 (by decide +kernel) (by decide +kernel)
theorem hd_f2dea5c0 : (⟨"TreePressModel", "value", "(II)I"⟩ : MethodName).cls ≠ "java/lang/invoke/MethodHandle" ∧ (⟨"TreePressModel", "value", "(II)I"⟩ : MethodName).cls ≠ "java/lang/invoke/VarHandle" ∧ (parseMethodDescriptor (⟨"TreePressModel", "value", "(II)I"⟩ : MethodName).desc).map (fun d => d.parameters.length) = some 2 := by decide +kernel
theorem wd_07b1b580 : (Jvm.Cond.methodLink "TreePressLaw" (123 : Nat) ({ cls := "TreePress", name := "find", desc := "()I" } : Jvm.MethodName)) ∈ kb_T := kb_t2 148 (by decide +kernel) (by decide +kernel)
theorem wd_2e80539c : (Jvm.Cond.instanceMethod ({ cls := "TreePress", name := "find", desc := "()I" } : Jvm.MethodName)) ∈ kb_T := kb_t2 149 (by decide +kernel) (by decide +kernel)
theorem wd_a7a695c8 : (Jvm.Cond.selects "TreePress" ({ cls := "TreePress", name := "find", desc := "()I" } : Jvm.MethodName) ({ cls := "TreePress", name := "find", desc := "()I" } : Jvm.MethodName)) ∈ kb_T := kb_t2 150 (by decide +kernel) (by decide +kernel)
theorem wd_58b7f3b2 : (Jvm.Cond.code ({ cls := "TreePress", name := "find", desc := "()I" } : Jvm.MethodName) prog_1_method_18_code (2 : Nat) (Option.some Jvm.ClassFile.FieldType.int)) ∈ kb_T := kb_t2 151 (by decide +kernel) (by decide +kernel)
theorem hd_0a4dd479 : (⟨"TreePress", "find", "()I"⟩ : MethodName).cls ≠ "java/lang/invoke/MethodHandle" ∧ (⟨"TreePress", "find", "()I"⟩ : MethodName).cls ≠ "java/lang/invoke/VarHandle" ∧ (parseMethodDescriptor (⟨"TreePress", "find", "()I"⟩ : MethodName).desc).map (fun d => d.parameters.length) = some 0 := by decide +kernel
theorem wd_6ae8e69c : (Jvm.Cond.methodLink "TreePressLaw" (126 : Nat) ({ cls := "TreePressModel", name := "find", desc := "()I" } : Jvm.MethodName)) ∈ kb_T := kb_t4 212 (by decide +kernel) (by decide +kernel)
theorem wd_2d55eeba : (Jvm.Cond.instanceMethod ({ cls := "TreePressModel", name := "find", desc := "()I" } : Jvm.MethodName)) ∈ kb_T := kb_t4 213 (by decide +kernel) (by decide +kernel)
theorem wd_8fea2ce6 : (Jvm.Cond.selects "TreePressModel" ({ cls := "TreePressModel", name := "find", desc := "()I" } : Jvm.MethodName) ({ cls := "TreePressModel", name := "find", desc := "()I" } : Jvm.MethodName)) ∈ kb_T := kb_t4 214 (by decide +kernel) (by decide +kernel)
theorem wd_07e05c9f : (Jvm.Cond.code ({ cls := "TreePressModel", name := "find", desc := "()I" } : Jvm.MethodName) prog_6_method_52_code (5 : Nat) (Option.some Jvm.ClassFile.FieldType.int)) ∈ kb_T := kb_t4 215 (by decide +kernel) (by decide +kernel)
theorem hd_2f136fca : (⟨"TreePressModel", "find", "()I"⟩ : MethodName).cls ≠ "java/lang/invoke/MethodHandle" ∧ (⟨"TreePressModel", "find", "()I"⟩ : MethodName).cls ≠ "java/lang/invoke/VarHandle" ∧ (parseMethodDescriptor (⟨"TreePressModel", "find", "()I"⟩ : MethodName).desc).map (fun d => d.parameters.length) = some 0 := by decide +kernel
theorem wd_77509fde : (Jvm.Cond.codeWith ({ cls := "TreePressLaw", name := "seek", desc := "(LTreePress;I[J)I" } : Jvm.MethodName) method_14_code (4 : Nat) (Option.some Jvm.ClassFile.FieldType.int) [((0 : Nat), (9 : Nat), (12 : Nat), (35 : Nat))]) ∈ kb_T := kb_t3 165 (by decide +kernel) (by decide +kernel)
theorem wd_19368e2d : (Jvm.Cond.methodLink "TreePressLaw" (127 : Nat) ({ cls := "TreePressLaw", name := "seek", desc := "(LTreePress;I[J)I" } : Jvm.MethodName)) ∈ kb_T := kb_t3 163 (by decide +kernel) (by decide +kernel)
theorem wd_7d243915 : (Jvm.Cond.static ({ cls := "TreePressLaw", name := "seek", desc := "(LTreePress;I[J)I" } : Jvm.MethodName)) ∈ kb_T := kb_t3 164 (by decide +kernel) (by decide +kernel)
theorem hd_9c62de18 : (⟨"TreePressLaw", "seek", "(LTreePress;I[J)I"⟩ : MethodName).cls ≠ "java/lang/invoke/MethodHandle" ∧ (⟨"TreePressLaw", "seek", "(LTreePress;I[J)I"⟩ : MethodName).cls ≠ "java/lang/invoke/VarHandle" ∧ (parseMethodDescriptor (⟨"TreePressLaw", "seek", "(LTreePress;I[J)I"⟩ : MethodName).desc).map (fun d => d.parameters.length) = some 3 := by decide +kernel
theorem wd_2c164b14 : (Jvm.Cond.methodLink "TreePressLaw" (129 : Nat) ({ cls := "TreePressModel", name := "seek", desc := "(I)I" } : Jvm.MethodName)) ∈ kb_T := kb_t4 224 (by decide +kernel) (by decide +kernel)
theorem wd_de837b1a : (Jvm.Cond.instanceMethod ({ cls := "TreePressModel", name := "seek", desc := "(I)I" } : Jvm.MethodName)) ∈ kb_T := kb_t4 225 (by decide +kernel) (by decide +kernel)
theorem wd_ca401616 : (Jvm.Cond.selects "TreePressModel" ({ cls := "TreePressModel", name := "seek", desc := "(I)I" } : Jvm.MethodName) ({ cls := "TreePressModel", name := "seek", desc := "(I)I" } : Jvm.MethodName)) ∈ kb_T := kb_t4 226 (by decide +kernel) (by decide +kernel)
theorem wd_a04dd5d8 : (Jvm.Cond.code ({ cls := "TreePressModel", name := "seek", desc := "(I)I" } : Jvm.MethodName) prog_6_method_53_code (4 : Nat) (Option.some Jvm.ClassFile.FieldType.int)) ∈ kb_T := kb_t4 227 (by decide +kernel) (by decide +kernel)
theorem hd_1cda2180 : (⟨"TreePressModel", "seek", "(I)I"⟩ : MethodName).cls ≠ "java/lang/invoke/MethodHandle" ∧ (⟨"TreePressModel", "seek", "(I)I"⟩ : MethodName).cls ≠ "java/lang/invoke/VarHandle" ∧ (parseMethodDescriptor (⟨"TreePressModel", "seek", "(I)I"⟩ : MethodName).desc).map (fun d => d.parameters.length) = some 1 := by decide +kernel
theorem d_L_law_0 : decode code 0 = .ok (.new 8, 3) := by decide +kernel
theorem d_L_law_3 : decode code 3 = .ok (.dup, 1) := by decide +kernel
theorem d_L_law_4 : decode code 4 = .ok (.invokespecial 56, 3) := by decide +kernel
theorem d_L_law_7 : decode code 7 = .ok (.astore_n 1, 1) := by decide +kernel
theorem d_L_law_8 : decode code 8 = .ok (.new 57, 3) := by decide +kernel
theorem d_L_law_11 : decode code 11 = .ok (.dup, 1) := by decide +kernel
theorem d_L_law_12 : decode code 12 = .ok (.invokespecial 59, 3) := by decide +kernel
theorem d_L_law_15 : decode code 15 = .ok (.astore_n 2, 1) := by decide +kernel
theorem d_L_law_16 : decode code 16 = .ok (.iconst 1, 1) := by decide +kernel
theorem d_L_law_17 : decode code 17 = .ok (.newarray .long, 2) := by decide +kernel
theorem d_L_law_19 : decode code 19 = .ok (.astore_n 3, 1) := by decide +kernel
theorem d_L_law_20 : decode code 20 = .ok (.iconst 0, 1) := by decide +kernel
theorem d_L_law_21 : decode code 21 = .ok (.istore 4, 2) := by decide +kernel
theorem d_L_law_23 : decode code 23 = .ok (.iload 4, 2) := by decide +kernel
theorem d_L_law_25 : decode code 25 = .ok (.aload_n 0, 1) := by decide +kernel
theorem d_L_law_26 : decode code 26 = .ok (.arraylength, 1) := by decide +kernel
theorem d_L_law_27 : decode code 27 = .ok (.bipush 6, 2) := by decide +kernel
theorem d_L_law_29 : decode code 29 = .ok (.isub, 1) := by decide +kernel
theorem d_L_law_30 : decode code 30 = .ok (.if_icmp .gt 916, 3) := by decide +kernel
theorem d_L_law_33 : decode code 33 = .ok (.aload_n 0, 1) := by decide +kernel
theorem d_L_law_34 : decode code 34 = .ok (.iload 4, 2) := by decide +kernel
theorem d_L_law_36 : decode code 36 = .ok (.iaload, 1) := by decide +kernel
theorem d_L_law_37 : decode code 37 = .ok (.bipush 31, 2) := by decide +kernel
theorem d_L_law_39 : decode code 39 = .ok (.iand, 1) := by decide +kernel
theorem d_L_law_40 : decode code 40 = .ok (.tableswitch 900 0 17 #[88, 192, 228, 239, 283, 339, 383, 396, 452, 465, 478, 491, 559, 627, 695, 763, 831, 844], 88) := by decide +kernel
theorem d_L_law_128 : decode code 128 = .ok (.aload_n 1, 1) := by decide +kernel
theorem d_L_law_129 : decode code 129 = .ok (.aload_n 0, 1) := by decide +kernel
theorem d_L_law_130 : decode code 130 = .ok (.iload 4, 2) := by decide +kernel
theorem d_L_law_132 : decode code 132 = .ok (.iconst 1, 1) := by decide +kernel
theorem d_L_law_133 : decode code 133 = .ok (.iadd, 1) := by decide +kernel
theorem d_L_law_134 : decode code 134 = .ok (.iaload, 1) := by decide +kernel
theorem d_L_law_135 : decode code 135 = .ok (.aload_n 0, 1) := by decide +kernel
theorem d_L_law_136 : decode code 136 = .ok (.iload 4, 2) := by decide +kernel
theorem d_L_law_138 : decode code 138 = .ok (.iconst 2, 1) := by decide +kernel
theorem d_L_law_139 : decode code 139 = .ok (.iadd, 1) := by decide +kernel
theorem d_L_law_140 : decode code 140 = .ok (.iaload, 1) := by decide +kernel
theorem d_L_law_141 : decode code 141 = .ok (.aload_n 0, 1) := by decide +kernel
theorem d_L_law_142 : decode code 142 = .ok (.iload 4, 2) := by decide +kernel
theorem d_L_law_144 : decode code 144 = .ok (.iconst 3, 1) := by decide +kernel
theorem d_L_law_145 : decode code 145 = .ok (.iadd, 1) := by decide +kernel
theorem d_L_law_146 : decode code 146 = .ok (.iaload, 1) := by decide +kernel
theorem d_L_law_147 : decode code 147 = .ok (.aload_n 0, 1) := by decide +kernel
theorem d_L_law_148 : decode code 148 = .ok (.iload 4, 2) := by decide +kernel
theorem d_L_law_150 : decode code 150 = .ok (.iconst 4, 1) := by decide +kernel
theorem d_L_law_151 : decode code 151 = .ok (.iadd, 1) := by decide +kernel
theorem d_L_law_152 : decode code 152 = .ok (.iaload, 1) := by decide +kernel
theorem d_L_law_153 : decode code 153 = .ok (.aload_n 0, 1) := by decide +kernel
theorem d_L_law_154 : decode code 154 = .ok (.iload 4, 2) := by decide +kernel
theorem d_L_law_156 : decode code 156 = .ok (.iconst 5, 1) := by decide +kernel
theorem d_L_law_157 : decode code 157 = .ok (.iadd, 1) := by decide +kernel
theorem d_L_law_158 : decode code 158 = .ok (.iaload, 1) := by decide +kernel
theorem d_L_law_159 : decode code 159 = .ok (.aload_n 3, 1) := by decide +kernel
theorem d_L_law_160 : decode code 160 = .ok (.invokestatic 60, 3) := by decide +kernel
theorem d_L_law_163 : decode code 163 = .ok (.istore 5, 2) := by decide +kernel
theorem d_L_law_165 : decode code 165 = .ok (.aload_n 2, 1) := by decide +kernel
theorem d_L_law_166 : decode code 166 = .ok (.aload_n 0, 1) := by decide +kernel
theorem d_L_law_167 : decode code 167 = .ok (.iload 4, 2) := by decide +kernel
theorem d_L_law_169 : decode code 169 = .ok (.iconst 1, 1) := by decide +kernel
theorem d_L_law_170 : decode code 170 = .ok (.iadd, 1) := by decide +kernel
theorem d_L_law_171 : decode code 171 = .ok (.iaload, 1) := by decide +kernel
theorem d_L_law_172 : decode code 172 = .ok (.aload_n 0, 1) := by decide +kernel
theorem d_L_law_173 : decode code 173 = .ok (.iload 4, 2) := by decide +kernel
theorem d_L_law_175 : decode code 175 = .ok (.iconst 2, 1) := by decide +kernel
theorem d_L_law_176 : decode code 176 = .ok (.iadd, 1) := by decide +kernel
theorem d_L_law_177 : decode code 177 = .ok (.iaload, 1) := by decide +kernel
theorem d_L_law_178 : decode code 178 = .ok (.aload_n 0, 1) := by decide +kernel
theorem d_L_law_179 : decode code 179 = .ok (.iload 4, 2) := by decide +kernel
theorem d_L_law_181 : decode code 181 = .ok (.iconst 3, 1) := by decide +kernel
theorem d_L_law_182 : decode code 182 = .ok (.iadd, 1) := by decide +kernel
theorem d_L_law_183 : decode code 183 = .ok (.iaload, 1) := by decide +kernel
theorem d_L_law_184 : decode code 184 = .ok (.aload_n 0, 1) := by decide +kernel
theorem d_L_law_185 : decode code 185 = .ok (.iload 4, 2) := by decide +kernel
theorem d_L_law_187 : decode code 187 = .ok (.iconst 4, 1) := by decide +kernel
theorem d_L_law_188 : decode code 188 = .ok (.iadd, 1) := by decide +kernel
theorem d_L_law_189 : decode code 189 = .ok (.iaload, 1) := by decide +kernel
theorem d_L_law_190 : decode code 190 = .ok (.aload_n 0, 1) := by decide +kernel
theorem d_L_law_191 : decode code 191 = .ok (.iload 4, 2) := by decide +kernel
theorem d_L_law_193 : decode code 193 = .ok (.iconst 5, 1) := by decide +kernel
theorem d_L_law_194 : decode code 194 = .ok (.iadd, 1) := by decide +kernel
theorem d_L_law_195 : decode code 195 = .ok (.iaload, 1) := by decide +kernel
theorem d_L_law_196 : decode code 196 = .ok (.invokevirtual 65, 3) := by decide +kernel
theorem d_L_law_199 : decode code 199 = .ok (.istore 6, 2) := by decide +kernel
theorem d_L_law_201 : decode code 201 = .ok (.aload_n 2, 1) := by decide +kernel
theorem d_L_law_202 : decode code 202 = .ok (.invokevirtual 66, 3) := by decide +kernel
theorem d_L_law_205 : decode code 205 = .ok (.iload 5, 2) := by decide +kernel
theorem d_L_law_207 : decode code 207 = .ok (.if_icmp .eq 5, 3) := by decide +kernel
theorem d_L_law_212 : decode code 212 = .ok (.iload 5, 2) := by decide +kernel
theorem d_L_law_214 : decode code 214 = .ok (.ifCond .ne 15, 3) := by decide +kernel
theorem d_L_law_217 : decode code 217 = .ok (.aload_n 3, 1) := by decide +kernel
theorem d_L_law_218 : decode code 218 = .ok (.iconst 0, 1) := by decide +kernel
theorem d_L_law_219 : decode code 219 = .ok (.laload, 1) := by decide +kernel
theorem d_L_law_220 : decode code 220 = .ok (.iload 6, 2) := by decide +kernel
theorem d_L_law_222 : decode code 222 = .ok (.i2l, 1) := by decide +kernel
theorem d_L_law_223 : decode code 223 = .ok (.lcmp, 1) := by decide +kernel
theorem d_L_law_224 : decode code 224 = .ok (.ifCond .eq 5, 3) := by decide +kernel
theorem d_L_law_229 : decode code 229 = .ok (.goto 711, 3) := by decide +kernel
theorem d_L_law_940 : decode code 940 = .ok (.iinc 4 6, 3) := by decide +kernel
theorem d_L_law_943 : decode code 943 = .ok (.goto (-920), 3) := by decide +kernel
theorem d_L_law_946 : decode code 946 = .ok (.iconst 1, 1) := by decide +kernel
theorem d_L_law_947 : decode code 947 = .ok (.ireturn, 1) := by decide +kernel
theorem d_L_law_232 : decode code 232 = .ok (.aload_n 1, 1) := by decide +kernel
theorem d_L_law_233 : decode code 233 = .ok (.aload_n 0, 1) := by decide +kernel
theorem d_L_law_234 : decode code 234 = .ok (.iload 4, 2) := by decide +kernel
theorem d_L_law_236 : decode code 236 = .ok (.iconst 1, 1) := by decide +kernel
theorem d_L_law_237 : decode code 237 = .ok (.iadd, 1) := by decide +kernel
theorem d_L_law_238 : decode code 238 = .ok (.iaload, 1) := by decide +kernel
theorem d_L_law_239 : decode code 239 = .ok (.invokestatic 69, 3) := by decide +kernel
theorem d_L_law_242 : decode code 242 = .ok (.istore 5, 2) := by decide +kernel
theorem d_L_law_244 : decode code 244 = .ok (.aload_n 2, 1) := by decide +kernel
theorem d_L_law_245 : decode code 245 = .ok (.aload_n 0, 1) := by decide +kernel
theorem d_L_law_246 : decode code 246 = .ok (.iload 4, 2) := by decide +kernel
theorem d_L_law_248 : decode code 248 = .ok (.iconst 1, 1) := by decide +kernel
theorem d_L_law_249 : decode code 249 = .ok (.iadd, 1) := by decide +kernel
theorem d_L_law_250 : decode code 250 = .ok (.iaload, 1) := by decide +kernel
theorem d_L_law_251 : decode code 251 = .ok (.invokevirtual 72, 3) := by decide +kernel
theorem d_L_law_254 : decode code 254 = .ok (.aload_n 2, 1) := by decide +kernel
theorem d_L_law_255 : decode code 255 = .ok (.invokevirtual 66, 3) := by decide +kernel
theorem d_L_law_258 : decode code 258 = .ok (.iload 5, 2) := by decide +kernel
theorem d_L_law_260 : decode code 260 = .ok (.if_icmp .eq 5, 3) := by decide +kernel
theorem d_L_law_265 : decode code 265 = .ok (.goto 675, 3) := by decide +kernel
theorem d_L_law_268 : decode code 268 = .ok (.aload_n 1, 1) := by decide +kernel
theorem d_L_law_269 : decode code 269 = .ok (.invokevirtual 73, 3) := by decide +kernel
theorem d_L_law_272 : decode code 272 = .ok (.aload_n 2, 1) := by decide +kernel
theorem d_L_law_273 : decode code 273 = .ok (.invokevirtual 76, 3) := by decide +kernel
theorem d_L_law_276 : decode code 276 = .ok (.goto 664, 3) := by decide +kernel
theorem d_L_law_279 : decode code 279 = .ok (.aload_n 1, 1) := by decide +kernel
theorem d_L_law_280 : decode code 280 = .ok (.aload_n 3, 1) := by decide +kernel
theorem d_L_law_281 : decode code 281 = .ok (.invokestatic 77, 3) := by decide +kernel
theorem d_L_law_284 : decode code 284 = .ok (.istore 5, 2) := by decide +kernel
theorem d_L_law_286 : decode code 286 = .ok (.aload_n 2, 1) := by decide +kernel
theorem d_L_law_287 : decode code 287 = .ok (.invokevirtual 80, 3) := by decide +kernel
theorem d_L_law_290 : decode code 290 = .ok (.istore 6, 2) := by decide +kernel
theorem d_L_law_292 : decode code 292 = .ok (.aload_n 2, 1) := by decide +kernel
theorem d_L_law_293 : decode code 293 = .ok (.invokevirtual 66, 3) := by decide +kernel
theorem d_L_law_296 : decode code 296 = .ok (.iload 5, 2) := by decide +kernel
theorem d_L_law_298 : decode code 298 = .ok (.if_icmp .eq 5, 3) := by decide +kernel
theorem d_L_law_303 : decode code 303 = .ok (.iload 5, 2) := by decide +kernel
theorem d_L_law_305 : decode code 305 = .ok (.ifCond .ne 15, 3) := by decide +kernel
theorem d_L_law_320 : decode code 320 = .ok (.goto 620, 3) := by decide +kernel
theorem d_L_law_323 : decode code 323 = .ok (.aload_n 1, 1) := by decide +kernel
theorem d_L_law_324 : decode code 324 = .ok (.aload_n 0, 1) := by decide +kernel
theorem d_L_law_325 : decode code 325 = .ok (.iload 4, 2) := by decide +kernel
theorem d_L_law_327 : decode code 327 = .ok (.iconst 1, 1) := by decide +kernel
theorem d_L_law_328 : decode code 328 = .ok (.iadd, 1) := by decide +kernel
theorem d_L_law_329 : decode code 329 = .ok (.iaload, 1) := by decide +kernel
theorem d_L_law_330 : decode code 330 = .ok (.aload_n 3, 1) := by decide +kernel
theorem d_L_law_331 : decode code 331 = .ok (.invokestatic 81, 3) := by decide +kernel
theorem d_L_law_334 : decode code 334 = .ok (.istore 5, 2) := by decide +kernel
theorem d_L_law_336 : decode code 336 = .ok (.aload_n 2, 1) := by decide +kernel
theorem d_L_law_337 : decode code 337 = .ok (.aload_n 0, 1) := by decide +kernel
theorem d_L_law_338 : decode code 338 = .ok (.iload 4, 2) := by decide +kernel
theorem d_L_law_340 : decode code 340 = .ok (.iconst 1, 1) := by decide +kernel
theorem d_L_law_341 : decode code 341 = .ok (.iadd, 1) := by decide +kernel
theorem d_L_law_342 : decode code 342 = .ok (.iaload, 1) := by decide +kernel
theorem d_L_law_343 : decode code 343 = .ok (.invokevirtual 84, 3) := by decide +kernel
theorem d_L_law_346 : decode code 346 = .ok (.istore 6, 2) := by decide +kernel
theorem d_L_law_348 : decode code 348 = .ok (.aload_n 2, 1) := by decide +kernel
theorem d_L_law_349 : decode code 349 = .ok (.invokevirtual 66, 3) := by decide +kernel
theorem d_L_law_352 : decode code 352 = .ok (.iload 5, 2) := by decide +kernel
theorem d_L_law_354 : decode code 354 = .ok (.if_icmp .eq 5, 3) := by decide +kernel
theorem d_L_law_359 : decode code 359 = .ok (.iload 5, 2) := by decide +kernel
theorem d_L_law_361 : decode code 361 = .ok (.ifCond .ne 15, 3) := by decide +kernel
theorem d_L_law_376 : decode code 376 = .ok (.goto 564, 3) := by decide +kernel
theorem d_L_law_379 : decode code 379 = .ok (.aload_n 1, 1) := by decide +kernel
theorem d_L_law_380 : decode code 380 = .ok (.aload_n 3, 1) := by decide +kernel
theorem d_L_law_381 : decode code 381 = .ok (.invokestatic 85, 3) := by decide +kernel
theorem d_L_law_384 : decode code 384 = .ok (.istore 5, 2) := by decide +kernel
theorem d_L_law_386 : decode code 386 = .ok (.aload_n 2, 1) := by decide +kernel
theorem d_L_law_387 : decode code 387 = .ok (.invokevirtual 87, 3) := by decide +kernel
theorem d_L_law_390 : decode code 390 = .ok (.istore 6, 2) := by decide +kernel
theorem d_L_law_392 : decode code 392 = .ok (.aload_n 2, 1) := by decide +kernel
theorem d_L_law_393 : decode code 393 = .ok (.invokevirtual 66, 3) := by decide +kernel
theorem d_L_law_396 : decode code 396 = .ok (.iload 5, 2) := by decide +kernel
theorem d_L_law_398 : decode code 398 = .ok (.if_icmp .eq 5, 3) := by decide +kernel
theorem d_L_law_403 : decode code 403 = .ok (.iload 5, 2) := by decide +kernel
theorem d_L_law_405 : decode code 405 = .ok (.ifCond .ne 15, 3) := by decide +kernel
theorem d_L_law_420 : decode code 420 = .ok (.goto 520, 3) := by decide +kernel
theorem d_L_law_423 : decode code 423 = .ok (.aload_n 1, 1) := by decide +kernel
theorem d_L_law_424 : decode code 424 = .ok (.invokevirtual 88, 3) := by decide +kernel
theorem d_L_law_427 : decode code 427 = .ok (.aload_n 2, 1) := by decide +kernel
theorem d_L_law_428 : decode code 428 = .ok (.invokevirtual 91, 3) := by decide +kernel
theorem d_L_law_431 : decode code 431 = .ok (.if_icmp .eq 509, 3) := by decide +kernel
theorem d_L_law_436 : decode code 436 = .ok (.aload_n 1, 1) := by decide +kernel
theorem d_L_law_437 : decode code 437 = .ok (.aload_n 0, 1) := by decide +kernel
theorem d_L_law_438 : decode code 438 = .ok (.iload 4, 2) := by decide +kernel
theorem d_L_law_440 : decode code 440 = .ok (.iconst 1, 1) := by decide +kernel
theorem d_L_law_441 : decode code 441 = .ok (.iadd, 1) := by decide +kernel
theorem d_L_law_442 : decode code 442 = .ok (.iaload, 1) := by decide +kernel
theorem d_L_law_443 : decode code 443 = .ok (.aload_n 3, 1) := by decide +kernel
theorem d_L_law_444 : decode code 444 = .ok (.invokestatic 92, 3) := by decide +kernel
theorem d_L_law_447 : decode code 447 = .ok (.istore 5, 2) := by decide +kernel
theorem d_L_law_449 : decode code 449 = .ok (.aload_n 2, 1) := by decide +kernel
theorem d_L_law_450 : decode code 450 = .ok (.aload_n 0, 1) := by decide +kernel
theorem d_L_law_451 : decode code 451 = .ok (.iload 4, 2) := by decide +kernel
theorem d_L_law_453 : decode code 453 = .ok (.iconst 1, 1) := by decide +kernel
theorem d_L_law_454 : decode code 454 = .ok (.iadd, 1) := by decide +kernel
theorem d_L_law_455 : decode code 455 = .ok (.iaload, 1) := by decide +kernel
theorem d_L_law_456 : decode code 456 = .ok (.invokevirtual 94, 3) := by decide +kernel
theorem d_L_law_459 : decode code 459 = .ok (.istore 6, 2) := by decide +kernel
theorem d_L_law_461 : decode code 461 = .ok (.aload_n 2, 1) := by decide +kernel
theorem d_L_law_462 : decode code 462 = .ok (.invokevirtual 66, 3) := by decide +kernel
theorem d_L_law_465 : decode code 465 = .ok (.iload 5, 2) := by decide +kernel
theorem d_L_law_467 : decode code 467 = .ok (.if_icmp .eq 5, 3) := by decide +kernel
theorem d_L_law_472 : decode code 472 = .ok (.iload 5, 2) := by decide +kernel
theorem d_L_law_474 : decode code 474 = .ok (.ifCond .ne 15, 3) := by decide +kernel
theorem d_L_law_489 : decode code 489 = .ok (.goto 451, 3) := by decide +kernel
theorem d_L_law_492 : decode code 492 = .ok (.aload_n 1, 1) := by decide +kernel
theorem d_L_law_493 : decode code 493 = .ok (.invokevirtual 95, 3) := by decide +kernel
theorem d_L_law_496 : decode code 496 = .ok (.aload_n 2, 1) := by decide +kernel
theorem d_L_law_497 : decode code 497 = .ok (.invokevirtual 98, 3) := by decide +kernel
theorem d_L_law_500 : decode code 500 = .ok (.if_icmp .eq 440, 3) := by decide +kernel
theorem d_L_law_505 : decode code 505 = .ok (.aload_n 1, 1) := by decide +kernel
theorem d_L_law_506 : decode code 506 = .ok (.invokevirtual 99, 3) := by decide +kernel
theorem d_L_law_509 : decode code 509 = .ok (.aload_n 2, 1) := by decide +kernel
theorem d_L_law_510 : decode code 510 = .ok (.invokevirtual 102, 3) := by decide +kernel
theorem d_L_law_513 : decode code 513 = .ok (.if_icmp .eq 427, 3) := by decide +kernel
theorem d_L_law_518 : decode code 518 = .ok (.aload_n 1, 1) := by decide +kernel
theorem d_L_law_519 : decode code 519 = .ok (.invokevirtual 103, 3) := by decide +kernel
theorem d_L_law_522 : decode code 522 = .ok (.aload_n 2, 1) := by decide +kernel
theorem d_L_law_523 : decode code 523 = .ok (.invokevirtual 106, 3) := by decide +kernel
theorem d_L_law_526 : decode code 526 = .ok (.if_icmp .eq 414, 3) := by decide +kernel
theorem d_L_law_531 : decode code 531 = .ok (.aload_n 1, 1) := by decide +kernel
theorem d_L_law_532 : decode code 532 = .ok (.aload_n 0, 1) := by decide +kernel
theorem d_L_law_533 : decode code 533 = .ok (.iload 4, 2) := by decide +kernel
theorem d_L_law_535 : decode code 535 = .ok (.iconst 1, 1) := by decide +kernel
theorem d_L_law_536 : decode code 536 = .ok (.iadd, 1) := by decide +kernel
theorem d_L_law_537 : decode code 537 = .ok (.iaload, 1) := by decide +kernel
theorem d_L_law_538 : decode code 538 = .ok (.aload_n 0, 1) := by decide +kernel
theorem d_L_law_539 : decode code 539 = .ok (.iload 4, 2) := by decide +kernel
theorem d_L_law_541 : decode code 541 = .ok (.iconst 2, 1) := by decide +kernel
theorem d_L_law_542 : decode code 542 = .ok (.iadd, 1) := by decide +kernel
theorem d_L_law_543 : decode code 543 = .ok (.iaload, 1) := by decide +kernel
theorem d_L_law_544 : decode code 544 = .ok (.aload_n 3, 1) := by decide +kernel
theorem d_L_law_545 : decode code 545 = .ok (.invokestatic 107, 3) := by decide +kernel
theorem d_L_law_548 : decode code 548 = .ok (.istore 5, 2) := by decide +kernel
theorem d_L_law_550 : decode code 550 = .ok (.aload_n 2, 1) := by decide +kernel
theorem d_L_law_551 : decode code 551 = .ok (.aload_n 0, 1) := by decide +kernel
theorem d_L_law_552 : decode code 552 = .ok (.iload 4, 2) := by decide +kernel
theorem d_L_law_554 : decode code 554 = .ok (.iconst 1, 1) := by decide +kernel
theorem d_L_law_555 : decode code 555 = .ok (.iadd, 1) := by decide +kernel
theorem d_L_law_556 : decode code 556 = .ok (.iaload, 1) := by decide +kernel
theorem d_L_law_557 : decode code 557 = .ok (.aload_n 0, 1) := by decide +kernel
theorem d_L_law_558 : decode code 558 = .ok (.iload 4, 2) := by decide +kernel
theorem d_L_law_560 : decode code 560 = .ok (.iconst 2, 1) := by decide +kernel
theorem d_L_law_561 : decode code 561 = .ok (.iadd, 1) := by decide +kernel
theorem d_L_law_562 : decode code 562 = .ok (.iaload, 1) := by decide +kernel
theorem d_L_law_563 : decode code 563 = .ok (.invokevirtual 110, 3) := by decide +kernel
theorem d_L_law_566 : decode code 566 = .ok (.istore 6, 2) := by decide +kernel
theorem d_L_law_568 : decode code 568 = .ok (.aload_n 2, 1) := by decide +kernel
theorem d_L_law_569 : decode code 569 = .ok (.invokevirtual 66, 3) := by decide +kernel
theorem d_L_law_572 : decode code 572 = .ok (.iload 5, 2) := by decide +kernel
theorem d_L_law_574 : decode code 574 = .ok (.if_icmp .eq 5, 3) := by decide +kernel
theorem d_L_law_579 : decode code 579 = .ok (.iload 5, 2) := by decide +kernel
theorem d_L_law_581 : decode code 581 = .ok (.ifCond .ne 15, 3) := by decide +kernel
theorem d_L_law_584 : decode code 584 = .ok (.aload_n 3, 1) := by decide +kernel
theorem d_L_law_585 : decode code 585 = .ok (.iconst 0, 1) := by decide +kernel
theorem d_L_law_586 : decode code 586 = .ok (.laload, 1) := by decide +kernel
theorem d_L_law_587 : decode code 587 = .ok (.iload 6, 2) := by decide +kernel
theorem d_L_law_589 : decode code 589 = .ok (.i2l, 1) := by decide +kernel
theorem d_L_law_590 : decode code 590 = .ok (.lcmp, 1) := by decide +kernel
theorem d_L_law_591 : decode code 591 = .ok (.ifCond .eq 5, 3) := by decide +kernel
theorem d_L_law_596 : decode code 596 = .ok (.goto 344, 3) := by decide +kernel
theorem d_L_law_599 : decode code 599 = .ok (.aload_n 1, 1) := by decide +kernel
theorem d_L_law_600 : decode code 600 = .ok (.aload_n 0, 1) := by decide +kernel
theorem d_L_law_601 : decode code 601 = .ok (.iload 4, 2) := by decide +kernel
theorem d_L_law_603 : decode code 603 = .ok (.iconst 1, 1) := by decide +kernel
theorem d_L_law_604 : decode code 604 = .ok (.iadd, 1) := by decide +kernel
theorem d_L_law_605 : decode code 605 = .ok (.iaload, 1) := by decide +kernel
theorem d_L_law_606 : decode code 606 = .ok (.aload_n 0, 1) := by decide +kernel
theorem d_L_law_607 : decode code 607 = .ok (.iload 4, 2) := by decide +kernel
theorem d_L_law_609 : decode code 609 = .ok (.iconst 2, 1) := by decide +kernel
theorem d_L_law_610 : decode code 610 = .ok (.iadd, 1) := by decide +kernel
theorem d_L_law_611 : decode code 611 = .ok (.iaload, 1) := by decide +kernel
theorem d_L_law_612 : decode code 612 = .ok (.aload_n 3, 1) := by decide +kernel
theorem d_L_law_613 : decode code 613 = .ok (.invokestatic 111, 3) := by decide +kernel
theorem d_L_law_616 : decode code 616 = .ok (.istore 5, 2) := by decide +kernel
theorem d_L_law_618 : decode code 618 = .ok (.aload_n 2, 1) := by decide +kernel
theorem d_L_law_619 : decode code 619 = .ok (.aload_n 0, 1) := by decide +kernel
theorem d_L_law_620 : decode code 620 = .ok (.iload 4, 2) := by decide +kernel
theorem d_L_law_622 : decode code 622 = .ok (.iconst 1, 1) := by decide +kernel
theorem d_L_law_623 : decode code 623 = .ok (.iadd, 1) := by decide +kernel
theorem d_L_law_624 : decode code 624 = .ok (.iaload, 1) := by decide +kernel
theorem d_L_law_625 : decode code 625 = .ok (.aload_n 0, 1) := by decide +kernel
theorem d_L_law_626 : decode code 626 = .ok (.iload 4, 2) := by decide +kernel
theorem d_L_law_628 : decode code 628 = .ok (.iconst 2, 1) := by decide +kernel
theorem d_L_law_629 : decode code 629 = .ok (.iadd, 1) := by decide +kernel
theorem d_L_law_630 : decode code 630 = .ok (.iaload, 1) := by decide +kernel
theorem d_L_law_631 : decode code 631 = .ok (.invokevirtual 113, 3) := by decide +kernel
theorem d_L_law_634 : decode code 634 = .ok (.istore 6, 2) := by decide +kernel
theorem d_L_law_636 : decode code 636 = .ok (.aload_n 2, 1) := by decide +kernel
theorem d_L_law_637 : decode code 637 = .ok (.invokevirtual 66, 3) := by decide +kernel
theorem d_L_law_640 : decode code 640 = .ok (.iload 5, 2) := by decide +kernel
theorem d_L_law_642 : decode code 642 = .ok (.if_icmp .eq 5, 3) := by decide +kernel
theorem d_L_law_647 : decode code 647 = .ok (.iload 5, 2) := by decide +kernel
theorem d_L_law_649 : decode code 649 = .ok (.ifCond .ne 15, 3) := by decide +kernel
theorem d_L_law_664 : decode code 664 = .ok (.goto 276, 3) := by decide +kernel
theorem d_L_law_667 : decode code 667 = .ok (.aload_n 1, 1) := by decide +kernel
theorem d_L_law_668 : decode code 668 = .ok (.aload_n 0, 1) := by decide +kernel
theorem d_L_law_669 : decode code 669 = .ok (.iload 4, 2) := by decide +kernel
theorem d_L_law_671 : decode code 671 = .ok (.iconst 1, 1) := by decide +kernel
theorem d_L_law_672 : decode code 672 = .ok (.iadd, 1) := by decide +kernel
theorem d_L_law_673 : decode code 673 = .ok (.iaload, 1) := by decide +kernel
theorem d_L_law_674 : decode code 674 = .ok (.aload_n 0, 1) := by decide +kernel
theorem d_L_law_675 : decode code 675 = .ok (.iload 4, 2) := by decide +kernel
theorem d_L_law_677 : decode code 677 = .ok (.iconst 2, 1) := by decide +kernel
theorem d_L_law_678 : decode code 678 = .ok (.iadd, 1) := by decide +kernel
theorem d_L_law_679 : decode code 679 = .ok (.iaload, 1) := by decide +kernel
theorem d_L_law_680 : decode code 680 = .ok (.aload_n 3, 1) := by decide +kernel
theorem d_L_law_681 : decode code 681 = .ok (.invokestatic 114, 3) := by decide +kernel
theorem d_L_law_684 : decode code 684 = .ok (.istore 5, 2) := by decide +kernel
theorem d_L_law_686 : decode code 686 = .ok (.aload_n 2, 1) := by decide +kernel
theorem d_L_law_687 : decode code 687 = .ok (.aload_n 0, 1) := by decide +kernel
theorem d_L_law_688 : decode code 688 = .ok (.iload 4, 2) := by decide +kernel
theorem d_L_law_690 : decode code 690 = .ok (.iconst 1, 1) := by decide +kernel
theorem d_L_law_691 : decode code 691 = .ok (.iadd, 1) := by decide +kernel
theorem d_L_law_692 : decode code 692 = .ok (.iaload, 1) := by decide +kernel
theorem d_L_law_693 : decode code 693 = .ok (.aload_n 0, 1) := by decide +kernel
theorem d_L_law_694 : decode code 694 = .ok (.iload 4, 2) := by decide +kernel
theorem d_L_law_696 : decode code 696 = .ok (.iconst 2, 1) := by decide +kernel
theorem d_L_law_697 : decode code 697 = .ok (.iadd, 1) := by decide +kernel
theorem d_L_law_698 : decode code 698 = .ok (.iaload, 1) := by decide +kernel
theorem d_L_law_699 : decode code 699 = .ok (.invokevirtual 116, 3) := by decide +kernel
theorem d_L_law_702 : decode code 702 = .ok (.istore 6, 2) := by decide +kernel
theorem d_L_law_704 : decode code 704 = .ok (.aload_n 2, 1) := by decide +kernel
theorem d_L_law_705 : decode code 705 = .ok (.invokevirtual 66, 3) := by decide +kernel
theorem d_L_law_708 : decode code 708 = .ok (.iload 5, 2) := by decide +kernel
theorem d_L_law_710 : decode code 710 = .ok (.if_icmp .eq 5, 3) := by decide +kernel
theorem d_L_law_715 : decode code 715 = .ok (.iload 5, 2) := by decide +kernel
theorem d_L_law_717 : decode code 717 = .ok (.ifCond .ne 15, 3) := by decide +kernel
theorem d_L_law_732 : decode code 732 = .ok (.goto 208, 3) := by decide +kernel
theorem d_L_law_735 : decode code 735 = .ok (.aload_n 1, 1) := by decide +kernel
theorem d_L_law_736 : decode code 736 = .ok (.aload_n 0, 1) := by decide +kernel
theorem d_L_law_737 : decode code 737 = .ok (.iload 4, 2) := by decide +kernel
theorem d_L_law_739 : decode code 739 = .ok (.iconst 1, 1) := by decide +kernel
theorem d_L_law_740 : decode code 740 = .ok (.iadd, 1) := by decide +kernel
theorem d_L_law_741 : decode code 741 = .ok (.iaload, 1) := by decide +kernel
theorem d_L_law_742 : decode code 742 = .ok (.aload_n 0, 1) := by decide +kernel
theorem d_L_law_743 : decode code 743 = .ok (.iload 4, 2) := by decide +kernel
theorem d_L_law_745 : decode code 745 = .ok (.iconst 2, 1) := by decide +kernel
theorem d_L_law_746 : decode code 746 = .ok (.iadd, 1) := by decide +kernel
theorem d_L_law_747 : decode code 747 = .ok (.iaload, 1) := by decide +kernel
theorem d_L_law_748 : decode code 748 = .ok (.aload_n 3, 1) := by decide +kernel
theorem d_L_law_749 : decode code 749 = .ok (.invokestatic 117, 3) := by decide +kernel
theorem d_L_law_752 : decode code 752 = .ok (.istore 5, 2) := by decide +kernel
theorem d_L_law_754 : decode code 754 = .ok (.aload_n 2, 1) := by decide +kernel
theorem d_L_law_755 : decode code 755 = .ok (.aload_n 0, 1) := by decide +kernel
theorem d_L_law_756 : decode code 756 = .ok (.iload 4, 2) := by decide +kernel
theorem d_L_law_758 : decode code 758 = .ok (.iconst 1, 1) := by decide +kernel
theorem d_L_law_759 : decode code 759 = .ok (.iadd, 1) := by decide +kernel
theorem d_L_law_760 : decode code 760 = .ok (.iaload, 1) := by decide +kernel
theorem d_L_law_761 : decode code 761 = .ok (.aload_n 0, 1) := by decide +kernel
theorem d_L_law_762 : decode code 762 = .ok (.iload 4, 2) := by decide +kernel
theorem d_L_law_764 : decode code 764 = .ok (.iconst 2, 1) := by decide +kernel
theorem d_L_law_765 : decode code 765 = .ok (.iadd, 1) := by decide +kernel
theorem d_L_law_766 : decode code 766 = .ok (.iaload, 1) := by decide +kernel
theorem d_L_law_767 : decode code 767 = .ok (.invokevirtual 119, 3) := by decide +kernel
theorem d_L_law_770 : decode code 770 = .ok (.istore 6, 2) := by decide +kernel
theorem d_L_law_772 : decode code 772 = .ok (.aload_n 2, 1) := by decide +kernel
theorem d_L_law_773 : decode code 773 = .ok (.invokevirtual 66, 3) := by decide +kernel
theorem d_L_law_776 : decode code 776 = .ok (.iload 5, 2) := by decide +kernel
theorem d_L_law_778 : decode code 778 = .ok (.if_icmp .eq 5, 3) := by decide +kernel
theorem d_L_law_783 : decode code 783 = .ok (.iload 5, 2) := by decide +kernel
theorem d_L_law_785 : decode code 785 = .ok (.ifCond .ne 15, 3) := by decide +kernel
theorem d_L_law_800 : decode code 800 = .ok (.goto 140, 3) := by decide +kernel
theorem d_L_law_803 : decode code 803 = .ok (.aload_n 1, 1) := by decide +kernel
theorem d_L_law_804 : decode code 804 = .ok (.aload_n 0, 1) := by decide +kernel
theorem d_L_law_805 : decode code 805 = .ok (.iload 4, 2) := by decide +kernel
theorem d_L_law_807 : decode code 807 = .ok (.iconst 1, 1) := by decide +kernel
theorem d_L_law_808 : decode code 808 = .ok (.iadd, 1) := by decide +kernel
theorem d_L_law_809 : decode code 809 = .ok (.iaload, 1) := by decide +kernel
theorem d_L_law_810 : decode code 810 = .ok (.aload_n 0, 1) := by decide +kernel
theorem d_L_law_811 : decode code 811 = .ok (.iload 4, 2) := by decide +kernel
theorem d_L_law_813 : decode code 813 = .ok (.iconst 2, 1) := by decide +kernel
theorem d_L_law_814 : decode code 814 = .ok (.iadd, 1) := by decide +kernel
theorem d_L_law_815 : decode code 815 = .ok (.iaload, 1) := by decide +kernel
theorem d_L_law_816 : decode code 816 = .ok (.aload_n 3, 1) := by decide +kernel
theorem d_L_law_817 : decode code 817 = .ok (.invokestatic 120, 3) := by decide +kernel
theorem d_L_law_820 : decode code 820 = .ok (.istore 5, 2) := by decide +kernel
theorem d_L_law_822 : decode code 822 = .ok (.aload_n 2, 1) := by decide +kernel
theorem d_L_law_823 : decode code 823 = .ok (.aload_n 0, 1) := by decide +kernel
theorem d_L_law_824 : decode code 824 = .ok (.iload 4, 2) := by decide +kernel
theorem d_L_law_826 : decode code 826 = .ok (.iconst 1, 1) := by decide +kernel
theorem d_L_law_827 : decode code 827 = .ok (.iadd, 1) := by decide +kernel
theorem d_L_law_828 : decode code 828 = .ok (.iaload, 1) := by decide +kernel
theorem d_L_law_829 : decode code 829 = .ok (.aload_n 0, 1) := by decide +kernel
theorem d_L_law_830 : decode code 830 = .ok (.iload 4, 2) := by decide +kernel
theorem d_L_law_832 : decode code 832 = .ok (.iconst 2, 1) := by decide +kernel
theorem d_L_law_833 : decode code 833 = .ok (.iadd, 1) := by decide +kernel
theorem d_L_law_834 : decode code 834 = .ok (.iaload, 1) := by decide +kernel
theorem d_L_law_835 : decode code 835 = .ok (.invokevirtual 122, 3) := by decide +kernel
theorem d_L_law_838 : decode code 838 = .ok (.istore 6, 2) := by decide +kernel
theorem d_L_law_840 : decode code 840 = .ok (.aload_n 2, 1) := by decide +kernel
theorem d_L_law_841 : decode code 841 = .ok (.invokevirtual 66, 3) := by decide +kernel
theorem d_L_law_844 : decode code 844 = .ok (.iload 5, 2) := by decide +kernel
theorem d_L_law_846 : decode code 846 = .ok (.if_icmp .eq 5, 3) := by decide +kernel
theorem d_L_law_851 : decode code 851 = .ok (.iload 5, 2) := by decide +kernel
theorem d_L_law_853 : decode code 853 = .ok (.ifCond .ne 15, 3) := by decide +kernel
theorem d_L_law_868 : decode code 868 = .ok (.goto 72, 3) := by decide +kernel
theorem d_L_law_871 : decode code 871 = .ok (.aload_n 1, 1) := by decide +kernel
theorem d_L_law_872 : decode code 872 = .ok (.invokevirtual 123, 3) := by decide +kernel
theorem d_L_law_875 : decode code 875 = .ok (.aload_n 2, 1) := by decide +kernel
theorem d_L_law_876 : decode code 876 = .ok (.invokevirtual 126, 3) := by decide +kernel
theorem d_L_law_879 : decode code 879 = .ok (.if_icmp .eq 61, 3) := by decide +kernel
theorem d_L_law_884 : decode code 884 = .ok (.aload_n 1, 1) := by decide +kernel
theorem d_L_law_885 : decode code 885 = .ok (.aload_n 0, 1) := by decide +kernel
theorem d_L_law_886 : decode code 886 = .ok (.iload 4, 2) := by decide +kernel
theorem d_L_law_888 : decode code 888 = .ok (.iconst 1, 1) := by decide +kernel
theorem d_L_law_889 : decode code 889 = .ok (.iadd, 1) := by decide +kernel
theorem d_L_law_890 : decode code 890 = .ok (.iaload, 1) := by decide +kernel
theorem d_L_law_891 : decode code 891 = .ok (.aload_n 3, 1) := by decide +kernel
theorem d_L_law_892 : decode code 892 = .ok (.invokestatic 127, 3) := by decide +kernel
theorem d_L_law_895 : decode code 895 = .ok (.istore 5, 2) := by decide +kernel
theorem d_L_law_897 : decode code 897 = .ok (.aload_n 2, 1) := by decide +kernel
theorem d_L_law_898 : decode code 898 = .ok (.aload_n 0, 1) := by decide +kernel
theorem d_L_law_899 : decode code 899 = .ok (.iload 4, 2) := by decide +kernel
theorem d_L_law_901 : decode code 901 = .ok (.iconst 1, 1) := by decide +kernel
theorem d_L_law_902 : decode code 902 = .ok (.iadd, 1) := by decide +kernel
theorem d_L_law_903 : decode code 903 = .ok (.iaload, 1) := by decide +kernel
theorem d_L_law_904 : decode code 904 = .ok (.invokevirtual 129, 3) := by decide +kernel
theorem d_L_law_907 : decode code 907 = .ok (.istore 6, 2) := by decide +kernel
theorem d_L_law_909 : decode code 909 = .ok (.aload_n 2, 1) := by decide +kernel
theorem d_L_law_910 : decode code 910 = .ok (.invokevirtual 66, 3) := by decide +kernel
theorem d_L_law_913 : decode code 913 = .ok (.iload 5, 2) := by decide +kernel
theorem d_L_law_915 : decode code 915 = .ok (.if_icmp .eq 5, 3) := by decide +kernel
theorem d_L_law_920 : decode code 920 = .ok (.iload 5, 2) := by decide +kernel
theorem d_L_law_922 : decode code 922 = .ok (.ifCond .ne 15, 3) := by decide +kernel
theorem d_L_law_925 : decode code 925 = .ok (.aload_n 3, 1) := by decide +kernel
theorem d_L_law_926 : decode code 926 = .ok (.iconst 0, 1) := by decide +kernel
theorem d_L_law_927 : decode code 927 = .ok (.laload, 1) := by decide +kernel
theorem d_L_law_928 : decode code 928 = .ok (.iload 6, 2) := by decide +kernel
theorem d_L_law_930 : decode code 930 = .ok (.i2l, 1) := by decide +kernel
theorem d_L_law_931 : decode code 931 = .ok (.lcmp, 1) := by decide +kernel
theorem d_L_law_932 : decode code 932 = .ok (.ifCond .eq 5, 3) := by decide +kernel
theorem d_L_law_937 : decode code 937 = .ok (.goto 3, 3) := by decide +kernel
/-! THE CLAIM OUT OF ONE WALK OF THE LAW'S BODY. Your part is whole_start (and what it stands on); all else here is the same for every law, but numbers. -/
def R_law : String := "TreePressLaw"
def lw_P (b : Addr) (xs : List Int32) (args : Array Value) (s : State) : Prop := args = #[.ref b] ∧ s.IntsAt b xs ∧ xs.length ≤ 6 ∧ (Jvm.Cond.and given_1 narrow_1).before args s = true
def lw_Q (_ : Array Value) (s : State) (o : Outcome) (t : State) : Prop := o = .returned (some (.int 1)) ∧ Framed s o t [] 600002 7302232
def lw_Z (below : List Frame) (a : Array Value) (s : State) : State → Prop := fun t => ∃ o, t.status = .running ∧ Ended t below o ∧ lw_Q a s o t
/-- the law's own end, with 1 on the stack, nothing written that was there before, its room as the claim has it -/
theorem lw_ret {p : Program} {l : Launch} {e : Env} {s : State} {m : MethodId} {below : List Frame} {meth : Method} {c : Code} {b : Nat} (hx : p.tables.exec = Jvm.exec) (hb : c.code = code) (hr : meth.sig.returnType = ret) (hlocks : meth.locks = false) {pc : Nat} {H : Heap} {ls : Array Slot} (hdg : decode code pc = .ok (.ireturn, 1)) : W p l e room_1 s m #[Value.ref b] below meth c H [] 600002 7302232 (lw_Z below #[Value.ref b] s) (F0 m pc ls [.int 1]) := by
  intro T hT X
  obtain ⟨fs, hret, hrun, hended, hW, hframe⟩ := X.leave (v := some (.int 1)) (hlocks := hlocks) (fun h => by rw [hr] at h; cases h)
  have hmeth' : T.vm.method? m = some meth := X.method'
  refine ⟨T.setFrames fs, ?_, .returned (some (.int 1)), hrun, hended, rfl, ⟨_, rfl⟩, hW, hframe⟩
  jvm_step X.here [X.here.top, hx, hb, hdg, hmeth', hr, ret, narrow_b1]
  (try refine ⟨rfl, ?_⟩); (try refine ⟨rfl, ?_⟩)
  first | (intro acts; rw [hret _ acts rfl rfl rfl]) | rw [hret _ _ rfl rfl rfl]
  exact Steps.refl _
/-- what holds at the law's entry: the machine, the code, the tables' words (any of lw_tbl by 'hts w (by decide +kernel)'), the script of L ints xs at the cell b, what the Statement gives of the start (any of its parts by flat_of_before) -/
def lw_At (p : Program) (s : State) (m : MethodId) (meth : Method) (c : Code) (b L : Nat) (xs : Nat → Int32) : Prop :=
  p.tables.exec = Jvm.exec ∧ c.code = code ∧ meth.sig.returnType = ret ∧ c.maxLocals = 7 ∧ s.vm.findClass R_law = some m.cls ∧ (∀ w ∈ lw_tbl, w.before #[Value.ref b] s = true) ∧ va_X b L xs s s.heap ∧ b < s.heap.size ∧ meth.locks = false ∧ (Jvm.Cond.and given_1 narrow_1).before #[Value.ref b] s = true

/-- the new object, the new reference, the array for answers -/
def lc_w0 (G : kb_G) (x y o : Nat) (ux um : kb_S) : va_W := [kb_o x 3 [.ref (ux.1 0), .ref (ux.1 2), .ref (ux.1 4), .ref (ux.1 5), .ref (ux.1 30)], kb_o (ux.1 0) 1 [.ref (ux.1 1), .int 0], kb_a G (ux.1 1) 16 (fun _ => 0), kb_o (ux.1 2) 1 [.ref (ux.1 3), .int 0], kb_a G (ux.1 3) 16 (fun _ => 0), kb_o (ux.1 4) 0 [.int 0, .int 0, .int 0, .int 0], kb_a G (ux.1 6) 16 (fun _ => 0), kb_a G (ux.1 7) 16 (fun _ => 0), kb_a G (ux.1 8) 16 (fun _ => 0), kb_a G (ux.1 9) 16 (fun _ => 0), kb_a G (ux.1 10) 16 (fun _ => 0), kb_a G (ux.1 11) 16 (fun _ => 0), kb_o (ux.1 12) 1 [.ref (ux.1 8), .int 0], kb_o (ux.1 13) 1 [.ref (ux.1 9), .int 0], kb_o (ux.1 14) 1 [.ref (ux.1 10), .int 0], kb_o (ux.1 15) 1 [.ref (ux.1 11), .int 0], kb_o (ux.1 16) 1 [.ref (ux.1 17), .int 1], kb_a G (ux.1 17) 16 (upd (fun _ => 0) 0 (-1)), kb_o (ux.1 18) 1 [.ref (ux.1 19), .int 1], kb_a G (ux.1 19) 16 (upd (fun _ => 0) 0 1), kb_o (ux.1 20) 1 [.ref (ux.1 21), .int 1], kb_a G (ux.1 21) 16 (upd (fun _ => 0) 0 0), kb_o (ux.1 22) 1 [.ref (ux.1 23), .int 1], kb_a G (ux.1 23) 16 (upd (fun _ => 0) 0 0), kb_o (ux.1 5) 2 [.ref (ux.1 29), .ref (ux.1 16), .ref (ux.1 18), .ref (ux.1 20), .ref (ux.1 22), .ref (ux.1 25), .ref (ux.1 27), .ref (ux.1 24), .ref (ux.1 12), .ref (ux.1 13), .ref (ux.1 14), .ref (ux.1 15), .int 0, .int 0], kb_o (ux.1 24) 1 [.ref (ux.1 7), .int 0], kb_o (ux.1 25) 1 [.ref (ux.1 26), .int 1], kb_a G (ux.1 26) 16 (upd (fun _ => 0) 0 0), kb_o (ux.1 27) 1 [.ref (ux.1 28), .int 1], kb_a G (ux.1 28) 16 (upd (fun _ => 0) 0 0), kb_o (ux.1 29) 1 [.ref (ux.1 6), .int 0], kb_a G (ux.1 31) 16 (fun _ => 0), kb_a G (ux.1 32) 16 (fun _ => 0), kb_a G (ux.1 33) 16 (fun _ => 0), kb_a G (ux.1 34) 16 (fun _ => 0), kb_a G (ux.1 35) 16 (fun _ => 0), kb_a G (ux.1 36) 16 (fun _ => 0), kb_o (ux.1 37) 1 [.ref (ux.1 33), .int 0], kb_o (ux.1 38) 1 [.ref (ux.1 34), .int 0], kb_o (ux.1 39) 1 [.ref (ux.1 35), .int 0], kb_o (ux.1 40) 1 [.ref (ux.1 36), .int 0], kb_o (ux.1 41) 1 [.ref (ux.1 42), .int 1], kb_a G (ux.1 42) 16 (upd (fun _ => 0) 0 (-1)), kb_o (ux.1 43) 1 [.ref (ux.1 44), .int 1], kb_a G (ux.1 44) 16 (upd (fun _ => 0) 0 1), kb_o (ux.1 45) 1 [.ref (ux.1 46), .int 1], kb_a G (ux.1 46) 16 (upd (fun _ => 0) 0 0), kb_o (ux.1 47) 1 [.ref (ux.1 48), .int 1], kb_a G (ux.1 48) 16 (upd (fun _ => 0) 0 0), kb_o (ux.1 30) 2 [.ref (ux.1 54), .ref (ux.1 41), .ref (ux.1 43), .ref (ux.1 45), .ref (ux.1 47), .ref (ux.1 50), .ref (ux.1 52), .ref (ux.1 49), .ref (ux.1 37), .ref (ux.1 38), .ref (ux.1 39), .ref (ux.1 40), .int 0, .int 0], kb_o (ux.1 49) 1 [.ref (ux.1 32), .int 0], kb_o (ux.1 50) 1 [.ref (ux.1 51), .int 1], kb_a G (ux.1 51) 16 (upd (fun _ => 0) 0 0), kb_o (ux.1 52) 1 [.ref (ux.1 53), .int 1], kb_a G (ux.1 53) 16 (upd (fun _ => 0) 0 0), kb_o (ux.1 54) 1 [.ref (ux.1 31), .int 0], kb_a G (um.1 0) 65536 (fun _ => 0), kb_a G (um.1 1) 65536 (fun _ => 0), kb_a G (um.1 8) 1024 (fun _ => 0), kb_a G (um.1 9) 1024 (fun _ => 0), kb_a G (um.1 10) 1024 (fun _ => 0), kb_a G (um.1 11) 1024 (fun _ => 0), kb_a G (um.1 12) 32768 (fun _ => 0), kb_o y 4 [.int 0, .ref (um.1 0), .int 0, .ref (um.1 1), .int 0, .ref (um.1 2), .ref (um.1 3), .ref (um.1 4), .ref (um.1 5), .ref (um.1 6), .ref (um.1 7), .ref (um.1 8), .ref (um.1 9), .ref (um.1 10), .ref (um.1 11), .ref (um.1 12), .int 0, .int 0, .int 0, .int 0, .int 0], kb_a G (um.1 2) 2 (upd (fun _ => 0) 0 1), kb_a G (um.1 3) 2 (upd (fun _ => 0) 0 0), kb_a G (um.1 4) 2 (upd (fun _ => 0) 0 0), kb_a G (um.1 5) 256 (upd (fun _ => 0) 0 (-1)), kb_a G (um.1 6) 256 (upd (fun _ => 0) 0 0), kb_a G (um.1 7) 256 (upd (fun _ => 0) 0 0), kb_j G o 1 (fun _ => 0)]

set_option maxHeartbeats 4000000 in
set_option maxRecDepth 100000 in
theorem lc_feed {p : Program} {l : Launch} {e : Env} {s : State} {m : MethodId} {below : List Frame} {meth : Method} {c : Code} (hst : l.stackTraces = false) {G : kb_G} {A : Nat → Prop} {b : Nat} {xs : Nat → Int32} (C0 : lw_At p s m meth c b 6 xs) (hE : kb_E G A s) (hbA : ¬ A b) (hAq : ∀ q, A q → s.heap.size ≤ q) (x y o : Nat) (ux um : kb_S) {H : Heap} {locs : List Loc} (hP : va_P G.1 kb_cl (lc_w0 G x y o ux um) H) (hD : va_D A (lc_w0 G x y o ux um)) (hS : va_S A s.heap H locs) {ls : Array Slot} (hl : lv_has ls 7 [(4, .int 0), (3, .ref o), (2, .ref y), (1, .ref x), (0, .ref b)]) (hk : xs 0 &&& 31 = 0) : W p l e room_1 s m #[Value.ref b] below meth c H locs 71 169237 (lw_Z below #[Value.ref b] s) (F0 m 23 ls []) := by
  obtain ⟨hx, hb, hr, hml, hown, hts, hX, hbl, hlocks, hgv⟩ := C0
  have hown : s.vm.findClass "TreePressLaw" = some m.cls := hown
  have ht : ∀ w ∈ kb_T, w.before #[Value.ref b] s = true := fun w h => hts w (List.mem_filter.mp h).1
  have hP : va_P G.1 kb_cl [kb_o x 3 [.ref (ux.1 0), .ref (ux.1 2), .ref (ux.1 4), .ref (ux.1 5), .ref (ux.1 30)], kb_o (ux.1 0) 1 [.ref (ux.1 1), .int 0], kb_a G (ux.1 1) 16 (fun _ => 0), kb_a G (um.1 0) 65536 (fun _ => 0), kb_o y 4 [.int 0, .ref (um.1 0), .int 0, .ref (um.1 1), .int 0, .ref (um.1 2), .ref (um.1 3), .ref (um.1 4), .ref (um.1 5), .ref (um.1 6), .ref (um.1 7), .ref (um.1 8), .ref (um.1 9), .ref (um.1 10), .ref (um.1 11), .ref (um.1 12), .int 0, .int 0, .int 0, .int 0, .int 0], kb_j G o 1 (fun _ => 0)] H := hP.sub [0, 1, 2, 56, 63, 70] rfl
  have hD : va_D A [kb_o x 3 [.ref (ux.1 0), .ref (ux.1 2), .ref (ux.1 4), .ref (ux.1 5), .ref (ux.1 30)], kb_o (ux.1 0) 1 [.ref (ux.1 1), .int 0], kb_a G (ux.1 1) 16 (fun _ => 0), kb_a G (um.1 0) 65536 (fun _ => 0), kb_o y 4 [.int 0, .ref (um.1 0), .int 0, .ref (um.1 1), .int 0, .ref (um.1 2), .ref (um.1 3), .ref (um.1 4), .ref (um.1 5), .ref (um.1 6), .ref (um.1 7), .ref (um.1 8), .ref (um.1 9), .ref (um.1 10), .ref (um.1 11), .ref (um.1 12), .int 0, .int 0, .int 0, .int 0, .int 0], kb_j G o 1 (fun _ => 0)] := hD.sub [0, 1, 2, 56, 63, 70] (by decide) rfl
  refine lv_iload hx hb d_L_law_23 (lv_at hl 0 rfl) ?_
  refine lv_aload_n hx hb d_L_law_25 rfl (lv_at hl 4 rfl) ?_
  refine va_slen hx hb hX hbl hbA hS d_L_law_26 ?_
  refine kb_top (y := 6) (by decide) ?_
  refine lv_bipush (v := 6) hx hb d_L_law_27 (by decide) ?_
  refine lv_isub hx hb d_L_law_29 ?_
  refine kb_top (y := 0) (by decide) ?_
  refine lv_icmp_gt (tgt := 946) hx hb d_L_law_30 (by decide) (fun c9 => absurd c9 (by decide)) (fun c9 => ?_)
  refine lv_aload_n hx hb d_L_law_33 rfl (lv_at hl 4 rfl) ?_
  refine lv_iload hx hb d_L_law_34 (lv_at hl 0 rfl) ?_
  refine va_sld hx hb hX hbl hbA hS (show ¬ ((0 : Int32) < 0 ∨ 6 ≤ (0 : Int32).toNatClampNeg) by decide) d_L_law_36 ?_
  refine kb_top (y := xs 0) rfl ?_
  refine lv_bipush (v := 31) hx hb d_L_law_37 (by decide) ?_
  refine lv_iand hx hb d_L_law_39 ?_
  refine kb_top (y := 0) (hk) ?_
  refine lv_tableIn (tgt := 128) (off := 88) hx hb d_L_law_40 (by decide) (by decide) (by decide) (by decide) ?_
  refine lv_aload_n hx hb d_L_law_128 rfl (lv_at hl 3 rfl) ?_
  refine lv_aload_n hx hb d_L_law_129 rfl (lv_at hl 4 rfl) ?_
  refine lv_iload hx hb d_L_law_130 (lv_at hl 0 rfl) ?_
  refine lv_iconst (v := 1) hx hb d_L_law_132 (by decide) ?_
  refine lv_iadd hx hb d_L_law_133 ?_
  refine kb_top (y := 1) (by decide) ?_
  refine va_sld hx hb hX hbl hbA hS (show ¬ ((1 : Int32) < 0 ∨ 6 ≤ (1 : Int32).toNatClampNeg) by decide) d_L_law_134 ?_
  refine kb_top (y := xs 1) rfl ?_
  refine lv_aload_n hx hb d_L_law_135 rfl (lv_at hl 4 rfl) ?_
  refine lv_iload hx hb d_L_law_136 (lv_at hl 0 rfl) ?_
  refine lv_iconst (v := 2) hx hb d_L_law_138 (by decide) ?_
  refine lv_iadd hx hb d_L_law_139 ?_
  refine kb_top (y := 2) (by decide) ?_
  refine va_sld hx hb hX hbl hbA hS (show ¬ ((2 : Int32) < 0 ∨ 6 ≤ (2 : Int32).toNatClampNeg) by decide) d_L_law_140 ?_
  refine kb_top (y := xs 2) rfl ?_
  refine lv_aload_n hx hb d_L_law_141 rfl (lv_at hl 4 rfl) ?_
  refine lv_iload hx hb d_L_law_142 (lv_at hl 0 rfl) ?_
  refine lv_iconst (v := 3) hx hb d_L_law_144 (by decide) ?_
  refine lv_iadd hx hb d_L_law_145 ?_
  refine kb_top (y := 3) (by decide) ?_
  refine va_sld hx hb hX hbl hbA hS (show ¬ ((3 : Int32) < 0 ∨ 6 ≤ (3 : Int32).toNatClampNeg) by decide) d_L_law_146 ?_
  refine kb_top (y := xs 3) rfl ?_
  refine lv_aload_n hx hb d_L_law_147 rfl (lv_at hl 4 rfl) ?_
  refine lv_iload hx hb d_L_law_148 (lv_at hl 0 rfl) ?_
  refine lv_iconst (v := 4) hx hb d_L_law_150 (by decide) ?_
  refine lv_iadd hx hb d_L_law_151 ?_
  refine kb_top (y := 4) (by decide) ?_
  refine va_sld hx hb hX hbl hbA hS (show ¬ ((4 : Int32) < 0 ∨ 6 ≤ (4 : Int32).toNatClampNeg) by decide) d_L_law_152 ?_
  refine kb_top (y := xs 4) rfl ?_
  refine lv_aload_n hx hb d_L_law_153 rfl (lv_at hl 4 rfl) ?_
  refine lv_iload hx hb d_L_law_154 (lv_at hl 0 rfl) ?_
  refine lv_iconst (v := 5) hx hb d_L_law_156 (by decide) ?_
  refine lv_iadd hx hb d_L_law_157 ?_
  refine kb_top (y := 5) (by decide) ?_
  refine va_sld hx hb hX hbl hbA hS (show ¬ ((5 : Int32) < 0 ∨ 6 ≤ (5 : Int32).toNatClampNeg) by decide) d_L_law_158 ?_
  refine kb_top (y := xs 5) rfl ?_
  refine lv_aload_n hx hb d_L_law_159 rfl (lv_at hl 1 rfl) ?_
  refine kb_i (wc := [kb_o x 3 [.ref (ux.1 0), .ref (ux.1 2), .ref (ux.1 4), .ref (ux.1 5), .ref (ux.1 30)], kb_o (ux.1 0) 1 [.ref (ux.1 1), .int 0], kb_a G (ux.1 1) 16 (fun _ => 0), kb_j G o 1 (fun _ => 0)]) (wr := [kb_a G (um.1 0) 65536 (fun _ => 0), kb_o y 4 [.int 0, .ref (um.1 0), .int 0, .ref (um.1 1), .int 0, .ref (um.1 2), .ref (um.1 3), .ref (um.1 4), .ref (um.1 5), .ref (um.1 6), .ref (um.1 7), .ref (um.1 8), .ref (um.1 9), .ref (um.1 10), .ref (um.1 11), .ref (um.1 12), .int 0, .int 0, .int 0, .int 0, .int 0]]) hE hP hD hS [0, 1, 2, 5] [3, 4] rfl rfl (by decide) (by decide) (kb_rH (As := [.ref x, .int (xs 1), .int (xs 2), .int (xs 3), .int (xs 4), .int (xs 5), .ref o]) (rest := []) (wc := [kb_o x 3 [.ref (ux.1 0), .ref (ux.1 2), .ref (ux.1 4), .ref (ux.1 5), .ref (ux.1 30)], kb_o (ux.1 0) 1 [.ref (ux.1 1), .int 0], kb_a G (ux.1 1) 16 (fun _ => 0), kb_j G o 1 (fun _ => 0)]) ⟨hx, hb, hml, hown, ht⟩ (c_L_feed l hst G x (ux.1 0) (ux.1 2) (ux.1 4) (ux.1 5) (ux.1 30) (ux.1 1) (fun _ => 0) (xs 1) (xs 2) (xs 3) (xs 4) (xs 5) o) wd_1b307c93 wd_e4ece85a wd_41d766e6 wd_698e49dd hd_81fe37d1 ⟨(Nat.le_of_ble_eq_true rfl), (Nat.le_of_ble_eq_true rfl)⟩ hE hP hD hS [0, 1, 2, 5] rfl (by decide) hl.1 rfl (Nat.le_of_ble_eq_true rfl) d_L_law_160 ⟨(Nat.le_of_ble_eq_true rfl), (Nat.le_of_ble_eq_true rfl)⟩) (fun rv2 uu1 H locs hw hP hD hS => ?_)
  have hP : va_P G.1 kb_cl [kb_a G (um.1 0) 65536 (fun _ => 0), kb_o y 4 [.int 0, .ref (um.1 0), .int 0, .ref (um.1 1), .int 0, .ref (um.1 2), .ref (um.1 3), .ref (um.1 4), .ref (um.1 5), .ref (um.1 6), .ref (um.1 7), .ref (um.1 8), .ref (um.1 9), .ref (um.1 10), .ref (um.1 11), .ref (um.1 12), .int 0, .int 0, .int 0, .int 0, .int 0], kb_j G o 1 (vp_updL (fun _ => 0) 0 ((20 : Int32).toInt64))] H := hP
  have hD : va_D A [kb_a G (um.1 0) 65536 (fun _ => 0), kb_o y 4 [.int 0, .ref (um.1 0), .int 0, .ref (um.1 1), .int 0, .ref (um.1 2), .ref (um.1 3), .ref (um.1 4), .ref (um.1 5), .ref (um.1 6), .ref (um.1 7), .ref (um.1 8), .ref (um.1 9), .ref (um.1 10), .ref (um.1 11), .ref (um.1 12), .int 0, .int 0, .int 0, .int 0, .int 0], kb_j G o 1 (vp_updL (fun _ => 0) 0 ((20 : Int32).toInt64))] := hD
  refine kb_top (y := 0) (show rv2 = 0 from hw) ?_
  refine lv_istore (lv' := [(5, .int 0), (4, .int 0), (3, .ref o), (2, .ref y), (1, .ref x), (0, .ref b)]) hx hb d_L_law_163 hl (by decide) rfl (fun ls hl => ?_)
  refine lv_aload_n hx hb d_L_law_165 rfl (lv_at hl 3 rfl) ?_
  refine lv_aload_n hx hb d_L_law_166 rfl (lv_at hl 5 rfl) ?_
  refine lv_iload hx hb d_L_law_167 (lv_at hl 1 rfl) ?_
  refine lv_iconst (v := 1) hx hb d_L_law_169 (by decide) ?_
  refine lv_iadd hx hb d_L_law_170 ?_
  refine kb_top (y := 1) (by decide) ?_
  refine va_sld hx hb hX hbl hbA hS (show ¬ ((1 : Int32) < 0 ∨ 6 ≤ (1 : Int32).toNatClampNeg) by decide) d_L_law_171 ?_
  refine kb_top (y := xs 1) rfl ?_
  refine lv_aload_n hx hb d_L_law_172 rfl (lv_at hl 5 rfl) ?_
  refine lv_iload hx hb d_L_law_173 (lv_at hl 1 rfl) ?_
  refine lv_iconst (v := 2) hx hb d_L_law_175 (by decide) ?_
  refine lv_iadd hx hb d_L_law_176 ?_
  refine kb_top (y := 2) (by decide) ?_
  refine va_sld hx hb hX hbl hbA hS (show ¬ ((2 : Int32) < 0 ∨ 6 ≤ (2 : Int32).toNatClampNeg) by decide) d_L_law_177 ?_
  refine kb_top (y := xs 2) rfl ?_
  refine lv_aload_n hx hb d_L_law_178 rfl (lv_at hl 5 rfl) ?_
  refine lv_iload hx hb d_L_law_179 (lv_at hl 1 rfl) ?_
  refine lv_iconst (v := 3) hx hb d_L_law_181 (by decide) ?_
  refine lv_iadd hx hb d_L_law_182 ?_
  refine kb_top (y := 3) (by decide) ?_
  refine va_sld hx hb hX hbl hbA hS (show ¬ ((3 : Int32) < 0 ∨ 6 ≤ (3 : Int32).toNatClampNeg) by decide) d_L_law_183 ?_
  refine kb_top (y := xs 3) rfl ?_
  refine lv_aload_n hx hb d_L_law_184 rfl (lv_at hl 5 rfl) ?_
  refine lv_iload hx hb d_L_law_185 (lv_at hl 1 rfl) ?_
  refine lv_iconst (v := 4) hx hb d_L_law_187 (by decide) ?_
  refine lv_iadd hx hb d_L_law_188 ?_
  refine kb_top (y := 4) (by decide) ?_
  refine va_sld hx hb hX hbl hbA hS (show ¬ ((4 : Int32) < 0 ∨ 6 ≤ (4 : Int32).toNatClampNeg) by decide) d_L_law_189 ?_
  refine kb_top (y := xs 4) rfl ?_
  refine lv_aload_n hx hb d_L_law_190 rfl (lv_at hl 5 rfl) ?_
  refine lv_iload hx hb d_L_law_191 (lv_at hl 1 rfl) ?_
  refine lv_iconst (v := 5) hx hb d_L_law_193 (by decide) ?_
  refine lv_iadd hx hb d_L_law_194 ?_
  refine kb_top (y := 5) (by decide) ?_
  refine va_sld hx hb hX hbl hbA hS (show ¬ ((5 : Int32) < 0 ∨ 6 ≤ (5 : Int32).toNatClampNeg) by decide) d_L_law_195 ?_
  refine kb_top (y := xs 5) rfl ?_
  refine kb_i (wc := [kb_o y 4 [.int 0, .ref (um.1 0), .int 0, .ref (um.1 1), .int 0, .ref (um.1 2), .ref (um.1 3), .ref (um.1 4), .ref (um.1 5), .ref (um.1 6), .ref (um.1 7), .ref (um.1 8), .ref (um.1 9), .ref (um.1 10), .ref (um.1 11), .ref (um.1 12), .int 0, .int 0, .int 0, .int 0, .int 0], kb_a G (um.1 0) 65536 (fun _ => 0)]) (wr := [kb_j G o 1 (vp_updL (fun _ => 0) 0 ((20 : Int32).toInt64))]) hE hP hD hS [1, 0] [2] rfl rfl (by decide) (by decide) (kb_rV (As := [.int (xs 1), .int (xs 2), .int (xs 3), .int (xs 4), .int (xs 5)]) (rest := []) (wc := [kb_o y 4 [.int 0, .ref (um.1 0), .int 0, .ref (um.1 1), .int 0, .ref (um.1 2), .ref (um.1 3), .ref (um.1 4), .ref (um.1 5), .ref (um.1 6), .ref (um.1 7), .ref (um.1 8), .ref (um.1 9), .ref (um.1 10), .ref (um.1 11), .ref (um.1 12), .int 0, .int 0, .int 0, .int 0, .int 0], kb_a G (um.1 0) 65536 (fun _ => 0)]) (q0 := 0) ⟨hx, hb, hml, hown, ht⟩ ((c_M_feed l G y 0 (um.1 0) (um.1 1) (um.1 2) (um.1 3) (um.1 4) (um.1 5) (um.1 6) (um.1 7) (um.1 8) (um.1 9) (um.1 10) (um.1 11) (um.1 12) (fun _ => 0) (xs 1) (xs 2) (xs 3) (xs 4) (xs 5)) _) (kb_gV wd_dcc8a43d wd_e3f55f0d wd_5d0768fe wd_38099713 wd_11677a60) ⟨rfl, hd_dd4544fd⟩ ⟨(Nat.le_of_ble_eq_true rfl), (Nat.le_of_ble_eq_true rfl)⟩ hE hP hD hS [1, 0] rfl (by decide) rfl rfl rfl hl.1 rfl (Nat.le_of_ble_eq_true rfl) d_L_law_196 ⟨(Nat.le_of_ble_eq_true rfl), (Nat.le_of_ble_eq_true rfl)⟩) (fun rv4 uu3 H locs hw hP hD hS => ?_)
  have hP : va_P G.1 kb_cl [kb_j G o 1 (vp_updL (fun _ => 0) 0 ((20 : Int32).toInt64)), kb_o y 4 [.int 0, .ref (um.1 0), .int 20, .ref (um.1 1), .int 0, .ref (um.1 2), .ref (um.1 3), .ref (um.1 4), .ref (um.1 5), .ref (um.1 6), .ref (um.1 7), .ref (um.1 8), .ref (um.1 9), .ref (um.1 10), .ref (um.1 11), .ref (um.1 12), .int 0, .int 0, .int 0, .int 0, .int 0]] H := hP
  have hD : va_D A [kb_j G o 1 (vp_updL (fun _ => 0) 0 ((20 : Int32).toInt64)), kb_o y 4 [.int 0, .ref (um.1 0), .int 20, .ref (um.1 1), .int 0, .ref (um.1 2), .ref (um.1 3), .ref (um.1 4), .ref (um.1 5), .ref (um.1 6), .ref (um.1 7), .ref (um.1 8), .ref (um.1 9), .ref (um.1 10), .ref (um.1 11), .ref (um.1 12), .int 0, .int 0, .int 0, .int 0, .int 0]] := hD
  refine kb_top (y := 20) (show rv4 = 20 from hw) ?_
  refine lv_istore (lv' := [(6, .int 20), (5, .int 0), (4, .int 0), (3, .ref o), (2, .ref y), (1, .ref x), (0, .ref b)]) hx hb d_L_law_199 hl (by decide) rfl (fun ls hl => ?_)
  refine lv_aload_n hx hb d_L_law_201 rfl (lv_at hl 4 rfl) ?_
  refine kb_i (wc := [kb_o y 4 [.int 0, .ref (um.1 0), .int 20, .ref (um.1 1), .int 0, .ref (um.1 2), .ref (um.1 3), .ref (um.1 4), .ref (um.1 5), .ref (um.1 6), .ref (um.1 7), .ref (um.1 8), .ref (um.1 9), .ref (um.1 10), .ref (um.1 11), .ref (um.1 12), .int 0, .int 0, .int 0, .int 0, .int 0]]) (wr := [kb_j G o 1 (vp_updL (fun _ => 0) 0 ((20 : Int32).toInt64))]) hE hP hD hS [1] [0] rfl rfl (by decide) (by decide) (kb_rV (As := []) (rest := []) (wc := [kb_o y 4 [.int 0, .ref (um.1 0), .int 20, .ref (um.1 1), .int 0, .ref (um.1 2), .ref (um.1 3), .ref (um.1 4), .ref (um.1 5), .ref (um.1 6), .ref (um.1 7), .ref (um.1 8), .ref (um.1 9), .ref (um.1 10), .ref (um.1 11), .ref (um.1 12), .int 0, .int 0, .int 0, .int 0, .int 0]]) (q0 := 0) ⟨hx, hb, hml, hown, ht⟩ ((c_M_thrown l G y 0 (um.1 0) (um.1 1) (um.1 2) (um.1 3) (um.1 4) (um.1 5) (um.1 6) (um.1 7) (um.1 8) (um.1 9) (um.1 10) (um.1 11) (um.1 12) 20 0 0 0) _) (kb_gV wd_1946a056 wd_e9c50365 wd_a707e5a8 wd_38099713 wd_79f18ba3) ⟨rfl, hd_2a236ec3⟩ ⟨(Nat.le_of_ble_eq_true rfl), (Nat.le_of_ble_eq_true rfl)⟩ hE hP hD hS [1] rfl (by decide) rfl rfl rfl hl.1 rfl (Nat.le_of_ble_eq_true rfl) d_L_law_202 ⟨(Nat.le_of_ble_eq_true rfl), (Nat.le_of_ble_eq_true rfl)⟩) (fun rv6 uu5 H locs hw hP hD hS => ?_)
  have hP : va_P G.1 kb_cl [kb_j G o 1 (vp_updL (fun _ => 0) 0 ((20 : Int32).toInt64)), kb_o y 4 [.int 0, .ref (um.1 0), .int 20, .ref (um.1 1), .int 0, .ref (um.1 2), .ref (um.1 3), .ref (um.1 4), .ref (um.1 5), .ref (um.1 6), .ref (um.1 7), .ref (um.1 8), .ref (um.1 9), .ref (um.1 10), .ref (um.1 11), .ref (um.1 12), .int 0, .int 0, .int 0, .int 0, .int 0]] H := hP
  have hD : va_D A [kb_j G o 1 (vp_updL (fun _ => 0) 0 ((20 : Int32).toInt64)), kb_o y 4 [.int 0, .ref (um.1 0), .int 20, .ref (um.1 1), .int 0, .ref (um.1 2), .ref (um.1 3), .ref (um.1 4), .ref (um.1 5), .ref (um.1 6), .ref (um.1 7), .ref (um.1 8), .ref (um.1 9), .ref (um.1 10), .ref (um.1 11), .ref (um.1 12), .int 0, .int 0, .int 0, .int 0, .int 0]] := hD
  refine kb_top (y := 0) (show rv6 = 0 from hw) ?_
  refine lv_iload hx hb d_L_law_205 (lv_at hl 1 rfl) ?_
  refine lv_icmp_eq (tgt := 212) hx hb d_L_law_207 (by decide) (fun c9 => ?_) (fun c9 => absurd (by decide) c9)
  refine lv_iload hx hb d_L_law_212 (lv_at hl 1 rfl) ?_
  refine lv_if_ne (tgt := 229) hx hb d_L_law_214 (by decide) (fun c9 => absurd (by decide) c9) (fun c9 => ?_)
  refine lv_aload_n hx hb d_L_law_217 rfl (lv_at hl 3 rfl) ?_
  refine lv_iconst (v := 0) hx hb d_L_law_218 (by decide) ?_
  refine va_lald hx hb hE.1 hP 0 1 rfl rfl (show ¬ ((0 : Int32) < 0 ∨ 1 ≤ (0 : Int32).toNatClampNeg) by decide) d_L_law_219 ?_
  refine kb_topl (y := (20 : Int32).toInt64) rfl ?_
  refine lv_iload hx hb d_L_law_220 (lv_at hl 0 rfl) ?_
  refine lv_i2l (v := (20 : Int32).toInt64) hx hb d_L_law_222 rfl ?_
  refine W.lcmp hx hb d_L_law_223 ?_
  refine kb_top (y := 0) (by decide) ?_
  refine lv_if_eq (tgt := 229) hx hb d_L_law_224 (by decide) (fun c9 => ?_) (fun c9 => absurd (by decide) c9)
  refine lv_goto (tgt := 940) hx hb d_L_law_229 (by decide) ?_
  refine lv_iinc (v := 6) (lv' := [(4, .int 6), (6, .int 20), (5, .int 0), (3, .ref o), (2, .ref y), (1, .ref x), (0, .ref b)]) hx hb d_L_law_940 hl (k := 2) rfl (by decide) (by decide) rfl (fun ls hl => ?_)
  refine lv_goto (tgt := 23) hx hb d_L_law_943 (by decide) ?_
  refine lv_iload hx hb d_L_law_23 (lv_at hl 0 rfl) ?_
  refine lv_aload_n hx hb d_L_law_25 rfl (lv_at hl 6 rfl) ?_
  refine va_slen hx hb hX hbl hbA hS d_L_law_26 ?_
  refine kb_top (y := 6) (by decide) ?_
  refine lv_bipush (v := 6) hx hb d_L_law_27 (by decide) ?_
  refine lv_isub hx hb d_L_law_29 ?_
  refine kb_top (y := 0) (by decide) ?_
  refine lv_icmp_gt (tgt := 946) hx hb d_L_law_30 (by decide) (fun c9 => ?_) (fun c9 => absurd (by decide) c9)
  refine lv_iconst (v := 1) hx hb d_L_law_946 (by decide) ?_
  refine va_forget (fun q hq => hAq _ (hS.2.2 q hq)) ?_
  refine W.widen (k := 600002) (n := 7302232) (Nat.le_of_ble_eq_true rfl) (Nat.le_of_ble_eq_true rfl) ?_
  exact lw_ret hx hb hr hlocks d_L_law_947

set_option maxHeartbeats 4000000 in
set_option maxRecDepth 100000 in
theorem lc_end0 {p : Program} {l : Launch} {e : Env} {s : State} {m : MethodId} {below : List Frame} {meth : Method} {c : Code} (hst : l.stackTraces = false) {G : kb_G} {A : Nat → Prop} {b : Nat} {xs : Nat → Int32} (C0 : lw_At p s m meth c b 6 xs) (hE : kb_E G A s) (hbA : ¬ A b) (hAq : ∀ q, A q → s.heap.size ≤ q) (x y o : Nat) (ux um : kb_S) {H : Heap} {locs : List Loc} (hP : va_P G.1 kb_cl (lc_w0 G x y o ux um) H) (hD : va_D A (lc_w0 G x y o ux um)) (hS : va_S A s.heap H locs) {ls : Array Slot} (hl : lv_has ls 7 [(4, .int 0), (3, .ref o), (2, .ref y), (1, .ref x), (0, .ref b)]) (hk : xs 0 &&& 31 = 1) (h1 : xs 1 = 0) : W p l e room_1 s m #[Value.ref b] below meth c H locs 71 169237 (lw_Z below #[Value.ref b] s) (F0 m 23 ls []) := by
  obtain ⟨hx, hb, hr, hml, hown, hts, hX, hbl, hlocks, hgv⟩ := C0
  have hown : s.vm.findClass "TreePressLaw" = some m.cls := hown
  have ht : ∀ w ∈ kb_T, w.before #[Value.ref b] s = true := fun w h => hts w (List.mem_filter.mp h).1
  have hP : va_P G.1 kb_cl [kb_o x 3 [.ref (ux.1 0), .ref (ux.1 2), .ref (ux.1 4), .ref (ux.1 5), .ref (ux.1 30)], kb_o (ux.1 0) 1 [.ref (ux.1 1), .int 0], kb_o y 4 [.int 0, .ref (um.1 0), .int 0, .ref (um.1 1), .int 0, .ref (um.1 2), .ref (um.1 3), .ref (um.1 4), .ref (um.1 5), .ref (um.1 6), .ref (um.1 7), .ref (um.1 8), .ref (um.1 9), .ref (um.1 10), .ref (um.1 11), .ref (um.1 12), .int 0, .int 0, .int 0, .int 0, .int 0]] H := hP.sub [0, 1, 63] rfl
  have hD : va_D A [kb_o x 3 [.ref (ux.1 0), .ref (ux.1 2), .ref (ux.1 4), .ref (ux.1 5), .ref (ux.1 30)], kb_o (ux.1 0) 1 [.ref (ux.1 1), .int 0], kb_o y 4 [.int 0, .ref (um.1 0), .int 0, .ref (um.1 1), .int 0, .ref (um.1 2), .ref (um.1 3), .ref (um.1 4), .ref (um.1 5), .ref (um.1 6), .ref (um.1 7), .ref (um.1 8), .ref (um.1 9), .ref (um.1 10), .ref (um.1 11), .ref (um.1 12), .int 0, .int 0, .int 0, .int 0, .int 0]] := hD.sub [0, 1, 63] (by decide) rfl
  refine lv_iload hx hb d_L_law_23 (lv_at hl 0 rfl) ?_
  refine lv_aload_n hx hb d_L_law_25 rfl (lv_at hl 4 rfl) ?_
  refine va_slen hx hb hX hbl hbA hS d_L_law_26 ?_
  refine kb_top (y := 6) (by decide) ?_
  refine lv_bipush (v := 6) hx hb d_L_law_27 (by decide) ?_
  refine lv_isub hx hb d_L_law_29 ?_
  refine kb_top (y := 0) (by decide) ?_
  refine lv_icmp_gt (tgt := 946) hx hb d_L_law_30 (by decide) (fun c9 => absurd c9 (by decide)) (fun c9 => ?_)
  refine lv_aload_n hx hb d_L_law_33 rfl (lv_at hl 4 rfl) ?_
  refine lv_iload hx hb d_L_law_34 (lv_at hl 0 rfl) ?_
  refine va_sld hx hb hX hbl hbA hS (show ¬ ((0 : Int32) < 0 ∨ 6 ≤ (0 : Int32).toNatClampNeg) by decide) d_L_law_36 ?_
  refine kb_top (y := xs 0) rfl ?_
  refine lv_bipush (v := 31) hx hb d_L_law_37 (by decide) ?_
  refine lv_iand hx hb d_L_law_39 ?_
  refine kb_top (y := 1) (hk) ?_
  refine lv_tableIn (tgt := 232) (off := 192) hx hb d_L_law_40 (by decide) (by decide) (by decide) (by decide) ?_
  refine lv_aload_n hx hb d_L_law_232 rfl (lv_at hl 3 rfl) ?_
  refine lv_aload_n hx hb d_L_law_233 rfl (lv_at hl 4 rfl) ?_
  refine lv_iload hx hb d_L_law_234 (lv_at hl 0 rfl) ?_
  refine lv_iconst (v := 1) hx hb d_L_law_236 (by decide) ?_
  refine lv_iadd hx hb d_L_law_237 ?_
  refine kb_top (y := 1) (by decide) ?_
  refine va_sld hx hb hX hbl hbA hS (show ¬ ((1 : Int32) < 0 ∨ 6 ≤ (1 : Int32).toNatClampNeg) by decide) d_L_law_238 ?_
  refine kb_top (y := xs 1) rfl ?_
  refine kb_top (y := 0) h1 ?_
  refine kb_i (wc := [kb_o x 3 [.ref (ux.1 0), .ref (ux.1 2), .ref (ux.1 4), .ref (ux.1 5), .ref (ux.1 30)], kb_o (ux.1 0) 1 [.ref (ux.1 1), .int 0]]) (wr := [kb_o y 4 [.int 0, .ref (um.1 0), .int 0, .ref (um.1 1), .int 0, .ref (um.1 2), .ref (um.1 3), .ref (um.1 4), .ref (um.1 5), .ref (um.1 6), .ref (um.1 7), .ref (um.1 8), .ref (um.1 9), .ref (um.1 10), .ref (um.1 11), .ref (um.1 12), .int 0, .int 0, .int 0, .int 0, .int 0]]) hE hP hD hS [0, 1] [2] rfl rfl (by decide) (by decide) (kb_rH (As := [.ref x, .int 0]) (rest := []) (wc := [kb_o x 3 [.ref (ux.1 0), .ref (ux.1 2), .ref (ux.1 4), .ref (ux.1 5), .ref (ux.1 30)], kb_o (ux.1 0) 1 [.ref (ux.1 1), .int 0]]) ⟨hx, hb, hml, hown, ht⟩ (c_L_end0 l hst G x (ux.1 0) (ux.1 2) (ux.1 4) (ux.1 5) (ux.1 30) (ux.1 1)) wd_6ba7000f wd_e4ece85a wd_5538317d wd_4b10f5b3 hd_c5435246 ⟨(Nat.le_of_ble_eq_true rfl), (Nat.le_of_ble_eq_true rfl)⟩ hE hP hD hS [0, 1] rfl (by decide) hl.1 rfl (Nat.le_of_ble_eq_true rfl) d_L_law_239 ⟨(Nat.le_of_ble_eq_true rfl), (Nat.le_of_ble_eq_true rfl)⟩) (fun rv2 uu1 H locs hw hP hD hS => ?_)
  have hP : va_P G.1 kb_cl [kb_o y 4 [.int 0, .ref (um.1 0), .int 0, .ref (um.1 1), .int 0, .ref (um.1 2), .ref (um.1 3), .ref (um.1 4), .ref (um.1 5), .ref (um.1 6), .ref (um.1 7), .ref (um.1 8), .ref (um.1 9), .ref (um.1 10), .ref (um.1 11), .ref (um.1 12), .int 0, .int 0, .int 0, .int 0, .int 0]] H := hP
  have hD : va_D A [kb_o y 4 [.int 0, .ref (um.1 0), .int 0, .ref (um.1 1), .int 0, .ref (um.1 2), .ref (um.1 3), .ref (um.1 4), .ref (um.1 5), .ref (um.1 6), .ref (um.1 7), .ref (um.1 8), .ref (um.1 9), .ref (um.1 10), .ref (um.1 11), .ref (um.1 12), .int 0, .int 0, .int 0, .int 0, .int 0]] := hD
  refine kb_top (y := 0) (show rv2 = 0 from hw) ?_
  refine lv_istore (lv' := [(5, .int 0), (4, .int 0), (3, .ref o), (2, .ref y), (1, .ref x), (0, .ref b)]) hx hb d_L_law_242 hl (by decide) rfl (fun ls hl => ?_)
  refine lv_aload_n hx hb d_L_law_244 rfl (lv_at hl 3 rfl) ?_
  refine lv_aload_n hx hb d_L_law_245 rfl (lv_at hl 5 rfl) ?_
  refine lv_iload hx hb d_L_law_246 (lv_at hl 1 rfl) ?_
  refine lv_iconst (v := 1) hx hb d_L_law_248 (by decide) ?_
  refine lv_iadd hx hb d_L_law_249 ?_
  refine kb_top (y := 1) (by decide) ?_
  refine va_sld hx hb hX hbl hbA hS (show ¬ ((1 : Int32) < 0 ∨ 6 ≤ (1 : Int32).toNatClampNeg) by decide) d_L_law_250 ?_
  refine kb_top (y := xs 1) rfl ?_
  refine kb_top (y := 0) h1 ?_
  refine kb_v (wc := [kb_o y 4 [.int 0, .ref (um.1 0), .int 0, .ref (um.1 1), .int 0, .ref (um.1 2), .ref (um.1 3), .ref (um.1 4), .ref (um.1 5), .ref (um.1 6), .ref (um.1 7), .ref (um.1 8), .ref (um.1 9), .ref (um.1 10), .ref (um.1 11), .ref (um.1 12), .int 0, .int 0, .int 0, .int 0, .int 0]]) (wr := []) hE hP hD hS [0] [] rfl rfl (by decide) (by decide) (kb_rV (As := [.int 0]) (rest := []) (wc := [kb_o y 4 [.int 0, .ref (um.1 0), .int 0, .ref (um.1 1), .int 0, .ref (um.1 2), .ref (um.1 3), .ref (um.1 4), .ref (um.1 5), .ref (um.1 6), .ref (um.1 7), .ref (um.1 8), .ref (um.1 9), .ref (um.1 10), .ref (um.1 11), .ref (um.1 12), .int 0, .int 0, .int 0, .int 0, .int 0]]) (q0 := 0) ⟨hx, hb, hml, hown, ht⟩ ((c_M_end0 l G y 0 (um.1 0) (um.1 1) (um.1 2) (um.1 3) (um.1 4) (um.1 5) (um.1 6) (um.1 7) (um.1 8) (um.1 9) (um.1 10) (um.1 11) (um.1 12)) _) (kb_gV wd_f70860fa wd_d3e04aa9 wd_b17cb2e3 wd_38099713 wd_9a9fbd5b) ⟨rfl, hd_fe5d2082⟩ ⟨(Nat.le_of_ble_eq_true rfl), (Nat.le_of_ble_eq_true rfl)⟩ hE hP hD hS [0] rfl (by decide) rfl rfl rfl hl.1 rfl (Nat.le_of_ble_eq_true rfl) d_L_law_251 ⟨(Nat.le_of_ble_eq_true rfl), (Nat.le_of_ble_eq_true rfl)⟩) (fun uu3 H locs hw hP hD hS => ?_)
  have hP : va_P G.1 kb_cl [kb_o y 4 [.int 0, .ref (um.1 0), .int 0, .ref (um.1 1), .int 0, .ref (um.1 2), .ref (um.1 3), .ref (um.1 4), .ref (um.1 5), .ref (um.1 6), .ref (um.1 7), .ref (um.1 8), .ref (um.1 9), .ref (um.1 10), .ref (um.1 11), .ref (um.1 12), .int 0, .int 0, .int 0, .int 0, .int 0]] H := hP
  have hD : va_D A [kb_o y 4 [.int 0, .ref (um.1 0), .int 0, .ref (um.1 1), .int 0, .ref (um.1 2), .ref (um.1 3), .ref (um.1 4), .ref (um.1 5), .ref (um.1 6), .ref (um.1 7), .ref (um.1 8), .ref (um.1 9), .ref (um.1 10), .ref (um.1 11), .ref (um.1 12), .int 0, .int 0, .int 0, .int 0, .int 0]] := hD
  refine lv_aload_n hx hb d_L_law_254 rfl (lv_at hl 3 rfl) ?_
  refine kb_i (wc := [kb_o y 4 [.int 0, .ref (um.1 0), .int 0, .ref (um.1 1), .int 0, .ref (um.1 2), .ref (um.1 3), .ref (um.1 4), .ref (um.1 5), .ref (um.1 6), .ref (um.1 7), .ref (um.1 8), .ref (um.1 9), .ref (um.1 10), .ref (um.1 11), .ref (um.1 12), .int 0, .int 0, .int 0, .int 0, .int 0]]) (wr := []) hE hP hD hS [0] [] rfl rfl (by decide) (by decide) (kb_rV (As := []) (rest := []) (wc := [kb_o y 4 [.int 0, .ref (um.1 0), .int 0, .ref (um.1 1), .int 0, .ref (um.1 2), .ref (um.1 3), .ref (um.1 4), .ref (um.1 5), .ref (um.1 6), .ref (um.1 7), .ref (um.1 8), .ref (um.1 9), .ref (um.1 10), .ref (um.1 11), .ref (um.1 12), .int 0, .int 0, .int 0, .int 0, .int 0]]) (q0 := 0) ⟨hx, hb, hml, hown, ht⟩ ((c_M_thrown l G y 0 (um.1 0) (um.1 1) (um.1 2) (um.1 3) (um.1 4) (um.1 5) (um.1 6) (um.1 7) (um.1 8) (um.1 9) (um.1 10) (um.1 11) (um.1 12) 0 0 0 0) _) (kb_gV wd_1946a056 wd_e9c50365 wd_a707e5a8 wd_38099713 wd_79f18ba3) ⟨rfl, hd_2a236ec3⟩ ⟨(Nat.le_of_ble_eq_true rfl), (Nat.le_of_ble_eq_true rfl)⟩ hE hP hD hS [0] rfl (by decide) rfl rfl rfl hl.1 rfl (Nat.le_of_ble_eq_true rfl) d_L_law_255 ⟨(Nat.le_of_ble_eq_true rfl), (Nat.le_of_ble_eq_true rfl)⟩) (fun rv6 uu5 H locs hw hP hD hS => ?_)
  have hP : va_P G.1 kb_cl [kb_o y 4 [.int 0, .ref (um.1 0), .int 0, .ref (um.1 1), .int 0, .ref (um.1 2), .ref (um.1 3), .ref (um.1 4), .ref (um.1 5), .ref (um.1 6), .ref (um.1 7), .ref (um.1 8), .ref (um.1 9), .ref (um.1 10), .ref (um.1 11), .ref (um.1 12), .int 0, .int 0, .int 0, .int 0, .int 0]] H := hP
  have hD : va_D A [kb_o y 4 [.int 0, .ref (um.1 0), .int 0, .ref (um.1 1), .int 0, .ref (um.1 2), .ref (um.1 3), .ref (um.1 4), .ref (um.1 5), .ref (um.1 6), .ref (um.1 7), .ref (um.1 8), .ref (um.1 9), .ref (um.1 10), .ref (um.1 11), .ref (um.1 12), .int 0, .int 0, .int 0, .int 0, .int 0]] := hD
  refine kb_top (y := 0) (show rv6 = 0 from hw) ?_
  refine lv_iload hx hb d_L_law_258 (lv_at hl 0 rfl) ?_
  refine lv_icmp_eq (tgt := 265) hx hb d_L_law_260 (by decide) (fun c9 => ?_) (fun c9 => absurd (by decide) c9)
  refine lv_goto (tgt := 940) hx hb d_L_law_265 (by decide) ?_
  refine lv_iinc (v := 6) (lv' := [(4, .int 6), (5, .int 0), (3, .ref o), (2, .ref y), (1, .ref x), (0, .ref b)]) hx hb d_L_law_940 hl (k := 1) rfl (by decide) (by decide) rfl (fun ls hl => ?_)
  refine lv_goto (tgt := 23) hx hb d_L_law_943 (by decide) ?_
  refine lv_iload hx hb d_L_law_23 (lv_at hl 0 rfl) ?_
  refine lv_aload_n hx hb d_L_law_25 rfl (lv_at hl 5 rfl) ?_
  refine va_slen hx hb hX hbl hbA hS d_L_law_26 ?_
  refine kb_top (y := 6) (by decide) ?_
  refine lv_bipush (v := 6) hx hb d_L_law_27 (by decide) ?_
  refine lv_isub hx hb d_L_law_29 ?_
  refine kb_top (y := 0) (by decide) ?_
  refine lv_icmp_gt (tgt := 946) hx hb d_L_law_30 (by decide) (fun c9 => ?_) (fun c9 => absurd (by decide) c9)
  refine lv_iconst (v := 1) hx hb d_L_law_946 (by decide) ?_
  refine va_forget (fun q hq => hAq _ (hS.2.2 q hq)) ?_
  refine W.widen (k := 600002) (n := 7302232) (Nat.le_of_ble_eq_true rfl) (Nat.le_of_ble_eq_true rfl) ?_
  exact lw_ret hx hb hr hlocks d_L_law_947

set_option maxHeartbeats 4000000 in
set_option maxRecDepth 100000 in
theorem lc_endX {p : Program} {l : Launch} {e : Env} {s : State} {m : MethodId} {below : List Frame} {meth : Method} {c : Code} (hst : l.stackTraces = false) {G : kb_G} {A : Nat → Prop} {b : Nat} {xs : Nat → Int32} (C0 : lw_At p s m meth c b 6 xs) (hE : kb_E G A s) (hbA : ¬ A b) (hAq : ∀ q, A q → s.heap.size ≤ q) (x y o : Nat) (ux um : kb_S) {H : Heap} {locs : List Loc} (hP : va_P G.1 kb_cl (lc_w0 G x y o ux um) H) (hD : va_D A (lc_w0 G x y o ux um)) (hS : va_S A s.heap H locs) {ls : Array Slot} (hl : lv_has ls 7 [(4, .int 0), (3, .ref o), (2, .ref y), (1, .ref x), (0, .ref b)]) (hk : xs 0 &&& 31 = 1) (h1 : ¬ xs 1 = 0) : W p l e room_1 s m #[Value.ref b] below meth c H locs 71 169237 (lw_Z below #[Value.ref b] s) (F0 m 23 ls []) := by
  obtain ⟨hx, hb, hr, hml, hown, hts, hX, hbl, hlocks, hgv⟩ := C0
  have hown : s.vm.findClass "TreePressLaw" = some m.cls := hown
  have ht : ∀ w ∈ kb_T, w.before #[Value.ref b] s = true := fun w h => hts w (List.mem_filter.mp h).1
  have hP : va_P G.1 kb_cl [kb_o x 3 [.ref (ux.1 0), .ref (ux.1 2), .ref (ux.1 4), .ref (ux.1 5), .ref (ux.1 30)], kb_o (ux.1 0) 1 [.ref (ux.1 1), .int 0], kb_o y 4 [.int 0, .ref (um.1 0), .int 0, .ref (um.1 1), .int 0, .ref (um.1 2), .ref (um.1 3), .ref (um.1 4), .ref (um.1 5), .ref (um.1 6), .ref (um.1 7), .ref (um.1 8), .ref (um.1 9), .ref (um.1 10), .ref (um.1 11), .ref (um.1 12), .int 0, .int 0, .int 0, .int 0, .int 0]] H := hP.sub [0, 1, 63] rfl
  have hD : va_D A [kb_o x 3 [.ref (ux.1 0), .ref (ux.1 2), .ref (ux.1 4), .ref (ux.1 5), .ref (ux.1 30)], kb_o (ux.1 0) 1 [.ref (ux.1 1), .int 0], kb_o y 4 [.int 0, .ref (um.1 0), .int 0, .ref (um.1 1), .int 0, .ref (um.1 2), .ref (um.1 3), .ref (um.1 4), .ref (um.1 5), .ref (um.1 6), .ref (um.1 7), .ref (um.1 8), .ref (um.1 9), .ref (um.1 10), .ref (um.1 11), .ref (um.1 12), .int 0, .int 0, .int 0, .int 0, .int 0]] := hD.sub [0, 1, 63] (by decide) rfl
  refine lv_iload hx hb d_L_law_23 (lv_at hl 0 rfl) ?_
  refine lv_aload_n hx hb d_L_law_25 rfl (lv_at hl 4 rfl) ?_
  refine va_slen hx hb hX hbl hbA hS d_L_law_26 ?_
  refine kb_top (y := 6) (by decide) ?_
  refine lv_bipush (v := 6) hx hb d_L_law_27 (by decide) ?_
  refine lv_isub hx hb d_L_law_29 ?_
  refine kb_top (y := 0) (by decide) ?_
  refine lv_icmp_gt (tgt := 946) hx hb d_L_law_30 (by decide) (fun c9 => absurd c9 (by decide)) (fun c9 => ?_)
  refine lv_aload_n hx hb d_L_law_33 rfl (lv_at hl 4 rfl) ?_
  refine lv_iload hx hb d_L_law_34 (lv_at hl 0 rfl) ?_
  refine va_sld hx hb hX hbl hbA hS (show ¬ ((0 : Int32) < 0 ∨ 6 ≤ (0 : Int32).toNatClampNeg) by decide) d_L_law_36 ?_
  refine kb_top (y := xs 0) rfl ?_
  refine lv_bipush (v := 31) hx hb d_L_law_37 (by decide) ?_
  refine lv_iand hx hb d_L_law_39 ?_
  refine kb_top (y := 1) (hk) ?_
  refine lv_tableIn (tgt := 232) (off := 192) hx hb d_L_law_40 (by decide) (by decide) (by decide) (by decide) ?_
  refine lv_aload_n hx hb d_L_law_232 rfl (lv_at hl 3 rfl) ?_
  refine lv_aload_n hx hb d_L_law_233 rfl (lv_at hl 4 rfl) ?_
  refine lv_iload hx hb d_L_law_234 (lv_at hl 0 rfl) ?_
  refine lv_iconst (v := 1) hx hb d_L_law_236 (by decide) ?_
  refine lv_iadd hx hb d_L_law_237 ?_
  refine kb_top (y := 1) (by decide) ?_
  refine va_sld hx hb hX hbl hbA hS (show ¬ ((1 : Int32) < 0 ∨ 6 ≤ (1 : Int32).toNatClampNeg) by decide) d_L_law_238 ?_
  refine kb_top (y := xs 1) rfl ?_
  refine kb_i (wc := [kb_o x 3 [.ref (ux.1 0), .ref (ux.1 2), .ref (ux.1 4), .ref (ux.1 5), .ref (ux.1 30)], kb_o (ux.1 0) 1 [.ref (ux.1 1), .int 0]]) (wr := [kb_o y 4 [.int 0, .ref (um.1 0), .int 0, .ref (um.1 1), .int 0, .ref (um.1 2), .ref (um.1 3), .ref (um.1 4), .ref (um.1 5), .ref (um.1 6), .ref (um.1 7), .ref (um.1 8), .ref (um.1 9), .ref (um.1 10), .ref (um.1 11), .ref (um.1 12), .int 0, .int 0, .int 0, .int 0, .int 0]]) hE hP hD hS [0, 1] [2] rfl rfl (by decide) (by decide) (kb_rH (As := [.ref x, .int (xs 1)]) (rest := []) (wc := [kb_o x 3 [.ref (ux.1 0), .ref (ux.1 2), .ref (ux.1 4), .ref (ux.1 5), .ref (ux.1 30)], kb_o (ux.1 0) 1 [.ref (ux.1 1), .int 0]]) ⟨hx, hb, hml, hown, ht⟩ (c_L_endX l hst G x (ux.1 0) (ux.1 2) (ux.1 4) (ux.1 5) (ux.1 30) (ux.1 1) (xs 1) h1) wd_6ba7000f wd_e4ece85a wd_5538317d wd_4b10f5b3 hd_c5435246 ⟨(Nat.le_of_ble_eq_true rfl), (Nat.le_of_ble_eq_true rfl)⟩ hE hP hD hS [0, 1] rfl (by decide) hl.1 rfl (Nat.le_of_ble_eq_true rfl) d_L_law_239 ⟨(Nat.le_of_ble_eq_true rfl), (Nat.le_of_ble_eq_true rfl)⟩) (fun rv2 uu1 H locs hw hP hD hS => ?_)
  have hP : va_P G.1 kb_cl [kb_o y 4 [.int 0, .ref (um.1 0), .int 0, .ref (um.1 1), .int 0, .ref (um.1 2), .ref (um.1 3), .ref (um.1 4), .ref (um.1 5), .ref (um.1 6), .ref (um.1 7), .ref (um.1 8), .ref (um.1 9), .ref (um.1 10), .ref (um.1 11), .ref (um.1 12), .int 0, .int 0, .int 0, .int 0, .int 0]] H := hP
  have hD : va_D A [kb_o y 4 [.int 0, .ref (um.1 0), .int 0, .ref (um.1 1), .int 0, .ref (um.1 2), .ref (um.1 3), .ref (um.1 4), .ref (um.1 5), .ref (um.1 6), .ref (um.1 7), .ref (um.1 8), .ref (um.1 9), .ref (um.1 10), .ref (um.1 11), .ref (um.1 12), .int 0, .int 0, .int 0, .int 0, .int 0]] := hD
  refine kb_top (y := 1) (show rv2 = 1 from hw) ?_
  refine lv_istore (lv' := [(5, .int 1), (4, .int 0), (3, .ref o), (2, .ref y), (1, .ref x), (0, .ref b)]) hx hb d_L_law_242 hl (by decide) rfl (fun ls hl => ?_)
  refine lv_aload_n hx hb d_L_law_244 rfl (lv_at hl 3 rfl) ?_
  refine lv_aload_n hx hb d_L_law_245 rfl (lv_at hl 5 rfl) ?_
  refine lv_iload hx hb d_L_law_246 (lv_at hl 1 rfl) ?_
  refine lv_iconst (v := 1) hx hb d_L_law_248 (by decide) ?_
  refine lv_iadd hx hb d_L_law_249 ?_
  refine kb_top (y := 1) (by decide) ?_
  refine va_sld hx hb hX hbl hbA hS (show ¬ ((1 : Int32) < 0 ∨ 6 ≤ (1 : Int32).toNatClampNeg) by decide) d_L_law_250 ?_
  refine kb_top (y := xs 1) rfl ?_
  refine kb_v (wc := [kb_o y 4 [.int 0, .ref (um.1 0), .int 0, .ref (um.1 1), .int 0, .ref (um.1 2), .ref (um.1 3), .ref (um.1 4), .ref (um.1 5), .ref (um.1 6), .ref (um.1 7), .ref (um.1 8), .ref (um.1 9), .ref (um.1 10), .ref (um.1 11), .ref (um.1 12), .int 0, .int 0, .int 0, .int 0, .int 0]]) (wr := []) hE hP hD hS [0] [] rfl rfl (by decide) (by decide) (kb_rV (As := [.int (xs 1)]) (rest := []) (wc := [kb_o y 4 [.int 0, .ref (um.1 0), .int 0, .ref (um.1 1), .int 0, .ref (um.1 2), .ref (um.1 3), .ref (um.1 4), .ref (um.1 5), .ref (um.1 6), .ref (um.1 7), .ref (um.1 8), .ref (um.1 9), .ref (um.1 10), .ref (um.1 11), .ref (um.1 12), .int 0, .int 0, .int 0, .int 0, .int 0]]) (q0 := 0) ⟨hx, hb, hml, hown, ht⟩ ((c_M_endX l G y 0 (um.1 0) (um.1 1) (um.1 2) (um.1 3) (um.1 4) (um.1 5) (um.1 6) (um.1 7) (um.1 8) (um.1 9) (um.1 10) (um.1 11) (um.1 12) (xs 1) h1) _) (kb_gV wd_f70860fa wd_d3e04aa9 wd_b17cb2e3 wd_38099713 wd_9a9fbd5b) ⟨rfl, hd_fe5d2082⟩ ⟨(Nat.le_of_ble_eq_true rfl), (Nat.le_of_ble_eq_true rfl)⟩ hE hP hD hS [0] rfl (by decide) rfl rfl rfl hl.1 rfl (Nat.le_of_ble_eq_true rfl) d_L_law_251 ⟨(Nat.le_of_ble_eq_true rfl), (Nat.le_of_ble_eq_true rfl)⟩) (fun uu3 H locs hw hP hD hS => ?_)
  have hP : va_P G.1 kb_cl [kb_o y 4 [.int 1, .ref (um.1 0), .int 0, .ref (um.1 1), .int 0, .ref (um.1 2), .ref (um.1 3), .ref (um.1 4), .ref (um.1 5), .ref (um.1 6), .ref (um.1 7), .ref (um.1 8), .ref (um.1 9), .ref (um.1 10), .ref (um.1 11), .ref (um.1 12), .int 0, .int 0, .int 0, .int 0, .int 0]] H := hP
  have hD : va_D A [kb_o y 4 [.int 1, .ref (um.1 0), .int 0, .ref (um.1 1), .int 0, .ref (um.1 2), .ref (um.1 3), .ref (um.1 4), .ref (um.1 5), .ref (um.1 6), .ref (um.1 7), .ref (um.1 8), .ref (um.1 9), .ref (um.1 10), .ref (um.1 11), .ref (um.1 12), .int 0, .int 0, .int 0, .int 0, .int 0]] := hD
  refine lv_aload_n hx hb d_L_law_254 rfl (lv_at hl 3 rfl) ?_
  refine kb_i (wc := [kb_o y 4 [.int 1, .ref (um.1 0), .int 0, .ref (um.1 1), .int 0, .ref (um.1 2), .ref (um.1 3), .ref (um.1 4), .ref (um.1 5), .ref (um.1 6), .ref (um.1 7), .ref (um.1 8), .ref (um.1 9), .ref (um.1 10), .ref (um.1 11), .ref (um.1 12), .int 0, .int 0, .int 0, .int 0, .int 0]]) (wr := []) hE hP hD hS [0] [] rfl rfl (by decide) (by decide) (kb_rV (As := []) (rest := []) (wc := [kb_o y 4 [.int 1, .ref (um.1 0), .int 0, .ref (um.1 1), .int 0, .ref (um.1 2), .ref (um.1 3), .ref (um.1 4), .ref (um.1 5), .ref (um.1 6), .ref (um.1 7), .ref (um.1 8), .ref (um.1 9), .ref (um.1 10), .ref (um.1 11), .ref (um.1 12), .int 0, .int 0, .int 0, .int 0, .int 0]]) (q0 := 0) ⟨hx, hb, hml, hown, ht⟩ ((c_M_thrown l G y 1 (um.1 0) (um.1 1) (um.1 2) (um.1 3) (um.1 4) (um.1 5) (um.1 6) (um.1 7) (um.1 8) (um.1 9) (um.1 10) (um.1 11) (um.1 12) 0 0 0 0) _) (kb_gV wd_1946a056 wd_e9c50365 wd_a707e5a8 wd_38099713 wd_79f18ba3) ⟨rfl, hd_2a236ec3⟩ ⟨(Nat.le_of_ble_eq_true rfl), (Nat.le_of_ble_eq_true rfl)⟩ hE hP hD hS [0] rfl (by decide) rfl rfl rfl hl.1 rfl (Nat.le_of_ble_eq_true rfl) d_L_law_255 ⟨(Nat.le_of_ble_eq_true rfl), (Nat.le_of_ble_eq_true rfl)⟩) (fun rv6 uu5 H locs hw hP hD hS => ?_)
  have hP : va_P G.1 kb_cl [kb_o y 4 [.int 1, .ref (um.1 0), .int 0, .ref (um.1 1), .int 0, .ref (um.1 2), .ref (um.1 3), .ref (um.1 4), .ref (um.1 5), .ref (um.1 6), .ref (um.1 7), .ref (um.1 8), .ref (um.1 9), .ref (um.1 10), .ref (um.1 11), .ref (um.1 12), .int 0, .int 0, .int 0, .int 0, .int 0]] H := hP
  have hD : va_D A [kb_o y 4 [.int 1, .ref (um.1 0), .int 0, .ref (um.1 1), .int 0, .ref (um.1 2), .ref (um.1 3), .ref (um.1 4), .ref (um.1 5), .ref (um.1 6), .ref (um.1 7), .ref (um.1 8), .ref (um.1 9), .ref (um.1 10), .ref (um.1 11), .ref (um.1 12), .int 0, .int 0, .int 0, .int 0, .int 0]] := hD
  refine kb_top (y := 1) (show rv6 = 1 from hw) ?_
  refine lv_iload hx hb d_L_law_258 (lv_at hl 0 rfl) ?_
  refine lv_icmp_eq (tgt := 265) hx hb d_L_law_260 (by decide) (fun c9 => ?_) (fun c9 => absurd (by decide) c9)
  refine lv_goto (tgt := 940) hx hb d_L_law_265 (by decide) ?_
  refine lv_iinc (v := 6) (lv' := [(4, .int 6), (5, .int 1), (3, .ref o), (2, .ref y), (1, .ref x), (0, .ref b)]) hx hb d_L_law_940 hl (k := 1) rfl (by decide) (by decide) rfl (fun ls hl => ?_)
  refine lv_goto (tgt := 23) hx hb d_L_law_943 (by decide) ?_
  refine lv_iload hx hb d_L_law_23 (lv_at hl 0 rfl) ?_
  refine lv_aload_n hx hb d_L_law_25 rfl (lv_at hl 5 rfl) ?_
  refine va_slen hx hb hX hbl hbA hS d_L_law_26 ?_
  refine kb_top (y := 6) (by decide) ?_
  refine lv_bipush (v := 6) hx hb d_L_law_27 (by decide) ?_
  refine lv_isub hx hb d_L_law_29 ?_
  refine kb_top (y := 0) (by decide) ?_
  refine lv_icmp_gt (tgt := 946) hx hb d_L_law_30 (by decide) (fun c9 => ?_) (fun c9 => absurd (by decide) c9)
  refine lv_iconst (v := 1) hx hb d_L_law_946 (by decide) ?_
  refine va_forget (fun q hq => hAq _ (hS.2.2 q hq)) ?_
  refine W.widen (k := 600002) (n := 7302232) (Nat.le_of_ble_eq_true rfl) (Nat.le_of_ble_eq_true rfl) ?_
  exact lw_ret hx hb hr hlocks d_L_law_947

set_option maxHeartbeats 4000000 in
set_option maxRecDepth 100000 in
theorem lc_clear {p : Program} {l : Launch} {e : Env} {s : State} {m : MethodId} {below : List Frame} {meth : Method} {c : Code} (hst : l.stackTraces = false) {G : kb_G} {A : Nat → Prop} {b : Nat} {xs : Nat → Int32} (C0 : lw_At p s m meth c b 6 xs) (hE : kb_E G A s) (hbA : ¬ A b) (hAq : ∀ q, A q → s.heap.size ≤ q) (x y o : Nat) (ux um : kb_S) {H : Heap} {locs : List Loc} (hP : va_P G.1 kb_cl (lc_w0 G x y o ux um) H) (hD : va_D A (lc_w0 G x y o ux um)) (hS : va_S A s.heap H locs) {ls : Array Slot} (hl : lv_has ls 7 [(4, .int 0), (3, .ref o), (2, .ref y), (1, .ref x), (0, .ref b)]) (hk : xs 0 &&& 31 = 2) : W p l e room_1 s m #[Value.ref b] below meth c H locs 71 169237 (lw_Z below #[Value.ref b] s) (F0 m 23 ls []) := by
  obtain ⟨hx, hb, hr, hml, hown, hts, hX, hbl, hlocks, hgv⟩ := C0
  have hown : s.vm.findClass "TreePressLaw" = some m.cls := hown
  have ht : ∀ w ∈ kb_T, w.before #[Value.ref b] s = true := fun w h => hts w (List.mem_filter.mp h).1
  have hP : va_P G.1 kb_cl [kb_o x 3 [.ref (ux.1 0), .ref (ux.1 2), .ref (ux.1 4), .ref (ux.1 5), .ref (ux.1 30)], kb_o (ux.1 12) 1 [.ref (ux.1 8), .int 0], kb_o (ux.1 13) 1 [.ref (ux.1 9), .int 0], kb_o (ux.1 14) 1 [.ref (ux.1 10), .int 0], kb_o (ux.1 15) 1 [.ref (ux.1 11), .int 0], kb_o (ux.1 16) 1 [.ref (ux.1 17), .int 1], kb_a G (ux.1 17) 16 (upd (fun _ => 0) 0 (-1)), kb_o (ux.1 18) 1 [.ref (ux.1 19), .int 1], kb_a G (ux.1 19) 16 (upd (fun _ => 0) 0 1), kb_o (ux.1 20) 1 [.ref (ux.1 21), .int 1], kb_a G (ux.1 21) 16 (upd (fun _ => 0) 0 0), kb_o (ux.1 22) 1 [.ref (ux.1 23), .int 1], kb_a G (ux.1 23) 16 (upd (fun _ => 0) 0 0), kb_o (ux.1 5) 2 [.ref (ux.1 29), .ref (ux.1 16), .ref (ux.1 18), .ref (ux.1 20), .ref (ux.1 22), .ref (ux.1 25), .ref (ux.1 27), .ref (ux.1 24), .ref (ux.1 12), .ref (ux.1 13), .ref (ux.1 14), .ref (ux.1 15), .int 0, .int 0], kb_o (ux.1 24) 1 [.ref (ux.1 7), .int 0], kb_o (ux.1 25) 1 [.ref (ux.1 26), .int 1], kb_a G (ux.1 26) 16 (upd (fun _ => 0) 0 0), kb_o (ux.1 27) 1 [.ref (ux.1 28), .int 1], kb_a G (ux.1 28) 16 (upd (fun _ => 0) 0 0), kb_o (ux.1 29) 1 [.ref (ux.1 6), .int 0], kb_o y 4 [.int 0, .ref (um.1 0), .int 0, .ref (um.1 1), .int 0, .ref (um.1 2), .ref (um.1 3), .ref (um.1 4), .ref (um.1 5), .ref (um.1 6), .ref (um.1 7), .ref (um.1 8), .ref (um.1 9), .ref (um.1 10), .ref (um.1 11), .ref (um.1 12), .int 0, .int 0, .int 0, .int 0, .int 0], kb_a G (um.1 2) 2 (upd (fun _ => 0) 0 1), kb_a G (um.1 3) 2 (upd (fun _ => 0) 0 0), kb_a G (um.1 4) 2 (upd (fun _ => 0) 0 0), kb_a G (um.1 5) 256 (upd (fun _ => 0) 0 (-1)), kb_a G (um.1 6) 256 (upd (fun _ => 0) 0 0), kb_a G (um.1 7) 256 (upd (fun _ => 0) 0 0)] H := hP.sub [0, 12, 13, 14, 15, 16, 17, 18, 19, 20, 21, 22, 23, 24, 25, 26, 27, 28, 29, 30, 63, 64, 65, 66, 67, 68, 69] rfl
  have hD : va_D A [kb_o x 3 [.ref (ux.1 0), .ref (ux.1 2), .ref (ux.1 4), .ref (ux.1 5), .ref (ux.1 30)], kb_o (ux.1 12) 1 [.ref (ux.1 8), .int 0], kb_o (ux.1 13) 1 [.ref (ux.1 9), .int 0], kb_o (ux.1 14) 1 [.ref (ux.1 10), .int 0], kb_o (ux.1 15) 1 [.ref (ux.1 11), .int 0], kb_o (ux.1 16) 1 [.ref (ux.1 17), .int 1], kb_a G (ux.1 17) 16 (upd (fun _ => 0) 0 (-1)), kb_o (ux.1 18) 1 [.ref (ux.1 19), .int 1], kb_a G (ux.1 19) 16 (upd (fun _ => 0) 0 1), kb_o (ux.1 20) 1 [.ref (ux.1 21), .int 1], kb_a G (ux.1 21) 16 (upd (fun _ => 0) 0 0), kb_o (ux.1 22) 1 [.ref (ux.1 23), .int 1], kb_a G (ux.1 23) 16 (upd (fun _ => 0) 0 0), kb_o (ux.1 5) 2 [.ref (ux.1 29), .ref (ux.1 16), .ref (ux.1 18), .ref (ux.1 20), .ref (ux.1 22), .ref (ux.1 25), .ref (ux.1 27), .ref (ux.1 24), .ref (ux.1 12), .ref (ux.1 13), .ref (ux.1 14), .ref (ux.1 15), .int 0, .int 0], kb_o (ux.1 24) 1 [.ref (ux.1 7), .int 0], kb_o (ux.1 25) 1 [.ref (ux.1 26), .int 1], kb_a G (ux.1 26) 16 (upd (fun _ => 0) 0 0), kb_o (ux.1 27) 1 [.ref (ux.1 28), .int 1], kb_a G (ux.1 28) 16 (upd (fun _ => 0) 0 0), kb_o (ux.1 29) 1 [.ref (ux.1 6), .int 0], kb_o y 4 [.int 0, .ref (um.1 0), .int 0, .ref (um.1 1), .int 0, .ref (um.1 2), .ref (um.1 3), .ref (um.1 4), .ref (um.1 5), .ref (um.1 6), .ref (um.1 7), .ref (um.1 8), .ref (um.1 9), .ref (um.1 10), .ref (um.1 11), .ref (um.1 12), .int 0, .int 0, .int 0, .int 0, .int 0], kb_a G (um.1 2) 2 (upd (fun _ => 0) 0 1), kb_a G (um.1 3) 2 (upd (fun _ => 0) 0 0), kb_a G (um.1 4) 2 (upd (fun _ => 0) 0 0), kb_a G (um.1 5) 256 (upd (fun _ => 0) 0 (-1)), kb_a G (um.1 6) 256 (upd (fun _ => 0) 0 0), kb_a G (um.1 7) 256 (upd (fun _ => 0) 0 0)] := hD.sub [0, 12, 13, 14, 15, 16, 17, 18, 19, 20, 21, 22, 23, 24, 25, 26, 27, 28, 29, 30, 63, 64, 65, 66, 67, 68, 69] (by decide) rfl
  refine lv_iload hx hb d_L_law_23 (lv_at hl 0 rfl) ?_
  refine lv_aload_n hx hb d_L_law_25 rfl (lv_at hl 4 rfl) ?_
  refine va_slen hx hb hX hbl hbA hS d_L_law_26 ?_
  refine kb_top (y := 6) (by decide) ?_
  refine lv_bipush (v := 6) hx hb d_L_law_27 (by decide) ?_
  refine lv_isub hx hb d_L_law_29 ?_
  refine kb_top (y := 0) (by decide) ?_
  refine lv_icmp_gt (tgt := 946) hx hb d_L_law_30 (by decide) (fun c9 => absurd c9 (by decide)) (fun c9 => ?_)
  refine lv_aload_n hx hb d_L_law_33 rfl (lv_at hl 4 rfl) ?_
  refine lv_iload hx hb d_L_law_34 (lv_at hl 0 rfl) ?_
  refine va_sld hx hb hX hbl hbA hS (show ¬ ((0 : Int32) < 0 ∨ 6 ≤ (0 : Int32).toNatClampNeg) by decide) d_L_law_36 ?_
  refine kb_top (y := xs 0) rfl ?_
  refine lv_bipush (v := 31) hx hb d_L_law_37 (by decide) ?_
  refine lv_iand hx hb d_L_law_39 ?_
  refine kb_top (y := 2) (hk) ?_
  refine lv_tableIn (tgt := 268) (off := 228) hx hb d_L_law_40 (by decide) (by decide) (by decide) (by decide) ?_
  refine lv_aload_n hx hb d_L_law_268 rfl (lv_at hl 3 rfl) ?_
  refine kb_v (wc := [kb_o x 3 [.ref (ux.1 0), .ref (ux.1 2), .ref (ux.1 4), .ref (ux.1 5), .ref (ux.1 30)], kb_o (ux.1 5) 2 [.ref (ux.1 29), .ref (ux.1 16), .ref (ux.1 18), .ref (ux.1 20), .ref (ux.1 22), .ref (ux.1 25), .ref (ux.1 27), .ref (ux.1 24), .ref (ux.1 12), .ref (ux.1 13), .ref (ux.1 14), .ref (ux.1 15), .int 0, .int 0], kb_o (ux.1 29) 1 [.ref (ux.1 6), .int 0], kb_o (ux.1 16) 1 [.ref (ux.1 17), .int 1], kb_o (ux.1 18) 1 [.ref (ux.1 19), .int 1], kb_o (ux.1 20) 1 [.ref (ux.1 21), .int 1], kb_o (ux.1 22) 1 [.ref (ux.1 23), .int 1], kb_o (ux.1 25) 1 [.ref (ux.1 26), .int 1], kb_o (ux.1 27) 1 [.ref (ux.1 28), .int 1], kb_o (ux.1 24) 1 [.ref (ux.1 7), .int 0], kb_o (ux.1 12) 1 [.ref (ux.1 8), .int 0], kb_o (ux.1 13) 1 [.ref (ux.1 9), .int 0], kb_o (ux.1 14) 1 [.ref (ux.1 10), .int 0], kb_o (ux.1 15) 1 [.ref (ux.1 11), .int 0], kb_a G (ux.1 17) 16 (upd (fun _ => 0) 0 (-1)), kb_a G (ux.1 19) 16 (upd (fun _ => 0) 0 1), kb_a G (ux.1 21) 16 (upd (fun _ => 0) 0 0), kb_a G (ux.1 23) 16 (upd (fun _ => 0) 0 0), kb_a G (ux.1 26) 16 (upd (fun _ => 0) 0 0), kb_a G (ux.1 28) 16 (upd (fun _ => 0) 0 0)]) (wr := [kb_o y 4 [.int 0, .ref (um.1 0), .int 0, .ref (um.1 1), .int 0, .ref (um.1 2), .ref (um.1 3), .ref (um.1 4), .ref (um.1 5), .ref (um.1 6), .ref (um.1 7), .ref (um.1 8), .ref (um.1 9), .ref (um.1 10), .ref (um.1 11), .ref (um.1 12), .int 0, .int 0, .int 0, .int 0, .int 0], kb_a G (um.1 2) 2 (upd (fun _ => 0) 0 1), kb_a G (um.1 3) 2 (upd (fun _ => 0) 0 0), kb_a G (um.1 4) 2 (upd (fun _ => 0) 0 0), kb_a G (um.1 5) 256 (upd (fun _ => 0) 0 (-1)), kb_a G (um.1 6) 256 (upd (fun _ => 0) 0 0), kb_a G (um.1 7) 256 (upd (fun _ => 0) 0 0)]) hE hP hD hS [0, 13, 19, 5, 7, 9, 11, 15, 17, 14, 1, 2, 3, 4, 6, 8, 10, 12, 16, 18] [20, 21, 22, 23, 24, 25, 26] rfl rfl (by decide) (by decide) (kb_rV (As := []) (rest := []) (wc := [kb_o x 3 [.ref (ux.1 0), .ref (ux.1 2), .ref (ux.1 4), .ref (ux.1 5), .ref (ux.1 30)], kb_o (ux.1 5) 2 [.ref (ux.1 29), .ref (ux.1 16), .ref (ux.1 18), .ref (ux.1 20), .ref (ux.1 22), .ref (ux.1 25), .ref (ux.1 27), .ref (ux.1 24), .ref (ux.1 12), .ref (ux.1 13), .ref (ux.1 14), .ref (ux.1 15), .int 0, .int 0], kb_o (ux.1 29) 1 [.ref (ux.1 6), .int 0], kb_o (ux.1 16) 1 [.ref (ux.1 17), .int 1], kb_o (ux.1 18) 1 [.ref (ux.1 19), .int 1], kb_o (ux.1 20) 1 [.ref (ux.1 21), .int 1], kb_o (ux.1 22) 1 [.ref (ux.1 23), .int 1], kb_o (ux.1 25) 1 [.ref (ux.1 26), .int 1], kb_o (ux.1 27) 1 [.ref (ux.1 28), .int 1], kb_o (ux.1 24) 1 [.ref (ux.1 7), .int 0], kb_o (ux.1 12) 1 [.ref (ux.1 8), .int 0], kb_o (ux.1 13) 1 [.ref (ux.1 9), .int 0], kb_o (ux.1 14) 1 [.ref (ux.1 10), .int 0], kb_o (ux.1 15) 1 [.ref (ux.1 11), .int 0], kb_a G (ux.1 17) 16 (upd (fun _ => 0) 0 (-1)), kb_a G (ux.1 19) 16 (upd (fun _ => 0) 0 1), kb_a G (ux.1 21) 16 (upd (fun _ => 0) 0 0), kb_a G (ux.1 23) 16 (upd (fun _ => 0) 0 0), kb_a G (ux.1 26) 16 (upd (fun _ => 0) 0 0), kb_a G (ux.1 28) 16 (upd (fun _ => 0) 0 0)]) (q0 := 0) ⟨hx, hb, hml, hown, ht⟩ ((c_Press_clear l G x (ux.1 0) (ux.1 2) (ux.1 4) (ux.1 5) (ux.1 30) (ux.1 29) (ux.1 16) (ux.1 18) (ux.1 20) (ux.1 22) (ux.1 25) (ux.1 27) (ux.1 24) (ux.1 12) (ux.1 13) (ux.1 14) (ux.1 15) 0 0 (ux.1 6) (ux.1 17) (ux.1 19) (ux.1 21) (ux.1 23) (ux.1 26) (ux.1 28) (ux.1 7) (ux.1 8) (ux.1 9) (ux.1 10) (ux.1 11)) _) (kb_gV wd_64b81240 wd_9f999bb7 wd_83fc0403 wd_28603eaf wd_041f142a) ⟨rfl, hd_6245d470⟩ ⟨(Nat.le_of_ble_eq_true rfl), (Nat.le_of_ble_eq_true rfl)⟩ hE hP hD hS [0, 13, 19, 5, 7, 9, 11, 15, 17, 14, 1, 2, 3, 4, 6, 8, 10, 12, 16, 18] rfl (by decide) rfl rfl rfl hl.1 rfl (Nat.le_of_ble_eq_true rfl) d_L_law_269 ⟨(Nat.le_of_ble_eq_true rfl), (Nat.le_of_ble_eq_true rfl)⟩) (fun uu1 H locs hw hP hD hS => ?_)
  have hP : va_P G.1 kb_cl [kb_o y 4 [.int 0, .ref (um.1 0), .int 0, .ref (um.1 1), .int 0, .ref (um.1 2), .ref (um.1 3), .ref (um.1 4), .ref (um.1 5), .ref (um.1 6), .ref (um.1 7), .ref (um.1 8), .ref (um.1 9), .ref (um.1 10), .ref (um.1 11), .ref (um.1 12), .int 0, .int 0, .int 0, .int 0, .int 0], kb_a G (um.1 2) 2 (upd (fun _ => 0) 0 1), kb_a G (um.1 3) 2 (upd (fun _ => 0) 0 0), kb_a G (um.1 4) 2 (upd (fun _ => 0) 0 0), kb_a G (um.1 5) 256 (upd (fun _ => 0) 0 (-1)), kb_a G (um.1 6) 256 (upd (fun _ => 0) 0 0), kb_a G (um.1 7) 256 (upd (fun _ => 0) 0 0)] H := hP
  have hD : va_D A [kb_o y 4 [.int 0, .ref (um.1 0), .int 0, .ref (um.1 1), .int 0, .ref (um.1 2), .ref (um.1 3), .ref (um.1 4), .ref (um.1 5), .ref (um.1 6), .ref (um.1 7), .ref (um.1 8), .ref (um.1 9), .ref (um.1 10), .ref (um.1 11), .ref (um.1 12), .int 0, .int 0, .int 0, .int 0, .int 0], kb_a G (um.1 2) 2 (upd (fun _ => 0) 0 1), kb_a G (um.1 3) 2 (upd (fun _ => 0) 0 0), kb_a G (um.1 4) 2 (upd (fun _ => 0) 0 0), kb_a G (um.1 5) 256 (upd (fun _ => 0) 0 (-1)), kb_a G (um.1 6) 256 (upd (fun _ => 0) 0 0), kb_a G (um.1 7) 256 (upd (fun _ => 0) 0 0)] := hD
  refine lv_aload_n hx hb d_L_law_272 rfl (lv_at hl 2 rfl) ?_
  refine kb_v (wc := [kb_o y 4 [.int 0, .ref (um.1 0), .int 0, .ref (um.1 1), .int 0, .ref (um.1 2), .ref (um.1 3), .ref (um.1 4), .ref (um.1 5), .ref (um.1 6), .ref (um.1 7), .ref (um.1 8), .ref (um.1 9), .ref (um.1 10), .ref (um.1 11), .ref (um.1 12), .int 0, .int 0, .int 0, .int 0, .int 0], kb_a G (um.1 2) 2 (upd (fun _ => 0) 0 1), kb_a G (um.1 3) 2 (upd (fun _ => 0) 0 0), kb_a G (um.1 4) 2 (upd (fun _ => 0) 0 0), kb_a G (um.1 5) 256 (upd (fun _ => 0) 0 (-1)), kb_a G (um.1 6) 256 (upd (fun _ => 0) 0 0), kb_a G (um.1 7) 256 (upd (fun _ => 0) 0 0)]) (wr := []) hE hP hD hS [0, 1, 2, 3, 4, 5, 6] [] rfl rfl (by decide) (by decide) (kb_rV (As := []) (rest := []) (wc := [kb_o y 4 [.int 0, .ref (um.1 0), .int 0, .ref (um.1 1), .int 0, .ref (um.1 2), .ref (um.1 3), .ref (um.1 4), .ref (um.1 5), .ref (um.1 6), .ref (um.1 7), .ref (um.1 8), .ref (um.1 9), .ref (um.1 10), .ref (um.1 11), .ref (um.1 12), .int 0, .int 0, .int 0, .int 0, .int 0], kb_a G (um.1 2) 2 (upd (fun _ => 0) 0 1), kb_a G (um.1 3) 2 (upd (fun _ => 0) 0 0), kb_a G (um.1 4) 2 (upd (fun _ => 0) 0 0), kb_a G (um.1 5) 256 (upd (fun _ => 0) 0 (-1)), kb_a G (um.1 6) 256 (upd (fun _ => 0) 0 0), kb_a G (um.1 7) 256 (upd (fun _ => 0) 0 0)]) (q0 := 0) ⟨hx, hb, hml, hown, ht⟩ ((c_M_clear l G y 0 (um.1 0) (um.1 1) (um.1 2) (um.1 3) (um.1 4) (um.1 5) (um.1 6) (um.1 7) (um.1 8) (um.1 9) (um.1 10) (um.1 11) (um.1 12)) _) (kb_gV wd_dae62bba wd_5380ecfc wd_8b3c037b wd_38099713 wd_1ed01684) ⟨rfl, hd_f1962557⟩ ⟨(Nat.le_of_ble_eq_true rfl), (Nat.le_of_ble_eq_true rfl)⟩ hE hP hD hS [0, 1, 2, 3, 4, 5, 6] rfl (by decide) rfl rfl rfl hl.1 rfl (Nat.le_of_ble_eq_true rfl) d_L_law_273 ⟨(Nat.le_of_ble_eq_true rfl), (Nat.le_of_ble_eq_true rfl)⟩) (fun uu3 H locs hw hP hD hS => ?_)
  have hP : va_P G.1 kb_cl [kb_o y 4 [.int 0, .ref (um.1 0), .int 0, .ref (um.1 1), .int 0, .ref (um.1 2), .ref (um.1 3), .ref (um.1 4), .ref (um.1 5), .ref (um.1 6), .ref (um.1 7), .ref (um.1 8), .ref (um.1 9), .ref (um.1 10), .ref (um.1 11), .ref (um.1 12), .int 0, .int 0, .int 0, .int 0, .int 0]] H := hP
  have hD : va_D A [kb_o y 4 [.int 0, .ref (um.1 0), .int 0, .ref (um.1 1), .int 0, .ref (um.1 2), .ref (um.1 3), .ref (um.1 4), .ref (um.1 5), .ref (um.1 6), .ref (um.1 7), .ref (um.1 8), .ref (um.1 9), .ref (um.1 10), .ref (um.1 11), .ref (um.1 12), .int 0, .int 0, .int 0, .int 0, .int 0]] := hD
  refine lv_goto (tgt := 940) hx hb d_L_law_276 (by decide) ?_
  refine lv_iinc (v := 6) (lv' := [(4, .int 6), (3, .ref o), (2, .ref y), (1, .ref x), (0, .ref b)]) hx hb d_L_law_940 hl (k := 0) rfl (by decide) (by decide) rfl (fun ls hl => ?_)
  refine lv_goto (tgt := 23) hx hb d_L_law_943 (by decide) ?_
  refine lv_iload hx hb d_L_law_23 (lv_at hl 0 rfl) ?_
  refine lv_aload_n hx hb d_L_law_25 rfl (lv_at hl 4 rfl) ?_
  refine va_slen hx hb hX hbl hbA hS d_L_law_26 ?_
  refine kb_top (y := 6) (by decide) ?_
  refine lv_bipush (v := 6) hx hb d_L_law_27 (by decide) ?_
  refine lv_isub hx hb d_L_law_29 ?_
  refine kb_top (y := 0) (by decide) ?_
  refine lv_icmp_gt (tgt := 946) hx hb d_L_law_30 (by decide) (fun c9 => ?_) (fun c9 => absurd (by decide) c9)
  refine lv_iconst (v := 1) hx hb d_L_law_946 (by decide) ?_
  refine va_forget (fun q hq => hAq _ (hS.2.2 q hq)) ?_
  refine W.widen (k := 600002) (n := 7302232) (Nat.le_of_ble_eq_true rfl) (Nat.le_of_ble_eq_true rfl) ?_
  exact lw_ret hx hb hr hlocks d_L_law_947

set_option maxHeartbeats 4000000 in
set_option maxRecDepth 100000 in
theorem lc_open {p : Program} {l : Launch} {e : Env} {s : State} {m : MethodId} {below : List Frame} {meth : Method} {c : Code} (hst : l.stackTraces = false) {G : kb_G} {A : Nat → Prop} {b : Nat} {xs : Nat → Int32} (C0 : lw_At p s m meth c b 6 xs) (hE : kb_E G A s) (hbA : ¬ A b) (hAq : ∀ q, A q → s.heap.size ≤ q) (x y o : Nat) (ux um : kb_S) {H : Heap} {locs : List Loc} (hP : va_P G.1 kb_cl (lc_w0 G x y o ux um) H) (hD : va_D A (lc_w0 G x y o ux um)) (hS : va_S A s.heap H locs) {ls : Array Slot} (hl : lv_has ls 7 [(4, .int 0), (3, .ref o), (2, .ref y), (1, .ref x), (0, .ref b)]) (hk : xs 0 &&& 31 = 3) : W p l e room_1 s m #[Value.ref b] below meth c H locs 71 169237 (lw_Z below #[Value.ref b] s) (F0 m 23 ls []) := by
  obtain ⟨hx, hb, hr, hml, hown, hts, hX, hbl, hlocks, hgv⟩ := C0
  have hown : s.vm.findClass "TreePressLaw" = some m.cls := hown
  have ht : ∀ w ∈ kb_T, w.before #[Value.ref b] s = true := fun w h => hts w (List.mem_filter.mp h).1
  have hP : va_P G.1 kb_cl [kb_o x 3 [.ref (ux.1 0), .ref (ux.1 2), .ref (ux.1 4), .ref (ux.1 5), .ref (ux.1 30)], kb_o (ux.1 0) 1 [.ref (ux.1 1), .int 0], kb_o y 4 [.int 0, .ref (um.1 0), .int 0, .ref (um.1 1), .int 0, .ref (um.1 2), .ref (um.1 3), .ref (um.1 4), .ref (um.1 5), .ref (um.1 6), .ref (um.1 7), .ref (um.1 8), .ref (um.1 9), .ref (um.1 10), .ref (um.1 11), .ref (um.1 12), .int 0, .int 0, .int 0, .int 0, .int 0], kb_a G (um.1 2) 2 (upd (fun _ => 0) 0 1), kb_a G (um.1 4) 2 (upd (fun _ => 0) 0 0), kb_a G (um.1 5) 256 (upd (fun _ => 0) 0 (-1)), kb_j G o 1 (fun _ => 0)] H := hP.sub [0, 1, 63, 64, 66, 67, 70] rfl
  have hD : va_D A [kb_o x 3 [.ref (ux.1 0), .ref (ux.1 2), .ref (ux.1 4), .ref (ux.1 5), .ref (ux.1 30)], kb_o (ux.1 0) 1 [.ref (ux.1 1), .int 0], kb_o y 4 [.int 0, .ref (um.1 0), .int 0, .ref (um.1 1), .int 0, .ref (um.1 2), .ref (um.1 3), .ref (um.1 4), .ref (um.1 5), .ref (um.1 6), .ref (um.1 7), .ref (um.1 8), .ref (um.1 9), .ref (um.1 10), .ref (um.1 11), .ref (um.1 12), .int 0, .int 0, .int 0, .int 0, .int 0], kb_a G (um.1 2) 2 (upd (fun _ => 0) 0 1), kb_a G (um.1 4) 2 (upd (fun _ => 0) 0 0), kb_a G (um.1 5) 256 (upd (fun _ => 0) 0 (-1)), kb_j G o 1 (fun _ => 0)] := hD.sub [0, 1, 63, 64, 66, 67, 70] (by decide) rfl
  refine lv_iload hx hb d_L_law_23 (lv_at hl 0 rfl) ?_
  refine lv_aload_n hx hb d_L_law_25 rfl (lv_at hl 4 rfl) ?_
  refine va_slen hx hb hX hbl hbA hS d_L_law_26 ?_
  refine kb_top (y := 6) (by decide) ?_
  refine lv_bipush (v := 6) hx hb d_L_law_27 (by decide) ?_
  refine lv_isub hx hb d_L_law_29 ?_
  refine kb_top (y := 0) (by decide) ?_
  refine lv_icmp_gt (tgt := 946) hx hb d_L_law_30 (by decide) (fun c9 => absurd c9 (by decide)) (fun c9 => ?_)
  refine lv_aload_n hx hb d_L_law_33 rfl (lv_at hl 4 rfl) ?_
  refine lv_iload hx hb d_L_law_34 (lv_at hl 0 rfl) ?_
  refine va_sld hx hb hX hbl hbA hS (show ¬ ((0 : Int32) < 0 ∨ 6 ≤ (0 : Int32).toNatClampNeg) by decide) d_L_law_36 ?_
  refine kb_top (y := xs 0) rfl ?_
  refine lv_bipush (v := 31) hx hb d_L_law_37 (by decide) ?_
  refine lv_iand hx hb d_L_law_39 ?_
  refine kb_top (y := 3) (hk) ?_
  refine lv_tableIn (tgt := 279) (off := 239) hx hb d_L_law_40 (by decide) (by decide) (by decide) (by decide) ?_
  refine lv_aload_n hx hb d_L_law_279 rfl (lv_at hl 3 rfl) ?_
  refine lv_aload_n hx hb d_L_law_280 rfl (lv_at hl 1 rfl) ?_
  refine kb_i (wc := [kb_o x 3 [.ref (ux.1 0), .ref (ux.1 2), .ref (ux.1 4), .ref (ux.1 5), .ref (ux.1 30)], kb_o (ux.1 0) 1 [.ref (ux.1 1), .int 0], kb_j G o 1 (fun _ => 0)]) (wr := [kb_o y 4 [.int 0, .ref (um.1 0), .int 0, .ref (um.1 1), .int 0, .ref (um.1 2), .ref (um.1 3), .ref (um.1 4), .ref (um.1 5), .ref (um.1 6), .ref (um.1 7), .ref (um.1 8), .ref (um.1 9), .ref (um.1 10), .ref (um.1 11), .ref (um.1 12), .int 0, .int 0, .int 0, .int 0, .int 0], kb_a G (um.1 2) 2 (upd (fun _ => 0) 0 1), kb_a G (um.1 4) 2 (upd (fun _ => 0) 0 0), kb_a G (um.1 5) 256 (upd (fun _ => 0) 0 (-1))]) hE hP hD hS [0, 1, 6] [2, 3, 4, 5] rfl rfl (by decide) (by decide) (kb_rH (As := [.ref x, .ref o]) (rest := []) (wc := [kb_o x 3 [.ref (ux.1 0), .ref (ux.1 2), .ref (ux.1 4), .ref (ux.1 5), .ref (ux.1 30)], kb_o (ux.1 0) 1 [.ref (ux.1 1), .int 0], kb_j G o 1 (fun _ => 0)]) ⟨hx, hb, hml, hown, ht⟩ (c_L_open l hst G x (ux.1 0) (ux.1 2) (ux.1 4) (ux.1 5) (ux.1 30) (ux.1 1) o) wd_9f741124 wd_e4ece85a wd_3986aa67 wd_990c6c54 hd_265c11da ⟨(Nat.le_of_ble_eq_true rfl), (Nat.le_of_ble_eq_true rfl)⟩ hE hP hD hS [0, 1, 6] rfl (by decide) hl.1 rfl (Nat.le_of_ble_eq_true rfl) d_L_law_281 ⟨(Nat.le_of_ble_eq_true rfl), (Nat.le_of_ble_eq_true rfl)⟩) (fun rv2 uu1 H locs hw hP hD hS => ?_)
  have hP : va_P G.1 kb_cl [kb_o y 4 [.int 0, .ref (um.1 0), .int 0, .ref (um.1 1), .int 0, .ref (um.1 2), .ref (um.1 3), .ref (um.1 4), .ref (um.1 5), .ref (um.1 6), .ref (um.1 7), .ref (um.1 8), .ref (um.1 9), .ref (um.1 10), .ref (um.1 11), .ref (um.1 12), .int 0, .int 0, .int 0, .int 0, .int 0], kb_a G (um.1 2) 2 (upd (fun _ => 0) 0 1), kb_a G (um.1 4) 2 (upd (fun _ => 0) 0 0), kb_a G (um.1 5) 256 (upd (fun _ => 0) 0 (-1)), kb_j G o 1 (fun _ => 0)] H := hP
  have hD : va_D A [kb_o y 4 [.int 0, .ref (um.1 0), .int 0, .ref (um.1 1), .int 0, .ref (um.1 2), .ref (um.1 3), .ref (um.1 4), .ref (um.1 5), .ref (um.1 6), .ref (um.1 7), .ref (um.1 8), .ref (um.1 9), .ref (um.1 10), .ref (um.1 11), .ref (um.1 12), .int 0, .int 0, .int 0, .int 0, .int 0], kb_a G (um.1 2) 2 (upd (fun _ => 0) 0 1), kb_a G (um.1 4) 2 (upd (fun _ => 0) 0 0), kb_a G (um.1 5) 256 (upd (fun _ => 0) 0 (-1)), kb_j G o 1 (fun _ => 0)] := hD
  refine kb_top (y := 1) (show rv2 = 1 from hw) ?_
  refine lv_istore (lv' := [(5, .int 1), (4, .int 0), (3, .ref o), (2, .ref y), (1, .ref x), (0, .ref b)]) hx hb d_L_law_284 hl (by decide) rfl (fun ls hl => ?_)
  refine lv_aload_n hx hb d_L_law_286 rfl (lv_at hl 3 rfl) ?_
  refine kb_i (wc := [kb_o y 4 [.int 0, .ref (um.1 0), .int 0, .ref (um.1 1), .int 0, .ref (um.1 2), .ref (um.1 3), .ref (um.1 4), .ref (um.1 5), .ref (um.1 6), .ref (um.1 7), .ref (um.1 8), .ref (um.1 9), .ref (um.1 10), .ref (um.1 11), .ref (um.1 12), .int 0, .int 0, .int 0, .int 0, .int 0], kb_a G (um.1 2) 2 (upd (fun _ => 0) 0 1), kb_a G (um.1 4) 2 (upd (fun _ => 0) 0 0), kb_a G (um.1 5) 256 (upd (fun _ => 0) 0 (-1))]) (wr := [kb_j G o 1 (fun _ => 0)]) hE hP hD hS [0, 1, 2, 3] [4] rfl rfl (by decide) (by decide) (kb_rV (As := []) (rest := []) (wc := [kb_o y 4 [.int 0, .ref (um.1 0), .int 0, .ref (um.1 1), .int 0, .ref (um.1 2), .ref (um.1 3), .ref (um.1 4), .ref (um.1 5), .ref (um.1 6), .ref (um.1 7), .ref (um.1 8), .ref (um.1 9), .ref (um.1 10), .ref (um.1 11), .ref (um.1 12), .int 0, .int 0, .int 0, .int 0, .int 0], kb_a G (um.1 2) 2 (upd (fun _ => 0) 0 1), kb_a G (um.1 4) 2 (upd (fun _ => 0) 0 0), kb_a G (um.1 5) 256 (upd (fun _ => 0) 0 (-1))]) (q0 := 0) ⟨hx, hb, hml, hown, ht⟩ ((c_M_open l G y 0 (um.1 0) (um.1 1) (um.1 2) (um.1 3) (um.1 4) (um.1 5) (um.1 6) (um.1 7) (um.1 8) (um.1 9) (um.1 10) (um.1 11) (um.1 12)) _) (kb_gV wd_51a656f5 wd_8640e62f wd_09fa5bb0 wd_38099713 wd_2793d320) ⟨rfl, hd_f6295e56⟩ ⟨(Nat.le_of_ble_eq_true rfl), (Nat.le_of_ble_eq_true rfl)⟩ hE hP hD hS [0, 1, 2, 3] rfl (by decide) rfl rfl rfl hl.1 rfl (Nat.le_of_ble_eq_true rfl) d_L_law_287 ⟨(Nat.le_of_ble_eq_true rfl), (Nat.le_of_ble_eq_true rfl)⟩) (fun rv4 uu3 H locs hw hP hD hS => ?_)
  have hP : va_P G.1 kb_cl [kb_j G o 1 (fun _ => 0), kb_o y 4 [.int 1, .ref (um.1 0), .int 0, .ref (um.1 1), .int 0, .ref (um.1 2), .ref (um.1 3), .ref (um.1 4), .ref (um.1 5), .ref (um.1 6), .ref (um.1 7), .ref (um.1 8), .ref (um.1 9), .ref (um.1 10), .ref (um.1 11), .ref (um.1 12), .int 0, .int 0, .int 0, .int 0, .int 0]] H := hP
  have hD : va_D A [kb_j G o 1 (fun _ => 0), kb_o y 4 [.int 1, .ref (um.1 0), .int 0, .ref (um.1 1), .int 0, .ref (um.1 2), .ref (um.1 3), .ref (um.1 4), .ref (um.1 5), .ref (um.1 6), .ref (um.1 7), .ref (um.1 8), .ref (um.1 9), .ref (um.1 10), .ref (um.1 11), .ref (um.1 12), .int 0, .int 0, .int 0, .int 0, .int 0]] := hD
  refine kb_top (y := 0) (show rv4 = 0 from hw) ?_
  refine lv_istore (lv' := [(6, .int 0), (5, .int 1), (4, .int 0), (3, .ref o), (2, .ref y), (1, .ref x), (0, .ref b)]) hx hb d_L_law_290 hl (by decide) rfl (fun ls hl => ?_)
  refine lv_aload_n hx hb d_L_law_292 rfl (lv_at hl 4 rfl) ?_
  refine kb_i (wc := [kb_o y 4 [.int 1, .ref (um.1 0), .int 0, .ref (um.1 1), .int 0, .ref (um.1 2), .ref (um.1 3), .ref (um.1 4), .ref (um.1 5), .ref (um.1 6), .ref (um.1 7), .ref (um.1 8), .ref (um.1 9), .ref (um.1 10), .ref (um.1 11), .ref (um.1 12), .int 0, .int 0, .int 0, .int 0, .int 0]]) (wr := [kb_j G o 1 (fun _ => 0)]) hE hP hD hS [1] [0] rfl rfl (by decide) (by decide) (kb_rV (As := []) (rest := []) (wc := [kb_o y 4 [.int 1, .ref (um.1 0), .int 0, .ref (um.1 1), .int 0, .ref (um.1 2), .ref (um.1 3), .ref (um.1 4), .ref (um.1 5), .ref (um.1 6), .ref (um.1 7), .ref (um.1 8), .ref (um.1 9), .ref (um.1 10), .ref (um.1 11), .ref (um.1 12), .int 0, .int 0, .int 0, .int 0, .int 0]]) (q0 := 0) ⟨hx, hb, hml, hown, ht⟩ ((c_M_thrown l G y 1 (um.1 0) (um.1 1) (um.1 2) (um.1 3) (um.1 4) (um.1 5) (um.1 6) (um.1 7) (um.1 8) (um.1 9) (um.1 10) (um.1 11) (um.1 12) 0 0 0 0) _) (kb_gV wd_1946a056 wd_e9c50365 wd_a707e5a8 wd_38099713 wd_79f18ba3) ⟨rfl, hd_2a236ec3⟩ ⟨(Nat.le_of_ble_eq_true rfl), (Nat.le_of_ble_eq_true rfl)⟩ hE hP hD hS [1] rfl (by decide) rfl rfl rfl hl.1 rfl (Nat.le_of_ble_eq_true rfl) d_L_law_293 ⟨(Nat.le_of_ble_eq_true rfl), (Nat.le_of_ble_eq_true rfl)⟩) (fun rv6 uu5 H locs hw hP hD hS => ?_)
  have hP : va_P G.1 kb_cl [kb_j G o 1 (fun _ => 0), kb_o y 4 [.int 1, .ref (um.1 0), .int 0, .ref (um.1 1), .int 0, .ref (um.1 2), .ref (um.1 3), .ref (um.1 4), .ref (um.1 5), .ref (um.1 6), .ref (um.1 7), .ref (um.1 8), .ref (um.1 9), .ref (um.1 10), .ref (um.1 11), .ref (um.1 12), .int 0, .int 0, .int 0, .int 0, .int 0]] H := hP
  have hD : va_D A [kb_j G o 1 (fun _ => 0), kb_o y 4 [.int 1, .ref (um.1 0), .int 0, .ref (um.1 1), .int 0, .ref (um.1 2), .ref (um.1 3), .ref (um.1 4), .ref (um.1 5), .ref (um.1 6), .ref (um.1 7), .ref (um.1 8), .ref (um.1 9), .ref (um.1 10), .ref (um.1 11), .ref (um.1 12), .int 0, .int 0, .int 0, .int 0, .int 0]] := hD
  refine kb_top (y := 1) (show rv6 = 1 from hw) ?_
  refine lv_iload hx hb d_L_law_296 (lv_at hl 1 rfl) ?_
  refine lv_icmp_eq (tgt := 303) hx hb d_L_law_298 (by decide) (fun c9 => ?_) (fun c9 => absurd (by decide) c9)
  refine lv_iload hx hb d_L_law_303 (lv_at hl 1 rfl) ?_
  refine lv_if_ne (tgt := 320) hx hb d_L_law_305 (by decide) (fun c9 => ?_) (fun c9 => absurd c9 (by decide))
  refine lv_goto (tgt := 940) hx hb d_L_law_320 (by decide) ?_
  refine lv_iinc (v := 6) (lv' := [(4, .int 6), (6, .int 0), (5, .int 1), (3, .ref o), (2, .ref y), (1, .ref x), (0, .ref b)]) hx hb d_L_law_940 hl (k := 2) rfl (by decide) (by decide) rfl (fun ls hl => ?_)
  refine lv_goto (tgt := 23) hx hb d_L_law_943 (by decide) ?_
  refine lv_iload hx hb d_L_law_23 (lv_at hl 0 rfl) ?_
  refine lv_aload_n hx hb d_L_law_25 rfl (lv_at hl 6 rfl) ?_
  refine va_slen hx hb hX hbl hbA hS d_L_law_26 ?_
  refine kb_top (y := 6) (by decide) ?_
  refine lv_bipush (v := 6) hx hb d_L_law_27 (by decide) ?_
  refine lv_isub hx hb d_L_law_29 ?_
  refine kb_top (y := 0) (by decide) ?_
  refine lv_icmp_gt (tgt := 946) hx hb d_L_law_30 (by decide) (fun c9 => ?_) (fun c9 => absurd (by decide) c9)
  refine lv_iconst (v := 1) hx hb d_L_law_946 (by decide) ?_
  refine va_forget (fun q hq => hAq _ (hS.2.2 q hq)) ?_
  refine W.widen (k := 600002) (n := 7302232) (Nat.le_of_ble_eq_true rfl) (Nat.le_of_ble_eq_true rfl) ?_
  exact lw_ret hx hb hr hlocks d_L_law_947

set_option maxHeartbeats 4000000 in
set_option maxRecDepth 100000 in
theorem lc_property {p : Program} {l : Launch} {e : Env} {s : State} {m : MethodId} {below : List Frame} {meth : Method} {c : Code} (hst : l.stackTraces = false) {G : kb_G} {A : Nat → Prop} {b : Nat} {xs : Nat → Int32} (C0 : lw_At p s m meth c b 6 xs) (hE : kb_E G A s) (hbA : ¬ A b) (hAq : ∀ q, A q → s.heap.size ≤ q) (x y o : Nat) (ux um : kb_S) {H : Heap} {locs : List Loc} (hP : va_P G.1 kb_cl (lc_w0 G x y o ux um) H) (hD : va_D A (lc_w0 G x y o ux um)) (hS : va_S A s.heap H locs) {ls : Array Slot} (hl : lv_has ls 7 [(4, .int 0), (3, .ref o), (2, .ref y), (1, .ref x), (0, .ref b)]) (hk : xs 0 &&& 31 = 4) : W p l e room_1 s m #[Value.ref b] below meth c H locs 71 169237 (lw_Z below #[Value.ref b] s) (F0 m 23 ls []) := by
  obtain ⟨hx, hb, hr, hml, hown, hts, hX, hbl, hlocks, hgv⟩ := C0
  have hown : s.vm.findClass "TreePressLaw" = some m.cls := hown
  have ht : ∀ w ∈ kb_T, w.before #[Value.ref b] s = true := fun w h => hts w (List.mem_filter.mp h).1
  have hP : va_P G.1 kb_cl [kb_o x 3 [.ref (ux.1 0), .ref (ux.1 2), .ref (ux.1 4), .ref (ux.1 5), .ref (ux.1 30)], kb_o (ux.1 0) 1 [.ref (ux.1 1), .int 0], kb_o y 4 [.int 0, .ref (um.1 0), .int 0, .ref (um.1 1), .int 0, .ref (um.1 2), .ref (um.1 3), .ref (um.1 4), .ref (um.1 5), .ref (um.1 6), .ref (um.1 7), .ref (um.1 8), .ref (um.1 9), .ref (um.1 10), .ref (um.1 11), .ref (um.1 12), .int 0, .int 0, .int 0, .int 0, .int 0], kb_a G (um.1 3) 2 (upd (fun _ => 0) 0 0), kb_a G (um.1 4) 2 (upd (fun _ => 0) 0 0), kb_j G o 1 (fun _ => 0)] H := hP.sub [0, 1, 63, 65, 66, 70] rfl
  have hD : va_D A [kb_o x 3 [.ref (ux.1 0), .ref (ux.1 2), .ref (ux.1 4), .ref (ux.1 5), .ref (ux.1 30)], kb_o (ux.1 0) 1 [.ref (ux.1 1), .int 0], kb_o y 4 [.int 0, .ref (um.1 0), .int 0, .ref (um.1 1), .int 0, .ref (um.1 2), .ref (um.1 3), .ref (um.1 4), .ref (um.1 5), .ref (um.1 6), .ref (um.1 7), .ref (um.1 8), .ref (um.1 9), .ref (um.1 10), .ref (um.1 11), .ref (um.1 12), .int 0, .int 0, .int 0, .int 0, .int 0], kb_a G (um.1 3) 2 (upd (fun _ => 0) 0 0), kb_a G (um.1 4) 2 (upd (fun _ => 0) 0 0), kb_j G o 1 (fun _ => 0)] := hD.sub [0, 1, 63, 65, 66, 70] (by decide) rfl
  refine lv_iload hx hb d_L_law_23 (lv_at hl 0 rfl) ?_
  refine lv_aload_n hx hb d_L_law_25 rfl (lv_at hl 4 rfl) ?_
  refine va_slen hx hb hX hbl hbA hS d_L_law_26 ?_
  refine kb_top (y := 6) (by decide) ?_
  refine lv_bipush (v := 6) hx hb d_L_law_27 (by decide) ?_
  refine lv_isub hx hb d_L_law_29 ?_
  refine kb_top (y := 0) (by decide) ?_
  refine lv_icmp_gt (tgt := 946) hx hb d_L_law_30 (by decide) (fun c9 => absurd c9 (by decide)) (fun c9 => ?_)
  refine lv_aload_n hx hb d_L_law_33 rfl (lv_at hl 4 rfl) ?_
  refine lv_iload hx hb d_L_law_34 (lv_at hl 0 rfl) ?_
  refine va_sld hx hb hX hbl hbA hS (show ¬ ((0 : Int32) < 0 ∨ 6 ≤ (0 : Int32).toNatClampNeg) by decide) d_L_law_36 ?_
  refine kb_top (y := xs 0) rfl ?_
  refine lv_bipush (v := 31) hx hb d_L_law_37 (by decide) ?_
  refine lv_iand hx hb d_L_law_39 ?_
  refine kb_top (y := 4) (hk) ?_
  refine lv_tableIn (tgt := 323) (off := 283) hx hb d_L_law_40 (by decide) (by decide) (by decide) (by decide) ?_
  refine lv_aload_n hx hb d_L_law_323 rfl (lv_at hl 3 rfl) ?_
  refine lv_aload_n hx hb d_L_law_324 rfl (lv_at hl 4 rfl) ?_
  refine lv_iload hx hb d_L_law_325 (lv_at hl 0 rfl) ?_
  refine lv_iconst (v := 1) hx hb d_L_law_327 (by decide) ?_
  refine lv_iadd hx hb d_L_law_328 ?_
  refine kb_top (y := 1) (by decide) ?_
  refine va_sld hx hb hX hbl hbA hS (show ¬ ((1 : Int32) < 0 ∨ 6 ≤ (1 : Int32).toNatClampNeg) by decide) d_L_law_329 ?_
  refine kb_top (y := xs 1) rfl ?_
  refine lv_aload_n hx hb d_L_law_330 rfl (lv_at hl 1 rfl) ?_
  refine kb_i (wc := [kb_o x 3 [.ref (ux.1 0), .ref (ux.1 2), .ref (ux.1 4), .ref (ux.1 5), .ref (ux.1 30)], kb_o (ux.1 0) 1 [.ref (ux.1 1), .int 0], kb_j G o 1 (fun _ => 0)]) (wr := [kb_o y 4 [.int 0, .ref (um.1 0), .int 0, .ref (um.1 1), .int 0, .ref (um.1 2), .ref (um.1 3), .ref (um.1 4), .ref (um.1 5), .ref (um.1 6), .ref (um.1 7), .ref (um.1 8), .ref (um.1 9), .ref (um.1 10), .ref (um.1 11), .ref (um.1 12), .int 0, .int 0, .int 0, .int 0, .int 0], kb_a G (um.1 3) 2 (upd (fun _ => 0) 0 0), kb_a G (um.1 4) 2 (upd (fun _ => 0) 0 0)]) hE hP hD hS [0, 1, 5] [2, 3, 4] rfl rfl (by decide) (by decide) (kb_rH (As := [.ref x, .int (xs 1), .ref o]) (rest := []) (wc := [kb_o x 3 [.ref (ux.1 0), .ref (ux.1 2), .ref (ux.1 4), .ref (ux.1 5), .ref (ux.1 30)], kb_o (ux.1 0) 1 [.ref (ux.1 1), .int 0], kb_j G o 1 (fun _ => 0)]) ⟨hx, hb, hml, hown, ht⟩ (c_L_property l hst G x (ux.1 0) (ux.1 2) (ux.1 4) (ux.1 5) (ux.1 30) (ux.1 1) (xs 1) o) wd_cf6362a0 wd_e4ece85a wd_66d3794d wd_2b63c693 hd_b11d2f41 ⟨(Nat.le_of_ble_eq_true rfl), (Nat.le_of_ble_eq_true rfl)⟩ hE hP hD hS [0, 1, 5] rfl (by decide) hl.1 rfl (Nat.le_of_ble_eq_true rfl) d_L_law_331 ⟨(Nat.le_of_ble_eq_true rfl), (Nat.le_of_ble_eq_true rfl)⟩) (fun rv2 uu1 H locs hw hP hD hS => ?_)
  have hP : va_P G.1 kb_cl [kb_o y 4 [.int 0, .ref (um.1 0), .int 0, .ref (um.1 1), .int 0, .ref (um.1 2), .ref (um.1 3), .ref (um.1 4), .ref (um.1 5), .ref (um.1 6), .ref (um.1 7), .ref (um.1 8), .ref (um.1 9), .ref (um.1 10), .ref (um.1 11), .ref (um.1 12), .int 0, .int 0, .int 0, .int 0, .int 0], kb_a G (um.1 3) 2 (upd (fun _ => 0) 0 0), kb_a G (um.1 4) 2 (upd (fun _ => 0) 0 0), kb_j G o 1 (fun _ => 0)] H := hP
  have hD : va_D A [kb_o y 4 [.int 0, .ref (um.1 0), .int 0, .ref (um.1 1), .int 0, .ref (um.1 2), .ref (um.1 3), .ref (um.1 4), .ref (um.1 5), .ref (um.1 6), .ref (um.1 7), .ref (um.1 8), .ref (um.1 9), .ref (um.1 10), .ref (um.1 11), .ref (um.1 12), .int 0, .int 0, .int 0, .int 0, .int 0], kb_a G (um.1 3) 2 (upd (fun _ => 0) 0 0), kb_a G (um.1 4) 2 (upd (fun _ => 0) 0 0), kb_j G o 1 (fun _ => 0)] := hD
  refine kb_top (y := 1) (show rv2 = 1 from hw) ?_
  refine lv_istore (lv' := [(5, .int 1), (4, .int 0), (3, .ref o), (2, .ref y), (1, .ref x), (0, .ref b)]) hx hb d_L_law_334 hl (by decide) rfl (fun ls hl => ?_)
  refine lv_aload_n hx hb d_L_law_336 rfl (lv_at hl 3 rfl) ?_
  refine lv_aload_n hx hb d_L_law_337 rfl (lv_at hl 5 rfl) ?_
  refine lv_iload hx hb d_L_law_338 (lv_at hl 1 rfl) ?_
  refine lv_iconst (v := 1) hx hb d_L_law_340 (by decide) ?_
  refine lv_iadd hx hb d_L_law_341 ?_
  refine kb_top (y := 1) (by decide) ?_
  refine va_sld hx hb hX hbl hbA hS (show ¬ ((1 : Int32) < 0 ∨ 6 ≤ (1 : Int32).toNatClampNeg) by decide) d_L_law_342 ?_
  refine kb_top (y := xs 1) rfl ?_
  refine kb_i (wc := [kb_o y 4 [.int 0, .ref (um.1 0), .int 0, .ref (um.1 1), .int 0, .ref (um.1 2), .ref (um.1 3), .ref (um.1 4), .ref (um.1 5), .ref (um.1 6), .ref (um.1 7), .ref (um.1 8), .ref (um.1 9), .ref (um.1 10), .ref (um.1 11), .ref (um.1 12), .int 0, .int 0, .int 0, .int 0, .int 0], kb_a G (um.1 3) 2 (upd (fun _ => 0) 0 0), kb_a G (um.1 4) 2 (upd (fun _ => 0) 0 0)]) (wr := [kb_j G o 1 (fun _ => 0)]) hE hP hD hS [0, 1, 2] [3] rfl rfl (by decide) (by decide) (kb_rV (As := [.int (xs 1)]) (rest := []) (wc := [kb_o y 4 [.int 0, .ref (um.1 0), .int 0, .ref (um.1 1), .int 0, .ref (um.1 2), .ref (um.1 3), .ref (um.1 4), .ref (um.1 5), .ref (um.1 6), .ref (um.1 7), .ref (um.1 8), .ref (um.1 9), .ref (um.1 10), .ref (um.1 11), .ref (um.1 12), .int 0, .int 0, .int 0, .int 0, .int 0], kb_a G (um.1 3) 2 (upd (fun _ => 0) 0 0), kb_a G (um.1 4) 2 (upd (fun _ => 0) 0 0)]) (q0 := 0) ⟨hx, hb, hml, hown, ht⟩ ((c_M_property l G y 0 (um.1 0) (um.1 1) (um.1 2) (um.1 3) (um.1 4) (um.1 5) (um.1 6) (um.1 7) (um.1 8) (um.1 9) (um.1 10) (um.1 11) (um.1 12) (xs 1)) _) (kb_gV wd_939332a7 wd_4b15fc80 wd_9969d772 wd_38099713 wd_cdf7aa9a) ⟨rfl, hd_809f5210⟩ ⟨(Nat.le_of_ble_eq_true rfl), (Nat.le_of_ble_eq_true rfl)⟩ hE hP hD hS [0, 1, 2] rfl (by decide) rfl rfl rfl hl.1 rfl (Nat.le_of_ble_eq_true rfl) d_L_law_343 ⟨(Nat.le_of_ble_eq_true rfl), (Nat.le_of_ble_eq_true rfl)⟩) (fun rv4 uu3 H locs hw hP hD hS => ?_)
  have hP : va_P G.1 kb_cl [kb_j G o 1 (fun _ => 0), kb_o y 4 [.int 1, .ref (um.1 0), .int 0, .ref (um.1 1), .int 0, .ref (um.1 2), .ref (um.1 3), .ref (um.1 4), .ref (um.1 5), .ref (um.1 6), .ref (um.1 7), .ref (um.1 8), .ref (um.1 9), .ref (um.1 10), .ref (um.1 11), .ref (um.1 12), .int 0, .int 0, .int 0, .int 0, .int 0]] H := hP
  have hD : va_D A [kb_j G o 1 (fun _ => 0), kb_o y 4 [.int 1, .ref (um.1 0), .int 0, .ref (um.1 1), .int 0, .ref (um.1 2), .ref (um.1 3), .ref (um.1 4), .ref (um.1 5), .ref (um.1 6), .ref (um.1 7), .ref (um.1 8), .ref (um.1 9), .ref (um.1 10), .ref (um.1 11), .ref (um.1 12), .int 0, .int 0, .int 0, .int 0, .int 0]] := hD
  refine kb_top (y := 0) (show rv4 = 0 from hw) ?_
  refine lv_istore (lv' := [(6, .int 0), (5, .int 1), (4, .int 0), (3, .ref o), (2, .ref y), (1, .ref x), (0, .ref b)]) hx hb d_L_law_346 hl (by decide) rfl (fun ls hl => ?_)
  refine lv_aload_n hx hb d_L_law_348 rfl (lv_at hl 4 rfl) ?_
  refine kb_i (wc := [kb_o y 4 [.int 1, .ref (um.1 0), .int 0, .ref (um.1 1), .int 0, .ref (um.1 2), .ref (um.1 3), .ref (um.1 4), .ref (um.1 5), .ref (um.1 6), .ref (um.1 7), .ref (um.1 8), .ref (um.1 9), .ref (um.1 10), .ref (um.1 11), .ref (um.1 12), .int 0, .int 0, .int 0, .int 0, .int 0]]) (wr := [kb_j G o 1 (fun _ => 0)]) hE hP hD hS [1] [0] rfl rfl (by decide) (by decide) (kb_rV (As := []) (rest := []) (wc := [kb_o y 4 [.int 1, .ref (um.1 0), .int 0, .ref (um.1 1), .int 0, .ref (um.1 2), .ref (um.1 3), .ref (um.1 4), .ref (um.1 5), .ref (um.1 6), .ref (um.1 7), .ref (um.1 8), .ref (um.1 9), .ref (um.1 10), .ref (um.1 11), .ref (um.1 12), .int 0, .int 0, .int 0, .int 0, .int 0]]) (q0 := 0) ⟨hx, hb, hml, hown, ht⟩ ((c_M_thrown l G y 1 (um.1 0) (um.1 1) (um.1 2) (um.1 3) (um.1 4) (um.1 5) (um.1 6) (um.1 7) (um.1 8) (um.1 9) (um.1 10) (um.1 11) (um.1 12) 0 0 0 0) _) (kb_gV wd_1946a056 wd_e9c50365 wd_a707e5a8 wd_38099713 wd_79f18ba3) ⟨rfl, hd_2a236ec3⟩ ⟨(Nat.le_of_ble_eq_true rfl), (Nat.le_of_ble_eq_true rfl)⟩ hE hP hD hS [1] rfl (by decide) rfl rfl rfl hl.1 rfl (Nat.le_of_ble_eq_true rfl) d_L_law_349 ⟨(Nat.le_of_ble_eq_true rfl), (Nat.le_of_ble_eq_true rfl)⟩) (fun rv6 uu5 H locs hw hP hD hS => ?_)
  have hP : va_P G.1 kb_cl [kb_j G o 1 (fun _ => 0), kb_o y 4 [.int 1, .ref (um.1 0), .int 0, .ref (um.1 1), .int 0, .ref (um.1 2), .ref (um.1 3), .ref (um.1 4), .ref (um.1 5), .ref (um.1 6), .ref (um.1 7), .ref (um.1 8), .ref (um.1 9), .ref (um.1 10), .ref (um.1 11), .ref (um.1 12), .int 0, .int 0, .int 0, .int 0, .int 0]] H := hP
  have hD : va_D A [kb_j G o 1 (fun _ => 0), kb_o y 4 [.int 1, .ref (um.1 0), .int 0, .ref (um.1 1), .int 0, .ref (um.1 2), .ref (um.1 3), .ref (um.1 4), .ref (um.1 5), .ref (um.1 6), .ref (um.1 7), .ref (um.1 8), .ref (um.1 9), .ref (um.1 10), .ref (um.1 11), .ref (um.1 12), .int 0, .int 0, .int 0, .int 0, .int 0]] := hD
  refine kb_top (y := 1) (show rv6 = 1 from hw) ?_
  refine lv_iload hx hb d_L_law_352 (lv_at hl 1 rfl) ?_
  refine lv_icmp_eq (tgt := 359) hx hb d_L_law_354 (by decide) (fun c9 => ?_) (fun c9 => absurd (by decide) c9)
  refine lv_iload hx hb d_L_law_359 (lv_at hl 1 rfl) ?_
  refine lv_if_ne (tgt := 376) hx hb d_L_law_361 (by decide) (fun c9 => ?_) (fun c9 => absurd c9 (by decide))
  refine lv_goto (tgt := 940) hx hb d_L_law_376 (by decide) ?_
  refine lv_iinc (v := 6) (lv' := [(4, .int 6), (6, .int 0), (5, .int 1), (3, .ref o), (2, .ref y), (1, .ref x), (0, .ref b)]) hx hb d_L_law_940 hl (k := 2) rfl (by decide) (by decide) rfl (fun ls hl => ?_)
  refine lv_goto (tgt := 23) hx hb d_L_law_943 (by decide) ?_
  refine lv_iload hx hb d_L_law_23 (lv_at hl 0 rfl) ?_
  refine lv_aload_n hx hb d_L_law_25 rfl (lv_at hl 6 rfl) ?_
  refine va_slen hx hb hX hbl hbA hS d_L_law_26 ?_
  refine kb_top (y := 6) (by decide) ?_
  refine lv_bipush (v := 6) hx hb d_L_law_27 (by decide) ?_
  refine lv_isub hx hb d_L_law_29 ?_
  refine kb_top (y := 0) (by decide) ?_
  refine lv_icmp_gt (tgt := 946) hx hb d_L_law_30 (by decide) (fun c9 => ?_) (fun c9 => absurd (by decide) c9)
  refine lv_iconst (v := 1) hx hb d_L_law_946 (by decide) ?_
  refine va_forget (fun q hq => hAq _ (hS.2.2 q hq)) ?_
  refine W.widen (k := 600002) (n := 7302232) (Nat.le_of_ble_eq_true rfl) (Nat.le_of_ble_eq_true rfl) ?_
  exact lw_ret hx hb hr hlocks d_L_law_947

set_option maxHeartbeats 4000000 in
set_option maxRecDepth 100000 in
theorem lc_close {p : Program} {l : Launch} {e : Env} {s : State} {m : MethodId} {below : List Frame} {meth : Method} {c : Code} (hst : l.stackTraces = false) {G : kb_G} {A : Nat → Prop} {b : Nat} {xs : Nat → Int32} (C0 : lw_At p s m meth c b 6 xs) (hE : kb_E G A s) (hbA : ¬ A b) (hAq : ∀ q, A q → s.heap.size ≤ q) (x y o : Nat) (ux um : kb_S) {H : Heap} {locs : List Loc} (hP : va_P G.1 kb_cl (lc_w0 G x y o ux um) H) (hD : va_D A (lc_w0 G x y o ux um)) (hS : va_S A s.heap H locs) {ls : Array Slot} (hl : lv_has ls 7 [(4, .int 0), (3, .ref o), (2, .ref y), (1, .ref x), (0, .ref b)]) (hk : xs 0 &&& 31 = 5) : W p l e room_1 s m #[Value.ref b] below meth c H locs 71 169237 (lw_Z below #[Value.ref b] s) (F0 m 23 ls []) := by
  obtain ⟨hx, hb, hr, hml, hown, hts, hX, hbl, hlocks, hgv⟩ := C0
  have hown : s.vm.findClass "TreePressLaw" = some m.cls := hown
  have ht : ∀ w ∈ kb_T, w.before #[Value.ref b] s = true := fun w h => hts w (List.mem_filter.mp h).1
  have hP : va_P G.1 kb_cl [kb_o x 3 [.ref (ux.1 0), .ref (ux.1 2), .ref (ux.1 4), .ref (ux.1 5), .ref (ux.1 30)], kb_o (ux.1 5) 2 [.ref (ux.1 29), .ref (ux.1 16), .ref (ux.1 18), .ref (ux.1 20), .ref (ux.1 22), .ref (ux.1 25), .ref (ux.1 27), .ref (ux.1 24), .ref (ux.1 12), .ref (ux.1 13), .ref (ux.1 14), .ref (ux.1 15), .int 0, .int 0], kb_o y 4 [.int 0, .ref (um.1 0), .int 0, .ref (um.1 1), .int 0, .ref (um.1 2), .ref (um.1 3), .ref (um.1 4), .ref (um.1 5), .ref (um.1 6), .ref (um.1 7), .ref (um.1 8), .ref (um.1 9), .ref (um.1 10), .ref (um.1 11), .ref (um.1 12), .int 0, .int 0, .int 0, .int 0, .int 0], kb_j G o 1 (fun _ => 0)] H := hP.sub [0, 24, 63, 70] rfl
  have hD : va_D A [kb_o x 3 [.ref (ux.1 0), .ref (ux.1 2), .ref (ux.1 4), .ref (ux.1 5), .ref (ux.1 30)], kb_o (ux.1 5) 2 [.ref (ux.1 29), .ref (ux.1 16), .ref (ux.1 18), .ref (ux.1 20), .ref (ux.1 22), .ref (ux.1 25), .ref (ux.1 27), .ref (ux.1 24), .ref (ux.1 12), .ref (ux.1 13), .ref (ux.1 14), .ref (ux.1 15), .int 0, .int 0], kb_o y 4 [.int 0, .ref (um.1 0), .int 0, .ref (um.1 1), .int 0, .ref (um.1 2), .ref (um.1 3), .ref (um.1 4), .ref (um.1 5), .ref (um.1 6), .ref (um.1 7), .ref (um.1 8), .ref (um.1 9), .ref (um.1 10), .ref (um.1 11), .ref (um.1 12), .int 0, .int 0, .int 0, .int 0, .int 0], kb_j G o 1 (fun _ => 0)] := hD.sub [0, 24, 63, 70] (by decide) rfl
  refine lv_iload hx hb d_L_law_23 (lv_at hl 0 rfl) ?_
  refine lv_aload_n hx hb d_L_law_25 rfl (lv_at hl 4 rfl) ?_
  refine va_slen hx hb hX hbl hbA hS d_L_law_26 ?_
  refine kb_top (y := 6) (by decide) ?_
  refine lv_bipush (v := 6) hx hb d_L_law_27 (by decide) ?_
  refine lv_isub hx hb d_L_law_29 ?_
  refine kb_top (y := 0) (by decide) ?_
  refine lv_icmp_gt (tgt := 946) hx hb d_L_law_30 (by decide) (fun c9 => absurd c9 (by decide)) (fun c9 => ?_)
  refine lv_aload_n hx hb d_L_law_33 rfl (lv_at hl 4 rfl) ?_
  refine lv_iload hx hb d_L_law_34 (lv_at hl 0 rfl) ?_
  refine va_sld hx hb hX hbl hbA hS (show ¬ ((0 : Int32) < 0 ∨ 6 ≤ (0 : Int32).toNatClampNeg) by decide) d_L_law_36 ?_
  refine kb_top (y := xs 0) rfl ?_
  refine lv_bipush (v := 31) hx hb d_L_law_37 (by decide) ?_
  refine lv_iand hx hb d_L_law_39 ?_
  refine kb_top (y := 5) (hk) ?_
  refine lv_tableIn (tgt := 379) (off := 339) hx hb d_L_law_40 (by decide) (by decide) (by decide) (by decide) ?_
  refine lv_aload_n hx hb d_L_law_379 rfl (lv_at hl 3 rfl) ?_
  refine lv_aload_n hx hb d_L_law_380 rfl (lv_at hl 1 rfl) ?_
  refine kb_i (wc := [kb_o x 3 [.ref (ux.1 0), .ref (ux.1 2), .ref (ux.1 4), .ref (ux.1 5), .ref (ux.1 30)], kb_o (ux.1 5) 2 [.ref (ux.1 29), .ref (ux.1 16), .ref (ux.1 18), .ref (ux.1 20), .ref (ux.1 22), .ref (ux.1 25), .ref (ux.1 27), .ref (ux.1 24), .ref (ux.1 12), .ref (ux.1 13), .ref (ux.1 14), .ref (ux.1 15), .int 0, .int 0], kb_j G o 1 (fun _ => 0)]) (wr := [kb_o y 4 [.int 0, .ref (um.1 0), .int 0, .ref (um.1 1), .int 0, .ref (um.1 2), .ref (um.1 3), .ref (um.1 4), .ref (um.1 5), .ref (um.1 6), .ref (um.1 7), .ref (um.1 8), .ref (um.1 9), .ref (um.1 10), .ref (um.1 11), .ref (um.1 12), .int 0, .int 0, .int 0, .int 0, .int 0]]) hE hP hD hS [0, 1, 3] [2] rfl rfl (by decide) (by decide) (kb_rH (As := [.ref x, .ref o]) (rest := []) (wc := [kb_o x 3 [.ref (ux.1 0), .ref (ux.1 2), .ref (ux.1 4), .ref (ux.1 5), .ref (ux.1 30)], kb_o (ux.1 5) 2 [.ref (ux.1 29), .ref (ux.1 16), .ref (ux.1 18), .ref (ux.1 20), .ref (ux.1 22), .ref (ux.1 25), .ref (ux.1 27), .ref (ux.1 24), .ref (ux.1 12), .ref (ux.1 13), .ref (ux.1 14), .ref (ux.1 15), .int 0, .int 0], kb_j G o 1 (fun _ => 0)]) ⟨hx, hb, hml, hown, ht⟩ (c_L_close l hst G x (ux.1 0) (ux.1 2) (ux.1 4) (ux.1 5) (ux.1 30) (ux.1 29) (ux.1 16) (ux.1 18) (ux.1 20) (ux.1 22) (ux.1 25) (ux.1 27) (ux.1 24) (ux.1 12) (ux.1 13) (ux.1 14) (ux.1 15) 0 o) wd_34830460 wd_e4ece85a wd_06ba80b6 wd_b2706fb8 hd_4db4e41c ⟨(Nat.le_of_ble_eq_true rfl), (Nat.le_of_ble_eq_true rfl)⟩ hE hP hD hS [0, 1, 3] rfl (by decide) hl.1 rfl (Nat.le_of_ble_eq_true rfl) d_L_law_381 ⟨(Nat.le_of_ble_eq_true rfl), (Nat.le_of_ble_eq_true rfl)⟩) (fun rv2 uu1 H locs hw hP hD hS => ?_)
  have hP : va_P G.1 kb_cl [kb_o y 4 [.int 0, .ref (um.1 0), .int 0, .ref (um.1 1), .int 0, .ref (um.1 2), .ref (um.1 3), .ref (um.1 4), .ref (um.1 5), .ref (um.1 6), .ref (um.1 7), .ref (um.1 8), .ref (um.1 9), .ref (um.1 10), .ref (um.1 11), .ref (um.1 12), .int 0, .int 0, .int 0, .int 0, .int 0], kb_j G o 1 (fun _ => 0)] H := hP
  have hD : va_D A [kb_o y 4 [.int 0, .ref (um.1 0), .int 0, .ref (um.1 1), .int 0, .ref (um.1 2), .ref (um.1 3), .ref (um.1 4), .ref (um.1 5), .ref (um.1 6), .ref (um.1 7), .ref (um.1 8), .ref (um.1 9), .ref (um.1 10), .ref (um.1 11), .ref (um.1 12), .int 0, .int 0, .int 0, .int 0, .int 0], kb_j G o 1 (fun _ => 0)] := hD
  refine kb_top (y := 1) (show rv2 = 1 from hw) ?_
  refine lv_istore (lv' := [(5, .int 1), (4, .int 0), (3, .ref o), (2, .ref y), (1, .ref x), (0, .ref b)]) hx hb d_L_law_384 hl (by decide) rfl (fun ls hl => ?_)
  refine lv_aload_n hx hb d_L_law_386 rfl (lv_at hl 3 rfl) ?_
  refine kb_i (wc := [kb_o y 4 [.int 0, .ref (um.1 0), .int 0, .ref (um.1 1), .int 0, .ref (um.1 2), .ref (um.1 3), .ref (um.1 4), .ref (um.1 5), .ref (um.1 6), .ref (um.1 7), .ref (um.1 8), .ref (um.1 9), .ref (um.1 10), .ref (um.1 11), .ref (um.1 12), .int 0, .int 0, .int 0, .int 0, .int 0]]) (wr := [kb_j G o 1 (fun _ => 0)]) hE hP hD hS [0] [1] rfl rfl (by decide) (by decide) (kb_rV (As := []) (rest := []) (wc := [kb_o y 4 [.int 0, .ref (um.1 0), .int 0, .ref (um.1 1), .int 0, .ref (um.1 2), .ref (um.1 3), .ref (um.1 4), .ref (um.1 5), .ref (um.1 6), .ref (um.1 7), .ref (um.1 8), .ref (um.1 9), .ref (um.1 10), .ref (um.1 11), .ref (um.1 12), .int 0, .int 0, .int 0, .int 0, .int 0]]) (q0 := 0) ⟨hx, hb, hml, hown, ht⟩ ((c_M_close l G y 0 (um.1 0) (um.1 1) (um.1 2) (um.1 3) (um.1 4) (um.1 5) (um.1 6) (um.1 7) (um.1 8) (um.1 9) (um.1 10) (um.1 11) (um.1 12)) _) (kb_gV wd_1232fd34 wd_4834e6c3 wd_1a995207 wd_38099713 wd_91b61722) ⟨rfl, hd_185ad284⟩ ⟨(Nat.le_of_ble_eq_true rfl), (Nat.le_of_ble_eq_true rfl)⟩ hE hP hD hS [0] rfl (by decide) rfl rfl rfl hl.1 rfl (Nat.le_of_ble_eq_true rfl) d_L_law_387 ⟨(Nat.le_of_ble_eq_true rfl), (Nat.le_of_ble_eq_true rfl)⟩) (fun rv4 uu3 H locs hw hP hD hS => ?_)
  have hP : va_P G.1 kb_cl [kb_j G o 1 (fun _ => 0), kb_o y 4 [.int 1, .ref (um.1 0), .int 0, .ref (um.1 1), .int 0, .ref (um.1 2), .ref (um.1 3), .ref (um.1 4), .ref (um.1 5), .ref (um.1 6), .ref (um.1 7), .ref (um.1 8), .ref (um.1 9), .ref (um.1 10), .ref (um.1 11), .ref (um.1 12), .int 0, .int 0, .int 0, .int 0, .int 0]] H := hP
  have hD : va_D A [kb_j G o 1 (fun _ => 0), kb_o y 4 [.int 1, .ref (um.1 0), .int 0, .ref (um.1 1), .int 0, .ref (um.1 2), .ref (um.1 3), .ref (um.1 4), .ref (um.1 5), .ref (um.1 6), .ref (um.1 7), .ref (um.1 8), .ref (um.1 9), .ref (um.1 10), .ref (um.1 11), .ref (um.1 12), .int 0, .int 0, .int 0, .int 0, .int 0]] := hD
  refine kb_top (y := 0) (show rv4 = 0 from hw) ?_
  refine lv_istore (lv' := [(6, .int 0), (5, .int 1), (4, .int 0), (3, .ref o), (2, .ref y), (1, .ref x), (0, .ref b)]) hx hb d_L_law_390 hl (by decide) rfl (fun ls hl => ?_)
  refine lv_aload_n hx hb d_L_law_392 rfl (lv_at hl 4 rfl) ?_
  refine kb_i (wc := [kb_o y 4 [.int 1, .ref (um.1 0), .int 0, .ref (um.1 1), .int 0, .ref (um.1 2), .ref (um.1 3), .ref (um.1 4), .ref (um.1 5), .ref (um.1 6), .ref (um.1 7), .ref (um.1 8), .ref (um.1 9), .ref (um.1 10), .ref (um.1 11), .ref (um.1 12), .int 0, .int 0, .int 0, .int 0, .int 0]]) (wr := [kb_j G o 1 (fun _ => 0)]) hE hP hD hS [1] [0] rfl rfl (by decide) (by decide) (kb_rV (As := []) (rest := []) (wc := [kb_o y 4 [.int 1, .ref (um.1 0), .int 0, .ref (um.1 1), .int 0, .ref (um.1 2), .ref (um.1 3), .ref (um.1 4), .ref (um.1 5), .ref (um.1 6), .ref (um.1 7), .ref (um.1 8), .ref (um.1 9), .ref (um.1 10), .ref (um.1 11), .ref (um.1 12), .int 0, .int 0, .int 0, .int 0, .int 0]]) (q0 := 0) ⟨hx, hb, hml, hown, ht⟩ ((c_M_thrown l G y 1 (um.1 0) (um.1 1) (um.1 2) (um.1 3) (um.1 4) (um.1 5) (um.1 6) (um.1 7) (um.1 8) (um.1 9) (um.1 10) (um.1 11) (um.1 12) 0 0 0 0) _) (kb_gV wd_1946a056 wd_e9c50365 wd_a707e5a8 wd_38099713 wd_79f18ba3) ⟨rfl, hd_2a236ec3⟩ ⟨(Nat.le_of_ble_eq_true rfl), (Nat.le_of_ble_eq_true rfl)⟩ hE hP hD hS [1] rfl (by decide) rfl rfl rfl hl.1 rfl (Nat.le_of_ble_eq_true rfl) d_L_law_393 ⟨(Nat.le_of_ble_eq_true rfl), (Nat.le_of_ble_eq_true rfl)⟩) (fun rv6 uu5 H locs hw hP hD hS => ?_)
  have hP : va_P G.1 kb_cl [kb_j G o 1 (fun _ => 0), kb_o y 4 [.int 1, .ref (um.1 0), .int 0, .ref (um.1 1), .int 0, .ref (um.1 2), .ref (um.1 3), .ref (um.1 4), .ref (um.1 5), .ref (um.1 6), .ref (um.1 7), .ref (um.1 8), .ref (um.1 9), .ref (um.1 10), .ref (um.1 11), .ref (um.1 12), .int 0, .int 0, .int 0, .int 0, .int 0]] H := hP
  have hD : va_D A [kb_j G o 1 (fun _ => 0), kb_o y 4 [.int 1, .ref (um.1 0), .int 0, .ref (um.1 1), .int 0, .ref (um.1 2), .ref (um.1 3), .ref (um.1 4), .ref (um.1 5), .ref (um.1 6), .ref (um.1 7), .ref (um.1 8), .ref (um.1 9), .ref (um.1 10), .ref (um.1 11), .ref (um.1 12), .int 0, .int 0, .int 0, .int 0, .int 0]] := hD
  refine kb_top (y := 1) (show rv6 = 1 from hw) ?_
  refine lv_iload hx hb d_L_law_396 (lv_at hl 1 rfl) ?_
  refine lv_icmp_eq (tgt := 403) hx hb d_L_law_398 (by decide) (fun c9 => ?_) (fun c9 => absurd (by decide) c9)
  refine lv_iload hx hb d_L_law_403 (lv_at hl 1 rfl) ?_
  refine lv_if_ne (tgt := 420) hx hb d_L_law_405 (by decide) (fun c9 => ?_) (fun c9 => absurd c9 (by decide))
  refine lv_goto (tgt := 940) hx hb d_L_law_420 (by decide) ?_
  refine lv_iinc (v := 6) (lv' := [(4, .int 6), (6, .int 0), (5, .int 1), (3, .ref o), (2, .ref y), (1, .ref x), (0, .ref b)]) hx hb d_L_law_940 hl (k := 2) rfl (by decide) (by decide) rfl (fun ls hl => ?_)
  refine lv_goto (tgt := 23) hx hb d_L_law_943 (by decide) ?_
  refine lv_iload hx hb d_L_law_23 (lv_at hl 0 rfl) ?_
  refine lv_aload_n hx hb d_L_law_25 rfl (lv_at hl 6 rfl) ?_
  refine va_slen hx hb hX hbl hbA hS d_L_law_26 ?_
  refine kb_top (y := 6) (by decide) ?_
  refine lv_bipush (v := 6) hx hb d_L_law_27 (by decide) ?_
  refine lv_isub hx hb d_L_law_29 ?_
  refine kb_top (y := 0) (by decide) ?_
  refine lv_icmp_gt (tgt := 946) hx hb d_L_law_30 (by decide) (fun c9 => ?_) (fun c9 => absurd (by decide) c9)
  refine lv_iconst (v := 1) hx hb d_L_law_946 (by decide) ?_
  refine va_forget (fun q hq => hAq _ (hS.2.2 q hq)) ?_
  refine W.widen (k := 600002) (n := 7302232) (Nat.le_of_ble_eq_true rfl) (Nat.le_of_ble_eq_true rfl) ?_
  exact lw_ret hx hb hr hlocks d_L_law_947

set_option maxHeartbeats 4000000 in
set_option maxRecDepth 100000 in
theorem lc_lay {p : Program} {l : Launch} {e : Env} {s : State} {m : MethodId} {below : List Frame} {meth : Method} {c : Code} (hst : l.stackTraces = false) {G : kb_G} {A : Nat → Prop} {b : Nat} {xs : Nat → Int32} (C0 : lw_At p s m meth c b 6 xs) (hE : kb_E G A s) (hbA : ¬ A b) (hAq : ∀ q, A q → s.heap.size ≤ q) (x y o : Nat) (ux um : kb_S) {H : Heap} {locs : List Loc} (hP : va_P G.1 kb_cl (lc_w0 G x y o ux um) H) (hD : va_D A (lc_w0 G x y o ux um)) (hS : va_S A s.heap H locs) {ls : Array Slot} (hl : lv_has ls 7 [(4, .int 0), (3, .ref o), (2, .ref y), (1, .ref x), (0, .ref b)]) (hk : xs 0 &&& 31 = 6) : W p l e room_1 s m #[Value.ref b] below meth c H locs 71 169237 (lw_Z below #[Value.ref b] s) (F0 m 23 ls []) := by
  obtain ⟨hx, hb, hr, hml, hown, hts, hX, hbl, hlocks, hgv⟩ := C0
  have hown : s.vm.findClass "TreePressLaw" = some m.cls := hown
  have ht : ∀ w ∈ kb_T, w.before #[Value.ref b] s = true := fun w h => hts w (List.mem_filter.mp h).1
  have hP : va_P G.1 kb_cl [kb_o x 3 [.ref (ux.1 0), .ref (ux.1 2), .ref (ux.1 4), .ref (ux.1 5), .ref (ux.1 30)], kb_o (ux.1 2) 1 [.ref (ux.1 3), .int 0], kb_a G (ux.1 3) 16 (fun _ => 0), kb_o (ux.1 16) 1 [.ref (ux.1 17), .int 1], kb_o (ux.1 18) 1 [.ref (ux.1 19), .int 1], kb_a G (ux.1 19) 16 (upd (fun _ => 0) 0 1), kb_o (ux.1 20) 1 [.ref (ux.1 21), .int 1], kb_a G (ux.1 21) 16 (upd (fun _ => 0) 0 0), kb_o (ux.1 22) 1 [.ref (ux.1 23), .int 1], kb_a G (ux.1 23) 16 (upd (fun _ => 0) 0 0), kb_o (ux.1 5) 2 [.ref (ux.1 29), .ref (ux.1 16), .ref (ux.1 18), .ref (ux.1 20), .ref (ux.1 22), .ref (ux.1 25), .ref (ux.1 27), .ref (ux.1 24), .ref (ux.1 12), .ref (ux.1 13), .ref (ux.1 14), .ref (ux.1 15), .int 0, .int 0], kb_o (ux.1 24) 1 [.ref (ux.1 7), .int 0], kb_o (ux.1 25) 1 [.ref (ux.1 26), .int 1], kb_a G (ux.1 26) 16 (upd (fun _ => 0) 0 0), kb_o (ux.1 27) 1 [.ref (ux.1 28), .int 1], kb_a G (ux.1 28) 16 (upd (fun _ => 0) 0 0), kb_a G (um.1 1) 65536 (fun _ => 0), kb_o y 4 [.int 0, .ref (um.1 0), .int 0, .ref (um.1 1), .int 0, .ref (um.1 2), .ref (um.1 3), .ref (um.1 4), .ref (um.1 5), .ref (um.1 6), .ref (um.1 7), .ref (um.1 8), .ref (um.1 9), .ref (um.1 10), .ref (um.1 11), .ref (um.1 12), .int 0, .int 0, .int 0, .int 0, .int 0], kb_a G (um.1 2) 2 (upd (fun _ => 0) 0 1), kb_a G (um.1 3) 2 (upd (fun _ => 0) 0 0), kb_a G (um.1 5) 256 (upd (fun _ => 0) 0 (-1)), kb_a G (um.1 6) 256 (upd (fun _ => 0) 0 0), kb_a G (um.1 7) 256 (upd (fun _ => 0) 0 0)] H := hP.sub [0, 3, 4, 16, 18, 19, 20, 21, 22, 23, 24, 25, 26, 27, 28, 29, 57, 63, 64, 65, 67, 68, 69] rfl
  have hD : va_D A [kb_o x 3 [.ref (ux.1 0), .ref (ux.1 2), .ref (ux.1 4), .ref (ux.1 5), .ref (ux.1 30)], kb_o (ux.1 2) 1 [.ref (ux.1 3), .int 0], kb_a G (ux.1 3) 16 (fun _ => 0), kb_o (ux.1 16) 1 [.ref (ux.1 17), .int 1], kb_o (ux.1 18) 1 [.ref (ux.1 19), .int 1], kb_a G (ux.1 19) 16 (upd (fun _ => 0) 0 1), kb_o (ux.1 20) 1 [.ref (ux.1 21), .int 1], kb_a G (ux.1 21) 16 (upd (fun _ => 0) 0 0), kb_o (ux.1 22) 1 [.ref (ux.1 23), .int 1], kb_a G (ux.1 23) 16 (upd (fun _ => 0) 0 0), kb_o (ux.1 5) 2 [.ref (ux.1 29), .ref (ux.1 16), .ref (ux.1 18), .ref (ux.1 20), .ref (ux.1 22), .ref (ux.1 25), .ref (ux.1 27), .ref (ux.1 24), .ref (ux.1 12), .ref (ux.1 13), .ref (ux.1 14), .ref (ux.1 15), .int 0, .int 0], kb_o (ux.1 24) 1 [.ref (ux.1 7), .int 0], kb_o (ux.1 25) 1 [.ref (ux.1 26), .int 1], kb_a G (ux.1 26) 16 (upd (fun _ => 0) 0 0), kb_o (ux.1 27) 1 [.ref (ux.1 28), .int 1], kb_a G (ux.1 28) 16 (upd (fun _ => 0) 0 0), kb_a G (um.1 1) 65536 (fun _ => 0), kb_o y 4 [.int 0, .ref (um.1 0), .int 0, .ref (um.1 1), .int 0, .ref (um.1 2), .ref (um.1 3), .ref (um.1 4), .ref (um.1 5), .ref (um.1 6), .ref (um.1 7), .ref (um.1 8), .ref (um.1 9), .ref (um.1 10), .ref (um.1 11), .ref (um.1 12), .int 0, .int 0, .int 0, .int 0, .int 0], kb_a G (um.1 2) 2 (upd (fun _ => 0) 0 1), kb_a G (um.1 3) 2 (upd (fun _ => 0) 0 0), kb_a G (um.1 5) 256 (upd (fun _ => 0) 0 (-1)), kb_a G (um.1 6) 256 (upd (fun _ => 0) 0 0), kb_a G (um.1 7) 256 (upd (fun _ => 0) 0 0)] := hD.sub [0, 3, 4, 16, 18, 19, 20, 21, 22, 23, 24, 25, 26, 27, 28, 29, 57, 63, 64, 65, 67, 68, 69] (by decide) rfl
  refine lv_iload hx hb d_L_law_23 (lv_at hl 0 rfl) ?_
  refine lv_aload_n hx hb d_L_law_25 rfl (lv_at hl 4 rfl) ?_
  refine va_slen hx hb hX hbl hbA hS d_L_law_26 ?_
  refine kb_top (y := 6) (by decide) ?_
  refine lv_bipush (v := 6) hx hb d_L_law_27 (by decide) ?_
  refine lv_isub hx hb d_L_law_29 ?_
  refine kb_top (y := 0) (by decide) ?_
  refine lv_icmp_gt (tgt := 946) hx hb d_L_law_30 (by decide) (fun c9 => absurd c9 (by decide)) (fun c9 => ?_)
  refine lv_aload_n hx hb d_L_law_33 rfl (lv_at hl 4 rfl) ?_
  refine lv_iload hx hb d_L_law_34 (lv_at hl 0 rfl) ?_
  refine va_sld hx hb hX hbl hbA hS (show ¬ ((0 : Int32) < 0 ∨ 6 ≤ (0 : Int32).toNatClampNeg) by decide) d_L_law_36 ?_
  refine kb_top (y := xs 0) rfl ?_
  refine lv_bipush (v := 31) hx hb d_L_law_37 (by decide) ?_
  refine lv_iand hx hb d_L_law_39 ?_
  refine kb_top (y := 6) (hk) ?_
  refine lv_tableIn (tgt := 423) (off := 383) hx hb d_L_law_40 (by decide) (by decide) (by decide) (by decide) ?_
  refine lv_aload_n hx hb d_L_law_423 rfl (lv_at hl 3 rfl) ?_
  refine kb_i (wc := [kb_o x 3 [.ref (ux.1 0), .ref (ux.1 2), .ref (ux.1 4), .ref (ux.1 5), .ref (ux.1 30)], kb_o (ux.1 5) 2 [.ref (ux.1 29), .ref (ux.1 16), .ref (ux.1 18), .ref (ux.1 20), .ref (ux.1 22), .ref (ux.1 25), .ref (ux.1 27), .ref (ux.1 24), .ref (ux.1 12), .ref (ux.1 13), .ref (ux.1 14), .ref (ux.1 15), .int 0, .int 0], kb_o (ux.1 16) 1 [.ref (ux.1 17), .int 1], kb_o (ux.1 18) 1 [.ref (ux.1 19), .int 1], kb_o (ux.1 20) 1 [.ref (ux.1 21), .int 1], kb_o (ux.1 22) 1 [.ref (ux.1 23), .int 1], kb_o (ux.1 25) 1 [.ref (ux.1 26), .int 1], kb_o (ux.1 27) 1 [.ref (ux.1 28), .int 1], kb_o (ux.1 24) 1 [.ref (ux.1 7), .int 0], kb_a G (ux.1 19) 16 (upd (fun _ => 0) 0 1), kb_a G (ux.1 21) 16 (upd (fun _ => 0) 0 0), kb_a G (ux.1 23) 16 (upd (fun _ => 0) 0 0), kb_a G (ux.1 26) 16 (upd (fun _ => 0) 0 0), kb_a G (ux.1 28) 16 (upd (fun _ => 0) 0 0), kb_o (ux.1 2) 1 [.ref (ux.1 3), .int 0], kb_a G (ux.1 3) 16 (fun _ => 0)]) (wr := [kb_a G (um.1 1) 65536 (fun _ => 0), kb_o y 4 [.int 0, .ref (um.1 0), .int 0, .ref (um.1 1), .int 0, .ref (um.1 2), .ref (um.1 3), .ref (um.1 4), .ref (um.1 5), .ref (um.1 6), .ref (um.1 7), .ref (um.1 8), .ref (um.1 9), .ref (um.1 10), .ref (um.1 11), .ref (um.1 12), .int 0, .int 0, .int 0, .int 0, .int 0], kb_a G (um.1 2) 2 (upd (fun _ => 0) 0 1), kb_a G (um.1 3) 2 (upd (fun _ => 0) 0 0), kb_a G (um.1 5) 256 (upd (fun _ => 0) 0 (-1)), kb_a G (um.1 6) 256 (upd (fun _ => 0) 0 0), kb_a G (um.1 7) 256 (upd (fun _ => 0) 0 0)]) hE hP hD hS [0, 10, 3, 4, 6, 8, 12, 14, 11, 5, 7, 9, 13, 15, 1, 2] [16, 17, 18, 19, 20, 21, 22] rfl rfl (by decide) (by decide) (kb_rV (As := []) (rest := []) (wc := [kb_o x 3 [.ref (ux.1 0), .ref (ux.1 2), .ref (ux.1 4), .ref (ux.1 5), .ref (ux.1 30)], kb_o (ux.1 5) 2 [.ref (ux.1 29), .ref (ux.1 16), .ref (ux.1 18), .ref (ux.1 20), .ref (ux.1 22), .ref (ux.1 25), .ref (ux.1 27), .ref (ux.1 24), .ref (ux.1 12), .ref (ux.1 13), .ref (ux.1 14), .ref (ux.1 15), .int 0, .int 0], kb_o (ux.1 16) 1 [.ref (ux.1 17), .int 1], kb_o (ux.1 18) 1 [.ref (ux.1 19), .int 1], kb_o (ux.1 20) 1 [.ref (ux.1 21), .int 1], kb_o (ux.1 22) 1 [.ref (ux.1 23), .int 1], kb_o (ux.1 25) 1 [.ref (ux.1 26), .int 1], kb_o (ux.1 27) 1 [.ref (ux.1 28), .int 1], kb_o (ux.1 24) 1 [.ref (ux.1 7), .int 0], kb_a G (ux.1 19) 16 (upd (fun _ => 0) 0 1), kb_a G (ux.1 21) 16 (upd (fun _ => 0) 0 0), kb_a G (ux.1 23) 16 (upd (fun _ => 0) 0 0), kb_a G (ux.1 26) 16 (upd (fun _ => 0) 0 0), kb_a G (ux.1 28) 16 (upd (fun _ => 0) 0 0), kb_o (ux.1 2) 1 [.ref (ux.1 3), .int 0], kb_a G (ux.1 3) 16 (fun _ => 0)]) (q0 := 0) ⟨hx, hb, hml, hown, ht⟩ ((c_Press_lay l G x (ux.1 0) (ux.1 2) (ux.1 4) (ux.1 5) (ux.1 30) (ux.1 29) (ux.1 16) (ux.1 18) (ux.1 20) (ux.1 22) (ux.1 25) (ux.1 27) (ux.1 24) (ux.1 12) (ux.1 13) (ux.1 14) (ux.1 15) 0 0 (ux.1 17) (ux.1 19) (ux.1 21) (ux.1 23) (ux.1 26) (ux.1 28) (ux.1 7) (ux.1 3) (fun _ => 0)) _) (kb_gV wd_5f84cef8 wd_3128b7ad wd_60d817db wd_28603eaf wd_1feb61cb) ⟨rfl, hd_756b451b⟩ ⟨(Nat.le_of_ble_eq_true rfl), (Nat.le_of_ble_eq_true rfl)⟩ hE hP hD hS [0, 10, 3, 4, 6, 8, 12, 14, 11, 5, 7, 9, 13, 15, 1, 2] rfl (by decide) rfl rfl rfl hl.1 rfl (Nat.le_of_ble_eq_true rfl) d_L_law_424 ⟨(Nat.le_of_ble_eq_true rfl), (Nat.le_of_ble_eq_true rfl)⟩) (fun rv2 uu1 H locs hw hP hD hS => ?_)
  have hP : va_P G.1 kb_cl [kb_a G (um.1 1) 65536 (fun _ => 0), kb_o y 4 [.int 0, .ref (um.1 0), .int 0, .ref (um.1 1), .int 0, .ref (um.1 2), .ref (um.1 3), .ref (um.1 4), .ref (um.1 5), .ref (um.1 6), .ref (um.1 7), .ref (um.1 8), .ref (um.1 9), .ref (um.1 10), .ref (um.1 11), .ref (um.1 12), .int 0, .int 0, .int 0, .int 0, .int 0], kb_a G (um.1 2) 2 (upd (fun _ => 0) 0 1), kb_a G (um.1 3) 2 (upd (fun _ => 0) 0 0), kb_a G (um.1 5) 256 (upd (fun _ => 0) 0 (-1)), kb_a G (um.1 6) 256 (upd (fun _ => 0) 0 0), kb_a G (um.1 7) 256 (upd (fun _ => 0) 0 0)] H := hP
  have hD : va_D A [kb_a G (um.1 1) 65536 (fun _ => 0), kb_o y 4 [.int 0, .ref (um.1 0), .int 0, .ref (um.1 1), .int 0, .ref (um.1 2), .ref (um.1 3), .ref (um.1 4), .ref (um.1 5), .ref (um.1 6), .ref (um.1 7), .ref (um.1 8), .ref (um.1 9), .ref (um.1 10), .ref (um.1 11), .ref (um.1 12), .int 0, .int 0, .int 0, .int 0, .int 0], kb_a G (um.1 2) 2 (upd (fun _ => 0) 0 1), kb_a G (um.1 3) 2 (upd (fun _ => 0) 0 0), kb_a G (um.1 5) 256 (upd (fun _ => 0) 0 (-1)), kb_a G (um.1 6) 256 (upd (fun _ => 0) 0 0), kb_a G (um.1 7) 256 (upd (fun _ => 0) 0 0)] := hD
  refine kb_top (y := 72) (show rv2 = 72 from hw) ?_
  refine lv_aload_n hx hb d_L_law_427 rfl (lv_at hl 2 rfl) ?_
  refine kb_i (wc := [kb_o y 4 [.int 0, .ref (um.1 0), .int 0, .ref (um.1 1), .int 0, .ref (um.1 2), .ref (um.1 3), .ref (um.1 4), .ref (um.1 5), .ref (um.1 6), .ref (um.1 7), .ref (um.1 8), .ref (um.1 9), .ref (um.1 10), .ref (um.1 11), .ref (um.1 12), .int 0, .int 0, .int 0, .int 0, .int 0], kb_a G (um.1 1) 65536 (fun _ => 0), kb_a G (um.1 2) 2 (upd (fun _ => 0) 0 1), kb_a G (um.1 3) 2 (upd (fun _ => 0) 0 0), kb_a G (um.1 5) 256 (upd (fun _ => 0) 0 (-1)), kb_a G (um.1 6) 256 (upd (fun _ => 0) 0 0), kb_a G (um.1 7) 256 (upd (fun _ => 0) 0 0)]) (wr := []) hE hP hD hS [1, 0, 2, 3, 4, 5, 6] [] rfl rfl (by decide) (by decide) (kb_rV (As := []) (rest := [.int 72]) (wc := [kb_o y 4 [.int 0, .ref (um.1 0), .int 0, .ref (um.1 1), .int 0, .ref (um.1 2), .ref (um.1 3), .ref (um.1 4), .ref (um.1 5), .ref (um.1 6), .ref (um.1 7), .ref (um.1 8), .ref (um.1 9), .ref (um.1 10), .ref (um.1 11), .ref (um.1 12), .int 0, .int 0, .int 0, .int 0, .int 0], kb_a G (um.1 1) 65536 (fun _ => 0), kb_a G (um.1 2) 2 (upd (fun _ => 0) 0 1), kb_a G (um.1 3) 2 (upd (fun _ => 0) 0 0), kb_a G (um.1 5) 256 (upd (fun _ => 0) 0 (-1)), kb_a G (um.1 6) 256 (upd (fun _ => 0) 0 0), kb_a G (um.1 7) 256 (upd (fun _ => 0) 0 0)]) (q0 := 0) ⟨hx, hb, hml, hown, ht⟩ ((c_M_lay l G y 0 (um.1 0) (um.1 1) (um.1 2) (um.1 3) (um.1 4) (um.1 5) (um.1 6) (um.1 7) (um.1 8) (um.1 9) (um.1 10) (um.1 11) (um.1 12) (fun _ => 0)) _) (kb_gV wd_1b776702 wd_f00d4ad2 wd_979bd664 wd_38099713 wd_92160c17) ⟨rfl, hd_ceca1969⟩ ⟨(Nat.le_of_ble_eq_true rfl), (Nat.le_of_ble_eq_true rfl)⟩ hE hP hD hS [1, 0, 2, 3, 4, 5, 6] rfl (by decide) rfl rfl rfl hl.1 rfl (Nat.le_of_ble_eq_true rfl) d_L_law_428 ⟨(Nat.le_of_ble_eq_true rfl), (Nat.le_of_ble_eq_true rfl)⟩) (fun rv4 uu3 H locs hw hP hD hS => ?_)
  have hP : va_P G.1 kb_cl [kb_o y 4 [.int 0, .ref (um.1 0), .int 0, .ref (um.1 1), .int 72, .ref (um.1 2), .ref (um.1 3), .ref (um.1 4), .ref (um.1 5), .ref (um.1 6), .ref (um.1 7), .ref (um.1 8), .ref (um.1 9), .ref (um.1 10), .ref (um.1 11), .ref (um.1 12), .int 0, .int 0, .int 0, .int 0, .int 0]] H := hP
  have hD : va_D A [kb_o y 4 [.int 0, .ref (um.1 0), .int 0, .ref (um.1 1), .int 72, .ref (um.1 2), .ref (um.1 3), .ref (um.1 4), .ref (um.1 5), .ref (um.1 6), .ref (um.1 7), .ref (um.1 8), .ref (um.1 9), .ref (um.1 10), .ref (um.1 11), .ref (um.1 12), .int 0, .int 0, .int 0, .int 0, .int 0]] := hD
  refine kb_top (y := 72) (show rv4 = 72 from hw) ?_
  refine lv_icmp_eq (tgt := 940) hx hb d_L_law_431 (by decide) (fun c9 => ?_) (fun c9 => absurd (by decide) c9)
  refine lv_iinc (v := 6) (lv' := [(4, .int 6), (3, .ref o), (2, .ref y), (1, .ref x), (0, .ref b)]) hx hb d_L_law_940 hl (k := 0) rfl (by decide) (by decide) rfl (fun ls hl => ?_)
  refine lv_goto (tgt := 23) hx hb d_L_law_943 (by decide) ?_
  refine lv_iload hx hb d_L_law_23 (lv_at hl 0 rfl) ?_
  refine lv_aload_n hx hb d_L_law_25 rfl (lv_at hl 4 rfl) ?_
  refine va_slen hx hb hX hbl hbA hS d_L_law_26 ?_
  refine kb_top (y := 6) (by decide) ?_
  refine lv_bipush (v := 6) hx hb d_L_law_27 (by decide) ?_
  refine lv_isub hx hb d_L_law_29 ?_
  refine kb_top (y := 0) (by decide) ?_
  refine lv_icmp_gt (tgt := 946) hx hb d_L_law_30 (by decide) (fun c9 => ?_) (fun c9 => absurd (by decide) c9)
  refine lv_iconst (v := 1) hx hb d_L_law_946 (by decide) ?_
  refine va_forget (fun q hq => hAq _ (hS.2.2 q hq)) ?_
  refine W.widen (k := 600002) (n := 7302232) (Nat.le_of_ble_eq_true rfl) (Nat.le_of_ble_eq_true rfl) ?_
  exact lw_ret hx hb hr hlocks d_L_law_947

set_option maxHeartbeats 4000000 in
set_option maxRecDepth 100000 in
theorem lc_laid {p : Program} {l : Launch} {e : Env} {s : State} {m : MethodId} {below : List Frame} {meth : Method} {c : Code} (hst : l.stackTraces = false) {G : kb_G} {A : Nat → Prop} {b : Nat} {xs : Nat → Int32} (C0 : lw_At p s m meth c b 6 xs) (hE : kb_E G A s) (hbA : ¬ A b) (hAq : ∀ q, A q → s.heap.size ≤ q) (x y o : Nat) (ux um : kb_S) {H : Heap} {locs : List Loc} (hP : va_P G.1 kb_cl (lc_w0 G x y o ux um) H) (hD : va_D A (lc_w0 G x y o ux um)) (hS : va_S A s.heap H locs) {ls : Array Slot} (hl : lv_has ls 7 [(4, .int 0), (3, .ref o), (2, .ref y), (1, .ref x), (0, .ref b)]) (hk : xs 0 &&& 31 = 7) : W p l e room_1 s m #[Value.ref b] below meth c H locs 71 169237 (lw_Z below #[Value.ref b] s) (F0 m 23 ls []) := by
  obtain ⟨hx, hb, hr, hml, hown, hts, hX, hbl, hlocks, hgv⟩ := C0
  have hown : s.vm.findClass "TreePressLaw" = some m.cls := hown
  have ht : ∀ w ∈ kb_T, w.before #[Value.ref b] s = true := fun w h => hts w (List.mem_filter.mp h).1
  have hP : va_P G.1 kb_cl [kb_o x 3 [.ref (ux.1 0), .ref (ux.1 2), .ref (ux.1 4), .ref (ux.1 5), .ref (ux.1 30)], kb_o (ux.1 2) 1 [.ref (ux.1 3), .int 0], kb_o y 4 [.int 0, .ref (um.1 0), .int 0, .ref (um.1 1), .int 0, .ref (um.1 2), .ref (um.1 3), .ref (um.1 4), .ref (um.1 5), .ref (um.1 6), .ref (um.1 7), .ref (um.1 8), .ref (um.1 9), .ref (um.1 10), .ref (um.1 11), .ref (um.1 12), .int 0, .int 0, .int 0, .int 0, .int 0], kb_j G o 1 (fun _ => 0)] H := hP.sub [0, 3, 63, 70] rfl
  have hD : va_D A [kb_o x 3 [.ref (ux.1 0), .ref (ux.1 2), .ref (ux.1 4), .ref (ux.1 5), .ref (ux.1 30)], kb_o (ux.1 2) 1 [.ref (ux.1 3), .int 0], kb_o y 4 [.int 0, .ref (um.1 0), .int 0, .ref (um.1 1), .int 0, .ref (um.1 2), .ref (um.1 3), .ref (um.1 4), .ref (um.1 5), .ref (um.1 6), .ref (um.1 7), .ref (um.1 8), .ref (um.1 9), .ref (um.1 10), .ref (um.1 11), .ref (um.1 12), .int 0, .int 0, .int 0, .int 0, .int 0], kb_j G o 1 (fun _ => 0)] := hD.sub [0, 3, 63, 70] (by decide) rfl
  refine lv_iload hx hb d_L_law_23 (lv_at hl 0 rfl) ?_
  refine lv_aload_n hx hb d_L_law_25 rfl (lv_at hl 4 rfl) ?_
  refine va_slen hx hb hX hbl hbA hS d_L_law_26 ?_
  refine kb_top (y := 6) (by decide) ?_
  refine lv_bipush (v := 6) hx hb d_L_law_27 (by decide) ?_
  refine lv_isub hx hb d_L_law_29 ?_
  refine kb_top (y := 0) (by decide) ?_
  refine lv_icmp_gt (tgt := 946) hx hb d_L_law_30 (by decide) (fun c9 => absurd c9 (by decide)) (fun c9 => ?_)
  refine lv_aload_n hx hb d_L_law_33 rfl (lv_at hl 4 rfl) ?_
  refine lv_iload hx hb d_L_law_34 (lv_at hl 0 rfl) ?_
  refine va_sld hx hb hX hbl hbA hS (show ¬ ((0 : Int32) < 0 ∨ 6 ≤ (0 : Int32).toNatClampNeg) by decide) d_L_law_36 ?_
  refine kb_top (y := xs 0) rfl ?_
  refine lv_bipush (v := 31) hx hb d_L_law_37 (by decide) ?_
  refine lv_iand hx hb d_L_law_39 ?_
  refine kb_top (y := 7) (hk) ?_
  refine lv_tableIn (tgt := 436) (off := 396) hx hb d_L_law_40 (by decide) (by decide) (by decide) (by decide) ?_
  refine lv_aload_n hx hb d_L_law_436 rfl (lv_at hl 3 rfl) ?_
  refine lv_aload_n hx hb d_L_law_437 rfl (lv_at hl 4 rfl) ?_
  refine lv_iload hx hb d_L_law_438 (lv_at hl 0 rfl) ?_
  refine lv_iconst (v := 1) hx hb d_L_law_440 (by decide) ?_
  refine lv_iadd hx hb d_L_law_441 ?_
  refine kb_top (y := 1) (by decide) ?_
  refine va_sld hx hb hX hbl hbA hS (show ¬ ((1 : Int32) < 0 ∨ 6 ≤ (1 : Int32).toNatClampNeg) by decide) d_L_law_442 ?_
  refine kb_top (y := xs 1) rfl ?_
  refine lv_aload_n hx hb d_L_law_443 rfl (lv_at hl 1 rfl) ?_
  refine kb_i (wc := [kb_o x 3 [.ref (ux.1 0), .ref (ux.1 2), .ref (ux.1 4), .ref (ux.1 5), .ref (ux.1 30)], kb_o (ux.1 2) 1 [.ref (ux.1 3), .int 0], kb_j G o 1 (fun _ => 0)]) (wr := [kb_o y 4 [.int 0, .ref (um.1 0), .int 0, .ref (um.1 1), .int 0, .ref (um.1 2), .ref (um.1 3), .ref (um.1 4), .ref (um.1 5), .ref (um.1 6), .ref (um.1 7), .ref (um.1 8), .ref (um.1 9), .ref (um.1 10), .ref (um.1 11), .ref (um.1 12), .int 0, .int 0, .int 0, .int 0, .int 0]]) hE hP hD hS [0, 1, 3] [2] rfl rfl (by decide) (by decide) (kb_rH (As := [.ref x, .int (xs 1), .ref o]) (rest := []) (wc := [kb_o x 3 [.ref (ux.1 0), .ref (ux.1 2), .ref (ux.1 4), .ref (ux.1 5), .ref (ux.1 30)], kb_o (ux.1 2) 1 [.ref (ux.1 3), .int 0], kb_j G o 1 (fun _ => 0)]) ⟨hx, hb, hml, hown, ht⟩ (c_L_laid l hst G x (ux.1 0) (ux.1 2) (ux.1 4) (ux.1 5) (ux.1 30) (ux.1 3) (xs 1) o) wd_91de2b8f wd_e4ece85a wd_b690e1d1 wd_f349fea7 hd_5f2fd636 ⟨(Nat.le_of_ble_eq_true rfl), (Nat.le_of_ble_eq_true rfl)⟩ hE hP hD hS [0, 1, 3] rfl (by decide) hl.1 rfl (Nat.le_of_ble_eq_true rfl) d_L_law_444 ⟨(Nat.le_of_ble_eq_true rfl), (Nat.le_of_ble_eq_true rfl)⟩) (fun rv2 uu1 H locs hw hP hD hS => ?_)
  have hP : va_P G.1 kb_cl [kb_o y 4 [.int 0, .ref (um.1 0), .int 0, .ref (um.1 1), .int 0, .ref (um.1 2), .ref (um.1 3), .ref (um.1 4), .ref (um.1 5), .ref (um.1 6), .ref (um.1 7), .ref (um.1 8), .ref (um.1 9), .ref (um.1 10), .ref (um.1 11), .ref (um.1 12), .int 0, .int 0, .int 0, .int 0, .int 0], kb_j G o 1 (fun _ => 0)] H := hP
  have hD : va_D A [kb_o y 4 [.int 0, .ref (um.1 0), .int 0, .ref (um.1 1), .int 0, .ref (um.1 2), .ref (um.1 3), .ref (um.1 4), .ref (um.1 5), .ref (um.1 6), .ref (um.1 7), .ref (um.1 8), .ref (um.1 9), .ref (um.1 10), .ref (um.1 11), .ref (um.1 12), .int 0, .int 0, .int 0, .int 0, .int 0], kb_j G o 1 (fun _ => 0)] := hD
  refine kb_top (y := 1) (show rv2 = 1 from hw) ?_
  refine lv_istore (lv' := [(5, .int 1), (4, .int 0), (3, .ref o), (2, .ref y), (1, .ref x), (0, .ref b)]) hx hb d_L_law_447 hl (by decide) rfl (fun ls hl => ?_)
  refine lv_aload_n hx hb d_L_law_449 rfl (lv_at hl 3 rfl) ?_
  refine lv_aload_n hx hb d_L_law_450 rfl (lv_at hl 5 rfl) ?_
  refine lv_iload hx hb d_L_law_451 (lv_at hl 1 rfl) ?_
  refine lv_iconst (v := 1) hx hb d_L_law_453 (by decide) ?_
  refine lv_iadd hx hb d_L_law_454 ?_
  refine kb_top (y := 1) (by decide) ?_
  refine va_sld hx hb hX hbl hbA hS (show ¬ ((1 : Int32) < 0 ∨ 6 ≤ (1 : Int32).toNatClampNeg) by decide) d_L_law_455 ?_
  refine kb_top (y := xs 1) rfl ?_
  refine kb_i (wc := [kb_o y 4 [.int 0, .ref (um.1 0), .int 0, .ref (um.1 1), .int 0, .ref (um.1 2), .ref (um.1 3), .ref (um.1 4), .ref (um.1 5), .ref (um.1 6), .ref (um.1 7), .ref (um.1 8), .ref (um.1 9), .ref (um.1 10), .ref (um.1 11), .ref (um.1 12), .int 0, .int 0, .int 0, .int 0, .int 0]]) (wr := [kb_j G o 1 (fun _ => 0)]) hE hP hD hS [0] [1] rfl rfl (by decide) (by decide) (kb_rV (As := [.int (xs 1)]) (rest := []) (wc := [kb_o y 4 [.int 0, .ref (um.1 0), .int 0, .ref (um.1 1), .int 0, .ref (um.1 2), .ref (um.1 3), .ref (um.1 4), .ref (um.1 5), .ref (um.1 6), .ref (um.1 7), .ref (um.1 8), .ref (um.1 9), .ref (um.1 10), .ref (um.1 11), .ref (um.1 12), .int 0, .int 0, .int 0, .int 0, .int 0]]) (q0 := 0) ⟨hx, hb, hml, hown, ht⟩ ((c_M_laid l G y 0 (um.1 0) (um.1 1) (um.1 2) (um.1 3) (um.1 4) (um.1 5) (um.1 6) (um.1 7) (um.1 8) (um.1 9) (um.1 10) (um.1 11) (um.1 12) (xs 1)) _) (kb_gV wd_8287ed1d wd_fff27092 wd_d27d6c24 wd_38099713 wd_3b9c5a3f) ⟨rfl, hd_90767ece⟩ ⟨(Nat.le_of_ble_eq_true rfl), (Nat.le_of_ble_eq_true rfl)⟩ hE hP hD hS [0] rfl (by decide) rfl rfl rfl hl.1 rfl (Nat.le_of_ble_eq_true rfl) d_L_law_456 ⟨(Nat.le_of_ble_eq_true rfl), (Nat.le_of_ble_eq_true rfl)⟩) (fun rv4 uu3 H locs hw hP hD hS => ?_)
  have hP : va_P G.1 kb_cl [kb_j G o 1 (fun _ => 0), kb_o y 4 [.int 1, .ref (um.1 0), .int 0, .ref (um.1 1), .int 0, .ref (um.1 2), .ref (um.1 3), .ref (um.1 4), .ref (um.1 5), .ref (um.1 6), .ref (um.1 7), .ref (um.1 8), .ref (um.1 9), .ref (um.1 10), .ref (um.1 11), .ref (um.1 12), .int 0, .int 0, .int 0, .int 0, .int 0]] H := hP
  have hD : va_D A [kb_j G o 1 (fun _ => 0), kb_o y 4 [.int 1, .ref (um.1 0), .int 0, .ref (um.1 1), .int 0, .ref (um.1 2), .ref (um.1 3), .ref (um.1 4), .ref (um.1 5), .ref (um.1 6), .ref (um.1 7), .ref (um.1 8), .ref (um.1 9), .ref (um.1 10), .ref (um.1 11), .ref (um.1 12), .int 0, .int 0, .int 0, .int 0, .int 0]] := hD
  refine kb_top (y := 0) (show rv4 = 0 from hw) ?_
  refine lv_istore (lv' := [(6, .int 0), (5, .int 1), (4, .int 0), (3, .ref o), (2, .ref y), (1, .ref x), (0, .ref b)]) hx hb d_L_law_459 hl (by decide) rfl (fun ls hl => ?_)
  refine lv_aload_n hx hb d_L_law_461 rfl (lv_at hl 4 rfl) ?_
  refine kb_i (wc := [kb_o y 4 [.int 1, .ref (um.1 0), .int 0, .ref (um.1 1), .int 0, .ref (um.1 2), .ref (um.1 3), .ref (um.1 4), .ref (um.1 5), .ref (um.1 6), .ref (um.1 7), .ref (um.1 8), .ref (um.1 9), .ref (um.1 10), .ref (um.1 11), .ref (um.1 12), .int 0, .int 0, .int 0, .int 0, .int 0]]) (wr := [kb_j G o 1 (fun _ => 0)]) hE hP hD hS [1] [0] rfl rfl (by decide) (by decide) (kb_rV (As := []) (rest := []) (wc := [kb_o y 4 [.int 1, .ref (um.1 0), .int 0, .ref (um.1 1), .int 0, .ref (um.1 2), .ref (um.1 3), .ref (um.1 4), .ref (um.1 5), .ref (um.1 6), .ref (um.1 7), .ref (um.1 8), .ref (um.1 9), .ref (um.1 10), .ref (um.1 11), .ref (um.1 12), .int 0, .int 0, .int 0, .int 0, .int 0]]) (q0 := 0) ⟨hx, hb, hml, hown, ht⟩ ((c_M_thrown l G y 1 (um.1 0) (um.1 1) (um.1 2) (um.1 3) (um.1 4) (um.1 5) (um.1 6) (um.1 7) (um.1 8) (um.1 9) (um.1 10) (um.1 11) (um.1 12) 0 0 0 0) _) (kb_gV wd_1946a056 wd_e9c50365 wd_a707e5a8 wd_38099713 wd_79f18ba3) ⟨rfl, hd_2a236ec3⟩ ⟨(Nat.le_of_ble_eq_true rfl), (Nat.le_of_ble_eq_true rfl)⟩ hE hP hD hS [1] rfl (by decide) rfl rfl rfl hl.1 rfl (Nat.le_of_ble_eq_true rfl) d_L_law_462 ⟨(Nat.le_of_ble_eq_true rfl), (Nat.le_of_ble_eq_true rfl)⟩) (fun rv6 uu5 H locs hw hP hD hS => ?_)
  have hP : va_P G.1 kb_cl [kb_j G o 1 (fun _ => 0), kb_o y 4 [.int 1, .ref (um.1 0), .int 0, .ref (um.1 1), .int 0, .ref (um.1 2), .ref (um.1 3), .ref (um.1 4), .ref (um.1 5), .ref (um.1 6), .ref (um.1 7), .ref (um.1 8), .ref (um.1 9), .ref (um.1 10), .ref (um.1 11), .ref (um.1 12), .int 0, .int 0, .int 0, .int 0, .int 0]] H := hP
  have hD : va_D A [kb_j G o 1 (fun _ => 0), kb_o y 4 [.int 1, .ref (um.1 0), .int 0, .ref (um.1 1), .int 0, .ref (um.1 2), .ref (um.1 3), .ref (um.1 4), .ref (um.1 5), .ref (um.1 6), .ref (um.1 7), .ref (um.1 8), .ref (um.1 9), .ref (um.1 10), .ref (um.1 11), .ref (um.1 12), .int 0, .int 0, .int 0, .int 0, .int 0]] := hD
  refine kb_top (y := 1) (show rv6 = 1 from hw) ?_
  refine lv_iload hx hb d_L_law_465 (lv_at hl 1 rfl) ?_
  refine lv_icmp_eq (tgt := 472) hx hb d_L_law_467 (by decide) (fun c9 => ?_) (fun c9 => absurd (by decide) c9)
  refine lv_iload hx hb d_L_law_472 (lv_at hl 1 rfl) ?_
  refine lv_if_ne (tgt := 489) hx hb d_L_law_474 (by decide) (fun c9 => ?_) (fun c9 => absurd c9 (by decide))
  refine lv_goto (tgt := 940) hx hb d_L_law_489 (by decide) ?_
  refine lv_iinc (v := 6) (lv' := [(4, .int 6), (6, .int 0), (5, .int 1), (3, .ref o), (2, .ref y), (1, .ref x), (0, .ref b)]) hx hb d_L_law_940 hl (k := 2) rfl (by decide) (by decide) rfl (fun ls hl => ?_)
  refine lv_goto (tgt := 23) hx hb d_L_law_943 (by decide) ?_
  refine lv_iload hx hb d_L_law_23 (lv_at hl 0 rfl) ?_
  refine lv_aload_n hx hb d_L_law_25 rfl (lv_at hl 6 rfl) ?_
  refine va_slen hx hb hX hbl hbA hS d_L_law_26 ?_
  refine kb_top (y := 6) (by decide) ?_
  refine lv_bipush (v := 6) hx hb d_L_law_27 (by decide) ?_
  refine lv_isub hx hb d_L_law_29 ?_
  refine kb_top (y := 0) (by decide) ?_
  refine lv_icmp_gt (tgt := 946) hx hb d_L_law_30 (by decide) (fun c9 => ?_) (fun c9 => absurd (by decide) c9)
  refine lv_iconst (v := 1) hx hb d_L_law_946 (by decide) ?_
  refine va_forget (fun q hq => hAq _ (hS.2.2 q hq)) ?_
  refine W.widen (k := 600002) (n := 7302232) (Nat.le_of_ble_eq_true rfl) (Nat.le_of_ble_eq_true rfl) ?_
  exact lw_ret hx hb hr hlocks d_L_law_947

set_option maxHeartbeats 4000000 in
set_option maxRecDepth 100000 in
theorem lc_read {p : Program} {l : Launch} {e : Env} {s : State} {m : MethodId} {below : List Frame} {meth : Method} {c : Code} (hst : l.stackTraces = false) {G : kb_G} {A : Nat → Prop} {b : Nat} {xs : Nat → Int32} (C0 : lw_At p s m meth c b 6 xs) (hE : kb_E G A s) (hbA : ¬ A b) (hAq : ∀ q, A q → s.heap.size ≤ q) (x y o : Nat) (ux um : kb_S) {H : Heap} {locs : List Loc} (hP : va_P G.1 kb_cl (lc_w0 G x y o ux um) H) (hD : va_D A (lc_w0 G x y o ux um)) (hS : va_S A s.heap H locs) {ls : Array Slot} (hl : lv_has ls 7 [(4, .int 0), (3, .ref o), (2, .ref y), (1, .ref x), (0, .ref b)]) (hk : xs 0 &&& 31 = 8) : W p l e room_1 s m #[Value.ref b] below meth c H locs 71 169237 (lw_Z below #[Value.ref b] s) (F0 m 23 ls []) := by
  obtain ⟨hx, hb, hr, hml, hown, hts, hX, hbl, hlocks, hgv⟩ := C0
  have hown : s.vm.findClass "TreePressLaw" = some m.cls := hown
  have ht : ∀ w ∈ kb_T, w.before #[Value.ref b] s = true := fun w h => hts w (List.mem_filter.mp h).1
  have hP : va_P G.1 kb_cl [kb_o x 3 [.ref (ux.1 0), .ref (ux.1 2), .ref (ux.1 4), .ref (ux.1 5), .ref (ux.1 30)], kb_o (ux.1 0) 1 [.ref (ux.1 1), .int 0], kb_o (ux.1 4) 0 [.int 0, .int 0, .int 0, .int 0], kb_o (ux.1 5) 2 [.ref (ux.1 29), .ref (ux.1 16), .ref (ux.1 18), .ref (ux.1 20), .ref (ux.1 22), .ref (ux.1 25), .ref (ux.1 27), .ref (ux.1 24), .ref (ux.1 12), .ref (ux.1 13), .ref (ux.1 14), .ref (ux.1 15), .int 0, .int 0], kb_o y 4 [.int 0, .ref (um.1 0), .int 0, .ref (um.1 1), .int 0, .ref (um.1 2), .ref (um.1 3), .ref (um.1 4), .ref (um.1 5), .ref (um.1 6), .ref (um.1 7), .ref (um.1 8), .ref (um.1 9), .ref (um.1 10), .ref (um.1 11), .ref (um.1 12), .int 0, .int 0, .int 0, .int 0, .int 0]] H := hP.sub [0, 1, 5, 24, 63] rfl
  have hD : va_D A [kb_o x 3 [.ref (ux.1 0), .ref (ux.1 2), .ref (ux.1 4), .ref (ux.1 5), .ref (ux.1 30)], kb_o (ux.1 0) 1 [.ref (ux.1 1), .int 0], kb_o (ux.1 4) 0 [.int 0, .int 0, .int 0, .int 0], kb_o (ux.1 5) 2 [.ref (ux.1 29), .ref (ux.1 16), .ref (ux.1 18), .ref (ux.1 20), .ref (ux.1 22), .ref (ux.1 25), .ref (ux.1 27), .ref (ux.1 24), .ref (ux.1 12), .ref (ux.1 13), .ref (ux.1 14), .ref (ux.1 15), .int 0, .int 0], kb_o y 4 [.int 0, .ref (um.1 0), .int 0, .ref (um.1 1), .int 0, .ref (um.1 2), .ref (um.1 3), .ref (um.1 4), .ref (um.1 5), .ref (um.1 6), .ref (um.1 7), .ref (um.1 8), .ref (um.1 9), .ref (um.1 10), .ref (um.1 11), .ref (um.1 12), .int 0, .int 0, .int 0, .int 0, .int 0]] := hD.sub [0, 1, 5, 24, 63] (by decide) rfl
  refine lv_iload hx hb d_L_law_23 (lv_at hl 0 rfl) ?_
  refine lv_aload_n hx hb d_L_law_25 rfl (lv_at hl 4 rfl) ?_
  refine va_slen hx hb hX hbl hbA hS d_L_law_26 ?_
  refine kb_top (y := 6) (by decide) ?_
  refine lv_bipush (v := 6) hx hb d_L_law_27 (by decide) ?_
  refine lv_isub hx hb d_L_law_29 ?_
  refine kb_top (y := 0) (by decide) ?_
  refine lv_icmp_gt (tgt := 946) hx hb d_L_law_30 (by decide) (fun c9 => absurd c9 (by decide)) (fun c9 => ?_)
  refine lv_aload_n hx hb d_L_law_33 rfl (lv_at hl 4 rfl) ?_
  refine lv_iload hx hb d_L_law_34 (lv_at hl 0 rfl) ?_
  refine va_sld hx hb hX hbl hbA hS (show ¬ ((0 : Int32) < 0 ∨ 6 ≤ (0 : Int32).toNatClampNeg) by decide) d_L_law_36 ?_
  refine kb_top (y := xs 0) rfl ?_
  refine lv_bipush (v := 31) hx hb d_L_law_37 (by decide) ?_
  refine lv_iand hx hb d_L_law_39 ?_
  refine kb_top (y := 8) (hk) ?_
  refine lv_tableIn (tgt := 492) (off := 452) hx hb d_L_law_40 (by decide) (by decide) (by decide) (by decide) ?_
  refine lv_aload_n hx hb d_L_law_492 rfl (lv_at hl 3 rfl) ?_
  refine kb_i (wc := [kb_o x 3 [.ref (ux.1 0), .ref (ux.1 2), .ref (ux.1 4), .ref (ux.1 5), .ref (ux.1 30)], kb_o (ux.1 0) 1 [.ref (ux.1 1), .int 0], kb_o (ux.1 4) 0 [.int 0, .int 0, .int 0, .int 0], kb_o (ux.1 5) 2 [.ref (ux.1 29), .ref (ux.1 16), .ref (ux.1 18), .ref (ux.1 20), .ref (ux.1 22), .ref (ux.1 25), .ref (ux.1 27), .ref (ux.1 24), .ref (ux.1 12), .ref (ux.1 13), .ref (ux.1 14), .ref (ux.1 15), .int 0, .int 0]]) (wr := [kb_o y 4 [.int 0, .ref (um.1 0), .int 0, .ref (um.1 1), .int 0, .ref (um.1 2), .ref (um.1 3), .ref (um.1 4), .ref (um.1 5), .ref (um.1 6), .ref (um.1 7), .ref (um.1 8), .ref (um.1 9), .ref (um.1 10), .ref (um.1 11), .ref (um.1 12), .int 0, .int 0, .int 0, .int 0, .int 0]]) hE hP hD hS [0, 1, 2, 3] [4] rfl rfl (by decide) (by decide) (kb_rV (As := []) (rest := []) (wc := [kb_o x 3 [.ref (ux.1 0), .ref (ux.1 2), .ref (ux.1 4), .ref (ux.1 5), .ref (ux.1 30)], kb_o (ux.1 0) 1 [.ref (ux.1 1), .int 0], kb_o (ux.1 4) 0 [.int 0, .int 0, .int 0, .int 0], kb_o (ux.1 5) 2 [.ref (ux.1 29), .ref (ux.1 16), .ref (ux.1 18), .ref (ux.1 20), .ref (ux.1 22), .ref (ux.1 25), .ref (ux.1 27), .ref (ux.1 24), .ref (ux.1 12), .ref (ux.1 13), .ref (ux.1 14), .ref (ux.1 15), .int 0, .int 0]]) (q0 := 0) ⟨hx, hb, hml, hown, ht⟩ ((c_Press_read l G x (ux.1 0) (ux.1 2) (ux.1 4) (ux.1 5) (ux.1 30) (ux.1 1) (ux.1 29) (ux.1 16) (ux.1 18) (ux.1 20) (ux.1 22) (ux.1 25) (ux.1 27) (ux.1 24) (ux.1 12) (ux.1 13) (ux.1 14) (ux.1 15) 0 0 0 0 0 0) _) (kb_gV wd_6a8a12a1 wd_8f111bbc wd_9e3db72e wd_28603eaf wd_56e7c0fe) ⟨rfl, hd_902d9acb⟩ ⟨(Nat.le_of_ble_eq_true rfl), (Nat.le_of_ble_eq_true rfl)⟩ hE hP hD hS [0, 1, 2, 3] rfl (by decide) rfl rfl rfl hl.1 rfl (Nat.le_of_ble_eq_true rfl) d_L_law_493 ⟨(Nat.le_of_ble_eq_true rfl), (Nat.le_of_ble_eq_true rfl)⟩) (fun rv2 uu1 H locs hw hP hD hS => ?_)
  have hP : va_P G.1 kb_cl [kb_o y 4 [.int 0, .ref (um.1 0), .int 0, .ref (um.1 1), .int 0, .ref (um.1 2), .ref (um.1 3), .ref (um.1 4), .ref (um.1 5), .ref (um.1 6), .ref (um.1 7), .ref (um.1 8), .ref (um.1 9), .ref (um.1 10), .ref (um.1 11), .ref (um.1 12), .int 0, .int 0, .int 0, .int 0, .int 0]] H := hP
  have hD : va_D A [kb_o y 4 [.int 0, .ref (um.1 0), .int 0, .ref (um.1 1), .int 0, .ref (um.1 2), .ref (um.1 3), .ref (um.1 4), .ref (um.1 5), .ref (um.1 6), .ref (um.1 7), .ref (um.1 8), .ref (um.1 9), .ref (um.1 10), .ref (um.1 11), .ref (um.1 12), .int 0, .int 0, .int 0, .int 0, .int 0]] := hD
  refine kb_top (y := 0) (show rv2 = 0 from hw) ?_
  refine lv_aload_n hx hb d_L_law_496 rfl (lv_at hl 2 rfl) ?_
  refine kb_i (wc := [kb_o y 4 [.int 0, .ref (um.1 0), .int 0, .ref (um.1 1), .int 0, .ref (um.1 2), .ref (um.1 3), .ref (um.1 4), .ref (um.1 5), .ref (um.1 6), .ref (um.1 7), .ref (um.1 8), .ref (um.1 9), .ref (um.1 10), .ref (um.1 11), .ref (um.1 12), .int 0, .int 0, .int 0, .int 0, .int 0]]) (wr := []) hE hP hD hS [0] [] rfl rfl (by decide) (by decide) (kb_rV (As := []) (rest := [.int 0]) (wc := [kb_o y 4 [.int 0, .ref (um.1 0), .int 0, .ref (um.1 1), .int 0, .ref (um.1 2), .ref (um.1 3), .ref (um.1 4), .ref (um.1 5), .ref (um.1 6), .ref (um.1 7), .ref (um.1 8), .ref (um.1 9), .ref (um.1 10), .ref (um.1 11), .ref (um.1 12), .int 0, .int 0, .int 0, .int 0, .int 0]]) (q0 := 0) ⟨hx, hb, hml, hown, ht⟩ ((c_M_read l G y 0 (um.1 0) (um.1 1) (um.1 2) (um.1 3) (um.1 4) (um.1 5) (um.1 6) (um.1 7) (um.1 8) (um.1 9) (um.1 10) (um.1 11) (um.1 12)) _) (kb_gV wd_4120798b wd_ff41a2ba wd_72c62116 wd_38099713 wd_0bd856fa) ⟨rfl, hd_240c9376⟩ ⟨(Nat.le_of_ble_eq_true rfl), (Nat.le_of_ble_eq_true rfl)⟩ hE hP hD hS [0] rfl (by decide) rfl rfl rfl hl.1 rfl (Nat.le_of_ble_eq_true rfl) d_L_law_497 ⟨(Nat.le_of_ble_eq_true rfl), (Nat.le_of_ble_eq_true rfl)⟩) (fun rv4 uu3 H locs hw hP hD hS => ?_)
  have hP : va_P G.1 kb_cl [kb_o y 4 [.int 0, .ref (um.1 0), .int 0, .ref (um.1 1), .int 0, .ref (um.1 2), .ref (um.1 3), .ref (um.1 4), .ref (um.1 5), .ref (um.1 6), .ref (um.1 7), .ref (um.1 8), .ref (um.1 9), .ref (um.1 10), .ref (um.1 11), .ref (um.1 12), .int 0, .int 0, .int 0, .int 0, .int 0]] H := hP
  have hD : va_D A [kb_o y 4 [.int 0, .ref (um.1 0), .int 0, .ref (um.1 1), .int 0, .ref (um.1 2), .ref (um.1 3), .ref (um.1 4), .ref (um.1 5), .ref (um.1 6), .ref (um.1 7), .ref (um.1 8), .ref (um.1 9), .ref (um.1 10), .ref (um.1 11), .ref (um.1 12), .int 0, .int 0, .int 0, .int 0, .int 0]] := hD
  refine kb_top (y := 0) (show rv4 = 0 from hw) ?_
  refine lv_icmp_eq (tgt := 940) hx hb d_L_law_500 (by decide) (fun c9 => ?_) (fun c9 => absurd (by decide) c9)
  refine lv_iinc (v := 6) (lv' := [(4, .int 6), (3, .ref o), (2, .ref y), (1, .ref x), (0, .ref b)]) hx hb d_L_law_940 hl (k := 0) rfl (by decide) (by decide) rfl (fun ls hl => ?_)
  refine lv_goto (tgt := 23) hx hb d_L_law_943 (by decide) ?_
  refine lv_iload hx hb d_L_law_23 (lv_at hl 0 rfl) ?_
  refine lv_aload_n hx hb d_L_law_25 rfl (lv_at hl 4 rfl) ?_
  refine va_slen hx hb hX hbl hbA hS d_L_law_26 ?_
  refine kb_top (y := 6) (by decide) ?_
  refine lv_bipush (v := 6) hx hb d_L_law_27 (by decide) ?_
  refine lv_isub hx hb d_L_law_29 ?_
  refine kb_top (y := 0) (by decide) ?_
  refine lv_icmp_gt (tgt := 946) hx hb d_L_law_30 (by decide) (fun c9 => ?_) (fun c9 => absurd (by decide) c9)
  refine lv_iconst (v := 1) hx hb d_L_law_946 (by decide) ?_
  refine va_forget (fun q hq => hAq _ (hS.2.2 q hq)) ?_
  refine W.widen (k := 600002) (n := 7302232) (Nat.le_of_ble_eq_true rfl) (Nat.le_of_ble_eq_true rfl) ?_
  exact lw_ret hx hb hr hlocks d_L_law_947

set_option maxHeartbeats 4000000 in
set_option maxRecDepth 100000 in
theorem lc_nodes {p : Program} {l : Launch} {e : Env} {s : State} {m : MethodId} {below : List Frame} {meth : Method} {c : Code} (hst : l.stackTraces = false) {G : kb_G} {A : Nat → Prop} {b : Nat} {xs : Nat → Int32} (C0 : lw_At p s m meth c b 6 xs) (hE : kb_E G A s) (hbA : ¬ A b) (hAq : ∀ q, A q → s.heap.size ≤ q) (x y o : Nat) (ux um : kb_S) {H : Heap} {locs : List Loc} (hP : va_P G.1 kb_cl (lc_w0 G x y o ux um) H) (hD : va_D A (lc_w0 G x y o ux um)) (hS : va_S A s.heap H locs) {ls : Array Slot} (hl : lv_has ls 7 [(4, .int 0), (3, .ref o), (2, .ref y), (1, .ref x), (0, .ref b)]) (hk : xs 0 &&& 31 = 9) : W p l e room_1 s m #[Value.ref b] below meth c H locs 71 169237 (lw_Z below #[Value.ref b] s) (F0 m 23 ls []) := by
  obtain ⟨hx, hb, hr, hml, hown, hts, hX, hbl, hlocks, hgv⟩ := C0
  have hown : s.vm.findClass "TreePressLaw" = some m.cls := hown
  have ht : ∀ w ∈ kb_T, w.before #[Value.ref b] s = true := fun w h => hts w (List.mem_filter.mp h).1
  have hP : va_P G.1 kb_cl [kb_o x 3 [.ref (ux.1 0), .ref (ux.1 2), .ref (ux.1 4), .ref (ux.1 5), .ref (ux.1 30)], kb_o (ux.1 16) 1 [.ref (ux.1 17), .int 1], kb_o (ux.1 5) 2 [.ref (ux.1 29), .ref (ux.1 16), .ref (ux.1 18), .ref (ux.1 20), .ref (ux.1 22), .ref (ux.1 25), .ref (ux.1 27), .ref (ux.1 24), .ref (ux.1 12), .ref (ux.1 13), .ref (ux.1 14), .ref (ux.1 15), .int 0, .int 0], kb_o y 4 [.int 0, .ref (um.1 0), .int 0, .ref (um.1 1), .int 0, .ref (um.1 2), .ref (um.1 3), .ref (um.1 4), .ref (um.1 5), .ref (um.1 6), .ref (um.1 7), .ref (um.1 8), .ref (um.1 9), .ref (um.1 10), .ref (um.1 11), .ref (um.1 12), .int 0, .int 0, .int 0, .int 0, .int 0], kb_a G (um.1 2) 2 (upd (fun _ => 0) 0 1)] H := hP.sub [0, 16, 24, 63, 64] rfl
  have hD : va_D A [kb_o x 3 [.ref (ux.1 0), .ref (ux.1 2), .ref (ux.1 4), .ref (ux.1 5), .ref (ux.1 30)], kb_o (ux.1 16) 1 [.ref (ux.1 17), .int 1], kb_o (ux.1 5) 2 [.ref (ux.1 29), .ref (ux.1 16), .ref (ux.1 18), .ref (ux.1 20), .ref (ux.1 22), .ref (ux.1 25), .ref (ux.1 27), .ref (ux.1 24), .ref (ux.1 12), .ref (ux.1 13), .ref (ux.1 14), .ref (ux.1 15), .int 0, .int 0], kb_o y 4 [.int 0, .ref (um.1 0), .int 0, .ref (um.1 1), .int 0, .ref (um.1 2), .ref (um.1 3), .ref (um.1 4), .ref (um.1 5), .ref (um.1 6), .ref (um.1 7), .ref (um.1 8), .ref (um.1 9), .ref (um.1 10), .ref (um.1 11), .ref (um.1 12), .int 0, .int 0, .int 0, .int 0, .int 0], kb_a G (um.1 2) 2 (upd (fun _ => 0) 0 1)] := hD.sub [0, 16, 24, 63, 64] (by decide) rfl
  refine lv_iload hx hb d_L_law_23 (lv_at hl 0 rfl) ?_
  refine lv_aload_n hx hb d_L_law_25 rfl (lv_at hl 4 rfl) ?_
  refine va_slen hx hb hX hbl hbA hS d_L_law_26 ?_
  refine kb_top (y := 6) (by decide) ?_
  refine lv_bipush (v := 6) hx hb d_L_law_27 (by decide) ?_
  refine lv_isub hx hb d_L_law_29 ?_
  refine kb_top (y := 0) (by decide) ?_
  refine lv_icmp_gt (tgt := 946) hx hb d_L_law_30 (by decide) (fun c9 => absurd c9 (by decide)) (fun c9 => ?_)
  refine lv_aload_n hx hb d_L_law_33 rfl (lv_at hl 4 rfl) ?_
  refine lv_iload hx hb d_L_law_34 (lv_at hl 0 rfl) ?_
  refine va_sld hx hb hX hbl hbA hS (show ¬ ((0 : Int32) < 0 ∨ 6 ≤ (0 : Int32).toNatClampNeg) by decide) d_L_law_36 ?_
  refine kb_top (y := xs 0) rfl ?_
  refine lv_bipush (v := 31) hx hb d_L_law_37 (by decide) ?_
  refine lv_iand hx hb d_L_law_39 ?_
  refine kb_top (y := 9) (hk) ?_
  refine lv_tableIn (tgt := 505) (off := 465) hx hb d_L_law_40 (by decide) (by decide) (by decide) (by decide) ?_
  refine lv_aload_n hx hb d_L_law_505 rfl (lv_at hl 3 rfl) ?_
  refine kb_i (wc := [kb_o x 3 [.ref (ux.1 0), .ref (ux.1 2), .ref (ux.1 4), .ref (ux.1 5), .ref (ux.1 30)], kb_o (ux.1 5) 2 [.ref (ux.1 29), .ref (ux.1 16), .ref (ux.1 18), .ref (ux.1 20), .ref (ux.1 22), .ref (ux.1 25), .ref (ux.1 27), .ref (ux.1 24), .ref (ux.1 12), .ref (ux.1 13), .ref (ux.1 14), .ref (ux.1 15), .int 0, .int 0], kb_o (ux.1 16) 1 [.ref (ux.1 17), .int 1]]) (wr := [kb_o y 4 [.int 0, .ref (um.1 0), .int 0, .ref (um.1 1), .int 0, .ref (um.1 2), .ref (um.1 3), .ref (um.1 4), .ref (um.1 5), .ref (um.1 6), .ref (um.1 7), .ref (um.1 8), .ref (um.1 9), .ref (um.1 10), .ref (um.1 11), .ref (um.1 12), .int 0, .int 0, .int 0, .int 0, .int 0], kb_a G (um.1 2) 2 (upd (fun _ => 0) 0 1)]) hE hP hD hS [0, 2, 1] [3, 4] rfl rfl (by decide) (by decide) (kb_rV (As := []) (rest := []) (wc := [kb_o x 3 [.ref (ux.1 0), .ref (ux.1 2), .ref (ux.1 4), .ref (ux.1 5), .ref (ux.1 30)], kb_o (ux.1 5) 2 [.ref (ux.1 29), .ref (ux.1 16), .ref (ux.1 18), .ref (ux.1 20), .ref (ux.1 22), .ref (ux.1 25), .ref (ux.1 27), .ref (ux.1 24), .ref (ux.1 12), .ref (ux.1 13), .ref (ux.1 14), .ref (ux.1 15), .int 0, .int 0], kb_o (ux.1 16) 1 [.ref (ux.1 17), .int 1]]) (q0 := 0) ⟨hx, hb, hml, hown, ht⟩ ((c_Press_nodes l G x (ux.1 0) (ux.1 2) (ux.1 4) (ux.1 5) (ux.1 30) (ux.1 29) (ux.1 16) (ux.1 18) (ux.1 20) (ux.1 22) (ux.1 25) (ux.1 27) (ux.1 24) (ux.1 12) (ux.1 13) (ux.1 14) (ux.1 15) 0 0 (ux.1 17) 1) _) (kb_gV wd_2ced71a4 wd_704bff53 wd_60c1f3f4 wd_28603eaf wd_0780822e) ⟨rfl, hd_50a5937a⟩ ⟨(Nat.le_of_ble_eq_true rfl), (Nat.le_of_ble_eq_true rfl)⟩ hE hP hD hS [0, 2, 1] rfl (by decide) rfl rfl rfl hl.1 rfl (Nat.le_of_ble_eq_true rfl) d_L_law_506 ⟨(Nat.le_of_ble_eq_true rfl), (Nat.le_of_ble_eq_true rfl)⟩) (fun rv2 uu1 H locs hw hP hD hS => ?_)
  have hP : va_P G.1 kb_cl [kb_o y 4 [.int 0, .ref (um.1 0), .int 0, .ref (um.1 1), .int 0, .ref (um.1 2), .ref (um.1 3), .ref (um.1 4), .ref (um.1 5), .ref (um.1 6), .ref (um.1 7), .ref (um.1 8), .ref (um.1 9), .ref (um.1 10), .ref (um.1 11), .ref (um.1 12), .int 0, .int 0, .int 0, .int 0, .int 0], kb_a G (um.1 2) 2 (upd (fun _ => 0) 0 1), kb_o x 3 [.ref (ux.1 0), .ref (ux.1 2), .ref (ux.1 4), .ref (ux.1 5), .ref (ux.1 30)], kb_o (ux.1 5) 2 [.ref (ux.1 29), .ref (ux.1 16), .ref (ux.1 18), .ref (ux.1 20), .ref (ux.1 22), .ref (ux.1 25), .ref (ux.1 27), .ref (ux.1 24), .ref (ux.1 12), .ref (ux.1 13), .ref (ux.1 14), .ref (ux.1 15), .int 0, .int 0], kb_o (ux.1 16) 1 [.ref (ux.1 17), .int 1]] H := hP
  have hD : va_D A [kb_o y 4 [.int 0, .ref (um.1 0), .int 0, .ref (um.1 1), .int 0, .ref (um.1 2), .ref (um.1 3), .ref (um.1 4), .ref (um.1 5), .ref (um.1 6), .ref (um.1 7), .ref (um.1 8), .ref (um.1 9), .ref (um.1 10), .ref (um.1 11), .ref (um.1 12), .int 0, .int 0, .int 0, .int 0, .int 0], kb_a G (um.1 2) 2 (upd (fun _ => 0) 0 1), kb_o x 3 [.ref (ux.1 0), .ref (ux.1 2), .ref (ux.1 4), .ref (ux.1 5), .ref (ux.1 30)], kb_o (ux.1 5) 2 [.ref (ux.1 29), .ref (ux.1 16), .ref (ux.1 18), .ref (ux.1 20), .ref (ux.1 22), .ref (ux.1 25), .ref (ux.1 27), .ref (ux.1 24), .ref (ux.1 12), .ref (ux.1 13), .ref (ux.1 14), .ref (ux.1 15), .int 0, .int 0], kb_o (ux.1 16) 1 [.ref (ux.1 17), .int 1]] := hD
  refine kb_top (y := 1) (show rv2 = 1 from hw) ?_
  refine lv_aload_n hx hb d_L_law_509 rfl (lv_at hl 2 rfl) ?_
  refine kb_i (wc := [kb_o y 4 [.int 0, .ref (um.1 0), .int 0, .ref (um.1 1), .int 0, .ref (um.1 2), .ref (um.1 3), .ref (um.1 4), .ref (um.1 5), .ref (um.1 6), .ref (um.1 7), .ref (um.1 8), .ref (um.1 9), .ref (um.1 10), .ref (um.1 11), .ref (um.1 12), .int 0, .int 0, .int 0, .int 0, .int 0], kb_a G (um.1 2) 2 (upd (fun _ => 0) 0 1)]) (wr := [kb_o x 3 [.ref (ux.1 0), .ref (ux.1 2), .ref (ux.1 4), .ref (ux.1 5), .ref (ux.1 30)], kb_o (ux.1 5) 2 [.ref (ux.1 29), .ref (ux.1 16), .ref (ux.1 18), .ref (ux.1 20), .ref (ux.1 22), .ref (ux.1 25), .ref (ux.1 27), .ref (ux.1 24), .ref (ux.1 12), .ref (ux.1 13), .ref (ux.1 14), .ref (ux.1 15), .int 0, .int 0], kb_o (ux.1 16) 1 [.ref (ux.1 17), .int 1]]) hE hP hD hS [0, 1] [2, 3, 4] rfl rfl (by decide) (by decide) (kb_rV (As := []) (rest := [.int 1]) (wc := [kb_o y 4 [.int 0, .ref (um.1 0), .int 0, .ref (um.1 1), .int 0, .ref (um.1 2), .ref (um.1 3), .ref (um.1 4), .ref (um.1 5), .ref (um.1 6), .ref (um.1 7), .ref (um.1 8), .ref (um.1 9), .ref (um.1 10), .ref (um.1 11), .ref (um.1 12), .int 0, .int 0, .int 0, .int 0, .int 0], kb_a G (um.1 2) 2 (upd (fun _ => 0) 0 1)]) (q0 := 0) ⟨hx, hb, hml, hown, ht⟩ ((c_M_nodes l G y 0 (um.1 0) (um.1 1) (um.1 2) (um.1 3) (um.1 4) (um.1 5) (um.1 6) (um.1 7) (um.1 8) (um.1 9) (um.1 10) (um.1 11) (um.1 12)) _) (kb_gV wd_84389235 wd_1ba3f21d wd_8b8a4436 wd_38099713 wd_797876fe) ⟨rfl, hd_8027e590⟩ ⟨(Nat.le_of_ble_eq_true rfl), (Nat.le_of_ble_eq_true rfl)⟩ hE hP hD hS [0, 1] rfl (by decide) rfl rfl rfl hl.1 rfl (Nat.le_of_ble_eq_true rfl) d_L_law_510 ⟨(Nat.le_of_ble_eq_true rfl), (Nat.le_of_ble_eq_true rfl)⟩) (fun rv4 uu3 H locs hw hP hD hS => ?_)
  have hP : va_P G.1 kb_cl [kb_o x 3 [.ref (ux.1 0), .ref (ux.1 2), .ref (ux.1 4), .ref (ux.1 5), .ref (ux.1 30)], kb_o (ux.1 5) 2 [.ref (ux.1 29), .ref (ux.1 16), .ref (ux.1 18), .ref (ux.1 20), .ref (ux.1 22), .ref (ux.1 25), .ref (ux.1 27), .ref (ux.1 24), .ref (ux.1 12), .ref (ux.1 13), .ref (ux.1 14), .ref (ux.1 15), .int 0, .int 0], kb_o (ux.1 16) 1 [.ref (ux.1 17), .int 1], kb_o y 4 [.int 0, .ref (um.1 0), .int 0, .ref (um.1 1), .int 0, .ref (um.1 2), .ref (um.1 3), .ref (um.1 4), .ref (um.1 5), .ref (um.1 6), .ref (um.1 7), .ref (um.1 8), .ref (um.1 9), .ref (um.1 10), .ref (um.1 11), .ref (um.1 12), .int 0, .int 0, .int 0, .int 0, .int 0]] H := hP
  have hD : va_D A [kb_o x 3 [.ref (ux.1 0), .ref (ux.1 2), .ref (ux.1 4), .ref (ux.1 5), .ref (ux.1 30)], kb_o (ux.1 5) 2 [.ref (ux.1 29), .ref (ux.1 16), .ref (ux.1 18), .ref (ux.1 20), .ref (ux.1 22), .ref (ux.1 25), .ref (ux.1 27), .ref (ux.1 24), .ref (ux.1 12), .ref (ux.1 13), .ref (ux.1 14), .ref (ux.1 15), .int 0, .int 0], kb_o (ux.1 16) 1 [.ref (ux.1 17), .int 1], kb_o y 4 [.int 0, .ref (um.1 0), .int 0, .ref (um.1 1), .int 0, .ref (um.1 2), .ref (um.1 3), .ref (um.1 4), .ref (um.1 5), .ref (um.1 6), .ref (um.1 7), .ref (um.1 8), .ref (um.1 9), .ref (um.1 10), .ref (um.1 11), .ref (um.1 12), .int 0, .int 0, .int 0, .int 0, .int 0]] := hD
  refine kb_top (y := 1) (show rv4 = 1 from hw) ?_
  refine lv_icmp_eq (tgt := 940) hx hb d_L_law_513 (by decide) (fun c9 => ?_) (fun c9 => absurd (by decide) c9)
  refine lv_iinc (v := 6) (lv' := [(4, .int 6), (3, .ref o), (2, .ref y), (1, .ref x), (0, .ref b)]) hx hb d_L_law_940 hl (k := 0) rfl (by decide) (by decide) rfl (fun ls hl => ?_)
  refine lv_goto (tgt := 23) hx hb d_L_law_943 (by decide) ?_
  refine lv_iload hx hb d_L_law_23 (lv_at hl 0 rfl) ?_
  refine lv_aload_n hx hb d_L_law_25 rfl (lv_at hl 4 rfl) ?_
  refine va_slen hx hb hX hbl hbA hS d_L_law_26 ?_
  refine kb_top (y := 6) (by decide) ?_
  refine lv_bipush (v := 6) hx hb d_L_law_27 (by decide) ?_
  refine lv_isub hx hb d_L_law_29 ?_
  refine kb_top (y := 0) (by decide) ?_
  refine lv_icmp_gt (tgt := 946) hx hb d_L_law_30 (by decide) (fun c9 => ?_) (fun c9 => absurd (by decide) c9)
  refine lv_iconst (v := 1) hx hb d_L_law_946 (by decide) ?_
  refine va_forget (fun q hq => hAq _ (hS.2.2 q hq)) ?_
  refine W.widen (k := 600002) (n := 7302232) (Nat.le_of_ble_eq_true rfl) (Nat.le_of_ble_eq_true rfl) ?_
  exact lw_ret hx hb hr hlocks d_L_law_947

set_option maxHeartbeats 4000000 in
set_option maxRecDepth 100000 in
theorem lc_properties {p : Program} {l : Launch} {e : Env} {s : State} {m : MethodId} {below : List Frame} {meth : Method} {c : Code} (hst : l.stackTraces = false) {G : kb_G} {A : Nat → Prop} {b : Nat} {xs : Nat → Int32} (C0 : lw_At p s m meth c b 6 xs) (hE : kb_E G A s) (hbA : ¬ A b) (hAq : ∀ q, A q → s.heap.size ≤ q) (x y o : Nat) (ux um : kb_S) {H : Heap} {locs : List Loc} (hP : va_P G.1 kb_cl (lc_w0 G x y o ux um) H) (hD : va_D A (lc_w0 G x y o ux um)) (hS : va_S A s.heap H locs) {ls : Array Slot} (hl : lv_has ls 7 [(4, .int 0), (3, .ref o), (2, .ref y), (1, .ref x), (0, .ref b)]) (hk : xs 0 &&& 31 = 10) : W p l e room_1 s m #[Value.ref b] below meth c H locs 71 169237 (lw_Z below #[Value.ref b] s) (F0 m 23 ls []) := by
  obtain ⟨hx, hb, hr, hml, hown, hts, hX, hbl, hlocks, hgv⟩ := C0
  have hown : s.vm.findClass "TreePressLaw" = some m.cls := hown
  have ht : ∀ w ∈ kb_T, w.before #[Value.ref b] s = true := fun w h => hts w (List.mem_filter.mp h).1
  have hP : va_P G.1 kb_cl [kb_o x 3 [.ref (ux.1 0), .ref (ux.1 2), .ref (ux.1 4), .ref (ux.1 5), .ref (ux.1 30)], kb_o (ux.1 5) 2 [.ref (ux.1 29), .ref (ux.1 16), .ref (ux.1 18), .ref (ux.1 20), .ref (ux.1 22), .ref (ux.1 25), .ref (ux.1 27), .ref (ux.1 24), .ref (ux.1 12), .ref (ux.1 13), .ref (ux.1 14), .ref (ux.1 15), .int 0, .int 0], kb_o (ux.1 24) 1 [.ref (ux.1 7), .int 0], kb_o y 4 [.int 0, .ref (um.1 0), .int 0, .ref (um.1 1), .int 0, .ref (um.1 2), .ref (um.1 3), .ref (um.1 4), .ref (um.1 5), .ref (um.1 6), .ref (um.1 7), .ref (um.1 8), .ref (um.1 9), .ref (um.1 10), .ref (um.1 11), .ref (um.1 12), .int 0, .int 0, .int 0, .int 0, .int 0], kb_a G (um.1 3) 2 (upd (fun _ => 0) 0 0)] H := hP.sub [0, 24, 25, 63, 65] rfl
  have hD : va_D A [kb_o x 3 [.ref (ux.1 0), .ref (ux.1 2), .ref (ux.1 4), .ref (ux.1 5), .ref (ux.1 30)], kb_o (ux.1 5) 2 [.ref (ux.1 29), .ref (ux.1 16), .ref (ux.1 18), .ref (ux.1 20), .ref (ux.1 22), .ref (ux.1 25), .ref (ux.1 27), .ref (ux.1 24), .ref (ux.1 12), .ref (ux.1 13), .ref (ux.1 14), .ref (ux.1 15), .int 0, .int 0], kb_o (ux.1 24) 1 [.ref (ux.1 7), .int 0], kb_o y 4 [.int 0, .ref (um.1 0), .int 0, .ref (um.1 1), .int 0, .ref (um.1 2), .ref (um.1 3), .ref (um.1 4), .ref (um.1 5), .ref (um.1 6), .ref (um.1 7), .ref (um.1 8), .ref (um.1 9), .ref (um.1 10), .ref (um.1 11), .ref (um.1 12), .int 0, .int 0, .int 0, .int 0, .int 0], kb_a G (um.1 3) 2 (upd (fun _ => 0) 0 0)] := hD.sub [0, 24, 25, 63, 65] (by decide) rfl
  refine lv_iload hx hb d_L_law_23 (lv_at hl 0 rfl) ?_
  refine lv_aload_n hx hb d_L_law_25 rfl (lv_at hl 4 rfl) ?_
  refine va_slen hx hb hX hbl hbA hS d_L_law_26 ?_
  refine kb_top (y := 6) (by decide) ?_
  refine lv_bipush (v := 6) hx hb d_L_law_27 (by decide) ?_
  refine lv_isub hx hb d_L_law_29 ?_
  refine kb_top (y := 0) (by decide) ?_
  refine lv_icmp_gt (tgt := 946) hx hb d_L_law_30 (by decide) (fun c9 => absurd c9 (by decide)) (fun c9 => ?_)
  refine lv_aload_n hx hb d_L_law_33 rfl (lv_at hl 4 rfl) ?_
  refine lv_iload hx hb d_L_law_34 (lv_at hl 0 rfl) ?_
  refine va_sld hx hb hX hbl hbA hS (show ¬ ((0 : Int32) < 0 ∨ 6 ≤ (0 : Int32).toNatClampNeg) by decide) d_L_law_36 ?_
  refine kb_top (y := xs 0) rfl ?_
  refine lv_bipush (v := 31) hx hb d_L_law_37 (by decide) ?_
  refine lv_iand hx hb d_L_law_39 ?_
  refine kb_top (y := 10) (hk) ?_
  refine lv_tableIn (tgt := 518) (off := 478) hx hb d_L_law_40 (by decide) (by decide) (by decide) (by decide) ?_
  refine lv_aload_n hx hb d_L_law_518 rfl (lv_at hl 3 rfl) ?_
  refine kb_i (wc := [kb_o x 3 [.ref (ux.1 0), .ref (ux.1 2), .ref (ux.1 4), .ref (ux.1 5), .ref (ux.1 30)], kb_o (ux.1 5) 2 [.ref (ux.1 29), .ref (ux.1 16), .ref (ux.1 18), .ref (ux.1 20), .ref (ux.1 22), .ref (ux.1 25), .ref (ux.1 27), .ref (ux.1 24), .ref (ux.1 12), .ref (ux.1 13), .ref (ux.1 14), .ref (ux.1 15), .int 0, .int 0], kb_o (ux.1 24) 1 [.ref (ux.1 7), .int 0]]) (wr := [kb_o y 4 [.int 0, .ref (um.1 0), .int 0, .ref (um.1 1), .int 0, .ref (um.1 2), .ref (um.1 3), .ref (um.1 4), .ref (um.1 5), .ref (um.1 6), .ref (um.1 7), .ref (um.1 8), .ref (um.1 9), .ref (um.1 10), .ref (um.1 11), .ref (um.1 12), .int 0, .int 0, .int 0, .int 0, .int 0], kb_a G (um.1 3) 2 (upd (fun _ => 0) 0 0)]) hE hP hD hS [0, 1, 2] [3, 4] rfl rfl (by decide) (by decide) (kb_rV (As := []) (rest := []) (wc := [kb_o x 3 [.ref (ux.1 0), .ref (ux.1 2), .ref (ux.1 4), .ref (ux.1 5), .ref (ux.1 30)], kb_o (ux.1 5) 2 [.ref (ux.1 29), .ref (ux.1 16), .ref (ux.1 18), .ref (ux.1 20), .ref (ux.1 22), .ref (ux.1 25), .ref (ux.1 27), .ref (ux.1 24), .ref (ux.1 12), .ref (ux.1 13), .ref (ux.1 14), .ref (ux.1 15), .int 0, .int 0], kb_o (ux.1 24) 1 [.ref (ux.1 7), .int 0]]) (q0 := 0) ⟨hx, hb, hml, hown, ht⟩ ((c_Press_properties l G x (ux.1 0) (ux.1 2) (ux.1 4) (ux.1 5) (ux.1 30) (ux.1 29) (ux.1 16) (ux.1 18) (ux.1 20) (ux.1 22) (ux.1 25) (ux.1 27) (ux.1 24) (ux.1 12) (ux.1 13) (ux.1 14) (ux.1 15) 0 0 (ux.1 7) 0) _) (kb_gV wd_c64c586a wd_fcd694ef wd_5dc1af12 wd_28603eaf wd_7a11eb11) ⟨rfl, hd_cda5629d⟩ ⟨(Nat.le_of_ble_eq_true rfl), (Nat.le_of_ble_eq_true rfl)⟩ hE hP hD hS [0, 1, 2] rfl (by decide) rfl rfl rfl hl.1 rfl (Nat.le_of_ble_eq_true rfl) d_L_law_519 ⟨(Nat.le_of_ble_eq_true rfl), (Nat.le_of_ble_eq_true rfl)⟩) (fun rv2 uu1 H locs hw hP hD hS => ?_)
  have hP : va_P G.1 kb_cl [kb_o y 4 [.int 0, .ref (um.1 0), .int 0, .ref (um.1 1), .int 0, .ref (um.1 2), .ref (um.1 3), .ref (um.1 4), .ref (um.1 5), .ref (um.1 6), .ref (um.1 7), .ref (um.1 8), .ref (um.1 9), .ref (um.1 10), .ref (um.1 11), .ref (um.1 12), .int 0, .int 0, .int 0, .int 0, .int 0], kb_a G (um.1 3) 2 (upd (fun _ => 0) 0 0), kb_o x 3 [.ref (ux.1 0), .ref (ux.1 2), .ref (ux.1 4), .ref (ux.1 5), .ref (ux.1 30)], kb_o (ux.1 5) 2 [.ref (ux.1 29), .ref (ux.1 16), .ref (ux.1 18), .ref (ux.1 20), .ref (ux.1 22), .ref (ux.1 25), .ref (ux.1 27), .ref (ux.1 24), .ref (ux.1 12), .ref (ux.1 13), .ref (ux.1 14), .ref (ux.1 15), .int 0, .int 0], kb_o (ux.1 24) 1 [.ref (ux.1 7), .int 0]] H := hP
  have hD : va_D A [kb_o y 4 [.int 0, .ref (um.1 0), .int 0, .ref (um.1 1), .int 0, .ref (um.1 2), .ref (um.1 3), .ref (um.1 4), .ref (um.1 5), .ref (um.1 6), .ref (um.1 7), .ref (um.1 8), .ref (um.1 9), .ref (um.1 10), .ref (um.1 11), .ref (um.1 12), .int 0, .int 0, .int 0, .int 0, .int 0], kb_a G (um.1 3) 2 (upd (fun _ => 0) 0 0), kb_o x 3 [.ref (ux.1 0), .ref (ux.1 2), .ref (ux.1 4), .ref (ux.1 5), .ref (ux.1 30)], kb_o (ux.1 5) 2 [.ref (ux.1 29), .ref (ux.1 16), .ref (ux.1 18), .ref (ux.1 20), .ref (ux.1 22), .ref (ux.1 25), .ref (ux.1 27), .ref (ux.1 24), .ref (ux.1 12), .ref (ux.1 13), .ref (ux.1 14), .ref (ux.1 15), .int 0, .int 0], kb_o (ux.1 24) 1 [.ref (ux.1 7), .int 0]] := hD
  refine kb_top (y := 0) (show rv2 = 0 from hw) ?_
  refine lv_aload_n hx hb d_L_law_522 rfl (lv_at hl 2 rfl) ?_
  refine kb_i (wc := [kb_o y 4 [.int 0, .ref (um.1 0), .int 0, .ref (um.1 1), .int 0, .ref (um.1 2), .ref (um.1 3), .ref (um.1 4), .ref (um.1 5), .ref (um.1 6), .ref (um.1 7), .ref (um.1 8), .ref (um.1 9), .ref (um.1 10), .ref (um.1 11), .ref (um.1 12), .int 0, .int 0, .int 0, .int 0, .int 0], kb_a G (um.1 3) 2 (upd (fun _ => 0) 0 0)]) (wr := [kb_o x 3 [.ref (ux.1 0), .ref (ux.1 2), .ref (ux.1 4), .ref (ux.1 5), .ref (ux.1 30)], kb_o (ux.1 5) 2 [.ref (ux.1 29), .ref (ux.1 16), .ref (ux.1 18), .ref (ux.1 20), .ref (ux.1 22), .ref (ux.1 25), .ref (ux.1 27), .ref (ux.1 24), .ref (ux.1 12), .ref (ux.1 13), .ref (ux.1 14), .ref (ux.1 15), .int 0, .int 0], kb_o (ux.1 24) 1 [.ref (ux.1 7), .int 0]]) hE hP hD hS [0, 1] [2, 3, 4] rfl rfl (by decide) (by decide) (kb_rV (As := []) (rest := [.int 0]) (wc := [kb_o y 4 [.int 0, .ref (um.1 0), .int 0, .ref (um.1 1), .int 0, .ref (um.1 2), .ref (um.1 3), .ref (um.1 4), .ref (um.1 5), .ref (um.1 6), .ref (um.1 7), .ref (um.1 8), .ref (um.1 9), .ref (um.1 10), .ref (um.1 11), .ref (um.1 12), .int 0, .int 0, .int 0, .int 0, .int 0], kb_a G (um.1 3) 2 (upd (fun _ => 0) 0 0)]) (q0 := 0) ⟨hx, hb, hml, hown, ht⟩ ((c_M_properties l G y 0 (um.1 0) (um.1 1) (um.1 2) (um.1 3) (um.1 4) (um.1 5) (um.1 6) (um.1 7) (um.1 8) (um.1 9) (um.1 10) (um.1 11) (um.1 12)) _) (kb_gV wd_a068461e wd_83621bfd wd_d8a06f27 wd_38099713 wd_3142eac6) ⟨rfl, hd_239ee2a7⟩ ⟨(Nat.le_of_ble_eq_true rfl), (Nat.le_of_ble_eq_true rfl)⟩ hE hP hD hS [0, 1] rfl (by decide) rfl rfl rfl hl.1 rfl (Nat.le_of_ble_eq_true rfl) d_L_law_523 ⟨(Nat.le_of_ble_eq_true rfl), (Nat.le_of_ble_eq_true rfl)⟩) (fun rv4 uu3 H locs hw hP hD hS => ?_)
  have hP : va_P G.1 kb_cl [kb_o x 3 [.ref (ux.1 0), .ref (ux.1 2), .ref (ux.1 4), .ref (ux.1 5), .ref (ux.1 30)], kb_o (ux.1 5) 2 [.ref (ux.1 29), .ref (ux.1 16), .ref (ux.1 18), .ref (ux.1 20), .ref (ux.1 22), .ref (ux.1 25), .ref (ux.1 27), .ref (ux.1 24), .ref (ux.1 12), .ref (ux.1 13), .ref (ux.1 14), .ref (ux.1 15), .int 0, .int 0], kb_o (ux.1 24) 1 [.ref (ux.1 7), .int 0], kb_o y 4 [.int 0, .ref (um.1 0), .int 0, .ref (um.1 1), .int 0, .ref (um.1 2), .ref (um.1 3), .ref (um.1 4), .ref (um.1 5), .ref (um.1 6), .ref (um.1 7), .ref (um.1 8), .ref (um.1 9), .ref (um.1 10), .ref (um.1 11), .ref (um.1 12), .int 0, .int 0, .int 0, .int 0, .int 0]] H := hP
  have hD : va_D A [kb_o x 3 [.ref (ux.1 0), .ref (ux.1 2), .ref (ux.1 4), .ref (ux.1 5), .ref (ux.1 30)], kb_o (ux.1 5) 2 [.ref (ux.1 29), .ref (ux.1 16), .ref (ux.1 18), .ref (ux.1 20), .ref (ux.1 22), .ref (ux.1 25), .ref (ux.1 27), .ref (ux.1 24), .ref (ux.1 12), .ref (ux.1 13), .ref (ux.1 14), .ref (ux.1 15), .int 0, .int 0], kb_o (ux.1 24) 1 [.ref (ux.1 7), .int 0], kb_o y 4 [.int 0, .ref (um.1 0), .int 0, .ref (um.1 1), .int 0, .ref (um.1 2), .ref (um.1 3), .ref (um.1 4), .ref (um.1 5), .ref (um.1 6), .ref (um.1 7), .ref (um.1 8), .ref (um.1 9), .ref (um.1 10), .ref (um.1 11), .ref (um.1 12), .int 0, .int 0, .int 0, .int 0, .int 0]] := hD
  refine kb_top (y := 0) (show rv4 = 0 from hw) ?_
  refine lv_icmp_eq (tgt := 940) hx hb d_L_law_526 (by decide) (fun c9 => ?_) (fun c9 => absurd (by decide) c9)
  refine lv_iinc (v := 6) (lv' := [(4, .int 6), (3, .ref o), (2, .ref y), (1, .ref x), (0, .ref b)]) hx hb d_L_law_940 hl (k := 0) rfl (by decide) (by decide) rfl (fun ls hl => ?_)
  refine lv_goto (tgt := 23) hx hb d_L_law_943 (by decide) ?_
  refine lv_iload hx hb d_L_law_23 (lv_at hl 0 rfl) ?_
  refine lv_aload_n hx hb d_L_law_25 rfl (lv_at hl 4 rfl) ?_
  refine va_slen hx hb hX hbl hbA hS d_L_law_26 ?_
  refine kb_top (y := 6) (by decide) ?_
  refine lv_bipush (v := 6) hx hb d_L_law_27 (by decide) ?_
  refine lv_isub hx hb d_L_law_29 ?_
  refine kb_top (y := 0) (by decide) ?_
  refine lv_icmp_gt (tgt := 946) hx hb d_L_law_30 (by decide) (fun c9 => ?_) (fun c9 => absurd (by decide) c9)
  refine lv_iconst (v := 1) hx hb d_L_law_946 (by decide) ?_
  refine va_forget (fun q hq => hAq _ (hS.2.2 q hq)) ?_
  refine W.widen (k := 600002) (n := 7302232) (Nat.le_of_ble_eq_true rfl) (Nat.le_of_ble_eq_true rfl) ?_
  exact lw_ret hx hb hr hlocks d_L_law_947

set_option maxHeartbeats 4000000 in
set_option maxRecDepth 100000 in
theorem lc_node0 {p : Program} {l : Launch} {e : Env} {s : State} {m : MethodId} {below : List Frame} {meth : Method} {c : Code} (hst : l.stackTraces = false) {G : kb_G} {A : Nat → Prop} {b : Nat} {xs : Nat → Int32} (C0 : lw_At p s m meth c b 6 xs) (hE : kb_E G A s) (hbA : ¬ A b) (hAq : ∀ q, A q → s.heap.size ≤ q) (x y o : Nat) (ux um : kb_S) {H : Heap} {locs : List Loc} (hP : va_P G.1 kb_cl (lc_w0 G x y o ux um) H) (hD : va_D A (lc_w0 G x y o ux um)) (hS : va_S A s.heap H locs) {ls : Array Slot} (hl : lv_has ls 7 [(4, .int 0), (3, .ref o), (2, .ref y), (1, .ref x), (0, .ref b)]) (hk : xs 0 &&& 31 = 11) (h1 : xs 1 = 0) (h2 : xs 2 = 0) : W p l e room_1 s m #[Value.ref b] below meth c H locs 71 169237 (lw_Z below #[Value.ref b] s) (F0 m 23 ls []) := by
  obtain ⟨hx, hb, hr, hml, hown, hts, hX, hbl, hlocks, hgv⟩ := C0
  have hown : s.vm.findClass "TreePressLaw" = some m.cls := hown
  have ht : ∀ w ∈ kb_T, w.before #[Value.ref b] s = true := fun w h => hts w (List.mem_filter.mp h).1
  have hP : va_P G.1 kb_cl [kb_o x 3 [.ref (ux.1 0), .ref (ux.1 2), .ref (ux.1 4), .ref (ux.1 5), .ref (ux.1 30)], kb_o (ux.1 16) 1 [.ref (ux.1 17), .int 1], kb_a G (ux.1 17) 16 (upd (fun _ => 0) 0 (-1)), kb_o (ux.1 5) 2 [.ref (ux.1 29), .ref (ux.1 16), .ref (ux.1 18), .ref (ux.1 20), .ref (ux.1 22), .ref (ux.1 25), .ref (ux.1 27), .ref (ux.1 24), .ref (ux.1 12), .ref (ux.1 13), .ref (ux.1 14), .ref (ux.1 15), .int 0, .int 0], kb_o y 4 [.int 0, .ref (um.1 0), .int 0, .ref (um.1 1), .int 0, .ref (um.1 2), .ref (um.1 3), .ref (um.1 4), .ref (um.1 5), .ref (um.1 6), .ref (um.1 7), .ref (um.1 8), .ref (um.1 9), .ref (um.1 10), .ref (um.1 11), .ref (um.1 12), .int 0, .int 0, .int 0, .int 0, .int 0], kb_a G (um.1 2) 2 (upd (fun _ => 0) 0 1), kb_a G (um.1 3) 2 (upd (fun _ => 0) 0 0), kb_a G (um.1 5) 256 (upd (fun _ => 0) 0 (-1)), kb_a G (um.1 6) 256 (upd (fun _ => 0) 0 0), kb_a G (um.1 7) 256 (upd (fun _ => 0) 0 0), kb_j G o 1 (fun _ => 0)] H := hP.sub [0, 16, 17, 24, 63, 64, 65, 67, 68, 69, 70] rfl
  have hD : va_D A [kb_o x 3 [.ref (ux.1 0), .ref (ux.1 2), .ref (ux.1 4), .ref (ux.1 5), .ref (ux.1 30)], kb_o (ux.1 16) 1 [.ref (ux.1 17), .int 1], kb_a G (ux.1 17) 16 (upd (fun _ => 0) 0 (-1)), kb_o (ux.1 5) 2 [.ref (ux.1 29), .ref (ux.1 16), .ref (ux.1 18), .ref (ux.1 20), .ref (ux.1 22), .ref (ux.1 25), .ref (ux.1 27), .ref (ux.1 24), .ref (ux.1 12), .ref (ux.1 13), .ref (ux.1 14), .ref (ux.1 15), .int 0, .int 0], kb_o y 4 [.int 0, .ref (um.1 0), .int 0, .ref (um.1 1), .int 0, .ref (um.1 2), .ref (um.1 3), .ref (um.1 4), .ref (um.1 5), .ref (um.1 6), .ref (um.1 7), .ref (um.1 8), .ref (um.1 9), .ref (um.1 10), .ref (um.1 11), .ref (um.1 12), .int 0, .int 0, .int 0, .int 0, .int 0], kb_a G (um.1 2) 2 (upd (fun _ => 0) 0 1), kb_a G (um.1 3) 2 (upd (fun _ => 0) 0 0), kb_a G (um.1 5) 256 (upd (fun _ => 0) 0 (-1)), kb_a G (um.1 6) 256 (upd (fun _ => 0) 0 0), kb_a G (um.1 7) 256 (upd (fun _ => 0) 0 0), kb_j G o 1 (fun _ => 0)] := hD.sub [0, 16, 17, 24, 63, 64, 65, 67, 68, 69, 70] (by decide) rfl
  refine lv_iload hx hb d_L_law_23 (lv_at hl 0 rfl) ?_
  refine lv_aload_n hx hb d_L_law_25 rfl (lv_at hl 4 rfl) ?_
  refine va_slen hx hb hX hbl hbA hS d_L_law_26 ?_
  refine kb_top (y := 6) (by decide) ?_
  refine lv_bipush (v := 6) hx hb d_L_law_27 (by decide) ?_
  refine lv_isub hx hb d_L_law_29 ?_
  refine kb_top (y := 0) (by decide) ?_
  refine lv_icmp_gt (tgt := 946) hx hb d_L_law_30 (by decide) (fun c9 => absurd c9 (by decide)) (fun c9 => ?_)
  refine lv_aload_n hx hb d_L_law_33 rfl (lv_at hl 4 rfl) ?_
  refine lv_iload hx hb d_L_law_34 (lv_at hl 0 rfl) ?_
  refine va_sld hx hb hX hbl hbA hS (show ¬ ((0 : Int32) < 0 ∨ 6 ≤ (0 : Int32).toNatClampNeg) by decide) d_L_law_36 ?_
  refine kb_top (y := xs 0) rfl ?_
  refine lv_bipush (v := 31) hx hb d_L_law_37 (by decide) ?_
  refine lv_iand hx hb d_L_law_39 ?_
  refine kb_top (y := 11) (hk) ?_
  refine lv_tableIn (tgt := 531) (off := 491) hx hb d_L_law_40 (by decide) (by decide) (by decide) (by decide) ?_
  refine lv_aload_n hx hb d_L_law_531 rfl (lv_at hl 3 rfl) ?_
  refine lv_aload_n hx hb d_L_law_532 rfl (lv_at hl 4 rfl) ?_
  refine lv_iload hx hb d_L_law_533 (lv_at hl 0 rfl) ?_
  refine lv_iconst (v := 1) hx hb d_L_law_535 (by decide) ?_
  refine lv_iadd hx hb d_L_law_536 ?_
  refine kb_top (y := 1) (by decide) ?_
  refine va_sld hx hb hX hbl hbA hS (show ¬ ((1 : Int32) < 0 ∨ 6 ≤ (1 : Int32).toNatClampNeg) by decide) d_L_law_537 ?_
  refine kb_top (y := xs 1) rfl ?_
  refine kb_top (y := 0) h1 ?_
  refine lv_aload_n hx hb d_L_law_538 rfl (lv_at hl 4 rfl) ?_
  refine lv_iload hx hb d_L_law_539 (lv_at hl 0 rfl) ?_
  refine lv_iconst (v := 2) hx hb d_L_law_541 (by decide) ?_
  refine lv_iadd hx hb d_L_law_542 ?_
  refine kb_top (y := 2) (by decide) ?_
  refine va_sld hx hb hX hbl hbA hS (show ¬ ((2 : Int32) < 0 ∨ 6 ≤ (2 : Int32).toNatClampNeg) by decide) d_L_law_543 ?_
  refine kb_top (y := xs 2) rfl ?_
  refine kb_top (y := 0) h2 ?_
  refine lv_aload_n hx hb d_L_law_544 rfl (lv_at hl 1 rfl) ?_
  refine kb_i (wc := [kb_o x 3 [.ref (ux.1 0), .ref (ux.1 2), .ref (ux.1 4), .ref (ux.1 5), .ref (ux.1 30)], kb_o (ux.1 5) 2 [.ref (ux.1 29), .ref (ux.1 16), .ref (ux.1 18), .ref (ux.1 20), .ref (ux.1 22), .ref (ux.1 25), .ref (ux.1 27), .ref (ux.1 24), .ref (ux.1 12), .ref (ux.1 13), .ref (ux.1 14), .ref (ux.1 15), .int 0, .int 0], kb_o (ux.1 16) 1 [.ref (ux.1 17), .int 1], kb_a G (ux.1 17) 16 (upd (fun _ => 0) 0 (-1)), kb_j G o 1 (fun _ => 0)]) (wr := [kb_o y 4 [.int 0, .ref (um.1 0), .int 0, .ref (um.1 1), .int 0, .ref (um.1 2), .ref (um.1 3), .ref (um.1 4), .ref (um.1 5), .ref (um.1 6), .ref (um.1 7), .ref (um.1 8), .ref (um.1 9), .ref (um.1 10), .ref (um.1 11), .ref (um.1 12), .int 0, .int 0, .int 0, .int 0, .int 0], kb_a G (um.1 2) 2 (upd (fun _ => 0) 0 1), kb_a G (um.1 3) 2 (upd (fun _ => 0) 0 0), kb_a G (um.1 5) 256 (upd (fun _ => 0) 0 (-1)), kb_a G (um.1 6) 256 (upd (fun _ => 0) 0 0), kb_a G (um.1 7) 256 (upd (fun _ => 0) 0 0)]) hE hP hD hS [0, 3, 1, 2, 10] [4, 5, 6, 7, 8, 9] rfl rfl (by decide) (by decide) (kb_rH (As := [.ref x, .int 0, .int 0, .ref o]) (rest := []) (wc := [kb_o x 3 [.ref (ux.1 0), .ref (ux.1 2), .ref (ux.1 4), .ref (ux.1 5), .ref (ux.1 30)], kb_o (ux.1 5) 2 [.ref (ux.1 29), .ref (ux.1 16), .ref (ux.1 18), .ref (ux.1 20), .ref (ux.1 22), .ref (ux.1 25), .ref (ux.1 27), .ref (ux.1 24), .ref (ux.1 12), .ref (ux.1 13), .ref (ux.1 14), .ref (ux.1 15), .int 0, .int 0], kb_o (ux.1 16) 1 [.ref (ux.1 17), .int 1], kb_a G (ux.1 17) 16 (upd (fun _ => 0) 0 (-1)), kb_j G o 1 (fun _ => 0)]) ⟨hx, hb, hml, hown, ht⟩ (c_L_node0 l hst G x (ux.1 0) (ux.1 2) (ux.1 4) (ux.1 5) (ux.1 30) (ux.1 29) (ux.1 16) (ux.1 18) (ux.1 20) (ux.1 22) (ux.1 25) (ux.1 27) (ux.1 24) (ux.1 12) (ux.1 13) (ux.1 14) (ux.1 15) 0 0 (ux.1 17) o) wd_9c016892 wd_e4ece85a wd_624a7d0e wd_41ba3b2e hd_6398135a ⟨(Nat.le_of_ble_eq_true rfl), (Nat.le_of_ble_eq_true rfl)⟩ hE hP hD hS [0, 3, 1, 2, 10] rfl (by decide) hl.1 rfl (Nat.le_of_ble_eq_true rfl) d_L_law_545 ⟨(Nat.le_of_ble_eq_true rfl), (Nat.le_of_ble_eq_true rfl)⟩) (fun rv2 uu1 H locs hw hP hD hS => ?_)
  have hP : va_P G.1 kb_cl [kb_o y 4 [.int 0, .ref (um.1 0), .int 0, .ref (um.1 1), .int 0, .ref (um.1 2), .ref (um.1 3), .ref (um.1 4), .ref (um.1 5), .ref (um.1 6), .ref (um.1 7), .ref (um.1 8), .ref (um.1 9), .ref (um.1 10), .ref (um.1 11), .ref (um.1 12), .int 0, .int 0, .int 0, .int 0, .int 0], kb_a G (um.1 2) 2 (upd (fun _ => 0) 0 1), kb_a G (um.1 3) 2 (upd (fun _ => 0) 0 0), kb_a G (um.1 5) 256 (upd (fun _ => 0) 0 (-1)), kb_a G (um.1 6) 256 (upd (fun _ => 0) 0 0), kb_a G (um.1 7) 256 (upd (fun _ => 0) 0 0), kb_j G o 1 (vp_updL (fun _ => 0) 0 (((-1) : Int32).toInt64))] H := hP
  have hD : va_D A [kb_o y 4 [.int 0, .ref (um.1 0), .int 0, .ref (um.1 1), .int 0, .ref (um.1 2), .ref (um.1 3), .ref (um.1 4), .ref (um.1 5), .ref (um.1 6), .ref (um.1 7), .ref (um.1 8), .ref (um.1 9), .ref (um.1 10), .ref (um.1 11), .ref (um.1 12), .int 0, .int 0, .int 0, .int 0, .int 0], kb_a G (um.1 2) 2 (upd (fun _ => 0) 0 1), kb_a G (um.1 3) 2 (upd (fun _ => 0) 0 0), kb_a G (um.1 5) 256 (upd (fun _ => 0) 0 (-1)), kb_a G (um.1 6) 256 (upd (fun _ => 0) 0 0), kb_a G (um.1 7) 256 (upd (fun _ => 0) 0 0), kb_j G o 1 (vp_updL (fun _ => 0) 0 (((-1) : Int32).toInt64))] := hD
  refine kb_top (y := 0) (show rv2 = 0 from hw) ?_
  refine lv_istore (lv' := [(5, .int 0), (4, .int 0), (3, .ref o), (2, .ref y), (1, .ref x), (0, .ref b)]) hx hb d_L_law_548 hl (by decide) rfl (fun ls hl => ?_)
  refine lv_aload_n hx hb d_L_law_550 rfl (lv_at hl 3 rfl) ?_
  refine lv_aload_n hx hb d_L_law_551 rfl (lv_at hl 5 rfl) ?_
  refine lv_iload hx hb d_L_law_552 (lv_at hl 1 rfl) ?_
  refine lv_iconst (v := 1) hx hb d_L_law_554 (by decide) ?_
  refine lv_iadd hx hb d_L_law_555 ?_
  refine kb_top (y := 1) (by decide) ?_
  refine va_sld hx hb hX hbl hbA hS (show ¬ ((1 : Int32) < 0 ∨ 6 ≤ (1 : Int32).toNatClampNeg) by decide) d_L_law_556 ?_
  refine kb_top (y := xs 1) rfl ?_
  refine kb_top (y := 0) h1 ?_
  refine lv_aload_n hx hb d_L_law_557 rfl (lv_at hl 5 rfl) ?_
  refine lv_iload hx hb d_L_law_558 (lv_at hl 1 rfl) ?_
  refine lv_iconst (v := 2) hx hb d_L_law_560 (by decide) ?_
  refine lv_iadd hx hb d_L_law_561 ?_
  refine kb_top (y := 2) (by decide) ?_
  refine va_sld hx hb hX hbl hbA hS (show ¬ ((2 : Int32) < 0 ∨ 6 ≤ (2 : Int32).toNatClampNeg) by decide) d_L_law_562 ?_
  refine kb_top (y := xs 2) rfl ?_
  refine kb_top (y := 0) h2 ?_
  refine kb_i (wc := [kb_o y 4 [.int 0, .ref (um.1 0), .int 0, .ref (um.1 1), .int 0, .ref (um.1 2), .ref (um.1 3), .ref (um.1 4), .ref (um.1 5), .ref (um.1 6), .ref (um.1 7), .ref (um.1 8), .ref (um.1 9), .ref (um.1 10), .ref (um.1 11), .ref (um.1 12), .int 0, .int 0, .int 0, .int 0, .int 0], kb_a G (um.1 2) 2 (upd (fun _ => 0) 0 1), kb_a G (um.1 3) 2 (upd (fun _ => 0) 0 0), kb_a G (um.1 5) 256 (upd (fun _ => 0) 0 (-1)), kb_a G (um.1 6) 256 (upd (fun _ => 0) 0 0), kb_a G (um.1 7) 256 (upd (fun _ => 0) 0 0)]) (wr := [kb_j G o 1 (vp_updL (fun _ => 0) 0 (((-1) : Int32).toInt64))]) hE hP hD hS [0, 1, 2, 3, 4, 5] [6] rfl rfl (by decide) (by decide) (kb_rV (As := [.int 0, .int 0]) (rest := []) (wc := [kb_o y 4 [.int 0, .ref (um.1 0), .int 0, .ref (um.1 1), .int 0, .ref (um.1 2), .ref (um.1 3), .ref (um.1 4), .ref (um.1 5), .ref (um.1 6), .ref (um.1 7), .ref (um.1 8), .ref (um.1 9), .ref (um.1 10), .ref (um.1 11), .ref (um.1 12), .int 0, .int 0, .int 0, .int 0, .int 0], kb_a G (um.1 2) 2 (upd (fun _ => 0) 0 1), kb_a G (um.1 3) 2 (upd (fun _ => 0) 0 0), kb_a G (um.1 5) 256 (upd (fun _ => 0) 0 (-1)), kb_a G (um.1 6) 256 (upd (fun _ => 0) 0 0), kb_a G (um.1 7) 256 (upd (fun _ => 0) 0 0)]) (q0 := 0) ⟨hx, hb, hml, hown, ht⟩ ((c_M_node0 l G y 0 (um.1 0) (um.1 1) (um.1 2) (um.1 3) (um.1 4) (um.1 5) (um.1 6) (um.1 7) (um.1 8) (um.1 9) (um.1 10) (um.1 11) (um.1 12)) _) (kb_gV wd_342a0efc wd_518e3e71 wd_42666347 wd_38099713 wd_797669bc) ⟨rfl, hd_765c9157⟩ ⟨(Nat.le_of_ble_eq_true rfl), (Nat.le_of_ble_eq_true rfl)⟩ hE hP hD hS [0, 1, 2, 3, 4, 5] rfl (by decide) rfl rfl rfl hl.1 rfl (Nat.le_of_ble_eq_true rfl) d_L_law_563 ⟨(Nat.le_of_ble_eq_true rfl), (Nat.le_of_ble_eq_true rfl)⟩) (fun rv4 uu3 H locs hw hP hD hS => ?_)
  have hP : va_P G.1 kb_cl [kb_j G o 1 (vp_updL (fun _ => 0) 0 (((-1) : Int32).toInt64)), kb_o y 4 [.int 0, .ref (um.1 0), .int 0, .ref (um.1 1), .int 0, .ref (um.1 2), .ref (um.1 3), .ref (um.1 4), .ref (um.1 5), .ref (um.1 6), .ref (um.1 7), .ref (um.1 8), .ref (um.1 9), .ref (um.1 10), .ref (um.1 11), .ref (um.1 12), .int 0, .int 0, .int 0, .int 0, .int 0]] H := hP
  have hD : va_D A [kb_j G o 1 (vp_updL (fun _ => 0) 0 (((-1) : Int32).toInt64)), kb_o y 4 [.int 0, .ref (um.1 0), .int 0, .ref (um.1 1), .int 0, .ref (um.1 2), .ref (um.1 3), .ref (um.1 4), .ref (um.1 5), .ref (um.1 6), .ref (um.1 7), .ref (um.1 8), .ref (um.1 9), .ref (um.1 10), .ref (um.1 11), .ref (um.1 12), .int 0, .int 0, .int 0, .int 0, .int 0]] := hD
  refine kb_top (y := (-1)) (show rv4 = (-1) from hw) ?_
  refine lv_istore (lv' := [(6, .int (-1)), (5, .int 0), (4, .int 0), (3, .ref o), (2, .ref y), (1, .ref x), (0, .ref b)]) hx hb d_L_law_566 hl (by decide) rfl (fun ls hl => ?_)
  refine lv_aload_n hx hb d_L_law_568 rfl (lv_at hl 4 rfl) ?_
  refine kb_i (wc := [kb_o y 4 [.int 0, .ref (um.1 0), .int 0, .ref (um.1 1), .int 0, .ref (um.1 2), .ref (um.1 3), .ref (um.1 4), .ref (um.1 5), .ref (um.1 6), .ref (um.1 7), .ref (um.1 8), .ref (um.1 9), .ref (um.1 10), .ref (um.1 11), .ref (um.1 12), .int 0, .int 0, .int 0, .int 0, .int 0]]) (wr := [kb_j G o 1 (vp_updL (fun _ => 0) 0 (((-1) : Int32).toInt64))]) hE hP hD hS [1] [0] rfl rfl (by decide) (by decide) (kb_rV (As := []) (rest := []) (wc := [kb_o y 4 [.int 0, .ref (um.1 0), .int 0, .ref (um.1 1), .int 0, .ref (um.1 2), .ref (um.1 3), .ref (um.1 4), .ref (um.1 5), .ref (um.1 6), .ref (um.1 7), .ref (um.1 8), .ref (um.1 9), .ref (um.1 10), .ref (um.1 11), .ref (um.1 12), .int 0, .int 0, .int 0, .int 0, .int 0]]) (q0 := 0) ⟨hx, hb, hml, hown, ht⟩ ((c_M_thrown l G y 0 (um.1 0) (um.1 1) (um.1 2) (um.1 3) (um.1 4) (um.1 5) (um.1 6) (um.1 7) (um.1 8) (um.1 9) (um.1 10) (um.1 11) (um.1 12) 0 0 0 0) _) (kb_gV wd_1946a056 wd_e9c50365 wd_a707e5a8 wd_38099713 wd_79f18ba3) ⟨rfl, hd_2a236ec3⟩ ⟨(Nat.le_of_ble_eq_true rfl), (Nat.le_of_ble_eq_true rfl)⟩ hE hP hD hS [1] rfl (by decide) rfl rfl rfl hl.1 rfl (Nat.le_of_ble_eq_true rfl) d_L_law_569 ⟨(Nat.le_of_ble_eq_true rfl), (Nat.le_of_ble_eq_true rfl)⟩) (fun rv6 uu5 H locs hw hP hD hS => ?_)
  have hP : va_P G.1 kb_cl [kb_j G o 1 (vp_updL (fun _ => 0) 0 (((-1) : Int32).toInt64)), kb_o y 4 [.int 0, .ref (um.1 0), .int 0, .ref (um.1 1), .int 0, .ref (um.1 2), .ref (um.1 3), .ref (um.1 4), .ref (um.1 5), .ref (um.1 6), .ref (um.1 7), .ref (um.1 8), .ref (um.1 9), .ref (um.1 10), .ref (um.1 11), .ref (um.1 12), .int 0, .int 0, .int 0, .int 0, .int 0]] H := hP
  have hD : va_D A [kb_j G o 1 (vp_updL (fun _ => 0) 0 (((-1) : Int32).toInt64)), kb_o y 4 [.int 0, .ref (um.1 0), .int 0, .ref (um.1 1), .int 0, .ref (um.1 2), .ref (um.1 3), .ref (um.1 4), .ref (um.1 5), .ref (um.1 6), .ref (um.1 7), .ref (um.1 8), .ref (um.1 9), .ref (um.1 10), .ref (um.1 11), .ref (um.1 12), .int 0, .int 0, .int 0, .int 0, .int 0]] := hD
  refine kb_top (y := 0) (show rv6 = 0 from hw) ?_
  refine lv_iload hx hb d_L_law_572 (lv_at hl 1 rfl) ?_
  refine lv_icmp_eq (tgt := 579) hx hb d_L_law_574 (by decide) (fun c9 => ?_) (fun c9 => absurd (by decide) c9)
  refine lv_iload hx hb d_L_law_579 (lv_at hl 1 rfl) ?_
  refine lv_if_ne (tgt := 596) hx hb d_L_law_581 (by decide) (fun c9 => absurd (by decide) c9) (fun c9 => ?_)
  refine lv_aload_n hx hb d_L_law_584 rfl (lv_at hl 3 rfl) ?_
  refine lv_iconst (v := 0) hx hb d_L_law_585 (by decide) ?_
  refine va_lald hx hb hE.1 hP 0 1 rfl rfl (show ¬ ((0 : Int32) < 0 ∨ 1 ≤ (0 : Int32).toNatClampNeg) by decide) d_L_law_586 ?_
  refine kb_topl (y := ((-1) : Int32).toInt64) rfl ?_
  refine lv_iload hx hb d_L_law_587 (lv_at hl 0 rfl) ?_
  refine lv_i2l (v := ((-1) : Int32).toInt64) hx hb d_L_law_589 rfl ?_
  refine W.lcmp hx hb d_L_law_590 ?_
  refine kb_top (y := 0) (by decide) ?_
  refine lv_if_eq (tgt := 596) hx hb d_L_law_591 (by decide) (fun c9 => ?_) (fun c9 => absurd (by decide) c9)
  refine lv_goto (tgt := 940) hx hb d_L_law_596 (by decide) ?_
  refine lv_iinc (v := 6) (lv' := [(4, .int 6), (6, .int (-1)), (5, .int 0), (3, .ref o), (2, .ref y), (1, .ref x), (0, .ref b)]) hx hb d_L_law_940 hl (k := 2) rfl (by decide) (by decide) rfl (fun ls hl => ?_)
  refine lv_goto (tgt := 23) hx hb d_L_law_943 (by decide) ?_
  refine lv_iload hx hb d_L_law_23 (lv_at hl 0 rfl) ?_
  refine lv_aload_n hx hb d_L_law_25 rfl (lv_at hl 6 rfl) ?_
  refine va_slen hx hb hX hbl hbA hS d_L_law_26 ?_
  refine kb_top (y := 6) (by decide) ?_
  refine lv_bipush (v := 6) hx hb d_L_law_27 (by decide) ?_
  refine lv_isub hx hb d_L_law_29 ?_
  refine kb_top (y := 0) (by decide) ?_
  refine lv_icmp_gt (tgt := 946) hx hb d_L_law_30 (by decide) (fun c9 => ?_) (fun c9 => absurd (by decide) c9)
  refine lv_iconst (v := 1) hx hb d_L_law_946 (by decide) ?_
  refine va_forget (fun q hq => hAq _ (hS.2.2 q hq)) ?_
  refine W.widen (k := 600002) (n := 7302232) (Nat.le_of_ble_eq_true rfl) (Nat.le_of_ble_eq_true rfl) ?_
  exact lw_ret hx hb hr hlocks d_L_law_947

set_option maxHeartbeats 4000000 in
set_option maxRecDepth 100000 in
theorem lc_node1 {p : Program} {l : Launch} {e : Env} {s : State} {m : MethodId} {below : List Frame} {meth : Method} {c : Code} (hst : l.stackTraces = false) {G : kb_G} {A : Nat → Prop} {b : Nat} {xs : Nat → Int32} (C0 : lw_At p s m meth c b 6 xs) (hE : kb_E G A s) (hbA : ¬ A b) (hAq : ∀ q, A q → s.heap.size ≤ q) (x y o : Nat) (ux um : kb_S) {H : Heap} {locs : List Loc} (hP : va_P G.1 kb_cl (lc_w0 G x y o ux um) H) (hD : va_D A (lc_w0 G x y o ux um)) (hS : va_S A s.heap H locs) {ls : Array Slot} (hl : lv_has ls 7 [(4, .int 0), (3, .ref o), (2, .ref y), (1, .ref x), (0, .ref b)]) (hk : xs 0 &&& 31 = 11) (h1 : xs 1 = 0) (h2 : xs 2 = 1) : W p l e room_1 s m #[Value.ref b] below meth c H locs 71 169237 (lw_Z below #[Value.ref b] s) (F0 m 23 ls []) := by
  obtain ⟨hx, hb, hr, hml, hown, hts, hX, hbl, hlocks, hgv⟩ := C0
  have hown : s.vm.findClass "TreePressLaw" = some m.cls := hown
  have ht : ∀ w ∈ kb_T, w.before #[Value.ref b] s = true := fun w h => hts w (List.mem_filter.mp h).1
  have hP : va_P G.1 kb_cl [kb_o x 3 [.ref (ux.1 0), .ref (ux.1 2), .ref (ux.1 4), .ref (ux.1 5), .ref (ux.1 30)], kb_o (ux.1 16) 1 [.ref (ux.1 17), .int 1], kb_o (ux.1 5) 2 [.ref (ux.1 29), .ref (ux.1 16), .ref (ux.1 18), .ref (ux.1 20), .ref (ux.1 22), .ref (ux.1 25), .ref (ux.1 27), .ref (ux.1 24), .ref (ux.1 12), .ref (ux.1 13), .ref (ux.1 14), .ref (ux.1 15), .int 0, .int 0], kb_o (ux.1 27) 1 [.ref (ux.1 28), .int 1], kb_a G (ux.1 28) 16 (upd (fun _ => 0) 0 0), kb_o y 4 [.int 0, .ref (um.1 0), .int 0, .ref (um.1 1), .int 0, .ref (um.1 2), .ref (um.1 3), .ref (um.1 4), .ref (um.1 5), .ref (um.1 6), .ref (um.1 7), .ref (um.1 8), .ref (um.1 9), .ref (um.1 10), .ref (um.1 11), .ref (um.1 12), .int 0, .int 0, .int 0, .int 0, .int 0], kb_a G (um.1 2) 2 (upd (fun _ => 0) 0 1), kb_a G (um.1 3) 2 (upd (fun _ => 0) 0 0), kb_a G (um.1 5) 256 (upd (fun _ => 0) 0 (-1)), kb_a G (um.1 6) 256 (upd (fun _ => 0) 0 0), kb_a G (um.1 7) 256 (upd (fun _ => 0) 0 0), kb_j G o 1 (fun _ => 0)] H := hP.sub [0, 16, 24, 28, 29, 63, 64, 65, 67, 68, 69, 70] rfl
  have hD : va_D A [kb_o x 3 [.ref (ux.1 0), .ref (ux.1 2), .ref (ux.1 4), .ref (ux.1 5), .ref (ux.1 30)], kb_o (ux.1 16) 1 [.ref (ux.1 17), .int 1], kb_o (ux.1 5) 2 [.ref (ux.1 29), .ref (ux.1 16), .ref (ux.1 18), .ref (ux.1 20), .ref (ux.1 22), .ref (ux.1 25), .ref (ux.1 27), .ref (ux.1 24), .ref (ux.1 12), .ref (ux.1 13), .ref (ux.1 14), .ref (ux.1 15), .int 0, .int 0], kb_o (ux.1 27) 1 [.ref (ux.1 28), .int 1], kb_a G (ux.1 28) 16 (upd (fun _ => 0) 0 0), kb_o y 4 [.int 0, .ref (um.1 0), .int 0, .ref (um.1 1), .int 0, .ref (um.1 2), .ref (um.1 3), .ref (um.1 4), .ref (um.1 5), .ref (um.1 6), .ref (um.1 7), .ref (um.1 8), .ref (um.1 9), .ref (um.1 10), .ref (um.1 11), .ref (um.1 12), .int 0, .int 0, .int 0, .int 0, .int 0], kb_a G (um.1 2) 2 (upd (fun _ => 0) 0 1), kb_a G (um.1 3) 2 (upd (fun _ => 0) 0 0), kb_a G (um.1 5) 256 (upd (fun _ => 0) 0 (-1)), kb_a G (um.1 6) 256 (upd (fun _ => 0) 0 0), kb_a G (um.1 7) 256 (upd (fun _ => 0) 0 0), kb_j G o 1 (fun _ => 0)] := hD.sub [0, 16, 24, 28, 29, 63, 64, 65, 67, 68, 69, 70] (by decide) rfl
  refine lv_iload hx hb d_L_law_23 (lv_at hl 0 rfl) ?_
  refine lv_aload_n hx hb d_L_law_25 rfl (lv_at hl 4 rfl) ?_
  refine va_slen hx hb hX hbl hbA hS d_L_law_26 ?_
  refine kb_top (y := 6) (by decide) ?_
  refine lv_bipush (v := 6) hx hb d_L_law_27 (by decide) ?_
  refine lv_isub hx hb d_L_law_29 ?_
  refine kb_top (y := 0) (by decide) ?_
  refine lv_icmp_gt (tgt := 946) hx hb d_L_law_30 (by decide) (fun c9 => absurd c9 (by decide)) (fun c9 => ?_)
  refine lv_aload_n hx hb d_L_law_33 rfl (lv_at hl 4 rfl) ?_
  refine lv_iload hx hb d_L_law_34 (lv_at hl 0 rfl) ?_
  refine va_sld hx hb hX hbl hbA hS (show ¬ ((0 : Int32) < 0 ∨ 6 ≤ (0 : Int32).toNatClampNeg) by decide) d_L_law_36 ?_
  refine kb_top (y := xs 0) rfl ?_
  refine lv_bipush (v := 31) hx hb d_L_law_37 (by decide) ?_
  refine lv_iand hx hb d_L_law_39 ?_
  refine kb_top (y := 11) (hk) ?_
  refine lv_tableIn (tgt := 531) (off := 491) hx hb d_L_law_40 (by decide) (by decide) (by decide) (by decide) ?_
  refine lv_aload_n hx hb d_L_law_531 rfl (lv_at hl 3 rfl) ?_
  refine lv_aload_n hx hb d_L_law_532 rfl (lv_at hl 4 rfl) ?_
  refine lv_iload hx hb d_L_law_533 (lv_at hl 0 rfl) ?_
  refine lv_iconst (v := 1) hx hb d_L_law_535 (by decide) ?_
  refine lv_iadd hx hb d_L_law_536 ?_
  refine kb_top (y := 1) (by decide) ?_
  refine va_sld hx hb hX hbl hbA hS (show ¬ ((1 : Int32) < 0 ∨ 6 ≤ (1 : Int32).toNatClampNeg) by decide) d_L_law_537 ?_
  refine kb_top (y := xs 1) rfl ?_
  refine kb_top (y := 0) h1 ?_
  refine lv_aload_n hx hb d_L_law_538 rfl (lv_at hl 4 rfl) ?_
  refine lv_iload hx hb d_L_law_539 (lv_at hl 0 rfl) ?_
  refine lv_iconst (v := 2) hx hb d_L_law_541 (by decide) ?_
  refine lv_iadd hx hb d_L_law_542 ?_
  refine kb_top (y := 2) (by decide) ?_
  refine va_sld hx hb hX hbl hbA hS (show ¬ ((2 : Int32) < 0 ∨ 6 ≤ (2 : Int32).toNatClampNeg) by decide) d_L_law_543 ?_
  refine kb_top (y := xs 2) rfl ?_
  refine kb_top (y := 1) h2 ?_
  refine lv_aload_n hx hb d_L_law_544 rfl (lv_at hl 1 rfl) ?_
  refine kb_i (wc := [kb_o x 3 [.ref (ux.1 0), .ref (ux.1 2), .ref (ux.1 4), .ref (ux.1 5), .ref (ux.1 30)], kb_o (ux.1 5) 2 [.ref (ux.1 29), .ref (ux.1 16), .ref (ux.1 18), .ref (ux.1 20), .ref (ux.1 22), .ref (ux.1 25), .ref (ux.1 27), .ref (ux.1 24), .ref (ux.1 12), .ref (ux.1 13), .ref (ux.1 14), .ref (ux.1 15), .int 0, .int 0], kb_o (ux.1 16) 1 [.ref (ux.1 17), .int 1], kb_o (ux.1 27) 1 [.ref (ux.1 28), .int 1], kb_a G (ux.1 28) 16 (upd (fun _ => 0) 0 0), kb_j G o 1 (fun _ => 0)]) (wr := [kb_o y 4 [.int 0, .ref (um.1 0), .int 0, .ref (um.1 1), .int 0, .ref (um.1 2), .ref (um.1 3), .ref (um.1 4), .ref (um.1 5), .ref (um.1 6), .ref (um.1 7), .ref (um.1 8), .ref (um.1 9), .ref (um.1 10), .ref (um.1 11), .ref (um.1 12), .int 0, .int 0, .int 0, .int 0, .int 0], kb_a G (um.1 2) 2 (upd (fun _ => 0) 0 1), kb_a G (um.1 3) 2 (upd (fun _ => 0) 0 0), kb_a G (um.1 5) 256 (upd (fun _ => 0) 0 (-1)), kb_a G (um.1 6) 256 (upd (fun _ => 0) 0 0), kb_a G (um.1 7) 256 (upd (fun _ => 0) 0 0)]) hE hP hD hS [0, 2, 1, 3, 4, 11] [5, 6, 7, 8, 9, 10] rfl rfl (by decide) (by decide) (kb_rH (As := [.ref x, .int 0, .int 1, .ref o]) (rest := []) (wc := [kb_o x 3 [.ref (ux.1 0), .ref (ux.1 2), .ref (ux.1 4), .ref (ux.1 5), .ref (ux.1 30)], kb_o (ux.1 5) 2 [.ref (ux.1 29), .ref (ux.1 16), .ref (ux.1 18), .ref (ux.1 20), .ref (ux.1 22), .ref (ux.1 25), .ref (ux.1 27), .ref (ux.1 24), .ref (ux.1 12), .ref (ux.1 13), .ref (ux.1 14), .ref (ux.1 15), .int 0, .int 0], kb_o (ux.1 16) 1 [.ref (ux.1 17), .int 1], kb_o (ux.1 27) 1 [.ref (ux.1 28), .int 1], kb_a G (ux.1 28) 16 (upd (fun _ => 0) 0 0), kb_j G o 1 (fun _ => 0)]) ⟨hx, hb, hml, hown, ht⟩ (c_L_node1 l hst G x (ux.1 0) (ux.1 2) (ux.1 4) (ux.1 5) (ux.1 30) (ux.1 29) (ux.1 16) (ux.1 18) (ux.1 20) (ux.1 22) (ux.1 25) (ux.1 27) (ux.1 24) (ux.1 12) (ux.1 13) (ux.1 14) (ux.1 15) 0 0 (ux.1 17) (ux.1 28) o) wd_9c016892 wd_e4ece85a wd_624a7d0e wd_41ba3b2e hd_6398135a ⟨(Nat.le_of_ble_eq_true rfl), (Nat.le_of_ble_eq_true rfl)⟩ hE hP hD hS [0, 2, 1, 3, 4, 11] rfl (by decide) hl.1 rfl (Nat.le_of_ble_eq_true rfl) d_L_law_545 ⟨(Nat.le_of_ble_eq_true rfl), (Nat.le_of_ble_eq_true rfl)⟩) (fun rv2 uu1 H locs hw hP hD hS => ?_)
  have hP : va_P G.1 kb_cl [kb_o y 4 [.int 0, .ref (um.1 0), .int 0, .ref (um.1 1), .int 0, .ref (um.1 2), .ref (um.1 3), .ref (um.1 4), .ref (um.1 5), .ref (um.1 6), .ref (um.1 7), .ref (um.1 8), .ref (um.1 9), .ref (um.1 10), .ref (um.1 11), .ref (um.1 12), .int 0, .int 0, .int 0, .int 0, .int 0], kb_a G (um.1 2) 2 (upd (fun _ => 0) 0 1), kb_a G (um.1 3) 2 (upd (fun _ => 0) 0 0), kb_a G (um.1 5) 256 (upd (fun _ => 0) 0 (-1)), kb_a G (um.1 6) 256 (upd (fun _ => 0) 0 0), kb_a G (um.1 7) 256 (upd (fun _ => 0) 0 0), kb_j G o 1 (vp_updL (fun _ => 0) 0 ((0 : Int32).toInt64))] H := hP
  have hD : va_D A [kb_o y 4 [.int 0, .ref (um.1 0), .int 0, .ref (um.1 1), .int 0, .ref (um.1 2), .ref (um.1 3), .ref (um.1 4), .ref (um.1 5), .ref (um.1 6), .ref (um.1 7), .ref (um.1 8), .ref (um.1 9), .ref (um.1 10), .ref (um.1 11), .ref (um.1 12), .int 0, .int 0, .int 0, .int 0, .int 0], kb_a G (um.1 2) 2 (upd (fun _ => 0) 0 1), kb_a G (um.1 3) 2 (upd (fun _ => 0) 0 0), kb_a G (um.1 5) 256 (upd (fun _ => 0) 0 (-1)), kb_a G (um.1 6) 256 (upd (fun _ => 0) 0 0), kb_a G (um.1 7) 256 (upd (fun _ => 0) 0 0), kb_j G o 1 (vp_updL (fun _ => 0) 0 ((0 : Int32).toInt64))] := hD
  refine kb_top (y := 0) (show rv2 = 0 from hw) ?_
  refine lv_istore (lv' := [(5, .int 0), (4, .int 0), (3, .ref o), (2, .ref y), (1, .ref x), (0, .ref b)]) hx hb d_L_law_548 hl (by decide) rfl (fun ls hl => ?_)
  refine lv_aload_n hx hb d_L_law_550 rfl (lv_at hl 3 rfl) ?_
  refine lv_aload_n hx hb d_L_law_551 rfl (lv_at hl 5 rfl) ?_
  refine lv_iload hx hb d_L_law_552 (lv_at hl 1 rfl) ?_
  refine lv_iconst (v := 1) hx hb d_L_law_554 (by decide) ?_
  refine lv_iadd hx hb d_L_law_555 ?_
  refine kb_top (y := 1) (by decide) ?_
  refine va_sld hx hb hX hbl hbA hS (show ¬ ((1 : Int32) < 0 ∨ 6 ≤ (1 : Int32).toNatClampNeg) by decide) d_L_law_556 ?_
  refine kb_top (y := xs 1) rfl ?_
  refine kb_top (y := 0) h1 ?_
  refine lv_aload_n hx hb d_L_law_557 rfl (lv_at hl 5 rfl) ?_
  refine lv_iload hx hb d_L_law_558 (lv_at hl 1 rfl) ?_
  refine lv_iconst (v := 2) hx hb d_L_law_560 (by decide) ?_
  refine lv_iadd hx hb d_L_law_561 ?_
  refine kb_top (y := 2) (by decide) ?_
  refine va_sld hx hb hX hbl hbA hS (show ¬ ((2 : Int32) < 0 ∨ 6 ≤ (2 : Int32).toNatClampNeg) by decide) d_L_law_562 ?_
  refine kb_top (y := xs 2) rfl ?_
  refine kb_top (y := 1) h2 ?_
  refine kb_i (wc := [kb_o y 4 [.int 0, .ref (um.1 0), .int 0, .ref (um.1 1), .int 0, .ref (um.1 2), .ref (um.1 3), .ref (um.1 4), .ref (um.1 5), .ref (um.1 6), .ref (um.1 7), .ref (um.1 8), .ref (um.1 9), .ref (um.1 10), .ref (um.1 11), .ref (um.1 12), .int 0, .int 0, .int 0, .int 0, .int 0], kb_a G (um.1 2) 2 (upd (fun _ => 0) 0 1), kb_a G (um.1 3) 2 (upd (fun _ => 0) 0 0), kb_a G (um.1 5) 256 (upd (fun _ => 0) 0 (-1)), kb_a G (um.1 6) 256 (upd (fun _ => 0) 0 0), kb_a G (um.1 7) 256 (upd (fun _ => 0) 0 0)]) (wr := [kb_j G o 1 (vp_updL (fun _ => 0) 0 ((0 : Int32).toInt64))]) hE hP hD hS [0, 1, 2, 3, 4, 5] [6] rfl rfl (by decide) (by decide) (kb_rV (As := [.int 0, .int 1]) (rest := []) (wc := [kb_o y 4 [.int 0, .ref (um.1 0), .int 0, .ref (um.1 1), .int 0, .ref (um.1 2), .ref (um.1 3), .ref (um.1 4), .ref (um.1 5), .ref (um.1 6), .ref (um.1 7), .ref (um.1 8), .ref (um.1 9), .ref (um.1 10), .ref (um.1 11), .ref (um.1 12), .int 0, .int 0, .int 0, .int 0, .int 0], kb_a G (um.1 2) 2 (upd (fun _ => 0) 0 1), kb_a G (um.1 3) 2 (upd (fun _ => 0) 0 0), kb_a G (um.1 5) 256 (upd (fun _ => 0) 0 (-1)), kb_a G (um.1 6) 256 (upd (fun _ => 0) 0 0), kb_a G (um.1 7) 256 (upd (fun _ => 0) 0 0)]) (q0 := 0) ⟨hx, hb, hml, hown, ht⟩ ((c_M_node1 l G y 0 (um.1 0) (um.1 1) (um.1 2) (um.1 3) (um.1 4) (um.1 5) (um.1 6) (um.1 7) (um.1 8) (um.1 9) (um.1 10) (um.1 11) (um.1 12)) _) (kb_gV wd_342a0efc wd_518e3e71 wd_42666347 wd_38099713 wd_797669bc) ⟨rfl, hd_765c9157⟩ ⟨(Nat.le_of_ble_eq_true rfl), (Nat.le_of_ble_eq_true rfl)⟩ hE hP hD hS [0, 1, 2, 3, 4, 5] rfl (by decide) rfl rfl rfl hl.1 rfl (Nat.le_of_ble_eq_true rfl) d_L_law_563 ⟨(Nat.le_of_ble_eq_true rfl), (Nat.le_of_ble_eq_true rfl)⟩) (fun rv4 uu3 H locs hw hP hD hS => ?_)
  have hP : va_P G.1 kb_cl [kb_j G o 1 (vp_updL (fun _ => 0) 0 ((0 : Int32).toInt64)), kb_o y 4 [.int 0, .ref (um.1 0), .int 0, .ref (um.1 1), .int 0, .ref (um.1 2), .ref (um.1 3), .ref (um.1 4), .ref (um.1 5), .ref (um.1 6), .ref (um.1 7), .ref (um.1 8), .ref (um.1 9), .ref (um.1 10), .ref (um.1 11), .ref (um.1 12), .int 0, .int 0, .int 0, .int 0, .int 0]] H := hP
  have hD : va_D A [kb_j G o 1 (vp_updL (fun _ => 0) 0 ((0 : Int32).toInt64)), kb_o y 4 [.int 0, .ref (um.1 0), .int 0, .ref (um.1 1), .int 0, .ref (um.1 2), .ref (um.1 3), .ref (um.1 4), .ref (um.1 5), .ref (um.1 6), .ref (um.1 7), .ref (um.1 8), .ref (um.1 9), .ref (um.1 10), .ref (um.1 11), .ref (um.1 12), .int 0, .int 0, .int 0, .int 0, .int 0]] := hD
  refine kb_top (y := 0) (show rv4 = 0 from hw) ?_
  refine lv_istore (lv' := [(6, .int 0), (5, .int 0), (4, .int 0), (3, .ref o), (2, .ref y), (1, .ref x), (0, .ref b)]) hx hb d_L_law_566 hl (by decide) rfl (fun ls hl => ?_)
  refine lv_aload_n hx hb d_L_law_568 rfl (lv_at hl 4 rfl) ?_
  refine kb_i (wc := [kb_o y 4 [.int 0, .ref (um.1 0), .int 0, .ref (um.1 1), .int 0, .ref (um.1 2), .ref (um.1 3), .ref (um.1 4), .ref (um.1 5), .ref (um.1 6), .ref (um.1 7), .ref (um.1 8), .ref (um.1 9), .ref (um.1 10), .ref (um.1 11), .ref (um.1 12), .int 0, .int 0, .int 0, .int 0, .int 0]]) (wr := [kb_j G o 1 (vp_updL (fun _ => 0) 0 ((0 : Int32).toInt64))]) hE hP hD hS [1] [0] rfl rfl (by decide) (by decide) (kb_rV (As := []) (rest := []) (wc := [kb_o y 4 [.int 0, .ref (um.1 0), .int 0, .ref (um.1 1), .int 0, .ref (um.1 2), .ref (um.1 3), .ref (um.1 4), .ref (um.1 5), .ref (um.1 6), .ref (um.1 7), .ref (um.1 8), .ref (um.1 9), .ref (um.1 10), .ref (um.1 11), .ref (um.1 12), .int 0, .int 0, .int 0, .int 0, .int 0]]) (q0 := 0) ⟨hx, hb, hml, hown, ht⟩ ((c_M_thrown l G y 0 (um.1 0) (um.1 1) (um.1 2) (um.1 3) (um.1 4) (um.1 5) (um.1 6) (um.1 7) (um.1 8) (um.1 9) (um.1 10) (um.1 11) (um.1 12) 0 0 0 0) _) (kb_gV wd_1946a056 wd_e9c50365 wd_a707e5a8 wd_38099713 wd_79f18ba3) ⟨rfl, hd_2a236ec3⟩ ⟨(Nat.le_of_ble_eq_true rfl), (Nat.le_of_ble_eq_true rfl)⟩ hE hP hD hS [1] rfl (by decide) rfl rfl rfl hl.1 rfl (Nat.le_of_ble_eq_true rfl) d_L_law_569 ⟨(Nat.le_of_ble_eq_true rfl), (Nat.le_of_ble_eq_true rfl)⟩) (fun rv6 uu5 H locs hw hP hD hS => ?_)
  have hP : va_P G.1 kb_cl [kb_j G o 1 (vp_updL (fun _ => 0) 0 ((0 : Int32).toInt64)), kb_o y 4 [.int 0, .ref (um.1 0), .int 0, .ref (um.1 1), .int 0, .ref (um.1 2), .ref (um.1 3), .ref (um.1 4), .ref (um.1 5), .ref (um.1 6), .ref (um.1 7), .ref (um.1 8), .ref (um.1 9), .ref (um.1 10), .ref (um.1 11), .ref (um.1 12), .int 0, .int 0, .int 0, .int 0, .int 0]] H := hP
  have hD : va_D A [kb_j G o 1 (vp_updL (fun _ => 0) 0 ((0 : Int32).toInt64)), kb_o y 4 [.int 0, .ref (um.1 0), .int 0, .ref (um.1 1), .int 0, .ref (um.1 2), .ref (um.1 3), .ref (um.1 4), .ref (um.1 5), .ref (um.1 6), .ref (um.1 7), .ref (um.1 8), .ref (um.1 9), .ref (um.1 10), .ref (um.1 11), .ref (um.1 12), .int 0, .int 0, .int 0, .int 0, .int 0]] := hD
  refine kb_top (y := 0) (show rv6 = 0 from hw) ?_
  refine lv_iload hx hb d_L_law_572 (lv_at hl 1 rfl) ?_
  refine lv_icmp_eq (tgt := 579) hx hb d_L_law_574 (by decide) (fun c9 => ?_) (fun c9 => absurd (by decide) c9)
  refine lv_iload hx hb d_L_law_579 (lv_at hl 1 rfl) ?_
  refine lv_if_ne (tgt := 596) hx hb d_L_law_581 (by decide) (fun c9 => absurd (by decide) c9) (fun c9 => ?_)
  refine lv_aload_n hx hb d_L_law_584 rfl (lv_at hl 3 rfl) ?_
  refine lv_iconst (v := 0) hx hb d_L_law_585 (by decide) ?_
  refine va_lald hx hb hE.1 hP 0 1 rfl rfl (show ¬ ((0 : Int32) < 0 ∨ 1 ≤ (0 : Int32).toNatClampNeg) by decide) d_L_law_586 ?_
  refine kb_topl (y := (0 : Int32).toInt64) rfl ?_
  refine lv_iload hx hb d_L_law_587 (lv_at hl 0 rfl) ?_
  refine lv_i2l (v := (0 : Int32).toInt64) hx hb d_L_law_589 rfl ?_
  refine W.lcmp hx hb d_L_law_590 ?_
  refine kb_top (y := 0) (by decide) ?_
  refine lv_if_eq (tgt := 596) hx hb d_L_law_591 (by decide) (fun c9 => ?_) (fun c9 => absurd (by decide) c9)
  refine lv_goto (tgt := 940) hx hb d_L_law_596 (by decide) ?_
  refine lv_iinc (v := 6) (lv' := [(4, .int 6), (6, .int 0), (5, .int 0), (3, .ref o), (2, .ref y), (1, .ref x), (0, .ref b)]) hx hb d_L_law_940 hl (k := 2) rfl (by decide) (by decide) rfl (fun ls hl => ?_)
  refine lv_goto (tgt := 23) hx hb d_L_law_943 (by decide) ?_
  refine lv_iload hx hb d_L_law_23 (lv_at hl 0 rfl) ?_
  refine lv_aload_n hx hb d_L_law_25 rfl (lv_at hl 6 rfl) ?_
  refine va_slen hx hb hX hbl hbA hS d_L_law_26 ?_
  refine kb_top (y := 6) (by decide) ?_
  refine lv_bipush (v := 6) hx hb d_L_law_27 (by decide) ?_
  refine lv_isub hx hb d_L_law_29 ?_
  refine kb_top (y := 0) (by decide) ?_
  refine lv_icmp_gt (tgt := 946) hx hb d_L_law_30 (by decide) (fun c9 => ?_) (fun c9 => absurd (by decide) c9)
  refine lv_iconst (v := 1) hx hb d_L_law_946 (by decide) ?_
  refine va_forget (fun q hq => hAq _ (hS.2.2 q hq)) ?_
  refine W.widen (k := 600002) (n := 7302232) (Nat.le_of_ble_eq_true rfl) (Nat.le_of_ble_eq_true rfl) ?_
  exact lw_ret hx hb hr hlocks d_L_law_947

set_option maxHeartbeats 4000000 in
set_option maxRecDepth 100000 in
theorem lc_node2 {p : Program} {l : Launch} {e : Env} {s : State} {m : MethodId} {below : List Frame} {meth : Method} {c : Code} (hst : l.stackTraces = false) {G : kb_G} {A : Nat → Prop} {b : Nat} {xs : Nat → Int32} (C0 : lw_At p s m meth c b 6 xs) (hE : kb_E G A s) (hbA : ¬ A b) (hAq : ∀ q, A q → s.heap.size ≤ q) (x y o : Nat) (ux um : kb_S) {H : Heap} {locs : List Loc} (hP : va_P G.1 kb_cl (lc_w0 G x y o ux um) H) (hD : va_D A (lc_w0 G x y o ux um)) (hS : va_S A s.heap H locs) {ls : Array Slot} (hl : lv_has ls 7 [(4, .int 0), (3, .ref o), (2, .ref y), (1, .ref x), (0, .ref b)]) (hk : xs 0 &&& 31 = 11) (h1 : xs 1 = 0) (h2 : xs 2 = 2) : W p l e room_1 s m #[Value.ref b] below meth c H locs 71 169237 (lw_Z below #[Value.ref b] s) (F0 m 23 ls []) := by
  obtain ⟨hx, hb, hr, hml, hown, hts, hX, hbl, hlocks, hgv⟩ := C0
  have hown : s.vm.findClass "TreePressLaw" = some m.cls := hown
  have ht : ∀ w ∈ kb_T, w.before #[Value.ref b] s = true := fun w h => hts w (List.mem_filter.mp h).1
  have hP : va_P G.1 kb_cl [kb_o x 3 [.ref (ux.1 0), .ref (ux.1 2), .ref (ux.1 4), .ref (ux.1 5), .ref (ux.1 30)], kb_o (ux.1 16) 1 [.ref (ux.1 17), .int 1], kb_o (ux.1 5) 2 [.ref (ux.1 29), .ref (ux.1 16), .ref (ux.1 18), .ref (ux.1 20), .ref (ux.1 22), .ref (ux.1 25), .ref (ux.1 27), .ref (ux.1 24), .ref (ux.1 12), .ref (ux.1 13), .ref (ux.1 14), .ref (ux.1 15), .int 0, .int 0], kb_o (ux.1 27) 1 [.ref (ux.1 28), .int 1], kb_a G (ux.1 28) 16 (upd (fun _ => 0) 0 0), kb_o y 4 [.int 0, .ref (um.1 0), .int 0, .ref (um.1 1), .int 0, .ref (um.1 2), .ref (um.1 3), .ref (um.1 4), .ref (um.1 5), .ref (um.1 6), .ref (um.1 7), .ref (um.1 8), .ref (um.1 9), .ref (um.1 10), .ref (um.1 11), .ref (um.1 12), .int 0, .int 0, .int 0, .int 0, .int 0], kb_a G (um.1 2) 2 (upd (fun _ => 0) 0 1), kb_a G (um.1 3) 2 (upd (fun _ => 0) 0 0), kb_a G (um.1 5) 256 (upd (fun _ => 0) 0 (-1)), kb_a G (um.1 6) 256 (upd (fun _ => 0) 0 0), kb_a G (um.1 7) 256 (upd (fun _ => 0) 0 0), kb_j G o 1 (fun _ => 0)] H := hP.sub [0, 16, 24, 28, 29, 63, 64, 65, 67, 68, 69, 70] rfl
  have hD : va_D A [kb_o x 3 [.ref (ux.1 0), .ref (ux.1 2), .ref (ux.1 4), .ref (ux.1 5), .ref (ux.1 30)], kb_o (ux.1 16) 1 [.ref (ux.1 17), .int 1], kb_o (ux.1 5) 2 [.ref (ux.1 29), .ref (ux.1 16), .ref (ux.1 18), .ref (ux.1 20), .ref (ux.1 22), .ref (ux.1 25), .ref (ux.1 27), .ref (ux.1 24), .ref (ux.1 12), .ref (ux.1 13), .ref (ux.1 14), .ref (ux.1 15), .int 0, .int 0], kb_o (ux.1 27) 1 [.ref (ux.1 28), .int 1], kb_a G (ux.1 28) 16 (upd (fun _ => 0) 0 0), kb_o y 4 [.int 0, .ref (um.1 0), .int 0, .ref (um.1 1), .int 0, .ref (um.1 2), .ref (um.1 3), .ref (um.1 4), .ref (um.1 5), .ref (um.1 6), .ref (um.1 7), .ref (um.1 8), .ref (um.1 9), .ref (um.1 10), .ref (um.1 11), .ref (um.1 12), .int 0, .int 0, .int 0, .int 0, .int 0], kb_a G (um.1 2) 2 (upd (fun _ => 0) 0 1), kb_a G (um.1 3) 2 (upd (fun _ => 0) 0 0), kb_a G (um.1 5) 256 (upd (fun _ => 0) 0 (-1)), kb_a G (um.1 6) 256 (upd (fun _ => 0) 0 0), kb_a G (um.1 7) 256 (upd (fun _ => 0) 0 0), kb_j G o 1 (fun _ => 0)] := hD.sub [0, 16, 24, 28, 29, 63, 64, 65, 67, 68, 69, 70] (by decide) rfl
  refine lv_iload hx hb d_L_law_23 (lv_at hl 0 rfl) ?_
  refine lv_aload_n hx hb d_L_law_25 rfl (lv_at hl 4 rfl) ?_
  refine va_slen hx hb hX hbl hbA hS d_L_law_26 ?_
  refine kb_top (y := 6) (by decide) ?_
  refine lv_bipush (v := 6) hx hb d_L_law_27 (by decide) ?_
  refine lv_isub hx hb d_L_law_29 ?_
  refine kb_top (y := 0) (by decide) ?_
  refine lv_icmp_gt (tgt := 946) hx hb d_L_law_30 (by decide) (fun c9 => absurd c9 (by decide)) (fun c9 => ?_)
  refine lv_aload_n hx hb d_L_law_33 rfl (lv_at hl 4 rfl) ?_
  refine lv_iload hx hb d_L_law_34 (lv_at hl 0 rfl) ?_
  refine va_sld hx hb hX hbl hbA hS (show ¬ ((0 : Int32) < 0 ∨ 6 ≤ (0 : Int32).toNatClampNeg) by decide) d_L_law_36 ?_
  refine kb_top (y := xs 0) rfl ?_
  refine lv_bipush (v := 31) hx hb d_L_law_37 (by decide) ?_
  refine lv_iand hx hb d_L_law_39 ?_
  refine kb_top (y := 11) (hk) ?_
  refine lv_tableIn (tgt := 531) (off := 491) hx hb d_L_law_40 (by decide) (by decide) (by decide) (by decide) ?_
  refine lv_aload_n hx hb d_L_law_531 rfl (lv_at hl 3 rfl) ?_
  refine lv_aload_n hx hb d_L_law_532 rfl (lv_at hl 4 rfl) ?_
  refine lv_iload hx hb d_L_law_533 (lv_at hl 0 rfl) ?_
  refine lv_iconst (v := 1) hx hb d_L_law_535 (by decide) ?_
  refine lv_iadd hx hb d_L_law_536 ?_
  refine kb_top (y := 1) (by decide) ?_
  refine va_sld hx hb hX hbl hbA hS (show ¬ ((1 : Int32) < 0 ∨ 6 ≤ (1 : Int32).toNatClampNeg) by decide) d_L_law_537 ?_
  refine kb_top (y := xs 1) rfl ?_
  refine kb_top (y := 0) h1 ?_
  refine lv_aload_n hx hb d_L_law_538 rfl (lv_at hl 4 rfl) ?_
  refine lv_iload hx hb d_L_law_539 (lv_at hl 0 rfl) ?_
  refine lv_iconst (v := 2) hx hb d_L_law_541 (by decide) ?_
  refine lv_iadd hx hb d_L_law_542 ?_
  refine kb_top (y := 2) (by decide) ?_
  refine va_sld hx hb hX hbl hbA hS (show ¬ ((2 : Int32) < 0 ∨ 6 ≤ (2 : Int32).toNatClampNeg) by decide) d_L_law_543 ?_
  refine kb_top (y := xs 2) rfl ?_
  refine kb_top (y := 2) h2 ?_
  refine lv_aload_n hx hb d_L_law_544 rfl (lv_at hl 1 rfl) ?_
  refine kb_i (wc := [kb_o x 3 [.ref (ux.1 0), .ref (ux.1 2), .ref (ux.1 4), .ref (ux.1 5), .ref (ux.1 30)], kb_o (ux.1 5) 2 [.ref (ux.1 29), .ref (ux.1 16), .ref (ux.1 18), .ref (ux.1 20), .ref (ux.1 22), .ref (ux.1 25), .ref (ux.1 27), .ref (ux.1 24), .ref (ux.1 12), .ref (ux.1 13), .ref (ux.1 14), .ref (ux.1 15), .int 0, .int 0], kb_o (ux.1 16) 1 [.ref (ux.1 17), .int 1], kb_o (ux.1 27) 1 [.ref (ux.1 28), .int 1], kb_a G (ux.1 28) 16 (upd (fun _ => 0) 0 0), kb_j G o 1 (fun _ => 0)]) (wr := [kb_o y 4 [.int 0, .ref (um.1 0), .int 0, .ref (um.1 1), .int 0, .ref (um.1 2), .ref (um.1 3), .ref (um.1 4), .ref (um.1 5), .ref (um.1 6), .ref (um.1 7), .ref (um.1 8), .ref (um.1 9), .ref (um.1 10), .ref (um.1 11), .ref (um.1 12), .int 0, .int 0, .int 0, .int 0, .int 0], kb_a G (um.1 2) 2 (upd (fun _ => 0) 0 1), kb_a G (um.1 3) 2 (upd (fun _ => 0) 0 0), kb_a G (um.1 5) 256 (upd (fun _ => 0) 0 (-1)), kb_a G (um.1 6) 256 (upd (fun _ => 0) 0 0), kb_a G (um.1 7) 256 (upd (fun _ => 0) 0 0)]) hE hP hD hS [0, 2, 1, 3, 4, 11] [5, 6, 7, 8, 9, 10] rfl rfl (by decide) (by decide) (kb_rH (As := [.ref x, .int 0, .int 2, .ref o]) (rest := []) (wc := [kb_o x 3 [.ref (ux.1 0), .ref (ux.1 2), .ref (ux.1 4), .ref (ux.1 5), .ref (ux.1 30)], kb_o (ux.1 5) 2 [.ref (ux.1 29), .ref (ux.1 16), .ref (ux.1 18), .ref (ux.1 20), .ref (ux.1 22), .ref (ux.1 25), .ref (ux.1 27), .ref (ux.1 24), .ref (ux.1 12), .ref (ux.1 13), .ref (ux.1 14), .ref (ux.1 15), .int 0, .int 0], kb_o (ux.1 16) 1 [.ref (ux.1 17), .int 1], kb_o (ux.1 27) 1 [.ref (ux.1 28), .int 1], kb_a G (ux.1 28) 16 (upd (fun _ => 0) 0 0), kb_j G o 1 (fun _ => 0)]) ⟨hx, hb, hml, hown, ht⟩ (c_L_node2 l hst G x (ux.1 0) (ux.1 2) (ux.1 4) (ux.1 5) (ux.1 30) (ux.1 29) (ux.1 16) (ux.1 18) (ux.1 20) (ux.1 22) (ux.1 25) (ux.1 27) (ux.1 24) (ux.1 12) (ux.1 13) (ux.1 14) (ux.1 15) 0 0 (ux.1 17) (ux.1 28) o) wd_9c016892 wd_e4ece85a wd_624a7d0e wd_41ba3b2e hd_6398135a ⟨(Nat.le_of_ble_eq_true rfl), (Nat.le_of_ble_eq_true rfl)⟩ hE hP hD hS [0, 2, 1, 3, 4, 11] rfl (by decide) hl.1 rfl (Nat.le_of_ble_eq_true rfl) d_L_law_545 ⟨(Nat.le_of_ble_eq_true rfl), (Nat.le_of_ble_eq_true rfl)⟩) (fun rv2 uu1 H locs hw hP hD hS => ?_)
  have hP : va_P G.1 kb_cl [kb_o y 4 [.int 0, .ref (um.1 0), .int 0, .ref (um.1 1), .int 0, .ref (um.1 2), .ref (um.1 3), .ref (um.1 4), .ref (um.1 5), .ref (um.1 6), .ref (um.1 7), .ref (um.1 8), .ref (um.1 9), .ref (um.1 10), .ref (um.1 11), .ref (um.1 12), .int 0, .int 0, .int 0, .int 0, .int 0], kb_a G (um.1 2) 2 (upd (fun _ => 0) 0 1), kb_a G (um.1 3) 2 (upd (fun _ => 0) 0 0), kb_a G (um.1 5) 256 (upd (fun _ => 0) 0 (-1)), kb_a G (um.1 6) 256 (upd (fun _ => 0) 0 0), kb_a G (um.1 7) 256 (upd (fun _ => 0) 0 0), kb_j G o 1 (vp_updL (fun _ => 0) 0 (((-1) : Int32).toInt64))] H := hP
  have hD : va_D A [kb_o y 4 [.int 0, .ref (um.1 0), .int 0, .ref (um.1 1), .int 0, .ref (um.1 2), .ref (um.1 3), .ref (um.1 4), .ref (um.1 5), .ref (um.1 6), .ref (um.1 7), .ref (um.1 8), .ref (um.1 9), .ref (um.1 10), .ref (um.1 11), .ref (um.1 12), .int 0, .int 0, .int 0, .int 0, .int 0], kb_a G (um.1 2) 2 (upd (fun _ => 0) 0 1), kb_a G (um.1 3) 2 (upd (fun _ => 0) 0 0), kb_a G (um.1 5) 256 (upd (fun _ => 0) 0 (-1)), kb_a G (um.1 6) 256 (upd (fun _ => 0) 0 0), kb_a G (um.1 7) 256 (upd (fun _ => 0) 0 0), kb_j G o 1 (vp_updL (fun _ => 0) 0 (((-1) : Int32).toInt64))] := hD
  refine kb_top (y := 0) (show rv2 = 0 from hw) ?_
  refine lv_istore (lv' := [(5, .int 0), (4, .int 0), (3, .ref o), (2, .ref y), (1, .ref x), (0, .ref b)]) hx hb d_L_law_548 hl (by decide) rfl (fun ls hl => ?_)
  refine lv_aload_n hx hb d_L_law_550 rfl (lv_at hl 3 rfl) ?_
  refine lv_aload_n hx hb d_L_law_551 rfl (lv_at hl 5 rfl) ?_
  refine lv_iload hx hb d_L_law_552 (lv_at hl 1 rfl) ?_
  refine lv_iconst (v := 1) hx hb d_L_law_554 (by decide) ?_
  refine lv_iadd hx hb d_L_law_555 ?_
  refine kb_top (y := 1) (by decide) ?_
  refine va_sld hx hb hX hbl hbA hS (show ¬ ((1 : Int32) < 0 ∨ 6 ≤ (1 : Int32).toNatClampNeg) by decide) d_L_law_556 ?_
  refine kb_top (y := xs 1) rfl ?_
  refine kb_top (y := 0) h1 ?_
  refine lv_aload_n hx hb d_L_law_557 rfl (lv_at hl 5 rfl) ?_
  refine lv_iload hx hb d_L_law_558 (lv_at hl 1 rfl) ?_
  refine lv_iconst (v := 2) hx hb d_L_law_560 (by decide) ?_
  refine lv_iadd hx hb d_L_law_561 ?_
  refine kb_top (y := 2) (by decide) ?_
  refine va_sld hx hb hX hbl hbA hS (show ¬ ((2 : Int32) < 0 ∨ 6 ≤ (2 : Int32).toNatClampNeg) by decide) d_L_law_562 ?_
  refine kb_top (y := xs 2) rfl ?_
  refine kb_top (y := 2) h2 ?_
  refine kb_i (wc := [kb_o y 4 [.int 0, .ref (um.1 0), .int 0, .ref (um.1 1), .int 0, .ref (um.1 2), .ref (um.1 3), .ref (um.1 4), .ref (um.1 5), .ref (um.1 6), .ref (um.1 7), .ref (um.1 8), .ref (um.1 9), .ref (um.1 10), .ref (um.1 11), .ref (um.1 12), .int 0, .int 0, .int 0, .int 0, .int 0], kb_a G (um.1 2) 2 (upd (fun _ => 0) 0 1), kb_a G (um.1 3) 2 (upd (fun _ => 0) 0 0), kb_a G (um.1 5) 256 (upd (fun _ => 0) 0 (-1)), kb_a G (um.1 6) 256 (upd (fun _ => 0) 0 0), kb_a G (um.1 7) 256 (upd (fun _ => 0) 0 0)]) (wr := [kb_j G o 1 (vp_updL (fun _ => 0) 0 (((-1) : Int32).toInt64))]) hE hP hD hS [0, 1, 2, 3, 4, 5] [6] rfl rfl (by decide) (by decide) (kb_rV (As := [.int 0, .int 2]) (rest := []) (wc := [kb_o y 4 [.int 0, .ref (um.1 0), .int 0, .ref (um.1 1), .int 0, .ref (um.1 2), .ref (um.1 3), .ref (um.1 4), .ref (um.1 5), .ref (um.1 6), .ref (um.1 7), .ref (um.1 8), .ref (um.1 9), .ref (um.1 10), .ref (um.1 11), .ref (um.1 12), .int 0, .int 0, .int 0, .int 0, .int 0], kb_a G (um.1 2) 2 (upd (fun _ => 0) 0 1), kb_a G (um.1 3) 2 (upd (fun _ => 0) 0 0), kb_a G (um.1 5) 256 (upd (fun _ => 0) 0 (-1)), kb_a G (um.1 6) 256 (upd (fun _ => 0) 0 0), kb_a G (um.1 7) 256 (upd (fun _ => 0) 0 0)]) (q0 := 0) ⟨hx, hb, hml, hown, ht⟩ ((c_M_node2 l G y 0 (um.1 0) (um.1 1) (um.1 2) (um.1 3) (um.1 4) (um.1 5) (um.1 6) (um.1 7) (um.1 8) (um.1 9) (um.1 10) (um.1 11) (um.1 12)) _) (kb_gV wd_342a0efc wd_518e3e71 wd_42666347 wd_38099713 wd_797669bc) ⟨rfl, hd_765c9157⟩ ⟨(Nat.le_of_ble_eq_true rfl), (Nat.le_of_ble_eq_true rfl)⟩ hE hP hD hS [0, 1, 2, 3, 4, 5] rfl (by decide) rfl rfl rfl hl.1 rfl (Nat.le_of_ble_eq_true rfl) d_L_law_563 ⟨(Nat.le_of_ble_eq_true rfl), (Nat.le_of_ble_eq_true rfl)⟩) (fun rv4 uu3 H locs hw hP hD hS => ?_)
  have hP : va_P G.1 kb_cl [kb_j G o 1 (vp_updL (fun _ => 0) 0 (((-1) : Int32).toInt64)), kb_o y 4 [.int 0, .ref (um.1 0), .int 0, .ref (um.1 1), .int 0, .ref (um.1 2), .ref (um.1 3), .ref (um.1 4), .ref (um.1 5), .ref (um.1 6), .ref (um.1 7), .ref (um.1 8), .ref (um.1 9), .ref (um.1 10), .ref (um.1 11), .ref (um.1 12), .int 0, .int 0, .int 0, .int 0, .int 0]] H := hP
  have hD : va_D A [kb_j G o 1 (vp_updL (fun _ => 0) 0 (((-1) : Int32).toInt64)), kb_o y 4 [.int 0, .ref (um.1 0), .int 0, .ref (um.1 1), .int 0, .ref (um.1 2), .ref (um.1 3), .ref (um.1 4), .ref (um.1 5), .ref (um.1 6), .ref (um.1 7), .ref (um.1 8), .ref (um.1 9), .ref (um.1 10), .ref (um.1 11), .ref (um.1 12), .int 0, .int 0, .int 0, .int 0, .int 0]] := hD
  refine kb_top (y := (-1)) (show rv4 = (-1) from hw) ?_
  refine lv_istore (lv' := [(6, .int (-1)), (5, .int 0), (4, .int 0), (3, .ref o), (2, .ref y), (1, .ref x), (0, .ref b)]) hx hb d_L_law_566 hl (by decide) rfl (fun ls hl => ?_)
  refine lv_aload_n hx hb d_L_law_568 rfl (lv_at hl 4 rfl) ?_
  refine kb_i (wc := [kb_o y 4 [.int 0, .ref (um.1 0), .int 0, .ref (um.1 1), .int 0, .ref (um.1 2), .ref (um.1 3), .ref (um.1 4), .ref (um.1 5), .ref (um.1 6), .ref (um.1 7), .ref (um.1 8), .ref (um.1 9), .ref (um.1 10), .ref (um.1 11), .ref (um.1 12), .int 0, .int 0, .int 0, .int 0, .int 0]]) (wr := [kb_j G o 1 (vp_updL (fun _ => 0) 0 (((-1) : Int32).toInt64))]) hE hP hD hS [1] [0] rfl rfl (by decide) (by decide) (kb_rV (As := []) (rest := []) (wc := [kb_o y 4 [.int 0, .ref (um.1 0), .int 0, .ref (um.1 1), .int 0, .ref (um.1 2), .ref (um.1 3), .ref (um.1 4), .ref (um.1 5), .ref (um.1 6), .ref (um.1 7), .ref (um.1 8), .ref (um.1 9), .ref (um.1 10), .ref (um.1 11), .ref (um.1 12), .int 0, .int 0, .int 0, .int 0, .int 0]]) (q0 := 0) ⟨hx, hb, hml, hown, ht⟩ ((c_M_thrown l G y 0 (um.1 0) (um.1 1) (um.1 2) (um.1 3) (um.1 4) (um.1 5) (um.1 6) (um.1 7) (um.1 8) (um.1 9) (um.1 10) (um.1 11) (um.1 12) 0 0 0 0) _) (kb_gV wd_1946a056 wd_e9c50365 wd_a707e5a8 wd_38099713 wd_79f18ba3) ⟨rfl, hd_2a236ec3⟩ ⟨(Nat.le_of_ble_eq_true rfl), (Nat.le_of_ble_eq_true rfl)⟩ hE hP hD hS [1] rfl (by decide) rfl rfl rfl hl.1 rfl (Nat.le_of_ble_eq_true rfl) d_L_law_569 ⟨(Nat.le_of_ble_eq_true rfl), (Nat.le_of_ble_eq_true rfl)⟩) (fun rv6 uu5 H locs hw hP hD hS => ?_)
  have hP : va_P G.1 kb_cl [kb_j G o 1 (vp_updL (fun _ => 0) 0 (((-1) : Int32).toInt64)), kb_o y 4 [.int 0, .ref (um.1 0), .int 0, .ref (um.1 1), .int 0, .ref (um.1 2), .ref (um.1 3), .ref (um.1 4), .ref (um.1 5), .ref (um.1 6), .ref (um.1 7), .ref (um.1 8), .ref (um.1 9), .ref (um.1 10), .ref (um.1 11), .ref (um.1 12), .int 0, .int 0, .int 0, .int 0, .int 0]] H := hP
  have hD : va_D A [kb_j G o 1 (vp_updL (fun _ => 0) 0 (((-1) : Int32).toInt64)), kb_o y 4 [.int 0, .ref (um.1 0), .int 0, .ref (um.1 1), .int 0, .ref (um.1 2), .ref (um.1 3), .ref (um.1 4), .ref (um.1 5), .ref (um.1 6), .ref (um.1 7), .ref (um.1 8), .ref (um.1 9), .ref (um.1 10), .ref (um.1 11), .ref (um.1 12), .int 0, .int 0, .int 0, .int 0, .int 0]] := hD
  refine kb_top (y := 0) (show rv6 = 0 from hw) ?_
  refine lv_iload hx hb d_L_law_572 (lv_at hl 1 rfl) ?_
  refine lv_icmp_eq (tgt := 579) hx hb d_L_law_574 (by decide) (fun c9 => ?_) (fun c9 => absurd (by decide) c9)
  refine lv_iload hx hb d_L_law_579 (lv_at hl 1 rfl) ?_
  refine lv_if_ne (tgt := 596) hx hb d_L_law_581 (by decide) (fun c9 => absurd (by decide) c9) (fun c9 => ?_)
  refine lv_aload_n hx hb d_L_law_584 rfl (lv_at hl 3 rfl) ?_
  refine lv_iconst (v := 0) hx hb d_L_law_585 (by decide) ?_
  refine va_lald hx hb hE.1 hP 0 1 rfl rfl (show ¬ ((0 : Int32) < 0 ∨ 1 ≤ (0 : Int32).toNatClampNeg) by decide) d_L_law_586 ?_
  refine kb_topl (y := ((-1) : Int32).toInt64) rfl ?_
  refine lv_iload hx hb d_L_law_587 (lv_at hl 0 rfl) ?_
  refine lv_i2l (v := ((-1) : Int32).toInt64) hx hb d_L_law_589 rfl ?_
  refine W.lcmp hx hb d_L_law_590 ?_
  refine kb_top (y := 0) (by decide) ?_
  refine lv_if_eq (tgt := 596) hx hb d_L_law_591 (by decide) (fun c9 => ?_) (fun c9 => absurd (by decide) c9)
  refine lv_goto (tgt := 940) hx hb d_L_law_596 (by decide) ?_
  refine lv_iinc (v := 6) (lv' := [(4, .int 6), (6, .int (-1)), (5, .int 0), (3, .ref o), (2, .ref y), (1, .ref x), (0, .ref b)]) hx hb d_L_law_940 hl (k := 2) rfl (by decide) (by decide) rfl (fun ls hl => ?_)
  refine lv_goto (tgt := 23) hx hb d_L_law_943 (by decide) ?_
  refine lv_iload hx hb d_L_law_23 (lv_at hl 0 rfl) ?_
  refine lv_aload_n hx hb d_L_law_25 rfl (lv_at hl 6 rfl) ?_
  refine va_slen hx hb hX hbl hbA hS d_L_law_26 ?_
  refine kb_top (y := 6) (by decide) ?_
  refine lv_bipush (v := 6) hx hb d_L_law_27 (by decide) ?_
  refine lv_isub hx hb d_L_law_29 ?_
  refine kb_top (y := 0) (by decide) ?_
  refine lv_icmp_gt (tgt := 946) hx hb d_L_law_30 (by decide) (fun c9 => ?_) (fun c9 => absurd (by decide) c9)
  refine lv_iconst (v := 1) hx hb d_L_law_946 (by decide) ?_
  refine va_forget (fun q hq => hAq _ (hS.2.2 q hq)) ?_
  refine W.widen (k := 600002) (n := 7302232) (Nat.le_of_ble_eq_true rfl) (Nat.le_of_ble_eq_true rfl) ?_
  exact lw_ret hx hb hr hlocks d_L_law_947

set_option maxHeartbeats 4000000 in
set_option maxRecDepth 100000 in
theorem lc_node3 {p : Program} {l : Launch} {e : Env} {s : State} {m : MethodId} {below : List Frame} {meth : Method} {c : Code} (hst : l.stackTraces = false) {G : kb_G} {A : Nat → Prop} {b : Nat} {xs : Nat → Int32} (C0 : lw_At p s m meth c b 6 xs) (hE : kb_E G A s) (hbA : ¬ A b) (hAq : ∀ q, A q → s.heap.size ≤ q) (x y o : Nat) (ux um : kb_S) {H : Heap} {locs : List Loc} (hP : va_P G.1 kb_cl (lc_w0 G x y o ux um) H) (hD : va_D A (lc_w0 G x y o ux um)) (hS : va_S A s.heap H locs) {ls : Array Slot} (hl : lv_has ls 7 [(4, .int 0), (3, .ref o), (2, .ref y), (1, .ref x), (0, .ref b)]) (hk : xs 0 &&& 31 = 11) (h1 : xs 1 = 0) (h2 : xs 2 = 3) : W p l e room_1 s m #[Value.ref b] below meth c H locs 71 169237 (lw_Z below #[Value.ref b] s) (F0 m 23 ls []) := by
  obtain ⟨hx, hb, hr, hml, hown, hts, hX, hbl, hlocks, hgv⟩ := C0
  have hown : s.vm.findClass "TreePressLaw" = some m.cls := hown
  have ht : ∀ w ∈ kb_T, w.before #[Value.ref b] s = true := fun w h => hts w (List.mem_filter.mp h).1
  have hP : va_P G.1 kb_cl [kb_o x 3 [.ref (ux.1 0), .ref (ux.1 2), .ref (ux.1 4), .ref (ux.1 5), .ref (ux.1 30)], kb_o (ux.1 16) 1 [.ref (ux.1 17), .int 1], kb_o (ux.1 22) 1 [.ref (ux.1 23), .int 1], kb_a G (ux.1 23) 16 (upd (fun _ => 0) 0 0), kb_o (ux.1 5) 2 [.ref (ux.1 29), .ref (ux.1 16), .ref (ux.1 18), .ref (ux.1 20), .ref (ux.1 22), .ref (ux.1 25), .ref (ux.1 27), .ref (ux.1 24), .ref (ux.1 12), .ref (ux.1 13), .ref (ux.1 14), .ref (ux.1 15), .int 0, .int 0], kb_o y 4 [.int 0, .ref (um.1 0), .int 0, .ref (um.1 1), .int 0, .ref (um.1 2), .ref (um.1 3), .ref (um.1 4), .ref (um.1 5), .ref (um.1 6), .ref (um.1 7), .ref (um.1 8), .ref (um.1 9), .ref (um.1 10), .ref (um.1 11), .ref (um.1 12), .int 0, .int 0, .int 0, .int 0, .int 0], kb_a G (um.1 2) 2 (upd (fun _ => 0) 0 1), kb_a G (um.1 3) 2 (upd (fun _ => 0) 0 0), kb_a G (um.1 5) 256 (upd (fun _ => 0) 0 (-1)), kb_a G (um.1 6) 256 (upd (fun _ => 0) 0 0), kb_a G (um.1 7) 256 (upd (fun _ => 0) 0 0), kb_j G o 1 (fun _ => 0)] H := hP.sub [0, 16, 22, 23, 24, 63, 64, 65, 67, 68, 69, 70] rfl
  have hD : va_D A [kb_o x 3 [.ref (ux.1 0), .ref (ux.1 2), .ref (ux.1 4), .ref (ux.1 5), .ref (ux.1 30)], kb_o (ux.1 16) 1 [.ref (ux.1 17), .int 1], kb_o (ux.1 22) 1 [.ref (ux.1 23), .int 1], kb_a G (ux.1 23) 16 (upd (fun _ => 0) 0 0), kb_o (ux.1 5) 2 [.ref (ux.1 29), .ref (ux.1 16), .ref (ux.1 18), .ref (ux.1 20), .ref (ux.1 22), .ref (ux.1 25), .ref (ux.1 27), .ref (ux.1 24), .ref (ux.1 12), .ref (ux.1 13), .ref (ux.1 14), .ref (ux.1 15), .int 0, .int 0], kb_o y 4 [.int 0, .ref (um.1 0), .int 0, .ref (um.1 1), .int 0, .ref (um.1 2), .ref (um.1 3), .ref (um.1 4), .ref (um.1 5), .ref (um.1 6), .ref (um.1 7), .ref (um.1 8), .ref (um.1 9), .ref (um.1 10), .ref (um.1 11), .ref (um.1 12), .int 0, .int 0, .int 0, .int 0, .int 0], kb_a G (um.1 2) 2 (upd (fun _ => 0) 0 1), kb_a G (um.1 3) 2 (upd (fun _ => 0) 0 0), kb_a G (um.1 5) 256 (upd (fun _ => 0) 0 (-1)), kb_a G (um.1 6) 256 (upd (fun _ => 0) 0 0), kb_a G (um.1 7) 256 (upd (fun _ => 0) 0 0), kb_j G o 1 (fun _ => 0)] := hD.sub [0, 16, 22, 23, 24, 63, 64, 65, 67, 68, 69, 70] (by decide) rfl
  refine lv_iload hx hb d_L_law_23 (lv_at hl 0 rfl) ?_
  refine lv_aload_n hx hb d_L_law_25 rfl (lv_at hl 4 rfl) ?_
  refine va_slen hx hb hX hbl hbA hS d_L_law_26 ?_
  refine kb_top (y := 6) (by decide) ?_
  refine lv_bipush (v := 6) hx hb d_L_law_27 (by decide) ?_
  refine lv_isub hx hb d_L_law_29 ?_
  refine kb_top (y := 0) (by decide) ?_
  refine lv_icmp_gt (tgt := 946) hx hb d_L_law_30 (by decide) (fun c9 => absurd c9 (by decide)) (fun c9 => ?_)
  refine lv_aload_n hx hb d_L_law_33 rfl (lv_at hl 4 rfl) ?_
  refine lv_iload hx hb d_L_law_34 (lv_at hl 0 rfl) ?_
  refine va_sld hx hb hX hbl hbA hS (show ¬ ((0 : Int32) < 0 ∨ 6 ≤ (0 : Int32).toNatClampNeg) by decide) d_L_law_36 ?_
  refine kb_top (y := xs 0) rfl ?_
  refine lv_bipush (v := 31) hx hb d_L_law_37 (by decide) ?_
  refine lv_iand hx hb d_L_law_39 ?_
  refine kb_top (y := 11) (hk) ?_
  refine lv_tableIn (tgt := 531) (off := 491) hx hb d_L_law_40 (by decide) (by decide) (by decide) (by decide) ?_
  refine lv_aload_n hx hb d_L_law_531 rfl (lv_at hl 3 rfl) ?_
  refine lv_aload_n hx hb d_L_law_532 rfl (lv_at hl 4 rfl) ?_
  refine lv_iload hx hb d_L_law_533 (lv_at hl 0 rfl) ?_
  refine lv_iconst (v := 1) hx hb d_L_law_535 (by decide) ?_
  refine lv_iadd hx hb d_L_law_536 ?_
  refine kb_top (y := 1) (by decide) ?_
  refine va_sld hx hb hX hbl hbA hS (show ¬ ((1 : Int32) < 0 ∨ 6 ≤ (1 : Int32).toNatClampNeg) by decide) d_L_law_537 ?_
  refine kb_top (y := xs 1) rfl ?_
  refine kb_top (y := 0) h1 ?_
  refine lv_aload_n hx hb d_L_law_538 rfl (lv_at hl 4 rfl) ?_
  refine lv_iload hx hb d_L_law_539 (lv_at hl 0 rfl) ?_
  refine lv_iconst (v := 2) hx hb d_L_law_541 (by decide) ?_
  refine lv_iadd hx hb d_L_law_542 ?_
  refine kb_top (y := 2) (by decide) ?_
  refine va_sld hx hb hX hbl hbA hS (show ¬ ((2 : Int32) < 0 ∨ 6 ≤ (2 : Int32).toNatClampNeg) by decide) d_L_law_543 ?_
  refine kb_top (y := xs 2) rfl ?_
  refine kb_top (y := 3) h2 ?_
  refine lv_aload_n hx hb d_L_law_544 rfl (lv_at hl 1 rfl) ?_
  refine kb_i (wc := [kb_o x 3 [.ref (ux.1 0), .ref (ux.1 2), .ref (ux.1 4), .ref (ux.1 5), .ref (ux.1 30)], kb_o (ux.1 5) 2 [.ref (ux.1 29), .ref (ux.1 16), .ref (ux.1 18), .ref (ux.1 20), .ref (ux.1 22), .ref (ux.1 25), .ref (ux.1 27), .ref (ux.1 24), .ref (ux.1 12), .ref (ux.1 13), .ref (ux.1 14), .ref (ux.1 15), .int 0, .int 0], kb_o (ux.1 16) 1 [.ref (ux.1 17), .int 1], kb_o (ux.1 22) 1 [.ref (ux.1 23), .int 1], kb_a G (ux.1 23) 16 (upd (fun _ => 0) 0 0), kb_j G o 1 (fun _ => 0)]) (wr := [kb_o y 4 [.int 0, .ref (um.1 0), .int 0, .ref (um.1 1), .int 0, .ref (um.1 2), .ref (um.1 3), .ref (um.1 4), .ref (um.1 5), .ref (um.1 6), .ref (um.1 7), .ref (um.1 8), .ref (um.1 9), .ref (um.1 10), .ref (um.1 11), .ref (um.1 12), .int 0, .int 0, .int 0, .int 0, .int 0], kb_a G (um.1 2) 2 (upd (fun _ => 0) 0 1), kb_a G (um.1 3) 2 (upd (fun _ => 0) 0 0), kb_a G (um.1 5) 256 (upd (fun _ => 0) 0 (-1)), kb_a G (um.1 6) 256 (upd (fun _ => 0) 0 0), kb_a G (um.1 7) 256 (upd (fun _ => 0) 0 0)]) hE hP hD hS [0, 4, 1, 2, 3, 11] [5, 6, 7, 8, 9, 10] rfl rfl (by decide) (by decide) (kb_rH (As := [.ref x, .int 0, .int 3, .ref o]) (rest := []) (wc := [kb_o x 3 [.ref (ux.1 0), .ref (ux.1 2), .ref (ux.1 4), .ref (ux.1 5), .ref (ux.1 30)], kb_o (ux.1 5) 2 [.ref (ux.1 29), .ref (ux.1 16), .ref (ux.1 18), .ref (ux.1 20), .ref (ux.1 22), .ref (ux.1 25), .ref (ux.1 27), .ref (ux.1 24), .ref (ux.1 12), .ref (ux.1 13), .ref (ux.1 14), .ref (ux.1 15), .int 0, .int 0], kb_o (ux.1 16) 1 [.ref (ux.1 17), .int 1], kb_o (ux.1 22) 1 [.ref (ux.1 23), .int 1], kb_a G (ux.1 23) 16 (upd (fun _ => 0) 0 0), kb_j G o 1 (fun _ => 0)]) ⟨hx, hb, hml, hown, ht⟩ (c_L_node3 l hst G x (ux.1 0) (ux.1 2) (ux.1 4) (ux.1 5) (ux.1 30) (ux.1 29) (ux.1 16) (ux.1 18) (ux.1 20) (ux.1 22) (ux.1 25) (ux.1 27) (ux.1 24) (ux.1 12) (ux.1 13) (ux.1 14) (ux.1 15) 0 0 (ux.1 17) (ux.1 23) o) wd_9c016892 wd_e4ece85a wd_624a7d0e wd_41ba3b2e hd_6398135a ⟨(Nat.le_of_ble_eq_true rfl), (Nat.le_of_ble_eq_true rfl)⟩ hE hP hD hS [0, 4, 1, 2, 3, 11] rfl (by decide) hl.1 rfl (Nat.le_of_ble_eq_true rfl) d_L_law_545 ⟨(Nat.le_of_ble_eq_true rfl), (Nat.le_of_ble_eq_true rfl)⟩) (fun rv2 uu1 H locs hw hP hD hS => ?_)
  have hP : va_P G.1 kb_cl [kb_o y 4 [.int 0, .ref (um.1 0), .int 0, .ref (um.1 1), .int 0, .ref (um.1 2), .ref (um.1 3), .ref (um.1 4), .ref (um.1 5), .ref (um.1 6), .ref (um.1 7), .ref (um.1 8), .ref (um.1 9), .ref (um.1 10), .ref (um.1 11), .ref (um.1 12), .int 0, .int 0, .int 0, .int 0, .int 0], kb_a G (um.1 2) 2 (upd (fun _ => 0) 0 1), kb_a G (um.1 3) 2 (upd (fun _ => 0) 0 0), kb_a G (um.1 5) 256 (upd (fun _ => 0) 0 (-1)), kb_a G (um.1 6) 256 (upd (fun _ => 0) 0 0), kb_a G (um.1 7) 256 (upd (fun _ => 0) 0 0), kb_j G o 1 (vp_updL (fun _ => 0) 0 ((0 : Int32).toInt64))] H := hP
  have hD : va_D A [kb_o y 4 [.int 0, .ref (um.1 0), .int 0, .ref (um.1 1), .int 0, .ref (um.1 2), .ref (um.1 3), .ref (um.1 4), .ref (um.1 5), .ref (um.1 6), .ref (um.1 7), .ref (um.1 8), .ref (um.1 9), .ref (um.1 10), .ref (um.1 11), .ref (um.1 12), .int 0, .int 0, .int 0, .int 0, .int 0], kb_a G (um.1 2) 2 (upd (fun _ => 0) 0 1), kb_a G (um.1 3) 2 (upd (fun _ => 0) 0 0), kb_a G (um.1 5) 256 (upd (fun _ => 0) 0 (-1)), kb_a G (um.1 6) 256 (upd (fun _ => 0) 0 0), kb_a G (um.1 7) 256 (upd (fun _ => 0) 0 0), kb_j G o 1 (vp_updL (fun _ => 0) 0 ((0 : Int32).toInt64))] := hD
  refine kb_top (y := 0) (show rv2 = 0 from hw) ?_
  refine lv_istore (lv' := [(5, .int 0), (4, .int 0), (3, .ref o), (2, .ref y), (1, .ref x), (0, .ref b)]) hx hb d_L_law_548 hl (by decide) rfl (fun ls hl => ?_)
  refine lv_aload_n hx hb d_L_law_550 rfl (lv_at hl 3 rfl) ?_
  refine lv_aload_n hx hb d_L_law_551 rfl (lv_at hl 5 rfl) ?_
  refine lv_iload hx hb d_L_law_552 (lv_at hl 1 rfl) ?_
  refine lv_iconst (v := 1) hx hb d_L_law_554 (by decide) ?_
  refine lv_iadd hx hb d_L_law_555 ?_
  refine kb_top (y := 1) (by decide) ?_
  refine va_sld hx hb hX hbl hbA hS (show ¬ ((1 : Int32) < 0 ∨ 6 ≤ (1 : Int32).toNatClampNeg) by decide) d_L_law_556 ?_
  refine kb_top (y := xs 1) rfl ?_
  refine kb_top (y := 0) h1 ?_
  refine lv_aload_n hx hb d_L_law_557 rfl (lv_at hl 5 rfl) ?_
  refine lv_iload hx hb d_L_law_558 (lv_at hl 1 rfl) ?_
  refine lv_iconst (v := 2) hx hb d_L_law_560 (by decide) ?_
  refine lv_iadd hx hb d_L_law_561 ?_
  refine kb_top (y := 2) (by decide) ?_
  refine va_sld hx hb hX hbl hbA hS (show ¬ ((2 : Int32) < 0 ∨ 6 ≤ (2 : Int32).toNatClampNeg) by decide) d_L_law_562 ?_
  refine kb_top (y := xs 2) rfl ?_
  refine kb_top (y := 3) h2 ?_
  refine kb_i (wc := [kb_o y 4 [.int 0, .ref (um.1 0), .int 0, .ref (um.1 1), .int 0, .ref (um.1 2), .ref (um.1 3), .ref (um.1 4), .ref (um.1 5), .ref (um.1 6), .ref (um.1 7), .ref (um.1 8), .ref (um.1 9), .ref (um.1 10), .ref (um.1 11), .ref (um.1 12), .int 0, .int 0, .int 0, .int 0, .int 0], kb_a G (um.1 2) 2 (upd (fun _ => 0) 0 1), kb_a G (um.1 3) 2 (upd (fun _ => 0) 0 0), kb_a G (um.1 5) 256 (upd (fun _ => 0) 0 (-1)), kb_a G (um.1 6) 256 (upd (fun _ => 0) 0 0), kb_a G (um.1 7) 256 (upd (fun _ => 0) 0 0)]) (wr := [kb_j G o 1 (vp_updL (fun _ => 0) 0 ((0 : Int32).toInt64))]) hE hP hD hS [0, 1, 2, 3, 4, 5] [6] rfl rfl (by decide) (by decide) (kb_rV (As := [.int 0, .int 3]) (rest := []) (wc := [kb_o y 4 [.int 0, .ref (um.1 0), .int 0, .ref (um.1 1), .int 0, .ref (um.1 2), .ref (um.1 3), .ref (um.1 4), .ref (um.1 5), .ref (um.1 6), .ref (um.1 7), .ref (um.1 8), .ref (um.1 9), .ref (um.1 10), .ref (um.1 11), .ref (um.1 12), .int 0, .int 0, .int 0, .int 0, .int 0], kb_a G (um.1 2) 2 (upd (fun _ => 0) 0 1), kb_a G (um.1 3) 2 (upd (fun _ => 0) 0 0), kb_a G (um.1 5) 256 (upd (fun _ => 0) 0 (-1)), kb_a G (um.1 6) 256 (upd (fun _ => 0) 0 0), kb_a G (um.1 7) 256 (upd (fun _ => 0) 0 0)]) (q0 := 0) ⟨hx, hb, hml, hown, ht⟩ ((c_M_node3 l G y 0 (um.1 0) (um.1 1) (um.1 2) (um.1 3) (um.1 4) (um.1 5) (um.1 6) (um.1 7) (um.1 8) (um.1 9) (um.1 10) (um.1 11) (um.1 12)) _) (kb_gV wd_342a0efc wd_518e3e71 wd_42666347 wd_38099713 wd_797669bc) ⟨rfl, hd_765c9157⟩ ⟨(Nat.le_of_ble_eq_true rfl), (Nat.le_of_ble_eq_true rfl)⟩ hE hP hD hS [0, 1, 2, 3, 4, 5] rfl (by decide) rfl rfl rfl hl.1 rfl (Nat.le_of_ble_eq_true rfl) d_L_law_563 ⟨(Nat.le_of_ble_eq_true rfl), (Nat.le_of_ble_eq_true rfl)⟩) (fun rv4 uu3 H locs hw hP hD hS => ?_)
  have hP : va_P G.1 kb_cl [kb_j G o 1 (vp_updL (fun _ => 0) 0 ((0 : Int32).toInt64)), kb_o y 4 [.int 0, .ref (um.1 0), .int 0, .ref (um.1 1), .int 0, .ref (um.1 2), .ref (um.1 3), .ref (um.1 4), .ref (um.1 5), .ref (um.1 6), .ref (um.1 7), .ref (um.1 8), .ref (um.1 9), .ref (um.1 10), .ref (um.1 11), .ref (um.1 12), .int 0, .int 0, .int 0, .int 0, .int 0]] H := hP
  have hD : va_D A [kb_j G o 1 (vp_updL (fun _ => 0) 0 ((0 : Int32).toInt64)), kb_o y 4 [.int 0, .ref (um.1 0), .int 0, .ref (um.1 1), .int 0, .ref (um.1 2), .ref (um.1 3), .ref (um.1 4), .ref (um.1 5), .ref (um.1 6), .ref (um.1 7), .ref (um.1 8), .ref (um.1 9), .ref (um.1 10), .ref (um.1 11), .ref (um.1 12), .int 0, .int 0, .int 0, .int 0, .int 0]] := hD
  refine kb_top (y := 0) (show rv4 = 0 from hw) ?_
  refine lv_istore (lv' := [(6, .int 0), (5, .int 0), (4, .int 0), (3, .ref o), (2, .ref y), (1, .ref x), (0, .ref b)]) hx hb d_L_law_566 hl (by decide) rfl (fun ls hl => ?_)
  refine lv_aload_n hx hb d_L_law_568 rfl (lv_at hl 4 rfl) ?_
  refine kb_i (wc := [kb_o y 4 [.int 0, .ref (um.1 0), .int 0, .ref (um.1 1), .int 0, .ref (um.1 2), .ref (um.1 3), .ref (um.1 4), .ref (um.1 5), .ref (um.1 6), .ref (um.1 7), .ref (um.1 8), .ref (um.1 9), .ref (um.1 10), .ref (um.1 11), .ref (um.1 12), .int 0, .int 0, .int 0, .int 0, .int 0]]) (wr := [kb_j G o 1 (vp_updL (fun _ => 0) 0 ((0 : Int32).toInt64))]) hE hP hD hS [1] [0] rfl rfl (by decide) (by decide) (kb_rV (As := []) (rest := []) (wc := [kb_o y 4 [.int 0, .ref (um.1 0), .int 0, .ref (um.1 1), .int 0, .ref (um.1 2), .ref (um.1 3), .ref (um.1 4), .ref (um.1 5), .ref (um.1 6), .ref (um.1 7), .ref (um.1 8), .ref (um.1 9), .ref (um.1 10), .ref (um.1 11), .ref (um.1 12), .int 0, .int 0, .int 0, .int 0, .int 0]]) (q0 := 0) ⟨hx, hb, hml, hown, ht⟩ ((c_M_thrown l G y 0 (um.1 0) (um.1 1) (um.1 2) (um.1 3) (um.1 4) (um.1 5) (um.1 6) (um.1 7) (um.1 8) (um.1 9) (um.1 10) (um.1 11) (um.1 12) 0 0 0 0) _) (kb_gV wd_1946a056 wd_e9c50365 wd_a707e5a8 wd_38099713 wd_79f18ba3) ⟨rfl, hd_2a236ec3⟩ ⟨(Nat.le_of_ble_eq_true rfl), (Nat.le_of_ble_eq_true rfl)⟩ hE hP hD hS [1] rfl (by decide) rfl rfl rfl hl.1 rfl (Nat.le_of_ble_eq_true rfl) d_L_law_569 ⟨(Nat.le_of_ble_eq_true rfl), (Nat.le_of_ble_eq_true rfl)⟩) (fun rv6 uu5 H locs hw hP hD hS => ?_)
  have hP : va_P G.1 kb_cl [kb_j G o 1 (vp_updL (fun _ => 0) 0 ((0 : Int32).toInt64)), kb_o y 4 [.int 0, .ref (um.1 0), .int 0, .ref (um.1 1), .int 0, .ref (um.1 2), .ref (um.1 3), .ref (um.1 4), .ref (um.1 5), .ref (um.1 6), .ref (um.1 7), .ref (um.1 8), .ref (um.1 9), .ref (um.1 10), .ref (um.1 11), .ref (um.1 12), .int 0, .int 0, .int 0, .int 0, .int 0]] H := hP
  have hD : va_D A [kb_j G o 1 (vp_updL (fun _ => 0) 0 ((0 : Int32).toInt64)), kb_o y 4 [.int 0, .ref (um.1 0), .int 0, .ref (um.1 1), .int 0, .ref (um.1 2), .ref (um.1 3), .ref (um.1 4), .ref (um.1 5), .ref (um.1 6), .ref (um.1 7), .ref (um.1 8), .ref (um.1 9), .ref (um.1 10), .ref (um.1 11), .ref (um.1 12), .int 0, .int 0, .int 0, .int 0, .int 0]] := hD
  refine kb_top (y := 0) (show rv6 = 0 from hw) ?_
  refine lv_iload hx hb d_L_law_572 (lv_at hl 1 rfl) ?_
  refine lv_icmp_eq (tgt := 579) hx hb d_L_law_574 (by decide) (fun c9 => ?_) (fun c9 => absurd (by decide) c9)
  refine lv_iload hx hb d_L_law_579 (lv_at hl 1 rfl) ?_
  refine lv_if_ne (tgt := 596) hx hb d_L_law_581 (by decide) (fun c9 => absurd (by decide) c9) (fun c9 => ?_)
  refine lv_aload_n hx hb d_L_law_584 rfl (lv_at hl 3 rfl) ?_
  refine lv_iconst (v := 0) hx hb d_L_law_585 (by decide) ?_
  refine va_lald hx hb hE.1 hP 0 1 rfl rfl (show ¬ ((0 : Int32) < 0 ∨ 1 ≤ (0 : Int32).toNatClampNeg) by decide) d_L_law_586 ?_
  refine kb_topl (y := (0 : Int32).toInt64) rfl ?_
  refine lv_iload hx hb d_L_law_587 (lv_at hl 0 rfl) ?_
  refine lv_i2l (v := (0 : Int32).toInt64) hx hb d_L_law_589 rfl ?_
  refine W.lcmp hx hb d_L_law_590 ?_
  refine kb_top (y := 0) (by decide) ?_
  refine lv_if_eq (tgt := 596) hx hb d_L_law_591 (by decide) (fun c9 => ?_) (fun c9 => absurd (by decide) c9)
  refine lv_goto (tgt := 940) hx hb d_L_law_596 (by decide) ?_
  refine lv_iinc (v := 6) (lv' := [(4, .int 6), (6, .int 0), (5, .int 0), (3, .ref o), (2, .ref y), (1, .ref x), (0, .ref b)]) hx hb d_L_law_940 hl (k := 2) rfl (by decide) (by decide) rfl (fun ls hl => ?_)
  refine lv_goto (tgt := 23) hx hb d_L_law_943 (by decide) ?_
  refine lv_iload hx hb d_L_law_23 (lv_at hl 0 rfl) ?_
  refine lv_aload_n hx hb d_L_law_25 rfl (lv_at hl 6 rfl) ?_
  refine va_slen hx hb hX hbl hbA hS d_L_law_26 ?_
  refine kb_top (y := 6) (by decide) ?_
  refine lv_bipush (v := 6) hx hb d_L_law_27 (by decide) ?_
  refine lv_isub hx hb d_L_law_29 ?_
  refine kb_top (y := 0) (by decide) ?_
  refine lv_icmp_gt (tgt := 946) hx hb d_L_law_30 (by decide) (fun c9 => ?_) (fun c9 => absurd (by decide) c9)
  refine lv_iconst (v := 1) hx hb d_L_law_946 (by decide) ?_
  refine va_forget (fun q hq => hAq _ (hS.2.2 q hq)) ?_
  refine W.widen (k := 600002) (n := 7302232) (Nat.le_of_ble_eq_true rfl) (Nat.le_of_ble_eq_true rfl) ?_
  exact lw_ret hx hb hr hlocks d_L_law_947

set_option maxHeartbeats 4000000 in
set_option maxRecDepth 100000 in
theorem lc_nodeX1 {p : Program} {l : Launch} {e : Env} {s : State} {m : MethodId} {below : List Frame} {meth : Method} {c : Code} (hst : l.stackTraces = false) {G : kb_G} {A : Nat → Prop} {b : Nat} {xs : Nat → Int32} (C0 : lw_At p s m meth c b 6 xs) (hE : kb_E G A s) (hbA : ¬ A b) (hAq : ∀ q, A q → s.heap.size ≤ q) (x y o : Nat) (ux um : kb_S) {H : Heap} {locs : List Loc} (hP : va_P G.1 kb_cl (lc_w0 G x y o ux um) H) (hD : va_D A (lc_w0 G x y o ux um)) (hS : va_S A s.heap H locs) {ls : Array Slot} (hl : lv_has ls 7 [(4, .int 0), (3, .ref o), (2, .ref y), (1, .ref x), (0, .ref b)]) (hk : xs 0 &&& 31 = 11) (h1 : ¬ xs 1 = 0) : W p l e room_1 s m #[Value.ref b] below meth c H locs 71 169237 (lw_Z below #[Value.ref b] s) (F0 m 23 ls []) := by
  obtain ⟨hx, hb, hr, hml, hown, hts, hX, hbl, hlocks, hgv⟩ := C0
  have hown : s.vm.findClass "TreePressLaw" = some m.cls := hown
  have ht : ∀ w ∈ kb_T, w.before #[Value.ref b] s = true := fun w h => hts w (List.mem_filter.mp h).1
  have hP : va_P G.1 kb_cl [kb_o x 3 [.ref (ux.1 0), .ref (ux.1 2), .ref (ux.1 4), .ref (ux.1 5), .ref (ux.1 30)], kb_o (ux.1 16) 1 [.ref (ux.1 17), .int 1], kb_o (ux.1 5) 2 [.ref (ux.1 29), .ref (ux.1 16), .ref (ux.1 18), .ref (ux.1 20), .ref (ux.1 22), .ref (ux.1 25), .ref (ux.1 27), .ref (ux.1 24), .ref (ux.1 12), .ref (ux.1 13), .ref (ux.1 14), .ref (ux.1 15), .int 0, .int 0], kb_o y 4 [.int 0, .ref (um.1 0), .int 0, .ref (um.1 1), .int 0, .ref (um.1 2), .ref (um.1 3), .ref (um.1 4), .ref (um.1 5), .ref (um.1 6), .ref (um.1 7), .ref (um.1 8), .ref (um.1 9), .ref (um.1 10), .ref (um.1 11), .ref (um.1 12), .int 0, .int 0, .int 0, .int 0, .int 0], kb_a G (um.1 2) 2 (upd (fun _ => 0) 0 1), kb_j G o 1 (fun _ => 0)] H := hP.sub [0, 16, 24, 63, 64, 70] rfl
  have hD : va_D A [kb_o x 3 [.ref (ux.1 0), .ref (ux.1 2), .ref (ux.1 4), .ref (ux.1 5), .ref (ux.1 30)], kb_o (ux.1 16) 1 [.ref (ux.1 17), .int 1], kb_o (ux.1 5) 2 [.ref (ux.1 29), .ref (ux.1 16), .ref (ux.1 18), .ref (ux.1 20), .ref (ux.1 22), .ref (ux.1 25), .ref (ux.1 27), .ref (ux.1 24), .ref (ux.1 12), .ref (ux.1 13), .ref (ux.1 14), .ref (ux.1 15), .int 0, .int 0], kb_o y 4 [.int 0, .ref (um.1 0), .int 0, .ref (um.1 1), .int 0, .ref (um.1 2), .ref (um.1 3), .ref (um.1 4), .ref (um.1 5), .ref (um.1 6), .ref (um.1 7), .ref (um.1 8), .ref (um.1 9), .ref (um.1 10), .ref (um.1 11), .ref (um.1 12), .int 0, .int 0, .int 0, .int 0, .int 0], kb_a G (um.1 2) 2 (upd (fun _ => 0) 0 1), kb_j G o 1 (fun _ => 0)] := hD.sub [0, 16, 24, 63, 64, 70] (by decide) rfl
  refine lv_iload hx hb d_L_law_23 (lv_at hl 0 rfl) ?_
  refine lv_aload_n hx hb d_L_law_25 rfl (lv_at hl 4 rfl) ?_
  refine va_slen hx hb hX hbl hbA hS d_L_law_26 ?_
  refine kb_top (y := 6) (by decide) ?_
  refine lv_bipush (v := 6) hx hb d_L_law_27 (by decide) ?_
  refine lv_isub hx hb d_L_law_29 ?_
  refine kb_top (y := 0) (by decide) ?_
  refine lv_icmp_gt (tgt := 946) hx hb d_L_law_30 (by decide) (fun c9 => absurd c9 (by decide)) (fun c9 => ?_)
  refine lv_aload_n hx hb d_L_law_33 rfl (lv_at hl 4 rfl) ?_
  refine lv_iload hx hb d_L_law_34 (lv_at hl 0 rfl) ?_
  refine va_sld hx hb hX hbl hbA hS (show ¬ ((0 : Int32) < 0 ∨ 6 ≤ (0 : Int32).toNatClampNeg) by decide) d_L_law_36 ?_
  refine kb_top (y := xs 0) rfl ?_
  refine lv_bipush (v := 31) hx hb d_L_law_37 (by decide) ?_
  refine lv_iand hx hb d_L_law_39 ?_
  refine kb_top (y := 11) (hk) ?_
  refine lv_tableIn (tgt := 531) (off := 491) hx hb d_L_law_40 (by decide) (by decide) (by decide) (by decide) ?_
  refine lv_aload_n hx hb d_L_law_531 rfl (lv_at hl 3 rfl) ?_
  refine lv_aload_n hx hb d_L_law_532 rfl (lv_at hl 4 rfl) ?_
  refine lv_iload hx hb d_L_law_533 (lv_at hl 0 rfl) ?_
  refine lv_iconst (v := 1) hx hb d_L_law_535 (by decide) ?_
  refine lv_iadd hx hb d_L_law_536 ?_
  refine kb_top (y := 1) (by decide) ?_
  refine va_sld hx hb hX hbl hbA hS (show ¬ ((1 : Int32) < 0 ∨ 6 ≤ (1 : Int32).toNatClampNeg) by decide) d_L_law_537 ?_
  refine kb_top (y := xs 1) rfl ?_
  refine lv_aload_n hx hb d_L_law_538 rfl (lv_at hl 4 rfl) ?_
  refine lv_iload hx hb d_L_law_539 (lv_at hl 0 rfl) ?_
  refine lv_iconst (v := 2) hx hb d_L_law_541 (by decide) ?_
  refine lv_iadd hx hb d_L_law_542 ?_
  refine kb_top (y := 2) (by decide) ?_
  refine va_sld hx hb hX hbl hbA hS (show ¬ ((2 : Int32) < 0 ∨ 6 ≤ (2 : Int32).toNatClampNeg) by decide) d_L_law_543 ?_
  refine kb_top (y := xs 2) rfl ?_
  refine lv_aload_n hx hb d_L_law_544 rfl (lv_at hl 1 rfl) ?_
  refine kb_i (wc := [kb_o x 3 [.ref (ux.1 0), .ref (ux.1 2), .ref (ux.1 4), .ref (ux.1 5), .ref (ux.1 30)], kb_o (ux.1 5) 2 [.ref (ux.1 29), .ref (ux.1 16), .ref (ux.1 18), .ref (ux.1 20), .ref (ux.1 22), .ref (ux.1 25), .ref (ux.1 27), .ref (ux.1 24), .ref (ux.1 12), .ref (ux.1 13), .ref (ux.1 14), .ref (ux.1 15), .int 0, .int 0], kb_o (ux.1 16) 1 [.ref (ux.1 17), .int 1], kb_j G o 1 (fun _ => 0)]) (wr := [kb_o y 4 [.int 0, .ref (um.1 0), .int 0, .ref (um.1 1), .int 0, .ref (um.1 2), .ref (um.1 3), .ref (um.1 4), .ref (um.1 5), .ref (um.1 6), .ref (um.1 7), .ref (um.1 8), .ref (um.1 9), .ref (um.1 10), .ref (um.1 11), .ref (um.1 12), .int 0, .int 0, .int 0, .int 0, .int 0], kb_a G (um.1 2) 2 (upd (fun _ => 0) 0 1)]) hE hP hD hS [0, 2, 1, 5] [3, 4] rfl rfl (by decide) (by decide) (kb_rH (As := [.ref x, .int (xs 1), .int (xs 2), .ref o]) (rest := []) (wc := [kb_o x 3 [.ref (ux.1 0), .ref (ux.1 2), .ref (ux.1 4), .ref (ux.1 5), .ref (ux.1 30)], kb_o (ux.1 5) 2 [.ref (ux.1 29), .ref (ux.1 16), .ref (ux.1 18), .ref (ux.1 20), .ref (ux.1 22), .ref (ux.1 25), .ref (ux.1 27), .ref (ux.1 24), .ref (ux.1 12), .ref (ux.1 13), .ref (ux.1 14), .ref (ux.1 15), .int 0, .int 0], kb_o (ux.1 16) 1 [.ref (ux.1 17), .int 1], kb_j G o 1 (fun _ => 0)]) ⟨hx, hb, hml, hown, ht⟩ (c_L_nodeX1 l hst G x (ux.1 0) (ux.1 2) (ux.1 4) (ux.1 5) (ux.1 30) (ux.1 29) (ux.1 16) (ux.1 18) (ux.1 20) (ux.1 22) (ux.1 25) (ux.1 27) (ux.1 24) (ux.1 12) (ux.1 13) (ux.1 14) (ux.1 15) 0 0 (ux.1 17) (xs 1) (xs 2) o h1) wd_9c016892 wd_e4ece85a wd_624a7d0e wd_41ba3b2e hd_6398135a ⟨(Nat.le_of_ble_eq_true rfl), (Nat.le_of_ble_eq_true rfl)⟩ hE hP hD hS [0, 2, 1, 5] rfl (by decide) hl.1 rfl (Nat.le_of_ble_eq_true rfl) d_L_law_545 ⟨(Nat.le_of_ble_eq_true rfl), (Nat.le_of_ble_eq_true rfl)⟩) (fun rv2 uu1 H locs hw hP hD hS => ?_)
  have hP : va_P G.1 kb_cl [kb_o y 4 [.int 0, .ref (um.1 0), .int 0, .ref (um.1 1), .int 0, .ref (um.1 2), .ref (um.1 3), .ref (um.1 4), .ref (um.1 5), .ref (um.1 6), .ref (um.1 7), .ref (um.1 8), .ref (um.1 9), .ref (um.1 10), .ref (um.1 11), .ref (um.1 12), .int 0, .int 0, .int 0, .int 0, .int 0], kb_a G (um.1 2) 2 (upd (fun _ => 0) 0 1), kb_j G o 1 (fun _ => 0)] H := hP
  have hD : va_D A [kb_o y 4 [.int 0, .ref (um.1 0), .int 0, .ref (um.1 1), .int 0, .ref (um.1 2), .ref (um.1 3), .ref (um.1 4), .ref (um.1 5), .ref (um.1 6), .ref (um.1 7), .ref (um.1 8), .ref (um.1 9), .ref (um.1 10), .ref (um.1 11), .ref (um.1 12), .int 0, .int 0, .int 0, .int 0, .int 0], kb_a G (um.1 2) 2 (upd (fun _ => 0) 0 1), kb_j G o 1 (fun _ => 0)] := hD
  refine kb_top (y := 1) (show rv2 = 1 from hw) ?_
  refine lv_istore (lv' := [(5, .int 1), (4, .int 0), (3, .ref o), (2, .ref y), (1, .ref x), (0, .ref b)]) hx hb d_L_law_548 hl (by decide) rfl (fun ls hl => ?_)
  refine lv_aload_n hx hb d_L_law_550 rfl (lv_at hl 3 rfl) ?_
  refine lv_aload_n hx hb d_L_law_551 rfl (lv_at hl 5 rfl) ?_
  refine lv_iload hx hb d_L_law_552 (lv_at hl 1 rfl) ?_
  refine lv_iconst (v := 1) hx hb d_L_law_554 (by decide) ?_
  refine lv_iadd hx hb d_L_law_555 ?_
  refine kb_top (y := 1) (by decide) ?_
  refine va_sld hx hb hX hbl hbA hS (show ¬ ((1 : Int32) < 0 ∨ 6 ≤ (1 : Int32).toNatClampNeg) by decide) d_L_law_556 ?_
  refine kb_top (y := xs 1) rfl ?_
  refine lv_aload_n hx hb d_L_law_557 rfl (lv_at hl 5 rfl) ?_
  refine lv_iload hx hb d_L_law_558 (lv_at hl 1 rfl) ?_
  refine lv_iconst (v := 2) hx hb d_L_law_560 (by decide) ?_
  refine lv_iadd hx hb d_L_law_561 ?_
  refine kb_top (y := 2) (by decide) ?_
  refine va_sld hx hb hX hbl hbA hS (show ¬ ((2 : Int32) < 0 ∨ 6 ≤ (2 : Int32).toNatClampNeg) by decide) d_L_law_562 ?_
  refine kb_top (y := xs 2) rfl ?_
  refine kb_i (wc := [kb_o y 4 [.int 0, .ref (um.1 0), .int 0, .ref (um.1 1), .int 0, .ref (um.1 2), .ref (um.1 3), .ref (um.1 4), .ref (um.1 5), .ref (um.1 6), .ref (um.1 7), .ref (um.1 8), .ref (um.1 9), .ref (um.1 10), .ref (um.1 11), .ref (um.1 12), .int 0, .int 0, .int 0, .int 0, .int 0], kb_a G (um.1 2) 2 (upd (fun _ => 0) 0 1)]) (wr := [kb_j G o 1 (fun _ => 0)]) hE hP hD hS [0, 1] [2] rfl rfl (by decide) (by decide) (kb_rV (As := [.int (xs 1), .int (xs 2)]) (rest := []) (wc := [kb_o y 4 [.int 0, .ref (um.1 0), .int 0, .ref (um.1 1), .int 0, .ref (um.1 2), .ref (um.1 3), .ref (um.1 4), .ref (um.1 5), .ref (um.1 6), .ref (um.1 7), .ref (um.1 8), .ref (um.1 9), .ref (um.1 10), .ref (um.1 11), .ref (um.1 12), .int 0, .int 0, .int 0, .int 0, .int 0], kb_a G (um.1 2) 2 (upd (fun _ => 0) 0 1)]) (q0 := 0) ⟨hx, hb, hml, hown, ht⟩ ((c_M_nodeX1 l G y 0 (um.1 0) (um.1 1) (um.1 2) (um.1 3) (um.1 4) (um.1 5) (um.1 6) (um.1 7) (um.1 8) (um.1 9) (um.1 10) (um.1 11) (um.1 12) (xs 1) (xs 2) h1) _) (kb_gV wd_342a0efc wd_518e3e71 wd_42666347 wd_38099713 wd_797669bc) ⟨rfl, hd_765c9157⟩ ⟨(Nat.le_of_ble_eq_true rfl), (Nat.le_of_ble_eq_true rfl)⟩ hE hP hD hS [0, 1] rfl (by decide) rfl rfl rfl hl.1 rfl (Nat.le_of_ble_eq_true rfl) d_L_law_563 ⟨(Nat.le_of_ble_eq_true rfl), (Nat.le_of_ble_eq_true rfl)⟩) (fun rv4 uu3 H locs hw hP hD hS => ?_)
  have hP : va_P G.1 kb_cl [kb_j G o 1 (fun _ => 0), kb_o y 4 [.int 1, .ref (um.1 0), .int 0, .ref (um.1 1), .int 0, .ref (um.1 2), .ref (um.1 3), .ref (um.1 4), .ref (um.1 5), .ref (um.1 6), .ref (um.1 7), .ref (um.1 8), .ref (um.1 9), .ref (um.1 10), .ref (um.1 11), .ref (um.1 12), .int 0, .int 0, .int 0, .int 0, .int 0]] H := hP
  have hD : va_D A [kb_j G o 1 (fun _ => 0), kb_o y 4 [.int 1, .ref (um.1 0), .int 0, .ref (um.1 1), .int 0, .ref (um.1 2), .ref (um.1 3), .ref (um.1 4), .ref (um.1 5), .ref (um.1 6), .ref (um.1 7), .ref (um.1 8), .ref (um.1 9), .ref (um.1 10), .ref (um.1 11), .ref (um.1 12), .int 0, .int 0, .int 0, .int 0, .int 0]] := hD
  refine kb_top (y := 0) (show rv4 = 0 from hw) ?_
  refine lv_istore (lv' := [(6, .int 0), (5, .int 1), (4, .int 0), (3, .ref o), (2, .ref y), (1, .ref x), (0, .ref b)]) hx hb d_L_law_566 hl (by decide) rfl (fun ls hl => ?_)
  refine lv_aload_n hx hb d_L_law_568 rfl (lv_at hl 4 rfl) ?_
  refine kb_i (wc := [kb_o y 4 [.int 1, .ref (um.1 0), .int 0, .ref (um.1 1), .int 0, .ref (um.1 2), .ref (um.1 3), .ref (um.1 4), .ref (um.1 5), .ref (um.1 6), .ref (um.1 7), .ref (um.1 8), .ref (um.1 9), .ref (um.1 10), .ref (um.1 11), .ref (um.1 12), .int 0, .int 0, .int 0, .int 0, .int 0]]) (wr := [kb_j G o 1 (fun _ => 0)]) hE hP hD hS [1] [0] rfl rfl (by decide) (by decide) (kb_rV (As := []) (rest := []) (wc := [kb_o y 4 [.int 1, .ref (um.1 0), .int 0, .ref (um.1 1), .int 0, .ref (um.1 2), .ref (um.1 3), .ref (um.1 4), .ref (um.1 5), .ref (um.1 6), .ref (um.1 7), .ref (um.1 8), .ref (um.1 9), .ref (um.1 10), .ref (um.1 11), .ref (um.1 12), .int 0, .int 0, .int 0, .int 0, .int 0]]) (q0 := 0) ⟨hx, hb, hml, hown, ht⟩ ((c_M_thrown l G y 1 (um.1 0) (um.1 1) (um.1 2) (um.1 3) (um.1 4) (um.1 5) (um.1 6) (um.1 7) (um.1 8) (um.1 9) (um.1 10) (um.1 11) (um.1 12) 0 0 0 0) _) (kb_gV wd_1946a056 wd_e9c50365 wd_a707e5a8 wd_38099713 wd_79f18ba3) ⟨rfl, hd_2a236ec3⟩ ⟨(Nat.le_of_ble_eq_true rfl), (Nat.le_of_ble_eq_true rfl)⟩ hE hP hD hS [1] rfl (by decide) rfl rfl rfl hl.1 rfl (Nat.le_of_ble_eq_true rfl) d_L_law_569 ⟨(Nat.le_of_ble_eq_true rfl), (Nat.le_of_ble_eq_true rfl)⟩) (fun rv6 uu5 H locs hw hP hD hS => ?_)
  have hP : va_P G.1 kb_cl [kb_j G o 1 (fun _ => 0), kb_o y 4 [.int 1, .ref (um.1 0), .int 0, .ref (um.1 1), .int 0, .ref (um.1 2), .ref (um.1 3), .ref (um.1 4), .ref (um.1 5), .ref (um.1 6), .ref (um.1 7), .ref (um.1 8), .ref (um.1 9), .ref (um.1 10), .ref (um.1 11), .ref (um.1 12), .int 0, .int 0, .int 0, .int 0, .int 0]] H := hP
  have hD : va_D A [kb_j G o 1 (fun _ => 0), kb_o y 4 [.int 1, .ref (um.1 0), .int 0, .ref (um.1 1), .int 0, .ref (um.1 2), .ref (um.1 3), .ref (um.1 4), .ref (um.1 5), .ref (um.1 6), .ref (um.1 7), .ref (um.1 8), .ref (um.1 9), .ref (um.1 10), .ref (um.1 11), .ref (um.1 12), .int 0, .int 0, .int 0, .int 0, .int 0]] := hD
  refine kb_top (y := 1) (show rv6 = 1 from hw) ?_
  refine lv_iload hx hb d_L_law_572 (lv_at hl 1 rfl) ?_
  refine lv_icmp_eq (tgt := 579) hx hb d_L_law_574 (by decide) (fun c9 => ?_) (fun c9 => absurd (by decide) c9)
  refine lv_iload hx hb d_L_law_579 (lv_at hl 1 rfl) ?_
  refine lv_if_ne (tgt := 596) hx hb d_L_law_581 (by decide) (fun c9 => ?_) (fun c9 => absurd c9 (by decide))
  refine lv_goto (tgt := 940) hx hb d_L_law_596 (by decide) ?_
  refine lv_iinc (v := 6) (lv' := [(4, .int 6), (6, .int 0), (5, .int 1), (3, .ref o), (2, .ref y), (1, .ref x), (0, .ref b)]) hx hb d_L_law_940 hl (k := 2) rfl (by decide) (by decide) rfl (fun ls hl => ?_)
  refine lv_goto (tgt := 23) hx hb d_L_law_943 (by decide) ?_
  refine lv_iload hx hb d_L_law_23 (lv_at hl 0 rfl) ?_
  refine lv_aload_n hx hb d_L_law_25 rfl (lv_at hl 6 rfl) ?_
  refine va_slen hx hb hX hbl hbA hS d_L_law_26 ?_
  refine kb_top (y := 6) (by decide) ?_
  refine lv_bipush (v := 6) hx hb d_L_law_27 (by decide) ?_
  refine lv_isub hx hb d_L_law_29 ?_
  refine kb_top (y := 0) (by decide) ?_
  refine lv_icmp_gt (tgt := 946) hx hb d_L_law_30 (by decide) (fun c9 => ?_) (fun c9 => absurd (by decide) c9)
  refine lv_iconst (v := 1) hx hb d_L_law_946 (by decide) ?_
  refine va_forget (fun q hq => hAq _ (hS.2.2 q hq)) ?_
  refine W.widen (k := 600002) (n := 7302232) (Nat.le_of_ble_eq_true rfl) (Nat.le_of_ble_eq_true rfl) ?_
  exact lw_ret hx hb hr hlocks d_L_law_947

set_option maxHeartbeats 4000000 in
set_option maxRecDepth 100000 in
theorem lc_nodeX2 {p : Program} {l : Launch} {e : Env} {s : State} {m : MethodId} {below : List Frame} {meth : Method} {c : Code} (hst : l.stackTraces = false) {G : kb_G} {A : Nat → Prop} {b : Nat} {xs : Nat → Int32} (C0 : lw_At p s m meth c b 6 xs) (hE : kb_E G A s) (hbA : ¬ A b) (hAq : ∀ q, A q → s.heap.size ≤ q) (x y o : Nat) (ux um : kb_S) {H : Heap} {locs : List Loc} (hP : va_P G.1 kb_cl (lc_w0 G x y o ux um) H) (hD : va_D A (lc_w0 G x y o ux um)) (hS : va_S A s.heap H locs) {ls : Array Slot} (hl : lv_has ls 7 [(4, .int 0), (3, .ref o), (2, .ref y), (1, .ref x), (0, .ref b)]) (hk : xs 0 &&& 31 = 11) (h1 : xs 1 = 0) (h2 : (xs 2).toInt < 0 ∨ 3 < (xs 2).toInt) (n0 : ¬ xs 2 = 0) (n1 : ¬ xs 2 = 1) (n2 : ¬ xs 2 = 2) (n3 : ¬ xs 2 = 3) : W p l e room_1 s m #[Value.ref b] below meth c H locs 71 169237 (lw_Z below #[Value.ref b] s) (F0 m 23 ls []) := by
  obtain ⟨hx, hb, hr, hml, hown, hts, hX, hbl, hlocks, hgv⟩ := C0
  have hown : s.vm.findClass "TreePressLaw" = some m.cls := hown
  have ht : ∀ w ∈ kb_T, w.before #[Value.ref b] s = true := fun w h => hts w (List.mem_filter.mp h).1
  have hP : va_P G.1 kb_cl [kb_o x 3 [.ref (ux.1 0), .ref (ux.1 2), .ref (ux.1 4), .ref (ux.1 5), .ref (ux.1 30)], kb_o (ux.1 16) 1 [.ref (ux.1 17), .int 1], kb_o (ux.1 5) 2 [.ref (ux.1 29), .ref (ux.1 16), .ref (ux.1 18), .ref (ux.1 20), .ref (ux.1 22), .ref (ux.1 25), .ref (ux.1 27), .ref (ux.1 24), .ref (ux.1 12), .ref (ux.1 13), .ref (ux.1 14), .ref (ux.1 15), .int 0, .int 0], kb_o y 4 [.int 0, .ref (um.1 0), .int 0, .ref (um.1 1), .int 0, .ref (um.1 2), .ref (um.1 3), .ref (um.1 4), .ref (um.1 5), .ref (um.1 6), .ref (um.1 7), .ref (um.1 8), .ref (um.1 9), .ref (um.1 10), .ref (um.1 11), .ref (um.1 12), .int 0, .int 0, .int 0, .int 0, .int 0], kb_a G (um.1 2) 2 (upd (fun _ => 0) 0 1), kb_j G o 1 (fun _ => 0)] H := hP.sub [0, 16, 24, 63, 64, 70] rfl
  have hD : va_D A [kb_o x 3 [.ref (ux.1 0), .ref (ux.1 2), .ref (ux.1 4), .ref (ux.1 5), .ref (ux.1 30)], kb_o (ux.1 16) 1 [.ref (ux.1 17), .int 1], kb_o (ux.1 5) 2 [.ref (ux.1 29), .ref (ux.1 16), .ref (ux.1 18), .ref (ux.1 20), .ref (ux.1 22), .ref (ux.1 25), .ref (ux.1 27), .ref (ux.1 24), .ref (ux.1 12), .ref (ux.1 13), .ref (ux.1 14), .ref (ux.1 15), .int 0, .int 0], kb_o y 4 [.int 0, .ref (um.1 0), .int 0, .ref (um.1 1), .int 0, .ref (um.1 2), .ref (um.1 3), .ref (um.1 4), .ref (um.1 5), .ref (um.1 6), .ref (um.1 7), .ref (um.1 8), .ref (um.1 9), .ref (um.1 10), .ref (um.1 11), .ref (um.1 12), .int 0, .int 0, .int 0, .int 0, .int 0], kb_a G (um.1 2) 2 (upd (fun _ => 0) 0 1), kb_j G o 1 (fun _ => 0)] := hD.sub [0, 16, 24, 63, 64, 70] (by decide) rfl
  refine lv_iload hx hb d_L_law_23 (lv_at hl 0 rfl) ?_
  refine lv_aload_n hx hb d_L_law_25 rfl (lv_at hl 4 rfl) ?_
  refine va_slen hx hb hX hbl hbA hS d_L_law_26 ?_
  refine kb_top (y := 6) (by decide) ?_
  refine lv_bipush (v := 6) hx hb d_L_law_27 (by decide) ?_
  refine lv_isub hx hb d_L_law_29 ?_
  refine kb_top (y := 0) (by decide) ?_
  refine lv_icmp_gt (tgt := 946) hx hb d_L_law_30 (by decide) (fun c9 => absurd c9 (by decide)) (fun c9 => ?_)
  refine lv_aload_n hx hb d_L_law_33 rfl (lv_at hl 4 rfl) ?_
  refine lv_iload hx hb d_L_law_34 (lv_at hl 0 rfl) ?_
  refine va_sld hx hb hX hbl hbA hS (show ¬ ((0 : Int32) < 0 ∨ 6 ≤ (0 : Int32).toNatClampNeg) by decide) d_L_law_36 ?_
  refine kb_top (y := xs 0) rfl ?_
  refine lv_bipush (v := 31) hx hb d_L_law_37 (by decide) ?_
  refine lv_iand hx hb d_L_law_39 ?_
  refine kb_top (y := 11) (hk) ?_
  refine lv_tableIn (tgt := 531) (off := 491) hx hb d_L_law_40 (by decide) (by decide) (by decide) (by decide) ?_
  refine lv_aload_n hx hb d_L_law_531 rfl (lv_at hl 3 rfl) ?_
  refine lv_aload_n hx hb d_L_law_532 rfl (lv_at hl 4 rfl) ?_
  refine lv_iload hx hb d_L_law_533 (lv_at hl 0 rfl) ?_
  refine lv_iconst (v := 1) hx hb d_L_law_535 (by decide) ?_
  refine lv_iadd hx hb d_L_law_536 ?_
  refine kb_top (y := 1) (by decide) ?_
  refine va_sld hx hb hX hbl hbA hS (show ¬ ((1 : Int32) < 0 ∨ 6 ≤ (1 : Int32).toNatClampNeg) by decide) d_L_law_537 ?_
  refine kb_top (y := xs 1) rfl ?_
  refine kb_top (y := 0) h1 ?_
  refine lv_aload_n hx hb d_L_law_538 rfl (lv_at hl 4 rfl) ?_
  refine lv_iload hx hb d_L_law_539 (lv_at hl 0 rfl) ?_
  refine lv_iconst (v := 2) hx hb d_L_law_541 (by decide) ?_
  refine lv_iadd hx hb d_L_law_542 ?_
  refine kb_top (y := 2) (by decide) ?_
  refine va_sld hx hb hX hbl hbA hS (show ¬ ((2 : Int32) < 0 ∨ 6 ≤ (2 : Int32).toNatClampNeg) by decide) d_L_law_543 ?_
  refine kb_top (y := xs 2) rfl ?_
  refine lv_aload_n hx hb d_L_law_544 rfl (lv_at hl 1 rfl) ?_
  refine kb_i (wc := [kb_o x 3 [.ref (ux.1 0), .ref (ux.1 2), .ref (ux.1 4), .ref (ux.1 5), .ref (ux.1 30)], kb_o (ux.1 5) 2 [.ref (ux.1 29), .ref (ux.1 16), .ref (ux.1 18), .ref (ux.1 20), .ref (ux.1 22), .ref (ux.1 25), .ref (ux.1 27), .ref (ux.1 24), .ref (ux.1 12), .ref (ux.1 13), .ref (ux.1 14), .ref (ux.1 15), .int 0, .int 0], kb_o (ux.1 16) 1 [.ref (ux.1 17), .int 1], kb_j G o 1 (fun _ => 0)]) (wr := [kb_o y 4 [.int 0, .ref (um.1 0), .int 0, .ref (um.1 1), .int 0, .ref (um.1 2), .ref (um.1 3), .ref (um.1 4), .ref (um.1 5), .ref (um.1 6), .ref (um.1 7), .ref (um.1 8), .ref (um.1 9), .ref (um.1 10), .ref (um.1 11), .ref (um.1 12), .int 0, .int 0, .int 0, .int 0, .int 0], kb_a G (um.1 2) 2 (upd (fun _ => 0) 0 1)]) hE hP hD hS [0, 2, 1, 5] [3, 4] rfl rfl (by decide) (by decide) (kb_rH (As := [.ref x, .int 0, .int (xs 2), .ref o]) (rest := []) (wc := [kb_o x 3 [.ref (ux.1 0), .ref (ux.1 2), .ref (ux.1 4), .ref (ux.1 5), .ref (ux.1 30)], kb_o (ux.1 5) 2 [.ref (ux.1 29), .ref (ux.1 16), .ref (ux.1 18), .ref (ux.1 20), .ref (ux.1 22), .ref (ux.1 25), .ref (ux.1 27), .ref (ux.1 24), .ref (ux.1 12), .ref (ux.1 13), .ref (ux.1 14), .ref (ux.1 15), .int 0, .int 0], kb_o (ux.1 16) 1 [.ref (ux.1 17), .int 1], kb_j G o 1 (fun _ => 0)]) ⟨hx, hb, hml, hown, ht⟩ (c_L_nodeX2 l hst G x (ux.1 0) (ux.1 2) (ux.1 4) (ux.1 5) (ux.1 30) (ux.1 29) (ux.1 16) (ux.1 18) (ux.1 20) (ux.1 22) (ux.1 25) (ux.1 27) (ux.1 24) (ux.1 12) (ux.1 13) (ux.1 14) (ux.1 15) 0 0 (ux.1 17) (xs 2) o h2) wd_9c016892 wd_e4ece85a wd_624a7d0e wd_41ba3b2e hd_6398135a ⟨(Nat.le_of_ble_eq_true rfl), (Nat.le_of_ble_eq_true rfl)⟩ hE hP hD hS [0, 2, 1, 5] rfl (by decide) hl.1 rfl (Nat.le_of_ble_eq_true rfl) d_L_law_545 ⟨(Nat.le_of_ble_eq_true rfl), (Nat.le_of_ble_eq_true rfl)⟩) (fun rv2 uu1 H locs hw hP hD hS => ?_)
  have hP : va_P G.1 kb_cl [kb_o y 4 [.int 0, .ref (um.1 0), .int 0, .ref (um.1 1), .int 0, .ref (um.1 2), .ref (um.1 3), .ref (um.1 4), .ref (um.1 5), .ref (um.1 6), .ref (um.1 7), .ref (um.1 8), .ref (um.1 9), .ref (um.1 10), .ref (um.1 11), .ref (um.1 12), .int 0, .int 0, .int 0, .int 0, .int 0], kb_a G (um.1 2) 2 (upd (fun _ => 0) 0 1), kb_j G o 1 (fun _ => 0)] H := hP
  have hD : va_D A [kb_o y 4 [.int 0, .ref (um.1 0), .int 0, .ref (um.1 1), .int 0, .ref (um.1 2), .ref (um.1 3), .ref (um.1 4), .ref (um.1 5), .ref (um.1 6), .ref (um.1 7), .ref (um.1 8), .ref (um.1 9), .ref (um.1 10), .ref (um.1 11), .ref (um.1 12), .int 0, .int 0, .int 0, .int 0, .int 0], kb_a G (um.1 2) 2 (upd (fun _ => 0) 0 1), kb_j G o 1 (fun _ => 0)] := hD
  refine kb_top (y := 2) (show rv2 = 2 from hw) ?_
  refine lv_istore (lv' := [(5, .int 2), (4, .int 0), (3, .ref o), (2, .ref y), (1, .ref x), (0, .ref b)]) hx hb d_L_law_548 hl (by decide) rfl (fun ls hl => ?_)
  refine lv_aload_n hx hb d_L_law_550 rfl (lv_at hl 3 rfl) ?_
  refine lv_aload_n hx hb d_L_law_551 rfl (lv_at hl 5 rfl) ?_
  refine lv_iload hx hb d_L_law_552 (lv_at hl 1 rfl) ?_
  refine lv_iconst (v := 1) hx hb d_L_law_554 (by decide) ?_
  refine lv_iadd hx hb d_L_law_555 ?_
  refine kb_top (y := 1) (by decide) ?_
  refine va_sld hx hb hX hbl hbA hS (show ¬ ((1 : Int32) < 0 ∨ 6 ≤ (1 : Int32).toNatClampNeg) by decide) d_L_law_556 ?_
  refine kb_top (y := xs 1) rfl ?_
  refine kb_top (y := 0) h1 ?_
  refine lv_aload_n hx hb d_L_law_557 rfl (lv_at hl 5 rfl) ?_
  refine lv_iload hx hb d_L_law_558 (lv_at hl 1 rfl) ?_
  refine lv_iconst (v := 2) hx hb d_L_law_560 (by decide) ?_
  refine lv_iadd hx hb d_L_law_561 ?_
  refine kb_top (y := 2) (by decide) ?_
  refine va_sld hx hb hX hbl hbA hS (show ¬ ((2 : Int32) < 0 ∨ 6 ≤ (2 : Int32).toNatClampNeg) by decide) d_L_law_562 ?_
  refine kb_top (y := xs 2) rfl ?_
  refine kb_i (wc := [kb_o y 4 [.int 0, .ref (um.1 0), .int 0, .ref (um.1 1), .int 0, .ref (um.1 2), .ref (um.1 3), .ref (um.1 4), .ref (um.1 5), .ref (um.1 6), .ref (um.1 7), .ref (um.1 8), .ref (um.1 9), .ref (um.1 10), .ref (um.1 11), .ref (um.1 12), .int 0, .int 0, .int 0, .int 0, .int 0], kb_a G (um.1 2) 2 (upd (fun _ => 0) 0 1)]) (wr := [kb_j G o 1 (fun _ => 0)]) hE hP hD hS [0, 1] [2] rfl rfl (by decide) (by decide) (kb_rV (As := [.int 0, .int (xs 2)]) (rest := []) (wc := [kb_o y 4 [.int 0, .ref (um.1 0), .int 0, .ref (um.1 1), .int 0, .ref (um.1 2), .ref (um.1 3), .ref (um.1 4), .ref (um.1 5), .ref (um.1 6), .ref (um.1 7), .ref (um.1 8), .ref (um.1 9), .ref (um.1 10), .ref (um.1 11), .ref (um.1 12), .int 0, .int 0, .int 0, .int 0, .int 0], kb_a G (um.1 2) 2 (upd (fun _ => 0) 0 1)]) (q0 := 0) ⟨hx, hb, hml, hown, ht⟩ ((c_M_nodeX2 l G y 0 (um.1 0) (um.1 1) (um.1 2) (um.1 3) (um.1 4) (um.1 5) (um.1 6) (um.1 7) (um.1 8) (um.1 9) (um.1 10) (um.1 11) (um.1 12) (xs 2) n0 n1 n2 n3) _) (kb_gV wd_342a0efc wd_518e3e71 wd_42666347 wd_38099713 wd_797669bc) ⟨rfl, hd_765c9157⟩ ⟨(Nat.le_of_ble_eq_true rfl), (Nat.le_of_ble_eq_true rfl)⟩ hE hP hD hS [0, 1] rfl (by decide) rfl rfl rfl hl.1 rfl (Nat.le_of_ble_eq_true rfl) d_L_law_563 ⟨(Nat.le_of_ble_eq_true rfl), (Nat.le_of_ble_eq_true rfl)⟩) (fun rv4 uu3 H locs hw hP hD hS => ?_)
  have hP : va_P G.1 kb_cl [kb_j G o 1 (fun _ => 0), kb_o y 4 [.int 2, .ref (um.1 0), .int 0, .ref (um.1 1), .int 0, .ref (um.1 2), .ref (um.1 3), .ref (um.1 4), .ref (um.1 5), .ref (um.1 6), .ref (um.1 7), .ref (um.1 8), .ref (um.1 9), .ref (um.1 10), .ref (um.1 11), .ref (um.1 12), .int 0, .int 0, .int 0, .int 0, .int 0]] H := hP
  have hD : va_D A [kb_j G o 1 (fun _ => 0), kb_o y 4 [.int 2, .ref (um.1 0), .int 0, .ref (um.1 1), .int 0, .ref (um.1 2), .ref (um.1 3), .ref (um.1 4), .ref (um.1 5), .ref (um.1 6), .ref (um.1 7), .ref (um.1 8), .ref (um.1 9), .ref (um.1 10), .ref (um.1 11), .ref (um.1 12), .int 0, .int 0, .int 0, .int 0, .int 0]] := hD
  refine kb_top (y := 0) (show rv4 = 0 from hw) ?_
  refine lv_istore (lv' := [(6, .int 0), (5, .int 2), (4, .int 0), (3, .ref o), (2, .ref y), (1, .ref x), (0, .ref b)]) hx hb d_L_law_566 hl (by decide) rfl (fun ls hl => ?_)
  refine lv_aload_n hx hb d_L_law_568 rfl (lv_at hl 4 rfl) ?_
  refine kb_i (wc := [kb_o y 4 [.int 2, .ref (um.1 0), .int 0, .ref (um.1 1), .int 0, .ref (um.1 2), .ref (um.1 3), .ref (um.1 4), .ref (um.1 5), .ref (um.1 6), .ref (um.1 7), .ref (um.1 8), .ref (um.1 9), .ref (um.1 10), .ref (um.1 11), .ref (um.1 12), .int 0, .int 0, .int 0, .int 0, .int 0]]) (wr := [kb_j G o 1 (fun _ => 0)]) hE hP hD hS [1] [0] rfl rfl (by decide) (by decide) (kb_rV (As := []) (rest := []) (wc := [kb_o y 4 [.int 2, .ref (um.1 0), .int 0, .ref (um.1 1), .int 0, .ref (um.1 2), .ref (um.1 3), .ref (um.1 4), .ref (um.1 5), .ref (um.1 6), .ref (um.1 7), .ref (um.1 8), .ref (um.1 9), .ref (um.1 10), .ref (um.1 11), .ref (um.1 12), .int 0, .int 0, .int 0, .int 0, .int 0]]) (q0 := 0) ⟨hx, hb, hml, hown, ht⟩ ((c_M_thrown l G y 2 (um.1 0) (um.1 1) (um.1 2) (um.1 3) (um.1 4) (um.1 5) (um.1 6) (um.1 7) (um.1 8) (um.1 9) (um.1 10) (um.1 11) (um.1 12) 0 0 0 0) _) (kb_gV wd_1946a056 wd_e9c50365 wd_a707e5a8 wd_38099713 wd_79f18ba3) ⟨rfl, hd_2a236ec3⟩ ⟨(Nat.le_of_ble_eq_true rfl), (Nat.le_of_ble_eq_true rfl)⟩ hE hP hD hS [1] rfl (by decide) rfl rfl rfl hl.1 rfl (Nat.le_of_ble_eq_true rfl) d_L_law_569 ⟨(Nat.le_of_ble_eq_true rfl), (Nat.le_of_ble_eq_true rfl)⟩) (fun rv6 uu5 H locs hw hP hD hS => ?_)
  have hP : va_P G.1 kb_cl [kb_j G o 1 (fun _ => 0), kb_o y 4 [.int 2, .ref (um.1 0), .int 0, .ref (um.1 1), .int 0, .ref (um.1 2), .ref (um.1 3), .ref (um.1 4), .ref (um.1 5), .ref (um.1 6), .ref (um.1 7), .ref (um.1 8), .ref (um.1 9), .ref (um.1 10), .ref (um.1 11), .ref (um.1 12), .int 0, .int 0, .int 0, .int 0, .int 0]] H := hP
  have hD : va_D A [kb_j G o 1 (fun _ => 0), kb_o y 4 [.int 2, .ref (um.1 0), .int 0, .ref (um.1 1), .int 0, .ref (um.1 2), .ref (um.1 3), .ref (um.1 4), .ref (um.1 5), .ref (um.1 6), .ref (um.1 7), .ref (um.1 8), .ref (um.1 9), .ref (um.1 10), .ref (um.1 11), .ref (um.1 12), .int 0, .int 0, .int 0, .int 0, .int 0]] := hD
  refine kb_top (y := 2) (show rv6 = 2 from hw) ?_
  refine lv_iload hx hb d_L_law_572 (lv_at hl 1 rfl) ?_
  refine lv_icmp_eq (tgt := 579) hx hb d_L_law_574 (by decide) (fun c9 => ?_) (fun c9 => absurd (by decide) c9)
  refine lv_iload hx hb d_L_law_579 (lv_at hl 1 rfl) ?_
  refine lv_if_ne (tgt := 596) hx hb d_L_law_581 (by decide) (fun c9 => ?_) (fun c9 => absurd c9 (by decide))
  refine lv_goto (tgt := 940) hx hb d_L_law_596 (by decide) ?_
  refine lv_iinc (v := 6) (lv' := [(4, .int 6), (6, .int 0), (5, .int 2), (3, .ref o), (2, .ref y), (1, .ref x), (0, .ref b)]) hx hb d_L_law_940 hl (k := 2) rfl (by decide) (by decide) rfl (fun ls hl => ?_)
  refine lv_goto (tgt := 23) hx hb d_L_law_943 (by decide) ?_
  refine lv_iload hx hb d_L_law_23 (lv_at hl 0 rfl) ?_
  refine lv_aload_n hx hb d_L_law_25 rfl (lv_at hl 6 rfl) ?_
  refine va_slen hx hb hX hbl hbA hS d_L_law_26 ?_
  refine kb_top (y := 6) (by decide) ?_
  refine lv_bipush (v := 6) hx hb d_L_law_27 (by decide) ?_
  refine lv_isub hx hb d_L_law_29 ?_
  refine kb_top (y := 0) (by decide) ?_
  refine lv_icmp_gt (tgt := 946) hx hb d_L_law_30 (by decide) (fun c9 => ?_) (fun c9 => absurd (by decide) c9)
  refine lv_iconst (v := 1) hx hb d_L_law_946 (by decide) ?_
  refine va_forget (fun q hq => hAq _ (hS.2.2 q hq)) ?_
  refine W.widen (k := 600002) (n := 7302232) (Nat.le_of_ble_eq_true rfl) (Nat.le_of_ble_eq_true rfl) ?_
  exact lw_ret hx hb hr hlocks d_L_law_947

set_option maxHeartbeats 4000000 in
set_option maxRecDepth 100000 in
theorem lc_about {p : Program} {l : Launch} {e : Env} {s : State} {m : MethodId} {below : List Frame} {meth : Method} {c : Code} (hst : l.stackTraces = false) {G : kb_G} {A : Nat → Prop} {b : Nat} {xs : Nat → Int32} (C0 : lw_At p s m meth c b 6 xs) (hE : kb_E G A s) (hbA : ¬ A b) (hAq : ∀ q, A q → s.heap.size ≤ q) (x y o : Nat) (ux um : kb_S) {H : Heap} {locs : List Loc} (hP : va_P G.1 kb_cl (lc_w0 G x y o ux um) H) (hD : va_D A (lc_w0 G x y o ux um)) (hS : va_S A s.heap H locs) {ls : Array Slot} (hl : lv_has ls 7 [(4, .int 0), (3, .ref o), (2, .ref y), (1, .ref x), (0, .ref b)]) (hk : xs 0 &&& 31 = 12) : W p l e room_1 s m #[Value.ref b] below meth c H locs 71 169237 (lw_Z below #[Value.ref b] s) (F0 m 23 ls []) := by
  obtain ⟨hx, hb, hr, hml, hown, hts, hX, hbl, hlocks, hgv⟩ := C0
  have hown : s.vm.findClass "TreePressLaw" = some m.cls := hown
  have ht : ∀ w ∈ kb_T, w.before #[Value.ref b] s = true := fun w h => hts w (List.mem_filter.mp h).1
  have hP : va_P G.1 kb_cl [kb_o x 3 [.ref (ux.1 0), .ref (ux.1 2), .ref (ux.1 4), .ref (ux.1 5), .ref (ux.1 30)], kb_o (ux.1 5) 2 [.ref (ux.1 29), .ref (ux.1 16), .ref (ux.1 18), .ref (ux.1 20), .ref (ux.1 22), .ref (ux.1 25), .ref (ux.1 27), .ref (ux.1 24), .ref (ux.1 12), .ref (ux.1 13), .ref (ux.1 14), .ref (ux.1 15), .int 0, .int 0], kb_o (ux.1 24) 1 [.ref (ux.1 7), .int 0], kb_o y 4 [.int 0, .ref (um.1 0), .int 0, .ref (um.1 1), .int 0, .ref (um.1 2), .ref (um.1 3), .ref (um.1 4), .ref (um.1 5), .ref (um.1 6), .ref (um.1 7), .ref (um.1 8), .ref (um.1 9), .ref (um.1 10), .ref (um.1 11), .ref (um.1 12), .int 0, .int 0, .int 0, .int 0, .int 0], kb_a G (um.1 3) 2 (upd (fun _ => 0) 0 0), kb_j G o 1 (fun _ => 0)] H := hP.sub [0, 24, 25, 63, 65, 70] rfl
  have hD : va_D A [kb_o x 3 [.ref (ux.1 0), .ref (ux.1 2), .ref (ux.1 4), .ref (ux.1 5), .ref (ux.1 30)], kb_o (ux.1 5) 2 [.ref (ux.1 29), .ref (ux.1 16), .ref (ux.1 18), .ref (ux.1 20), .ref (ux.1 22), .ref (ux.1 25), .ref (ux.1 27), .ref (ux.1 24), .ref (ux.1 12), .ref (ux.1 13), .ref (ux.1 14), .ref (ux.1 15), .int 0, .int 0], kb_o (ux.1 24) 1 [.ref (ux.1 7), .int 0], kb_o y 4 [.int 0, .ref (um.1 0), .int 0, .ref (um.1 1), .int 0, .ref (um.1 2), .ref (um.1 3), .ref (um.1 4), .ref (um.1 5), .ref (um.1 6), .ref (um.1 7), .ref (um.1 8), .ref (um.1 9), .ref (um.1 10), .ref (um.1 11), .ref (um.1 12), .int 0, .int 0, .int 0, .int 0, .int 0], kb_a G (um.1 3) 2 (upd (fun _ => 0) 0 0), kb_j G o 1 (fun _ => 0)] := hD.sub [0, 24, 25, 63, 65, 70] (by decide) rfl
  refine lv_iload hx hb d_L_law_23 (lv_at hl 0 rfl) ?_
  refine lv_aload_n hx hb d_L_law_25 rfl (lv_at hl 4 rfl) ?_
  refine va_slen hx hb hX hbl hbA hS d_L_law_26 ?_
  refine kb_top (y := 6) (by decide) ?_
  refine lv_bipush (v := 6) hx hb d_L_law_27 (by decide) ?_
  refine lv_isub hx hb d_L_law_29 ?_
  refine kb_top (y := 0) (by decide) ?_
  refine lv_icmp_gt (tgt := 946) hx hb d_L_law_30 (by decide) (fun c9 => absurd c9 (by decide)) (fun c9 => ?_)
  refine lv_aload_n hx hb d_L_law_33 rfl (lv_at hl 4 rfl) ?_
  refine lv_iload hx hb d_L_law_34 (lv_at hl 0 rfl) ?_
  refine va_sld hx hb hX hbl hbA hS (show ¬ ((0 : Int32) < 0 ∨ 6 ≤ (0 : Int32).toNatClampNeg) by decide) d_L_law_36 ?_
  refine kb_top (y := xs 0) rfl ?_
  refine lv_bipush (v := 31) hx hb d_L_law_37 (by decide) ?_
  refine lv_iand hx hb d_L_law_39 ?_
  refine kb_top (y := 12) (hk) ?_
  refine lv_tableIn (tgt := 599) (off := 559) hx hb d_L_law_40 (by decide) (by decide) (by decide) (by decide) ?_
  refine lv_aload_n hx hb d_L_law_599 rfl (lv_at hl 3 rfl) ?_
  refine lv_aload_n hx hb d_L_law_600 rfl (lv_at hl 4 rfl) ?_
  refine lv_iload hx hb d_L_law_601 (lv_at hl 0 rfl) ?_
  refine lv_iconst (v := 1) hx hb d_L_law_603 (by decide) ?_
  refine lv_iadd hx hb d_L_law_604 ?_
  refine kb_top (y := 1) (by decide) ?_
  refine va_sld hx hb hX hbl hbA hS (show ¬ ((1 : Int32) < 0 ∨ 6 ≤ (1 : Int32).toNatClampNeg) by decide) d_L_law_605 ?_
  refine kb_top (y := xs 1) rfl ?_
  refine lv_aload_n hx hb d_L_law_606 rfl (lv_at hl 4 rfl) ?_
  refine lv_iload hx hb d_L_law_607 (lv_at hl 0 rfl) ?_
  refine lv_iconst (v := 2) hx hb d_L_law_609 (by decide) ?_
  refine lv_iadd hx hb d_L_law_610 ?_
  refine kb_top (y := 2) (by decide) ?_
  refine va_sld hx hb hX hbl hbA hS (show ¬ ((2 : Int32) < 0 ∨ 6 ≤ (2 : Int32).toNatClampNeg) by decide) d_L_law_611 ?_
  refine kb_top (y := xs 2) rfl ?_
  refine lv_aload_n hx hb d_L_law_612 rfl (lv_at hl 1 rfl) ?_
  refine kb_i (wc := [kb_o x 3 [.ref (ux.1 0), .ref (ux.1 2), .ref (ux.1 4), .ref (ux.1 5), .ref (ux.1 30)], kb_o (ux.1 5) 2 [.ref (ux.1 29), .ref (ux.1 16), .ref (ux.1 18), .ref (ux.1 20), .ref (ux.1 22), .ref (ux.1 25), .ref (ux.1 27), .ref (ux.1 24), .ref (ux.1 12), .ref (ux.1 13), .ref (ux.1 14), .ref (ux.1 15), .int 0, .int 0], kb_o (ux.1 24) 1 [.ref (ux.1 7), .int 0], kb_j G o 1 (fun _ => 0)]) (wr := [kb_o y 4 [.int 0, .ref (um.1 0), .int 0, .ref (um.1 1), .int 0, .ref (um.1 2), .ref (um.1 3), .ref (um.1 4), .ref (um.1 5), .ref (um.1 6), .ref (um.1 7), .ref (um.1 8), .ref (um.1 9), .ref (um.1 10), .ref (um.1 11), .ref (um.1 12), .int 0, .int 0, .int 0, .int 0, .int 0], kb_a G (um.1 3) 2 (upd (fun _ => 0) 0 0)]) hE hP hD hS [0, 1, 2, 5] [3, 4] rfl rfl (by decide) (by decide) (kb_rH (As := [.ref x, .int (xs 1), .int (xs 2), .ref o]) (rest := []) (wc := [kb_o x 3 [.ref (ux.1 0), .ref (ux.1 2), .ref (ux.1 4), .ref (ux.1 5), .ref (ux.1 30)], kb_o (ux.1 5) 2 [.ref (ux.1 29), .ref (ux.1 16), .ref (ux.1 18), .ref (ux.1 20), .ref (ux.1 22), .ref (ux.1 25), .ref (ux.1 27), .ref (ux.1 24), .ref (ux.1 12), .ref (ux.1 13), .ref (ux.1 14), .ref (ux.1 15), .int 0, .int 0], kb_o (ux.1 24) 1 [.ref (ux.1 7), .int 0], kb_j G o 1 (fun _ => 0)]) ⟨hx, hb, hml, hown, ht⟩ (c_L_about l hst G x (ux.1 0) (ux.1 2) (ux.1 4) (ux.1 5) (ux.1 30) (ux.1 29) (ux.1 16) (ux.1 18) (ux.1 20) (ux.1 22) (ux.1 25) (ux.1 27) (ux.1 24) (ux.1 12) (ux.1 13) (ux.1 14) (ux.1 15) 0 0 (ux.1 7) (xs 1) (xs 2) o) wd_f2309069 wd_e4ece85a wd_b27fa55b wd_07eafb88 hd_6fbca7b6 ⟨(Nat.le_of_ble_eq_true rfl), (Nat.le_of_ble_eq_true rfl)⟩ hE hP hD hS [0, 1, 2, 5] rfl (by decide) hl.1 rfl (Nat.le_of_ble_eq_true rfl) d_L_law_613 ⟨(Nat.le_of_ble_eq_true rfl), (Nat.le_of_ble_eq_true rfl)⟩) (fun rv2 uu1 H locs hw hP hD hS => ?_)
  have hP : va_P G.1 kb_cl [kb_o y 4 [.int 0, .ref (um.1 0), .int 0, .ref (um.1 1), .int 0, .ref (um.1 2), .ref (um.1 3), .ref (um.1 4), .ref (um.1 5), .ref (um.1 6), .ref (um.1 7), .ref (um.1 8), .ref (um.1 9), .ref (um.1 10), .ref (um.1 11), .ref (um.1 12), .int 0, .int 0, .int 0, .int 0, .int 0], kb_a G (um.1 3) 2 (upd (fun _ => 0) 0 0), kb_j G o 1 (fun _ => 0)] H := hP
  have hD : va_D A [kb_o y 4 [.int 0, .ref (um.1 0), .int 0, .ref (um.1 1), .int 0, .ref (um.1 2), .ref (um.1 3), .ref (um.1 4), .ref (um.1 5), .ref (um.1 6), .ref (um.1 7), .ref (um.1 8), .ref (um.1 9), .ref (um.1 10), .ref (um.1 11), .ref (um.1 12), .int 0, .int 0, .int 0, .int 0, .int 0], kb_a G (um.1 3) 2 (upd (fun _ => 0) 0 0), kb_j G o 1 (fun _ => 0)] := hD
  refine kb_top (y := 1) (show rv2 = 1 from hw) ?_
  refine lv_istore (lv' := [(5, .int 1), (4, .int 0), (3, .ref o), (2, .ref y), (1, .ref x), (0, .ref b)]) hx hb d_L_law_616 hl (by decide) rfl (fun ls hl => ?_)
  refine lv_aload_n hx hb d_L_law_618 rfl (lv_at hl 3 rfl) ?_
  refine lv_aload_n hx hb d_L_law_619 rfl (lv_at hl 5 rfl) ?_
  refine lv_iload hx hb d_L_law_620 (lv_at hl 1 rfl) ?_
  refine lv_iconst (v := 1) hx hb d_L_law_622 (by decide) ?_
  refine lv_iadd hx hb d_L_law_623 ?_
  refine kb_top (y := 1) (by decide) ?_
  refine va_sld hx hb hX hbl hbA hS (show ¬ ((1 : Int32) < 0 ∨ 6 ≤ (1 : Int32).toNatClampNeg) by decide) d_L_law_624 ?_
  refine kb_top (y := xs 1) rfl ?_
  refine lv_aload_n hx hb d_L_law_625 rfl (lv_at hl 5 rfl) ?_
  refine lv_iload hx hb d_L_law_626 (lv_at hl 1 rfl) ?_
  refine lv_iconst (v := 2) hx hb d_L_law_628 (by decide) ?_
  refine lv_iadd hx hb d_L_law_629 ?_
  refine kb_top (y := 2) (by decide) ?_
  refine va_sld hx hb hX hbl hbA hS (show ¬ ((2 : Int32) < 0 ∨ 6 ≤ (2 : Int32).toNatClampNeg) by decide) d_L_law_630 ?_
  refine kb_top (y := xs 2) rfl ?_
  refine kb_i (wc := [kb_o y 4 [.int 0, .ref (um.1 0), .int 0, .ref (um.1 1), .int 0, .ref (um.1 2), .ref (um.1 3), .ref (um.1 4), .ref (um.1 5), .ref (um.1 6), .ref (um.1 7), .ref (um.1 8), .ref (um.1 9), .ref (um.1 10), .ref (um.1 11), .ref (um.1 12), .int 0, .int 0, .int 0, .int 0, .int 0], kb_a G (um.1 3) 2 (upd (fun _ => 0) 0 0)]) (wr := [kb_j G o 1 (fun _ => 0)]) hE hP hD hS [0, 1] [2] rfl rfl (by decide) (by decide) (kb_rV (As := [.int (xs 1), .int (xs 2)]) (rest := []) (wc := [kb_o y 4 [.int 0, .ref (um.1 0), .int 0, .ref (um.1 1), .int 0, .ref (um.1 2), .ref (um.1 3), .ref (um.1 4), .ref (um.1 5), .ref (um.1 6), .ref (um.1 7), .ref (um.1 8), .ref (um.1 9), .ref (um.1 10), .ref (um.1 11), .ref (um.1 12), .int 0, .int 0, .int 0, .int 0, .int 0], kb_a G (um.1 3) 2 (upd (fun _ => 0) 0 0)]) (q0 := 0) ⟨hx, hb, hml, hown, ht⟩ ((c_M_about l G y 0 (um.1 0) (um.1 1) (um.1 2) (um.1 3) (um.1 4) (um.1 5) (um.1 6) (um.1 7) (um.1 8) (um.1 9) (um.1 10) (um.1 11) (um.1 12) (xs 1) (xs 2)) _) (kb_gV wd_9755b50b wd_076ebd16 wd_de8ac0d4 wd_38099713 wd_bd6edd5e) ⟨rfl, hd_ef5bbb11⟩ ⟨(Nat.le_of_ble_eq_true rfl), (Nat.le_of_ble_eq_true rfl)⟩ hE hP hD hS [0, 1] rfl (by decide) rfl rfl rfl hl.1 rfl (Nat.le_of_ble_eq_true rfl) d_L_law_631 ⟨(Nat.le_of_ble_eq_true rfl), (Nat.le_of_ble_eq_true rfl)⟩) (fun rv4 uu3 H locs hw hP hD hS => ?_)
  have hP : va_P G.1 kb_cl [kb_j G o 1 (fun _ => 0), kb_o y 4 [.int 1, .ref (um.1 0), .int 0, .ref (um.1 1), .int 0, .ref (um.1 2), .ref (um.1 3), .ref (um.1 4), .ref (um.1 5), .ref (um.1 6), .ref (um.1 7), .ref (um.1 8), .ref (um.1 9), .ref (um.1 10), .ref (um.1 11), .ref (um.1 12), .int 0, .int 0, .int 0, .int 0, .int 0]] H := hP
  have hD : va_D A [kb_j G o 1 (fun _ => 0), kb_o y 4 [.int 1, .ref (um.1 0), .int 0, .ref (um.1 1), .int 0, .ref (um.1 2), .ref (um.1 3), .ref (um.1 4), .ref (um.1 5), .ref (um.1 6), .ref (um.1 7), .ref (um.1 8), .ref (um.1 9), .ref (um.1 10), .ref (um.1 11), .ref (um.1 12), .int 0, .int 0, .int 0, .int 0, .int 0]] := hD
  refine kb_top (y := 0) (show rv4 = 0 from hw) ?_
  refine lv_istore (lv' := [(6, .int 0), (5, .int 1), (4, .int 0), (3, .ref o), (2, .ref y), (1, .ref x), (0, .ref b)]) hx hb d_L_law_634 hl (by decide) rfl (fun ls hl => ?_)
  refine lv_aload_n hx hb d_L_law_636 rfl (lv_at hl 4 rfl) ?_
  refine kb_i (wc := [kb_o y 4 [.int 1, .ref (um.1 0), .int 0, .ref (um.1 1), .int 0, .ref (um.1 2), .ref (um.1 3), .ref (um.1 4), .ref (um.1 5), .ref (um.1 6), .ref (um.1 7), .ref (um.1 8), .ref (um.1 9), .ref (um.1 10), .ref (um.1 11), .ref (um.1 12), .int 0, .int 0, .int 0, .int 0, .int 0]]) (wr := [kb_j G o 1 (fun _ => 0)]) hE hP hD hS [1] [0] rfl rfl (by decide) (by decide) (kb_rV (As := []) (rest := []) (wc := [kb_o y 4 [.int 1, .ref (um.1 0), .int 0, .ref (um.1 1), .int 0, .ref (um.1 2), .ref (um.1 3), .ref (um.1 4), .ref (um.1 5), .ref (um.1 6), .ref (um.1 7), .ref (um.1 8), .ref (um.1 9), .ref (um.1 10), .ref (um.1 11), .ref (um.1 12), .int 0, .int 0, .int 0, .int 0, .int 0]]) (q0 := 0) ⟨hx, hb, hml, hown, ht⟩ ((c_M_thrown l G y 1 (um.1 0) (um.1 1) (um.1 2) (um.1 3) (um.1 4) (um.1 5) (um.1 6) (um.1 7) (um.1 8) (um.1 9) (um.1 10) (um.1 11) (um.1 12) 0 0 0 0) _) (kb_gV wd_1946a056 wd_e9c50365 wd_a707e5a8 wd_38099713 wd_79f18ba3) ⟨rfl, hd_2a236ec3⟩ ⟨(Nat.le_of_ble_eq_true rfl), (Nat.le_of_ble_eq_true rfl)⟩ hE hP hD hS [1] rfl (by decide) rfl rfl rfl hl.1 rfl (Nat.le_of_ble_eq_true rfl) d_L_law_637 ⟨(Nat.le_of_ble_eq_true rfl), (Nat.le_of_ble_eq_true rfl)⟩) (fun rv6 uu5 H locs hw hP hD hS => ?_)
  have hP : va_P G.1 kb_cl [kb_j G o 1 (fun _ => 0), kb_o y 4 [.int 1, .ref (um.1 0), .int 0, .ref (um.1 1), .int 0, .ref (um.1 2), .ref (um.1 3), .ref (um.1 4), .ref (um.1 5), .ref (um.1 6), .ref (um.1 7), .ref (um.1 8), .ref (um.1 9), .ref (um.1 10), .ref (um.1 11), .ref (um.1 12), .int 0, .int 0, .int 0, .int 0, .int 0]] H := hP
  have hD : va_D A [kb_j G o 1 (fun _ => 0), kb_o y 4 [.int 1, .ref (um.1 0), .int 0, .ref (um.1 1), .int 0, .ref (um.1 2), .ref (um.1 3), .ref (um.1 4), .ref (um.1 5), .ref (um.1 6), .ref (um.1 7), .ref (um.1 8), .ref (um.1 9), .ref (um.1 10), .ref (um.1 11), .ref (um.1 12), .int 0, .int 0, .int 0, .int 0, .int 0]] := hD
  refine kb_top (y := 1) (show rv6 = 1 from hw) ?_
  refine lv_iload hx hb d_L_law_640 (lv_at hl 1 rfl) ?_
  refine lv_icmp_eq (tgt := 647) hx hb d_L_law_642 (by decide) (fun c9 => ?_) (fun c9 => absurd (by decide) c9)
  refine lv_iload hx hb d_L_law_647 (lv_at hl 1 rfl) ?_
  refine lv_if_ne (tgt := 664) hx hb d_L_law_649 (by decide) (fun c9 => ?_) (fun c9 => absurd c9 (by decide))
  refine lv_goto (tgt := 940) hx hb d_L_law_664 (by decide) ?_
  refine lv_iinc (v := 6) (lv' := [(4, .int 6), (6, .int 0), (5, .int 1), (3, .ref o), (2, .ref y), (1, .ref x), (0, .ref b)]) hx hb d_L_law_940 hl (k := 2) rfl (by decide) (by decide) rfl (fun ls hl => ?_)
  refine lv_goto (tgt := 23) hx hb d_L_law_943 (by decide) ?_
  refine lv_iload hx hb d_L_law_23 (lv_at hl 0 rfl) ?_
  refine lv_aload_n hx hb d_L_law_25 rfl (lv_at hl 6 rfl) ?_
  refine va_slen hx hb hX hbl hbA hS d_L_law_26 ?_
  refine kb_top (y := 6) (by decide) ?_
  refine lv_bipush (v := 6) hx hb d_L_law_27 (by decide) ?_
  refine lv_isub hx hb d_L_law_29 ?_
  refine kb_top (y := 0) (by decide) ?_
  refine lv_icmp_gt (tgt := 946) hx hb d_L_law_30 (by decide) (fun c9 => ?_) (fun c9 => absurd (by decide) c9)
  refine lv_iconst (v := 1) hx hb d_L_law_946 (by decide) ?_
  refine va_forget (fun q hq => hAq _ (hS.2.2 q hq)) ?_
  refine W.widen (k := 600002) (n := 7302232) (Nat.le_of_ble_eq_true rfl) (Nat.le_of_ble_eq_true rfl) ?_
  exact lw_ret hx hb hr hlocks d_L_law_947

set_option maxHeartbeats 4000000 in
set_option maxRecDepth 100000 in
theorem lc_nodeNameX1 {p : Program} {l : Launch} {e : Env} {s : State} {m : MethodId} {below : List Frame} {meth : Method} {c : Code} (hst : l.stackTraces = false) {G : kb_G} {A : Nat → Prop} {b : Nat} {xs : Nat → Int32} (C0 : lw_At p s m meth c b 6 xs) (hE : kb_E G A s) (hbA : ¬ A b) (hAq : ∀ q, A q → s.heap.size ≤ q) (x y o : Nat) (ux um : kb_S) {H : Heap} {locs : List Loc} (hP : va_P G.1 kb_cl (lc_w0 G x y o ux um) H) (hD : va_D A (lc_w0 G x y o ux um)) (hS : va_S A s.heap H locs) {ls : Array Slot} (hl : lv_has ls 7 [(4, .int 0), (3, .ref o), (2, .ref y), (1, .ref x), (0, .ref b)]) (hk : xs 0 &&& 31 = 13) (h1 : ¬ xs 1 = 0) : W p l e room_1 s m #[Value.ref b] below meth c H locs 71 169237 (lw_Z below #[Value.ref b] s) (F0 m 23 ls []) := by
  obtain ⟨hx, hb, hr, hml, hown, hts, hX, hbl, hlocks, hgv⟩ := C0
  have hown : s.vm.findClass "TreePressLaw" = some m.cls := hown
  have ht : ∀ w ∈ kb_T, w.before #[Value.ref b] s = true := fun w h => hts w (List.mem_filter.mp h).1
  have hP : va_P G.1 kb_cl [kb_o x 3 [.ref (ux.1 0), .ref (ux.1 2), .ref (ux.1 4), .ref (ux.1 5), .ref (ux.1 30)], kb_o (ux.1 16) 1 [.ref (ux.1 17), .int 1], kb_o (ux.1 5) 2 [.ref (ux.1 29), .ref (ux.1 16), .ref (ux.1 18), .ref (ux.1 20), .ref (ux.1 22), .ref (ux.1 25), .ref (ux.1 27), .ref (ux.1 24), .ref (ux.1 12), .ref (ux.1 13), .ref (ux.1 14), .ref (ux.1 15), .int 0, .int 0], kb_o y 4 [.int 0, .ref (um.1 0), .int 0, .ref (um.1 1), .int 0, .ref (um.1 2), .ref (um.1 3), .ref (um.1 4), .ref (um.1 5), .ref (um.1 6), .ref (um.1 7), .ref (um.1 8), .ref (um.1 9), .ref (um.1 10), .ref (um.1 11), .ref (um.1 12), .int 0, .int 0, .int 0, .int 0, .int 0], kb_a G (um.1 2) 2 (upd (fun _ => 0) 0 1), kb_j G o 1 (fun _ => 0)] H := hP.sub [0, 16, 24, 63, 64, 70] rfl
  have hD : va_D A [kb_o x 3 [.ref (ux.1 0), .ref (ux.1 2), .ref (ux.1 4), .ref (ux.1 5), .ref (ux.1 30)], kb_o (ux.1 16) 1 [.ref (ux.1 17), .int 1], kb_o (ux.1 5) 2 [.ref (ux.1 29), .ref (ux.1 16), .ref (ux.1 18), .ref (ux.1 20), .ref (ux.1 22), .ref (ux.1 25), .ref (ux.1 27), .ref (ux.1 24), .ref (ux.1 12), .ref (ux.1 13), .ref (ux.1 14), .ref (ux.1 15), .int 0, .int 0], kb_o y 4 [.int 0, .ref (um.1 0), .int 0, .ref (um.1 1), .int 0, .ref (um.1 2), .ref (um.1 3), .ref (um.1 4), .ref (um.1 5), .ref (um.1 6), .ref (um.1 7), .ref (um.1 8), .ref (um.1 9), .ref (um.1 10), .ref (um.1 11), .ref (um.1 12), .int 0, .int 0, .int 0, .int 0, .int 0], kb_a G (um.1 2) 2 (upd (fun _ => 0) 0 1), kb_j G o 1 (fun _ => 0)] := hD.sub [0, 16, 24, 63, 64, 70] (by decide) rfl
  refine lv_iload hx hb d_L_law_23 (lv_at hl 0 rfl) ?_
  refine lv_aload_n hx hb d_L_law_25 rfl (lv_at hl 4 rfl) ?_
  refine va_slen hx hb hX hbl hbA hS d_L_law_26 ?_
  refine kb_top (y := 6) (by decide) ?_
  refine lv_bipush (v := 6) hx hb d_L_law_27 (by decide) ?_
  refine lv_isub hx hb d_L_law_29 ?_
  refine kb_top (y := 0) (by decide) ?_
  refine lv_icmp_gt (tgt := 946) hx hb d_L_law_30 (by decide) (fun c9 => absurd c9 (by decide)) (fun c9 => ?_)
  refine lv_aload_n hx hb d_L_law_33 rfl (lv_at hl 4 rfl) ?_
  refine lv_iload hx hb d_L_law_34 (lv_at hl 0 rfl) ?_
  refine va_sld hx hb hX hbl hbA hS (show ¬ ((0 : Int32) < 0 ∨ 6 ≤ (0 : Int32).toNatClampNeg) by decide) d_L_law_36 ?_
  refine kb_top (y := xs 0) rfl ?_
  refine lv_bipush (v := 31) hx hb d_L_law_37 (by decide) ?_
  refine lv_iand hx hb d_L_law_39 ?_
  refine kb_top (y := 13) (hk) ?_
  refine lv_tableIn (tgt := 667) (off := 627) hx hb d_L_law_40 (by decide) (by decide) (by decide) (by decide) ?_
  refine lv_aload_n hx hb d_L_law_667 rfl (lv_at hl 3 rfl) ?_
  refine lv_aload_n hx hb d_L_law_668 rfl (lv_at hl 4 rfl) ?_
  refine lv_iload hx hb d_L_law_669 (lv_at hl 0 rfl) ?_
  refine lv_iconst (v := 1) hx hb d_L_law_671 (by decide) ?_
  refine lv_iadd hx hb d_L_law_672 ?_
  refine kb_top (y := 1) (by decide) ?_
  refine va_sld hx hb hX hbl hbA hS (show ¬ ((1 : Int32) < 0 ∨ 6 ≤ (1 : Int32).toNatClampNeg) by decide) d_L_law_673 ?_
  refine kb_top (y := xs 1) rfl ?_
  refine lv_aload_n hx hb d_L_law_674 rfl (lv_at hl 4 rfl) ?_
  refine lv_iload hx hb d_L_law_675 (lv_at hl 0 rfl) ?_
  refine lv_iconst (v := 2) hx hb d_L_law_677 (by decide) ?_
  refine lv_iadd hx hb d_L_law_678 ?_
  refine kb_top (y := 2) (by decide) ?_
  refine va_sld hx hb hX hbl hbA hS (show ¬ ((2 : Int32) < 0 ∨ 6 ≤ (2 : Int32).toNatClampNeg) by decide) d_L_law_679 ?_
  refine kb_top (y := xs 2) rfl ?_
  refine lv_aload_n hx hb d_L_law_680 rfl (lv_at hl 1 rfl) ?_
  refine kb_i (wc := [kb_o x 3 [.ref (ux.1 0), .ref (ux.1 2), .ref (ux.1 4), .ref (ux.1 5), .ref (ux.1 30)], kb_o (ux.1 5) 2 [.ref (ux.1 29), .ref (ux.1 16), .ref (ux.1 18), .ref (ux.1 20), .ref (ux.1 22), .ref (ux.1 25), .ref (ux.1 27), .ref (ux.1 24), .ref (ux.1 12), .ref (ux.1 13), .ref (ux.1 14), .ref (ux.1 15), .int 0, .int 0], kb_o (ux.1 16) 1 [.ref (ux.1 17), .int 1], kb_j G o 1 (fun _ => 0)]) (wr := [kb_o y 4 [.int 0, .ref (um.1 0), .int 0, .ref (um.1 1), .int 0, .ref (um.1 2), .ref (um.1 3), .ref (um.1 4), .ref (um.1 5), .ref (um.1 6), .ref (um.1 7), .ref (um.1 8), .ref (um.1 9), .ref (um.1 10), .ref (um.1 11), .ref (um.1 12), .int 0, .int 0, .int 0, .int 0, .int 0], kb_a G (um.1 2) 2 (upd (fun _ => 0) 0 1)]) hE hP hD hS [0, 2, 1, 5] [3, 4] rfl rfl (by decide) (by decide) (kb_rH (As := [.ref x, .int (xs 1), .int (xs 2), .ref o]) (rest := []) (wc := [kb_o x 3 [.ref (ux.1 0), .ref (ux.1 2), .ref (ux.1 4), .ref (ux.1 5), .ref (ux.1 30)], kb_o (ux.1 5) 2 [.ref (ux.1 29), .ref (ux.1 16), .ref (ux.1 18), .ref (ux.1 20), .ref (ux.1 22), .ref (ux.1 25), .ref (ux.1 27), .ref (ux.1 24), .ref (ux.1 12), .ref (ux.1 13), .ref (ux.1 14), .ref (ux.1 15), .int 0, .int 0], kb_o (ux.1 16) 1 [.ref (ux.1 17), .int 1], kb_j G o 1 (fun _ => 0)]) ⟨hx, hb, hml, hown, ht⟩ (c_L_nodeNameX1 l hst G x (ux.1 0) (ux.1 2) (ux.1 4) (ux.1 5) (ux.1 30) (ux.1 29) (ux.1 16) (ux.1 18) (ux.1 20) (ux.1 22) (ux.1 25) (ux.1 27) (ux.1 24) (ux.1 12) (ux.1 13) (ux.1 14) (ux.1 15) 0 0 (ux.1 17) (xs 1) (xs 2) o h1) wd_7063e20a wd_e4ece85a wd_f987af97 wd_e944f0bc hd_7ad186f5 ⟨(Nat.le_of_ble_eq_true rfl), (Nat.le_of_ble_eq_true rfl)⟩ hE hP hD hS [0, 2, 1, 5] rfl (by decide) hl.1 rfl (Nat.le_of_ble_eq_true rfl) d_L_law_681 ⟨(Nat.le_of_ble_eq_true rfl), (Nat.le_of_ble_eq_true rfl)⟩) (fun rv2 uu1 H locs hw hP hD hS => ?_)
  have hP : va_P G.1 kb_cl [kb_o y 4 [.int 0, .ref (um.1 0), .int 0, .ref (um.1 1), .int 0, .ref (um.1 2), .ref (um.1 3), .ref (um.1 4), .ref (um.1 5), .ref (um.1 6), .ref (um.1 7), .ref (um.1 8), .ref (um.1 9), .ref (um.1 10), .ref (um.1 11), .ref (um.1 12), .int 0, .int 0, .int 0, .int 0, .int 0], kb_a G (um.1 2) 2 (upd (fun _ => 0) 0 1), kb_j G o 1 (fun _ => 0)] H := hP
  have hD : va_D A [kb_o y 4 [.int 0, .ref (um.1 0), .int 0, .ref (um.1 1), .int 0, .ref (um.1 2), .ref (um.1 3), .ref (um.1 4), .ref (um.1 5), .ref (um.1 6), .ref (um.1 7), .ref (um.1 8), .ref (um.1 9), .ref (um.1 10), .ref (um.1 11), .ref (um.1 12), .int 0, .int 0, .int 0, .int 0, .int 0], kb_a G (um.1 2) 2 (upd (fun _ => 0) 0 1), kb_j G o 1 (fun _ => 0)] := hD
  refine kb_top (y := 1) (show rv2 = 1 from hw) ?_
  refine lv_istore (lv' := [(5, .int 1), (4, .int 0), (3, .ref o), (2, .ref y), (1, .ref x), (0, .ref b)]) hx hb d_L_law_684 hl (by decide) rfl (fun ls hl => ?_)
  refine lv_aload_n hx hb d_L_law_686 rfl (lv_at hl 3 rfl) ?_
  refine lv_aload_n hx hb d_L_law_687 rfl (lv_at hl 5 rfl) ?_
  refine lv_iload hx hb d_L_law_688 (lv_at hl 1 rfl) ?_
  refine lv_iconst (v := 1) hx hb d_L_law_690 (by decide) ?_
  refine lv_iadd hx hb d_L_law_691 ?_
  refine kb_top (y := 1) (by decide) ?_
  refine va_sld hx hb hX hbl hbA hS (show ¬ ((1 : Int32) < 0 ∨ 6 ≤ (1 : Int32).toNatClampNeg) by decide) d_L_law_692 ?_
  refine kb_top (y := xs 1) rfl ?_
  refine lv_aload_n hx hb d_L_law_693 rfl (lv_at hl 5 rfl) ?_
  refine lv_iload hx hb d_L_law_694 (lv_at hl 1 rfl) ?_
  refine lv_iconst (v := 2) hx hb d_L_law_696 (by decide) ?_
  refine lv_iadd hx hb d_L_law_697 ?_
  refine kb_top (y := 2) (by decide) ?_
  refine va_sld hx hb hX hbl hbA hS (show ¬ ((2 : Int32) < 0 ∨ 6 ≤ (2 : Int32).toNatClampNeg) by decide) d_L_law_698 ?_
  refine kb_top (y := xs 2) rfl ?_
  refine kb_i (wc := [kb_o y 4 [.int 0, .ref (um.1 0), .int 0, .ref (um.1 1), .int 0, .ref (um.1 2), .ref (um.1 3), .ref (um.1 4), .ref (um.1 5), .ref (um.1 6), .ref (um.1 7), .ref (um.1 8), .ref (um.1 9), .ref (um.1 10), .ref (um.1 11), .ref (um.1 12), .int 0, .int 0, .int 0, .int 0, .int 0], kb_a G (um.1 2) 2 (upd (fun _ => 0) 0 1)]) (wr := [kb_j G o 1 (fun _ => 0)]) hE hP hD hS [0, 1] [2] rfl rfl (by decide) (by decide) (kb_rV (As := [.int (xs 1), .int (xs 2)]) (rest := []) (wc := [kb_o y 4 [.int 0, .ref (um.1 0), .int 0, .ref (um.1 1), .int 0, .ref (um.1 2), .ref (um.1 3), .ref (um.1 4), .ref (um.1 5), .ref (um.1 6), .ref (um.1 7), .ref (um.1 8), .ref (um.1 9), .ref (um.1 10), .ref (um.1 11), .ref (um.1 12), .int 0, .int 0, .int 0, .int 0, .int 0], kb_a G (um.1 2) 2 (upd (fun _ => 0) 0 1)]) (q0 := 0) ⟨hx, hb, hml, hown, ht⟩ ((c_M_nodeNameX1 l G y 0 (um.1 0) (um.1 1) (um.1 2) (um.1 3) (um.1 4) (um.1 5) (um.1 6) (um.1 7) (um.1 8) (um.1 9) (um.1 10) (um.1 11) (um.1 12) (xs 1) (xs 2) h1) _) (kb_gV wd_448c0aa3 wd_02fa87e8 wd_dd258d81 wd_38099713 wd_0cb4a392) ⟨rfl, hd_b67ffbce⟩ ⟨(Nat.le_of_ble_eq_true rfl), (Nat.le_of_ble_eq_true rfl)⟩ hE hP hD hS [0, 1] rfl (by decide) rfl rfl rfl hl.1 rfl (Nat.le_of_ble_eq_true rfl) d_L_law_699 ⟨(Nat.le_of_ble_eq_true rfl), (Nat.le_of_ble_eq_true rfl)⟩) (fun rv4 uu3 H locs hw hP hD hS => ?_)
  have hP : va_P G.1 kb_cl [kb_j G o 1 (fun _ => 0), kb_o y 4 [.int 1, .ref (um.1 0), .int 0, .ref (um.1 1), .int 0, .ref (um.1 2), .ref (um.1 3), .ref (um.1 4), .ref (um.1 5), .ref (um.1 6), .ref (um.1 7), .ref (um.1 8), .ref (um.1 9), .ref (um.1 10), .ref (um.1 11), .ref (um.1 12), .int 0, .int 0, .int 0, .int 0, .int 0]] H := hP
  have hD : va_D A [kb_j G o 1 (fun _ => 0), kb_o y 4 [.int 1, .ref (um.1 0), .int 0, .ref (um.1 1), .int 0, .ref (um.1 2), .ref (um.1 3), .ref (um.1 4), .ref (um.1 5), .ref (um.1 6), .ref (um.1 7), .ref (um.1 8), .ref (um.1 9), .ref (um.1 10), .ref (um.1 11), .ref (um.1 12), .int 0, .int 0, .int 0, .int 0, .int 0]] := hD
  refine kb_top (y := 0) (show rv4 = 0 from hw) ?_
  refine lv_istore (lv' := [(6, .int 0), (5, .int 1), (4, .int 0), (3, .ref o), (2, .ref y), (1, .ref x), (0, .ref b)]) hx hb d_L_law_702 hl (by decide) rfl (fun ls hl => ?_)
  refine lv_aload_n hx hb d_L_law_704 rfl (lv_at hl 4 rfl) ?_
  refine kb_i (wc := [kb_o y 4 [.int 1, .ref (um.1 0), .int 0, .ref (um.1 1), .int 0, .ref (um.1 2), .ref (um.1 3), .ref (um.1 4), .ref (um.1 5), .ref (um.1 6), .ref (um.1 7), .ref (um.1 8), .ref (um.1 9), .ref (um.1 10), .ref (um.1 11), .ref (um.1 12), .int 0, .int 0, .int 0, .int 0, .int 0]]) (wr := [kb_j G o 1 (fun _ => 0)]) hE hP hD hS [1] [0] rfl rfl (by decide) (by decide) (kb_rV (As := []) (rest := []) (wc := [kb_o y 4 [.int 1, .ref (um.1 0), .int 0, .ref (um.1 1), .int 0, .ref (um.1 2), .ref (um.1 3), .ref (um.1 4), .ref (um.1 5), .ref (um.1 6), .ref (um.1 7), .ref (um.1 8), .ref (um.1 9), .ref (um.1 10), .ref (um.1 11), .ref (um.1 12), .int 0, .int 0, .int 0, .int 0, .int 0]]) (q0 := 0) ⟨hx, hb, hml, hown, ht⟩ ((c_M_thrown l G y 1 (um.1 0) (um.1 1) (um.1 2) (um.1 3) (um.1 4) (um.1 5) (um.1 6) (um.1 7) (um.1 8) (um.1 9) (um.1 10) (um.1 11) (um.1 12) 0 0 0 0) _) (kb_gV wd_1946a056 wd_e9c50365 wd_a707e5a8 wd_38099713 wd_79f18ba3) ⟨rfl, hd_2a236ec3⟩ ⟨(Nat.le_of_ble_eq_true rfl), (Nat.le_of_ble_eq_true rfl)⟩ hE hP hD hS [1] rfl (by decide) rfl rfl rfl hl.1 rfl (Nat.le_of_ble_eq_true rfl) d_L_law_705 ⟨(Nat.le_of_ble_eq_true rfl), (Nat.le_of_ble_eq_true rfl)⟩) (fun rv6 uu5 H locs hw hP hD hS => ?_)
  have hP : va_P G.1 kb_cl [kb_j G o 1 (fun _ => 0), kb_o y 4 [.int 1, .ref (um.1 0), .int 0, .ref (um.1 1), .int 0, .ref (um.1 2), .ref (um.1 3), .ref (um.1 4), .ref (um.1 5), .ref (um.1 6), .ref (um.1 7), .ref (um.1 8), .ref (um.1 9), .ref (um.1 10), .ref (um.1 11), .ref (um.1 12), .int 0, .int 0, .int 0, .int 0, .int 0]] H := hP
  have hD : va_D A [kb_j G o 1 (fun _ => 0), kb_o y 4 [.int 1, .ref (um.1 0), .int 0, .ref (um.1 1), .int 0, .ref (um.1 2), .ref (um.1 3), .ref (um.1 4), .ref (um.1 5), .ref (um.1 6), .ref (um.1 7), .ref (um.1 8), .ref (um.1 9), .ref (um.1 10), .ref (um.1 11), .ref (um.1 12), .int 0, .int 0, .int 0, .int 0, .int 0]] := hD
  refine kb_top (y := 1) (show rv6 = 1 from hw) ?_
  refine lv_iload hx hb d_L_law_708 (lv_at hl 1 rfl) ?_
  refine lv_icmp_eq (tgt := 715) hx hb d_L_law_710 (by decide) (fun c9 => ?_) (fun c9 => absurd (by decide) c9)
  refine lv_iload hx hb d_L_law_715 (lv_at hl 1 rfl) ?_
  refine lv_if_ne (tgt := 732) hx hb d_L_law_717 (by decide) (fun c9 => ?_) (fun c9 => absurd c9 (by decide))
  refine lv_goto (tgt := 940) hx hb d_L_law_732 (by decide) ?_
  refine lv_iinc (v := 6) (lv' := [(4, .int 6), (6, .int 0), (5, .int 1), (3, .ref o), (2, .ref y), (1, .ref x), (0, .ref b)]) hx hb d_L_law_940 hl (k := 2) rfl (by decide) (by decide) rfl (fun ls hl => ?_)
  refine lv_goto (tgt := 23) hx hb d_L_law_943 (by decide) ?_
  refine lv_iload hx hb d_L_law_23 (lv_at hl 0 rfl) ?_
  refine lv_aload_n hx hb d_L_law_25 rfl (lv_at hl 6 rfl) ?_
  refine va_slen hx hb hX hbl hbA hS d_L_law_26 ?_
  refine kb_top (y := 6) (by decide) ?_
  refine lv_bipush (v := 6) hx hb d_L_law_27 (by decide) ?_
  refine lv_isub hx hb d_L_law_29 ?_
  refine kb_top (y := 0) (by decide) ?_
  refine lv_icmp_gt (tgt := 946) hx hb d_L_law_30 (by decide) (fun c9 => ?_) (fun c9 => absurd (by decide) c9)
  refine lv_iconst (v := 1) hx hb d_L_law_946 (by decide) ?_
  refine va_forget (fun q hq => hAq _ (hS.2.2 q hq)) ?_
  refine W.widen (k := 600002) (n := 7302232) (Nat.le_of_ble_eq_true rfl) (Nat.le_of_ble_eq_true rfl) ?_
  exact lw_ret hx hb hr hlocks d_L_law_947

set_option maxHeartbeats 4000000 in
set_option maxRecDepth 100000 in
theorem lc_nodeNameX2 {p : Program} {l : Launch} {e : Env} {s : State} {m : MethodId} {below : List Frame} {meth : Method} {c : Code} (hst : l.stackTraces = false) {G : kb_G} {A : Nat → Prop} {b : Nat} {xs : Nat → Int32} (C0 : lw_At p s m meth c b 6 xs) (hE : kb_E G A s) (hbA : ¬ A b) (hAq : ∀ q, A q → s.heap.size ≤ q) (x y o : Nat) (ux um : kb_S) {H : Heap} {locs : List Loc} (hP : va_P G.1 kb_cl (lc_w0 G x y o ux um) H) (hD : va_D A (lc_w0 G x y o ux um)) (hS : va_S A s.heap H locs) {ls : Array Slot} (hl : lv_has ls 7 [(4, .int 0), (3, .ref o), (2, .ref y), (1, .ref x), (0, .ref b)]) (hk : xs 0 &&& 31 = 13) (h1 : xs 1 = 0) : W p l e room_1 s m #[Value.ref b] below meth c H locs 71 169237 (lw_Z below #[Value.ref b] s) (F0 m 23 ls []) := by
  obtain ⟨hx, hb, hr, hml, hown, hts, hX, hbl, hlocks, hgv⟩ := C0
  have hown : s.vm.findClass "TreePressLaw" = some m.cls := hown
  have ht : ∀ w ∈ kb_T, w.before #[Value.ref b] s = true := fun w h => hts w (List.mem_filter.mp h).1
  have hP : va_P G.1 kb_cl [kb_o x 3 [.ref (ux.1 0), .ref (ux.1 2), .ref (ux.1 4), .ref (ux.1 5), .ref (ux.1 30)], kb_o (ux.1 16) 1 [.ref (ux.1 17), .int 1], kb_o (ux.1 22) 1 [.ref (ux.1 23), .int 1], kb_a G (ux.1 23) 16 (upd (fun _ => 0) 0 0), kb_o (ux.1 5) 2 [.ref (ux.1 29), .ref (ux.1 16), .ref (ux.1 18), .ref (ux.1 20), .ref (ux.1 22), .ref (ux.1 25), .ref (ux.1 27), .ref (ux.1 24), .ref (ux.1 12), .ref (ux.1 13), .ref (ux.1 14), .ref (ux.1 15), .int 0, .int 0], kb_o y 4 [.int 0, .ref (um.1 0), .int 0, .ref (um.1 1), .int 0, .ref (um.1 2), .ref (um.1 3), .ref (um.1 4), .ref (um.1 5), .ref (um.1 6), .ref (um.1 7), .ref (um.1 8), .ref (um.1 9), .ref (um.1 10), .ref (um.1 11), .ref (um.1 12), .int 0, .int 0, .int 0, .int 0, .int 0], kb_a G (um.1 2) 2 (upd (fun _ => 0) 0 1), kb_a G (um.1 6) 256 (upd (fun _ => 0) 0 0), kb_a G (um.1 7) 256 (upd (fun _ => 0) 0 0), kb_j G o 1 (fun _ => 0)] H := hP.sub [0, 16, 22, 23, 24, 63, 64, 68, 69, 70] rfl
  have hD : va_D A [kb_o x 3 [.ref (ux.1 0), .ref (ux.1 2), .ref (ux.1 4), .ref (ux.1 5), .ref (ux.1 30)], kb_o (ux.1 16) 1 [.ref (ux.1 17), .int 1], kb_o (ux.1 22) 1 [.ref (ux.1 23), .int 1], kb_a G (ux.1 23) 16 (upd (fun _ => 0) 0 0), kb_o (ux.1 5) 2 [.ref (ux.1 29), .ref (ux.1 16), .ref (ux.1 18), .ref (ux.1 20), .ref (ux.1 22), .ref (ux.1 25), .ref (ux.1 27), .ref (ux.1 24), .ref (ux.1 12), .ref (ux.1 13), .ref (ux.1 14), .ref (ux.1 15), .int 0, .int 0], kb_o y 4 [.int 0, .ref (um.1 0), .int 0, .ref (um.1 1), .int 0, .ref (um.1 2), .ref (um.1 3), .ref (um.1 4), .ref (um.1 5), .ref (um.1 6), .ref (um.1 7), .ref (um.1 8), .ref (um.1 9), .ref (um.1 10), .ref (um.1 11), .ref (um.1 12), .int 0, .int 0, .int 0, .int 0, .int 0], kb_a G (um.1 2) 2 (upd (fun _ => 0) 0 1), kb_a G (um.1 6) 256 (upd (fun _ => 0) 0 0), kb_a G (um.1 7) 256 (upd (fun _ => 0) 0 0), kb_j G o 1 (fun _ => 0)] := hD.sub [0, 16, 22, 23, 24, 63, 64, 68, 69, 70] (by decide) rfl
  refine lv_iload hx hb d_L_law_23 (lv_at hl 0 rfl) ?_
  refine lv_aload_n hx hb d_L_law_25 rfl (lv_at hl 4 rfl) ?_
  refine va_slen hx hb hX hbl hbA hS d_L_law_26 ?_
  refine kb_top (y := 6) (by decide) ?_
  refine lv_bipush (v := 6) hx hb d_L_law_27 (by decide) ?_
  refine lv_isub hx hb d_L_law_29 ?_
  refine kb_top (y := 0) (by decide) ?_
  refine lv_icmp_gt (tgt := 946) hx hb d_L_law_30 (by decide) (fun c9 => absurd c9 (by decide)) (fun c9 => ?_)
  refine lv_aload_n hx hb d_L_law_33 rfl (lv_at hl 4 rfl) ?_
  refine lv_iload hx hb d_L_law_34 (lv_at hl 0 rfl) ?_
  refine va_sld hx hb hX hbl hbA hS (show ¬ ((0 : Int32) < 0 ∨ 6 ≤ (0 : Int32).toNatClampNeg) by decide) d_L_law_36 ?_
  refine kb_top (y := xs 0) rfl ?_
  refine lv_bipush (v := 31) hx hb d_L_law_37 (by decide) ?_
  refine lv_iand hx hb d_L_law_39 ?_
  refine kb_top (y := 13) (hk) ?_
  refine lv_tableIn (tgt := 667) (off := 627) hx hb d_L_law_40 (by decide) (by decide) (by decide) (by decide) ?_
  refine lv_aload_n hx hb d_L_law_667 rfl (lv_at hl 3 rfl) ?_
  refine lv_aload_n hx hb d_L_law_668 rfl (lv_at hl 4 rfl) ?_
  refine lv_iload hx hb d_L_law_669 (lv_at hl 0 rfl) ?_
  refine lv_iconst (v := 1) hx hb d_L_law_671 (by decide) ?_
  refine lv_iadd hx hb d_L_law_672 ?_
  refine kb_top (y := 1) (by decide) ?_
  refine va_sld hx hb hX hbl hbA hS (show ¬ ((1 : Int32) < 0 ∨ 6 ≤ (1 : Int32).toNatClampNeg) by decide) d_L_law_673 ?_
  refine kb_top (y := xs 1) rfl ?_
  refine kb_top (y := 0) h1 ?_
  refine lv_aload_n hx hb d_L_law_674 rfl (lv_at hl 4 rfl) ?_
  refine lv_iload hx hb d_L_law_675 (lv_at hl 0 rfl) ?_
  refine lv_iconst (v := 2) hx hb d_L_law_677 (by decide) ?_
  refine lv_iadd hx hb d_L_law_678 ?_
  refine kb_top (y := 2) (by decide) ?_
  refine va_sld hx hb hX hbl hbA hS (show ¬ ((2 : Int32) < 0 ∨ 6 ≤ (2 : Int32).toNatClampNeg) by decide) d_L_law_679 ?_
  refine kb_top (y := xs 2) rfl ?_
  refine lv_aload_n hx hb d_L_law_680 rfl (lv_at hl 1 rfl) ?_
  refine kb_i (wc := [kb_o x 3 [.ref (ux.1 0), .ref (ux.1 2), .ref (ux.1 4), .ref (ux.1 5), .ref (ux.1 30)], kb_o (ux.1 5) 2 [.ref (ux.1 29), .ref (ux.1 16), .ref (ux.1 18), .ref (ux.1 20), .ref (ux.1 22), .ref (ux.1 25), .ref (ux.1 27), .ref (ux.1 24), .ref (ux.1 12), .ref (ux.1 13), .ref (ux.1 14), .ref (ux.1 15), .int 0, .int 0], kb_o (ux.1 16) 1 [.ref (ux.1 17), .int 1], kb_o (ux.1 22) 1 [.ref (ux.1 23), .int 1], kb_a G (ux.1 23) 16 (upd (fun _ => 0) 0 0), kb_j G o 1 (fun _ => 0)]) (wr := [kb_o y 4 [.int 0, .ref (um.1 0), .int 0, .ref (um.1 1), .int 0, .ref (um.1 2), .ref (um.1 3), .ref (um.1 4), .ref (um.1 5), .ref (um.1 6), .ref (um.1 7), .ref (um.1 8), .ref (um.1 9), .ref (um.1 10), .ref (um.1 11), .ref (um.1 12), .int 0, .int 0, .int 0, .int 0, .int 0], kb_a G (um.1 2) 2 (upd (fun _ => 0) 0 1), kb_a G (um.1 6) 256 (upd (fun _ => 0) 0 0), kb_a G (um.1 7) 256 (upd (fun _ => 0) 0 0)]) hE hP hD hS [0, 4, 1, 2, 3, 9] [5, 6, 7, 8] rfl rfl (by decide) (by decide) (kb_rH (As := [.ref x, .int 0, .int (xs 2), .ref o]) (rest := []) (wc := [kb_o x 3 [.ref (ux.1 0), .ref (ux.1 2), .ref (ux.1 4), .ref (ux.1 5), .ref (ux.1 30)], kb_o (ux.1 5) 2 [.ref (ux.1 29), .ref (ux.1 16), .ref (ux.1 18), .ref (ux.1 20), .ref (ux.1 22), .ref (ux.1 25), .ref (ux.1 27), .ref (ux.1 24), .ref (ux.1 12), .ref (ux.1 13), .ref (ux.1 14), .ref (ux.1 15), .int 0, .int 0], kb_o (ux.1 16) 1 [.ref (ux.1 17), .int 1], kb_o (ux.1 22) 1 [.ref (ux.1 23), .int 1], kb_a G (ux.1 23) 16 (upd (fun _ => 0) 0 0), kb_j G o 1 (fun _ => 0)]) ⟨hx, hb, hml, hown, ht⟩ (c_L_nodeNameX2 l hst G x (ux.1 0) (ux.1 2) (ux.1 4) (ux.1 5) (ux.1 30) (ux.1 29) (ux.1 16) (ux.1 18) (ux.1 20) (ux.1 22) (ux.1 25) (ux.1 27) (ux.1 24) (ux.1 12) (ux.1 13) (ux.1 14) (ux.1 15) 0 0 (ux.1 17) (ux.1 23) (xs 2) o) wd_7063e20a wd_e4ece85a wd_f987af97 wd_e944f0bc hd_7ad186f5 ⟨(Nat.le_of_ble_eq_true rfl), (Nat.le_of_ble_eq_true rfl)⟩ hE hP hD hS [0, 4, 1, 2, 3, 9] rfl (by decide) hl.1 rfl (Nat.le_of_ble_eq_true rfl) d_L_law_681 ⟨(Nat.le_of_ble_eq_true rfl), (Nat.le_of_ble_eq_true rfl)⟩) (fun rv2 uu1 H locs hw hP hD hS => ?_)
  have hP : va_P G.1 kb_cl [kb_o y 4 [.int 0, .ref (um.1 0), .int 0, .ref (um.1 1), .int 0, .ref (um.1 2), .ref (um.1 3), .ref (um.1 4), .ref (um.1 5), .ref (um.1 6), .ref (um.1 7), .ref (um.1 8), .ref (um.1 9), .ref (um.1 10), .ref (um.1 11), .ref (um.1 12), .int 0, .int 0, .int 0, .int 0, .int 0], kb_a G (um.1 2) 2 (upd (fun _ => 0) 0 1), kb_a G (um.1 6) 256 (upd (fun _ => 0) 0 0), kb_a G (um.1 7) 256 (upd (fun _ => 0) 0 0), kb_j G o 1 (fun _ => 0)] H := hP
  have hD : va_D A [kb_o y 4 [.int 0, .ref (um.1 0), .int 0, .ref (um.1 1), .int 0, .ref (um.1 2), .ref (um.1 3), .ref (um.1 4), .ref (um.1 5), .ref (um.1 6), .ref (um.1 7), .ref (um.1 8), .ref (um.1 9), .ref (um.1 10), .ref (um.1 11), .ref (um.1 12), .int 0, .int 0, .int 0, .int 0, .int 0], kb_a G (um.1 2) 2 (upd (fun _ => 0) 0 1), kb_a G (um.1 6) 256 (upd (fun _ => 0) 0 0), kb_a G (um.1 7) 256 (upd (fun _ => 0) 0 0), kb_j G o 1 (fun _ => 0)] := hD
  refine kb_top (y := 1) (show rv2 = 1 from hw) ?_
  refine lv_istore (lv' := [(5, .int 1), (4, .int 0), (3, .ref o), (2, .ref y), (1, .ref x), (0, .ref b)]) hx hb d_L_law_684 hl (by decide) rfl (fun ls hl => ?_)
  refine lv_aload_n hx hb d_L_law_686 rfl (lv_at hl 3 rfl) ?_
  refine lv_aload_n hx hb d_L_law_687 rfl (lv_at hl 5 rfl) ?_
  refine lv_iload hx hb d_L_law_688 (lv_at hl 1 rfl) ?_
  refine lv_iconst (v := 1) hx hb d_L_law_690 (by decide) ?_
  refine lv_iadd hx hb d_L_law_691 ?_
  refine kb_top (y := 1) (by decide) ?_
  refine va_sld hx hb hX hbl hbA hS (show ¬ ((1 : Int32) < 0 ∨ 6 ≤ (1 : Int32).toNatClampNeg) by decide) d_L_law_692 ?_
  refine kb_top (y := xs 1) rfl ?_
  refine kb_top (y := 0) h1 ?_
  refine lv_aload_n hx hb d_L_law_693 rfl (lv_at hl 5 rfl) ?_
  refine lv_iload hx hb d_L_law_694 (lv_at hl 1 rfl) ?_
  refine lv_iconst (v := 2) hx hb d_L_law_696 (by decide) ?_
  refine lv_iadd hx hb d_L_law_697 ?_
  refine kb_top (y := 2) (by decide) ?_
  refine va_sld hx hb hX hbl hbA hS (show ¬ ((2 : Int32) < 0 ∨ 6 ≤ (2 : Int32).toNatClampNeg) by decide) d_L_law_698 ?_
  refine kb_top (y := xs 2) rfl ?_
  refine kb_i (wc := [kb_o y 4 [.int 0, .ref (um.1 0), .int 0, .ref (um.1 1), .int 0, .ref (um.1 2), .ref (um.1 3), .ref (um.1 4), .ref (um.1 5), .ref (um.1 6), .ref (um.1 7), .ref (um.1 8), .ref (um.1 9), .ref (um.1 10), .ref (um.1 11), .ref (um.1 12), .int 0, .int 0, .int 0, .int 0, .int 0], kb_a G (um.1 2) 2 (upd (fun _ => 0) 0 1), kb_a G (um.1 6) 256 (upd (fun _ => 0) 0 0), kb_a G (um.1 7) 256 (upd (fun _ => 0) 0 0)]) (wr := [kb_j G o 1 (fun _ => 0)]) hE hP hD hS [0, 1, 2, 3] [4] rfl rfl (by decide) (by decide) (kb_rV (As := [.int 0, .int (xs 2)]) (rest := []) (wc := [kb_o y 4 [.int 0, .ref (um.1 0), .int 0, .ref (um.1 1), .int 0, .ref (um.1 2), .ref (um.1 3), .ref (um.1 4), .ref (um.1 5), .ref (um.1 6), .ref (um.1 7), .ref (um.1 8), .ref (um.1 9), .ref (um.1 10), .ref (um.1 11), .ref (um.1 12), .int 0, .int 0, .int 0, .int 0, .int 0], kb_a G (um.1 2) 2 (upd (fun _ => 0) 0 1), kb_a G (um.1 6) 256 (upd (fun _ => 0) 0 0), kb_a G (um.1 7) 256 (upd (fun _ => 0) 0 0)]) (q0 := 0) ⟨hx, hb, hml, hown, ht⟩ ((c_M_nodeNameX2 l G y 0 (um.1 0) (um.1 1) (um.1 2) (um.1 3) (um.1 4) (um.1 5) (um.1 6) (um.1 7) (um.1 8) (um.1 9) (um.1 10) (um.1 11) (um.1 12) (xs 2)) _) (kb_gV wd_448c0aa3 wd_02fa87e8 wd_dd258d81 wd_38099713 wd_0cb4a392) ⟨rfl, hd_b67ffbce⟩ ⟨(Nat.le_of_ble_eq_true rfl), (Nat.le_of_ble_eq_true rfl)⟩ hE hP hD hS [0, 1, 2, 3] rfl (by decide) rfl rfl rfl hl.1 rfl (Nat.le_of_ble_eq_true rfl) d_L_law_699 ⟨(Nat.le_of_ble_eq_true rfl), (Nat.le_of_ble_eq_true rfl)⟩) (fun rv4 uu3 H locs hw hP hD hS => ?_)
  have hP : va_P G.1 kb_cl [kb_j G o 1 (fun _ => 0), kb_o y 4 [.int 1, .ref (um.1 0), .int 0, .ref (um.1 1), .int 0, .ref (um.1 2), .ref (um.1 3), .ref (um.1 4), .ref (um.1 5), .ref (um.1 6), .ref (um.1 7), .ref (um.1 8), .ref (um.1 9), .ref (um.1 10), .ref (um.1 11), .ref (um.1 12), .int 0, .int 0, .int 0, .int 0, .int 0]] H := hP
  have hD : va_D A [kb_j G o 1 (fun _ => 0), kb_o y 4 [.int 1, .ref (um.1 0), .int 0, .ref (um.1 1), .int 0, .ref (um.1 2), .ref (um.1 3), .ref (um.1 4), .ref (um.1 5), .ref (um.1 6), .ref (um.1 7), .ref (um.1 8), .ref (um.1 9), .ref (um.1 10), .ref (um.1 11), .ref (um.1 12), .int 0, .int 0, .int 0, .int 0, .int 0]] := hD
  refine kb_top (y := 0) (show rv4 = 0 from hw) ?_
  refine lv_istore (lv' := [(6, .int 0), (5, .int 1), (4, .int 0), (3, .ref o), (2, .ref y), (1, .ref x), (0, .ref b)]) hx hb d_L_law_702 hl (by decide) rfl (fun ls hl => ?_)
  refine lv_aload_n hx hb d_L_law_704 rfl (lv_at hl 4 rfl) ?_
  refine kb_i (wc := [kb_o y 4 [.int 1, .ref (um.1 0), .int 0, .ref (um.1 1), .int 0, .ref (um.1 2), .ref (um.1 3), .ref (um.1 4), .ref (um.1 5), .ref (um.1 6), .ref (um.1 7), .ref (um.1 8), .ref (um.1 9), .ref (um.1 10), .ref (um.1 11), .ref (um.1 12), .int 0, .int 0, .int 0, .int 0, .int 0]]) (wr := [kb_j G o 1 (fun _ => 0)]) hE hP hD hS [1] [0] rfl rfl (by decide) (by decide) (kb_rV (As := []) (rest := []) (wc := [kb_o y 4 [.int 1, .ref (um.1 0), .int 0, .ref (um.1 1), .int 0, .ref (um.1 2), .ref (um.1 3), .ref (um.1 4), .ref (um.1 5), .ref (um.1 6), .ref (um.1 7), .ref (um.1 8), .ref (um.1 9), .ref (um.1 10), .ref (um.1 11), .ref (um.1 12), .int 0, .int 0, .int 0, .int 0, .int 0]]) (q0 := 0) ⟨hx, hb, hml, hown, ht⟩ ((c_M_thrown l G y 1 (um.1 0) (um.1 1) (um.1 2) (um.1 3) (um.1 4) (um.1 5) (um.1 6) (um.1 7) (um.1 8) (um.1 9) (um.1 10) (um.1 11) (um.1 12) 0 0 0 0) _) (kb_gV wd_1946a056 wd_e9c50365 wd_a707e5a8 wd_38099713 wd_79f18ba3) ⟨rfl, hd_2a236ec3⟩ ⟨(Nat.le_of_ble_eq_true rfl), (Nat.le_of_ble_eq_true rfl)⟩ hE hP hD hS [1] rfl (by decide) rfl rfl rfl hl.1 rfl (Nat.le_of_ble_eq_true rfl) d_L_law_705 ⟨(Nat.le_of_ble_eq_true rfl), (Nat.le_of_ble_eq_true rfl)⟩) (fun rv6 uu5 H locs hw hP hD hS => ?_)
  have hP : va_P G.1 kb_cl [kb_j G o 1 (fun _ => 0), kb_o y 4 [.int 1, .ref (um.1 0), .int 0, .ref (um.1 1), .int 0, .ref (um.1 2), .ref (um.1 3), .ref (um.1 4), .ref (um.1 5), .ref (um.1 6), .ref (um.1 7), .ref (um.1 8), .ref (um.1 9), .ref (um.1 10), .ref (um.1 11), .ref (um.1 12), .int 0, .int 0, .int 0, .int 0, .int 0]] H := hP
  have hD : va_D A [kb_j G o 1 (fun _ => 0), kb_o y 4 [.int 1, .ref (um.1 0), .int 0, .ref (um.1 1), .int 0, .ref (um.1 2), .ref (um.1 3), .ref (um.1 4), .ref (um.1 5), .ref (um.1 6), .ref (um.1 7), .ref (um.1 8), .ref (um.1 9), .ref (um.1 10), .ref (um.1 11), .ref (um.1 12), .int 0, .int 0, .int 0, .int 0, .int 0]] := hD
  refine kb_top (y := 1) (show rv6 = 1 from hw) ?_
  refine lv_iload hx hb d_L_law_708 (lv_at hl 1 rfl) ?_
  refine lv_icmp_eq (tgt := 715) hx hb d_L_law_710 (by decide) (fun c9 => ?_) (fun c9 => absurd (by decide) c9)
  refine lv_iload hx hb d_L_law_715 (lv_at hl 1 rfl) ?_
  refine lv_if_ne (tgt := 732) hx hb d_L_law_717 (by decide) (fun c9 => ?_) (fun c9 => absurd c9 (by decide))
  refine lv_goto (tgt := 940) hx hb d_L_law_732 (by decide) ?_
  refine lv_iinc (v := 6) (lv' := [(4, .int 6), (6, .int 0), (5, .int 1), (3, .ref o), (2, .ref y), (1, .ref x), (0, .ref b)]) hx hb d_L_law_940 hl (k := 2) rfl (by decide) (by decide) rfl (fun ls hl => ?_)
  refine lv_goto (tgt := 23) hx hb d_L_law_943 (by decide) ?_
  refine lv_iload hx hb d_L_law_23 (lv_at hl 0 rfl) ?_
  refine lv_aload_n hx hb d_L_law_25 rfl (lv_at hl 6 rfl) ?_
  refine va_slen hx hb hX hbl hbA hS d_L_law_26 ?_
  refine kb_top (y := 6) (by decide) ?_
  refine lv_bipush (v := 6) hx hb d_L_law_27 (by decide) ?_
  refine lv_isub hx hb d_L_law_29 ?_
  refine kb_top (y := 0) (by decide) ?_
  refine lv_icmp_gt (tgt := 946) hx hb d_L_law_30 (by decide) (fun c9 => ?_) (fun c9 => absurd (by decide) c9)
  refine lv_iconst (v := 1) hx hb d_L_law_946 (by decide) ?_
  refine va_forget (fun q hq => hAq _ (hS.2.2 q hq)) ?_
  refine W.widen (k := 600002) (n := 7302232) (Nat.le_of_ble_eq_true rfl) (Nat.le_of_ble_eq_true rfl) ?_
  exact lw_ret hx hb hr hlocks d_L_law_947

set_option maxHeartbeats 4000000 in
set_option maxRecDepth 100000 in
theorem lc_name {p : Program} {l : Launch} {e : Env} {s : State} {m : MethodId} {below : List Frame} {meth : Method} {c : Code} (hst : l.stackTraces = false) {G : kb_G} {A : Nat → Prop} {b : Nat} {xs : Nat → Int32} (C0 : lw_At p s m meth c b 6 xs) (hE : kb_E G A s) (hbA : ¬ A b) (hAq : ∀ q, A q → s.heap.size ≤ q) (x y o : Nat) (ux um : kb_S) {H : Heap} {locs : List Loc} (hP : va_P G.1 kb_cl (lc_w0 G x y o ux um) H) (hD : va_D A (lc_w0 G x y o ux um)) (hS : va_S A s.heap H locs) {ls : Array Slot} (hl : lv_has ls 7 [(4, .int 0), (3, .ref o), (2, .ref y), (1, .ref x), (0, .ref b)]) (hk : xs 0 &&& 31 = 14) : W p l e room_1 s m #[Value.ref b] below meth c H locs 71 169237 (lw_Z below #[Value.ref b] s) (F0 m 23 ls []) := by
  obtain ⟨hx, hb, hr, hml, hown, hts, hX, hbl, hlocks, hgv⟩ := C0
  have hown : s.vm.findClass "TreePressLaw" = some m.cls := hown
  have ht : ∀ w ∈ kb_T, w.before #[Value.ref b] s = true := fun w h => hts w (List.mem_filter.mp h).1
  have hP : va_P G.1 kb_cl [kb_o x 3 [.ref (ux.1 0), .ref (ux.1 2), .ref (ux.1 4), .ref (ux.1 5), .ref (ux.1 30)], kb_o (ux.1 5) 2 [.ref (ux.1 29), .ref (ux.1 16), .ref (ux.1 18), .ref (ux.1 20), .ref (ux.1 22), .ref (ux.1 25), .ref (ux.1 27), .ref (ux.1 24), .ref (ux.1 12), .ref (ux.1 13), .ref (ux.1 14), .ref (ux.1 15), .int 0, .int 0], kb_o (ux.1 24) 1 [.ref (ux.1 7), .int 0], kb_o y 4 [.int 0, .ref (um.1 0), .int 0, .ref (um.1 1), .int 0, .ref (um.1 2), .ref (um.1 3), .ref (um.1 4), .ref (um.1 5), .ref (um.1 6), .ref (um.1 7), .ref (um.1 8), .ref (um.1 9), .ref (um.1 10), .ref (um.1 11), .ref (um.1 12), .int 0, .int 0, .int 0, .int 0, .int 0], kb_a G (um.1 3) 2 (upd (fun _ => 0) 0 0), kb_j G o 1 (fun _ => 0)] H := hP.sub [0, 24, 25, 63, 65, 70] rfl
  have hD : va_D A [kb_o x 3 [.ref (ux.1 0), .ref (ux.1 2), .ref (ux.1 4), .ref (ux.1 5), .ref (ux.1 30)], kb_o (ux.1 5) 2 [.ref (ux.1 29), .ref (ux.1 16), .ref (ux.1 18), .ref (ux.1 20), .ref (ux.1 22), .ref (ux.1 25), .ref (ux.1 27), .ref (ux.1 24), .ref (ux.1 12), .ref (ux.1 13), .ref (ux.1 14), .ref (ux.1 15), .int 0, .int 0], kb_o (ux.1 24) 1 [.ref (ux.1 7), .int 0], kb_o y 4 [.int 0, .ref (um.1 0), .int 0, .ref (um.1 1), .int 0, .ref (um.1 2), .ref (um.1 3), .ref (um.1 4), .ref (um.1 5), .ref (um.1 6), .ref (um.1 7), .ref (um.1 8), .ref (um.1 9), .ref (um.1 10), .ref (um.1 11), .ref (um.1 12), .int 0, .int 0, .int 0, .int 0, .int 0], kb_a G (um.1 3) 2 (upd (fun _ => 0) 0 0), kb_j G o 1 (fun _ => 0)] := hD.sub [0, 24, 25, 63, 65, 70] (by decide) rfl
  refine lv_iload hx hb d_L_law_23 (lv_at hl 0 rfl) ?_
  refine lv_aload_n hx hb d_L_law_25 rfl (lv_at hl 4 rfl) ?_
  refine va_slen hx hb hX hbl hbA hS d_L_law_26 ?_
  refine kb_top (y := 6) (by decide) ?_
  refine lv_bipush (v := 6) hx hb d_L_law_27 (by decide) ?_
  refine lv_isub hx hb d_L_law_29 ?_
  refine kb_top (y := 0) (by decide) ?_
  refine lv_icmp_gt (tgt := 946) hx hb d_L_law_30 (by decide) (fun c9 => absurd c9 (by decide)) (fun c9 => ?_)
  refine lv_aload_n hx hb d_L_law_33 rfl (lv_at hl 4 rfl) ?_
  refine lv_iload hx hb d_L_law_34 (lv_at hl 0 rfl) ?_
  refine va_sld hx hb hX hbl hbA hS (show ¬ ((0 : Int32) < 0 ∨ 6 ≤ (0 : Int32).toNatClampNeg) by decide) d_L_law_36 ?_
  refine kb_top (y := xs 0) rfl ?_
  refine lv_bipush (v := 31) hx hb d_L_law_37 (by decide) ?_
  refine lv_iand hx hb d_L_law_39 ?_
  refine kb_top (y := 14) (hk) ?_
  refine lv_tableIn (tgt := 735) (off := 695) hx hb d_L_law_40 (by decide) (by decide) (by decide) (by decide) ?_
  refine lv_aload_n hx hb d_L_law_735 rfl (lv_at hl 3 rfl) ?_
  refine lv_aload_n hx hb d_L_law_736 rfl (lv_at hl 4 rfl) ?_
  refine lv_iload hx hb d_L_law_737 (lv_at hl 0 rfl) ?_
  refine lv_iconst (v := 1) hx hb d_L_law_739 (by decide) ?_
  refine lv_iadd hx hb d_L_law_740 ?_
  refine kb_top (y := 1) (by decide) ?_
  refine va_sld hx hb hX hbl hbA hS (show ¬ ((1 : Int32) < 0 ∨ 6 ≤ (1 : Int32).toNatClampNeg) by decide) d_L_law_741 ?_
  refine kb_top (y := xs 1) rfl ?_
  refine lv_aload_n hx hb d_L_law_742 rfl (lv_at hl 4 rfl) ?_
  refine lv_iload hx hb d_L_law_743 (lv_at hl 0 rfl) ?_
  refine lv_iconst (v := 2) hx hb d_L_law_745 (by decide) ?_
  refine lv_iadd hx hb d_L_law_746 ?_
  refine kb_top (y := 2) (by decide) ?_
  refine va_sld hx hb hX hbl hbA hS (show ¬ ((2 : Int32) < 0 ∨ 6 ≤ (2 : Int32).toNatClampNeg) by decide) d_L_law_747 ?_
  refine kb_top (y := xs 2) rfl ?_
  refine lv_aload_n hx hb d_L_law_748 rfl (lv_at hl 1 rfl) ?_
  refine kb_i (wc := [kb_o x 3 [.ref (ux.1 0), .ref (ux.1 2), .ref (ux.1 4), .ref (ux.1 5), .ref (ux.1 30)], kb_o (ux.1 5) 2 [.ref (ux.1 29), .ref (ux.1 16), .ref (ux.1 18), .ref (ux.1 20), .ref (ux.1 22), .ref (ux.1 25), .ref (ux.1 27), .ref (ux.1 24), .ref (ux.1 12), .ref (ux.1 13), .ref (ux.1 14), .ref (ux.1 15), .int 0, .int 0], kb_o (ux.1 24) 1 [.ref (ux.1 7), .int 0], kb_j G o 1 (fun _ => 0)]) (wr := [kb_o y 4 [.int 0, .ref (um.1 0), .int 0, .ref (um.1 1), .int 0, .ref (um.1 2), .ref (um.1 3), .ref (um.1 4), .ref (um.1 5), .ref (um.1 6), .ref (um.1 7), .ref (um.1 8), .ref (um.1 9), .ref (um.1 10), .ref (um.1 11), .ref (um.1 12), .int 0, .int 0, .int 0, .int 0, .int 0], kb_a G (um.1 3) 2 (upd (fun _ => 0) 0 0)]) hE hP hD hS [0, 1, 2, 5] [3, 4] rfl rfl (by decide) (by decide) (kb_rH (As := [.ref x, .int (xs 1), .int (xs 2), .ref o]) (rest := []) (wc := [kb_o x 3 [.ref (ux.1 0), .ref (ux.1 2), .ref (ux.1 4), .ref (ux.1 5), .ref (ux.1 30)], kb_o (ux.1 5) 2 [.ref (ux.1 29), .ref (ux.1 16), .ref (ux.1 18), .ref (ux.1 20), .ref (ux.1 22), .ref (ux.1 25), .ref (ux.1 27), .ref (ux.1 24), .ref (ux.1 12), .ref (ux.1 13), .ref (ux.1 14), .ref (ux.1 15), .int 0, .int 0], kb_o (ux.1 24) 1 [.ref (ux.1 7), .int 0], kb_j G o 1 (fun _ => 0)]) ⟨hx, hb, hml, hown, ht⟩ (c_L_name l hst G x (ux.1 0) (ux.1 2) (ux.1 4) (ux.1 5) (ux.1 30) (ux.1 29) (ux.1 16) (ux.1 18) (ux.1 20) (ux.1 22) (ux.1 25) (ux.1 27) (ux.1 24) (ux.1 12) (ux.1 13) (ux.1 14) (ux.1 15) 0 0 (ux.1 7) (xs 1) (xs 2) o) wd_a5668102 wd_e4ece85a wd_0b3f8154 wd_c5d8a199 hd_df263b77 ⟨(Nat.le_of_ble_eq_true rfl), (Nat.le_of_ble_eq_true rfl)⟩ hE hP hD hS [0, 1, 2, 5] rfl (by decide) hl.1 rfl (Nat.le_of_ble_eq_true rfl) d_L_law_749 ⟨(Nat.le_of_ble_eq_true rfl), (Nat.le_of_ble_eq_true rfl)⟩) (fun rv2 uu1 H locs hw hP hD hS => ?_)
  have hP : va_P G.1 kb_cl [kb_o y 4 [.int 0, .ref (um.1 0), .int 0, .ref (um.1 1), .int 0, .ref (um.1 2), .ref (um.1 3), .ref (um.1 4), .ref (um.1 5), .ref (um.1 6), .ref (um.1 7), .ref (um.1 8), .ref (um.1 9), .ref (um.1 10), .ref (um.1 11), .ref (um.1 12), .int 0, .int 0, .int 0, .int 0, .int 0], kb_a G (um.1 3) 2 (upd (fun _ => 0) 0 0), kb_j G o 1 (fun _ => 0)] H := hP
  have hD : va_D A [kb_o y 4 [.int 0, .ref (um.1 0), .int 0, .ref (um.1 1), .int 0, .ref (um.1 2), .ref (um.1 3), .ref (um.1 4), .ref (um.1 5), .ref (um.1 6), .ref (um.1 7), .ref (um.1 8), .ref (um.1 9), .ref (um.1 10), .ref (um.1 11), .ref (um.1 12), .int 0, .int 0, .int 0, .int 0, .int 0], kb_a G (um.1 3) 2 (upd (fun _ => 0) 0 0), kb_j G o 1 (fun _ => 0)] := hD
  refine kb_top (y := 1) (show rv2 = 1 from hw) ?_
  refine lv_istore (lv' := [(5, .int 1), (4, .int 0), (3, .ref o), (2, .ref y), (1, .ref x), (0, .ref b)]) hx hb d_L_law_752 hl (by decide) rfl (fun ls hl => ?_)
  refine lv_aload_n hx hb d_L_law_754 rfl (lv_at hl 3 rfl) ?_
  refine lv_aload_n hx hb d_L_law_755 rfl (lv_at hl 5 rfl) ?_
  refine lv_iload hx hb d_L_law_756 (lv_at hl 1 rfl) ?_
  refine lv_iconst (v := 1) hx hb d_L_law_758 (by decide) ?_
  refine lv_iadd hx hb d_L_law_759 ?_
  refine kb_top (y := 1) (by decide) ?_
  refine va_sld hx hb hX hbl hbA hS (show ¬ ((1 : Int32) < 0 ∨ 6 ≤ (1 : Int32).toNatClampNeg) by decide) d_L_law_760 ?_
  refine kb_top (y := xs 1) rfl ?_
  refine lv_aload_n hx hb d_L_law_761 rfl (lv_at hl 5 rfl) ?_
  refine lv_iload hx hb d_L_law_762 (lv_at hl 1 rfl) ?_
  refine lv_iconst (v := 2) hx hb d_L_law_764 (by decide) ?_
  refine lv_iadd hx hb d_L_law_765 ?_
  refine kb_top (y := 2) (by decide) ?_
  refine va_sld hx hb hX hbl hbA hS (show ¬ ((2 : Int32) < 0 ∨ 6 ≤ (2 : Int32).toNatClampNeg) by decide) d_L_law_766 ?_
  refine kb_top (y := xs 2) rfl ?_
  refine kb_i (wc := [kb_o y 4 [.int 0, .ref (um.1 0), .int 0, .ref (um.1 1), .int 0, .ref (um.1 2), .ref (um.1 3), .ref (um.1 4), .ref (um.1 5), .ref (um.1 6), .ref (um.1 7), .ref (um.1 8), .ref (um.1 9), .ref (um.1 10), .ref (um.1 11), .ref (um.1 12), .int 0, .int 0, .int 0, .int 0, .int 0], kb_a G (um.1 3) 2 (upd (fun _ => 0) 0 0)]) (wr := [kb_j G o 1 (fun _ => 0)]) hE hP hD hS [0, 1] [2] rfl rfl (by decide) (by decide) (kb_rV (As := [.int (xs 1), .int (xs 2)]) (rest := []) (wc := [kb_o y 4 [.int 0, .ref (um.1 0), .int 0, .ref (um.1 1), .int 0, .ref (um.1 2), .ref (um.1 3), .ref (um.1 4), .ref (um.1 5), .ref (um.1 6), .ref (um.1 7), .ref (um.1 8), .ref (um.1 9), .ref (um.1 10), .ref (um.1 11), .ref (um.1 12), .int 0, .int 0, .int 0, .int 0, .int 0], kb_a G (um.1 3) 2 (upd (fun _ => 0) 0 0)]) (q0 := 0) ⟨hx, hb, hml, hown, ht⟩ ((c_M_name l G y 0 (um.1 0) (um.1 1) (um.1 2) (um.1 3) (um.1 4) (um.1 5) (um.1 6) (um.1 7) (um.1 8) (um.1 9) (um.1 10) (um.1 11) (um.1 12) (xs 1) (xs 2)) _) (kb_gV wd_36618209 wd_b6514b99 wd_86da7254 wd_38099713 wd_b9999332) ⟨rfl, hd_62d7d86a⟩ ⟨(Nat.le_of_ble_eq_true rfl), (Nat.le_of_ble_eq_true rfl)⟩ hE hP hD hS [0, 1] rfl (by decide) rfl rfl rfl hl.1 rfl (Nat.le_of_ble_eq_true rfl) d_L_law_767 ⟨(Nat.le_of_ble_eq_true rfl), (Nat.le_of_ble_eq_true rfl)⟩) (fun rv4 uu3 H locs hw hP hD hS => ?_)
  have hP : va_P G.1 kb_cl [kb_j G o 1 (fun _ => 0), kb_o y 4 [.int 1, .ref (um.1 0), .int 0, .ref (um.1 1), .int 0, .ref (um.1 2), .ref (um.1 3), .ref (um.1 4), .ref (um.1 5), .ref (um.1 6), .ref (um.1 7), .ref (um.1 8), .ref (um.1 9), .ref (um.1 10), .ref (um.1 11), .ref (um.1 12), .int 0, .int 0, .int 0, .int 0, .int 0]] H := hP
  have hD : va_D A [kb_j G o 1 (fun _ => 0), kb_o y 4 [.int 1, .ref (um.1 0), .int 0, .ref (um.1 1), .int 0, .ref (um.1 2), .ref (um.1 3), .ref (um.1 4), .ref (um.1 5), .ref (um.1 6), .ref (um.1 7), .ref (um.1 8), .ref (um.1 9), .ref (um.1 10), .ref (um.1 11), .ref (um.1 12), .int 0, .int 0, .int 0, .int 0, .int 0]] := hD
  refine kb_top (y := 0) (show rv4 = 0 from hw) ?_
  refine lv_istore (lv' := [(6, .int 0), (5, .int 1), (4, .int 0), (3, .ref o), (2, .ref y), (1, .ref x), (0, .ref b)]) hx hb d_L_law_770 hl (by decide) rfl (fun ls hl => ?_)
  refine lv_aload_n hx hb d_L_law_772 rfl (lv_at hl 4 rfl) ?_
  refine kb_i (wc := [kb_o y 4 [.int 1, .ref (um.1 0), .int 0, .ref (um.1 1), .int 0, .ref (um.1 2), .ref (um.1 3), .ref (um.1 4), .ref (um.1 5), .ref (um.1 6), .ref (um.1 7), .ref (um.1 8), .ref (um.1 9), .ref (um.1 10), .ref (um.1 11), .ref (um.1 12), .int 0, .int 0, .int 0, .int 0, .int 0]]) (wr := [kb_j G o 1 (fun _ => 0)]) hE hP hD hS [1] [0] rfl rfl (by decide) (by decide) (kb_rV (As := []) (rest := []) (wc := [kb_o y 4 [.int 1, .ref (um.1 0), .int 0, .ref (um.1 1), .int 0, .ref (um.1 2), .ref (um.1 3), .ref (um.1 4), .ref (um.1 5), .ref (um.1 6), .ref (um.1 7), .ref (um.1 8), .ref (um.1 9), .ref (um.1 10), .ref (um.1 11), .ref (um.1 12), .int 0, .int 0, .int 0, .int 0, .int 0]]) (q0 := 0) ⟨hx, hb, hml, hown, ht⟩ ((c_M_thrown l G y 1 (um.1 0) (um.1 1) (um.1 2) (um.1 3) (um.1 4) (um.1 5) (um.1 6) (um.1 7) (um.1 8) (um.1 9) (um.1 10) (um.1 11) (um.1 12) 0 0 0 0) _) (kb_gV wd_1946a056 wd_e9c50365 wd_a707e5a8 wd_38099713 wd_79f18ba3) ⟨rfl, hd_2a236ec3⟩ ⟨(Nat.le_of_ble_eq_true rfl), (Nat.le_of_ble_eq_true rfl)⟩ hE hP hD hS [1] rfl (by decide) rfl rfl rfl hl.1 rfl (Nat.le_of_ble_eq_true rfl) d_L_law_773 ⟨(Nat.le_of_ble_eq_true rfl), (Nat.le_of_ble_eq_true rfl)⟩) (fun rv6 uu5 H locs hw hP hD hS => ?_)
  have hP : va_P G.1 kb_cl [kb_j G o 1 (fun _ => 0), kb_o y 4 [.int 1, .ref (um.1 0), .int 0, .ref (um.1 1), .int 0, .ref (um.1 2), .ref (um.1 3), .ref (um.1 4), .ref (um.1 5), .ref (um.1 6), .ref (um.1 7), .ref (um.1 8), .ref (um.1 9), .ref (um.1 10), .ref (um.1 11), .ref (um.1 12), .int 0, .int 0, .int 0, .int 0, .int 0]] H := hP
  have hD : va_D A [kb_j G o 1 (fun _ => 0), kb_o y 4 [.int 1, .ref (um.1 0), .int 0, .ref (um.1 1), .int 0, .ref (um.1 2), .ref (um.1 3), .ref (um.1 4), .ref (um.1 5), .ref (um.1 6), .ref (um.1 7), .ref (um.1 8), .ref (um.1 9), .ref (um.1 10), .ref (um.1 11), .ref (um.1 12), .int 0, .int 0, .int 0, .int 0, .int 0]] := hD
  refine kb_top (y := 1) (show rv6 = 1 from hw) ?_
  refine lv_iload hx hb d_L_law_776 (lv_at hl 1 rfl) ?_
  refine lv_icmp_eq (tgt := 783) hx hb d_L_law_778 (by decide) (fun c9 => ?_) (fun c9 => absurd (by decide) c9)
  refine lv_iload hx hb d_L_law_783 (lv_at hl 1 rfl) ?_
  refine lv_if_ne (tgt := 800) hx hb d_L_law_785 (by decide) (fun c9 => ?_) (fun c9 => absurd c9 (by decide))
  refine lv_goto (tgt := 940) hx hb d_L_law_800 (by decide) ?_
  refine lv_iinc (v := 6) (lv' := [(4, .int 6), (6, .int 0), (5, .int 1), (3, .ref o), (2, .ref y), (1, .ref x), (0, .ref b)]) hx hb d_L_law_940 hl (k := 2) rfl (by decide) (by decide) rfl (fun ls hl => ?_)
  refine lv_goto (tgt := 23) hx hb d_L_law_943 (by decide) ?_
  refine lv_iload hx hb d_L_law_23 (lv_at hl 0 rfl) ?_
  refine lv_aload_n hx hb d_L_law_25 rfl (lv_at hl 6 rfl) ?_
  refine va_slen hx hb hX hbl hbA hS d_L_law_26 ?_
  refine kb_top (y := 6) (by decide) ?_
  refine lv_bipush (v := 6) hx hb d_L_law_27 (by decide) ?_
  refine lv_isub hx hb d_L_law_29 ?_
  refine kb_top (y := 0) (by decide) ?_
  refine lv_icmp_gt (tgt := 946) hx hb d_L_law_30 (by decide) (fun c9 => ?_) (fun c9 => absurd (by decide) c9)
  refine lv_iconst (v := 1) hx hb d_L_law_946 (by decide) ?_
  refine va_forget (fun q hq => hAq _ (hS.2.2 q hq)) ?_
  refine W.widen (k := 600002) (n := 7302232) (Nat.le_of_ble_eq_true rfl) (Nat.le_of_ble_eq_true rfl) ?_
  exact lw_ret hx hb hr hlocks d_L_law_947

set_option maxHeartbeats 4000000 in
set_option maxRecDepth 100000 in
theorem lc_value {p : Program} {l : Launch} {e : Env} {s : State} {m : MethodId} {below : List Frame} {meth : Method} {c : Code} (hst : l.stackTraces = false) {G : kb_G} {A : Nat → Prop} {b : Nat} {xs : Nat → Int32} (C0 : lw_At p s m meth c b 6 xs) (hE : kb_E G A s) (hbA : ¬ A b) (hAq : ∀ q, A q → s.heap.size ≤ q) (x y o : Nat) (ux um : kb_S) {H : Heap} {locs : List Loc} (hP : va_P G.1 kb_cl (lc_w0 G x y o ux um) H) (hD : va_D A (lc_w0 G x y o ux um)) (hS : va_S A s.heap H locs) {ls : Array Slot} (hl : lv_has ls 7 [(4, .int 0), (3, .ref o), (2, .ref y), (1, .ref x), (0, .ref b)]) (hk : xs 0 &&& 31 = 15) : W p l e room_1 s m #[Value.ref b] below meth c H locs 71 169237 (lw_Z below #[Value.ref b] s) (F0 m 23 ls []) := by
  obtain ⟨hx, hb, hr, hml, hown, hts, hX, hbl, hlocks, hgv⟩ := C0
  have hown : s.vm.findClass "TreePressLaw" = some m.cls := hown
  have ht : ∀ w ∈ kb_T, w.before #[Value.ref b] s = true := fun w h => hts w (List.mem_filter.mp h).1
  have hP : va_P G.1 kb_cl [kb_o x 3 [.ref (ux.1 0), .ref (ux.1 2), .ref (ux.1 4), .ref (ux.1 5), .ref (ux.1 30)], kb_o (ux.1 5) 2 [.ref (ux.1 29), .ref (ux.1 16), .ref (ux.1 18), .ref (ux.1 20), .ref (ux.1 22), .ref (ux.1 25), .ref (ux.1 27), .ref (ux.1 24), .ref (ux.1 12), .ref (ux.1 13), .ref (ux.1 14), .ref (ux.1 15), .int 0, .int 0], kb_o (ux.1 24) 1 [.ref (ux.1 7), .int 0], kb_o y 4 [.int 0, .ref (um.1 0), .int 0, .ref (um.1 1), .int 0, .ref (um.1 2), .ref (um.1 3), .ref (um.1 4), .ref (um.1 5), .ref (um.1 6), .ref (um.1 7), .ref (um.1 8), .ref (um.1 9), .ref (um.1 10), .ref (um.1 11), .ref (um.1 12), .int 0, .int 0, .int 0, .int 0, .int 0], kb_a G (um.1 3) 2 (upd (fun _ => 0) 0 0), kb_j G o 1 (fun _ => 0)] H := hP.sub [0, 24, 25, 63, 65, 70] rfl
  have hD : va_D A [kb_o x 3 [.ref (ux.1 0), .ref (ux.1 2), .ref (ux.1 4), .ref (ux.1 5), .ref (ux.1 30)], kb_o (ux.1 5) 2 [.ref (ux.1 29), .ref (ux.1 16), .ref (ux.1 18), .ref (ux.1 20), .ref (ux.1 22), .ref (ux.1 25), .ref (ux.1 27), .ref (ux.1 24), .ref (ux.1 12), .ref (ux.1 13), .ref (ux.1 14), .ref (ux.1 15), .int 0, .int 0], kb_o (ux.1 24) 1 [.ref (ux.1 7), .int 0], kb_o y 4 [.int 0, .ref (um.1 0), .int 0, .ref (um.1 1), .int 0, .ref (um.1 2), .ref (um.1 3), .ref (um.1 4), .ref (um.1 5), .ref (um.1 6), .ref (um.1 7), .ref (um.1 8), .ref (um.1 9), .ref (um.1 10), .ref (um.1 11), .ref (um.1 12), .int 0, .int 0, .int 0, .int 0, .int 0], kb_a G (um.1 3) 2 (upd (fun _ => 0) 0 0), kb_j G o 1 (fun _ => 0)] := hD.sub [0, 24, 25, 63, 65, 70] (by decide) rfl
  refine lv_iload hx hb d_L_law_23 (lv_at hl 0 rfl) ?_
  refine lv_aload_n hx hb d_L_law_25 rfl (lv_at hl 4 rfl) ?_
  refine va_slen hx hb hX hbl hbA hS d_L_law_26 ?_
  refine kb_top (y := 6) (by decide) ?_
  refine lv_bipush (v := 6) hx hb d_L_law_27 (by decide) ?_
  refine lv_isub hx hb d_L_law_29 ?_
  refine kb_top (y := 0) (by decide) ?_
  refine lv_icmp_gt (tgt := 946) hx hb d_L_law_30 (by decide) (fun c9 => absurd c9 (by decide)) (fun c9 => ?_)
  refine lv_aload_n hx hb d_L_law_33 rfl (lv_at hl 4 rfl) ?_
  refine lv_iload hx hb d_L_law_34 (lv_at hl 0 rfl) ?_
  refine va_sld hx hb hX hbl hbA hS (show ¬ ((0 : Int32) < 0 ∨ 6 ≤ (0 : Int32).toNatClampNeg) by decide) d_L_law_36 ?_
  refine kb_top (y := xs 0) rfl ?_
  refine lv_bipush (v := 31) hx hb d_L_law_37 (by decide) ?_
  refine lv_iand hx hb d_L_law_39 ?_
  refine kb_top (y := 15) (hk) ?_
  refine lv_tableIn (tgt := 803) (off := 763) hx hb d_L_law_40 (by decide) (by decide) (by decide) (by decide) ?_
  refine lv_aload_n hx hb d_L_law_803 rfl (lv_at hl 3 rfl) ?_
  refine lv_aload_n hx hb d_L_law_804 rfl (lv_at hl 4 rfl) ?_
  refine lv_iload hx hb d_L_law_805 (lv_at hl 0 rfl) ?_
  refine lv_iconst (v := 1) hx hb d_L_law_807 (by decide) ?_
  refine lv_iadd hx hb d_L_law_808 ?_
  refine kb_top (y := 1) (by decide) ?_
  refine va_sld hx hb hX hbl hbA hS (show ¬ ((1 : Int32) < 0 ∨ 6 ≤ (1 : Int32).toNatClampNeg) by decide) d_L_law_809 ?_
  refine kb_top (y := xs 1) rfl ?_
  refine lv_aload_n hx hb d_L_law_810 rfl (lv_at hl 4 rfl) ?_
  refine lv_iload hx hb d_L_law_811 (lv_at hl 0 rfl) ?_
  refine lv_iconst (v := 2) hx hb d_L_law_813 (by decide) ?_
  refine lv_iadd hx hb d_L_law_814 ?_
  refine kb_top (y := 2) (by decide) ?_
  refine va_sld hx hb hX hbl hbA hS (show ¬ ((2 : Int32) < 0 ∨ 6 ≤ (2 : Int32).toNatClampNeg) by decide) d_L_law_815 ?_
  refine kb_top (y := xs 2) rfl ?_
  refine lv_aload_n hx hb d_L_law_816 rfl (lv_at hl 1 rfl) ?_
  refine kb_i (wc := [kb_o x 3 [.ref (ux.1 0), .ref (ux.1 2), .ref (ux.1 4), .ref (ux.1 5), .ref (ux.1 30)], kb_o (ux.1 5) 2 [.ref (ux.1 29), .ref (ux.1 16), .ref (ux.1 18), .ref (ux.1 20), .ref (ux.1 22), .ref (ux.1 25), .ref (ux.1 27), .ref (ux.1 24), .ref (ux.1 12), .ref (ux.1 13), .ref (ux.1 14), .ref (ux.1 15), .int 0, .int 0], kb_o (ux.1 24) 1 [.ref (ux.1 7), .int 0], kb_j G o 1 (fun _ => 0)]) (wr := [kb_o y 4 [.int 0, .ref (um.1 0), .int 0, .ref (um.1 1), .int 0, .ref (um.1 2), .ref (um.1 3), .ref (um.1 4), .ref (um.1 5), .ref (um.1 6), .ref (um.1 7), .ref (um.1 8), .ref (um.1 9), .ref (um.1 10), .ref (um.1 11), .ref (um.1 12), .int 0, .int 0, .int 0, .int 0, .int 0], kb_a G (um.1 3) 2 (upd (fun _ => 0) 0 0)]) hE hP hD hS [0, 1, 2, 5] [3, 4] rfl rfl (by decide) (by decide) (kb_rH (As := [.ref x, .int (xs 1), .int (xs 2), .ref o]) (rest := []) (wc := [kb_o x 3 [.ref (ux.1 0), .ref (ux.1 2), .ref (ux.1 4), .ref (ux.1 5), .ref (ux.1 30)], kb_o (ux.1 5) 2 [.ref (ux.1 29), .ref (ux.1 16), .ref (ux.1 18), .ref (ux.1 20), .ref (ux.1 22), .ref (ux.1 25), .ref (ux.1 27), .ref (ux.1 24), .ref (ux.1 12), .ref (ux.1 13), .ref (ux.1 14), .ref (ux.1 15), .int 0, .int 0], kb_o (ux.1 24) 1 [.ref (ux.1 7), .int 0], kb_j G o 1 (fun _ => 0)]) ⟨hx, hb, hml, hown, ht⟩ (c_L_value l hst G x (ux.1 0) (ux.1 2) (ux.1 4) (ux.1 5) (ux.1 30) (ux.1 29) (ux.1 16) (ux.1 18) (ux.1 20) (ux.1 22) (ux.1 25) (ux.1 27) (ux.1 24) (ux.1 12) (ux.1 13) (ux.1 14) (ux.1 15) 0 0 (ux.1 7) (xs 1) (xs 2) o) wd_f8ebff76 wd_e4ece85a wd_e029dbcf wd_ab3bf783 hd_b9833cb3 ⟨(Nat.le_of_ble_eq_true rfl), (Nat.le_of_ble_eq_true rfl)⟩ hE hP hD hS [0, 1, 2, 5] rfl (by decide) hl.1 rfl (Nat.le_of_ble_eq_true rfl) d_L_law_817 ⟨(Nat.le_of_ble_eq_true rfl), (Nat.le_of_ble_eq_true rfl)⟩) (fun rv2 uu1 H locs hw hP hD hS => ?_)
  have hP : va_P G.1 kb_cl [kb_o y 4 [.int 0, .ref (um.1 0), .int 0, .ref (um.1 1), .int 0, .ref (um.1 2), .ref (um.1 3), .ref (um.1 4), .ref (um.1 5), .ref (um.1 6), .ref (um.1 7), .ref (um.1 8), .ref (um.1 9), .ref (um.1 10), .ref (um.1 11), .ref (um.1 12), .int 0, .int 0, .int 0, .int 0, .int 0], kb_a G (um.1 3) 2 (upd (fun _ => 0) 0 0), kb_j G o 1 (fun _ => 0)] H := hP
  have hD : va_D A [kb_o y 4 [.int 0, .ref (um.1 0), .int 0, .ref (um.1 1), .int 0, .ref (um.1 2), .ref (um.1 3), .ref (um.1 4), .ref (um.1 5), .ref (um.1 6), .ref (um.1 7), .ref (um.1 8), .ref (um.1 9), .ref (um.1 10), .ref (um.1 11), .ref (um.1 12), .int 0, .int 0, .int 0, .int 0, .int 0], kb_a G (um.1 3) 2 (upd (fun _ => 0) 0 0), kb_j G o 1 (fun _ => 0)] := hD
  refine kb_top (y := 1) (show rv2 = 1 from hw) ?_
  refine lv_istore (lv' := [(5, .int 1), (4, .int 0), (3, .ref o), (2, .ref y), (1, .ref x), (0, .ref b)]) hx hb d_L_law_820 hl (by decide) rfl (fun ls hl => ?_)
  refine lv_aload_n hx hb d_L_law_822 rfl (lv_at hl 3 rfl) ?_
  refine lv_aload_n hx hb d_L_law_823 rfl (lv_at hl 5 rfl) ?_
  refine lv_iload hx hb d_L_law_824 (lv_at hl 1 rfl) ?_
  refine lv_iconst (v := 1) hx hb d_L_law_826 (by decide) ?_
  refine lv_iadd hx hb d_L_law_827 ?_
  refine kb_top (y := 1) (by decide) ?_
  refine va_sld hx hb hX hbl hbA hS (show ¬ ((1 : Int32) < 0 ∨ 6 ≤ (1 : Int32).toNatClampNeg) by decide) d_L_law_828 ?_
  refine kb_top (y := xs 1) rfl ?_
  refine lv_aload_n hx hb d_L_law_829 rfl (lv_at hl 5 rfl) ?_
  refine lv_iload hx hb d_L_law_830 (lv_at hl 1 rfl) ?_
  refine lv_iconst (v := 2) hx hb d_L_law_832 (by decide) ?_
  refine lv_iadd hx hb d_L_law_833 ?_
  refine kb_top (y := 2) (by decide) ?_
  refine va_sld hx hb hX hbl hbA hS (show ¬ ((2 : Int32) < 0 ∨ 6 ≤ (2 : Int32).toNatClampNeg) by decide) d_L_law_834 ?_
  refine kb_top (y := xs 2) rfl ?_
  refine kb_i (wc := [kb_o y 4 [.int 0, .ref (um.1 0), .int 0, .ref (um.1 1), .int 0, .ref (um.1 2), .ref (um.1 3), .ref (um.1 4), .ref (um.1 5), .ref (um.1 6), .ref (um.1 7), .ref (um.1 8), .ref (um.1 9), .ref (um.1 10), .ref (um.1 11), .ref (um.1 12), .int 0, .int 0, .int 0, .int 0, .int 0], kb_a G (um.1 3) 2 (upd (fun _ => 0) 0 0)]) (wr := [kb_j G o 1 (fun _ => 0)]) hE hP hD hS [0, 1] [2] rfl rfl (by decide) (by decide) (kb_rV (As := [.int (xs 1), .int (xs 2)]) (rest := []) (wc := [kb_o y 4 [.int 0, .ref (um.1 0), .int 0, .ref (um.1 1), .int 0, .ref (um.1 2), .ref (um.1 3), .ref (um.1 4), .ref (um.1 5), .ref (um.1 6), .ref (um.1 7), .ref (um.1 8), .ref (um.1 9), .ref (um.1 10), .ref (um.1 11), .ref (um.1 12), .int 0, .int 0, .int 0, .int 0, .int 0], kb_a G (um.1 3) 2 (upd (fun _ => 0) 0 0)]) (q0 := 0) ⟨hx, hb, hml, hown, ht⟩ ((c_M_value l G y 0 (um.1 0) (um.1 1) (um.1 2) (um.1 3) (um.1 4) (um.1 5) (um.1 6) (um.1 7) (um.1 8) (um.1 9) (um.1 10) (um.1 11) (um.1 12) (xs 1) (xs 2)) _) (kb_gV wd_5e3f2a1e wd_e4f594d4 wd_2fbd51b2 wd_38099713 wd_f1bcb86e) ⟨rfl, hd_f2dea5c0⟩ ⟨(Nat.le_of_ble_eq_true rfl), (Nat.le_of_ble_eq_true rfl)⟩ hE hP hD hS [0, 1] rfl (by decide) rfl rfl rfl hl.1 rfl (Nat.le_of_ble_eq_true rfl) d_L_law_835 ⟨(Nat.le_of_ble_eq_true rfl), (Nat.le_of_ble_eq_true rfl)⟩) (fun rv4 uu3 H locs hw hP hD hS => ?_)
  have hP : va_P G.1 kb_cl [kb_j G o 1 (fun _ => 0), kb_o y 4 [.int 1, .ref (um.1 0), .int 0, .ref (um.1 1), .int 0, .ref (um.1 2), .ref (um.1 3), .ref (um.1 4), .ref (um.1 5), .ref (um.1 6), .ref (um.1 7), .ref (um.1 8), .ref (um.1 9), .ref (um.1 10), .ref (um.1 11), .ref (um.1 12), .int 0, .int 0, .int 0, .int 0, .int 0]] H := hP
  have hD : va_D A [kb_j G o 1 (fun _ => 0), kb_o y 4 [.int 1, .ref (um.1 0), .int 0, .ref (um.1 1), .int 0, .ref (um.1 2), .ref (um.1 3), .ref (um.1 4), .ref (um.1 5), .ref (um.1 6), .ref (um.1 7), .ref (um.1 8), .ref (um.1 9), .ref (um.1 10), .ref (um.1 11), .ref (um.1 12), .int 0, .int 0, .int 0, .int 0, .int 0]] := hD
  refine kb_top (y := 0) (show rv4 = 0 from hw) ?_
  refine lv_istore (lv' := [(6, .int 0), (5, .int 1), (4, .int 0), (3, .ref o), (2, .ref y), (1, .ref x), (0, .ref b)]) hx hb d_L_law_838 hl (by decide) rfl (fun ls hl => ?_)
  refine lv_aload_n hx hb d_L_law_840 rfl (lv_at hl 4 rfl) ?_
  refine kb_i (wc := [kb_o y 4 [.int 1, .ref (um.1 0), .int 0, .ref (um.1 1), .int 0, .ref (um.1 2), .ref (um.1 3), .ref (um.1 4), .ref (um.1 5), .ref (um.1 6), .ref (um.1 7), .ref (um.1 8), .ref (um.1 9), .ref (um.1 10), .ref (um.1 11), .ref (um.1 12), .int 0, .int 0, .int 0, .int 0, .int 0]]) (wr := [kb_j G o 1 (fun _ => 0)]) hE hP hD hS [1] [0] rfl rfl (by decide) (by decide) (kb_rV (As := []) (rest := []) (wc := [kb_o y 4 [.int 1, .ref (um.1 0), .int 0, .ref (um.1 1), .int 0, .ref (um.1 2), .ref (um.1 3), .ref (um.1 4), .ref (um.1 5), .ref (um.1 6), .ref (um.1 7), .ref (um.1 8), .ref (um.1 9), .ref (um.1 10), .ref (um.1 11), .ref (um.1 12), .int 0, .int 0, .int 0, .int 0, .int 0]]) (q0 := 0) ⟨hx, hb, hml, hown, ht⟩ ((c_M_thrown l G y 1 (um.1 0) (um.1 1) (um.1 2) (um.1 3) (um.1 4) (um.1 5) (um.1 6) (um.1 7) (um.1 8) (um.1 9) (um.1 10) (um.1 11) (um.1 12) 0 0 0 0) _) (kb_gV wd_1946a056 wd_e9c50365 wd_a707e5a8 wd_38099713 wd_79f18ba3) ⟨rfl, hd_2a236ec3⟩ ⟨(Nat.le_of_ble_eq_true rfl), (Nat.le_of_ble_eq_true rfl)⟩ hE hP hD hS [1] rfl (by decide) rfl rfl rfl hl.1 rfl (Nat.le_of_ble_eq_true rfl) d_L_law_841 ⟨(Nat.le_of_ble_eq_true rfl), (Nat.le_of_ble_eq_true rfl)⟩) (fun rv6 uu5 H locs hw hP hD hS => ?_)
  have hP : va_P G.1 kb_cl [kb_j G o 1 (fun _ => 0), kb_o y 4 [.int 1, .ref (um.1 0), .int 0, .ref (um.1 1), .int 0, .ref (um.1 2), .ref (um.1 3), .ref (um.1 4), .ref (um.1 5), .ref (um.1 6), .ref (um.1 7), .ref (um.1 8), .ref (um.1 9), .ref (um.1 10), .ref (um.1 11), .ref (um.1 12), .int 0, .int 0, .int 0, .int 0, .int 0]] H := hP
  have hD : va_D A [kb_j G o 1 (fun _ => 0), kb_o y 4 [.int 1, .ref (um.1 0), .int 0, .ref (um.1 1), .int 0, .ref (um.1 2), .ref (um.1 3), .ref (um.1 4), .ref (um.1 5), .ref (um.1 6), .ref (um.1 7), .ref (um.1 8), .ref (um.1 9), .ref (um.1 10), .ref (um.1 11), .ref (um.1 12), .int 0, .int 0, .int 0, .int 0, .int 0]] := hD
  refine kb_top (y := 1) (show rv6 = 1 from hw) ?_
  refine lv_iload hx hb d_L_law_844 (lv_at hl 1 rfl) ?_
  refine lv_icmp_eq (tgt := 851) hx hb d_L_law_846 (by decide) (fun c9 => ?_) (fun c9 => absurd (by decide) c9)
  refine lv_iload hx hb d_L_law_851 (lv_at hl 1 rfl) ?_
  refine lv_if_ne (tgt := 868) hx hb d_L_law_853 (by decide) (fun c9 => ?_) (fun c9 => absurd c9 (by decide))
  refine lv_goto (tgt := 940) hx hb d_L_law_868 (by decide) ?_
  refine lv_iinc (v := 6) (lv' := [(4, .int 6), (6, .int 0), (5, .int 1), (3, .ref o), (2, .ref y), (1, .ref x), (0, .ref b)]) hx hb d_L_law_940 hl (k := 2) rfl (by decide) (by decide) rfl (fun ls hl => ?_)
  refine lv_goto (tgt := 23) hx hb d_L_law_943 (by decide) ?_
  refine lv_iload hx hb d_L_law_23 (lv_at hl 0 rfl) ?_
  refine lv_aload_n hx hb d_L_law_25 rfl (lv_at hl 6 rfl) ?_
  refine va_slen hx hb hX hbl hbA hS d_L_law_26 ?_
  refine kb_top (y := 6) (by decide) ?_
  refine lv_bipush (v := 6) hx hb d_L_law_27 (by decide) ?_
  refine lv_isub hx hb d_L_law_29 ?_
  refine kb_top (y := 0) (by decide) ?_
  refine lv_icmp_gt (tgt := 946) hx hb d_L_law_30 (by decide) (fun c9 => ?_) (fun c9 => absurd (by decide) c9)
  refine lv_iconst (v := 1) hx hb d_L_law_946 (by decide) ?_
  refine va_forget (fun q hq => hAq _ (hS.2.2 q hq)) ?_
  refine W.widen (k := 600002) (n := 7302232) (Nat.le_of_ble_eq_true rfl) (Nat.le_of_ble_eq_true rfl) ?_
  exact lw_ret hx hb hr hlocks d_L_law_947

set_option maxHeartbeats 4000000 in
set_option maxRecDepth 100000 in
theorem lc_find {p : Program} {l : Launch} {e : Env} {s : State} {m : MethodId} {below : List Frame} {meth : Method} {c : Code} (hst : l.stackTraces = false) {G : kb_G} {A : Nat → Prop} {b : Nat} {xs : Nat → Int32} (C0 : lw_At p s m meth c b 6 xs) (hE : kb_E G A s) (hbA : ¬ A b) (hAq : ∀ q, A q → s.heap.size ≤ q) (x y o : Nat) (ux um : kb_S) {H : Heap} {locs : List Loc} (hP : va_P G.1 kb_cl (lc_w0 G x y o ux um) H) (hD : va_D A (lc_w0 G x y o ux um)) (hS : va_S A s.heap H locs) {ls : Array Slot} (hl : lv_has ls 7 [(4, .int 0), (3, .ref o), (2, .ref y), (1, .ref x), (0, .ref b)]) (hk : xs 0 &&& 31 = 16) : W p l e room_1 s m #[Value.ref b] below meth c H locs 71 169237 (lw_Z below #[Value.ref b] s) (F0 m 23 ls []) := by
  obtain ⟨hx, hb, hr, hml, hown, hts, hX, hbl, hlocks, hgv⟩ := C0
  have hown : s.vm.findClass "TreePressLaw" = some m.cls := hown
  have ht : ∀ w ∈ kb_T, w.before #[Value.ref b] s = true := fun w h => hts w (List.mem_filter.mp h).1
  have hP : va_P G.1 kb_cl [kb_o x 3 [.ref (ux.1 0), .ref (ux.1 2), .ref (ux.1 4), .ref (ux.1 5), .ref (ux.1 30)], kb_o (ux.1 0) 1 [.ref (ux.1 1), .int 0], kb_o (ux.1 5) 2 [.ref (ux.1 29), .ref (ux.1 16), .ref (ux.1 18), .ref (ux.1 20), .ref (ux.1 22), .ref (ux.1 25), .ref (ux.1 27), .ref (ux.1 24), .ref (ux.1 12), .ref (ux.1 13), .ref (ux.1 14), .ref (ux.1 15), .int 0, .int 0], kb_o y 4 [.int 0, .ref (um.1 0), .int 0, .ref (um.1 1), .int 0, .ref (um.1 2), .ref (um.1 3), .ref (um.1 4), .ref (um.1 5), .ref (um.1 6), .ref (um.1 7), .ref (um.1 8), .ref (um.1 9), .ref (um.1 10), .ref (um.1 11), .ref (um.1 12), .int 0, .int 0, .int 0, .int 0, .int 0]] H := hP.sub [0, 1, 24, 63] rfl
  have hD : va_D A [kb_o x 3 [.ref (ux.1 0), .ref (ux.1 2), .ref (ux.1 4), .ref (ux.1 5), .ref (ux.1 30)], kb_o (ux.1 0) 1 [.ref (ux.1 1), .int 0], kb_o (ux.1 5) 2 [.ref (ux.1 29), .ref (ux.1 16), .ref (ux.1 18), .ref (ux.1 20), .ref (ux.1 22), .ref (ux.1 25), .ref (ux.1 27), .ref (ux.1 24), .ref (ux.1 12), .ref (ux.1 13), .ref (ux.1 14), .ref (ux.1 15), .int 0, .int 0], kb_o y 4 [.int 0, .ref (um.1 0), .int 0, .ref (um.1 1), .int 0, .ref (um.1 2), .ref (um.1 3), .ref (um.1 4), .ref (um.1 5), .ref (um.1 6), .ref (um.1 7), .ref (um.1 8), .ref (um.1 9), .ref (um.1 10), .ref (um.1 11), .ref (um.1 12), .int 0, .int 0, .int 0, .int 0, .int 0]] := hD.sub [0, 1, 24, 63] (by decide) rfl
  refine lv_iload hx hb d_L_law_23 (lv_at hl 0 rfl) ?_
  refine lv_aload_n hx hb d_L_law_25 rfl (lv_at hl 4 rfl) ?_
  refine va_slen hx hb hX hbl hbA hS d_L_law_26 ?_
  refine kb_top (y := 6) (by decide) ?_
  refine lv_bipush (v := 6) hx hb d_L_law_27 (by decide) ?_
  refine lv_isub hx hb d_L_law_29 ?_
  refine kb_top (y := 0) (by decide) ?_
  refine lv_icmp_gt (tgt := 946) hx hb d_L_law_30 (by decide) (fun c9 => absurd c9 (by decide)) (fun c9 => ?_)
  refine lv_aload_n hx hb d_L_law_33 rfl (lv_at hl 4 rfl) ?_
  refine lv_iload hx hb d_L_law_34 (lv_at hl 0 rfl) ?_
  refine va_sld hx hb hX hbl hbA hS (show ¬ ((0 : Int32) < 0 ∨ 6 ≤ (0 : Int32).toNatClampNeg) by decide) d_L_law_36 ?_
  refine kb_top (y := xs 0) rfl ?_
  refine lv_bipush (v := 31) hx hb d_L_law_37 (by decide) ?_
  refine lv_iand hx hb d_L_law_39 ?_
  refine kb_top (y := 16) (hk) ?_
  refine lv_tableIn (tgt := 871) (off := 831) hx hb d_L_law_40 (by decide) (by decide) (by decide) (by decide) ?_
  refine lv_aload_n hx hb d_L_law_871 rfl (lv_at hl 3 rfl) ?_
  refine kb_i (wc := [kb_o x 3 [.ref (ux.1 0), .ref (ux.1 2), .ref (ux.1 4), .ref (ux.1 5), .ref (ux.1 30)], kb_o (ux.1 0) 1 [.ref (ux.1 1), .int 0], kb_o (ux.1 5) 2 [.ref (ux.1 29), .ref (ux.1 16), .ref (ux.1 18), .ref (ux.1 20), .ref (ux.1 22), .ref (ux.1 25), .ref (ux.1 27), .ref (ux.1 24), .ref (ux.1 12), .ref (ux.1 13), .ref (ux.1 14), .ref (ux.1 15), .int 0, .int 0]]) (wr := [kb_o y 4 [.int 0, .ref (um.1 0), .int 0, .ref (um.1 1), .int 0, .ref (um.1 2), .ref (um.1 3), .ref (um.1 4), .ref (um.1 5), .ref (um.1 6), .ref (um.1 7), .ref (um.1 8), .ref (um.1 9), .ref (um.1 10), .ref (um.1 11), .ref (um.1 12), .int 0, .int 0, .int 0, .int 0, .int 0]]) hE hP hD hS [0, 1, 2] [3] rfl rfl (by decide) (by decide) (kb_rV (As := []) (rest := []) (wc := [kb_o x 3 [.ref (ux.1 0), .ref (ux.1 2), .ref (ux.1 4), .ref (ux.1 5), .ref (ux.1 30)], kb_o (ux.1 0) 1 [.ref (ux.1 1), .int 0], kb_o (ux.1 5) 2 [.ref (ux.1 29), .ref (ux.1 16), .ref (ux.1 18), .ref (ux.1 20), .ref (ux.1 22), .ref (ux.1 25), .ref (ux.1 27), .ref (ux.1 24), .ref (ux.1 12), .ref (ux.1 13), .ref (ux.1 14), .ref (ux.1 15), .int 0, .int 0]]) (q0 := 0) ⟨hx, hb, hml, hown, ht⟩ ((c_Press_find l G x (ux.1 0) (ux.1 2) (ux.1 4) (ux.1 5) (ux.1 30) (ux.1 1) (ux.1 29) (ux.1 16) (ux.1 18) (ux.1 20) (ux.1 22) (ux.1 25) (ux.1 27) (ux.1 24) (ux.1 12) (ux.1 13) (ux.1 14) (ux.1 15) 0 0) _) (kb_gV wd_07b1b580 wd_2e80539c wd_a7a695c8 wd_28603eaf wd_58b7f3b2) ⟨rfl, hd_0a4dd479⟩ ⟨(Nat.le_of_ble_eq_true rfl), (Nat.le_of_ble_eq_true rfl)⟩ hE hP hD hS [0, 1, 2] rfl (by decide) rfl rfl rfl hl.1 rfl (Nat.le_of_ble_eq_true rfl) d_L_law_872 ⟨(Nat.le_of_ble_eq_true rfl), (Nat.le_of_ble_eq_true rfl)⟩) (fun rv2 uu1 H locs hw hP hD hS => ?_)
  have hP : va_P G.1 kb_cl [kb_o y 4 [.int 0, .ref (um.1 0), .int 0, .ref (um.1 1), .int 0, .ref (um.1 2), .ref (um.1 3), .ref (um.1 4), .ref (um.1 5), .ref (um.1 6), .ref (um.1 7), .ref (um.1 8), .ref (um.1 9), .ref (um.1 10), .ref (um.1 11), .ref (um.1 12), .int 0, .int 0, .int 0, .int 0, .int 0]] H := hP
  have hD : va_D A [kb_o y 4 [.int 0, .ref (um.1 0), .int 0, .ref (um.1 1), .int 0, .ref (um.1 2), .ref (um.1 3), .ref (um.1 4), .ref (um.1 5), .ref (um.1 6), .ref (um.1 7), .ref (um.1 8), .ref (um.1 9), .ref (um.1 10), .ref (um.1 11), .ref (um.1 12), .int 0, .int 0, .int 0, .int 0, .int 0]] := hD
  refine kb_top (y := 0) (show rv2 = 0 from hw) ?_
  refine lv_aload_n hx hb d_L_law_875 rfl (lv_at hl 2 rfl) ?_
  refine kb_i (wc := [kb_o y 4 [.int 0, .ref (um.1 0), .int 0, .ref (um.1 1), .int 0, .ref (um.1 2), .ref (um.1 3), .ref (um.1 4), .ref (um.1 5), .ref (um.1 6), .ref (um.1 7), .ref (um.1 8), .ref (um.1 9), .ref (um.1 10), .ref (um.1 11), .ref (um.1 12), .int 0, .int 0, .int 0, .int 0, .int 0]]) (wr := []) hE hP hD hS [0] [] rfl rfl (by decide) (by decide) (kb_rV (As := []) (rest := [.int 0]) (wc := [kb_o y 4 [.int 0, .ref (um.1 0), .int 0, .ref (um.1 1), .int 0, .ref (um.1 2), .ref (um.1 3), .ref (um.1 4), .ref (um.1 5), .ref (um.1 6), .ref (um.1 7), .ref (um.1 8), .ref (um.1 9), .ref (um.1 10), .ref (um.1 11), .ref (um.1 12), .int 0, .int 0, .int 0, .int 0, .int 0]]) (q0 := 0) ⟨hx, hb, hml, hown, ht⟩ ((c_M_find l G y 0 (um.1 0) (um.1 1) (um.1 2) (um.1 3) (um.1 4) (um.1 5) (um.1 6) (um.1 7) (um.1 8) (um.1 9) (um.1 10) (um.1 11) (um.1 12)) _) (kb_gV wd_6ae8e69c wd_2d55eeba wd_8fea2ce6 wd_38099713 wd_07e05c9f) ⟨rfl, hd_2f136fca⟩ ⟨(Nat.le_of_ble_eq_true rfl), (Nat.le_of_ble_eq_true rfl)⟩ hE hP hD hS [0] rfl (by decide) rfl rfl rfl hl.1 rfl (Nat.le_of_ble_eq_true rfl) d_L_law_876 ⟨(Nat.le_of_ble_eq_true rfl), (Nat.le_of_ble_eq_true rfl)⟩) (fun rv4 uu3 H locs hw hP hD hS => ?_)
  have hP : va_P G.1 kb_cl [kb_o y 4 [.int 0, .ref (um.1 0), .int 0, .ref (um.1 1), .int 0, .ref (um.1 2), .ref (um.1 3), .ref (um.1 4), .ref (um.1 5), .ref (um.1 6), .ref (um.1 7), .ref (um.1 8), .ref (um.1 9), .ref (um.1 10), .ref (um.1 11), .ref (um.1 12), .int 0, .int 0, .int 0, .int 0, .int 0]] H := hP
  have hD : va_D A [kb_o y 4 [.int 0, .ref (um.1 0), .int 0, .ref (um.1 1), .int 0, .ref (um.1 2), .ref (um.1 3), .ref (um.1 4), .ref (um.1 5), .ref (um.1 6), .ref (um.1 7), .ref (um.1 8), .ref (um.1 9), .ref (um.1 10), .ref (um.1 11), .ref (um.1 12), .int 0, .int 0, .int 0, .int 0, .int 0]] := hD
  refine kb_top (y := 0) (show rv4 = 0 from hw) ?_
  refine lv_icmp_eq (tgt := 940) hx hb d_L_law_879 (by decide) (fun c9 => ?_) (fun c9 => absurd (by decide) c9)
  refine lv_iinc (v := 6) (lv' := [(4, .int 6), (3, .ref o), (2, .ref y), (1, .ref x), (0, .ref b)]) hx hb d_L_law_940 hl (k := 0) rfl (by decide) (by decide) rfl (fun ls hl => ?_)
  refine lv_goto (tgt := 23) hx hb d_L_law_943 (by decide) ?_
  refine lv_iload hx hb d_L_law_23 (lv_at hl 0 rfl) ?_
  refine lv_aload_n hx hb d_L_law_25 rfl (lv_at hl 4 rfl) ?_
  refine va_slen hx hb hX hbl hbA hS d_L_law_26 ?_
  refine kb_top (y := 6) (by decide) ?_
  refine lv_bipush (v := 6) hx hb d_L_law_27 (by decide) ?_
  refine lv_isub hx hb d_L_law_29 ?_
  refine kb_top (y := 0) (by decide) ?_
  refine lv_icmp_gt (tgt := 946) hx hb d_L_law_30 (by decide) (fun c9 => ?_) (fun c9 => absurd (by decide) c9)
  refine lv_iconst (v := 1) hx hb d_L_law_946 (by decide) ?_
  refine va_forget (fun q hq => hAq _ (hS.2.2 q hq)) ?_
  refine W.widen (k := 600002) (n := 7302232) (Nat.le_of_ble_eq_true rfl) (Nat.le_of_ble_eq_true rfl) ?_
  exact lw_ret hx hb hr hlocks d_L_law_947

set_option maxHeartbeats 4000000 in
set_option maxRecDepth 100000 in
theorem lc_seek0 {p : Program} {l : Launch} {e : Env} {s : State} {m : MethodId} {below : List Frame} {meth : Method} {c : Code} (hst : l.stackTraces = false) {G : kb_G} {A : Nat → Prop} {b : Nat} {xs : Nat → Int32} (C0 : lw_At p s m meth c b 6 xs) (hE : kb_E G A s) (hbA : ¬ A b) (hAq : ∀ q, A q → s.heap.size ≤ q) (x y o : Nat) (ux um : kb_S) {H : Heap} {locs : List Loc} (hP : va_P G.1 kb_cl (lc_w0 G x y o ux um) H) (hD : va_D A (lc_w0 G x y o ux um)) (hS : va_S A s.heap H locs) {ls : Array Slot} (hl : lv_has ls 7 [(4, .int 0), (3, .ref o), (2, .ref y), (1, .ref x), (0, .ref b)]) (hk : xs 0 &&& 31 = 17) (h1 : xs 1 = 0) : W p l e room_1 s m #[Value.ref b] below meth c H locs 71 169237 (lw_Z below #[Value.ref b] s) (F0 m 23 ls []) := by
  obtain ⟨hx, hb, hr, hml, hown, hts, hX, hbl, hlocks, hgv⟩ := C0
  have hown : s.vm.findClass "TreePressLaw" = some m.cls := hown
  have ht : ∀ w ∈ kb_T, w.before #[Value.ref b] s = true := fun w h => hts w (List.mem_filter.mp h).1
  have hP : va_P G.1 kb_cl [kb_o x 3 [.ref (ux.1 0), .ref (ux.1 2), .ref (ux.1 4), .ref (ux.1 5), .ref (ux.1 30)], kb_o (ux.1 0) 1 [.ref (ux.1 1), .int 0], kb_o (ux.1 16) 1 [.ref (ux.1 17), .int 1], kb_o (ux.1 5) 2 [.ref (ux.1 29), .ref (ux.1 16), .ref (ux.1 18), .ref (ux.1 20), .ref (ux.1 22), .ref (ux.1 25), .ref (ux.1 27), .ref (ux.1 24), .ref (ux.1 12), .ref (ux.1 13), .ref (ux.1 14), .ref (ux.1 15), .int 0, .int 0], kb_o (ux.1 25) 1 [.ref (ux.1 26), .int 1], kb_a G (ux.1 26) 16 (upd (fun _ => 0) 0 0), kb_o (ux.1 27) 1 [.ref (ux.1 28), .int 1], kb_a G (ux.1 28) 16 (upd (fun _ => 0) 0 0), kb_o y 4 [.int 0, .ref (um.1 0), .int 0, .ref (um.1 1), .int 0, .ref (um.1 2), .ref (um.1 3), .ref (um.1 4), .ref (um.1 5), .ref (um.1 6), .ref (um.1 7), .ref (um.1 8), .ref (um.1 9), .ref (um.1 10), .ref (um.1 11), .ref (um.1 12), .int 0, .int 0, .int 0, .int 0, .int 0], kb_a G (um.1 2) 2 (upd (fun _ => 0) 0 1), kb_a G (um.1 3) 2 (upd (fun _ => 0) 0 0), kb_j G o 1 (fun _ => 0)] H := hP.sub [0, 1, 16, 24, 26, 27, 28, 29, 63, 64, 65, 70] rfl
  have hD : va_D A [kb_o x 3 [.ref (ux.1 0), .ref (ux.1 2), .ref (ux.1 4), .ref (ux.1 5), .ref (ux.1 30)], kb_o (ux.1 0) 1 [.ref (ux.1 1), .int 0], kb_o (ux.1 16) 1 [.ref (ux.1 17), .int 1], kb_o (ux.1 5) 2 [.ref (ux.1 29), .ref (ux.1 16), .ref (ux.1 18), .ref (ux.1 20), .ref (ux.1 22), .ref (ux.1 25), .ref (ux.1 27), .ref (ux.1 24), .ref (ux.1 12), .ref (ux.1 13), .ref (ux.1 14), .ref (ux.1 15), .int 0, .int 0], kb_o (ux.1 25) 1 [.ref (ux.1 26), .int 1], kb_a G (ux.1 26) 16 (upd (fun _ => 0) 0 0), kb_o (ux.1 27) 1 [.ref (ux.1 28), .int 1], kb_a G (ux.1 28) 16 (upd (fun _ => 0) 0 0), kb_o y 4 [.int 0, .ref (um.1 0), .int 0, .ref (um.1 1), .int 0, .ref (um.1 2), .ref (um.1 3), .ref (um.1 4), .ref (um.1 5), .ref (um.1 6), .ref (um.1 7), .ref (um.1 8), .ref (um.1 9), .ref (um.1 10), .ref (um.1 11), .ref (um.1 12), .int 0, .int 0, .int 0, .int 0, .int 0], kb_a G (um.1 2) 2 (upd (fun _ => 0) 0 1), kb_a G (um.1 3) 2 (upd (fun _ => 0) 0 0), kb_j G o 1 (fun _ => 0)] := hD.sub [0, 1, 16, 24, 26, 27, 28, 29, 63, 64, 65, 70] (by decide) rfl
  refine lv_iload hx hb d_L_law_23 (lv_at hl 0 rfl) ?_
  refine lv_aload_n hx hb d_L_law_25 rfl (lv_at hl 4 rfl) ?_
  refine va_slen hx hb hX hbl hbA hS d_L_law_26 ?_
  refine kb_top (y := 6) (by decide) ?_
  refine lv_bipush (v := 6) hx hb d_L_law_27 (by decide) ?_
  refine lv_isub hx hb d_L_law_29 ?_
  refine kb_top (y := 0) (by decide) ?_
  refine lv_icmp_gt (tgt := 946) hx hb d_L_law_30 (by decide) (fun c9 => absurd c9 (by decide)) (fun c9 => ?_)
  refine lv_aload_n hx hb d_L_law_33 rfl (lv_at hl 4 rfl) ?_
  refine lv_iload hx hb d_L_law_34 (lv_at hl 0 rfl) ?_
  refine va_sld hx hb hX hbl hbA hS (show ¬ ((0 : Int32) < 0 ∨ 6 ≤ (0 : Int32).toNatClampNeg) by decide) d_L_law_36 ?_
  refine kb_top (y := xs 0) rfl ?_
  refine lv_bipush (v := 31) hx hb d_L_law_37 (by decide) ?_
  refine lv_iand hx hb d_L_law_39 ?_
  refine kb_top (y := 17) (hk) ?_
  refine lv_tableIn (tgt := 884) (off := 844) hx hb d_L_law_40 (by decide) (by decide) (by decide) (by decide) ?_
  refine lv_aload_n hx hb d_L_law_884 rfl (lv_at hl 3 rfl) ?_
  refine lv_aload_n hx hb d_L_law_885 rfl (lv_at hl 4 rfl) ?_
  refine lv_iload hx hb d_L_law_886 (lv_at hl 0 rfl) ?_
  refine lv_iconst (v := 1) hx hb d_L_law_888 (by decide) ?_
  refine lv_iadd hx hb d_L_law_889 ?_
  refine kb_top (y := 1) (by decide) ?_
  refine va_sld hx hb hX hbl hbA hS (show ¬ ((1 : Int32) < 0 ∨ 6 ≤ (1 : Int32).toNatClampNeg) by decide) d_L_law_890 ?_
  refine kb_top (y := xs 1) rfl ?_
  refine kb_top (y := 0) h1 ?_
  refine lv_aload_n hx hb d_L_law_891 rfl (lv_at hl 1 rfl) ?_
  refine kb_i (wc := [kb_o x 3 [.ref (ux.1 0), .ref (ux.1 2), .ref (ux.1 4), .ref (ux.1 5), .ref (ux.1 30)], kb_o (ux.1 0) 1 [.ref (ux.1 1), .int 0], kb_o (ux.1 5) 2 [.ref (ux.1 29), .ref (ux.1 16), .ref (ux.1 18), .ref (ux.1 20), .ref (ux.1 22), .ref (ux.1 25), .ref (ux.1 27), .ref (ux.1 24), .ref (ux.1 12), .ref (ux.1 13), .ref (ux.1 14), .ref (ux.1 15), .int 0, .int 0], kb_o (ux.1 16) 1 [.ref (ux.1 17), .int 1], kb_o (ux.1 25) 1 [.ref (ux.1 26), .int 1], kb_o (ux.1 27) 1 [.ref (ux.1 28), .int 1], kb_a G (ux.1 26) 16 (upd (fun _ => 0) 0 0), kb_a G (ux.1 28) 16 (upd (fun _ => 0) 0 0), kb_j G o 1 (fun _ => 0)]) (wr := [kb_o y 4 [.int 0, .ref (um.1 0), .int 0, .ref (um.1 1), .int 0, .ref (um.1 2), .ref (um.1 3), .ref (um.1 4), .ref (um.1 5), .ref (um.1 6), .ref (um.1 7), .ref (um.1 8), .ref (um.1 9), .ref (um.1 10), .ref (um.1 11), .ref (um.1 12), .int 0, .int 0, .int 0, .int 0, .int 0], kb_a G (um.1 2) 2 (upd (fun _ => 0) 0 1), kb_a G (um.1 3) 2 (upd (fun _ => 0) 0 0)]) hE hP hD hS [0, 1, 3, 2, 4, 6, 5, 7, 11] [8, 9, 10] rfl rfl (by decide) (by decide) (kb_rH (As := [.ref x, .int 0, .ref o]) (rest := []) (wc := [kb_o x 3 [.ref (ux.1 0), .ref (ux.1 2), .ref (ux.1 4), .ref (ux.1 5), .ref (ux.1 30)], kb_o (ux.1 0) 1 [.ref (ux.1 1), .int 0], kb_o (ux.1 5) 2 [.ref (ux.1 29), .ref (ux.1 16), .ref (ux.1 18), .ref (ux.1 20), .ref (ux.1 22), .ref (ux.1 25), .ref (ux.1 27), .ref (ux.1 24), .ref (ux.1 12), .ref (ux.1 13), .ref (ux.1 14), .ref (ux.1 15), .int 0, .int 0], kb_o (ux.1 16) 1 [.ref (ux.1 17), .int 1], kb_o (ux.1 25) 1 [.ref (ux.1 26), .int 1], kb_o (ux.1 27) 1 [.ref (ux.1 28), .int 1], kb_a G (ux.1 26) 16 (upd (fun _ => 0) 0 0), kb_a G (ux.1 28) 16 (upd (fun _ => 0) 0 0), kb_j G o 1 (fun _ => 0)]) ⟨hx, hb, hml, hown, ht⟩ (c_L_seek0 l hst G x (ux.1 0) (ux.1 2) (ux.1 4) (ux.1 5) (ux.1 30) (ux.1 1) (ux.1 29) (ux.1 16) (ux.1 18) (ux.1 20) (ux.1 22) (ux.1 25) (ux.1 27) (ux.1 24) (ux.1 12) (ux.1 13) (ux.1 14) (ux.1 15) 0 0 (ux.1 17) (ux.1 26) (ux.1 28) o) wd_77509fde wd_e4ece85a wd_19368e2d wd_7d243915 hd_9c62de18 ⟨(Nat.le_of_ble_eq_true rfl), (Nat.le_of_ble_eq_true rfl)⟩ hE hP hD hS [0, 1, 3, 2, 4, 6, 5, 7, 11] rfl (by decide) hl.1 rfl (Nat.le_of_ble_eq_true rfl) d_L_law_892 ⟨(Nat.le_of_ble_eq_true rfl), (Nat.le_of_ble_eq_true rfl)⟩) (fun rv2 uu1 H locs hw hP hD hS => ?_)
  have hP : va_P G.1 kb_cl [kb_o y 4 [.int 0, .ref (um.1 0), .int 0, .ref (um.1 1), .int 0, .ref (um.1 2), .ref (um.1 3), .ref (um.1 4), .ref (um.1 5), .ref (um.1 6), .ref (um.1 7), .ref (um.1 8), .ref (um.1 9), .ref (um.1 10), .ref (um.1 11), .ref (um.1 12), .int 0, .int 0, .int 0, .int 0, .int 0], kb_a G (um.1 2) 2 (upd (fun _ => 0) 0 1), kb_a G (um.1 3) 2 (upd (fun _ => 0) 0 0), kb_j G o 1 (vp_updL (fun _ => 0) 0 (((-1) : Int32).toInt64))] H := hP
  have hD : va_D A [kb_o y 4 [.int 0, .ref (um.1 0), .int 0, .ref (um.1 1), .int 0, .ref (um.1 2), .ref (um.1 3), .ref (um.1 4), .ref (um.1 5), .ref (um.1 6), .ref (um.1 7), .ref (um.1 8), .ref (um.1 9), .ref (um.1 10), .ref (um.1 11), .ref (um.1 12), .int 0, .int 0, .int 0, .int 0, .int 0], kb_a G (um.1 2) 2 (upd (fun _ => 0) 0 1), kb_a G (um.1 3) 2 (upd (fun _ => 0) 0 0), kb_j G o 1 (vp_updL (fun _ => 0) 0 (((-1) : Int32).toInt64))] := hD
  refine kb_top (y := 0) (show rv2 = 0 from hw) ?_
  refine lv_istore (lv' := [(5, .int 0), (4, .int 0), (3, .ref o), (2, .ref y), (1, .ref x), (0, .ref b)]) hx hb d_L_law_895 hl (by decide) rfl (fun ls hl => ?_)
  refine lv_aload_n hx hb d_L_law_897 rfl (lv_at hl 3 rfl) ?_
  refine lv_aload_n hx hb d_L_law_898 rfl (lv_at hl 5 rfl) ?_
  refine lv_iload hx hb d_L_law_899 (lv_at hl 1 rfl) ?_
  refine lv_iconst (v := 1) hx hb d_L_law_901 (by decide) ?_
  refine lv_iadd hx hb d_L_law_902 ?_
  refine kb_top (y := 1) (by decide) ?_
  refine va_sld hx hb hX hbl hbA hS (show ¬ ((1 : Int32) < 0 ∨ 6 ≤ (1 : Int32).toNatClampNeg) by decide) d_L_law_903 ?_
  refine kb_top (y := xs 1) rfl ?_
  refine kb_top (y := 0) h1 ?_
  refine kb_i (wc := [kb_o y 4 [.int 0, .ref (um.1 0), .int 0, .ref (um.1 1), .int 0, .ref (um.1 2), .ref (um.1 3), .ref (um.1 4), .ref (um.1 5), .ref (um.1 6), .ref (um.1 7), .ref (um.1 8), .ref (um.1 9), .ref (um.1 10), .ref (um.1 11), .ref (um.1 12), .int 0, .int 0, .int 0, .int 0, .int 0], kb_a G (um.1 2) 2 (upd (fun _ => 0) 0 1), kb_a G (um.1 3) 2 (upd (fun _ => 0) 0 0)]) (wr := [kb_j G o 1 (vp_updL (fun _ => 0) 0 (((-1) : Int32).toInt64))]) hE hP hD hS [0, 1, 2] [3] rfl rfl (by decide) (by decide) (kb_rV (As := [.int 0]) (rest := []) (wc := [kb_o y 4 [.int 0, .ref (um.1 0), .int 0, .ref (um.1 1), .int 0, .ref (um.1 2), .ref (um.1 3), .ref (um.1 4), .ref (um.1 5), .ref (um.1 6), .ref (um.1 7), .ref (um.1 8), .ref (um.1 9), .ref (um.1 10), .ref (um.1 11), .ref (um.1 12), .int 0, .int 0, .int 0, .int 0, .int 0], kb_a G (um.1 2) 2 (upd (fun _ => 0) 0 1), kb_a G (um.1 3) 2 (upd (fun _ => 0) 0 0)]) (q0 := 0) ⟨hx, hb, hml, hown, ht⟩ ((c_M_seek0 l G y 0 (um.1 0) (um.1 1) (um.1 2) (um.1 3) (um.1 4) (um.1 5) (um.1 6) (um.1 7) (um.1 8) (um.1 9) (um.1 10) (um.1 11) (um.1 12)) _) (kb_gV wd_2c164b14 wd_de837b1a wd_ca401616 wd_38099713 wd_a04dd5d8) ⟨rfl, hd_1cda2180⟩ ⟨(Nat.le_of_ble_eq_true rfl), (Nat.le_of_ble_eq_true rfl)⟩ hE hP hD hS [0, 1, 2] rfl (by decide) rfl rfl rfl hl.1 rfl (Nat.le_of_ble_eq_true rfl) d_L_law_904 ⟨(Nat.le_of_ble_eq_true rfl), (Nat.le_of_ble_eq_true rfl)⟩) (fun rv4 uu3 H locs hw hP hD hS => ?_)
  have hP : va_P G.1 kb_cl [kb_j G o 1 (vp_updL (fun _ => 0) 0 (((-1) : Int32).toInt64)), kb_o y 4 [.int 0, .ref (um.1 0), .int 0, .ref (um.1 1), .int 0, .ref (um.1 2), .ref (um.1 3), .ref (um.1 4), .ref (um.1 5), .ref (um.1 6), .ref (um.1 7), .ref (um.1 8), .ref (um.1 9), .ref (um.1 10), .ref (um.1 11), .ref (um.1 12), .int 0, .int 0, .int 0, .int 0, .int 0]] H := hP
  have hD : va_D A [kb_j G o 1 (vp_updL (fun _ => 0) 0 (((-1) : Int32).toInt64)), kb_o y 4 [.int 0, .ref (um.1 0), .int 0, .ref (um.1 1), .int 0, .ref (um.1 2), .ref (um.1 3), .ref (um.1 4), .ref (um.1 5), .ref (um.1 6), .ref (um.1 7), .ref (um.1 8), .ref (um.1 9), .ref (um.1 10), .ref (um.1 11), .ref (um.1 12), .int 0, .int 0, .int 0, .int 0, .int 0]] := hD
  refine kb_top (y := (-1)) (show rv4 = (-1) from hw) ?_
  refine lv_istore (lv' := [(6, .int (-1)), (5, .int 0), (4, .int 0), (3, .ref o), (2, .ref y), (1, .ref x), (0, .ref b)]) hx hb d_L_law_907 hl (by decide) rfl (fun ls hl => ?_)
  refine lv_aload_n hx hb d_L_law_909 rfl (lv_at hl 4 rfl) ?_
  refine kb_i (wc := [kb_o y 4 [.int 0, .ref (um.1 0), .int 0, .ref (um.1 1), .int 0, .ref (um.1 2), .ref (um.1 3), .ref (um.1 4), .ref (um.1 5), .ref (um.1 6), .ref (um.1 7), .ref (um.1 8), .ref (um.1 9), .ref (um.1 10), .ref (um.1 11), .ref (um.1 12), .int 0, .int 0, .int 0, .int 0, .int 0]]) (wr := [kb_j G o 1 (vp_updL (fun _ => 0) 0 (((-1) : Int32).toInt64))]) hE hP hD hS [1] [0] rfl rfl (by decide) (by decide) (kb_rV (As := []) (rest := []) (wc := [kb_o y 4 [.int 0, .ref (um.1 0), .int 0, .ref (um.1 1), .int 0, .ref (um.1 2), .ref (um.1 3), .ref (um.1 4), .ref (um.1 5), .ref (um.1 6), .ref (um.1 7), .ref (um.1 8), .ref (um.1 9), .ref (um.1 10), .ref (um.1 11), .ref (um.1 12), .int 0, .int 0, .int 0, .int 0, .int 0]]) (q0 := 0) ⟨hx, hb, hml, hown, ht⟩ ((c_M_thrown l G y 0 (um.1 0) (um.1 1) (um.1 2) (um.1 3) (um.1 4) (um.1 5) (um.1 6) (um.1 7) (um.1 8) (um.1 9) (um.1 10) (um.1 11) (um.1 12) 0 0 0 0) _) (kb_gV wd_1946a056 wd_e9c50365 wd_a707e5a8 wd_38099713 wd_79f18ba3) ⟨rfl, hd_2a236ec3⟩ ⟨(Nat.le_of_ble_eq_true rfl), (Nat.le_of_ble_eq_true rfl)⟩ hE hP hD hS [1] rfl (by decide) rfl rfl rfl hl.1 rfl (Nat.le_of_ble_eq_true rfl) d_L_law_910 ⟨(Nat.le_of_ble_eq_true rfl), (Nat.le_of_ble_eq_true rfl)⟩) (fun rv6 uu5 H locs hw hP hD hS => ?_)
  have hP : va_P G.1 kb_cl [kb_j G o 1 (vp_updL (fun _ => 0) 0 (((-1) : Int32).toInt64)), kb_o y 4 [.int 0, .ref (um.1 0), .int 0, .ref (um.1 1), .int 0, .ref (um.1 2), .ref (um.1 3), .ref (um.1 4), .ref (um.1 5), .ref (um.1 6), .ref (um.1 7), .ref (um.1 8), .ref (um.1 9), .ref (um.1 10), .ref (um.1 11), .ref (um.1 12), .int 0, .int 0, .int 0, .int 0, .int 0]] H := hP
  have hD : va_D A [kb_j G o 1 (vp_updL (fun _ => 0) 0 (((-1) : Int32).toInt64)), kb_o y 4 [.int 0, .ref (um.1 0), .int 0, .ref (um.1 1), .int 0, .ref (um.1 2), .ref (um.1 3), .ref (um.1 4), .ref (um.1 5), .ref (um.1 6), .ref (um.1 7), .ref (um.1 8), .ref (um.1 9), .ref (um.1 10), .ref (um.1 11), .ref (um.1 12), .int 0, .int 0, .int 0, .int 0, .int 0]] := hD
  refine kb_top (y := 0) (show rv6 = 0 from hw) ?_
  refine lv_iload hx hb d_L_law_913 (lv_at hl 1 rfl) ?_
  refine lv_icmp_eq (tgt := 920) hx hb d_L_law_915 (by decide) (fun c9 => ?_) (fun c9 => absurd (by decide) c9)
  refine lv_iload hx hb d_L_law_920 (lv_at hl 1 rfl) ?_
  refine lv_if_ne (tgt := 937) hx hb d_L_law_922 (by decide) (fun c9 => absurd (by decide) c9) (fun c9 => ?_)
  refine lv_aload_n hx hb d_L_law_925 rfl (lv_at hl 3 rfl) ?_
  refine lv_iconst (v := 0) hx hb d_L_law_926 (by decide) ?_
  refine va_lald hx hb hE.1 hP 0 1 rfl rfl (show ¬ ((0 : Int32) < 0 ∨ 1 ≤ (0 : Int32).toNatClampNeg) by decide) d_L_law_927 ?_
  refine kb_topl (y := ((-1) : Int32).toInt64) rfl ?_
  refine lv_iload hx hb d_L_law_928 (lv_at hl 0 rfl) ?_
  refine lv_i2l (v := ((-1) : Int32).toInt64) hx hb d_L_law_930 rfl ?_
  refine W.lcmp hx hb d_L_law_931 ?_
  refine kb_top (y := 0) (by decide) ?_
  refine lv_if_eq (tgt := 937) hx hb d_L_law_932 (by decide) (fun c9 => ?_) (fun c9 => absurd (by decide) c9)
  refine lv_goto (tgt := 940) hx hb d_L_law_937 (by decide) ?_
  refine lv_iinc (v := 6) (lv' := [(4, .int 6), (6, .int (-1)), (5, .int 0), (3, .ref o), (2, .ref y), (1, .ref x), (0, .ref b)]) hx hb d_L_law_940 hl (k := 2) rfl (by decide) (by decide) rfl (fun ls hl => ?_)
  refine lv_goto (tgt := 23) hx hb d_L_law_943 (by decide) ?_
  refine lv_iload hx hb d_L_law_23 (lv_at hl 0 rfl) ?_
  refine lv_aload_n hx hb d_L_law_25 rfl (lv_at hl 6 rfl) ?_
  refine va_slen hx hb hX hbl hbA hS d_L_law_26 ?_
  refine kb_top (y := 6) (by decide) ?_
  refine lv_bipush (v := 6) hx hb d_L_law_27 (by decide) ?_
  refine lv_isub hx hb d_L_law_29 ?_
  refine kb_top (y := 0) (by decide) ?_
  refine lv_icmp_gt (tgt := 946) hx hb d_L_law_30 (by decide) (fun c9 => ?_) (fun c9 => absurd (by decide) c9)
  refine lv_iconst (v := 1) hx hb d_L_law_946 (by decide) ?_
  refine va_forget (fun q hq => hAq _ (hS.2.2 q hq)) ?_
  refine W.widen (k := 600002) (n := 7302232) (Nat.le_of_ble_eq_true rfl) (Nat.le_of_ble_eq_true rfl) ?_
  exact lw_ret hx hb hr hlocks d_L_law_947

set_option maxHeartbeats 4000000 in
set_option maxRecDepth 100000 in
theorem lc_seekX {p : Program} {l : Launch} {e : Env} {s : State} {m : MethodId} {below : List Frame} {meth : Method} {c : Code} (hst : l.stackTraces = false) {G : kb_G} {A : Nat → Prop} {b : Nat} {xs : Nat → Int32} (C0 : lw_At p s m meth c b 6 xs) (hE : kb_E G A s) (hbA : ¬ A b) (hAq : ∀ q, A q → s.heap.size ≤ q) (x y o : Nat) (ux um : kb_S) {H : Heap} {locs : List Loc} (hP : va_P G.1 kb_cl (lc_w0 G x y o ux um) H) (hD : va_D A (lc_w0 G x y o ux um)) (hS : va_S A s.heap H locs) {ls : Array Slot} (hl : lv_has ls 7 [(4, .int 0), (3, .ref o), (2, .ref y), (1, .ref x), (0, .ref b)]) (hk : xs 0 &&& 31 = 17) (h1 : ¬ xs 1 = 0) : W p l e room_1 s m #[Value.ref b] below meth c H locs 71 169237 (lw_Z below #[Value.ref b] s) (F0 m 23 ls []) := by
  obtain ⟨hx, hb, hr, hml, hown, hts, hX, hbl, hlocks, hgv⟩ := C0
  have hown : s.vm.findClass "TreePressLaw" = some m.cls := hown
  have ht : ∀ w ∈ kb_T, w.before #[Value.ref b] s = true := fun w h => hts w (List.mem_filter.mp h).1
  have hP : va_P G.1 kb_cl [kb_o x 3 [.ref (ux.1 0), .ref (ux.1 2), .ref (ux.1 4), .ref (ux.1 5), .ref (ux.1 30)], kb_o (ux.1 16) 1 [.ref (ux.1 17), .int 1], kb_o (ux.1 5) 2 [.ref (ux.1 29), .ref (ux.1 16), .ref (ux.1 18), .ref (ux.1 20), .ref (ux.1 22), .ref (ux.1 25), .ref (ux.1 27), .ref (ux.1 24), .ref (ux.1 12), .ref (ux.1 13), .ref (ux.1 14), .ref (ux.1 15), .int 0, .int 0], kb_o y 4 [.int 0, .ref (um.1 0), .int 0, .ref (um.1 1), .int 0, .ref (um.1 2), .ref (um.1 3), .ref (um.1 4), .ref (um.1 5), .ref (um.1 6), .ref (um.1 7), .ref (um.1 8), .ref (um.1 9), .ref (um.1 10), .ref (um.1 11), .ref (um.1 12), .int 0, .int 0, .int 0, .int 0, .int 0], kb_a G (um.1 2) 2 (upd (fun _ => 0) 0 1), kb_j G o 1 (fun _ => 0)] H := hP.sub [0, 16, 24, 63, 64, 70] rfl
  have hD : va_D A [kb_o x 3 [.ref (ux.1 0), .ref (ux.1 2), .ref (ux.1 4), .ref (ux.1 5), .ref (ux.1 30)], kb_o (ux.1 16) 1 [.ref (ux.1 17), .int 1], kb_o (ux.1 5) 2 [.ref (ux.1 29), .ref (ux.1 16), .ref (ux.1 18), .ref (ux.1 20), .ref (ux.1 22), .ref (ux.1 25), .ref (ux.1 27), .ref (ux.1 24), .ref (ux.1 12), .ref (ux.1 13), .ref (ux.1 14), .ref (ux.1 15), .int 0, .int 0], kb_o y 4 [.int 0, .ref (um.1 0), .int 0, .ref (um.1 1), .int 0, .ref (um.1 2), .ref (um.1 3), .ref (um.1 4), .ref (um.1 5), .ref (um.1 6), .ref (um.1 7), .ref (um.1 8), .ref (um.1 9), .ref (um.1 10), .ref (um.1 11), .ref (um.1 12), .int 0, .int 0, .int 0, .int 0, .int 0], kb_a G (um.1 2) 2 (upd (fun _ => 0) 0 1), kb_j G o 1 (fun _ => 0)] := hD.sub [0, 16, 24, 63, 64, 70] (by decide) rfl
  refine lv_iload hx hb d_L_law_23 (lv_at hl 0 rfl) ?_
  refine lv_aload_n hx hb d_L_law_25 rfl (lv_at hl 4 rfl) ?_
  refine va_slen hx hb hX hbl hbA hS d_L_law_26 ?_
  refine kb_top (y := 6) (by decide) ?_
  refine lv_bipush (v := 6) hx hb d_L_law_27 (by decide) ?_
  refine lv_isub hx hb d_L_law_29 ?_
  refine kb_top (y := 0) (by decide) ?_
  refine lv_icmp_gt (tgt := 946) hx hb d_L_law_30 (by decide) (fun c9 => absurd c9 (by decide)) (fun c9 => ?_)
  refine lv_aload_n hx hb d_L_law_33 rfl (lv_at hl 4 rfl) ?_
  refine lv_iload hx hb d_L_law_34 (lv_at hl 0 rfl) ?_
  refine va_sld hx hb hX hbl hbA hS (show ¬ ((0 : Int32) < 0 ∨ 6 ≤ (0 : Int32).toNatClampNeg) by decide) d_L_law_36 ?_
  refine kb_top (y := xs 0) rfl ?_
  refine lv_bipush (v := 31) hx hb d_L_law_37 (by decide) ?_
  refine lv_iand hx hb d_L_law_39 ?_
  refine kb_top (y := 17) (hk) ?_
  refine lv_tableIn (tgt := 884) (off := 844) hx hb d_L_law_40 (by decide) (by decide) (by decide) (by decide) ?_
  refine lv_aload_n hx hb d_L_law_884 rfl (lv_at hl 3 rfl) ?_
  refine lv_aload_n hx hb d_L_law_885 rfl (lv_at hl 4 rfl) ?_
  refine lv_iload hx hb d_L_law_886 (lv_at hl 0 rfl) ?_
  refine lv_iconst (v := 1) hx hb d_L_law_888 (by decide) ?_
  refine lv_iadd hx hb d_L_law_889 ?_
  refine kb_top (y := 1) (by decide) ?_
  refine va_sld hx hb hX hbl hbA hS (show ¬ ((1 : Int32) < 0 ∨ 6 ≤ (1 : Int32).toNatClampNeg) by decide) d_L_law_890 ?_
  refine kb_top (y := xs 1) rfl ?_
  refine lv_aload_n hx hb d_L_law_891 rfl (lv_at hl 1 rfl) ?_
  refine kb_i (wc := [kb_o x 3 [.ref (ux.1 0), .ref (ux.1 2), .ref (ux.1 4), .ref (ux.1 5), .ref (ux.1 30)], kb_o (ux.1 5) 2 [.ref (ux.1 29), .ref (ux.1 16), .ref (ux.1 18), .ref (ux.1 20), .ref (ux.1 22), .ref (ux.1 25), .ref (ux.1 27), .ref (ux.1 24), .ref (ux.1 12), .ref (ux.1 13), .ref (ux.1 14), .ref (ux.1 15), .int 0, .int 0], kb_o (ux.1 16) 1 [.ref (ux.1 17), .int 1], kb_j G o 1 (fun _ => 0)]) (wr := [kb_o y 4 [.int 0, .ref (um.1 0), .int 0, .ref (um.1 1), .int 0, .ref (um.1 2), .ref (um.1 3), .ref (um.1 4), .ref (um.1 5), .ref (um.1 6), .ref (um.1 7), .ref (um.1 8), .ref (um.1 9), .ref (um.1 10), .ref (um.1 11), .ref (um.1 12), .int 0, .int 0, .int 0, .int 0, .int 0], kb_a G (um.1 2) 2 (upd (fun _ => 0) 0 1)]) hE hP hD hS [0, 2, 1, 5] [3, 4] rfl rfl (by decide) (by decide) (kb_rH (As := [.ref x, .int (xs 1), .ref o]) (rest := []) (wc := [kb_o x 3 [.ref (ux.1 0), .ref (ux.1 2), .ref (ux.1 4), .ref (ux.1 5), .ref (ux.1 30)], kb_o (ux.1 5) 2 [.ref (ux.1 29), .ref (ux.1 16), .ref (ux.1 18), .ref (ux.1 20), .ref (ux.1 22), .ref (ux.1 25), .ref (ux.1 27), .ref (ux.1 24), .ref (ux.1 12), .ref (ux.1 13), .ref (ux.1 14), .ref (ux.1 15), .int 0, .int 0], kb_o (ux.1 16) 1 [.ref (ux.1 17), .int 1], kb_j G o 1 (fun _ => 0)]) ⟨hx, hb, hml, hown, ht⟩ (c_L_seekX l hst G x (ux.1 0) (ux.1 2) (ux.1 4) (ux.1 5) (ux.1 30) (ux.1 29) (ux.1 16) (ux.1 18) (ux.1 20) (ux.1 22) (ux.1 25) (ux.1 27) (ux.1 24) (ux.1 12) (ux.1 13) (ux.1 14) (ux.1 15) 0 0 (ux.1 17) (xs 1) o h1) wd_77509fde wd_e4ece85a wd_19368e2d wd_7d243915 hd_9c62de18 ⟨(Nat.le_of_ble_eq_true rfl), (Nat.le_of_ble_eq_true rfl)⟩ hE hP hD hS [0, 2, 1, 5] rfl (by decide) hl.1 rfl (Nat.le_of_ble_eq_true rfl) d_L_law_892 ⟨(Nat.le_of_ble_eq_true rfl), (Nat.le_of_ble_eq_true rfl)⟩) (fun rv2 uu1 H locs hw hP hD hS => ?_)
  have hP : va_P G.1 kb_cl [kb_o y 4 [.int 0, .ref (um.1 0), .int 0, .ref (um.1 1), .int 0, .ref (um.1 2), .ref (um.1 3), .ref (um.1 4), .ref (um.1 5), .ref (um.1 6), .ref (um.1 7), .ref (um.1 8), .ref (um.1 9), .ref (um.1 10), .ref (um.1 11), .ref (um.1 12), .int 0, .int 0, .int 0, .int 0, .int 0], kb_a G (um.1 2) 2 (upd (fun _ => 0) 0 1), kb_j G o 1 (fun _ => 0)] H := hP
  have hD : va_D A [kb_o y 4 [.int 0, .ref (um.1 0), .int 0, .ref (um.1 1), .int 0, .ref (um.1 2), .ref (um.1 3), .ref (um.1 4), .ref (um.1 5), .ref (um.1 6), .ref (um.1 7), .ref (um.1 8), .ref (um.1 9), .ref (um.1 10), .ref (um.1 11), .ref (um.1 12), .int 0, .int 0, .int 0, .int 0, .int 0], kb_a G (um.1 2) 2 (upd (fun _ => 0) 0 1), kb_j G o 1 (fun _ => 0)] := hD
  refine kb_top (y := 1) (show rv2 = 1 from hw) ?_
  refine lv_istore (lv' := [(5, .int 1), (4, .int 0), (3, .ref o), (2, .ref y), (1, .ref x), (0, .ref b)]) hx hb d_L_law_895 hl (by decide) rfl (fun ls hl => ?_)
  refine lv_aload_n hx hb d_L_law_897 rfl (lv_at hl 3 rfl) ?_
  refine lv_aload_n hx hb d_L_law_898 rfl (lv_at hl 5 rfl) ?_
  refine lv_iload hx hb d_L_law_899 (lv_at hl 1 rfl) ?_
  refine lv_iconst (v := 1) hx hb d_L_law_901 (by decide) ?_
  refine lv_iadd hx hb d_L_law_902 ?_
  refine kb_top (y := 1) (by decide) ?_
  refine va_sld hx hb hX hbl hbA hS (show ¬ ((1 : Int32) < 0 ∨ 6 ≤ (1 : Int32).toNatClampNeg) by decide) d_L_law_903 ?_
  refine kb_top (y := xs 1) rfl ?_
  refine kb_i (wc := [kb_o y 4 [.int 0, .ref (um.1 0), .int 0, .ref (um.1 1), .int 0, .ref (um.1 2), .ref (um.1 3), .ref (um.1 4), .ref (um.1 5), .ref (um.1 6), .ref (um.1 7), .ref (um.1 8), .ref (um.1 9), .ref (um.1 10), .ref (um.1 11), .ref (um.1 12), .int 0, .int 0, .int 0, .int 0, .int 0], kb_a G (um.1 2) 2 (upd (fun _ => 0) 0 1)]) (wr := [kb_j G o 1 (fun _ => 0)]) hE hP hD hS [0, 1] [2] rfl rfl (by decide) (by decide) (kb_rV (As := [.int (xs 1)]) (rest := []) (wc := [kb_o y 4 [.int 0, .ref (um.1 0), .int 0, .ref (um.1 1), .int 0, .ref (um.1 2), .ref (um.1 3), .ref (um.1 4), .ref (um.1 5), .ref (um.1 6), .ref (um.1 7), .ref (um.1 8), .ref (um.1 9), .ref (um.1 10), .ref (um.1 11), .ref (um.1 12), .int 0, .int 0, .int 0, .int 0, .int 0], kb_a G (um.1 2) 2 (upd (fun _ => 0) 0 1)]) (q0 := 0) ⟨hx, hb, hml, hown, ht⟩ ((c_M_seekX l G y 0 (um.1 0) (um.1 1) (um.1 2) (um.1 3) (um.1 4) (um.1 5) (um.1 6) (um.1 7) (um.1 8) (um.1 9) (um.1 10) (um.1 11) (um.1 12) (xs 1) h1) _) (kb_gV wd_2c164b14 wd_de837b1a wd_ca401616 wd_38099713 wd_a04dd5d8) ⟨rfl, hd_1cda2180⟩ ⟨(Nat.le_of_ble_eq_true rfl), (Nat.le_of_ble_eq_true rfl)⟩ hE hP hD hS [0, 1] rfl (by decide) rfl rfl rfl hl.1 rfl (Nat.le_of_ble_eq_true rfl) d_L_law_904 ⟨(Nat.le_of_ble_eq_true rfl), (Nat.le_of_ble_eq_true rfl)⟩) (fun rv4 uu3 H locs hw hP hD hS => ?_)
  have hP : va_P G.1 kb_cl [kb_j G o 1 (fun _ => 0), kb_o y 4 [.int 1, .ref (um.1 0), .int 0, .ref (um.1 1), .int 0, .ref (um.1 2), .ref (um.1 3), .ref (um.1 4), .ref (um.1 5), .ref (um.1 6), .ref (um.1 7), .ref (um.1 8), .ref (um.1 9), .ref (um.1 10), .ref (um.1 11), .ref (um.1 12), .int 0, .int 0, .int 0, .int 0, .int 0]] H := hP
  have hD : va_D A [kb_j G o 1 (fun _ => 0), kb_o y 4 [.int 1, .ref (um.1 0), .int 0, .ref (um.1 1), .int 0, .ref (um.1 2), .ref (um.1 3), .ref (um.1 4), .ref (um.1 5), .ref (um.1 6), .ref (um.1 7), .ref (um.1 8), .ref (um.1 9), .ref (um.1 10), .ref (um.1 11), .ref (um.1 12), .int 0, .int 0, .int 0, .int 0, .int 0]] := hD
  refine kb_top (y := 0) (show rv4 = 0 from hw) ?_
  refine lv_istore (lv' := [(6, .int 0), (5, .int 1), (4, .int 0), (3, .ref o), (2, .ref y), (1, .ref x), (0, .ref b)]) hx hb d_L_law_907 hl (by decide) rfl (fun ls hl => ?_)
  refine lv_aload_n hx hb d_L_law_909 rfl (lv_at hl 4 rfl) ?_
  refine kb_i (wc := [kb_o y 4 [.int 1, .ref (um.1 0), .int 0, .ref (um.1 1), .int 0, .ref (um.1 2), .ref (um.1 3), .ref (um.1 4), .ref (um.1 5), .ref (um.1 6), .ref (um.1 7), .ref (um.1 8), .ref (um.1 9), .ref (um.1 10), .ref (um.1 11), .ref (um.1 12), .int 0, .int 0, .int 0, .int 0, .int 0]]) (wr := [kb_j G o 1 (fun _ => 0)]) hE hP hD hS [1] [0] rfl rfl (by decide) (by decide) (kb_rV (As := []) (rest := []) (wc := [kb_o y 4 [.int 1, .ref (um.1 0), .int 0, .ref (um.1 1), .int 0, .ref (um.1 2), .ref (um.1 3), .ref (um.1 4), .ref (um.1 5), .ref (um.1 6), .ref (um.1 7), .ref (um.1 8), .ref (um.1 9), .ref (um.1 10), .ref (um.1 11), .ref (um.1 12), .int 0, .int 0, .int 0, .int 0, .int 0]]) (q0 := 0) ⟨hx, hb, hml, hown, ht⟩ ((c_M_thrown l G y 1 (um.1 0) (um.1 1) (um.1 2) (um.1 3) (um.1 4) (um.1 5) (um.1 6) (um.1 7) (um.1 8) (um.1 9) (um.1 10) (um.1 11) (um.1 12) 0 0 0 0) _) (kb_gV wd_1946a056 wd_e9c50365 wd_a707e5a8 wd_38099713 wd_79f18ba3) ⟨rfl, hd_2a236ec3⟩ ⟨(Nat.le_of_ble_eq_true rfl), (Nat.le_of_ble_eq_true rfl)⟩ hE hP hD hS [1] rfl (by decide) rfl rfl rfl hl.1 rfl (Nat.le_of_ble_eq_true rfl) d_L_law_910 ⟨(Nat.le_of_ble_eq_true rfl), (Nat.le_of_ble_eq_true rfl)⟩) (fun rv6 uu5 H locs hw hP hD hS => ?_)
  have hP : va_P G.1 kb_cl [kb_j G o 1 (fun _ => 0), kb_o y 4 [.int 1, .ref (um.1 0), .int 0, .ref (um.1 1), .int 0, .ref (um.1 2), .ref (um.1 3), .ref (um.1 4), .ref (um.1 5), .ref (um.1 6), .ref (um.1 7), .ref (um.1 8), .ref (um.1 9), .ref (um.1 10), .ref (um.1 11), .ref (um.1 12), .int 0, .int 0, .int 0, .int 0, .int 0]] H := hP
  have hD : va_D A [kb_j G o 1 (fun _ => 0), kb_o y 4 [.int 1, .ref (um.1 0), .int 0, .ref (um.1 1), .int 0, .ref (um.1 2), .ref (um.1 3), .ref (um.1 4), .ref (um.1 5), .ref (um.1 6), .ref (um.1 7), .ref (um.1 8), .ref (um.1 9), .ref (um.1 10), .ref (um.1 11), .ref (um.1 12), .int 0, .int 0, .int 0, .int 0, .int 0]] := hD
  refine kb_top (y := 1) (show rv6 = 1 from hw) ?_
  refine lv_iload hx hb d_L_law_913 (lv_at hl 1 rfl) ?_
  refine lv_icmp_eq (tgt := 920) hx hb d_L_law_915 (by decide) (fun c9 => ?_) (fun c9 => absurd (by decide) c9)
  refine lv_iload hx hb d_L_law_920 (lv_at hl 1 rfl) ?_
  refine lv_if_ne (tgt := 937) hx hb d_L_law_922 (by decide) (fun c9 => ?_) (fun c9 => absurd c9 (by decide))
  refine lv_goto (tgt := 940) hx hb d_L_law_937 (by decide) ?_
  refine lv_iinc (v := 6) (lv' := [(4, .int 6), (6, .int 0), (5, .int 1), (3, .ref o), (2, .ref y), (1, .ref x), (0, .ref b)]) hx hb d_L_law_940 hl (k := 2) rfl (by decide) (by decide) rfl (fun ls hl => ?_)
  refine lv_goto (tgt := 23) hx hb d_L_law_943 (by decide) ?_
  refine lv_iload hx hb d_L_law_23 (lv_at hl 0 rfl) ?_
  refine lv_aload_n hx hb d_L_law_25 rfl (lv_at hl 6 rfl) ?_
  refine va_slen hx hb hX hbl hbA hS d_L_law_26 ?_
  refine kb_top (y := 6) (by decide) ?_
  refine lv_bipush (v := 6) hx hb d_L_law_27 (by decide) ?_
  refine lv_isub hx hb d_L_law_29 ?_
  refine kb_top (y := 0) (by decide) ?_
  refine lv_icmp_gt (tgt := 946) hx hb d_L_law_30 (by decide) (fun c9 => ?_) (fun c9 => absurd (by decide) c9)
  refine lv_iconst (v := 1) hx hb d_L_law_946 (by decide) ?_
  refine va_forget (fun q hq => hAq _ (hS.2.2 q hq)) ?_
  refine W.widen (k := 600002) (n := 7302232) (Nat.le_of_ble_eq_true rfl) (Nat.le_of_ble_eq_true rfl) ?_
  exact lw_ret hx hb hr hlocks d_L_law_947

set_option maxHeartbeats 4000000 in
set_option maxRecDepth 100000 in
theorem lc_none {p : Program} {l : Launch} {e : Env} {s : State} {m : MethodId} {below : List Frame} {meth : Method} {c : Code} (hst : l.stackTraces = false) {G : kb_G} {A : Nat → Prop} {b : Nat} {xs : Nat → Int32} (C0 : lw_At p s m meth c b 6 xs) (hE : kb_E G A s) (hbA : ¬ A b) (hAq : ∀ q, A q → s.heap.size ≤ q) (x y o : Nat) (ux um : kb_S) {H : Heap} {locs : List Loc} (hP : va_P G.1 kb_cl (lc_w0 G x y o ux um) H) (hD : va_D A (lc_w0 G x y o ux um)) (hS : va_S A s.heap H locs) {ls : Array Slot} (hl : lv_has ls 7 [(4, .int 0), (3, .ref o), (2, .ref y), (1, .ref x), (0, .ref b)]) (hk : (xs 0 &&& 31).toInt < 0 ∨ 17 < (xs 0 &&& 31).toInt) : W p l e room_1 s m #[Value.ref b] below meth c H locs 71 169237 (lw_Z below #[Value.ref b] s) (F0 m 23 ls []) := by
  obtain ⟨hx, hb, hr, hml, hown, hts, hX, hbl, hlocks, hgv⟩ := C0
  have hown : s.vm.findClass "TreePressLaw" = some m.cls := hown
  have ht : ∀ w ∈ kb_T, w.before #[Value.ref b] s = true := fun w h => hts w (List.mem_filter.mp h).1
  have hP : va_P G.1 kb_cl [] H := hP.sub [] rfl
  have hD : va_D A [] := hD.sub [] (by decide) rfl
  refine lv_iload hx hb d_L_law_23 (lv_at hl 0 rfl) ?_
  refine lv_aload_n hx hb d_L_law_25 rfl (lv_at hl 4 rfl) ?_
  refine va_slen hx hb hX hbl hbA hS d_L_law_26 ?_
  refine kb_top (y := 6) (by decide) ?_
  refine lv_bipush (v := 6) hx hb d_L_law_27 (by decide) ?_
  refine lv_isub hx hb d_L_law_29 ?_
  refine kb_top (y := 0) (by decide) ?_
  refine lv_icmp_gt (tgt := 946) hx hb d_L_law_30 (by decide) (fun c9 => absurd c9 (by decide)) (fun c9 => ?_)
  refine lv_aload_n hx hb d_L_law_33 rfl (lv_at hl 4 rfl) ?_
  refine lv_iload hx hb d_L_law_34 (lv_at hl 0 rfl) ?_
  refine va_sld hx hb hX hbl hbA hS (show ¬ ((0 : Int32) < 0 ∨ 6 ≤ (0 : Int32).toNatClampNeg) by decide) d_L_law_36 ?_
  refine kb_top (y := xs 0) rfl ?_
  refine lv_bipush (v := 31) hx hb d_L_law_37 (by decide) ?_
  refine lv_iand hx hb d_L_law_39 ?_
  refine kb_top (y := xs 0 &&& 31) (rfl) ?_
  refine lv_tableOut (tgt := 940) hx hb d_L_law_40 hk (by decide) ?_
  refine lv_iinc (v := 6) (lv' := [(4, .int 6), (3, .ref o), (2, .ref y), (1, .ref x), (0, .ref b)]) hx hb d_L_law_940 hl (k := 0) rfl (by decide) (by decide) rfl (fun ls hl => ?_)
  refine lv_goto (tgt := 23) hx hb d_L_law_943 (by decide) ?_
  refine lv_iload hx hb d_L_law_23 (lv_at hl 0 rfl) ?_
  refine lv_aload_n hx hb d_L_law_25 rfl (lv_at hl 4 rfl) ?_
  refine va_slen hx hb hX hbl hbA hS d_L_law_26 ?_
  refine kb_top (y := 6) (by decide) ?_
  refine lv_bipush (v := 6) hx hb d_L_law_27 (by decide) ?_
  refine lv_isub hx hb d_L_law_29 ?_
  refine kb_top (y := 0) (by decide) ?_
  refine lv_icmp_gt (tgt := 946) hx hb d_L_law_30 (by decide) (fun c9 => ?_) (fun c9 => absurd (by decide) c9)
  refine lv_iconst (v := 1) hx hb d_L_law_946 (by decide) ?_
  refine va_forget (fun q hq => hAq _ (hS.2.2 q hq)) ?_
  refine W.widen (k := 600002) (n := 7302232) (Nat.le_of_ble_eq_true rfl) (Nat.le_of_ble_eq_true rfl) ?_
  exact lw_ret hx hb hr hlocks d_L_law_947
