theorem wd_a4e7125a : (Jvm.Cond.methodLink "TreePressLaw" (7 : Nat) ({ cls := "TreePress", name := "feed", desc := "(IIIII)I" } : Jvm.MethodName)) ∈ kb_T := kb_t2 165 (by decide +kernel) (by decide +kernel)
theorem wd_7768c2ff : (Jvm.Cond.instanceMethod ({ cls := "TreePress", name := "feed", desc := "(IIIII)I" } : Jvm.MethodName)) ∈ kb_T := kb_t2 166 (by decide +kernel) (by decide +kernel)
theorem wd_5a960aec : (Jvm.Cond.selects "TreePress" ({ cls := "TreePress", name := "feed", desc := "(IIIII)I" } : Jvm.MethodName) ({ cls := "TreePress", name := "feed", desc := "(IIIII)I" } : Jvm.MethodName)) ∈ kb_T := kb_t2 167 (by decide +kernel) (by decide +kernel)
theorem wd_39c1aec2 : (Jvm.Cond.code ({ cls := "TreePress", name := "feed", desc := "(IIIII)I" } : Jvm.MethodName) prog_1_method_2_code (6 : Nat) (Option.some Jvm.ClassFile.FieldType.int)) ∈ kb_T := kb_t2 168 (by decide +kernel) (by decide +kernel)
theorem hd_d3a9cbfb : (⟨"TreePress", "feed", "(IIIII)I"⟩ : MethodName).cls ≠ "java/lang/invoke/MethodHandle" ∧ (⟨"TreePress", "feed", "(IIIII)I"⟩ : MethodName).cls ≠ "java/lang/invoke/VarHandle" ∧ (parseMethodDescriptor (⟨"TreePress", "feed", "(IIIII)I"⟩ : MethodName).desc).map (fun d => d.parameters.length) = some 5 := by decide +kernel
theorem wd_58d85f6a : (Jvm.Cond.methodLink "TreePressLaw" (15 : Nat) ({ cls := "TreePress", name := "end", desc := "(I)V" } : Jvm.MethodName)) ∈ kb_T := kb_t3 3 (by decide +kernel) (by decide +kernel)
theorem wd_9ad61791 : (Jvm.Cond.instanceMethod ({ cls := "TreePress", name := "end", desc := "(I)V" } : Jvm.MethodName)) ∈ kb_T := kb_t3 4 (by decide +kernel) (by decide +kernel)
theorem wd_57ea40cb : (Jvm.Cond.selects "TreePress" ({ cls := "TreePress", name := "end", desc := "(I)V" } : Jvm.MethodName) ({ cls := "TreePress", name := "end", desc := "(I)V" } : Jvm.MethodName)) ∈ kb_T := kb_t3 5 (by decide +kernel) (by decide +kernel)
theorem wd_164d62a1 : (Jvm.Cond.code ({ cls := "TreePress", name := "end", desc := "(I)V" } : Jvm.MethodName) prog_1_method_3_code (2 : Nat) (Option.none : Option Jvm.ClassFile.FieldType)) ∈ kb_T := kb_t3 6 (by decide +kernel) (by decide +kernel)
theorem hd_156fecb9 : (⟨"TreePress", "end", "(I)V"⟩ : MethodName).cls ≠ "java/lang/invoke/MethodHandle" ∧ (⟨"TreePress", "end", "(I)V"⟩ : MethodName).cls ≠ "java/lang/invoke/VarHandle" ∧ (parseMethodDescriptor (⟨"TreePress", "end", "(I)V"⟩ : MethodName).desc).map (fun d => d.parameters.length) = some 1 := by decide +kernel
theorem wd_2071fac9 : (Jvm.Cond.classLink "TreePressLaw" (19 : Nat) "java/lang/IllegalArgumentException") ∈ kb_T := kb_t3 2 (by decide +kernel) (by decide +kernel)
theorem wd_73325869 : (Jvm.Cond.methodLink "TreePressLaw" (21 : Nat) ({ cls := "TreePress", name := "open", desc := "()I" } : Jvm.MethodName)) ∈ kb_T := kb_t3 26 (by decide +kernel) (by decide +kernel)
theorem wd_83e13eef : (Jvm.Cond.instanceMethod ({ cls := "TreePress", name := "open", desc := "()I" } : Jvm.MethodName)) ∈ kb_T := kb_t3 27 (by decide +kernel) (by decide +kernel)
theorem wd_67597aee : (Jvm.Cond.selects "TreePress" ({ cls := "TreePress", name := "open", desc := "()I" } : Jvm.MethodName) ({ cls := "TreePress", name := "open", desc := "()I" } : Jvm.MethodName)) ∈ kb_T := kb_t3 28 (by decide +kernel) (by decide +kernel)
theorem wd_1ad5c044 : (Jvm.Cond.code ({ cls := "TreePress", name := "open", desc := "()I" } : Jvm.MethodName) prog_1_method_5_code (3 : Nat) (Option.some Jvm.ClassFile.FieldType.int)) ∈ kb_T := kb_t3 29 (by decide +kernel) (by decide +kernel)
theorem hd_3a460028 : (⟨"TreePress", "open", "()I"⟩ : MethodName).cls ≠ "java/lang/invoke/MethodHandle" ∧ (⟨"TreePress", "open", "()I"⟩ : MethodName).cls ≠ "java/lang/invoke/VarHandle" ∧ (parseMethodDescriptor (⟨"TreePress", "open", "()I"⟩ : MethodName).desc).map (fun d => d.parameters.length) = some 0 := by decide +kernel
theorem wd_2d4d5805 : (Jvm.Cond.methodLink "TreePressLaw" (25 : Nat) ({ cls := "TreePress", name := "property", desc := "(I)I" } : Jvm.MethodName)) ∈ kb_T := kb_t3 43 (by decide +kernel) (by decide +kernel)
theorem wd_faa01b7f : (Jvm.Cond.instanceMethod ({ cls := "TreePress", name := "property", desc := "(I)I" } : Jvm.MethodName)) ∈ kb_T := kb_t3 44 (by decide +kernel) (by decide +kernel)
theorem wd_ad6d6f83 : (Jvm.Cond.selects "TreePress" ({ cls := "TreePress", name := "property", desc := "(I)I" } : Jvm.MethodName) ({ cls := "TreePress", name := "property", desc := "(I)I" } : Jvm.MethodName)) ∈ kb_T := kb_t3 45 (by decide +kernel) (by decide +kernel)
theorem wd_1a7a8784 : (Jvm.Cond.code ({ cls := "TreePress", name := "property", desc := "(I)I" } : Jvm.MethodName) prog_1_method_6_code (4 : Nat) (Option.some Jvm.ClassFile.FieldType.int)) ∈ kb_T := kb_t3 46 (by decide +kernel) (by decide +kernel)
theorem hd_fbd3203f : (⟨"TreePress", "property", "(I)I"⟩ : MethodName).cls ≠ "java/lang/invoke/MethodHandle" ∧ (⟨"TreePress", "property", "(I)I"⟩ : MethodName).cls ≠ "java/lang/invoke/VarHandle" ∧ (parseMethodDescriptor (⟨"TreePress", "property", "(I)I"⟩ : MethodName).desc).map (fun d => d.parameters.length) = some 1 := by decide +kernel
theorem wd_37c0bae5 : (Jvm.Cond.methodLink "TreePressLaw" (29 : Nat) ({ cls := "TreePress", name := "close", desc := "()I" } : Jvm.MethodName)) ∈ kb_T := kb_t3 55 (by decide +kernel) (by decide +kernel)
theorem wd_cfd1d81e : (Jvm.Cond.instanceMethod ({ cls := "TreePress", name := "close", desc := "()I" } : Jvm.MethodName)) ∈ kb_T := kb_t3 56 (by decide +kernel) (by decide +kernel)
theorem wd_c88202bd : (Jvm.Cond.selects "TreePress" ({ cls := "TreePress", name := "close", desc := "()I" } : Jvm.MethodName) ({ cls := "TreePress", name := "close", desc := "()I" } : Jvm.MethodName)) ∈ kb_T := kb_t3 57 (by decide +kernel) (by decide +kernel)
theorem wd_5733cb2f : (Jvm.Cond.code ({ cls := "TreePress", name := "close", desc := "()I" } : Jvm.MethodName) prog_1_method_7_code (1 : Nat) (Option.some Jvm.ClassFile.FieldType.int)) ∈ kb_T := kb_t3 58 (by decide +kernel) (by decide +kernel)
theorem hd_d3e8f9e4 : (⟨"TreePress", "close", "()I"⟩ : MethodName).cls ≠ "java/lang/invoke/MethodHandle" ∧ (⟨"TreePress", "close", "()I"⟩ : MethodName).cls ≠ "java/lang/invoke/VarHandle" ∧ (parseMethodDescriptor (⟨"TreePress", "close", "()I"⟩ : MethodName).desc).map (fun d => d.parameters.length) = some 0 := by decide +kernel
theorem wd_a97a52af : (Jvm.Cond.methodLink "TreePressLaw" (32 : Nat) ({ cls := "TreePress", name := "laid", desc := "(I)I" } : Jvm.MethodName)) ∈ kb_T := kb_t3 69 (by decide +kernel) (by decide +kernel)
theorem wd_bb7cc64c : (Jvm.Cond.instanceMethod ({ cls := "TreePress", name := "laid", desc := "(I)I" } : Jvm.MethodName)) ∈ kb_T := kb_t3 70 (by decide +kernel) (by decide +kernel)
theorem wd_49af1481 : (Jvm.Cond.selects "TreePress" ({ cls := "TreePress", name := "laid", desc := "(I)I" } : Jvm.MethodName) ({ cls := "TreePress", name := "laid", desc := "(I)I" } : Jvm.MethodName)) ∈ kb_T := kb_t3 71 (by decide +kernel) (by decide +kernel)
theorem wd_b8d4be5b : (Jvm.Cond.code ({ cls := "TreePress", name := "laid", desc := "(I)I" } : Jvm.MethodName) prog_1_method_9_code (2 : Nat) (Option.some Jvm.ClassFile.FieldType.int)) ∈ kb_T := kb_t3 72 (by decide +kernel) (by decide +kernel)
theorem hd_aa63e9bf : (⟨"TreePress", "laid", "(I)I"⟩ : MethodName).cls ≠ "java/lang/invoke/MethodHandle" ∧ (⟨"TreePress", "laid", "(I)I"⟩ : MethodName).cls ≠ "java/lang/invoke/VarHandle" ∧ (parseMethodDescriptor (⟨"TreePress", "laid", "(I)I"⟩ : MethodName).desc).map (fun d => d.parameters.length) = some 1 := by decide +kernel
theorem wd_e765ff14 : (Jvm.Cond.classLink "TreePressLaw" (35 : Nat) "java/lang/IndexOutOfBoundsException") ∈ kb_T := kb_t3 68 (by decide +kernel) (by decide +kernel)
theorem wd_d7066d50 : (Jvm.Cond.methodLink "TreePressLaw" (37 : Nat) ({ cls := "TreePress", name := "node", desc := "(II)I" } : Jvm.MethodName)) ∈ kb_T := kb_t3 93 (by decide +kernel) (by decide +kernel)
theorem wd_b5701010 : (Jvm.Cond.instanceMethod ({ cls := "TreePress", name := "node", desc := "(II)I" } : Jvm.MethodName)) ∈ kb_T := kb_t3 94 (by decide +kernel) (by decide +kernel)
theorem wd_f0dfabfd : (Jvm.Cond.selects "TreePress" ({ cls := "TreePress", name := "node", desc := "(II)I" } : Jvm.MethodName) ({ cls := "TreePress", name := "node", desc := "(II)I" } : Jvm.MethodName)) ∈ kb_T := kb_t3 95 (by decide +kernel) (by decide +kernel)
theorem wd_58645441 : (Jvm.Cond.code ({ cls := "TreePress", name := "node", desc := "(II)I" } : Jvm.MethodName) prog_1_method_13_code (3 : Nat) (Option.some Jvm.ClassFile.FieldType.int)) ∈ kb_T := kb_t3 96 (by decide +kernel) (by decide +kernel)
theorem hd_62a97cca : (⟨"TreePress", "node", "(II)I"⟩ : MethodName).cls ≠ "java/lang/invoke/MethodHandle" ∧ (⟨"TreePress", "node", "(II)I"⟩ : MethodName).cls ≠ "java/lang/invoke/VarHandle" ∧ (parseMethodDescriptor (⟨"TreePress", "node", "(II)I"⟩ : MethodName).desc).map (fun d => d.parameters.length) = some 2 := by decide +kernel
theorem wd_da6da33e : (Jvm.Cond.methodLink "TreePressLaw" (41 : Nat) ({ cls := "TreePress", name := "about", desc := "(II)I" } : Jvm.MethodName)) ∈ kb_T := kb_t3 110 (by decide +kernel) (by decide +kernel)
theorem wd_7a18fc30 : (Jvm.Cond.instanceMethod ({ cls := "TreePress", name := "about", desc := "(II)I" } : Jvm.MethodName)) ∈ kb_T := kb_t3 111 (by decide +kernel) (by decide +kernel)
theorem wd_0b856329 : (Jvm.Cond.selects "TreePress" ({ cls := "TreePress", name := "about", desc := "(II)I" } : Jvm.MethodName) ({ cls := "TreePress", name := "about", desc := "(II)I" } : Jvm.MethodName)) ∈ kb_T := kb_t3 112 (by decide +kernel) (by decide +kernel)
theorem wd_24733453 : (Jvm.Cond.code ({ cls := "TreePress", name := "about", desc := "(II)I" } : Jvm.MethodName) prog_1_method_14_code (3 : Nat) (Option.some Jvm.ClassFile.FieldType.int)) ∈ kb_T := kb_t3 113 (by decide +kernel) (by decide +kernel)
theorem hd_06387d76 : (⟨"TreePress", "about", "(II)I"⟩ : MethodName).cls ≠ "java/lang/invoke/MethodHandle" ∧ (⟨"TreePress", "about", "(II)I"⟩ : MethodName).cls ≠ "java/lang/invoke/VarHandle" ∧ (parseMethodDescriptor (⟨"TreePress", "about", "(II)I"⟩ : MethodName).desc).map (fun d => d.parameters.length) = some 2 := by decide +kernel
theorem wd_eb045e86 : (Jvm.Cond.methodLink "TreePressLaw" (47 : Nat) ({ cls := "TreePress", name := "name", desc := "(II)I" } : Jvm.MethodName)) ∈ kb_T := kb_t3 144 (by decide +kernel) (by decide +kernel)
theorem wd_2420e2e1 : (Jvm.Cond.instanceMethod ({ cls := "TreePress", name := "name", desc := "(II)I" } : Jvm.MethodName)) ∈ kb_T := kb_t3 145 (by decide +kernel) (by decide +kernel)
theorem wd_01386957 : (Jvm.Cond.selects "TreePress" ({ cls := "TreePress", name := "name", desc := "(II)I" } : Jvm.MethodName) ({ cls := "TreePress", name := "name", desc := "(II)I" } : Jvm.MethodName)) ∈ kb_T := kb_t3 146 (by decide +kernel) (by decide +kernel)
theorem wd_d7c1af9c : (Jvm.Cond.code ({ cls := "TreePress", name := "name", desc := "(II)I" } : Jvm.MethodName) prog_1_method_16_code (3 : Nat) (Option.some Jvm.ClassFile.FieldType.int)) ∈ kb_T := kb_t3 147 (by decide +kernel) (by decide +kernel)
theorem hd_fc260672 : (⟨"TreePress", "name", "(II)I"⟩ : MethodName).cls ≠ "java/lang/invoke/MethodHandle" ∧ (⟨"TreePress", "name", "(II)I"⟩ : MethodName).cls ≠ "java/lang/invoke/VarHandle" ∧ (parseMethodDescriptor (⟨"TreePress", "name", "(II)I"⟩ : MethodName).desc).map (fun d => d.parameters.length) = some 2 := by decide +kernel
theorem wd_a7388c06 : (Jvm.Cond.methodLink "TreePressLaw" (50 : Nat) ({ cls := "TreePress", name := "value", desc := "(II)I" } : Jvm.MethodName)) ∈ kb_T := kb_t3 155 (by decide +kernel) (by decide +kernel)
theorem wd_3643fa52 : (Jvm.Cond.instanceMethod ({ cls := "TreePress", name := "value", desc := "(II)I" } : Jvm.MethodName)) ∈ kb_T := kb_t3 156 (by decide +kernel) (by decide +kernel)
theorem wd_0842f01c : (Jvm.Cond.selects "TreePress" ({ cls := "TreePress", name := "value", desc := "(II)I" } : Jvm.MethodName) ({ cls := "TreePress", name := "value", desc := "(II)I" } : Jvm.MethodName)) ∈ kb_T := kb_t3 157 (by decide +kernel) (by decide +kernel)
theorem wd_87ee8a1f : (Jvm.Cond.code ({ cls := "TreePress", name := "value", desc := "(II)I" } : Jvm.MethodName) prog_1_method_17_code (3 : Nat) (Option.some Jvm.ClassFile.FieldType.int)) ∈ kb_T := kb_t3 158 (by decide +kernel) (by decide +kernel)
theorem hd_c52d8bed : (⟨"TreePress", "value", "(II)I"⟩ : MethodName).cls ≠ "java/lang/invoke/MethodHandle" ∧ (⟨"TreePress", "value", "(II)I"⟩ : MethodName).cls ≠ "java/lang/invoke/VarHandle" ∧ (parseMethodDescriptor (⟨"TreePress", "value", "(II)I"⟩ : MethodName).desc).map (fun d => d.parameters.length) = some 2 := by decide +kernel
theorem wd_5b0fccb1 : (Jvm.Cond.methodLink "TreePressLaw" (44 : Nat) ({ cls := "TreePress", name := "nodeName", desc := "(II)I" } : Jvm.MethodName)) ∈ kb_T := kb_t3 129 (by decide +kernel) (by decide +kernel)
theorem wd_51c276bb : (Jvm.Cond.instanceMethod ({ cls := "TreePress", name := "nodeName", desc := "(II)I" } : Jvm.MethodName)) ∈ kb_T := kb_t3 130 (by decide +kernel) (by decide +kernel)
theorem wd_8e3bfe4b : (Jvm.Cond.selects "TreePress" ({ cls := "TreePress", name := "nodeName", desc := "(II)I" } : Jvm.MethodName) ({ cls := "TreePress", name := "nodeName", desc := "(II)I" } : Jvm.MethodName)) ∈ kb_T := kb_t3 131 (by decide +kernel) (by decide +kernel)
theorem wd_e9afbb22 : (Jvm.Cond.code ({ cls := "TreePress", name := "nodeName", desc := "(II)I" } : Jvm.MethodName) prog_1_method_15_code (3 : Nat) (Option.some Jvm.ClassFile.FieldType.int)) ∈ kb_T := kb_t3 132 (by decide +kernel) (by decide +kernel)
theorem hd_6cdec4e4 : (⟨"TreePress", "nodeName", "(II)I"⟩ : MethodName).cls ≠ "java/lang/invoke/MethodHandle" ∧ (⟨"TreePress", "nodeName", "(II)I"⟩ : MethodName).cls ≠ "java/lang/invoke/VarHandle" ∧ (parseMethodDescriptor (⟨"TreePress", "nodeName", "(II)I"⟩ : MethodName).desc).map (fun d => d.parameters.length) = some 2 := by decide +kernel
theorem wd_cee75699 : (Jvm.Cond.methodLink "TreePressLaw" (53 : Nat) ({ cls := "TreePress", name := "seek", desc := "(I)I" } : Jvm.MethodName)) ∈ kb_T := kb_t3 166 (by decide +kernel) (by decide +kernel)
theorem wd_91a0fcc3 : (Jvm.Cond.instanceMethod ({ cls := "TreePress", name := "seek", desc := "(I)I" } : Jvm.MethodName)) ∈ kb_T := kb_t3 167 (by decide +kernel) (by decide +kernel)
theorem wd_5f611fbe : (Jvm.Cond.selects "TreePress" ({ cls := "TreePress", name := "seek", desc := "(I)I" } : Jvm.MethodName) ({ cls := "TreePress", name := "seek", desc := "(I)I" } : Jvm.MethodName)) ∈ kb_T := kb_t3 168 (by decide +kernel) (by decide +kernel)
theorem wd_4f57e898 : (Jvm.Cond.code ({ cls := "TreePress", name := "seek", desc := "(I)I" } : Jvm.MethodName) prog_1_method_19_code (3 : Nat) (Option.some Jvm.ClassFile.FieldType.int)) ∈ kb_T := kb_t3 169 (by decide +kernel) (by decide +kernel)
theorem hd_6acebe26 : (⟨"TreePress", "seek", "(I)I"⟩ : MethodName).cls ≠ "java/lang/invoke/MethodHandle" ∧ (⟨"TreePress", "seek", "(I)I"⟩ : MethodName).cls ≠ "java/lang/invoke/VarHandle" ∧ (parseMethodDescriptor (⟨"TreePress", "seek", "(I)I"⟩ : MethodName).desc).map (fun d => d.parameters.length) = some 1 := by decide +kernel
theorem d_L_feed_0 : decode method_3_code 0 = .ok (.aload 6, 2) := by decide +kernel
theorem d_L_feed_2 : decode method_3_code 2 = .ok (.iconst 0, 1) := by decide +kernel
theorem d_L_feed_3 : decode method_3_code 3 = .ok (.aload_n 0, 1) := by decide +kernel
theorem d_L_feed_4 : decode method_3_code 4 = .ok (.iload_n 1, 1) := by decide +kernel
theorem d_L_feed_5 : decode method_3_code 5 = .ok (.iload_n 2, 1) := by decide +kernel
theorem d_L_feed_6 : decode method_3_code 6 = .ok (.iload_n 3, 1) := by decide +kernel
theorem d_L_feed_7 : decode method_3_code 7 = .ok (.iload 4, 2) := by decide +kernel
theorem d_L_feed_9 : decode method_3_code 9 = .ok (.iload 5, 2) := by decide +kernel
theorem d_L_feed_11 : decode method_3_code 11 = .ok (.invokevirtual 7, 3) := by decide +kernel
theorem d_L_feed_14 : decode method_3_code 14 = .ok (.i2l, 1) := by decide +kernel
theorem d_L_feed_15 : decode method_3_code 15 = .ok (.lastore, 1) := by decide +kernel
theorem d_L_feed_16 : decode method_3_code 16 = .ok (.goto 7, 3) := by decide +kernel
theorem d_L_feed_23 : decode method_3_code 23 = .ok (.iconst 0, 1) := by decide +kernel
theorem d_L_feed_24 : decode method_3_code 24 = .ok (.ireturn, 1) := by decide +kernel
theorem d_L_end_0 : decode method_4_code 0 = .ok (.aload_n 0, 1) := by decide +kernel
theorem d_L_end_1 : decode method_4_code 1 = .ok (.iload_n 1, 1) := by decide +kernel
theorem d_L_end_2 : decode method_4_code 2 = .ok (.invokevirtual 15, 3) := by decide +kernel
theorem d_L_end_5 : decode method_4_code 5 = .ok (.goto 6, 3) := by decide +kernel
theorem d_L_end_11 : decode method_4_code 11 = .ok (.iconst 0, 1) := by decide +kernel
theorem d_L_end_12 : decode method_4_code 12 = .ok (.ireturn, 1) := by decide +kernel
theorem d_L_end_8 : decode method_4_code 8 = .ok (.astore_n 2, 1) := by decide +kernel
theorem d_L_end_9 : decode method_4_code 9 = .ok (.iconst 1, 1) := by decide +kernel
theorem d_L_end_10 : decode method_4_code 10 = .ok (.ireturn, 1) := by decide +kernel
theorem d_L_open_0 : decode method_5_code 0 = .ok (.aload_n 1, 1) := by decide +kernel
theorem d_L_open_1 : decode method_5_code 1 = .ok (.iconst 0, 1) := by decide +kernel
theorem d_L_open_2 : decode method_5_code 2 = .ok (.aload_n 0, 1) := by decide +kernel
theorem d_L_open_3 : decode method_5_code 3 = .ok (.invokevirtual 21, 3) := by decide +kernel
theorem d_L_open_11 : decode method_5_code 11 = .ok (.astore_n 2, 1) := by decide +kernel
theorem d_L_open_12 : decode method_5_code 12 = .ok (.iconst 1, 1) := by decide +kernel
theorem d_L_open_13 : decode method_5_code 13 = .ok (.ireturn, 1) := by decide +kernel
theorem d_L_property_0 : decode method_6_code 0 = .ok (.aload_n 2, 1) := by decide +kernel
theorem d_L_property_1 : decode method_6_code 1 = .ok (.iconst 0, 1) := by decide +kernel
theorem d_L_property_2 : decode method_6_code 2 = .ok (.aload_n 0, 1) := by decide +kernel
theorem d_L_property_3 : decode method_6_code 3 = .ok (.iload_n 1, 1) := by decide +kernel
theorem d_L_property_4 : decode method_6_code 4 = .ok (.invokevirtual 25, 3) := by decide +kernel
theorem d_L_property_12 : decode method_6_code 12 = .ok (.astore_n 3, 1) := by decide +kernel
theorem d_L_property_13 : decode method_6_code 13 = .ok (.iconst 1, 1) := by decide +kernel
theorem d_L_property_14 : decode method_6_code 14 = .ok (.ireturn, 1) := by decide +kernel
theorem d_L_close_0 : decode method_7_code 0 = .ok (.aload_n 1, 1) := by decide +kernel
theorem d_L_close_1 : decode method_7_code 1 = .ok (.iconst 0, 1) := by decide +kernel
theorem d_L_close_2 : decode method_7_code 2 = .ok (.aload_n 0, 1) := by decide +kernel
theorem d_L_close_3 : decode method_7_code 3 = .ok (.invokevirtual 29, 3) := by decide +kernel
theorem d_L_close_11 : decode method_7_code 11 = .ok (.astore_n 2, 1) := by decide +kernel
theorem d_L_close_12 : decode method_7_code 12 = .ok (.iconst 1, 1) := by decide +kernel
theorem d_L_close_13 : decode method_7_code 13 = .ok (.ireturn, 1) := by decide +kernel
theorem d_L_laid_0 : decode method_8_code 0 = .ok (.aload_n 2, 1) := by decide +kernel
theorem d_L_laid_1 : decode method_8_code 1 = .ok (.iconst 0, 1) := by decide +kernel
theorem d_L_laid_2 : decode method_8_code 2 = .ok (.aload_n 0, 1) := by decide +kernel
theorem d_L_laid_3 : decode method_8_code 3 = .ok (.iload_n 1, 1) := by decide +kernel
theorem d_L_laid_4 : decode method_8_code 4 = .ok (.invokevirtual 32, 3) := by decide +kernel
theorem d_L_laid_12 : decode method_8_code 12 = .ok (.astore_n 3, 1) := by decide +kernel
theorem d_L_laid_13 : decode method_8_code 13 = .ok (.iconst 1, 1) := by decide +kernel
theorem d_L_laid_14 : decode method_8_code 14 = .ok (.ireturn, 1) := by decide +kernel
theorem d_L_node_0 : decode method_9_code 0 = .ok (.aload_n 3, 1) := by decide +kernel
theorem d_L_node_1 : decode method_9_code 1 = .ok (.iconst 0, 1) := by decide +kernel
theorem d_L_node_2 : decode method_9_code 2 = .ok (.aload_n 0, 1) := by decide +kernel
theorem d_L_node_3 : decode method_9_code 3 = .ok (.iload_n 1, 1) := by decide +kernel
theorem d_L_node_4 : decode method_9_code 4 = .ok (.iload_n 2, 1) := by decide +kernel
theorem d_L_node_5 : decode method_9_code 5 = .ok (.invokevirtual 37, 3) := by decide +kernel
theorem d_L_node_8 : decode method_9_code 8 = .ok (.i2l, 1) := by decide +kernel
theorem d_L_node_9 : decode method_9_code 9 = .ok (.lastore, 1) := by decide +kernel
theorem d_L_node_10 : decode method_9_code 10 = .ok (.goto 11, 3) := by decide +kernel
theorem d_L_node_21 : decode method_9_code 21 = .ok (.iconst 0, 1) := by decide +kernel
theorem d_L_node_22 : decode method_9_code 22 = .ok (.ireturn, 1) := by decide +kernel
theorem d_L_node_13 : decode method_9_code 13 = .ok (.astore 4, 2) := by decide +kernel
theorem d_L_node_15 : decode method_9_code 15 = .ok (.iconst 1, 1) := by decide +kernel
theorem d_L_node_16 : decode method_9_code 16 = .ok (.ireturn, 1) := by decide +kernel
theorem d_L_node_17 : decode method_9_code 17 = .ok (.astore 4, 2) := by decide +kernel
theorem d_L_node_19 : decode method_9_code 19 = .ok (.iconst 2, 1) := by decide +kernel
theorem d_L_node_20 : decode method_9_code 20 = .ok (.ireturn, 1) := by decide +kernel
theorem d_L_about_0 : decode method_10_code 0 = .ok (.aload_n 3, 1) := by decide +kernel
theorem d_L_about_1 : decode method_10_code 1 = .ok (.iconst 0, 1) := by decide +kernel
theorem d_L_about_2 : decode method_10_code 2 = .ok (.aload_n 0, 1) := by decide +kernel
theorem d_L_about_3 : decode method_10_code 3 = .ok (.iload_n 1, 1) := by decide +kernel
theorem d_L_about_4 : decode method_10_code 4 = .ok (.iload_n 2, 1) := by decide +kernel
theorem d_L_about_5 : decode method_10_code 5 = .ok (.invokevirtual 41, 3) := by decide +kernel
theorem d_L_about_13 : decode method_10_code 13 = .ok (.astore 4, 2) := by decide +kernel
theorem d_L_about_15 : decode method_10_code 15 = .ok (.iconst 1, 1) := by decide +kernel
theorem d_L_about_16 : decode method_10_code 16 = .ok (.ireturn, 1) := by decide +kernel
theorem d_L_name_0 : decode method_12_code 0 = .ok (.aload_n 3, 1) := by decide +kernel
theorem d_L_name_1 : decode method_12_code 1 = .ok (.iconst 0, 1) := by decide +kernel
theorem d_L_name_2 : decode method_12_code 2 = .ok (.aload_n 0, 1) := by decide +kernel
theorem d_L_name_3 : decode method_12_code 3 = .ok (.iload_n 1, 1) := by decide +kernel
theorem d_L_name_4 : decode method_12_code 4 = .ok (.iload_n 2, 1) := by decide +kernel
theorem d_L_name_5 : decode method_12_code 5 = .ok (.invokevirtual 47, 3) := by decide +kernel
theorem d_L_name_13 : decode method_12_code 13 = .ok (.astore 4, 2) := by decide +kernel
theorem d_L_name_15 : decode method_12_code 15 = .ok (.iconst 1, 1) := by decide +kernel
theorem d_L_name_16 : decode method_12_code 16 = .ok (.ireturn, 1) := by decide +kernel
theorem d_L_value_0 : decode method_13_code 0 = .ok (.aload_n 3, 1) := by decide +kernel
theorem d_L_value_1 : decode method_13_code 1 = .ok (.iconst 0, 1) := by decide +kernel
theorem d_L_value_2 : decode method_13_code 2 = .ok (.aload_n 0, 1) := by decide +kernel
theorem d_L_value_3 : decode method_13_code 3 = .ok (.iload_n 1, 1) := by decide +kernel
theorem d_L_value_4 : decode method_13_code 4 = .ok (.iload_n 2, 1) := by decide +kernel
theorem d_L_value_5 : decode method_13_code 5 = .ok (.invokevirtual 50, 3) := by decide +kernel
theorem d_L_value_13 : decode method_13_code 13 = .ok (.astore 4, 2) := by decide +kernel
theorem d_L_value_15 : decode method_13_code 15 = .ok (.iconst 1, 1) := by decide +kernel
theorem d_L_value_16 : decode method_13_code 16 = .ok (.ireturn, 1) := by decide +kernel
theorem d_L_nodeName_0 : decode method_11_code 0 = .ok (.aload_n 3, 1) := by decide +kernel
theorem d_L_nodeName_1 : decode method_11_code 1 = .ok (.iconst 0, 1) := by decide +kernel
theorem d_L_nodeName_2 : decode method_11_code 2 = .ok (.aload_n 0, 1) := by decide +kernel
theorem d_L_nodeName_3 : decode method_11_code 3 = .ok (.iload_n 1, 1) := by decide +kernel
theorem d_L_nodeName_4 : decode method_11_code 4 = .ok (.iload_n 2, 1) := by decide +kernel
theorem d_L_nodeName_5 : decode method_11_code 5 = .ok (.invokevirtual 44, 3) := by decide +kernel
theorem d_L_nodeName_13 : decode method_11_code 13 = .ok (.astore 4, 2) := by decide +kernel
theorem d_L_nodeName_15 : decode method_11_code 15 = .ok (.iconst 1, 1) := by decide +kernel
theorem d_L_nodeName_16 : decode method_11_code 16 = .ok (.ireturn, 1) := by decide +kernel
theorem d_L_seek_0 : decode method_14_code 0 = .ok (.aload_n 2, 1) := by decide +kernel
theorem d_L_seek_1 : decode method_14_code 1 = .ok (.iconst 0, 1) := by decide +kernel
theorem d_L_seek_2 : decode method_14_code 2 = .ok (.aload_n 0, 1) := by decide +kernel
theorem d_L_seek_3 : decode method_14_code 3 = .ok (.iload_n 1, 1) := by decide +kernel
theorem d_L_seek_4 : decode method_14_code 4 = .ok (.invokevirtual 53, 3) := by decide +kernel
theorem d_L_seek_7 : decode method_14_code 7 = .ok (.i2l, 1) := by decide +kernel
theorem d_L_seek_8 : decode method_14_code 8 = .ok (.lastore, 1) := by decide +kernel
theorem d_L_seek_9 : decode method_14_code 9 = .ok (.goto 6, 3) := by decide +kernel
theorem d_L_seek_15 : decode method_14_code 15 = .ok (.iconst 0, 1) := by decide +kernel
theorem d_L_seek_16 : decode method_14_code 16 = .ok (.ireturn, 1) := by decide +kernel
theorem d_L_seek_12 : decode method_14_code 12 = .ok (.astore_n 3, 1) := by decide +kernel
theorem d_L_seek_13 : decode method_14_code 13 = .ok (.iconst 1, 1) := by decide +kernel
theorem d_L_seek_14 : decode method_14_code 14 = .ok (.ireturn, 1) := by decide +kernel
set_option maxHeartbeats 4000000 in
set_option maxRecDepth 100000 in
theorem c_L_feed (l : Launch) (hst : l.stackTraces = false) (G : kb_G) (h : Nat) (tp : Nat) (ld : Nat) (rd : Nat) (tr : Nat) (sp : Nat) (ta : Nat) (f : Nat → Int32) (x1 : Int32) (x2 : Int32) (x3 : Int32) (x4 : Int32) (x5 : Int32) (o : Nat) : kb_ch l G ⟨"TreePressLaw", "feed", "(LTreePress;IIIII[J)I"⟩ method_3_code 8 (some .int) [(0, 16, 19, 13)] 8 1 32 [.ref h, .int x1, .int x2, .int x3, .int x4, .int x5, .ref o] [kb_o h 3 [.ref tp, .ref ld, .ref rd, .ref tr, .ref sp], kb_o tp 1 [.ref ta, .int 0], kb_a G ta 16 f, kb_j G o 1 (fun _ => 0)] (fun r u => r = 0) (fun u => [kb_j G o 1 (vp_updL (fun _ => 0) 0 ((20 : Int32).toInt64))]) := by
  refine kb_bodyH (by decide) (Nat.le_of_ble_eq_true rfl) ?_
  intro p e s m below meth c A B htab9 ls hl
  obtain ⟨hx, hb, hr, hml, hlocks, hin, hown, ht, hE, hP, hD, hS⟩ := B
  have hl : lv_has ls 8 [(0, .ref h), (1, .int x1), (2, .int x2), (3, .int x3), (4, .int x4), (5, .int x5), (6, .ref o)] := hl
  have hP0 := hP
  obtain ⟨H, hHe⟩ : ∃ H, H = s.heap := ⟨_, rfl⟩
  rw [← hHe] at hP
  have hS : va_S A s.heap H [] := by rw [hHe]; exact hS
  refine kb_at hHe ?_
  clear hHe
  obtain ⟨z0, htab, hz0⟩ := kb_tab1 htab9
  refine lv_aload hx hb d_L_feed_0 (lv_at hl 6 rfl) ?_
  refine lv_iconst (v := 0) hx hb d_L_feed_2 (by decide) ?_
  refine lv_aload_n hx hb d_L_feed_3 rfl (lv_at hl 0 rfl) ?_
  refine lv_iload_n hx hb d_L_feed_4 rfl (lv_at hl 1 rfl) ?_
  refine lv_iload_n hx hb d_L_feed_5 rfl (lv_at hl 2 rfl) ?_
  refine lv_iload_n hx hb d_L_feed_6 rfl (lv_at hl 3 rfl) ?_
  refine lv_iload hx hb d_L_feed_7 (lv_at hl 4 rfl) ?_
  refine lv_iload hx hb d_L_feed_9 (lv_at hl 5 rfl) ?_
  refine kb_i (wc := [kb_o h 3 [.ref tp, .ref ld, .ref rd, .ref tr, .ref sp], kb_o tp 1 [.ref ta, .int 0], kb_a G ta 16 f]) (wr := [kb_j G o 1 (fun _ => 0)]) hE hP hD hS [0, 1, 2] [3] rfl rfl (by decide) (by decide) (kb_rV (As := [.int x1, .int x2, .int x3, .int x4, .int x5]) (rest := [.int 0, .ref o]) (wc := [kb_o h 3 [.ref tp, .ref ld, .ref rd, .ref tr, .ref sp], kb_o tp 1 [.ref ta, .int 0], kb_a G ta 16 f]) (q0 := 0) ⟨hx, hb, hml, hown, ht⟩ ((c_Press_feed l G h tp ld rd tr sp ta f x1 x2 x3 x4 x5) _) (kb_gV wd_a4e7125a wd_7768c2ff wd_5a960aec wd_28603eaf wd_39c1aec2) ⟨rfl, hd_d3a9cbfb⟩ ⟨(Nat.le_of_ble_eq_true rfl), (Nat.le_of_ble_eq_true rfl)⟩ hE hP hD hS [0, 1, 2] rfl (by decide) rfl rfl rfl hl.1 rfl (Nat.le_of_ble_eq_true rfl) d_L_feed_11 ⟨(Nat.le_of_ble_eq_true rfl), (Nat.le_of_ble_eq_true rfl)⟩) (fun rv2 uu1 H locs hw hP hD hS => ?_)
  have hP : va_P G.1 kb_cl [kb_j G o 1 (fun _ => 0)] H := hP
  have hD : va_D A [kb_j G o 1 (fun _ => 0)] := hD
  refine kb_top (y := 20) (show rv2 = 20 from hw) ?_
  refine lv_i2l (v := (20 : Int32).toInt64) hx hb d_L_feed_14 rfl ?_
  refine va_last hx hb hE.1 hP hD hS 0 1 rfl rfl (show ¬ ((0 : Int32) < 0 ∨ 1 ≤ (0 : Int32).toNatClampNeg) by decide) d_L_feed_15 (fun H locs hP hD hS => ?_)
  have hP : va_P G.1 kb_cl [kb_j G o 1 (vp_updL (fun _ => 0) 0 ((20 : Int32).toInt64))] H := hP
  have hD : va_D A [kb_j G o 1 (vp_updL (fun _ => 0) 0 ((20 : Int32).toInt64))] := hD
  refine lv_goto (tgt := 23) hx hb d_L_feed_16 (by decide) ?_
  refine lv_iconst (v := 0) hx hb d_L_feed_23 (by decide) ?_
  exact kb_reti (kb_l [], kb_f []) hx hb hr hlocks hE hP hD hS [0] rfl (by decide) rfl rfl (Nat.le_of_ble_eq_true rfl) (Nat.le_of_ble_eq_true rfl) d_L_feed_24

set_option maxHeartbeats 4000000 in
set_option maxRecDepth 100000 in
theorem c_L_end0 (l : Launch) (hst : l.stackTraces = false) (G : kb_G) (h : Nat) (tp : Nat) (ld : Nat) (rd : Nat) (tr : Nat) (sp : Nat) (ta : Nat) : kb_ch l G ⟨"TreePressLaw", "end", "(LTreePress;I)I"⟩ method_4_code 3 (some .int) [(0, 5, 8, 19)] 8 0 0 [.ref h, .int 0] [kb_o h 3 [.ref tp, .ref ld, .ref rd, .ref tr, .ref sp], kb_o tp 1 [.ref ta, .int 0]] (fun r u => r = 0) (fun u => []) := by
  refine kb_bodyH (by decide) (Nat.le_of_ble_eq_true rfl) ?_
  intro p e s m below meth c A B htab9 ls hl
  obtain ⟨hx, hb, hr, hml, hlocks, hin, hown, ht, hE, hP, hD, hS⟩ := B
  have hl : lv_has ls 3 [(0, .ref h), (1, .int 0)] := hl
  have hP0 := hP
  obtain ⟨H, hHe⟩ : ∃ H, H = s.heap := ⟨_, rfl⟩
  rw [← hHe] at hP
  have hS : va_S A s.heap H [] := by rw [hHe]; exact hS
  refine kb_at hHe ?_
  clear hHe
  obtain ⟨z0, htab, hz0⟩ := kb_tab1 htab9
  refine lv_aload_n hx hb d_L_end_0 rfl (lv_at hl 0 rfl) ?_
  refine lv_iload_n hx hb d_L_end_1 rfl (lv_at hl 1 rfl) ?_
  refine kb_v (wc := [kb_o h 3 [.ref tp, .ref ld, .ref rd, .ref tr, .ref sp], kb_o tp 1 [.ref ta, .int 0]]) (wr := []) hE hP hD hS [0, 1] [] rfl rfl (by decide) (by decide) (kb_rV (As := [.int 0]) (rest := []) (wc := [kb_o h 3 [.ref tp, .ref ld, .ref rd, .ref tr, .ref sp], kb_o tp 1 [.ref ta, .int 0]]) (q0 := 0) ⟨hx, hb, hml, hown, ht⟩ ((c_Press_end0 l G h tp ld rd tr sp ta) _) (kb_gV wd_58d85f6a wd_9ad61791 wd_57ea40cb wd_28603eaf wd_164d62a1) ⟨rfl, hd_156fecb9⟩ ⟨(Nat.le_of_ble_eq_true rfl), (Nat.le_of_ble_eq_true rfl)⟩ hE hP hD hS [0, 1] rfl (by decide) rfl rfl rfl hl.1 rfl (Nat.le_of_ble_eq_true rfl) d_L_end_2 ⟨(Nat.le_of_ble_eq_true rfl), (Nat.le_of_ble_eq_true rfl)⟩) (fun uu1 H locs hw hP hD hS => ?_)
  have hP : va_P G.1 kb_cl [] H := hP
  have hD : va_D A [] := hD
  refine lv_goto (tgt := 11) hx hb d_L_end_5 (by decide) ?_
  refine lv_iconst (v := 0) hx hb d_L_end_11 (by decide) ?_
  exact kb_reti (kb_l [], kb_f []) hx hb hr hlocks hE hP hD hS [] rfl (by decide) rfl rfl (Nat.le_of_ble_eq_true rfl) (Nat.le_of_ble_eq_true rfl) d_L_end_12

set_option maxHeartbeats 4000000 in
set_option maxRecDepth 100000 in
theorem c_L_endX (l : Launch) (hst : l.stackTraces = false) (G : kb_G) (h : Nat) (tp : Nat) (ld : Nat) (rd : Nat) (tr : Nat) (sp : Nat) (ta : Nat) (n : Int32) (hn : ¬ n = 0) : kb_ch l G ⟨"TreePressLaw", "end", "(LTreePress;I)I"⟩ method_4_code 3 (some .int) [(0, 5, 8, 19)] 8 1 6 [.ref h, .int n] [kb_o h 3 [.ref tp, .ref ld, .ref rd, .ref tr, .ref sp], kb_o tp 1 [.ref ta, .int 0]] (fun r u => r = 1) (fun u => []) := by
  refine kb_bodyH (by decide) (Nat.le_of_ble_eq_true rfl) ?_
  intro p e s m below meth c A B htab9 ls hl
  obtain ⟨hx, hb, hr, hml, hlocks, hin, hown, ht, hE, hP, hD, hS⟩ := B
  have hl : lv_has ls 3 [(0, .ref h), (1, .int n)] := hl
  have hP0 := hP
  obtain ⟨H, hHe⟩ : ∃ H, H = s.heap := ⟨_, rfl⟩
  rw [← hHe] at hP
  have hS : va_S A s.heap H [] := by rw [hHe]; exact hS
  refine kb_at hHe ?_
  clear hHe
  obtain ⟨z0, htab, hz0⟩ := kb_tab1 htab9
  refine lv_aload_n hx hb d_L_end_0 rfl (lv_at hl 0 rfl) ?_
  refine lv_iload_n hx hb d_L_end_1 rfl (lv_at hl 1 rfl) ?_
  refine kb_xV (As := [.int n]) (rest := []) (wc := [kb_o h 3 [.ref tp, .ref ld, .ref rd, .ref tr, .ref sp], kb_o tp 1 [.ref ta, .int 0]]) (wr := []) (q0 := 0) ⟨hx, hb, hml, hown, ht⟩ (c_Press_endX l hst G h tp ld rd tr sp ta n hn) wd_58d85f6a wd_9ad61791 wd_57ea40cb wd_28603eaf wd_164d62a1 hd_156fecb9 ⟨(Nat.le_of_ble_eq_true rfl), (Nat.le_of_ble_eq_true rfl)⟩ hE hP hD hS [0, 1] [] rfl rfl (by decide) (by decide) (by decide) rfl rfl rfl hl.1 rfl (Nat.le_of_ble_eq_true rfl) d_L_end_2 ⟨(Nat.le_of_ble_eq_true rfl), (Nat.le_of_ble_eq_true rfl)⟩ (fun q9 ce H locs hce hcv hcl hP hD hS => ?_)
  refine kb_catch1 (own := "TreePressLaw") (name := "java/lang/IllegalArgumentException") (E := "java/lang/IllegalArgumentException") hown htab (by rw [hz0]; decide) (by rw [hz0]; decide) (by rw [hz0]; exact ht _ wd_2071fac9) (va_Nw.use rfl (hE.2.2.1.2.1 _ (by decide +kernel : ("java/lang/IllegalArgumentException", "java/lang/IllegalArgumentException") ∈ kb_cast))) hce hcv hcl ?_
  rw [hz0]
  show W p l e _ s m _ below meth c H locs _ _ _ (F0 m 8 ls [.ref q9])
  refine lv_astore_n (lv' := [(2, .ref q9), (0, .ref h), (1, .int n)]) hx hb d_L_end_8 rfl hl (by decide) rfl (fun ls hl => ?_)
  refine lv_iconst (v := 1) hx hb d_L_end_9 (by decide) ?_
  exact kb_reti (kb_l [], kb_f []) hx hb hr hlocks hE hP hD hS [] rfl (by decide) rfl rfl (Nat.le_of_ble_eq_true rfl) (Nat.le_of_ble_eq_true rfl) d_L_end_10

set_option maxHeartbeats 4000000 in
set_option maxRecDepth 100000 in
theorem c_L_open (l : Launch) (hst : l.stackTraces = false) (G : kb_G) (h : Nat) (tp : Nat) (ld : Nat) (rd : Nat) (tr : Nat) (sp : Nat) (ta : Nat) (o : Nat) : kb_ch l G ⟨"TreePressLaw", "open", "(LTreePress;[J)I"⟩ method_5_code 3 (some .int) [(0, 8, 11, 19), (0, 8, 14, 13)] 8 1 6 [.ref h, .ref o] [kb_o h 3 [.ref tp, .ref ld, .ref rd, .ref tr, .ref sp], kb_o tp 1 [.ref ta, .int 0], kb_j G o 1 (fun _ => 0)] (fun r u => r = 1) (fun u => [kb_j G o 1 (fun _ => 0)]) := by
  refine kb_bodyH (by decide) (Nat.le_of_ble_eq_true rfl) ?_
  intro p e s m below meth c A B htab9 ls hl
  obtain ⟨hx, hb, hr, hml, hlocks, hin, hown, ht, hE, hP, hD, hS⟩ := B
  have hl : lv_has ls 3 [(0, .ref h), (1, .ref o)] := hl
  have hP0 := hP
  obtain ⟨H, hHe⟩ : ∃ H, H = s.heap := ⟨_, rfl⟩
  rw [← hHe] at hP
  have hS : va_S A s.heap H [] := by rw [hHe]; exact hS
  refine kb_at hHe ?_
  clear hHe
  obtain ⟨z0, z1, htab, hz0, hz1⟩ := kb_tab2 htab9
  refine lv_aload_n hx hb d_L_open_0 rfl (lv_at hl 1 rfl) ?_
  refine lv_iconst (v := 0) hx hb d_L_open_1 (by decide) ?_
  refine lv_aload_n hx hb d_L_open_2 rfl (lv_at hl 0 rfl) ?_
  refine kb_xV (As := []) (rest := [.int 0, .ref o]) (wc := [kb_o h 3 [.ref tp, .ref ld, .ref rd, .ref tr, .ref sp], kb_o tp 1 [.ref ta, .int 0]]) (wr := [kb_j G o 1 (fun _ => 0)]) (q0 := 0) ⟨hx, hb, hml, hown, ht⟩ (c_Press_openX l hst G h tp ld rd tr sp ta) wd_73325869 wd_83e13eef wd_67597aee wd_28603eaf wd_1ad5c044 hd_3a460028 ⟨(Nat.le_of_ble_eq_true rfl), (Nat.le_of_ble_eq_true rfl)⟩ hE hP hD hS [0, 1] [2] rfl rfl (by decide) (by decide) (by decide) rfl rfl rfl hl.1 rfl (Nat.le_of_ble_eq_true rfl) d_L_open_3 ⟨(Nat.le_of_ble_eq_true rfl), (Nat.le_of_ble_eq_true rfl)⟩ (fun q9 ce H locs hce hcv hcl hP hD hS => ?_)
  refine kb_catch1 (own := "TreePressLaw") (name := "java/lang/IllegalArgumentException") (E := "java/lang/IllegalArgumentException") hown htab (by rw [hz0]; decide) (by rw [hz0]; decide) (by rw [hz0]; exact ht _ wd_2071fac9) (va_Nw.use rfl (hE.2.2.1.2.1 _ (by decide +kernel : ("java/lang/IllegalArgumentException", "java/lang/IllegalArgumentException") ∈ kb_cast))) hce hcv hcl ?_
  rw [hz0]
  show W p l e _ s m _ below meth c H locs _ _ _ (F0 m 11 ls [.ref q9])
  refine lv_astore_n (lv' := [(2, .ref q9), (0, .ref h), (1, .ref o)]) hx hb d_L_open_11 rfl hl (by decide) rfl (fun ls hl => ?_)
  refine lv_iconst (v := 1) hx hb d_L_open_12 (by decide) ?_
  exact kb_reti (kb_l [], kb_f []) hx hb hr hlocks hE hP hD hS [0] rfl (by decide) rfl rfl (Nat.le_of_ble_eq_true rfl) (Nat.le_of_ble_eq_true rfl) d_L_open_13

set_option maxHeartbeats 4000000 in
set_option maxRecDepth 100000 in
theorem c_L_property (l : Launch) (hst : l.stackTraces = false) (G : kb_G) (h : Nat) (tp : Nat) (ld : Nat) (rd : Nat) (tr : Nat) (sp : Nat) (ta : Nat) (k : Int32) (o : Nat) : kb_ch l G ⟨"TreePressLaw", "property", "(LTreePress;I[J)I"⟩ method_6_code 4 (some .int) [(0, 9, 12, 19), (0, 9, 15, 13)] 8 1 6 [.ref h, .int k, .ref o] [kb_o h 3 [.ref tp, .ref ld, .ref rd, .ref tr, .ref sp], kb_o tp 1 [.ref ta, .int 0], kb_j G o 1 (fun _ => 0)] (fun r u => r = 1) (fun u => [kb_j G o 1 (fun _ => 0)]) := by
  refine kb_bodyH (by decide) (Nat.le_of_ble_eq_true rfl) ?_
  intro p e s m below meth c A B htab9 ls hl
  obtain ⟨hx, hb, hr, hml, hlocks, hin, hown, ht, hE, hP, hD, hS⟩ := B
  have hl : lv_has ls 4 [(0, .ref h), (1, .int k), (2, .ref o)] := hl
  have hP0 := hP
  obtain ⟨H, hHe⟩ : ∃ H, H = s.heap := ⟨_, rfl⟩
  rw [← hHe] at hP
  have hS : va_S A s.heap H [] := by rw [hHe]; exact hS
  refine kb_at hHe ?_
  clear hHe
  obtain ⟨z0, z1, htab, hz0, hz1⟩ := kb_tab2 htab9
  refine lv_aload_n hx hb d_L_property_0 rfl (lv_at hl 2 rfl) ?_
  refine lv_iconst (v := 0) hx hb d_L_property_1 (by decide) ?_
  refine lv_aload_n hx hb d_L_property_2 rfl (lv_at hl 0 rfl) ?_
  refine lv_iload_n hx hb d_L_property_3 rfl (lv_at hl 1 rfl) ?_
  refine kb_xV (As := [.int k]) (rest := [.int 0, .ref o]) (wc := [kb_o h 3 [.ref tp, .ref ld, .ref rd, .ref tr, .ref sp], kb_o tp 1 [.ref ta, .int 0]]) (wr := [kb_j G o 1 (fun _ => 0)]) (q0 := 0) ⟨hx, hb, hml, hown, ht⟩ (c_Press_propertyX l hst G h tp ld rd tr sp ta k) wd_2d4d5805 wd_faa01b7f wd_ad6d6f83 wd_28603eaf wd_1a7a8784 hd_fbd3203f ⟨(Nat.le_of_ble_eq_true rfl), (Nat.le_of_ble_eq_true rfl)⟩ hE hP hD hS [0, 1] [2] rfl rfl (by decide) (by decide) (by decide) rfl rfl rfl hl.1 rfl (Nat.le_of_ble_eq_true rfl) d_L_property_4 ⟨(Nat.le_of_ble_eq_true rfl), (Nat.le_of_ble_eq_true rfl)⟩ (fun q9 ce H locs hce hcv hcl hP hD hS => ?_)
  refine kb_catch1 (own := "TreePressLaw") (name := "java/lang/IllegalArgumentException") (E := "java/lang/IllegalArgumentException") hown htab (by rw [hz0]; decide) (by rw [hz0]; decide) (by rw [hz0]; exact ht _ wd_2071fac9) (va_Nw.use rfl (hE.2.2.1.2.1 _ (by decide +kernel : ("java/lang/IllegalArgumentException", "java/lang/IllegalArgumentException") ∈ kb_cast))) hce hcv hcl ?_
  rw [hz0]
  show W p l e _ s m _ below meth c H locs _ _ _ (F0 m 12 ls [.ref q9])
  refine lv_astore_n (lv' := [(3, .ref q9), (0, .ref h), (1, .int k), (2, .ref o)]) hx hb d_L_property_12 rfl hl (by decide) rfl (fun ls hl => ?_)
  refine lv_iconst (v := 1) hx hb d_L_property_13 (by decide) ?_
  exact kb_reti (kb_l [], kb_f []) hx hb hr hlocks hE hP hD hS [0] rfl (by decide) rfl rfl (Nat.le_of_ble_eq_true rfl) (Nat.le_of_ble_eq_true rfl) d_L_property_14

set_option maxHeartbeats 4000000 in
set_option maxRecDepth 100000 in
theorem c_L_close (l : Launch) (hst : l.stackTraces = false) (G : kb_G) (h : Nat) (tp : Nat) (ld : Nat) (rd : Nat) (tr : Nat) (sp : Nat) (r0 : Nat) (r1 : Nat) (r2 : Nat) (r3 : Nat) (r4 : Nat) (r5 : Nat) (r6 : Nat) (r7 : Nat) (r8 : Nat) (r9 : Nat) (r10 : Nat) (r11 : Nat) (L : Int32) (o : Nat) : kb_ch l G ⟨"TreePressLaw", "close", "(LTreePress;[J)I"⟩ method_7_code 3 (some .int) [(0, 8, 11, 19)] 8 1 6 [.ref h, .ref o] [kb_o h 3 [.ref tp, .ref ld, .ref rd, .ref tr, .ref sp], kb_o tr 2 [.ref r0, .ref r1, .ref r2, .ref r3, .ref r4, .ref r5, .ref r6, .ref r7, .ref r8, .ref r9, .ref r10, .ref r11, .int L, .int 0], kb_j G o 1 (fun _ => 0)] (fun r u => r = 1) (fun u => [kb_j G o 1 (fun _ => 0)]) := by
  refine kb_bodyH (by decide) (Nat.le_of_ble_eq_true rfl) ?_
  intro p e s m below meth c A B htab9 ls hl
  obtain ⟨hx, hb, hr, hml, hlocks, hin, hown, ht, hE, hP, hD, hS⟩ := B
  have hl : lv_has ls 3 [(0, .ref h), (1, .ref o)] := hl
  have hP0 := hP
  obtain ⟨H, hHe⟩ : ∃ H, H = s.heap := ⟨_, rfl⟩
  rw [← hHe] at hP
  have hS : va_S A s.heap H [] := by rw [hHe]; exact hS
  refine kb_at hHe ?_
  clear hHe
  obtain ⟨z0, htab, hz0⟩ := kb_tab1 htab9
  refine lv_aload_n hx hb d_L_close_0 rfl (lv_at hl 1 rfl) ?_
  refine lv_iconst (v := 0) hx hb d_L_close_1 (by decide) ?_
  refine lv_aload_n hx hb d_L_close_2 rfl (lv_at hl 0 rfl) ?_
  refine kb_xV (As := []) (rest := [.int 0, .ref o]) (wc := [kb_o h 3 [.ref tp, .ref ld, .ref rd, .ref tr, .ref sp], kb_o tr 2 [.ref r0, .ref r1, .ref r2, .ref r3, .ref r4, .ref r5, .ref r6, .ref r7, .ref r8, .ref r9, .ref r10, .ref r11, .int L, .int 0]]) (wr := [kb_j G o 1 (fun _ => 0)]) (q0 := 0) ⟨hx, hb, hml, hown, ht⟩ (c_Press_closeX l hst G h tp ld rd tr sp r0 r1 r2 r3 r4 r5 r6 r7 r8 r9 r10 r11 L) wd_37c0bae5 wd_cfd1d81e wd_c88202bd wd_28603eaf wd_5733cb2f hd_d3e8f9e4 ⟨(Nat.le_of_ble_eq_true rfl), (Nat.le_of_ble_eq_true rfl)⟩ hE hP hD hS [0, 1] [2] rfl rfl (by decide) (by decide) (by decide) rfl rfl rfl hl.1 rfl (Nat.le_of_ble_eq_true rfl) d_L_close_3 ⟨(Nat.le_of_ble_eq_true rfl), (Nat.le_of_ble_eq_true rfl)⟩ (fun q9 ce H locs hce hcv hcl hP hD hS => ?_)
  refine kb_catch1 (own := "TreePressLaw") (name := "java/lang/IllegalArgumentException") (E := "java/lang/IllegalArgumentException") hown htab (by rw [hz0]; decide) (by rw [hz0]; decide) (by rw [hz0]; exact ht _ wd_2071fac9) (va_Nw.use rfl (hE.2.2.1.2.1 _ (by decide +kernel : ("java/lang/IllegalArgumentException", "java/lang/IllegalArgumentException") ∈ kb_cast))) hce hcv hcl ?_
  rw [hz0]
  show W p l e _ s m _ below meth c H locs _ _ _ (F0 m 11 ls [.ref q9])
  refine lv_astore_n (lv' := [(2, .ref q9), (0, .ref h), (1, .ref o)]) hx hb d_L_close_11 rfl hl (by decide) rfl (fun ls hl => ?_)
  refine lv_iconst (v := 1) hx hb d_L_close_12 (by decide) ?_
  exact kb_reti (kb_l [], kb_f []) hx hb hr hlocks hE hP hD hS [0] rfl (by decide) rfl rfl (Nat.le_of_ble_eq_true rfl) (Nat.le_of_ble_eq_true rfl) d_L_close_13

set_option maxHeartbeats 4000000 in
set_option maxRecDepth 100000 in
theorem c_L_laid (l : Launch) (hst : l.stackTraces = false) (G : kb_G) (h : Nat) (tp : Nat) (ld : Nat) (rd : Nat) (tr : Nat) (sp : Nat) (b : Nat) (i : Int32) (o : Nat) : kb_ch l G ⟨"TreePressLaw", "laid", "(LTreePress;I[J)I"⟩ method_8_code 4 (some .int) [(0, 9, 12, 35)] 8 1 6 [.ref h, .int i, .ref o] [kb_o h 3 [.ref tp, .ref ld, .ref rd, .ref tr, .ref sp], kb_o ld 1 [.ref b, .int 0], kb_j G o 1 (fun _ => 0)] (fun r u => r = 1) (fun u => [kb_j G o 1 (fun _ => 0)]) := by
  refine kb_bodyH (by decide) (Nat.le_of_ble_eq_true rfl) ?_
  intro p e s m below meth c A B htab9 ls hl
  obtain ⟨hx, hb, hr, hml, hlocks, hin, hown, ht, hE, hP, hD, hS⟩ := B
  have hl : lv_has ls 4 [(0, .ref h), (1, .int i), (2, .ref o)] := hl
  have hP0 := hP
  obtain ⟨H, hHe⟩ : ∃ H, H = s.heap := ⟨_, rfl⟩
  rw [← hHe] at hP
  have hS : va_S A s.heap H [] := by rw [hHe]; exact hS
  refine kb_at hHe ?_
  clear hHe
  obtain ⟨z0, htab, hz0⟩ := kb_tab1 htab9
  refine lv_aload_n hx hb d_L_laid_0 rfl (lv_at hl 2 rfl) ?_
  refine lv_iconst (v := 0) hx hb d_L_laid_1 (by decide) ?_
  refine lv_aload_n hx hb d_L_laid_2 rfl (lv_at hl 0 rfl) ?_
  refine lv_iload_n hx hb d_L_laid_3 rfl (lv_at hl 1 rfl) ?_
  refine kb_xV (As := [.int i]) (rest := [.int 0, .ref o]) (wc := [kb_o h 3 [.ref tp, .ref ld, .ref rd, .ref tr, .ref sp], kb_o ld 1 [.ref b, .int 0]]) (wr := [kb_j G o 1 (fun _ => 0)]) (q0 := 0) ⟨hx, hb, hml, hown, ht⟩ (c_Press_laidX l hst G h tp ld rd tr sp b i) wd_a97a52af wd_bb7cc64c wd_49af1481 wd_28603eaf wd_b8d4be5b hd_aa63e9bf ⟨(Nat.le_of_ble_eq_true rfl), (Nat.le_of_ble_eq_true rfl)⟩ hE hP hD hS [0, 1] [2] rfl rfl (by decide) (by decide) (by decide) rfl rfl rfl hl.1 rfl (Nat.le_of_ble_eq_true rfl) d_L_laid_4 ⟨(Nat.le_of_ble_eq_true rfl), (Nat.le_of_ble_eq_true rfl)⟩ (fun q9 ce H locs hce hcv hcl hP hD hS => ?_)
  refine kb_catch1 (own := "TreePressLaw") (name := "java/lang/IndexOutOfBoundsException") (E := "java/lang/IndexOutOfBoundsException") hown htab (by rw [hz0]; decide) (by rw [hz0]; decide) (by rw [hz0]; exact ht _ wd_e765ff14) (va_Nw.use rfl (hE.2.2.1.2.1 _ (by decide +kernel : ("java/lang/IndexOutOfBoundsException", "java/lang/IndexOutOfBoundsException") ∈ kb_cast))) hce hcv hcl ?_
  rw [hz0]
  show W p l e _ s m _ below meth c H locs _ _ _ (F0 m 12 ls [.ref q9])
  refine lv_astore_n (lv' := [(3, .ref q9), (0, .ref h), (1, .int i), (2, .ref o)]) hx hb d_L_laid_12 rfl hl (by decide) rfl (fun ls hl => ?_)
  refine lv_iconst (v := 1) hx hb d_L_laid_13 (by decide) ?_
  exact kb_reti (kb_l [], kb_f []) hx hb hr hlocks hE hP hD hS [0] rfl (by decide) rfl rfl (Nat.le_of_ble_eq_true rfl) (Nat.le_of_ble_eq_true rfl) d_L_laid_14

set_option maxHeartbeats 4000000 in
set_option maxRecDepth 100000 in
theorem c_L_node0 (l : Launch) (hst : l.stackTraces = false) (G : kb_G) (h : Nat) (tp : Nat) (ld : Nat) (rd : Nat) (tr : Nat) (sp : Nat) (r0 : Nat) (r1 : Nat) (r2 : Nat) (r3 : Nat) (r4 : Nat) (r5 : Nat) (r6 : Nat) (r7 : Nat) (r8 : Nat) (r9 : Nat) (r10 : Nat) (r11 : Nat) (L : Int32) (P : Int32) (a1 : Nat) (o : Nat) : kb_ch l G ⟨"TreePressLaw", "node", "(LTreePress;II[J)I"⟩ method_9_code 5 (some .int) [(0, 10, 13, 35), (0, 10, 17, 19)] 8 0 0 [.ref h, .int 0, .int 0, .ref o] [kb_o h 3 [.ref tp, .ref ld, .ref rd, .ref tr, .ref sp], kb_o tr 2 [.ref r0, .ref r1, .ref r2, .ref r3, .ref r4, .ref r5, .ref r6, .ref r7, .ref r8, .ref r9, .ref r10, .ref r11, .int L, .int P], kb_o r1 1 [.ref a1, .int 1], kb_a G a1 16 (upd (fun _ => 0) 0 (-1)), kb_j G o 1 (fun _ => 0)] (fun r u => r = 0) (fun u => [kb_j G o 1 (vp_updL (fun _ => 0) 0 (((-1) : Int32).toInt64))]) := by
  refine kb_bodyH (by decide) (Nat.le_of_ble_eq_true rfl) ?_
  intro p e s m below meth c A B htab9 ls hl
  obtain ⟨hx, hb, hr, hml, hlocks, hin, hown, ht, hE, hP, hD, hS⟩ := B
  have hl : lv_has ls 5 [(0, .ref h), (1, .int 0), (2, .int 0), (3, .ref o)] := hl
  have hP0 := hP
  obtain ⟨H, hHe⟩ : ∃ H, H = s.heap := ⟨_, rfl⟩
  rw [← hHe] at hP
  have hS : va_S A s.heap H [] := by rw [hHe]; exact hS
  refine kb_at hHe ?_
  clear hHe
  obtain ⟨z0, z1, htab, hz0, hz1⟩ := kb_tab2 htab9
  refine lv_aload_n hx hb d_L_node_0 rfl (lv_at hl 3 rfl) ?_
  refine lv_iconst (v := 0) hx hb d_L_node_1 (by decide) ?_
  refine lv_aload_n hx hb d_L_node_2 rfl (lv_at hl 0 rfl) ?_
  refine lv_iload_n hx hb d_L_node_3 rfl (lv_at hl 1 rfl) ?_
  refine lv_iload_n hx hb d_L_node_4 rfl (lv_at hl 2 rfl) ?_
  refine kb_i (wc := [kb_o h 3 [.ref tp, .ref ld, .ref rd, .ref tr, .ref sp], kb_o tr 2 [.ref r0, .ref r1, .ref r2, .ref r3, .ref r4, .ref r5, .ref r6, .ref r7, .ref r8, .ref r9, .ref r10, .ref r11, .int L, .int P], kb_o r1 1 [.ref a1, .int 1], kb_a G a1 16 (upd (fun _ => 0) 0 (-1))]) (wr := [kb_j G o 1 (fun _ => 0)]) hE hP hD hS [0, 1, 2, 3] [4] rfl rfl (by decide) (by decide) (kb_rV (As := [.int 0, .int 0]) (rest := [.int 0, .ref o]) (wc := [kb_o h 3 [.ref tp, .ref ld, .ref rd, .ref tr, .ref sp], kb_o tr 2 [.ref r0, .ref r1, .ref r2, .ref r3, .ref r4, .ref r5, .ref r6, .ref r7, .ref r8, .ref r9, .ref r10, .ref r11, .int L, .int P], kb_o r1 1 [.ref a1, .int 1], kb_a G a1 16 (upd (fun _ => 0) 0 (-1))]) (q0 := 0) ⟨hx, hb, hml, hown, ht⟩ ((c_Press_node0 l G h tp ld rd tr sp r0 r1 r2 r3 r4 r5 r6 r7 r8 r9 r10 r11 L P a1) _) (kb_gV wd_d7066d50 wd_b5701010 wd_f0dfabfd wd_28603eaf wd_58645441) ⟨rfl, hd_62a97cca⟩ ⟨(Nat.le_of_ble_eq_true rfl), (Nat.le_of_ble_eq_true rfl)⟩ hE hP hD hS [0, 1, 2, 3] rfl (by decide) rfl rfl rfl hl.1 rfl (Nat.le_of_ble_eq_true rfl) d_L_node_5 ⟨(Nat.le_of_ble_eq_true rfl), (Nat.le_of_ble_eq_true rfl)⟩) (fun rv2 uu1 H locs hw hP hD hS => ?_)
  have hP : va_P G.1 kb_cl [kb_j G o 1 (fun _ => 0)] H := hP
  have hD : va_D A [kb_j G o 1 (fun _ => 0)] := hD
  refine kb_top (y := (-1)) (show rv2 = (-1) from hw) ?_
  refine lv_i2l (v := ((-1) : Int32).toInt64) hx hb d_L_node_8 rfl ?_
  refine va_last hx hb hE.1 hP hD hS 0 1 rfl rfl (show ¬ ((0 : Int32) < 0 ∨ 1 ≤ (0 : Int32).toNatClampNeg) by decide) d_L_node_9 (fun H locs hP hD hS => ?_)
  have hP : va_P G.1 kb_cl [kb_j G o 1 (vp_updL (fun _ => 0) 0 (((-1) : Int32).toInt64))] H := hP
  have hD : va_D A [kb_j G o 1 (vp_updL (fun _ => 0) 0 (((-1) : Int32).toInt64))] := hD
  refine lv_goto (tgt := 21) hx hb d_L_node_10 (by decide) ?_
  refine lv_iconst (v := 0) hx hb d_L_node_21 (by decide) ?_
  exact kb_reti (kb_l [], kb_f []) hx hb hr hlocks hE hP hD hS [0] rfl (by decide) rfl rfl (Nat.le_of_ble_eq_true rfl) (Nat.le_of_ble_eq_true rfl) d_L_node_22

set_option maxHeartbeats 4000000 in
set_option maxRecDepth 100000 in
theorem c_L_node1 (l : Launch) (hst : l.stackTraces = false) (G : kb_G) (h : Nat) (tp : Nat) (ld : Nat) (rd : Nat) (tr : Nat) (sp : Nat) (r0 : Nat) (r1 : Nat) (r2 : Nat) (r3 : Nat) (r4 : Nat) (r5 : Nat) (r6 : Nat) (r7 : Nat) (r8 : Nat) (r9 : Nat) (r10 : Nat) (r11 : Nat) (L : Int32) (P : Int32) (a1 : Nat) (a6 : Nat) (o : Nat) : kb_ch l G ⟨"TreePressLaw", "node", "(LTreePress;II[J)I"⟩ method_9_code 5 (some .int) [(0, 10, 13, 35), (0, 10, 17, 19)] 8 0 0 [.ref h, .int 0, .int 1, .ref o] [kb_o h 3 [.ref tp, .ref ld, .ref rd, .ref tr, .ref sp], kb_o tr 2 [.ref r0, .ref r1, .ref r2, .ref r3, .ref r4, .ref r5, .ref r6, .ref r7, .ref r8, .ref r9, .ref r10, .ref r11, .int L, .int P], kb_o r1 1 [.ref a1, .int 1], kb_o r6 1 [.ref a6, .int 1], kb_a G a6 16 (upd (fun _ => 0) 0 0), kb_j G o 1 (fun _ => 0)] (fun r u => r = 0) (fun u => [kb_j G o 1 (vp_updL (fun _ => 0) 0 ((0 : Int32).toInt64))]) := by
  refine kb_bodyH (by decide) (Nat.le_of_ble_eq_true rfl) ?_
  intro p e s m below meth c A B htab9 ls hl
  obtain ⟨hx, hb, hr, hml, hlocks, hin, hown, ht, hE, hP, hD, hS⟩ := B
  have hl : lv_has ls 5 [(0, .ref h), (1, .int 0), (2, .int 1), (3, .ref o)] := hl
  have hP0 := hP
  obtain ⟨H, hHe⟩ : ∃ H, H = s.heap := ⟨_, rfl⟩
  rw [← hHe] at hP
  have hS : va_S A s.heap H [] := by rw [hHe]; exact hS
  refine kb_at hHe ?_
  clear hHe
  obtain ⟨z0, z1, htab, hz0, hz1⟩ := kb_tab2 htab9
  refine lv_aload_n hx hb d_L_node_0 rfl (lv_at hl 3 rfl) ?_
  refine lv_iconst (v := 0) hx hb d_L_node_1 (by decide) ?_
  refine lv_aload_n hx hb d_L_node_2 rfl (lv_at hl 0 rfl) ?_
  refine lv_iload_n hx hb d_L_node_3 rfl (lv_at hl 1 rfl) ?_
  refine lv_iload_n hx hb d_L_node_4 rfl (lv_at hl 2 rfl) ?_
  refine kb_i (wc := [kb_o h 3 [.ref tp, .ref ld, .ref rd, .ref tr, .ref sp], kb_o tr 2 [.ref r0, .ref r1, .ref r2, .ref r3, .ref r4, .ref r5, .ref r6, .ref r7, .ref r8, .ref r9, .ref r10, .ref r11, .int L, .int P], kb_o r1 1 [.ref a1, .int 1], kb_o r6 1 [.ref a6, .int 1], kb_a G a6 16 (upd (fun _ => 0) 0 0)]) (wr := [kb_j G o 1 (fun _ => 0)]) hE hP hD hS [0, 1, 2, 3, 4] [5] rfl rfl (by decide) (by decide) (kb_rV (As := [.int 0, .int 1]) (rest := [.int 0, .ref o]) (wc := [kb_o h 3 [.ref tp, .ref ld, .ref rd, .ref tr, .ref sp], kb_o tr 2 [.ref r0, .ref r1, .ref r2, .ref r3, .ref r4, .ref r5, .ref r6, .ref r7, .ref r8, .ref r9, .ref r10, .ref r11, .int L, .int P], kb_o r1 1 [.ref a1, .int 1], kb_o r6 1 [.ref a6, .int 1], kb_a G a6 16 (upd (fun _ => 0) 0 0)]) (q0 := 0) ⟨hx, hb, hml, hown, ht⟩ ((c_Press_node1 l G h tp ld rd tr sp r0 r1 r2 r3 r4 r5 r6 r7 r8 r9 r10 r11 L P a1 a6) _) (kb_gV wd_d7066d50 wd_b5701010 wd_f0dfabfd wd_28603eaf wd_58645441) ⟨rfl, hd_62a97cca⟩ ⟨(Nat.le_of_ble_eq_true rfl), (Nat.le_of_ble_eq_true rfl)⟩ hE hP hD hS [0, 1, 2, 3, 4] rfl (by decide) rfl rfl rfl hl.1 rfl (Nat.le_of_ble_eq_true rfl) d_L_node_5 ⟨(Nat.le_of_ble_eq_true rfl), (Nat.le_of_ble_eq_true rfl)⟩) (fun rv2 uu1 H locs hw hP hD hS => ?_)
  have hP : va_P G.1 kb_cl [kb_j G o 1 (fun _ => 0)] H := hP
  have hD : va_D A [kb_j G o 1 (fun _ => 0)] := hD
  refine kb_top (y := 0) (show rv2 = 0 from hw) ?_
  refine lv_i2l (v := (0 : Int32).toInt64) hx hb d_L_node_8 rfl ?_
  refine va_last hx hb hE.1 hP hD hS 0 1 rfl rfl (show ¬ ((0 : Int32) < 0 ∨ 1 ≤ (0 : Int32).toNatClampNeg) by decide) d_L_node_9 (fun H locs hP hD hS => ?_)
  have hP : va_P G.1 kb_cl [kb_j G o 1 (vp_updL (fun _ => 0) 0 ((0 : Int32).toInt64))] H := hP
  have hD : va_D A [kb_j G o 1 (vp_updL (fun _ => 0) 0 ((0 : Int32).toInt64))] := hD
  refine lv_goto (tgt := 21) hx hb d_L_node_10 (by decide) ?_
  refine lv_iconst (v := 0) hx hb d_L_node_21 (by decide) ?_
  exact kb_reti (kb_l [], kb_f []) hx hb hr hlocks hE hP hD hS [0] rfl (by decide) rfl rfl (Nat.le_of_ble_eq_true rfl) (Nat.le_of_ble_eq_true rfl) d_L_node_22

set_option maxHeartbeats 4000000 in
set_option maxRecDepth 100000 in
theorem c_L_node2 (l : Launch) (hst : l.stackTraces = false) (G : kb_G) (h : Nat) (tp : Nat) (ld : Nat) (rd : Nat) (tr : Nat) (sp : Nat) (r0 : Nat) (r1 : Nat) (r2 : Nat) (r3 : Nat) (r4 : Nat) (r5 : Nat) (r6 : Nat) (r7 : Nat) (r8 : Nat) (r9 : Nat) (r10 : Nat) (r11 : Nat) (L : Int32) (P : Int32) (a1 : Nat) (a6 : Nat) (o : Nat) : kb_ch l G ⟨"TreePressLaw", "node", "(LTreePress;II[J)I"⟩ method_9_code 5 (some .int) [(0, 10, 13, 35), (0, 10, 17, 19)] 8 0 0 [.ref h, .int 0, .int 2, .ref o] [kb_o h 3 [.ref tp, .ref ld, .ref rd, .ref tr, .ref sp], kb_o tr 2 [.ref r0, .ref r1, .ref r2, .ref r3, .ref r4, .ref r5, .ref r6, .ref r7, .ref r8, .ref r9, .ref r10, .ref r11, .int L, .int P], kb_o r1 1 [.ref a1, .int 1], kb_o r6 1 [.ref a6, .int 1], kb_a G a6 16 (upd (fun _ => 0) 0 0), kb_j G o 1 (fun _ => 0)] (fun r u => r = 0) (fun u => [kb_j G o 1 (vp_updL (fun _ => 0) 0 (((-1) : Int32).toInt64))]) := by
  refine kb_bodyH (by decide) (Nat.le_of_ble_eq_true rfl) ?_
  intro p e s m below meth c A B htab9 ls hl
  obtain ⟨hx, hb, hr, hml, hlocks, hin, hown, ht, hE, hP, hD, hS⟩ := B
  have hl : lv_has ls 5 [(0, .ref h), (1, .int 0), (2, .int 2), (3, .ref o)] := hl
  have hP0 := hP
  obtain ⟨H, hHe⟩ : ∃ H, H = s.heap := ⟨_, rfl⟩
  rw [← hHe] at hP
  have hS : va_S A s.heap H [] := by rw [hHe]; exact hS
  refine kb_at hHe ?_
  clear hHe
  obtain ⟨z0, z1, htab, hz0, hz1⟩ := kb_tab2 htab9
  refine lv_aload_n hx hb d_L_node_0 rfl (lv_at hl 3 rfl) ?_
  refine lv_iconst (v := 0) hx hb d_L_node_1 (by decide) ?_
  refine lv_aload_n hx hb d_L_node_2 rfl (lv_at hl 0 rfl) ?_
  refine lv_iload_n hx hb d_L_node_3 rfl (lv_at hl 1 rfl) ?_
  refine lv_iload_n hx hb d_L_node_4 rfl (lv_at hl 2 rfl) ?_
  refine kb_i (wc := [kb_o h 3 [.ref tp, .ref ld, .ref rd, .ref tr, .ref sp], kb_o tr 2 [.ref r0, .ref r1, .ref r2, .ref r3, .ref r4, .ref r5, .ref r6, .ref r7, .ref r8, .ref r9, .ref r10, .ref r11, .int L, .int P], kb_o r1 1 [.ref a1, .int 1], kb_o r6 1 [.ref a6, .int 1], kb_a G a6 16 (upd (fun _ => 0) 0 0)]) (wr := [kb_j G o 1 (fun _ => 0)]) hE hP hD hS [0, 1, 2, 3, 4] [5] rfl rfl (by decide) (by decide) (kb_rV (As := [.int 0, .int 2]) (rest := [.int 0, .ref o]) (wc := [kb_o h 3 [.ref tp, .ref ld, .ref rd, .ref tr, .ref sp], kb_o tr 2 [.ref r0, .ref r1, .ref r2, .ref r3, .ref r4, .ref r5, .ref r6, .ref r7, .ref r8, .ref r9, .ref r10, .ref r11, .int L, .int P], kb_o r1 1 [.ref a1, .int 1], kb_o r6 1 [.ref a6, .int 1], kb_a G a6 16 (upd (fun _ => 0) 0 0)]) (q0 := 0) ⟨hx, hb, hml, hown, ht⟩ ((c_Press_node2 l G h tp ld rd tr sp r0 r1 r2 r3 r4 r5 r6 r7 r8 r9 r10 r11 L P a1 a6) _) (kb_gV wd_d7066d50 wd_b5701010 wd_f0dfabfd wd_28603eaf wd_58645441) ⟨rfl, hd_62a97cca⟩ ⟨(Nat.le_of_ble_eq_true rfl), (Nat.le_of_ble_eq_true rfl)⟩ hE hP hD hS [0, 1, 2, 3, 4] rfl (by decide) rfl rfl rfl hl.1 rfl (Nat.le_of_ble_eq_true rfl) d_L_node_5 ⟨(Nat.le_of_ble_eq_true rfl), (Nat.le_of_ble_eq_true rfl)⟩) (fun rv2 uu1 H locs hw hP hD hS => ?_)
  have hP : va_P G.1 kb_cl [kb_j G o 1 (fun _ => 0)] H := hP
  have hD : va_D A [kb_j G o 1 (fun _ => 0)] := hD
  refine kb_top (y := (-1)) (show rv2 = (-1) from hw) ?_
  refine lv_i2l (v := ((-1) : Int32).toInt64) hx hb d_L_node_8 rfl ?_
  refine va_last hx hb hE.1 hP hD hS 0 1 rfl rfl (show ¬ ((0 : Int32) < 0 ∨ 1 ≤ (0 : Int32).toNatClampNeg) by decide) d_L_node_9 (fun H locs hP hD hS => ?_)
  have hP : va_P G.1 kb_cl [kb_j G o 1 (vp_updL (fun _ => 0) 0 (((-1) : Int32).toInt64))] H := hP
  have hD : va_D A [kb_j G o 1 (vp_updL (fun _ => 0) 0 (((-1) : Int32).toInt64))] := hD
  refine lv_goto (tgt := 21) hx hb d_L_node_10 (by decide) ?_
  refine lv_iconst (v := 0) hx hb d_L_node_21 (by decide) ?_
  exact kb_reti (kb_l [], kb_f []) hx hb hr hlocks hE hP hD hS [0] rfl (by decide) rfl rfl (Nat.le_of_ble_eq_true rfl) (Nat.le_of_ble_eq_true rfl) d_L_node_22

set_option maxHeartbeats 4000000 in
set_option maxRecDepth 100000 in
theorem c_L_node3 (l : Launch) (hst : l.stackTraces = false) (G : kb_G) (h : Nat) (tp : Nat) (ld : Nat) (rd : Nat) (tr : Nat) (sp : Nat) (r0 : Nat) (r1 : Nat) (r2 : Nat) (r3 : Nat) (r4 : Nat) (r5 : Nat) (r6 : Nat) (r7 : Nat) (r8 : Nat) (r9 : Nat) (r10 : Nat) (r11 : Nat) (L : Int32) (P : Int32) (a1 : Nat) (a4 : Nat) (o : Nat) : kb_ch l G ⟨"TreePressLaw", "node", "(LTreePress;II[J)I"⟩ method_9_code 5 (some .int) [(0, 10, 13, 35), (0, 10, 17, 19)] 8 0 0 [.ref h, .int 0, .int 3, .ref o] [kb_o h 3 [.ref tp, .ref ld, .ref rd, .ref tr, .ref sp], kb_o tr 2 [.ref r0, .ref r1, .ref r2, .ref r3, .ref r4, .ref r5, .ref r6, .ref r7, .ref r8, .ref r9, .ref r10, .ref r11, .int L, .int P], kb_o r1 1 [.ref a1, .int 1], kb_o r4 1 [.ref a4, .int 1], kb_a G a4 16 (upd (fun _ => 0) 0 0), kb_j G o 1 (fun _ => 0)] (fun r u => r = 0) (fun u => [kb_j G o 1 (vp_updL (fun _ => 0) 0 ((0 : Int32).toInt64))]) := by
  refine kb_bodyH (by decide) (Nat.le_of_ble_eq_true rfl) ?_
  intro p e s m below meth c A B htab9 ls hl
  obtain ⟨hx, hb, hr, hml, hlocks, hin, hown, ht, hE, hP, hD, hS⟩ := B
  have hl : lv_has ls 5 [(0, .ref h), (1, .int 0), (2, .int 3), (3, .ref o)] := hl
  have hP0 := hP
  obtain ⟨H, hHe⟩ : ∃ H, H = s.heap := ⟨_, rfl⟩
  rw [← hHe] at hP
  have hS : va_S A s.heap H [] := by rw [hHe]; exact hS
  refine kb_at hHe ?_
  clear hHe
  obtain ⟨z0, z1, htab, hz0, hz1⟩ := kb_tab2 htab9
  refine lv_aload_n hx hb d_L_node_0 rfl (lv_at hl 3 rfl) ?_
  refine lv_iconst (v := 0) hx hb d_L_node_1 (by decide) ?_
  refine lv_aload_n hx hb d_L_node_2 rfl (lv_at hl 0 rfl) ?_
  refine lv_iload_n hx hb d_L_node_3 rfl (lv_at hl 1 rfl) ?_
  refine lv_iload_n hx hb d_L_node_4 rfl (lv_at hl 2 rfl) ?_
  refine kb_i (wc := [kb_o h 3 [.ref tp, .ref ld, .ref rd, .ref tr, .ref sp], kb_o tr 2 [.ref r0, .ref r1, .ref r2, .ref r3, .ref r4, .ref r5, .ref r6, .ref r7, .ref r8, .ref r9, .ref r10, .ref r11, .int L, .int P], kb_o r1 1 [.ref a1, .int 1], kb_o r4 1 [.ref a4, .int 1], kb_a G a4 16 (upd (fun _ => 0) 0 0)]) (wr := [kb_j G o 1 (fun _ => 0)]) hE hP hD hS [0, 1, 2, 3, 4] [5] rfl rfl (by decide) (by decide) (kb_rV (As := [.int 0, .int 3]) (rest := [.int 0, .ref o]) (wc := [kb_o h 3 [.ref tp, .ref ld, .ref rd, .ref tr, .ref sp], kb_o tr 2 [.ref r0, .ref r1, .ref r2, .ref r3, .ref r4, .ref r5, .ref r6, .ref r7, .ref r8, .ref r9, .ref r10, .ref r11, .int L, .int P], kb_o r1 1 [.ref a1, .int 1], kb_o r4 1 [.ref a4, .int 1], kb_a G a4 16 (upd (fun _ => 0) 0 0)]) (q0 := 0) ⟨hx, hb, hml, hown, ht⟩ ((c_Press_node3 l G h tp ld rd tr sp r0 r1 r2 r3 r4 r5 r6 r7 r8 r9 r10 r11 L P a1 a4) _) (kb_gV wd_d7066d50 wd_b5701010 wd_f0dfabfd wd_28603eaf wd_58645441) ⟨rfl, hd_62a97cca⟩ ⟨(Nat.le_of_ble_eq_true rfl), (Nat.le_of_ble_eq_true rfl)⟩ hE hP hD hS [0, 1, 2, 3, 4] rfl (by decide) rfl rfl rfl hl.1 rfl (Nat.le_of_ble_eq_true rfl) d_L_node_5 ⟨(Nat.le_of_ble_eq_true rfl), (Nat.le_of_ble_eq_true rfl)⟩) (fun rv2 uu1 H locs hw hP hD hS => ?_)
  have hP : va_P G.1 kb_cl [kb_j G o 1 (fun _ => 0)] H := hP
  have hD : va_D A [kb_j G o 1 (fun _ => 0)] := hD
  refine kb_top (y := 0) (show rv2 = 0 from hw) ?_
  refine lv_i2l (v := (0 : Int32).toInt64) hx hb d_L_node_8 rfl ?_
  refine va_last hx hb hE.1 hP hD hS 0 1 rfl rfl (show ¬ ((0 : Int32) < 0 ∨ 1 ≤ (0 : Int32).toNatClampNeg) by decide) d_L_node_9 (fun H locs hP hD hS => ?_)
  have hP : va_P G.1 kb_cl [kb_j G o 1 (vp_updL (fun _ => 0) 0 ((0 : Int32).toInt64))] H := hP
  have hD : va_D A [kb_j G o 1 (vp_updL (fun _ => 0) 0 ((0 : Int32).toInt64))] := hD
  refine lv_goto (tgt := 21) hx hb d_L_node_10 (by decide) ?_
  refine lv_iconst (v := 0) hx hb d_L_node_21 (by decide) ?_
  exact kb_reti (kb_l [], kb_f []) hx hb hr hlocks hE hP hD hS [0] rfl (by decide) rfl rfl (Nat.le_of_ble_eq_true rfl) (Nat.le_of_ble_eq_true rfl) d_L_node_22

set_option maxHeartbeats 4000000 in
set_option maxRecDepth 100000 in
theorem c_L_nodeX1 (l : Launch) (hst : l.stackTraces = false) (G : kb_G) (h : Nat) (tp : Nat) (ld : Nat) (rd : Nat) (tr : Nat) (sp : Nat) (r0 : Nat) (r1 : Nat) (r2 : Nat) (r3 : Nat) (r4 : Nat) (r5 : Nat) (r6 : Nat) (r7 : Nat) (r8 : Nat) (r9 : Nat) (r10 : Nat) (r11 : Nat) (L : Int32) (P : Int32) (a1 : Nat) (i : Int32) (k : Int32) (o : Nat) (hi : ¬ i = 0) : kb_ch l G ⟨"TreePressLaw", "node", "(LTreePress;II[J)I"⟩ method_9_code 5 (some .int) [(0, 10, 13, 35), (0, 10, 17, 19)] 8 1 6 [.ref h, .int i, .int k, .ref o] [kb_o h 3 [.ref tp, .ref ld, .ref rd, .ref tr, .ref sp], kb_o tr 2 [.ref r0, .ref r1, .ref r2, .ref r3, .ref r4, .ref r5, .ref r6, .ref r7, .ref r8, .ref r9, .ref r10, .ref r11, .int L, .int P], kb_o r1 1 [.ref a1, .int 1], kb_j G o 1 (fun _ => 0)] (fun r u => r = 1) (fun u => [kb_j G o 1 (fun _ => 0)]) := by
  refine kb_bodyH (by decide) (Nat.le_of_ble_eq_true rfl) ?_
  intro p e s m below meth c A B htab9 ls hl
  obtain ⟨hx, hb, hr, hml, hlocks, hin, hown, ht, hE, hP, hD, hS⟩ := B
  have hl : lv_has ls 5 [(0, .ref h), (1, .int i), (2, .int k), (3, .ref o)] := hl
  have hP0 := hP
  obtain ⟨H, hHe⟩ : ∃ H, H = s.heap := ⟨_, rfl⟩
  rw [← hHe] at hP
  have hS : va_S A s.heap H [] := by rw [hHe]; exact hS
  refine kb_at hHe ?_
  clear hHe
  obtain ⟨z0, z1, htab, hz0, hz1⟩ := kb_tab2 htab9
  refine lv_aload_n hx hb d_L_node_0 rfl (lv_at hl 3 rfl) ?_
  refine lv_iconst (v := 0) hx hb d_L_node_1 (by decide) ?_
  refine lv_aload_n hx hb d_L_node_2 rfl (lv_at hl 0 rfl) ?_
  refine lv_iload_n hx hb d_L_node_3 rfl (lv_at hl 1 rfl) ?_
  refine lv_iload_n hx hb d_L_node_4 rfl (lv_at hl 2 rfl) ?_
  refine kb_xV (As := [.int i, .int k]) (rest := [.int 0, .ref o]) (wc := [kb_o h 3 [.ref tp, .ref ld, .ref rd, .ref tr, .ref sp], kb_o tr 2 [.ref r0, .ref r1, .ref r2, .ref r3, .ref r4, .ref r5, .ref r6, .ref r7, .ref r8, .ref r9, .ref r10, .ref r11, .int L, .int P], kb_o r1 1 [.ref a1, .int 1]]) (wr := [kb_j G o 1 (fun _ => 0)]) (q0 := 0) ⟨hx, hb, hml, hown, ht⟩ (c_Press_nodeX1 l hst G h tp ld rd tr sp r0 r1 r2 r3 r4 r5 r6 r7 r8 r9 r10 r11 L P a1 i k hi) wd_d7066d50 wd_b5701010 wd_f0dfabfd wd_28603eaf wd_58645441 hd_62a97cca ⟨(Nat.le_of_ble_eq_true rfl), (Nat.le_of_ble_eq_true rfl)⟩ hE hP hD hS [0, 1, 2] [3] rfl rfl (by decide) (by decide) (by decide) rfl rfl rfl hl.1 rfl (Nat.le_of_ble_eq_true rfl) d_L_node_5 ⟨(Nat.le_of_ble_eq_true rfl), (Nat.le_of_ble_eq_true rfl)⟩ (fun q9 ce H locs hce hcv hcl hP hD hS => ?_)
  refine kb_catch1 (own := "TreePressLaw") (name := "java/lang/IndexOutOfBoundsException") (E := "java/lang/IndexOutOfBoundsException") hown htab (by rw [hz0]; decide) (by rw [hz0]; decide) (by rw [hz0]; exact ht _ wd_e765ff14) (va_Nw.use rfl (hE.2.2.1.2.1 _ (by decide +kernel : ("java/lang/IndexOutOfBoundsException", "java/lang/IndexOutOfBoundsException") ∈ kb_cast))) hce hcv hcl ?_
  rw [hz0]
  show W p l e _ s m _ below meth c H locs _ _ _ (F0 m 13 ls [.ref q9])
  refine lv_astore (lv' := [(4, .ref q9), (0, .ref h), (1, .int i), (2, .int k), (3, .ref o)]) hx hb d_L_node_13 hl (by decide) rfl (fun ls hl => ?_)
  refine lv_iconst (v := 1) hx hb d_L_node_15 (by decide) ?_
  exact kb_reti (kb_l [], kb_f []) hx hb hr hlocks hE hP hD hS [0] rfl (by decide) rfl rfl (Nat.le_of_ble_eq_true rfl) (Nat.le_of_ble_eq_true rfl) d_L_node_16

set_option maxHeartbeats 4000000 in
set_option maxRecDepth 100000 in
theorem c_L_nodeX2 (l : Launch) (hst : l.stackTraces = false) (G : kb_G) (h : Nat) (tp : Nat) (ld : Nat) (rd : Nat) (tr : Nat) (sp : Nat) (r0 : Nat) (r1 : Nat) (r2 : Nat) (r3 : Nat) (r4 : Nat) (r5 : Nat) (r6 : Nat) (r7 : Nat) (r8 : Nat) (r9 : Nat) (r10 : Nat) (r11 : Nat) (L : Int32) (P : Int32) (a1 : Nat) (k : Int32) (o : Nat) (hk : k.toInt < 0 ∨ 3 < k.toInt) : kb_ch l G ⟨"TreePressLaw", "node", "(LTreePress;II[J)I"⟩ method_9_code 5 (some .int) [(0, 10, 13, 35), (0, 10, 17, 19)] 8 1 6 [.ref h, .int 0, .int k, .ref o] [kb_o h 3 [.ref tp, .ref ld, .ref rd, .ref tr, .ref sp], kb_o tr 2 [.ref r0, .ref r1, .ref r2, .ref r3, .ref r4, .ref r5, .ref r6, .ref r7, .ref r8, .ref r9, .ref r10, .ref r11, .int L, .int P], kb_o r1 1 [.ref a1, .int 1], kb_j G o 1 (fun _ => 0)] (fun r u => r = 2) (fun u => [kb_j G o 1 (fun _ => 0)]) := by
  refine kb_bodyH (by decide) (Nat.le_of_ble_eq_true rfl) ?_
  intro p e s m below meth c A B htab9 ls hl
  obtain ⟨hx, hb, hr, hml, hlocks, hin, hown, ht, hE, hP, hD, hS⟩ := B
  have hl : lv_has ls 5 [(0, .ref h), (1, .int 0), (2, .int k), (3, .ref o)] := hl
  have hP0 := hP
  obtain ⟨H, hHe⟩ : ∃ H, H = s.heap := ⟨_, rfl⟩
  rw [← hHe] at hP
  have hS : va_S A s.heap H [] := by rw [hHe]; exact hS
  refine kb_at hHe ?_
  clear hHe
  obtain ⟨z0, z1, htab, hz0, hz1⟩ := kb_tab2 htab9
  refine lv_aload_n hx hb d_L_node_0 rfl (lv_at hl 3 rfl) ?_
  refine lv_iconst (v := 0) hx hb d_L_node_1 (by decide) ?_
  refine lv_aload_n hx hb d_L_node_2 rfl (lv_at hl 0 rfl) ?_
  refine lv_iload_n hx hb d_L_node_3 rfl (lv_at hl 1 rfl) ?_
  refine lv_iload_n hx hb d_L_node_4 rfl (lv_at hl 2 rfl) ?_
  refine kb_xV (As := [.int 0, .int k]) (rest := [.int 0, .ref o]) (wc := [kb_o h 3 [.ref tp, .ref ld, .ref rd, .ref tr, .ref sp], kb_o tr 2 [.ref r0, .ref r1, .ref r2, .ref r3, .ref r4, .ref r5, .ref r6, .ref r7, .ref r8, .ref r9, .ref r10, .ref r11, .int L, .int P], kb_o r1 1 [.ref a1, .int 1]]) (wr := [kb_j G o 1 (fun _ => 0)]) (q0 := 0) ⟨hx, hb, hml, hown, ht⟩ (c_Press_nodeX2 l hst G h tp ld rd tr sp r0 r1 r2 r3 r4 r5 r6 r7 r8 r9 r10 r11 L P a1 k hk) wd_d7066d50 wd_b5701010 wd_f0dfabfd wd_28603eaf wd_58645441 hd_62a97cca ⟨(Nat.le_of_ble_eq_true rfl), (Nat.le_of_ble_eq_true rfl)⟩ hE hP hD hS [0, 1, 2] [3] rfl rfl (by decide) (by decide) (by decide) rfl rfl rfl hl.1 rfl (Nat.le_of_ble_eq_true rfl) d_L_node_5 ⟨(Nat.le_of_ble_eq_true rfl), (Nat.le_of_ble_eq_true rfl)⟩ (fun q9 ce H locs hce hcv hcl hP hD hS => ?_)
  refine kb_catch2 (own := "TreePressLaw") (nam1 := "java/lang/IndexOutOfBoundsException") (name := "java/lang/IllegalArgumentException") (E := "java/lang/IllegalArgumentException") hown htab (by rw [hz0]; decide) (by rw [hz0]; decide) (by rw [hz0]; exact ht _ wd_e765ff14) hE.2.2.1.2.2.2.1 (by rw [hz1]; decide) (by rw [hz1]; decide) (by rw [hz1]; exact ht _ wd_2071fac9) (va_Nw.use rfl (hE.2.2.1.2.1 _ (by decide +kernel : ("java/lang/IllegalArgumentException", "java/lang/IllegalArgumentException") ∈ kb_cast))) hce hcv hcl ?_
  rw [hz1]
  show W p l e _ s m _ below meth c H locs _ _ _ (F0 m 17 ls [.ref q9])
  refine lv_astore (lv' := [(4, .ref q9), (0, .ref h), (1, .int 0), (2, .int k), (3, .ref o)]) hx hb d_L_node_17 hl (by decide) rfl (fun ls hl => ?_)
  refine lv_iconst (v := 2) hx hb d_L_node_19 (by decide) ?_
  exact kb_reti (kb_l [], kb_f []) hx hb hr hlocks hE hP hD hS [0] rfl (by decide) rfl rfl (Nat.le_of_ble_eq_true rfl) (Nat.le_of_ble_eq_true rfl) d_L_node_20

set_option maxHeartbeats 4000000 in
set_option maxRecDepth 100000 in
theorem c_L_about (l : Launch) (hst : l.stackTraces = false) (G : kb_G) (h : Nat) (tp : Nat) (ld : Nat) (rd : Nat) (tr : Nat) (sp : Nat) (r0 : Nat) (r1 : Nat) (r2 : Nat) (r3 : Nat) (r4 : Nat) (r5 : Nat) (r6 : Nat) (r7 : Nat) (r8 : Nat) (r9 : Nat) (r10 : Nat) (r11 : Nat) (L : Int32) (P : Int32) (a7 : Nat) (i : Int32) (k : Int32) (o : Nat) : kb_ch l G ⟨"TreePressLaw", "about", "(LTreePress;II[J)I"⟩ method_10_code 5 (some .int) [(0, 10, 13, 35), (0, 10, 17, 19)] 8 1 6 [.ref h, .int i, .int k, .ref o] [kb_o h 3 [.ref tp, .ref ld, .ref rd, .ref tr, .ref sp], kb_o tr 2 [.ref r0, .ref r1, .ref r2, .ref r3, .ref r4, .ref r5, .ref r6, .ref r7, .ref r8, .ref r9, .ref r10, .ref r11, .int L, .int P], kb_o r7 1 [.ref a7, .int 0], kb_j G o 1 (fun _ => 0)] (fun r u => r = 1) (fun u => [kb_j G o 1 (fun _ => 0)]) := by
  refine kb_bodyH (by decide) (Nat.le_of_ble_eq_true rfl) ?_
  intro p e s m below meth c A B htab9 ls hl
  obtain ⟨hx, hb, hr, hml, hlocks, hin, hown, ht, hE, hP, hD, hS⟩ := B
  have hl : lv_has ls 5 [(0, .ref h), (1, .int i), (2, .int k), (3, .ref o)] := hl
  have hP0 := hP
  obtain ⟨H, hHe⟩ : ∃ H, H = s.heap := ⟨_, rfl⟩
  rw [← hHe] at hP
  have hS : va_S A s.heap H [] := by rw [hHe]; exact hS
  refine kb_at hHe ?_
  clear hHe
  obtain ⟨z0, z1, htab, hz0, hz1⟩ := kb_tab2 htab9
  refine lv_aload_n hx hb d_L_about_0 rfl (lv_at hl 3 rfl) ?_
  refine lv_iconst (v := 0) hx hb d_L_about_1 (by decide) ?_
  refine lv_aload_n hx hb d_L_about_2 rfl (lv_at hl 0 rfl) ?_
  refine lv_iload_n hx hb d_L_about_3 rfl (lv_at hl 1 rfl) ?_
  refine lv_iload_n hx hb d_L_about_4 rfl (lv_at hl 2 rfl) ?_
  refine kb_xV (As := [.int i, .int k]) (rest := [.int 0, .ref o]) (wc := [kb_o h 3 [.ref tp, .ref ld, .ref rd, .ref tr, .ref sp], kb_o tr 2 [.ref r0, .ref r1, .ref r2, .ref r3, .ref r4, .ref r5, .ref r6, .ref r7, .ref r8, .ref r9, .ref r10, .ref r11, .int L, .int P], kb_o r7 1 [.ref a7, .int 0]]) (wr := [kb_j G o 1 (fun _ => 0)]) (q0 := 0) ⟨hx, hb, hml, hown, ht⟩ (c_Press_aboutX l hst G h tp ld rd tr sp r0 r1 r2 r3 r4 r5 r6 r7 r8 r9 r10 r11 L P a7 i k) wd_da6da33e wd_7a18fc30 wd_0b856329 wd_28603eaf wd_24733453 hd_06387d76 ⟨(Nat.le_of_ble_eq_true rfl), (Nat.le_of_ble_eq_true rfl)⟩ hE hP hD hS [0, 1, 2] [3] rfl rfl (by decide) (by decide) (by decide) rfl rfl rfl hl.1 rfl (Nat.le_of_ble_eq_true rfl) d_L_about_5 ⟨(Nat.le_of_ble_eq_true rfl), (Nat.le_of_ble_eq_true rfl)⟩ (fun q9 ce H locs hce hcv hcl hP hD hS => ?_)
  refine kb_catch1 (own := "TreePressLaw") (name := "java/lang/IndexOutOfBoundsException") (E := "java/lang/IndexOutOfBoundsException") hown htab (by rw [hz0]; decide) (by rw [hz0]; decide) (by rw [hz0]; exact ht _ wd_e765ff14) (va_Nw.use rfl (hE.2.2.1.2.1 _ (by decide +kernel : ("java/lang/IndexOutOfBoundsException", "java/lang/IndexOutOfBoundsException") ∈ kb_cast))) hce hcv hcl ?_
  rw [hz0]
  show W p l e _ s m _ below meth c H locs _ _ _ (F0 m 13 ls [.ref q9])
  refine lv_astore (lv' := [(4, .ref q9), (0, .ref h), (1, .int i), (2, .int k), (3, .ref o)]) hx hb d_L_about_13 hl (by decide) rfl (fun ls hl => ?_)
  refine lv_iconst (v := 1) hx hb d_L_about_15 (by decide) ?_
  exact kb_reti (kb_l [], kb_f []) hx hb hr hlocks hE hP hD hS [0] rfl (by decide) rfl rfl (Nat.le_of_ble_eq_true rfl) (Nat.le_of_ble_eq_true rfl) d_L_about_16

set_option maxHeartbeats 4000000 in
set_option maxRecDepth 100000 in
theorem c_L_name (l : Launch) (hst : l.stackTraces = false) (G : kb_G) (h : Nat) (tp : Nat) (ld : Nat) (rd : Nat) (tr : Nat) (sp : Nat) (r0 : Nat) (r1 : Nat) (r2 : Nat) (r3 : Nat) (r4 : Nat) (r5 : Nat) (r6 : Nat) (r7 : Nat) (r8 : Nat) (r9 : Nat) (r10 : Nat) (r11 : Nat) (L : Int32) (P : Int32) (a7 : Nat) (i : Int32) (k : Int32) (o : Nat) : kb_ch l G ⟨"TreePressLaw", "name", "(LTreePress;II[J)I"⟩ method_12_code 5 (some .int) [(0, 10, 13, 35)] 8 1 6 [.ref h, .int i, .int k, .ref o] [kb_o h 3 [.ref tp, .ref ld, .ref rd, .ref tr, .ref sp], kb_o tr 2 [.ref r0, .ref r1, .ref r2, .ref r3, .ref r4, .ref r5, .ref r6, .ref r7, .ref r8, .ref r9, .ref r10, .ref r11, .int L, .int P], kb_o r7 1 [.ref a7, .int 0], kb_j G o 1 (fun _ => 0)] (fun r u => r = 1) (fun u => [kb_j G o 1 (fun _ => 0)]) := by
  refine kb_bodyH (by decide) (Nat.le_of_ble_eq_true rfl) ?_
  intro p e s m below meth c A B htab9 ls hl
  obtain ⟨hx, hb, hr, hml, hlocks, hin, hown, ht, hE, hP, hD, hS⟩ := B
  have hl : lv_has ls 5 [(0, .ref h), (1, .int i), (2, .int k), (3, .ref o)] := hl
  have hP0 := hP
  obtain ⟨H, hHe⟩ : ∃ H, H = s.heap := ⟨_, rfl⟩
  rw [← hHe] at hP
  have hS : va_S A s.heap H [] := by rw [hHe]; exact hS
  refine kb_at hHe ?_
  clear hHe
  obtain ⟨z0, htab, hz0⟩ := kb_tab1 htab9
  refine lv_aload_n hx hb d_L_name_0 rfl (lv_at hl 3 rfl) ?_
  refine lv_iconst (v := 0) hx hb d_L_name_1 (by decide) ?_
  refine lv_aload_n hx hb d_L_name_2 rfl (lv_at hl 0 rfl) ?_
  refine lv_iload_n hx hb d_L_name_3 rfl (lv_at hl 1 rfl) ?_
  refine lv_iload_n hx hb d_L_name_4 rfl (lv_at hl 2 rfl) ?_
  refine kb_xV (As := [.int i, .int k]) (rest := [.int 0, .ref o]) (wc := [kb_o h 3 [.ref tp, .ref ld, .ref rd, .ref tr, .ref sp], kb_o tr 2 [.ref r0, .ref r1, .ref r2, .ref r3, .ref r4, .ref r5, .ref r6, .ref r7, .ref r8, .ref r9, .ref r10, .ref r11, .int L, .int P], kb_o r7 1 [.ref a7, .int 0]]) (wr := [kb_j G o 1 (fun _ => 0)]) (q0 := 0) ⟨hx, hb, hml, hown, ht⟩ (c_Press_nameX l hst G h tp ld rd tr sp r0 r1 r2 r3 r4 r5 r6 r7 r8 r9 r10 r11 L P a7 i k) wd_eb045e86 wd_2420e2e1 wd_01386957 wd_28603eaf wd_d7c1af9c hd_fc260672 ⟨(Nat.le_of_ble_eq_true rfl), (Nat.le_of_ble_eq_true rfl)⟩ hE hP hD hS [0, 1, 2] [3] rfl rfl (by decide) (by decide) (by decide) rfl rfl rfl hl.1 rfl (Nat.le_of_ble_eq_true rfl) d_L_name_5 ⟨(Nat.le_of_ble_eq_true rfl), (Nat.le_of_ble_eq_true rfl)⟩ (fun q9 ce H locs hce hcv hcl hP hD hS => ?_)
  refine kb_catch1 (own := "TreePressLaw") (name := "java/lang/IndexOutOfBoundsException") (E := "java/lang/IndexOutOfBoundsException") hown htab (by rw [hz0]; decide) (by rw [hz0]; decide) (by rw [hz0]; exact ht _ wd_e765ff14) (va_Nw.use rfl (hE.2.2.1.2.1 _ (by decide +kernel : ("java/lang/IndexOutOfBoundsException", "java/lang/IndexOutOfBoundsException") ∈ kb_cast))) hce hcv hcl ?_
  rw [hz0]
  show W p l e _ s m _ below meth c H locs _ _ _ (F0 m 13 ls [.ref q9])
  refine lv_astore (lv' := [(4, .ref q9), (0, .ref h), (1, .int i), (2, .int k), (3, .ref o)]) hx hb d_L_name_13 hl (by decide) rfl (fun ls hl => ?_)
  refine lv_iconst (v := 1) hx hb d_L_name_15 (by decide) ?_
  exact kb_reti (kb_l [], kb_f []) hx hb hr hlocks hE hP hD hS [0] rfl (by decide) rfl rfl (Nat.le_of_ble_eq_true rfl) (Nat.le_of_ble_eq_true rfl) d_L_name_16

set_option maxHeartbeats 4000000 in
set_option maxRecDepth 100000 in
theorem c_L_value (l : Launch) (hst : l.stackTraces = false) (G : kb_G) (h : Nat) (tp : Nat) (ld : Nat) (rd : Nat) (tr : Nat) (sp : Nat) (r0 : Nat) (r1 : Nat) (r2 : Nat) (r3 : Nat) (r4 : Nat) (r5 : Nat) (r6 : Nat) (r7 : Nat) (r8 : Nat) (r9 : Nat) (r10 : Nat) (r11 : Nat) (L : Int32) (P : Int32) (a7 : Nat) (i : Int32) (k : Int32) (o : Nat) : kb_ch l G ⟨"TreePressLaw", "value", "(LTreePress;II[J)I"⟩ method_13_code 5 (some .int) [(0, 10, 13, 35)] 8 1 6 [.ref h, .int i, .int k, .ref o] [kb_o h 3 [.ref tp, .ref ld, .ref rd, .ref tr, .ref sp], kb_o tr 2 [.ref r0, .ref r1, .ref r2, .ref r3, .ref r4, .ref r5, .ref r6, .ref r7, .ref r8, .ref r9, .ref r10, .ref r11, .int L, .int P], kb_o r7 1 [.ref a7, .int 0], kb_j G o 1 (fun _ => 0)] (fun r u => r = 1) (fun u => [kb_j G o 1 (fun _ => 0)]) := by
  refine kb_bodyH (by decide) (Nat.le_of_ble_eq_true rfl) ?_
  intro p e s m below meth c A B htab9 ls hl
  obtain ⟨hx, hb, hr, hml, hlocks, hin, hown, ht, hE, hP, hD, hS⟩ := B
  have hl : lv_has ls 5 [(0, .ref h), (1, .int i), (2, .int k), (3, .ref o)] := hl
  have hP0 := hP
  obtain ⟨H, hHe⟩ : ∃ H, H = s.heap := ⟨_, rfl⟩
  rw [← hHe] at hP
  have hS : va_S A s.heap H [] := by rw [hHe]; exact hS
  refine kb_at hHe ?_
  clear hHe
  obtain ⟨z0, htab, hz0⟩ := kb_tab1 htab9
  refine lv_aload_n hx hb d_L_value_0 rfl (lv_at hl 3 rfl) ?_
  refine lv_iconst (v := 0) hx hb d_L_value_1 (by decide) ?_
  refine lv_aload_n hx hb d_L_value_2 rfl (lv_at hl 0 rfl) ?_
  refine lv_iload_n hx hb d_L_value_3 rfl (lv_at hl 1 rfl) ?_
  refine lv_iload_n hx hb d_L_value_4 rfl (lv_at hl 2 rfl) ?_
  refine kb_xV (As := [.int i, .int k]) (rest := [.int 0, .ref o]) (wc := [kb_o h 3 [.ref tp, .ref ld, .ref rd, .ref tr, .ref sp], kb_o tr 2 [.ref r0, .ref r1, .ref r2, .ref r3, .ref r4, .ref r5, .ref r6, .ref r7, .ref r8, .ref r9, .ref r10, .ref r11, .int L, .int P], kb_o r7 1 [.ref a7, .int 0]]) (wr := [kb_j G o 1 (fun _ => 0)]) (q0 := 0) ⟨hx, hb, hml, hown, ht⟩ (c_Press_valueX l hst G h tp ld rd tr sp r0 r1 r2 r3 r4 r5 r6 r7 r8 r9 r10 r11 L P a7 i k) wd_a7388c06 wd_3643fa52 wd_0842f01c wd_28603eaf wd_87ee8a1f hd_c52d8bed ⟨(Nat.le_of_ble_eq_true rfl), (Nat.le_of_ble_eq_true rfl)⟩ hE hP hD hS [0, 1, 2] [3] rfl rfl (by decide) (by decide) (by decide) rfl rfl rfl hl.1 rfl (Nat.le_of_ble_eq_true rfl) d_L_value_5 ⟨(Nat.le_of_ble_eq_true rfl), (Nat.le_of_ble_eq_true rfl)⟩ (fun q9 ce H locs hce hcv hcl hP hD hS => ?_)
  refine kb_catch1 (own := "TreePressLaw") (name := "java/lang/IndexOutOfBoundsException") (E := "java/lang/IndexOutOfBoundsException") hown htab (by rw [hz0]; decide) (by rw [hz0]; decide) (by rw [hz0]; exact ht _ wd_e765ff14) (va_Nw.use rfl (hE.2.2.1.2.1 _ (by decide +kernel : ("java/lang/IndexOutOfBoundsException", "java/lang/IndexOutOfBoundsException") ∈ kb_cast))) hce hcv hcl ?_
  rw [hz0]
  show W p l e _ s m _ below meth c H locs _ _ _ (F0 m 13 ls [.ref q9])
  refine lv_astore (lv' := [(4, .ref q9), (0, .ref h), (1, .int i), (2, .int k), (3, .ref o)]) hx hb d_L_value_13 hl (by decide) rfl (fun ls hl => ?_)
  refine lv_iconst (v := 1) hx hb d_L_value_15 (by decide) ?_
  exact kb_reti (kb_l [], kb_f []) hx hb hr hlocks hE hP hD hS [0] rfl (by decide) rfl rfl (Nat.le_of_ble_eq_true rfl) (Nat.le_of_ble_eq_true rfl) d_L_value_16

set_option maxHeartbeats 4000000 in
set_option maxRecDepth 100000 in
theorem c_L_nodeNameX1 (l : Launch) (hst : l.stackTraces = false) (G : kb_G) (h : Nat) (tp : Nat) (ld : Nat) (rd : Nat) (tr : Nat) (sp : Nat) (r0 : Nat) (r1 : Nat) (r2 : Nat) (r3 : Nat) (r4 : Nat) (r5 : Nat) (r6 : Nat) (r7 : Nat) (r8 : Nat) (r9 : Nat) (r10 : Nat) (r11 : Nat) (L : Int32) (P : Int32) (a1 : Nat) (i : Int32) (k : Int32) (o : Nat) (hi : ¬ i = 0) : kb_ch l G ⟨"TreePressLaw", "nodeName", "(LTreePress;II[J)I"⟩ method_11_code 5 (some .int) [(0, 10, 13, 35)] 8 1 6 [.ref h, .int i, .int k, .ref o] [kb_o h 3 [.ref tp, .ref ld, .ref rd, .ref tr, .ref sp], kb_o tr 2 [.ref r0, .ref r1, .ref r2, .ref r3, .ref r4, .ref r5, .ref r6, .ref r7, .ref r8, .ref r9, .ref r10, .ref r11, .int L, .int P], kb_o r1 1 [.ref a1, .int 1], kb_j G o 1 (fun _ => 0)] (fun r u => r = 1) (fun u => [kb_j G o 1 (fun _ => 0)]) := by
  refine kb_bodyH (by decide) (Nat.le_of_ble_eq_true rfl) ?_
  intro p e s m below meth c A B htab9 ls hl
  obtain ⟨hx, hb, hr, hml, hlocks, hin, hown, ht, hE, hP, hD, hS⟩ := B
  have hl : lv_has ls 5 [(0, .ref h), (1, .int i), (2, .int k), (3, .ref o)] := hl
  have hP0 := hP
  obtain ⟨H, hHe⟩ : ∃ H, H = s.heap := ⟨_, rfl⟩
  rw [← hHe] at hP
  have hS : va_S A s.heap H [] := by rw [hHe]; exact hS
  refine kb_at hHe ?_
  clear hHe
  obtain ⟨z0, htab, hz0⟩ := kb_tab1 htab9
  refine lv_aload_n hx hb d_L_nodeName_0 rfl (lv_at hl 3 rfl) ?_
  refine lv_iconst (v := 0) hx hb d_L_nodeName_1 (by decide) ?_
  refine lv_aload_n hx hb d_L_nodeName_2 rfl (lv_at hl 0 rfl) ?_
  refine lv_iload_n hx hb d_L_nodeName_3 rfl (lv_at hl 1 rfl) ?_
  refine lv_iload_n hx hb d_L_nodeName_4 rfl (lv_at hl 2 rfl) ?_
  refine kb_xV (As := [.int i, .int k]) (rest := [.int 0, .ref o]) (wc := [kb_o h 3 [.ref tp, .ref ld, .ref rd, .ref tr, .ref sp], kb_o tr 2 [.ref r0, .ref r1, .ref r2, .ref r3, .ref r4, .ref r5, .ref r6, .ref r7, .ref r8, .ref r9, .ref r10, .ref r11, .int L, .int P], kb_o r1 1 [.ref a1, .int 1]]) (wr := [kb_j G o 1 (fun _ => 0)]) (q0 := 0) ⟨hx, hb, hml, hown, ht⟩ (c_Press_nodeNameX1 l hst G h tp ld rd tr sp r0 r1 r2 r3 r4 r5 r6 r7 r8 r9 r10 r11 L P a1 i k hi) wd_5b0fccb1 wd_51c276bb wd_8e3bfe4b wd_28603eaf wd_e9afbb22 hd_6cdec4e4 ⟨(Nat.le_of_ble_eq_true rfl), (Nat.le_of_ble_eq_true rfl)⟩ hE hP hD hS [0, 1, 2] [3] rfl rfl (by decide) (by decide) (by decide) rfl rfl rfl hl.1 rfl (Nat.le_of_ble_eq_true rfl) d_L_nodeName_5 ⟨(Nat.le_of_ble_eq_true rfl), (Nat.le_of_ble_eq_true rfl)⟩ (fun q9 ce H locs hce hcv hcl hP hD hS => ?_)
  refine kb_catch1 (own := "TreePressLaw") (name := "java/lang/IndexOutOfBoundsException") (E := "java/lang/IndexOutOfBoundsException") hown htab (by rw [hz0]; decide) (by rw [hz0]; decide) (by rw [hz0]; exact ht _ wd_e765ff14) (va_Nw.use rfl (hE.2.2.1.2.1 _ (by decide +kernel : ("java/lang/IndexOutOfBoundsException", "java/lang/IndexOutOfBoundsException") ∈ kb_cast))) hce hcv hcl ?_
  rw [hz0]
  show W p l e _ s m _ below meth c H locs _ _ _ (F0 m 13 ls [.ref q9])
  refine lv_astore (lv' := [(4, .ref q9), (0, .ref h), (1, .int i), (2, .int k), (3, .ref o)]) hx hb d_L_nodeName_13 hl (by decide) rfl (fun ls hl => ?_)
  refine lv_iconst (v := 1) hx hb d_L_nodeName_15 (by decide) ?_
  exact kb_reti (kb_l [], kb_f []) hx hb hr hlocks hE hP hD hS [0] rfl (by decide) rfl rfl (Nat.le_of_ble_eq_true rfl) (Nat.le_of_ble_eq_true rfl) d_L_nodeName_16

set_option maxHeartbeats 4000000 in
set_option maxRecDepth 100000 in
theorem c_L_nodeNameX2 (l : Launch) (hst : l.stackTraces = false) (G : kb_G) (h : Nat) (tp : Nat) (ld : Nat) (rd : Nat) (tr : Nat) (sp : Nat) (r0 : Nat) (r1 : Nat) (r2 : Nat) (r3 : Nat) (r4 : Nat) (r5 : Nat) (r6 : Nat) (r7 : Nat) (r8 : Nat) (r9 : Nat) (r10 : Nat) (r11 : Nat) (L : Int32) (P : Int32) (a1 : Nat) (a4 : Nat) (k : Int32) (o : Nat) : kb_ch l G ⟨"TreePressLaw", "nodeName", "(LTreePress;II[J)I"⟩ method_11_code 5 (some .int) [(0, 10, 13, 35)] 8 1 6 [.ref h, .int 0, .int k, .ref o] [kb_o h 3 [.ref tp, .ref ld, .ref rd, .ref tr, .ref sp], kb_o tr 2 [.ref r0, .ref r1, .ref r2, .ref r3, .ref r4, .ref r5, .ref r6, .ref r7, .ref r8, .ref r9, .ref r10, .ref r11, .int L, .int P], kb_o r1 1 [.ref a1, .int 1], kb_o r4 1 [.ref a4, .int 1], kb_a G a4 16 (upd (fun _ => 0) 0 0), kb_j G o 1 (fun _ => 0)] (fun r u => r = 1) (fun u => [kb_j G o 1 (fun _ => 0)]) := by
  refine kb_bodyH (by decide) (Nat.le_of_ble_eq_true rfl) ?_
  intro p e s m below meth c A B htab9 ls hl
  obtain ⟨hx, hb, hr, hml, hlocks, hin, hown, ht, hE, hP, hD, hS⟩ := B
  have hl : lv_has ls 5 [(0, .ref h), (1, .int 0), (2, .int k), (3, .ref o)] := hl
  have hP0 := hP
  obtain ⟨H, hHe⟩ : ∃ H, H = s.heap := ⟨_, rfl⟩
  rw [← hHe] at hP
  have hS : va_S A s.heap H [] := by rw [hHe]; exact hS
  refine kb_at hHe ?_
  clear hHe
  obtain ⟨z0, htab, hz0⟩ := kb_tab1 htab9
  refine lv_aload_n hx hb d_L_nodeName_0 rfl (lv_at hl 3 rfl) ?_
  refine lv_iconst (v := 0) hx hb d_L_nodeName_1 (by decide) ?_
  refine lv_aload_n hx hb d_L_nodeName_2 rfl (lv_at hl 0 rfl) ?_
  refine lv_iload_n hx hb d_L_nodeName_3 rfl (lv_at hl 1 rfl) ?_
  refine lv_iload_n hx hb d_L_nodeName_4 rfl (lv_at hl 2 rfl) ?_
  refine kb_xV (As := [.int 0, .int k]) (rest := [.int 0, .ref o]) (wc := [kb_o h 3 [.ref tp, .ref ld, .ref rd, .ref tr, .ref sp], kb_o tr 2 [.ref r0, .ref r1, .ref r2, .ref r3, .ref r4, .ref r5, .ref r6, .ref r7, .ref r8, .ref r9, .ref r10, .ref r11, .int L, .int P], kb_o r1 1 [.ref a1, .int 1], kb_o r4 1 [.ref a4, .int 1], kb_a G a4 16 (upd (fun _ => 0) 0 0)]) (wr := [kb_j G o 1 (fun _ => 0)]) (q0 := 0) ⟨hx, hb, hml, hown, ht⟩ (c_Press_nodeNameX2 l hst G h tp ld rd tr sp r0 r1 r2 r3 r4 r5 r6 r7 r8 r9 r10 r11 L P a1 a4 k) wd_5b0fccb1 wd_51c276bb wd_8e3bfe4b wd_28603eaf wd_e9afbb22 hd_6cdec4e4 ⟨(Nat.le_of_ble_eq_true rfl), (Nat.le_of_ble_eq_true rfl)⟩ hE hP hD hS [0, 1, 2, 3, 4] [5] rfl rfl (by decide) (by decide) (by decide) rfl rfl rfl hl.1 rfl (Nat.le_of_ble_eq_true rfl) d_L_nodeName_5 ⟨(Nat.le_of_ble_eq_true rfl), (Nat.le_of_ble_eq_true rfl)⟩ (fun q9 ce H locs hce hcv hcl hP hD hS => ?_)
  refine kb_catch1 (own := "TreePressLaw") (name := "java/lang/IndexOutOfBoundsException") (E := "java/lang/IndexOutOfBoundsException") hown htab (by rw [hz0]; decide) (by rw [hz0]; decide) (by rw [hz0]; exact ht _ wd_e765ff14) (va_Nw.use rfl (hE.2.2.1.2.1 _ (by decide +kernel : ("java/lang/IndexOutOfBoundsException", "java/lang/IndexOutOfBoundsException") ∈ kb_cast))) hce hcv hcl ?_
  rw [hz0]
  show W p l e _ s m _ below meth c H locs _ _ _ (F0 m 13 ls [.ref q9])
  refine lv_astore (lv' := [(4, .ref q9), (0, .ref h), (1, .int 0), (2, .int k), (3, .ref o)]) hx hb d_L_nodeName_13 hl (by decide) rfl (fun ls hl => ?_)
  refine lv_iconst (v := 1) hx hb d_L_nodeName_15 (by decide) ?_
  exact kb_reti (kb_l [], kb_f []) hx hb hr hlocks hE hP hD hS [0] rfl (by decide) rfl rfl (Nat.le_of_ble_eq_true rfl) (Nat.le_of_ble_eq_true rfl) d_L_nodeName_16

set_option maxHeartbeats 4000000 in
set_option maxRecDepth 100000 in
theorem c_L_seek0 (l : Launch) (hst : l.stackTraces = false) (G : kb_G) (h : Nat) (tp : Nat) (ld : Nat) (rd : Nat) (tr : Nat) (sp : Nat) (ta : Nat) (r0 : Nat) (r1 : Nat) (r2 : Nat) (r3 : Nat) (r4 : Nat) (r5 : Nat) (r6 : Nat) (r7 : Nat) (r8 : Nat) (r9 : Nat) (r10 : Nat) (r11 : Nat) (L : Int32) (P : Int32) (a1 : Nat) (a5 : Nat) (a6 : Nat) (o : Nat) : kb_ch l G ⟨"TreePressLaw", "seek", "(LTreePress;I[J)I"⟩ method_14_code 4 (some .int) [(0, 9, 12, 35)] 8 0 0 [.ref h, .int 0, .ref o] [kb_o h 3 [.ref tp, .ref ld, .ref rd, .ref tr, .ref sp], kb_o tp 1 [.ref ta, .int 0], kb_o tr 2 [.ref r0, .ref r1, .ref r2, .ref r3, .ref r4, .ref r5, .ref r6, .ref r7, .ref r8, .ref r9, .ref r10, .ref r11, .int L, .int P], kb_o r1 1 [.ref a1, .int 1], kb_o r5 1 [.ref a5, .int 1], kb_o r6 1 [.ref a6, .int 1], kb_a G a5 16 (upd (fun _ => 0) 0 0), kb_a G a6 16 (upd (fun _ => 0) 0 0), kb_j G o 1 (fun _ => 0)] (fun r u => r = 0) (fun u => [kb_j G o 1 (vp_updL (fun _ => 0) 0 (((-1) : Int32).toInt64))]) := by
  refine kb_bodyH (by decide) (Nat.le_of_ble_eq_true rfl) ?_
  intro p e s m below meth c A B htab9 ls hl
  obtain ⟨hx, hb, hr, hml, hlocks, hin, hown, ht, hE, hP, hD, hS⟩ := B
  have hl : lv_has ls 4 [(0, .ref h), (1, .int 0), (2, .ref o)] := hl
  have hP0 := hP
  obtain ⟨H, hHe⟩ : ∃ H, H = s.heap := ⟨_, rfl⟩
  rw [← hHe] at hP
  have hS : va_S A s.heap H [] := by rw [hHe]; exact hS
  refine kb_at hHe ?_
  clear hHe
  obtain ⟨z0, htab, hz0⟩ := kb_tab1 htab9
  refine lv_aload_n hx hb d_L_seek_0 rfl (lv_at hl 2 rfl) ?_
  refine lv_iconst (v := 0) hx hb d_L_seek_1 (by decide) ?_
  refine lv_aload_n hx hb d_L_seek_2 rfl (lv_at hl 0 rfl) ?_
  refine lv_iload_n hx hb d_L_seek_3 rfl (lv_at hl 1 rfl) ?_
  refine kb_i (wc := [kb_o h 3 [.ref tp, .ref ld, .ref rd, .ref tr, .ref sp], kb_o tp 1 [.ref ta, .int 0], kb_o tr 2 [.ref r0, .ref r1, .ref r2, .ref r3, .ref r4, .ref r5, .ref r6, .ref r7, .ref r8, .ref r9, .ref r10, .ref r11, .int L, .int P], kb_o r1 1 [.ref a1, .int 1], kb_o r5 1 [.ref a5, .int 1], kb_o r6 1 [.ref a6, .int 1], kb_a G a5 16 (upd (fun _ => 0) 0 0), kb_a G a6 16 (upd (fun _ => 0) 0 0)]) (wr := [kb_j G o 1 (fun _ => 0)]) hE hP hD hS [0, 1, 2, 3, 4, 5, 6, 7] [8] rfl rfl (by decide) (by decide) (kb_rV (As := [.int 0]) (rest := [.int 0, .ref o]) (wc := [kb_o h 3 [.ref tp, .ref ld, .ref rd, .ref tr, .ref sp], kb_o tp 1 [.ref ta, .int 0], kb_o tr 2 [.ref r0, .ref r1, .ref r2, .ref r3, .ref r4, .ref r5, .ref r6, .ref r7, .ref r8, .ref r9, .ref r10, .ref r11, .int L, .int P], kb_o r1 1 [.ref a1, .int 1], kb_o r5 1 [.ref a5, .int 1], kb_o r6 1 [.ref a6, .int 1], kb_a G a5 16 (upd (fun _ => 0) 0 0), kb_a G a6 16 (upd (fun _ => 0) 0 0)]) (q0 := 0) ⟨hx, hb, hml, hown, ht⟩ ((c_Press_seek0 l G h tp ld rd tr sp ta r0 r1 r2 r3 r4 r5 r6 r7 r8 r9 r10 r11 L P a1 a5 a6) _) (kb_gV wd_cee75699 wd_91a0fcc3 wd_5f611fbe wd_28603eaf wd_4f57e898) ⟨rfl, hd_6acebe26⟩ ⟨(Nat.le_of_ble_eq_true rfl), (Nat.le_of_ble_eq_true rfl)⟩ hE hP hD hS [0, 1, 2, 3, 4, 5, 6, 7] rfl (by decide) rfl rfl rfl hl.1 rfl (Nat.le_of_ble_eq_true rfl) d_L_seek_4 ⟨(Nat.le_of_ble_eq_true rfl), (Nat.le_of_ble_eq_true rfl)⟩) (fun rv2 uu1 H locs hw hP hD hS => ?_)
  have hP : va_P G.1 kb_cl [kb_j G o 1 (fun _ => 0)] H := hP
  have hD : va_D A [kb_j G o 1 (fun _ => 0)] := hD
  refine kb_top (y := (-1)) (show rv2 = (-1) from hw) ?_
  refine lv_i2l (v := ((-1) : Int32).toInt64) hx hb d_L_seek_7 rfl ?_
  refine va_last hx hb hE.1 hP hD hS 0 1 rfl rfl (show ¬ ((0 : Int32) < 0 ∨ 1 ≤ (0 : Int32).toNatClampNeg) by decide) d_L_seek_8 (fun H locs hP hD hS => ?_)
  have hP : va_P G.1 kb_cl [kb_j G o 1 (vp_updL (fun _ => 0) 0 (((-1) : Int32).toInt64))] H := hP
  have hD : va_D A [kb_j G o 1 (vp_updL (fun _ => 0) 0 (((-1) : Int32).toInt64))] := hD
  refine lv_goto (tgt := 15) hx hb d_L_seek_9 (by decide) ?_
  refine lv_iconst (v := 0) hx hb d_L_seek_15 (by decide) ?_
  exact kb_reti (kb_l [], kb_f []) hx hb hr hlocks hE hP hD hS [0] rfl (by decide) rfl rfl (Nat.le_of_ble_eq_true rfl) (Nat.le_of_ble_eq_true rfl) d_L_seek_16

set_option maxHeartbeats 4000000 in
set_option maxRecDepth 100000 in
theorem c_L_seekX (l : Launch) (hst : l.stackTraces = false) (G : kb_G) (h : Nat) (tp : Nat) (ld : Nat) (rd : Nat) (tr : Nat) (sp : Nat) (r0 : Nat) (r1 : Nat) (r2 : Nat) (r3 : Nat) (r4 : Nat) (r5 : Nat) (r6 : Nat) (r7 : Nat) (r8 : Nat) (r9 : Nat) (r10 : Nat) (r11 : Nat) (L : Int32) (P : Int32) (a1 : Nat) (i : Int32) (o : Nat) (hi : ¬ i = 0) : kb_ch l G ⟨"TreePressLaw", "seek", "(LTreePress;I[J)I"⟩ method_14_code 4 (some .int) [(0, 9, 12, 35)] 8 1 6 [.ref h, .int i, .ref o] [kb_o h 3 [.ref tp, .ref ld, .ref rd, .ref tr, .ref sp], kb_o tr 2 [.ref r0, .ref r1, .ref r2, .ref r3, .ref r4, .ref r5, .ref r6, .ref r7, .ref r8, .ref r9, .ref r10, .ref r11, .int L, .int P], kb_o r1 1 [.ref a1, .int 1], kb_j G o 1 (fun _ => 0)] (fun r u => r = 1) (fun u => [kb_j G o 1 (fun _ => 0)]) := by
  refine kb_bodyH (by decide) (Nat.le_of_ble_eq_true rfl) ?_
  intro p e s m below meth c A B htab9 ls hl
  obtain ⟨hx, hb, hr, hml, hlocks, hin, hown, ht, hE, hP, hD, hS⟩ := B
  have hl : lv_has ls 4 [(0, .ref h), (1, .int i), (2, .ref o)] := hl
  have hP0 := hP
  obtain ⟨H, hHe⟩ : ∃ H, H = s.heap := ⟨_, rfl⟩
  rw [← hHe] at hP
  have hS : va_S A s.heap H [] := by rw [hHe]; exact hS
  refine kb_at hHe ?_
  clear hHe
  obtain ⟨z0, htab, hz0⟩ := kb_tab1 htab9
  refine lv_aload_n hx hb d_L_seek_0 rfl (lv_at hl 2 rfl) ?_
  refine lv_iconst (v := 0) hx hb d_L_seek_1 (by decide) ?_
  refine lv_aload_n hx hb d_L_seek_2 rfl (lv_at hl 0 rfl) ?_
  refine lv_iload_n hx hb d_L_seek_3 rfl (lv_at hl 1 rfl) ?_
  refine kb_xV (As := [.int i]) (rest := [.int 0, .ref o]) (wc := [kb_o h 3 [.ref tp, .ref ld, .ref rd, .ref tr, .ref sp], kb_o tr 2 [.ref r0, .ref r1, .ref r2, .ref r3, .ref r4, .ref r5, .ref r6, .ref r7, .ref r8, .ref r9, .ref r10, .ref r11, .int L, .int P], kb_o r1 1 [.ref a1, .int 1]]) (wr := [kb_j G o 1 (fun _ => 0)]) (q0 := 0) ⟨hx, hb, hml, hown, ht⟩ (c_Press_seekX l hst G h tp ld rd tr sp r0 r1 r2 r3 r4 r5 r6 r7 r8 r9 r10 r11 L P a1 i hi) wd_cee75699 wd_91a0fcc3 wd_5f611fbe wd_28603eaf wd_4f57e898 hd_6acebe26 ⟨(Nat.le_of_ble_eq_true rfl), (Nat.le_of_ble_eq_true rfl)⟩ hE hP hD hS [0, 1, 2] [3] rfl rfl (by decide) (by decide) (by decide) rfl rfl rfl hl.1 rfl (Nat.le_of_ble_eq_true rfl) d_L_seek_4 ⟨(Nat.le_of_ble_eq_true rfl), (Nat.le_of_ble_eq_true rfl)⟩ (fun q9 ce H locs hce hcv hcl hP hD hS => ?_)
  refine kb_catch1 (own := "TreePressLaw") (name := "java/lang/IndexOutOfBoundsException") (E := "java/lang/IndexOutOfBoundsException") hown htab (by rw [hz0]; decide) (by rw [hz0]; decide) (by rw [hz0]; exact ht _ wd_e765ff14) (va_Nw.use rfl (hE.2.2.1.2.1 _ (by decide +kernel : ("java/lang/IndexOutOfBoundsException", "java/lang/IndexOutOfBoundsException") ∈ kb_cast))) hce hcv hcl ?_
  rw [hz0]
  show W p l e _ s m _ below meth c H locs _ _ _ (F0 m 12 ls [.ref q9])
  refine lv_astore_n (lv' := [(3, .ref q9), (0, .ref h), (1, .int i), (2, .ref o)]) hx hb d_L_seek_12 rfl hl (by decide) rfl (fun ls hl => ?_)
  refine lv_iconst (v := 1) hx hb d_L_seek_13 (by decide) ?_
  exact kb_reti (kb_l [], kb_f []) hx hb hr hlocks hE hP hD hS [0] rfl (by decide) rfl rfl (Nat.le_of_ble_eq_true rfl) (Nat.le_of_ble_eq_true rfl) d_L_seek_14
