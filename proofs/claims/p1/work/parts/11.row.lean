theorem wd_ef90978f : (Jvm.Cond.methodLink "TreePress$Row" (3 : Nat) ({ cls := "java/lang/Object", name := "<init>", desc := "()V" } : Jvm.MethodName)) ∈ kb_T := kb_t1 28 (by decide +kernel) (by decide +kernel)
theorem wd_962a1238 : (Jvm.Cond.instanceMethod ({ cls := "java/lang/Object", name := "<init>", desc := "()V" } : Jvm.MethodName)) ∈ kb_T := kb_t1 21 (by decide +kernel) (by decide +kernel)
theorem wd_b2b9d69d : (Jvm.Cond.code ({ cls := "java/lang/Object", name := "<init>", desc := "()V" } : Jvm.MethodName) object_method_1_code (1 : Nat) (Option.none : Option Jvm.ClassFile.FieldType)) ∈ kb_T := kb_t1 22 (by decide +kernel) (by decide +kernel)
theorem wd_298d195d : (Jvm.Cond.arrayClass Jvm.ClassFile.FieldType.int) ∈ kb_T := kb_t1 36 (by decide +kernel) (by decide +kernel)
theorem wd_aac26352 : (Jvm.Cond.fieldLink "TreePress$Row" (9 : Nat) "TreePress$Row" "cells" "[I") ∈ kb_T := kb_t1 29 (by decide +kernel) (by decide +kernel)
theorem wd_14b1fe24 : (Jvm.Cond.fieldLink "TreePress$Row" (15 : Nat) "TreePress$Row" "length" "I") ∈ kb_T := kb_t1 30 (by decide +kernel) (by decide +kernel)
theorem wd_7ee5459b : (Jvm.Cond.methodLink "java/util/Arrays" (304 : Nat) ({ cls := "java/lang/Math", name := "min", desc := "(II)I" } : Jvm.MethodName)) ∈ kb_T := kb_t1 99 (by decide +kernel) (by decide +kernel)
theorem wd_3a7a32ed : (Jvm.Cond.static ({ cls := "java/lang/Math", name := "min", desc := "(II)I" } : Jvm.MethodName)) ∈ kb_T := kb_t1 100 (by decide +kernel) (by decide +kernel)
theorem wd_5a0cff89 : (Jvm.Cond.initialized "java/lang/Math") ∈ kb_T := kb_t1 6 (by decide +kernel) (by decide +kernel)
theorem wd_c98a754a : (Jvm.Cond.code ({ cls := "java/lang/Math", name := "min", desc := "(II)I" } : Jvm.MethodName) prog_12_method_69_code (2 : Nat) (Option.some Jvm.ClassFile.FieldType.int)) ∈ kb_T := kb_t1 101 (by decide +kernel) (by decide +kernel)
theorem wd_344f678d : (Jvm.Cond.methodLink "java/util/Arrays" (150 : Nat) ({ cls := "java/lang/System", name := "arraycopy", desc := "(Ljava/lang/Object;ILjava/lang/Object;II)V" } : Jvm.MethodName)) ∈ kb_T := kb_t1 102 (by decide +kernel) (by decide +kernel)
theorem wd_be8e62b0 : (Jvm.Cond.native ({ cls := "java/lang/System", name := "arraycopy", desc := "(Ljava/lang/Object;ILjava/lang/Object;II)V" } : Jvm.MethodName)) ∈ kb_T := kb_t1 104 (by decide +kernel) (by decide +kernel)
theorem wd_7f6f8fc1 : (Jvm.Cond.static ({ cls := "java/lang/System", name := "arraycopy", desc := "(Ljava/lang/Object;ILjava/lang/Object;II)V" } : Jvm.MethodName)) ∈ kb_T := kb_t1 103 (by decide +kernel) (by decide +kernel)
theorem wd_ef343630 : (Jvm.Cond.initialized "java/lang/System") ∈ kb_T := kb_t1 7 (by decide +kernel) (by decide +kernel)
theorem wd_28377cc0 : (Jvm.Cond.constant "TreePress$Row" (19 : Nat) (65536 : Int32)) ∈ kb_T := kb_t1 88 (by decide +kernel) (by decide +kernel)
theorem wd_ad853a53 : (Jvm.Cond.code ({ cls := "java/util/Arrays", name := "copyOf", desc := "([II)[I" } : Jvm.MethodName) prog_17_method_123_code (3 : Nat) (Option.some (Jvm.ClassFile.FieldType.array Jvm.ClassFile.FieldType.int))) ∈ kb_T := kb_t1 91 (by decide +kernel) (by decide +kernel)
theorem wd_b0593275 : (Jvm.Cond.initialized "java/util/Arrays") ∈ kb_T := kb_t1 5 (by decide +kernel) (by decide +kernel)
theorem wd_4e6ae1d1 : (Jvm.Cond.methodLink "TreePress$Row" (20 : Nat) ({ cls := "java/util/Arrays", name := "copyOf", desc := "([II)[I" } : Jvm.MethodName)) ∈ kb_T := kb_t1 89 (by decide +kernel) (by decide +kernel)
theorem wd_af4c3967 : (Jvm.Cond.static ({ cls := "java/util/Arrays", name := "copyOf", desc := "([II)[I" } : Jvm.MethodName)) ∈ kb_T := kb_t1 90 (by decide +kernel) (by decide +kernel)
theorem hd_c5a1602a : (⟨"java/util/Arrays", "copyOf", "([II)[I"⟩ : MethodName).cls ≠ "java/lang/invoke/MethodHandle" ∧ (⟨"java/util/Arrays", "copyOf", "([II)[I"⟩ : MethodName).cls ≠ "java/lang/invoke/VarHandle" ∧ (parseMethodDescriptor (⟨"java/util/Arrays", "copyOf", "([II)[I"⟩ : MethodName).desc).map (fun d => d.parameters.length) = some 2 := by decide +kernel
theorem d_Row_init_0 : decode prog_3_method_1_code 0 = .ok (.aload_n 0, 1) := by decide +kernel
theorem d_Row_init_1 : decode prog_3_method_1_code 1 = .ok (.invokespecial 3, 3) := by decide +kernel
theorem d_Row_init_4 : decode prog_3_method_1_code 4 = .ok (.aload_n 0, 1) := by decide +kernel
theorem d_Row_init_5 : decode prog_3_method_1_code 5 = .ok (.bipush 16, 2) := by decide +kernel
theorem d_Row_init_7 : decode prog_3_method_1_code 7 = .ok (.newarray .int, 2) := by decide +kernel
theorem d_Row_init_9 : decode prog_3_method_1_code 9 = .ok (.putfield 9, 3) := by decide +kernel
theorem d_Row_init_12 : decode prog_3_method_1_code 12 = .ok (.aload_n 0, 1) := by decide +kernel
theorem d_Row_init_13 : decode prog_3_method_1_code 13 = .ok (.iconst 0, 1) := by decide +kernel
theorem d_Row_init_14 : decode prog_3_method_1_code 14 = .ok (.putfield 15, 3) := by decide +kernel
theorem d_Row_init_17 : decode prog_3_method_1_code 17 = .ok (.return_, 1) := by decide +kernel
theorem d_Row_length_0 : decode prog_3_method_2_code 0 = .ok (.aload_n 0, 1) := by decide +kernel
theorem d_Row_length_1 : decode prog_3_method_2_code 1 = .ok (.getfield 15, 3) := by decide +kernel
theorem d_Row_length_4 : decode prog_3_method_2_code 4 = .ok (.ireturn, 1) := by decide +kernel
theorem d_Row_at_0 : decode prog_3_method_3_code 0 = .ok (.iload_n 1, 1) := by decide +kernel
theorem d_Row_at_1 : decode prog_3_method_3_code 1 = .ok (.ifCond .lt 29, 3) := by decide +kernel
theorem d_Row_at_4 : decode prog_3_method_3_code 4 = .ok (.iload_n 1, 1) := by decide +kernel
theorem d_Row_at_5 : decode prog_3_method_3_code 5 = .ok (.aload_n 0, 1) := by decide +kernel
theorem d_Row_at_6 : decode prog_3_method_3_code 6 = .ok (.getfield 15, 3) := by decide +kernel
theorem d_Row_at_9 : decode prog_3_method_3_code 9 = .ok (.if_icmp .ge 21, 3) := by decide +kernel
theorem d_Row_at_12 : decode prog_3_method_3_code 12 = .ok (.iload_n 1, 1) := by decide +kernel
theorem d_Row_at_13 : decode prog_3_method_3_code 13 = .ok (.aload_n 0, 1) := by decide +kernel
theorem d_Row_at_14 : decode prog_3_method_3_code 14 = .ok (.getfield 9, 3) := by decide +kernel
theorem d_Row_at_17 : decode prog_3_method_3_code 17 = .ok (.arraylength, 1) := by decide +kernel
theorem d_Row_at_18 : decode prog_3_method_3_code 18 = .ok (.if_icmp .ge 12, 3) := by decide +kernel
theorem d_Row_at_21 : decode prog_3_method_3_code 21 = .ok (.aload_n 0, 1) := by decide +kernel
theorem d_Row_at_22 : decode prog_3_method_3_code 22 = .ok (.getfield 9, 3) := by decide +kernel
theorem d_Row_at_25 : decode prog_3_method_3_code 25 = .ok (.iload_n 1, 1) := by decide +kernel
theorem d_Row_at_26 : decode prog_3_method_3_code 26 = .ok (.iaload, 1) := by decide +kernel
theorem d_Row_at_27 : decode prog_3_method_3_code 27 = .ok (.goto 4, 3) := by decide +kernel
theorem d_Row_at_31 : decode prog_3_method_3_code 31 = .ok (.ireturn, 1) := by decide +kernel
theorem d_Row_cut_0 : decode prog_3_method_6_code 0 = .ok (.iload_n 1, 1) := by decide +kernel
theorem d_Row_cut_1 : decode prog_3_method_6_code 1 = .ok (.ifCond .lt 16, 3) := by decide +kernel
theorem d_Row_cut_4 : decode prog_3_method_6_code 4 = .ok (.iload_n 1, 1) := by decide +kernel
theorem d_Row_cut_5 : decode prog_3_method_6_code 5 = .ok (.aload_n 0, 1) := by decide +kernel
theorem d_Row_cut_6 : decode prog_3_method_6_code 6 = .ok (.getfield 15, 3) := by decide +kernel
theorem d_Row_cut_9 : decode prog_3_method_6_code 9 = .ok (.if_icmp .ge 8, 3) := by decide +kernel
theorem d_Row_cut_17 : decode prog_3_method_6_code 17 = .ok (.return_, 1) := by decide +kernel
theorem d_Row_cut_12 : decode prog_3_method_6_code 12 = .ok (.aload_n 0, 1) := by decide +kernel
theorem d_Row_cut_13 : decode prog_3_method_6_code 13 = .ok (.iload_n 1, 1) := by decide +kernel
theorem d_Row_cut_14 : decode prog_3_method_6_code 14 = .ok (.putfield 15, 3) := by decide +kernel
theorem d_Row_put_0 : decode prog_3_method_4_code 0 = .ok (.iload_n 1, 1) := by decide +kernel
theorem d_Row_put_1 : decode prog_3_method_4_code 1 = .ok (.ifCond .lt 27, 3) := by decide +kernel
theorem d_Row_put_4 : decode prog_3_method_4_code 4 = .ok (.iload_n 1, 1) := by decide +kernel
theorem d_Row_put_5 : decode prog_3_method_4_code 5 = .ok (.aload_n 0, 1) := by decide +kernel
theorem d_Row_put_6 : decode prog_3_method_4_code 6 = .ok (.getfield 15, 3) := by decide +kernel
theorem d_Row_put_9 : decode prog_3_method_4_code 9 = .ok (.if_icmp .ge 19, 3) := by decide +kernel
theorem d_Row_put_12 : decode prog_3_method_4_code 12 = .ok (.iload_n 1, 1) := by decide +kernel
theorem d_Row_put_13 : decode prog_3_method_4_code 13 = .ok (.aload_n 0, 1) := by decide +kernel
theorem d_Row_put_14 : decode prog_3_method_4_code 14 = .ok (.getfield 9, 3) := by decide +kernel
theorem d_Row_put_17 : decode prog_3_method_4_code 17 = .ok (.arraylength, 1) := by decide +kernel
theorem d_Row_put_18 : decode prog_3_method_4_code 18 = .ok (.if_icmp .ge 10, 3) := by decide +kernel
theorem d_Row_put_21 : decode prog_3_method_4_code 21 = .ok (.aload_n 0, 1) := by decide +kernel
theorem d_Row_put_22 : decode prog_3_method_4_code 22 = .ok (.getfield 9, 3) := by decide +kernel
theorem d_Row_put_25 : decode prog_3_method_4_code 25 = .ok (.iload_n 1, 1) := by decide +kernel
theorem d_Row_put_26 : decode prog_3_method_4_code 26 = .ok (.iload_n 2, 1) := by decide +kernel
theorem d_Row_put_27 : decode prog_3_method_4_code 27 = .ok (.iastore, 1) := by decide +kernel
theorem d_Row_put_28 : decode prog_3_method_4_code 28 = .ok (.return_, 1) := by decide +kernel
theorem d_Row_add_0 : decode prog_3_method_5_code 0 = .ok (.aload_n 0, 1) := by decide +kernel
theorem d_Row_add_1 : decode prog_3_method_5_code 1 = .ok (.getfield 15, 3) := by decide +kernel
theorem d_Row_add_4 : decode prog_3_method_5_code 4 = .ok (.aload_n 0, 1) := by decide +kernel
theorem d_Row_add_5 : decode prog_3_method_5_code 5 = .ok (.getfield 9, 3) := by decide +kernel
theorem d_Row_add_8 : decode prog_3_method_5_code 8 = .ok (.arraylength, 1) := by decide +kernel
theorem d_Row_add_9 : decode prog_3_method_5_code 9 = .ok (.if_icmp .lt 31, 3) := by decide +kernel
theorem d_Row_add_40 : decode prog_3_method_5_code 40 = .ok (.aload_n 0, 1) := by decide +kernel
theorem d_Row_add_41 : decode prog_3_method_5_code 41 = .ok (.getfield 15, 3) := by decide +kernel
theorem d_Row_add_44 : decode prog_3_method_5_code 44 = .ok (.aload_n 0, 1) := by decide +kernel
theorem d_Row_add_45 : decode prog_3_method_5_code 45 = .ok (.getfield 9, 3) := by decide +kernel
theorem d_Row_add_48 : decode prog_3_method_5_code 48 = .ok (.arraylength, 1) := by decide +kernel
theorem d_Row_add_49 : decode prog_3_method_5_code 49 = .ok (.if_icmp .ge 23, 3) := by decide +kernel
theorem d_Row_add_52 : decode prog_3_method_5_code 52 = .ok (.aload_n 0, 1) := by decide +kernel
theorem d_Row_add_53 : decode prog_3_method_5_code 53 = .ok (.getfield 9, 3) := by decide +kernel
theorem d_Row_add_56 : decode prog_3_method_5_code 56 = .ok (.aload_n 0, 1) := by decide +kernel
theorem d_Row_add_57 : decode prog_3_method_5_code 57 = .ok (.getfield 15, 3) := by decide +kernel
theorem d_Row_add_60 : decode prog_3_method_5_code 60 = .ok (.iload_n 1, 1) := by decide +kernel
theorem d_Row_add_61 : decode prog_3_method_5_code 61 = .ok (.iastore, 1) := by decide +kernel
theorem d_Row_add_62 : decode prog_3_method_5_code 62 = .ok (.aload_n 0, 1) := by decide +kernel
theorem d_Row_add_63 : decode prog_3_method_5_code 63 = .ok (.dup, 1) := by decide +kernel
theorem d_Row_add_64 : decode prog_3_method_5_code 64 = .ok (.getfield 15, 3) := by decide +kernel
theorem d_Row_add_67 : decode prog_3_method_5_code 67 = .ok (.iconst 1, 1) := by decide +kernel
theorem d_Row_add_68 : decode prog_3_method_5_code 68 = .ok (.iadd, 1) := by decide +kernel
theorem d_Row_add_69 : decode prog_3_method_5_code 69 = .ok (.putfield 15, 3) := by decide +kernel
theorem d_Row_add_72 : decode prog_3_method_5_code 72 = .ok (.return_, 1) := by decide +kernel
theorem d_Arr_copyOf_0 : decode prog_17_method_123_code 0 = .ok (.iload_n 1, 1) := by decide +kernel
theorem d_Arr_copyOf_1 : decode prog_17_method_123_code 1 = .ok (.aload_n 0, 1) := by decide +kernel
theorem d_Arr_copyOf_2 : decode prog_17_method_123_code 2 = .ok (.arraylength, 1) := by decide +kernel
theorem d_Arr_copyOf_3 : decode prog_17_method_123_code 3 = .ok (.if_icmp .ne 11, 3) := by decide +kernel
theorem d_Arr_copyOf_14 : decode prog_17_method_123_code 14 = .ok (.iload_n 1, 1) := by decide +kernel
theorem d_Arr_copyOf_15 : decode prog_17_method_123_code 15 = .ok (.newarray .int, 2) := by decide +kernel
theorem d_Arr_copyOf_17 : decode prog_17_method_123_code 17 = .ok (.astore_n 2, 1) := by decide +kernel
theorem d_Arr_copyOf_18 : decode prog_17_method_123_code 18 = .ok (.aload_n 0, 1) := by decide +kernel
theorem d_Arr_copyOf_19 : decode prog_17_method_123_code 19 = .ok (.iconst 0, 1) := by decide +kernel
theorem d_Arr_copyOf_20 : decode prog_17_method_123_code 20 = .ok (.aload_n 2, 1) := by decide +kernel
theorem d_Arr_copyOf_21 : decode prog_17_method_123_code 21 = .ok (.iconst 0, 1) := by decide +kernel
theorem d_Arr_copyOf_22 : decode prog_17_method_123_code 22 = .ok (.aload_n 0, 1) := by decide +kernel
theorem d_Arr_copyOf_23 : decode prog_17_method_123_code 23 = .ok (.arraylength, 1) := by decide +kernel
theorem d_Arr_copyOf_24 : decode prog_17_method_123_code 24 = .ok (.iload_n 1, 1) := by decide +kernel
theorem d_Arr_copyOf_25 : decode prog_17_method_123_code 25 = .ok (.invokestatic 304, 3) := by decide +kernel
theorem d_Arr_copyOf_28 : decode prog_17_method_123_code 28 = .ok (.invokestatic 150, 3) := by decide +kernel
theorem d_Arr_copyOf_31 : decode prog_17_method_123_code 31 = .ok (.aload_n 2, 1) := by decide +kernel
theorem d_Arr_copyOf_32 : decode prog_17_method_123_code 32 = .ok (.areturn, 1) := by decide +kernel
theorem d_Row_add_12 : decode prog_3_method_5_code 12 = .ok (.aload_n 0, 1) := by decide +kernel
theorem d_Row_add_13 : decode prog_3_method_5_code 13 = .ok (.getfield 9, 3) := by decide +kernel
theorem d_Row_add_16 : decode prog_3_method_5_code 16 = .ok (.arraylength, 1) := by decide +kernel
theorem d_Row_add_17 : decode prog_3_method_5_code 17 = .ok (.ldc 19, 2) := by decide +kernel
theorem d_Row_add_19 : decode prog_3_method_5_code 19 = .ok (.if_icmp .ge 21, 3) := by decide +kernel
theorem d_Row_add_22 : decode prog_3_method_5_code 22 = .ok (.aload_n 0, 1) := by decide +kernel
theorem d_Row_add_23 : decode prog_3_method_5_code 23 = .ok (.aload_n 0, 1) := by decide +kernel
theorem d_Row_add_24 : decode prog_3_method_5_code 24 = .ok (.getfield 9, 3) := by decide +kernel
theorem d_Row_add_27 : decode prog_3_method_5_code 27 = .ok (.iconst 2, 1) := by decide +kernel
theorem d_Row_add_28 : decode prog_3_method_5_code 28 = .ok (.aload_n 0, 1) := by decide +kernel
theorem d_Row_add_29 : decode prog_3_method_5_code 29 = .ok (.getfield 9, 3) := by decide +kernel
theorem d_Row_add_32 : decode prog_3_method_5_code 32 = .ok (.arraylength, 1) := by decide +kernel
theorem d_Row_add_33 : decode prog_3_method_5_code 33 = .ok (.imul, 1) := by decide +kernel
theorem d_Row_add_34 : decode prog_3_method_5_code 34 = .ok (.invokestatic 20, 3) := by decide +kernel
theorem d_Row_add_37 : decode prog_3_method_5_code 37 = .ok (.putfield 9, 3) := by decide +kernel
set_option maxHeartbeats 4000000 in
set_option maxRecDepth 100000 in
theorem c_Row_init (l : Launch) (G : kb_G) (h : Nat) : kb_cv l G ⟨"TreePress$Row", "<init>", "()V"⟩ prog_3_method_1_code 1 1 1 16 [.ref h] [kb_o h 1 [.null, .int 0]] (fun u => True) (fun u => [kb_o h 1 [.ref (u.1 0), .int 0], kb_a G (u.1 0) 16 (fun _ => 0)]) := by
  intro sz
  refine kb_body (QQ := fun A => kb_Qv G A (fun u => True) (fun u => [kb_o h 1 [.ref (u.1 0), .int 0], kb_a G (u.1 0) 16 (fun _ => 0)])) (by decide) (Nat.le_of_ble_eq_true rfl) ?_
  intro p e s m below meth c A B ls hl
  obtain ⟨hx, hb, hr, hml, hlocks, hin, hown, ht, hE, hP, hD, hS⟩ := B
  have hl : lv_has ls 1 [(0, .ref h)] := hl
  have hP0 := hP
  obtain ⟨H, hHe⟩ : ∃ H, H = s.heap := ⟨_, rfl⟩
  rw [← hHe] at hP
  have hS : va_S A s.heap H [] := by rw [hHe]; exact hS
  refine kb_at hHe ?_
  clear hHe
  refine lv_aload_n hx hb d_Row_init_0 rfl (lv_at hl 0 rfl) ?_
  refine W.objInit hx hb hown (ht _ wd_ef90978f) (ht _ wd_962a1238) (ht _ wd_b2b9d69d) rfl (by rw [hml]; exact hl.1) rfl d_Row_init_1 (Nat.le_of_ble_eq_true rfl) (Nat.le_of_ble_eq_true rfl) ?_
  refine W.eq (g2 := F0 m 4 ls []) rfl ?_
  refine lv_aload_n hx hb d_Row_init_4 rfl (lv_at hl 0 rfl) ?_
  refine lv_bipush (v := 16) hx hb d_Row_init_5 (by decide) ?_
  refine kb_newi (N := 16) hx hb (ht _ wd_298d195d) hE hP hD hS (by decide) (by decide) (by decide) (Nat.le_of_ble_eq_true rfl) (Nat.le_of_ble_eq_true rfl) d_Row_init_7 (fun qn1 H hP hD hS => ?_)
  have hP : va_P G.1 kb_cl [kb_o h 1 [.null, .int 0], kb_a G qn1 16 (fun _ => 0)] H := hP
  have hD : va_D A [kb_o h 1 [.null, .int 0], kb_a G qn1 16 (fun _ => 0)] := hD
  refine va_put (D := G.1) (ci := 1) (v := .ref qn1) (ty := .array .int) (C := "TreePress$Row") (T := kb_F1) (N := 2) hx hb ht kb_w1 kb_y1 kb_p1 kb_n1 hown hE.1 hP hD hS 0 rfl rfl 0 (by decide) (ht _ wd_aac26352) (fun _ h9 => h9) rfl (by decide +kernel) rfl rfl (Nat.le_of_ble_eq_true rfl) d_Row_init_9 (fun H locs hP hD hS => ?_)
  have hP : va_P G.1 kb_cl [kb_o h 1 [.ref qn1, .int 0], kb_a G qn1 16 (fun _ => 0)] H := hP
  have hD : va_D A [kb_o h 1 [.ref qn1, .int 0], kb_a G qn1 16 (fun _ => 0)] := hD
  refine lv_aload_n hx hb d_Row_init_12 rfl (lv_at hl 0 rfl) ?_
  refine lv_iconst (v := 0) hx hb d_Row_init_13 (by decide) ?_
  refine va_put (D := G.1) (ci := 1) (v := .int 0) (ty := .int) (C := "TreePress$Row") (T := kb_F1) (N := 2) hx hb ht kb_w1 kb_y1 kb_p1 kb_n1 hown hE.1 hP hD hS 0 rfl rfl 1 (by decide) (ht _ wd_14b1fe24) (fun _ h9 => h9) rfl (by decide +kernel) rfl rfl (Nat.le_of_ble_eq_true rfl) d_Row_init_14 (fun H locs hP hD hS => ?_)
  have hP : va_P G.1 kb_cl [kb_o h 1 [.ref qn1, .int 0], kb_a G qn1 16 (fun _ => 0)] H := hP
  have hD : va_D A [kb_o h 1 [.ref qn1, .int 0], kb_a G qn1 16 (fun _ => 0)] := hD
  exact kb_retv (kb_l [qn1], kb_f []) hx hb hr hlocks hE hP hD hS [0, 1] rfl (by decide) rfl trivial (Nat.le_of_ble_eq_true rfl) (Nat.le_of_ble_eq_true rfl) d_Row_init_17

set_option maxHeartbeats 4000000 in
set_option maxRecDepth 100000 in
theorem c_Row_length (l : Launch) (G : kb_G) (h : Nat) (a : Nat) (v : Int32) : kb_ci l G ⟨"TreePress$Row", "length", "()I"⟩ prog_3_method_2_code 1 (some .int) 1 0 0 [.ref h] [kb_o h 1 [.ref a, .int v]] (fun r u => r = v) (fun u => [kb_o h 1 [.ref a, .int v]]) := by
  intro sz
  refine kb_body (QQ := fun A => kb_Qi G A (fun r u => r = v) (fun u => [kb_o h 1 [.ref a, .int v]])) (by decide) (Nat.le_of_ble_eq_true rfl) ?_
  intro p e s m below meth c A B ls hl
  obtain ⟨hx, hb, hr, hml, hlocks, hin, hown, ht, hE, hP, hD, hS⟩ := B
  have hl : lv_has ls 1 [(0, .ref h)] := hl
  have hP0 := hP
  obtain ⟨H, hHe⟩ : ∃ H, H = s.heap := ⟨_, rfl⟩
  rw [← hHe] at hP
  have hS : va_S A s.heap H [] := by rw [hHe]; exact hS
  refine kb_at hHe ?_
  clear hHe
  refine lv_aload_n hx hb d_Row_length_0 rfl (lv_at hl 0 rfl) ?_
  refine va_get (D := G.1) (ci := 1) (v := .int v) (C := "TreePress$Row") (T := kb_F1) (N := 2) hx hb ht kb_w1 hown hE.1 hP 0 rfl rfl 1 (by decide) (ht _ wd_14b1fe24) (fun _ h9 => h9) rfl d_Row_length_1 ?_
  exact kb_reti (kb_l [], kb_f []) hx hb hr hlocks hE hP hD hS [0] rfl (by decide) rfl rfl (Nat.le_of_ble_eq_true rfl) (Nat.le_of_ble_eq_true rfl) d_Row_length_4

set_option maxHeartbeats 4000000 in
set_option maxRecDepth 100000 in
theorem c_Row_at0 (l : Launch) (G : kb_G) (h : Nat) (a : Nat) (f : Nat → Int32) : kb_ci l G ⟨"TreePress$Row", "at", "(I)I"⟩ prog_3_method_3_code 2 (some .int) 1 0 0 [.ref h, .int 0] [kb_o h 1 [.ref a, .int 1], kb_a G a 16 f] (fun r u => r = f 0) (fun u => [kb_o h 1 [.ref a, .int 1], kb_a G a 16 f]) := by
  intro sz
  refine kb_body (QQ := fun A => kb_Qi G A (fun r u => r = f 0) (fun u => [kb_o h 1 [.ref a, .int 1], kb_a G a 16 f])) (by decide) (Nat.le_of_ble_eq_true rfl) ?_
  intro p e s m below meth c A B ls hl
  obtain ⟨hx, hb, hr, hml, hlocks, hin, hown, ht, hE, hP, hD, hS⟩ := B
  have hl : lv_has ls 2 [(0, .ref h), (1, .int 0)] := hl
  have hP0 := hP
  obtain ⟨H, hHe⟩ : ∃ H, H = s.heap := ⟨_, rfl⟩
  rw [← hHe] at hP
  have hS : va_S A s.heap H [] := by rw [hHe]; exact hS
  refine kb_at hHe ?_
  clear hHe
  refine lv_iload_n hx hb d_Row_at_0 rfl (lv_at hl 1 rfl) ?_
  refine lv_if_lt (tgt := 30) hx hb d_Row_at_1 (by decide) (fun c9 => absurd c9 (by decide)) (fun c9 => ?_)
  refine lv_iload_n hx hb d_Row_at_4 rfl (lv_at hl 1 rfl) ?_
  refine lv_aload_n hx hb d_Row_at_5 rfl (lv_at hl 0 rfl) ?_
  refine va_get (D := G.1) (ci := 1) (v := .int 1) (C := "TreePress$Row") (T := kb_F1) (N := 2) hx hb ht kb_w1 hown hE.1 hP 0 rfl rfl 1 (by decide) (ht _ wd_14b1fe24) (fun _ h9 => h9) rfl d_Row_at_6 ?_
  refine lv_icmp_ge (tgt := 30) hx hb d_Row_at_9 (by decide) (fun c9 => absurd c9 (by decide)) (fun c9 => ?_)
  refine lv_iload_n hx hb d_Row_at_12 rfl (lv_at hl 1 rfl) ?_
  refine lv_aload_n hx hb d_Row_at_13 rfl (lv_at hl 0 rfl) ?_
  refine va_get (D := G.1) (ci := 1) (v := .ref a) (C := "TreePress$Row") (T := kb_F1) (N := 2) hx hb ht kb_w1 hown hE.1 hP 0 rfl rfl 0 (by decide) (ht _ wd_aac26352) (fun _ h9 => h9) rfl d_Row_at_14 ?_
  refine va_alen (v := 16) hx hb hE.1 hP 1 0 rfl rfl rfl d_Row_at_17 ?_
  refine lv_icmp_ge (tgt := 30) hx hb d_Row_at_18 (by decide) (fun c9 => absurd c9 (by decide)) (fun c9 => ?_)
  refine lv_aload_n hx hb d_Row_at_21 rfl (lv_at hl 0 rfl) ?_
  refine va_get (D := G.1) (ci := 1) (v := .ref a) (C := "TreePress$Row") (T := kb_F1) (N := 2) hx hb ht kb_w1 hown hE.1 hP 0 rfl rfl 0 (by decide) (ht _ wd_aac26352) (fun _ h9 => h9) rfl d_Row_at_22 ?_
  refine lv_iload_n hx hb d_Row_at_25 rfl (lv_at hl 1 rfl) ?_
  refine va_iald hx hb hE.1 hP 1 0 rfl rfl (show ¬ ((0 : Int32) < 0 ∨ 16 ≤ (0 : Int32).toNatClampNeg) by decide) d_Row_at_26 ?_
  refine kb_top (y := f 0) rfl ?_
  refine lv_goto (tgt := 31) hx hb d_Row_at_27 (by decide) ?_
  exact kb_reti (kb_l [], kb_f []) hx hb hr hlocks hE hP hD hS [0, 1] rfl (by decide) rfl rfl (Nat.le_of_ble_eq_true rfl) (Nat.le_of_ble_eq_true rfl) d_Row_at_31

set_option maxHeartbeats 4000000 in
set_option maxRecDepth 100000 in
theorem c_Row_cut0 (l : Launch) (G : kb_G) (h : Nat) (a : Nat) : kb_cv l G ⟨"TreePress$Row", "cut", "(I)V"⟩ prog_3_method_6_code 2 1 0 0 [.ref h, .int 0] [kb_o h 1 [.ref a, .int 0]] (fun u => True) (fun u => [kb_o h 1 [.ref a, .int 0]]) := by
  intro sz
  refine kb_body (QQ := fun A => kb_Qv G A (fun u => True) (fun u => [kb_o h 1 [.ref a, .int 0]])) (by decide) (Nat.le_of_ble_eq_true rfl) ?_
  intro p e s m below meth c A B ls hl
  obtain ⟨hx, hb, hr, hml, hlocks, hin, hown, ht, hE, hP, hD, hS⟩ := B
  have hl : lv_has ls 2 [(0, .ref h), (1, .int 0)] := hl
  have hP0 := hP
  obtain ⟨H, hHe⟩ : ∃ H, H = s.heap := ⟨_, rfl⟩
  rw [← hHe] at hP
  have hS : va_S A s.heap H [] := by rw [hHe]; exact hS
  refine kb_at hHe ?_
  clear hHe
  refine lv_iload_n hx hb d_Row_cut_0 rfl (lv_at hl 1 rfl) ?_
  refine lv_if_lt (tgt := 17) hx hb d_Row_cut_1 (by decide) (fun c9 => absurd c9 (by decide)) (fun c9 => ?_)
  refine lv_iload_n hx hb d_Row_cut_4 rfl (lv_at hl 1 rfl) ?_
  refine lv_aload_n hx hb d_Row_cut_5 rfl (lv_at hl 0 rfl) ?_
  refine va_get (D := G.1) (ci := 1) (v := .int 0) (C := "TreePress$Row") (T := kb_F1) (N := 2) hx hb ht kb_w1 hown hE.1 hP 0 rfl rfl 1 (by decide) (ht _ wd_14b1fe24) (fun _ h9 => h9) rfl d_Row_cut_6 ?_
  refine lv_icmp_ge (tgt := 17) hx hb d_Row_cut_9 (by decide) (fun c9 => ?_) (fun c9 => absurd (by decide) c9)
  exact kb_retv (kb_l [], kb_f []) hx hb hr hlocks hE hP hD hS [0] rfl (by decide) rfl trivial (Nat.le_of_ble_eq_true rfl) (Nat.le_of_ble_eq_true rfl) d_Row_cut_17

set_option maxHeartbeats 4000000 in
set_option maxRecDepth 100000 in
theorem c_Row_cut1 (l : Launch) (G : kb_G) (h : Nat) (a : Nat) : kb_cv l G ⟨"TreePress$Row", "cut", "(I)V"⟩ prog_3_method_6_code 2 1 0 0 [.ref h, .int 0] [kb_o h 1 [.ref a, .int 1]] (fun u => True) (fun u => [kb_o h 1 [.ref a, .int 0]]) := by
  intro sz
  refine kb_body (QQ := fun A => kb_Qv G A (fun u => True) (fun u => [kb_o h 1 [.ref a, .int 0]])) (by decide) (Nat.le_of_ble_eq_true rfl) ?_
  intro p e s m below meth c A B ls hl
  obtain ⟨hx, hb, hr, hml, hlocks, hin, hown, ht, hE, hP, hD, hS⟩ := B
  have hl : lv_has ls 2 [(0, .ref h), (1, .int 0)] := hl
  have hP0 := hP
  obtain ⟨H, hHe⟩ : ∃ H, H = s.heap := ⟨_, rfl⟩
  rw [← hHe] at hP
  have hS : va_S A s.heap H [] := by rw [hHe]; exact hS
  refine kb_at hHe ?_
  clear hHe
  refine lv_iload_n hx hb d_Row_cut_0 rfl (lv_at hl 1 rfl) ?_
  refine lv_if_lt (tgt := 17) hx hb d_Row_cut_1 (by decide) (fun c9 => absurd c9 (by decide)) (fun c9 => ?_)
  refine lv_iload_n hx hb d_Row_cut_4 rfl (lv_at hl 1 rfl) ?_
  refine lv_aload_n hx hb d_Row_cut_5 rfl (lv_at hl 0 rfl) ?_
  refine va_get (D := G.1) (ci := 1) (v := .int 1) (C := "TreePress$Row") (T := kb_F1) (N := 2) hx hb ht kb_w1 hown hE.1 hP 0 rfl rfl 1 (by decide) (ht _ wd_14b1fe24) (fun _ h9 => h9) rfl d_Row_cut_6 ?_
  refine lv_icmp_ge (tgt := 17) hx hb d_Row_cut_9 (by decide) (fun c9 => absurd c9 (by decide)) (fun c9 => ?_)
  refine lv_aload_n hx hb d_Row_cut_12 rfl (lv_at hl 0 rfl) ?_
  refine lv_iload_n hx hb d_Row_cut_13 rfl (lv_at hl 1 rfl) ?_
  refine va_put (D := G.1) (ci := 1) (v := .int 0) (ty := .int) (C := "TreePress$Row") (T := kb_F1) (N := 2) hx hb ht kb_w1 kb_y1 kb_p1 kb_n1 hown hE.1 hP hD hS 0 rfl rfl 1 (by decide) (ht _ wd_14b1fe24) (fun _ h9 => h9) rfl (by decide +kernel) rfl rfl (Nat.le_of_ble_eq_true rfl) d_Row_cut_14 (fun H locs hP hD hS => ?_)
  have hP : va_P G.1 kb_cl [kb_o h 1 [.ref a, .int 0]] H := hP
  have hD : va_D A [kb_o h 1 [.ref a, .int 0]] := hD
  exact kb_retv (kb_l [], kb_f []) hx hb hr hlocks hE hP hD hS [0] rfl (by decide) rfl trivial (Nat.le_of_ble_eq_true rfl) (Nat.le_of_ble_eq_true rfl) d_Row_cut_17

set_option maxHeartbeats 4000000 in
set_option maxRecDepth 100000 in
theorem c_Row_put (l : Launch) (G : kb_G) (h : Nat) (a : Nat) (j : Nat) (f : Nat → Int32) (x : Int32) (hj : j < 72) : kb_cv l G ⟨"TreePress$Row", "put", "(II)V"⟩ prog_3_method_4_code 3 1 0 0 [.ref h, .int (nI j), .int x] [kb_o h 1 [.ref a, .int 72], kb_a G a 128 f] (fun u => True) (fun u => [kb_o h 1 [.ref a, .int 72], kb_a G a 128 (u.2 0)]) := by
  intro sz
  refine kb_body (QQ := fun A => kb_Qv G A (fun u => True) (fun u => [kb_o h 1 [.ref a, .int 72], kb_a G a 128 (u.2 0)])) (by decide) (Nat.le_of_ble_eq_true rfl) ?_
  intro p e s m below meth c A B ls hl
  obtain ⟨hx, hb, hr, hml, hlocks, hin, hown, ht, hE, hP, hD, hS⟩ := B
  have hl : lv_has ls 3 [(0, .ref h), (1, .int (nI j)), (2, .int x)] := hl
  have hP0 := hP
  obtain ⟨H, hHe⟩ : ∃ H, H = s.heap := ⟨_, rfl⟩
  rw [← hHe] at hP
  have hS : va_S A s.heap H [] := by rw [hHe]; exact hS
  refine kb_at hHe ?_
  clear hHe
  refine lv_iload_n hx hb d_Row_put_0 rfl (lv_at hl 1 rfl) ?_
  refine lv_if_lt (tgt := 28) hx hb d_Row_put_1 (by decide) (fun c9 => absurd c9 (nI_pos (by omega))) (fun c9 => ?_)
  refine lv_iload_n hx hb d_Row_put_4 rfl (lv_at hl 1 rfl) ?_
  refine lv_aload_n hx hb d_Row_put_5 rfl (lv_at hl 0 rfl) ?_
  refine va_get (D := G.1) (ci := 1) (v := .int 72) (C := "TreePress$Row") (T := kb_F1) (N := 2) hx hb ht kb_w1 hown hE.1 hP 0 rfl rfl 1 (by decide) (ht _ wd_14b1fe24) (fun _ h9 => h9) rfl d_Row_put_6 ?_
  refine lv_icmp_ge (tgt := 28) hx hb d_Row_put_9 (by decide) (fun c9 => absurd c9 (nI_ge (a := j) (b := 72) hj (by decide))) (fun c9 => ?_)
  refine lv_iload_n hx hb d_Row_put_12 rfl (lv_at hl 1 rfl) ?_
  refine lv_aload_n hx hb d_Row_put_13 rfl (lv_at hl 0 rfl) ?_
  refine va_get (D := G.1) (ci := 1) (v := .ref a) (C := "TreePress$Row") (T := kb_F1) (N := 2) hx hb ht kb_w1 hown hE.1 hP 0 rfl rfl 0 (by decide) (ht _ wd_aac26352) (fun _ h9 => h9) rfl d_Row_put_14 ?_
  refine va_alen (v := 128) hx hb hE.1 hP 1 0 rfl rfl rfl d_Row_put_17 ?_
  refine lv_icmp_ge (tgt := 28) hx hb d_Row_put_18 (by decide) (fun c9 => absurd c9 (nI_ge (a := j) (b := 128) (by omega) (by decide))) (fun c9 => ?_)
  refine lv_aload_n hx hb d_Row_put_21 rfl (lv_at hl 0 rfl) ?_
  refine va_get (D := G.1) (ci := 1) (v := .ref a) (C := "TreePress$Row") (T := kb_F1) (N := 2) hx hb ht kb_w1 hown hE.1 hP 0 rfl rfl 0 (by decide) (ht _ wd_aac26352) (fun _ h9 => h9) rfl d_Row_put_22 ?_
  refine lv_iload_n hx hb d_Row_put_25 rfl (lv_at hl 1 rfl) ?_
  refine lv_iload_n hx hb d_Row_put_26 rfl (lv_at hl 2 rfl) ?_
  refine va_iast hx hb hE.1 hP hD hS 1 0 rfl rfl (vp_in_nI (by omega) (by decide)) d_Row_put_27 (fun H locs hP hD hS => ?_)
  rw [nI_clamp (by omega)] at hP hD
  have hP : va_P G.1 kb_cl [kb_o h 1 [.ref a, .int 72], kb_a G a 128 (upd f j x)] H := hP
  have hD : va_D A [kb_o h 1 [.ref a, .int 72], kb_a G a 128 (upd f j x)] := hD
  generalize (upd f j x) = gc1 at hP hD
  exact kb_retv (kb_l [], kb_f [gc1]) hx hb hr hlocks hE hP hD hS [0, 1] rfl (by decide) rfl trivial (Nat.le_of_ble_eq_true rfl) (Nat.le_of_ble_eq_true rfl) d_Row_put_28

set_option maxHeartbeats 4000000 in
set_option maxRecDepth 100000 in
theorem c_Row_add_n (l : Launch) (G : kb_G) (h : Nat) (a : Nat) (n : Nat) (N : Nat) (f : Nat → Int32) (x : Int32) (hn : n < N) (hN : N ≤ 65536) : kb_cv l G ⟨"TreePress$Row", "add", "(I)V"⟩ prog_3_method_5_code 2 3 0 0 [.ref h, .int x] [kb_o h 1 [.ref a, .int (nI n)], kb_a G a N f] (fun u => True) (fun u => [kb_o h 1 [.ref a, .int (nI (n + 1))], kb_a G a N (upd f n x)]) := by
  intro sz
  refine kb_body (QQ := fun A => kb_Qv G A (fun u => True) (fun u => [kb_o h 1 [.ref a, .int (nI (n + 1))], kb_a G a N (upd f n x)])) (by decide) (Nat.le_of_ble_eq_true rfl) ?_
  intro p e s m below meth c A B ls hl
  obtain ⟨hx, hb, hr, hml, hlocks, hin, hown, ht, hE, hP, hD, hS⟩ := B
  have hl : lv_has ls 2 [(0, .ref h), (1, .int x)] := hl
  have hP0 := hP
  obtain ⟨H, hHe⟩ : ∃ H, H = s.heap := ⟨_, rfl⟩
  rw [← hHe] at hP
  have hS : va_S A s.heap H [] := by rw [hHe]; exact hS
  refine kb_at hHe ?_
  clear hHe
  refine lv_aload_n hx hb d_Row_add_0 rfl (lv_at hl 0 rfl) ?_
  refine va_get (D := G.1) (ci := 1) (v := .int (nI n)) (C := "TreePress$Row") (T := kb_F1) (N := 2) hx hb ht kb_w1 hown hE.1 hP 0 rfl rfl 1 (by decide) (ht _ wd_14b1fe24) (fun _ h9 => h9) rfl d_Row_add_1 ?_
  refine lv_aload_n hx hb d_Row_add_4 rfl (lv_at hl 0 rfl) ?_
  refine va_get (D := G.1) (ci := 1) (v := .ref a) (C := "TreePress$Row") (T := kb_F1) (N := 2) hx hb ht kb_w1 hown hE.1 hP 0 rfl rfl 0 (by decide) (ht _ wd_aac26352) (fun _ h9 => h9) rfl d_Row_add_5 ?_
  refine va_alen (v := nI N) hx hb hE.1 hP 1 0 rfl rfl rfl d_Row_add_8 ?_
  refine lv_icmp_lt (tgt := 40) hx hb d_Row_add_9 (by decide) (fun c9 => ?_) (fun c9 => absurd (nI_lt hn (by omega)) c9)
  refine lv_aload_n hx hb d_Row_add_40 rfl (lv_at hl 0 rfl) ?_
  refine va_get (D := G.1) (ci := 1) (v := .int (nI n)) (C := "TreePress$Row") (T := kb_F1) (N := 2) hx hb ht kb_w1 hown hE.1 hP 0 rfl rfl 1 (by decide) (ht _ wd_14b1fe24) (fun _ h9 => h9) rfl d_Row_add_41 ?_
  refine lv_aload_n hx hb d_Row_add_44 rfl (lv_at hl 0 rfl) ?_
  refine va_get (D := G.1) (ci := 1) (v := .ref a) (C := "TreePress$Row") (T := kb_F1) (N := 2) hx hb ht kb_w1 hown hE.1 hP 0 rfl rfl 0 (by decide) (ht _ wd_aac26352) (fun _ h9 => h9) rfl d_Row_add_45 ?_
  refine va_alen (v := nI N) hx hb hE.1 hP 1 0 rfl rfl rfl d_Row_add_48 ?_
  refine lv_icmp_ge (tgt := 72) hx hb d_Row_add_49 (by decide) (fun c9 => absurd c9 (nI_ge hn (by omega))) (fun c9 => ?_)
  refine lv_aload_n hx hb d_Row_add_52 rfl (lv_at hl 0 rfl) ?_
  refine va_get (D := G.1) (ci := 1) (v := .ref a) (C := "TreePress$Row") (T := kb_F1) (N := 2) hx hb ht kb_w1 hown hE.1 hP 0 rfl rfl 0 (by decide) (ht _ wd_aac26352) (fun _ h9 => h9) rfl d_Row_add_53 ?_
  refine lv_aload_n hx hb d_Row_add_56 rfl (lv_at hl 0 rfl) ?_
  refine va_get (D := G.1) (ci := 1) (v := .int (nI n)) (C := "TreePress$Row") (T := kb_F1) (N := 2) hx hb ht kb_w1 hown hE.1 hP 0 rfl rfl 1 (by decide) (ht _ wd_14b1fe24) (fun _ h9 => h9) rfl d_Row_add_57 ?_
  refine lv_iload_n hx hb d_Row_add_60 rfl (lv_at hl 1 rfl) ?_
  refine va_iast hx hb hE.1 hP hD hS 1 0 rfl rfl (vp_in_nI hn (by omega)) d_Row_add_61 (fun H locs hP hD hS => ?_)
  rw [nI_clamp (by omega)] at hP hD
  have hP : va_P G.1 kb_cl [kb_o h 1 [.ref a, .int (nI n)], kb_a G a N (upd f n x)] H := hP
  have hD : va_D A [kb_o h 1 [.ref a, .int (nI n)], kb_a G a N (upd f n x)] := hD
  refine lv_aload_n hx hb d_Row_add_62 rfl (lv_at hl 0 rfl) ?_
  refine lv_dup hx hb d_Row_add_63 rfl ?_
  refine va_get (D := G.1) (ci := 1) (v := .int (nI n)) (C := "TreePress$Row") (T := kb_F1) (N := 2) hx hb ht kb_w1 hown hE.1 hP 0 rfl rfl 1 (by decide) (ht _ wd_14b1fe24) (fun _ h9 => h9) rfl d_Row_add_64 ?_
  refine lv_iconst (v := 1) hx hb d_Row_add_67 (by decide) ?_
  refine lv_iadd hx hb d_Row_add_68 ?_
  refine kb_top (y := nI (n + 1)) ((nI_succ n).symm) ?_
  refine va_put (D := G.1) (ci := 1) (v := .int (nI (n + 1))) (ty := .int) (C := "TreePress$Row") (T := kb_F1) (N := 2) hx hb ht kb_w1 kb_y1 kb_p1 kb_n1 hown hE.1 hP hD hS 0 rfl rfl 1 (by decide) (ht _ wd_14b1fe24) (fun _ h9 => h9) rfl (by decide +kernel) rfl rfl (Nat.le_of_ble_eq_true rfl) d_Row_add_69 (fun H locs hP hD hS => ?_)
  have hP : va_P G.1 kb_cl [kb_o h 1 [.ref a, .int (nI (n + 1))], kb_a G a N (upd f n x)] H := hP
  have hD : va_D A [kb_o h 1 [.ref a, .int (nI (n + 1))], kb_a G a N (upd f n x)] := hD
  exact kb_retv (kb_l [], kb_f []) hx hb hr hlocks hE hP hD hS [0, 1] rfl (by decide) rfl trivial (Nat.le_of_ble_eq_true rfl) (Nat.le_of_ble_eq_true rfl) d_Row_add_72

set_option maxHeartbeats 4000000 in
set_option maxRecDepth 100000 in
theorem c_Row_add_w (l : Launch) (G : kb_G) (h : Nat) (a : Nat) (n : Nat) (N : Nat) (f : Nat → Int32) (x : Int32) (hn : n < N) (hN : N ≤ 65536) : kb_cv l G ⟨"TreePress$Row", "add", "(I)V"⟩ prog_3_method_5_code 2 3 0 0 [.ref h, .int x] [kb_o h 1 [.ref a, .int (nI n)], kb_a G a N f] (fun u => True) (fun u => [kb_o h 1 [.ref a, .int (nI (n + 1))], kb_a G a N (u.2 0)]) := by
  intro sz
  refine kb_body (QQ := fun A => kb_Qv G A (fun u => True) (fun u => [kb_o h 1 [.ref a, .int (nI (n + 1))], kb_a G a N (u.2 0)])) (by decide) (Nat.le_of_ble_eq_true rfl) ?_
  intro p e s m below meth c A B ls hl
  obtain ⟨hx, hb, hr, hml, hlocks, hin, hown, ht, hE, hP, hD, hS⟩ := B
  have hl : lv_has ls 2 [(0, .ref h), (1, .int x)] := hl
  have hP0 := hP
  obtain ⟨H, hHe⟩ : ∃ H, H = s.heap := ⟨_, rfl⟩
  rw [← hHe] at hP
  have hS : va_S A s.heap H [] := by rw [hHe]; exact hS
  refine kb_at hHe ?_
  clear hHe
  refine lv_aload_n hx hb d_Row_add_0 rfl (lv_at hl 0 rfl) ?_
  refine va_get (D := G.1) (ci := 1) (v := .int (nI n)) (C := "TreePress$Row") (T := kb_F1) (N := 2) hx hb ht kb_w1 hown hE.1 hP 0 rfl rfl 1 (by decide) (ht _ wd_14b1fe24) (fun _ h9 => h9) rfl d_Row_add_1 ?_
  refine lv_aload_n hx hb d_Row_add_4 rfl (lv_at hl 0 rfl) ?_
  refine va_get (D := G.1) (ci := 1) (v := .ref a) (C := "TreePress$Row") (T := kb_F1) (N := 2) hx hb ht kb_w1 hown hE.1 hP 0 rfl rfl 0 (by decide) (ht _ wd_aac26352) (fun _ h9 => h9) rfl d_Row_add_5 ?_
  refine va_alen (v := nI N) hx hb hE.1 hP 1 0 rfl rfl rfl d_Row_add_8 ?_
  refine lv_icmp_lt (tgt := 40) hx hb d_Row_add_9 (by decide) (fun c9 => ?_) (fun c9 => absurd (nI_lt hn (by omega)) c9)
  refine lv_aload_n hx hb d_Row_add_40 rfl (lv_at hl 0 rfl) ?_
  refine va_get (D := G.1) (ci := 1) (v := .int (nI n)) (C := "TreePress$Row") (T := kb_F1) (N := 2) hx hb ht kb_w1 hown hE.1 hP 0 rfl rfl 1 (by decide) (ht _ wd_14b1fe24) (fun _ h9 => h9) rfl d_Row_add_41 ?_
  refine lv_aload_n hx hb d_Row_add_44 rfl (lv_at hl 0 rfl) ?_
  refine va_get (D := G.1) (ci := 1) (v := .ref a) (C := "TreePress$Row") (T := kb_F1) (N := 2) hx hb ht kb_w1 hown hE.1 hP 0 rfl rfl 0 (by decide) (ht _ wd_aac26352) (fun _ h9 => h9) rfl d_Row_add_45 ?_
  refine va_alen (v := nI N) hx hb hE.1 hP 1 0 rfl rfl rfl d_Row_add_48 ?_
  refine lv_icmp_ge (tgt := 72) hx hb d_Row_add_49 (by decide) (fun c9 => absurd c9 (nI_ge hn (by omega))) (fun c9 => ?_)
  refine lv_aload_n hx hb d_Row_add_52 rfl (lv_at hl 0 rfl) ?_
  refine va_get (D := G.1) (ci := 1) (v := .ref a) (C := "TreePress$Row") (T := kb_F1) (N := 2) hx hb ht kb_w1 hown hE.1 hP 0 rfl rfl 0 (by decide) (ht _ wd_aac26352) (fun _ h9 => h9) rfl d_Row_add_53 ?_
  refine lv_aload_n hx hb d_Row_add_56 rfl (lv_at hl 0 rfl) ?_
  refine va_get (D := G.1) (ci := 1) (v := .int (nI n)) (C := "TreePress$Row") (T := kb_F1) (N := 2) hx hb ht kb_w1 hown hE.1 hP 0 rfl rfl 1 (by decide) (ht _ wd_14b1fe24) (fun _ h9 => h9) rfl d_Row_add_57 ?_
  refine lv_iload_n hx hb d_Row_add_60 rfl (lv_at hl 1 rfl) ?_
  refine va_iast hx hb hE.1 hP hD hS 1 0 rfl rfl (vp_in_nI hn (by omega)) d_Row_add_61 (fun H locs hP hD hS => ?_)
  rw [nI_clamp (by omega)] at hP hD
  have hP : va_P G.1 kb_cl [kb_o h 1 [.ref a, .int (nI n)], kb_a G a N (upd f n x)] H := hP
  have hD : va_D A [kb_o h 1 [.ref a, .int (nI n)], kb_a G a N (upd f n x)] := hD
  generalize (upd f n x) = gc1 at hP hD
  refine lv_aload_n hx hb d_Row_add_62 rfl (lv_at hl 0 rfl) ?_
  refine lv_dup hx hb d_Row_add_63 rfl ?_
  refine va_get (D := G.1) (ci := 1) (v := .int (nI n)) (C := "TreePress$Row") (T := kb_F1) (N := 2) hx hb ht kb_w1 hown hE.1 hP 0 rfl rfl 1 (by decide) (ht _ wd_14b1fe24) (fun _ h9 => h9) rfl d_Row_add_64 ?_
  refine lv_iconst (v := 1) hx hb d_Row_add_67 (by decide) ?_
  refine lv_iadd hx hb d_Row_add_68 ?_
  refine kb_top (y := nI (n + 1)) ((nI_succ n).symm) ?_
  refine va_put (D := G.1) (ci := 1) (v := .int (nI (n + 1))) (ty := .int) (C := "TreePress$Row") (T := kb_F1) (N := 2) hx hb ht kb_w1 kb_y1 kb_p1 kb_n1 hown hE.1 hP hD hS 0 rfl rfl 1 (by decide) (ht _ wd_14b1fe24) (fun _ h9 => h9) rfl (by decide +kernel) rfl rfl (Nat.le_of_ble_eq_true rfl) d_Row_add_69 (fun H locs hP hD hS => ?_)
  have hP : va_P G.1 kb_cl [kb_o h 1 [.ref a, .int (nI (n + 1))], kb_a G a N gc1] H := hP
  have hD : va_D A [kb_o h 1 [.ref a, .int (nI (n + 1))], kb_a G a N gc1] := hD
  exact kb_retv (kb_l [], kb_f [gc1]) hx hb hr hlocks hE hP hD hS [0, 1] rfl (by decide) rfl trivial (Nat.le_of_ble_eq_true rfl) (Nat.le_of_ble_eq_true rfl) d_Row_add_72

set_option maxHeartbeats 4000000 in
set_option maxRecDepth 100000 in
theorem c_copyOf_16 (l : Launch) (G : kb_G) (a : Nat) (f : Nat → Int32) : kb_cr l G ⟨"java/util/Arrays", "copyOf", "([II)[I"⟩ prog_17_method_123_code 3 (some (.array .int)) 2 1 32 [.ref a, .int 32] [kb_a G a 16 f] (fun u => True) (fun u => [kb_a G (u.1 0) 32 (u.2 0)]) := by
  intro sz
  refine kb_body (QQ := fun A => kb_Qr G A (fun u => True) (fun u => [kb_a G (u.1 0) 32 (u.2 0)])) (by decide) (Nat.le_of_ble_eq_true rfl) ?_
  intro p e s m below meth c A B ls hl
  obtain ⟨hx, hb, hr, hml, hlocks, hin, hown, ht, hE, hP, hD, hS⟩ := B
  have hl : lv_has ls 3 [(0, .ref a), (1, .int 32)] := hl
  have hP0 := hP
  obtain ⟨H, hHe⟩ : ∃ H, H = s.heap := ⟨_, rfl⟩
  rw [← hHe] at hP
  have hS : va_S A s.heap H [] := by rw [hHe]; exact hS
  refine kb_at hHe ?_
  clear hHe
  refine lv_iload_n hx hb d_Arr_copyOf_0 rfl (lv_at hl 1 rfl) ?_
  refine lv_aload_n hx hb d_Arr_copyOf_1 rfl (lv_at hl 0 rfl) ?_
  refine va_alen (v := 16) hx hb hE.1 hP 0 0 rfl rfl rfl d_Arr_copyOf_2 ?_
  refine lv_icmp_ne (tgt := 14) hx hb d_Arr_copyOf_3 (by decide) (fun c9 => ?_) (fun c9 => absurd c9 (by decide))
  refine lv_iload_n hx hb d_Arr_copyOf_14 rfl (lv_at hl 1 rfl) ?_
  refine kb_newi (N := 32) hx hb (ht _ wd_298d195d) hE hP hD hS (by decide) (by decide) (by decide) (Nat.le_of_ble_eq_true rfl) (Nat.le_of_ble_eq_true rfl) d_Arr_copyOf_15 (fun qn1 H hP hD hS => ?_)
  have hP : va_P G.1 kb_cl [kb_a G a 16 f, kb_a G qn1 32 (fun _ => 0)] H := hP
  have hD : va_D A [kb_a G a 16 f, kb_a G qn1 32 (fun _ => 0)] := hD
  refine lv_astore_n (lv' := [(2, .ref qn1), (0, .ref a), (1, .int 32)]) hx hb d_Arr_copyOf_17 rfl hl (by decide) rfl (fun ls hl => ?_)
  refine lv_aload_n hx hb d_Arr_copyOf_18 rfl (lv_at hl 1 rfl) ?_
  refine lv_iconst (v := 0) hx hb d_Arr_copyOf_19 (by decide) ?_
  refine lv_aload_n hx hb d_Arr_copyOf_20 rfl (lv_at hl 0 rfl) ?_
  refine lv_iconst (v := 0) hx hb d_Arr_copyOf_21 (by decide) ?_
  refine lv_aload_n hx hb d_Arr_copyOf_22 rfl (lv_at hl 1 rfl) ?_
  refine va_alen (v := 16) hx hb hE.1 hP 0 0 rfl rfl rfl d_Arr_copyOf_23 ?_
  refine lv_iload_n hx hb d_Arr_copyOf_24 rfl (lv_at hl 2 rfl) ?_
  refine va_mmin hx hb (hml.trans hl.1.symm) hown (ht _ wd_7ee5459b) (ht _ wd_3a7a32ed) (ht _ wd_5a0cff89) (ht _ wd_c98a754a) (Nat.le_of_ble_eq_true rfl) (Nat.le_of_ble_eq_true rfl) (Nat.le_of_ble_eq_true rfl) (Nat.le_of_ble_eq_true rfl) d_Arr_copyOf_25 ?_
  refine kb_top (y := 16) (by decide) ?_
  refine va_copyi hx hb (hml.trans hl.1.symm) hown (ht _ wd_344f678d) (ht _ wd_be8e62b0) (ht _ wd_7f6f8fc1) (ht _ wd_ef343630) hE.1 hP hD hS 0 1 0 0 rfl rfl rfl rfl rfl (by decide) (by decide) (by decide) (by decide) (by decide) (fun _ _ => rfl) (Nat.le_of_ble_eq_true rfl) (by decide) d_Arr_copyOf_28 (fun H locs hP hD hS => ?_)
  generalize va_cpy _ _ _ _ _ = gc2 at hP hD
  have hP : va_P G.1 kb_cl [kb_a G a 16 f, kb_a G qn1 32 gc2] H := hP
  have hD : va_D A [kb_a G a 16 f, kb_a G qn1 32 gc2] := hD
  refine lv_aload_n hx hb d_Arr_copyOf_31 rfl (lv_at hl 0 rfl) ?_
  exact kb_reta (kb_l [qn1], kb_f [gc2]) rfl hx hb hr hlocks hE hP hD hS [1] rfl (by decide) rfl trivial (Nat.le_of_ble_eq_true rfl) (Nat.le_of_ble_eq_true rfl) d_Arr_copyOf_32

set_option maxHeartbeats 4000000 in
set_option maxRecDepth 100000 in
theorem c_Row_add_g16 (l : Launch) (G : kb_G) (h : Nat) (a : Nat) (f : Nat → Int32) (x : Int32) : kb_cv l G ⟨"TreePress$Row", "add", "(I)V"⟩ prog_3_method_5_code 2 3 1 32 [.ref h, .int x] [kb_o h 1 [.ref a, .int 16], kb_a G a 16 f] (fun u => True) (fun u => [kb_o h 1 [.ref (u.1 0), .int 17], kb_a G (u.1 0) 32 (upd (u.2 0) 16 x)]) := by
  intro sz
  refine kb_body (QQ := fun A => kb_Qv G A (fun u => True) (fun u => [kb_o h 1 [.ref (u.1 0), .int 17], kb_a G (u.1 0) 32 (upd (u.2 0) 16 x)])) (by decide) (Nat.le_of_ble_eq_true rfl) ?_
  intro p e s m below meth c A B ls hl
  obtain ⟨hx, hb, hr, hml, hlocks, hin, hown, ht, hE, hP, hD, hS⟩ := B
  have hl : lv_has ls 2 [(0, .ref h), (1, .int x)] := hl
  have hP0 := hP
  obtain ⟨H, hHe⟩ : ∃ H, H = s.heap := ⟨_, rfl⟩
  rw [← hHe] at hP
  have hS : va_S A s.heap H [] := by rw [hHe]; exact hS
  refine kb_at hHe ?_
  clear hHe
  refine lv_aload_n hx hb d_Row_add_0 rfl (lv_at hl 0 rfl) ?_
  refine va_get (D := G.1) (ci := 1) (v := .int 16) (C := "TreePress$Row") (T := kb_F1) (N := 2) hx hb ht kb_w1 hown hE.1 hP 0 rfl rfl 1 (by decide) (ht _ wd_14b1fe24) (fun _ h9 => h9) rfl d_Row_add_1 ?_
  refine lv_aload_n hx hb d_Row_add_4 rfl (lv_at hl 0 rfl) ?_
  refine va_get (D := G.1) (ci := 1) (v := .ref a) (C := "TreePress$Row") (T := kb_F1) (N := 2) hx hb ht kb_w1 hown hE.1 hP 0 rfl rfl 0 (by decide) (ht _ wd_aac26352) (fun _ h9 => h9) rfl d_Row_add_5 ?_
  refine va_alen (v := 16) hx hb hE.1 hP 1 0 rfl rfl rfl d_Row_add_8 ?_
  refine lv_icmp_lt (tgt := 40) hx hb d_Row_add_9 (by decide) (fun c9 => absurd c9 (by decide)) (fun c9 => ?_)
  refine lv_aload_n hx hb d_Row_add_12 rfl (lv_at hl 0 rfl) ?_
  refine va_get (D := G.1) (ci := 1) (v := .ref a) (C := "TreePress$Row") (T := kb_F1) (N := 2) hx hb ht kb_w1 hown hE.1 hP 0 rfl rfl 0 (by decide) (ht _ wd_aac26352) (fun _ h9 => h9) rfl d_Row_add_13 ?_
  refine va_alen (v := 16) hx hb hE.1 hP 1 0 rfl rfl rfl d_Row_add_16 ?_
  refine lv_ldc (v := 65536) hx hb hown (ht _ wd_28377cc0) d_Row_add_17 ?_
  refine lv_icmp_ge (tgt := 40) hx hb d_Row_add_19 (by decide) (fun c9 => absurd c9 (by decide)) (fun c9 => ?_)
  refine lv_aload_n hx hb d_Row_add_22 rfl (lv_at hl 0 rfl) ?_
  refine lv_aload_n hx hb d_Row_add_23 rfl (lv_at hl 0 rfl) ?_
  refine va_get (D := G.1) (ci := 1) (v := .ref a) (C := "TreePress$Row") (T := kb_F1) (N := 2) hx hb ht kb_w1 hown hE.1 hP 0 rfl rfl 0 (by decide) (ht _ wd_aac26352) (fun _ h9 => h9) rfl d_Row_add_24 ?_
  refine lv_iconst (v := 2) hx hb d_Row_add_27 (by decide) ?_
  refine lv_aload_n hx hb d_Row_add_28 rfl (lv_at hl 0 rfl) ?_
  refine va_get (D := G.1) (ci := 1) (v := .ref a) (C := "TreePress$Row") (T := kb_F1) (N := 2) hx hb ht kb_w1 hown hE.1 hP 0 rfl rfl 0 (by decide) (ht _ wd_aac26352) (fun _ h9 => h9) rfl d_Row_add_29 ?_
  refine va_alen (v := 16) hx hb hE.1 hP 1 0 rfl rfl rfl d_Row_add_32 ?_
  refine lv_imul hx hb d_Row_add_33 ?_
  refine kb_top (y := 32) (by decide) ?_
  refine kb_r (wc := [kb_a G a 16 f]) (wr := [kb_o h 1 [.ref a, .int 16]]) hE hP hD hS [1] [0] rfl rfl (by decide) (by decide) (kb_rS (As := [.ref a, .int 32]) (rest := [.ref h]) (wc := [kb_a G a 16 f]) ⟨hx, hb, hml, hown, ht⟩ ((c_copyOf_16 l G a f) _) wd_ad853a53 wd_b0593275 wd_4e6ae1d1 wd_af4c3967 hd_c5a1602a ⟨(Nat.le_of_ble_eq_true rfl), (Nat.le_of_ble_eq_true rfl)⟩ hE hP hD hS [1] rfl (by decide) hl.1 rfl (Nat.le_of_ble_eq_true rfl) d_Row_add_34 ⟨(Nat.le_of_ble_eq_true rfl), (Nat.le_of_ble_eq_true rfl)⟩) (fun uu1 H locs hw hP hD hS => ?_)
  have hP : va_P G.1 kb_cl [kb_o h 1 [.ref a, .int 16], kb_a G (uu1.1 0) 32 (uu1.2 0)] H := hP
  have hD : va_D A [kb_o h 1 [.ref a, .int 16], kb_a G (uu1.1 0) 32 (uu1.2 0)] := hD
  refine va_put (D := G.1) (ci := 1) (v := .ref (uu1.1 0)) (ty := .array .int) (C := "TreePress$Row") (T := kb_F1) (N := 2) hx hb ht kb_w1 kb_y1 kb_p1 kb_n1 hown hE.1 hP hD hS 0 rfl rfl 0 (by decide) (ht _ wd_aac26352) (fun _ h9 => h9) rfl (by decide +kernel) rfl rfl (Nat.le_of_ble_eq_true rfl) d_Row_add_37 (fun H locs hP hD hS => ?_)
  have hP : va_P G.1 kb_cl [kb_o h 1 [.ref (uu1.1 0), .int 16], kb_a G (uu1.1 0) 32 (uu1.2 0)] H := hP
  have hD : va_D A [kb_o h 1 [.ref (uu1.1 0), .int 16], kb_a G (uu1.1 0) 32 (uu1.2 0)] := hD
  refine lv_aload_n hx hb d_Row_add_40 rfl (lv_at hl 0 rfl) ?_
  refine va_get (D := G.1) (ci := 1) (v := .int 16) (C := "TreePress$Row") (T := kb_F1) (N := 2) hx hb ht kb_w1 hown hE.1 hP 0 rfl rfl 1 (by decide) (ht _ wd_14b1fe24) (fun _ h9 => h9) rfl d_Row_add_41 ?_
  refine lv_aload_n hx hb d_Row_add_44 rfl (lv_at hl 0 rfl) ?_
  refine va_get (D := G.1) (ci := 1) (v := .ref (uu1.1 0)) (C := "TreePress$Row") (T := kb_F1) (N := 2) hx hb ht kb_w1 hown hE.1 hP 0 rfl rfl 0 (by decide) (ht _ wd_aac26352) (fun _ h9 => h9) rfl d_Row_add_45 ?_
  refine va_alen (v := 32) hx hb hE.1 hP 1 0 rfl rfl rfl d_Row_add_48 ?_
  refine lv_icmp_ge (tgt := 72) hx hb d_Row_add_49 (by decide) (fun c9 => absurd c9 (by decide)) (fun c9 => ?_)
  refine lv_aload_n hx hb d_Row_add_52 rfl (lv_at hl 0 rfl) ?_
  refine va_get (D := G.1) (ci := 1) (v := .ref (uu1.1 0)) (C := "TreePress$Row") (T := kb_F1) (N := 2) hx hb ht kb_w1 hown hE.1 hP 0 rfl rfl 0 (by decide) (ht _ wd_aac26352) (fun _ h9 => h9) rfl d_Row_add_53 ?_
  refine lv_aload_n hx hb d_Row_add_56 rfl (lv_at hl 0 rfl) ?_
  refine va_get (D := G.1) (ci := 1) (v := .int 16) (C := "TreePress$Row") (T := kb_F1) (N := 2) hx hb ht kb_w1 hown hE.1 hP 0 rfl rfl 1 (by decide) (ht _ wd_14b1fe24) (fun _ h9 => h9) rfl d_Row_add_57 ?_
  refine lv_iload_n hx hb d_Row_add_60 rfl (lv_at hl 1 rfl) ?_
  refine va_iast hx hb hE.1 hP hD hS 1 0 rfl rfl (show ¬ ((16 : Int32) < 0 ∨ 32 ≤ (16 : Int32).toNatClampNeg) by decide) d_Row_add_61 (fun H locs hP hD hS => ?_)
  have hP : va_P G.1 kb_cl [kb_o h 1 [.ref (uu1.1 0), .int 16], kb_a G (uu1.1 0) 32 (upd (uu1.2 0) 16 x)] H := hP
  have hD : va_D A [kb_o h 1 [.ref (uu1.1 0), .int 16], kb_a G (uu1.1 0) 32 (upd (uu1.2 0) 16 x)] := hD
  refine lv_aload_n hx hb d_Row_add_62 rfl (lv_at hl 0 rfl) ?_
  refine lv_dup hx hb d_Row_add_63 rfl ?_
  refine va_get (D := G.1) (ci := 1) (v := .int 16) (C := "TreePress$Row") (T := kb_F1) (N := 2) hx hb ht kb_w1 hown hE.1 hP 0 rfl rfl 1 (by decide) (ht _ wd_14b1fe24) (fun _ h9 => h9) rfl d_Row_add_64 ?_
  refine lv_iconst (v := 1) hx hb d_Row_add_67 (by decide) ?_
  refine lv_iadd hx hb d_Row_add_68 ?_
  refine kb_top (y := 17) (by decide) ?_
  refine va_put (D := G.1) (ci := 1) (v := .int 17) (ty := .int) (C := "TreePress$Row") (T := kb_F1) (N := 2) hx hb ht kb_w1 kb_y1 kb_p1 kb_n1 hown hE.1 hP hD hS 0 rfl rfl 1 (by decide) (ht _ wd_14b1fe24) (fun _ h9 => h9) rfl (by decide +kernel) rfl rfl (Nat.le_of_ble_eq_true rfl) d_Row_add_69 (fun H locs hP hD hS => ?_)
  have hP : va_P G.1 kb_cl [kb_o h 1 [.ref (uu1.1 0), .int 17], kb_a G (uu1.1 0) 32 (upd (uu1.2 0) 16 x)] H := hP
  have hD : va_D A [kb_o h 1 [.ref (uu1.1 0), .int 17], kb_a G (uu1.1 0) 32 (upd (uu1.2 0) 16 x)] := hD
  exact kb_retv (kb_l [uu1.1 0], kb_f [uu1.2 0]) hx hb hr hlocks hE hP hD hS [0, 1] rfl (by decide) rfl trivial (Nat.le_of_ble_eq_true rfl) (Nat.le_of_ble_eq_true rfl) d_Row_add_72

set_option maxHeartbeats 4000000 in
set_option maxRecDepth 100000 in
theorem c_copyOf_32 (l : Launch) (G : kb_G) (a : Nat) (f : Nat → Int32) : kb_cr l G ⟨"java/util/Arrays", "copyOf", "([II)[I"⟩ prog_17_method_123_code 3 (some (.array .int)) 2 1 64 [.ref a, .int 64] [kb_a G a 32 f] (fun u => True) (fun u => [kb_a G (u.1 0) 64 (u.2 0)]) := by
  intro sz
  refine kb_body (QQ := fun A => kb_Qr G A (fun u => True) (fun u => [kb_a G (u.1 0) 64 (u.2 0)])) (by decide) (Nat.le_of_ble_eq_true rfl) ?_
  intro p e s m below meth c A B ls hl
  obtain ⟨hx, hb, hr, hml, hlocks, hin, hown, ht, hE, hP, hD, hS⟩ := B
  have hl : lv_has ls 3 [(0, .ref a), (1, .int 64)] := hl
  have hP0 := hP
  obtain ⟨H, hHe⟩ : ∃ H, H = s.heap := ⟨_, rfl⟩
  rw [← hHe] at hP
  have hS : va_S A s.heap H [] := by rw [hHe]; exact hS
  refine kb_at hHe ?_
  clear hHe
  refine lv_iload_n hx hb d_Arr_copyOf_0 rfl (lv_at hl 1 rfl) ?_
  refine lv_aload_n hx hb d_Arr_copyOf_1 rfl (lv_at hl 0 rfl) ?_
  refine va_alen (v := 32) hx hb hE.1 hP 0 0 rfl rfl rfl d_Arr_copyOf_2 ?_
  refine lv_icmp_ne (tgt := 14) hx hb d_Arr_copyOf_3 (by decide) (fun c9 => ?_) (fun c9 => absurd c9 (by decide))
  refine lv_iload_n hx hb d_Arr_copyOf_14 rfl (lv_at hl 1 rfl) ?_
  refine kb_newi (N := 64) hx hb (ht _ wd_298d195d) hE hP hD hS (by decide) (by decide) (by decide) (Nat.le_of_ble_eq_true rfl) (Nat.le_of_ble_eq_true rfl) d_Arr_copyOf_15 (fun qn1 H hP hD hS => ?_)
  have hP : va_P G.1 kb_cl [kb_a G a 32 f, kb_a G qn1 64 (fun _ => 0)] H := hP
  have hD : va_D A [kb_a G a 32 f, kb_a G qn1 64 (fun _ => 0)] := hD
  refine lv_astore_n (lv' := [(2, .ref qn1), (0, .ref a), (1, .int 64)]) hx hb d_Arr_copyOf_17 rfl hl (by decide) rfl (fun ls hl => ?_)
  refine lv_aload_n hx hb d_Arr_copyOf_18 rfl (lv_at hl 1 rfl) ?_
  refine lv_iconst (v := 0) hx hb d_Arr_copyOf_19 (by decide) ?_
  refine lv_aload_n hx hb d_Arr_copyOf_20 rfl (lv_at hl 0 rfl) ?_
  refine lv_iconst (v := 0) hx hb d_Arr_copyOf_21 (by decide) ?_
  refine lv_aload_n hx hb d_Arr_copyOf_22 rfl (lv_at hl 1 rfl) ?_
  refine va_alen (v := 32) hx hb hE.1 hP 0 0 rfl rfl rfl d_Arr_copyOf_23 ?_
  refine lv_iload_n hx hb d_Arr_copyOf_24 rfl (lv_at hl 2 rfl) ?_
  refine va_mmin hx hb (hml.trans hl.1.symm) hown (ht _ wd_7ee5459b) (ht _ wd_3a7a32ed) (ht _ wd_5a0cff89) (ht _ wd_c98a754a) (Nat.le_of_ble_eq_true rfl) (Nat.le_of_ble_eq_true rfl) (Nat.le_of_ble_eq_true rfl) (Nat.le_of_ble_eq_true rfl) d_Arr_copyOf_25 ?_
  refine kb_top (y := 32) (by decide) ?_
  refine va_copyi hx hb (hml.trans hl.1.symm) hown (ht _ wd_344f678d) (ht _ wd_be8e62b0) (ht _ wd_7f6f8fc1) (ht _ wd_ef343630) hE.1 hP hD hS 0 1 0 0 rfl rfl rfl rfl rfl (by decide) (by decide) (by decide) (by decide) (by decide) (fun _ _ => rfl) (Nat.le_of_ble_eq_true rfl) (by decide) d_Arr_copyOf_28 (fun H locs hP hD hS => ?_)
  generalize va_cpy _ _ _ _ _ = gc2 at hP hD
  have hP : va_P G.1 kb_cl [kb_a G a 32 f, kb_a G qn1 64 gc2] H := hP
  have hD : va_D A [kb_a G a 32 f, kb_a G qn1 64 gc2] := hD
  refine lv_aload_n hx hb d_Arr_copyOf_31 rfl (lv_at hl 0 rfl) ?_
  exact kb_reta (kb_l [qn1], kb_f [gc2]) rfl hx hb hr hlocks hE hP hD hS [1] rfl (by decide) rfl trivial (Nat.le_of_ble_eq_true rfl) (Nat.le_of_ble_eq_true rfl) d_Arr_copyOf_32

set_option maxHeartbeats 4000000 in
set_option maxRecDepth 100000 in
theorem c_Row_add_g32 (l : Launch) (G : kb_G) (h : Nat) (a : Nat) (f : Nat → Int32) (x : Int32) : kb_cv l G ⟨"TreePress$Row", "add", "(I)V"⟩ prog_3_method_5_code 2 3 1 64 [.ref h, .int x] [kb_o h 1 [.ref a, .int 32], kb_a G a 32 f] (fun u => True) (fun u => [kb_o h 1 [.ref (u.1 0), .int 33], kb_a G (u.1 0) 64 (upd (u.2 0) 32 x)]) := by
  intro sz
  refine kb_body (QQ := fun A => kb_Qv G A (fun u => True) (fun u => [kb_o h 1 [.ref (u.1 0), .int 33], kb_a G (u.1 0) 64 (upd (u.2 0) 32 x)])) (by decide) (Nat.le_of_ble_eq_true rfl) ?_
  intro p e s m below meth c A B ls hl
  obtain ⟨hx, hb, hr, hml, hlocks, hin, hown, ht, hE, hP, hD, hS⟩ := B
  have hl : lv_has ls 2 [(0, .ref h), (1, .int x)] := hl
  have hP0 := hP
  obtain ⟨H, hHe⟩ : ∃ H, H = s.heap := ⟨_, rfl⟩
  rw [← hHe] at hP
  have hS : va_S A s.heap H [] := by rw [hHe]; exact hS
  refine kb_at hHe ?_
  clear hHe
  refine lv_aload_n hx hb d_Row_add_0 rfl (lv_at hl 0 rfl) ?_
  refine va_get (D := G.1) (ci := 1) (v := .int 32) (C := "TreePress$Row") (T := kb_F1) (N := 2) hx hb ht kb_w1 hown hE.1 hP 0 rfl rfl 1 (by decide) (ht _ wd_14b1fe24) (fun _ h9 => h9) rfl d_Row_add_1 ?_
  refine lv_aload_n hx hb d_Row_add_4 rfl (lv_at hl 0 rfl) ?_
  refine va_get (D := G.1) (ci := 1) (v := .ref a) (C := "TreePress$Row") (T := kb_F1) (N := 2) hx hb ht kb_w1 hown hE.1 hP 0 rfl rfl 0 (by decide) (ht _ wd_aac26352) (fun _ h9 => h9) rfl d_Row_add_5 ?_
  refine va_alen (v := 32) hx hb hE.1 hP 1 0 rfl rfl rfl d_Row_add_8 ?_
  refine lv_icmp_lt (tgt := 40) hx hb d_Row_add_9 (by decide) (fun c9 => absurd c9 (by decide)) (fun c9 => ?_)
  refine lv_aload_n hx hb d_Row_add_12 rfl (lv_at hl 0 rfl) ?_
  refine va_get (D := G.1) (ci := 1) (v := .ref a) (C := "TreePress$Row") (T := kb_F1) (N := 2) hx hb ht kb_w1 hown hE.1 hP 0 rfl rfl 0 (by decide) (ht _ wd_aac26352) (fun _ h9 => h9) rfl d_Row_add_13 ?_
  refine va_alen (v := 32) hx hb hE.1 hP 1 0 rfl rfl rfl d_Row_add_16 ?_
  refine lv_ldc (v := 65536) hx hb hown (ht _ wd_28377cc0) d_Row_add_17 ?_
  refine lv_icmp_ge (tgt := 40) hx hb d_Row_add_19 (by decide) (fun c9 => absurd c9 (by decide)) (fun c9 => ?_)
  refine lv_aload_n hx hb d_Row_add_22 rfl (lv_at hl 0 rfl) ?_
  refine lv_aload_n hx hb d_Row_add_23 rfl (lv_at hl 0 rfl) ?_
  refine va_get (D := G.1) (ci := 1) (v := .ref a) (C := "TreePress$Row") (T := kb_F1) (N := 2) hx hb ht kb_w1 hown hE.1 hP 0 rfl rfl 0 (by decide) (ht _ wd_aac26352) (fun _ h9 => h9) rfl d_Row_add_24 ?_
  refine lv_iconst (v := 2) hx hb d_Row_add_27 (by decide) ?_
  refine lv_aload_n hx hb d_Row_add_28 rfl (lv_at hl 0 rfl) ?_
  refine va_get (D := G.1) (ci := 1) (v := .ref a) (C := "TreePress$Row") (T := kb_F1) (N := 2) hx hb ht kb_w1 hown hE.1 hP 0 rfl rfl 0 (by decide) (ht _ wd_aac26352) (fun _ h9 => h9) rfl d_Row_add_29 ?_
  refine va_alen (v := 32) hx hb hE.1 hP 1 0 rfl rfl rfl d_Row_add_32 ?_
  refine lv_imul hx hb d_Row_add_33 ?_
  refine kb_top (y := 64) (by decide) ?_
  refine kb_r (wc := [kb_a G a 32 f]) (wr := [kb_o h 1 [.ref a, .int 32]]) hE hP hD hS [1] [0] rfl rfl (by decide) (by decide) (kb_rS (As := [.ref a, .int 64]) (rest := [.ref h]) (wc := [kb_a G a 32 f]) ⟨hx, hb, hml, hown, ht⟩ ((c_copyOf_32 l G a f) _) wd_ad853a53 wd_b0593275 wd_4e6ae1d1 wd_af4c3967 hd_c5a1602a ⟨(Nat.le_of_ble_eq_true rfl), (Nat.le_of_ble_eq_true rfl)⟩ hE hP hD hS [1] rfl (by decide) hl.1 rfl (Nat.le_of_ble_eq_true rfl) d_Row_add_34 ⟨(Nat.le_of_ble_eq_true rfl), (Nat.le_of_ble_eq_true rfl)⟩) (fun uu1 H locs hw hP hD hS => ?_)
  have hP : va_P G.1 kb_cl [kb_o h 1 [.ref a, .int 32], kb_a G (uu1.1 0) 64 (uu1.2 0)] H := hP
  have hD : va_D A [kb_o h 1 [.ref a, .int 32], kb_a G (uu1.1 0) 64 (uu1.2 0)] := hD
  refine va_put (D := G.1) (ci := 1) (v := .ref (uu1.1 0)) (ty := .array .int) (C := "TreePress$Row") (T := kb_F1) (N := 2) hx hb ht kb_w1 kb_y1 kb_p1 kb_n1 hown hE.1 hP hD hS 0 rfl rfl 0 (by decide) (ht _ wd_aac26352) (fun _ h9 => h9) rfl (by decide +kernel) rfl rfl (Nat.le_of_ble_eq_true rfl) d_Row_add_37 (fun H locs hP hD hS => ?_)
  have hP : va_P G.1 kb_cl [kb_o h 1 [.ref (uu1.1 0), .int 32], kb_a G (uu1.1 0) 64 (uu1.2 0)] H := hP
  have hD : va_D A [kb_o h 1 [.ref (uu1.1 0), .int 32], kb_a G (uu1.1 0) 64 (uu1.2 0)] := hD
  refine lv_aload_n hx hb d_Row_add_40 rfl (lv_at hl 0 rfl) ?_
  refine va_get (D := G.1) (ci := 1) (v := .int 32) (C := "TreePress$Row") (T := kb_F1) (N := 2) hx hb ht kb_w1 hown hE.1 hP 0 rfl rfl 1 (by decide) (ht _ wd_14b1fe24) (fun _ h9 => h9) rfl d_Row_add_41 ?_
  refine lv_aload_n hx hb d_Row_add_44 rfl (lv_at hl 0 rfl) ?_
  refine va_get (D := G.1) (ci := 1) (v := .ref (uu1.1 0)) (C := "TreePress$Row") (T := kb_F1) (N := 2) hx hb ht kb_w1 hown hE.1 hP 0 rfl rfl 0 (by decide) (ht _ wd_aac26352) (fun _ h9 => h9) rfl d_Row_add_45 ?_
  refine va_alen (v := 64) hx hb hE.1 hP 1 0 rfl rfl rfl d_Row_add_48 ?_
  refine lv_icmp_ge (tgt := 72) hx hb d_Row_add_49 (by decide) (fun c9 => absurd c9 (by decide)) (fun c9 => ?_)
  refine lv_aload_n hx hb d_Row_add_52 rfl (lv_at hl 0 rfl) ?_
  refine va_get (D := G.1) (ci := 1) (v := .ref (uu1.1 0)) (C := "TreePress$Row") (T := kb_F1) (N := 2) hx hb ht kb_w1 hown hE.1 hP 0 rfl rfl 0 (by decide) (ht _ wd_aac26352) (fun _ h9 => h9) rfl d_Row_add_53 ?_
  refine lv_aload_n hx hb d_Row_add_56 rfl (lv_at hl 0 rfl) ?_
  refine va_get (D := G.1) (ci := 1) (v := .int 32) (C := "TreePress$Row") (T := kb_F1) (N := 2) hx hb ht kb_w1 hown hE.1 hP 0 rfl rfl 1 (by decide) (ht _ wd_14b1fe24) (fun _ h9 => h9) rfl d_Row_add_57 ?_
  refine lv_iload_n hx hb d_Row_add_60 rfl (lv_at hl 1 rfl) ?_
  refine va_iast hx hb hE.1 hP hD hS 1 0 rfl rfl (show ¬ ((32 : Int32) < 0 ∨ 64 ≤ (32 : Int32).toNatClampNeg) by decide) d_Row_add_61 (fun H locs hP hD hS => ?_)
  have hP : va_P G.1 kb_cl [kb_o h 1 [.ref (uu1.1 0), .int 32], kb_a G (uu1.1 0) 64 (upd (uu1.2 0) 32 x)] H := hP
  have hD : va_D A [kb_o h 1 [.ref (uu1.1 0), .int 32], kb_a G (uu1.1 0) 64 (upd (uu1.2 0) 32 x)] := hD
  refine lv_aload_n hx hb d_Row_add_62 rfl (lv_at hl 0 rfl) ?_
  refine lv_dup hx hb d_Row_add_63 rfl ?_
  refine va_get (D := G.1) (ci := 1) (v := .int 32) (C := "TreePress$Row") (T := kb_F1) (N := 2) hx hb ht kb_w1 hown hE.1 hP 0 rfl rfl 1 (by decide) (ht _ wd_14b1fe24) (fun _ h9 => h9) rfl d_Row_add_64 ?_
  refine lv_iconst (v := 1) hx hb d_Row_add_67 (by decide) ?_
  refine lv_iadd hx hb d_Row_add_68 ?_
  refine kb_top (y := 33) (by decide) ?_
  refine va_put (D := G.1) (ci := 1) (v := .int 33) (ty := .int) (C := "TreePress$Row") (T := kb_F1) (N := 2) hx hb ht kb_w1 kb_y1 kb_p1 kb_n1 hown hE.1 hP hD hS 0 rfl rfl 1 (by decide) (ht _ wd_14b1fe24) (fun _ h9 => h9) rfl (by decide +kernel) rfl rfl (Nat.le_of_ble_eq_true rfl) d_Row_add_69 (fun H locs hP hD hS => ?_)
  have hP : va_P G.1 kb_cl [kb_o h 1 [.ref (uu1.1 0), .int 33], kb_a G (uu1.1 0) 64 (upd (uu1.2 0) 32 x)] H := hP
  have hD : va_D A [kb_o h 1 [.ref (uu1.1 0), .int 33], kb_a G (uu1.1 0) 64 (upd (uu1.2 0) 32 x)] := hD
  exact kb_retv (kb_l [uu1.1 0], kb_f [uu1.2 0]) hx hb hr hlocks hE hP hD hS [0, 1] rfl (by decide) rfl trivial (Nat.le_of_ble_eq_true rfl) (Nat.le_of_ble_eq_true rfl) d_Row_add_72

set_option maxHeartbeats 4000000 in
set_option maxRecDepth 100000 in
theorem c_copyOf_64 (l : Launch) (G : kb_G) (a : Nat) (f : Nat → Int32) : kb_cr l G ⟨"java/util/Arrays", "copyOf", "([II)[I"⟩ prog_17_method_123_code 3 (some (.array .int)) 2 1 128 [.ref a, .int 128] [kb_a G a 64 f] (fun u => True) (fun u => [kb_a G (u.1 0) 128 (u.2 0)]) := by
  intro sz
  refine kb_body (QQ := fun A => kb_Qr G A (fun u => True) (fun u => [kb_a G (u.1 0) 128 (u.2 0)])) (by decide) (Nat.le_of_ble_eq_true rfl) ?_
  intro p e s m below meth c A B ls hl
  obtain ⟨hx, hb, hr, hml, hlocks, hin, hown, ht, hE, hP, hD, hS⟩ := B
  have hl : lv_has ls 3 [(0, .ref a), (1, .int 128)] := hl
  have hP0 := hP
  obtain ⟨H, hHe⟩ : ∃ H, H = s.heap := ⟨_, rfl⟩
  rw [← hHe] at hP
  have hS : va_S A s.heap H [] := by rw [hHe]; exact hS
  refine kb_at hHe ?_
  clear hHe
  refine lv_iload_n hx hb d_Arr_copyOf_0 rfl (lv_at hl 1 rfl) ?_
  refine lv_aload_n hx hb d_Arr_copyOf_1 rfl (lv_at hl 0 rfl) ?_
  refine va_alen (v := 64) hx hb hE.1 hP 0 0 rfl rfl rfl d_Arr_copyOf_2 ?_
  refine lv_icmp_ne (tgt := 14) hx hb d_Arr_copyOf_3 (by decide) (fun c9 => ?_) (fun c9 => absurd c9 (by decide))
  refine lv_iload_n hx hb d_Arr_copyOf_14 rfl (lv_at hl 1 rfl) ?_
  refine kb_newi (N := 128) hx hb (ht _ wd_298d195d) hE hP hD hS (by decide) (by decide) (by decide) (Nat.le_of_ble_eq_true rfl) (Nat.le_of_ble_eq_true rfl) d_Arr_copyOf_15 (fun qn1 H hP hD hS => ?_)
  have hP : va_P G.1 kb_cl [kb_a G a 64 f, kb_a G qn1 128 (fun _ => 0)] H := hP
  have hD : va_D A [kb_a G a 64 f, kb_a G qn1 128 (fun _ => 0)] := hD
  refine lv_astore_n (lv' := [(2, .ref qn1), (0, .ref a), (1, .int 128)]) hx hb d_Arr_copyOf_17 rfl hl (by decide) rfl (fun ls hl => ?_)
  refine lv_aload_n hx hb d_Arr_copyOf_18 rfl (lv_at hl 1 rfl) ?_
  refine lv_iconst (v := 0) hx hb d_Arr_copyOf_19 (by decide) ?_
  refine lv_aload_n hx hb d_Arr_copyOf_20 rfl (lv_at hl 0 rfl) ?_
  refine lv_iconst (v := 0) hx hb d_Arr_copyOf_21 (by decide) ?_
  refine lv_aload_n hx hb d_Arr_copyOf_22 rfl (lv_at hl 1 rfl) ?_
  refine va_alen (v := 64) hx hb hE.1 hP 0 0 rfl rfl rfl d_Arr_copyOf_23 ?_
  refine lv_iload_n hx hb d_Arr_copyOf_24 rfl (lv_at hl 2 rfl) ?_
  refine va_mmin hx hb (hml.trans hl.1.symm) hown (ht _ wd_7ee5459b) (ht _ wd_3a7a32ed) (ht _ wd_5a0cff89) (ht _ wd_c98a754a) (Nat.le_of_ble_eq_true rfl) (Nat.le_of_ble_eq_true rfl) (Nat.le_of_ble_eq_true rfl) (Nat.le_of_ble_eq_true rfl) d_Arr_copyOf_25 ?_
  refine kb_top (y := 64) (by decide) ?_
  refine va_copyi hx hb (hml.trans hl.1.symm) hown (ht _ wd_344f678d) (ht _ wd_be8e62b0) (ht _ wd_7f6f8fc1) (ht _ wd_ef343630) hE.1 hP hD hS 0 1 0 0 rfl rfl rfl rfl rfl (by decide) (by decide) (by decide) (by decide) (by decide) (fun _ _ => rfl) (Nat.le_of_ble_eq_true rfl) (by decide) d_Arr_copyOf_28 (fun H locs hP hD hS => ?_)
  generalize va_cpy _ _ _ _ _ = gc2 at hP hD
  have hP : va_P G.1 kb_cl [kb_a G a 64 f, kb_a G qn1 128 gc2] H := hP
  have hD : va_D A [kb_a G a 64 f, kb_a G qn1 128 gc2] := hD
  refine lv_aload_n hx hb d_Arr_copyOf_31 rfl (lv_at hl 0 rfl) ?_
  exact kb_reta (kb_l [qn1], kb_f [gc2]) rfl hx hb hr hlocks hE hP hD hS [1] rfl (by decide) rfl trivial (Nat.le_of_ble_eq_true rfl) (Nat.le_of_ble_eq_true rfl) d_Arr_copyOf_32

set_option maxHeartbeats 4000000 in
set_option maxRecDepth 100000 in
theorem c_Row_add_g64 (l : Launch) (G : kb_G) (h : Nat) (a : Nat) (f : Nat → Int32) (x : Int32) : kb_cv l G ⟨"TreePress$Row", "add", "(I)V"⟩ prog_3_method_5_code 2 3 1 128 [.ref h, .int x] [kb_o h 1 [.ref a, .int 64], kb_a G a 64 f] (fun u => True) (fun u => [kb_o h 1 [.ref (u.1 0), .int 65], kb_a G (u.1 0) 128 (upd (u.2 0) 64 x)]) := by
  intro sz
  refine kb_body (QQ := fun A => kb_Qv G A (fun u => True) (fun u => [kb_o h 1 [.ref (u.1 0), .int 65], kb_a G (u.1 0) 128 (upd (u.2 0) 64 x)])) (by decide) (Nat.le_of_ble_eq_true rfl) ?_
  intro p e s m below meth c A B ls hl
  obtain ⟨hx, hb, hr, hml, hlocks, hin, hown, ht, hE, hP, hD, hS⟩ := B
  have hl : lv_has ls 2 [(0, .ref h), (1, .int x)] := hl
  have hP0 := hP
  obtain ⟨H, hHe⟩ : ∃ H, H = s.heap := ⟨_, rfl⟩
  rw [← hHe] at hP
  have hS : va_S A s.heap H [] := by rw [hHe]; exact hS
  refine kb_at hHe ?_
  clear hHe
  refine lv_aload_n hx hb d_Row_add_0 rfl (lv_at hl 0 rfl) ?_
  refine va_get (D := G.1) (ci := 1) (v := .int 64) (C := "TreePress$Row") (T := kb_F1) (N := 2) hx hb ht kb_w1 hown hE.1 hP 0 rfl rfl 1 (by decide) (ht _ wd_14b1fe24) (fun _ h9 => h9) rfl d_Row_add_1 ?_
  refine lv_aload_n hx hb d_Row_add_4 rfl (lv_at hl 0 rfl) ?_
  refine va_get (D := G.1) (ci := 1) (v := .ref a) (C := "TreePress$Row") (T := kb_F1) (N := 2) hx hb ht kb_w1 hown hE.1 hP 0 rfl rfl 0 (by decide) (ht _ wd_aac26352) (fun _ h9 => h9) rfl d_Row_add_5 ?_
  refine va_alen (v := 64) hx hb hE.1 hP 1 0 rfl rfl rfl d_Row_add_8 ?_
  refine lv_icmp_lt (tgt := 40) hx hb d_Row_add_9 (by decide) (fun c9 => absurd c9 (by decide)) (fun c9 => ?_)
  refine lv_aload_n hx hb d_Row_add_12 rfl (lv_at hl 0 rfl) ?_
  refine va_get (D := G.1) (ci := 1) (v := .ref a) (C := "TreePress$Row") (T := kb_F1) (N := 2) hx hb ht kb_w1 hown hE.1 hP 0 rfl rfl 0 (by decide) (ht _ wd_aac26352) (fun _ h9 => h9) rfl d_Row_add_13 ?_
  refine va_alen (v := 64) hx hb hE.1 hP 1 0 rfl rfl rfl d_Row_add_16 ?_
  refine lv_ldc (v := 65536) hx hb hown (ht _ wd_28377cc0) d_Row_add_17 ?_
  refine lv_icmp_ge (tgt := 40) hx hb d_Row_add_19 (by decide) (fun c9 => absurd c9 (by decide)) (fun c9 => ?_)
  refine lv_aload_n hx hb d_Row_add_22 rfl (lv_at hl 0 rfl) ?_
  refine lv_aload_n hx hb d_Row_add_23 rfl (lv_at hl 0 rfl) ?_
  refine va_get (D := G.1) (ci := 1) (v := .ref a) (C := "TreePress$Row") (T := kb_F1) (N := 2) hx hb ht kb_w1 hown hE.1 hP 0 rfl rfl 0 (by decide) (ht _ wd_aac26352) (fun _ h9 => h9) rfl d_Row_add_24 ?_
  refine lv_iconst (v := 2) hx hb d_Row_add_27 (by decide) ?_
  refine lv_aload_n hx hb d_Row_add_28 rfl (lv_at hl 0 rfl) ?_
  refine va_get (D := G.1) (ci := 1) (v := .ref a) (C := "TreePress$Row") (T := kb_F1) (N := 2) hx hb ht kb_w1 hown hE.1 hP 0 rfl rfl 0 (by decide) (ht _ wd_aac26352) (fun _ h9 => h9) rfl d_Row_add_29 ?_
  refine va_alen (v := 64) hx hb hE.1 hP 1 0 rfl rfl rfl d_Row_add_32 ?_
  refine lv_imul hx hb d_Row_add_33 ?_
  refine kb_top (y := 128) (by decide) ?_
  refine kb_r (wc := [kb_a G a 64 f]) (wr := [kb_o h 1 [.ref a, .int 64]]) hE hP hD hS [1] [0] rfl rfl (by decide) (by decide) (kb_rS (As := [.ref a, .int 128]) (rest := [.ref h]) (wc := [kb_a G a 64 f]) ⟨hx, hb, hml, hown, ht⟩ ((c_copyOf_64 l G a f) _) wd_ad853a53 wd_b0593275 wd_4e6ae1d1 wd_af4c3967 hd_c5a1602a ⟨(Nat.le_of_ble_eq_true rfl), (Nat.le_of_ble_eq_true rfl)⟩ hE hP hD hS [1] rfl (by decide) hl.1 rfl (Nat.le_of_ble_eq_true rfl) d_Row_add_34 ⟨(Nat.le_of_ble_eq_true rfl), (Nat.le_of_ble_eq_true rfl)⟩) (fun uu1 H locs hw hP hD hS => ?_)
  have hP : va_P G.1 kb_cl [kb_o h 1 [.ref a, .int 64], kb_a G (uu1.1 0) 128 (uu1.2 0)] H := hP
  have hD : va_D A [kb_o h 1 [.ref a, .int 64], kb_a G (uu1.1 0) 128 (uu1.2 0)] := hD
  refine va_put (D := G.1) (ci := 1) (v := .ref (uu1.1 0)) (ty := .array .int) (C := "TreePress$Row") (T := kb_F1) (N := 2) hx hb ht kb_w1 kb_y1 kb_p1 kb_n1 hown hE.1 hP hD hS 0 rfl rfl 0 (by decide) (ht _ wd_aac26352) (fun _ h9 => h9) rfl (by decide +kernel) rfl rfl (Nat.le_of_ble_eq_true rfl) d_Row_add_37 (fun H locs hP hD hS => ?_)
  have hP : va_P G.1 kb_cl [kb_o h 1 [.ref (uu1.1 0), .int 64], kb_a G (uu1.1 0) 128 (uu1.2 0)] H := hP
  have hD : va_D A [kb_o h 1 [.ref (uu1.1 0), .int 64], kb_a G (uu1.1 0) 128 (uu1.2 0)] := hD
  refine lv_aload_n hx hb d_Row_add_40 rfl (lv_at hl 0 rfl) ?_
  refine va_get (D := G.1) (ci := 1) (v := .int 64) (C := "TreePress$Row") (T := kb_F1) (N := 2) hx hb ht kb_w1 hown hE.1 hP 0 rfl rfl 1 (by decide) (ht _ wd_14b1fe24) (fun _ h9 => h9) rfl d_Row_add_41 ?_
  refine lv_aload_n hx hb d_Row_add_44 rfl (lv_at hl 0 rfl) ?_
  refine va_get (D := G.1) (ci := 1) (v := .ref (uu1.1 0)) (C := "TreePress$Row") (T := kb_F1) (N := 2) hx hb ht kb_w1 hown hE.1 hP 0 rfl rfl 0 (by decide) (ht _ wd_aac26352) (fun _ h9 => h9) rfl d_Row_add_45 ?_
  refine va_alen (v := 128) hx hb hE.1 hP 1 0 rfl rfl rfl d_Row_add_48 ?_
  refine lv_icmp_ge (tgt := 72) hx hb d_Row_add_49 (by decide) (fun c9 => absurd c9 (by decide)) (fun c9 => ?_)
  refine lv_aload_n hx hb d_Row_add_52 rfl (lv_at hl 0 rfl) ?_
  refine va_get (D := G.1) (ci := 1) (v := .ref (uu1.1 0)) (C := "TreePress$Row") (T := kb_F1) (N := 2) hx hb ht kb_w1 hown hE.1 hP 0 rfl rfl 0 (by decide) (ht _ wd_aac26352) (fun _ h9 => h9) rfl d_Row_add_53 ?_
  refine lv_aload_n hx hb d_Row_add_56 rfl (lv_at hl 0 rfl) ?_
  refine va_get (D := G.1) (ci := 1) (v := .int 64) (C := "TreePress$Row") (T := kb_F1) (N := 2) hx hb ht kb_w1 hown hE.1 hP 0 rfl rfl 1 (by decide) (ht _ wd_14b1fe24) (fun _ h9 => h9) rfl d_Row_add_57 ?_
  refine lv_iload_n hx hb d_Row_add_60 rfl (lv_at hl 1 rfl) ?_
  refine va_iast hx hb hE.1 hP hD hS 1 0 rfl rfl (show ¬ ((64 : Int32) < 0 ∨ 128 ≤ (64 : Int32).toNatClampNeg) by decide) d_Row_add_61 (fun H locs hP hD hS => ?_)
  have hP : va_P G.1 kb_cl [kb_o h 1 [.ref (uu1.1 0), .int 64], kb_a G (uu1.1 0) 128 (upd (uu1.2 0) 64 x)] H := hP
  have hD : va_D A [kb_o h 1 [.ref (uu1.1 0), .int 64], kb_a G (uu1.1 0) 128 (upd (uu1.2 0) 64 x)] := hD
  refine lv_aload_n hx hb d_Row_add_62 rfl (lv_at hl 0 rfl) ?_
  refine lv_dup hx hb d_Row_add_63 rfl ?_
  refine va_get (D := G.1) (ci := 1) (v := .int 64) (C := "TreePress$Row") (T := kb_F1) (N := 2) hx hb ht kb_w1 hown hE.1 hP 0 rfl rfl 1 (by decide) (ht _ wd_14b1fe24) (fun _ h9 => h9) rfl d_Row_add_64 ?_
  refine lv_iconst (v := 1) hx hb d_Row_add_67 (by decide) ?_
  refine lv_iadd hx hb d_Row_add_68 ?_
  refine kb_top (y := 65) (by decide) ?_
  refine va_put (D := G.1) (ci := 1) (v := .int 65) (ty := .int) (C := "TreePress$Row") (T := kb_F1) (N := 2) hx hb ht kb_w1 kb_y1 kb_p1 kb_n1 hown hE.1 hP hD hS 0 rfl rfl 1 (by decide) (ht _ wd_14b1fe24) (fun _ h9 => h9) rfl (by decide +kernel) rfl rfl (Nat.le_of_ble_eq_true rfl) d_Row_add_69 (fun H locs hP hD hS => ?_)
  have hP : va_P G.1 kb_cl [kb_o h 1 [.ref (uu1.1 0), .int 65], kb_a G (uu1.1 0) 128 (upd (uu1.2 0) 64 x)] H := hP
  have hD : va_D A [kb_o h 1 [.ref (uu1.1 0), .int 65], kb_a G (uu1.1 0) 128 (upd (uu1.2 0) 64 x)] := hD
  exact kb_retv (kb_l [uu1.1 0], kb_f [uu1.2 0]) hx hb hr hlocks hE hP hD hS [0, 1] rfl (by decide) rfl trivial (Nat.le_of_ble_eq_true rfl) (Nat.le_of_ble_eq_true rfl) d_Row_add_72
