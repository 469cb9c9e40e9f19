theorem wd_b959c18a : (Jvm.Cond.methodLink "TreePress$Row" (30 : Nat) ({ cls := "TreePress$Row", name := "add", desc := "(I)V" } : Jvm.MethodName)) ∈ kb_T := kb_t1 118 (by decide +kernel) (by decide +kernel)
theorem wd_d7a504c3 : (Jvm.Cond.instanceMethod ({ cls := "TreePress$Row", name := "add", desc := "(I)V" } : Jvm.MethodName)) ∈ kb_T := kb_t1 85 (by decide +kernel) (by decide +kernel)
theorem wd_55347eca : (Jvm.Cond.selects "TreePress$Row" ({ cls := "TreePress$Row", name := "add", desc := "(I)V" } : Jvm.MethodName) ({ cls := "TreePress$Row", name := "add", desc := "(I)V" } : Jvm.MethodName)) ∈ kb_T := kb_t1 86 (by decide +kernel) (by decide +kernel)
theorem wd_4182e433 : (Jvm.Cond.initialized "TreePress$Row") ∈ kb_T := kb_t1 2 (by decide +kernel) (by decide +kernel)
theorem wd_0d22954f : (Jvm.Cond.code ({ cls := "TreePress$Row", name := "add", desc := "(I)V" } : Jvm.MethodName) prog_3_method_5_code (2 : Nat) (Option.none : Option Jvm.ClassFile.FieldType)) ∈ kb_T := kb_t1 87 (by decide +kernel) (by decide +kernel)
theorem hd_d22f4174 : (⟨"TreePress$Row", "add", "(I)V"⟩ : MethodName).cls ≠ "java/lang/invoke/MethodHandle" ∧ (⟨"TreePress$Row", "add", "(I)V"⟩ : MethodName).cls ≠ "java/lang/invoke/VarHandle" ∧ (parseMethodDescriptor (⟨"TreePress$Row", "add", "(I)V"⟩ : MethodName).desc).map (fun d => d.parameters.length) = some 1 := by decide +kernel
theorem wd_fb9083d2 : (Jvm.Cond.methodLink "TreePress$Row" (34 : Nat) ({ cls := "TreePress$Row", name := "put", desc := "(II)V" } : Jvm.MethodName)) ∈ kb_T := kb_t2 11 (by decide +kernel) (by decide +kernel)
theorem wd_b3824346 : (Jvm.Cond.instanceMethod ({ cls := "TreePress$Row", name := "put", desc := "(II)V" } : Jvm.MethodName)) ∈ kb_T := kb_t2 12 (by decide +kernel) (by decide +kernel)
theorem wd_43c38e26 : (Jvm.Cond.selects "TreePress$Row" ({ cls := "TreePress$Row", name := "put", desc := "(II)V" } : Jvm.MethodName) ({ cls := "TreePress$Row", name := "put", desc := "(II)V" } : Jvm.MethodName)) ∈ kb_T := kb_t2 13 (by decide +kernel) (by decide +kernel)
theorem wd_a447a7d7 : (Jvm.Cond.code ({ cls := "TreePress$Row", name := "put", desc := "(II)V" } : Jvm.MethodName) prog_3_method_4_code (3 : Nat) (Option.none : Option Jvm.ClassFile.FieldType)) ∈ kb_T := kb_t2 14 (by decide +kernel) (by decide +kernel)
theorem hd_d300f370 : (⟨"TreePress$Row", "put", "(II)V"⟩ : MethodName).cls ≠ "java/lang/invoke/MethodHandle" ∧ (⟨"TreePress$Row", "put", "(II)V"⟩ : MethodName).cls ≠ "java/lang/invoke/VarHandle" ∧ (parseMethodDescriptor (⟨"TreePress$Row", "put", "(II)V"⟩ : MethodName).desc).map (fun d => d.parameters.length) = some 2 := by decide +kernel
theorem d_Row_addPart_0 : decode prog_3_method_7_code 0 = .ok (.iconst 0, 1) := by decide +kernel
theorem d_Row_addPart_1 : decode prog_3_method_7_code 1 = .ok (.istore 4, 2) := by decide +kernel
theorem d_Row_addPart_3 : decode prog_3_method_7_code 3 = .ok (.iload 4, 2) := by decide +kernel
theorem d_Row_addPart_5 : decode prog_3_method_7_code 5 = .ok (.iload_n 3, 1) := by decide +kernel
theorem d_Row_addPart_6 : decode prog_3_method_7_code 6 = .ok (.if_icmp .ge 21, 3) := by decide +kernel
theorem d_Row_addPart_27 : decode prog_3_method_7_code 27 = .ok (.return_, 1) := by decide +kernel
theorem d_Row_addNumber_0 : decode prog_3_method_8_code 0 = .ok (.bipush 24, 2) := by decide +kernel
theorem d_Row_addNumber_2 : decode prog_3_method_8_code 2 = .ok (.istore_n 2, 1) := by decide +kernel
theorem d_Row_addNumber_3 : decode prog_3_method_8_code 3 = .ok (.iload_n 2, 1) := by decide +kernel
theorem d_Row_addNumber_4 : decode prog_3_method_8_code 4 = .ok (.ifCond .lt 20, 3) := by decide +kernel
theorem d_Row_addNumber_7 : decode prog_3_method_8_code 7 = .ok (.aload_n 0, 1) := by decide +kernel
theorem d_Row_addNumber_8 : decode prog_3_method_8_code 8 = .ok (.iload_n 1, 1) := by decide +kernel
theorem d_Row_addNumber_9 : decode prog_3_method_8_code 9 = .ok (.iload_n 2, 1) := by decide +kernel
theorem d_Row_addNumber_10 : decode prog_3_method_8_code 10 = .ok (.iushr, 1) := by decide +kernel
theorem d_Row_addNumber_11 : decode prog_3_method_8_code 11 = .ok (.sipush 255, 3) := by decide +kernel
theorem d_Row_addNumber_14 : decode prog_3_method_8_code 14 = .ok (.iand, 1) := by decide +kernel
theorem d_Row_addNumber_15 : decode prog_3_method_8_code 15 = .ok (.invokevirtual 30, 3) := by decide +kernel
theorem d_Row_addNumber_18 : decode prog_3_method_8_code 18 = .ok (.iinc 2 (-8), 3) := by decide +kernel
theorem d_Row_addNumber_21 : decode prog_3_method_8_code 21 = .ok (.goto (-18), 3) := by decide +kernel
theorem d_Row_addNumber_24 : decode prog_3_method_8_code 24 = .ok (.return_, 1) := by decide +kernel
theorem d_Row_addZeros_0 : decode prog_3_method_9_code 0 = .ok (.iconst 0, 1) := by decide +kernel
theorem d_Row_addZeros_1 : decode prog_3_method_9_code 1 = .ok (.istore_n 2, 1) := by decide +kernel
theorem d_Row_addZeros_2 : decode prog_3_method_9_code 2 = .ok (.iload_n 2, 1) := by decide +kernel
theorem d_Row_addZeros_3 : decode prog_3_method_9_code 3 = .ok (.iload_n 1, 1) := by decide +kernel
theorem d_Row_addZeros_4 : decode prog_3_method_9_code 4 = .ok (.if_icmp .ge 14, 3) := by decide +kernel
theorem d_Row_addZeros_7 : decode prog_3_method_9_code 7 = .ok (.aload_n 0, 1) := by decide +kernel
theorem d_Row_addZeros_8 : decode prog_3_method_9_code 8 = .ok (.iconst 0, 1) := by decide +kernel
theorem d_Row_addZeros_9 : decode prog_3_method_9_code 9 = .ok (.invokevirtual 30, 3) := by decide +kernel
theorem d_Row_addZeros_12 : decode prog_3_method_9_code 12 = .ok (.iinc 2 1, 3) := by decide +kernel
theorem d_Row_addZeros_15 : decode prog_3_method_9_code 15 = .ok (.goto (-13), 3) := by decide +kernel
theorem d_Row_addZeros_18 : decode prog_3_method_9_code 18 = .ok (.return_, 1) := by decide +kernel
theorem d_Row_putNumber_0 : decode prog_3_method_10_code 0 = .ok (.iconst 0, 1) := by decide +kernel
theorem d_Row_putNumber_1 : decode prog_3_method_10_code 1 = .ok (.istore_n 3, 1) := by decide +kernel
theorem d_Row_putNumber_2 : decode prog_3_method_10_code 2 = .ok (.iload_n 3, 1) := by decide +kernel
theorem d_Row_putNumber_3 : decode prog_3_method_10_code 3 = .ok (.iconst 4, 1) := by decide +kernel
theorem d_Row_putNumber_4 : decode prog_3_method_10_code 4 = .ok (.if_icmp .ge 29, 3) := by decide +kernel
theorem d_Row_putNumber_7 : decode prog_3_method_10_code 7 = .ok (.aload_n 0, 1) := by decide +kernel
theorem d_Row_putNumber_8 : decode prog_3_method_10_code 8 = .ok (.iload_n 1, 1) := by decide +kernel
theorem d_Row_putNumber_9 : decode prog_3_method_10_code 9 = .ok (.iload_n 3, 1) := by decide +kernel
theorem d_Row_putNumber_10 : decode prog_3_method_10_code 10 = .ok (.iadd, 1) := by decide +kernel
theorem d_Row_putNumber_11 : decode prog_3_method_10_code 11 = .ok (.iload_n 2, 1) := by decide +kernel
theorem d_Row_putNumber_12 : decode prog_3_method_10_code 12 = .ok (.bipush 24, 2) := by decide +kernel
theorem d_Row_putNumber_14 : decode prog_3_method_10_code 14 = .ok (.bipush 8, 2) := by decide +kernel
theorem d_Row_putNumber_16 : decode prog_3_method_10_code 16 = .ok (.iload_n 3, 1) := by decide +kernel
theorem d_Row_putNumber_17 : decode prog_3_method_10_code 17 = .ok (.imul, 1) := by decide +kernel
theorem d_Row_putNumber_18 : decode prog_3_method_10_code 18 = .ok (.isub, 1) := by decide +kernel
theorem d_Row_putNumber_19 : decode prog_3_method_10_code 19 = .ok (.iushr, 1) := by decide +kernel
theorem d_Row_putNumber_20 : decode prog_3_method_10_code 20 = .ok (.sipush 255, 3) := by decide +kernel
theorem d_Row_putNumber_23 : decode prog_3_method_10_code 23 = .ok (.iand, 1) := by decide +kernel
theorem d_Row_putNumber_24 : decode prog_3_method_10_code 24 = .ok (.invokevirtual 34, 3) := by decide +kernel
theorem d_Row_putNumber_27 : decode prog_3_method_10_code 27 = .ok (.iinc 3 1, 3) := by decide +kernel
theorem d_Row_putNumber_30 : decode prog_3_method_10_code 30 = .ok (.goto (-28), 3) := by decide +kernel
theorem d_Row_putNumber_33 : decode prog_3_method_10_code 33 = .ok (.return_, 1) := by decide +kernel
theorem d_Row_hasName_0 : decode prog_3_method_12_code 0 = .ok (.iload_n 2, 1) := by decide +kernel
theorem d_Row_hasName_1 : decode prog_3_method_12_code 1 = .ok (.iconst 1, 1) := by decide +kernel
theorem d_Row_hasName_2 : decode prog_3_method_12_code 2 = .ok (.if_icmp .lt 9, 3) := by decide +kernel
theorem d_Row_hasName_11 : decode prog_3_method_12_code 11 = .ok (.iconst 0, 1) := by decide +kernel
theorem d_Row_hasName_12 : decode prog_3_method_12_code 12 = .ok (.ireturn, 1) := by decide +kernel
set_option maxHeartbeats 4000000 in
set_option maxRecDepth 100000 in
theorem c_Row_addPart0 (l : Launch) (G : kb_G) (h : Nat) (a : Nat) (v : Int32) (g : Nat) (x : Int32) : kb_cv l G ⟨"TreePress$Row", "addPart", "(LTreePress$Row;II)V"⟩ prog_3_method_7_code 5 4 0 0 [.ref h, .ref g, .int x, .int 0] [kb_o h 1 [.ref a, .int v]] (fun u => True) (fun u => [kb_o h 1 [.ref a, .int v]]) := by
  intro sz
  refine kb_body (QQ := fun A => kb_Qv G A (fun u => True) (fun u => [kb_o h 1 [.ref a, .int v]])) (by decide) (Nat.le_of_ble_eq_true rfl) ?_
  intro p e s m below meth c A B ls hl
  obtain ⟨hx, hb, hr, hml, hlocks, hin, hown, ht, hE, hP, hD, hS⟩ := B
  have hl : lv_has ls 5 [(0, .ref h), (1, .ref g), (2, .int x), (3, .int 0)] := hl
  have hP0 := hP
  obtain ⟨H, hHe⟩ : ∃ H, H = s.heap := ⟨_, rfl⟩
  rw [← hHe] at hP
  have hS : va_S A s.heap H [] := by rw [hHe]; exact hS
  refine kb_at hHe ?_
  clear hHe
  refine lv_iconst (v := 0) hx hb d_Row_addPart_0 (by decide) ?_
  refine lv_istore (lv' := [(4, .int 0), (0, .ref h), (1, .ref g), (2, .int x), (3, .int 0)]) hx hb d_Row_addPart_1 hl (by decide) rfl (fun ls hl => ?_)
  refine lv_iload hx hb d_Row_addPart_3 (lv_at hl 0 rfl) ?_
  refine lv_iload_n hx hb d_Row_addPart_5 rfl (lv_at hl 4 rfl) ?_
  refine lv_icmp_ge (tgt := 27) hx hb d_Row_addPart_6 (by decide) (fun c9 => ?_) (fun c9 => absurd (by decide) c9)
  exact kb_retv (kb_l [], kb_f []) hx hb hr hlocks hE hP hD hS [0] rfl (by decide) rfl trivial (Nat.le_of_ble_eq_true rfl) (Nat.le_of_ble_eq_true rfl) d_Row_addPart_27

set_option maxHeartbeats 4000000 in
set_option maxRecDepth 100000 in
theorem c_Row_addNumber_n (l : Launch) (G : kb_G) (h : Nat) (a : Nat) (n : Nat) (N : Nat) (f : Nat → Int32) (x : Int32) (hn : n + 4 ≤ N) (hN : N ≤ 65536) : kb_cv l G ⟨"TreePress$Row", "addNumber", "(I)V"⟩ prog_3_method_8_code 3 4 0 0 [.ref h, .int x] [kb_o h 1 [.ref a, .int (nI n)], kb_a G a N f] (fun u => True) (fun u => [kb_o h 1 [.ref a, .int (nI ((((n + 1) + 1) + 1) + 1))], kb_a G a N (u.2 0)]) := by
  intro sz
  refine kb_body (QQ := fun A => kb_Qv G A (fun u => True) (fun u => [kb_o h 1 [.ref a, .int (nI ((((n + 1) + 1) + 1) + 1))], kb_a G a N (u.2 0)])) (by decide) (Nat.le_of_ble_eq_true rfl) ?_
  intro p e s m below meth c A B ls hl
  obtain ⟨hx, hb, hr, hml, hlocks, hin, hown, ht, hE, hP, hD, hS⟩ := B
  have hl : lv_has ls 3 [(0, .ref h), (1, .int x)] := hl
  have hP0 := hP
  obtain ⟨H, hHe⟩ : ∃ H, H = s.heap := ⟨_, rfl⟩
  rw [← hHe] at hP
  have hS : va_S A s.heap H [] := by rw [hHe]; exact hS
  refine kb_at hHe ?_
  clear hHe
  refine lv_bipush (v := 24) hx hb d_Row_addNumber_0 (by decide) ?_
  refine lv_istore_n (lv' := [(2, .int 24), (0, .ref h), (1, .int x)]) hx hb d_Row_addNumber_2 rfl hl (by decide) rfl (fun ls hl => ?_)
  refine lv_iload_n hx hb d_Row_addNumber_3 rfl (lv_at hl 0 rfl) ?_
  refine lv_if_lt (tgt := 24) hx hb d_Row_addNumber_4 (by decide) (fun c9 => absurd c9 (by decide)) (fun c9 => ?_)
  refine lv_aload_n hx hb d_Row_addNumber_7 rfl (lv_at hl 1 rfl) ?_
  refine lv_iload_n hx hb d_Row_addNumber_8 rfl (lv_at hl 2 rfl) ?_
  refine lv_iload_n hx hb d_Row_addNumber_9 rfl (lv_at hl 0 rfl) ?_
  refine lv_iushr (v := ((x : Int32).toUInt32 >>> ((24 : Int32).toUInt32 &&& Int32.toUInt32 31)).toInt32) hx hb d_Row_addNumber_10 rfl ?_
  refine lv_sipush (v := 255) hx hb d_Row_addNumber_11 (by decide) ?_
  refine lv_iand hx hb d_Row_addNumber_14 ?_
  refine kb_v (wc := [kb_o h 1 [.ref a, .int (nI n)], kb_a G a N f]) (wr := []) hE hP hD hS [0, 1] [] rfl rfl (by decide) (by decide) (kb_rV (As := [.int ((((x : Int32).toUInt32 >>> ((24 : Int32).toUInt32 &&& Int32.toUInt32 31)).toInt32) &&& 255)]) (rest := []) (wc := [kb_o h 1 [.ref a, .int (nI n)], kb_a G a N f]) (q0 := 0) ⟨hx, hb, hml, hown, ht⟩ ((c_Row_add_w l G h a n N f ((((x : Int32).toUInt32 >>> ((24 : Int32).toUInt32 &&& Int32.toUInt32 31)).toInt32) &&& 255) (by omega) (by omega)) _) (kb_gV wd_b959c18a wd_d7a504c3 wd_55347eca wd_4182e433 wd_0d22954f) ⟨rfl, hd_d22f4174⟩ ⟨(Nat.le_of_ble_eq_true rfl), (Nat.le_of_ble_eq_true rfl)⟩ hE hP hD hS [0, 1] rfl (by decide) rfl rfl rfl hl.1 rfl (Nat.le_of_ble_eq_true rfl) d_Row_addNumber_15 ⟨(Nat.le_of_ble_eq_true rfl), (Nat.le_of_ble_eq_true rfl)⟩) (fun uu1 H locs hw hP hD hS => ?_)
  have hP : va_P G.1 kb_cl [kb_o h 1 [.ref a, .int (nI (n + 1))], kb_a G a N (uu1.2 0)] H := hP
  have hD : va_D A [kb_o h 1 [.ref a, .int (nI (n + 1))], kb_a G a N (uu1.2 0)] := hD
  refine lv_iinc (v := 16) (lv' := [(2, .int 16), (0, .ref h), (1, .int x)]) hx hb d_Row_addNumber_18 hl (k := 0) rfl (by decide) (by decide) rfl (fun ls hl => ?_)
  refine lv_goto (tgt := 3) hx hb d_Row_addNumber_21 (by decide) ?_
  refine lv_iload_n hx hb d_Row_addNumber_3 rfl (lv_at hl 0 rfl) ?_
  refine lv_if_lt (tgt := 24) hx hb d_Row_addNumber_4 (by decide) (fun c9 => absurd c9 (by decide)) (fun c9 => ?_)
  refine lv_aload_n hx hb d_Row_addNumber_7 rfl (lv_at hl 1 rfl) ?_
  refine lv_iload_n hx hb d_Row_addNumber_8 rfl (lv_at hl 2 rfl) ?_
  refine lv_iload_n hx hb d_Row_addNumber_9 rfl (lv_at hl 0 rfl) ?_
  refine lv_iushr (v := ((x : Int32).toUInt32 >>> ((16 : Int32).toUInt32 &&& Int32.toUInt32 31)).toInt32) hx hb d_Row_addNumber_10 rfl ?_
  refine lv_sipush (v := 255) hx hb d_Row_addNumber_11 (by decide) ?_
  refine lv_iand hx hb d_Row_addNumber_14 ?_
  refine kb_v (wc := [kb_o h 1 [.ref a, .int (nI (n + 1))], kb_a G a N (uu1.2 0)]) (wr := []) hE hP hD hS [0, 1] [] rfl rfl (by decide) (by decide) (kb_rV (As := [.int ((((x : Int32).toUInt32 >>> ((16 : Int32).toUInt32 &&& Int32.toUInt32 31)).toInt32) &&& 255)]) (rest := []) (wc := [kb_o h 1 [.ref a, .int (nI (n + 1))], kb_a G a N (uu1.2 0)]) (q0 := 0) ⟨hx, hb, hml, hown, ht⟩ ((c_Row_add_w l G h a (n + 1) N (uu1.2 0) ((((x : Int32).toUInt32 >>> ((16 : Int32).toUInt32 &&& Int32.toUInt32 31)).toInt32) &&& 255) (by omega) (by omega)) _) (kb_gV wd_b959c18a wd_d7a504c3 wd_55347eca wd_4182e433 wd_0d22954f) ⟨rfl, hd_d22f4174⟩ ⟨(Nat.le_of_ble_eq_true rfl), (Nat.le_of_ble_eq_true rfl)⟩ hE hP hD hS [0, 1] rfl (by decide) rfl rfl rfl hl.1 rfl (Nat.le_of_ble_eq_true rfl) d_Row_addNumber_15 ⟨(Nat.le_of_ble_eq_true rfl), (Nat.le_of_ble_eq_true rfl)⟩) (fun uu3 H locs hw hP hD hS => ?_)
  have hP : va_P G.1 kb_cl [kb_o h 1 [.ref a, .int (nI ((n + 1) + 1))], kb_a G a N (uu3.2 0)] H := hP
  have hD : va_D A [kb_o h 1 [.ref a, .int (nI ((n + 1) + 1))], kb_a G a N (uu3.2 0)] := hD
  refine lv_iinc (v := 8) (lv' := [(2, .int 8), (0, .ref h), (1, .int x)]) hx hb d_Row_addNumber_18 hl (k := 0) rfl (by decide) (by decide) rfl (fun ls hl => ?_)
  refine lv_goto (tgt := 3) hx hb d_Row_addNumber_21 (by decide) ?_
  refine lv_iload_n hx hb d_Row_addNumber_3 rfl (lv_at hl 0 rfl) ?_
  refine lv_if_lt (tgt := 24) hx hb d_Row_addNumber_4 (by decide) (fun c9 => absurd c9 (by decide)) (fun c9 => ?_)
  refine lv_aload_n hx hb d_Row_addNumber_7 rfl (lv_at hl 1 rfl) ?_
  refine lv_iload_n hx hb d_Row_addNumber_8 rfl (lv_at hl 2 rfl) ?_
  refine lv_iload_n hx hb d_Row_addNumber_9 rfl (lv_at hl 0 rfl) ?_
  refine lv_iushr (v := ((x : Int32).toUInt32 >>> ((8 : Int32).toUInt32 &&& Int32.toUInt32 31)).toInt32) hx hb d_Row_addNumber_10 rfl ?_
  refine lv_sipush (v := 255) hx hb d_Row_addNumber_11 (by decide) ?_
  refine lv_iand hx hb d_Row_addNumber_14 ?_
  refine kb_v (wc := [kb_o h 1 [.ref a, .int (nI ((n + 1) + 1))], kb_a G a N (uu3.2 0)]) (wr := []) hE hP hD hS [0, 1] [] rfl rfl (by decide) (by decide) (kb_rV (As := [.int ((((x : Int32).toUInt32 >>> ((8 : Int32).toUInt32 &&& Int32.toUInt32 31)).toInt32) &&& 255)]) (rest := []) (wc := [kb_o h 1 [.ref a, .int (nI ((n + 1) + 1))], kb_a G a N (uu3.2 0)]) (q0 := 0) ⟨hx, hb, hml, hown, ht⟩ ((c_Row_add_w l G h a ((n + 1) + 1) N (uu3.2 0) ((((x : Int32).toUInt32 >>> ((8 : Int32).toUInt32 &&& Int32.toUInt32 31)).toInt32) &&& 255) (by omega) (by omega)) _) (kb_gV wd_b959c18a wd_d7a504c3 wd_55347eca wd_4182e433 wd_0d22954f) ⟨rfl, hd_d22f4174⟩ ⟨(Nat.le_of_ble_eq_true rfl), (Nat.le_of_ble_eq_true rfl)⟩ hE hP hD hS [0, 1] rfl (by decide) rfl rfl rfl hl.1 rfl (Nat.le_of_ble_eq_true rfl) d_Row_addNumber_15 ⟨(Nat.le_of_ble_eq_true rfl), (Nat.le_of_ble_eq_true rfl)⟩) (fun uu5 H locs hw hP hD hS => ?_)
  have hP : va_P G.1 kb_cl [kb_o h 1 [.ref a, .int (nI (((n + 1) + 1) + 1))], kb_a G a N (uu5.2 0)] H := hP
  have hD : va_D A [kb_o h 1 [.ref a, .int (nI (((n + 1) + 1) + 1))], kb_a G a N (uu5.2 0)] := hD
  refine lv_iinc (v := 0) (lv' := [(2, .int 0), (0, .ref h), (1, .int x)]) hx hb d_Row_addNumber_18 hl (k := 0) rfl (by decide) (by decide) rfl (fun ls hl => ?_)
  refine lv_goto (tgt := 3) hx hb d_Row_addNumber_21 (by decide) ?_
  refine lv_iload_n hx hb d_Row_addNumber_3 rfl (lv_at hl 0 rfl) ?_
  refine lv_if_lt (tgt := 24) hx hb d_Row_addNumber_4 (by decide) (fun c9 => absurd c9 (by decide)) (fun c9 => ?_)
  refine lv_aload_n hx hb d_Row_addNumber_7 rfl (lv_at hl 1 rfl) ?_
  refine lv_iload_n hx hb d_Row_addNumber_8 rfl (lv_at hl 2 rfl) ?_
  refine lv_iload_n hx hb d_Row_addNumber_9 rfl (lv_at hl 0 rfl) ?_
  refine lv_iushr (v := ((x : Int32).toUInt32 >>> ((0 : Int32).toUInt32 &&& Int32.toUInt32 31)).toInt32) hx hb d_Row_addNumber_10 rfl ?_
  refine lv_sipush (v := 255) hx hb d_Row_addNumber_11 (by decide) ?_
  refine lv_iand hx hb d_Row_addNumber_14 ?_
  refine kb_v (wc := [kb_o h 1 [.ref a, .int (nI (((n + 1) + 1) + 1))], kb_a G a N (uu5.2 0)]) (wr := []) hE hP hD hS [0, 1] [] rfl rfl (by decide) (by decide) (kb_rV (As := [.int ((((x : Int32).toUInt32 >>> ((0 : Int32).toUInt32 &&& Int32.toUInt32 31)).toInt32) &&& 255)]) (rest := []) (wc := [kb_o h 1 [.ref a, .int (nI (((n + 1) + 1) + 1))], kb_a G a N (uu5.2 0)]) (q0 := 0) ⟨hx, hb, hml, hown, ht⟩ ((c_Row_add_w l G h a (((n + 1) + 1) + 1) N (uu5.2 0) ((((x : Int32).toUInt32 >>> ((0 : Int32).toUInt32 &&& Int32.toUInt32 31)).toInt32) &&& 255) (by omega) (by omega)) _) (kb_gV wd_b959c18a wd_d7a504c3 wd_55347eca wd_4182e433 wd_0d22954f) ⟨rfl, hd_d22f4174⟩ ⟨(Nat.le_of_ble_eq_true rfl), (Nat.le_of_ble_eq_true rfl)⟩ hE hP hD hS [0, 1] rfl (by decide) rfl rfl rfl hl.1 rfl (Nat.le_of_ble_eq_true rfl) d_Row_addNumber_15 ⟨(Nat.le_of_ble_eq_true rfl), (Nat.le_of_ble_eq_true rfl)⟩) (fun uu7 H locs hw hP hD hS => ?_)
  have hP : va_P G.1 kb_cl [kb_o h 1 [.ref a, .int (nI ((((n + 1) + 1) + 1) + 1))], kb_a G a N (uu7.2 0)] H := hP
  have hD : va_D A [kb_o h 1 [.ref a, .int (nI ((((n + 1) + 1) + 1) + 1))], kb_a G a N (uu7.2 0)] := hD
  refine lv_iinc (v := (-8)) (lv' := [(2, .int (-8)), (0, .ref h), (1, .int x)]) hx hb d_Row_addNumber_18 hl (k := 0) rfl (by decide) (by decide) rfl (fun ls hl => ?_)
  refine lv_goto (tgt := 3) hx hb d_Row_addNumber_21 (by decide) ?_
  refine lv_iload_n hx hb d_Row_addNumber_3 rfl (lv_at hl 0 rfl) ?_
  refine lv_if_lt (tgt := 24) hx hb d_Row_addNumber_4 (by decide) (fun c9 => ?_) (fun c9 => absurd (by decide) c9)
  exact kb_retv (kb_l [], kb_f [uu7.2 0]) hx hb hr hlocks hE hP hD hS [0, 1] rfl (by decide) rfl trivial (Nat.le_of_ble_eq_true rfl) (Nat.le_of_ble_eq_true rfl) d_Row_addNumber_24

set_option maxHeartbeats 4000000 in
set_option maxRecDepth 100000 in
theorem c_Row_addNumber_g16 (l : Launch) (G : kb_G) (h : Nat) (a : Nat) (f : Nat → Int32) (x : Int32) : kb_cv l G ⟨"TreePress$Row", "addNumber", "(I)V"⟩ prog_3_method_8_code 3 4 1 32 [.ref h, .int x] [kb_o h 1 [.ref a, .int 16], kb_a G a 16 f] (fun u => True) (fun u => [kb_o h 1 [.ref (u.1 0), .int 20], kb_a G (u.1 0) 32 (u.2 0)]) := by
  intro sz
  refine kb_body (QQ := fun A => kb_Qv G A (fun u => True) (fun u => [kb_o h 1 [.ref (u.1 0), .int 20], kb_a G (u.1 0) 32 (u.2 0)])) (by decide) (Nat.le_of_ble_eq_true rfl) ?_
  intro p e s m below meth c A B ls hl
  obtain ⟨hx, hb, hr, hml, hlocks, hin, hown, ht, hE, hP, hD, hS⟩ := B
  have hl : lv_has ls 3 [(0, .ref h), (1, .int x)] := hl
  have hP0 := hP
  obtain ⟨H, hHe⟩ : ∃ H, H = s.heap := ⟨_, rfl⟩
  rw [← hHe] at hP
  have hS : va_S A s.heap H [] := by rw [hHe]; exact hS
  refine kb_at hHe ?_
  clear hHe
  refine lv_bipush (v := 24) hx hb d_Row_addNumber_0 (by decide) ?_
  refine lv_istore_n (lv' := [(2, .int 24), (0, .ref h), (1, .int x)]) hx hb d_Row_addNumber_2 rfl hl (by decide) rfl (fun ls hl => ?_)
  refine lv_iload_n hx hb d_Row_addNumber_3 rfl (lv_at hl 0 rfl) ?_
  refine lv_if_lt (tgt := 24) hx hb d_Row_addNumber_4 (by decide) (fun c9 => absurd c9 (by decide)) (fun c9 => ?_)
  refine lv_aload_n hx hb d_Row_addNumber_7 rfl (lv_at hl 1 rfl) ?_
  refine lv_iload_n hx hb d_Row_addNumber_8 rfl (lv_at hl 2 rfl) ?_
  refine lv_iload_n hx hb d_Row_addNumber_9 rfl (lv_at hl 0 rfl) ?_
  refine lv_iushr (v := ((x : Int32).toUInt32 >>> ((24 : Int32).toUInt32 &&& Int32.toUInt32 31)).toInt32) hx hb d_Row_addNumber_10 rfl ?_
  refine lv_sipush (v := 255) hx hb d_Row_addNumber_11 (by decide) ?_
  refine lv_iand hx hb d_Row_addNumber_14 ?_
  refine kb_v (wc := [kb_o h 1 [.ref a, .int 16], kb_a G a 16 f]) (wr := []) hE hP hD hS [0, 1] [] rfl rfl (by decide) (by decide) (kb_rV (As := [.int ((((x : Int32).toUInt32 >>> ((24 : Int32).toUInt32 &&& Int32.toUInt32 31)).toInt32) &&& 255)]) (rest := []) (wc := [kb_o h 1 [.ref a, .int 16], kb_a G a 16 f]) (q0 := 0) ⟨hx, hb, hml, hown, ht⟩ ((c_Row_add_g16 l G h a f ((((x : Int32).toUInt32 >>> ((24 : Int32).toUInt32 &&& Int32.toUInt32 31)).toInt32) &&& 255)) _) (kb_gV wd_b959c18a wd_d7a504c3 wd_55347eca wd_4182e433 wd_0d22954f) ⟨rfl, hd_d22f4174⟩ ⟨(Nat.le_of_ble_eq_true rfl), (Nat.le_of_ble_eq_true rfl)⟩ hE hP hD hS [0, 1] rfl (by decide) rfl rfl rfl hl.1 rfl (Nat.le_of_ble_eq_true rfl) d_Row_addNumber_15 ⟨(Nat.le_of_ble_eq_true rfl), (Nat.le_of_ble_eq_true rfl)⟩) (fun uu1 H locs hw hP hD hS => ?_)
  have hP : va_P G.1 kb_cl [kb_o h 1 [.ref (uu1.1 0), .int 17], kb_a G (uu1.1 0) 32 (upd (uu1.2 0) 16 ((((x : Int32).toUInt32 >>> ((24 : Int32).toUInt32 &&& Int32.toUInt32 31)).toInt32) &&& 255))] H := hP
  have hD : va_D A [kb_o h 1 [.ref (uu1.1 0), .int 17], kb_a G (uu1.1 0) 32 (upd (uu1.2 0) 16 ((((x : Int32).toUInt32 >>> ((24 : Int32).toUInt32 &&& Int32.toUInt32 31)).toInt32) &&& 255))] := hD
  refine lv_iinc (v := 16) (lv' := [(2, .int 16), (0, .ref h), (1, .int x)]) hx hb d_Row_addNumber_18 hl (k := 0) rfl (by decide) (by decide) rfl (fun ls hl => ?_)
  refine lv_goto (tgt := 3) hx hb d_Row_addNumber_21 (by decide) ?_
  refine lv_iload_n hx hb d_Row_addNumber_3 rfl (lv_at hl 0 rfl) ?_
  refine lv_if_lt (tgt := 24) hx hb d_Row_addNumber_4 (by decide) (fun c9 => absurd c9 (by decide)) (fun c9 => ?_)
  refine lv_aload_n hx hb d_Row_addNumber_7 rfl (lv_at hl 1 rfl) ?_
  refine lv_iload_n hx hb d_Row_addNumber_8 rfl (lv_at hl 2 rfl) ?_
  refine lv_iload_n hx hb d_Row_addNumber_9 rfl (lv_at hl 0 rfl) ?_
  refine lv_iushr (v := ((x : Int32).toUInt32 >>> ((16 : Int32).toUInt32 &&& Int32.toUInt32 31)).toInt32) hx hb d_Row_addNumber_10 rfl ?_
  refine lv_sipush (v := 255) hx hb d_Row_addNumber_11 (by decide) ?_
  refine lv_iand hx hb d_Row_addNumber_14 ?_
  refine kb_v (wc := [kb_o h 1 [.ref (uu1.1 0), .int 17], kb_a G (uu1.1 0) 32 (upd (uu1.2 0) 16 ((((x : Int32).toUInt32 >>> ((24 : Int32).toUInt32 &&& Int32.toUInt32 31)).toInt32) &&& 255))]) (wr := []) hE hP hD hS [0, 1] [] rfl rfl (by decide) (by decide) (kb_rV (As := [.int ((((x : Int32).toUInt32 >>> ((16 : Int32).toUInt32 &&& Int32.toUInt32 31)).toInt32) &&& 255)]) (rest := []) (wc := [kb_o h 1 [.ref (uu1.1 0), .int 17], kb_a G (uu1.1 0) 32 (upd (uu1.2 0) 16 ((((x : Int32).toUInt32 >>> ((24 : Int32).toUInt32 &&& Int32.toUInt32 31)).toInt32) &&& 255))]) (q0 := 0) ⟨hx, hb, hml, hown, ht⟩ ((c_Row_add_w l G h (uu1.1 0) 17 32 (upd (uu1.2 0) 16 ((((x : Int32).toUInt32 >>> ((24 : Int32).toUInt32 &&& Int32.toUInt32 31)).toInt32) &&& 255)) ((((x : Int32).toUInt32 >>> ((16 : Int32).toUInt32 &&& Int32.toUInt32 31)).toInt32) &&& 255) (by omega) (by omega)) _) (kb_gV wd_b959c18a wd_d7a504c3 wd_55347eca wd_4182e433 wd_0d22954f) ⟨rfl, hd_d22f4174⟩ ⟨(Nat.le_of_ble_eq_true rfl), (Nat.le_of_ble_eq_true rfl)⟩ hE hP hD hS [0, 1] rfl (by decide) rfl rfl rfl hl.1 rfl (Nat.le_of_ble_eq_true rfl) d_Row_addNumber_15 ⟨(Nat.le_of_ble_eq_true rfl), (Nat.le_of_ble_eq_true rfl)⟩) (fun uu3 H locs hw hP hD hS => ?_)
  have hP : va_P G.1 kb_cl [kb_o h 1 [.ref (uu1.1 0), .int 18], kb_a G (uu1.1 0) 32 (uu3.2 0)] H := hP
  have hD : va_D A [kb_o h 1 [.ref (uu1.1 0), .int 18], kb_a G (uu1.1 0) 32 (uu3.2 0)] := hD
  refine lv_iinc (v := 8) (lv' := [(2, .int 8), (0, .ref h), (1, .int x)]) hx hb d_Row_addNumber_18 hl (k := 0) rfl (by decide) (by decide) rfl (fun ls hl => ?_)
  refine lv_goto (tgt := 3) hx hb d_Row_addNumber_21 (by decide) ?_
  refine lv_iload_n hx hb d_Row_addNumber_3 rfl (lv_at hl 0 rfl) ?_
  refine lv_if_lt (tgt := 24) hx hb d_Row_addNumber_4 (by decide) (fun c9 => absurd c9 (by decide)) (fun c9 => ?_)
  refine lv_aload_n hx hb d_Row_addNumber_7 rfl (lv_at hl 1 rfl) ?_
  refine lv_iload_n hx hb d_Row_addNumber_8 rfl (lv_at hl 2 rfl) ?_
  refine lv_iload_n hx hb d_Row_addNumber_9 rfl (lv_at hl 0 rfl) ?_
  refine lv_iushr (v := ((x : Int32).toUInt32 >>> ((8 : Int32).toUInt32 &&& Int32.toUInt32 31)).toInt32) hx hb d_Row_addNumber_10 rfl ?_
  refine lv_sipush (v := 255) hx hb d_Row_addNumber_11 (by decide) ?_
  refine lv_iand hx hb d_Row_addNumber_14 ?_
  refine kb_v (wc := [kb_o h 1 [.ref (uu1.1 0), .int 18], kb_a G (uu1.1 0) 32 (uu3.2 0)]) (wr := []) hE hP hD hS [0, 1] [] rfl rfl (by decide) (by decide) (kb_rV (As := [.int ((((x : Int32).toUInt32 >>> ((8 : Int32).toUInt32 &&& Int32.toUInt32 31)).toInt32) &&& 255)]) (rest := []) (wc := [kb_o h 1 [.ref (uu1.1 0), .int 18], kb_a G (uu1.1 0) 32 (uu3.2 0)]) (q0 := 0) ⟨hx, hb, hml, hown, ht⟩ ((c_Row_add_w l G h (uu1.1 0) 18 32 (uu3.2 0) ((((x : Int32).toUInt32 >>> ((8 : Int32).toUInt32 &&& Int32.toUInt32 31)).toInt32) &&& 255) (by omega) (by omega)) _) (kb_gV wd_b959c18a wd_d7a504c3 wd_55347eca wd_4182e433 wd_0d22954f) ⟨rfl, hd_d22f4174⟩ ⟨(Nat.le_of_ble_eq_true rfl), (Nat.le_of_ble_eq_true rfl)⟩ hE hP hD hS [0, 1] rfl (by decide) rfl rfl rfl hl.1 rfl (Nat.le_of_ble_eq_true rfl) d_Row_addNumber_15 ⟨(Nat.le_of_ble_eq_true rfl), (Nat.le_of_ble_eq_true rfl)⟩) (fun uu5 H locs hw hP hD hS => ?_)
  have hP : va_P G.1 kb_cl [kb_o h 1 [.ref (uu1.1 0), .int 19], kb_a G (uu1.1 0) 32 (uu5.2 0)] H := hP
  have hD : va_D A [kb_o h 1 [.ref (uu1.1 0), .int 19], kb_a G (uu1.1 0) 32 (uu5.2 0)] := hD
  refine lv_iinc (v := 0) (lv' := [(2, .int 0), (0, .ref h), (1, .int x)]) hx hb d_Row_addNumber_18 hl (k := 0) rfl (by decide) (by decide) rfl (fun ls hl => ?_)
  refine lv_goto (tgt := 3) hx hb d_Row_addNumber_21 (by decide) ?_
  refine lv_iload_n hx hb d_Row_addNumber_3 rfl (lv_at hl 0 rfl) ?_
  refine lv_if_lt (tgt := 24) hx hb d_Row_addNumber_4 (by decide) (fun c9 => absurd c9 (by decide)) (fun c9 => ?_)
  refine lv_aload_n hx hb d_Row_addNumber_7 rfl (lv_at hl 1 rfl) ?_
  refine lv_iload_n hx hb d_Row_addNumber_8 rfl (lv_at hl 2 rfl) ?_
  refine lv_iload_n hx hb d_Row_addNumber_9 rfl (lv_at hl 0 rfl) ?_
  refine lv_iushr (v := ((x : Int32).toUInt32 >>> ((0 : Int32).toUInt32 &&& Int32.toUInt32 31)).toInt32) hx hb d_Row_addNumber_10 rfl ?_
  refine lv_sipush (v := 255) hx hb d_Row_addNumber_11 (by decide) ?_
  refine lv_iand hx hb d_Row_addNumber_14 ?_
  refine kb_v (wc := [kb_o h 1 [.ref (uu1.1 0), .int 19], kb_a G (uu1.1 0) 32 (uu5.2 0)]) (wr := []) hE hP hD hS [0, 1] [] rfl rfl (by decide) (by decide) (kb_rV (As := [.int ((((x : Int32).toUInt32 >>> ((0 : Int32).toUInt32 &&& Int32.toUInt32 31)).toInt32) &&& 255)]) (rest := []) (wc := [kb_o h 1 [.ref (uu1.1 0), .int 19], kb_a G (uu1.1 0) 32 (uu5.2 0)]) (q0 := 0) ⟨hx, hb, hml, hown, ht⟩ ((c_Row_add_w l G h (uu1.1 0) 19 32 (uu5.2 0) ((((x : Int32).toUInt32 >>> ((0 : Int32).toUInt32 &&& Int32.toUInt32 31)).toInt32) &&& 255) (by omega) (by omega)) _) (kb_gV wd_b959c18a wd_d7a504c3 wd_55347eca wd_4182e433 wd_0d22954f) ⟨rfl, hd_d22f4174⟩ ⟨(Nat.le_of_ble_eq_true rfl), (Nat.le_of_ble_eq_true rfl)⟩ hE hP hD hS [0, 1] rfl (by decide) rfl rfl rfl hl.1 rfl (Nat.le_of_ble_eq_true rfl) d_Row_addNumber_15 ⟨(Nat.le_of_ble_eq_true rfl), (Nat.le_of_ble_eq_true rfl)⟩) (fun uu7 H locs hw hP hD hS => ?_)
  have hP : va_P G.1 kb_cl [kb_o h 1 [.ref (uu1.1 0), .int 20], kb_a G (uu1.1 0) 32 (uu7.2 0)] H := hP
  have hD : va_D A [kb_o h 1 [.ref (uu1.1 0), .int 20], kb_a G (uu1.1 0) 32 (uu7.2 0)] := hD
  refine lv_iinc (v := (-8)) (lv' := [(2, .int (-8)), (0, .ref h), (1, .int x)]) hx hb d_Row_addNumber_18 hl (k := 0) rfl (by decide) (by decide) rfl (fun ls hl => ?_)
  refine lv_goto (tgt := 3) hx hb d_Row_addNumber_21 (by decide) ?_
  refine lv_iload_n hx hb d_Row_addNumber_3 rfl (lv_at hl 0 rfl) ?_
  refine lv_if_lt (tgt := 24) hx hb d_Row_addNumber_4 (by decide) (fun c9 => ?_) (fun c9 => absurd (by decide) c9)
  exact kb_retv (kb_l [uu1.1 0], kb_f [uu7.2 0]) hx hb hr hlocks hE hP hD hS [0, 1] rfl (by decide) rfl trivial (Nat.le_of_ble_eq_true rfl) (Nat.le_of_ble_eq_true rfl) d_Row_addNumber_24

set_option maxHeartbeats 4000000 in
set_option maxRecDepth 100000 in
theorem c_Row_addNumber_g64 (l : Launch) (G : kb_G) (h : Nat) (a : Nat) (f : Nat → Int32) (x : Int32) : kb_cv l G ⟨"TreePress$Row", "addNumber", "(I)V"⟩ prog_3_method_8_code 3 4 1 128 [.ref h, .int x] [kb_o h 1 [.ref a, .int 64], kb_a G a 64 f] (fun u => True) (fun u => [kb_o h 1 [.ref (u.1 0), .int 68], kb_a G (u.1 0) 128 (u.2 0)]) := by
  intro sz
  refine kb_body (QQ := fun A => kb_Qv G A (fun u => True) (fun u => [kb_o h 1 [.ref (u.1 0), .int 68], kb_a G (u.1 0) 128 (u.2 0)])) (by decide) (Nat.le_of_ble_eq_true rfl) ?_
  intro p e s m below meth c A B ls hl
  obtain ⟨hx, hb, hr, hml, hlocks, hin, hown, ht, hE, hP, hD, hS⟩ := B
  have hl : lv_has ls 3 [(0, .ref h), (1, .int x)] := hl
  have hP0 := hP
  obtain ⟨H, hHe⟩ : ∃ H, H = s.heap := ⟨_, rfl⟩
  rw [← hHe] at hP
  have hS : va_S A s.heap H [] := by rw [hHe]; exact hS
  refine kb_at hHe ?_
  clear hHe
  refine lv_bipush (v := 24) hx hb d_Row_addNumber_0 (by decide) ?_
  refine lv_istore_n (lv' := [(2, .int 24), (0, .ref h), (1, .int x)]) hx hb d_Row_addNumber_2 rfl hl (by decide) rfl (fun ls hl => ?_)
  refine lv_iload_n hx hb d_Row_addNumber_3 rfl (lv_at hl 0 rfl) ?_
  refine lv_if_lt (tgt := 24) hx hb d_Row_addNumber_4 (by decide) (fun c9 => absurd c9 (by decide)) (fun c9 => ?_)
  refine lv_aload_n hx hb d_Row_addNumber_7 rfl (lv_at hl 1 rfl) ?_
  refine lv_iload_n hx hb d_Row_addNumber_8 rfl (lv_at hl 2 rfl) ?_
  refine lv_iload_n hx hb d_Row_addNumber_9 rfl (lv_at hl 0 rfl) ?_
  refine lv_iushr (v := ((x : Int32).toUInt32 >>> ((24 : Int32).toUInt32 &&& Int32.toUInt32 31)).toInt32) hx hb d_Row_addNumber_10 rfl ?_
  refine lv_sipush (v := 255) hx hb d_Row_addNumber_11 (by decide) ?_
  refine lv_iand hx hb d_Row_addNumber_14 ?_
  refine kb_v (wc := [kb_o h 1 [.ref a, .int 64], kb_a G a 64 f]) (wr := []) hE hP hD hS [0, 1] [] rfl rfl (by decide) (by decide) (kb_rV (As := [.int ((((x : Int32).toUInt32 >>> ((24 : Int32).toUInt32 &&& Int32.toUInt32 31)).toInt32) &&& 255)]) (rest := []) (wc := [kb_o h 1 [.ref a, .int 64], kb_a G a 64 f]) (q0 := 0) ⟨hx, hb, hml, hown, ht⟩ ((c_Row_add_g64 l G h a f ((((x : Int32).toUInt32 >>> ((24 : Int32).toUInt32 &&& Int32.toUInt32 31)).toInt32) &&& 255)) _) (kb_gV wd_b959c18a wd_d7a504c3 wd_55347eca wd_4182e433 wd_0d22954f) ⟨rfl, hd_d22f4174⟩ ⟨(Nat.le_of_ble_eq_true rfl), (Nat.le_of_ble_eq_true rfl)⟩ hE hP hD hS [0, 1] rfl (by decide) rfl rfl rfl hl.1 rfl (Nat.le_of_ble_eq_true rfl) d_Row_addNumber_15 ⟨(Nat.le_of_ble_eq_true rfl), (Nat.le_of_ble_eq_true rfl)⟩) (fun uu1 H locs hw hP hD hS => ?_)
  have hP : va_P G.1 kb_cl [kb_o h 1 [.ref (uu1.1 0), .int 65], kb_a G (uu1.1 0) 128 (upd (uu1.2 0) 64 ((((x : Int32).toUInt32 >>> ((24 : Int32).toUInt32 &&& Int32.toUInt32 31)).toInt32) &&& 255))] H := hP
  have hD : va_D A [kb_o h 1 [.ref (uu1.1 0), .int 65], kb_a G (uu1.1 0) 128 (upd (uu1.2 0) 64 ((((x : Int32).toUInt32 >>> ((24 : Int32).toUInt32 &&& Int32.toUInt32 31)).toInt32) &&& 255))] := hD
  refine lv_iinc (v := 16) (lv' := [(2, .int 16), (0, .ref h), (1, .int x)]) hx hb d_Row_addNumber_18 hl (k := 0) rfl (by decide) (by decide) rfl (fun ls hl => ?_)
  refine lv_goto (tgt := 3) hx hb d_Row_addNumber_21 (by decide) ?_
  refine lv_iload_n hx hb d_Row_addNumber_3 rfl (lv_at hl 0 rfl) ?_
  refine lv_if_lt (tgt := 24) hx hb d_Row_addNumber_4 (by decide) (fun c9 => absurd c9 (by decide)) (fun c9 => ?_)
  refine lv_aload_n hx hb d_Row_addNumber_7 rfl (lv_at hl 1 rfl) ?_
  refine lv_iload_n hx hb d_Row_addNumber_8 rfl (lv_at hl 2 rfl) ?_
  refine lv_iload_n hx hb d_Row_addNumber_9 rfl (lv_at hl 0 rfl) ?_
  refine lv_iushr (v := ((x : Int32).toUInt32 >>> ((16 : Int32).toUInt32 &&& Int32.toUInt32 31)).toInt32) hx hb d_Row_addNumber_10 rfl ?_
  refine lv_sipush (v := 255) hx hb d_Row_addNumber_11 (by decide) ?_
  refine lv_iand hx hb d_Row_addNumber_14 ?_
  refine kb_v (wc := [kb_o h 1 [.ref (uu1.1 0), .int 65], kb_a G (uu1.1 0) 128 (upd (uu1.2 0) 64 ((((x : Int32).toUInt32 >>> ((24 : Int32).toUInt32 &&& Int32.toUInt32 31)).toInt32) &&& 255))]) (wr := []) hE hP hD hS [0, 1] [] rfl rfl (by decide) (by decide) (kb_rV (As := [.int ((((x : Int32).toUInt32 >>> ((16 : Int32).toUInt32 &&& Int32.toUInt32 31)).toInt32) &&& 255)]) (rest := []) (wc := [kb_o h 1 [.ref (uu1.1 0), .int 65], kb_a G (uu1.1 0) 128 (upd (uu1.2 0) 64 ((((x : Int32).toUInt32 >>> ((24 : Int32).toUInt32 &&& Int32.toUInt32 31)).toInt32) &&& 255))]) (q0 := 0) ⟨hx, hb, hml, hown, ht⟩ ((c_Row_add_w l G h (uu1.1 0) 65 128 (upd (uu1.2 0) 64 ((((x : Int32).toUInt32 >>> ((24 : Int32).toUInt32 &&& Int32.toUInt32 31)).toInt32) &&& 255)) ((((x : Int32).toUInt32 >>> ((16 : Int32).toUInt32 &&& Int32.toUInt32 31)).toInt32) &&& 255) (by omega) (by omega)) _) (kb_gV wd_b959c18a wd_d7a504c3 wd_55347eca wd_4182e433 wd_0d22954f) ⟨rfl, hd_d22f4174⟩ ⟨(Nat.le_of_ble_eq_true rfl), (Nat.le_of_ble_eq_true rfl)⟩ hE hP hD hS [0, 1] rfl (by decide) rfl rfl rfl hl.1 rfl (Nat.le_of_ble_eq_true rfl) d_Row_addNumber_15 ⟨(Nat.le_of_ble_eq_true rfl), (Nat.le_of_ble_eq_true rfl)⟩) (fun uu3 H locs hw hP hD hS => ?_)
  have hP : va_P G.1 kb_cl [kb_o h 1 [.ref (uu1.1 0), .int 66], kb_a G (uu1.1 0) 128 (uu3.2 0)] H := hP
  have hD : va_D A [kb_o h 1 [.ref (uu1.1 0), .int 66], kb_a G (uu1.1 0) 128 (uu3.2 0)] := hD
  refine lv_iinc (v := 8) (lv' := [(2, .int 8), (0, .ref h), (1, .int x)]) hx hb d_Row_addNumber_18 hl (k := 0) rfl (by decide) (by decide) rfl (fun ls hl => ?_)
  refine lv_goto (tgt := 3) hx hb d_Row_addNumber_21 (by decide) ?_
  refine lv_iload_n hx hb d_Row_addNumber_3 rfl (lv_at hl 0 rfl) ?_
  refine lv_if_lt (tgt := 24) hx hb d_Row_addNumber_4 (by decide) (fun c9 => absurd c9 (by decide)) (fun c9 => ?_)
  refine lv_aload_n hx hb d_Row_addNumber_7 rfl (lv_at hl 1 rfl) ?_
  refine lv_iload_n hx hb d_Row_addNumber_8 rfl (lv_at hl 2 rfl) ?_
  refine lv_iload_n hx hb d_Row_addNumber_9 rfl (lv_at hl 0 rfl) ?_
  refine lv_iushr (v := ((x : Int32).toUInt32 >>> ((8 : Int32).toUInt32 &&& Int32.toUInt32 31)).toInt32) hx hb d_Row_addNumber_10 rfl ?_
  refine lv_sipush (v := 255) hx hb d_Row_addNumber_11 (by decide) ?_
  refine lv_iand hx hb d_Row_addNumber_14 ?_
  refine kb_v (wc := [kb_o h 1 [.ref (uu1.1 0), .int 66], kb_a G (uu1.1 0) 128 (uu3.2 0)]) (wr := []) hE hP hD hS [0, 1] [] rfl rfl (by decide) (by decide) (kb_rV (As := [.int ((((x : Int32).toUInt32 >>> ((8 : Int32).toUInt32 &&& Int32.toUInt32 31)).toInt32) &&& 255)]) (rest := []) (wc := [kb_o h 1 [.ref (uu1.1 0), .int 66], kb_a G (uu1.1 0) 128 (uu3.2 0)]) (q0 := 0) ⟨hx, hb, hml, hown, ht⟩ ((c_Row_add_w l G h (uu1.1 0) 66 128 (uu3.2 0) ((((x : Int32).toUInt32 >>> ((8 : Int32).toUInt32 &&& Int32.toUInt32 31)).toInt32) &&& 255) (by omega) (by omega)) _) (kb_gV wd_b959c18a wd_d7a504c3 wd_55347eca wd_4182e433 wd_0d22954f) ⟨rfl, hd_d22f4174⟩ ⟨(Nat.le_of_ble_eq_true rfl), (Nat.le_of_ble_eq_true rfl)⟩ hE hP hD hS [0, 1] rfl (by decide) rfl rfl rfl hl.1 rfl (Nat.le_of_ble_eq_true rfl) d_Row_addNumber_15 ⟨(Nat.le_of_ble_eq_true rfl), (Nat.le_of_ble_eq_true rfl)⟩) (fun uu5 H locs hw hP hD hS => ?_)
  have hP : va_P G.1 kb_cl [kb_o h 1 [.ref (uu1.1 0), .int 67], kb_a G (uu1.1 0) 128 (uu5.2 0)] H := hP
  have hD : va_D A [kb_o h 1 [.ref (uu1.1 0), .int 67], kb_a G (uu1.1 0) 128 (uu5.2 0)] := hD
  refine lv_iinc (v := 0) (lv' := [(2, .int 0), (0, .ref h), (1, .int x)]) hx hb d_Row_addNumber_18 hl (k := 0) rfl (by decide) (by decide) rfl (fun ls hl => ?_)
  refine lv_goto (tgt := 3) hx hb d_Row_addNumber_21 (by decide) ?_
  refine lv_iload_n hx hb d_Row_addNumber_3 rfl (lv_at hl 0 rfl) ?_
  refine lv_if_lt (tgt := 24) hx hb d_Row_addNumber_4 (by decide) (fun c9 => absurd c9 (by decide)) (fun c9 => ?_)
  refine lv_aload_n hx hb d_Row_addNumber_7 rfl (lv_at hl 1 rfl) ?_
  refine lv_iload_n hx hb d_Row_addNumber_8 rfl (lv_at hl 2 rfl) ?_
  refine lv_iload_n hx hb d_Row_addNumber_9 rfl (lv_at hl 0 rfl) ?_
  refine lv_iushr (v := ((x : Int32).toUInt32 >>> ((0 : Int32).toUInt32 &&& Int32.toUInt32 31)).toInt32) hx hb d_Row_addNumber_10 rfl ?_
  refine lv_sipush (v := 255) hx hb d_Row_addNumber_11 (by decide) ?_
  refine lv_iand hx hb d_Row_addNumber_14 ?_
  refine kb_v (wc := [kb_o h 1 [.ref (uu1.1 0), .int 67], kb_a G (uu1.1 0) 128 (uu5.2 0)]) (wr := []) hE hP hD hS [0, 1] [] rfl rfl (by decide) (by decide) (kb_rV (As := [.int ((((x : Int32).toUInt32 >>> ((0 : Int32).toUInt32 &&& Int32.toUInt32 31)).toInt32) &&& 255)]) (rest := []) (wc := [kb_o h 1 [.ref (uu1.1 0), .int 67], kb_a G (uu1.1 0) 128 (uu5.2 0)]) (q0 := 0) ⟨hx, hb, hml, hown, ht⟩ ((c_Row_add_w l G h (uu1.1 0) 67 128 (uu5.2 0) ((((x : Int32).toUInt32 >>> ((0 : Int32).toUInt32 &&& Int32.toUInt32 31)).toInt32) &&& 255) (by omega) (by omega)) _) (kb_gV wd_b959c18a wd_d7a504c3 wd_55347eca wd_4182e433 wd_0d22954f) ⟨rfl, hd_d22f4174⟩ ⟨(Nat.le_of_ble_eq_true rfl), (Nat.le_of_ble_eq_true rfl)⟩ hE hP hD hS [0, 1] rfl (by decide) rfl rfl rfl hl.1 rfl (Nat.le_of_ble_eq_true rfl) d_Row_addNumber_15 ⟨(Nat.le_of_ble_eq_true rfl), (Nat.le_of_ble_eq_true rfl)⟩) (fun uu7 H locs hw hP hD hS => ?_)
  have hP : va_P G.1 kb_cl [kb_o h 1 [.ref (uu1.1 0), .int 68], kb_a G (uu1.1 0) 128 (uu7.2 0)] H := hP
  have hD : va_D A [kb_o h 1 [.ref (uu1.1 0), .int 68], kb_a G (uu1.1 0) 128 (uu7.2 0)] := hD
  refine lv_iinc (v := (-8)) (lv' := [(2, .int (-8)), (0, .ref h), (1, .int x)]) hx hb d_Row_addNumber_18 hl (k := 0) rfl (by decide) (by decide) rfl (fun ls hl => ?_)
  refine lv_goto (tgt := 3) hx hb d_Row_addNumber_21 (by decide) ?_
  refine lv_iload_n hx hb d_Row_addNumber_3 rfl (lv_at hl 0 rfl) ?_
  refine lv_if_lt (tgt := 24) hx hb d_Row_addNumber_4 (by decide) (fun c9 => ?_) (fun c9 => absurd (by decide) c9)
  exact kb_retv (kb_l [uu1.1 0], kb_f [uu7.2 0]) hx hb hr hlocks hE hP hD hS [0, 1] rfl (by decide) rfl trivial (Nat.le_of_ble_eq_true rfl) (Nat.le_of_ble_eq_true rfl) d_Row_addNumber_24

set_option maxHeartbeats 4000000 in
set_option maxRecDepth 100000 in
theorem c_Row_addZeros_4 (l : Launch) (G : kb_G) (h : Nat) (a : Nat) (f : Nat → Int32) : kb_cv l G ⟨"TreePress$Row", "addZeros", "(I)V"⟩ prog_3_method_9_code 3 4 0 0 [.ref h, .int 4] [kb_o h 1 [.ref a, .int 60], kb_a G a 64 f] (fun u => True) (fun u => [kb_o h 1 [.ref a, .int 64], kb_a G a 64 (u.2 0)]) := by
  intro sz
  refine kb_body (QQ := fun A => kb_Qv G A (fun u => True) (fun u => [kb_o h 1 [.ref a, .int 64], kb_a G a 64 (u.2 0)])) (by decide) (Nat.le_of_ble_eq_true rfl) ?_
  intro p e s m below meth c A B ls hl
  obtain ⟨hx, hb, hr, hml, hlocks, hin, hown, ht, hE, hP, hD, hS⟩ := B
  have hl : lv_has ls 3 [(0, .ref h), (1, .int 4)] := hl
  have hP0 := hP
  obtain ⟨H, hHe⟩ : ∃ H, H = s.heap := ⟨_, rfl⟩
  rw [← hHe] at hP
  have hS : va_S A s.heap H [] := by rw [hHe]; exact hS
  refine kb_at hHe ?_
  clear hHe
  refine lv_iconst (v := 0) hx hb d_Row_addZeros_0 (by decide) ?_
  refine lv_istore_n (lv' := [(2, .int 0), (0, .ref h), (1, .int 4)]) hx hb d_Row_addZeros_1 rfl hl (by decide) rfl (fun ls hl => ?_)
  refine lv_iload_n hx hb d_Row_addZeros_2 rfl (lv_at hl 0 rfl) ?_
  refine lv_iload_n hx hb d_Row_addZeros_3 rfl (lv_at hl 2 rfl) ?_
  refine lv_icmp_ge (tgt := 18) hx hb d_Row_addZeros_4 (by decide) (fun c9 => absurd c9 (by decide)) (fun c9 => ?_)
  refine lv_aload_n hx hb d_Row_addZeros_7 rfl (lv_at hl 1 rfl) ?_
  refine lv_iconst (v := 0) hx hb d_Row_addZeros_8 (by decide) ?_
  refine kb_v (wc := [kb_o h 1 [.ref a, .int 60], kb_a G a 64 f]) (wr := []) hE hP hD hS [0, 1] [] rfl rfl (by decide) (by decide) (kb_rV (As := [.int 0]) (rest := []) (wc := [kb_o h 1 [.ref a, .int 60], kb_a G a 64 f]) (q0 := 0) ⟨hx, hb, hml, hown, ht⟩ ((c_Row_add_w l G h a 60 64 f 0 (by omega) (by omega)) _) (kb_gV wd_b959c18a wd_d7a504c3 wd_55347eca wd_4182e433 wd_0d22954f) ⟨rfl, hd_d22f4174⟩ ⟨(Nat.le_of_ble_eq_true rfl), (Nat.le_of_ble_eq_true rfl)⟩ hE hP hD hS [0, 1] rfl (by decide) rfl rfl rfl hl.1 rfl (Nat.le_of_ble_eq_true rfl) d_Row_addZeros_9 ⟨(Nat.le_of_ble_eq_true rfl), (Nat.le_of_ble_eq_true rfl)⟩) (fun uu1 H locs hw hP hD hS => ?_)
  have hP : va_P G.1 kb_cl [kb_o h 1 [.ref a, .int 61], kb_a G a 64 (uu1.2 0)] H := hP
  have hD : va_D A [kb_o h 1 [.ref a, .int 61], kb_a G a 64 (uu1.2 0)] := hD
  refine lv_iinc (v := 1) (lv' := [(2, .int 1), (0, .ref h), (1, .int 4)]) hx hb d_Row_addZeros_12 hl (k := 0) rfl (by decide) (by decide) rfl (fun ls hl => ?_)
  refine lv_goto (tgt := 2) hx hb d_Row_addZeros_15 (by decide) ?_
  refine lv_iload_n hx hb d_Row_addZeros_2 rfl (lv_at hl 0 rfl) ?_
  refine lv_iload_n hx hb d_Row_addZeros_3 rfl (lv_at hl 2 rfl) ?_
  refine lv_icmp_ge (tgt := 18) hx hb d_Row_addZeros_4 (by decide) (fun c9 => absurd c9 (by decide)) (fun c9 => ?_)
  refine lv_aload_n hx hb d_Row_addZeros_7 rfl (lv_at hl 1 rfl) ?_
  refine lv_iconst (v := 0) hx hb d_Row_addZeros_8 (by decide) ?_
  refine kb_v (wc := [kb_o h 1 [.ref a, .int 61], kb_a G a 64 (uu1.2 0)]) (wr := []) hE hP hD hS [0, 1] [] rfl rfl (by decide) (by decide) (kb_rV (As := [.int 0]) (rest := []) (wc := [kb_o h 1 [.ref a, .int 61], kb_a G a 64 (uu1.2 0)]) (q0 := 0) ⟨hx, hb, hml, hown, ht⟩ ((c_Row_add_w l G h a 61 64 (uu1.2 0) 0 (by omega) (by omega)) _) (kb_gV wd_b959c18a wd_d7a504c3 wd_55347eca wd_4182e433 wd_0d22954f) ⟨rfl, hd_d22f4174⟩ ⟨(Nat.le_of_ble_eq_true rfl), (Nat.le_of_ble_eq_true rfl)⟩ hE hP hD hS [0, 1] rfl (by decide) rfl rfl rfl hl.1 rfl (Nat.le_of_ble_eq_true rfl) d_Row_addZeros_9 ⟨(Nat.le_of_ble_eq_true rfl), (Nat.le_of_ble_eq_true rfl)⟩) (fun uu3 H locs hw hP hD hS => ?_)
  have hP : va_P G.1 kb_cl [kb_o h 1 [.ref a, .int 62], kb_a G a 64 (uu3.2 0)] H := hP
  have hD : va_D A [kb_o h 1 [.ref a, .int 62], kb_a G a 64 (uu3.2 0)] := hD
  refine lv_iinc (v := 2) (lv' := [(2, .int 2), (0, .ref h), (1, .int 4)]) hx hb d_Row_addZeros_12 hl (k := 0) rfl (by decide) (by decide) rfl (fun ls hl => ?_)
  refine lv_goto (tgt := 2) hx hb d_Row_addZeros_15 (by decide) ?_
  refine lv_iload_n hx hb d_Row_addZeros_2 rfl (lv_at hl 0 rfl) ?_
  refine lv_iload_n hx hb d_Row_addZeros_3 rfl (lv_at hl 2 rfl) ?_
  refine lv_icmp_ge (tgt := 18) hx hb d_Row_addZeros_4 (by decide) (fun c9 => absurd c9 (by decide)) (fun c9 => ?_)
  refine lv_aload_n hx hb d_Row_addZeros_7 rfl (lv_at hl 1 rfl) ?_
  refine lv_iconst (v := 0) hx hb d_Row_addZeros_8 (by decide) ?_
  refine kb_v (wc := [kb_o h 1 [.ref a, .int 62], kb_a G a 64 (uu3.2 0)]) (wr := []) hE hP hD hS [0, 1] [] rfl rfl (by decide) (by decide) (kb_rV (As := [.int 0]) (rest := []) (wc := [kb_o h 1 [.ref a, .int 62], kb_a G a 64 (uu3.2 0)]) (q0 := 0) ⟨hx, hb, hml, hown, ht⟩ ((c_Row_add_w l G h a 62 64 (uu3.2 0) 0 (by omega) (by omega)) _) (kb_gV wd_b959c18a wd_d7a504c3 wd_55347eca wd_4182e433 wd_0d22954f) ⟨rfl, hd_d22f4174⟩ ⟨(Nat.le_of_ble_eq_true rfl), (Nat.le_of_ble_eq_true rfl)⟩ hE hP hD hS [0, 1] rfl (by decide) rfl rfl rfl hl.1 rfl (Nat.le_of_ble_eq_true rfl) d_Row_addZeros_9 ⟨(Nat.le_of_ble_eq_true rfl), (Nat.le_of_ble_eq_true rfl)⟩) (fun uu5 H locs hw hP hD hS => ?_)
  have hP : va_P G.1 kb_cl [kb_o h 1 [.ref a, .int 63], kb_a G a 64 (uu5.2 0)] H := hP
  have hD : va_D A [kb_o h 1 [.ref a, .int 63], kb_a G a 64 (uu5.2 0)] := hD
  refine lv_iinc (v := 3) (lv' := [(2, .int 3), (0, .ref h), (1, .int 4)]) hx hb d_Row_addZeros_12 hl (k := 0) rfl (by decide) (by decide) rfl (fun ls hl => ?_)
  refine lv_goto (tgt := 2) hx hb d_Row_addZeros_15 (by decide) ?_
  refine lv_iload_n hx hb d_Row_addZeros_2 rfl (lv_at hl 0 rfl) ?_
  refine lv_iload_n hx hb d_Row_addZeros_3 rfl (lv_at hl 2 rfl) ?_
  refine lv_icmp_ge (tgt := 18) hx hb d_Row_addZeros_4 (by decide) (fun c9 => absurd c9 (by decide)) (fun c9 => ?_)
  refine lv_aload_n hx hb d_Row_addZeros_7 rfl (lv_at hl 1 rfl) ?_
  refine lv_iconst (v := 0) hx hb d_Row_addZeros_8 (by decide) ?_
  refine kb_v (wc := [kb_o h 1 [.ref a, .int 63], kb_a G a 64 (uu5.2 0)]) (wr := []) hE hP hD hS [0, 1] [] rfl rfl (by decide) (by decide) (kb_rV (As := [.int 0]) (rest := []) (wc := [kb_o h 1 [.ref a, .int 63], kb_a G a 64 (uu5.2 0)]) (q0 := 0) ⟨hx, hb, hml, hown, ht⟩ ((c_Row_add_w l G h a 63 64 (uu5.2 0) 0 (by omega) (by omega)) _) (kb_gV wd_b959c18a wd_d7a504c3 wd_55347eca wd_4182e433 wd_0d22954f) ⟨rfl, hd_d22f4174⟩ ⟨(Nat.le_of_ble_eq_true rfl), (Nat.le_of_ble_eq_true rfl)⟩ hE hP hD hS [0, 1] rfl (by decide) rfl rfl rfl hl.1 rfl (Nat.le_of_ble_eq_true rfl) d_Row_addZeros_9 ⟨(Nat.le_of_ble_eq_true rfl), (Nat.le_of_ble_eq_true rfl)⟩) (fun uu7 H locs hw hP hD hS => ?_)
  have hP : va_P G.1 kb_cl [kb_o h 1 [.ref a, .int 64], kb_a G a 64 (uu7.2 0)] H := hP
  have hD : va_D A [kb_o h 1 [.ref a, .int 64], kb_a G a 64 (uu7.2 0)] := hD
  refine lv_iinc (v := 4) (lv' := [(2, .int 4), (0, .ref h), (1, .int 4)]) hx hb d_Row_addZeros_12 hl (k := 0) rfl (by decide) (by decide) rfl (fun ls hl => ?_)
  refine lv_goto (tgt := 2) hx hb d_Row_addZeros_15 (by decide) ?_
  refine lv_iload_n hx hb d_Row_addZeros_2 rfl (lv_at hl 0 rfl) ?_
  refine lv_iload_n hx hb d_Row_addZeros_3 rfl (lv_at hl 2 rfl) ?_
  refine lv_icmp_ge (tgt := 18) hx hb d_Row_addZeros_4 (by decide) (fun c9 => ?_) (fun c9 => absurd (by decide) c9)
  exact kb_retv (kb_l [], kb_f [uu7.2 0]) hx hb hr hlocks hE hP hD hS [0, 1] rfl (by decide) rfl trivial (Nat.le_of_ble_eq_true rfl) (Nat.le_of_ble_eq_true rfl) d_Row_addZeros_18

set_option maxHeartbeats 4000000 in
set_option maxRecDepth 100000 in
theorem c_Row_addZeros_56 (l : Launch) (G : kb_G) (h : Nat) (a : Nat) (f : Nat → Int32) : kb_cv l G ⟨"TreePress$Row", "addZeros", "(I)V"⟩ prog_3_method_9_code 3 4 2 96 [.ref h, .int 56] [kb_o h 1 [.ref a, .int 0], kb_a G a 16 f] (fun u => True) (fun u => [kb_o h 1 [.ref (u.1 0), .int 56], kb_a G (u.1 0) 64 (u.2 0)]) := by
  intro sz
  refine kb_body (QQ := fun A => kb_Qv G A (fun u => True) (fun u => [kb_o h 1 [.ref (u.1 0), .int 56], kb_a G (u.1 0) 64 (u.2 0)])) (by decide) (Nat.le_of_ble_eq_true rfl) ?_
  intro p e s m below meth c A B ls hl
  obtain ⟨hx, hb, hr, hml, hlocks, hin, hown, ht, hE, hP, hD, hS⟩ := B
  have hl : lv_has ls 3 [(0, .ref h), (1, .int 56)] := hl
  have hP0 := hP
  obtain ⟨H, hHe⟩ : ∃ H, H = s.heap := ⟨_, rfl⟩
  rw [← hHe] at hP
  have hS : va_S A s.heap H [] := by rw [hHe]; exact hS
  refine kb_at hHe ?_
  clear hHe
  refine lv_iconst (v := 0) hx hb d_Row_addZeros_0 (by decide) ?_
  refine lv_istore_n (lv' := [(2, .int 0), (0, .ref h), (1, .int 56)]) hx hb d_Row_addZeros_1 rfl hl (by decide) rfl (fun ls hl => ?_)
  refine lv_iload_n hx hb d_Row_addZeros_2 rfl (lv_at hl 0 rfl) ?_
  refine lv_iload_n hx hb d_Row_addZeros_3 rfl (lv_at hl 2 rfl) ?_
  refine lv_icmp_ge (tgt := 18) hx hb d_Row_addZeros_4 (by decide) (fun c9 => absurd c9 (by decide)) (fun c9 => ?_)
  refine lv_aload_n hx hb d_Row_addZeros_7 rfl (lv_at hl 1 rfl) ?_
  refine lv_iconst (v := 0) hx hb d_Row_addZeros_8 (by decide) ?_
  refine kb_v (wc := [kb_o h 1 [.ref a, .int 0], kb_a G a 16 f]) (wr := []) hE hP hD hS [0, 1] [] rfl rfl (by decide) (by decide) (kb_rV (As := [.int 0]) (rest := []) (wc := [kb_o h 1 [.ref a, .int 0], kb_a G a 16 f]) (q0 := 0) ⟨hx, hb, hml, hown, ht⟩ ((c_Row_add_w l G h a 0 16 f 0 (by omega) (by omega)) _) (kb_gV wd_b959c18a wd_d7a504c3 wd_55347eca wd_4182e433 wd_0d22954f) ⟨rfl, hd_d22f4174⟩ ⟨(Nat.le_of_ble_eq_true rfl), (Nat.le_of_ble_eq_true rfl)⟩ hE hP hD hS [0, 1] rfl (by decide) rfl rfl rfl hl.1 rfl (Nat.le_of_ble_eq_true rfl) d_Row_addZeros_9 ⟨(Nat.le_of_ble_eq_true rfl), (Nat.le_of_ble_eq_true rfl)⟩) (fun uu1 H locs hw hP hD hS => ?_)
  have hP : va_P G.1 kb_cl [kb_o h 1 [.ref a, .int 1], kb_a G a 16 (uu1.2 0)] H := hP
  have hD : va_D A [kb_o h 1 [.ref a, .int 1], kb_a G a 16 (uu1.2 0)] := hD
  refine lv_iinc (v := 1) (lv' := [(2, .int 1), (0, .ref h), (1, .int 56)]) hx hb d_Row_addZeros_12 hl (k := 0) rfl (by decide) (by decide) rfl (fun ls hl => ?_)
  refine lv_goto (tgt := 2) hx hb d_Row_addZeros_15 (by decide) ?_
  refine lv_iload_n hx hb d_Row_addZeros_2 rfl (lv_at hl 0 rfl) ?_
  refine lv_iload_n hx hb d_Row_addZeros_3 rfl (lv_at hl 2 rfl) ?_
  refine lv_icmp_ge (tgt := 18) hx hb d_Row_addZeros_4 (by decide) (fun c9 => absurd c9 (by decide)) (fun c9 => ?_)
  refine lv_aload_n hx hb d_Row_addZeros_7 rfl (lv_at hl 1 rfl) ?_
  refine lv_iconst (v := 0) hx hb d_Row_addZeros_8 (by decide) ?_
  refine kb_v (wc := [kb_o h 1 [.ref a, .int 1], kb_a G a 16 (uu1.2 0)]) (wr := []) hE hP hD hS [0, 1] [] rfl rfl (by decide) (by decide) (kb_rV (As := [.int 0]) (rest := []) (wc := [kb_o h 1 [.ref a, .int 1], kb_a G a 16 (uu1.2 0)]) (q0 := 0) ⟨hx, hb, hml, hown, ht⟩ ((c_Row_add_w l G h a 1 16 (uu1.2 0) 0 (by omega) (by omega)) _) (kb_gV wd_b959c18a wd_d7a504c3 wd_55347eca wd_4182e433 wd_0d22954f) ⟨rfl, hd_d22f4174⟩ ⟨(Nat.le_of_ble_eq_true rfl), (Nat.le_of_ble_eq_true rfl)⟩ hE hP hD hS [0, 1] rfl (by decide) rfl rfl rfl hl.1 rfl (Nat.le_of_ble_eq_true rfl) d_Row_addZeros_9 ⟨(Nat.le_of_ble_eq_true rfl), (Nat.le_of_ble_eq_true rfl)⟩) (fun uu3 H locs hw hP hD hS => ?_)
  have hP : va_P G.1 kb_cl [kb_o h 1 [.ref a, .int 2], kb_a G a 16 (uu3.2 0)] H := hP
  have hD : va_D A [kb_o h 1 [.ref a, .int 2], kb_a G a 16 (uu3.2 0)] := hD
  refine lv_iinc (v := 2) (lv' := [(2, .int 2), (0, .ref h), (1, .int 56)]) hx hb d_Row_addZeros_12 hl (k := 0) rfl (by decide) (by decide) rfl (fun ls hl => ?_)
  refine lv_goto (tgt := 2) hx hb d_Row_addZeros_15 (by decide) ?_
  refine lv_iload_n hx hb d_Row_addZeros_2 rfl (lv_at hl 0 rfl) ?_
  refine lv_iload_n hx hb d_Row_addZeros_3 rfl (lv_at hl 2 rfl) ?_
  refine lv_icmp_ge (tgt := 18) hx hb d_Row_addZeros_4 (by decide) (fun c9 => absurd c9 (by decide)) (fun c9 => ?_)
  refine lv_aload_n hx hb d_Row_addZeros_7 rfl (lv_at hl 1 rfl) ?_
  refine lv_iconst (v := 0) hx hb d_Row_addZeros_8 (by decide) ?_
  refine kb_v (wc := [kb_o h 1 [.ref a, .int 2], kb_a G a 16 (uu3.2 0)]) (wr := []) hE hP hD hS [0, 1] [] rfl rfl (by decide) (by decide) (kb_rV (As := [.int 0]) (rest := []) (wc := [kb_o h 1 [.ref a, .int 2], kb_a G a 16 (uu3.2 0)]) (q0 := 0) ⟨hx, hb, hml, hown, ht⟩ ((c_Row_add_w l G h a 2 16 (uu3.2 0) 0 (by omega) (by omega)) _) (kb_gV wd_b959c18a wd_d7a504c3 wd_55347eca wd_4182e433 wd_0d22954f) ⟨rfl, hd_d22f4174⟩ ⟨(Nat.le_of_ble_eq_true rfl), (Nat.le_of_ble_eq_true rfl)⟩ hE hP hD hS [0, 1] rfl (by decide) rfl rfl rfl hl.1 rfl (Nat.le_of_ble_eq_true rfl) d_Row_addZeros_9 ⟨(Nat.le_of_ble_eq_true rfl), (Nat.le_of_ble_eq_true rfl)⟩) (fun uu5 H locs hw hP hD hS => ?_)
  have hP : va_P G.1 kb_cl [kb_o h 1 [.ref a, .int 3], kb_a G a 16 (uu5.2 0)] H := hP
  have hD : va_D A [kb_o h 1 [.ref a, .int 3], kb_a G a 16 (uu5.2 0)] := hD
  refine lv_iinc (v := 3) (lv' := [(2, .int 3), (0, .ref h), (1, .int 56)]) hx hb d_Row_addZeros_12 hl (k := 0) rfl (by decide) (by decide) rfl (fun ls hl => ?_)
  refine lv_goto (tgt := 2) hx hb d_Row_addZeros_15 (by decide) ?_
  refine lv_iload_n hx hb d_Row_addZeros_2 rfl (lv_at hl 0 rfl) ?_
  refine lv_iload_n hx hb d_Row_addZeros_3 rfl (lv_at hl 2 rfl) ?_
  refine lv_icmp_ge (tgt := 18) hx hb d_Row_addZeros_4 (by decide) (fun c9 => absurd c9 (by decide)) (fun c9 => ?_)
  refine lv_aload_n hx hb d_Row_addZeros_7 rfl (lv_at hl 1 rfl) ?_
  refine lv_iconst (v := 0) hx hb d_Row_addZeros_8 (by decide) ?_
  refine kb_v (wc := [kb_o h 1 [.ref a, .int 3], kb_a G a 16 (uu5.2 0)]) (wr := []) hE hP hD hS [0, 1] [] rfl rfl (by decide) (by decide) (kb_rV (As := [.int 0]) (rest := []) (wc := [kb_o h 1 [.ref a, .int 3], kb_a G a 16 (uu5.2 0)]) (q0 := 0) ⟨hx, hb, hml, hown, ht⟩ ((c_Row_add_w l G h a 3 16 (uu5.2 0) 0 (by omega) (by omega)) _) (kb_gV wd_b959c18a wd_d7a504c3 wd_55347eca wd_4182e433 wd_0d22954f) ⟨rfl, hd_d22f4174⟩ ⟨(Nat.le_of_ble_eq_true rfl), (Nat.le_of_ble_eq_true rfl)⟩ hE hP hD hS [0, 1] rfl (by decide) rfl rfl rfl hl.1 rfl (Nat.le_of_ble_eq_true rfl) d_Row_addZeros_9 ⟨(Nat.le_of_ble_eq_true rfl), (Nat.le_of_ble_eq_true rfl)⟩) (fun uu7 H locs hw hP hD hS => ?_)
  have hP : va_P G.1 kb_cl [kb_o h 1 [.ref a, .int 4], kb_a G a 16 (uu7.2 0)] H := hP
  have hD : va_D A [kb_o h 1 [.ref a, .int 4], kb_a G a 16 (uu7.2 0)] := hD
  refine lv_iinc (v := 4) (lv' := [(2, .int 4), (0, .ref h), (1, .int 56)]) hx hb d_Row_addZeros_12 hl (k := 0) rfl (by decide) (by decide) rfl (fun ls hl => ?_)
  refine lv_goto (tgt := 2) hx hb d_Row_addZeros_15 (by decide) ?_
  refine lv_iload_n hx hb d_Row_addZeros_2 rfl (lv_at hl 0 rfl) ?_
  refine lv_iload_n hx hb d_Row_addZeros_3 rfl (lv_at hl 2 rfl) ?_
  refine lv_icmp_ge (tgt := 18) hx hb d_Row_addZeros_4 (by decide) (fun c9 => absurd c9 (by decide)) (fun c9 => ?_)
  refine lv_aload_n hx hb d_Row_addZeros_7 rfl (lv_at hl 1 rfl) ?_
  refine lv_iconst (v := 0) hx hb d_Row_addZeros_8 (by decide) ?_
  refine kb_v (wc := [kb_o h 1 [.ref a, .int 4], kb_a G a 16 (uu7.2 0)]) (wr := []) hE hP hD hS [0, 1] [] rfl rfl (by decide) (by decide) (kb_rV (As := [.int 0]) (rest := []) (wc := [kb_o h 1 [.ref a, .int 4], kb_a G a 16 (uu7.2 0)]) (q0 := 0) ⟨hx, hb, hml, hown, ht⟩ ((c_Row_add_w l G h a 4 16 (uu7.2 0) 0 (by omega) (by omega)) _) (kb_gV wd_b959c18a wd_d7a504c3 wd_55347eca wd_4182e433 wd_0d22954f) ⟨rfl, hd_d22f4174⟩ ⟨(Nat.le_of_ble_eq_true rfl), (Nat.le_of_ble_eq_true rfl)⟩ hE hP hD hS [0, 1] rfl (by decide) rfl rfl rfl hl.1 rfl (Nat.le_of_ble_eq_true rfl) d_Row_addZeros_9 ⟨(Nat.le_of_ble_eq_true rfl), (Nat.le_of_ble_eq_true rfl)⟩) (fun uu9 H locs hw hP hD hS => ?_)
  have hP : va_P G.1 kb_cl [kb_o h 1 [.ref a, .int 5], kb_a G a 16 (uu9.2 0)] H := hP
  have hD : va_D A [kb_o h 1 [.ref a, .int 5], kb_a G a 16 (uu9.2 0)] := hD
  refine lv_iinc (v := 5) (lv' := [(2, .int 5), (0, .ref h), (1, .int 56)]) hx hb d_Row_addZeros_12 hl (k := 0) rfl (by decide) (by decide) rfl (fun ls hl => ?_)
  refine lv_goto (tgt := 2) hx hb d_Row_addZeros_15 (by decide) ?_
  refine lv_iload_n hx hb d_Row_addZeros_2 rfl (lv_at hl 0 rfl) ?_
  refine lv_iload_n hx hb d_Row_addZeros_3 rfl (lv_at hl 2 rfl) ?_
  refine lv_icmp_ge (tgt := 18) hx hb d_Row_addZeros_4 (by decide) (fun c9 => absurd c9 (by decide)) (fun c9 => ?_)
  refine lv_aload_n hx hb d_Row_addZeros_7 rfl (lv_at hl 1 rfl) ?_
  refine lv_iconst (v := 0) hx hb d_Row_addZeros_8 (by decide) ?_
  refine kb_v (wc := [kb_o h 1 [.ref a, .int 5], kb_a G a 16 (uu9.2 0)]) (wr := []) hE hP hD hS [0, 1] [] rfl rfl (by decide) (by decide) (kb_rV (As := [.int 0]) (rest := []) (wc := [kb_o h 1 [.ref a, .int 5], kb_a G a 16 (uu9.2 0)]) (q0 := 0) ⟨hx, hb, hml, hown, ht⟩ ((c_Row_add_w l G h a 5 16 (uu9.2 0) 0 (by omega) (by omega)) _) (kb_gV wd_b959c18a wd_d7a504c3 wd_55347eca wd_4182e433 wd_0d22954f) ⟨rfl, hd_d22f4174⟩ ⟨(Nat.le_of_ble_eq_true rfl), (Nat.le_of_ble_eq_true rfl)⟩ hE hP hD hS [0, 1] rfl (by decide) rfl rfl rfl hl.1 rfl (Nat.le_of_ble_eq_true rfl) d_Row_addZeros_9 ⟨(Nat.le_of_ble_eq_true rfl), (Nat.le_of_ble_eq_true rfl)⟩) (fun uu11 H locs hw hP hD hS => ?_)
  have hP : va_P G.1 kb_cl [kb_o h 1 [.ref a, .int 6], kb_a G a 16 (uu11.2 0)] H := hP
  have hD : va_D A [kb_o h 1 [.ref a, .int 6], kb_a G a 16 (uu11.2 0)] := hD
  refine lv_iinc (v := 6) (lv' := [(2, .int 6), (0, .ref h), (1, .int 56)]) hx hb d_Row_addZeros_12 hl (k := 0) rfl (by decide) (by decide) rfl (fun ls hl => ?_)
  refine lv_goto (tgt := 2) hx hb d_Row_addZeros_15 (by decide) ?_
  refine lv_iload_n hx hb d_Row_addZeros_2 rfl (lv_at hl 0 rfl) ?_
  refine lv_iload_n hx hb d_Row_addZeros_3 rfl (lv_at hl 2 rfl) ?_
  refine lv_icmp_ge (tgt := 18) hx hb d_Row_addZeros_4 (by decide) (fun c9 => absurd c9 (by decide)) (fun c9 => ?_)
  refine lv_aload_n hx hb d_Row_addZeros_7 rfl (lv_at hl 1 rfl) ?_
  refine lv_iconst (v := 0) hx hb d_Row_addZeros_8 (by decide) ?_
  refine kb_v (wc := [kb_o h 1 [.ref a, .int 6], kb_a G a 16 (uu11.2 0)]) (wr := []) hE hP hD hS [0, 1] [] rfl rfl (by decide) (by decide) (kb_rV (As := [.int 0]) (rest := []) (wc := [kb_o h 1 [.ref a, .int 6], kb_a G a 16 (uu11.2 0)]) (q0 := 0) ⟨hx, hb, hml, hown, ht⟩ ((c_Row_add_w l G h a 6 16 (uu11.2 0) 0 (by omega) (by omega)) _) (kb_gV wd_b959c18a wd_d7a504c3 wd_55347eca wd_4182e433 wd_0d22954f) ⟨rfl, hd_d22f4174⟩ ⟨(Nat.le_of_ble_eq_true rfl), (Nat.le_of_ble_eq_true rfl)⟩ hE hP hD hS [0, 1] rfl (by decide) rfl rfl rfl hl.1 rfl (Nat.le_of_ble_eq_true rfl) d_Row_addZeros_9 ⟨(Nat.le_of_ble_eq_true rfl), (Nat.le_of_ble_eq_true rfl)⟩) (fun uu13 H locs hw hP hD hS => ?_)
  have hP : va_P G.1 kb_cl [kb_o h 1 [.ref a, .int 7], kb_a G a 16 (uu13.2 0)] H := hP
  have hD : va_D A [kb_o h 1 [.ref a, .int 7], kb_a G a 16 (uu13.2 0)] := hD
  refine lv_iinc (v := 7) (lv' := [(2, .int 7), (0, .ref h), (1, .int 56)]) hx hb d_Row_addZeros_12 hl (k := 0) rfl (by decide) (by decide) rfl (fun ls hl => ?_)
  refine lv_goto (tgt := 2) hx hb d_Row_addZeros_15 (by decide) ?_
  refine lv_iload_n hx hb d_Row_addZeros_2 rfl (lv_at hl 0 rfl) ?_
  refine lv_iload_n hx hb d_Row_addZeros_3 rfl (lv_at hl 2 rfl) ?_
  refine lv_icmp_ge (tgt := 18) hx hb d_Row_addZeros_4 (by decide) (fun c9 => absurd c9 (by decide)) (fun c9 => ?_)
  refine lv_aload_n hx hb d_Row_addZeros_7 rfl (lv_at hl 1 rfl) ?_
  refine lv_iconst (v := 0) hx hb d_Row_addZeros_8 (by decide) ?_
  refine kb_v (wc := [kb_o h 1 [.ref a, .int 7], kb_a G a 16 (uu13.2 0)]) (wr := []) hE hP hD hS [0, 1] [] rfl rfl (by decide) (by decide) (kb_rV (As := [.int 0]) (rest := []) (wc := [kb_o h 1 [.ref a, .int 7], kb_a G a 16 (uu13.2 0)]) (q0 := 0) ⟨hx, hb, hml, hown, ht⟩ ((c_Row_add_w l G h a 7 16 (uu13.2 0) 0 (by omega) (by omega)) _) (kb_gV wd_b959c18a wd_d7a504c3 wd_55347eca wd_4182e433 wd_0d22954f) ⟨rfl, hd_d22f4174⟩ ⟨(Nat.le_of_ble_eq_true rfl), (Nat.le_of_ble_eq_true rfl)⟩ hE hP hD hS [0, 1] rfl (by decide) rfl rfl rfl hl.1 rfl (Nat.le_of_ble_eq_true rfl) d_Row_addZeros_9 ⟨(Nat.le_of_ble_eq_true rfl), (Nat.le_of_ble_eq_true rfl)⟩) (fun uu15 H locs hw hP hD hS => ?_)
  have hP : va_P G.1 kb_cl [kb_o h 1 [.ref a, .int 8], kb_a G a 16 (uu15.2 0)] H := hP
  have hD : va_D A [kb_o h 1 [.ref a, .int 8], kb_a G a 16 (uu15.2 0)] := hD
  refine lv_iinc (v := 8) (lv' := [(2, .int 8), (0, .ref h), (1, .int 56)]) hx hb d_Row_addZeros_12 hl (k := 0) rfl (by decide) (by decide) rfl (fun ls hl => ?_)
  refine lv_goto (tgt := 2) hx hb d_Row_addZeros_15 (by decide) ?_
  refine lv_iload_n hx hb d_Row_addZeros_2 rfl (lv_at hl 0 rfl) ?_
  refine lv_iload_n hx hb d_Row_addZeros_3 rfl (lv_at hl 2 rfl) ?_
  refine lv_icmp_ge (tgt := 18) hx hb d_Row_addZeros_4 (by decide) (fun c9 => absurd c9 (by decide)) (fun c9 => ?_)
  refine lv_aload_n hx hb d_Row_addZeros_7 rfl (lv_at hl 1 rfl) ?_
  refine lv_iconst (v := 0) hx hb d_Row_addZeros_8 (by decide) ?_
  refine kb_v (wc := [kb_o h 1 [.ref a, .int 8], kb_a G a 16 (uu15.2 0)]) (wr := []) hE hP hD hS [0, 1] [] rfl rfl (by decide) (by decide) (kb_rV (As := [.int 0]) (rest := []) (wc := [kb_o h 1 [.ref a, .int 8], kb_a G a 16 (uu15.2 0)]) (q0 := 0) ⟨hx, hb, hml, hown, ht⟩ ((c_Row_add_w l G h a 8 16 (uu15.2 0) 0 (by omega) (by omega)) _) (kb_gV wd_b959c18a wd_d7a504c3 wd_55347eca wd_4182e433 wd_0d22954f) ⟨rfl, hd_d22f4174⟩ ⟨(Nat.le_of_ble_eq_true rfl), (Nat.le_of_ble_eq_true rfl)⟩ hE hP hD hS [0, 1] rfl (by decide) rfl rfl rfl hl.1 rfl (Nat.le_of_ble_eq_true rfl) d_Row_addZeros_9 ⟨(Nat.le_of_ble_eq_true rfl), (Nat.le_of_ble_eq_true rfl)⟩) (fun uu17 H locs hw hP hD hS => ?_)
  have hP : va_P G.1 kb_cl [kb_o h 1 [.ref a, .int 9], kb_a G a 16 (uu17.2 0)] H := hP
  have hD : va_D A [kb_o h 1 [.ref a, .int 9], kb_a G a 16 (uu17.2 0)] := hD
  refine lv_iinc (v := 9) (lv' := [(2, .int 9), (0, .ref h), (1, .int 56)]) hx hb d_Row_addZeros_12 hl (k := 0) rfl (by decide) (by decide) rfl (fun ls hl => ?_)
  refine lv_goto (tgt := 2) hx hb d_Row_addZeros_15 (by decide) ?_
  refine lv_iload_n hx hb d_Row_addZeros_2 rfl (lv_at hl 0 rfl) ?_
  refine lv_iload_n hx hb d_Row_addZeros_3 rfl (lv_at hl 2 rfl) ?_
  refine lv_icmp_ge (tgt := 18) hx hb d_Row_addZeros_4 (by decide) (fun c9 => absurd c9 (by decide)) (fun c9 => ?_)
  refine lv_aload_n hx hb d_Row_addZeros_7 rfl (lv_at hl 1 rfl) ?_
  refine lv_iconst (v := 0) hx hb d_Row_addZeros_8 (by decide) ?_
  refine kb_v (wc := [kb_o h 1 [.ref a, .int 9], kb_a G a 16 (uu17.2 0)]) (wr := []) hE hP hD hS [0, 1] [] rfl rfl (by decide) (by decide) (kb_rV (As := [.int 0]) (rest := []) (wc := [kb_o h 1 [.ref a, .int 9], kb_a G a 16 (uu17.2 0)]) (q0 := 0) ⟨hx, hb, hml, hown, ht⟩ ((c_Row_add_w l G h a 9 16 (uu17.2 0) 0 (by omega) (by omega)) _) (kb_gV wd_b959c18a wd_d7a504c3 wd_55347eca wd_4182e433 wd_0d22954f) ⟨rfl, hd_d22f4174⟩ ⟨(Nat.le_of_ble_eq_true rfl), (Nat.le_of_ble_eq_true rfl)⟩ hE hP hD hS [0, 1] rfl (by decide) rfl rfl rfl hl.1 rfl (Nat.le_of_ble_eq_true rfl) d_Row_addZeros_9 ⟨(Nat.le_of_ble_eq_true rfl), (Nat.le_of_ble_eq_true rfl)⟩) (fun uu19 H locs hw hP hD hS => ?_)
  have hP : va_P G.1 kb_cl [kb_o h 1 [.ref a, .int 10], kb_a G a 16 (uu19.2 0)] H := hP
  have hD : va_D A [kb_o h 1 [.ref a, .int 10], kb_a G a 16 (uu19.2 0)] := hD
  refine lv_iinc (v := 10) (lv' := [(2, .int 10), (0, .ref h), (1, .int 56)]) hx hb d_Row_addZeros_12 hl (k := 0) rfl (by decide) (by decide) rfl (fun ls hl => ?_)
  refine lv_goto (tgt := 2) hx hb d_Row_addZeros_15 (by decide) ?_
  refine lv_iload_n hx hb d_Row_addZeros_2 rfl (lv_at hl 0 rfl) ?_
  refine lv_iload_n hx hb d_Row_addZeros_3 rfl (lv_at hl 2 rfl) ?_
  refine lv_icmp_ge (tgt := 18) hx hb d_Row_addZeros_4 (by decide) (fun c9 => absurd c9 (by decide)) (fun c9 => ?_)
  refine lv_aload_n hx hb d_Row_addZeros_7 rfl (lv_at hl 1 rfl) ?_
  refine lv_iconst (v := 0) hx hb d_Row_addZeros_8 (by decide) ?_
  refine kb_v (wc := [kb_o h 1 [.ref a, .int 10], kb_a G a 16 (uu19.2 0)]) (wr := []) hE hP hD hS [0, 1] [] rfl rfl (by decide) (by decide) (kb_rV (As := [.int 0]) (rest := []) (wc := [kb_o h 1 [.ref a, .int 10], kb_a G a 16 (uu19.2 0)]) (q0 := 0) ⟨hx, hb, hml, hown, ht⟩ ((c_Row_add_w l G h a 10 16 (uu19.2 0) 0 (by omega) (by omega)) _) (kb_gV wd_b959c18a wd_d7a504c3 wd_55347eca wd_4182e433 wd_0d22954f) ⟨rfl, hd_d22f4174⟩ ⟨(Nat.le_of_ble_eq_true rfl), (Nat.le_of_ble_eq_true rfl)⟩ hE hP hD hS [0, 1] rfl (by decide) rfl rfl rfl hl.1 rfl (Nat.le_of_ble_eq_true rfl) d_Row_addZeros_9 ⟨(Nat.le_of_ble_eq_true rfl), (Nat.le_of_ble_eq_true rfl)⟩) (fun uu21 H locs hw hP hD hS => ?_)
  have hP : va_P G.1 kb_cl [kb_o h 1 [.ref a, .int 11], kb_a G a 16 (uu21.2 0)] H := hP
  have hD : va_D A [kb_o h 1 [.ref a, .int 11], kb_a G a 16 (uu21.2 0)] := hD
  refine lv_iinc (v := 11) (lv' := [(2, .int 11), (0, .ref h), (1, .int 56)]) hx hb d_Row_addZeros_12 hl (k := 0) rfl (by decide) (by decide) rfl (fun ls hl => ?_)
  refine lv_goto (tgt := 2) hx hb d_Row_addZeros_15 (by decide) ?_
  refine lv_iload_n hx hb d_Row_addZeros_2 rfl (lv_at hl 0 rfl) ?_
  refine lv_iload_n hx hb d_Row_addZeros_3 rfl (lv_at hl 2 rfl) ?_
  refine lv_icmp_ge (tgt := 18) hx hb d_Row_addZeros_4 (by decide) (fun c9 => absurd c9 (by decide)) (fun c9 => ?_)
  refine lv_aload_n hx hb d_Row_addZeros_7 rfl (lv_at hl 1 rfl) ?_
  refine lv_iconst (v := 0) hx hb d_Row_addZeros_8 (by decide) ?_
  refine kb_v (wc := [kb_o h 1 [.ref a, .int 11], kb_a G a 16 (uu21.2 0)]) (wr := []) hE hP hD hS [0, 1] [] rfl rfl (by decide) (by decide) (kb_rV (As := [.int 0]) (rest := []) (wc := [kb_o h 1 [.ref a, .int 11], kb_a G a 16 (uu21.2 0)]) (q0 := 0) ⟨hx, hb, hml, hown, ht⟩ ((c_Row_add_w l G h a 11 16 (uu21.2 0) 0 (by omega) (by omega)) _) (kb_gV wd_b959c18a wd_d7a504c3 wd_55347eca wd_4182e433 wd_0d22954f) ⟨rfl, hd_d22f4174⟩ ⟨(Nat.le_of_ble_eq_true rfl), (Nat.le_of_ble_eq_true rfl)⟩ hE hP hD hS [0, 1] rfl (by decide) rfl rfl rfl hl.1 rfl (Nat.le_of_ble_eq_true rfl) d_Row_addZeros_9 ⟨(Nat.le_of_ble_eq_true rfl), (Nat.le_of_ble_eq_true rfl)⟩) (fun uu23 H locs hw hP hD hS => ?_)
  have hP : va_P G.1 kb_cl [kb_o h 1 [.ref a, .int 12], kb_a G a 16 (uu23.2 0)] H := hP
  have hD : va_D A [kb_o h 1 [.ref a, .int 12], kb_a G a 16 (uu23.2 0)] := hD
  refine lv_iinc (v := 12) (lv' := [(2, .int 12), (0, .ref h), (1, .int 56)]) hx hb d_Row_addZeros_12 hl (k := 0) rfl (by decide) (by decide) rfl (fun ls hl => ?_)
  refine lv_goto (tgt := 2) hx hb d_Row_addZeros_15 (by decide) ?_
  refine lv_iload_n hx hb d_Row_addZeros_2 rfl (lv_at hl 0 rfl) ?_
  refine lv_iload_n hx hb d_Row_addZeros_3 rfl (lv_at hl 2 rfl) ?_
  refine lv_icmp_ge (tgt := 18) hx hb d_Row_addZeros_4 (by decide) (fun c9 => absurd c9 (by decide)) (fun c9 => ?_)
  refine lv_aload_n hx hb d_Row_addZeros_7 rfl (lv_at hl 1 rfl) ?_
  refine lv_iconst (v := 0) hx hb d_Row_addZeros_8 (by decide) ?_
  refine kb_v (wc := [kb_o h 1 [.ref a, .int 12], kb_a G a 16 (uu23.2 0)]) (wr := []) hE hP hD hS [0, 1] [] rfl rfl (by decide) (by decide) (kb_rV (As := [.int 0]) (rest := []) (wc := [kb_o h 1 [.ref a, .int 12], kb_a G a 16 (uu23.2 0)]) (q0 := 0) ⟨hx, hb, hml, hown, ht⟩ ((c_Row_add_w l G h a 12 16 (uu23.2 0) 0 (by omega) (by omega)) _) (kb_gV wd_b959c18a wd_d7a504c3 wd_55347eca wd_4182e433 wd_0d22954f) ⟨rfl, hd_d22f4174⟩ ⟨(Nat.le_of_ble_eq_true rfl), (Nat.le_of_ble_eq_true rfl)⟩ hE hP hD hS [0, 1] rfl (by decide) rfl rfl rfl hl.1 rfl (Nat.le_of_ble_eq_true rfl) d_Row_addZeros_9 ⟨(Nat.le_of_ble_eq_true rfl), (Nat.le_of_ble_eq_true rfl)⟩) (fun uu25 H locs hw hP hD hS => ?_)
  have hP : va_P G.1 kb_cl [kb_o h 1 [.ref a, .int 13], kb_a G a 16 (uu25.2 0)] H := hP
  have hD : va_D A [kb_o h 1 [.ref a, .int 13], kb_a G a 16 (uu25.2 0)] := hD
  refine lv_iinc (v := 13) (lv' := [(2, .int 13), (0, .ref h), (1, .int 56)]) hx hb d_Row_addZeros_12 hl (k := 0) rfl (by decide) (by decide) rfl (fun ls hl => ?_)
  refine lv_goto (tgt := 2) hx hb d_Row_addZeros_15 (by decide) ?_
  refine lv_iload_n hx hb d_Row_addZeros_2 rfl (lv_at hl 0 rfl) ?_
  refine lv_iload_n hx hb d_Row_addZeros_3 rfl (lv_at hl 2 rfl) ?_
  refine lv_icmp_ge (tgt := 18) hx hb d_Row_addZeros_4 (by decide) (fun c9 => absurd c9 (by decide)) (fun c9 => ?_)
  refine lv_aload_n hx hb d_Row_addZeros_7 rfl (lv_at hl 1 rfl) ?_
  refine lv_iconst (v := 0) hx hb d_Row_addZeros_8 (by decide) ?_
  refine kb_v (wc := [kb_o h 1 [.ref a, .int 13], kb_a G a 16 (uu25.2 0)]) (wr := []) hE hP hD hS [0, 1] [] rfl rfl (by decide) (by decide) (kb_rV (As := [.int 0]) (rest := []) (wc := [kb_o h 1 [.ref a, .int 13], kb_a G a 16 (uu25.2 0)]) (q0 := 0) ⟨hx, hb, hml, hown, ht⟩ ((c_Row_add_w l G h a 13 16 (uu25.2 0) 0 (by omega) (by omega)) _) (kb_gV wd_b959c18a wd_d7a504c3 wd_55347eca wd_4182e433 wd_0d22954f) ⟨rfl, hd_d22f4174⟩ ⟨(Nat.le_of_ble_eq_true rfl), (Nat.le_of_ble_eq_true rfl)⟩ hE hP hD hS [0, 1] rfl (by decide) rfl rfl rfl hl.1 rfl (Nat.le_of_ble_eq_true rfl) d_Row_addZeros_9 ⟨(Nat.le_of_ble_eq_true rfl), (Nat.le_of_ble_eq_true rfl)⟩) (fun uu27 H locs hw hP hD hS => ?_)
  have hP : va_P G.1 kb_cl [kb_o h 1 [.ref a, .int 14], kb_a G a 16 (uu27.2 0)] H := hP
  have hD : va_D A [kb_o h 1 [.ref a, .int 14], kb_a G a 16 (uu27.2 0)] := hD
  refine lv_iinc (v := 14) (lv' := [(2, .int 14), (0, .ref h), (1, .int 56)]) hx hb d_Row_addZeros_12 hl (k := 0) rfl (by decide) (by decide) rfl (fun ls hl => ?_)
  refine lv_goto (tgt := 2) hx hb d_Row_addZeros_15 (by decide) ?_
  refine lv_iload_n hx hb d_Row_addZeros_2 rfl (lv_at hl 0 rfl) ?_
  refine lv_iload_n hx hb d_Row_addZeros_3 rfl (lv_at hl 2 rfl) ?_
  refine lv_icmp_ge (tgt := 18) hx hb d_Row_addZeros_4 (by decide) (fun c9 => absurd c9 (by decide)) (fun c9 => ?_)
  refine lv_aload_n hx hb d_Row_addZeros_7 rfl (lv_at hl 1 rfl) ?_
  refine lv_iconst (v := 0) hx hb d_Row_addZeros_8 (by decide) ?_
  refine kb_v (wc := [kb_o h 1 [.ref a, .int 14], kb_a G a 16 (uu27.2 0)]) (wr := []) hE hP hD hS [0, 1] [] rfl rfl (by decide) (by decide) (kb_rV (As := [.int 0]) (rest := []) (wc := [kb_o h 1 [.ref a, .int 14], kb_a G a 16 (uu27.2 0)]) (q0 := 0) ⟨hx, hb, hml, hown, ht⟩ ((c_Row_add_w l G h a 14 16 (uu27.2 0) 0 (by omega) (by omega)) _) (kb_gV wd_b959c18a wd_d7a504c3 wd_55347eca wd_4182e433 wd_0d22954f) ⟨rfl, hd_d22f4174⟩ ⟨(Nat.le_of_ble_eq_true rfl), (Nat.le_of_ble_eq_true rfl)⟩ hE hP hD hS [0, 1] rfl (by decide) rfl rfl rfl hl.1 rfl (Nat.le_of_ble_eq_true rfl) d_Row_addZeros_9 ⟨(Nat.le_of_ble_eq_true rfl), (Nat.le_of_ble_eq_true rfl)⟩) (fun uu29 H locs hw hP hD hS => ?_)
  have hP : va_P G.1 kb_cl [kb_o h 1 [.ref a, .int 15], kb_a G a 16 (uu29.2 0)] H := hP
  have hD : va_D A [kb_o h 1 [.ref a, .int 15], kb_a G a 16 (uu29.2 0)] := hD
  refine lv_iinc (v := 15) (lv' := [(2, .int 15), (0, .ref h), (1, .int 56)]) hx hb d_Row_addZeros_12 hl (k := 0) rfl (by decide) (by decide) rfl (fun ls hl => ?_)
  refine lv_goto (tgt := 2) hx hb d_Row_addZeros_15 (by decide) ?_
  refine lv_iload_n hx hb d_Row_addZeros_2 rfl (lv_at hl 0 rfl) ?_
  refine lv_iload_n hx hb d_Row_addZeros_3 rfl (lv_at hl 2 rfl) ?_
  refine lv_icmp_ge (tgt := 18) hx hb d_Row_addZeros_4 (by decide) (fun c9 => absurd c9 (by decide)) (fun c9 => ?_)
  refine lv_aload_n hx hb d_Row_addZeros_7 rfl (lv_at hl 1 rfl) ?_
  refine lv_iconst (v := 0) hx hb d_Row_addZeros_8 (by decide) ?_
  refine kb_v (wc := [kb_o h 1 [.ref a, .int 15], kb_a G a 16 (uu29.2 0)]) (wr := []) hE hP hD hS [0, 1] [] rfl rfl (by decide) (by decide) (kb_rV (As := [.int 0]) (rest := []) (wc := [kb_o h 1 [.ref a, .int 15], kb_a G a 16 (uu29.2 0)]) (q0 := 0) ⟨hx, hb, hml, hown, ht⟩ ((c_Row_add_w l G h a 15 16 (uu29.2 0) 0 (by omega) (by omega)) _) (kb_gV wd_b959c18a wd_d7a504c3 wd_55347eca wd_4182e433 wd_0d22954f) ⟨rfl, hd_d22f4174⟩ ⟨(Nat.le_of_ble_eq_true rfl), (Nat.le_of_ble_eq_true rfl)⟩ hE hP hD hS [0, 1] rfl (by decide) rfl rfl rfl hl.1 rfl (Nat.le_of_ble_eq_true rfl) d_Row_addZeros_9 ⟨(Nat.le_of_ble_eq_true rfl), (Nat.le_of_ble_eq_true rfl)⟩) (fun uu31 H locs hw hP hD hS => ?_)
  have hP : va_P G.1 kb_cl [kb_o h 1 [.ref a, .int 16], kb_a G a 16 (uu31.2 0)] H := hP
  have hD : va_D A [kb_o h 1 [.ref a, .int 16], kb_a G a 16 (uu31.2 0)] := hD
  refine lv_iinc (v := 16) (lv' := [(2, .int 16), (0, .ref h), (1, .int 56)]) hx hb d_Row_addZeros_12 hl (k := 0) rfl (by decide) (by decide) rfl (fun ls hl => ?_)
  refine lv_goto (tgt := 2) hx hb d_Row_addZeros_15 (by decide) ?_
  refine lv_iload_n hx hb d_Row_addZeros_2 rfl (lv_at hl 0 rfl) ?_
  refine lv_iload_n hx hb d_Row_addZeros_3 rfl (lv_at hl 2 rfl) ?_
  refine lv_icmp_ge (tgt := 18) hx hb d_Row_addZeros_4 (by decide) (fun c9 => absurd c9 (by decide)) (fun c9 => ?_)
  refine lv_aload_n hx hb d_Row_addZeros_7 rfl (lv_at hl 1 rfl) ?_
  refine lv_iconst (v := 0) hx hb d_Row_addZeros_8 (by decide) ?_
  refine kb_v (wc := [kb_o h 1 [.ref a, .int 16], kb_a G a 16 (uu31.2 0)]) (wr := []) hE hP hD hS [0, 1] [] rfl rfl (by decide) (by decide) (kb_rV (As := [.int 0]) (rest := []) (wc := [kb_o h 1 [.ref a, .int 16], kb_a G a 16 (uu31.2 0)]) (q0 := 0) ⟨hx, hb, hml, hown, ht⟩ ((c_Row_add_g16 l G h a (uu31.2 0) 0) _) (kb_gV wd_b959c18a wd_d7a504c3 wd_55347eca wd_4182e433 wd_0d22954f) ⟨rfl, hd_d22f4174⟩ ⟨(Nat.le_of_ble_eq_true rfl), (Nat.le_of_ble_eq_true rfl)⟩ hE hP hD hS [0, 1] rfl (by decide) rfl rfl rfl hl.1 rfl (Nat.le_of_ble_eq_true rfl) d_Row_addZeros_9 ⟨(Nat.le_of_ble_eq_true rfl), (Nat.le_of_ble_eq_true rfl)⟩) (fun uu33 H locs hw hP hD hS => ?_)
  have hP : va_P G.1 kb_cl [kb_o h 1 [.ref (uu33.1 0), .int 17], kb_a G (uu33.1 0) 32 (upd (uu33.2 0) 16 0)] H := hP
  have hD : va_D A [kb_o h 1 [.ref (uu33.1 0), .int 17], kb_a G (uu33.1 0) 32 (upd (uu33.2 0) 16 0)] := hD
  refine lv_iinc (v := 17) (lv' := [(2, .int 17), (0, .ref h), (1, .int 56)]) hx hb d_Row_addZeros_12 hl (k := 0) rfl (by decide) (by decide) rfl (fun ls hl => ?_)
  refine lv_goto (tgt := 2) hx hb d_Row_addZeros_15 (by decide) ?_
  refine lv_iload_n hx hb d_Row_addZeros_2 rfl (lv_at hl 0 rfl) ?_
  refine lv_iload_n hx hb d_Row_addZeros_3 rfl (lv_at hl 2 rfl) ?_
  refine lv_icmp_ge (tgt := 18) hx hb d_Row_addZeros_4 (by decide) (fun c9 => absurd c9 (by decide)) (fun c9 => ?_)
  refine lv_aload_n hx hb d_Row_addZeros_7 rfl (lv_at hl 1 rfl) ?_
  refine lv_iconst (v := 0) hx hb d_Row_addZeros_8 (by decide) ?_
  refine kb_v (wc := [kb_o h 1 [.ref (uu33.1 0), .int 17], kb_a G (uu33.1 0) 32 (upd (uu33.2 0) 16 0)]) (wr := []) hE hP hD hS [0, 1] [] rfl rfl (by decide) (by decide) (kb_rV (As := [.int 0]) (rest := []) (wc := [kb_o h 1 [.ref (uu33.1 0), .int 17], kb_a G (uu33.1 0) 32 (upd (uu33.2 0) 16 0)]) (q0 := 0) ⟨hx, hb, hml, hown, ht⟩ ((c_Row_add_w l G h (uu33.1 0) 17 32 (upd (uu33.2 0) 16 0) 0 (by omega) (by omega)) _) (kb_gV wd_b959c18a wd_d7a504c3 wd_55347eca wd_4182e433 wd_0d22954f) ⟨rfl, hd_d22f4174⟩ ⟨(Nat.le_of_ble_eq_true rfl), (Nat.le_of_ble_eq_true rfl)⟩ hE hP hD hS [0, 1] rfl (by decide) rfl rfl rfl hl.1 rfl (Nat.le_of_ble_eq_true rfl) d_Row_addZeros_9 ⟨(Nat.le_of_ble_eq_true rfl), (Nat.le_of_ble_eq_true rfl)⟩) (fun uu35 H locs hw hP hD hS => ?_)
  have hP : va_P G.1 kb_cl [kb_o h 1 [.ref (uu33.1 0), .int 18], kb_a G (uu33.1 0) 32 (uu35.2 0)] H := hP
  have hD : va_D A [kb_o h 1 [.ref (uu33.1 0), .int 18], kb_a G (uu33.1 0) 32 (uu35.2 0)] := hD
  refine lv_iinc (v := 18) (lv' := [(2, .int 18), (0, .ref h), (1, .int 56)]) hx hb d_Row_addZeros_12 hl (k := 0) rfl (by decide) (by decide) rfl (fun ls hl => ?_)
  refine lv_goto (tgt := 2) hx hb d_Row_addZeros_15 (by decide) ?_
  refine lv_iload_n hx hb d_Row_addZeros_2 rfl (lv_at hl 0 rfl) ?_
  refine lv_iload_n hx hb d_Row_addZeros_3 rfl (lv_at hl 2 rfl) ?_
  refine lv_icmp_ge (tgt := 18) hx hb d_Row_addZeros_4 (by decide) (fun c9 => absurd c9 (by decide)) (fun c9 => ?_)
  refine lv_aload_n hx hb d_Row_addZeros_7 rfl (lv_at hl 1 rfl) ?_
  refine lv_iconst (v := 0) hx hb d_Row_addZeros_8 (by decide) ?_
  refine kb_v (wc := [kb_o h 1 [.ref (uu33.1 0), .int 18], kb_a G (uu33.1 0) 32 (uu35.2 0)]) (wr := []) hE hP hD hS [0, 1] [] rfl rfl (by decide) (by decide) (kb_rV (As := [.int 0]) (rest := []) (wc := [kb_o h 1 [.ref (uu33.1 0), .int 18], kb_a G (uu33.1 0) 32 (uu35.2 0)]) (q0 := 0) ⟨hx, hb, hml, hown, ht⟩ ((c_Row_add_w l G h (uu33.1 0) 18 32 (uu35.2 0) 0 (by omega) (by omega)) _) (kb_gV wd_b959c18a wd_d7a504c3 wd_55347eca wd_4182e433 wd_0d22954f) ⟨rfl, hd_d22f4174⟩ ⟨(Nat.le_of_ble_eq_true rfl), (Nat.le_of_ble_eq_true rfl)⟩ hE hP hD hS [0, 1] rfl (by decide) rfl rfl rfl hl.1 rfl (Nat.le_of_ble_eq_true rfl) d_Row_addZeros_9 ⟨(Nat.le_of_ble_eq_true rfl), (Nat.le_of_ble_eq_true rfl)⟩) (fun uu37 H locs hw hP hD hS => ?_)
  have hP : va_P G.1 kb_cl [kb_o h 1 [.ref (uu33.1 0), .int 19], kb_a G (uu33.1 0) 32 (uu37.2 0)] H := hP
  have hD : va_D A [kb_o h 1 [.ref (uu33.1 0), .int 19], kb_a G (uu33.1 0) 32 (uu37.2 0)] := hD
  refine lv_iinc (v := 19) (lv' := [(2, .int 19), (0, .ref h), (1, .int 56)]) hx hb d_Row_addZeros_12 hl (k := 0) rfl (by decide) (by decide) rfl (fun ls hl => ?_)
  refine lv_goto (tgt := 2) hx hb d_Row_addZeros_15 (by decide) ?_
  refine lv_iload_n hx hb d_Row_addZeros_2 rfl (lv_at hl 0 rfl) ?_
  refine lv_iload_n hx hb d_Row_addZeros_3 rfl (lv_at hl 2 rfl) ?_
  refine lv_icmp_ge (tgt := 18) hx hb d_Row_addZeros_4 (by decide) (fun c9 => absurd c9 (by decide)) (fun c9 => ?_)
  refine lv_aload_n hx hb d_Row_addZeros_7 rfl (lv_at hl 1 rfl) ?_
  refine lv_iconst (v := 0) hx hb d_Row_addZeros_8 (by decide) ?_
  refine kb_v (wc := [kb_o h 1 [.ref (uu33.1 0), .int 19], kb_a G (uu33.1 0) 32 (uu37.2 0)]) (wr := []) hE hP hD hS [0, 1] [] rfl rfl (by decide) (by decide) (kb_rV (As := [.int 0]) (rest := []) (wc := [kb_o h 1 [.ref (uu33.1 0), .int 19], kb_a G (uu33.1 0) 32 (uu37.2 0)]) (q0 := 0) ⟨hx, hb, hml, hown, ht⟩ ((c_Row_add_w l G h (uu33.1 0) 19 32 (uu37.2 0) 0 (by omega) (by omega)) _) (kb_gV wd_b959c18a wd_d7a504c3 wd_55347eca wd_4182e433 wd_0d22954f) ⟨rfl, hd_d22f4174⟩ ⟨(Nat.le_of_ble_eq_true rfl), (Nat.le_of_ble_eq_true rfl)⟩ hE hP hD hS [0, 1] rfl (by decide) rfl rfl rfl hl.1 rfl (Nat.le_of_ble_eq_true rfl) d_Row_addZeros_9 ⟨(Nat.le_of_ble_eq_true rfl), (Nat.le_of_ble_eq_true rfl)⟩) (fun uu39 H locs hw hP hD hS => ?_)
  have hP : va_P G.1 kb_cl [kb_o h 1 [.ref (uu33.1 0), .int 20], kb_a G (uu33.1 0) 32 (uu39.2 0)] H := hP
  have hD : va_D A [kb_o h 1 [.ref (uu33.1 0), .int 20], kb_a G (uu33.1 0) 32 (uu39.2 0)] := hD
  refine lv_iinc (v := 20) (lv' := [(2, .int 20), (0, .ref h), (1, .int 56)]) hx hb d_Row_addZeros_12 hl (k := 0) rfl (by decide) (by decide) rfl (fun ls hl => ?_)
  refine lv_goto (tgt := 2) hx hb d_Row_addZeros_15 (by decide) ?_
  refine lv_iload_n hx hb d_Row_addZeros_2 rfl (lv_at hl 0 rfl) ?_
  refine lv_iload_n hx hb d_Row_addZeros_3 rfl (lv_at hl 2 rfl) ?_
  refine lv_icmp_ge (tgt := 18) hx hb d_Row_addZeros_4 (by decide) (fun c9 => absurd c9 (by decide)) (fun c9 => ?_)
  refine lv_aload_n hx hb d_Row_addZeros_7 rfl (lv_at hl 1 rfl) ?_
  refine lv_iconst (v := 0) hx hb d_Row_addZeros_8 (by decide) ?_
  refine kb_v (wc := [kb_o h 1 [.ref (uu33.1 0), .int 20], kb_a G (uu33.1 0) 32 (uu39.2 0)]) (wr := []) hE hP hD hS [0, 1] [] rfl rfl (by decide) (by decide) (kb_rV (As := [.int 0]) (rest := []) (wc := [kb_o h 1 [.ref (uu33.1 0), .int 20], kb_a G (uu33.1 0) 32 (uu39.2 0)]) (q0 := 0) ⟨hx, hb, hml, hown, ht⟩ ((c_Row_add_w l G h (uu33.1 0) 20 32 (uu39.2 0) 0 (by omega) (by omega)) _) (kb_gV wd_b959c18a wd_d7a504c3 wd_55347eca wd_4182e433 wd_0d22954f) ⟨rfl, hd_d22f4174⟩ ⟨(Nat.le_of_ble_eq_true rfl), (Nat.le_of_ble_eq_true rfl)⟩ hE hP hD hS [0, 1] rfl (by decide) rfl rfl rfl hl.1 rfl (Nat.le_of_ble_eq_true rfl) d_Row_addZeros_9 ⟨(Nat.le_of_ble_eq_true rfl), (Nat.le_of_ble_eq_true rfl)⟩) (fun uu41 H locs hw hP hD hS => ?_)
  have hP : va_P G.1 kb_cl [kb_o h 1 [.ref (uu33.1 0), .int 21], kb_a G (uu33.1 0) 32 (uu41.2 0)] H := hP
  have hD : va_D A [kb_o h 1 [.ref (uu33.1 0), .int 21], kb_a G (uu33.1 0) 32 (uu41.2 0)] := hD
  refine lv_iinc (v := 21) (lv' := [(2, .int 21), (0, .ref h), (1, .int 56)]) hx hb d_Row_addZeros_12 hl (k := 0) rfl (by decide) (by decide) rfl (fun ls hl => ?_)
  refine lv_goto (tgt := 2) hx hb d_Row_addZeros_15 (by decide) ?_
  refine lv_iload_n hx hb d_Row_addZeros_2 rfl (lv_at hl 0 rfl) ?_
  refine lv_iload_n hx hb d_Row_addZeros_3 rfl (lv_at hl 2 rfl) ?_
  refine lv_icmp_ge (tgt := 18) hx hb d_Row_addZeros_4 (by decide) (fun c9 => absurd c9 (by decide)) (fun c9 => ?_)
  refine lv_aload_n hx hb d_Row_addZeros_7 rfl (lv_at hl 1 rfl) ?_
  refine lv_iconst (v := 0) hx hb d_Row_addZeros_8 (by decide) ?_
  refine kb_v (wc := [kb_o h 1 [.ref (uu33.1 0), .int 21], kb_a G (uu33.1 0) 32 (uu41.2 0)]) (wr := []) hE hP hD hS [0, 1] [] rfl rfl (by decide) (by decide) (kb_rV (As := [.int 0]) (rest := []) (wc := [kb_o h 1 [.ref (uu33.1 0), .int 21], kb_a G (uu33.1 0) 32 (uu41.2 0)]) (q0 := 0) ⟨hx, hb, hml, hown, ht⟩ ((c_Row_add_w l G h (uu33.1 0) 21 32 (uu41.2 0) 0 (by omega) (by omega)) _) (kb_gV wd_b959c18a wd_d7a504c3 wd_55347eca wd_4182e433 wd_0d22954f) ⟨rfl, hd_d22f4174⟩ ⟨(Nat.le_of_ble_eq_true rfl), (Nat.le_of_ble_eq_true rfl)⟩ hE hP hD hS [0, 1] rfl (by decide) rfl rfl rfl hl.1 rfl (Nat.le_of_ble_eq_true rfl) d_Row_addZeros_9 ⟨(Nat.le_of_ble_eq_true rfl), (Nat.le_of_ble_eq_true rfl)⟩) (fun uu43 H locs hw hP hD hS => ?_)
  have hP : va_P G.1 kb_cl [kb_o h 1 [.ref (uu33.1 0), .int 22], kb_a G (uu33.1 0) 32 (uu43.2 0)] H := hP
  have hD : va_D A [kb_o h 1 [.ref (uu33.1 0), .int 22], kb_a G (uu33.1 0) 32 (uu43.2 0)] := hD
  refine lv_iinc (v := 22) (lv' := [(2, .int 22), (0, .ref h), (1, .int 56)]) hx hb d_Row_addZeros_12 hl (k := 0) rfl (by decide) (by decide) rfl (fun ls hl => ?_)
  refine lv_goto (tgt := 2) hx hb d_Row_addZeros_15 (by decide) ?_
  refine lv_iload_n hx hb d_Row_addZeros_2 rfl (lv_at hl 0 rfl) ?_
  refine lv_iload_n hx hb d_Row_addZeros_3 rfl (lv_at hl 2 rfl) ?_
  refine lv_icmp_ge (tgt := 18) hx hb d_Row_addZeros_4 (by decide) (fun c9 => absurd c9 (by decide)) (fun c9 => ?_)
  refine lv_aload_n hx hb d_Row_addZeros_7 rfl (lv_at hl 1 rfl) ?_
  refine lv_iconst (v := 0) hx hb d_Row_addZeros_8 (by decide) ?_
  refine kb_v (wc := [kb_o h 1 [.ref (uu33.1 0), .int 22], kb_a G (uu33.1 0) 32 (uu43.2 0)]) (wr := []) hE hP hD hS [0, 1] [] rfl rfl (by decide) (by decide) (kb_rV (As := [.int 0]) (rest := []) (wc := [kb_o h 1 [.ref (uu33.1 0), .int 22], kb_a G (uu33.1 0) 32 (uu43.2 0)]) (q0 := 0) ⟨hx, hb, hml, hown, ht⟩ ((c_Row_add_w l G h (uu33.1 0) 22 32 (uu43.2 0) 0 (by omega) (by omega)) _) (kb_gV wd_b959c18a wd_d7a504c3 wd_55347eca wd_4182e433 wd_0d22954f) ⟨rfl, hd_d22f4174⟩ ⟨(Nat.le_of_ble_eq_true rfl), (Nat.le_of_ble_eq_true rfl)⟩ hE hP hD hS [0, 1] rfl (by decide) rfl rfl rfl hl.1 rfl (Nat.le_of_ble_eq_true rfl) d_Row_addZeros_9 ⟨(Nat.le_of_ble_eq_true rfl), (Nat.le_of_ble_eq_true rfl)⟩) (fun uu45 H locs hw hP hD hS => ?_)
  have hP : va_P G.1 kb_cl [kb_o h 1 [.ref (uu33.1 0), .int 23], kb_a G (uu33.1 0) 32 (uu45.2 0)] H := hP
  have hD : va_D A [kb_o h 1 [.ref (uu33.1 0), .int 23], kb_a G (uu33.1 0) 32 (uu45.2 0)] := hD
  refine lv_iinc (v := 23) (lv' := [(2, .int 23), (0, .ref h), (1, .int 56)]) hx hb d_Row_addZeros_12 hl (k := 0) rfl (by decide) (by decide) rfl (fun ls hl => ?_)
  refine lv_goto (tgt := 2) hx hb d_Row_addZeros_15 (by decide) ?_
  refine lv_iload_n hx hb d_Row_addZeros_2 rfl (lv_at hl 0 rfl) ?_
  refine lv_iload_n hx hb d_Row_addZeros_3 rfl (lv_at hl 2 rfl) ?_
  refine lv_icmp_ge (tgt := 18) hx hb d_Row_addZeros_4 (by decide) (fun c9 => absurd c9 (by decide)) (fun c9 => ?_)
  refine lv_aload_n hx hb d_Row_addZeros_7 rfl (lv_at hl 1 rfl) ?_
  refine lv_iconst (v := 0) hx hb d_Row_addZeros_8 (by decide) ?_
  refine kb_v (wc := [kb_o h 1 [.ref (uu33.1 0), .int 23], kb_a G (uu33.1 0) 32 (uu45.2 0)]) (wr := []) hE hP hD hS [0, 1] [] rfl rfl (by decide) (by decide) (kb_rV (As := [.int 0]) (rest := []) (wc := [kb_o h 1 [.ref (uu33.1 0), .int 23], kb_a G (uu33.1 0) 32 (uu45.2 0)]) (q0 := 0) ⟨hx, hb, hml, hown, ht⟩ ((c_Row_add_w l G h (uu33.1 0) 23 32 (uu45.2 0) 0 (by omega) (by omega)) _) (kb_gV wd_b959c18a wd_d7a504c3 wd_55347eca wd_4182e433 wd_0d22954f) ⟨rfl, hd_d22f4174⟩ ⟨(Nat.le_of_ble_eq_true rfl), (Nat.le_of_ble_eq_true rfl)⟩ hE hP hD hS [0, 1] rfl (by decide) rfl rfl rfl hl.1 rfl (Nat.le_of_ble_eq_true rfl) d_Row_addZeros_9 ⟨(Nat.le_of_ble_eq_true rfl), (Nat.le_of_ble_eq_true rfl)⟩) (fun uu47 H locs hw hP hD hS => ?_)
  have hP : va_P G.1 kb_cl [kb_o h 1 [.ref (uu33.1 0), .int 24], kb_a G (uu33.1 0) 32 (uu47.2 0)] H := hP
  have hD : va_D A [kb_o h 1 [.ref (uu33.1 0), .int 24], kb_a G (uu33.1 0) 32 (uu47.2 0)] := hD
  refine lv_iinc (v := 24) (lv' := [(2, .int 24), (0, .ref h), (1, .int 56)]) hx hb d_Row_addZeros_12 hl (k := 0) rfl (by decide) (by decide) rfl (fun ls hl => ?_)
  refine lv_goto (tgt := 2) hx hb d_Row_addZeros_15 (by decide) ?_
  refine lv_iload_n hx hb d_Row_addZeros_2 rfl (lv_at hl 0 rfl) ?_
  refine lv_iload_n hx hb d_Row_addZeros_3 rfl (lv_at hl 2 rfl) ?_
  refine lv_icmp_ge (tgt := 18) hx hb d_Row_addZeros_4 (by decide) (fun c9 => absurd c9 (by decide)) (fun c9 => ?_)
  refine lv_aload_n hx hb d_Row_addZeros_7 rfl (lv_at hl 1 rfl) ?_
  refine lv_iconst (v := 0) hx hb d_Row_addZeros_8 (by decide) ?_
  refine kb_v (wc := [kb_o h 1 [.ref (uu33.1 0), .int 24], kb_a G (uu33.1 0) 32 (uu47.2 0)]) (wr := []) hE hP hD hS [0, 1] [] rfl rfl (by decide) (by decide) (kb_rV (As := [.int 0]) (rest := []) (wc := [kb_o h 1 [.ref (uu33.1 0), .int 24], kb_a G (uu33.1 0) 32 (uu47.2 0)]) (q0 := 0) ⟨hx, hb, hml, hown, ht⟩ ((c_Row_add_w l G h (uu33.1 0) 24 32 (uu47.2 0) 0 (by omega) (by omega)) _) (kb_gV wd_b959c18a wd_d7a504c3 wd_55347eca wd_4182e433 wd_0d22954f) ⟨rfl, hd_d22f4174⟩ ⟨(Nat.le_of_ble_eq_true rfl), (Nat.le_of_ble_eq_true rfl)⟩ hE hP hD hS [0, 1] rfl (by decide) rfl rfl rfl hl.1 rfl (Nat.le_of_ble_eq_true rfl) d_Row_addZeros_9 ⟨(Nat.le_of_ble_eq_true rfl), (Nat.le_of_ble_eq_true rfl)⟩) (fun uu49 H locs hw hP hD hS => ?_)
  have hP : va_P G.1 kb_cl [kb_o h 1 [.ref (uu33.1 0), .int 25], kb_a G (uu33.1 0) 32 (uu49.2 0)] H := hP
  have hD : va_D A [kb_o h 1 [.ref (uu33.1 0), .int 25], kb_a G (uu33.1 0) 32 (uu49.2 0)] := hD
  refine lv_iinc (v := 25) (lv' := [(2, .int 25), (0, .ref h), (1, .int 56)]) hx hb d_Row_addZeros_12 hl (k := 0) rfl (by decide) (by decide) rfl (fun ls hl => ?_)
  refine lv_goto (tgt := 2) hx hb d_Row_addZeros_15 (by decide) ?_
  refine lv_iload_n hx hb d_Row_addZeros_2 rfl (lv_at hl 0 rfl) ?_
  refine lv_iload_n hx hb d_Row_addZeros_3 rfl (lv_at hl 2 rfl) ?_
  refine lv_icmp_ge (tgt := 18) hx hb d_Row_addZeros_4 (by decide) (fun c9 => absurd c9 (by decide)) (fun c9 => ?_)
  refine lv_aload_n hx hb d_Row_addZeros_7 rfl (lv_at hl 1 rfl) ?_
  refine lv_iconst (v := 0) hx hb d_Row_addZeros_8 (by decide) ?_
  refine kb_v (wc := [kb_o h 1 [.ref (uu33.1 0), .int 25], kb_a G (uu33.1 0) 32 (uu49.2 0)]) (wr := []) hE hP hD hS [0, 1] [] rfl rfl (by decide) (by decide) (kb_rV (As := [.int 0]) (rest := []) (wc := [kb_o h 1 [.ref (uu33.1 0), .int 25], kb_a G (uu33.1 0) 32 (uu49.2 0)]) (q0 := 0) ⟨hx, hb, hml, hown, ht⟩ ((c_Row_add_w l G h (uu33.1 0) 25 32 (uu49.2 0) 0 (by omega) (by omega)) _) (kb_gV wd_b959c18a wd_d7a504c3 wd_55347eca wd_4182e433 wd_0d22954f) ⟨rfl, hd_d22f4174⟩ ⟨(Nat.le_of_ble_eq_true rfl), (Nat.le_of_ble_eq_true rfl)⟩ hE hP hD hS [0, 1] rfl (by decide) rfl rfl rfl hl.1 rfl (Nat.le_of_ble_eq_true rfl) d_Row_addZeros_9 ⟨(Nat.le_of_ble_eq_true rfl), (Nat.le_of_ble_eq_true rfl)⟩) (fun uu51 H locs hw hP hD hS => ?_)
  have hP : va_P G.1 kb_cl [kb_o h 1 [.ref (uu33.1 0), .int 26], kb_a G (uu33.1 0) 32 (uu51.2 0)] H := hP
  have hD : va_D A [kb_o h 1 [.ref (uu33.1 0), .int 26], kb_a G (uu33.1 0) 32 (uu51.2 0)] := hD
  refine lv_iinc (v := 26) (lv' := [(2, .int 26), (0, .ref h), (1, .int 56)]) hx hb d_Row_addZeros_12 hl (k := 0) rfl (by decide) (by decide) rfl (fun ls hl => ?_)
  refine lv_goto (tgt := 2) hx hb d_Row_addZeros_15 (by decide) ?_
  refine lv_iload_n hx hb d_Row_addZeros_2 rfl (lv_at hl 0 rfl) ?_
  refine lv_iload_n hx hb d_Row_addZeros_3 rfl (lv_at hl 2 rfl) ?_
  refine lv_icmp_ge (tgt := 18) hx hb d_Row_addZeros_4 (by decide) (fun c9 => absurd c9 (by decide)) (fun c9 => ?_)
  refine lv_aload_n hx hb d_Row_addZeros_7 rfl (lv_at hl 1 rfl) ?_
  refine lv_iconst (v := 0) hx hb d_Row_addZeros_8 (by decide) ?_
  refine kb_v (wc := [kb_o h 1 [.ref (uu33.1 0), .int 26], kb_a G (uu33.1 0) 32 (uu51.2 0)]) (wr := []) hE hP hD hS [0, 1] [] rfl rfl (by decide) (by decide) (kb_rV (As := [.int 0]) (rest := []) (wc := [kb_o h 1 [.ref (uu33.1 0), .int 26], kb_a G (uu33.1 0) 32 (uu51.2 0)]) (q0 := 0) ⟨hx, hb, hml, hown, ht⟩ ((c_Row_add_w l G h (uu33.1 0) 26 32 (uu51.2 0) 0 (by omega) (by omega)) _) (kb_gV wd_b959c18a wd_d7a504c3 wd_55347eca wd_4182e433 wd_0d22954f) ⟨rfl, hd_d22f4174⟩ ⟨(Nat.le_of_ble_eq_true rfl), (Nat.le_of_ble_eq_true rfl)⟩ hE hP hD hS [0, 1] rfl (by decide) rfl rfl rfl hl.1 rfl (Nat.le_of_ble_eq_true rfl) d_Row_addZeros_9 ⟨(Nat.le_of_ble_eq_true rfl), (Nat.le_of_ble_eq_true rfl)⟩) (fun uu53 H locs hw hP hD hS => ?_)
  have hP : va_P G.1 kb_cl [kb_o h 1 [.ref (uu33.1 0), .int 27], kb_a G (uu33.1 0) 32 (uu53.2 0)] H := hP
  have hD : va_D A [kb_o h 1 [.ref (uu33.1 0), .int 27], kb_a G (uu33.1 0) 32 (uu53.2 0)] := hD
  refine lv_iinc (v := 27) (lv' := [(2, .int 27), (0, .ref h), (1, .int 56)]) hx hb d_Row_addZeros_12 hl (k := 0) rfl (by decide) (by decide) rfl (fun ls hl => ?_)
  refine lv_goto (tgt := 2) hx hb d_Row_addZeros_15 (by decide) ?_
  refine lv_iload_n hx hb d_Row_addZeros_2 rfl (lv_at hl 0 rfl) ?_
  refine lv_iload_n hx hb d_Row_addZeros_3 rfl (lv_at hl 2 rfl) ?_
  refine lv_icmp_ge (tgt := 18) hx hb d_Row_addZeros_4 (by decide) (fun c9 => absurd c9 (by decide)) (fun c9 => ?_)
  refine lv_aload_n hx hb d_Row_addZeros_7 rfl (lv_at hl 1 rfl) ?_
  refine lv_iconst (v := 0) hx hb d_Row_addZeros_8 (by decide) ?_
  refine kb_v (wc := [kb_o h 1 [.ref (uu33.1 0), .int 27], kb_a G (uu33.1 0) 32 (uu53.2 0)]) (wr := []) hE hP hD hS [0, 1] [] rfl rfl (by decide) (by decide) (kb_rV (As := [.int 0]) (rest := []) (wc := [kb_o h 1 [.ref (uu33.1 0), .int 27], kb_a G (uu33.1 0) 32 (uu53.2 0)]) (q0 := 0) ⟨hx, hb, hml, hown, ht⟩ ((c_Row_add_w l G h (uu33.1 0) 27 32 (uu53.2 0) 0 (by omega) (by omega)) _) (kb_gV wd_b959c18a wd_d7a504c3 wd_55347eca wd_4182e433 wd_0d22954f) ⟨rfl, hd_d22f4174⟩ ⟨(Nat.le_of_ble_eq_true rfl), (Nat.le_of_ble_eq_true rfl)⟩ hE hP hD hS [0, 1] rfl (by decide) rfl rfl rfl hl.1 rfl (Nat.le_of_ble_eq_true rfl) d_Row_addZeros_9 ⟨(Nat.le_of_ble_eq_true rfl), (Nat.le_of_ble_eq_true rfl)⟩) (fun uu55 H locs hw hP hD hS => ?_)
  have hP : va_P G.1 kb_cl [kb_o h 1 [.ref (uu33.1 0), .int 28], kb_a G (uu33.1 0) 32 (uu55.2 0)] H := hP
  have hD : va_D A [kb_o h 1 [.ref (uu33.1 0), .int 28], kb_a G (uu33.1 0) 32 (uu55.2 0)] := hD
  refine lv_iinc (v := 28) (lv' := [(2, .int 28), (0, .ref h), (1, .int 56)]) hx hb d_Row_addZeros_12 hl (k := 0) rfl (by decide) (by decide) rfl (fun ls hl => ?_)
  refine lv_goto (tgt := 2) hx hb d_Row_addZeros_15 (by decide) ?_
  refine lv_iload_n hx hb d_Row_addZeros_2 rfl (lv_at hl 0 rfl) ?_
  refine lv_iload_n hx hb d_Row_addZeros_3 rfl (lv_at hl 2 rfl) ?_
  refine lv_icmp_ge (tgt := 18) hx hb d_Row_addZeros_4 (by decide) (fun c9 => absurd c9 (by decide)) (fun c9 => ?_)
  refine lv_aload_n hx hb d_Row_addZeros_7 rfl (lv_at hl 1 rfl) ?_
  refine lv_iconst (v := 0) hx hb d_Row_addZeros_8 (by decide) ?_
  refine kb_v (wc := [kb_o h 1 [.ref (uu33.1 0), .int 28], kb_a G (uu33.1 0) 32 (uu55.2 0)]) (wr := []) hE hP hD hS [0, 1] [] rfl rfl (by decide) (by decide) (kb_rV (As := [.int 0]) (rest := []) (wc := [kb_o h 1 [.ref (uu33.1 0), .int 28], kb_a G (uu33.1 0) 32 (uu55.2 0)]) (q0 := 0) ⟨hx, hb, hml, hown, ht⟩ ((c_Row_add_w l G h (uu33.1 0) 28 32 (uu55.2 0) 0 (by omega) (by omega)) _) (kb_gV wd_b959c18a wd_d7a504c3 wd_55347eca wd_4182e433 wd_0d22954f) ⟨rfl, hd_d22f4174⟩ ⟨(Nat.le_of_ble_eq_true rfl), (Nat.le_of_ble_eq_true rfl)⟩ hE hP hD hS [0, 1] rfl (by decide) rfl rfl rfl hl.1 rfl (Nat.le_of_ble_eq_true rfl) d_Row_addZeros_9 ⟨(Nat.le_of_ble_eq_true rfl), (Nat.le_of_ble_eq_true rfl)⟩) (fun uu57 H locs hw hP hD hS => ?_)
  have hP : va_P G.1 kb_cl [kb_o h 1 [.ref (uu33.1 0), .int 29], kb_a G (uu33.1 0) 32 (uu57.2 0)] H := hP
  have hD : va_D A [kb_o h 1 [.ref (uu33.1 0), .int 29], kb_a G (uu33.1 0) 32 (uu57.2 0)] := hD
  refine lv_iinc (v := 29) (lv' := [(2, .int 29), (0, .ref h), (1, .int 56)]) hx hb d_Row_addZeros_12 hl (k := 0) rfl (by decide) (by decide) rfl (fun ls hl => ?_)
  refine lv_goto (tgt := 2) hx hb d_Row_addZeros_15 (by decide) ?_
  refine lv_iload_n hx hb d_Row_addZeros_2 rfl (lv_at hl 0 rfl) ?_
  refine lv_iload_n hx hb d_Row_addZeros_3 rfl (lv_at hl 2 rfl) ?_
  refine lv_icmp_ge (tgt := 18) hx hb d_Row_addZeros_4 (by decide) (fun c9 => absurd c9 (by decide)) (fun c9 => ?_)
  refine lv_aload_n hx hb d_Row_addZeros_7 rfl (lv_at hl 1 rfl) ?_
  refine lv_iconst (v := 0) hx hb d_Row_addZeros_8 (by decide) ?_
  refine kb_v (wc := [kb_o h 1 [.ref (uu33.1 0), .int 29], kb_a G (uu33.1 0) 32 (uu57.2 0)]) (wr := []) hE hP hD hS [0, 1] [] rfl rfl (by decide) (by decide) (kb_rV (As := [.int 0]) (rest := []) (wc := [kb_o h 1 [.ref (uu33.1 0), .int 29], kb_a G (uu33.1 0) 32 (uu57.2 0)]) (q0 := 0) ⟨hx, hb, hml, hown, ht⟩ ((c_Row_add_w l G h (uu33.1 0) 29 32 (uu57.2 0) 0 (by omega) (by omega)) _) (kb_gV wd_b959c18a wd_d7a504c3 wd_55347eca wd_4182e433 wd_0d22954f) ⟨rfl, hd_d22f4174⟩ ⟨(Nat.le_of_ble_eq_true rfl), (Nat.le_of_ble_eq_true rfl)⟩ hE hP hD hS [0, 1] rfl (by decide) rfl rfl rfl hl.1 rfl (Nat.le_of_ble_eq_true rfl) d_Row_addZeros_9 ⟨(Nat.le_of_ble_eq_true rfl), (Nat.le_of_ble_eq_true rfl)⟩) (fun uu59 H locs hw hP hD hS => ?_)
  have hP : va_P G.1 kb_cl [kb_o h 1 [.ref (uu33.1 0), .int 30], kb_a G (uu33.1 0) 32 (uu59.2 0)] H := hP
  have hD : va_D A [kb_o h 1 [.ref (uu33.1 0), .int 30], kb_a G (uu33.1 0) 32 (uu59.2 0)] := hD
  refine lv_iinc (v := 30) (lv' := [(2, .int 30), (0, .ref h), (1, .int 56)]) hx hb d_Row_addZeros_12 hl (k := 0) rfl (by decide) (by decide) rfl (fun ls hl => ?_)
  refine lv_goto (tgt := 2) hx hb d_Row_addZeros_15 (by decide) ?_
  refine lv_iload_n hx hb d_Row_addZeros_2 rfl (lv_at hl 0 rfl) ?_
  refine lv_iload_n hx hb d_Row_addZeros_3 rfl (lv_at hl 2 rfl) ?_
  refine lv_icmp_ge (tgt := 18) hx hb d_Row_addZeros_4 (by decide) (fun c9 => absurd c9 (by decide)) (fun c9 => ?_)
  refine lv_aload_n hx hb d_Row_addZeros_7 rfl (lv_at hl 1 rfl) ?_
  refine lv_iconst (v := 0) hx hb d_Row_addZeros_8 (by decide) ?_
  refine kb_v (wc := [kb_o h 1 [.ref (uu33.1 0), .int 30], kb_a G (uu33.1 0) 32 (uu59.2 0)]) (wr := []) hE hP hD hS [0, 1] [] rfl rfl (by decide) (by decide) (kb_rV (As := [.int 0]) (rest := []) (wc := [kb_o h 1 [.ref (uu33.1 0), .int 30], kb_a G (uu33.1 0) 32 (uu59.2 0)]) (q0 := 0) ⟨hx, hb, hml, hown, ht⟩ ((c_Row_add_w l G h (uu33.1 0) 30 32 (uu59.2 0) 0 (by omega) (by omega)) _) (kb_gV wd_b959c18a wd_d7a504c3 wd_55347eca wd_4182e433 wd_0d22954f) ⟨rfl, hd_d22f4174⟩ ⟨(Nat.le_of_ble_eq_true rfl), (Nat.le_of_ble_eq_true rfl)⟩ hE hP hD hS [0, 1] rfl (by decide) rfl rfl rfl hl.1 rfl (Nat.le_of_ble_eq_true rfl) d_Row_addZeros_9 ⟨(Nat.le_of_ble_eq_true rfl), (Nat.le_of_ble_eq_true rfl)⟩) (fun uu61 H locs hw hP hD hS => ?_)
  have hP : va_P G.1 kb_cl [kb_o h 1 [.ref (uu33.1 0), .int 31], kb_a G (uu33.1 0) 32 (uu61.2 0)] H := hP
  have hD : va_D A [kb_o h 1 [.ref (uu33.1 0), .int 31], kb_a G (uu33.1 0) 32 (uu61.2 0)] := hD
  refine lv_iinc (v := 31) (lv' := [(2, .int 31), (0, .ref h), (1, .int 56)]) hx hb d_Row_addZeros_12 hl (k := 0) rfl (by decide) (by decide) rfl (fun ls hl => ?_)
  refine lv_goto (tgt := 2) hx hb d_Row_addZeros_15 (by decide) ?_
  refine lv_iload_n hx hb d_Row_addZeros_2 rfl (lv_at hl 0 rfl) ?_
  refine lv_iload_n hx hb d_Row_addZeros_3 rfl (lv_at hl 2 rfl) ?_
  refine lv_icmp_ge (tgt := 18) hx hb d_Row_addZeros_4 (by decide) (fun c9 => absurd c9 (by decide)) (fun c9 => ?_)
  refine lv_aload_n hx hb d_Row_addZeros_7 rfl (lv_at hl 1 rfl) ?_
  refine lv_iconst (v := 0) hx hb d_Row_addZeros_8 (by decide) ?_
  refine kb_v (wc := [kb_o h 1 [.ref (uu33.1 0), .int 31], kb_a G (uu33.1 0) 32 (uu61.2 0)]) (wr := []) hE hP hD hS [0, 1] [] rfl rfl (by decide) (by decide) (kb_rV (As := [.int 0]) (rest := []) (wc := [kb_o h 1 [.ref (uu33.1 0), .int 31], kb_a G (uu33.1 0) 32 (uu61.2 0)]) (q0 := 0) ⟨hx, hb, hml, hown, ht⟩ ((c_Row_add_w l G h (uu33.1 0) 31 32 (uu61.2 0) 0 (by omega) (by omega)) _) (kb_gV wd_b959c18a wd_d7a504c3 wd_55347eca wd_4182e433 wd_0d22954f) ⟨rfl, hd_d22f4174⟩ ⟨(Nat.le_of_ble_eq_true rfl), (Nat.le_of_ble_eq_true rfl)⟩ hE hP hD hS [0, 1] rfl (by decide) rfl rfl rfl hl.1 rfl (Nat.le_of_ble_eq_true rfl) d_Row_addZeros_9 ⟨(Nat.le_of_ble_eq_true rfl), (Nat.le_of_ble_eq_true rfl)⟩) (fun uu63 H locs hw hP hD hS => ?_)
  have hP : va_P G.1 kb_cl [kb_o h 1 [.ref (uu33.1 0), .int 32], kb_a G (uu33.1 0) 32 (uu63.2 0)] H := hP
  have hD : va_D A [kb_o h 1 [.ref (uu33.1 0), .int 32], kb_a G (uu33.1 0) 32 (uu63.2 0)] := hD
  refine lv_iinc (v := 32) (lv' := [(2, .int 32), (0, .ref h), (1, .int 56)]) hx hb d_Row_addZeros_12 hl (k := 0) rfl (by decide) (by decide) rfl (fun ls hl => ?_)
  refine lv_goto (tgt := 2) hx hb d_Row_addZeros_15 (by decide) ?_
  refine lv_iload_n hx hb d_Row_addZeros_2 rfl (lv_at hl 0 rfl) ?_
  refine lv_iload_n hx hb d_Row_addZeros_3 rfl (lv_at hl 2 rfl) ?_
  refine lv_icmp_ge (tgt := 18) hx hb d_Row_addZeros_4 (by decide) (fun c9 => absurd c9 (by decide)) (fun c9 => ?_)
  refine lv_aload_n hx hb d_Row_addZeros_7 rfl (lv_at hl 1 rfl) ?_
  refine lv_iconst (v := 0) hx hb d_Row_addZeros_8 (by decide) ?_
  refine kb_v (wc := [kb_o h 1 [.ref (uu33.1 0), .int 32], kb_a G (uu33.1 0) 32 (uu63.2 0)]) (wr := []) hE hP hD hS [0, 1] [] rfl rfl (by decide) (by decide) (kb_rV (As := [.int 0]) (rest := []) (wc := [kb_o h 1 [.ref (uu33.1 0), .int 32], kb_a G (uu33.1 0) 32 (uu63.2 0)]) (q0 := 0) ⟨hx, hb, hml, hown, ht⟩ ((c_Row_add_g32 l G h (uu33.1 0) (uu63.2 0) 0) _) (kb_gV wd_b959c18a wd_d7a504c3 wd_55347eca wd_4182e433 wd_0d22954f) ⟨rfl, hd_d22f4174⟩ ⟨(Nat.le_of_ble_eq_true rfl), (Nat.le_of_ble_eq_true rfl)⟩ hE hP hD hS [0, 1] rfl (by decide) rfl rfl rfl hl.1 rfl (Nat.le_of_ble_eq_true rfl) d_Row_addZeros_9 ⟨(Nat.le_of_ble_eq_true rfl), (Nat.le_of_ble_eq_true rfl)⟩) (fun uu65 H locs hw hP hD hS => ?_)
  have hP : va_P G.1 kb_cl [kb_o h 1 [.ref (uu65.1 0), .int 33], kb_a G (uu65.1 0) 64 (upd (uu65.2 0) 32 0)] H := hP
  have hD : va_D A [kb_o h 1 [.ref (uu65.1 0), .int 33], kb_a G (uu65.1 0) 64 (upd (uu65.2 0) 32 0)] := hD
  refine lv_iinc (v := 33) (lv' := [(2, .int 33), (0, .ref h), (1, .int 56)]) hx hb d_Row_addZeros_12 hl (k := 0) rfl (by decide) (by decide) rfl (fun ls hl => ?_)
  refine lv_goto (tgt := 2) hx hb d_Row_addZeros_15 (by decide) ?_
  refine lv_iload_n hx hb d_Row_addZeros_2 rfl (lv_at hl 0 rfl) ?_
  refine lv_iload_n hx hb d_Row_addZeros_3 rfl (lv_at hl 2 rfl) ?_
  refine lv_icmp_ge (tgt := 18) hx hb d_Row_addZeros_4 (by decide) (fun c9 => absurd c9 (by decide)) (fun c9 => ?_)
  refine lv_aload_n hx hb d_Row_addZeros_7 rfl (lv_at hl 1 rfl) ?_
  refine lv_iconst (v := 0) hx hb d_Row_addZeros_8 (by decide) ?_
  refine kb_v (wc := [kb_o h 1 [.ref (uu65.1 0), .int 33], kb_a G (uu65.1 0) 64 (upd (uu65.2 0) 32 0)]) (wr := []) hE hP hD hS [0, 1] [] rfl rfl (by decide) (by decide) (kb_rV (As := [.int 0]) (rest := []) (wc := [kb_o h 1 [.ref (uu65.1 0), .int 33], kb_a G (uu65.1 0) 64 (upd (uu65.2 0) 32 0)]) (q0 := 0) ⟨hx, hb, hml, hown, ht⟩ ((c_Row_add_w l G h (uu65.1 0) 33 64 (upd (uu65.2 0) 32 0) 0 (by omega) (by omega)) _) (kb_gV wd_b959c18a wd_d7a504c3 wd_55347eca wd_4182e433 wd_0d22954f) ⟨rfl, hd_d22f4174⟩ ⟨(Nat.le_of_ble_eq_true rfl), (Nat.le_of_ble_eq_true rfl)⟩ hE hP hD hS [0, 1] rfl (by decide) rfl rfl rfl hl.1 rfl (Nat.le_of_ble_eq_true rfl) d_Row_addZeros_9 ⟨(Nat.le_of_ble_eq_true rfl), (Nat.le_of_ble_eq_true rfl)⟩) (fun uu67 H locs hw hP hD hS => ?_)
  have hP : va_P G.1 kb_cl [kb_o h 1 [.ref (uu65.1 0), .int 34], kb_a G (uu65.1 0) 64 (uu67.2 0)] H := hP
  have hD : va_D A [kb_o h 1 [.ref (uu65.1 0), .int 34], kb_a G (uu65.1 0) 64 (uu67.2 0)] := hD
  refine lv_iinc (v := 34) (lv' := [(2, .int 34), (0, .ref h), (1, .int 56)]) hx hb d_Row_addZeros_12 hl (k := 0) rfl (by decide) (by decide) rfl (fun ls hl => ?_)
  refine lv_goto (tgt := 2) hx hb d_Row_addZeros_15 (by decide) ?_
  refine lv_iload_n hx hb d_Row_addZeros_2 rfl (lv_at hl 0 rfl) ?_
  refine lv_iload_n hx hb d_Row_addZeros_3 rfl (lv_at hl 2 rfl) ?_
  refine lv_icmp_ge (tgt := 18) hx hb d_Row_addZeros_4 (by decide) (fun c9 => absurd c9 (by decide)) (fun c9 => ?_)
  refine lv_aload_n hx hb d_Row_addZeros_7 rfl (lv_at hl 1 rfl) ?_
  refine lv_iconst (v := 0) hx hb d_Row_addZeros_8 (by decide) ?_
  refine kb_v (wc := [kb_o h 1 [.ref (uu65.1 0), .int 34], kb_a G (uu65.1 0) 64 (uu67.2 0)]) (wr := []) hE hP hD hS [0, 1] [] rfl rfl (by decide) (by decide) (kb_rV (As := [.int 0]) (rest := []) (wc := [kb_o h 1 [.ref (uu65.1 0), .int 34], kb_a G (uu65.1 0) 64 (uu67.2 0)]) (q0 := 0) ⟨hx, hb, hml, hown, ht⟩ ((c_Row_add_w l G h (uu65.1 0) 34 64 (uu67.2 0) 0 (by omega) (by omega)) _) (kb_gV wd_b959c18a wd_d7a504c3 wd_55347eca wd_4182e433 wd_0d22954f) ⟨rfl, hd_d22f4174⟩ ⟨(Nat.le_of_ble_eq_true rfl), (Nat.le_of_ble_eq_true rfl)⟩ hE hP hD hS [0, 1] rfl (by decide) rfl rfl rfl hl.1 rfl (Nat.le_of_ble_eq_true rfl) d_Row_addZeros_9 ⟨(Nat.le_of_ble_eq_true rfl), (Nat.le_of_ble_eq_true rfl)⟩) (fun uu69 H locs hw hP hD hS => ?_)
  have hP : va_P G.1 kb_cl [kb_o h 1 [.ref (uu65.1 0), .int 35], kb_a G (uu65.1 0) 64 (uu69.2 0)] H := hP
  have hD : va_D A [kb_o h 1 [.ref (uu65.1 0), .int 35], kb_a G (uu65.1 0) 64 (uu69.2 0)] := hD
  refine lv_iinc (v := 35) (lv' := [(2, .int 35), (0, .ref h), (1, .int 56)]) hx hb d_Row_addZeros_12 hl (k := 0) rfl (by decide) (by decide) rfl (fun ls hl => ?_)
  refine lv_goto (tgt := 2) hx hb d_Row_addZeros_15 (by decide) ?_
  refine lv_iload_n hx hb d_Row_addZeros_2 rfl (lv_at hl 0 rfl) ?_
  refine lv_iload_n hx hb d_Row_addZeros_3 rfl (lv_at hl 2 rfl) ?_
  refine lv_icmp_ge (tgt := 18) hx hb d_Row_addZeros_4 (by decide) (fun c9 => absurd c9 (by decide)) (fun c9 => ?_)
  refine lv_aload_n hx hb d_Row_addZeros_7 rfl (lv_at hl 1 rfl) ?_
  refine lv_iconst (v := 0) hx hb d_Row_addZeros_8 (by decide) ?_
  refine kb_v (wc := [kb_o h 1 [.ref (uu65.1 0), .int 35], kb_a G (uu65.1 0) 64 (uu69.2 0)]) (wr := []) hE hP hD hS [0, 1] [] rfl rfl (by decide) (by decide) (kb_rV (As := [.int 0]) (rest := []) (wc := [kb_o h 1 [.ref (uu65.1 0), .int 35], kb_a G (uu65.1 0) 64 (uu69.2 0)]) (q0 := 0) ⟨hx, hb, hml, hown, ht⟩ ((c_Row_add_w l G h (uu65.1 0) 35 64 (uu69.2 0) 0 (by omega) (by omega)) _) (kb_gV wd_b959c18a wd_d7a504c3 wd_55347eca wd_4182e433 wd_0d22954f) ⟨rfl, hd_d22f4174⟩ ⟨(Nat.le_of_ble_eq_true rfl), (Nat.le_of_ble_eq_true rfl)⟩ hE hP hD hS [0, 1] rfl (by decide) rfl rfl rfl hl.1 rfl (Nat.le_of_ble_eq_true rfl) d_Row_addZeros_9 ⟨(Nat.le_of_ble_eq_true rfl), (Nat.le_of_ble_eq_true rfl)⟩) (fun uu71 H locs hw hP hD hS => ?_)
  have hP : va_P G.1 kb_cl [kb_o h 1 [.ref (uu65.1 0), .int 36], kb_a G (uu65.1 0) 64 (uu71.2 0)] H := hP
  have hD : va_D A [kb_o h 1 [.ref (uu65.1 0), .int 36], kb_a G (uu65.1 0) 64 (uu71.2 0)] := hD
  refine lv_iinc (v := 36) (lv' := [(2, .int 36), (0, .ref h), (1, .int 56)]) hx hb d_Row_addZeros_12 hl (k := 0) rfl (by decide) (by decide) rfl (fun ls hl => ?_)
  refine lv_goto (tgt := 2) hx hb d_Row_addZeros_15 (by decide) ?_
  refine lv_iload_n hx hb d_Row_addZeros_2 rfl (lv_at hl 0 rfl) ?_
  refine lv_iload_n hx hb d_Row_addZeros_3 rfl (lv_at hl 2 rfl) ?_
  refine lv_icmp_ge (tgt := 18) hx hb d_Row_addZeros_4 (by decide) (fun c9 => absurd c9 (by decide)) (fun c9 => ?_)
  refine lv_aload_n hx hb d_Row_addZeros_7 rfl (lv_at hl 1 rfl) ?_
  refine lv_iconst (v := 0) hx hb d_Row_addZeros_8 (by decide) ?_
  refine kb_v (wc := [kb_o h 1 [.ref (uu65.1 0), .int 36], kb_a G (uu65.1 0) 64 (uu71.2 0)]) (wr := []) hE hP hD hS [0, 1] [] rfl rfl (by decide) (by decide) (kb_rV (As := [.int 0]) (rest := []) (wc := [kb_o h 1 [.ref (uu65.1 0), .int 36], kb_a G (uu65.1 0) 64 (uu71.2 0)]) (q0 := 0) ⟨hx, hb, hml, hown, ht⟩ ((c_Row_add_w l G h (uu65.1 0) 36 64 (uu71.2 0) 0 (by omega) (by omega)) _) (kb_gV wd_b959c18a wd_d7a504c3 wd_55347eca wd_4182e433 wd_0d22954f) ⟨rfl, hd_d22f4174⟩ ⟨(Nat.le_of_ble_eq_true rfl), (Nat.le_of_ble_eq_true rfl)⟩ hE hP hD hS [0, 1] rfl (by decide) rfl rfl rfl hl.1 rfl (Nat.le_of_ble_eq_true rfl) d_Row_addZeros_9 ⟨(Nat.le_of_ble_eq_true rfl), (Nat.le_of_ble_eq_true rfl)⟩) (fun uu73 H locs hw hP hD hS => ?_)
  have hP : va_P G.1 kb_cl [kb_o h 1 [.ref (uu65.1 0), .int 37], kb_a G (uu65.1 0) 64 (uu73.2 0)] H := hP
  have hD : va_D A [kb_o h 1 [.ref (uu65.1 0), .int 37], kb_a G (uu65.1 0) 64 (uu73.2 0)] := hD
  refine lv_iinc (v := 37) (lv' := [(2, .int 37), (0, .ref h), (1, .int 56)]) hx hb d_Row_addZeros_12 hl (k := 0) rfl (by decide) (by decide) rfl (fun ls hl => ?_)
  refine lv_goto (tgt := 2) hx hb d_Row_addZeros_15 (by decide) ?_
  refine lv_iload_n hx hb d_Row_addZeros_2 rfl (lv_at hl 0 rfl) ?_
  refine lv_iload_n hx hb d_Row_addZeros_3 rfl (lv_at hl 2 rfl) ?_
  refine lv_icmp_ge (tgt := 18) hx hb d_Row_addZeros_4 (by decide) (fun c9 => absurd c9 (by decide)) (fun c9 => ?_)
  refine lv_aload_n hx hb d_Row_addZeros_7 rfl (lv_at hl 1 rfl) ?_
  refine lv_iconst (v := 0) hx hb d_Row_addZeros_8 (by decide) ?_
  refine kb_v (wc := [kb_o h 1 [.ref (uu65.1 0), .int 37], kb_a G (uu65.1 0) 64 (uu73.2 0)]) (wr := []) hE hP hD hS [0, 1] [] rfl rfl (by decide) (by decide) (kb_rV (As := [.int 0]) (rest := []) (wc := [kb_o h 1 [.ref (uu65.1 0), .int 37], kb_a G (uu65.1 0) 64 (uu73.2 0)]) (q0 := 0) ⟨hx, hb, hml, hown, ht⟩ ((c_Row_add_w l G h (uu65.1 0) 37 64 (uu73.2 0) 0 (by omega) (by omega)) _) (kb_gV wd_b959c18a wd_d7a504c3 wd_55347eca wd_4182e433 wd_0d22954f) ⟨rfl, hd_d22f4174⟩ ⟨(Nat.le_of_ble_eq_true rfl), (Nat.le_of_ble_eq_true rfl)⟩ hE hP hD hS [0, 1] rfl (by decide) rfl rfl rfl hl.1 rfl (Nat.le_of_ble_eq_true rfl) d_Row_addZeros_9 ⟨(Nat.le_of_ble_eq_true rfl), (Nat.le_of_ble_eq_true rfl)⟩) (fun uu75 H locs hw hP hD hS => ?_)
  have hP : va_P G.1 kb_cl [kb_o h 1 [.ref (uu65.1 0), .int 38], kb_a G (uu65.1 0) 64 (uu75.2 0)] H := hP
  have hD : va_D A [kb_o h 1 [.ref (uu65.1 0), .int 38], kb_a G (uu65.1 0) 64 (uu75.2 0)] := hD
  refine lv_iinc (v := 38) (lv' := [(2, .int 38), (0, .ref h), (1, .int 56)]) hx hb d_Row_addZeros_12 hl (k := 0) rfl (by decide) (by decide) rfl (fun ls hl => ?_)
  refine lv_goto (tgt := 2) hx hb d_Row_addZeros_15 (by decide) ?_
  refine lv_iload_n hx hb d_Row_addZeros_2 rfl (lv_at hl 0 rfl) ?_
  refine lv_iload_n hx hb d_Row_addZeros_3 rfl (lv_at hl 2 rfl) ?_
  refine lv_icmp_ge (tgt := 18) hx hb d_Row_addZeros_4 (by decide) (fun c9 => absurd c9 (by decide)) (fun c9 => ?_)
  refine lv_aload_n hx hb d_Row_addZeros_7 rfl (lv_at hl 1 rfl) ?_
  refine lv_iconst (v := 0) hx hb d_Row_addZeros_8 (by decide) ?_
  refine kb_v (wc := [kb_o h 1 [.ref (uu65.1 0), .int 38], kb_a G (uu65.1 0) 64 (uu75.2 0)]) (wr := []) hE hP hD hS [0, 1] [] rfl rfl (by decide) (by decide) (kb_rV (As := [.int 0]) (rest := []) (wc := [kb_o h 1 [.ref (uu65.1 0), .int 38], kb_a G (uu65.1 0) 64 (uu75.2 0)]) (q0 := 0) ⟨hx, hb, hml, hown, ht⟩ ((c_Row_add_w l G h (uu65.1 0) 38 64 (uu75.2 0) 0 (by omega) (by omega)) _) (kb_gV wd_b959c18a wd_d7a504c3 wd_55347eca wd_4182e433 wd_0d22954f) ⟨rfl, hd_d22f4174⟩ ⟨(Nat.le_of_ble_eq_true rfl), (Nat.le_of_ble_eq_true rfl)⟩ hE hP hD hS [0, 1] rfl (by decide) rfl rfl rfl hl.1 rfl (Nat.le_of_ble_eq_true rfl) d_Row_addZeros_9 ⟨(Nat.le_of_ble_eq_true rfl), (Nat.le_of_ble_eq_true rfl)⟩) (fun uu77 H locs hw hP hD hS => ?_)
  have hP : va_P G.1 kb_cl [kb_o h 1 [.ref (uu65.1 0), .int 39], kb_a G (uu65.1 0) 64 (uu77.2 0)] H := hP
  have hD : va_D A [kb_o h 1 [.ref (uu65.1 0), .int 39], kb_a G (uu65.1 0) 64 (uu77.2 0)] := hD
  refine lv_iinc (v := 39) (lv' := [(2, .int 39), (0, .ref h), (1, .int 56)]) hx hb d_Row_addZeros_12 hl (k := 0) rfl (by decide) (by decide) rfl (fun ls hl => ?_)
  refine lv_goto (tgt := 2) hx hb d_Row_addZeros_15 (by decide) ?_
  refine lv_iload_n hx hb d_Row_addZeros_2 rfl (lv_at hl 0 rfl) ?_
  refine lv_iload_n hx hb d_Row_addZeros_3 rfl (lv_at hl 2 rfl) ?_
  refine lv_icmp_ge (tgt := 18) hx hb d_Row_addZeros_4 (by decide) (fun c9 => absurd c9 (by decide)) (fun c9 => ?_)
  refine lv_aload_n hx hb d_Row_addZeros_7 rfl (lv_at hl 1 rfl) ?_
  refine lv_iconst (v := 0) hx hb d_Row_addZeros_8 (by decide) ?_
  refine kb_v (wc := [kb_o h 1 [.ref (uu65.1 0), .int 39], kb_a G (uu65.1 0) 64 (uu77.2 0)]) (wr := []) hE hP hD hS [0, 1] [] rfl rfl (by decide) (by decide) (kb_rV (As := [.int 0]) (rest := []) (wc := [kb_o h 1 [.ref (uu65.1 0), .int 39], kb_a G (uu65.1 0) 64 (uu77.2 0)]) (q0 := 0) ⟨hx, hb, hml, hown, ht⟩ ((c_Row_add_w l G h (uu65.1 0) 39 64 (uu77.2 0) 0 (by omega) (by omega)) _) (kb_gV wd_b959c18a wd_d7a504c3 wd_55347eca wd_4182e433 wd_0d22954f) ⟨rfl, hd_d22f4174⟩ ⟨(Nat.le_of_ble_eq_true rfl), (Nat.le_of_ble_eq_true rfl)⟩ hE hP hD hS [0, 1] rfl (by decide) rfl rfl rfl hl.1 rfl (Nat.le_of_ble_eq_true rfl) d_Row_addZeros_9 ⟨(Nat.le_of_ble_eq_true rfl), (Nat.le_of_ble_eq_true rfl)⟩) (fun uu79 H locs hw hP hD hS => ?_)
  have hP : va_P G.1 kb_cl [kb_o h 1 [.ref (uu65.1 0), .int 40], kb_a G (uu65.1 0) 64 (uu79.2 0)] H := hP
  have hD : va_D A [kb_o h 1 [.ref (uu65.1 0), .int 40], kb_a G (uu65.1 0) 64 (uu79.2 0)] := hD
  refine lv_iinc (v := 40) (lv' := [(2, .int 40), (0, .ref h), (1, .int 56)]) hx hb d_Row_addZeros_12 hl (k := 0) rfl (by decide) (by decide) rfl (fun ls hl => ?_)
  refine lv_goto (tgt := 2) hx hb d_Row_addZeros_15 (by decide) ?_
  refine lv_iload_n hx hb d_Row_addZeros_2 rfl (lv_at hl 0 rfl) ?_
  refine lv_iload_n hx hb d_Row_addZeros_3 rfl (lv_at hl 2 rfl) ?_
  refine lv_icmp_ge (tgt := 18) hx hb d_Row_addZeros_4 (by decide) (fun c9 => absurd c9 (by decide)) (fun c9 => ?_)
  refine lv_aload_n hx hb d_Row_addZeros_7 rfl (lv_at hl 1 rfl) ?_
  refine lv_iconst (v := 0) hx hb d_Row_addZeros_8 (by decide) ?_
  refine kb_v (wc := [kb_o h 1 [.ref (uu65.1 0), .int 40], kb_a G (uu65.1 0) 64 (uu79.2 0)]) (wr := []) hE hP hD hS [0, 1] [] rfl rfl (by decide) (by decide) (kb_rV (As := [.int 0]) (rest := []) (wc := [kb_o h 1 [.ref (uu65.1 0), .int 40], kb_a G (uu65.1 0) 64 (uu79.2 0)]) (q0 := 0) ⟨hx, hb, hml, hown, ht⟩ ((c_Row_add_w l G h (uu65.1 0) 40 64 (uu79.2 0) 0 (by omega) (by omega)) _) (kb_gV wd_b959c18a wd_d7a504c3 wd_55347eca wd_4182e433 wd_0d22954f) ⟨rfl, hd_d22f4174⟩ ⟨(Nat.le_of_ble_eq_true rfl), (Nat.le_of_ble_eq_true rfl)⟩ hE hP hD hS [0, 1] rfl (by decide) rfl rfl rfl hl.1 rfl (Nat.le_of_ble_eq_true rfl) d_Row_addZeros_9 ⟨(Nat.le_of_ble_eq_true rfl), (Nat.le_of_ble_eq_true rfl)⟩) (fun uu81 H locs hw hP hD hS => ?_)
  have hP : va_P G.1 kb_cl [kb_o h 1 [.ref (uu65.1 0), .int 41], kb_a G (uu65.1 0) 64 (uu81.2 0)] H := hP
  have hD : va_D A [kb_o h 1 [.ref (uu65.1 0), .int 41], kb_a G (uu65.1 0) 64 (uu81.2 0)] := hD
  refine lv_iinc (v := 41) (lv' := [(2, .int 41), (0, .ref h), (1, .int 56)]) hx hb d_Row_addZeros_12 hl (k := 0) rfl (by decide) (by decide) rfl (fun ls hl => ?_)
  refine lv_goto (tgt := 2) hx hb d_Row_addZeros_15 (by decide) ?_
  refine lv_iload_n hx hb d_Row_addZeros_2 rfl (lv_at hl 0 rfl) ?_
  refine lv_iload_n hx hb d_Row_addZeros_3 rfl (lv_at hl 2 rfl) ?_
  refine lv_icmp_ge (tgt := 18) hx hb d_Row_addZeros_4 (by decide) (fun c9 => absurd c9 (by decide)) (fun c9 => ?_)
  refine lv_aload_n hx hb d_Row_addZeros_7 rfl (lv_at hl 1 rfl) ?_
  refine lv_iconst (v := 0) hx hb d_Row_addZeros_8 (by decide) ?_
  refine kb_v (wc := [kb_o h 1 [.ref (uu65.1 0), .int 41], kb_a G (uu65.1 0) 64 (uu81.2 0)]) (wr := []) hE hP hD hS [0, 1] [] rfl rfl (by decide) (by decide) (kb_rV (As := [.int 0]) (rest := []) (wc := [kb_o h 1 [.ref (uu65.1 0), .int 41], kb_a G (uu65.1 0) 64 (uu81.2 0)]) (q0 := 0) ⟨hx, hb, hml, hown, ht⟩ ((c_Row_add_w l G h (uu65.1 0) 41 64 (uu81.2 0) 0 (by omega) (by omega)) _) (kb_gV wd_b959c18a wd_d7a504c3 wd_55347eca wd_4182e433 wd_0d22954f) ⟨rfl, hd_d22f4174⟩ ⟨(Nat.le_of_ble_eq_true rfl), (Nat.le_of_ble_eq_true rfl)⟩ hE hP hD hS [0, 1] rfl (by decide) rfl rfl rfl hl.1 rfl (Nat.le_of_ble_eq_true rfl) d_Row_addZeros_9 ⟨(Nat.le_of_ble_eq_true rfl), (Nat.le_of_ble_eq_true rfl)⟩) (fun uu83 H locs hw hP hD hS => ?_)
  have hP : va_P G.1 kb_cl [kb_o h 1 [.ref (uu65.1 0), .int 42], kb_a G (uu65.1 0) 64 (uu83.2 0)] H := hP
  have hD : va_D A [kb_o h 1 [.ref (uu65.1 0), .int 42], kb_a G (uu65.1 0) 64 (uu83.2 0)] := hD
  refine lv_iinc (v := 42) (lv' := [(2, .int 42), (0, .ref h), (1, .int 56)]) hx hb d_Row_addZeros_12 hl (k := 0) rfl (by decide) (by decide) rfl (fun ls hl => ?_)
  refine lv_goto (tgt := 2) hx hb d_Row_addZeros_15 (by decide) ?_
  refine lv_iload_n hx hb d_Row_addZeros_2 rfl (lv_at hl 0 rfl) ?_
  refine lv_iload_n hx hb d_Row_addZeros_3 rfl (lv_at hl 2 rfl) ?_
  refine lv_icmp_ge (tgt := 18) hx hb d_Row_addZeros_4 (by decide) (fun c9 => absurd c9 (by decide)) (fun c9 => ?_)
  refine lv_aload_n hx hb d_Row_addZeros_7 rfl (lv_at hl 1 rfl) ?_
  refine lv_iconst (v := 0) hx hb d_Row_addZeros_8 (by decide) ?_
  refine kb_v (wc := [kb_o h 1 [.ref (uu65.1 0), .int 42], kb_a G (uu65.1 0) 64 (uu83.2 0)]) (wr := []) hE hP hD hS [0, 1] [] rfl rfl (by decide) (by decide) (kb_rV (As := [.int 0]) (rest := []) (wc := [kb_o h 1 [.ref (uu65.1 0), .int 42], kb_a G (uu65.1 0) 64 (uu83.2 0)]) (q0 := 0) ⟨hx, hb, hml, hown, ht⟩ ((c_Row_add_w l G h (uu65.1 0) 42 64 (uu83.2 0) 0 (by omega) (by omega)) _) (kb_gV wd_b959c18a wd_d7a504c3 wd_55347eca wd_4182e433 wd_0d22954f) ⟨rfl, hd_d22f4174⟩ ⟨(Nat.le_of_ble_eq_true rfl), (Nat.le_of_ble_eq_true rfl)⟩ hE hP hD hS [0, 1] rfl (by decide) rfl rfl rfl hl.1 rfl (Nat.le_of_ble_eq_true rfl) d_Row_addZeros_9 ⟨(Nat.le_of_ble_eq_true rfl), (Nat.le_of_ble_eq_true rfl)⟩) (fun uu85 H locs hw hP hD hS => ?_)
  have hP : va_P G.1 kb_cl [kb_o h 1 [.ref (uu65.1 0), .int 43], kb_a G (uu65.1 0) 64 (uu85.2 0)] H := hP
  have hD : va_D A [kb_o h 1 [.ref (uu65.1 0), .int 43], kb_a G (uu65.1 0) 64 (uu85.2 0)] := hD
  refine lv_iinc (v := 43) (lv' := [(2, .int 43), (0, .ref h), (1, .int 56)]) hx hb d_Row_addZeros_12 hl (k := 0) rfl (by decide) (by decide) rfl (fun ls hl => ?_)
  refine lv_goto (tgt := 2) hx hb d_Row_addZeros_15 (by decide) ?_
  refine lv_iload_n hx hb d_Row_addZeros_2 rfl (lv_at hl 0 rfl) ?_
  refine lv_iload_n hx hb d_Row_addZeros_3 rfl (lv_at hl 2 rfl) ?_
  refine lv_icmp_ge (tgt := 18) hx hb d_Row_addZeros_4 (by decide) (fun c9 => absurd c9 (by decide)) (fun c9 => ?_)
  refine lv_aload_n hx hb d_Row_addZeros_7 rfl (lv_at hl 1 rfl) ?_
  refine lv_iconst (v := 0) hx hb d_Row_addZeros_8 (by decide) ?_
  refine kb_v (wc := [kb_o h 1 [.ref (uu65.1 0), .int 43], kb_a G (uu65.1 0) 64 (uu85.2 0)]) (wr := []) hE hP hD hS [0, 1] [] rfl rfl (by decide) (by decide) (kb_rV (As := [.int 0]) (rest := []) (wc := [kb_o h 1 [.ref (uu65.1 0), .int 43], kb_a G (uu65.1 0) 64 (uu85.2 0)]) (q0 := 0) ⟨hx, hb, hml, hown, ht⟩ ((c_Row_add_w l G h (uu65.1 0) 43 64 (uu85.2 0) 0 (by omega) (by omega)) _) (kb_gV wd_b959c18a wd_d7a504c3 wd_55347eca wd_4182e433 wd_0d22954f) ⟨rfl, hd_d22f4174⟩ ⟨(Nat.le_of_ble_eq_true rfl), (Nat.le_of_ble_eq_true rfl)⟩ hE hP hD hS [0, 1] rfl (by decide) rfl rfl rfl hl.1 rfl (Nat.le_of_ble_eq_true rfl) d_Row_addZeros_9 ⟨(Nat.le_of_ble_eq_true rfl), (Nat.le_of_ble_eq_true rfl)⟩) (fun uu87 H locs hw hP hD hS => ?_)
  have hP : va_P G.1 kb_cl [kb_o h 1 [.ref (uu65.1 0), .int 44], kb_a G (uu65.1 0) 64 (uu87.2 0)] H := hP
  have hD : va_D A [kb_o h 1 [.ref (uu65.1 0), .int 44], kb_a G (uu65.1 0) 64 (uu87.2 0)] := hD
  refine lv_iinc (v := 44) (lv' := [(2, .int 44), (0, .ref h), (1, .int 56)]) hx hb d_Row_addZeros_12 hl (k := 0) rfl (by decide) (by decide) rfl (fun ls hl => ?_)
  refine lv_goto (tgt := 2) hx hb d_Row_addZeros_15 (by decide) ?_
  refine lv_iload_n hx hb d_Row_addZeros_2 rfl (lv_at hl 0 rfl) ?_
  refine lv_iload_n hx hb d_Row_addZeros_3 rfl (lv_at hl 2 rfl) ?_
  refine lv_icmp_ge (tgt := 18) hx hb d_Row_addZeros_4 (by decide) (fun c9 => absurd c9 (by decide)) (fun c9 => ?_)
  refine lv_aload_n hx hb d_Row_addZeros_7 rfl (lv_at hl 1 rfl) ?_
  refine lv_iconst (v := 0) hx hb d_Row_addZeros_8 (by decide) ?_
  refine kb_v (wc := [kb_o h 1 [.ref (uu65.1 0), .int 44], kb_a G (uu65.1 0) 64 (uu87.2 0)]) (wr := []) hE hP hD hS [0, 1] [] rfl rfl (by decide) (by decide) (kb_rV (As := [.int 0]) (rest := []) (wc := [kb_o h 1 [.ref (uu65.1 0), .int 44], kb_a G (uu65.1 0) 64 (uu87.2 0)]) (q0 := 0) ⟨hx, hb, hml, hown, ht⟩ ((c_Row_add_w l G h (uu65.1 0) 44 64 (uu87.2 0) 0 (by omega) (by omega)) _) (kb_gV wd_b959c18a wd_d7a504c3 wd_55347eca wd_4182e433 wd_0d22954f) ⟨rfl, hd_d22f4174⟩ ⟨(Nat.le_of_ble_eq_true rfl), (Nat.le_of_ble_eq_true rfl)⟩ hE hP hD hS [0, 1] rfl (by decide) rfl rfl rfl hl.1 rfl (Nat.le_of_ble_eq_true rfl) d_Row_addZeros_9 ⟨(Nat.le_of_ble_eq_true rfl), (Nat.le_of_ble_eq_true rfl)⟩) (fun uu89 H locs hw hP hD hS => ?_)
  have hP : va_P G.1 kb_cl [kb_o h 1 [.ref (uu65.1 0), .int 45], kb_a G (uu65.1 0) 64 (uu89.2 0)] H := hP
  have hD : va_D A [kb_o h 1 [.ref (uu65.1 0), .int 45], kb_a G (uu65.1 0) 64 (uu89.2 0)] := hD
  refine lv_iinc (v := 45) (lv' := [(2, .int 45), (0, .ref h), (1, .int 56)]) hx hb d_Row_addZeros_12 hl (k := 0) rfl (by decide) (by decide) rfl (fun ls hl => ?_)
  refine lv_goto (tgt := 2) hx hb d_Row_addZeros_15 (by decide) ?_
  refine lv_iload_n hx hb d_Row_addZeros_2 rfl (lv_at hl 0 rfl) ?_
  refine lv_iload_n hx hb d_Row_addZeros_3 rfl (lv_at hl 2 rfl) ?_
  refine lv_icmp_ge (tgt := 18) hx hb d_Row_addZeros_4 (by decide) (fun c9 => absurd c9 (by decide)) (fun c9 => ?_)
  refine lv_aload_n hx hb d_Row_addZeros_7 rfl (lv_at hl 1 rfl) ?_
  refine lv_iconst (v := 0) hx hb d_Row_addZeros_8 (by decide) ?_
  refine kb_v (wc := [kb_o h 1 [.ref (uu65.1 0), .int 45], kb_a G (uu65.1 0) 64 (uu89.2 0)]) (wr := []) hE hP hD hS [0, 1] [] rfl rfl (by decide) (by decide) (kb_rV (As := [.int 0]) (rest := []) (wc := [kb_o h 1 [.ref (uu65.1 0), .int 45], kb_a G (uu65.1 0) 64 (uu89.2 0)]) (q0 := 0) ⟨hx, hb, hml, hown, ht⟩ ((c_Row_add_w l G h (uu65.1 0) 45 64 (uu89.2 0) 0 (by omega) (by omega)) _) (kb_gV wd_b959c18a wd_d7a504c3 wd_55347eca wd_4182e433 wd_0d22954f) ⟨rfl, hd_d22f4174⟩ ⟨(Nat.le_of_ble_eq_true rfl), (Nat.le_of_ble_eq_true rfl)⟩ hE hP hD hS [0, 1] rfl (by decide) rfl rfl rfl hl.1 rfl (Nat.le_of_ble_eq_true rfl) d_Row_addZeros_9 ⟨(Nat.le_of_ble_eq_true rfl), (Nat.le_of_ble_eq_true rfl)⟩) (fun uu91 H locs hw hP hD hS => ?_)
  have hP : va_P G.1 kb_cl [kb_o h 1 [.ref (uu65.1 0), .int 46], kb_a G (uu65.1 0) 64 (uu91.2 0)] H := hP
  have hD : va_D A [kb_o h 1 [.ref (uu65.1 0), .int 46], kb_a G (uu65.1 0) 64 (uu91.2 0)] := hD
  refine lv_iinc (v := 46) (lv' := [(2, .int 46), (0, .ref h), (1, .int 56)]) hx hb d_Row_addZeros_12 hl (k := 0) rfl (by decide) (by decide) rfl (fun ls hl => ?_)
  refine lv_goto (tgt := 2) hx hb d_Row_addZeros_15 (by decide) ?_
  refine lv_iload_n hx hb d_Row_addZeros_2 rfl (lv_at hl 0 rfl) ?_
  refine lv_iload_n hx hb d_Row_addZeros_3 rfl (lv_at hl 2 rfl) ?_
  refine lv_icmp_ge (tgt := 18) hx hb d_Row_addZeros_4 (by decide) (fun c9 => absurd c9 (by decide)) (fun c9 => ?_)
  refine lv_aload_n hx hb d_Row_addZeros_7 rfl (lv_at hl 1 rfl) ?_
  refine lv_iconst (v := 0) hx hb d_Row_addZeros_8 (by decide) ?_
  refine kb_v (wc := [kb_o h 1 [.ref (uu65.1 0), .int 46], kb_a G (uu65.1 0) 64 (uu91.2 0)]) (wr := []) hE hP hD hS [0, 1] [] rfl rfl (by decide) (by decide) (kb_rV (As := [.int 0]) (rest := []) (wc := [kb_o h 1 [.ref (uu65.1 0), .int 46], kb_a G (uu65.1 0) 64 (uu91.2 0)]) (q0 := 0) ⟨hx, hb, hml, hown, ht⟩ ((c_Row_add_w l G h (uu65.1 0) 46 64 (uu91.2 0) 0 (by omega) (by omega)) _) (kb_gV wd_b959c18a wd_d7a504c3 wd_55347eca wd_4182e433 wd_0d22954f) ⟨rfl, hd_d22f4174⟩ ⟨(Nat.le_of_ble_eq_true rfl), (Nat.le_of_ble_eq_true rfl)⟩ hE hP hD hS [0, 1] rfl (by decide) rfl rfl rfl hl.1 rfl (Nat.le_of_ble_eq_true rfl) d_Row_addZeros_9 ⟨(Nat.le_of_ble_eq_true rfl), (Nat.le_of_ble_eq_true rfl)⟩) (fun uu93 H locs hw hP hD hS => ?_)
  have hP : va_P G.1 kb_cl [kb_o h 1 [.ref (uu65.1 0), .int 47], kb_a G (uu65.1 0) 64 (uu93.2 0)] H := hP
  have hD : va_D A [kb_o h 1 [.ref (uu65.1 0), .int 47], kb_a G (uu65.1 0) 64 (uu93.2 0)] := hD
  refine lv_iinc (v := 47) (lv' := [(2, .int 47), (0, .ref h), (1, .int 56)]) hx hb d_Row_addZeros_12 hl (k := 0) rfl (by decide) (by decide) rfl (fun ls hl => ?_)
  refine lv_goto (tgt := 2) hx hb d_Row_addZeros_15 (by decide) ?_
  refine lv_iload_n hx hb d_Row_addZeros_2 rfl (lv_at hl 0 rfl) ?_
  refine lv_iload_n hx hb d_Row_addZeros_3 rfl (lv_at hl 2 rfl) ?_
  refine lv_icmp_ge (tgt := 18) hx hb d_Row_addZeros_4 (by decide) (fun c9 => absurd c9 (by decide)) (fun c9 => ?_)
  refine lv_aload_n hx hb d_Row_addZeros_7 rfl (lv_at hl 1 rfl) ?_
  refine lv_iconst (v := 0) hx hb d_Row_addZeros_8 (by decide) ?_
  refine kb_v (wc := [kb_o h 1 [.ref (uu65.1 0), .int 47], kb_a G (uu65.1 0) 64 (uu93.2 0)]) (wr := []) hE hP hD hS [0, 1] [] rfl rfl (by decide) (by decide) (kb_rV (As := [.int 0]) (rest := []) (wc := [kb_o h 1 [.ref (uu65.1 0), .int 47], kb_a G (uu65.1 0) 64 (uu93.2 0)]) (q0 := 0) ⟨hx, hb, hml, hown, ht⟩ ((c_Row_add_w l G h (uu65.1 0) 47 64 (uu93.2 0) 0 (by omega) (by omega)) _) (kb_gV wd_b959c18a wd_d7a504c3 wd_55347eca wd_4182e433 wd_0d22954f) ⟨rfl, hd_d22f4174⟩ ⟨(Nat.le_of_ble_eq_true rfl), (Nat.le_of_ble_eq_true rfl)⟩ hE hP hD hS [0, 1] rfl (by decide) rfl rfl rfl hl.1 rfl (Nat.le_of_ble_eq_true rfl) d_Row_addZeros_9 ⟨(Nat.le_of_ble_eq_true rfl), (Nat.le_of_ble_eq_true rfl)⟩) (fun uu95 H locs hw hP hD hS => ?_)
  have hP : va_P G.1 kb_cl [kb_o h 1 [.ref (uu65.1 0), .int 48], kb_a G (uu65.1 0) 64 (uu95.2 0)] H := hP
  have hD : va_D A [kb_o h 1 [.ref (uu65.1 0), .int 48], kb_a G (uu65.1 0) 64 (uu95.2 0)] := hD
  refine lv_iinc (v := 48) (lv' := [(2, .int 48), (0, .ref h), (1, .int 56)]) hx hb d_Row_addZeros_12 hl (k := 0) rfl (by decide) (by decide) rfl (fun ls hl => ?_)
  refine lv_goto (tgt := 2) hx hb d_Row_addZeros_15 (by decide) ?_
  refine lv_iload_n hx hb d_Row_addZeros_2 rfl (lv_at hl 0 rfl) ?_
  refine lv_iload_n hx hb d_Row_addZeros_3 rfl (lv_at hl 2 rfl) ?_
  refine lv_icmp_ge (tgt := 18) hx hb d_Row_addZeros_4 (by decide) (fun c9 => absurd c9 (by decide)) (fun c9 => ?_)
  refine lv_aload_n hx hb d_Row_addZeros_7 rfl (lv_at hl 1 rfl) ?_
  refine lv_iconst (v := 0) hx hb d_Row_addZeros_8 (by decide) ?_
  refine kb_v (wc := [kb_o h 1 [.ref (uu65.1 0), .int 48], kb_a G (uu65.1 0) 64 (uu95.2 0)]) (wr := []) hE hP hD hS [0, 1] [] rfl rfl (by decide) (by decide) (kb_rV (As := [.int 0]) (rest := []) (wc := [kb_o h 1 [.ref (uu65.1 0), .int 48], kb_a G (uu65.1 0) 64 (uu95.2 0)]) (q0 := 0) ⟨hx, hb, hml, hown, ht⟩ ((c_Row_add_w l G h (uu65.1 0) 48 64 (uu95.2 0) 0 (by omega) (by omega)) _) (kb_gV wd_b959c18a wd_d7a504c3 wd_55347eca wd_4182e433 wd_0d22954f) ⟨rfl, hd_d22f4174⟩ ⟨(Nat.le_of_ble_eq_true rfl), (Nat.le_of_ble_eq_true rfl)⟩ hE hP hD hS [0, 1] rfl (by decide) rfl rfl rfl hl.1 rfl (Nat.le_of_ble_eq_true rfl) d_Row_addZeros_9 ⟨(Nat.le_of_ble_eq_true rfl), (Nat.le_of_ble_eq_true rfl)⟩) (fun uu97 H locs hw hP hD hS => ?_)
  have hP : va_P G.1 kb_cl [kb_o h 1 [.ref (uu65.1 0), .int 49], kb_a G (uu65.1 0) 64 (uu97.2 0)] H := hP
  have hD : va_D A [kb_o h 1 [.ref (uu65.1 0), .int 49], kb_a G (uu65.1 0) 64 (uu97.2 0)] := hD
  refine lv_iinc (v := 49) (lv' := [(2, .int 49), (0, .ref h), (1, .int 56)]) hx hb d_Row_addZeros_12 hl (k := 0) rfl (by decide) (by decide) rfl (fun ls hl => ?_)
  refine lv_goto (tgt := 2) hx hb d_Row_addZeros_15 (by decide) ?_
  refine lv_iload_n hx hb d_Row_addZeros_2 rfl (lv_at hl 0 rfl) ?_
  refine lv_iload_n hx hb d_Row_addZeros_3 rfl (lv_at hl 2 rfl) ?_
  refine lv_icmp_ge (tgt := 18) hx hb d_Row_addZeros_4 (by decide) (fun c9 => absurd c9 (by decide)) (fun c9 => ?_)
  refine lv_aload_n hx hb d_Row_addZeros_7 rfl (lv_at hl 1 rfl) ?_
  refine lv_iconst (v := 0) hx hb d_Row_addZeros_8 (by decide) ?_
  refine kb_v (wc := [kb_o h 1 [.ref (uu65.1 0), .int 49], kb_a G (uu65.1 0) 64 (uu97.2 0)]) (wr := []) hE hP hD hS [0, 1] [] rfl rfl (by decide) (by decide) (kb_rV (As := [.int 0]) (rest := []) (wc := [kb_o h 1 [.ref (uu65.1 0), .int 49], kb_a G (uu65.1 0) 64 (uu97.2 0)]) (q0 := 0) ⟨hx, hb, hml, hown, ht⟩ ((c_Row_add_w l G h (uu65.1 0) 49 64 (uu97.2 0) 0 (by omega) (by omega)) _) (kb_gV wd_b959c18a wd_d7a504c3 wd_55347eca wd_4182e433 wd_0d22954f) ⟨rfl, hd_d22f4174⟩ ⟨(Nat.le_of_ble_eq_true rfl), (Nat.le_of_ble_eq_true rfl)⟩ hE hP hD hS [0, 1] rfl (by decide) rfl rfl rfl hl.1 rfl (Nat.le_of_ble_eq_true rfl) d_Row_addZeros_9 ⟨(Nat.le_of_ble_eq_true rfl), (Nat.le_of_ble_eq_true rfl)⟩) (fun uu99 H locs hw hP hD hS => ?_)
  have hP : va_P G.1 kb_cl [kb_o h 1 [.ref (uu65.1 0), .int 50], kb_a G (uu65.1 0) 64 (uu99.2 0)] H := hP
  have hD : va_D A [kb_o h 1 [.ref (uu65.1 0), .int 50], kb_a G (uu65.1 0) 64 (uu99.2 0)] := hD
  refine lv_iinc (v := 50) (lv' := [(2, .int 50), (0, .ref h), (1, .int 56)]) hx hb d_Row_addZeros_12 hl (k := 0) rfl (by decide) (by decide) rfl (fun ls hl => ?_)
  refine lv_goto (tgt := 2) hx hb d_Row_addZeros_15 (by decide) ?_
  refine lv_iload_n hx hb d_Row_addZeros_2 rfl (lv_at hl 0 rfl) ?_
  refine lv_iload_n hx hb d_Row_addZeros_3 rfl (lv_at hl 2 rfl) ?_
  refine lv_icmp_ge (tgt := 18) hx hb d_Row_addZeros_4 (by decide) (fun c9 => absurd c9 (by decide)) (fun c9 => ?_)
  refine lv_aload_n hx hb d_Row_addZeros_7 rfl (lv_at hl 1 rfl) ?_
  refine lv_iconst (v := 0) hx hb d_Row_addZeros_8 (by decide) ?_
  refine kb_v (wc := [kb_o h 1 [.ref (uu65.1 0), .int 50], kb_a G (uu65.1 0) 64 (uu99.2 0)]) (wr := []) hE hP hD hS [0, 1] [] rfl rfl (by decide) (by decide) (kb_rV (As := [.int 0]) (rest := []) (wc := [kb_o h 1 [.ref (uu65.1 0), .int 50], kb_a G (uu65.1 0) 64 (uu99.2 0)]) (q0 := 0) ⟨hx, hb, hml, hown, ht⟩ ((c_Row_add_w l G h (uu65.1 0) 50 64 (uu99.2 0) 0 (by omega) (by omega)) _) (kb_gV wd_b959c18a wd_d7a504c3 wd_55347eca wd_4182e433 wd_0d22954f) ⟨rfl, hd_d22f4174⟩ ⟨(Nat.le_of_ble_eq_true rfl), (Nat.le_of_ble_eq_true rfl)⟩ hE hP hD hS [0, 1] rfl (by decide) rfl rfl rfl hl.1 rfl (Nat.le_of_ble_eq_true rfl) d_Row_addZeros_9 ⟨(Nat.le_of_ble_eq_true rfl), (Nat.le_of_ble_eq_true rfl)⟩) (fun uu101 H locs hw hP hD hS => ?_)
  have hP : va_P G.1 kb_cl [kb_o h 1 [.ref (uu65.1 0), .int 51], kb_a G (uu65.1 0) 64 (uu101.2 0)] H := hP
  have hD : va_D A [kb_o h 1 [.ref (uu65.1 0), .int 51], kb_a G (uu65.1 0) 64 (uu101.2 0)] := hD
  refine lv_iinc (v := 51) (lv' := [(2, .int 51), (0, .ref h), (1, .int 56)]) hx hb d_Row_addZeros_12 hl (k := 0) rfl (by decide) (by decide) rfl (fun ls hl => ?_)
  refine lv_goto (tgt := 2) hx hb d_Row_addZeros_15 (by decide) ?_
  refine lv_iload_n hx hb d_Row_addZeros_2 rfl (lv_at hl 0 rfl) ?_
  refine lv_iload_n hx hb d_Row_addZeros_3 rfl (lv_at hl 2 rfl) ?_
  refine lv_icmp_ge (tgt := 18) hx hb d_Row_addZeros_4 (by decide) (fun c9 => absurd c9 (by decide)) (fun c9 => ?_)
  refine lv_aload_n hx hb d_Row_addZeros_7 rfl (lv_at hl 1 rfl) ?_
  refine lv_iconst (v := 0) hx hb d_Row_addZeros_8 (by decide) ?_
  refine kb_v (wc := [kb_o h 1 [.ref (uu65.1 0), .int 51], kb_a G (uu65.1 0) 64 (uu101.2 0)]) (wr := []) hE hP hD hS [0, 1] [] rfl rfl (by decide) (by decide) (kb_rV (As := [.int 0]) (rest := []) (wc := [kb_o h 1 [.ref (uu65.1 0), .int 51], kb_a G (uu65.1 0) 64 (uu101.2 0)]) (q0 := 0) ⟨hx, hb, hml, hown, ht⟩ ((c_Row_add_w l G h (uu65.1 0) 51 64 (uu101.2 0) 0 (by omega) (by omega)) _) (kb_gV wd_b959c18a wd_d7a504c3 wd_55347eca wd_4182e433 wd_0d22954f) ⟨rfl, hd_d22f4174⟩ ⟨(Nat.le_of_ble_eq_true rfl), (Nat.le_of_ble_eq_true rfl)⟩ hE hP hD hS [0, 1] rfl (by decide) rfl rfl rfl hl.1 rfl (Nat.le_of_ble_eq_true rfl) d_Row_addZeros_9 ⟨(Nat.le_of_ble_eq_true rfl), (Nat.le_of_ble_eq_true rfl)⟩) (fun uu103 H locs hw hP hD hS => ?_)
  have hP : va_P G.1 kb_cl [kb_o h 1 [.ref (uu65.1 0), .int 52], kb_a G (uu65.1 0) 64 (uu103.2 0)] H := hP
  have hD : va_D A [kb_o h 1 [.ref (uu65.1 0), .int 52], kb_a G (uu65.1 0) 64 (uu103.2 0)] := hD
  refine lv_iinc (v := 52) (lv' := [(2, .int 52), (0, .ref h), (1, .int 56)]) hx hb d_Row_addZeros_12 hl (k := 0) rfl (by decide) (by decide) rfl (fun ls hl => ?_)
  refine lv_goto (tgt := 2) hx hb d_Row_addZeros_15 (by decide) ?_
  refine lv_iload_n hx hb d_Row_addZeros_2 rfl (lv_at hl 0 rfl) ?_
  refine lv_iload_n hx hb d_Row_addZeros_3 rfl (lv_at hl 2 rfl) ?_
  refine lv_icmp_ge (tgt := 18) hx hb d_Row_addZeros_4 (by decide) (fun c9 => absurd c9 (by decide)) (fun c9 => ?_)
  refine lv_aload_n hx hb d_Row_addZeros_7 rfl (lv_at hl 1 rfl) ?_
  refine lv_iconst (v := 0) hx hb d_Row_addZeros_8 (by decide) ?_
  refine kb_v (wc := [kb_o h 1 [.ref (uu65.1 0), .int 52], kb_a G (uu65.1 0) 64 (uu103.2 0)]) (wr := []) hE hP hD hS [0, 1] [] rfl rfl (by decide) (by decide) (kb_rV (As := [.int 0]) (rest := []) (wc := [kb_o h 1 [.ref (uu65.1 0), .int 52], kb_a G (uu65.1 0) 64 (uu103.2 0)]) (q0 := 0) ⟨hx, hb, hml, hown, ht⟩ ((c_Row_add_w l G h (uu65.1 0) 52 64 (uu103.2 0) 0 (by omega) (by omega)) _) (kb_gV wd_b959c18a wd_d7a504c3 wd_55347eca wd_4182e433 wd_0d22954f) ⟨rfl, hd_d22f4174⟩ ⟨(Nat.le_of_ble_eq_true rfl), (Nat.le_of_ble_eq_true rfl)⟩ hE hP hD hS [0, 1] rfl (by decide) rfl rfl rfl hl.1 rfl (Nat.le_of_ble_eq_true rfl) d_Row_addZeros_9 ⟨(Nat.le_of_ble_eq_true rfl), (Nat.le_of_ble_eq_true rfl)⟩) (fun uu105 H locs hw hP hD hS => ?_)
  have hP : va_P G.1 kb_cl [kb_o h 1 [.ref (uu65.1 0), .int 53], kb_a G (uu65.1 0) 64 (uu105.2 0)] H := hP
  have hD : va_D A [kb_o h 1 [.ref (uu65.1 0), .int 53], kb_a G (uu65.1 0) 64 (uu105.2 0)] := hD
  refine lv_iinc (v := 53) (lv' := [(2, .int 53), (0, .ref h), (1, .int 56)]) hx hb d_Row_addZeros_12 hl (k := 0) rfl (by decide) (by decide) rfl (fun ls hl => ?_)
  refine lv_goto (tgt := 2) hx hb d_Row_addZeros_15 (by decide) ?_
  refine lv_iload_n hx hb d_Row_addZeros_2 rfl (lv_at hl 0 rfl) ?_
  refine lv_iload_n hx hb d_Row_addZeros_3 rfl (lv_at hl 2 rfl) ?_
  refine lv_icmp_ge (tgt := 18) hx hb d_Row_addZeros_4 (by decide) (fun c9 => absurd c9 (by decide)) (fun c9 => ?_)
  refine lv_aload_n hx hb d_Row_addZeros_7 rfl (lv_at hl 1 rfl) ?_
  refine lv_iconst (v := 0) hx hb d_Row_addZeros_8 (by decide) ?_
  refine kb_v (wc := [kb_o h 1 [.ref (uu65.1 0), .int 53], kb_a G (uu65.1 0) 64 (uu105.2 0)]) (wr := []) hE hP hD hS [0, 1] [] rfl rfl (by decide) (by decide) (kb_rV (As := [.int 0]) (rest := []) (wc := [kb_o h 1 [.ref (uu65.1 0), .int 53], kb_a G (uu65.1 0) 64 (uu105.2 0)]) (q0 := 0) ⟨hx, hb, hml, hown, ht⟩ ((c_Row_add_w l G h (uu65.1 0) 53 64 (uu105.2 0) 0 (by omega) (by omega)) _) (kb_gV wd_b959c18a wd_d7a504c3 wd_55347eca wd_4182e433 wd_0d22954f) ⟨rfl, hd_d22f4174⟩ ⟨(Nat.le_of_ble_eq_true rfl), (Nat.le_of_ble_eq_true rfl)⟩ hE hP hD hS [0, 1] rfl (by decide) rfl rfl rfl hl.1 rfl (Nat.le_of_ble_eq_true rfl) d_Row_addZeros_9 ⟨(Nat.le_of_ble_eq_true rfl), (Nat.le_of_ble_eq_true rfl)⟩) (fun uu107 H locs hw hP hD hS => ?_)
  have hP : va_P G.1 kb_cl [kb_o h 1 [.ref (uu65.1 0), .int 54], kb_a G (uu65.1 0) 64 (uu107.2 0)] H := hP
  have hD : va_D A [kb_o h 1 [.ref (uu65.1 0), .int 54], kb_a G (uu65.1 0) 64 (uu107.2 0)] := hD
  refine lv_iinc (v := 54) (lv' := [(2, .int 54), (0, .ref h), (1, .int 56)]) hx hb d_Row_addZeros_12 hl (k := 0) rfl (by decide) (by decide) rfl (fun ls hl => ?_)
  refine lv_goto (tgt := 2) hx hb d_Row_addZeros_15 (by decide) ?_
  refine lv_iload_n hx hb d_Row_addZeros_2 rfl (lv_at hl 0 rfl) ?_
  refine lv_iload_n hx hb d_Row_addZeros_3 rfl (lv_at hl 2 rfl) ?_
  refine lv_icmp_ge (tgt := 18) hx hb d_Row_addZeros_4 (by decide) (fun c9 => absurd c9 (by decide)) (fun c9 => ?_)
  refine lv_aload_n hx hb d_Row_addZeros_7 rfl (lv_at hl 1 rfl) ?_
  refine lv_iconst (v := 0) hx hb d_Row_addZeros_8 (by decide) ?_
  refine kb_v (wc := [kb_o h 1 [.ref (uu65.1 0), .int 54], kb_a G (uu65.1 0) 64 (uu107.2 0)]) (wr := []) hE hP hD hS [0, 1] [] rfl rfl (by decide) (by decide) (kb_rV (As := [.int 0]) (rest := []) (wc := [kb_o h 1 [.ref (uu65.1 0), .int 54], kb_a G (uu65.1 0) 64 (uu107.2 0)]) (q0 := 0) ⟨hx, hb, hml, hown, ht⟩ ((c_Row_add_w l G h (uu65.1 0) 54 64 (uu107.2 0) 0 (by omega) (by omega)) _) (kb_gV wd_b959c18a wd_d7a504c3 wd_55347eca wd_4182e433 wd_0d22954f) ⟨rfl, hd_d22f4174⟩ ⟨(Nat.le_of_ble_eq_true rfl), (Nat.le_of_ble_eq_true rfl)⟩ hE hP hD hS [0, 1] rfl (by decide) rfl rfl rfl hl.1 rfl (Nat.le_of_ble_eq_true rfl) d_Row_addZeros_9 ⟨(Nat.le_of_ble_eq_true rfl), (Nat.le_of_ble_eq_true rfl)⟩) (fun uu109 H locs hw hP hD hS => ?_)
  have hP : va_P G.1 kb_cl [kb_o h 1 [.ref (uu65.1 0), .int 55], kb_a G (uu65.1 0) 64 (uu109.2 0)] H := hP
  have hD : va_D A [kb_o h 1 [.ref (uu65.1 0), .int 55], kb_a G (uu65.1 0) 64 (uu109.2 0)] := hD
  refine lv_iinc (v := 55) (lv' := [(2, .int 55), (0, .ref h), (1, .int 56)]) hx hb d_Row_addZeros_12 hl (k := 0) rfl (by decide) (by decide) rfl (fun ls hl => ?_)
  refine lv_goto (tgt := 2) hx hb d_Row_addZeros_15 (by decide) ?_
  refine lv_iload_n hx hb d_Row_addZeros_2 rfl (lv_at hl 0 rfl) ?_
  refine lv_iload_n hx hb d_Row_addZeros_3 rfl (lv_at hl 2 rfl) ?_
  refine lv_icmp_ge (tgt := 18) hx hb d_Row_addZeros_4 (by decide) (fun c9 => absurd c9 (by decide)) (fun c9 => ?_)
  refine lv_aload_n hx hb d_Row_addZeros_7 rfl (lv_at hl 1 rfl) ?_
  refine lv_iconst (v := 0) hx hb d_Row_addZeros_8 (by decide) ?_
  refine kb_v (wc := [kb_o h 1 [.ref (uu65.1 0), .int 55], kb_a G (uu65.1 0) 64 (uu109.2 0)]) (wr := []) hE hP hD hS [0, 1] [] rfl rfl (by decide) (by decide) (kb_rV (As := [.int 0]) (rest := []) (wc := [kb_o h 1 [.ref (uu65.1 0), .int 55], kb_a G (uu65.1 0) 64 (uu109.2 0)]) (q0 := 0) ⟨hx, hb, hml, hown, ht⟩ ((c_Row_add_w l G h (uu65.1 0) 55 64 (uu109.2 0) 0 (by omega) (by omega)) _) (kb_gV wd_b959c18a wd_d7a504c3 wd_55347eca wd_4182e433 wd_0d22954f) ⟨rfl, hd_d22f4174⟩ ⟨(Nat.le_of_ble_eq_true rfl), (Nat.le_of_ble_eq_true rfl)⟩ hE hP hD hS [0, 1] rfl (by decide) rfl rfl rfl hl.1 rfl (Nat.le_of_ble_eq_true rfl) d_Row_addZeros_9 ⟨(Nat.le_of_ble_eq_true rfl), (Nat.le_of_ble_eq_true rfl)⟩) (fun uu111 H locs hw hP hD hS => ?_)
  have hP : va_P G.1 kb_cl [kb_o h 1 [.ref (uu65.1 0), .int 56], kb_a G (uu65.1 0) 64 (uu111.2 0)] H := hP
  have hD : va_D A [kb_o h 1 [.ref (uu65.1 0), .int 56], kb_a G (uu65.1 0) 64 (uu111.2 0)] := hD
  refine lv_iinc (v := 56) (lv' := [(2, .int 56), (0, .ref h), (1, .int 56)]) hx hb d_Row_addZeros_12 hl (k := 0) rfl (by decide) (by decide) rfl (fun ls hl => ?_)
  refine lv_goto (tgt := 2) hx hb d_Row_addZeros_15 (by decide) ?_
  refine lv_iload_n hx hb d_Row_addZeros_2 rfl (lv_at hl 0 rfl) ?_
  refine lv_iload_n hx hb d_Row_addZeros_3 rfl (lv_at hl 2 rfl) ?_
  refine lv_icmp_ge (tgt := 18) hx hb d_Row_addZeros_4 (by decide) (fun c9 => ?_) (fun c9 => absurd (by decide) c9)
  exact kb_retv (kb_l [uu65.1 0], kb_f [uu111.2 0]) hx hb hr hlocks hE hP hD hS [0, 1] rfl (by decide) rfl trivial (Nat.le_of_ble_eq_true rfl) (Nat.le_of_ble_eq_true rfl) d_Row_addZeros_18

set_option maxHeartbeats 4000000 in
set_option maxRecDepth 100000 in
theorem c_Row_putNumber (l : Launch) (G : kb_G) (h : Nat) (a : Nat) (j : Nat) (f : Nat → Int32) (x : Int32) (hj : j + 4 ≤ 72) : kb_cv l G ⟨"TreePress$Row", "putNumber", "(II)V"⟩ prog_3_method_10_code 4 2 0 0 [.ref h, .int (nI j), .int x] [kb_o h 1 [.ref a, .int 72], kb_a G a 128 f] (fun u => True) (fun u => [kb_o h 1 [.ref a, .int 72], kb_a G a 128 (u.2 0)]) := by
  intro sz
  refine kb_body (QQ := fun A => kb_Qv G A (fun u => True) (fun u => [kb_o h 1 [.ref a, .int 72], kb_a G a 128 (u.2 0)])) (by decide) (Nat.le_of_ble_eq_true rfl) ?_
  intro p e s m below meth c A B ls hl
  obtain ⟨hx, hb, hr, hml, hlocks, hin, hown, ht, hE, hP, hD, hS⟩ := B
  have hl : lv_has ls 4 [(0, .ref h), (1, .int (nI j)), (2, .int x)] := hl
  have hP0 := hP
  obtain ⟨H, hHe⟩ : ∃ H, H = s.heap := ⟨_, rfl⟩
  rw [← hHe] at hP
  have hS : va_S A s.heap H [] := by rw [hHe]; exact hS
  refine kb_at hHe ?_
  clear hHe
  refine lv_iconst (v := 0) hx hb d_Row_putNumber_0 (by decide) ?_
  refine lv_istore_n (lv' := [(3, .int 0), (0, .ref h), (1, .int (nI j)), (2, .int x)]) hx hb d_Row_putNumber_1 rfl hl (by decide) rfl (fun ls hl => ?_)
  refine lv_iload_n hx hb d_Row_putNumber_2 rfl (lv_at hl 0 rfl) ?_
  refine lv_iconst (v := 4) hx hb d_Row_putNumber_3 (by decide) ?_
  refine lv_icmp_ge (tgt := 33) hx hb d_Row_putNumber_4 (by decide) (fun c9 => absurd c9 (by decide)) (fun c9 => ?_)
  refine lv_aload_n hx hb d_Row_putNumber_7 rfl (lv_at hl 1 rfl) ?_
  refine lv_iload_n hx hb d_Row_putNumber_8 rfl (lv_at hl 2 rfl) ?_
  refine lv_iload_n hx hb d_Row_putNumber_9 rfl (lv_at hl 0 rfl) ?_
  refine lv_iadd hx hb d_Row_putNumber_10 ?_
  refine kb_top (y := nI (j + 0)) (nI_add j 0) ?_
  refine lv_iload_n hx hb d_Row_putNumber_11 rfl (lv_at hl 3 rfl) ?_
  refine lv_bipush (v := 24) hx hb d_Row_putNumber_12 (by decide) ?_
  refine lv_bipush (v := 8) hx hb d_Row_putNumber_14 (by decide) ?_
  refine lv_iload_n hx hb d_Row_putNumber_16 rfl (lv_at hl 0 rfl) ?_
  refine lv_imul hx hb d_Row_putNumber_17 ?_
  refine kb_top (y := 0) (by decide) ?_
  refine lv_isub hx hb d_Row_putNumber_18 ?_
  refine kb_top (y := 24) (by decide) ?_
  refine lv_iushr (v := ((x : Int32).toUInt32 >>> ((24 : Int32).toUInt32 &&& Int32.toUInt32 31)).toInt32) hx hb d_Row_putNumber_19 rfl ?_
  refine lv_sipush (v := 255) hx hb d_Row_putNumber_20 (by decide) ?_
  refine lv_iand hx hb d_Row_putNumber_23 ?_
  refine kb_v (wc := [kb_o h 1 [.ref a, .int 72], kb_a G a 128 f]) (wr := []) hE hP hD hS [0, 1] [] rfl rfl (by decide) (by decide) (kb_rV (As := [.int (nI (j + 0)), .int ((((x : Int32).toUInt32 >>> ((24 : Int32).toUInt32 &&& Int32.toUInt32 31)).toInt32) &&& 255)]) (rest := []) (wc := [kb_o h 1 [.ref a, .int 72], kb_a G a 128 f]) (q0 := 0) ⟨hx, hb, hml, hown, ht⟩ ((c_Row_put l G h a (j + 0) f ((((x : Int32).toUInt32 >>> ((24 : Int32).toUInt32 &&& Int32.toUInt32 31)).toInt32) &&& 255) (by omega)) _) (kb_gV wd_fb9083d2 wd_b3824346 wd_43c38e26 wd_4182e433 wd_a447a7d7) ⟨rfl, hd_d300f370⟩ ⟨(Nat.le_of_ble_eq_true rfl), (Nat.le_of_ble_eq_true rfl)⟩ hE hP hD hS [0, 1] rfl (by decide) rfl rfl rfl hl.1 rfl (Nat.le_of_ble_eq_true rfl) d_Row_putNumber_24 ⟨(Nat.le_of_ble_eq_true rfl), (Nat.le_of_ble_eq_true rfl)⟩) (fun uu1 H locs hw hP hD hS => ?_)
  have hP : va_P G.1 kb_cl [kb_o h 1 [.ref a, .int 72], kb_a G a 128 (uu1.2 0)] H := hP
  have hD : va_D A [kb_o h 1 [.ref a, .int 72], kb_a G a 128 (uu1.2 0)] := hD
  refine lv_iinc (v := 1) (lv' := [(3, .int 1), (0, .ref h), (1, .int (nI j)), (2, .int x)]) hx hb d_Row_putNumber_27 hl (k := 0) rfl (by decide) (by decide) rfl (fun ls hl => ?_)
  refine lv_goto (tgt := 2) hx hb d_Row_putNumber_30 (by decide) ?_
  refine lv_iload_n hx hb d_Row_putNumber_2 rfl (lv_at hl 0 rfl) ?_
  refine lv_iconst (v := 4) hx hb d_Row_putNumber_3 (by decide) ?_
  refine lv_icmp_ge (tgt := 33) hx hb d_Row_putNumber_4 (by decide) (fun c9 => absurd c9 (by decide)) (fun c9 => ?_)
  refine lv_aload_n hx hb d_Row_putNumber_7 rfl (lv_at hl 1 rfl) ?_
  refine lv_iload_n hx hb d_Row_putNumber_8 rfl (lv_at hl 2 rfl) ?_
  refine lv_iload_n hx hb d_Row_putNumber_9 rfl (lv_at hl 0 rfl) ?_
  refine lv_iadd hx hb d_Row_putNumber_10 ?_
  refine kb_top (y := nI (j + 1)) (nI_add j 1) ?_
  refine lv_iload_n hx hb d_Row_putNumber_11 rfl (lv_at hl 3 rfl) ?_
  refine lv_bipush (v := 24) hx hb d_Row_putNumber_12 (by decide) ?_
  refine lv_bipush (v := 8) hx hb d_Row_putNumber_14 (by decide) ?_
  refine lv_iload_n hx hb d_Row_putNumber_16 rfl (lv_at hl 0 rfl) ?_
  refine lv_imul hx hb d_Row_putNumber_17 ?_
  refine kb_top (y := 8) (by decide) ?_
  refine lv_isub hx hb d_Row_putNumber_18 ?_
  refine kb_top (y := 16) (by decide) ?_
  refine lv_iushr (v := ((x : Int32).toUInt32 >>> ((16 : Int32).toUInt32 &&& Int32.toUInt32 31)).toInt32) hx hb d_Row_putNumber_19 rfl ?_
  refine lv_sipush (v := 255) hx hb d_Row_putNumber_20 (by decide) ?_
  refine lv_iand hx hb d_Row_putNumber_23 ?_
  refine kb_v (wc := [kb_o h 1 [.ref a, .int 72], kb_a G a 128 (uu1.2 0)]) (wr := []) hE hP hD hS [0, 1] [] rfl rfl (by decide) (by decide) (kb_rV (As := [.int (nI (j + 1)), .int ((((x : Int32).toUInt32 >>> ((16 : Int32).toUInt32 &&& Int32.toUInt32 31)).toInt32) &&& 255)]) (rest := []) (wc := [kb_o h 1 [.ref a, .int 72], kb_a G a 128 (uu1.2 0)]) (q0 := 0) ⟨hx, hb, hml, hown, ht⟩ ((c_Row_put l G h a (j + 1) (uu1.2 0) ((((x : Int32).toUInt32 >>> ((16 : Int32).toUInt32 &&& Int32.toUInt32 31)).toInt32) &&& 255) (by omega)) _) (kb_gV wd_fb9083d2 wd_b3824346 wd_43c38e26 wd_4182e433 wd_a447a7d7) ⟨rfl, hd_d300f370⟩ ⟨(Nat.le_of_ble_eq_true rfl), (Nat.le_of_ble_eq_true rfl)⟩ hE hP hD hS [0, 1] rfl (by decide) rfl rfl rfl hl.1 rfl (Nat.le_of_ble_eq_true rfl) d_Row_putNumber_24 ⟨(Nat.le_of_ble_eq_true rfl), (Nat.le_of_ble_eq_true rfl)⟩) (fun uu3 H locs hw hP hD hS => ?_)
  have hP : va_P G.1 kb_cl [kb_o h 1 [.ref a, .int 72], kb_a G a 128 (uu3.2 0)] H := hP
  have hD : va_D A [kb_o h 1 [.ref a, .int 72], kb_a G a 128 (uu3.2 0)] := hD
  refine lv_iinc (v := 2) (lv' := [(3, .int 2), (0, .ref h), (1, .int (nI j)), (2, .int x)]) hx hb d_Row_putNumber_27 hl (k := 0) rfl (by decide) (by decide) rfl (fun ls hl => ?_)
  refine lv_goto (tgt := 2) hx hb d_Row_putNumber_30 (by decide) ?_
  refine lv_iload_n hx hb d_Row_putNumber_2 rfl (lv_at hl 0 rfl) ?_
  refine lv_iconst (v := 4) hx hb d_Row_putNumber_3 (by decide) ?_
  refine lv_icmp_ge (tgt := 33) hx hb d_Row_putNumber_4 (by decide) (fun c9 => absurd c9 (by decide)) (fun c9 => ?_)
  refine lv_aload_n hx hb d_Row_putNumber_7 rfl (lv_at hl 1 rfl) ?_
  refine lv_iload_n hx hb d_Row_putNumber_8 rfl (lv_at hl 2 rfl) ?_
  refine lv_iload_n hx hb d_Row_putNumber_9 rfl (lv_at hl 0 rfl) ?_
  refine lv_iadd hx hb d_Row_putNumber_10 ?_
  refine kb_top (y := nI (j + 2)) (nI_add j 2) ?_
  refine lv_iload_n hx hb d_Row_putNumber_11 rfl (lv_at hl 3 rfl) ?_
  refine lv_bipush (v := 24) hx hb d_Row_putNumber_12 (by decide) ?_
  refine lv_bipush (v := 8) hx hb d_Row_putNumber_14 (by decide) ?_
  refine lv_iload_n hx hb d_Row_putNumber_16 rfl (lv_at hl 0 rfl) ?_
  refine lv_imul hx hb d_Row_putNumber_17 ?_
  refine kb_top (y := 16) (by decide) ?_
  refine lv_isub hx hb d_Row_putNumber_18 ?_
  refine kb_top (y := 8) (by decide) ?_
  refine lv_iushr (v := ((x : Int32).toUInt32 >>> ((8 : Int32).toUInt32 &&& Int32.toUInt32 31)).toInt32) hx hb d_Row_putNumber_19 rfl ?_
  refine lv_sipush (v := 255) hx hb d_Row_putNumber_20 (by decide) ?_
  refine lv_iand hx hb d_Row_putNumber_23 ?_
  refine kb_v (wc := [kb_o h 1 [.ref a, .int 72], kb_a G a 128 (uu3.2 0)]) (wr := []) hE hP hD hS [0, 1] [] rfl rfl (by decide) (by decide) (kb_rV (As := [.int (nI (j + 2)), .int ((((x : Int32).toUInt32 >>> ((8 : Int32).toUInt32 &&& Int32.toUInt32 31)).toInt32) &&& 255)]) (rest := []) (wc := [kb_o h 1 [.ref a, .int 72], kb_a G a 128 (uu3.2 0)]) (q0 := 0) ⟨hx, hb, hml, hown, ht⟩ ((c_Row_put l G h a (j + 2) (uu3.2 0) ((((x : Int32).toUInt32 >>> ((8 : Int32).toUInt32 &&& Int32.toUInt32 31)).toInt32) &&& 255) (by omega)) _) (kb_gV wd_fb9083d2 wd_b3824346 wd_43c38e26 wd_4182e433 wd_a447a7d7) ⟨rfl, hd_d300f370⟩ ⟨(Nat.le_of_ble_eq_true rfl), (Nat.le_of_ble_eq_true rfl)⟩ hE hP hD hS [0, 1] rfl (by decide) rfl rfl rfl hl.1 rfl (Nat.le_of_ble_eq_true rfl) d_Row_putNumber_24 ⟨(Nat.le_of_ble_eq_true rfl), (Nat.le_of_ble_eq_true rfl)⟩) (fun uu5 H locs hw hP hD hS => ?_)
  have hP : va_P G.1 kb_cl [kb_o h 1 [.ref a, .int 72], kb_a G a 128 (uu5.2 0)] H := hP
  have hD : va_D A [kb_o h 1 [.ref a, .int 72], kb_a G a 128 (uu5.2 0)] := hD
  refine lv_iinc (v := 3) (lv' := [(3, .int 3), (0, .ref h), (1, .int (nI j)), (2, .int x)]) hx hb d_Row_putNumber_27 hl (k := 0) rfl (by decide) (by decide) rfl (fun ls hl => ?_)
  refine lv_goto (tgt := 2) hx hb d_Row_putNumber_30 (by decide) ?_
  refine lv_iload_n hx hb d_Row_putNumber_2 rfl (lv_at hl 0 rfl) ?_
  refine lv_iconst (v := 4) hx hb d_Row_putNumber_3 (by decide) ?_
  refine lv_icmp_ge (tgt := 33) hx hb d_Row_putNumber_4 (by decide) (fun c9 => absurd c9 (by decide)) (fun c9 => ?_)
  refine lv_aload_n hx hb d_Row_putNumber_7 rfl (lv_at hl 1 rfl) ?_
  refine lv_iload_n hx hb d_Row_putNumber_8 rfl (lv_at hl 2 rfl) ?_
  refine lv_iload_n hx hb d_Row_putNumber_9 rfl (lv_at hl 0 rfl) ?_
  refine lv_iadd hx hb d_Row_putNumber_10 ?_
  refine kb_top (y := nI (j + 3)) (nI_add j 3) ?_
  refine lv_iload_n hx hb d_Row_putNumber_11 rfl (lv_at hl 3 rfl) ?_
  refine lv_bipush (v := 24) hx hb d_Row_putNumber_12 (by decide) ?_
  refine lv_bipush (v := 8) hx hb d_Row_putNumber_14 (by decide) ?_
  refine lv_iload_n hx hb d_Row_putNumber_16 rfl (lv_at hl 0 rfl) ?_
  refine lv_imul hx hb d_Row_putNumber_17 ?_
  refine kb_top (y := 24) (by decide) ?_
  refine lv_isub hx hb d_Row_putNumber_18 ?_
  refine kb_top (y := 0) (by decide) ?_
  refine lv_iushr (v := ((x : Int32).toUInt32 >>> ((0 : Int32).toUInt32 &&& Int32.toUInt32 31)).toInt32) hx hb d_Row_putNumber_19 rfl ?_
  refine lv_sipush (v := 255) hx hb d_Row_putNumber_20 (by decide) ?_
  refine lv_iand hx hb d_Row_putNumber_23 ?_
  refine kb_v (wc := [kb_o h 1 [.ref a, .int 72], kb_a G a 128 (uu5.2 0)]) (wr := []) hE hP hD hS [0, 1] [] rfl rfl (by decide) (by decide) (kb_rV (As := [.int (nI (j + 3)), .int ((((x : Int32).toUInt32 >>> ((0 : Int32).toUInt32 &&& Int32.toUInt32 31)).toInt32) &&& 255)]) (rest := []) (wc := [kb_o h 1 [.ref a, .int 72], kb_a G a 128 (uu5.2 0)]) (q0 := 0) ⟨hx, hb, hml, hown, ht⟩ ((c_Row_put l G h a (j + 3) (uu5.2 0) ((((x : Int32).toUInt32 >>> ((0 : Int32).toUInt32 &&& Int32.toUInt32 31)).toInt32) &&& 255) (by omega)) _) (kb_gV wd_fb9083d2 wd_b3824346 wd_43c38e26 wd_4182e433 wd_a447a7d7) ⟨rfl, hd_d300f370⟩ ⟨(Nat.le_of_ble_eq_true rfl), (Nat.le_of_ble_eq_true rfl)⟩ hE hP hD hS [0, 1] rfl (by decide) rfl rfl rfl hl.1 rfl (Nat.le_of_ble_eq_true rfl) d_Row_putNumber_24 ⟨(Nat.le_of_ble_eq_true rfl), (Nat.le_of_ble_eq_true rfl)⟩) (fun uu7 H locs hw hP hD hS => ?_)
  have hP : va_P G.1 kb_cl [kb_o h 1 [.ref a, .int 72], kb_a G a 128 (uu7.2 0)] H := hP
  have hD : va_D A [kb_o h 1 [.ref a, .int 72], kb_a G a 128 (uu7.2 0)] := hD
  refine lv_iinc (v := 4) (lv' := [(3, .int 4), (0, .ref h), (1, .int (nI j)), (2, .int x)]) hx hb d_Row_putNumber_27 hl (k := 0) rfl (by decide) (by decide) rfl (fun ls hl => ?_)
  refine lv_goto (tgt := 2) hx hb d_Row_putNumber_30 (by decide) ?_
  refine lv_iload_n hx hb d_Row_putNumber_2 rfl (lv_at hl 0 rfl) ?_
  refine lv_iconst (v := 4) hx hb d_Row_putNumber_3 (by decide) ?_
  refine lv_icmp_ge (tgt := 33) hx hb d_Row_putNumber_4 (by decide) (fun c9 => ?_) (fun c9 => absurd (by decide) c9)
  exact kb_retv (kb_l [], kb_f [uu7.2 0]) hx hb hr hlocks hE hP hD hS [0, 1] rfl (by decide) rfl trivial (Nat.le_of_ble_eq_true rfl) (Nat.le_of_ble_eq_true rfl) d_Row_putNumber_33

set_option maxHeartbeats 4000000 in
set_option maxRecDepth 100000 in
theorem c_Row_hasName_no (l : Launch) (G : kb_G) (h : Nat) (a : Nat) (v : Int32) (x : Int32) (k : Int32) (hk : k < 1) : kb_ci l G ⟨"TreePress$Row", "hasName", "(II)Z"⟩ prog_3_method_12_code 3 (some .boolean) 1 0 0 [.ref h, .int x, .int k] [kb_o h 1 [.ref a, .int v]] (fun r u => r = 0) (fun u => [kb_o h 1 [.ref a, .int v]]) := by
  intro sz
  refine kb_body (QQ := fun A => kb_Qi G A (fun r u => r = 0) (fun u => [kb_o h 1 [.ref a, .int v]])) (by decide) (Nat.le_of_ble_eq_true rfl) ?_
  intro p e s m below meth c A B ls hl
  obtain ⟨hx, hb, hr, hml, hlocks, hin, hown, ht, hE, hP, hD, hS⟩ := B
  have hl : lv_has ls 3 [(0, .ref h), (1, .int x), (2, .int k)] := hl
  have hP0 := hP
  obtain ⟨H, hHe⟩ : ∃ H, H = s.heap := ⟨_, rfl⟩
  rw [← hHe] at hP
  have hS : va_S A s.heap H [] := by rw [hHe]; exact hS
  refine kb_at hHe ?_
  clear hHe
  refine lv_iload_n hx hb d_Row_hasName_0 rfl (lv_at hl 2 rfl) ?_
  refine lv_iconst (v := 1) hx hb d_Row_hasName_1 (by decide) ?_
  refine lv_icmp_lt (tgt := 11) hx hb d_Row_hasName_2 (by decide) (fun c9 => ?_) (fun c9 => False.elim (by have e0 : (k : Int32).toInt < (1 : Int32).toInt := Int32.lt_iff_toInt_lt.mp hk; have e1 : ¬ (k : Int32).toInt < (1 : Int32).toInt := fun z9 => c9 (Int32.lt_iff_toInt_lt.mpr z9); have k0 : (1 : Int32).toInt = 1 := rfl; omega))
  refine lv_iconst (v := 0) hx hb d_Row_hasName_11 (by decide) ?_
  exact kb_retz (kb_l [], kb_f []) hx hb hr rfl hlocks hE hP hD hS [0] rfl (by decide) rfl rfl (Nat.le_of_ble_eq_true rfl) (Nat.le_of_ble_eq_true rfl) d_Row_hasName_12
