section
-- ===== PART A: goes FIRST, ahead of the names: the tables' words, and 'selects' of the private methods out of them =====
/-- a private method of a class that the tables say can be made, by its rows of tables_1 -/
def lw_okq (q : MethodName × Nat) : Prop := (q.1.cls ≠ "java/lang/invoke/MethodHandle" ∧ q.1.cls ≠ "java/lang/invoke/VarHandle") ∧ Cond.instantiable q.1.cls q.2 ∈ tables_1 ∧ Cond.privateMethod q.1 ∈ tables_1 ∧ Cond.instanceMethod q.1 ∈ tables_1
theorem lw_p0 : lw_okq (⟨"TreePress$Tree", "layNode", "(LTreePress$Row;I)V"⟩, 14) := ⟨⟨by decide +kernel, by decide +kernel⟩, List.mem_of_getElem? (i := 57) (by decide +kernel), List.mem_of_getElem? (i := 196) (by decide +kernel), List.mem_of_getElem? (i := 197) (by decide +kernel)⟩
theorem lw_p1 : lw_okq (⟨"TreePress$Tree", "layProperty", "(LTreePress$Row;I)V"⟩, 14) := ⟨⟨by decide +kernel, by decide +kernel⟩, List.mem_of_getElem? (i := 57) (by decide +kernel), List.mem_of_getElem? (i := 219) (by decide +kernel), List.mem_of_getElem? (i := 220) (by decide +kernel)⟩
theorem lw_p2 : lw_okq (⟨"TreePress$Tree", "startOfValue", "(I)I"⟩, 14) := ⟨⟨by decide +kernel, by decide +kernel⟩, List.mem_of_getElem? (i := 57) (by decide +kernel), List.mem_of_getElem? (i := 227) (by decide +kernel), List.mem_of_getElem? (i := 228) (by decide +kernel)⟩
theorem lw_p3 : lw_okq (⟨"TreePress$Tree", "layEndsBehind", "(LTreePress$Row;I)V"⟩, 14) := ⟨⟨by decide +kernel, by decide +kernel⟩, List.mem_of_getElem? (i := 57) (by decide +kernel), List.mem_of_getElem? (i := 231) (by decide +kernel), List.mem_of_getElem? (i := 232) (by decide +kernel)⟩
theorem lw_p4 : lw_okq (⟨"TreePress$Tree", "layNames", "(LTreePress$Row;)V"⟩, 14) := ⟨⟨by decide +kernel, by decide +kernel⟩, List.mem_of_getElem? (i := 57) (by decide +kernel), List.mem_of_getElem? (i := 235) (by decide +kernel), List.mem_of_getElem? (i := 236) (by decide +kernel)⟩
theorem lw_p5 : lw_okq (⟨"TreePress$Tree", "layHead", "(LTreePress$Row;I)V"⟩, 14) := ⟨⟨by decide +kernel, by decide +kernel⟩, List.mem_of_getElem? (i := 57) (by decide +kernel), List.mem_of_getElem? (i := 243) (by decide +kernel), List.mem_of_getElem? (i := 244) (by decide +kernel)⟩
theorem lw_p6 : lw_okq (⟨"TreePress$Reader", "failureOfZeros", "(LTreePress$Row;II)I"⟩, 4) := ⟨⟨by decide +kernel, by decide +kernel⟩, List.mem_of_getElem? (i := 38) (by decide +kernel), List.mem_of_getElem? (i := 280) (by decide +kernel), List.mem_of_getElem? (i := 281) (by decide +kernel)⟩
theorem lw_p7 : lw_okq (⟨"TreePress$Reader", "passOver", "()I"⟩, 4) := ⟨⟨by decide +kernel, by decide +kernel⟩, List.mem_of_getElem? (i := 38) (by decide +kernel), List.mem_of_getElem? (i := 294) (by decide +kernel), List.mem_of_getElem? (i := 295) (by decide +kernel)⟩
theorem lw_p8 : lw_okq (⟨"TreePress$Reader", "failureOfFirstNode", "(LTreePress$Row;)I"⟩, 4) := ⟨⟨by decide +kernel, by decide +kernel⟩, List.mem_of_getElem? (i := 38) (by decide +kernel), List.mem_of_getElem? (i := 298) (by decide +kernel), List.mem_of_getElem? (i := 299) (by decide +kernel)⟩
theorem lw_p9 : lw_okq (⟨"TreePress$Reader", "failureBehindLast", "()I"⟩, 4) := ⟨⟨by decide +kernel, by decide +kernel⟩, List.mem_of_getElem? (i := 38) (by decide +kernel), List.mem_of_getElem? (i := 304) (by decide +kernel), List.mem_of_getElem? (i := 305) (by decide +kernel)⟩
theorem lw_p10 : lw_okq (⟨"TreePress$Reader", "failureOfNode", "(LTreePress$Row;LTreePress$Tree;)I"⟩, 4) := ⟨⟨by decide +kernel, by decide +kernel⟩, List.mem_of_getElem? (i := 38) (by decide +kernel), List.mem_of_getElem? (i := 308) (by decide +kernel), List.mem_of_getElem? (i := 309) (by decide +kernel)⟩
theorem lw_p11 : lw_okq (⟨"TreePress$Reader", "failureOfProperty", "(LTreePress$Row;LTreePress$Tree;)I"⟩, 4) := ⟨⟨by decide +kernel, by decide +kernel⟩, List.mem_of_getElem? (i := 38) (by decide +kernel), List.mem_of_getElem? (i := 329) (by decide +kernel), List.mem_of_getElem? (i := 330) (by decide +kernel)⟩
theorem lw_p12 : lw_okq (⟨"TreePress$Tree", "firstNamed", "(IILTreePress$Row;II)I"⟩, 14) := ⟨⟨by decide +kernel, by decide +kernel⟩, List.mem_of_getElem? (i := 57) (by decide +kernel), List.mem_of_getElem? (i := 348) (by decide +kernel), List.mem_of_getElem? (i := 349) (by decide +kernel)⟩
theorem lw_p13 : lw_okq (⟨"TreePress$Reader", "leaveNode", "(LTreePress$Tree;)I"⟩, 4) := ⟨⟨by decide +kernel, by decide +kernel⟩, List.mem_of_getElem? (i := 38) (by decide +kernel), List.mem_of_getElem? (i := 358) (by decide +kernel), List.mem_of_getElem? (i := 359) (by decide +kernel)⟩
theorem lw_p14 : lw_okq (⟨"TreePress", "swapTrees", "()V"⟩, 5) := ⟨⟨by decide +kernel, by decide +kernel⟩, List.mem_of_getElem? (i := 16) (by decide +kernel), List.mem_of_getElem? (i := 371) (by decide +kernel), List.mem_of_getElem? (i := 372) (by decide +kernel)⟩
theorem lw_p15 : lw_okq (⟨"TreePress$Tree", "firstWithin", "(ILTreePress$Row;II)I"⟩, 14) := ⟨⟨by decide +kernel, by decide +kernel⟩, List.mem_of_getElem? (i := 57) (by decide +kernel), List.mem_of_getElem? (i := 398) (by decide +kernel), List.mem_of_getElem? (i := 399) (by decide +kernel)⟩
def lw_privs_1 : List (MethodName × Nat) := [(⟨"TreePress$Tree", "layNode", "(LTreePress$Row;I)V"⟩, 14), (⟨"TreePress$Tree", "layProperty", "(LTreePress$Row;I)V"⟩, 14), (⟨"TreePress$Tree", "startOfValue", "(I)I"⟩, 14), (⟨"TreePress$Tree", "layEndsBehind", "(LTreePress$Row;I)V"⟩, 14), (⟨"TreePress$Tree", "layNames", "(LTreePress$Row;)V"⟩, 14), (⟨"TreePress$Tree", "layHead", "(LTreePress$Row;I)V"⟩, 14), (⟨"TreePress$Reader", "failureOfZeros", "(LTreePress$Row;II)I"⟩, 4), (⟨"TreePress$Reader", "passOver", "()I"⟩, 4), (⟨"TreePress$Reader", "failureOfFirstNode", "(LTreePress$Row;)I"⟩, 4), (⟨"TreePress$Reader", "failureBehindLast", "()I"⟩, 4), (⟨"TreePress$Reader", "failureOfNode", "(LTreePress$Row;LTreePress$Tree;)I"⟩, 4), (⟨"TreePress$Reader", "failureOfProperty", "(LTreePress$Row;LTreePress$Tree;)I"⟩, 4), (⟨"TreePress$Tree", "firstNamed", "(IILTreePress$Row;II)I"⟩, 14), (⟨"TreePress$Reader", "leaveNode", "(LTreePress$Tree;)I"⟩, 4), (⟨"TreePress", "swapTrees", "()V"⟩, 5), (⟨"TreePress$Tree", "firstWithin", "(ILTreePress$Row;II)I"⟩, 14)]
theorem lw_r1 : ∀ q ∈ lw_privs_1, lw_okq q := List.forall_mem_cons.mpr ⟨lw_p0, List.forall_mem_cons.mpr ⟨lw_p1, List.forall_mem_cons.mpr ⟨lw_p2, List.forall_mem_cons.mpr ⟨lw_p3, List.forall_mem_cons.mpr ⟨lw_p4, List.forall_mem_cons.mpr ⟨lw_p5, List.forall_mem_cons.mpr ⟨lw_p6, List.forall_mem_cons.mpr ⟨lw_p7, List.forall_mem_cons.mpr ⟨lw_p8, List.forall_mem_cons.mpr ⟨lw_p9, List.forall_mem_cons.mpr ⟨lw_p10, List.forall_mem_cons.mpr ⟨lw_p11, List.forall_mem_cons.mpr ⟨lw_p12, List.forall_mem_cons.mpr ⟨lw_p13, List.forall_mem_cons.mpr ⟨lw_p14, List.forall_mem_cons.mpr ⟨lw_p15, fun _ h => absurd h List.not_mem_nil⟩⟩⟩⟩⟩⟩⟩⟩⟩⟩⟩⟩⟩⟩⟩⟩
theorem lw_p16 : lw_okq (⟨"java/lang/Throwable", "fillInStackTrace", "(I)Ljava/lang/Throwable;"⟩, 6) := ⟨⟨by decide +kernel, by decide +kernel⟩, List.mem_of_getElem? (i := 449) (by decide +kernel), List.mem_of_getElem? (i := 447) (by decide +kernel), List.mem_of_getElem? (i := 448) (by decide +kernel)⟩
theorem lw_p17 : lw_okq (⟨"TreePress", "refuseWrongNode", "(I)V"⟩, 5) := ⟨⟨by decide +kernel, by decide +kernel⟩, List.mem_of_getElem? (i := 16) (by decide +kernel), List.mem_of_getElem? (i := 578) (by decide +kernel), List.mem_of_getElem? (i := 579) (by decide +kernel)⟩
theorem lw_p18 : lw_okq (⟨"TreePress", "refuseWrongProperty", "(I)V"⟩, 5) := ⟨⟨by decide +kernel, by decide +kernel⟩, List.mem_of_getElem? (i := 16) (by decide +kernel), List.mem_of_getElem? (i := 595) (by decide +kernel), List.mem_of_getElem? (i := 596) (by decide +kernel)⟩
theorem lw_p19 : lw_okq (⟨"TreePressModel", "begin", "(I)V"⟩, 21) := ⟨⟨by decide +kernel, by decide +kernel⟩, List.mem_of_getElem? (i := 655) (by decide +kernel), List.mem_of_getElem? (i := 663) (by decide +kernel), List.mem_of_getElem? (i := 664) (by decide +kernel)⟩
theorem lw_p20 : lw_okq (⟨"TreePressModel", "depthOf", "(II)I"⟩, 21) := ⟨⟨by decide +kernel, by decide +kernel⟩, List.mem_of_getElem? (i := 655) (by decide +kernel), List.mem_of_getElem? (i := 751) (by decide +kernel), List.mem_of_getElem? (i := 752) (by decide +kernel)⟩
theorem lw_p21 : lw_okq (⟨"TreePressModel", "isName", "(I)Z"⟩, 21) := ⟨⟨by decide +kernel, by decide +kernel⟩, List.mem_of_getElem? (i := 655) (by decide +kernel), List.mem_of_getElem? (i := 755) (by decide +kernel), List.mem_of_getElem? (i := 756) (by decide +kernel)⟩
theorem lw_p22 : lw_okq (⟨"TreePressModel", "addNode", "(IIII)V"⟩, 21) := ⟨⟨by decide +kernel, by decide +kernel⟩, List.mem_of_getElem? (i := 655) (by decide +kernel), List.mem_of_getElem? (i := 762) (by decide +kernel), List.mem_of_getElem? (i := 763) (by decide +kernel)⟩
theorem lw_p23 : lw_okq (⟨"TreePressModel", "keep", "(III)V"⟩, 21) := ⟨⟨by decide +kernel, by decide +kernel⟩, List.mem_of_getElem? (i := 655) (by decide +kernel), List.mem_of_getElem? (i := 766) (by decide +kernel), List.mem_of_getElem? (i := 767) (by decide +kernel)⟩
theorem lw_p24 : lw_okq (⟨"TreePressModel", "addProperty", "(IIIIII)V"⟩, 21) := ⟨⟨by decide +kernel, by decide +kernel⟩, List.mem_of_getElem? (i := 655) (by decide +kernel), List.mem_of_getElem? (i := 774) (by decide +kernel), List.mem_of_getElem? (i := 775) (by decide +kernel)⟩
theorem lw_p25 : lw_okq (⟨"TreePressModel", "layNodes", "()V"⟩, 21) := ⟨⟨by decide +kernel, by decide +kernel⟩, List.mem_of_getElem? (i := 655) (by decide +kernel), List.mem_of_getElem? (i := 786) (by decide +kernel), List.mem_of_getElem? (i := 787) (by decide +kernel)⟩
theorem lw_p26 : lw_okq (⟨"TreePressModel", "number", "(I)V"⟩, 21) := ⟨⟨by decide +kernel, by decide +kernel⟩, List.mem_of_getElem? (i := 655) (by decide +kernel), List.mem_of_getElem? (i := 790) (by decide +kernel), List.mem_of_getElem? (i := 791) (by decide +kernel)⟩
theorem lw_p27 : lw_okq (⟨"TreePressModel", "put", "(I)V"⟩, 21) := ⟨⟨by decide +kernel, by decide +kernel⟩, List.mem_of_getElem? (i := 655) (by decide +kernel), List.mem_of_getElem? (i := 794) (by decide +kernel), List.mem_of_getElem? (i := 795) (by decide +kernel)⟩
theorem lw_p28 : lw_okq (⟨"TreePressModel", "fillUp", "()V"⟩, 21) := ⟨⟨by decide +kernel, by decide +kernel⟩, List.mem_of_getElem? (i := 655) (by decide +kernel), List.mem_of_getElem? (i := 798) (by decide +kernel), List.mem_of_getElem? (i := 799) (by decide +kernel)⟩
theorem lw_p29 : lw_okq (⟨"TreePressModel", "layProperties", "(I)V"⟩, 21) := ⟨⟨by decide +kernel, by decide +kernel⟩, List.mem_of_getElem? (i := 655) (by decide +kernel), List.mem_of_getElem? (i := 802) (by decide +kernel), List.mem_of_getElem? (i := 803) (by decide +kernel)⟩
theorem lw_p30 : lw_okq (⟨"TreePressModel", "nameNumber", "(I)I"⟩, 21) := ⟨⟨by decide +kernel, by decide +kernel⟩, List.mem_of_getElem? (i := 655) (by decide +kernel), List.mem_of_getElem? (i := 806) (by decide +kernel), List.mem_of_getElem? (i := 807) (by decide +kernel)⟩
theorem lw_p31 : lw_okq (⟨"TreePressModel", "sameName", "(II)Z"⟩, 21) := ⟨⟨by decide +kernel, by decide +kernel⟩, List.mem_of_getElem? (i := 655) (by decide +kernel), List.mem_of_getElem? (i := 810) (by decide +kernel), List.mem_of_getElem? (i := 811) (by decide +kernel)⟩
def lw_privs_2 : List (MethodName × Nat) := [(⟨"java/lang/Throwable", "fillInStackTrace", "(I)Ljava/lang/Throwable;"⟩, 6), (⟨"TreePress", "refuseWrongNode", "(I)V"⟩, 5), (⟨"TreePress", "refuseWrongProperty", "(I)V"⟩, 5), (⟨"TreePressModel", "begin", "(I)V"⟩, 21), (⟨"TreePressModel", "depthOf", "(II)I"⟩, 21), (⟨"TreePressModel", "isName", "(I)Z"⟩, 21), (⟨"TreePressModel", "addNode", "(IIII)V"⟩, 21), (⟨"TreePressModel", "keep", "(III)V"⟩, 21), (⟨"TreePressModel", "addProperty", "(IIIIII)V"⟩, 21), (⟨"TreePressModel", "layNodes", "()V"⟩, 21), (⟨"TreePressModel", "number", "(I)V"⟩, 21), (⟨"TreePressModel", "put", "(I)V"⟩, 21), (⟨"TreePressModel", "fillUp", "()V"⟩, 21), (⟨"TreePressModel", "layProperties", "(I)V"⟩, 21), (⟨"TreePressModel", "nameNumber", "(I)I"⟩, 21), (⟨"TreePressModel", "sameName", "(II)Z"⟩, 21)]
theorem lw_r2 : ∀ q ∈ lw_privs_2, lw_okq q := List.forall_mem_cons.mpr ⟨lw_p16, List.forall_mem_cons.mpr ⟨lw_p17, List.forall_mem_cons.mpr ⟨lw_p18, List.forall_mem_cons.mpr ⟨lw_p19, List.forall_mem_cons.mpr ⟨lw_p20, List.forall_mem_cons.mpr ⟨lw_p21, List.forall_mem_cons.mpr ⟨lw_p22, List.forall_mem_cons.mpr ⟨lw_p23, List.forall_mem_cons.mpr ⟨lw_p24, List.forall_mem_cons.mpr ⟨lw_p25, List.forall_mem_cons.mpr ⟨lw_p26, List.forall_mem_cons.mpr ⟨lw_p27, List.forall_mem_cons.mpr ⟨lw_p28, List.forall_mem_cons.mpr ⟨lw_p29, List.forall_mem_cons.mpr ⟨lw_p30, List.forall_mem_cons.mpr ⟨lw_p31, fun _ h => absurd h List.not_mem_nil⟩⟩⟩⟩⟩⟩⟩⟩⟩⟩⟩⟩⟩⟩⟩⟩
theorem lw_p32 : lw_okq (⟨"TreePressModel", "isFirst", "(I)Z"⟩, 21) := ⟨⟨by decide +kernel, by decide +kernel⟩, List.mem_of_getElem? (i := 655) (by decide +kernel), List.mem_of_getElem? (i := 814) (by decide +kernel), List.mem_of_getElem? (i := 815) (by decide +kernel)⟩
theorem lw_p33 : lw_okq (⟨"TreePressModel", "layNames", "()V"⟩, 21) := ⟨⟨by decide +kernel, by decide +kernel⟩, List.mem_of_getElem? (i := 655) (by decide +kernel), List.mem_of_getElem? (i := 818) (by decide +kernel), List.mem_of_getElem? (i := 819) (by decide +kernel)⟩
theorem lw_p34 : lw_okq (⟨"TreePressModel", "head", "(II)V"⟩, 21) := ⟨⟨by decide +kernel, by decide +kernel⟩, List.mem_of_getElem? (i := 655) (by decide +kernel), List.mem_of_getElem? (i := 822) (by decide +kernel), List.mem_of_getElem? (i := 823) (by decide +kernel)⟩
theorem lw_p35 : lw_okq (⟨"TreePressModel", "readsHead", "()Z"⟩, 21) := ⟨⟨by decide +kernel, by decide +kernel⟩, List.mem_of_getElem? (i := 655) (by decide +kernel), List.mem_of_getElem? (i := 835) (by decide +kernel), List.mem_of_getElem? (i := 836) (by decide +kernel)⟩
theorem lw_p36 : lw_okq (⟨"TreePressModel", "fail", "(I)Z"⟩, 21) := ⟨⟨by decide +kernel, by decide +kernel⟩, List.mem_of_getElem? (i := 655) (by decide +kernel), List.mem_of_getElem? (i := 839) (by decide +kernel), List.mem_of_getElem? (i := 840) (by decide +kernel)⟩
theorem lw_p37 : lw_okq (⟨"TreePressModel", "isHead", "(I)Z"⟩, 21) := ⟨⟨by decide +kernel, by decide +kernel⟩, List.mem_of_getElem? (i := 655) (by decide +kernel), List.mem_of_getElem? (i := 843) (by decide +kernel), List.mem_of_getElem? (i := 844) (by decide +kernel)⟩
theorem lw_p38 : lw_okq (⟨"TreePressModel", "numberAt", "(I)J"⟩, 21) := ⟨⟨by decide +kernel, by decide +kernel⟩, List.mem_of_getElem? (i := 655) (by decide +kernel), List.mem_of_getElem? (i := 847) (by decide +kernel), List.mem_of_getElem? (i := 848) (by decide +kernel)⟩
theorem lw_p39 : lw_okq (⟨"TreePressModel", "readsTree", "()Z"⟩, 21) := ⟨⟨by decide +kernel, by decide +kernel⟩, List.mem_of_getElem? (i := 655) (by decide +kernel), List.mem_of_getElem? (i := 859) (by decide +kernel), List.mem_of_getElem? (i := 860) (by decide +kernel)⟩
theorem lw_p40 : lw_okq (⟨"TreePressModel", "next", "()J"⟩, 21) := ⟨⟨by decide +kernel, by decide +kernel⟩, List.mem_of_getElem? (i := 655) (by decide +kernel), List.mem_of_getElem? (i := 863) (by decide +kernel), List.mem_of_getElem? (i := 864) (by decide +kernel)⟩
theorem lw_p41 : lw_okq (⟨"TreePressModel", "readsNode", "(I)Z"⟩, 21) := ⟨⟨by decide +kernel, by decide +kernel⟩, List.mem_of_getElem? (i := 655) (by decide +kernel), List.mem_of_getElem? (i := 868) (by decide +kernel), List.mem_of_getElem? (i := 869) (by decide +kernel)⟩
theorem lw_p42 : lw_okq (⟨"TreePressModel", "readsZeros", "()Z"⟩, 21) := ⟨⟨by decide +kernel, by decide +kernel⟩, List.mem_of_getElem? (i := 655) (by decide +kernel), List.mem_of_getElem? (i := 872) (by decide +kernel), List.mem_of_getElem? (i := 873) (by decide +kernel)⟩
theorem lw_p43 : lw_okq (⟨"TreePressModel", "readsProperty", "(I)Z"⟩, 21) := ⟨⟨by decide +kernel, by decide +kernel⟩, List.mem_of_getElem? (i := 655) (by decide +kernel), List.mem_of_getElem? (i := 878) (by decide +kernel), List.mem_of_getElem? (i := 879) (by decide +kernel)⟩
theorem lw_p44 : lw_okq (⟨"TreePressModel", "nameAt", "(J)I"⟩, 21) := ⟨⟨by decide +kernel, by decide +kernel⟩, List.mem_of_getElem? (i := 655) (by decide +kernel), List.mem_of_getElem? (i := 884) (by decide +kernel), List.mem_of_getElem? (i := 885) (by decide +kernel)⟩
theorem lw_p45 : lw_okq (⟨"TreePressModel", "become", "()V"⟩, 21) := ⟨⟨by decide +kernel, by decide +kernel⟩, List.mem_of_getElem? (i := 655) (by decide +kernel), List.mem_of_getElem? (i := 889) (by decide +kernel), List.mem_of_getElem? (i := 890) (by decide +kernel)⟩
theorem lw_p46 : lw_okq (⟨"TreePressModel", "manyOf", "(I)I"⟩, 21) := ⟨⟨by decide +kernel, by decide +kernel⟩, List.mem_of_getElem? (i := 655) (by decide +kernel), List.mem_of_getElem? (i := 905) (by decide +kernel), List.mem_of_getElem? (i := 906) (by decide +kernel)⟩
theorem lw_p47 : lw_okq (⟨"TreePressModel", "firstOf", "(I)I"⟩, 21) := ⟨⟨by decide +kernel, by decide +kernel⟩, List.mem_of_getElem? (i := 655) (by decide +kernel), List.mem_of_getElem? (i := 909) (by decide +kernel), List.mem_of_getElem? (i := 910) (by decide +kernel)⟩
def lw_privs_3 : List (MethodName × Nat) := [(⟨"TreePressModel", "isFirst", "(I)Z"⟩, 21), (⟨"TreePressModel", "layNames", "()V"⟩, 21), (⟨"TreePressModel", "head", "(II)V"⟩, 21), (⟨"TreePressModel", "readsHead", "()Z"⟩, 21), (⟨"TreePressModel", "fail", "(I)Z"⟩, 21), (⟨"TreePressModel", "isHead", "(I)Z"⟩, 21), (⟨"TreePressModel", "numberAt", "(I)J"⟩, 21), (⟨"TreePressModel", "readsTree", "()Z"⟩, 21), (⟨"TreePressModel", "next", "()J"⟩, 21), (⟨"TreePressModel", "readsNode", "(I)Z"⟩, 21), (⟨"TreePressModel", "readsZeros", "()Z"⟩, 21), (⟨"TreePressModel", "readsProperty", "(I)Z"⟩, 21), (⟨"TreePressModel", "nameAt", "(J)I"⟩, 21), (⟨"TreePressModel", "become", "()V"⟩, 21), (⟨"TreePressModel", "manyOf", "(I)I"⟩, 21), (⟨"TreePressModel", "firstOf", "(I)I"⟩, 21)]
theorem lw_r3 : ∀ q ∈ lw_privs_3, lw_okq q := List.forall_mem_cons.mpr ⟨lw_p32, List.forall_mem_cons.mpr ⟨lw_p33, List.forall_mem_cons.mpr ⟨lw_p34, List.forall_mem_cons.mpr ⟨lw_p35, List.forall_mem_cons.mpr ⟨lw_p36, List.forall_mem_cons.mpr ⟨lw_p37, List.forall_mem_cons.mpr ⟨lw_p38, List.forall_mem_cons.mpr ⟨lw_p39, List.forall_mem_cons.mpr ⟨lw_p40, List.forall_mem_cons.mpr ⟨lw_p41, List.forall_mem_cons.mpr ⟨lw_p42, List.forall_mem_cons.mpr ⟨lw_p43, List.forall_mem_cons.mpr ⟨lw_p44, List.forall_mem_cons.mpr ⟨lw_p45, List.forall_mem_cons.mpr ⟨lw_p46, List.forall_mem_cons.mpr ⟨lw_p47, fun _ h => absurd h List.not_mem_nil⟩⟩⟩⟩⟩⟩⟩⟩⟩⟩⟩⟩⟩⟩⟩⟩
theorem lw_p48 : lw_okq (⟨"TreePressModel", "byteOf", "(ZIII)I"⟩, 21) := ⟨⟨by decide +kernel, by decide +kernel⟩, List.mem_of_getElem? (i := 655) (by decide +kernel), List.mem_of_getElem? (i := 921) (by decide +kernel), List.mem_of_getElem? (i := 922) (by decide +kernel)⟩
theorem lw_p49 : lw_okq (⟨"TreePressModel", "childNamed", "(III)I"⟩, 21) := ⟨⟨by decide +kernel, by decide +kernel⟩, List.mem_of_getElem? (i := 655) (by decide +kernel), List.mem_of_getElem? (i := 937) (by decide +kernel), List.mem_of_getElem? (i := 938) (by decide +kernel)⟩
theorem lw_p50 : lw_okq (⟨"TreePressModel", "isTape", "(IIII)Z"⟩, 21) := ⟨⟨by decide +kernel, by decide +kernel⟩, List.mem_of_getElem? (i := 655) (by decide +kernel), List.mem_of_getElem? (i := 941) (by decide +kernel), List.mem_of_getElem? (i := 942) (by decide +kernel)⟩
def lw_privs_4 : List (MethodName × Nat) := [(⟨"TreePressModel", "byteOf", "(ZIII)I"⟩, 21), (⟨"TreePressModel", "childNamed", "(III)I"⟩, 21), (⟨"TreePressModel", "isTape", "(IIII)Z"⟩, 21)]
theorem lw_r4 : ∀ q ∈ lw_privs_4, lw_okq q := List.forall_mem_cons.mpr ⟨lw_p48, List.forall_mem_cons.mpr ⟨lw_p49, List.forall_mem_cons.mpr ⟨lw_p50, fun _ h => absurd h List.not_mem_nil⟩⟩⟩
def lw_privs : List (MethodName × Nat) := lw_privs_1 ++ (lw_privs_2 ++ (lw_privs_3 ++ (lw_privs_4)))
def lw_tbl : List Cond := k2_sels lw_privs ++ tables_1
theorem lw_privs_ok : ∀ q ∈ lw_privs, lw_okq q := by
  show ∀ q ∈ lw_privs_1 ++ (lw_privs_2 ++ (lw_privs_3 ++ (lw_privs_4))), lw_okq q
  exact List.forall_mem_append.mpr ⟨lw_r1, List.forall_mem_append.mpr ⟨lw_r2, List.forall_mem_append.mpr ⟨lw_r3, lw_r4⟩⟩⟩

/-! the tables' good words, by their places -/
def kb_T : List Cond := lw_tbl.filter goodWord
theorem kb_in {w : Cond} (h : w ∈ lw_tbl) (g : goodWord w = true) : w ∈ kb_T := List.mem_filter.mpr ⟨h, g⟩
theorem kb_good {w : Cond} (h : w ∈ kb_T) : goodWord w = true := (List.mem_filter.mp h).2
theorem kb_tbl {w : Cond} (h : w ∈ tables_1) : w ∈ lw_tbl := List.mem_append_right _ h
theorem kb_l1 {w : Cond} (i : Nat) (h : tables_1_1[i]? = some w) : w ∈ tables_1 := List.mem_append_left _ (List.mem_of_getElem? h)
theorem kb_l2 {w : Cond} (i : Nat) (h : tables_1_2[i]? = some w) : w ∈ tables_1 := List.mem_append_right _ (List.mem_append_left _ (List.mem_of_getElem? h))
theorem kb_l3 {w : Cond} (i : Nat) (h : tables_1_3[i]? = some w) : w ∈ tables_1 := List.mem_append_right _ (List.mem_append_right _ (List.mem_append_left _ (List.mem_of_getElem? h)))
theorem kb_l4 {w : Cond} (i : Nat) (h : tables_1_4[i]? = some w) : w ∈ tables_1 := List.mem_append_right _ (List.mem_append_right _ (List.mem_append_right _ (List.mem_of_getElem? h)))
theorem kb_t1 {w : Cond} (i : Nat) (h : tables_1_1[i]? = some w) (g : goodWord w = true) : w ∈ kb_T := kb_in (kb_tbl (kb_l1 i h)) g
theorem kb_t2 {w : Cond} (i : Nat) (h : tables_1_2[i]? = some w) (g : goodWord w = true) : w ∈ kb_T := kb_in (kb_tbl (kb_l2 i h)) g
theorem kb_t3 {w : Cond} (i : Nat) (h : tables_1_3[i]? = some w) (g : goodWord w = true) : w ∈ kb_T := kb_in (kb_tbl (kb_l3 i h)) g
theorem kb_t4 {w : Cond} (i : Nat) (h : tables_1_4[i]? = some w) (g : goodWord w = true) : w ∈ kb_T := kb_in (kb_tbl (kb_l4 i h)) g
theorem kb_t0 {y : MethodName} {n : Nat} (h : (y, n) ∈ lw_privs) (g : goodWord (.selects y.cls y y) = true) : Cond.selects y.cls y y ∈ kb_T := kb_in (List.mem_append_left _ (List.mem_map.mpr ⟨(y, n), h, rfl⟩)) g
theorem kb_goodIn {ws : List Cond} (h : ∀ w ∈ ws, w ∈ kb_T) : GoodIn kb_T ws := fun w hw => ⟨h w hw, good_of_word (kb_good (h w hw))⟩
/-- a method's words: its code, and all of the tables -/
def kb_W (y : MethodName) (c : ByteArray) (n : Nat) (r : Option FieldType) : List Cond := .code y c n r :: kb_T
theorem kb_gW {y : MethodName} {c : ByteArray} {n : Nat} {r : Option FieldType} (h : Cond.code y c n r ∈ kb_T) : GoodIn kb_T (kb_W y c n r) := kb_goodIn (fun w hw => (List.mem_cons.mp hw).elim (fun e => e ▸ h) id)
theorem kb_gV {own C : String} {idx : Nat} {y : MethodName} {c : ByteArray} {n : Nat} {r : Option FieldType} (h1 : Cond.methodLink own idx y ∈ kb_T) (h2 : Cond.instanceMethod y ∈ kb_T) (h3 : Cond.selects C y y ∈ kb_T) (h4 : Cond.initialized C ∈ kb_T) (h5 : Cond.code y c n r ∈ kb_T) : GoodIn kb_T (wsV own idx C y (kb_W y c n r)) := by
  refine kb_goodIn (fun w hw => ?_)
  rcases List.mem_append.mp hw with h | h
  · simp only [List.mem_cons, List.not_mem_nil, or_false] at h
    rcases h with rfl | rfl | rfl | rfl
    · exact h1
    · exact h2
    · exact h3
    · exact h4
  · exact (kb_gW h5 w h).1
theorem kb_gS {own : String} {idx : Nat} {y : MethodName} {c : ByteArray} {n : Nat} {r : Option FieldType} (h1 : Cond.methodLink own idx y ∈ kb_T) (h2 : Cond.static y ∈ kb_T) (h4 : Cond.initialized own ∈ kb_T) (h5 : Cond.code y c n r ∈ kb_T) : GoodIn kb_T (wsS own idx y (kb_W y c n r)) := by
  refine kb_goodIn (fun w hw => ?_)
  rcases List.mem_append.mp hw with h | h
  · simp only [List.mem_cons, List.not_mem_nil, or_false] at h
    rcases h with rfl | rfl | rfl
    · exact h1
    · exact h2
    · exact h4
  · exact (kb_gW h5 w h).1
end
section
/-! the classes: fields, types, words -/
def kb_F0 : u_T := fun k => match k with
  | 0 => ("TreePress$Reader", "at", "I", false)
  | 1 => ("TreePress$Reader", "end", "I", false)
  | 2 => ("TreePress$Reader", "depth", "I", false)
  | _ => ("TreePress$Reader", "begun", "Z", false)
def kb_y0 : Nat → FieldType := fun k => match k with
  | 0 => .int
  | 1 => .int
  | 2 => .int
  | _ => .boolean
theorem kb_n0 : ∀ a, a < 4 → ∀ b, b < 4 → a ≠ b → (kb_F0 a).2.1 ≠ (kb_F0 b).2.1 := by decide +kernel
theorem kb_p0 : ∀ k, k < 4 → parseFieldDescriptor (kb_F0 k).2.2.1 = some (kb_y0 k) := by decide +kernel
theorem kb_w0 : ∀ w ∈ u_ws "TreePress$Reader" kb_F0 4, w ∈ kb_T := fun w h => kb_in ((by decide +kernel : ∀ w ∈ u_ws "TreePress$Reader" kb_F0 4, w ∈ lw_tbl) w h) (List.all_eq_true.mp (by decide +kernel : (u_ws "TreePress$Reader" kb_F0 4).all goodWord = true) w h)
def kb_F1 : u_T := fun k => match k with
  | 0 => ("TreePress$Row", "cells", "[I", false)
  | _ => ("TreePress$Row", "length", "I", false)
def kb_y1 : Nat → FieldType := fun k => match k with
  | 0 => .array .int
  | _ => .int
theorem kb_n1 : ∀ a, a < 2 → ∀ b, b < 2 → a ≠ b → (kb_F1 a).2.1 ≠ (kb_F1 b).2.1 := by decide +kernel
theorem kb_p1 : ∀ k, k < 2 → parseFieldDescriptor (kb_F1 k).2.2.1 = some (kb_y1 k) := by decide +kernel
theorem kb_w1 : ∀ w ∈ u_ws "TreePress$Row" kb_F1 2, w ∈ kb_T := fun w h => kb_in ((by decide +kernel : ∀ w ∈ u_ws "TreePress$Row" kb_F1 2, w ∈ lw_tbl) w h) (List.all_eq_true.mp (by decide +kernel : (u_ws "TreePress$Row" kb_F1 2).all goodWord = true) w h)
def kb_F2 : u_T := fun k => match k with
  | 0 => ("TreePress$Tree", "text", "LTreePress$Row;", true)
  | 1 => ("TreePress$Tree", "nodeParents", "LTreePress$Row;", true)
  | 2 => ("TreePress$Tree", "nodeDepths", "LTreePress$Row;", true)
  | 3 => ("TreePress$Tree", "nodeNameStarts", "LTreePress$Row;", true)
  | 4 => ("TreePress$Tree", "nodeNameLengths", "LTreePress$Row;", true)
  | 5 => ("TreePress$Tree", "nodeFirstProperties", "LTreePress$Row;", true)
  | 6 => ("TreePress$Tree", "nodePropertyCounts", "LTreePress$Row;", true)
  | 7 => ("TreePress$Tree", "owners", "LTreePress$Row;", true)
  | 8 => ("TreePress$Tree", "nameStarts", "LTreePress$Row;", true)
  | 9 => ("TreePress$Tree", "nameLengths", "LTreePress$Row;", true)
  | 10 => ("TreePress$Tree", "valueLengths", "LTreePress$Row;", true)
  | 11 => ("TreePress$Tree", "nameOffsets", "LTreePress$Row;", true)
  | 12 => ("TreePress$Tree", "laidNamesLength", "I", false)
  | _ => ("TreePress$Tree", "place", "I", false)
def kb_y2 : Nat → FieldType := fun k => match k with
  | 0 => .object "TreePress$Row"
  | 1 => .object "TreePress$Row"
  | 2 => .object "TreePress$Row"
  | 3 => .object "TreePress$Row"
  | 4 => .object "TreePress$Row"
  | 5 => .object "TreePress$Row"
  | 6 => .object "TreePress$Row"
  | 7 => .object "TreePress$Row"
  | 8 => .object "TreePress$Row"
  | 9 => .object "TreePress$Row"
  | 10 => .object "TreePress$Row"
  | 11 => .object "TreePress$Row"
  | 12 => .int
  | _ => .int
theorem kb_n2 : ∀ a, a < 14 → ∀ b, b < 14 → a ≠ b → (kb_F2 a).2.1 ≠ (kb_F2 b).2.1 := by decide +kernel
theorem kb_p2 : ∀ k, k < 14 → parseFieldDescriptor (kb_F2 k).2.2.1 = some (kb_y2 k) := by decide +kernel
theorem kb_w2 : ∀ w ∈ u_ws "TreePress$Tree" kb_F2 14, w ∈ kb_T := fun w h => kb_in ((by decide +kernel : ∀ w ∈ u_ws "TreePress$Tree" kb_F2 14, w ∈ lw_tbl) w h) (List.all_eq_true.mp (by decide +kernel : (u_ws "TreePress$Tree" kb_F2 14).all goodWord = true) w h)
def kb_F3 : u_T := fun k => match k with
  | 0 => ("TreePress", "tape", "LTreePress$Row;", true)
  | 1 => ("TreePress", "laidDown", "LTreePress$Row;", true)
  | 2 => ("TreePress", "reader", "LTreePress$Reader;", true)
  | 3 => ("TreePress", "tree", "LTreePress$Tree;", false)
  | _ => ("TreePress", "spare", "LTreePress$Tree;", false)
def kb_y3 : Nat → FieldType := fun k => match k with
  | 0 => .object "TreePress$Row"
  | 1 => .object "TreePress$Row"
  | 2 => .object "TreePress$Reader"
  | 3 => .object "TreePress$Tree"
  | _ => .object "TreePress$Tree"
theorem kb_n3 : ∀ a, a < 5 → ∀ b, b < 5 → a ≠ b → (kb_F3 a).2.1 ≠ (kb_F3 b).2.1 := by decide +kernel
theorem kb_p3 : ∀ k, k < 5 → parseFieldDescriptor (kb_F3 k).2.2.1 = some (kb_y3 k) := by decide +kernel
theorem kb_w3 : ∀ w ∈ u_ws "TreePress" kb_F3 5, w ∈ kb_T := fun w h => kb_in ((by decide +kernel : ∀ w ∈ u_ws "TreePress" kb_F3 5, w ∈ lw_tbl) w h) (List.all_eq_true.mp (by decide +kernel : (u_ws "TreePress" kb_F3 5).all goodWord = true) w h)
def kb_F4 : u_T := fun k => match k with
  | 0 => ("TreePressModel", "thrown", "I", false)
  | 1 => ("TreePressModel", "tape", "[I", true)
  | 2 => ("TreePressModel", "taped", "I", false)
  | 3 => ("TreePressModel", "out", "[I", true)
  | 4 => ("TreePressModel", "many", "I", false)
  | 5 => ("TreePressModel", "nodes", "[I", true)
  | 6 => ("TreePressModel", "properties", "[I", true)
  | 7 => ("TreePressModel", "used", "[I", true)
  | 8 => ("TreePressModel", "inside", "[I", true)
  | 9 => ("TreePressModel", "nodeFrom", "[I", true)
  | 10 => ("TreePressModel", "nodeTo", "[I", true)
  | 11 => ("TreePressModel", "owner", "[I", true)
  | 12 => ("TreePressModel", "nameFrom", "[I", true)
  | 13 => ("TreePressModel", "valueFrom", "[I", true)
  | 14 => ("TreePressModel", "valueTo", "[I", true)
  | 15 => ("TreePressModel", "bytes", "[I", true)
  | 16 => ("TreePressModel", "place", "I", false)
  | 17 => ("TreePressModel", "at", "I", false)
  | 18 => ("TreePressModel", "edge", "I", false)
  | 19 => ("TreePressModel", "fails", "I", false)
  | _ => ("TreePressModel", "namesAt", "I", false)
def kb_y4 : Nat → FieldType := fun k => match k with
  | 0 => .int
  | 1 => .array .int
  | 2 => .int
  | 3 => .array .int
  | 4 => .int
  | 5 => .array .int
  | 6 => .array .int
  | 7 => .array .int
  | 8 => .array .int
  | 9 => .array .int
  | 10 => .array .int
  | 11 => .array .int
  | 12 => .array .int
  | 13 => .array .int
  | 14 => .array .int
  | 15 => .array .int
  | 16 => .int
  | 17 => .int
  | 18 => .int
  | 19 => .int
  | _ => .int
theorem kb_n4 : ∀ a, a < 21 → ∀ b, b < 21 → a ≠ b → (kb_F4 a).2.1 ≠ (kb_F4 b).2.1 := by decide +kernel
theorem kb_p4 : ∀ k, k < 21 → parseFieldDescriptor (kb_F4 k).2.2.1 = some (kb_y4 k) := by decide +kernel
theorem kb_w4 : ∀ w ∈ u_ws "TreePressModel" kb_F4 21, w ∈ kb_T := fun w h => kb_in ((by decide +kernel : ∀ w ∈ u_ws "TreePressModel" kb_F4 21, w ∈ lw_tbl) w h) (List.all_eq_true.mp (by decide +kernel : (u_ws "TreePressModel" kb_F4 21).all goodWord = true) w h)
abbrev kb_cl : List vw_C := [("TreePress$Reader", kb_F0, 4), ("TreePress$Row", kb_F1, 2), ("TreePress$Tree", kb_F2, 14), ("TreePress", kb_F3, 5), ("TreePressModel", kb_F4, 21)]
/-! what is known of the tables at a state: the classes, the arrays' classes -/
abbrev kb_G : Type := va_G × ClassId × ClassId
abbrev kb_tys (G : kb_G) : List (ClassId × FieldType) := [(G.2.1, .int), (G.2.2, .long)]
abbrev kb_o (a ci : Nat) (fs : List Value) : Nat × va_E := (a, .inr (ci, fs))
abbrev kb_a (G : kb_G) (a N : Nat) (f : Nat → Int32) : Nat × va_E := (a, .inl (G.2.1, N, .inl f))
abbrev kb_j (G : kb_G) (a N : Nat) (f : Nat → Int64) : Nat × va_E := (a, .inl (G.2.2, N, .inr (.inl f)))
abbrev kb_rm (k mc ms : Nat) : Room := { frames := k, cells := mc, slots := ms, locals := 32 * k }
/-- what a contract leaves open behind a call: addresses, contents -/
abbrev kb_S : Type := (Nat → Nat) × (Nat → Nat → Int32)
abbrev kb_l (xs : List Nat) : Nat → Nat := fun i => xs.getD i 0
abbrev kb_f (fs : List (Nat → Int32)) : Nat → Nat → Int32 := fun i => fs.getD i (fun _ => 0)
end
section
/-! two statics of Throwable that every constructor of one reads: where they lie, what they hold -/
def kb_Zf (n d : String) (A : Nat → Prop) (U : State) (H : Heap) : Prop := ∃ (c : ClassId) (k : Class) (i : Nat) (f : Field) (a : Nat) (cell : Cell) (v : Value), U.vm.findClass Bundle.tN = some c ∧ U.fieldFound? Bundle.tN n d = some (c, k, i, f) ∧ f.isStatic = true ∧ k.statics = some a ∧ H[a]? = some cell ∧ cell.vm.isStatics = true ∧ cell.cls = c ∧ f.slot < cell.slots.size ∧ k.staticTypes[f.slot]? = some f.type ∧ ¬ A a ∧ cell.slots[f.slot]? = some v ∧ v.isRef = true
theorem kb_Zf.moved {n d : String} {A : Nat → Prop} {u U : State} {H : Heap} (hvm : u.vm.Alike U.vm) (h : kb_Zf n d A u H) : kb_Zf n d A U H := by
  obtain ⟨c, k, i, f, a, cell, v, h1, h2, h3, h4, h5, h6, h7, h8, h9, h10⟩ := h
  obtain ⟨k', hi', he⟩ := State.fieldFound?_setVm hvm h2
  exact ⟨c, k', i, f, a, cell, v, by rw [hvm.findClass]; exact h1, hi', h3, by rw [he]; exact h4, h5, h6, h7, h8, by rw [he]; exact h9, h10⟩
theorem kb_Zf.kept {n d : String} {A B : Nat → Prop} {U : State} {H H1 : Heap} (h : kb_Zf n d A U H) (hq : ∀ a : Nat, a < H.size → ¬ A a → H1[a]? = H[a]?) (hB : ∀ q, B q → A q) : kb_Zf n d B U H1 := by
  obtain ⟨c, k, i, f, a, cell, v, h1, h2, h3, h4, h5, h6, h7, h8, h9, h10, h11⟩ := h
  exact ⟨c, k, i, f, a, cell, v, h1, h2, h3, h4, by rw [hq a (Array.getElem?_eq_some_iff.mp h5).1 h10]; exact h5, h6, h7, h8, h9, fun z => h10 (hB _ z), h11⟩
theorem kb_Zf.lays {n d : String} {A : Nat → Prop} {s : State} {args : Array Value} (h : kb_Zf n d A s s.heap) : (Cond.laysStatic Bundle.tN n d).before args s = true := by
  obtain ⟨c, k, i, f, a, cell, v, h1, h2, h3, h4, h5, h6, h7, h8, h9, -⟩ := h
  show (Cond.laysStatic Bundle.tN n d).holds args s none s [] = true
  exact Cond.laysStatic_of h1 h2 h3 h4 h5 h6 h7 h8 h9
theorem kb_Zf.isRef {n d : String} {A : Nat → Prop} {s : State} {args : Array Value} (h : kb_Zf n d A s s.heap) : (Cond.isRef (.static Bundle.tN n d)).before args s = true := by
  obtain ⟨c, k, i, f, a, cell, v, h1, h2, h3, h4, h5, h6, h7, h8, h9, -, h10, h11⟩ := h
  have he : (Term.static Bundle.tN n d).eval args s none [] s = some v := by
    simp [Term.eval, State.fieldNamed?, h2, h3, h4, h5, h6, h10]
  simp only [Cond.before, Cond.holds, Cond.value, he]
  cases v <;> simp_all [Value.isRef]
theorem kb_Zf.of {n d : String} {A : Nat → Prop} {s : State} {args : Array Value} (hl : (Cond.laysStatic Bundle.tN n d).before args s = true) (hr : (Cond.isRef (.static Bundle.tN n d)).before args s = true) (hA : ∀ a : Nat, a < s.heap.size → ¬ A a) : kb_Zf n d A s s.heap := by
  obtain ⟨c, k, i, f, a, cell, h1, h2, h3, h4, h5, h6, h7, h8, h9⟩ := Cond.laysStatic_spec hl
  obtain ⟨v, hv⟩ : ∃ v, cell.slots[f.slot]? = some v := ⟨_, Array.getElem?_eq_getElem h8⟩
  have he : (Term.static Bundle.tN n d).eval args s none [] s = some v := by
    simp [Term.eval, State.fieldNamed?, h2, h3, h4, h5, h6, hv]
  refine ⟨c, k, i, f, a, cell, v, h1, h2, h3, h4, h5, h6, h7, h8, h9, hA a (Array.getElem?_eq_some_iff.mp h5).1, hv, ?_⟩
  simp only [Cond.before, Cond.holds, Cond.value, he] at hr
  cases v <;> simp_all [Value.isRef]
def kb_Z (A : Nat → Prop) (U : State) (H : Heap) : Prop := kb_Zf "UNASSIGNED_STACK" Bundle.steD A U H ∧ kb_Zf "SUPPRESSED_SENTINEL" Bundle.listD A U H
theorem kb_Z.moved {A : Nat → Prop} {u U : State} {H : Heap} (hvm : u.vm.Alike U.vm) (h : kb_Z A u H) : kb_Z A U H := ⟨h.1.moved hvm, h.2.moved hvm⟩
theorem kb_Z.kept {A B : Nat → Prop} {U : State} {H H1 : Heap} (h : kb_Z A U H) (hq : ∀ a : Nat, a < H.size → ¬ A a → H1[a]? = H[a]?) (hB : ∀ q, B q → A q) : kb_Z B U H1 := ⟨h.1.kept hq hB, h.2.kept hq hB⟩
/-! words that aren't good ones: links across the nest, casts, String constants -/
def kb_cast : List (String × String) := [("java/lang/IllegalArgumentException", "java/lang/IllegalArgumentException"), ("java/lang/IndexOutOfBoundsException", "java/lang/IndexOutOfBoundsException")]
def kb_strs : List (Nat × String) := [(43, "the tape would have too many bytes"), (54, "the tape has no such place"), (67, "the tape is no name"), (76, "the tree would be too big"), (82, "these bytes are no name"), (87, "the place has nodes"), (99, "the place is the first node"), (110, "no such byte was laid down"), (152, "nothing of a node has that number"), (166, "nothing of a property has that number"), (189, "there is no such node"), (191, "there is no such property"), (193, "there is no such byte")]
def kb_decl : List MethodName := [Bundle.initS "java/lang/RuntimeException", Bundle.initS "java/lang/Exception", Bundle.initS Bundle.tN]
def kb_N (U : State) : Prop := (va_Nw (.methodLinkNest "TreePress" 21 ⟨"TreePress$Reader", "<init>", "()V"⟩ "TreePress") U ∧ va_Nw (.methodLinkNest "TreePress$Tree" 148 ⟨"TreePress", "filledUp", "(I)I"⟩ "TreePress") U) ∧ (∀ q ∈ kb_cast, va_Nw (.castable q.1 q.2) U) ∧ (∀ q ∈ kb_strs, ∃ a, vk_R "TreePress" q.1 q.2 a U) ∧ va_Nc "java/lang/IllegalArgumentException" "java/lang/IndexOutOfBoundsException" U ∧ ∀ y ∈ kb_decl, va_Nw (.declares y) U
theorem kb_N.moved {s U : State} (hW : s.WarmedH U.vm) (h : kb_N s) : kb_N U :=
  ⟨⟨va_Nw.warmM hW h.1.1, va_Nw.warmM hW h.1.2⟩, fun q hq => va_Nw.warmC hW (h.2.1 q hq), fun q hq => (h.2.2.1 q hq).imp fun a ha => vk_R.warm hW ha, va_Nc.moved hW.alike h.2.2.2.1, fun y hy => va_Nw.warmD hW (h.2.2.2.2 y hy)⟩
/-! a method's start -/
def kb_Pre (G : kb_G) (wi : va_W) (sz : Nat) (U : State) : Prop := U.heap.size = sz ∧ va_P G.1 kb_cl wi U.heap ∧ va_K G.1 kb_cl (kb_tys G) U ∧ va_D (fun _ => True) wi ∧ kb_Z (va_A wi sz) U U.heap ∧ kb_N U
/-- what stays true while a method runs -/
def kb_E (G : kb_G) (A : Nat → Prop) (s : State) : Prop := va_K G.1 kb_cl (kb_tys G) s ∧ kb_Z A s s.heap ∧ kb_N s ∧ ∀ q, s.heap.size ≤ q → A q
theorem kb_blind {G : kb_G} {av : List Value} {wi : va_W} {sz : Nat} : FrameBlind (va_Pc av (kb_Pre G wi sz)) := by
  intro a U g mk q
  obtain ⟨q0, q1, qP, qK, qD, qZ, qN⟩ := q
  refine ⟨q0, q1, qP, va_K.moved (u := U) (U := U.calling g mk a) (Vm.Alike.refl U.vm) qK, qD, ?_, ?_⟩
  · exact kb_Z.moved (u := U) (U := U.calling g mk a) (Vm.Alike.refl U.vm) qZ
  · exact kb_N.moved (s := U) (U := U.calling g mk a) (State.WarmedH.refl U) qN
theorem kb_start {G : kb_G} {A : Nat → Prop} {s : State} {H : Heap} {locs : List Loc} {wc : va_W} (hE : kb_E G A s) (hS : va_S A s.heap H locs) (hPc : va_P G.1 kb_cl wc H) (hDc : va_D A wc) (hF : ∀ q, va_A wc H.size q → A q) : ∀ U : State, U.heap = H → s.WarmedH U.vm → kb_Pre G wc H.size U := by
  intro U hU hW
  refine ⟨by rw [hU], by rw [hU]; exact hPc, va_K.moved hW.alike hE.1, hDc.weaken (fun _ _ _ _ => trivial), ?_, kb_N.moved hW hE.2.2.1⟩
  rw [hU]
  exact (hE.2.1.kept hS.2.1 hF).moved hW.alike
/-- ends -/
def kb_Qi (G : kb_G) (A : Nat → Prop) (post : Int32 → kb_S → Prop) (wo : kb_S → va_W) : Array Value → State → Outcome → State → Prop := va_Qi post (fun u t => va_P G.1 kb_cl (wo u) t.heap ∧ va_K G.1 kb_cl (kb_tys G) t ∧ va_D A (wo u)) A
def kb_Qv (G : kb_G) (A : Nat → Prop) (post : kb_S → Prop) (wo : kb_S → va_W) : Array Value → State → Outcome → State → Prop := va_Qv post (fun u t => va_P G.1 kb_cl (wo u) t.heap ∧ va_K G.1 kb_cl (kb_tys G) t ∧ va_D A (wo u)) A
def kb_Qr (G : kb_G) (A : Nat → Prop) (post : kb_S → Prop) (wo : kb_S → va_W) : Array Value → State → Outcome → State → Prop := va_Qr post (fun u a t => a = u.1 0 ∧ va_P G.1 kb_cl (wo u) t.heap ∧ va_K G.1 kb_cl (kb_tys G) t ∧ va_D A (wo u)) A
/-- contracts: an int comes back, nothing, a reference (the address u.1 0) -/
def kb_ci (l : Launch) (G : kb_G) (y : MethodName) (c : ByteArray) (n : Nat) (r : Option FieldType) (k mc ms : Nat) (av : List Value) (wi : va_W) (post : Int32 → kb_S → Prop) (wo : kb_S → va_W) : Prop :=
  ∀ sz, Met l y (kb_W y c n r) (kb_rm k mc ms) (va_Pc av (kb_Pre G wi sz)) (kb_Qi G (va_A wi sz) post wo) mc ms (va_A wi sz)
def kb_cv (l : Launch) (G : kb_G) (y : MethodName) (c : ByteArray) (n : Nat) (k mc ms : Nat) (av : List Value) (wi : va_W) (post : kb_S → Prop) (wo : kb_S → va_W) : Prop :=
  ∀ sz, Met l y (kb_W y c n none) (kb_rm k mc ms) (va_Pc av (kb_Pre G wi sz)) (kb_Qv G (va_A wi sz) post wo) mc ms (va_A wi sz)
def kb_cr (l : Launch) (G : kb_G) (y : MethodName) (c : ByteArray) (n : Nat) (r : Option FieldType) (k mc ms : Nat) (av : List Value) (wi : va_W) (post : kb_S → Prop) (wo : kb_S → va_W) : Prop :=
  ∀ sz, Met l y (kb_W y c n r) (kb_rm k mc ms) (va_Pc av (kb_Pre G wi sz)) (kb_Qr G (va_A wi sz) post wo) mc ms (va_A wi sz)
/-- what a body knows at its entry -/
def kb_B (G : kb_G) (y : MethodName) (bytes : ByteArray) (maxL : Nat) (ret : Option FieldType) (av : List Value) (wi : va_W) (p : Program) (s : State) (m : MethodId) (meth : Method) (c : Code) (A : Nat → Prop) : Prop :=
  p.tables.exec = Jvm.exec ∧ c.code = bytes ∧ meth.sig.returnType = ret ∧ c.maxLocals = maxL ∧ meth.locks = false ∧ meth.name = y.name ∧ s.vm.findClass y.cls = some m.cls ∧ (∀ w ∈ kb_T, w.before av.toArray s = true) ∧ kb_E G A s ∧ va_P G.1 kb_cl wi s.heap ∧ va_D A wi ∧ va_S A s.heap s.heap []
theorem kb_body {l : Launch} {G : kb_G} {y : MethodName} {bytes : ByteArray} {maxL : Nat} {ret : Option FieldType} {k mc ms : Nat} {av : List Value} {wi : va_W} {sz : Nat} {QQ : (Nat → Prop) → Array Value → State → Outcome → State → Prop} (hy : plainName y.cls = true) (hav : (lg_sl av).length ≤ maxL)
    (body : ∀ p e s m below meth c A, kb_B G y bytes maxL ret av wi p s m meth c A → ∀ ls, lv_has ls maxL (lv_args 0 av) → W p l e (kb_rm k mc ms) s m av.toArray below meth c s.heap [] 0 0 (MQ below (QQ A) av.toArray s mc ms A) (F0 m 0 ls [])) :
    Met l y (kb_W y bytes maxL ret) (kb_rm k mc ms) (va_Pc av (kb_Pre G wi sz)) (QQ (va_A wi sz)) mc ms (va_A wi sz) := by
  refine Met.ofW (cc := bytes) (maxL := maxL) (ret := ret) hy rfl ?_
  intro p e s m args below meth c s₁ B hml hv
  obtain ⟨rfl, hsz, hP, hK, hD0, hZ, hN⟩ := hv
  subst hsz
  have hts := atoms_spec (ws := kb_W y bytes maxL ret) B.pre
  have h := body p e s m below meth c (va_A wi s.heap.size) ⟨B.exec, B.bytes, B.returns, hml, B.notSynchronized, (name_of_methodNamed B.named B.method).1, findClass_of_methodNamed B.named, fun w hw => hts w (List.mem_cons_of_mem _ hw), ⟨hK, hZ, hN, fun q hq => Or.inr hq⟩, hP, hD0.self, va_S.rf⟩
  rw [lg_entry_eq]
  exact h _ (lv_entry av (n := maxL) hav)
section KB
variable {p : Program} {l : Launch} {e : Env} {R : Room} {s : State} {m : MethodId} {args : Array Value} {below : List Frame} {meth : Method} {c : Code} {H : Heap} {locs : List Loc} {cells slots : Nat} {Q : State → Prop}
variable {G : kb_G} {A : Nat → Prop} {ws wc wr : va_W} {cc : ByteArray} {pc nL : Nat} {ls : Array Slot} {rest st0 : List Value}
theorem kb_top {x y : Int32} (h : x = y) (k : W p l e R s m args below meth c H locs cells slots Q (F0 m pc ls (.int y :: rest))) : W p l e R s m args below meth c H locs cells slots Q (F0 m pc ls (.int x :: rest)) := h ▸ k
theorem kb_reti {v : Int32} {post : Int32 → kb_S → Prop} {wo : kb_S → va_W} {mc ms : Nat} (u : kb_S) (hx : p.tables.exec = Jvm.exec) (hb : c.code = cc) (hr : meth.sig.returnType = some .int) (hlocks : meth.locks = false) (hE : kb_E G A s) (hP : va_P G.1 kb_cl ws H) (hD : va_D A ws) (hS : va_S A s.heap H locs) (is : List Nat) (h1 : is.filterMap (fun i => ws[i]?) = wo u) (h2 : va_nd is = true) (h3 : is.map (fun i => ws[i]?) = (wo u).map some) (hp : post v u) (hc : cells ≤ mc) (hs : slots ≤ ms)
    (hdg : decode cc pc = .ok (.ireturn, 1)) : W p l e R s m args below meth c H locs cells slots (MQ below (kb_Qi G A post wo) args s mc ms A) (F0 m pc ls [.int v]) := by
  refine W.widen (k := mc) (n := ms) hc hs ?_
  exact W.iret hx hb hr (fun t ht hW => ⟨⟨v, u, rfl, hp, by rw [ht]; exact hP.sub is h1, va_K.moved hW.alike hE.1, hD.sub is h2 h3⟩, hS.F ht⟩) hS.2.2 hdg hlocks
theorem kb_retz {v : Int32} {post : Int32 → kb_S → Prop} {wo : kb_S → va_W} {mc ms : Nat} (u : kb_S) (hx : p.tables.exec = Jvm.exec) (hb : c.code = cc) (hr : meth.sig.returnType = some .boolean) (hn : narrow .boolean (.int v) = .int v) (hlocks : meth.locks = false) (hE : kb_E G A s) (hP : va_P G.1 kb_cl ws H) (hD : va_D A ws) (hS : va_S A s.heap H locs) (is : List Nat) (h1 : is.filterMap (fun i => ws[i]?) = wo u) (h2 : va_nd is = true) (h3 : is.map (fun i => ws[i]?) = (wo u).map some) (hp : post v u) (hc : cells ≤ mc) (hs : slots ≤ ms)
    (hdg : decode cc pc = .ok (.ireturn, 1)) : W p l e R s m args below meth c H locs cells slots (MQ below (kb_Qi G A post wo) args s mc ms A) (F0 m pc ls [.int v]) := by
  refine W.widen (k := mc) (n := ms) hc hs ?_
  exact W.zret hx hb hr hn (fun t ht hW => ⟨⟨v, u, rfl, hp, by rw [ht]; exact hP.sub is h1, va_K.moved hW.alike hE.1, hD.sub is h2 h3⟩, hS.F ht⟩) hS.2.2 hdg hlocks
theorem kb_retv {post : kb_S → Prop} {wo : kb_S → va_W} {mc ms : Nat} (u : kb_S) (hx : p.tables.exec = Jvm.exec) (hb : c.code = cc) (hr : meth.sig.returnType = none) (hlocks : meth.locks = false) (hE : kb_E G A s) (hP : va_P G.1 kb_cl ws H) (hD : va_D A ws) (hS : va_S A s.heap H locs) (is : List Nat) (h1 : is.filterMap (fun i => ws[i]?) = wo u) (h2 : va_nd is = true) (h3 : is.map (fun i => ws[i]?) = (wo u).map some) (hp : post u) (hc : cells ≤ mc) (hs : slots ≤ ms)
    (hdg : decode cc pc = .ok (.return_, 1)) : W p l e R s m args below meth c H locs cells slots (MQ below (kb_Qv G A post wo) args s mc ms A) (F0 m pc ls []) := by
  refine W.widen (k := mc) (n := ms) hc hs ?_
  exact W.vret hx hb hr (fun t ht hW => ⟨⟨u, rfl, hp, by rw [ht]; exact hP.sub is h1, va_K.moved hW.alike hE.1, hD.sub is h2 h3⟩, hS.F ht⟩) hS.2.2 hdg hlocks
theorem kb_reta {a : Nat} {rt : FieldType} {post : kb_S → Prop} {wo : kb_S → va_W} {mc ms : Nat} (u : kb_S) (ha : a = u.1 0) (hx : p.tables.exec = Jvm.exec) (hb : c.code = cc) (hr : meth.sig.returnType = some (.array rt)) (hlocks : meth.locks = false) (hE : kb_E G A s) (hP : va_P G.1 kb_cl ws H) (hD : va_D A ws) (hS : va_S A s.heap H locs) (is : List Nat) (h1 : is.filterMap (fun i => ws[i]?) = wo u) (h2 : va_nd is = true) (h3 : is.map (fun i => ws[i]?) = (wo u).map some) (hp : post u) (hc : cells ≤ mc) (hs : slots ≤ ms)
    (hdg : decode cc pc = .ok (.areturn, 1)) : W p l e R s m args below meth c H locs cells slots (MQ below (kb_Qr G A post wo) args s mc ms A) (F0 m pc ls [.ref a]) := by
  refine W.widen (k := mc) (n := ms) hc hs ?_
  exact W.aret hx hb hr (Or.inr ⟨_, rfl⟩) (Or.inr ⟨_, rfl⟩) (fun t ht hW => ⟨⟨u, a, rfl, hp, ha, by rw [ht]; exact hP.sub is h1, va_K.moved hW.alike hE.1, hD.sub is h2 h3⟩, hS.F ht⟩) hS.2.2 hdg hlocks
/-- a new array of ints or longs -/
theorem kb_newi (hx : p.tables.exec = Jvm.exec) (hb : c.code = cc) (harr : (Cond.arrayClass .int).before args s = true) (hE : kb_E G A s) (hP : va_P G.1 kb_cl ws H) (hD : va_D A ws) (hS : va_S A s.heap H locs) {n : Int32} {N : Nat} (hn : ¬ n < 0) (hN : n.toNatClampNeg = N) (hbytes : N * 4 ≤ 536870912) (hcells : cells + 1 ≤ R.cells) (hslots : slots + N ≤ R.slots) (hdg : decode cc pc = .ok (.newarray .int, 2))
    (kk : ∀ (q : Nat) (H1 : Heap), va_P G.1 kb_cl (ws ++ [kb_a G q N (fun _ => 0)]) H1 → va_D A (ws ++ [kb_a G q N (fun _ => 0)]) → va_S A s.heap H1 locs → W p l e R s m args below meth c H1 locs (cells + 1) (slots + N) Q (F0 m (pc + 2) ls (.ref q :: rest))) : W p l e R s m args below meth c H locs cells slots Q (F0 m pc ls (.int n :: rest)) := by
  refine va_newa (atype := .int) (ty := .int) (a0 := (N, .inl (fun _ => 0))) hx hb harr rfl hE.1 hP hD hS hE.2.2.2 (fun cA => rfl) hn hN hbytes hcells hslots hdg (fun q cA H1 hK1 hP1 hD1 hS1 => ?_)
  have h1 : va_RA s cA .int := (hK1.2 2 (cA, .int) rfl).2
  have h2 : va_RA s G.2.1 .int := (hE.1.2 0 (G.2.1, .int) rfl).2
  have h3 : cA = G.2.1 := Option.some.inj (Eq.trans (Eq.symm (show s.vm.findClass ("[" ++ FieldType.int.toString) = some cA from h1)) h2)
  subst h3
  exact kk q H1 hP1 hD1 hS1
theorem kb_newj (hx : p.tables.exec = Jvm.exec) (hb : c.code = cc) (harr : (Cond.arrayClass .long).before args s = true) (hE : kb_E G A s) (hP : va_P G.1 kb_cl ws H) (hD : va_D A ws) (hS : va_S A s.heap H locs) {n : Int32} {N : Nat} (hn : ¬ n < 0) (hN : n.toNatClampNeg = N) (hbytes : N * 8 ≤ 536870912) (hcells : cells + 1 ≤ R.cells) (hslots : slots + N ≤ R.slots) (hdg : decode cc pc = .ok (.newarray .long, 2))
    (kk : ∀ (q : Nat) (H1 : Heap), va_P G.1 kb_cl (ws ++ [kb_j G q N (fun _ => 0)]) H1 → va_D A (ws ++ [kb_j G q N (fun _ => 0)]) → va_S A s.heap H1 locs → W p l e R s m args below meth c H1 locs (cells + 1) (slots + N) Q (F0 m (pc + 2) ls (.ref q :: rest))) : W p l e R s m args below meth c H locs cells slots Q (F0 m pc ls (.int n :: rest)) := by
  refine va_newa (atype := .long) (ty := .long) (a0 := (N, .inr (.inl (fun _ => 0)))) hx hb harr rfl hE.1 hP hD hS hE.2.2.2 (fun cA => rfl) hn hN hbytes hcells hslots hdg (fun q cA H1 hK1 hP1 hD1 hS1 => ?_)
  have h1 : va_RA s cA .long := (hK1.2 2 (cA, .long) rfl).2
  have h2 : va_RA s G.2.2 .long := (hE.1.2 1 (G.2.2, .long) rfl).2
  have h3 : cA = G.2.2 := Option.some.inj (Eq.trans (Eq.symm (show s.vm.findClass ("[" ++ FieldType.long.toString) = some cA from h1)) h2)
  subst h3
  exact kk q H1 hP1 hD1 hS1
end KB
end
section
section KC
variable {p : Program} {l : Launch} {e : Env} {R : Room} {s : State} {m : MethodId} {args : Array Value} {below : List Frame} {meth : Method} {c : Code} {H : Heap} {locs : List Loc} {cells slots : Nat} {Q : State → Prop}
variable {G : kb_G} {A : Nat → Prop} {ws wc wr : va_W} {cc : ByteArray} {pc nL : Nat} {ls : Array Slot} {rest st0 As : List Value}
variable {y : MethodName} {bytes : ByteArray} {maxL k mc ms index : Nat} {ret : Option FieldType} {own C host : String} {b q0 ci : Nat} {fs : List Value} {q : vw_C}
variable {QQ : (Nat → Prop) → Array Value → State → Outcome → State → Prop}
/-- the callee's cells out of the caller's -/
theorem kb_cut (hP : va_P G.1 kb_cl ws H) (isC : List Nat) (hC : isC.map (fun i => ws[i]?) = wc.map some) : va_P G.1 kb_cl wc H := by
  intro k q hk
  have h1 : (isC.map (fun i => ws[i]?))[k]? = some (some q) := by rw [hC, List.getElem?_map, hk]; rfl
  rw [List.getElem?_map] at h1
  cases hi : isC[k]? with
  | none => rw [hi] at h1; cases h1
  | some i => rw [hi] at h1; exact hP i q (Option.some.inj h1)
theorem kb_rV (S : CallFix p m c cc nL s args kb_T own) (hM : Met l y (kb_W y bytes maxL ret) (kb_rm k mc ms) (va_Pc (.ref b :: As) (kb_Pre G wc H.size)) (QQ (va_A wc H.size)) mc ms (va_A wc H.size)) (gd : GoodIn kb_T (wsV own index C y (kb_W y bytes maxL ret)))
    (hd : y.cls = C ∧ y.cls ≠ "java/lang/invoke/MethodHandle" ∧ y.cls ≠ "java/lang/invoke/VarHandle" ∧ (parseMethodDescriptor y.desc).map (fun d => d.parameters.length) = some As.length) (hR : k + 1 ≤ R.frames ∧ 8 + (maxL + 11) + 32 * k ≤ R.locals)
    (hE : kb_E G A s) (hP : va_P G.1 kb_cl ws H) (hD : va_D A ws) (hS : va_S A s.heap H locs) (isC : List Nat) (hC : isC.map (fun i => ws[i]?) = wc.map some) (hn : va_nd isC = true)
    (he : wc[q0]? = some (b, .inr (ci, fs))) (hc : kb_cl[ci]? = some q) (hq : q.1 = C) (hls : ls.size = nL) (hst : st0 = As.reverse ++ .ref b :: rest) (hW : (rest.map fun v => v.category).sum ≤ 8) (hdg : decode cc pc = .ok (.invokevirtual index, 3)) (hf : cells + mc ≤ R.cells ∧ slots + ms ≤ R.slots) :
    va_Run p l e R s m args below meth c H locs cells slots mc ms (F0 m pc ls st0) rest (QQ (va_A wc H.size) (Value.ref b :: As).toArray) (va_A wc H.size) := by
  subst hq
  have hPc := kb_cut hP isC hC
  have hF := va_free hD hS hE.2.2.2 isC hC
  exact va_runV (As := As) (rest := rest) (b := b) S hM (cwV As.length S.2.2.2.2 gd rfl rfl rfl hd hR) ⟨kb_blind, va_recv hE.1 hPc hc he, fun U hU hW => ⟨rfl, kb_start hE hS hPc (hD.sub isC hn hC) hF U hU hW⟩⟩ rfl rfl hls hst (lv_room hW) hdg hf
theorem kb_rI (S : CallFix p m c cc nL s args kb_T own) (hM : Met l y (kb_W y bytes maxL none) (kb_rm k mc ms) (va_Pc (.ref b :: As) (kb_Pre G wc H.size)) (QQ (va_A wc H.size)) mc ms (va_A wc H.size)) (g1 : Cond.code y bytes maxL none ∈ kb_T) (g2 : Cond.initialized y.cls ∈ kb_T) (g3 : Cond.methodLink own index y ∈ kb_T) (g4 : Cond.instanceMethod y ∈ kb_T) (hy : y.name = "<init>")
    (hd : y.cls ≠ "java/lang/invoke/MethodHandle" ∧ y.cls ≠ "java/lang/invoke/VarHandle" ∧ (parseMethodDescriptor y.desc).map (fun d => d.parameters.length) = some As.length) (hR : k + 1 ≤ R.frames ∧ 8 + (maxL + 11) + 32 * k ≤ R.locals)
    (hE : kb_E G A s) (hP : va_P G.1 kb_cl ws H) (hD : va_D A ws) (hS : va_S A s.heap H locs) (isC : List Nat) (hC : isC.map (fun i => ws[i]?) = wc.map some) (hn : va_nd isC = true)
    (hls : ls.size = nL) (hst : st0 = As.reverse ++ .ref b :: rest) (hW : (rest.map fun v => v.category).sum ≤ 8) (hdg : decode cc pc = .ok (.invokespecial index, 3)) (hf : cells + mc ≤ R.cells ∧ slots + ms ≤ R.slots) :
    va_Run p l e R s m args below meth c H locs cells slots mc ms (F0 m pc ls st0) rest (QQ (va_A wc H.size) (Value.ref b :: As).toArray) (va_A wc H.size) := by
  have hPc := kb_cut hP isC hC
  have hF := va_free hD hS hE.2.2.2 isC hC
  exact va_runI (As := As) (rest := rest) (b := b) S hM (cwI As.length S.2.2.2.2 (kb_gW g1) rfl rfl rfl (S.2.2.2.2 _ g2) (S.2.2.2.2 _ g3) (S.2.2.2.2 _ g4) hy hd hR) ⟨kb_blind, fun U hU hW => ⟨rfl, kb_start hE hS hPc (hD.sub isC hn hC) hF U hU hW⟩⟩ rfl rfl hls hst (lv_room hW) hdg hf
theorem kb_rIN (S : CallFix p m c cc nL s args kb_T own) (hM : Met l y (kb_W y bytes maxL none) (kb_rm k mc ms) (va_Pc (.ref b :: As) (kb_Pre G wc H.size)) (QQ (va_A wc H.size)) mc ms (va_A wc H.size)) (g1 : Cond.code y bytes maxL none ∈ kb_T) (g2 : Cond.initialized y.cls ∈ kb_T) (g3 : va_Nw (.methodLinkNest own index y host) s) (g4 : Cond.instanceMethod y ∈ kb_T) (hy : y.name = "<init>")
    (hd : y.cls ≠ "java/lang/invoke/MethodHandle" ∧ y.cls ≠ "java/lang/invoke/VarHandle" ∧ (parseMethodDescriptor y.desc).map (fun d => d.parameters.length) = some As.length) (hR : k + 1 ≤ R.frames ∧ 8 + (maxL + 11) + 32 * k ≤ R.locals)
    (hE : kb_E G A s) (hP : va_P G.1 kb_cl ws H) (hD : va_D A ws) (hS : va_S A s.heap H locs) (isC : List Nat) (hC : isC.map (fun i => ws[i]?) = wc.map some) (hn : va_nd isC = true)
    (hls : ls.size = nL) (hst : st0 = As.reverse ++ .ref b :: rest) (hW : (rest.map fun v => v.category).sum ≤ 8) (hdg : decode cc pc = .ok (.invokespecial index, 3)) (hf : cells + mc ≤ R.cells ∧ slots + ms ≤ R.slots) :
    va_Run p l e R s m args below meth c H locs cells slots mc ms (F0 m pc ls st0) rest (QQ (va_A wc H.size) (Value.ref b :: As).toArray) (va_A wc H.size) := by
  have hPc := kb_cut hP isC hC
  have hF := va_free hD hS hE.2.2.2 isC hC
  exact va_runIN (As := As) (rest := rest) (b := b) (host := host) S hM ⟨va_cnB As.length S.2.2.2.2 (kb_gW g1) rfl rfl rfl g3 (S.2.2.2.2 _ g2) hd hR, hy, S.2.2.2.2 _ g4⟩ ⟨kb_blind, fun U hU hW => ⟨rfl, kb_start hE hS hPc (hD.sub isC hn hC) hF U hU hW⟩⟩ rfl rfl hls hst (lv_room hW) hdg hf
theorem kb_rS (S : CallFix p m c cc nL s args kb_T own) (hM : Met l y (kb_W y bytes maxL ret) (kb_rm k mc ms) (va_Pc As (kb_Pre G wc H.size)) (QQ (va_A wc H.size)) mc ms (va_A wc H.size)) (g1 : Cond.code y bytes maxL ret ∈ kb_T) (g2 : Cond.initialized y.cls ∈ kb_T) (g3 : Cond.methodLink own index y ∈ kb_T) (g4 : Cond.static y ∈ kb_T)
    (hd : y.cls ≠ "java/lang/invoke/MethodHandle" ∧ y.cls ≠ "java/lang/invoke/VarHandle" ∧ (parseMethodDescriptor y.desc).map (fun d => d.parameters.length) = some As.length) (hR : k + 1 ≤ R.frames ∧ 8 + (maxL + 11) + 32 * k ≤ R.locals)
    (hE : kb_E G A s) (hP : va_P G.1 kb_cl ws H) (hD : va_D A ws) (hS : va_S A s.heap H locs) (isC : List Nat) (hC : isC.map (fun i => ws[i]?) = wc.map some) (hn : va_nd isC = true)
    (hls : ls.size = nL) (hst : st0 = As.reverse ++ rest) (hW : (rest.map fun v => v.category).sum ≤ 8) (hdg : decode cc pc = .ok (.invokestatic index, 3)) (hf : cells + mc ≤ R.cells ∧ slots + ms ≤ R.slots) :
    va_Run p l e R s m args below meth c H locs cells slots mc ms (F0 m pc ls st0) rest (QQ (va_A wc H.size) As.toArray) (va_A wc H.size) := by
  have hPc := kb_cut hP isC hC
  have hF := va_free hD hS hE.2.2.2 isC hC
  exact va_runS (As := As) (rest := rest) S hM ⟨callB_of As.length S.2.2.2.2 (kb_gW g1) rfl rfl rfl (S.2.2.2.2 _ g2) (S.2.2.2.2 _ g3) hd hR, S.2.2.2.2 _ g4⟩ ⟨kb_blind, fun U hU hW => ⟨rfl, kb_start hE hS hPc (hD.sub isC hn hC) hF U hU hW⟩⟩ rfl rfl hls hst (lv_room hW) hdg hf
theorem kb_rSN (S : CallFix p m c cc nL s args kb_T own) (hM : Met l y (kb_W y bytes maxL ret) (kb_rm k mc ms) (va_Pc As (kb_Pre G wc H.size)) (QQ (va_A wc H.size)) mc ms (va_A wc H.size)) (g1 : Cond.code y bytes maxL ret ∈ kb_T) (g2 : Cond.initialized y.cls ∈ kb_T) (g3 : va_Nw (.methodLinkNest own index y host) s) (g4 : Cond.static y ∈ kb_T)
    (hd : y.cls ≠ "java/lang/invoke/MethodHandle" ∧ y.cls ≠ "java/lang/invoke/VarHandle" ∧ (parseMethodDescriptor y.desc).map (fun d => d.parameters.length) = some As.length) (hR : k + 1 ≤ R.frames ∧ 8 + (maxL + 11) + 32 * k ≤ R.locals)
    (hE : kb_E G A s) (hP : va_P G.1 kb_cl ws H) (hD : va_D A ws) (hS : va_S A s.heap H locs) (isC : List Nat) (hC : isC.map (fun i => ws[i]?) = wc.map some) (hn : va_nd isC = true)
    (hls : ls.size = nL) (hst : st0 = As.reverse ++ rest) (hW : (rest.map fun v => v.category).sum ≤ 8) (hdg : decode cc pc = .ok (.invokestatic index, 3)) (hf : cells + mc ≤ R.cells ∧ slots + ms ≤ R.slots) :
    va_Run p l e R s m args below meth c H locs cells slots mc ms (F0 m pc ls st0) rest (QQ (va_A wc H.size) As.toArray) (va_A wc H.size) := by
  have hPc := kb_cut hP isC hC
  have hF := va_free hD hS hE.2.2.2 isC hC
  exact va_runSN (As := As) (rest := rest) (host := host) S hM ⟨va_cnB As.length S.2.2.2.2 (kb_gW g1) rfl rfl rfl g3 (S.2.2.2.2 _ g2) hd hR, S.2.2.2.2 _ g4, trivial⟩ ⟨kb_blind, fun U hU hW => ⟨rfl, kb_start hE hS hPc (hD.sub isC hn hC) hF U hU hW⟩⟩ rfl rfl hls hst (lv_room hW) hdg hf
variable {a : Array Value}
/-- behind the call: the caller's other cells, then what the callee leaves -/
theorem kb_i {post : Int32 → kb_S → Prop} {wo : kb_S → va_W} (hE : kb_E G A s) (hP : va_P G.1 kb_cl ws H) (hD : va_D A ws) (hS : va_S A s.heap H locs) (isC isR : List Nat) (hC : isC.map (fun i => ws[i]?) = wc.map some) (hR : isR.map (fun i => ws[i]?) = wr.map some) (hn : va_nd isR = true) (hdis : ∀ i ∈ isR, i ∉ isC)
    (hr : va_Run p l e R s m args below meth c H locs cells slots mc ms (F0 m pc ls st0) rest (kb_Qi G (va_A wc H.size) post wo a) (va_A wc H.size))
    (kk : ∀ (r : Int32) (u : kb_S) (H1 : Heap) (locs1 : List Loc), post r u → va_P G.1 kb_cl (wr ++ wo u) H1 → va_D A (wr ++ wo u) → va_S A s.heap H1 locs1 → W p l e R s m args below meth c H1 locs1 (cells + mc) (slots + ms) Q (F0 m (pc + 3) ls (.int r :: rest))) : W p l e R s m args below meth c H locs cells slots Q (F0 m pc ls st0) := by
  have hF := va_free hD hS hE.2.2.2 isC hC
  refine va_calli hr hS (fun q _ h => hF q h) hF (fun r u t H1 locs1 ht hvm hw hB hz1 hk1 hS1 => ?_)
  obtain ⟨hP1, hK1, hD1⟩ := hB
  rw [ht] at hP1
  obtain ⟨hP2, hD2⟩ := va_join (wr := wr) (w1 := wo u) hP hD isC isR hC hR hn hdis hk1 hF hP1 hD1
  exact kk r u H1 locs1 hw hP2 hD2 hS1
theorem kb_v {post : kb_S → Prop} {wo : kb_S → va_W} (hE : kb_E G A s) (hP : va_P G.1 kb_cl ws H) (hD : va_D A ws) (hS : va_S A s.heap H locs) (isC isR : List Nat) (hC : isC.map (fun i => ws[i]?) = wc.map some) (hR : isR.map (fun i => ws[i]?) = wr.map some) (hn : va_nd isR = true) (hdis : ∀ i ∈ isR, i ∉ isC)
    (hr : va_Run p l e R s m args below meth c H locs cells slots mc ms (F0 m pc ls st0) rest (kb_Qv G (va_A wc H.size) post wo a) (va_A wc H.size))
    (kk : ∀ (u : kb_S) (H1 : Heap) (locs1 : List Loc), post u → va_P G.1 kb_cl (wr ++ wo u) H1 → va_D A (wr ++ wo u) → va_S A s.heap H1 locs1 → W p l e R s m args below meth c H1 locs1 (cells + mc) (slots + ms) Q (F0 m (pc + 3) ls rest)) : W p l e R s m args below meth c H locs cells slots Q (F0 m pc ls st0) := by
  have hF := va_free hD hS hE.2.2.2 isC hC
  refine va_callv hr hS (fun q _ h => hF q h) hF (fun u t H1 locs1 ht hvm hw hB hz1 hk1 hS1 => ?_)
  obtain ⟨hP1, hK1, hD1⟩ := hB
  rw [ht] at hP1
  obtain ⟨hP2, hD2⟩ := va_join (wr := wr) (w1 := wo u) hP hD isC isR hC hR hn hdis hk1 hF hP1 hD1
  exact kk u H1 locs1 hw hP2 hD2 hS1
theorem kb_r {post : kb_S → Prop} {wo : kb_S → va_W} (hE : kb_E G A s) (hP : va_P G.1 kb_cl ws H) (hD : va_D A ws) (hS : va_S A s.heap H locs) (isC isR : List Nat) (hC : isC.map (fun i => ws[i]?) = wc.map some) (hR : isR.map (fun i => ws[i]?) = wr.map some) (hn : va_nd isR = true) (hdis : ∀ i ∈ isR, i ∉ isC)
    (hr : va_Run p l e R s m args below meth c H locs cells slots mc ms (F0 m pc ls st0) rest (kb_Qr G (va_A wc H.size) post wo a) (va_A wc H.size))
    (kk : ∀ (u : kb_S) (H1 : Heap) (locs1 : List Loc), post u → va_P G.1 kb_cl (wr ++ wo u) H1 → va_D A (wr ++ wo u) → va_S A s.heap H1 locs1 → W p l e R s m args below meth c H1 locs1 (cells + mc) (slots + ms) Q (F0 m (pc + 3) ls (.ref (u.1 0) :: rest))) : W p l e R s m args below meth c H locs cells slots Q (F0 m pc ls st0) := by
  have hF := va_free hD hS hE.2.2.2 isC hC
  refine va_callr hr hS (fun q _ h => hF q h) hF (fun u ra t H1 locs1 ht hvm hw hB hz1 hk1 hS1 => ?_)
  obtain ⟨ha, hP1, hK1, hD1⟩ := hB
  rw [ht] at hP1
  obtain ⟨hP2, hD2⟩ := va_join (wr := wr) (w1 := wo u) hP hD isC isR hC hR hn hdis hk1 hF hP1 hD1
  rw [ha]
  exact kk u H1 locs1 hw hP2 hD2 hS1
end KC
end
section
/-! methods that throw: on the roads of this claim it is known of each call whether it returns or throws -/
def kb_QX (E : String) (mc ms : Nat) (F : Nat → Prop) : Array Value → State → Outcome → State → Prop := fun _ st o t =>
  ∃ (q : Addr) (ce : Cell) (L : List Loc), o = .threw q ∧ va_F F st t ∧ t.heap[q]? = some ce ∧ ce.vm = .none ∧ st.vm.findClass E = some ce.cls ∧ st.WarmedH t.vm ∧ st.sameButNew ({ t with vm := st.vm } : State) L mc ms ∧ ∀ z ∈ L, F z.base
def kb_cx (l : Launch) (G : kb_G) (y : MethodName) (c : ByteArray) (n : Nat) (r : Option FieldType) (k mc ms : Nat) (av : List Value) (wi : va_W) (E : String) : Prop :=
  ∀ sz, MetFree l y (headSpec (kb_W y c n r) (kb_rm k mc ms)) (va_Pc av (kb_Pre G wi sz)) (fun _ _ _ _ _ => True) (kb_QX E mc ms (va_A wi sz))
/-- what a body that throws owes at its end -/
def kb_MX (below : List Frame) (E : String) (F : Nat → Prop) (a : Array Value) (s : State) (mc ms : Nat) : State → Prop := fun t => ∃ o, t.status = .running ∧ Ended t below o ∧ kb_QX E mc ms F a s o t
theorem kb_bodyX {l : Launch} {G : kb_G} {y : MethodName} {bytes : ByteArray} {maxL : Nat} {ret : Option FieldType} {k mc ms : Nat} {av : List Value} {wi : va_W} {E : String} (hy : plainName y.cls = true) (hav : (lg_sl av).length ≤ maxL)
    (body : ∀ p e s m below meth c A, kb_B G y bytes maxL ret av wi p s m meth c A → (∀ z ∈ c.exceptionTable.toList, False) → (∀ q, A q → va_A wi s.heap.size q) → ∀ ls, lv_has ls maxL (lv_args 0 av) → W p l e (kb_rm k mc ms) s m av.toArray below meth c s.heap [] 0 0 (kb_MX below E A av.toArray s mc ms) (F0 m 0 ls [])) :
    kb_cx l G y bytes maxL ret k mc ms av wi E := by
  intro sz
  refine MetFree.of_bodyS (code := bytes) (maxLocals := maxL) (ret := ret) hy ?_ ?_
  · intro args s m h hn
    obtain ⟨meth, c, h1, h2, h3, h4, h5, h6, -, -⟩ := Cond.code_spec hn (atoms_spec (ws := kb_W y bytes maxL ret) h _ List.mem_cons_self)
    exact ⟨meth, c, h1, h2, h3, h4, h5, h6⟩
  · intro p e s m args below meth c s₁ B hml hv _
    obtain ⟨rfl, hsz, hP, hK, hD0, hZ, hN⟩ := hv
    subst hsz
    have hh0 : s₁.heap = s.heap := by rw [B.state]; rfl
    have hts := atoms_spec (ws := kb_W y bytes maxL ret) B.pre
    have X := Stand.of_body B
    have hno : ∀ z ∈ c.exceptionTable.toList, False := by
      obtain ⟨meth9, c9, h1, h2, -, -, -, -, h7, -⟩ := Cond.code_spec B.named (hts _ List.mem_cons_self)
      cases Option.some.inj (h1.symm.trans B.method)
      cases Option.some.inj (h2.symm.trans X.code)
      intro z hz
      rw [Array.isEmpty_iff.mp h7] at hz
      cases hz
    have h := body p e s m below meth c (va_A wi s.heap.size) ⟨B.exec, B.bytes, B.returns, hml, B.notSynchronized, (name_of_methodNamed B.named B.method).1, findClass_of_methodNamed B.named, fun w hw => hts w (List.mem_cons_of_mem _ hw), ⟨hK, hZ, hN, fun q hq => Or.inr hq⟩, hP, hD0.self, va_S.rf⟩ hno (fun q h => h) _ (lv_entry av (n := maxL) hav)
    have h2 : W p l e (kb_rm k mc ms) s m av.toArray below meth c s.heap [] 0 0 (kb_MX below E (va_A wi s.heap.size) av.toArray s mc ms) (entryFrame m av.toArray maxL) := by
      rw [lg_entry_eq]
      exact h
    obtain ⟨t, a1, o, b1, b2, b3⟩ := h2 s₁ hh0 X
    exact ⟨t, o, a1, b1, b2, b3⟩
section KX
variable {p : Program} {l : Launch} {e : Env} {R : Room} {s : State} {m : MethodId} {args : Array Value} {below : List Frame} {meth : Method} {c : Code} {T : State} {H : Heap} {locs : List Loc} {cells slots : Nat} {Q : State → Prop}
variable {G : kb_G} {A : Nat → Prop} {ws wc wr : va_W} {cc : ByteArray} {pc nL : Nat} {ls : Array Slot} {rest st0 As : List Value}
variable {y : MethodName} {bytes : ByteArray} {maxL k mc ms index : Nat} {ret : Option FieldType} {own C E : String} {b q0 ci : Nat} {fs : List Value} {q : vw_C}
/-- q is on its way up, over the frame g -/
def kb_WX (p : Program) (l : Launch) (e : Env) (R : Room) (s : State) (m : MethodId) (args : Array Value) (below : List Frame) (meth : Method) (c : Code) (H : Heap) (locs : List Loc) (cells slots : Nat) (Q : State → Prop) (g : JFrame) (q : Addr) : Prop :=
  ∀ T : State, T.heap = H → Stand p l e R s m args below meth c T locs cells slots → ∃ t, Steps p.tables e below ((T.setTop g).pushFrame (.throwing q)) t ∧ Q t
/-- one run of a callee that throws, paid out of its contract -/
theorem kb_payX {Pc : Array Value → State → Prop} {F : Nat → Prop} {a : Array Value} {g : JFrame} {ig : Instr} {len : Nat} {mk : MethodId} (X : Stand p l e R s m args below meth c T locs cells slots)
    (hM : MetFree l y (headSpec (kb_W y bytes maxL ret) (kb_rm k mc ms)) Pc (fun _ _ _ _ _ => True) (kb_QX E mc ms F)) (hbl : FrameBlind Pc) (hPc : Pc a T) (hR : k + 1 ≤ R.frames ∧ 8 + (maxL + 11) + 32 * k ≤ R.locals) (hf : cells + mc ≤ R.cells ∧ slots + ms ≤ R.slots)
    (ht : ∀ w ∈ kb_T, w.before args s = true) (hcode : Cond.code y bytes maxL ret ∈ kb_T) (hini : Cond.initialized y.cls ∈ kb_T) (hg : g.method = m) (hsize : g.locals.size = c.maxLocals) (hdg : decode c.code g.pc = .ok (ig, len)) (hW : 2 * g.monitorRoom + (g.stack.map fun v => v.category).sum ≤ 8) (hn : T.methodNamed? y = some mk) :
    ∃ (q : Addr) (ce : Cell) (T' : State) (L : List Loc), Stand p l e R s m args below meth c T' (locs ++ L) (cells + mc) (slots + ms) ∧ (∀ z ∈ L, F z.base) ∧ T.heap.size ≤ T'.heap.size ∧ (∀ q : Nat, q < T.heap.size → ¬ F q → T'.heap[q]? = T.heap[q]?) ∧ T'.heap[q]? = some ce ∧ ce.vm = .none ∧ T.vm.findClass E = some ce.cls ∧
      Steps p.tables e below (doInvoke e (T.setTop g) [] mk a).1 ((T'.setTop g).pushFrame (.throwing q)) := by
  have pay : ∀ w ∈ kb_T, w.before a T = true := fun w hw => word_at X.warmed (good_of_word (kb_good hw)) (ht w hw)
  have hpre : (headSpec (kb_W y bytes maxL ret) (kb_rm k mc ms)).pre.before a T = true := atoms_intro fun w hw => (List.mem_cons.mp hw).elim (fun e => by rw [e]; exact pay _ hcode) (pay w)
  obtain ⟨methY, cY, hmY, hcY, -, hlY, -, -, -, -⟩ := Cond.code_spec hn (pay _ hcode)
  obtain ⟨kY, hkY, -⟩ := className_of_methodNamed hn
  have hinitY : kY.init = .initialized := Cond.initialized_spec (findClass_of_methodNamed hn) hkY (pay _ hini)
  subst hg
  have happ : (headSpec (kb_W y bytes maxL ret) (kb_rm k mc ms)).appliesLoose y e.platform (T.calling g mk a) = true :=
    Spec.appliesLoose_calling (g := g) X.here hdg hn hkY hinitY (X.room_calling (g := g) (R' := kb_rm k mc ms) hsize hmY hcY hR.1 (by rw [hlY]; show _ + _ + 32 * k ≤ _; omega) hf.1 hf.2) hpre
  obtain ⟨mid, hmid⟩ := X.here.above
  have hfr : (T.setTop g).frames = (.java g :: mid) ++ below := by rw [State.frames_setTop' g X.here.top, hmid]; rfl
  obtain ⟨o, s₂, hsteps, -, hend, hq⟩ := Steps.callFree hM p X.admits X.cas X.clock (acts := []) hfr happ (hbl _ _ _ _ hPc) trivial
  obtain ⟨q, ce, L, rfl, hF, hce, hcv, hcl, hW₂, hsm, hL⟩ : kb_QX E mc ms F a (T.calling g mk a) o s₂ := hq
  rw [State.frames_setTop' g X.here.top] at hend
  obtain ⟨g₀, hg0⟩ := Option.isSome_iff_exists.mp X.here.top
  obtain ⟨r, hr⟩ := State.topJava?_eq_some.mp hg0
  have hW' : T.WarmedH s₂.vm := hW₂
  obtain ⟨e2, q2, q3, q4, q5, q6⟩ := id hsm
  have hf₂ : s₂.frames = .throwing q :: .java g :: T.frames.tail := hend
  have hr' : (({ T with heap := s₂.heap, slotsUsed := s₂.slotsUsed } : State).setVm s₂.vm).frames = .java g₀ :: r := hr
  have e3 : s₂ = ({ (T.calling g mk a).setFrames s₂.frames with heap := s₂.heap, slotsUsed := s₂.slotsUsed } : State).setVm s₂.vm := by
    have h9 : s₂ = ({ s₂ with vm := (T.calling g mk a).vm } : State).setVm s₂.vm := rfl
    rw [e2] at h9
    exact h9
  have hs₂ : s₂ = ((({ T with heap := s₂.heap, slotsUsed := s₂.slotsUsed } : State).setVm s₂.vm).setTop g).pushFrame (.throwing q) := by
    refine e3.trans ?_
    rw [hf₂, State.calling_eq X.here.top, State.setFrames_setFrames, State.pushFrame, State.frames_setTop _ hr', State.setTop_of_frames _ hr', State.setFrames_setFrames, hr]
    rfl
  have hsame : T.sameButNew ({ T with heap := s₂.heap, slotsUsed := s₂.slotsUsed } : State) L mc ms := by
    refine ⟨?_, q2, q3, q4, q5, q6⟩
    obtain ⟨t9, h9, -⟩ := State.frames_cons hr
    show ({ T with heap := s₂.heap, slotsUsed := s₂.slotsUsed } : State) = { T.setFrames T.frames with heap := s₂.heap, slotsUsed := s₂.slotsUsed }
    rw [State.setFrames_self h9]
  refine ⟨q, ce, (({ T with heap := s₂.heap, slotsUsed := s₂.slotsUsed } : State).setVm s₂.vm), L,
    ⟨X.admits, X.cas, X.clock, X.frames, X.room, X.hears, X.method, X.code, (X.here.setHeapUsed s₂.heap s₂.slotsUsed).setVm hW'.alike, X.tail, State.WarmedH.trans X.warmed hW', X.limits, X.bytes, X.same.trans (hsame.setVm s.vm)⟩, hL, hF.1, fun z h1 h2 => hF.2 z h1 h2, hce, hcv, hcl, ?_⟩
  rw [← hs₂]
  exact hsteps
theorem kb_afterX {F : Nat → Prop} {H1 : Heap} {L : List Loc} (hE : kb_E G A s) (hP : va_P G.1 kb_cl ws H) (hD : va_D A ws) (hS : va_S A s.heap H locs) (isC isR : List Nat) (hC : isC.map (fun i => ws[i]?) = wc.map some) (hRr : isR.map (fun i => ws[i]?) = wr.map some) (hn : va_nd isR = true) (hdis : ∀ i ∈ isR, i ∉ isC) (hL : ∀ z ∈ L, va_A wc H.size z.base) (hz : H.size ≤ H1.size) (hk : ∀ q : Nat, q < H.size → ¬ va_A wc H.size q → H1[q]? = H[q]?) : va_P G.1 kb_cl wr H1 ∧ va_D A wr ∧ va_S A s.heap H1 (locs ++ L) := by
  have hF := va_free hD hS hE.2.2.2 isC hC
  obtain ⟨hP2, hD2⟩ := va_join (wr := wr) (w1 := []) hP hD isC isR hC hRr hn hdis hk hF (fun k q h => by simp at h) ⟨fun i j p q h => by simp at h, fun k q h => by simp at h⟩
  rw [List.append_nil] at hP2 hD2
  refine ⟨hP2, hD2, Nat.le_trans hS.1 hz, fun q h1 h2 => ?_, fun z hz => ?_⟩
  · rw [hk q (Nat.lt_of_lt_of_le h1 hS.1) (fun h => h2 (hF q h))]
    exact hS.2.1 q h1 h2
  · rcases List.mem_append.mp hz with h | h
    · exact hS.2.2 z h
    · exact hF _ (hL z h)
theorem kb_xV (S : CallFix p m c cc nL s args kb_T own) (hM : kb_cx l G y bytes maxL ret k mc ms (.ref b :: As) wc E) (g1 : Cond.methodLink own index y ∈ kb_T) (g2 : Cond.instanceMethod y ∈ kb_T) (g3 : Cond.selects y.cls y y ∈ kb_T) (g4 : Cond.initialized y.cls ∈ kb_T) (g5 : Cond.code y bytes maxL ret ∈ kb_T)
    (hd : y.cls ≠ "java/lang/invoke/MethodHandle" ∧ y.cls ≠ "java/lang/invoke/VarHandle" ∧ (parseMethodDescriptor y.desc).map (fun d => d.parameters.length) = some As.length) (hR : k + 1 ≤ R.frames ∧ 8 + (maxL + 11) + 32 * k ≤ R.locals)
    (hE : kb_E G A s) (hP : va_P G.1 kb_cl ws H) (hD : va_D A ws) (hS : va_S A s.heap H locs) (isC isR : List Nat) (hC : isC.map (fun i => ws[i]?) = wc.map some) (hRr : isR.map (fun i => ws[i]?) = wr.map some) (hnC : va_nd isC = true) (hn : va_nd isR = true) (hdis : ∀ i ∈ isR, i ∉ isC)
    (he : wc[q0]? = some (b, .inr (ci, fs))) (hc : kb_cl[ci]? = some q) (hq : q.1 = y.cls) (hls : ls.size = nL) (hst : st0 = As.reverse ++ .ref b :: rest) (hW : (rest.map fun v => v.category).sum ≤ 8) (hdg : decode cc pc = .ok (.invokevirtual index, 3)) (hf : cells + mc ≤ R.cells ∧ slots + ms ≤ R.slots)
    (kk : ∀ (q9 : Addr) (ce : Cell) (H1 : Heap) (locs1 : List Loc), H1[q9]? = some ce → ce.vm = .none → s.vm.findClass E = some ce.cls → va_P G.1 kb_cl wr H1 → va_D A wr → va_S A s.heap H1 locs1 → kb_WX p l e R s m args below meth c H1 locs1 (cells + mc) (slots + ms) Q (F0 m pc ls rest) q9) :
    W p l e R s m args below meth c H locs cells slots Q (F0 m pc ls st0) := by
  obtain ⟨hx, hb, hml, hown, ht⟩ := S
  have hPc := kb_cut hP isC hC
  have hF := va_free hD hS hE.2.2.2 isC hC
  obtain ⟨cellB, hcB, hoB, hclB⟩ := va_recv hE.1 hPc hc he
  intro T hT X
  obtain ⟨mkn, methM, hnamed, hmethM, hstM, habM⟩ := Cond.instanceMethod_spec (ht _ g2)
  obtain ⟨methM', cM, hmethM', -, -, -, -, -, -, hsigM⟩ := Cond.code_spec hnamed (ht _ g5)
  cases hmethM.symm.trans hmethM'
  obtain ⟨c2, r2, m2, q1, q2, q3, q4, kP, hkP, hkPi⟩ := Cond.selects_spec (ht _ g3)
  rw [hq] at hclB
  cases hclB.symm.trans q1
  cases (State.methodFound?_of_named hnamed ⟨hd.1, hd.2.1⟩).symm.trans q2
  cases hnamed.symm.trans q3
  have hselP : selectMethod e.platform s.vm cellB.cls mkn = .method mkn := by rw [Launch.admits_selectMethod X.admits]; exact q4
  have hlen : As.length = methM.sig.parameters.length := by
    have h9 := hd.2.2
    rw [hsigM] at h9
    exact (Option.some.inj h9).symm
  obtain ⟨vm₁, X₁, hstep₁⟩ := X.invokevirtual hx hown (ht _ g1) hnamed hmethM hstM hkP hkPi ⟨hd.1, hd.2.1⟩ (a := b) (cell := cellB) (by rw [hT]; exact hcB)
    (fun z h => by rw [h] at hoB; cases hoB) hselP hmethM habM hkP hkPi (g := F0 m pc ls st0) rfl (argsL := As) (rest := rest) hlen hst (by rw [hb]; exact hdg)
  obtain ⟨q9, ce, T', L, X', hL, hz, hk, hce, hcv, hcl, st⟩ := kb_payX (a := (Value.ref b :: As).toArray) (g := F0 m pc ls rest) X₁ (hM H.size) kb_blind ⟨rfl, kb_start hE hS hPc (hD.sub isC hnC hC) hF (T.setVm vm₁) hT X₁.warmed⟩ hR hf ht g5 g4 rfl (hls.trans hml.symm) (by rw [hb]; exact hdg) (lv_room hW) (X₁.named hnamed)
  have hz' : H.size ≤ T'.heap.size := by rw [← hT]; exact hz
  have hk' : ∀ q : Nat, q < H.size → ¬ va_A wc H.size q → T'.heap[q]? = H[q]? := by
    intro z h1 h2
    rw [← hT] at h1 ⊢
    exact hk z h1 h2
  obtain ⟨hP2, hD2, hS2⟩ := kb_afterX (F := A) hE hP hD hS isC isR hC hRr hn hdis hL hz' hk'
  have hcl' : s.vm.findClass E = some ce.cls := by
    have h1 : vm₁.findClass E = some ce.cls := hcl
    have h2 : s.vm.Alike vm₁ := X₁.warmed.alike
    rw [h2.findClass] at h1
    exact h1
  obtain ⟨t, a1, b1⟩ := kk q9 ce T'.heap (locs ++ L) hce hcv hcl' hP2 hD2 hS2 T' rfl X'
  exact ⟨t, hstep₁ _ fun acts => by rw [doInvoke_state]; exact st.trans a1, b1⟩
theorem kb_xS (S : CallFix p m c cc nL s args kb_T own) (hM : kb_cx l G y bytes maxL ret k mc ms As wc E) (g1 : Cond.methodLink own index y ∈ kb_T) (g2 : Cond.static y ∈ kb_T) (g4 : Cond.initialized y.cls ∈ kb_T) (g5 : Cond.code y bytes maxL ret ∈ kb_T)
    (hd : y.cls ≠ "java/lang/invoke/MethodHandle" ∧ y.cls ≠ "java/lang/invoke/VarHandle" ∧ (parseMethodDescriptor y.desc).map (fun d => d.parameters.length) = some As.length) (hR : k + 1 ≤ R.frames ∧ 8 + (maxL + 11) + 32 * k ≤ R.locals)
    (hE : kb_E G A s) (hP : va_P G.1 kb_cl ws H) (hD : va_D A ws) (hS : va_S A s.heap H locs) (isC isR : List Nat) (hC : isC.map (fun i => ws[i]?) = wc.map some) (hRr : isR.map (fun i => ws[i]?) = wr.map some) (hnC : va_nd isC = true) (hn : va_nd isR = true) (hdis : ∀ i ∈ isR, i ∉ isC)
    (hls : ls.size = nL) (hst : st0 = As.reverse ++ rest) (hW : (rest.map fun v => v.category).sum ≤ 8) (hdg : decode cc pc = .ok (.invokestatic index, 3)) (hf : cells + mc ≤ R.cells ∧ slots + ms ≤ R.slots)
    (kk : ∀ (q9 : Addr) (ce : Cell) (H1 : Heap) (locs1 : List Loc), H1[q9]? = some ce → ce.vm = .none → s.vm.findClass E = some ce.cls → va_P G.1 kb_cl wr H1 → va_D A wr → va_S A s.heap H1 locs1 → kb_WX p l e R s m args below meth c H1 locs1 (cells + mc) (slots + ms) Q (F0 m pc ls rest) q9) :
    W p l e R s m args below meth c H locs cells slots Q (F0 m pc ls st0) := by
  obtain ⟨hx, hb, hml, hown, ht⟩ := S
  have hPc := kb_cut hP isC hC
  have hF := va_free hD hS hE.2.2.2 isC hC
  intro T hT X
  obtain ⟨mkn, hnamed⟩ := Cond.code_named (ht _ g5)
  obtain ⟨methM, cM, hmethM, -, -, -, -, -, -, hsigM⟩ := Cond.code_spec hnamed (ht _ g5)
  have hstatic : methM.isStatic = true := Cond.static_spec hnamed hmethM (ht _ g2)
  obtain ⟨kP, hkP, -⟩ := className_of_methodNamed hnamed
  have hinitP : kP.init = .initialized := Cond.initialized_spec (findClass_of_methodNamed hnamed) hkP (ht _ g4)
  have hlen : As.length = methM.sig.parameters.length := by
    have h9 := hd.2.2
    rw [hsigM] at h9
    exact (Option.some.inj h9).symm
  obtain ⟨vm₁, X₁, hstep₁⟩ := X.invokestatic hx hown (ht _ g1) hnamed hmethM hstatic hkP hinitP ⟨hd.1, hd.2.1⟩ (g := F0 m pc ls st0) rfl (argsL := As) (rest := rest) hlen hst (by rw [hb]; exact hdg)
  obtain ⟨q9, ce, T', L, X', hL, hz, hk, hce, hcv, hcl, st⟩ := kb_payX (a := As.toArray) (g := F0 m pc ls rest) X₁ (hM H.size) kb_blind ⟨rfl, kb_start hE hS hPc (hD.sub isC hnC hC) hF (T.setVm vm₁) hT X₁.warmed⟩ hR hf ht g5 g4 rfl (hls.trans hml.symm) (by rw [hb]; exact hdg) (lv_room hW) (X₁.named hnamed)
  have hz' : H.size ≤ T'.heap.size := by rw [← hT]; exact hz
  have hk' : ∀ q : Nat, q < H.size → ¬ va_A wc H.size q → T'.heap[q]? = H[q]? := by
    intro z h1 h2
    rw [← hT] at h1 ⊢
    exact hk z h1 h2
  obtain ⟨hP2, hD2, hS2⟩ := kb_afterX (F := A) hE hP hD hS isC isR hC hRr hn hdis hL hz' hk'
  have hcl' : s.vm.findClass E = some ce.cls := by
    have h1 : vm₁.findClass E = some ce.cls := hcl
    have h2 : s.vm.Alike vm₁ := X₁.warmed.alike
    rw [h2.findClass] at h1
    exact h1
  obtain ⟨t, a1, b1⟩ := kk q9 ce T'.heap (locs ++ L) hce hcv hcl' hP2 hD2 hS2 T' rfl X'
  exact ⟨t, hstep₁ _ fun acts => by rw [doInvoke_state]; exact st.trans a1, b1⟩
/-- not caught here: it leaves this method too -/
theorem kb_out {ce : Cell} {q9 : Addr} (hno : ∀ z ∈ c.exceptionTable.toList, False) (hlocks : meth.locks = false) (hce : H[q9]? = some ce) (hcv : ce.vm = .none) (hcl : s.vm.findClass E = some ce.cls) (hS : va_S A s.heap H locs) (hc : cells ≤ mc) (hs : slots ≤ ms) :
    kb_WX p l e R s m args below meth c H locs cells slots (kb_MX below E A args s mc ms) (F0 m pc ls rest) q9 := by
  intro T hT X
  obtain ⟨st1, hrun, hend, hW, hsm⟩ := X.leaveThrown q9 (g := F0 m pc ls rest) rfl rfl rfl (fun z hz => (hno z hz).elim) hlocks
  refine ⟨_, st1, .threw q9, hrun, hend, q9, ce, locs, rfl, hS.F hT, ?_, hcv, hcl, hW, hsm.mono hc hs, hS.2.2⟩
  show T.heap[q9]? = some ce
  rw [hT]
  exact hce
end KX
end
section
section KT
variable {p : Program} {l : Launch} {e : Env} {R : Room} {s : State} {m : MethodId} {args : Array Value} {below : List Frame} {meth : Method} {c : Code} {T : State} {H : Heap} {locs : List Loc} {cells slots : Nat} {Q : State → Prop}
variable {G : kb_G} {A : Nat → Prop} {wi : va_W} {cc : ByteArray} {pc : Nat} {ls : Array Slot} {rest : List Value} {mc ms : Nat} {E : String}
theorem kb_plain {q : Nat} {cell : Cell} (hP : va_P G.1 kb_cl wi H) (hA : va_A wi H.size q) (h : H[q]? = some cell) : cell.vm = .none := by
  rcases hA with ⟨k, e9, hk⟩ | hA
  · have h1 := hP k _ hk
    cases e9 with
    | inl a =>
      have h2 : H[q]? = some (vp_cell a.1 a.2) := h1
      cases Option.some.inj (h.symm.trans h2)
      unfold vp_cell
      split <;> rfl
    | inr o =>
      obtain ⟨r, -, cell9, q1, q2, q3, q4⟩ := h1
      cases Option.some.inj (h.symm.trans q1)
      exact q3
  · have h3 := (Array.getElem?_eq_some_iff.mp h).1
    omega
theorem kb_same {U : State} {k n : Nat} (h : s.sameButNew ({ U with vm := s.vm } : State) locs k n) (hA : ∀ z ∈ locs, A z.base) : va_F A s U := by
  obtain ⟨-, h2, -, -, -, h6⟩ := h
  refine ⟨h2, fun q hq hz => ?_⟩
  obtain ⟨c9, e1, e2, e3, e4⟩ := h6 q _ (Array.getElem?_eq_getElem hq)
  have hs : c9.slots = (s.heap[q]).slots := Array.ext_getElem? fun i => e4 i fun hm => hz (hA _ hm)
  have h9 : c9 = s.heap[q] := by
    rw [hs] at e2
    exact e2
  have e5 : U.heap[q]? = some c9 := e1
  rw [e5, h9, Array.getElem?_eq_getElem hq]
/-- throw new E("text"), where no entry of this method's table is in the way -/
theorem kb_throw {text : String} {names : List String} {ik is ic : Nat} (hx : p.tables.exec = Jvm.exec) (hb : c.code = cc) (hl : l.stackTraces = false) (hown : s.vm.findClass "TreePress" = some m.cls) (ht : ∀ w ∈ kb_T, w.before args s = true) (hE : kb_E G A s) (hcls : Bundle.fit E = true) (hnames : ∀ n ∈ names, Bundle.fit n = true)
    (hk : Cond.classLink "TreePress" ik E ∈ kb_T) (hini : Cond.initialized E ∈ kb_T) (hat : ∀ w ∈ (Bundle.ownAtoms "TreePress" ic E names).filter goodWord, w ∈ kb_T)
    (hbad : ∀ w ∈ (Bundle.ownAtoms "TreePress" ic E names).filter (fun w => !goodWord w), w ∈ [Cond.castable E E, .isRef (.static Bundle.tN "UNASSIGNED_STACK" Bundle.steD), .isRef (.static Bundle.tN "SUPPRESSED_SENTINEL" Bundle.listD), .laysStatic Bundle.tN "UNASSIGNED_STACK" Bundle.steD, .laysStatic Bundle.tN "SUPPRESSED_SENTINEL" Bundle.listD, Cond.declares (Bundle.initS "java/lang/RuntimeException"), .declares (Bundle.initS "java/lang/Exception"), .declares (Bundle.initS Bundle.tN)])
    (hcast : (E, E) ∈ kb_cast) (hstr : (is, text) ∈ kb_strs) (hP0 : va_P G.1 kb_cl wi s.heap) (hAw : ∀ q, A q → va_A wi s.heap.size q) (hS : va_S A s.heap H locs) (hsize : ls.size = c.maxLocals) (hno : ∀ z ∈ c.exceptionTable.toList, False) (hlocks : meth.locks = false)
    (d0 : decode cc pc = .ok (.new ik, 3)) (d3 : decode cc (pc + 3) = .ok (.dup, 1)) (d4 : decode cc (pc + 4) = .ok (.ldc is, 2)) (d6 : decode cc (pc + 6) = .ok (.invokespecial ic, 3)) (d9 : decode cc (pc + 9) = .ok (.athrow, 1))
    (hRf : names.length + 3 < R.frames) (hRl : (rest.map fun v => v.category).sum + (13 * (names.length + 1) + 43) ≤ R.locals) (hcells : cells + 1 ≤ R.cells) (hslots : slots + 6 ≤ R.slots) (hc : cells + 1 ≤ mc) (hs : slots + 6 ≤ ms) :
    W p l e R s m args below meth c H locs cells slots (kb_MX below E A args s mc ms) (F0 m pc ls rest) := by
  intro T hT X
  have htr : e.platform.stackTraces = false := (show e.platform.stackTraces = l.stackTraces by rw [X.admits.platform]).trans hl
  have hall : ∀ w ∈ Bundle.ownAtoms "TreePress" ic E names, w.before args s = true := by
    intro w hw
    by_cases g : goodWord w = true
    · exact ht w (hat w (List.mem_filter.mpr ⟨hw, g⟩))
    · have h1 := hbad w (List.mem_filter.mpr ⟨hw, by simp [g]⟩)
      simp only [List.mem_cons, List.not_mem_nil, or_false] at h1
      rcases h1 with rfl | rfl | rfl | rfl | rfl | rfl | rfl | rfl
      · exact va_Nw.use rfl (hE.2.2.1.2.1 _ hcast)
      · exact hE.2.1.1.isRef
      · exact hE.2.1.2.isRef
      · exact hE.2.1.1.lays
      · exact hE.2.1.2.lays
      · exact va_Nw.use rfl (hE.2.2.1.2.2.2.2 _ (List.mem_of_getElem? (i := 0) rfl))
      · exact va_Nw.use rfl (hE.2.2.1.2.2.2.2 _ (List.mem_of_getElem? (i := 1) rfl))
      · exact va_Nw.use rfl (hE.2.2.1.2.2.2.2 _ (List.mem_of_getElem? (i := 2) rfl))
  have hins : (Cond.instantiable E 6).before args s = true := hall _ (by simp [Bundle.ownAtoms])
  obtain ⟨vm₁, cX, kX, hfX, hkX, -, -, X₁, st1⟩ := X.newCold hx (own := "TreePress") (C := E) (index := ik) (n := 6) hown (ht _ hk) hins (ht _ hini) (g := F0 m pc ls rest) rfl (by rw [hb]; exact d0) hcells hslots
  generalize hT1 : (T.setVm vm₁).pushCell { cls := cX, slots := kX.instanceTypes.map defaultValue, vm := .none } = T1 at X₁ st1
  have hcellA : T1.heap[T.heap.size]? = some (freshCell cX kX) := by rw [← hT1]; exact State.heap_pushCell_size _ _
  have hcat : (Value.ref T.heap.size).category = 1 := rfl
  have d3' : decode c.code (pc + 3) = .ok (.dup, 1) := by rw [hb]; exact d3
  have d4' : decode c.code (pc + 4) = .ok (.ldc is, 2) := by rw [hb]; exact d4
  obtain ⟨sa, hsa1, hsa2⟩ := hE.2.2.1.2.2.1 _ hstr
  have hstr1 : (Cond.stringRef "TreePress" is text).before args s = true := hsa1
  have hstr2 : (Term.string "TreePress" is).eval args s none [] s = some (.ref sa) := hsa2
  obtain ⟨U, hsteps, hrun, hend, hW, hsame, ce, hce, hO⟩ := X₁.ctorThrowS hx htr (own := "TreePress") (cls := E) (names := names) (ic := ic) hown hcls hnames hall
    (fun z hz cell hcell => by rw [kb_plain hP0 (hAw _ (hS.2.2 z hz)) hcell]; rfl) hfX hkX hcellA (by rw [hT]; exact hS.1) (msg := .ref sa) rfl
    (g := { method := m, pc := pc + 6, locals := ls, stack := .ref sa :: .ref T.heap.size :: .ref T.heap.size :: rest, locked := none }) rfl hsize rfl rfl (rest := rest) rfl
    (by rw [hb]; exact d6) (by rw [hb]; exact d9) (fun z hz => (hno z hz).elim) hRf (by show 2 * 0 + _ + _ ≤ _; simp only [List.map_cons, List.sum_cons, hcat]; omega) hlocks
  refine ⟨U, ?_, .threw T.heap.size, hrun, hend, T.heap.size, ce, locs, rfl, kb_same hsame hS.2.2, hce, hO.vm, hO.cls, hW, hsame.mono hc hs, hS.2.2⟩
  refine st1 _ ?_
  show Steps p.tables e below (T1.setTop { method := m, pc := pc + 3, locals := ls, stack := .ref T.heap.size :: rest, locked := none }) _
  jvm_step X₁.here [X₁.here.top, hx, d3', Value.category]
  exact X₁.ldcString hx (own := "TreePress") (text := text) (index := is) (a := sa) hown hstr1 hstr2
    (g := { method := m, pc := pc + 4, locals := ls, stack := .ref T.heap.size :: .ref T.heap.size :: rest, locked := none }) rfl d4' _ hsteps
end KT
end
section
/-! methods with a table: the search of a handler, whose class is linked on the way -/
section KH
variable {p : Program} {l : Launch} {e : Env} {R : Room} {s : State} {m : MethodId} {args : Array Value} {below : List Frame} {meth : Method} {c : Code} {T : State} {H : Heap} {locs : List Loc} {cells slots : Nat} {Q : State → Prop}
/-- an entry that covers the pc: it takes the object, or it passes it on; either way its class is noted -/
theorem kb_go {f : JFrame} {a : Addr} {S : State} {d : Bool} {acts : List Action} {Qh : Handler → Pre} {Ec : CtlPost} {z : ExceptionTableEntry} {tl : List ExceptionTableEntry} {k : ClassId} {cell : Cell} (hz : covers z f.pc = true) (h0 : z.catchType ≠ 0)
    (hlk : S.vm.ClassLinks e.platform f.method.cls z.catchType k) (hcell : S.heap[a]? = some cell) (hobj : ∀ q, cell.vm ≠ .statics q) (h1 : ∃ q, S.vm.classes[cell.cls]? = some q) (h2 : ∃ q, S.vm.classes[k]? = some q) :
    wp (findHandler.go f a (z :: tl)) Qh Ec e d acts S ↔ if S.vm.assignable cell.cls k = true then Qh (.found z.handlerPc) d acts (S.setVm (S.vm.noted f.method.cls z.catchType (.cls k))) else wp (findHandler.go f a tl) Qh Ec e d acts (S.setVm (S.vm.noted f.method.cls z.catchType (.cls k))) := by
  simp only [covers] at hz
  obtain ⟨ha, ht⟩ := (resolveClass_links e.toSetting hlk).op (op := VmOp.resolveClass f.method.cls z.catchType) rfl
  have hal : S.vm.Alike (S.vm.noted f.method.cls z.catchType (.cls k)) := (Vm.Alike.refl S.vm).noted _ _ _
  obtain ⟨k1, hk1⟩ := h1
  obtain ⟨k2, hk2⟩ := h2
  obtain ⟨k1', hk1', -⟩ := hal.2.2 _ _ hk1
  obtain ⟨k2', hk2', -⟩ := hal.2.2 _ _ hk2
  have hs : (S.vm.noted f.method.cls z.catchType (.cls k)).assignable cell.cls k = S.vm.assignable cell.cls k := hal.assignable _ _
  by_cases hfit : S.vm.assignable cell.cls k = true
  · rw [hfit] at hs
    simp [findHandler.go, hz, h0, ha, ht, hcell, hobj, hk1', hk2', hs, hfit, VmOp.dirties, VmOp.acts]
  · have hno : S.vm.assignable cell.cls k = false := by simpa using hfit
    rw [hno] at hs
    simp [findHandler.go, hz, h0, ha, ht, hcell, hobj, hk1', hk2', hs, hno, VmOp.dirties, VmOp.acts]
/-- the search ends at the handler h, with the tables vm' -/
def kb_F (e : Env) (S : State) (f : JFrame) (a : Addr) (h : Nat) (vm' : Vm) : Prop := ∀ (Qh : Handler → Pre) (Ec : CtlPost) (d : Bool) (acts : List Action), wp (findHandler f a) Qh Ec e d acts S ↔ Qh (.found h) d acts (S.setVm vm')
theorem kb_caught {tb : Tables} {target : State} {g : JFrame} {a : Addr} {h : Nat} {vm' : Vm} (X : At T g.method c below) (hf : kb_F e ((T.setTop g).pushFrame (.throwing a)) g a h vm') (hrest : Steps tb e below ((T.setVm vm').setTop { g with pc := h, stack := [.ref a] }) target) : Steps tb e below ((T.setTop g).pushFrame (.throwing a)) target := by
  obtain ⟨hgo, hw⟩ := X.throwing a
  refine Steps.head hgo hw ?_
  have hst : ∀ r : List Frame, (stepThrowing e ((T.setTop g).pushFrame (.throwing a)) a (.java g :: r)).Is ((((T.setTop g).pushFrame (.throwing a)).setVm vm').setFrames (.java { g with pc := h, stack := [.ref a] } :: r)) [] := by
    intro r
    simp only [stepThrowing, searchFrame, vmDo]
    generalize hr : Sem.go _ e false [] _ = res
    obtain ⟨as, rfl, ha⟩ := Sem.eq_ok_of hr (a := Handler.found h) (s' := ((T.setTop g).pushFrame (.throwing a)).setVm vm') (acts' := []) (by simp [hf _ _ _ _])
    exact ⟨rfl, ha⟩
  rw [stepThread_throwing (frames_entered X.top _), (hst _).1]
  obtain ⟨g₀, hg⟩ := Option.isSome_iff_exists.mp X.top
  obtain ⟨r, hr⟩ := State.topJava?_eq_some.mp hg
  have hr' : (T.setVm vm').frames = .java g₀ :: r := hr
  have e1 : ∀ (u : State) (F1 F2 : List Frame), ((u.setFrames F1).setVm vm').setFrames F2 = (u.setVm vm').setFrames F2 := fun u F1 F2 => by
    have h9 : (u.setFrames F1).setVm vm' = (u.setVm vm').setFrames F1 := rfl
    rw [h9, State.setFrames_setFrames]
  rw [State.setTop_of_frames _ hr'] at hrest
  rw [hr, List.tail_cons, State.pushFrame, e1, State.setTop_of_frames _ hr, e1]
  exact hrest
variable {cc : ByteArray} {pc : Nat} {ls : Array Slot} {rest : List Value} {own E : String} {ce : Cell} {q9 : Addr}
/-- the first entry takes it -/
theorem kb_catch1 {name : String} {z : ExceptionTableEntry} {tl : List ExceptionTableEntry} (hown : s.vm.findClass own = some m.cls) (htab : c.exceptionTable.toList = z :: tl) (hz : covers z pc = true) (h0 : z.catchType ≠ 0) (hlink : (Cond.classLink own z.catchType name).before args s = true) (hcast : (Cond.castable E name).before args s = true)
    (hce : H[q9]? = some ce) (hcv : ce.vm = .none) (hcl : s.vm.findClass E = some ce.cls) (kk : W p l e R s m args below meth c H locs cells slots Q (F0 m z.handlerPc ls [.ref q9])) : kb_WX p l e R s m args below meth c H locs cells slots Q (F0 m pc ls rest) q9 := by
  intro T hT X
  have hpl : e.platform.magicAccessors = ({} : Platform).magicAccessors := by rw [X.admits.platform]
  obtain ⟨c3, c4, hc3, hc4, hasg⟩ := Cond.castable_spec hcast
  cases Option.some.inj (hc3.symm.trans hcl)
  obtain ⟨c5, hc5, hlk⟩ := Cond.classLink_spec hown hlink e.platform hpl
  cases Option.some.inj (hc4.symm.trans hc5)
  obtain ⟨dk, _, _, kt, hd, _, _, _, _, hkt, _, hopen⟩ := hlk.here
  obtain ⟨kt', hkt', -⟩ := X.warmed.alike.2.2 _ _ hkt
  obtain ⟨ke, hke, -⟩ := Vm.findClass_spec hcl
  obtain ⟨ke', hke', -⟩ := X.warmed.alike.2.2 _ _ hke
  have hW' : s.WarmedH (T.vm.noted m.cls z.catchType (.cls c4)) := X.warmed.noted hd hopen (State.rightAt_cls hlk)
  have hf : kb_F e ((T.setTop (F0 m pc ls rest)).pushFrame (.throwing q9)) (F0 m pc ls rest) q9 z.handlerPc (T.vm.noted m.cls z.catchType (.cls c4)) := by
    intro Qh Ec d acts
    rw [W.findHandler_eq (meth := meth) (code := c) X.method' X.code, htab, kb_go (e := e) (f := F0 m pc ls rest) (S := ((T.setTop (F0 m pc ls rest)).pushFrame (.throwing q9))) (k := c4) (cell := ce) hz h0 (X.warmed.classLinks hlk) (show T.heap[q9]? = some ce by rw [hT]; exact hce) (fun q h => by rw [hcv] at h; cases h) ⟨ke', hke'⟩ ⟨kt', hkt'⟩, if_pos (show ((T.setTop (F0 m pc ls rest)).pushFrame (.throwing q9)).vm.assignable ce.cls c4 = true from show T.vm.assignable ce.cls c4 = true by rw [X.warmed.alike.assignable]; exact hasg)]
    rfl
  obtain ⟨t, a1, b1⟩ := kk (T.setVm (T.vm.noted m.cls z.catchType (.cls c4))) hT (X.noted hW')
  exact ⟨t, kb_caught X.here hf a1, b1⟩
/-- the first entry passes it on, the second takes it -/
theorem kb_catch2 {nam1 name : String} {z1 z : ExceptionTableEntry} {tl : List ExceptionTableEntry} (hown : s.vm.findClass own = some m.cls) (htab : c.exceptionTable.toList = z1 :: z :: tl) (hz1 : covers z1 pc = true) (h01 : z1.catchType ≠ 0) (hlink1 : (Cond.classLink own z1.catchType nam1).before args s = true) (hnc : va_Nc E nam1 s)
    (hz : covers z pc = true) (h0 : z.catchType ≠ 0) (hlink : (Cond.classLink own z.catchType name).before args s = true) (hcast : (Cond.castable E name).before args s = true)
    (hce : H[q9]? = some ce) (hcv : ce.vm = .none) (hcl : s.vm.findClass E = some ce.cls) (kk : W p l e R s m args below meth c H locs cells slots Q (F0 m z.handlerPc ls [.ref q9])) : kb_WX p l e R s m args below meth c H locs cells slots Q (F0 m pc ls rest) q9 := by
  intro T hT X
  have hpl : e.platform.magicAccessors = ({} : Platform).magicAccessors := by rw [X.admits.platform]
  obtain ⟨c3, c4, hc3, hc4, hasg⟩ := Cond.castable_spec hcast
  cases Option.some.inj (hc3.symm.trans hcl)
  obtain ⟨c5, hc5, hlk⟩ := Cond.classLink_spec hown hlink e.platform hpl
  cases Option.some.inj (hc4.symm.trans hc5)
  obtain ⟨c6, c7, hc6, hc7, hnas⟩ := hnc
  cases Option.some.inj (hc6.symm.trans hcl)
  obtain ⟨c8, hc8, hlk1⟩ := Cond.classLink_spec hown hlink1 e.platform hpl
  cases Option.some.inj (hc7.symm.trans hc8)
  obtain ⟨dk1, _, _, kt1, hd1, _, _, _, _, hkt1, _, hopen1⟩ := hlk1.here
  obtain ⟨dk, _, _, kt, hd, _, _, _, _, hkt, _, hopen⟩ := hlk.here
  obtain ⟨ke, hke, -⟩ := Vm.findClass_spec hcl
  have hW1 : s.WarmedH (T.vm.noted m.cls z1.catchType (.cls c7)) := X.warmed.noted hd1 hopen1 (State.rightAt_cls hlk1)
  have hW' : s.WarmedH ((T.vm.noted m.cls z1.catchType (.cls c7)).noted m.cls z.catchType (.cls c4)) := hW1.noted hd hopen (State.rightAt_cls hlk)
  obtain ⟨kt1', hkt1', -⟩ := X.warmed.alike.2.2 _ _ hkt1
  obtain ⟨ke1', hke1', -⟩ := X.warmed.alike.2.2 _ _ hke
  obtain ⟨kt', hkt', -⟩ := hW1.alike.2.2 _ _ hkt
  obtain ⟨ke', hke', -⟩ := hW1.alike.2.2 _ _ hke
  have hf : kb_F e ((T.setTop (F0 m pc ls rest)).pushFrame (.throwing q9)) (F0 m pc ls rest) q9 z.handlerPc ((T.vm.noted m.cls z1.catchType (.cls c7)).noted m.cls z.catchType (.cls c4)) := by
    intro Qh Ec d acts
    rw [W.findHandler_eq (meth := meth) (code := c) X.method' X.code, htab, kb_go (e := e) (f := F0 m pc ls rest) (S := ((T.setTop (F0 m pc ls rest)).pushFrame (.throwing q9))) (k := c7) (cell := ce) hz1 h01 (X.warmed.classLinks hlk1) (show T.heap[q9]? = some ce by rw [hT]; exact hce) (fun q h => by rw [hcv] at h; cases h) ⟨ke1', hke1'⟩ ⟨kt1', hkt1'⟩, if_neg (show ¬ ((T.setTop (F0 m pc ls rest)).pushFrame (.throwing q9)).vm.assignable ce.cls c7 = true from show ¬ T.vm.assignable ce.cls c7 = true by rw [X.warmed.alike.assignable, hnas]; decide),
      kb_go (e := e) (f := F0 m pc ls rest) (S := ((T.setTop (F0 m pc ls rest)).pushFrame (.throwing q9)).setVm (((T.setTop (F0 m pc ls rest)).pushFrame (.throwing q9)).vm.noted (F0 m pc ls rest).method.cls z1.catchType (.cls c7))) (k := c4) (cell := ce) hz h0 (hW1.classLinks hlk) (show T.heap[q9]? = some ce by rw [hT]; exact hce) (fun q h => by rw [hcv] at h; cases h) ⟨ke', hke'⟩ ⟨kt', hkt'⟩, if_pos (show (((T.setTop (F0 m pc ls rest)).pushFrame (.throwing q9)).setVm (((T.setTop (F0 m pc ls rest)).pushFrame (.throwing q9)).vm.noted (F0 m pc ls rest).method.cls z1.catchType (.cls c7))).vm.assignable ce.cls c4 = true from show (T.vm.noted m.cls z1.catchType (.cls c7)).assignable ce.cls c4 = true by rw [hW1.alike.assignable]; exact hasg)]
    rfl
  obtain ⟨t, a1, b1⟩ := kk (T.setVm ((T.vm.noted m.cls z1.catchType (.cls c7)).noted m.cls z.catchType (.cls c4))) hT (X.noted hW')
  exact ⟨t, kb_caught X.here hf a1, b1⟩
end KH
/-! a method with a table: its contract, its body, its call -/
def kb_WH (y : MethodName) (c : ByteArray) (n : Nat) (r : Option FieldType) (hh : List (Nat × Nat × Nat × Nat)) : List Cond := .codeWith y c n r hh :: kb_T
def kb_ch (l : Launch) (G : kb_G) (y : MethodName) (c : ByteArray) (n : Nat) (r : Option FieldType) (hh : List (Nat × Nat × Nat × Nat)) (k mc ms : Nat) (av : List Value) (wi : va_W) (post : Int32 → kb_S → Prop) (wo : kb_S → va_W) : Prop :=
  ∀ sz, Met l y (kb_WH y c n r hh) (kb_rm k mc ms) (va_Pc av (kb_Pre G wi sz)) (kb_Qi G (va_A wi sz) post wo) mc ms (va_A wi sz)
theorem kb_bodyH {l : Launch} {G : kb_G} {y : MethodName} {bytes : ByteArray} {maxL : Nat} {ret : Option FieldType} {hh : List (Nat × Nat × Nat × Nat)} {k mc ms : Nat} {av : List Value} {wi : va_W} {post : Int32 → kb_S → Prop} {wo : kb_S → va_W} (hy : plainName y.cls = true) (hav : (lg_sl av).length ≤ maxL)
    (body : ∀ p e s m below meth c A, kb_B G y bytes maxL ret av wi p s m meth c A → c.exceptionTable.toList.map (fun h => (h.startPc, h.endPc, h.handlerPc, h.catchType)) = hh → ∀ ls, lv_has ls maxL (lv_args 0 av) → W p l e (kb_rm k mc ms) s m av.toArray below meth c s.heap [] 0 0 (MQ below (kb_Qi G A post wo) av.toArray s mc ms A) (F0 m 0 ls [])) :
    kb_ch l G y bytes maxL ret hh k mc ms av wi post wo := by
  intro sz
  refine va_MetW (cc := bytes) (maxL := maxL) (ret := ret) (hh := hh) hy rfl ?_
  intro p e s m args below meth c s₁ B hml hv
  obtain ⟨rfl, hsz, hP, hK, hD0, hZ, hN⟩ := hv
  subst hsz
  have hts := atoms_spec (ws := kb_WH y bytes maxL ret hh) B.pre
  have htab : c.exceptionTable.toList.map (fun h => (h.startPc, h.endPc, h.handlerPc, h.catchType)) = hh := by
    obtain ⟨m9, meth9, c9, hn9, h1, h2, -, -, h6, -⟩ := Cond.codeWith_spec (hts _ List.mem_cons_self)
    cases Option.some.inj (hn9.symm.trans B.named)
    cases Option.some.inj (h1.symm.trans B.method)
    cases Option.some.inj (h2.symm.trans (Stand.of_body B).code)
    exact h6
  have h := body p e s m below meth c (va_A wi s.heap.size) ⟨B.exec, B.bytes, B.returns, hml, B.notSynchronized, (name_of_methodNamed B.named B.method).1, findClass_of_methodNamed B.named, fun w hw => hts w (List.mem_cons_of_mem _ hw), ⟨hK, hZ, hN, fun q hq => Or.inr hq⟩, hP, hD0.self, va_S.rf⟩ htab
  rw [lg_entry_eq]
  exact h _ (lv_entry av (n := maxL) hav)
section KI
variable {p : Program} {l : Launch} {e : Env} {R : Room} {s : State} {m : MethodId} {args : Array Value} {below : List Frame} {meth : Method} {c : Code} {T : State} {H : Heap} {locs : List Loc} {cells slots : Nat} {Q : State → Prop}
variable {G : kb_G} {A : Nat → Prop} {ws wc wr : va_W} {cc : ByteArray} {pc nL : Nat} {ls : Array Slot} {rest st0 As : List Value}
variable {y : MethodName} {bytes : ByteArray} {maxL k mc ms index : Nat} {ret : Option FieldType} {own : String} {hh : List (Nat × Nat × Nat × Nat)}
theorem kb_rH {post : Int32 → kb_S → Prop} {wo : kb_S → va_W} (S : CallFix p m c cc nL s args kb_T own) (hM : kb_ch l G y bytes maxL ret hh k mc ms As wc post wo) (g1 : Cond.codeWith y bytes maxL ret hh ∈ kb_T) (g2 : Cond.initialized y.cls ∈ kb_T) (g3 : Cond.methodLink own index y ∈ kb_T) (g4 : Cond.static y ∈ kb_T)
    (hd : y.cls ≠ "java/lang/invoke/MethodHandle" ∧ y.cls ≠ "java/lang/invoke/VarHandle" ∧ (parseMethodDescriptor y.desc).map (fun d => d.parameters.length) = some As.length) (hR : k + 1 ≤ R.frames ∧ 8 + (maxL + 11) + 32 * k ≤ R.locals)
    (hE : kb_E G A s) (hP : va_P G.1 kb_cl ws H) (hD : va_D A ws) (hS : va_S A s.heap H locs) (isC : List Nat) (hC : isC.map (fun i => ws[i]?) = wc.map some) (hn : va_nd isC = true)
    (hls : ls.size = nL) (hst : st0 = As.reverse ++ rest) (hW : (rest.map fun v => v.category).sum ≤ 8) (hdg : decode cc pc = .ok (.invokestatic index, 3)) (hf : cells + mc ≤ R.cells ∧ slots + ms ≤ R.slots) :
    va_Run p l e R s m args below meth c H locs cells slots mc ms (F0 m pc ls st0) rest (kb_Qi G (va_A wc H.size) post wo As.toArray) (va_A wc H.size) := by
  obtain ⟨hx, hb, hml, hown, ht⟩ := S
  have hPc := kb_cut hP isC hC
  have hF := va_free hD hS hE.2.2.2 isC hC
  have pay : ∀ w ∈ kb_T, ∀ (a' : Array Value) (U : State), s.WarmedH U.vm → w.before a' U = true := fun w hw a' U hU => word_at hU (good_of_word (kb_good hw)) (ht w hw)
  have hK : Back l R p e below s args y 3 8 (PreOf R mc ms (va_Pc As (kb_Pre G wc H.size))) (PostOf (kb_Qi G (va_A wc H.size) post wo) mc ms (va_A wc H.size)) :=
    va_backW (hh := hh) (bytes := bytes) (maxL := maxL) (ret := ret) (hM H.size) kb_blind rfl rfl hR.1 hR.2 (fun w hw => (List.mem_cons.mp hw).elim (fun e => by rw [e]; exact pay _ g1) (pay w)) List.mem_cons_self (pay _ g2)
  intro T hT X
  obtain ⟨mkn, methM, cM, hnamed, hmethM, -, -, -, -, -, -, hsigM⟩ := Cond.codeWith_spec (ht _ g1)
  have hstatic : methM.isStatic = true := Cond.static_spec hnamed hmethM (ht _ g4)
  obtain ⟨kP, hkP, -⟩ := className_of_methodNamed hnamed
  have hinitP : kP.init = .initialized := Cond.initialized_spec (findClass_of_methodNamed hnamed) hkP (ht _ g2)
  have hlen : As.length = methM.sig.parameters.length := by
    have h9 := hd.2.2
    rw [hsigM] at h9
    exact (Option.some.inj h9).symm
  obtain ⟨vm₁, X₁, hstep₁⟩ := X.invokestatic hx hown (ht _ g3) hnamed hmethM hstatic hkP hinitP ⟨hd.1, hd.2.1⟩ (g := F0 m pc ls st0) rfl (argsL := As) (rest := rest) hlen hst (by rw [hb]; exact hdg)
  obtain ⟨v, ⟨U', l2, c2, s2⟩, X', ⟨g', mk, t, L, e1, e2, hq, h1, hL, h2, h3⟩, hsteps⟩ := hK m meth c ⟨T.setVm vm₁, locs, cells, slots⟩ (F0 m pc ls rest) (.invokestatic index) mkn As.toArray X₁ rfl (hls.trans hml.symm) (by rw [hb]; exact hdg) (lv_room hW) (X₁.named hnamed) ⟨hf.1, hf.2, rfl, kb_start hE hS hPc (hD.sub isC hn hC) hF (T.setVm vm₁) hT X₁.warmed⟩
  dsimp only [Pt.U, Pt.locs, Pt.cells, Pt.slots] at X' e1 e2 h1 h2 h3 hsteps
  subst h1; subst h2; subst h3
  exact ⟨v, (T.setVm vm₁).calling g' mk As.toArray, t, U', L, hT, X', hL, e1, e2, hq, fun target h => hstep₁ _ fun acts => by rw [doInvoke_state]; exact hsteps.trans h⟩
end KI
end
section
section KA
variable {p : Program} {l : Launch} {e : Env} {R : Room} {s : State} {m : MethodId} {args : Array Value} {below : List Frame} {meth : Method} {c : Code} {H : Heap} {locs : List Loc} {cells slots : Nat} {Q : State → Prop} {pc : Nat} {ls : Array Slot} {rest : List Value} {g : JFrame}
theorem kb_at (h : H = s.heap) (k : W p l e R s m args below meth c H locs cells slots Q g) : W p l e R s m args below meth c s.heap locs cells slots Q g := h ▸ k
theorem kb_topl {x y : Int64} (h : x = y) (k : W p l e R s m args below meth c H locs cells slots Q (F0 m pc ls (.long y :: rest))) : W p l e R s m args below meth c H locs cells slots Q (F0 m pc ls (.long x :: rest)) := h ▸ k
end KA
theorem kb_tab1 {t : List ExceptionTableEntry} {a b c d : Nat} (h : t.map (fun h => (h.startPc, h.endPc, h.handlerPc, h.catchType)) = [(a, b, c, d)]) : ∃ z0 : ExceptionTableEntry, t = [z0] ∧ z0 = ⟨a, b, c, d⟩ := by
  match t, h with
  | [⟨_, _, _, _⟩], h =>
    simp only [List.map_cons, List.map_nil, List.cons.injEq, Prod.mk.injEq, and_true] at h
    obtain ⟨rfl, rfl, rfl, rfl⟩ := h
    exact ⟨_, rfl, rfl⟩
theorem kb_tab2 {t : List ExceptionTableEntry} {a b c d a' b' c' d' : Nat} (h : t.map (fun h => (h.startPc, h.endPc, h.handlerPc, h.catchType)) = [(a, b, c, d), (a', b', c', d')]) : ∃ z0 z1 : ExceptionTableEntry, t = [z0, z1] ∧ z0 = ⟨a, b, c, d⟩ ∧ z1 = ⟨a', b', c', d'⟩ := by
  match t, h with
  | [⟨_, _, _, _⟩, ⟨_, _, _, _⟩], h =>
    simp only [List.map_cons, List.map_nil, List.cons.injEq, Prod.mk.injEq, and_true] at h
    obtain ⟨⟨rfl, rfl, rfl, rfl⟩, rfl, rfl, rfl, rfl⟩ := h
    exact ⟨_, _, rfl, rfl, rfl⟩
theorem kb_d0 : ∀ j, j < 4 → defaultValue (kb_y0 j) = vp_V [.int 0, .int 0, .int 0, .int 0] j := by decide +kernel
theorem kb_d1 : ∀ j, j < 2 → defaultValue (kb_y1 j) = vp_V [.null, .int 0] j := by decide +kernel
theorem kb_d2 : ∀ j, j < 14 → defaultValue (kb_y2 j) = vp_V [.null, .null, .null, .null, .null, .null, .null, .null, .null, .null, .null, .null, .int 0, .int 0] j := by decide +kernel
theorem kb_d3 : ∀ j, j < 5 → defaultValue (kb_y3 j) = vp_V [.null, .null, .null, .null, .null] j := by decide +kernel
theorem kb_d4 : ∀ j, j < 21 → defaultValue (kb_y4 j) = vp_V [.int 0, .null, .int 0, .null, .int 0, .null, .null, .null, .null, .null, .null, .null, .null, .null, .null, .null, .int 0, .int 0, .int 0, .int 0, .int 0] j := by decide +kernel
def kb_names : List String := ["java/lang/RuntimeException", "java/lang/Exception"]
theorem kb_own_IllegalArgument : ∀ w ∈ (Bundle.ownAtoms "TreePress" 56 "java/lang/IllegalArgumentException" kb_names).filter goodWord, w ∈ kb_T := fun w h => kb_in ((by decide +kernel : ∀ w ∈ (Bundle.ownAtoms "TreePress" 56 "java/lang/IllegalArgumentException" kb_names).filter goodWord, w ∈ lw_tbl) w h) (List.mem_filter.mp h).2
theorem kb_ownb_IllegalArgument : ∀ w ∈ (Bundle.ownAtoms "TreePress" 56 "java/lang/IllegalArgumentException" kb_names).filter (fun w => !goodWord w), w ∈ [Cond.castable "java/lang/IllegalArgumentException" "java/lang/IllegalArgumentException", .isRef (.static Bundle.tN "UNASSIGNED_STACK" Bundle.steD), .isRef (.static Bundle.tN "SUPPRESSED_SENTINEL" Bundle.listD), .laysStatic Bundle.tN "UNASSIGNED_STACK" Bundle.steD, .laysStatic Bundle.tN "SUPPRESSED_SENTINEL" Bundle.listD, Cond.declares (Bundle.initS "java/lang/RuntimeException"), .declares (Bundle.initS "java/lang/Exception"), .declares (Bundle.initS Bundle.tN)] := by decide +kernel
theorem kb_own_IndexOutOfBounds : ∀ w ∈ (Bundle.ownAtoms "TreePress" 112 "java/lang/IndexOutOfBoundsException" kb_names).filter goodWord, w ∈ kb_T := fun w h => kb_in ((by decide +kernel : ∀ w ∈ (Bundle.ownAtoms "TreePress" 112 "java/lang/IndexOutOfBoundsException" kb_names).filter goodWord, w ∈ lw_tbl) w h) (List.mem_filter.mp h).2
theorem kb_ownb_IndexOutOfBounds : ∀ w ∈ (Bundle.ownAtoms "TreePress" 112 "java/lang/IndexOutOfBoundsException" kb_names).filter (fun w => !goodWord w), w ∈ [Cond.castable "java/lang/IndexOutOfBoundsException" "java/lang/IndexOutOfBoundsException", .isRef (.static Bundle.tN "UNASSIGNED_STACK" Bundle.steD), .isRef (.static Bundle.tN "SUPPRESSED_SENTINEL" Bundle.listD), .laysStatic Bundle.tN "UNASSIGNED_STACK" Bundle.steD, .laysStatic Bundle.tN "SUPPRESSED_SENTINEL" Bundle.listD, Cond.declares (Bundle.initS "java/lang/RuntimeException"), .declares (Bundle.initS "java/lang/Exception"), .declares (Bundle.initS Bundle.tN)] := by decide +kernel
end
section
theorem wd_ef90978f : (Jvm.Cond.methodLink "TreePress$Row" (3 : Nat) ({ cls := "java/lang/Object", name := "<init>", desc := "()V" } : Jvm.MethodName)) ∈ kb_T := kb_t1 28 (by decide +kernel) (by decide +kernel)
theorem wd_962a1238 : (Jvm.Cond.instanceMethod ({ cls := "java/lang/Object", name := "<init>", desc := "()V" } : Jvm.MethodName)) ∈ kb_T := kb_t1 21 (by decide +kernel) (by decide +kernel)
theorem wd_b2b9d69d : (Jvm.Cond.code ({ cls := "java/lang/Object", name := "<init>", desc := "()V" } : Jvm.MethodName) object_method_1_code (1 : Nat) (Option.none : Option Jvm.ClassFile.FieldType)) ∈ kb_T := kb_t1 22 (by decide +kernel) (by decide +kernel)
theorem wd_298d195d : (Jvm.Cond.arrayClass Jvm.ClassFile.FieldType.int) ∈ kb_T := kb_t1 36 (by decide +kernel) (by decide +kernel)
theorem wd_aac26352 : (Jvm.Cond.fieldLink "TreePress$Row" (9 : Nat) "TreePress$Row" "cells" "[I") ∈ kb_T := kb_t1 29 (by decide +kernel) (by decide +kernel)
theorem wd_14b1fe24 : (Jvm.Cond.fieldLink "TreePress$Row" (15 : Nat) "TreePress$Row" "length" "I") ∈ kb_T := kb_t1 30 (by decide +kernel) (by decide +kernel)
theorem wd_7ee5459b : (Jvm.Cond.methodLink "java/util/Arrays" (304 : Nat) ({ cls := "java/lang/Math", name := "min", desc := "(II)I" } : Jvm.MethodName)) ∈ kb_T := kb_t1 99 (by decide +kernel) (by decide +kernel)
theorem wd_3a7a32ed : (Jvm.Cond.static ({ cls := "java/lang/Math", name := "min", desc := "(II)I" } : Jvm.MethodName)) ∈ kb_T := kb_t1 100 (by decide +kernel) (by decide +kernel)
theorem wd_5a0cff89 : (Jvm.Cond.initialized "java/lang/Math") ∈ kb_T := kb_t1 6 (by decide +kernel) (by decide +kernel)
theorem wd_c98a754a : (Jvm.Cond.code ({ cls := "java/lang/Math", name := "min", desc := "(II)I" } : Jvm.MethodName) prog_12_method_69_code (2 : Nat) (Option.some Jvm.ClassFile.FieldType.int)) ∈ kb_T := kb_t1 101 (by decide +kernel) (by decide +kernel)
theorem wd_344f678d : (Jvm.Cond.methodLink "java/util/Arrays" (150 : Nat) ({ cls := "java/lang/System", name := "arraycopy", desc := "(Ljava/lang/Object;ILjava/lang/Object;II)V" } : Jvm.MethodName)) ∈ kb_T := kb_t1 102 (by decide +kernel) (by decide +kernel)
theorem wd_be8e62b0 : (Jvm.Cond.native ({ cls := "java/lang/System", name := "arraycopy", desc := "(Ljava/lang/Object;ILjava/lang/Object;II)V" } : Jvm.MethodName)) ∈ kb_T := kb_t1 104 (by decide +kernel) (by decide +kernel)
theorem wd_7f6f8fc1 : (Jvm.Cond.static ({ cls := "java/lang/System", name := "arraycopy", desc := "(Ljava/lang/Object;ILjava/lang/Object;II)V" } : Jvm.MethodName)) ∈ kb_T := kb_t1 103 (by decide +kernel) (by decide +kernel)
theorem wd_ef343630 : (Jvm.Cond.initialized "java/lang/System") ∈ kb_T := kb_t1 7 (by decide +kernel) (by decide +kernel)
theorem wd_28377cc0 : (Jvm.Cond.constant "TreePress$Row" (19 : Nat) (65536 : Int32)) ∈ kb_T := kb_t1 88 (by decide +kernel) (by decide +kernel)
theorem wd_ad853a53 : (Jvm.Cond.code ({ cls := "java/util/Arrays", name := "copyOf", desc := "([II)[I" } : Jvm.MethodName) prog_17_method_123_code (3 : Nat) (Option.some (Jvm.ClassFile.FieldType.array Jvm.ClassFile.FieldType.int))) ∈ kb_T := kb_t1 91 (by decide +kernel) (by decide +kernel)
theorem wd_b0593275 : (Jvm.Cond.initialized "java/util/Arrays") ∈ kb_T := kb_t1 5 (by decide +kernel) (by decide +kernel)
theorem wd_4e6ae1d1 : (Jvm.Cond.methodLink "TreePress$Row" (20 : Nat) ({ cls := "java/util/Arrays", name := "copyOf", desc := "([II)[I" } : Jvm.MethodName)) ∈ kb_T := kb_t1 89 (by decide +kernel) (by decide +kernel)
theorem wd_af4c3967 : (Jvm.Cond.static ({ cls := "java/util/Arrays", name := "copyOf", desc := "([II)[I" } : Jvm.MethodName)) ∈ kb_T := kb_t1 90 (by decide +kernel) (by decide +kernel)
theorem hd_c5a1602a : (⟨"java/util/Arrays", "copyOf", "([II)[I"⟩ : MethodName).cls ≠ "java/lang/invoke/MethodHandle" ∧ (⟨"java/util/Arrays", "copyOf", "([II)[I"⟩ : MethodName).cls ≠ "java/lang/invoke/VarHandle" ∧ (parseMethodDescriptor (⟨"java/util/Arrays", "copyOf", "([II)[I"⟩ : MethodName).desc).map (fun d => d.parameters.length) = some 2 := by decide +kernel
theorem d_Row_init_0 : decode prog_3_method_1_code 0 = .ok (.aload_n 0, 1) := by decide +kernel
theorem d_Row_init_1 : decode prog_3_method_1_code 1 = .ok (.invokespecial 3, 3) := by decide +kernel
theorem d_Row_init_4 : decode prog_3_method_1_code 4 = .ok (.aload_n 0, 1) := by decide +kernel
theorem d_Row_init_5 : decode prog_3_method_1_code 5 = .ok (.bipush 16, 2) := by decide +kernel
theorem d_Row_init_7 : decode prog_3_method_1_code 7 = .ok (.newarray .int, 2) := by decide +kernel
theorem d_Row_init_9 : decode prog_3_method_1_code 9 = .ok (.putfield 9, 3) := by decide +kernel
theorem d_Row_init_12 : decode prog_3_method_1_code 12 = .ok (.aload_n 0, 1) := by decide +kernel
theorem d_Row_init_13 : decode prog_3_method_1_code 13 = .ok (.iconst 0, 1) := by decide +kernel
theorem d_Row_init_14 : decode prog_3_method_1_code 14 = .ok (.putfield 15, 3) := by decide +kernel
theorem d_Row_init_17 : decode prog_3_method_1_code 17 = .ok (.return_, 1) := by decide +kernel
theorem d_Row_length_0 : decode prog_3_method_2_code 0 = .ok (.aload_n 0, 1) := by decide +kernel
theorem d_Row_length_1 : decode prog_3_method_2_code 1 = .ok (.getfield 15, 3) := by decide +kernel
theorem d_Row_length_4 : decode prog_3_method_2_code 4 = .ok (.ireturn, 1) := by decide +kernel
theorem d_Row_at_0 : decode prog_3_method_3_code 0 = .ok (.iload_n 1, 1) := by decide +kernel
theorem d_Row_at_1 : decode prog_3_method_3_code 1 = .ok (.ifCond .lt 29, 3) := by decide +kernel
theorem d_Row_at_4 : decode prog_3_method_3_code 4 = .ok (.iload_n 1, 1) := by decide +kernel
theorem d_Row_at_5 : decode prog_3_method_3_code 5 = .ok (.aload_n 0, 1) := by decide +kernel
theorem d_Row_at_6 : decode prog_3_method_3_code 6 = .ok (.getfield 15, 3) := by decide +kernel
theorem d_Row_at_9 : decode prog_3_method_3_code 9 = .ok (.if_icmp .ge 21, 3) := by decide +kernel
theorem d_Row_at_12 : decode prog_3_method_3_code 12 = .ok (.iload_n 1, 1) := by decide +kernel
theorem d_Row_at_13 : decode prog_3_method_3_code 13 = .ok (.aload_n 0, 1) := by decide +kernel
theorem d_Row_at_14 : decode prog_3_method_3_code 14 = .ok (.getfield 9, 3) := by decide +kernel
theorem d_Row_at_17 : decode prog_3_method_3_code 17 = .ok (.arraylength, 1) := by decide +kernel
theorem d_Row_at_18 : decode prog_3_method_3_code 18 = .ok (.if_icmp .ge 12, 3) := by decide +kernel
theorem d_Row_at_21 : decode prog_3_method_3_code 21 = .ok (.aload_n 0, 1) := by decide +kernel
theorem d_Row_at_22 : decode prog_3_method_3_code 22 = .ok (.getfield 9, 3) := by decide +kernel
theorem d_Row_at_25 : decode prog_3_method_3_code 25 = .ok (.iload_n 1, 1) := by decide +kernel
theorem d_Row_at_26 : decode prog_3_method_3_code 26 = .ok (.iaload, 1) := by decide +kernel
theorem d_Row_at_27 : decode prog_3_method_3_code 27 = .ok (.goto 4, 3) := by decide +kernel
theorem d_Row_at_31 : decode prog_3_method_3_code 31 = .ok (.ireturn, 1) := by decide +kernel
theorem d_Row_cut_0 : decode prog_3_method_6_code 0 = .ok (.iload_n 1, 1) := by decide +kernel
theorem d_Row_cut_1 : decode prog_3_method_6_code 1 = .ok (.ifCond .lt 16, 3) := by decide +kernel
theorem d_Row_cut_4 : decode prog_3_method_6_code 4 = .ok (.iload_n 1, 1) := by decide +kernel
theorem d_Row_cut_5 : decode prog_3_method_6_code 5 = .ok (.aload_n 0, 1) := by decide +kernel
theorem d_Row_cut_6 : decode prog_3_method_6_code 6 = .ok (.getfield 15, 3) := by decide +kernel
theorem d_Row_cut_9 : decode prog_3_method_6_code 9 = .ok (.if_icmp .ge 8, 3) := by decide +kernel
theorem d_Row_cut_17 : decode prog_3_method_6_code 17 = .ok (.return_, 1) := by decide +kernel
theorem d_Row_cut_12 : decode prog_3_method_6_code 12 = .ok (.aload_n 0, 1) := by decide +kernel
theorem d_Row_cut_13 : decode prog_3_method_6_code 13 = .ok (.iload_n 1, 1) := by decide +kernel
theorem d_Row_cut_14 : decode prog_3_method_6_code 14 = .ok (.putfield 15, 3) := by decide +kernel
theorem d_Row_put_0 : decode prog_3_method_4_code 0 = .ok (.iload_n 1, 1) := by decide +kernel
theorem d_Row_put_1 : decode prog_3_method_4_code 1 = .ok (.ifCond .lt 27, 3) := by decide +kernel
theorem d_Row_put_4 : decode prog_3_method_4_code 4 = .ok (.iload_n 1, 1) := by decide +kernel
theorem d_Row_put_5 : decode prog_3_method_4_code 5 = .ok (.aload_n 0, 1) := by decide +kernel
theorem d_Row_put_6 : decode prog_3_method_4_code 6 = .ok (.getfield 15, 3) := by decide +kernel
theorem d_Row_put_9 : decode prog_3_method_4_code 9 = .ok (.if_icmp .ge 19, 3) := by decide +kernel
theorem d_Row_put_12 : decode prog_3_method_4_code 12 = .ok (.iload_n 1, 1) := by decide +kernel
theorem d_Row_put_13 : decode prog_3_method_4_code 13 = .ok (.aload_n 0, 1) := by decide +kernel
theorem d_Row_put_14 : decode prog_3_method_4_code 14 = .ok (.getfield 9, 3) := by decide +kernel
theorem d_Row_put_17 : decode prog_3_method_4_code 17 = .ok (.arraylength, 1) := by decide +kernel
theorem d_Row_put_18 : decode prog_3_method_4_code 18 = .ok (.if_icmp .ge 10, 3) := by decide +kernel
theorem d_Row_put_21 : decode prog_3_method_4_code 21 = .ok (.aload_n 0, 1) := by decide +kernel
theorem d_Row_put_22 : decode prog_3_method_4_code 22 = .ok (.getfield 9, 3) := by decide +kernel
theorem d_Row_put_25 : decode prog_3_method_4_code 25 = .ok (.iload_n 1, 1) := by decide +kernel
theorem d_Row_put_26 : decode prog_3_method_4_code 26 = .ok (.iload_n 2, 1) := by decide +kernel
theorem d_Row_put_27 : decode prog_3_method_4_code 27 = .ok (.iastore, 1) := by decide +kernel
theorem d_Row_put_28 : decode prog_3_method_4_code 28 = .ok (.return_, 1) := by decide +kernel
theorem d_Row_add_0 : decode prog_3_method_5_code 0 = .ok (.aload_n 0, 1) := by decide +kernel
theorem d_Row_add_1 : decode prog_3_method_5_code 1 = .ok (.getfield 15, 3) := by decide +kernel
theorem d_Row_add_4 : decode prog_3_method_5_code 4 = .ok (.aload_n 0, 1) := by decide +kernel
theorem d_Row_add_5 : decode prog_3_method_5_code 5 = .ok (.getfield 9, 3) := by decide +kernel
theorem d_Row_add_8 : decode prog_3_method_5_code 8 = .ok (.arraylength, 1) := by decide +kernel
theorem d_Row_add_9 : decode prog_3_method_5_code 9 = .ok (.if_icmp .lt 31, 3) := by decide +kernel
theorem d_Row_add_40 : decode prog_3_method_5_code 40 = .ok (.aload_n 0, 1) := by decide +kernel
theorem d_Row_add_41 : decode prog_3_method_5_code 41 = .ok (.getfield 15, 3) := by decide +kernel
theorem d_Row_add_44 : decode prog_3_method_5_code 44 = .ok (.aload_n 0, 1) := by decide +kernel
theorem d_Row_add_45 : decode prog_3_method_5_code 45 = .ok (.getfield 9, 3) := by decide +kernel
theorem d_Row_add_48 : decode prog_3_method_5_code 48 = .ok (.arraylength, 1) := by decide +kernel
theorem d_Row_add_49 : decode prog_3_method_5_code 49 = .ok (.if_icmp .ge 23, 3) := by decide +kernel
theorem d_Row_add_52 : decode prog_3_method_5_code 52 = .ok (.aload_n 0, 1) := by decide +kernel
theorem d_Row_add_53 : decode prog_3_method_5_code 53 = .ok (.getfield 9, 3) := by decide +kernel
theorem d_Row_add_56 : decode prog_3_method_5_code 56 = .ok (.aload_n 0, 1) := by decide +kernel
theorem d_Row_add_57 : decode prog_3_method_5_code 57 = .ok (.getfield 15, 3) := by decide +kernel
theorem d_Row_add_60 : decode prog_3_method_5_code 60 = .ok (.iload_n 1, 1) := by decide +kernel
theorem d_Row_add_61 : decode prog_3_method_5_code 61 = .ok (.iastore, 1) := by decide +kernel
theorem d_Row_add_62 : decode prog_3_method_5_code 62 = .ok (.aload_n 0, 1) := by decide +kernel
theorem d_Row_add_63 : decode prog_3_method_5_code 63 = .ok (.dup, 1) := by decide +kernel
theorem d_Row_add_64 : decode prog_3_method_5_code 64 = .ok (.getfield 15, 3) := by decide +kernel
theorem d_Row_add_67 : decode prog_3_method_5_code 67 = .ok (.iconst 1, 1) := by decide +kernel
theorem d_Row_add_68 : decode prog_3_method_5_code 68 = .ok (.iadd, 1) := by decide +kernel
theorem d_Row_add_69 : decode prog_3_method_5_code 69 = .ok (.putfield 15, 3) := by decide +kernel
theorem d_Row_add_72 : decode prog_3_method_5_code 72 = .ok (.return_, 1) := by decide +kernel
theorem d_Arr_copyOf_0 : decode prog_17_method_123_code 0 = .ok (.iload_n 1, 1) := by decide +kernel
theorem d_Arr_copyOf_1 : decode prog_17_method_123_code 1 = .ok (.aload_n 0, 1) := by decide +kernel
theorem d_Arr_copyOf_2 : decode prog_17_method_123_code 2 = .ok (.arraylength, 1) := by decide +kernel
theorem d_Arr_copyOf_3 : decode prog_17_method_123_code 3 = .ok (.if_icmp .ne 11, 3) := by decide +kernel
theorem d_Arr_copyOf_14 : decode prog_17_method_123_code 14 = .ok (.iload_n 1, 1) := by decide +kernel
theorem d_Arr_copyOf_15 : decode prog_17_method_123_code 15 = .ok (.newarray .int, 2) := by decide +kernel
theorem d_Arr_copyOf_17 : decode prog_17_method_123_code 17 = .ok (.astore_n 2, 1) := by decide +kernel
theorem d_Arr_copyOf_18 : decode prog_17_method_123_code 18 = .ok (.aload_n 0, 1) := by decide +kernel
theorem d_Arr_copyOf_19 : decode prog_17_method_123_code 19 = .ok (.iconst 0, 1) := by decide +kernel
theorem d_Arr_copyOf_20 : decode prog_17_method_123_code 20 = .ok (.aload_n 2, 1) := by decide +kernel
theorem d_Arr_copyOf_21 : decode prog_17_method_123_code 21 = .ok (.iconst 0, 1) := by decide +kernel
theorem d_Arr_copyOf_22 : decode prog_17_method_123_code 22 = .ok (.aload_n 0, 1) := by decide +kernel
theorem d_Arr_copyOf_23 : decode prog_17_method_123_code 23 = .ok (.arraylength, 1) := by decide +kernel
theorem d_Arr_copyOf_24 : decode prog_17_method_123_code 24 = .ok (.iload_n 1, 1) := by decide +kernel
theorem d_Arr_copyOf_25 : decode prog_17_method_123_code 25 = .ok (.invokestatic 304, 3) := by decide +kernel
theorem d_Arr_copyOf_28 : decode prog_17_method_123_code 28 = .ok (.invokestatic 150, 3) := by decide +kernel
theorem d_Arr_copyOf_31 : decode prog_17_method_123_code 31 = .ok (.aload_n 2, 1) := by decide +kernel
theorem d_Arr_copyOf_32 : decode prog_17_method_123_code 32 = .ok (.areturn, 1) := by decide +kernel
theorem d_Row_add_12 : decode prog_3_method_5_code 12 = .ok (.aload_n 0, 1) := by decide +kernel
theorem d_Row_add_13 : decode prog_3_method_5_code 13 = .ok (.getfield 9, 3) := by decide +kernel
theorem d_Row_add_16 : decode prog_3_method_5_code 16 = .ok (.arraylength, 1) := by decide +kernel
theorem d_Row_add_17 : decode prog_3_method_5_code 17 = .ok (.ldc 19, 2) := by decide +kernel
theorem d_Row_add_19 : decode prog_3_method_5_code 19 = .ok (.if_icmp .ge 21, 3) := by decide +kernel
theorem d_Row_add_22 : decode prog_3_method_5_code 22 = .ok (.aload_n 0, 1) := by decide +kernel
theorem d_Row_add_23 : decode prog_3_method_5_code 23 = .ok (.aload_n 0, 1) := by decide +kernel
theorem d_Row_add_24 : decode prog_3_method_5_code 24 = .ok (.getfield 9, 3) := by decide +kernel
theorem d_Row_add_27 : decode prog_3_method_5_code 27 = .ok (.iconst 2, 1) := by decide +kernel
theorem d_Row_add_28 : decode prog_3_method_5_code 28 = .ok (.aload_n 0, 1) := by decide +kernel
theorem d_Row_add_29 : decode prog_3_method_5_code 29 = .ok (.getfield 9, 3) := by decide +kernel
theorem d_Row_add_32 : decode prog_3_method_5_code 32 = .ok (.arraylength, 1) := by decide +kernel
theorem d_Row_add_33 : decode prog_3_method_5_code 33 = .ok (.imul, 1) := by decide +kernel
theorem d_Row_add_34 : decode prog_3_method_5_code 34 = .ok (.invokestatic 20, 3) := by decide +kernel
theorem d_Row_add_37 : decode prog_3_method_5_code 37 = .ok (.putfield 9, 3) := by decide +kernel
set_option maxHeartbeats 4000000 in
set_option maxRecDepth 100000 in
theorem c_Row_init (l : Launch) (G : kb_G) (h : Nat) : kb_cv l G ⟨"TreePress$Row", "<init>", "()V"⟩ prog_3_method_1_code 1 1 1 16 [.ref h] [kb_o h 1 [.null, .int 0]] (fun u => True) (fun u => [kb_o h 1 [.ref (u.1 0), .int 0], kb_a G (u.1 0) 16 (fun _ => 0)]) := by
  intro sz
  refine kb_body (QQ := fun A => kb_Qv G A (fun u => True) (fun u => [kb_o h 1 [.ref (u.1 0), .int 0], kb_a G (u.1 0) 16 (fun _ => 0)])) (by decide) (Nat.le_of_ble_eq_true rfl) ?_
  intro p e s m below meth c A B ls hl
  obtain ⟨hx, hb, hr, hml, hlocks, hin, hown, ht, hE, hP, hD, hS⟩ := B
  have hl : lv_has ls 1 [(0, .ref h)] := hl
  have hP0 := hP
  obtain ⟨H, hHe⟩ : ∃ H, H = s.heap := ⟨_, rfl⟩
  rw [← hHe] at hP
  have hS : va_S A s.heap H [] := by rw [hHe]; exact hS
  refine kb_at hHe ?_
  clear hHe
  refine lv_aload_n hx hb d_Row_init_0 rfl (lv_at hl 0 rfl) ?_
  refine W.objInit hx hb hown (ht _ wd_ef90978f) (ht _ wd_962a1238) (ht _ wd_b2b9d69d) rfl (by rw [hml]; exact hl.1) rfl d_Row_init_1 (Nat.le_of_ble_eq_true rfl) (Nat.le_of_ble_eq_true rfl) ?_
  refine W.eq (g2 := F0 m 4 ls []) rfl ?_
  refine lv_aload_n hx hb d_Row_init_4 rfl (lv_at hl 0 rfl) ?_
  refine lv_bipush (v := 16) hx hb d_Row_init_5 (by decide) ?_
  refine kb_newi (N := 16) hx hb (ht _ wd_298d195d) hE hP hD hS (by decide) (by decide) (by decide) (Nat.le_of_ble_eq_true rfl) (Nat.le_of_ble_eq_true rfl) d_Row_init_7 (fun qn1 H hP hD hS => ?_)
  have hP : va_P G.1 kb_cl [kb_o h 1 [.null, .int 0], kb_a G qn1 16 (fun _ => 0)] H := hP
  have hD : va_D A [kb_o h 1 [.null, .int 0], kb_a G qn1 16 (fun _ => 0)] := hD
  refine va_put (D := G.1) (ci := 1) (v := .ref qn1) (ty := .array .int) (C := "TreePress$Row") (T := kb_F1) (N := 2) hx hb ht kb_w1 kb_y1 kb_p1 kb_n1 hown hE.1 hP hD hS 0 rfl rfl 0 (by decide) (ht _ wd_aac26352) (fun _ h9 => h9) rfl (by decide +kernel) rfl rfl (Nat.le_of_ble_eq_true rfl) d_Row_init_9 (fun H locs hP hD hS => ?_)
  have hP : va_P G.1 kb_cl [kb_o h 1 [.ref qn1, .int 0], kb_a G qn1 16 (fun _ => 0)] H := hP
  have hD : va_D A [kb_o h 1 [.ref qn1, .int 0], kb_a G qn1 16 (fun _ => 0)] := hD
  refine lv_aload_n hx hb d_Row_init_12 rfl (lv_at hl 0 rfl) ?_
  refine lv_iconst (v := 0) hx hb d_Row_init_13 (by decide) ?_
  refine va_put (D := G.1) (ci := 1) (v := .int 0) (ty := .int) (C := "TreePress$Row") (T := kb_F1) (N := 2) hx hb ht kb_w1 kb_y1 kb_p1 kb_n1 hown hE.1 hP hD hS 0 rfl rfl 1 (by decide) (ht _ wd_14b1fe24) (fun _ h9 => h9) rfl (by decide +kernel) rfl rfl (Nat.le_of_ble_eq_true rfl) d_Row_init_14 (fun H locs hP hD hS => ?_)
  have hP : va_P G.1 kb_cl [kb_o h 1 [.ref qn1, .int 0], kb_a G qn1 16 (fun _ => 0)] H := hP
  have hD : va_D A [kb_o h 1 [.ref qn1, .int 0], kb_a G qn1 16 (fun _ => 0)] := hD
  exact kb_retv (kb_l [qn1], kb_f []) hx hb hr hlocks hE hP hD hS [0, 1] rfl (by decide) rfl trivial (Nat.le_of_ble_eq_true rfl) (Nat.le_of_ble_eq_true rfl) d_Row_init_17

set_option maxHeartbeats 4000000 in
set_option maxRecDepth 100000 in
theorem c_Row_length (l : Launch) (G : kb_G) (h : Nat) (a : Nat) (v : Int32) : kb_ci l G ⟨"TreePress$Row", "length", "()I"⟩ prog_3_method_2_code 1 (some .int) 1 0 0 [.ref h] [kb_o h 1 [.ref a, .int v]] (fun r u => r = v) (fun u => [kb_o h 1 [.ref a, .int v]]) := by
  intro sz
  refine kb_body (QQ := fun A => kb_Qi G A (fun r u => r = v) (fun u => [kb_o h 1 [.ref a, .int v]])) (by decide) (Nat.le_of_ble_eq_true rfl) ?_
  intro p e s m below meth c A B ls hl
  obtain ⟨hx, hb, hr, hml, hlocks, hin, hown, ht, hE, hP, hD, hS⟩ := B
  have hl : lv_has ls 1 [(0, .ref h)] := hl
  have hP0 := hP
  obtain ⟨H, hHe⟩ : ∃ H, H = s.heap := ⟨_, rfl⟩
  rw [← hHe] at hP
  have hS : va_S A s.heap H [] := by rw [hHe]; exact hS
  refine kb_at hHe ?_
  clear hHe
  refine lv_aload_n hx hb d_Row_length_0 rfl (lv_at hl 0 rfl) ?_
  refine va_get (D := G.1) (ci := 1) (v := .int v) (C := "TreePress$Row") (T := kb_F1) (N := 2) hx hb ht kb_w1 hown hE.1 hP 0 rfl rfl 1 (by decide) (ht _ wd_14b1fe24) (fun _ h9 => h9) rfl d_Row_length_1 ?_
  exact kb_reti (kb_l [], kb_f []) hx hb hr hlocks hE hP hD hS [0] rfl (by decide) rfl rfl (Nat.le_of_ble_eq_true rfl) (Nat.le_of_ble_eq_true rfl) d_Row_length_4

set_option maxHeartbeats 4000000 in
set_option maxRecDepth 100000 in
theorem c_Row_at0 (l : Launch) (G : kb_G) (h : Nat) (a : Nat) (f : Nat → Int32) : kb_ci l G ⟨"TreePress$Row", "at", "(I)I"⟩ prog_3_method_3_code 2 (some .int) 1 0 0 [.ref h, .int 0] [kb_o h 1 [.ref a, .int 1], kb_a G a 16 f] (fun r u => r = f 0) (fun u => [kb_o h 1 [.ref a, .int 1], kb_a G a 16 f]) := by
  intro sz
  refine kb_body (QQ := fun A => kb_Qi G A (fun r u => r = f 0) (fun u => [kb_o h 1 [.ref a, .int 1], kb_a G a 16 f])) (by decide) (Nat.le_of_ble_eq_true rfl) ?_
  intro p e s m below meth c A B ls hl
  obtain ⟨hx, hb, hr, hml, hlocks, hin, hown, ht, hE, hP, hD, hS⟩ := B
  have hl : lv_has ls 2 [(0, .ref h), (1, .int 0)] := hl
  have hP0 := hP
  obtain ⟨H, hHe⟩ : ∃ H, H = s.heap := ⟨_, rfl⟩
  rw [← hHe] at hP
  have hS : va_S A s.heap H [] := by rw [hHe]; exact hS
  refine kb_at hHe ?_
  clear hHe
  refine lv_iload_n hx hb d_Row_at_0 rfl (lv_at hl 1 rfl) ?_
  refine lv_if_lt (tgt := 30) hx hb d_Row_at_1 (by decide) (fun c9 => absurd c9 (by decide)) (fun c9 => ?_)
  refine lv_iload_n hx hb d_Row_at_4 rfl (lv_at hl 1 rfl) ?_
  refine lv_aload_n hx hb d_Row_at_5 rfl (lv_at hl 0 rfl) ?_
  refine va_get (D := G.1) (ci := 1) (v := .int 1) (C := "TreePress$Row") (T := kb_F1) (N := 2) hx hb ht kb_w1 hown hE.1 hP 0 rfl rfl 1 (by decide) (ht _ wd_14b1fe24) (fun _ h9 => h9) rfl d_Row_at_6 ?_
  refine lv_icmp_ge (tgt := 30) hx hb d_Row_at_9 (by decide) (fun c9 => absurd c9 (by decide)) (fun c9 => ?_)
  refine lv_iload_n hx hb d_Row_at_12 rfl (lv_at hl 1 rfl) ?_
  refine lv_aload_n hx hb d_Row_at_13 rfl (lv_at hl 0 rfl) ?_
  refine va_get (D := G.1) (ci := 1) (v := .ref a) (C := "TreePress$Row") (T := kb_F1) (N := 2) hx hb ht kb_w1 hown hE.1 hP 0 rfl rfl 0 (by decide) (ht _ wd_aac26352) (fun _ h9 => h9) rfl d_Row_at_14 ?_
  refine va_alen (v := 16) hx hb hE.1 hP 1 0 rfl rfl rfl d_Row_at_17 ?_
  refine lv_icmp_ge (tgt := 30) hx hb d_Row_at_18 (by decide) (fun c9 => absurd c9 (by decide)) (fun c9 => ?_)
  refine lv_aload_n hx hb d_Row_at_21 rfl (lv_at hl 0 rfl) ?_
  refine va_get (D := G.1) (ci := 1) (v := .ref a) (C := "TreePress$Row") (T := kb_F1) (N := 2) hx hb ht kb_w1 hown hE.1 hP 0 rfl rfl 0 (by decide) (ht _ wd_aac26352) (fun _ h9 => h9) rfl d_Row_at_22 ?_
  refine lv_iload_n hx hb d_Row_at_25 rfl (lv_at hl 1 rfl) ?_
  refine va_iald hx hb hE.1 hP 1 0 rfl rfl (show ¬ ((0 : Int32) < 0 ∨ 16 ≤ (0 : Int32).toNatClampNeg) by decide) d_Row_at_26 ?_
  refine kb_top (y := f 0) rfl ?_
  refine lv_goto (tgt := 31) hx hb d_Row_at_27 (by decide) ?_
  exact kb_reti (kb_l [], kb_f []) hx hb hr hlocks hE hP hD hS [0, 1] rfl (by decide) rfl rfl (Nat.le_of_ble_eq_true rfl) (Nat.le_of_ble_eq_true rfl) d_Row_at_31

set_option maxHeartbeats 4000000 in
set_option maxRecDepth 100000 in
theorem c_Row_cut0 (l : Launch) (G : kb_G) (h : Nat) (a : Nat) : kb_cv l G ⟨"TreePress$Row", "cut", "(I)V"⟩ prog_3_method_6_code 2 1 0 0 [.ref h, .int 0] [kb_o h 1 [.ref a, .int 0]] (fun u => True) (fun u => [kb_o h 1 [.ref a, .int 0]]) := by
  intro sz
  refine kb_body (QQ := fun A => kb_Qv G A (fun u => True) (fun u => [kb_o h 1 [.ref a, .int 0]])) (by decide) (Nat.le_of_ble_eq_true rfl) ?_
  intro p e s m below meth c A B ls hl
  obtain ⟨hx, hb, hr, hml, hlocks, hin, hown, ht, hE, hP, hD, hS⟩ := B
  have hl : lv_has ls 2 [(0, .ref h), (1, .int 0)] := hl
  have hP0 := hP
  obtain ⟨H, hHe⟩ : ∃ H, H = s.heap := ⟨_, rfl⟩
  rw [← hHe] at hP
  have hS : va_S A s.heap H [] := by rw [hHe]; exact hS
  refine kb_at hHe ?_
  clear hHe
  refine lv_iload_n hx hb d_Row_cut_0 rfl (lv_at hl 1 rfl) ?_
  refine lv_if_lt (tgt := 17) hx hb d_Row_cut_1 (by decide) (fun c9 => absurd c9 (by decide)) (fun c9 => ?_)
  refine lv_iload_n hx hb d_Row_cut_4 rfl (lv_at hl 1 rfl) ?_
  refine lv_aload_n hx hb d_Row_cut_5 rfl (lv_at hl 0 rfl) ?_
  refine va_get (D := G.1) (ci := 1) (v := .int 0) (C := "TreePress$Row") (T := kb_F1) (N := 2) hx hb ht kb_w1 hown hE.1 hP 0 rfl rfl 1 (by decide) (ht _ wd_14b1fe24) (fun _ h9 => h9) rfl d_Row_cut_6 ?_
  refine lv_icmp_ge (tgt := 17) hx hb d_Row_cut_9 (by decide) (fun c9 => ?_) (fun c9 => absurd (by decide) c9)
  exact kb_retv (kb_l [], kb_f []) hx hb hr hlocks hE hP hD hS [0] rfl (by decide) rfl trivial (Nat.le_of_ble_eq_true rfl) (Nat.le_of_ble_eq_true rfl) d_Row_cut_17

set_option maxHeartbeats 4000000 in
set_option maxRecDepth 100000 in
theorem c_Row_cut1 (l : Launch) (G : kb_G) (h : Nat) (a : Nat) : kb_cv l G ⟨"TreePress$Row", "cut", "(I)V"⟩ prog_3_method_6_code 2 1 0 0 [.ref h, .int 0] [kb_o h 1 [.ref a, .int 1]] (fun u => True) (fun u => [kb_o h 1 [.ref a, .int 0]]) := by
  intro sz
  refine kb_body (QQ := fun A => kb_Qv G A (fun u => True) (fun u => [kb_o h 1 [.ref a, .int 0]])) (by decide) (Nat.le_of_ble_eq_true rfl) ?_
  intro p e s m below meth c A B ls hl
  obtain ⟨hx, hb, hr, hml, hlocks, hin, hown, ht, hE, hP, hD, hS⟩ := B
  have hl : lv_has ls 2 [(0, .ref h), (1, .int 0)] := hl
  have hP0 := hP
  obtain ⟨H, hHe⟩ : ∃ H, H = s.heap := ⟨_, rfl⟩
  rw [← hHe] at hP
  have hS : va_S A s.heap H [] := by rw [hHe]; exact hS
  refine kb_at hHe ?_
  clear hHe
  refine lv_iload_n hx hb d_Row_cut_0 rfl (lv_at hl 1 rfl) ?_
  refine lv_if_lt (tgt := 17) hx hb d_Row_cut_1 (by decide) (fun c9 => absurd c9 (by decide)) (fun c9 => ?_)
  refine lv_iload_n hx hb d_Row_cut_4 rfl (lv_at hl 1 rfl) ?_
  refine lv_aload_n hx hb d_Row_cut_5 rfl (lv_at hl 0 rfl) ?_
  refine va_get (D := G.1) (ci := 1) (v := .int 1) (C := "TreePress$Row") (T := kb_F1) (N := 2) hx hb ht kb_w1 hown hE.1 hP 0 rfl rfl 1 (by decide) (ht _ wd_14b1fe24) (fun _ h9 => h9) rfl d_Row_cut_6 ?_
  refine lv_icmp_ge (tgt := 17) hx hb d_Row_cut_9 (by decide) (fun c9 => absurd c9 (by decide)) (fun c9 => ?_)
  refine lv_aload_n hx hb d_Row_cut_12 rfl (lv_at hl 0 rfl) ?_
  refine lv_iload_n hx hb d_Row_cut_13 rfl (lv_at hl 1 rfl) ?_
  refine va_put (D := G.1) (ci := 1) (v := .int 0) (ty := .int) (C := "TreePress$Row") (T := kb_F1) (N := 2) hx hb ht kb_w1 kb_y1 kb_p1 kb_n1 hown hE.1 hP hD hS 0 rfl rfl 1 (by decide) (ht _ wd_14b1fe24) (fun _ h9 => h9) rfl (by decide +kernel) rfl rfl (Nat.le_of_ble_eq_true rfl) d_Row_cut_14 (fun H locs hP hD hS => ?_)
  have hP : va_P G.1 kb_cl [kb_o h 1 [.ref a, .int 0]] H := hP
  have hD : va_D A [kb_o h 1 [.ref a, .int 0]] := hD
  exact kb_retv (kb_l [], kb_f []) hx hb hr hlocks hE hP hD hS [0] rfl (by decide) rfl trivial (Nat.le_of_ble_eq_true rfl) (Nat.le_of_ble_eq_true rfl) d_Row_cut_17

set_option maxHeartbeats 4000000 in
set_option maxRecDepth 100000 in
theorem c_Row_put (l : Launch) (G : kb_G) (h : Nat) (a : Nat) (j : Nat) (f : Nat → Int32) (x : Int32) (hj : j < 72) : kb_cv l G ⟨"TreePress$Row", "put", "(II)V"⟩ prog_3_method_4_code 3 1 0 0 [.ref h, .int (nI j), .int x] [kb_o h 1 [.ref a, .int 72], kb_a G a 128 f] (fun u => True) (fun u => [kb_o h 1 [.ref a, .int 72], kb_a G a 128 (u.2 0)]) := by
  intro sz
  refine kb_body (QQ := fun A => kb_Qv G A (fun u => True) (fun u => [kb_o h 1 [.ref a, .int 72], kb_a G a 128 (u.2 0)])) (by decide) (Nat.le_of_ble_eq_true rfl) ?_
  intro p e s m below meth c A B ls hl
  obtain ⟨hx, hb, hr, hml, hlocks, hin, hown, ht, hE, hP, hD, hS⟩ := B
  have hl : lv_has ls 3 [(0, .ref h), (1, .int (nI j)), (2, .int x)] := hl
  have hP0 := hP
  obtain ⟨H, hHe⟩ : ∃ H, H = s.heap := ⟨_, rfl⟩
  rw [← hHe] at hP
  have hS : va_S A s.heap H [] := by rw [hHe]; exact hS
  refine kb_at hHe ?_
  clear hHe
  refine lv_iload_n hx hb d_Row_put_0 rfl (lv_at hl 1 rfl) ?_
  refine lv_if_lt (tgt := 28) hx hb d_Row_put_1 (by decide) (fun c9 => absurd c9 (nI_pos (by omega))) (fun c9 => ?_)
  refine lv_iload_n hx hb d_Row_put_4 rfl (lv_at hl 1 rfl) ?_
  refine lv_aload_n hx hb d_Row_put_5 rfl (lv_at hl 0 rfl) ?_
  refine va_get (D := G.1) (ci := 1) (v := .int 72) (C := "TreePress$Row") (T := kb_F1) (N := 2) hx hb ht kb_w1 hown hE.1 hP 0 rfl rfl 1 (by decide) (ht _ wd_14b1fe24) (fun _ h9 => h9) rfl d_Row_put_6 ?_
  refine lv_icmp_ge (tgt := 28) hx hb d_Row_put_9 (by decide) (fun c9 => absurd c9 (nI_ge (a := j) (b := 72) hj (by decide))) (fun c9 => ?_)
  refine lv_iload_n hx hb d_Row_put_12 rfl (lv_at hl 1 rfl) ?_
  refine lv_aload_n hx hb d_Row_put_13 rfl (lv_at hl 0 rfl) ?_
  refine va_get (D := G.1) (ci := 1) (v := .ref a) (C := "TreePress$Row") (T := kb_F1) (N := 2) hx hb ht kb_w1 hown hE.1 hP 0 rfl rfl 0 (by decide) (ht _ wd_aac26352) (fun _ h9 => h9) rfl d_Row_put_14 ?_
  refine va_alen (v := 128) hx hb hE.1 hP 1 0 rfl rfl rfl d_Row_put_17 ?_
  refine lv_icmp_ge (tgt := 28) hx hb d_Row_put_18 (by decide) (fun c9 => absurd c9 (nI_ge (a := j) (b := 128) (by omega) (by decide))) (fun c9 => ?_)
  refine lv_aload_n hx hb d_Row_put_21 rfl (lv_at hl 0 rfl) ?_
  refine va_get (D := G.1) (ci := 1) (v := .ref a) (C := "TreePress$Row") (T := kb_F1) (N := 2) hx hb ht kb_w1 hown hE.1 hP 0 rfl rfl 0 (by decide) (ht _ wd_aac26352) (fun _ h9 => h9) rfl d_Row_put_22 ?_
  refine lv_iload_n hx hb d_Row_put_25 rfl (lv_at hl 1 rfl) ?_
  refine lv_iload_n hx hb d_Row_put_26 rfl (lv_at hl 2 rfl) ?_
  refine va_iast hx hb hE.1 hP hD hS 1 0 rfl rfl (vp_in_nI (by omega) (by decide)) d_Row_put_27 (fun H locs hP hD hS => ?_)
  rw [nI_clamp (by omega)] at hP hD
  have hP : va_P G.1 kb_cl [kb_o h 1 [.ref a, .int 72], kb_a G a 128 (upd f j x)] H := hP
  have hD : va_D A [kb_o h 1 [.ref a, .int 72], kb_a G a 128 (upd f j x)] := hD
  generalize (upd f j x) = gc1 at hP hD
  exact kb_retv (kb_l [], kb_f [gc1]) hx hb hr hlocks hE hP hD hS [0, 1] rfl (by decide) rfl trivial (Nat.le_of_ble_eq_true rfl) (Nat.le_of_ble_eq_true rfl) d_Row_put_28

set_option maxHeartbeats 4000000 in
set_option maxRecDepth 100000 in
theorem c_Row_add_n (l : Launch) (G : kb_G) (h : Nat) (a : Nat) (n : Nat) (N : Nat) (f : Nat → Int32) (x : Int32) (hn : n < N) (hN : N ≤ 65536) : kb_cv l G ⟨"TreePress$Row", "add", "(I)V"⟩ prog_3_method_5_code 2 3 0 0 [.ref h, .int x] [kb_o h 1 [.ref a, .int (nI n)], kb_a G a N f] (fun u => True) (fun u => [kb_o h 1 [.ref a, .int (nI (n + 1))], kb_a G a N (upd f n x)]) := by
  intro sz
  refine kb_body (QQ := fun A => kb_Qv G A (fun u => True) (fun u => [kb_o h 1 [.ref a, .int (nI (n + 1))], kb_a G a N (upd f n x)])) (by decide) (Nat.le_of_ble_eq_true rfl) ?_
  intro p e s m below meth c A B ls hl
  obtain ⟨hx, hb, hr, hml, hlocks, hin, hown, ht, hE, hP, hD, hS⟩ := B
  have hl : lv_has ls 2 [(0, .ref h), (1, .int x)] := hl
  have hP0 := hP
  obtain ⟨H, hHe⟩ : ∃ H, H = s.heap := ⟨_, rfl⟩
  rw [← hHe] at hP
  have hS : va_S A s.heap H [] := by rw [hHe]; exact hS
  refine kb_at hHe ?_
  clear hHe
  refine lv_aload_n hx hb d_Row_add_0 rfl (lv_at hl 0 rfl) ?_
  refine va_get (D := G.1) (ci := 1) (v := .int (nI n)) (C := "TreePress$Row") (T := kb_F1) (N := 2) hx hb ht kb_w1 hown hE.1 hP 0 rfl rfl 1 (by decide) (ht _ wd_14b1fe24) (fun _ h9 => h9) rfl d_Row_add_1 ?_
  refine lv_aload_n hx hb d_Row_add_4 rfl (lv_at hl 0 rfl) ?_
  refine va_get (D := G.1) (ci := 1) (v := .ref a) (C := "TreePress$Row") (T := kb_F1) (N := 2) hx hb ht kb_w1 hown hE.1 hP 0 rfl rfl 0 (by decide) (ht _ wd_aac26352) (fun _ h9 => h9) rfl d_Row_add_5 ?_
  refine va_alen (v := nI N) hx hb hE.1 hP 1 0 rfl rfl rfl d_Row_add_8 ?_
  refine lv_icmp_lt (tgt := 40) hx hb d_Row_add_9 (by decide) (fun c9 => ?_) (fun c9 => absurd (nI_lt hn (by omega)) c9)
  refine lv_aload_n hx hb d_Row_add_40 rfl (lv_at hl 0 rfl) ?_
  refine va_get (D := G.1) (ci := 1) (v := .int (nI n)) (C := "TreePress$Row") (T := kb_F1) (N := 2) hx hb ht kb_w1 hown hE.1 hP 0 rfl rfl 1 (by decide) (ht _ wd_14b1fe24) (fun _ h9 => h9) rfl d_Row_add_41 ?_
  refine lv_aload_n hx hb d_Row_add_44 rfl (lv_at hl 0 rfl) ?_
  refine va_get (D := G.1) (ci := 1) (v := .ref a) (C := "TreePress$Row") (T := kb_F1) (N := 2) hx hb ht kb_w1 hown hE.1 hP 0 rfl rfl 0 (by decide) (ht _ wd_aac26352) (fun _ h9 => h9) rfl d_Row_add_45 ?_
  refine va_alen (v := nI N) hx hb hE.1 hP 1 0 rfl rfl rfl d_Row_add_48 ?_
  refine lv_icmp_ge (tgt := 72) hx hb d_Row_add_49 (by decide) (fun c9 => absurd c9 (nI_ge hn (by omega))) (fun c9 => ?_)
  refine lv_aload_n hx hb d_Row_add_52 rfl (lv_at hl 0 rfl) ?_
  refine va_get (D := G.1) (ci := 1) (v := .ref a) (C := "TreePress$Row") (T := kb_F1) (N := 2) hx hb ht kb_w1 hown hE.1 hP 0 rfl rfl 0 (by decide) (ht _ wd_aac26352) (fun _ h9 => h9) rfl d_Row_add_53 ?_
  refine lv_aload_n hx hb d_Row_add_56 rfl (lv_at hl 0 rfl) ?_
  refine va_get (D := G.1) (ci := 1) (v := .int (nI n)) (C := "TreePress$Row") (T := kb_F1) (N := 2) hx hb ht kb_w1 hown hE.1 hP 0 rfl rfl 1 (by decide) (ht _ wd_14b1fe24) (fun _ h9 => h9) rfl d_Row_add_57 ?_
  refine lv_iload_n hx hb d_Row_add_60 rfl (lv_at hl 1 rfl) ?_
  refine va_iast hx hb hE.1 hP hD hS 1 0 rfl rfl (vp_in_nI hn (by omega)) d_Row_add_61 (fun H locs hP hD hS => ?_)
  rw [nI_clamp (by omega)] at hP hD
  have hP : va_P G.1 kb_cl [kb_o h 1 [.ref a, .int (nI n)], kb_a G a N (upd f n x)] H := hP
  have hD : va_D A [kb_o h 1 [.ref a, .int (nI n)], kb_a G a N (upd f n x)] := hD
  refine lv_aload_n hx hb d_Row_add_62 rfl (lv_at hl 0 rfl) ?_
  refine lv_dup hx hb d_Row_add_63 rfl ?_
  refine va_get (D := G.1) (ci := 1) (v := .int (nI n)) (C := "TreePress$Row") (T := kb_F1) (N := 2) hx hb ht kb_w1 hown hE.1 hP 0 rfl rfl 1 (by decide) (ht _ wd_14b1fe24) (fun _ h9 => h9) rfl d_Row_add_64 ?_
  refine lv_iconst (v := 1) hx hb d_Row_add_67 (by decide) ?_
  refine lv_iadd hx hb d_Row_add_68 ?_
  refine kb_top (y := nI (n + 1)) ((nI_succ n).symm) ?_
  refine va_put (D := G.1) (ci := 1) (v := .int (nI (n + 1))) (ty := .int) (C := "TreePress$Row") (T := kb_F1) (N := 2) hx hb ht kb_w1 kb_y1 kb_p1 kb_n1 hown hE.1 hP hD hS 0 rfl rfl 1 (by decide) (ht _ wd_14b1fe24) (fun _ h9 => h9) rfl (by decide +kernel) rfl rfl (Nat.le_of_ble_eq_true rfl) d_Row_add_69 (fun H locs hP hD hS => ?_)
  have hP : va_P G.1 kb_cl [kb_o h 1 [.ref a, .int (nI (n + 1))], kb_a G a N (upd f n x)] H := hP
  have hD : va_D A [kb_o h 1 [.ref a, .int (nI (n + 1))], kb_a G a N (upd f n x)] := hD
  exact kb_retv (kb_l [], kb_f []) hx hb hr hlocks hE hP hD hS [0, 1] rfl (by decide) rfl trivial (Nat.le_of_ble_eq_true rfl) (Nat.le_of_ble_eq_true rfl) d_Row_add_72

set_option maxHeartbeats 4000000 in
set_option maxRecDepth 100000 in
theorem c_Row_add_w (l : Launch) (G : kb_G) (h : Nat) (a : Nat) (n : Nat) (N : Nat) (f : Nat → Int32) (x : Int32) (hn : n < N) (hN : N ≤ 65536) : kb_cv l G ⟨"TreePress$Row", "add", "(I)V"⟩ prog_3_method_5_code 2 3 0 0 [.ref h, .int x] [kb_o h 1 [.ref a, .int (nI n)], kb_a G a N f] (fun u => True) (fun u => [kb_o h 1 [.ref a, .int (nI (n + 1))], kb_a G a N (u.2 0)]) := by
  intro sz
  refine kb_body (QQ := fun A => kb_Qv G A (fun u => True) (fun u => [kb_o h 1 [.ref a, .int (nI (n + 1))], kb_a G a N (u.2 0)])) (by decide) (Nat.le_of_ble_eq_true rfl) ?_
  intro p e s m below meth c A B ls hl
  obtain ⟨hx, hb, hr, hml, hlocks, hin, hown, ht, hE, hP, hD, hS⟩ := B
  have hl : lv_has ls 2 [(0, .ref h), (1, .int x)] := hl
  have hP0 := hP
  obtain ⟨H, hHe⟩ : ∃ H, H = s.heap := ⟨_, rfl⟩
  rw [← hHe] at hP
  have hS : va_S A s.heap H [] := by rw [hHe]; exact hS
  refine kb_at hHe ?_
  clear hHe
  refine lv_aload_n hx hb d_Row_add_0 rfl (lv_at hl 0 rfl) ?_
  refine va_get (D := G.1) (ci := 1) (v := .int (nI n)) (C := "TreePress$Row") (T := kb_F1) (N := 2) hx hb ht kb_w1 hown hE.1 hP 0 rfl rfl 1 (by decide) (ht _ wd_14b1fe24) (fun _ h9 => h9) rfl d_Row_add_1 ?_
  refine lv_aload_n hx hb d_Row_add_4 rfl (lv_at hl 0 rfl) ?_
  refine va_get (D := G.1) (ci := 1) (v := .ref a) (C := "TreePress$Row") (T := kb_F1) (N := 2) hx hb ht kb_w1 hown hE.1 hP 0 rfl rfl 0 (by decide) (ht _ wd_aac26352) (fun _ h9 => h9) rfl d_Row_add_5 ?_
  refine va_alen (v := nI N) hx hb hE.1 hP 1 0 rfl rfl rfl d_Row_add_8 ?_
  refine lv_icmp_lt (tgt := 40) hx hb d_Row_add_9 (by decide) (fun c9 => ?_) (fun c9 => absurd (nI_lt hn (by omega)) c9)
  refine lv_aload_n hx hb d_Row_add_40 rfl (lv_at hl 0 rfl) ?_
  refine va_get (D := G.1) (ci := 1) (v := .int (nI n)) (C := "TreePress$Row") (T := kb_F1) (N := 2) hx hb ht kb_w1 hown hE.1 hP 0 rfl rfl 1 (by decide) (ht _ wd_14b1fe24) (fun _ h9 => h9) rfl d_Row_add_41 ?_
  refine lv_aload_n hx hb d_Row_add_44 rfl (lv_at hl 0 rfl) ?_
  refine va_get (D := G.1) (ci := 1) (v := .ref a) (C := "TreePress$Row") (T := kb_F1) (N := 2) hx hb ht kb_w1 hown hE.1 hP 0 rfl rfl 0 (by decide) (ht _ wd_aac26352) (fun _ h9 => h9) rfl d_Row_add_45 ?_
  refine va_alen (v := nI N) hx hb hE.1 hP 1 0 rfl rfl rfl d_Row_add_48 ?_
  refine lv_icmp_ge (tgt := 72) hx hb d_Row_add_49 (by decide) (fun c9 => absurd c9 (nI_ge hn (by omega))) (fun c9 => ?_)
  refine lv_aload_n hx hb d_Row_add_52 rfl (lv_at hl 0 rfl) ?_
  refine va_get (D := G.1) (ci := 1) (v := .ref a) (C := "TreePress$Row") (T := kb_F1) (N := 2) hx hb ht kb_w1 hown hE.1 hP 0 rfl rfl 0 (by decide) (ht _ wd_aac26352) (fun _ h9 => h9) rfl d_Row_add_53 ?_
  refine lv_aload_n hx hb d_Row_add_56 rfl (lv_at hl 0 rfl) ?_
  refine va_get (D := G.1) (ci := 1) (v := .int (nI n)) (C := "TreePress$Row") (T := kb_F1) (N := 2) hx hb ht kb_w1 hown hE.1 hP 0 rfl rfl 1 (by decide) (ht _ wd_14b1fe24) (fun _ h9 => h9) rfl d_Row_add_57 ?_
  refine lv_iload_n hx hb d_Row_add_60 rfl (lv_at hl 1 rfl) ?_
  refine va_iast hx hb hE.1 hP hD hS 1 0 rfl rfl (vp_in_nI hn (by omega)) d_Row_add_61 (fun H locs hP hD hS => ?_)
  rw [nI_clamp (by omega)] at hP hD
  have hP : va_P G.1 kb_cl [kb_o h 1 [.ref a, .int (nI n)], kb_a G a N (upd f n x)] H := hP
  have hD : va_D A [kb_o h 1 [.ref a, .int (nI n)], kb_a G a N (upd f n x)] := hD
  generalize (upd f n x) = gc1 at hP hD
  refine lv_aload_n hx hb d_Row_add_62 rfl (lv_at hl 0 rfl) ?_
  refine lv_dup hx hb d_Row_add_63 rfl ?_
  refine va_get (D := G.1) (ci := 1) (v := .int (nI n)) (C := "TreePress$Row") (T := kb_F1) (N := 2) hx hb ht kb_w1 hown hE.1 hP 0 rfl rfl 1 (by decide) (ht _ wd_14b1fe24) (fun _ h9 => h9) rfl d_Row_add_64 ?_
  refine lv_iconst (v := 1) hx hb d_Row_add_67 (by decide) ?_
  refine lv_iadd hx hb d_Row_add_68 ?_
  refine kb_top (y := nI (n + 1)) ((nI_succ n).symm) ?_
  refine va_put (D := G.1) (ci := 1) (v := .int (nI (n + 1))) (ty := .int) (C := "TreePress$Row") (T := kb_F1) (N := 2) hx hb ht kb_w1 kb_y1 kb_p1 kb_n1 hown hE.1 hP hD hS 0 rfl rfl 1 (by decide) (ht _ wd_14b1fe24) (fun _ h9 => h9) rfl (by decide +kernel) rfl rfl (Nat.le_of_ble_eq_true rfl) d_Row_add_69 (fun H locs hP hD hS => ?_)
  have hP : va_P G.1 kb_cl [kb_o h 1 [.ref a, .int (nI (n + 1))], kb_a G a N gc1] H := hP
  have hD : va_D A [kb_o h 1 [.ref a, .int (nI (n + 1))], kb_a G a N gc1] := hD
  exact kb_retv (kb_l [], kb_f [gc1]) hx hb hr hlocks hE hP hD hS [0, 1] rfl (by decide) rfl trivial (Nat.le_of_ble_eq_true rfl) (Nat.le_of_ble_eq_true rfl) d_Row_add_72

set_option maxHeartbeats 4000000 in
set_option maxRecDepth 100000 in
theorem c_copyOf_16 (l : Launch) (G : kb_G) (a : Nat) (f : Nat → Int32) : kb_cr l G ⟨"java/util/Arrays", "copyOf", "([II)[I"⟩ prog_17_method_123_code 3 (some (.array .int)) 2 1 32 [.ref a, .int 32] [kb_a G a 16 f] (fun u => True) (fun u => [kb_a G (u.1 0) 32 (u.2 0)]) := by
  intro sz
  refine kb_body (QQ := fun A => kb_Qr G A (fun u => True) (fun u => [kb_a G (u.1 0) 32 (u.2 0)])) (by decide) (Nat.le_of_ble_eq_true rfl) ?_
  intro p e s m below meth c A B ls hl
  obtain ⟨hx, hb, hr, hml, hlocks, hin, hown, ht, hE, hP, hD, hS⟩ := B
  have hl : lv_has ls 3 [(0, .ref a), (1, .int 32)] := hl
  have hP0 := hP
  obtain ⟨H, hHe⟩ : ∃ H, H = s.heap := ⟨_, rfl⟩
  rw [← hHe] at hP
  have hS : va_S A s.heap H [] := by rw [hHe]; exact hS
  refine kb_at hHe ?_
  clear hHe
  refine lv_iload_n hx hb d_Arr_copyOf_0 rfl (lv_at hl 1 rfl) ?_
  refine lv_aload_n hx hb d_Arr_copyOf_1 rfl (lv_at hl 0 rfl) ?_
  refine va_alen (v := 16) hx hb hE.1 hP 0 0 rfl rfl rfl d_Arr_copyOf_2 ?_
  refine lv_icmp_ne (tgt := 14) hx hb d_Arr_copyOf_3 (by decide) (fun c9 => ?_) (fun c9 => absurd c9 (by decide))
  refine lv_iload_n hx hb d_Arr_copyOf_14 rfl (lv_at hl 1 rfl) ?_
  refine kb_newi (N := 32) hx hb (ht _ wd_298d195d) hE hP hD hS (by decide) (by decide) (by decide) (Nat.le_of_ble_eq_true rfl) (Nat.le_of_ble_eq_true rfl) d_Arr_copyOf_15 (fun qn1 H hP hD hS => ?_)
  have hP : va_P G.1 kb_cl [kb_a G a 16 f, kb_a G qn1 32 (fun _ => 0)] H := hP
  have hD : va_D A [kb_a G a 16 f, kb_a G qn1 32 (fun _ => 0)] := hD
  refine lv_astore_n (lv' := [(2, .ref qn1), (0, .ref a), (1, .int 32)]) hx hb d_Arr_copyOf_17 rfl hl (by decide) rfl (fun ls hl => ?_)
  refine lv_aload_n hx hb d_Arr_copyOf_18 rfl (lv_at hl 1 rfl) ?_
  refine lv_iconst (v := 0) hx hb d_Arr_copyOf_19 (by decide) ?_
  refine lv_aload_n hx hb d_Arr_copyOf_20 rfl (lv_at hl 0 rfl) ?_
  refine lv_iconst (v := 0) hx hb d_Arr_copyOf_21 (by decide) ?_
  refine lv_aload_n hx hb d_Arr_copyOf_22 rfl (lv_at hl 1 rfl) ?_
  refine va_alen (v := 16) hx hb hE.1 hP 0 0 rfl rfl rfl d_Arr_copyOf_23 ?_
  refine lv_iload_n hx hb d_Arr_copyOf_24 rfl (lv_at hl 2 rfl) ?_
  refine va_mmin hx hb (hml.trans hl.1.symm) hown (ht _ wd_7ee5459b) (ht _ wd_3a7a32ed) (ht _ wd_5a0cff89) (ht _ wd_c98a754a) (Nat.le_of_ble_eq_true rfl) (Nat.le_of_ble_eq_true rfl) (Nat.le_of_ble_eq_true rfl) (Nat.le_of_ble_eq_true rfl) d_Arr_copyOf_25 ?_
  refine kb_top (y := 16) (by decide) ?_
  refine va_copyi hx hb (hml.trans hl.1.symm) hown (ht _ wd_344f678d) (ht _ wd_be8e62b0) (ht _ wd_7f6f8fc1) (ht _ wd_ef343630) hE.1 hP hD hS 0 1 0 0 rfl rfl rfl rfl rfl (by decide) (by decide) (by decide) (by decide) (by decide) (fun _ _ => rfl) (Nat.le_of_ble_eq_true rfl) (by decide) d_Arr_copyOf_28 (fun H locs hP hD hS => ?_)
  generalize va_cpy _ _ _ _ _ = gc2 at hP hD
  have hP : va_P G.1 kb_cl [kb_a G a 16 f, kb_a G qn1 32 gc2] H := hP
  have hD : va_D A [kb_a G a 16 f, kb_a G qn1 32 gc2] := hD
  refine lv_aload_n hx hb d_Arr_copyOf_31 rfl (lv_at hl 0 rfl) ?_
  exact kb_reta (kb_l [qn1], kb_f [gc2]) rfl hx hb hr hlocks hE hP hD hS [1] rfl (by decide) rfl trivial (Nat.le_of_ble_eq_true rfl) (Nat.le_of_ble_eq_true rfl) d_Arr_copyOf_32

set_option maxHeartbeats 4000000 in
set_option maxRecDepth 100000 in
theorem c_Row_add_g16 (l : Launch) (G : kb_G) (h : Nat) (a : Nat) (f : Nat → Int32) (x : Int32) : kb_cv l G ⟨"TreePress$Row", "add", "(I)V"⟩ prog_3_method_5_code 2 3 1 32 [.ref h, .int x] [kb_o h 1 [.ref a, .int 16], kb_a G a 16 f] (fun u => True) (fun u => [kb_o h 1 [.ref (u.1 0), .int 17], kb_a G (u.1 0) 32 (upd (u.2 0) 16 x)]) := by
  intro sz
  refine kb_body (QQ := fun A => kb_Qv G A (fun u => True) (fun u => [kb_o h 1 [.ref (u.1 0), .int 17], kb_a G (u.1 0) 32 (upd (u.2 0) 16 x)])) (by decide) (Nat.le_of_ble_eq_true rfl) ?_
  intro p e s m below meth c A B ls hl
  obtain ⟨hx, hb, hr, hml, hlocks, hin, hown, ht, hE, hP, hD, hS⟩ := B
  have hl : lv_has ls 2 [(0, .ref h), (1, .int x)] := hl
  have hP0 := hP
  obtain ⟨H, hHe⟩ : ∃ H, H = s.heap := ⟨_, rfl⟩
  rw [← hHe] at hP
  have hS : va_S A s.heap H [] := by rw [hHe]; exact hS
  refine kb_at hHe ?_
  clear hHe
  refine lv_aload_n hx hb d_Row_add_0 rfl (lv_at hl 0 rfl) ?_
  refine va_get (D := G.1) (ci := 1) (v := .int 16) (C := "TreePress$Row") (T := kb_F1) (N := 2) hx hb ht kb_w1 hown hE.1 hP 0 rfl rfl 1 (by decide) (ht _ wd_14b1fe24) (fun _ h9 => h9) rfl d_Row_add_1 ?_
  refine lv_aload_n hx hb d_Row_add_4 rfl (lv_at hl 0 rfl) ?_
  refine va_get (D := G.1) (ci := 1) (v := .ref a) (C := "TreePress$Row") (T := kb_F1) (N := 2) hx hb ht kb_w1 hown hE.1 hP 0 rfl rfl 0 (by decide) (ht _ wd_aac26352) (fun _ h9 => h9) rfl d_Row_add_5 ?_
  refine va_alen (v := 16) hx hb hE.1 hP 1 0 rfl rfl rfl d_Row_add_8 ?_
  refine lv_icmp_lt (tgt := 40) hx hb d_Row_add_9 (by decide) (fun c9 => absurd c9 (by decide)) (fun c9 => ?_)
  refine lv_aload_n hx hb d_Row_add_12 rfl (lv_at hl 0 rfl) ?_
  refine va_get (D := G.1) (ci := 1) (v := .ref a) (C := "TreePress$Row") (T := kb_F1) (N := 2) hx hb ht kb_w1 hown hE.1 hP 0 rfl rfl 0 (by decide) (ht _ wd_aac26352) (fun _ h9 => h9) rfl d_Row_add_13 ?_
  refine va_alen (v := 16) hx hb hE.1 hP 1 0 rfl rfl rfl d_Row_add_16 ?_
  refine lv_ldc (v := 65536) hx hb hown (ht _ wd_28377cc0) d_Row_add_17 ?_
  refine lv_icmp_ge (tgt := 40) hx hb d_Row_add_19 (by decide) (fun c9 => absurd c9 (by decide)) (fun c9 => ?_)
  refine lv_aload_n hx hb d_Row_add_22 rfl (lv_at hl 0 rfl) ?_
  refine lv_aload_n hx hb d_Row_add_23 rfl (lv_at hl 0 rfl) ?_
  refine va_get (D := G.1) (ci := 1) (v := .ref a) (C := "TreePress$Row") (T := kb_F1) (N := 2) hx hb ht kb_w1 hown hE.1 hP 0 rfl rfl 0 (by decide) (ht _ wd_aac26352) (fun _ h9 => h9) rfl d_Row_add_24 ?_
  refine lv_iconst (v := 2) hx hb d_Row_add_27 (by decide) ?_
  refine lv_aload_n hx hb d_Row_add_28 rfl (lv_at hl 0 rfl) ?_
  refine va_get (D := G.1) (ci := 1) (v := .ref a) (C := "TreePress$Row") (T := kb_F1) (N := 2) hx hb ht kb_w1 hown hE.1 hP 0 rfl rfl 0 (by decide) (ht _ wd_aac26352) (fun _ h9 => h9) rfl d_Row_add_29 ?_
  refine va_alen (v := 16) hx hb hE.1 hP 1 0 rfl rfl rfl d_Row_add_32 ?_
  refine lv_imul hx hb d_Row_add_33 ?_
  refine kb_top (y := 32) (by decide) ?_
  refine kb_r (wc := [kb_a G a 16 f]) (wr := [kb_o h 1 [.ref a, .int 16]]) hE hP hD hS [1] [0] rfl rfl (by decide) (by decide) (kb_rS (As := [.ref a, .int 32]) (rest := [.ref h]) (wc := [kb_a G a 16 f]) ⟨hx, hb, hml, hown, ht⟩ ((c_copyOf_16 l G a f) _) wd_ad853a53 wd_b0593275 wd_4e6ae1d1 wd_af4c3967 hd_c5a1602a ⟨(Nat.le_of_ble_eq_true rfl), (Nat.le_of_ble_eq_true rfl)⟩ hE hP hD hS [1] rfl (by decide) hl.1 rfl (Nat.le_of_ble_eq_true rfl) d_Row_add_34 ⟨(Nat.le_of_ble_eq_true rfl), (Nat.le_of_ble_eq_true rfl)⟩) (fun uu1 H locs hw hP hD hS => ?_)
  have hP : va_P G.1 kb_cl [kb_o h 1 [.ref a, .int 16], kb_a G (uu1.1 0) 32 (uu1.2 0)] H := hP
  have hD : va_D A [kb_o h 1 [.ref a, .int 16], kb_a G (uu1.1 0) 32 (uu1.2 0)] := hD
  refine va_put (D := G.1) (ci := 1) (v := .ref (uu1.1 0)) (ty := .array .int) (C := "TreePress$Row") (T := kb_F1) (N := 2) hx hb ht kb_w1 kb_y1 kb_p1 kb_n1 hown hE.1 hP hD hS 0 rfl rfl 0 (by decide) (ht _ wd_aac26352) (fun _ h9 => h9) rfl (by decide +kernel) rfl rfl (Nat.le_of_ble_eq_true rfl) d_Row_add_37 (fun H locs hP hD hS => ?_)
  have hP : va_P G.1 kb_cl [kb_o h 1 [.ref (uu1.1 0), .int 16], kb_a G (uu1.1 0) 32 (uu1.2 0)] H := hP
  have hD : va_D A [kb_o h 1 [.ref (uu1.1 0), .int 16], kb_a G (uu1.1 0) 32 (uu1.2 0)] := hD
  refine lv_aload_n hx hb d_Row_add_40 rfl (lv_at hl 0 rfl) ?_
  refine va_get (D := G.1) (ci := 1) (v := .int 16) (C := "TreePress$Row") (T := kb_F1) (N := 2) hx hb ht kb_w1 hown hE.1 hP 0 rfl rfl 1 (by decide) (ht _ wd_14b1fe24) (fun _ h9 => h9) rfl d_Row_add_41 ?_
  refine lv_aload_n hx hb d_Row_add_44 rfl (lv_at hl 0 rfl) ?_
  refine va_get (D := G.1) (ci := 1) (v := .ref (uu1.1 0)) (C := "TreePress$Row") (T := kb_F1) (N := 2) hx hb ht kb_w1 hown hE.1 hP 0 rfl rfl 0 (by decide) (ht _ wd_aac26352) (fun _ h9 => h9) rfl d_Row_add_45 ?_
  refine va_alen (v := 32) hx hb hE.1 hP 1 0 rfl rfl rfl d_Row_add_48 ?_
  refine lv_icmp_ge (tgt := 72) hx hb d_Row_add_49 (by decide) (fun c9 => absurd c9 (by decide)) (fun c9 => ?_)
  refine lv_aload_n hx hb d_Row_add_52 rfl (lv_at hl 0 rfl) ?_
  refine va_get (D := G.1) (ci := 1) (v := .ref (uu1.1 0)) (C := "TreePress$Row") (T := kb_F1) (N := 2) hx hb ht kb_w1 hown hE.1 hP 0 rfl rfl 0 (by decide) (ht _ wd_aac26352) (fun _ h9 => h9) rfl d_Row_add_53 ?_
  refine lv_aload_n hx hb d_Row_add_56 rfl (lv_at hl 0 rfl) ?_
  refine va_get (D := G.1) (ci := 1) (v := .int 16) (C := "TreePress$Row") (T := kb_F1) (N := 2) hx hb ht kb_w1 hown hE.1 hP 0 rfl rfl 1 (by decide) (ht _ wd_14b1fe24) (fun _ h9 => h9) rfl d_Row_add_57 ?_
  refine lv_iload_n hx hb d_Row_add_60 rfl (lv_at hl 1 rfl) ?_
  refine va_iast hx hb hE.1 hP hD hS 1 0 rfl rfl (show ¬ ((16 : Int32) < 0 ∨ 32 ≤ (16 : Int32).toNatClampNeg) by decide) d_Row_add_61 (fun H locs hP hD hS => ?_)
  have hP : va_P G.1 kb_cl [kb_o h 1 [.ref (uu1.1 0), .int 16], kb_a G (uu1.1 0) 32 (upd (uu1.2 0) 16 x)] H := hP
  have hD : va_D A [kb_o h 1 [.ref (uu1.1 0), .int 16], kb_a G (uu1.1 0) 32 (upd (uu1.2 0) 16 x)] := hD
  refine lv_aload_n hx hb d_Row_add_62 rfl (lv_at hl 0 rfl) ?_
  refine lv_dup hx hb d_Row_add_63 rfl ?_
  refine va_get (D := G.1) (ci := 1) (v := .int 16) (C := "TreePress$Row") (T := kb_F1) (N := 2) hx hb ht kb_w1 hown hE.1 hP 0 rfl rfl 1 (by decide) (ht _ wd_14b1fe24) (fun _ h9 => h9) rfl d_Row_add_64 ?_
  refine lv_iconst (v := 1) hx hb d_Row_add_67 (by decide) ?_
  refine lv_iadd hx hb d_Row_add_68 ?_
  refine kb_top (y := 17) (by decide) ?_
  refine va_put (D := G.1) (ci := 1) (v := .int 17) (ty := .int) (C := "TreePress$Row") (T := kb_F1) (N := 2) hx hb ht kb_w1 kb_y1 kb_p1 kb_n1 hown hE.1 hP hD hS 0 rfl rfl 1 (by decide) (ht _ wd_14b1fe24) (fun _ h9 => h9) rfl (by decide +kernel) rfl rfl (Nat.le_of_ble_eq_true rfl) d_Row_add_69 (fun H locs hP hD hS => ?_)
  have hP : va_P G.1 kb_cl [kb_o h 1 [.ref (uu1.1 0), .int 17], kb_a G (uu1.1 0) 32 (upd (uu1.2 0) 16 x)] H := hP
  have hD : va_D A [kb_o h 1 [.ref (uu1.1 0), .int 17], kb_a G (uu1.1 0) 32 (upd (uu1.2 0) 16 x)] := hD
  exact kb_retv (kb_l [uu1.1 0], kb_f [uu1.2 0]) hx hb hr hlocks hE hP hD hS [0, 1] rfl (by decide) rfl trivial (Nat.le_of_ble_eq_true rfl) (Nat.le_of_ble_eq_true rfl) d_Row_add_72

set_option maxHeartbeats 4000000 in
set_option maxRecDepth 100000 in
theorem c_copyOf_32 (l : Launch) (G : kb_G) (a : Nat) (f : Nat → Int32) : kb_cr l G ⟨"java/util/Arrays", "copyOf", "([II)[I"⟩ prog_17_method_123_code 3 (some (.array .int)) 2 1 64 [.ref a, .int 64] [kb_a G a 32 f] (fun u => True) (fun u => [kb_a G (u.1 0) 64 (u.2 0)]) := by
  intro sz
  refine kb_body (QQ := fun A => kb_Qr G A (fun u => True) (fun u => [kb_a G (u.1 0) 64 (u.2 0)])) (by decide) (Nat.le_of_ble_eq_true rfl) ?_
  intro p e s m below meth c A B ls hl
  obtain ⟨hx, hb, hr, hml, hlocks, hin, hown, ht, hE, hP, hD, hS⟩ := B
  have hl : lv_has ls 3 [(0, .ref a), (1, .int 64)] := hl
  have hP0 := hP
  obtain ⟨H, hHe⟩ : ∃ H, H = s.heap := ⟨_, rfl⟩
  rw [← hHe] at hP
  have hS : va_S A s.heap H [] := by rw [hHe]; exact hS
  refine kb_at hHe ?_
  clear hHe
  refine lv_iload_n hx hb d_Arr_copyOf_0 rfl (lv_at hl 1 rfl) ?_
  refine lv_aload_n hx hb d_Arr_copyOf_1 rfl (lv_at hl 0 rfl) ?_
  refine va_alen (v := 32) hx hb hE.1 hP 0 0 rfl rfl rfl d_Arr_copyOf_2 ?_
  refine lv_icmp_ne (tgt := 14) hx hb d_Arr_copyOf_3 (by decide) (fun c9 => ?_) (fun c9 => absurd c9 (by decide))
  refine lv_iload_n hx hb d_Arr_copyOf_14 rfl (lv_at hl 1 rfl) ?_
  refine kb_newi (N := 64) hx hb (ht _ wd_298d195d) hE hP hD hS (by decide) (by decide) (by decide) (Nat.le_of_ble_eq_true rfl) (Nat.le_of_ble_eq_true rfl) d_Arr_copyOf_15 (fun qn1 H hP hD hS => ?_)
  have hP : va_P G.1 kb_cl [kb_a G a 32 f, kb_a G qn1 64 (fun _ => 0)] H := hP
  have hD : va_D A [kb_a G a 32 f, kb_a G qn1 64 (fun _ => 0)] := hD
  refine lv_astore_n (lv' := [(2, .ref qn1), (0, .ref a), (1, .int 64)]) hx hb d_Arr_copyOf_17 rfl hl (by decide) rfl (fun ls hl => ?_)
  refine lv_aload_n hx hb d_Arr_copyOf_18 rfl (lv_at hl 1 rfl) ?_
  refine lv_iconst (v := 0) hx hb d_Arr_copyOf_19 (by decide) ?_
  refine lv_aload_n hx hb d_Arr_copyOf_20 rfl (lv_at hl 0 rfl) ?_
  refine lv_iconst (v := 0) hx hb d_Arr_copyOf_21 (by decide) ?_
  refine lv_aload_n hx hb d_Arr_copyOf_22 rfl (lv_at hl 1 rfl) ?_
  refine va_alen (v := 32) hx hb hE.1 hP 0 0 rfl rfl rfl d_Arr_copyOf_23 ?_
  refine lv_iload_n hx hb d_Arr_copyOf_24 rfl (lv_at hl 2 rfl) ?_
  refine va_mmin hx hb (hml.trans hl.1.symm) hown (ht _ wd_7ee5459b) (ht _ wd_3a7a32ed) (ht _ wd_5a0cff89) (ht _ wd_c98a754a) (Nat.le_of_ble_eq_true rfl) (Nat.le_of_ble_eq_true rfl) (Nat.le_of_ble_eq_true rfl) (Nat.le_of_ble_eq_true rfl) d_Arr_copyOf_25 ?_
  refine kb_top (y := 32) (by decide) ?_
  refine va_copyi hx hb (hml.trans hl.1.symm) hown (ht _ wd_344f678d) (ht _ wd_be8e62b0) (ht _ wd_7f6f8fc1) (ht _ wd_ef343630) hE.1 hP hD hS 0 1 0 0 rfl rfl rfl rfl rfl (by decide) (by decide) (by decide) (by decide) (by decide) (fun _ _ => rfl) (Nat.le_of_ble_eq_true rfl) (by decide) d_Arr_copyOf_28 (fun H locs hP hD hS => ?_)
  generalize va_cpy _ _ _ _ _ = gc2 at hP hD
  have hP : va_P G.1 kb_cl [kb_a G a 32 f, kb_a G qn1 64 gc2] H := hP
  have hD : va_D A [kb_a G a 32 f, kb_a G qn1 64 gc2] := hD
  refine lv_aload_n hx hb d_Arr_copyOf_31 rfl (lv_at hl 0 rfl) ?_
  exact kb_reta (kb_l [qn1], kb_f [gc2]) rfl hx hb hr hlocks hE hP hD hS [1] rfl (by decide) rfl trivial (Nat.le_of_ble_eq_true rfl) (Nat.le_of_ble_eq_true rfl) d_Arr_copyOf_32

set_option maxHeartbeats 4000000 in
set_option maxRecDepth 100000 in
theorem c_Row_add_g32 (l : Launch) (G : kb_G) (h : Nat) (a : Nat) (f : Nat → Int32) (x : Int32) : kb_cv l G ⟨"TreePress$Row", "add", "(I)V"⟩ prog_3_method_5_code 2 3 1 64 [.ref h, .int x] [kb_o h 1 [.ref a, .int 32], kb_a G a 32 f] (fun u => True) (fun u => [kb_o h 1 [.ref (u.1 0), .int 33], kb_a G (u.1 0) 64 (upd (u.2 0) 32 x)]) := by
  intro sz
  refine kb_body (QQ := fun A => kb_Qv G A (fun u => True) (fun u => [kb_o h 1 [.ref (u.1 0), .int 33], kb_a G (u.1 0) 64 (upd (u.2 0) 32 x)])) (by decide) (Nat.le_of_ble_eq_true rfl) ?_
  intro p e s m below meth c A B ls hl
  obtain ⟨hx, hb, hr, hml, hlocks, hin, hown, ht, hE, hP, hD, hS⟩ := B
  have hl : lv_has ls 2 [(0, .ref h), (1, .int x)] := hl
  have hP0 := hP
  obtain ⟨H, hHe⟩ : ∃ H, H = s.heap := ⟨_, rfl⟩
  rw [← hHe] at hP
  have hS : va_S A s.heap H [] := by rw [hHe]; exact hS
  refine kb_at hHe ?_
  clear hHe
  refine lv_aload_n hx hb d_Row_add_0 rfl (lv_at hl 0 rfl) ?_
  refine va_get (D := G.1) (ci := 1) (v := .int 32) (C := "TreePress$Row") (T := kb_F1) (N := 2) hx hb ht kb_w1 hown hE.1 hP 0 rfl rfl 1 (by decide) (ht _ wd_14b1fe24) (fun _ h9 => h9) rfl d_Row_add_1 ?_
  refine lv_aload_n hx hb d_Row_add_4 rfl (lv_at hl 0 rfl) ?_
  refine va_get (D := G.1) (ci := 1) (v := .ref a) (C := "TreePress$Row") (T := kb_F1) (N := 2) hx hb ht kb_w1 hown hE.1 hP 0 rfl rfl 0 (by decide) (ht _ wd_aac26352) (fun _ h9 => h9) rfl d_Row_add_5 ?_
  refine va_alen (v := 32) hx hb hE.1 hP 1 0 rfl rfl rfl d_Row_add_8 ?_
  refine lv_icmp_lt (tgt := 40) hx hb d_Row_add_9 (by decide) (fun c9 => absurd c9 (by decide)) (fun c9 => ?_)
  refine lv_aload_n hx hb d_Row_add_12 rfl (lv_at hl 0 rfl) ?_
  refine va_get (D := G.1) (ci := 1) (v := .ref a) (C := "TreePress$Row") (T := kb_F1) (N := 2) hx hb ht kb_w1 hown hE.1 hP 0 rfl rfl 0 (by decide) (ht _ wd_aac26352) (fun _ h9 => h9) rfl d_Row_add_13 ?_
  refine va_alen (v := 32) hx hb hE.1 hP 1 0 rfl rfl rfl d_Row_add_16 ?_
  refine lv_ldc (v := 65536) hx hb hown (ht _ wd_28377cc0) d_Row_add_17 ?_
  refine lv_icmp_ge (tgt := 40) hx hb d_Row_add_19 (by decide) (fun c9 => absurd c9 (by decide)) (fun c9 => ?_)
  refine lv_aload_n hx hb d_Row_add_22 rfl (lv_at hl 0 rfl) ?_
  refine lv_aload_n hx hb d_Row_add_23 rfl (lv_at hl 0 rfl) ?_
  refine va_get (D := G.1) (ci := 1) (v := .ref a) (C := "TreePress$Row") (T := kb_F1) (N := 2) hx hb ht kb_w1 hown hE.1 hP 0 rfl rfl 0 (by decide) (ht _ wd_aac26352) (fun _ h9 => h9) rfl d_Row_add_24 ?_
  refine lv_iconst (v := 2) hx hb d_Row_add_27 (by decide) ?_
  refine lv_aload_n hx hb d_Row_add_28 rfl (lv_at hl 0 rfl) ?_
  refine va_get (D := G.1) (ci := 1) (v := .ref a) (C := "TreePress$Row") (T := kb_F1) (N := 2) hx hb ht kb_w1 hown hE.1 hP 0 rfl rfl 0 (by decide) (ht _ wd_aac26352) (fun _ h9 => h9) rfl d_Row_add_29 ?_
  refine va_alen (v := 32) hx hb hE.1 hP 1 0 rfl rfl rfl d_Row_add_32 ?_
  refine lv_imul hx hb d_Row_add_33 ?_
  refine kb_top (y := 64) (by decide) ?_
  refine kb_r (wc := [kb_a G a 32 f]) (wr := [kb_o h 1 [.ref a, .int 32]]) hE hP hD hS [1] [0] rfl rfl (by decide) (by decide) (kb_rS (As := [.ref a, .int 64]) (rest := [.ref h]) (wc := [kb_a G a 32 f]) ⟨hx, hb, hml, hown, ht⟩ ((c_copyOf_32 l G a f) _) wd_ad853a53 wd_b0593275 wd_4e6ae1d1 wd_af4c3967 hd_c5a1602a ⟨(Nat.le_of_ble_eq_true rfl), (Nat.le_of_ble_eq_true rfl)⟩ hE hP hD hS [1] rfl (by decide) hl.1 rfl (Nat.le_of_ble_eq_true rfl) d_Row_add_34 ⟨(Nat.le_of_ble_eq_true rfl), (Nat.le_of_ble_eq_true rfl)⟩) (fun uu1 H locs hw hP hD hS => ?_)
  have hP : va_P G.1 kb_cl [kb_o h 1 [.ref a, .int 32], kb_a G (uu1.1 0) 64 (uu1.2 0)] H := hP
  have hD : va_D A [kb_o h 1 [.ref a, .int 32], kb_a G (uu1.1 0) 64 (uu1.2 0)] := hD
  refine va_put (D := G.1) (ci := 1) (v := .ref (uu1.1 0)) (ty := .array .int) (C := "TreePress$Row") (T := kb_F1) (N := 2) hx hb ht kb_w1 kb_y1 kb_p1 kb_n1 hown hE.1 hP hD hS 0 rfl rfl 0 (by decide) (ht _ wd_aac26352) (fun _ h9 => h9) rfl (by decide +kernel) rfl rfl (Nat.le_of_ble_eq_true rfl) d_Row_add_37 (fun H locs hP hD hS => ?_)
  have hP : va_P G.1 kb_cl [kb_o h 1 [.ref (uu1.1 0), .int 32], kb_a G (uu1.1 0) 64 (uu1.2 0)] H := hP
  have hD : va_D A [kb_o h 1 [.ref (uu1.1 0), .int 32], kb_a G (uu1.1 0) 64 (uu1.2 0)] := hD
  refine lv_aload_n hx hb d_Row_add_40 rfl (lv_at hl 0 rfl) ?_
  refine va_get (D := G.1) (ci := 1) (v := .int 32) (C := "TreePress$Row") (T := kb_F1) (N := 2) hx hb ht kb_w1 hown hE.1 hP 0 rfl rfl 1 (by decide) (ht _ wd_14b1fe24) (fun _ h9 => h9) rfl d_Row_add_41 ?_
  refine lv_aload_n hx hb d_Row_add_44 rfl (lv_at hl 0 rfl) ?_
  refine va_get (D := G.1) (ci := 1) (v := .ref (uu1.1 0)) (C := "TreePress$Row") (T := kb_F1) (N := 2) hx hb ht kb_w1 hown hE.1 hP 0 rfl rfl 0 (by decide) (ht _ wd_aac26352) (fun _ h9 => h9) rfl d_Row_add_45 ?_
  refine va_alen (v := 64) hx hb hE.1 hP 1 0 rfl rfl rfl d_Row_add_48 ?_
  refine lv_icmp_ge (tgt := 72) hx hb d_Row_add_49 (by decide) (fun c9 => absurd c9 (by decide)) (fun c9 => ?_)
  refine lv_aload_n hx hb d_Row_add_52 rfl (lv_at hl 0 rfl) ?_
  refine va_get (D := G.1) (ci := 1) (v := .ref (uu1.1 0)) (C := "TreePress$Row") (T := kb_F1) (N := 2) hx hb ht kb_w1 hown hE.1 hP 0 rfl rfl 0 (by decide) (ht _ wd_aac26352) (fun _ h9 => h9) rfl d_Row_add_53 ?_
  refine lv_aload_n hx hb d_Row_add_56 rfl (lv_at hl 0 rfl) ?_
  refine va_get (D := G.1) (ci := 1) (v := .int 32) (C := "TreePress$Row") (T := kb_F1) (N := 2) hx hb ht kb_w1 hown hE.1 hP 0 rfl rfl 1 (by decide) (ht _ wd_14b1fe24) (fun _ h9 => h9) rfl d_Row_add_57 ?_
  refine lv_iload_n hx hb d_Row_add_60 rfl (lv_at hl 1 rfl) ?_
  refine va_iast hx hb hE.1 hP hD hS 1 0 rfl rfl (show ¬ ((32 : Int32) < 0 ∨ 64 ≤ (32 : Int32).toNatClampNeg) by decide) d_Row_add_61 (fun H locs hP hD hS => ?_)
  have hP : va_P G.1 kb_cl [kb_o h 1 [.ref (uu1.1 0), .int 32], kb_a G (uu1.1 0) 64 (upd (uu1.2 0) 32 x)] H := hP
  have hD : va_D A [kb_o h 1 [.ref (uu1.1 0), .int 32], kb_a G (uu1.1 0) 64 (upd (uu1.2 0) 32 x)] := hD
  refine lv_aload_n hx hb d_Row_add_62 rfl (lv_at hl 0 rfl) ?_
  refine lv_dup hx hb d_Row_add_63 rfl ?_
  refine va_get (D := G.1) (ci := 1) (v := .int 32) (C := "TreePress$Row") (T := kb_F1) (N := 2) hx hb ht kb_w1 hown hE.1 hP 0 rfl rfl 1 (by decide) (ht _ wd_14b1fe24) (fun _ h9 => h9) rfl d_Row_add_64 ?_
  refine lv_iconst (v := 1) hx hb d_Row_add_67 (by decide) ?_
  refine lv_iadd hx hb d_Row_add_68 ?_
  refine kb_top (y := 33) (by decide) ?_
  refine va_put (D := G.1) (ci := 1) (v := .int 33) (ty := .int) (C := "TreePress$Row") (T := kb_F1) (N := 2) hx hb ht kb_w1 kb_y1 kb_p1 kb_n1 hown hE.1 hP hD hS 0 rfl rfl 1 (by decide) (ht _ wd_14b1fe24) (fun _ h9 => h9) rfl (by decide +kernel) rfl rfl (Nat.le_of_ble_eq_true rfl) d_Row_add_69 (fun H locs hP hD hS => ?_)
  have hP : va_P G.1 kb_cl [kb_o h 1 [.ref (uu1.1 0), .int 33], kb_a G (uu1.1 0) 64 (upd (uu1.2 0) 32 x)] H := hP
  have hD : va_D A [kb_o h 1 [.ref (uu1.1 0), .int 33], kb_a G (uu1.1 0) 64 (upd (uu1.2 0) 32 x)] := hD
  exact kb_retv (kb_l [uu1.1 0], kb_f [uu1.2 0]) hx hb hr hlocks hE hP hD hS [0, 1] rfl (by decide) rfl trivial (Nat.le_of_ble_eq_true rfl) (Nat.le_of_ble_eq_true rfl) d_Row_add_72

set_option maxHeartbeats 4000000 in
set_option maxRecDepth 100000 in
theorem c_copyOf_64 (l : Launch) (G : kb_G) (a : Nat) (f : Nat → Int32) : kb_cr l G ⟨"java/util/Arrays", "copyOf", "([II)[I"⟩ prog_17_method_123_code 3 (some (.array .int)) 2 1 128 [.ref a, .int 128] [kb_a G a 64 f] (fun u => True) (fun u => [kb_a G (u.1 0) 128 (u.2 0)]) := by
  intro sz
  refine kb_body (QQ := fun A => kb_Qr G A (fun u => True) (fun u => [kb_a G (u.1 0) 128 (u.2 0)])) (by decide) (Nat.le_of_ble_eq_true rfl) ?_
  intro p e s m below meth c A B ls hl
  obtain ⟨hx, hb, hr, hml, hlocks, hin, hown, ht, hE, hP, hD, hS⟩ := B
  have hl : lv_has ls 3 [(0, .ref a), (1, .int 128)] := hl
  have hP0 := hP
  obtain ⟨H, hHe⟩ : ∃ H, H = s.heap := ⟨_, rfl⟩
  rw [← hHe] at hP
  have hS : va_S A s.heap H [] := by rw [hHe]; exact hS
  refine kb_at hHe ?_
  clear hHe
  refine lv_iload_n hx hb d_Arr_copyOf_0 rfl (lv_at hl 1 rfl) ?_
  refine lv_aload_n hx hb d_Arr_copyOf_1 rfl (lv_at hl 0 rfl) ?_
  refine va_alen (v := 64) hx hb hE.1 hP 0 0 rfl rfl rfl d_Arr_copyOf_2 ?_
  refine lv_icmp_ne (tgt := 14) hx hb d_Arr_copyOf_3 (by decide) (fun c9 => ?_) (fun c9 => absurd c9 (by decide))
  refine lv_iload_n hx hb d_Arr_copyOf_14 rfl (lv_at hl 1 rfl) ?_
  refine kb_newi (N := 128) hx hb (ht _ wd_298d195d) hE hP hD hS (by decide) (by decide) (by decide) (Nat.le_of_ble_eq_true rfl) (Nat.le_of_ble_eq_true rfl) d_Arr_copyOf_15 (fun qn1 H hP hD hS => ?_)
  have hP : va_P G.1 kb_cl [kb_a G a 64 f, kb_a G qn1 128 (fun _ => 0)] H := hP
  have hD : va_D A [kb_a G a 64 f, kb_a G qn1 128 (fun _ => 0)] := hD
  refine lv_astore_n (lv' := [(2, .ref qn1), (0, .ref a), (1, .int 128)]) hx hb d_Arr_copyOf_17 rfl hl (by decide) rfl (fun ls hl => ?_)
  refine lv_aload_n hx hb d_Arr_copyOf_18 rfl (lv_at hl 1 rfl) ?_
  refine lv_iconst (v := 0) hx hb d_Arr_copyOf_19 (by decide) ?_
  refine lv_aload_n hx hb d_Arr_copyOf_20 rfl (lv_at hl 0 rfl) ?_
  refine lv_iconst (v := 0) hx hb d_Arr_copyOf_21 (by decide) ?_
  refine lv_aload_n hx hb d_Arr_copyOf_22 rfl (lv_at hl 1 rfl) ?_
  refine va_alen (v := 64) hx hb hE.1 hP 0 0 rfl rfl rfl d_Arr_copyOf_23 ?_
  refine lv_iload_n hx hb d_Arr_copyOf_24 rfl (lv_at hl 2 rfl) ?_
  refine va_mmin hx hb (hml.trans hl.1.symm) hown (ht _ wd_7ee5459b) (ht _ wd_3a7a32ed) (ht _ wd_5a0cff89) (ht _ wd_c98a754a) (Nat.le_of_ble_eq_true rfl) (Nat.le_of_ble_eq_true rfl) (Nat.le_of_ble_eq_true rfl) (Nat.le_of_ble_eq_true rfl) d_Arr_copyOf_25 ?_
  refine kb_top (y := 64) (by decide) ?_
  refine va_copyi hx hb (hml.trans hl.1.symm) hown (ht _ wd_344f678d) (ht _ wd_be8e62b0) (ht _ wd_7f6f8fc1) (ht _ wd_ef343630) hE.1 hP hD hS 0 1 0 0 rfl rfl rfl rfl rfl (by decide) (by decide) (by decide) (by decide) (by decide) (fun _ _ => rfl) (Nat.le_of_ble_eq_true rfl) (by decide) d_Arr_copyOf_28 (fun H locs hP hD hS => ?_)
  generalize va_cpy _ _ _ _ _ = gc2 at hP hD
  have hP : va_P G.1 kb_cl [kb_a G a 64 f, kb_a G qn1 128 gc2] H := hP
  have hD : va_D A [kb_a G a 64 f, kb_a G qn1 128 gc2] := hD
  refine lv_aload_n hx hb d_Arr_copyOf_31 rfl (lv_at hl 0 rfl) ?_
  exact kb_reta (kb_l [qn1], kb_f [gc2]) rfl hx hb hr hlocks hE hP hD hS [1] rfl (by decide) rfl trivial (Nat.le_of_ble_eq_true rfl) (Nat.le_of_ble_eq_true rfl) d_Arr_copyOf_32

set_option maxHeartbeats 4000000 in
set_option maxRecDepth 100000 in
theorem c_Row_add_g64 (l : Launch) (G : kb_G) (h : Nat) (a : Nat) (f : Nat → Int32) (x : Int32) : kb_cv l G ⟨"TreePress$Row", "add", "(I)V"⟩ prog_3_method_5_code 2 3 1 128 [.ref h, .int x] [kb_o h 1 [.ref a, .int 64], kb_a G a 64 f] (fun u => True) (fun u => [kb_o h 1 [.ref (u.1 0), .int 65], kb_a G (u.1 0) 128 (upd (u.2 0) 64 x)]) := by
  intro sz
  refine kb_body (QQ := fun A => kb_Qv G A (fun u => True) (fun u => [kb_o h 1 [.ref (u.1 0), .int 65], kb_a G (u.1 0) 128 (upd (u.2 0) 64 x)])) (by decide) (Nat.le_of_ble_eq_true rfl) ?_
  intro p e s m below meth c A B ls hl
  obtain ⟨hx, hb, hr, hml, hlocks, hin, hown, ht, hE, hP, hD, hS⟩ := B
  have hl : lv_has ls 2 [(0, .ref h), (1, .int x)] := hl
  have hP0 := hP
  obtain ⟨H, hHe⟩ : ∃ H, H = s.heap := ⟨_, rfl⟩
  rw [← hHe] at hP
  have hS : va_S A s.heap H [] := by rw [hHe]; exact hS
  refine kb_at hHe ?_
  clear hHe
  refine lv_aload_n hx hb d_Row_add_0 rfl (lv_at hl 0 rfl) ?_
  refine va_get (D := G.1) (ci := 1) (v := .int 64) (C := "TreePress$Row") (T := kb_F1) (N := 2) hx hb ht kb_w1 hown hE.1 hP 0 rfl rfl 1 (by decide) (ht _ wd_14b1fe24) (fun _ h9 => h9) rfl d_Row_add_1 ?_
  refine lv_aload_n hx hb d_Row_add_4 rfl (lv_at hl 0 rfl) ?_
  refine va_get (D := G.1) (ci := 1) (v := .ref a) (C := "TreePress$Row") (T := kb_F1) (N := 2) hx hb ht kb_w1 hown hE.1 hP 0 rfl rfl 0 (by decide) (ht _ wd_aac26352) (fun _ h9 => h9) rfl d_Row_add_5 ?_
  refine va_alen (v := 64) hx hb hE.1 hP 1 0 rfl rfl rfl d_Row_add_8 ?_
  refine lv_icmp_lt (tgt := 40) hx hb d_Row_add_9 (by decide) (fun c9 => absurd c9 (by decide)) (fun c9 => ?_)
  refine lv_aload_n hx hb d_Row_add_12 rfl (lv_at hl 0 rfl) ?_
  refine va_get (D := G.1) (ci := 1) (v := .ref a) (C := "TreePress$Row") (T := kb_F1) (N := 2) hx hb ht kb_w1 hown hE.1 hP 0 rfl rfl 0 (by decide) (ht _ wd_aac26352) (fun _ h9 => h9) rfl d_Row_add_13 ?_
  refine va_alen (v := 64) hx hb hE.1 hP 1 0 rfl rfl rfl d_Row_add_16 ?_
  refine lv_ldc (v := 65536) hx hb hown (ht _ wd_28377cc0) d_Row_add_17 ?_
  refine lv_icmp_ge (tgt := 40) hx hb d_Row_add_19 (by decide) (fun c9 => absurd c9 (by decide)) (fun c9 => ?_)
  refine lv_aload_n hx hb d_Row_add_22 rfl (lv_at hl 0 rfl) ?_
  refine lv_aload_n hx hb d_Row_add_23 rfl (lv_at hl 0 rfl) ?_
  refine va_get (D := G.1) (ci := 1) (v := .ref a) (C := "TreePress$Row") (T := kb_F1) (N := 2) hx hb ht kb_w1 hown hE.1 hP 0 rfl rfl 0 (by decide) (ht _ wd_aac26352) (fun _ h9 => h9) rfl d_Row_add_24 ?_
  refine lv_iconst (v := 2) hx hb d_Row_add_27 (by decide) ?_
  refine lv_aload_n hx hb d_Row_add_28 rfl (lv_at hl 0 rfl) ?_
  refine va_get (D := G.1) (ci := 1) (v := .ref a) (C := "TreePress$Row") (T := kb_F1) (N := 2) hx hb ht kb_w1 hown hE.1 hP 0 rfl rfl 0 (by decide) (ht _ wd_aac26352) (fun _ h9 => h9) rfl d_Row_add_29 ?_
  refine va_alen (v := 64) hx hb hE.1 hP 1 0 rfl rfl rfl d_Row_add_32 ?_
  refine lv_imul hx hb d_Row_add_33 ?_
  refine kb_top (y := 128) (by decide) ?_
  refine kb_r (wc := [kb_a G a 64 f]) (wr := [kb_o h 1 [.ref a, .int 64]]) hE hP hD hS [1] [0] rfl rfl (by decide) (by decide) (kb_rS (As := [.ref a, .int 128]) (rest := [.ref h]) (wc := [kb_a G a 64 f]) ⟨hx, hb, hml, hown, ht⟩ ((c_copyOf_64 l G a f) _) wd_ad853a53 wd_b0593275 wd_4e6ae1d1 wd_af4c3967 hd_c5a1602a ⟨(Nat.le_of_ble_eq_true rfl), (Nat.le_of_ble_eq_true rfl)⟩ hE hP hD hS [1] rfl (by decide) hl.1 rfl (Nat.le_of_ble_eq_true rfl) d_Row_add_34 ⟨(Nat.le_of_ble_eq_true rfl), (Nat.le_of_ble_eq_true rfl)⟩) (fun uu1 H locs hw hP hD hS => ?_)
  have hP : va_P G.1 kb_cl [kb_o h 1 [.ref a, .int 64], kb_a G (uu1.1 0) 128 (uu1.2 0)] H := hP
  have hD : va_D A [kb_o h 1 [.ref a, .int 64], kb_a G (uu1.1 0) 128 (uu1.2 0)] := hD
  refine va_put (D := G.1) (ci := 1) (v := .ref (uu1.1 0)) (ty := .array .int) (C := "TreePress$Row") (T := kb_F1) (N := 2) hx hb ht kb_w1 kb_y1 kb_p1 kb_n1 hown hE.1 hP hD hS 0 rfl rfl 0 (by decide) (ht _ wd_aac26352) (fun _ h9 => h9) rfl (by decide +kernel) rfl rfl (Nat.le_of_ble_eq_true rfl) d_Row_add_37 (fun H locs hP hD hS => ?_)
  have hP : va_P G.1 kb_cl [kb_o h 1 [.ref (uu1.1 0), .int 64], kb_a G (uu1.1 0) 128 (uu1.2 0)] H := hP
  have hD : va_D A [kb_o h 1 [.ref (uu1.1 0), .int 64], kb_a G (uu1.1 0) 128 (uu1.2 0)] := hD
  refine lv_aload_n hx hb d_Row_add_40 rfl (lv_at hl 0 rfl) ?_
  refine va_get (D := G.1) (ci := 1) (v := .int 64) (C := "TreePress$Row") (T := kb_F1) (N := 2) hx hb ht kb_w1 hown hE.1 hP 0 rfl rfl 1 (by decide) (ht _ wd_14b1fe24) (fun _ h9 => h9) rfl d_Row_add_41 ?_
  refine lv_aload_n hx hb d_Row_add_44 rfl (lv_at hl 0 rfl) ?_
  refine va_get (D := G.1) (ci := 1) (v := .ref (uu1.1 0)) (C := "TreePress$Row") (T := kb_F1) (N := 2) hx hb ht kb_w1 hown hE.1 hP 0 rfl rfl 0 (by decide) (ht _ wd_aac26352) (fun _ h9 => h9) rfl d_Row_add_45 ?_
  refine va_alen (v := 128) hx hb hE.1 hP 1 0 rfl rfl rfl d_Row_add_48 ?_
  refine lv_icmp_ge (tgt := 72) hx hb d_Row_add_49 (by decide) (fun c9 => absurd c9 (by decide)) (fun c9 => ?_)
  refine lv_aload_n hx hb d_Row_add_52 rfl (lv_at hl 0 rfl) ?_
  refine va_get (D := G.1) (ci := 1) (v := .ref (uu1.1 0)) (C := "TreePress$Row") (T := kb_F1) (N := 2) hx hb ht kb_w1 hown hE.1 hP 0 rfl rfl 0 (by decide) (ht _ wd_aac26352) (fun _ h9 => h9) rfl d_Row_add_53 ?_
  refine lv_aload_n hx hb d_Row_add_56 rfl (lv_at hl 0 rfl) ?_
  refine va_get (D := G.1) (ci := 1) (v := .int 64) (C := "TreePress$Row") (T := kb_F1) (N := 2) hx hb ht kb_w1 hown hE.1 hP 0 rfl rfl 1 (by decide) (ht _ wd_14b1fe24) (fun _ h9 => h9) rfl d_Row_add_57 ?_
  refine lv_iload_n hx hb d_Row_add_60 rfl (lv_at hl 1 rfl) ?_
  refine va_iast hx hb hE.1 hP hD hS 1 0 rfl rfl (show ¬ ((64 : Int32) < 0 ∨ 128 ≤ (64 : Int32).toNatClampNeg) by decide) d_Row_add_61 (fun H locs hP hD hS => ?_)
  have hP : va_P G.1 kb_cl [kb_o h 1 [.ref (uu1.1 0), .int 64], kb_a G (uu1.1 0) 128 (upd (uu1.2 0) 64 x)] H := hP
  have hD : va_D A [kb_o h 1 [.ref (uu1.1 0), .int 64], kb_a G (uu1.1 0) 128 (upd (uu1.2 0) 64 x)] := hD
  refine lv_aload_n hx hb d_Row_add_62 rfl (lv_at hl 0 rfl) ?_
  refine lv_dup hx hb d_Row_add_63 rfl ?_
  refine va_get (D := G.1) (ci := 1) (v := .int 64) (C := "TreePress$Row") (T := kb_F1) (N := 2) hx hb ht kb_w1 hown hE.1 hP 0 rfl rfl 1 (by decide) (ht _ wd_14b1fe24) (fun _ h9 => h9) rfl d_Row_add_64 ?_
  refine lv_iconst (v := 1) hx hb d_Row_add_67 (by decide) ?_
  refine lv_iadd hx hb d_Row_add_68 ?_
  refine kb_top (y := 65) (by decide) ?_
  refine va_put (D := G.1) (ci := 1) (v := .int 65) (ty := .int) (C := "TreePress$Row") (T := kb_F1) (N := 2) hx hb ht kb_w1 kb_y1 kb_p1 kb_n1 hown hE.1 hP hD hS 0 rfl rfl 1 (by decide) (ht _ wd_14b1fe24) (fun _ h9 => h9) rfl (by decide +kernel) rfl rfl (Nat.le_of_ble_eq_true rfl) d_Row_add_69 (fun H locs hP hD hS => ?_)
  have hP : va_P G.1 kb_cl [kb_o h 1 [.ref (uu1.1 0), .int 65], kb_a G (uu1.1 0) 128 (upd (uu1.2 0) 64 x)] H := hP
  have hD : va_D A [kb_o h 1 [.ref (uu1.1 0), .int 65], kb_a G (uu1.1 0) 128 (upd (uu1.2 0) 64 x)] := hD
  exact kb_retv (kb_l [uu1.1 0], kb_f [uu1.2 0]) hx hb hr hlocks hE hP hD hS [0, 1] rfl (by decide) rfl trivial (Nat.le_of_ble_eq_true rfl) (Nat.le_of_ble_eq_true rfl) d_Row_add_72
end
section
theorem wd_b959c18a : (Jvm.Cond.methodLink "TreePress$Row" (30 : Nat) ({ cls := "TreePress$Row", name := "add", desc := "(I)V" } : Jvm.MethodName)) ∈ kb_T := kb_t1 118 (by decide +kernel) (by decide +kernel)
theorem wd_d7a504c3 : (Jvm.Cond.instanceMethod ({ cls := "TreePress$Row", name := "add", desc := "(I)V" } : Jvm.MethodName)) ∈ kb_T := kb_t1 85 (by decide +kernel) (by decide +kernel)
theorem wd_55347eca : (Jvm.Cond.selects "TreePress$Row" ({ cls := "TreePress$Row", name := "add", desc := "(I)V" } : Jvm.MethodName) ({ cls := "TreePress$Row", name := "add", desc := "(I)V" } : Jvm.MethodName)) ∈ kb_T := kb_t1 86 (by decide +kernel) (by decide +kernel)
theorem wd_4182e433 : (Jvm.Cond.initialized "TreePress$Row") ∈ kb_T := kb_t1 2 (by decide +kernel) (by decide +kernel)
theorem wd_0d22954f : (Jvm.Cond.code ({ cls := "TreePress$Row", name := "add", desc := "(I)V" } : Jvm.MethodName) prog_3_method_5_code (2 : Nat) (Option.none : Option Jvm.ClassFile.FieldType)) ∈ kb_T := kb_t1 87 (by decide +kernel) (by decide +kernel)
theorem hd_d22f4174 : (⟨"TreePress$Row", "add", "(I)V"⟩ : MethodName).cls ≠ "java/lang/invoke/MethodHandle" ∧ (⟨"TreePress$Row", "add", "(I)V"⟩ : MethodName).cls ≠ "java/lang/invoke/VarHandle" ∧ (parseMethodDescriptor (⟨"TreePress$Row", "add", "(I)V"⟩ : MethodName).desc).map (fun d => d.parameters.length) = some 1 := by decide +kernel
theorem wd_fb9083d2 : (Jvm.Cond.methodLink "TreePress$Row" (34 : Nat) ({ cls := "TreePress$Row", name := "put", desc := "(II)V" } : Jvm.MethodName)) ∈ kb_T := kb_t2 11 (by decide +kernel) (by decide +kernel)
theorem wd_b3824346 : (Jvm.Cond.instanceMethod ({ cls := "TreePress$Row", name := "put", desc := "(II)V" } : Jvm.MethodName)) ∈ kb_T := kb_t2 12 (by decide +kernel) (by decide +kernel)
theorem wd_43c38e26 : (Jvm.Cond.selects "TreePress$Row" ({ cls := "TreePress$Row", name := "put", desc := "(II)V" } : Jvm.MethodName) ({ cls := "TreePress$Row", name := "put", desc := "(II)V" } : Jvm.MethodName)) ∈ kb_T := kb_t2 13 (by decide +kernel) (by decide +kernel)
theorem wd_a447a7d7 : (Jvm.Cond.code ({ cls := "TreePress$Row", name := "put", desc := "(II)V" } : Jvm.MethodName) prog_3_method_4_code (3 : Nat) (Option.none : Option Jvm.ClassFile.FieldType)) ∈ kb_T := kb_t2 14 (by decide +kernel) (by decide +kernel)
theorem hd_d300f370 : (⟨"TreePress$Row", "put", "(II)V"⟩ : MethodName).cls ≠ "java/lang/invoke/MethodHandle" ∧ (⟨"TreePress$Row", "put", "(II)V"⟩ : MethodName).cls ≠ "java/lang/invoke/VarHandle" ∧ (parseMethodDescriptor (⟨"TreePress$Row", "put", "(II)V"⟩ : MethodName).desc).map (fun d => d.parameters.length) = some 2 := by decide +kernel
theorem d_Row_addPart_0 : decode prog_3_method_7_code 0 = .ok (.iconst 0, 1) := by decide +kernel
theorem d_Row_addPart_1 : decode prog_3_method_7_code 1 = .ok (.istore 4, 2) := by decide +kernel
theorem d_Row_addPart_3 : decode prog_3_method_7_code 3 = .ok (.iload 4, 2) := by decide +kernel
theorem d_Row_addPart_5 : decode prog_3_method_7_code 5 = .ok (.iload_n 3, 1) := by decide +kernel
theorem d_Row_addPart_6 : decode prog_3_method_7_code 6 = .ok (.if_icmp .ge 21, 3) := by decide +kernel
theorem d_Row_addPart_27 : decode prog_3_method_7_code 27 = .ok (.return_, 1) := by decide +kernel
theorem d_Row_addNumber_0 : decode prog_3_method_8_code 0 = .ok (.bipush 24, 2) := by decide +kernel
theorem d_Row_addNumber_2 : decode prog_3_method_8_code 2 = .ok (.istore_n 2, 1) := by decide +kernel
theorem d_Row_addNumber_3 : decode prog_3_method_8_code 3 = .ok (.iload_n 2, 1) := by decide +kernel
theorem d_Row_addNumber_4 : decode prog_3_method_8_code 4 = .ok (.ifCond .lt 20, 3) := by decide +kernel
theorem d_Row_addNumber_7 : decode prog_3_method_8_code 7 = .ok (.aload_n 0, 1) := by decide +kernel
theorem d_Row_addNumber_8 : decode prog_3_method_8_code 8 = .ok (.iload_n 1, 1) := by decide +kernel
theorem d_Row_addNumber_9 : decode prog_3_method_8_code 9 = .ok (.iload_n 2, 1) := by decide +kernel
theorem d_Row_addNumber_10 : decode prog_3_method_8_code 10 = .ok (.iushr, 1) := by decide +kernel
theorem d_Row_addNumber_11 : decode prog_3_method_8_code 11 = .ok (.sipush 255, 3) := by decide +kernel
theorem d_Row_addNumber_14 : decode prog_3_method_8_code 14 = .ok (.iand, 1) := by decide +kernel
theorem d_Row_addNumber_15 : decode prog_3_method_8_code 15 = .ok (.invokevirtual 30, 3) := by decide +kernel
theorem d_Row_addNumber_18 : decode prog_3_method_8_code 18 = .ok (.iinc 2 (-8), 3) := by decide +kernel
theorem d_Row_addNumber_21 : decode prog_3_method_8_code 21 = .ok (.goto (-18), 3) := by decide +kernel
theorem d_Row_addNumber_24 : decode prog_3_method_8_code 24 = .ok (.return_, 1) := by decide +kernel
theorem d_Row_addZeros_0 : decode prog_3_method_9_code 0 = .ok (.iconst 0, 1) := by decide +kernel
theorem d_Row_addZeros_1 : decode prog_3_method_9_code 1 = .ok (.istore_n 2, 1) := by decide +kernel
theorem d_Row_addZeros_2 : decode prog_3_method_9_code 2 = .ok (.iload_n 2, 1) := by decide +kernel
theorem d_Row_addZeros_3 : decode prog_3_method_9_code 3 = .ok (.iload_n 1, 1) := by decide +kernel
theorem d_Row_addZeros_4 : decode prog_3_method_9_code 4 = .ok (.if_icmp .ge 14, 3) := by decide +kernel
theorem d_Row_addZeros_7 : decode prog_3_method_9_code 7 = .ok (.aload_n 0, 1) := by decide +kernel
theorem d_Row_addZeros_8 : decode prog_3_method_9_code 8 = .ok (.iconst 0, 1) := by decide +kernel
theorem d_Row_addZeros_9 : decode prog_3_method_9_code 9 = .ok (.invokevirtual 30, 3) := by decide +kernel
theorem d_Row_addZeros_12 : decode prog_3_method_9_code 12 = .ok (.iinc 2 1, 3) := by decide +kernel
theorem d_Row_addZeros_15 : decode prog_3_method_9_code 15 = .ok (.goto (-13), 3) := by decide +kernel
theorem d_Row_addZeros_18 : decode prog_3_method_9_code 18 = .ok (.return_, 1) := by decide +kernel
theorem d_Row_putNumber_0 : decode prog_3_method_10_code 0 = .ok (.iconst 0, 1) := by decide +kernel
theorem d_Row_putNumber_1 : decode prog_3_method_10_code 1 = .ok (.istore_n 3, 1) := by decide +kernel
theorem d_Row_putNumber_2 : decode prog_3_method_10_code 2 = .ok (.iload_n 3, 1) := by decide +kernel
theorem d_Row_putNumber_3 : decode prog_3_method_10_code 3 = .ok (.iconst 4, 1) := by decide +kernel
theorem d_Row_putNumber_4 : decode prog_3_method_10_code 4 = .ok (.if_icmp .ge 29, 3) := by decide +kernel
theorem d_Row_putNumber_7 : decode prog_3_method_10_code 7 = .ok (.aload_n 0, 1) := by decide +kernel
theorem d_Row_putNumber_8 : decode prog_3_method_10_code 8 = .ok (.iload_n 1, 1) := by decide +kernel
theorem d_Row_putNumber_9 : decode prog_3_method_10_code 9 = .ok (.iload_n 3, 1) := by decide +kernel
theorem d_Row_putNumber_10 : decode prog_3_method_10_code 10 = .ok (.iadd, 1) := by decide +kernel
theorem d_Row_putNumber_11 : decode prog_3_method_10_code 11 = .ok (.iload_n 2, 1) := by decide +kernel
theorem d_Row_putNumber_12 : decode prog_3_method_10_code 12 = .ok (.bipush 24, 2) := by decide +kernel
theorem d_Row_putNumber_14 : decode prog_3_method_10_code 14 = .ok (.bipush 8, 2) := by decide +kernel
theorem d_Row_putNumber_16 : decode prog_3_method_10_code 16 = .ok (.iload_n 3, 1) := by decide +kernel
theorem d_Row_putNumber_17 : decode prog_3_method_10_code 17 = .ok (.imul, 1) := by decide +kernel
theorem d_Row_putNumber_18 : decode prog_3_method_10_code 18 = .ok (.isub, 1) := by decide +kernel
theorem d_Row_putNumber_19 : decode prog_3_method_10_code 19 = .ok (.iushr, 1) := by decide +kernel
theorem d_Row_putNumber_20 : decode prog_3_method_10_code 20 = .ok (.sipush 255, 3) := by decide +kernel
theorem d_Row_putNumber_23 : decode prog_3_method_10_code 23 = .ok (.iand, 1) := by decide +kernel
theorem d_Row_putNumber_24 : decode prog_3_method_10_code 24 = .ok (.invokevirtual 34, 3) := by decide +kernel
theorem d_Row_putNumber_27 : decode prog_3_method_10_code 27 = .ok (.iinc 3 1, 3) := by decide +kernel
theorem d_Row_putNumber_30 : decode prog_3_method_10_code 30 = .ok (.goto (-28), 3) := by decide +kernel
theorem d_Row_putNumber_33 : decode prog_3_method_10_code 33 = .ok (.return_, 1) := by decide +kernel
theorem d_Row_hasName_0 : decode prog_3_method_12_code 0 = .ok (.iload_n 2, 1) := by decide +kernel
theorem d_Row_hasName_1 : decode prog_3_method_12_code 1 = .ok (.iconst 1, 1) := by decide +kernel
theorem d_Row_hasName_2 : decode prog_3_method_12_code 2 = .ok (.if_icmp .lt 9, 3) := by decide +kernel
theorem d_Row_hasName_11 : decode prog_3_method_12_code 11 = .ok (.iconst 0, 1) := by decide +kernel
theorem d_Row_hasName_12 : decode prog_3_method_12_code 12 = .ok (.ireturn, 1) := by decide +kernel
set_option maxHeartbeats 4000000 in
set_option maxRecDepth 100000 in
theorem c_Row_addPart0 (l : Launch) (G : kb_G) (h : Nat) (a : Nat) (v : Int32) (g : Nat) (x : Int32) : kb_cv l G ⟨"TreePress$Row", "addPart", "(LTreePress$Row;II)V"⟩ prog_3_method_7_code 5 4 0 0 [.ref h, .ref g, .int x, .int 0] [kb_o h 1 [.ref a, .int v]] (fun u => True) (fun u => [kb_o h 1 [.ref a, .int v]]) := by
  intro sz
  refine kb_body (QQ := fun A => kb_Qv G A (fun u => True) (fun u => [kb_o h 1 [.ref a, .int v]])) (by decide) (Nat.le_of_ble_eq_true rfl) ?_
  intro p e s m below meth c A B ls hl
  obtain ⟨hx, hb, hr, hml, hlocks, hin, hown, ht, hE, hP, hD, hS⟩ := B
  have hl : lv_has ls 5 [(0, .ref h), (1, .ref g), (2, .int x), (3, .int 0)] := hl
  have hP0 := hP
  obtain ⟨H, hHe⟩ : ∃ H, H = s.heap := ⟨_, rfl⟩
  rw [← hHe] at hP
  have hS : va_S A s.heap H [] := by rw [hHe]; exact hS
  refine kb_at hHe ?_
  clear hHe
  refine lv_iconst (v := 0) hx hb d_Row_addPart_0 (by decide) ?_
  refine lv_istore (lv' := [(4, .int 0), (0, .ref h), (1, .ref g), (2, .int x), (3, .int 0)]) hx hb d_Row_addPart_1 hl (by decide) rfl (fun ls hl => ?_)
  refine lv_iload hx hb d_Row_addPart_3 (lv_at hl 0 rfl) ?_
  refine lv_iload_n hx hb d_Row_addPart_5 rfl (lv_at hl 4 rfl) ?_
  refine lv_icmp_ge (tgt := 27) hx hb d_Row_addPart_6 (by decide) (fun c9 => ?_) (fun c9 => absurd (by decide) c9)
  exact kb_retv (kb_l [], kb_f []) hx hb hr hlocks hE hP hD hS [0] rfl (by decide) rfl trivial (Nat.le_of_ble_eq_true rfl) (Nat.le_of_ble_eq_true rfl) d_Row_addPart_27

set_option maxHeartbeats 4000000 in
set_option maxRecDepth 100000 in
theorem c_Row_addNumber_n (l : Launch) (G : kb_G) (h : Nat) (a : Nat) (n : Nat) (N : Nat) (f : Nat → Int32) (x : Int32) (hn : n + 4 ≤ N) (hN : N ≤ 65536) : kb_cv l G ⟨"TreePress$Row", "addNumber", "(I)V"⟩ prog_3_method_8_code 3 4 0 0 [.ref h, .int x] [kb_o h 1 [.ref a, .int (nI n)], kb_a G a N f] (fun u => True) (fun u => [kb_o h 1 [.ref a, .int (nI ((((n + 1) + 1) + 1) + 1))], kb_a G a N (u.2 0)]) := by
  intro sz
  refine kb_body (QQ := fun A => kb_Qv G A (fun u => True) (fun u => [kb_o h 1 [.ref a, .int (nI ((((n + 1) + 1) + 1) + 1))], kb_a G a N (u.2 0)])) (by decide) (Nat.le_of_ble_eq_true rfl) ?_
  intro p e s m below meth c A B ls hl
  obtain ⟨hx, hb, hr, hml, hlocks, hin, hown, ht, hE, hP, hD, hS⟩ := B
  have hl : lv_has ls 3 [(0, .ref h), (1, .int x)] := hl
  have hP0 := hP
  obtain ⟨H, hHe⟩ : ∃ H, H = s.heap := ⟨_, rfl⟩
  rw [← hHe] at hP
  have hS : va_S A s.heap H [] := by rw [hHe]; exact hS
  refine kb_at hHe ?_
  clear hHe
  refine lv_bipush (v := 24) hx hb d_Row_addNumber_0 (by decide) ?_
  refine lv_istore_n (lv' := [(2, .int 24), (0, .ref h), (1, .int x)]) hx hb d_Row_addNumber_2 rfl hl (by decide) rfl (fun ls hl => ?_)
  refine lv_iload_n hx hb d_Row_addNumber_3 rfl (lv_at hl 0 rfl) ?_
  refine lv_if_lt (tgt := 24) hx hb d_Row_addNumber_4 (by decide) (fun c9 => absurd c9 (by decide)) (fun c9 => ?_)
  refine lv_aload_n hx hb d_Row_addNumber_7 rfl (lv_at hl 1 rfl) ?_
  refine lv_iload_n hx hb d_Row_addNumber_8 rfl (lv_at hl 2 rfl) ?_
  refine lv_iload_n hx hb d_Row_addNumber_9 rfl (lv_at hl 0 rfl) ?_
  refine lv_iushr (v := ((x : Int32).toUInt32 >>> ((24 : Int32).toUInt32 &&& Int32.toUInt32 31)).toInt32) hx hb d_Row_addNumber_10 rfl ?_
  refine lv_sipush (v := 255) hx hb d_Row_addNumber_11 (by decide) ?_
  refine lv_iand hx hb d_Row_addNumber_14 ?_
  refine kb_v (wc := [kb_o h 1 [.ref a, .int (nI n)], kb_a G a N f]) (wr := []) hE hP hD hS [0, 1] [] rfl rfl (by decide) (by decide) (kb_rV (As := [.int ((((x : Int32).toUInt32 >>> ((24 : Int32).toUInt32 &&& Int32.toUInt32 31)).toInt32) &&& 255)]) (rest := []) (wc := [kb_o h 1 [.ref a, .int (nI n)], kb_a G a N f]) (q0 := 0) ⟨hx, hb, hml, hown, ht⟩ ((c_Row_add_w l G h a n N f ((((x : Int32).toUInt32 >>> ((24 : Int32).toUInt32 &&& Int32.toUInt32 31)).toInt32) &&& 255) (by omega) (by omega)) _) (kb_gV wd_b959c18a wd_d7a504c3 wd_55347eca wd_4182e433 wd_0d22954f) ⟨rfl, hd_d22f4174⟩ ⟨(Nat.le_of_ble_eq_true rfl), (Nat.le_of_ble_eq_true rfl)⟩ hE hP hD hS [0, 1] rfl (by decide) rfl rfl rfl hl.1 rfl (Nat.le_of_ble_eq_true rfl) d_Row_addNumber_15 ⟨(Nat.le_of_ble_eq_true rfl), (Nat.le_of_ble_eq_true rfl)⟩) (fun uu1 H locs hw hP hD hS => ?_)
  have hP : va_P G.1 kb_cl [kb_o h 1 [.ref a, .int (nI (n + 1))], kb_a G a N (uu1.2 0)] H := hP
  have hD : va_D A [kb_o h 1 [.ref a, .int (nI (n + 1))], kb_a G a N (uu1.2 0)] := hD
  refine lv_iinc (v := 16) (lv' := [(2, .int 16), (0, .ref h), (1, .int x)]) hx hb d_Row_addNumber_18 hl (k := 0) rfl (by decide) (by decide) rfl (fun ls hl => ?_)
  refine lv_goto (tgt := 3) hx hb d_Row_addNumber_21 (by decide) ?_
  refine lv_iload_n hx hb d_Row_addNumber_3 rfl (lv_at hl 0 rfl) ?_
  refine lv_if_lt (tgt := 24) hx hb d_Row_addNumber_4 (by decide) (fun c9 => absurd c9 (by decide)) (fun c9 => ?_)
  refine lv_aload_n hx hb d_Row_addNumber_7 rfl (lv_at hl 1 rfl) ?_
  refine lv_iload_n hx hb d_Row_addNumber_8 rfl (lv_at hl 2 rfl) ?_
  refine lv_iload_n hx hb d_Row_addNumber_9 rfl (lv_at hl 0 rfl) ?_
  refine lv_iushr (v := ((x : Int32).toUInt32 >>> ((16 : Int32).toUInt32 &&& Int32.toUInt32 31)).toInt32) hx hb d_Row_addNumber_10 rfl ?_
  refine lv_sipush (v := 255) hx hb d_Row_addNumber_11 (by decide) ?_
  refine lv_iand hx hb d_Row_addNumber_14 ?_
  refine kb_v (wc := [kb_o h 1 [.ref a, .int (nI (n + 1))], kb_a G a N (uu1.2 0)]) (wr := []) hE hP hD hS [0, 1] [] rfl rfl (by decide) (by decide) (kb_rV (As := [.int ((((x : Int32).toUInt32 >>> ((16 : Int32).toUInt32 &&& Int32.toUInt32 31)).toInt32) &&& 255)]) (rest := []) (wc := [kb_o h 1 [.ref a, .int (nI (n + 1))], kb_a G a N (uu1.2 0)]) (q0 := 0) ⟨hx, hb, hml, hown, ht⟩ ((c_Row_add_w l G h a (n + 1) N (uu1.2 0) ((((x : Int32).toUInt32 >>> ((16 : Int32).toUInt32 &&& Int32.toUInt32 31)).toInt32) &&& 255) (by omega) (by omega)) _) (kb_gV wd_b959c18a wd_d7a504c3 wd_55347eca wd_4182e433 wd_0d22954f) ⟨rfl, hd_d22f4174⟩ ⟨(Nat.le_of_ble_eq_true rfl), (Nat.le_of_ble_eq_true rfl)⟩ hE hP hD hS [0, 1] rfl (by decide) rfl rfl rfl hl.1 rfl (Nat.le_of_ble_eq_true rfl) d_Row_addNumber_15 ⟨(Nat.le_of_ble_eq_true rfl), (Nat.le_of_ble_eq_true rfl)⟩) (fun uu3 H locs hw hP hD hS => ?_)
  have hP : va_P G.1 kb_cl [kb_o h 1 [.ref a, .int (nI ((n + 1) + 1))], kb_a G a N (uu3.2 0)] H := hP
  have hD : va_D A [kb_o h 1 [.ref a, .int (nI ((n + 1) + 1))], kb_a G a N (uu3.2 0)] := hD
  refine lv_iinc (v := 8) (lv' := [(2, .int 8), (0, .ref h), (1, .int x)]) hx hb d_Row_addNumber_18 hl (k := 0) rfl (by decide) (by decide) rfl (fun ls hl => ?_)
  refine lv_goto (tgt := 3) hx hb d_Row_addNumber_21 (by decide) ?_
  refine lv_iload_n hx hb d_Row_addNumber_3 rfl (lv_at hl 0 rfl) ?_
  refine lv_if_lt (tgt := 24) hx hb d_Row_addNumber_4 (by decide) (fun c9 => absurd c9 (by decide)) (fun c9 => ?_)
  refine lv_aload_n hx hb d_Row_addNumber_7 rfl (lv_at hl 1 rfl) ?_
  refine lv_iload_n hx hb d_Row_addNumber_8 rfl (lv_at hl 2 rfl) ?_
  refine lv_iload_n hx hb d_Row_addNumber_9 rfl (lv_at hl 0 rfl) ?_
  refine lv_iushr (v := ((x : Int32).toUInt32 >>> ((8 : Int32).toUInt32 &&& Int32.toUInt32 31)).toInt32) hx hb d_Row_addNumber_10 rfl ?_
  refine lv_sipush (v := 255) hx hb d_Row_addNumber_11 (by decide) ?_
  refine lv_iand hx hb d_Row_addNumber_14 ?_
  refine kb_v (wc := [kb_o h 1 [.ref a, .int (nI ((n + 1) + 1))], kb_a G a N (uu3.2 0)]) (wr := []) hE hP hD hS [0, 1] [] rfl rfl (by decide) (by decide) (kb_rV (As := [.int ((((x : Int32).toUInt32 >>> ((8 : Int32).toUInt32 &&& Int32.toUInt32 31)).toInt32) &&& 255)]) (rest := []) (wc := [kb_o h 1 [.ref a, .int (nI ((n + 1) + 1))], kb_a G a N (uu3.2 0)]) (q0 := 0) ⟨hx, hb, hml, hown, ht⟩ ((c_Row_add_w l G h a ((n + 1) + 1) N (uu3.2 0) ((((x : Int32).toUInt32 >>> ((8 : Int32).toUInt32 &&& Int32.toUInt32 31)).toInt32) &&& 255) (by omega) (by omega)) _) (kb_gV wd_b959c18a wd_d7a504c3 wd_55347eca wd_4182e433 wd_0d22954f) ⟨rfl, hd_d22f4174⟩ ⟨(Nat.le_of_ble_eq_true rfl), (Nat.le_of_ble_eq_true rfl)⟩ hE hP hD hS [0, 1] rfl (by decide) rfl rfl rfl hl.1 rfl (Nat.le_of_ble_eq_true rfl) d_Row_addNumber_15 ⟨(Nat.le_of_ble_eq_true rfl), (Nat.le_of_ble_eq_true rfl)⟩) (fun uu5 H locs hw hP hD hS => ?_)
  have hP : va_P G.1 kb_cl [kb_o h 1 [.ref a, .int (nI (((n + 1) + 1) + 1))], kb_a G a N (uu5.2 0)] H := hP
  have hD : va_D A [kb_o h 1 [.ref a, .int (nI (((n + 1) + 1) + 1))], kb_a G a N (uu5.2 0)] := hD
  refine lv_iinc (v := 0) (lv' := [(2, .int 0), (0, .ref h), (1, .int x)]) hx hb d_Row_addNumber_18 hl (k := 0) rfl (by decide) (by decide) rfl (fun ls hl => ?_)
  refine lv_goto (tgt := 3) hx hb d_Row_addNumber_21 (by decide) ?_
  refine lv_iload_n hx hb d_Row_addNumber_3 rfl (lv_at hl 0 rfl) ?_
  refine lv_if_lt (tgt := 24) hx hb d_Row_addNumber_4 (by decide) (fun c9 => absurd c9 (by decide)) (fun c9 => ?_)
  refine lv_aload_n hx hb d_Row_addNumber_7 rfl (lv_at hl 1 rfl) ?_
  refine lv_iload_n hx hb d_Row_addNumber_8 rfl (lv_at hl 2 rfl) ?_
  refine lv_iload_n hx hb d_Row_addNumber_9 rfl (lv_at hl 0 rfl) ?_
  refine lv_iushr (v := ((x : Int32).toUInt32 >>> ((0 : Int32).toUInt32 &&& Int32.toUInt32 31)).toInt32) hx hb d_Row_addNumber_10 rfl ?_
  refine lv_sipush (v := 255) hx hb d_Row_addNumber_11 (by decide) ?_
  refine lv_iand hx hb d_Row_addNumber_14 ?_
  refine kb_v (wc := [kb_o h 1 [.ref a, .int (nI (((n + 1) + 1) + 1))], kb_a G a N (uu5.2 0)]) (wr := []) hE hP hD hS [0, 1] [] rfl rfl (by decide) (by decide) (kb_rV (As := [.int ((((x : Int32).toUInt32 >>> ((0 : Int32).toUInt32 &&& Int32.toUInt32 31)).toInt32) &&& 255)]) (rest := []) (wc := [kb_o h 1 [.ref a, .int (nI (((n + 1) + 1) + 1))], kb_a G a N (uu5.2 0)]) (q0 := 0) ⟨hx, hb, hml, hown, ht⟩ ((c_Row_add_w l G h a (((n + 1) + 1) + 1) N (uu5.2 0) ((((x : Int32).toUInt32 >>> ((0 : Int32).toUInt32 &&& Int32.toUInt32 31)).toInt32) &&& 255) (by omega) (by omega)) _) (kb_gV wd_b959c18a wd_d7a504c3 wd_55347eca wd_4182e433 wd_0d22954f) ⟨rfl, hd_d22f4174⟩ ⟨(Nat.le_of_ble_eq_true rfl), (Nat.le_of_ble_eq_true rfl)⟩ hE hP hD hS [0, 1] rfl (by decide) rfl rfl rfl hl.1 rfl (Nat.le_of_ble_eq_true rfl) d_Row_addNumber_15 ⟨(Nat.le_of_ble_eq_true rfl), (Nat.le_of_ble_eq_true rfl)⟩) (fun uu7 H locs hw hP hD hS => ?_)
  have hP : va_P G.1 kb_cl [kb_o h 1 [.ref a, .int (nI ((((n + 1) + 1) + 1) + 1))], kb_a G a N (uu7.2 0)] H := hP
  have hD : va_D A [kb_o h 1 [.ref a, .int (nI ((((n + 1) + 1) + 1) + 1))], kb_a G a N (uu7.2 0)] := hD
  refine lv_iinc (v := (-8)) (lv' := [(2, .int (-8)), (0, .ref h), (1, .int x)]) hx hb d_Row_addNumber_18 hl (k := 0) rfl (by decide) (by decide) rfl (fun ls hl => ?_)
  refine lv_goto (tgt := 3) hx hb d_Row_addNumber_21 (by decide) ?_
  refine lv_iload_n hx hb d_Row_addNumber_3 rfl (lv_at hl 0 rfl) ?_
  refine lv_if_lt (tgt := 24) hx hb d_Row_addNumber_4 (by decide) (fun c9 => ?_) (fun c9 => absurd (by decide) c9)
  exact kb_retv (kb_l [], kb_f [uu7.2 0]) hx hb hr hlocks hE hP hD hS [0, 1] rfl (by decide) rfl trivial (Nat.le_of_ble_eq_true rfl) (Nat.le_of_ble_eq_true rfl) d_Row_addNumber_24

set_option maxHeartbeats 4000000 in
set_option maxRecDepth 100000 in
theorem c_Row_addNumber_g16 (l : Launch) (G : kb_G) (h : Nat) (a : Nat) (f : Nat → Int32) (x : Int32) : kb_cv l G ⟨"TreePress$Row", "addNumber", "(I)V"⟩ prog_3_method_8_code 3 4 1 32 [.ref h, .int x] [kb_o h 1 [.ref a, .int 16], kb_a G a 16 f] (fun u => True) (fun u => [kb_o h 1 [.ref (u.1 0), .int 20], kb_a G (u.1 0) 32 (u.2 0)]) := by
  intro sz
  refine kb_body (QQ := fun A => kb_Qv G A (fun u => True) (fun u => [kb_o h 1 [.ref (u.1 0), .int 20], kb_a G (u.1 0) 32 (u.2 0)])) (by decide) (Nat.le_of_ble_eq_true rfl) ?_
  intro p e s m below meth c A B ls hl
  obtain ⟨hx, hb, hr, hml, hlocks, hin, hown, ht, hE, hP, hD, hS⟩ := B
  have hl : lv_has ls 3 [(0, .ref h), (1, .int x)] := hl
  have hP0 := hP
  obtain ⟨H, hHe⟩ : ∃ H, H = s.heap := ⟨_, rfl⟩
  rw [← hHe] at hP
  have hS : va_S A s.heap H [] := by rw [hHe]; exact hS
  refine kb_at hHe ?_
  clear hHe
  refine lv_bipush (v := 24) hx hb d_Row_addNumber_0 (by decide) ?_
  refine lv_istore_n (lv' := [(2, .int 24), (0, .ref h), (1, .int x)]) hx hb d_Row_addNumber_2 rfl hl (by decide) rfl (fun ls hl => ?_)
  refine lv_iload_n hx hb d_Row_addNumber_3 rfl (lv_at hl 0 rfl) ?_
  refine lv_if_lt (tgt := 24) hx hb d_Row_addNumber_4 (by decide) (fun c9 => absurd c9 (by decide)) (fun c9 => ?_)
  refine lv_aload_n hx hb d_Row_addNumber_7 rfl (lv_at hl 1 rfl) ?_
  refine lv_iload_n hx hb d_Row_addNumber_8 rfl (lv_at hl 2 rfl) ?_
  refine lv_iload_n hx hb d_Row_addNumber_9 rfl (lv_at hl 0 rfl) ?_
  refine lv_iushr (v := ((x : Int32).toUInt32 >>> ((24 : Int32).toUInt32 &&& Int32.toUInt32 31)).toInt32) hx hb d_Row_addNumber_10 rfl ?_
  refine lv_sipush (v := 255) hx hb d_Row_addNumber_11 (by decide) ?_
  refine lv_iand hx hb d_Row_addNumber_14 ?_
  refine kb_v (wc := [kb_o h 1 [.ref a, .int 16], kb_a G a 16 f]) (wr := []) hE hP hD hS [0, 1] [] rfl rfl (by decide) (by decide) (kb_rV (As := [.int ((((x : Int32).toUInt32 >>> ((24 : Int32).toUInt32 &&& Int32.toUInt32 31)).toInt32) &&& 255)]) (rest := []) (wc := [kb_o h 1 [.ref a, .int 16], kb_a G a 16 f]) (q0 := 0) ⟨hx, hb, hml, hown, ht⟩ ((c_Row_add_g16 l G h a f ((((x : Int32).toUInt32 >>> ((24 : Int32).toUInt32 &&& Int32.toUInt32 31)).toInt32) &&& 255)) _) (kb_gV wd_b959c18a wd_d7a504c3 wd_55347eca wd_4182e433 wd_0d22954f) ⟨rfl, hd_d22f4174⟩ ⟨(Nat.le_of_ble_eq_true rfl), (Nat.le_of_ble_eq_true rfl)⟩ hE hP hD hS [0, 1] rfl (by decide) rfl rfl rfl hl.1 rfl (Nat.le_of_ble_eq_true rfl) d_Row_addNumber_15 ⟨(Nat.le_of_ble_eq_true rfl), (Nat.le_of_ble_eq_true rfl)⟩) (fun uu1 H locs hw hP hD hS => ?_)
  have hP : va_P G.1 kb_cl [kb_o h 1 [.ref (uu1.1 0), .int 17], kb_a G (uu1.1 0) 32 (upd (uu1.2 0) 16 ((((x : Int32).toUInt32 >>> ((24 : Int32).toUInt32 &&& Int32.toUInt32 31)).toInt32) &&& 255))] H := hP
  have hD : va_D A [kb_o h 1 [.ref (uu1.1 0), .int 17], kb_a G (uu1.1 0) 32 (upd (uu1.2 0) 16 ((((x : Int32).toUInt32 >>> ((24 : Int32).toUInt32 &&& Int32.toUInt32 31)).toInt32) &&& 255))] := hD
  refine lv_iinc (v := 16) (lv' := [(2, .int 16), (0, .ref h), (1, .int x)]) hx hb d_Row_addNumber_18 hl (k := 0) rfl (by decide) (by decide) rfl (fun ls hl => ?_)
  refine lv_goto (tgt := 3) hx hb d_Row_addNumber_21 (by decide) ?_
  refine lv_iload_n hx hb d_Row_addNumber_3 rfl (lv_at hl 0 rfl) ?_
  refine lv_if_lt (tgt := 24) hx hb d_Row_addNumber_4 (by decide) (fun c9 => absurd c9 (by decide)) (fun c9 => ?_)
  refine lv_aload_n hx hb d_Row_addNumber_7 rfl (lv_at hl 1 rfl) ?_
  refine lv_iload_n hx hb d_Row_addNumber_8 rfl (lv_at hl 2 rfl) ?_
  refine lv_iload_n hx hb d_Row_addNumber_9 rfl (lv_at hl 0 rfl) ?_
  refine lv_iushr (v := ((x : Int32).toUInt32 >>> ((16 : Int32).toUInt32 &&& Int32.toUInt32 31)).toInt32) hx hb d_Row_addNumber_10 rfl ?_
  refine lv_sipush (v := 255) hx hb d_Row_addNumber_11 (by decide) ?_
  refine lv_iand hx hb d_Row_addNumber_14 ?_
  refine kb_v (wc := [kb_o h 1 [.ref (uu1.1 0), .int 17], kb_a G (uu1.1 0) 32 (upd (uu1.2 0) 16 ((((x : Int32).toUInt32 >>> ((24 : Int32).toUInt32 &&& Int32.toUInt32 31)).toInt32) &&& 255))]) (wr := []) hE hP hD hS [0, 1] [] rfl rfl (by decide) (by decide) (kb_rV (As := [.int ((((x : Int32).toUInt32 >>> ((16 : Int32).toUInt32 &&& Int32.toUInt32 31)).toInt32) &&& 255)]) (rest := []) (wc := [kb_o h 1 [.ref (uu1.1 0), .int 17], kb_a G (uu1.1 0) 32 (upd (uu1.2 0) 16 ((((x : Int32).toUInt32 >>> ((24 : Int32).toUInt32 &&& Int32.toUInt32 31)).toInt32) &&& 255))]) (q0 := 0) ⟨hx, hb, hml, hown, ht⟩ ((c_Row_add_w l G h (uu1.1 0) 17 32 (upd (uu1.2 0) 16 ((((x : Int32).toUInt32 >>> ((24 : Int32).toUInt32 &&& Int32.toUInt32 31)).toInt32) &&& 255)) ((((x : Int32).toUInt32 >>> ((16 : Int32).toUInt32 &&& Int32.toUInt32 31)).toInt32) &&& 255) (by omega) (by omega)) _) (kb_gV wd_b959c18a wd_d7a504c3 wd_55347eca wd_4182e433 wd_0d22954f) ⟨rfl, hd_d22f4174⟩ ⟨(Nat.le_of_ble_eq_true rfl), (Nat.le_of_ble_eq_true rfl)⟩ hE hP hD hS [0, 1] rfl (by decide) rfl rfl rfl hl.1 rfl (Nat.le_of_ble_eq_true rfl) d_Row_addNumber_15 ⟨(Nat.le_of_ble_eq_true rfl), (Nat.le_of_ble_eq_true rfl)⟩) (fun uu3 H locs hw hP hD hS => ?_)
  have hP : va_P G.1 kb_cl [kb_o h 1 [.ref (uu1.1 0), .int 18], kb_a G (uu1.1 0) 32 (uu3.2 0)] H := hP
  have hD : va_D A [kb_o h 1 [.ref (uu1.1 0), .int 18], kb_a G (uu1.1 0) 32 (uu3.2 0)] := hD
  refine lv_iinc (v := 8) (lv' := [(2, .int 8), (0, .ref h), (1, .int x)]) hx hb d_Row_addNumber_18 hl (k := 0) rfl (by decide) (by decide) rfl (fun ls hl => ?_)
  refine lv_goto (tgt := 3) hx hb d_Row_addNumber_21 (by decide) ?_
  refine lv_iload_n hx hb d_Row_addNumber_3 rfl (lv_at hl 0 rfl) ?_
  refine lv_if_lt (tgt := 24) hx hb d_Row_addNumber_4 (by decide) (fun c9 => absurd c9 (by decide)) (fun c9 => ?_)
  refine lv_aload_n hx hb d_Row_addNumber_7 rfl (lv_at hl 1 rfl) ?_
  refine lv_iload_n hx hb d_Row_addNumber_8 rfl (lv_at hl 2 rfl) ?_
  refine lv_iload_n hx hb d_Row_addNumber_9 rfl (lv_at hl 0 rfl) ?_
  refine lv_iushr (v := ((x : Int32).toUInt32 >>> ((8 : Int32).toUInt32 &&& Int32.toUInt32 31)).toInt32) hx hb d_Row_addNumber_10 rfl ?_
  refine lv_sipush (v := 255) hx hb d_Row_addNumber_11 (by decide) ?_
  refine lv_iand hx hb d_Row_addNumber_14 ?_
  refine kb_v (wc := [kb_o h 1 [.ref (uu1.1 0), .int 18], kb_a G (uu1.1 0) 32 (uu3.2 0)]) (wr := []) hE hP hD hS [0, 1] [] rfl rfl (by decide) (by decide) (kb_rV (As := [.int ((((x : Int32).toUInt32 >>> ((8 : Int32).toUInt32 &&& Int32.toUInt32 31)).toInt32) &&& 255)]) (rest := []) (wc := [kb_o h 1 [.ref (uu1.1 0), .int 18], kb_a G (uu1.1 0) 32 (uu3.2 0)]) (q0 := 0) ⟨hx, hb, hml, hown, ht⟩ ((c_Row_add_w l G h (uu1.1 0) 18 32 (uu3.2 0) ((((x : Int32).toUInt32 >>> ((8 : Int32).toUInt32 &&& Int32.toUInt32 31)).toInt32) &&& 255) (by omega) (by omega)) _) (kb_gV wd_b959c18a wd_d7a504c3 wd_55347eca wd_4182e433 wd_0d22954f) ⟨rfl, hd_d22f4174⟩ ⟨(Nat.le_of_ble_eq_true rfl), (Nat.le_of_ble_eq_true rfl)⟩ hE hP hD hS [0, 1] rfl (by decide) rfl rfl rfl hl.1 rfl (Nat.le_of_ble_eq_true rfl) d_Row_addNumber_15 ⟨(Nat.le_of_ble_eq_true rfl), (Nat.le_of_ble_eq_true rfl)⟩) (fun uu5 H locs hw hP hD hS => ?_)
  have hP : va_P G.1 kb_cl [kb_o h 1 [.ref (uu1.1 0), .int 19], kb_a G (uu1.1 0) 32 (uu5.2 0)] H := hP
  have hD : va_D A [kb_o h 1 [.ref (uu1.1 0), .int 19], kb_a G (uu1.1 0) 32 (uu5.2 0)] := hD
  refine lv_iinc (v := 0) (lv' := [(2, .int 0), (0, .ref h), (1, .int x)]) hx hb d_Row_addNumber_18 hl (k := 0) rfl (by decide) (by decide) rfl (fun ls hl => ?_)
  refine lv_goto (tgt := 3) hx hb d_Row_addNumber_21 (by decide) ?_
  refine lv_iload_n hx hb d_Row_addNumber_3 rfl (lv_at hl 0 rfl) ?_
  refine lv_if_lt (tgt := 24) hx hb d_Row_addNumber_4 (by decide) (fun c9 => absurd c9 (by decide)) (fun c9 => ?_)
  refine lv_aload_n hx hb d_Row_addNumber_7 rfl (lv_at hl 1 rfl) ?_
  refine lv_iload_n hx hb d_Row_addNumber_8 rfl (lv_at hl 2 rfl) ?_
  refine lv_iload_n hx hb d_Row_addNumber_9 rfl (lv_at hl 0 rfl) ?_
  refine lv_iushr (v := ((x : Int32).toUInt32 >>> ((0 : Int32).toUInt32 &&& Int32.toUInt32 31)).toInt32) hx hb d_Row_addNumber_10 rfl ?_
  refine lv_sipush (v := 255) hx hb d_Row_addNumber_11 (by decide) ?_
  refine lv_iand hx hb d_Row_addNumber_14 ?_
  refine kb_v (wc := [kb_o h 1 [.ref (uu1.1 0), .int 19], kb_a G (uu1.1 0) 32 (uu5.2 0)]) (wr := []) hE hP hD hS [0, 1] [] rfl rfl (by decide) (by decide) (kb_rV (As := [.int ((((x : Int32).toUInt32 >>> ((0 : Int32).toUInt32 &&& Int32.toUInt32 31)).toInt32) &&& 255)]) (rest := []) (wc := [kb_o h 1 [.ref (uu1.1 0), .int 19], kb_a G (uu1.1 0) 32 (uu5.2 0)]) (q0 := 0) ⟨hx, hb, hml, hown, ht⟩ ((c_Row_add_w l G h (uu1.1 0) 19 32 (uu5.2 0) ((((x : Int32).toUInt32 >>> ((0 : Int32).toUInt32 &&& Int32.toUInt32 31)).toInt32) &&& 255) (by omega) (by omega)) _) (kb_gV wd_b959c18a wd_d7a504c3 wd_55347eca wd_4182e433 wd_0d22954f) ⟨rfl, hd_d22f4174⟩ ⟨(Nat.le_of_ble_eq_true rfl), (Nat.le_of_ble_eq_true rfl)⟩ hE hP hD hS [0, 1] rfl (by decide) rfl rfl rfl hl.1 rfl (Nat.le_of_ble_eq_true rfl) d_Row_addNumber_15 ⟨(Nat.le_of_ble_eq_true rfl), (Nat.le_of_ble_eq_true rfl)⟩) (fun uu7 H locs hw hP hD hS => ?_)
  have hP : va_P G.1 kb_cl [kb_o h 1 [.ref (uu1.1 0), .int 20], kb_a G (uu1.1 0) 32 (uu7.2 0)] H := hP
  have hD : va_D A [kb_o h 1 [.ref (uu1.1 0), .int 20], kb_a G (uu1.1 0) 32 (uu7.2 0)] := hD
  refine lv_iinc (v := (-8)) (lv' := [(2, .int (-8)), (0, .ref h), (1, .int x)]) hx hb d_Row_addNumber_18 hl (k := 0) rfl (by decide) (by decide) rfl (fun ls hl => ?_)
  refine lv_goto (tgt := 3) hx hb d_Row_addNumber_21 (by decide) ?_
  refine lv_iload_n hx hb d_Row_addNumber_3 rfl (lv_at hl 0 rfl) ?_
  refine lv_if_lt (tgt := 24) hx hb d_Row_addNumber_4 (by decide) (fun c9 => ?_) (fun c9 => absurd (by decide) c9)
  exact kb_retv (kb_l [uu1.1 0], kb_f [uu7.2 0]) hx hb hr hlocks hE hP hD hS [0, 1] rfl (by decide) rfl trivial (Nat.le_of_ble_eq_true rfl) (Nat.le_of_ble_eq_true rfl) d_Row_addNumber_24

set_option maxHeartbeats 4000000 in
set_option maxRecDepth 100000 in
theorem c_Row_addNumber_g64 (l : Launch) (G : kb_G) (h : Nat) (a : Nat) (f : Nat → Int32) (x : Int32) : kb_cv l G ⟨"TreePress$Row", "addNumber", "(I)V"⟩ prog_3_method_8_code 3 4 1 128 [.ref h, .int x] [kb_o h 1 [.ref a, .int 64], kb_a G a 64 f] (fun u => True) (fun u => [kb_o h 1 [.ref (u.1 0), .int 68], kb_a G (u.1 0) 128 (u.2 0)]) := by
  intro sz
  refine kb_body (QQ := fun A => kb_Qv G A (fun u => True) (fun u => [kb_o h 1 [.ref (u.1 0), .int 68], kb_a G (u.1 0) 128 (u.2 0)])) (by decide) (Nat.le_of_ble_eq_true rfl) ?_
  intro p e s m below meth c A B ls hl
  obtain ⟨hx, hb, hr, hml, hlocks, hin, hown, ht, hE, hP, hD, hS⟩ := B
  have hl : lv_has ls 3 [(0, .ref h), (1, .int x)] := hl
  have hP0 := hP
  obtain ⟨H, hHe⟩ : ∃ H, H = s.heap := ⟨_, rfl⟩
  rw [← hHe] at hP
  have hS : va_S A s.heap H [] := by rw [hHe]; exact hS
  refine kb_at hHe ?_
  clear hHe
  refine lv_bipush (v := 24) hx hb d_Row_addNumber_0 (by decide) ?_
  refine lv_istore_n (lv' := [(2, .int 24), (0, .ref h), (1, .int x)]) hx hb d_Row_addNumber_2 rfl hl (by decide) rfl (fun ls hl => ?_)
  refine lv_iload_n hx hb d_Row_addNumber_3 rfl (lv_at hl 0 rfl) ?_
  refine lv_if_lt (tgt := 24) hx hb d_Row_addNumber_4 (by decide) (fun c9 => absurd c9 (by decide)) (fun c9 => ?_)
  refine lv_aload_n hx hb d_Row_addNumber_7 rfl (lv_at hl 1 rfl) ?_
  refine lv_iload_n hx hb d_Row_addNumber_8 rfl (lv_at hl 2 rfl) ?_
  refine lv_iload_n hx hb d_Row_addNumber_9 rfl (lv_at hl 0 rfl) ?_
  refine lv_iushr (v := ((x : Int32).toUInt32 >>> ((24 : Int32).toUInt32 &&& Int32.toUInt32 31)).toInt32) hx hb d_Row_addNumber_10 rfl ?_
  refine lv_sipush (v := 255) hx hb d_Row_addNumber_11 (by decide) ?_
  refine lv_iand hx hb d_Row_addNumber_14 ?_
  refine kb_v (wc := [kb_o h 1 [.ref a, .int 64], kb_a G a 64 f]) (wr := []) hE hP hD hS [0, 1] [] rfl rfl (by decide) (by decide) (kb_rV (As := [.int ((((x : Int32).toUInt32 >>> ((24 : Int32).toUInt32 &&& Int32.toUInt32 31)).toInt32) &&& 255)]) (rest := []) (wc := [kb_o h 1 [.ref a, .int 64], kb_a G a 64 f]) (q0 := 0) ⟨hx, hb, hml, hown, ht⟩ ((c_Row_add_g64 l G h a f ((((x : Int32).toUInt32 >>> ((24 : Int32).toUInt32 &&& Int32.toUInt32 31)).toInt32) &&& 255)) _) (kb_gV wd_b959c18a wd_d7a504c3 wd_55347eca wd_4182e433 wd_0d22954f) ⟨rfl, hd_d22f4174⟩ ⟨(Nat.le_of_ble_eq_true rfl), (Nat.le_of_ble_eq_true rfl)⟩ hE hP hD hS [0, 1] rfl (by decide) rfl rfl rfl hl.1 rfl (Nat.le_of_ble_eq_true rfl) d_Row_addNumber_15 ⟨(Nat.le_of_ble_eq_true rfl), (Nat.le_of_ble_eq_true rfl)⟩) (fun uu1 H locs hw hP hD hS => ?_)
  have hP : va_P G.1 kb_cl [kb_o h 1 [.ref (uu1.1 0), .int 65], kb_a G (uu1.1 0) 128 (upd (uu1.2 0) 64 ((((x : Int32).toUInt32 >>> ((24 : Int32).toUInt32 &&& Int32.toUInt32 31)).toInt32) &&& 255))] H := hP
  have hD : va_D A [kb_o h 1 [.ref (uu1.1 0), .int 65], kb_a G (uu1.1 0) 128 (upd (uu1.2 0) 64 ((((x : Int32).toUInt32 >>> ((24 : Int32).toUInt32 &&& Int32.toUInt32 31)).toInt32) &&& 255))] := hD
  refine lv_iinc (v := 16) (lv' := [(2, .int 16), (0, .ref h), (1, .int x)]) hx hb d_Row_addNumber_18 hl (k := 0) rfl (by decide) (by decide) rfl (fun ls hl => ?_)
  refine lv_goto (tgt := 3) hx hb d_Row_addNumber_21 (by decide) ?_
  refine lv_iload_n hx hb d_Row_addNumber_3 rfl (lv_at hl 0 rfl) ?_
  refine lv_if_lt (tgt := 24) hx hb d_Row_addNumber_4 (by decide) (fun c9 => absurd c9 (by decide)) (fun c9 => ?_)
  refine lv_aload_n hx hb d_Row_addNumber_7 rfl (lv_at hl 1 rfl) ?_
  refine lv_iload_n hx hb d_Row_addNumber_8 rfl (lv_at hl 2 rfl) ?_
  refine lv_iload_n hx hb d_Row_addNumber_9 rfl (lv_at hl 0 rfl) ?_
  refine lv_iushr (v := ((x : Int32).toUInt32 >>> ((16 : Int32).toUInt32 &&& Int32.toUInt32 31)).toInt32) hx hb d_Row_addNumber_10 rfl ?_
  refine lv_sipush (v := 255) hx hb d_Row_addNumber_11 (by decide) ?_
  refine lv_iand hx hb d_Row_addNumber_14 ?_
  refine kb_v (wc := [kb_o h 1 [.ref (uu1.1 0), .int 65], kb_a G (uu1.1 0) 128 (upd (uu1.2 0) 64 ((((x : Int32).toUInt32 >>> ((24 : Int32).toUInt32 &&& Int32.toUInt32 31)).toInt32) &&& 255))]) (wr := []) hE hP hD hS [0, 1] [] rfl rfl (by decide) (by decide) (kb_rV (As := [.int ((((x : Int32).toUInt32 >>> ((16 : Int32).toUInt32 &&& Int32.toUInt32 31)).toInt32) &&& 255)]) (rest := []) (wc := [kb_o h 1 [.ref (uu1.1 0), .int 65], kb_a G (uu1.1 0) 128 (upd (uu1.2 0) 64 ((((x : Int32).toUInt32 >>> ((24 : Int32).toUInt32 &&& Int32.toUInt32 31)).toInt32) &&& 255))]) (q0 := 0) ⟨hx, hb, hml, hown, ht⟩ ((c_Row_add_w l G h (uu1.1 0) 65 128 (upd (uu1.2 0) 64 ((((x : Int32).toUInt32 >>> ((24 : Int32).toUInt32 &&& Int32.toUInt32 31)).toInt32) &&& 255)) ((((x : Int32).toUInt32 >>> ((16 : Int32).toUInt32 &&& Int32.toUInt32 31)).toInt32) &&& 255) (by omega) (by omega)) _) (kb_gV wd_b959c18a wd_d7a504c3 wd_55347eca wd_4182e433 wd_0d22954f) ⟨rfl, hd_d22f4174⟩ ⟨(Nat.le_of_ble_eq_true rfl), (Nat.le_of_ble_eq_true rfl)⟩ hE hP hD hS [0, 1] rfl (by decide) rfl rfl rfl hl.1 rfl (Nat.le_of_ble_eq_true rfl) d_Row_addNumber_15 ⟨(Nat.le_of_ble_eq_true rfl), (Nat.le_of_ble_eq_true rfl)⟩) (fun uu3 H locs hw hP hD hS => ?_)
  have hP : va_P G.1 kb_cl [kb_o h 1 [.ref (uu1.1 0), .int 66], kb_a G (uu1.1 0) 128 (uu3.2 0)] H := hP
  have hD : va_D A [kb_o h 1 [.ref (uu1.1 0), .int 66], kb_a G (uu1.1 0) 128 (uu3.2 0)] := hD
  refine lv_iinc (v := 8) (lv' := [(2, .int 8), (0, .ref h), (1, .int x)]) hx hb d_Row_addNumber_18 hl (k := 0) rfl (by decide) (by decide) rfl (fun ls hl => ?_)
  refine lv_goto (tgt := 3) hx hb d_Row_addNumber_21 (by decide) ?_
  refine lv_iload_n hx hb d_Row_addNumber_3 rfl (lv_at hl 0 rfl) ?_
  refine lv_if_lt (tgt := 24) hx hb d_Row_addNumber_4 (by decide) (fun c9 => absurd c9 (by decide)) (fun c9 => ?_)
  refine lv_aload_n hx hb d_Row_addNumber_7 rfl (lv_at hl 1 rfl) ?_
  refine lv_iload_n hx hb d_Row_addNumber_8 rfl (lv_at hl 2 rfl) ?_
  refine lv_iload_n hx hb d_Row_addNumber_9 rfl (lv_at hl 0 rfl) ?_
  refine lv_iushr (v := ((x : Int32).toUInt32 >>> ((8 : Int32).toUInt32 &&& Int32.toUInt32 31)).toInt32) hx hb d_Row_addNumber_10 rfl ?_
  refine lv_sipush (v := 255) hx hb d_Row_addNumber_11 (by decide) ?_
  refine lv_iand hx hb d_Row_addNumber_14 ?_
  refine kb_v (wc := [kb_o h 1 [.ref (uu1.1 0), .int 66], kb_a G (uu1.1 0) 128 (uu3.2 0)]) (wr := []) hE hP hD hS [0, 1] [] rfl rfl (by decide) (by decide) (kb_rV (As := [.int ((((x : Int32).toUInt32 >>> ((8 : Int32).toUInt32 &&& Int32.toUInt32 31)).toInt32) &&& 255)]) (rest := []) (wc := [kb_o h 1 [.ref (uu1.1 0), .int 66], kb_a G (uu1.1 0) 128 (uu3.2 0)]) (q0 := 0) ⟨hx, hb, hml, hown, ht⟩ ((c_Row_add_w l G h (uu1.1 0) 66 128 (uu3.2 0) ((((x : Int32).toUInt32 >>> ((8 : Int32).toUInt32 &&& Int32.toUInt32 31)).toInt32) &&& 255) (by omega) (by omega)) _) (kb_gV wd_b959c18a wd_d7a504c3 wd_55347eca wd_4182e433 wd_0d22954f) ⟨rfl, hd_d22f4174⟩ ⟨(Nat.le_of_ble_eq_true rfl), (Nat.le_of_ble_eq_true rfl)⟩ hE hP hD hS [0, 1] rfl (by decide) rfl rfl rfl hl.1 rfl (Nat.le_of_ble_eq_true rfl) d_Row_addNumber_15 ⟨(Nat.le_of_ble_eq_true rfl), (Nat.le_of_ble_eq_true rfl)⟩) (fun uu5 H locs hw hP hD hS => ?_)
  have hP : va_P G.1 kb_cl [kb_o h 1 [.ref (uu1.1 0), .int 67], kb_a G (uu1.1 0) 128 (uu5.2 0)] H := hP
  have hD : va_D A [kb_o h 1 [.ref (uu1.1 0), .int 67], kb_a G (uu1.1 0) 128 (uu5.2 0)] := hD
  refine lv_iinc (v := 0) (lv' := [(2, .int 0), (0, .ref h), (1, .int x)]) hx hb d_Row_addNumber_18 hl (k := 0) rfl (by decide) (by decide) rfl (fun ls hl => ?_)
  refine lv_goto (tgt := 3) hx hb d_Row_addNumber_21 (by decide) ?_
  refine lv_iload_n hx hb d_Row_addNumber_3 rfl (lv_at hl 0 rfl) ?_
  refine lv_if_lt (tgt := 24) hx hb d_Row_addNumber_4 (by decide) (fun c9 => absurd c9 (by decide)) (fun c9 => ?_)
  refine lv_aload_n hx hb d_Row_addNumber_7 rfl (lv_at hl 1 rfl) ?_
  refine lv_iload_n hx hb d_Row_addNumber_8 rfl (lv_at hl 2 rfl) ?_
  refine lv_iload_n hx hb d_Row_addNumber_9 rfl (lv_at hl 0 rfl) ?_
  refine lv_iushr (v := ((x : Int32).toUInt32 >>> ((0 : Int32).toUInt32 &&& Int32.toUInt32 31)).toInt32) hx hb d_Row_addNumber_10 rfl ?_
  refine lv_sipush (v := 255) hx hb d_Row_addNumber_11 (by decide) ?_
  refine lv_iand hx hb d_Row_addNumber_14 ?_
  refine kb_v (wc := [kb_o h 1 [.ref (uu1.1 0), .int 67], kb_a G (uu1.1 0) 128 (uu5.2 0)]) (wr := []) hE hP hD hS [0, 1] [] rfl rfl (by decide) (by decide) (kb_rV (As := [.int ((((x : Int32).toUInt32 >>> ((0 : Int32).toUInt32 &&& Int32.toUInt32 31)).toInt32) &&& 255)]) (rest := []) (wc := [kb_o h 1 [.ref (uu1.1 0), .int 67], kb_a G (uu1.1 0) 128 (uu5.2 0)]) (q0 := 0) ⟨hx, hb, hml, hown, ht⟩ ((c_Row_add_w l G h (uu1.1 0) 67 128 (uu5.2 0) ((((x : Int32).toUInt32 >>> ((0 : Int32).toUInt32 &&& Int32.toUInt32 31)).toInt32) &&& 255) (by omega) (by omega)) _) (kb_gV wd_b959c18a wd_d7a504c3 wd_55347eca wd_4182e433 wd_0d22954f) ⟨rfl, hd_d22f4174⟩ ⟨(Nat.le_of_ble_eq_true rfl), (Nat.le_of_ble_eq_true rfl)⟩ hE hP hD hS [0, 1] rfl (by decide) rfl rfl rfl hl.1 rfl (Nat.le_of_ble_eq_true rfl) d_Row_addNumber_15 ⟨(Nat.le_of_ble_eq_true rfl), (Nat.le_of_ble_eq_true rfl)⟩) (fun uu7 H locs hw hP hD hS => ?_)
  have hP : va_P G.1 kb_cl [kb_o h 1 [.ref (uu1.1 0), .int 68], kb_a G (uu1.1 0) 128 (uu7.2 0)] H := hP
  have hD : va_D A [kb_o h 1 [.ref (uu1.1 0), .int 68], kb_a G (uu1.1 0) 128 (uu7.2 0)] := hD
  refine lv_iinc (v := (-8)) (lv' := [(2, .int (-8)), (0, .ref h), (1, .int x)]) hx hb d_Row_addNumber_18 hl (k := 0) rfl (by decide) (by decide) rfl (fun ls hl => ?_)
  refine lv_goto (tgt := 3) hx hb d_Row_addNumber_21 (by decide) ?_
  refine lv_iload_n hx hb d_Row_addNumber_3 rfl (lv_at hl 0 rfl) ?_
  refine lv_if_lt (tgt := 24) hx hb d_Row_addNumber_4 (by decide) (fun c9 => ?_) (fun c9 => absurd (by decide) c9)
  exact kb_retv (kb_l [uu1.1 0], kb_f [uu7.2 0]) hx hb hr hlocks hE hP hD hS [0, 1] rfl (by decide) rfl trivial (Nat.le_of_ble_eq_true rfl) (Nat.le_of_ble_eq_true rfl) d_Row_addNumber_24

set_option maxHeartbeats 4000000 in
set_option maxRecDepth 100000 in
theorem c_Row_addZeros_4 (l : Launch) (G : kb_G) (h : Nat) (a : Nat) (f : Nat → Int32) : kb_cv l G ⟨"TreePress$Row", "addZeros", "(I)V"⟩ prog_3_method_9_code 3 4 0 0 [.ref h, .int 4] [kb_o h 1 [.ref a, .int 60], kb_a G a 64 f] (fun u => True) (fun u => [kb_o h 1 [.ref a, .int 64], kb_a G a 64 (u.2 0)]) := by
  intro sz
  refine kb_body (QQ := fun A => kb_Qv G A (fun u => True) (fun u => [kb_o h 1 [.ref a, .int 64], kb_a G a 64 (u.2 0)])) (by decide) (Nat.le_of_ble_eq_true rfl) ?_
  intro p e s m below meth c A B ls hl
  obtain ⟨hx, hb, hr, hml, hlocks, hin, hown, ht, hE, hP, hD, hS⟩ := B
  have hl : lv_has ls 3 [(0, .ref h), (1, .int 4)] := hl
  have hP0 := hP
  obtain ⟨H, hHe⟩ : ∃ H, H = s.heap := ⟨_, rfl⟩
  rw [← hHe] at hP
  have hS : va_S A s.heap H [] := by rw [hHe]; exact hS
  refine kb_at hHe ?_
  clear hHe
  refine lv_iconst (v := 0) hx hb d_Row_addZeros_0 (by decide) ?_
  refine lv_istore_n (lv' := [(2, .int 0), (0, .ref h), (1, .int 4)]) hx hb d_Row_addZeros_1 rfl hl (by decide) rfl (fun ls hl => ?_)
  refine lv_iload_n hx hb d_Row_addZeros_2 rfl (lv_at hl 0 rfl) ?_
  refine lv_iload_n hx hb d_Row_addZeros_3 rfl (lv_at hl 2 rfl) ?_
  refine lv_icmp_ge (tgt := 18) hx hb d_Row_addZeros_4 (by decide) (fun c9 => absurd c9 (by decide)) (fun c9 => ?_)
  refine lv_aload_n hx hb d_Row_addZeros_7 rfl (lv_at hl 1 rfl) ?_
  refine lv_iconst (v := 0) hx hb d_Row_addZeros_8 (by decide) ?_
  refine kb_v (wc := [kb_o h 1 [.ref a, .int 60], kb_a G a 64 f]) (wr := []) hE hP hD hS [0, 1] [] rfl rfl (by decide) (by decide) (kb_rV (As := [.int 0]) (rest := []) (wc := [kb_o h 1 [.ref a, .int 60], kb_a G a 64 f]) (q0 := 0) ⟨hx, hb, hml, hown, ht⟩ ((c_Row_add_w l G h a 60 64 f 0 (by omega) (by omega)) _) (kb_gV wd_b959c18a wd_d7a504c3 wd_55347eca wd_4182e433 wd_0d22954f) ⟨rfl, hd_d22f4174⟩ ⟨(Nat.le_of_ble_eq_true rfl), (Nat.le_of_ble_eq_true rfl)⟩ hE hP hD hS [0, 1] rfl (by decide) rfl rfl rfl hl.1 rfl (Nat.le_of_ble_eq_true rfl) d_Row_addZeros_9 ⟨(Nat.le_of_ble_eq_true rfl), (Nat.le_of_ble_eq_true rfl)⟩) (fun uu1 H locs hw hP hD hS => ?_)
  have hP : va_P G.1 kb_cl [kb_o h 1 [.ref a, .int 61], kb_a G a 64 (uu1.2 0)] H := hP
  have hD : va_D A [kb_o h 1 [.ref a, .int 61], kb_a G a 64 (uu1.2 0)] := hD
  refine lv_iinc (v := 1) (lv' := [(2, .int 1), (0, .ref h), (1, .int 4)]) hx hb d_Row_addZeros_12 hl (k := 0) rfl (by decide) (by decide) rfl (fun ls hl => ?_)
  refine lv_goto (tgt := 2) hx hb d_Row_addZeros_15 (by decide) ?_
  refine lv_iload_n hx hb d_Row_addZeros_2 rfl (lv_at hl 0 rfl) ?_
  refine lv_iload_n hx hb d_Row_addZeros_3 rfl (lv_at hl 2 rfl) ?_
  refine lv_icmp_ge (tgt := 18) hx hb d_Row_addZeros_4 (by decide) (fun c9 => absurd c9 (by decide)) (fun c9 => ?_)
  refine lv_aload_n hx hb d_Row_addZeros_7 rfl (lv_at hl 1 rfl) ?_
  refine lv_iconst (v := 0) hx hb d_Row_addZeros_8 (by decide) ?_
  refine kb_v (wc := [kb_o h 1 [.ref a, .int 61], kb_a G a 64 (uu1.2 0)]) (wr := []) hE hP hD hS [0, 1] [] rfl rfl (by decide) (by decide) (kb_rV (As := [.int 0]) (rest := []) (wc := [kb_o h 1 [.ref a, .int 61], kb_a G a 64 (uu1.2 0)]) (q0 := 0) ⟨hx, hb, hml, hown, ht⟩ ((c_Row_add_w l G h a 61 64 (uu1.2 0) 0 (by omega) (by omega)) _) (kb_gV wd_b959c18a wd_d7a504c3 wd_55347eca wd_4182e433 wd_0d22954f) ⟨rfl, hd_d22f4174⟩ ⟨(Nat.le_of_ble_eq_true rfl), (Nat.le_of_ble_eq_true rfl)⟩ hE hP hD hS [0, 1] rfl (by decide) rfl rfl rfl hl.1 rfl (Nat.le_of_ble_eq_true rfl) d_Row_addZeros_9 ⟨(Nat.le_of_ble_eq_true rfl), (Nat.le_of_ble_eq_true rfl)⟩) (fun uu3 H locs hw hP hD hS => ?_)
  have hP : va_P G.1 kb_cl [kb_o h 1 [.ref a, .int 62], kb_a G a 64 (uu3.2 0)] H := hP
  have hD : va_D A [kb_o h 1 [.ref a, .int 62], kb_a G a 64 (uu3.2 0)] := hD
  refine lv_iinc (v := 2) (lv' := [(2, .int 2), (0, .ref h), (1, .int 4)]) hx hb d_Row_addZeros_12 hl (k := 0) rfl (by decide) (by decide) rfl (fun ls hl => ?_)
  refine lv_goto (tgt := 2) hx hb d_Row_addZeros_15 (by decide) ?_
  refine lv_iload_n hx hb d_Row_addZeros_2 rfl (lv_at hl 0 rfl) ?_
  refine lv_iload_n hx hb d_Row_addZeros_3 rfl (lv_at hl 2 rfl) ?_
  refine lv_icmp_ge (tgt := 18) hx hb d_Row_addZeros_4 (by decide) (fun c9 => absurd c9 (by decide)) (fun c9 => ?_)
  refine lv_aload_n hx hb d_Row_addZeros_7 rfl (lv_at hl 1 rfl) ?_
  refine lv_iconst (v := 0) hx hb d_Row_addZeros_8 (by decide) ?_
  refine kb_v (wc := [kb_o h 1 [.ref a, .int 62], kb_a G a 64 (uu3.2 0)]) (wr := []) hE hP hD hS [0, 1] [] rfl rfl (by decide) (by decide) (kb_rV (As := [.int 0]) (rest := []) (wc := [kb_o h 1 [.ref a, .int 62], kb_a G a 64 (uu3.2 0)]) (q0 := 0) ⟨hx, hb, hml, hown, ht⟩ ((c_Row_add_w l G h a 62 64 (uu3.2 0) 0 (by omega) (by omega)) _) (kb_gV wd_b959c18a wd_d7a504c3 wd_55347eca wd_4182e433 wd_0d22954f) ⟨rfl, hd_d22f4174⟩ ⟨(Nat.le_of_ble_eq_true rfl), (Nat.le_of_ble_eq_true rfl)⟩ hE hP hD hS [0, 1] rfl (by decide) rfl rfl rfl hl.1 rfl (Nat.le_of_ble_eq_true rfl) d_Row_addZeros_9 ⟨(Nat.le_of_ble_eq_true rfl), (Nat.le_of_ble_eq_true rfl)⟩) (fun uu5 H locs hw hP hD hS => ?_)
  have hP : va_P G.1 kb_cl [kb_o h 1 [.ref a, .int 63], kb_a G a 64 (uu5.2 0)] H := hP
  have hD : va_D A [kb_o h 1 [.ref a, .int 63], kb_a G a 64 (uu5.2 0)] := hD
  refine lv_iinc (v := 3) (lv' := [(2, .int 3), (0, .ref h), (1, .int 4)]) hx hb d_Row_addZeros_12 hl (k := 0) rfl (by decide) (by decide) rfl (fun ls hl => ?_)
  refine lv_goto (tgt := 2) hx hb d_Row_addZeros_15 (by decide) ?_
  refine lv_iload_n hx hb d_Row_addZeros_2 rfl (lv_at hl 0 rfl) ?_
  refine lv_iload_n hx hb d_Row_addZeros_3 rfl (lv_at hl 2 rfl) ?_
  refine lv_icmp_ge (tgt := 18) hx hb d_Row_addZeros_4 (by decide) (fun c9 => absurd c9 (by decide)) (fun c9 => ?_)
  refine lv_aload_n hx hb d_Row_addZeros_7 rfl (lv_at hl 1 rfl) ?_
  refine lv_iconst (v := 0) hx hb d_Row_addZeros_8 (by decide) ?_
  refine kb_v (wc := [kb_o h 1 [.ref a, .int 63], kb_a G a 64 (uu5.2 0)]) (wr := []) hE hP hD hS [0, 1] [] rfl rfl (by decide) (by decide) (kb_rV (As := [.int 0]) (rest := []) (wc := [kb_o h 1 [.ref a, .int 63], kb_a G a 64 (uu5.2 0)]) (q0 := 0) ⟨hx, hb, hml, hown, ht⟩ ((c_Row_add_w l G h a 63 64 (uu5.2 0) 0 (by omega) (by omega)) _) (kb_gV wd_b959c18a wd_d7a504c3 wd_55347eca wd_4182e433 wd_0d22954f) ⟨rfl, hd_d22f4174⟩ ⟨(Nat.le_of_ble_eq_true rfl), (Nat.le_of_ble_eq_true rfl)⟩ hE hP hD hS [0, 1] rfl (by decide) rfl rfl rfl hl.1 rfl (Nat.le_of_ble_eq_true rfl) d_Row_addZeros_9 ⟨(Nat.le_of_ble_eq_true rfl), (Nat.le_of_ble_eq_true rfl)⟩) (fun uu7 H locs hw hP hD hS => ?_)
  have hP : va_P G.1 kb_cl [kb_o h 1 [.ref a, .int 64], kb_a G a 64 (uu7.2 0)] H := hP
  have hD : va_D A [kb_o h 1 [.ref a, .int 64], kb_a G a 64 (uu7.2 0)] := hD
  refine lv_iinc (v := 4) (lv' := [(2, .int 4), (0, .ref h), (1, .int 4)]) hx hb d_Row_addZeros_12 hl (k := 0) rfl (by decide) (by decide) rfl (fun ls hl => ?_)
  refine lv_goto (tgt := 2) hx hb d_Row_addZeros_15 (by decide) ?_
  refine lv_iload_n hx hb d_Row_addZeros_2 rfl (lv_at hl 0 rfl) ?_
  refine lv_iload_n hx hb d_Row_addZeros_3 rfl (lv_at hl 2 rfl) ?_
  refine lv_icmp_ge (tgt := 18) hx hb d_Row_addZeros_4 (by decide) (fun c9 => ?_) (fun c9 => absurd (by decide) c9)
  exact kb_retv (kb_l [], kb_f [uu7.2 0]) hx hb hr hlocks hE hP hD hS [0, 1] rfl (by decide) rfl trivial (Nat.le_of_ble_eq_true rfl) (Nat.le_of_ble_eq_true rfl) d_Row_addZeros_18

set_option maxHeartbeats 4000000 in
set_option maxRecDepth 100000 in
theorem c_Row_addZeros_56 (l : Launch) (G : kb_G) (h : Nat) (a : Nat) (f : Nat → Int32) : kb_cv l G ⟨"TreePress$Row", "addZeros", "(I)V"⟩ prog_3_method_9_code 3 4 2 96 [.ref h, .int 56] [kb_o h 1 [.ref a, .int 0], kb_a G a 16 f] (fun u => True) (fun u => [kb_o h 1 [.ref (u.1 0), .int 56], kb_a G (u.1 0) 64 (u.2 0)]) := by
  intro sz
  refine kb_body (QQ := fun A => kb_Qv G A (fun u => True) (fun u => [kb_o h 1 [.ref (u.1 0), .int 56], kb_a G (u.1 0) 64 (u.2 0)])) (by decide) (Nat.le_of_ble_eq_true rfl) ?_
  intro p e s m below meth c A B ls hl
  obtain ⟨hx, hb, hr, hml, hlocks, hin, hown, ht, hE, hP, hD, hS⟩ := B
  have hl : lv_has ls 3 [(0, .ref h), (1, .int 56)] := hl
  have hP0 := hP
  obtain ⟨H, hHe⟩ : ∃ H, H = s.heap := ⟨_, rfl⟩
  rw [← hHe] at hP
  have hS : va_S A s.heap H [] := by rw [hHe]; exact hS
  refine kb_at hHe ?_
  clear hHe
  refine lv_iconst (v := 0) hx hb d_Row_addZeros_0 (by decide) ?_
  refine lv_istore_n (lv' := [(2, .int 0), (0, .ref h), (1, .int 56)]) hx hb d_Row_addZeros_1 rfl hl (by decide) rfl (fun ls hl => ?_)
  refine lv_iload_n hx hb d_Row_addZeros_2 rfl (lv_at hl 0 rfl) ?_
  refine lv_iload_n hx hb d_Row_addZeros_3 rfl (lv_at hl 2 rfl) ?_
  refine lv_icmp_ge (tgt := 18) hx hb d_Row_addZeros_4 (by decide) (fun c9 => absurd c9 (by decide)) (fun c9 => ?_)
  refine lv_aload_n hx hb d_Row_addZeros_7 rfl (lv_at hl 1 rfl) ?_
  refine lv_iconst (v := 0) hx hb d_Row_addZeros_8 (by decide) ?_
  refine kb_v (wc := [kb_o h 1 [.ref a, .int 0], kb_a G a 16 f]) (wr := []) hE hP hD hS [0, 1] [] rfl rfl (by decide) (by decide) (kb_rV (As := [.int 0]) (rest := []) (wc := [kb_o h 1 [.ref a, .int 0], kb_a G a 16 f]) (q0 := 0) ⟨hx, hb, hml, hown, ht⟩ ((c_Row_add_w l G h a 0 16 f 0 (by omega) (by omega)) _) (kb_gV wd_b959c18a wd_d7a504c3 wd_55347eca wd_4182e433 wd_0d22954f) ⟨rfl, hd_d22f4174⟩ ⟨(Nat.le_of_ble_eq_true rfl), (Nat.le_of_ble_eq_true rfl)⟩ hE hP hD hS [0, 1] rfl (by decide) rfl rfl rfl hl.1 rfl (Nat.le_of_ble_eq_true rfl) d_Row_addZeros_9 ⟨(Nat.le_of_ble_eq_true rfl), (Nat.le_of_ble_eq_true rfl)⟩) (fun uu1 H locs hw hP hD hS => ?_)
  have hP : va_P G.1 kb_cl [kb_o h 1 [.ref a, .int 1], kb_a G a 16 (uu1.2 0)] H := hP
  have hD : va_D A [kb_o h 1 [.ref a, .int 1], kb_a G a 16 (uu1.2 0)] := hD
  refine lv_iinc (v := 1) (lv' := [(2, .int 1), (0, .ref h), (1, .int 56)]) hx hb d_Row_addZeros_12 hl (k := 0) rfl (by decide) (by decide) rfl (fun ls hl => ?_)
  refine lv_goto (tgt := 2) hx hb d_Row_addZeros_15 (by decide) ?_
  refine lv_iload_n hx hb d_Row_addZeros_2 rfl (lv_at hl 0 rfl) ?_
  refine lv_iload_n hx hb d_Row_addZeros_3 rfl (lv_at hl 2 rfl) ?_
  refine lv_icmp_ge (tgt := 18) hx hb d_Row_addZeros_4 (by decide) (fun c9 => absurd c9 (by decide)) (fun c9 => ?_)
  refine lv_aload_n hx hb d_Row_addZeros_7 rfl (lv_at hl 1 rfl) ?_
  refine lv_iconst (v := 0) hx hb d_Row_addZeros_8 (by decide) ?_
  refine kb_v (wc := [kb_o h 1 [.ref a, .int 1], kb_a G a 16 (uu1.2 0)]) (wr := []) hE hP hD hS [0, 1] [] rfl rfl (by decide) (by decide) (kb_rV (As := [.int 0]) (rest := []) (wc := [kb_o h 1 [.ref a, .int 1], kb_a G a 16 (uu1.2 0)]) (q0 := 0) ⟨hx, hb, hml, hown, ht⟩ ((c_Row_add_w l G h a 1 16 (uu1.2 0) 0 (by omega) (by omega)) _) (kb_gV wd_b959c18a wd_d7a504c3 wd_55347eca wd_4182e433 wd_0d22954f) ⟨rfl, hd_d22f4174⟩ ⟨(Nat.le_of_ble_eq_true rfl), (Nat.le_of_ble_eq_true rfl)⟩ hE hP hD hS [0, 1] rfl (by decide) rfl rfl rfl hl.1 rfl (Nat.le_of_ble_eq_true rfl) d_Row_addZeros_9 ⟨(Nat.le_of_ble_eq_true rfl), (Nat.le_of_ble_eq_true rfl)⟩) (fun uu3 H locs hw hP hD hS => ?_)
  have hP : va_P G.1 kb_cl [kb_o h 1 [.ref a, .int 2], kb_a G a 16 (uu3.2 0)] H := hP
  have hD : va_D A [kb_o h 1 [.ref a, .int 2], kb_a G a 16 (uu3.2 0)] := hD
  refine lv_iinc (v := 2) (lv' := [(2, .int 2), (0, .ref h), (1, .int 56)]) hx hb d_Row_addZeros_12 hl (k := 0) rfl (by decide) (by decide) rfl (fun ls hl => ?_)
  refine lv_goto (tgt := 2) hx hb d_Row_addZeros_15 (by decide) ?_
  refine lv_iload_n hx hb d_Row_addZeros_2 rfl (lv_at hl 0 rfl) ?_
  refine lv_iload_n hx hb d_Row_addZeros_3 rfl (lv_at hl 2 rfl) ?_
  refine lv_icmp_ge (tgt := 18) hx hb d_Row_addZeros_4 (by decide) (fun c9 => absurd c9 (by decide)) (fun c9 => ?_)
  refine lv_aload_n hx hb d_Row_addZeros_7 rfl (lv_at hl 1 rfl) ?_
  refine lv_iconst (v := 0) hx hb d_Row_addZeros_8 (by decide) ?_
  refine kb_v (wc := [kb_o h 1 [.ref a, .int 2], kb_a G a 16 (uu3.2 0)]) (wr := []) hE hP hD hS [0, 1] [] rfl rfl (by decide) (by decide) (kb_rV (As := [.int 0]) (rest := []) (wc := [kb_o h 1 [.ref a, .int 2], kb_a G a 16 (uu3.2 0)]) (q0 := 0) ⟨hx, hb, hml, hown, ht⟩ ((c_Row_add_w l G h a 2 16 (uu3.2 0) 0 (by omega) (by omega)) _) (kb_gV wd_b959c18a wd_d7a504c3 wd_55347eca wd_4182e433 wd_0d22954f) ⟨rfl, hd_d22f4174⟩ ⟨(Nat.le_of_ble_eq_true rfl), (Nat.le_of_ble_eq_true rfl)⟩ hE hP hD hS [0, 1] rfl (by decide) rfl rfl rfl hl.1 rfl (Nat.le_of_ble_eq_true rfl) d_Row_addZeros_9 ⟨(Nat.le_of_ble_eq_true rfl), (Nat.le_of_ble_eq_true rfl)⟩) (fun uu5 H locs hw hP hD hS => ?_)
  have hP : va_P G.1 kb_cl [kb_o h 1 [.ref a, .int 3], kb_a G a 16 (uu5.2 0)] H := hP
  have hD : va_D A [kb_o h 1 [.ref a, .int 3], kb_a G a 16 (uu5.2 0)] := hD
  refine lv_iinc (v := 3) (lv' := [(2, .int 3), (0, .ref h), (1, .int 56)]) hx hb d_Row_addZeros_12 hl (k := 0) rfl (by decide) (by decide) rfl (fun ls hl => ?_)
  refine lv_goto (tgt := 2) hx hb d_Row_addZeros_15 (by decide) ?_
  refine lv_iload_n hx hb d_Row_addZeros_2 rfl (lv_at hl 0 rfl) ?_
  refine lv_iload_n hx hb d_Row_addZeros_3 rfl (lv_at hl 2 rfl) ?_
  refine lv_icmp_ge (tgt := 18) hx hb d_Row_addZeros_4 (by decide) (fun c9 => absurd c9 (by decide)) (fun c9 => ?_)
  refine lv_aload_n hx hb d_Row_addZeros_7 rfl (lv_at hl 1 rfl) ?_
  refine lv_iconst (v := 0) hx hb d_Row_addZeros_8 (by decide) ?_
  refine kb_v (wc := [kb_o h 1 [.ref a, .int 3], kb_a G a 16 (uu5.2 0)]) (wr := []) hE hP hD hS [0, 1] [] rfl rfl (by decide) (by decide) (kb_rV (As := [.int 0]) (rest := []) (wc := [kb_o h 1 [.ref a, .int 3], kb_a G a 16 (uu5.2 0)]) (q0 := 0) ⟨hx, hb, hml, hown, ht⟩ ((c_Row_add_w l G h a 3 16 (uu5.2 0) 0 (by omega) (by omega)) _) (kb_gV wd_b959c18a wd_d7a504c3 wd_55347eca wd_4182e433 wd_0d22954f) ⟨rfl, hd_d22f4174⟩ ⟨(Nat.le_of_ble_eq_true rfl), (Nat.le_of_ble_eq_true rfl)⟩ hE hP hD hS [0, 1] rfl (by decide) rfl rfl rfl hl.1 rfl (Nat.le_of_ble_eq_true rfl) d_Row_addZeros_9 ⟨(Nat.le_of_ble_eq_true rfl), (Nat.le_of_ble_eq_true rfl)⟩) (fun uu7 H locs hw hP hD hS => ?_)
  have hP : va_P G.1 kb_cl [kb_o h 1 [.ref a, .int 4], kb_a G a 16 (uu7.2 0)] H := hP
  have hD : va_D A [kb_o h 1 [.ref a, .int 4], kb_a G a 16 (uu7.2 0)] := hD
  refine lv_iinc (v := 4) (lv' := [(2, .int 4), (0, .ref h), (1, .int 56)]) hx hb d_Row_addZeros_12 hl (k := 0) rfl (by decide) (by decide) rfl (fun ls hl => ?_)
  refine lv_goto (tgt := 2) hx hb d_Row_addZeros_15 (by decide) ?_
  refine lv_iload_n hx hb d_Row_addZeros_2 rfl (lv_at hl 0 rfl) ?_
  refine lv_iload_n hx hb d_Row_addZeros_3 rfl (lv_at hl 2 rfl) ?_
  refine lv_icmp_ge (tgt := 18) hx hb d_Row_addZeros_4 (by decide) (fun c9 => absurd c9 (by decide)) (fun c9 => ?_)
  refine lv_aload_n hx hb d_Row_addZeros_7 rfl (lv_at hl 1 rfl) ?_
  refine lv_iconst (v := 0) hx hb d_Row_addZeros_8 (by decide) ?_
  refine kb_v (wc := [kb_o h 1 [.ref a, .int 4], kb_a G a 16 (uu7.2 0)]) (wr := []) hE hP hD hS [0, 1] [] rfl rfl (by decide) (by decide) (kb_rV (As := [.int 0]) (rest := []) (wc := [kb_o h 1 [.ref a, .int 4], kb_a G a 16 (uu7.2 0)]) (q0 := 0) ⟨hx, hb, hml, hown, ht⟩ ((c_Row_add_w l G h a 4 16 (uu7.2 0) 0 (by omega) (by omega)) _) (kb_gV wd_b959c18a wd_d7a504c3 wd_55347eca wd_4182e433 wd_0d22954f) ⟨rfl, hd_d22f4174⟩ ⟨(Nat.le_of_ble_eq_true rfl), (Nat.le_of_ble_eq_true rfl)⟩ hE hP hD hS [0, 1] rfl (by decide) rfl rfl rfl hl.1 rfl (Nat.le_of_ble_eq_true rfl) d_Row_addZeros_9 ⟨(Nat.le_of_ble_eq_true rfl), (Nat.le_of_ble_eq_true rfl)⟩) (fun uu9 H locs hw hP hD hS => ?_)
  have hP : va_P G.1 kb_cl [kb_o h 1 [.ref a, .int 5], kb_a G a 16 (uu9.2 0)] H := hP
  have hD : va_D A [kb_o h 1 [.ref a, .int 5], kb_a G a 16 (uu9.2 0)] := hD
  refine lv_iinc (v := 5) (lv' := [(2, .int 5), (0, .ref h), (1, .int 56)]) hx hb d_Row_addZeros_12 hl (k := 0) rfl (by decide) (by decide) rfl (fun ls hl => ?_)
  refine lv_goto (tgt := 2) hx hb d_Row_addZeros_15 (by decide) ?_
  refine lv_iload_n hx hb d_Row_addZeros_2 rfl (lv_at hl 0 rfl) ?_
  refine lv_iload_n hx hb d_Row_addZeros_3 rfl (lv_at hl 2 rfl) ?_
  refine lv_icmp_ge (tgt := 18) hx hb d_Row_addZeros_4 (by decide) (fun c9 => absurd c9 (by decide)) (fun c9 => ?_)
  refine lv_aload_n hx hb d_Row_addZeros_7 rfl (lv_at hl 1 rfl) ?_
  refine lv_iconst (v := 0) hx hb d_Row_addZeros_8 (by decide) ?_
  refine kb_v (wc := [kb_o h 1 [.ref a, .int 5], kb_a G a 16 (uu9.2 0)]) (wr := []) hE hP hD hS [0, 1] [] rfl rfl (by decide) (by decide) (kb_rV (As := [.int 0]) (rest := []) (wc := [kb_o h 1 [.ref a, .int 5], kb_a G a 16 (uu9.2 0)]) (q0 := 0) ⟨hx, hb, hml, hown, ht⟩ ((c_Row_add_w l G h a 5 16 (uu9.2 0) 0 (by omega) (by omega)) _) (kb_gV wd_b959c18a wd_d7a504c3 wd_55347eca wd_4182e433 wd_0d22954f) ⟨rfl, hd_d22f4174⟩ ⟨(Nat.le_of_ble_eq_true rfl), (Nat.le_of_ble_eq_true rfl)⟩ hE hP hD hS [0, 1] rfl (by decide) rfl rfl rfl hl.1 rfl (Nat.le_of_ble_eq_true rfl) d_Row_addZeros_9 ⟨(Nat.le_of_ble_eq_true rfl), (Nat.le_of_ble_eq_true rfl)⟩) (fun uu11 H locs hw hP hD hS => ?_)
  have hP : va_P G.1 kb_cl [kb_o h 1 [.ref a, .int 6], kb_a G a 16 (uu11.2 0)] H := hP
  have hD : va_D A [kb_o h 1 [.ref a, .int 6], kb_a G a 16 (uu11.2 0)] := hD
  refine lv_iinc (v := 6) (lv' := [(2, .int 6), (0, .ref h), (1, .int 56)]) hx hb d_Row_addZeros_12 hl (k := 0) rfl (by decide) (by decide) rfl (fun ls hl => ?_)
  refine lv_goto (tgt := 2) hx hb d_Row_addZeros_15 (by decide) ?_
  refine lv_iload_n hx hb d_Row_addZeros_2 rfl (lv_at hl 0 rfl) ?_
  refine lv_iload_n hx hb d_Row_addZeros_3 rfl (lv_at hl 2 rfl) ?_
  refine lv_icmp_ge (tgt := 18) hx hb d_Row_addZeros_4 (by decide) (fun c9 => absurd c9 (by decide)) (fun c9 => ?_)
  refine lv_aload_n hx hb d_Row_addZeros_7 rfl (lv_at hl 1 rfl) ?_
  refine lv_iconst (v := 0) hx hb d_Row_addZeros_8 (by decide) ?_
  refine kb_v (wc := [kb_o h 1 [.ref a, .int 6], kb_a G a 16 (uu11.2 0)]) (wr := []) hE hP hD hS [0, 1] [] rfl rfl (by decide) (by decide) (kb_rV (As := [.int 0]) (rest := []) (wc := [kb_o h 1 [.ref a, .int 6], kb_a G a 16 (uu11.2 0)]) (q0 := 0) ⟨hx, hb, hml, hown, ht⟩ ((c_Row_add_w l G h a 6 16 (uu11.2 0) 0 (by omega) (by omega)) _) (kb_gV wd_b959c18a wd_d7a504c3 wd_55347eca wd_4182e433 wd_0d22954f) ⟨rfl, hd_d22f4174⟩ ⟨(Nat.le_of_ble_eq_true rfl), (Nat.le_of_ble_eq_true rfl)⟩ hE hP hD hS [0, 1] rfl (by decide) rfl rfl rfl hl.1 rfl (Nat.le_of_ble_eq_true rfl) d_Row_addZeros_9 ⟨(Nat.le_of_ble_eq_true rfl), (Nat.le_of_ble_eq_true rfl)⟩) (fun uu13 H locs hw hP hD hS => ?_)
  have hP : va_P G.1 kb_cl [kb_o h 1 [.ref a, .int 7], kb_a G a 16 (uu13.2 0)] H := hP
  have hD : va_D A [kb_o h 1 [.ref a, .int 7], kb_a G a 16 (uu13.2 0)] := hD
  refine lv_iinc (v := 7) (lv' := [(2, .int 7), (0, .ref h), (1, .int 56)]) hx hb d_Row_addZeros_12 hl (k := 0) rfl (by decide) (by decide) rfl (fun ls hl => ?_)
  refine lv_goto (tgt := 2) hx hb d_Row_addZeros_15 (by decide) ?_
  refine lv_iload_n hx hb d_Row_addZeros_2 rfl (lv_at hl 0 rfl) ?_
  refine lv_iload_n hx hb d_Row_addZeros_3 rfl (lv_at hl 2 rfl) ?_
  refine lv_icmp_ge (tgt := 18) hx hb d_Row_addZeros_4 (by decide) (fun c9 => absurd c9 (by decide)) (fun c9 => ?_)
  refine lv_aload_n hx hb d_Row_addZeros_7 rfl (lv_at hl 1 rfl) ?_
  refine lv_iconst (v := 0) hx hb d_Row_addZeros_8 (by decide) ?_
  refine kb_v (wc := [kb_o h 1 [.ref a, .int 7], kb_a G a 16 (uu13.2 0)]) (wr := []) hE hP hD hS [0, 1] [] rfl rfl (by decide) (by decide) (kb_rV (As := [.int 0]) (rest := []) (wc := [kb_o h 1 [.ref a, .int 7], kb_a G a 16 (uu13.2 0)]) (q0 := 0) ⟨hx, hb, hml, hown, ht⟩ ((c_Row_add_w l G h a 7 16 (uu13.2 0) 0 (by omega) (by omega)) _) (kb_gV wd_b959c18a wd_d7a504c3 wd_55347eca wd_4182e433 wd_0d22954f) ⟨rfl, hd_d22f4174⟩ ⟨(Nat.le_of_ble_eq_true rfl), (Nat.le_of_ble_eq_true rfl)⟩ hE hP hD hS [0, 1] rfl (by decide) rfl rfl rfl hl.1 rfl (Nat.le_of_ble_eq_true rfl) d_Row_addZeros_9 ⟨(Nat.le_of_ble_eq_true rfl), (Nat.le_of_ble_eq_true rfl)⟩) (fun uu15 H locs hw hP hD hS => ?_)
  have hP : va_P G.1 kb_cl [kb_o h 1 [.ref a, .int 8], kb_a G a 16 (uu15.2 0)] H := hP
  have hD : va_D A [kb_o h 1 [.ref a, .int 8], kb_a G a 16 (uu15.2 0)] := hD
  refine lv_iinc (v := 8) (lv' := [(2, .int 8), (0, .ref h), (1, .int 56)]) hx hb d_Row_addZeros_12 hl (k := 0) rfl (by decide) (by decide) rfl (fun ls hl => ?_)
  refine lv_goto (tgt := 2) hx hb d_Row_addZeros_15 (by decide) ?_
  refine lv_iload_n hx hb d_Row_addZeros_2 rfl (lv_at hl 0 rfl) ?_
  refine lv_iload_n hx hb d_Row_addZeros_3 rfl (lv_at hl 2 rfl) ?_
  refine lv_icmp_ge (tgt := 18) hx hb d_Row_addZeros_4 (by decide) (fun c9 => absurd c9 (by decide)) (fun c9 => ?_)
  refine lv_aload_n hx hb d_Row_addZeros_7 rfl (lv_at hl 1 rfl) ?_
  refine lv_iconst (v := 0) hx hb d_Row_addZeros_8 (by decide) ?_
  refine kb_v (wc := [kb_o h 1 [.ref a, .int 8], kb_a G a 16 (uu15.2 0)]) (wr := []) hE hP hD hS [0, 1] [] rfl rfl (by decide) (by decide) (kb_rV (As := [.int 0]) (rest := []) (wc := [kb_o h 1 [.ref a, .int 8], kb_a G a 16 (uu15.2 0)]) (q0 := 0) ⟨hx, hb, hml, hown, ht⟩ ((c_Row_add_w l G h a 8 16 (uu15.2 0) 0 (by omega) (by omega)) _) (kb_gV wd_b959c18a wd_d7a504c3 wd_55347eca wd_4182e433 wd_0d22954f) ⟨rfl, hd_d22f4174⟩ ⟨(Nat.le_of_ble_eq_true rfl), (Nat.le_of_ble_eq_true rfl)⟩ hE hP hD hS [0, 1] rfl (by decide) rfl rfl rfl hl.1 rfl (Nat.le_of_ble_eq_true rfl) d_Row_addZeros_9 ⟨(Nat.le_of_ble_eq_true rfl), (Nat.le_of_ble_eq_true rfl)⟩) (fun uu17 H locs hw hP hD hS => ?_)
  have hP : va_P G.1 kb_cl [kb_o h 1 [.ref a, .int 9], kb_a G a 16 (uu17.2 0)] H := hP
  have hD : va_D A [kb_o h 1 [.ref a, .int 9], kb_a G a 16 (uu17.2 0)] := hD
  refine lv_iinc (v := 9) (lv' := [(2, .int 9), (0, .ref h), (1, .int 56)]) hx hb d_Row_addZeros_12 hl (k := 0) rfl (by decide) (by decide) rfl (fun ls hl => ?_)
  refine lv_goto (tgt := 2) hx hb d_Row_addZeros_15 (by decide) ?_
  refine lv_iload_n hx hb d_Row_addZeros_2 rfl (lv_at hl 0 rfl) ?_
  refine lv_iload_n hx hb d_Row_addZeros_3 rfl (lv_at hl 2 rfl) ?_
  refine lv_icmp_ge (tgt := 18) hx hb d_Row_addZeros_4 (by decide) (fun c9 => absurd c9 (by decide)) (fun c9 => ?_)
  refine lv_aload_n hx hb d_Row_addZeros_7 rfl (lv_at hl 1 rfl) ?_
  refine lv_iconst (v := 0) hx hb d_Row_addZeros_8 (by decide) ?_
  refine kb_v (wc := [kb_o h 1 [.ref a, .int 9], kb_a G a 16 (uu17.2 0)]) (wr := []) hE hP hD hS [0, 1] [] rfl rfl (by decide) (by decide) (kb_rV (As := [.int 0]) (rest := []) (wc := [kb_o h 1 [.ref a, .int 9], kb_a G a 16 (uu17.2 0)]) (q0 := 0) ⟨hx, hb, hml, hown, ht⟩ ((c_Row_add_w l G h a 9 16 (uu17.2 0) 0 (by omega) (by omega)) _) (kb_gV wd_b959c18a wd_d7a504c3 wd_55347eca wd_4182e433 wd_0d22954f) ⟨rfl, hd_d22f4174⟩ ⟨(Nat.le_of_ble_eq_true rfl), (Nat.le_of_ble_eq_true rfl)⟩ hE hP hD hS [0, 1] rfl (by decide) rfl rfl rfl hl.1 rfl (Nat.le_of_ble_eq_true rfl) d_Row_addZeros_9 ⟨(Nat.le_of_ble_eq_true rfl), (Nat.le_of_ble_eq_true rfl)⟩) (fun uu19 H locs hw hP hD hS => ?_)
  have hP : va_P G.1 kb_cl [kb_o h 1 [.ref a, .int 10], kb_a G a 16 (uu19.2 0)] H := hP
  have hD : va_D A [kb_o h 1 [.ref a, .int 10], kb_a G a 16 (uu19.2 0)] := hD
  refine lv_iinc (v := 10) (lv' := [(2, .int 10), (0, .ref h), (1, .int 56)]) hx hb d_Row_addZeros_12 hl (k := 0) rfl (by decide) (by decide) rfl (fun ls hl => ?_)
  refine lv_goto (tgt := 2) hx hb d_Row_addZeros_15 (by decide) ?_
  refine lv_iload_n hx hb d_Row_addZeros_2 rfl (lv_at hl 0 rfl) ?_
  refine lv_iload_n hx hb d_Row_addZeros_3 rfl (lv_at hl 2 rfl) ?_
  refine lv_icmp_ge (tgt := 18) hx hb d_Row_addZeros_4 (by decide) (fun c9 => absurd c9 (by decide)) (fun c9 => ?_)
  refine lv_aload_n hx hb d_Row_addZeros_7 rfl (lv_at hl 1 rfl) ?_
  refine lv_iconst (v := 0) hx hb d_Row_addZeros_8 (by decide) ?_
  refine kb_v (wc := [kb_o h 1 [.ref a, .int 10], kb_a G a 16 (uu19.2 0)]) (wr := []) hE hP hD hS [0, 1] [] rfl rfl (by decide) (by decide) (kb_rV (As := [.int 0]) (rest := []) (wc := [kb_o h 1 [.ref a, .int 10], kb_a G a 16 (uu19.2 0)]) (q0 := 0) ⟨hx, hb, hml, hown, ht⟩ ((c_Row_add_w l G h a 10 16 (uu19.2 0) 0 (by omega) (by omega)) _) (kb_gV wd_b959c18a wd_d7a504c3 wd_55347eca wd_4182e433 wd_0d22954f) ⟨rfl, hd_d22f4174⟩ ⟨(Nat.le_of_ble_eq_true rfl), (Nat.le_of_ble_eq_true rfl)⟩ hE hP hD hS [0, 1] rfl (by decide) rfl rfl rfl hl.1 rfl (Nat.le_of_ble_eq_true rfl) d_Row_addZeros_9 ⟨(Nat.le_of_ble_eq_true rfl), (Nat.le_of_ble_eq_true rfl)⟩) (fun uu21 H locs hw hP hD hS => ?_)
  have hP : va_P G.1 kb_cl [kb_o h 1 [.ref a, .int 11], kb_a G a 16 (uu21.2 0)] H := hP
  have hD : va_D A [kb_o h 1 [.ref a, .int 11], kb_a G a 16 (uu21.2 0)] := hD
  refine lv_iinc (v := 11) (lv' := [(2, .int 11), (0, .ref h), (1, .int 56)]) hx hb d_Row_addZeros_12 hl (k := 0) rfl (by decide) (by decide) rfl (fun ls hl => ?_)
  refine lv_goto (tgt := 2) hx hb d_Row_addZeros_15 (by decide) ?_
  refine lv_iload_n hx hb d_Row_addZeros_2 rfl (lv_at hl 0 rfl) ?_
  refine lv_iload_n hx hb d_Row_addZeros_3 rfl (lv_at hl 2 rfl) ?_
  refine lv_icmp_ge (tgt := 18) hx hb d_Row_addZeros_4 (by decide) (fun c9 => absurd c9 (by decide)) (fun c9 => ?_)
  refine lv_aload_n hx hb d_Row_addZeros_7 rfl (lv_at hl 1 rfl) ?_
  refine lv_iconst (v := 0) hx hb d_Row_addZeros_8 (by decide) ?_
  refine kb_v (wc := [kb_o h 1 [.ref a, .int 11], kb_a G a 16 (uu21.2 0)]) (wr := []) hE hP hD hS [0, 1] [] rfl rfl (by decide) (by decide) (kb_rV (As := [.int 0]) (rest := []) (wc := [kb_o h 1 [.ref a, .int 11], kb_a G a 16 (uu21.2 0)]) (q0 := 0) ⟨hx, hb, hml, hown, ht⟩ ((c_Row_add_w l G h a 11 16 (uu21.2 0) 0 (by omega) (by omega)) _) (kb_gV wd_b959c18a wd_d7a504c3 wd_55347eca wd_4182e433 wd_0d22954f) ⟨rfl, hd_d22f4174⟩ ⟨(Nat.le_of_ble_eq_true rfl), (Nat.le_of_ble_eq_true rfl)⟩ hE hP hD hS [0, 1] rfl (by decide) rfl rfl rfl hl.1 rfl (Nat.le_of_ble_eq_true rfl) d_Row_addZeros_9 ⟨(Nat.le_of_ble_eq_true rfl), (Nat.le_of_ble_eq_true rfl)⟩) (fun uu23 H locs hw hP hD hS => ?_)
  have hP : va_P G.1 kb_cl [kb_o h 1 [.ref a, .int 12], kb_a G a 16 (uu23.2 0)] H := hP
  have hD : va_D A [kb_o h 1 [.ref a, .int 12], kb_a G a 16 (uu23.2 0)] := hD
  refine lv_iinc (v := 12) (lv' := [(2, .int 12), (0, .ref h), (1, .int 56)]) hx hb d_Row_addZeros_12 hl (k := 0) rfl (by decide) (by decide) rfl (fun ls hl => ?_)
  refine lv_goto (tgt := 2) hx hb d_Row_addZeros_15 (by decide) ?_
  refine lv_iload_n hx hb d_Row_addZeros_2 rfl (lv_at hl 0 rfl) ?_
  refine lv_iload_n hx hb d_Row_addZeros_3 rfl (lv_at hl 2 rfl) ?_
  refine lv_icmp_ge (tgt := 18) hx hb d_Row_addZeros_4 (by decide) (fun c9 => absurd c9 (by decide)) (fun c9 => ?_)
  refine lv_aload_n hx hb d_Row_addZeros_7 rfl (lv_at hl 1 rfl) ?_
  refine lv_iconst (v := 0) hx hb d_Row_addZeros_8 (by decide) ?_
  refine kb_v (wc := [kb_o h 1 [.ref a, .int 12], kb_a G a 16 (uu23.2 0)]) (wr := []) hE hP hD hS [0, 1] [] rfl rfl (by decide) (by decide) (kb_rV (As := [.int 0]) (rest := []) (wc := [kb_o h 1 [.ref a, .int 12], kb_a G a 16 (uu23.2 0)]) (q0 := 0) ⟨hx, hb, hml, hown, ht⟩ ((c_Row_add_w l G h a 12 16 (uu23.2 0) 0 (by omega) (by omega)) _) (kb_gV wd_b959c18a wd_d7a504c3 wd_55347eca wd_4182e433 wd_0d22954f) ⟨rfl, hd_d22f4174⟩ ⟨(Nat.le_of_ble_eq_true rfl), (Nat.le_of_ble_eq_true rfl)⟩ hE hP hD hS [0, 1] rfl (by decide) rfl rfl rfl hl.1 rfl (Nat.le_of_ble_eq_true rfl) d_Row_addZeros_9 ⟨(Nat.le_of_ble_eq_true rfl), (Nat.le_of_ble_eq_true rfl)⟩) (fun uu25 H locs hw hP hD hS => ?_)
  have hP : va_P G.1 kb_cl [kb_o h 1 [.ref a, .int 13], kb_a G a 16 (uu25.2 0)] H := hP
  have hD : va_D A [kb_o h 1 [.ref a, .int 13], kb_a G a 16 (uu25.2 0)] := hD
  refine lv_iinc (v := 13) (lv' := [(2, .int 13), (0, .ref h), (1, .int 56)]) hx hb d_Row_addZeros_12 hl (k := 0) rfl (by decide) (by decide) rfl (fun ls hl => ?_)
  refine lv_goto (tgt := 2) hx hb d_Row_addZeros_15 (by decide) ?_
  refine lv_iload_n hx hb d_Row_addZeros_2 rfl (lv_at hl 0 rfl) ?_
  refine lv_iload_n hx hb d_Row_addZeros_3 rfl (lv_at hl 2 rfl) ?_
  refine lv_icmp_ge (tgt := 18) hx hb d_Row_addZeros_4 (by decide) (fun c9 => absurd c9 (by decide)) (fun c9 => ?_)
  refine lv_aload_n hx hb d_Row_addZeros_7 rfl (lv_at hl 1 rfl) ?_
  refine lv_iconst (v := 0) hx hb d_Row_addZeros_8 (by decide) ?_
  refine kb_v (wc := [kb_o h 1 [.ref a, .int 13], kb_a G a 16 (uu25.2 0)]) (wr := []) hE hP hD hS [0, 1] [] rfl rfl (by decide) (by decide) (kb_rV (As := [.int 0]) (rest := []) (wc := [kb_o h 1 [.ref a, .int 13], kb_a G a 16 (uu25.2 0)]) (q0 := 0) ⟨hx, hb, hml, hown, ht⟩ ((c_Row_add_w l G h a 13 16 (uu25.2 0) 0 (by omega) (by omega)) _) (kb_gV wd_b959c18a wd_d7a504c3 wd_55347eca wd_4182e433 wd_0d22954f) ⟨rfl, hd_d22f4174⟩ ⟨(Nat.le_of_ble_eq_true rfl), (Nat.le_of_ble_eq_true rfl)⟩ hE hP hD hS [0, 1] rfl (by decide) rfl rfl rfl hl.1 rfl (Nat.le_of_ble_eq_true rfl) d_Row_addZeros_9 ⟨(Nat.le_of_ble_eq_true rfl), (Nat.le_of_ble_eq_true rfl)⟩) (fun uu27 H locs hw hP hD hS => ?_)
  have hP : va_P G.1 kb_cl [kb_o h 1 [.ref a, .int 14], kb_a G a 16 (uu27.2 0)] H := hP
  have hD : va_D A [kb_o h 1 [.ref a, .int 14], kb_a G a 16 (uu27.2 0)] := hD
  refine lv_iinc (v := 14) (lv' := [(2, .int 14), (0, .ref h), (1, .int 56)]) hx hb d_Row_addZeros_12 hl (k := 0) rfl (by decide) (by decide) rfl (fun ls hl => ?_)
  refine lv_goto (tgt := 2) hx hb d_Row_addZeros_15 (by decide) ?_
  refine lv_iload_n hx hb d_Row_addZeros_2 rfl (lv_at hl 0 rfl) ?_
  refine lv_iload_n hx hb d_Row_addZeros_3 rfl (lv_at hl 2 rfl) ?_
  refine lv_icmp_ge (tgt := 18) hx hb d_Row_addZeros_4 (by decide) (fun c9 => absurd c9 (by decide)) (fun c9 => ?_)
  refine lv_aload_n hx hb d_Row_addZeros_7 rfl (lv_at hl 1 rfl) ?_
  refine lv_iconst (v := 0) hx hb d_Row_addZeros_8 (by decide) ?_
  refine kb_v (wc := [kb_o h 1 [.ref a, .int 14], kb_a G a 16 (uu27.2 0)]) (wr := []) hE hP hD hS [0, 1] [] rfl rfl (by decide) (by decide) (kb_rV (As := [.int 0]) (rest := []) (wc := [kb_o h 1 [.ref a, .int 14], kb_a G a 16 (uu27.2 0)]) (q0 := 0) ⟨hx, hb, hml, hown, ht⟩ ((c_Row_add_w l G h a 14 16 (uu27.2 0) 0 (by omega) (by omega)) _) (kb_gV wd_b959c18a wd_d7a504c3 wd_55347eca wd_4182e433 wd_0d22954f) ⟨rfl, hd_d22f4174⟩ ⟨(Nat.le_of_ble_eq_true rfl), (Nat.le_of_ble_eq_true rfl)⟩ hE hP hD hS [0, 1] rfl (by decide) rfl rfl rfl hl.1 rfl (Nat.le_of_ble_eq_true rfl) d_Row_addZeros_9 ⟨(Nat.le_of_ble_eq_true rfl), (Nat.le_of_ble_eq_true rfl)⟩) (fun uu29 H locs hw hP hD hS => ?_)
  have hP : va_P G.1 kb_cl [kb_o h 1 [.ref a, .int 15], kb_a G a 16 (uu29.2 0)] H := hP
  have hD : va_D A [kb_o h 1 [.ref a, .int 15], kb_a G a 16 (uu29.2 0)] := hD
  refine lv_iinc (v := 15) (lv' := [(2, .int 15), (0, .ref h), (1, .int 56)]) hx hb d_Row_addZeros_12 hl (k := 0) rfl (by decide) (by decide) rfl (fun ls hl => ?_)
  refine lv_goto (tgt := 2) hx hb d_Row_addZeros_15 (by decide) ?_
  refine lv_iload_n hx hb d_Row_addZeros_2 rfl (lv_at hl 0 rfl) ?_
  refine lv_iload_n hx hb d_Row_addZeros_3 rfl (lv_at hl 2 rfl) ?_
  refine lv_icmp_ge (tgt := 18) hx hb d_Row_addZeros_4 (by decide) (fun c9 => absurd c9 (by decide)) (fun c9 => ?_)
  refine lv_aload_n hx hb d_Row_addZeros_7 rfl (lv_at hl 1 rfl) ?_
  refine lv_iconst (v := 0) hx hb d_Row_addZeros_8 (by decide) ?_
  refine kb_v (wc := [kb_o h 1 [.ref a, .int 15], kb_a G a 16 (uu29.2 0)]) (wr := []) hE hP hD hS [0, 1] [] rfl rfl (by decide) (by decide) (kb_rV (As := [.int 0]) (rest := []) (wc := [kb_o h 1 [.ref a, .int 15], kb_a G a 16 (uu29.2 0)]) (q0 := 0) ⟨hx, hb, hml, hown, ht⟩ ((c_Row_add_w l G h a 15 16 (uu29.2 0) 0 (by omega) (by omega)) _) (kb_gV wd_b959c18a wd_d7a504c3 wd_55347eca wd_4182e433 wd_0d22954f) ⟨rfl, hd_d22f4174⟩ ⟨(Nat.le_of_ble_eq_true rfl), (Nat.le_of_ble_eq_true rfl)⟩ hE hP hD hS [0, 1] rfl (by decide) rfl rfl rfl hl.1 rfl (Nat.le_of_ble_eq_true rfl) d_Row_addZeros_9 ⟨(Nat.le_of_ble_eq_true rfl), (Nat.le_of_ble_eq_true rfl)⟩) (fun uu31 H locs hw hP hD hS => ?_)
  have hP : va_P G.1 kb_cl [kb_o h 1 [.ref a, .int 16], kb_a G a 16 (uu31.2 0)] H := hP
  have hD : va_D A [kb_o h 1 [.ref a, .int 16], kb_a G a 16 (uu31.2 0)] := hD
  refine lv_iinc (v := 16) (lv' := [(2, .int 16), (0, .ref h), (1, .int 56)]) hx hb d_Row_addZeros_12 hl (k := 0) rfl (by decide) (by decide) rfl (fun ls hl => ?_)
  refine lv_goto (tgt := 2) hx hb d_Row_addZeros_15 (by decide) ?_
  refine lv_iload_n hx hb d_Row_addZeros_2 rfl (lv_at hl 0 rfl) ?_
  refine lv_iload_n hx hb d_Row_addZeros_3 rfl (lv_at hl 2 rfl) ?_
  refine lv_icmp_ge (tgt := 18) hx hb d_Row_addZeros_4 (by decide) (fun c9 => absurd c9 (by decide)) (fun c9 => ?_)
  refine lv_aload_n hx hb d_Row_addZeros_7 rfl (lv_at hl 1 rfl) ?_
  refine lv_iconst (v := 0) hx hb d_Row_addZeros_8 (by decide) ?_
  refine kb_v (wc := [kb_o h 1 [.ref a, .int 16], kb_a G a 16 (uu31.2 0)]) (wr := []) hE hP hD hS [0, 1] [] rfl rfl (by decide) (by decide) (kb_rV (As := [.int 0]) (rest := []) (wc := [kb_o h 1 [.ref a, .int 16], kb_a G a 16 (uu31.2 0)]) (q0 := 0) ⟨hx, hb, hml, hown, ht⟩ ((c_Row_add_g16 l G h a (uu31.2 0) 0) _) (kb_gV wd_b959c18a wd_d7a504c3 wd_55347eca wd_4182e433 wd_0d22954f) ⟨rfl, hd_d22f4174⟩ ⟨(Nat.le_of_ble_eq_true rfl), (Nat.le_of_ble_eq_true rfl)⟩ hE hP hD hS [0, 1] rfl (by decide) rfl rfl rfl hl.1 rfl (Nat.le_of_ble_eq_true rfl) d_Row_addZeros_9 ⟨(Nat.le_of_ble_eq_true rfl), (Nat.le_of_ble_eq_true rfl)⟩) (fun uu33 H locs hw hP hD hS => ?_)
  have hP : va_P G.1 kb_cl [kb_o h 1 [.ref (uu33.1 0), .int 17], kb_a G (uu33.1 0) 32 (upd (uu33.2 0) 16 0)] H := hP
  have hD : va_D A [kb_o h 1 [.ref (uu33.1 0), .int 17], kb_a G (uu33.1 0) 32 (upd (uu33.2 0) 16 0)] := hD
  refine lv_iinc (v := 17) (lv' := [(2, .int 17), (0, .ref h), (1, .int 56)]) hx hb d_Row_addZeros_12 hl (k := 0) rfl (by decide) (by decide) rfl (fun ls hl => ?_)
  refine lv_goto (tgt := 2) hx hb d_Row_addZeros_15 (by decide) ?_
  refine lv_iload_n hx hb d_Row_addZeros_2 rfl (lv_at hl 0 rfl) ?_
  refine lv_iload_n hx hb d_Row_addZeros_3 rfl (lv_at hl 2 rfl) ?_
  refine lv_icmp_ge (tgt := 18) hx hb d_Row_addZeros_4 (by decide) (fun c9 => absurd c9 (by decide)) (fun c9 => ?_)
  refine lv_aload_n hx hb d_Row_addZeros_7 rfl (lv_at hl 1 rfl) ?_
  refine lv_iconst (v := 0) hx hb d_Row_addZeros_8 (by decide) ?_
  refine kb_v (wc := [kb_o h 1 [.ref (uu33.1 0), .int 17], kb_a G (uu33.1 0) 32 (upd (uu33.2 0) 16 0)]) (wr := []) hE hP hD hS [0, 1] [] rfl rfl (by decide) (by decide) (kb_rV (As := [.int 0]) (rest := []) (wc := [kb_o h 1 [.ref (uu33.1 0), .int 17], kb_a G (uu33.1 0) 32 (upd (uu33.2 0) 16 0)]) (q0 := 0) ⟨hx, hb, hml, hown, ht⟩ ((c_Row_add_w l G h (uu33.1 0) 17 32 (upd (uu33.2 0) 16 0) 0 (by omega) (by omega)) _) (kb_gV wd_b959c18a wd_d7a504c3 wd_55347eca wd_4182e433 wd_0d22954f) ⟨rfl, hd_d22f4174⟩ ⟨(Nat.le_of_ble_eq_true rfl), (Nat.le_of_ble_eq_true rfl)⟩ hE hP hD hS [0, 1] rfl (by decide) rfl rfl rfl hl.1 rfl (Nat.le_of_ble_eq_true rfl) d_Row_addZeros_9 ⟨(Nat.le_of_ble_eq_true rfl), (Nat.le_of_ble_eq_true rfl)⟩) (fun uu35 H locs hw hP hD hS => ?_)
  have hP : va_P G.1 kb_cl [kb_o h 1 [.ref (uu33.1 0), .int 18], kb_a G (uu33.1 0) 32 (uu35.2 0)] H := hP
  have hD : va_D A [kb_o h 1 [.ref (uu33.1 0), .int 18], kb_a G (uu33.1 0) 32 (uu35.2 0)] := hD
  refine lv_iinc (v := 18) (lv' := [(2, .int 18), (0, .ref h), (1, .int 56)]) hx hb d_Row_addZeros_12 hl (k := 0) rfl (by decide) (by decide) rfl (fun ls hl => ?_)
  refine lv_goto (tgt := 2) hx hb d_Row_addZeros_15 (by decide) ?_
  refine lv_iload_n hx hb d_Row_addZeros_2 rfl (lv_at hl 0 rfl) ?_
  refine lv_iload_n hx hb d_Row_addZeros_3 rfl (lv_at hl 2 rfl) ?_
  refine lv_icmp_ge (tgt := 18) hx hb d_Row_addZeros_4 (by decide) (fun c9 => absurd c9 (by decide)) (fun c9 => ?_)
  refine lv_aload_n hx hb d_Row_addZeros_7 rfl (lv_at hl 1 rfl) ?_
  refine lv_iconst (v := 0) hx hb d_Row_addZeros_8 (by decide) ?_
  refine kb_v (wc := [kb_o h 1 [.ref (uu33.1 0), .int 18], kb_a G (uu33.1 0) 32 (uu35.2 0)]) (wr := []) hE hP hD hS [0, 1] [] rfl rfl (by decide) (by decide) (kb_rV (As := [.int 0]) (rest := []) (wc := [kb_o h 1 [.ref (uu33.1 0), .int 18], kb_a G (uu33.1 0) 32 (uu35.2 0)]) (q0 := 0) ⟨hx, hb, hml, hown, ht⟩ ((c_Row_add_w l G h (uu33.1 0) 18 32 (uu35.2 0) 0 (by omega) (by omega)) _) (kb_gV wd_b959c18a wd_d7a504c3 wd_55347eca wd_4182e433 wd_0d22954f) ⟨rfl, hd_d22f4174⟩ ⟨(Nat.le_of_ble_eq_true rfl), (Nat.le_of_ble_eq_true rfl)⟩ hE hP hD hS [0, 1] rfl (by decide) rfl rfl rfl hl.1 rfl (Nat.le_of_ble_eq_true rfl) d_Row_addZeros_9 ⟨(Nat.le_of_ble_eq_true rfl), (Nat.le_of_ble_eq_true rfl)⟩) (fun uu37 H locs hw hP hD hS => ?_)
  have hP : va_P G.1 kb_cl [kb_o h 1 [.ref (uu33.1 0), .int 19], kb_a G (uu33.1 0) 32 (uu37.2 0)] H := hP
  have hD : va_D A [kb_o h 1 [.ref (uu33.1 0), .int 19], kb_a G (uu33.1 0) 32 (uu37.2 0)] := hD
  refine lv_iinc (v := 19) (lv' := [(2, .int 19), (0, .ref h), (1, .int 56)]) hx hb d_Row_addZeros_12 hl (k := 0) rfl (by decide) (by decide) rfl (fun ls hl => ?_)
  refine lv_goto (tgt := 2) hx hb d_Row_addZeros_15 (by decide) ?_
  refine lv_iload_n hx hb d_Row_addZeros_2 rfl (lv_at hl 0 rfl) ?_
  refine lv_iload_n hx hb d_Row_addZeros_3 rfl (lv_at hl 2 rfl) ?_
  refine lv_icmp_ge (tgt := 18) hx hb d_Row_addZeros_4 (by decide) (fun c9 => absurd c9 (by decide)) (fun c9 => ?_)
  refine lv_aload_n hx hb d_Row_addZeros_7 rfl (lv_at hl 1 rfl) ?_
  refine lv_iconst (v := 0) hx hb d_Row_addZeros_8 (by decide) ?_
  refine kb_v (wc := [kb_o h 1 [.ref (uu33.1 0), .int 19], kb_a G (uu33.1 0) 32 (uu37.2 0)]) (wr := []) hE hP hD hS [0, 1] [] rfl rfl (by decide) (by decide) (kb_rV (As := [.int 0]) (rest := []) (wc := [kb_o h 1 [.ref (uu33.1 0), .int 19], kb_a G (uu33.1 0) 32 (uu37.2 0)]) (q0 := 0) ⟨hx, hb, hml, hown, ht⟩ ((c_Row_add_w l G h (uu33.1 0) 19 32 (uu37.2 0) 0 (by omega) (by omega)) _) (kb_gV wd_b959c18a wd_d7a504c3 wd_55347eca wd_4182e433 wd_0d22954f) ⟨rfl, hd_d22f4174⟩ ⟨(Nat.le_of_ble_eq_true rfl), (Nat.le_of_ble_eq_true rfl)⟩ hE hP hD hS [0, 1] rfl (by decide) rfl rfl rfl hl.1 rfl (Nat.le_of_ble_eq_true rfl) d_Row_addZeros_9 ⟨(Nat.le_of_ble_eq_true rfl), (Nat.le_of_ble_eq_true rfl)⟩) (fun uu39 H locs hw hP hD hS => ?_)
  have hP : va_P G.1 kb_cl [kb_o h 1 [.ref (uu33.1 0), .int 20], kb_a G (uu33.1 0) 32 (uu39.2 0)] H := hP
  have hD : va_D A [kb_o h 1 [.ref (uu33.1 0), .int 20], kb_a G (uu33.1 0) 32 (uu39.2 0)] := hD
  refine lv_iinc (v := 20) (lv' := [(2, .int 20), (0, .ref h), (1, .int 56)]) hx hb d_Row_addZeros_12 hl (k := 0) rfl (by decide) (by decide) rfl (fun ls hl => ?_)
  refine lv_goto (tgt := 2) hx hb d_Row_addZeros_15 (by decide) ?_
  refine lv_iload_n hx hb d_Row_addZeros_2 rfl (lv_at hl 0 rfl) ?_
  refine lv_iload_n hx hb d_Row_addZeros_3 rfl (lv_at hl 2 rfl) ?_
  refine lv_icmp_ge (tgt := 18) hx hb d_Row_addZeros_4 (by decide) (fun c9 => absurd c9 (by decide)) (fun c9 => ?_)
  refine lv_aload_n hx hb d_Row_addZeros_7 rfl (lv_at hl 1 rfl) ?_
  refine lv_iconst (v := 0) hx hb d_Row_addZeros_8 (by decide) ?_
  refine kb_v (wc := [kb_o h 1 [.ref (uu33.1 0), .int 20], kb_a G (uu33.1 0) 32 (uu39.2 0)]) (wr := []) hE hP hD hS [0, 1] [] rfl rfl (by decide) (by decide) (kb_rV (As := [.int 0]) (rest := []) (wc := [kb_o h 1 [.ref (uu33.1 0), .int 20], kb_a G (uu33.1 0) 32 (uu39.2 0)]) (q0 := 0) ⟨hx, hb, hml, hown, ht⟩ ((c_Row_add_w l G h (uu33.1 0) 20 32 (uu39.2 0) 0 (by omega) (by omega)) _) (kb_gV wd_b959c18a wd_d7a504c3 wd_55347eca wd_4182e433 wd_0d22954f) ⟨rfl, hd_d22f4174⟩ ⟨(Nat.le_of_ble_eq_true rfl), (Nat.le_of_ble_eq_true rfl)⟩ hE hP hD hS [0, 1] rfl (by decide) rfl rfl rfl hl.1 rfl (Nat.le_of_ble_eq_true rfl) d_Row_addZeros_9 ⟨(Nat.le_of_ble_eq_true rfl), (Nat.le_of_ble_eq_true rfl)⟩) (fun uu41 H locs hw hP hD hS => ?_)
  have hP : va_P G.1 kb_cl [kb_o h 1 [.ref (uu33.1 0), .int 21], kb_a G (uu33.1 0) 32 (uu41.2 0)] H := hP
  have hD : va_D A [kb_o h 1 [.ref (uu33.1 0), .int 21], kb_a G (uu33.1 0) 32 (uu41.2 0)] := hD
  refine lv_iinc (v := 21) (lv' := [(2, .int 21), (0, .ref h), (1, .int 56)]) hx hb d_Row_addZeros_12 hl (k := 0) rfl (by decide) (by decide) rfl (fun ls hl => ?_)
  refine lv_goto (tgt := 2) hx hb d_Row_addZeros_15 (by decide) ?_
  refine lv_iload_n hx hb d_Row_addZeros_2 rfl (lv_at hl 0 rfl) ?_
  refine lv_iload_n hx hb d_Row_addZeros_3 rfl (lv_at hl 2 rfl) ?_
  refine lv_icmp_ge (tgt := 18) hx hb d_Row_addZeros_4 (by decide) (fun c9 => absurd c9 (by decide)) (fun c9 => ?_)
  refine lv_aload_n hx hb d_Row_addZeros_7 rfl (lv_at hl 1 rfl) ?_
  refine lv_iconst (v := 0) hx hb d_Row_addZeros_8 (by decide) ?_
  refine kb_v (wc := [kb_o h 1 [.ref (uu33.1 0), .int 21], kb_a G (uu33.1 0) 32 (uu41.2 0)]) (wr := []) hE hP hD hS [0, 1] [] rfl rfl (by decide) (by decide) (kb_rV (As := [.int 0]) (rest := []) (wc := [kb_o h 1 [.ref (uu33.1 0), .int 21], kb_a G (uu33.1 0) 32 (uu41.2 0)]) (q0 := 0) ⟨hx, hb, hml, hown, ht⟩ ((c_Row_add_w l G h (uu33.1 0) 21 32 (uu41.2 0) 0 (by omega) (by omega)) _) (kb_gV wd_b959c18a wd_d7a504c3 wd_55347eca wd_4182e433 wd_0d22954f) ⟨rfl, hd_d22f4174⟩ ⟨(Nat.le_of_ble_eq_true rfl), (Nat.le_of_ble_eq_true rfl)⟩ hE hP hD hS [0, 1] rfl (by decide) rfl rfl rfl hl.1 rfl (Nat.le_of_ble_eq_true rfl) d_Row_addZeros_9 ⟨(Nat.le_of_ble_eq_true rfl), (Nat.le_of_ble_eq_true rfl)⟩) (fun uu43 H locs hw hP hD hS => ?_)
  have hP : va_P G.1 kb_cl [kb_o h 1 [.ref (uu33.1 0), .int 22], kb_a G (uu33.1 0) 32 (uu43.2 0)] H := hP
  have hD : va_D A [kb_o h 1 [.ref (uu33.1 0), .int 22], kb_a G (uu33.1 0) 32 (uu43.2 0)] := hD
  refine lv_iinc (v := 22) (lv' := [(2, .int 22), (0, .ref h), (1, .int 56)]) hx hb d_Row_addZeros_12 hl (k := 0) rfl (by decide) (by decide) rfl (fun ls hl => ?_)
  refine lv_goto (tgt := 2) hx hb d_Row_addZeros_15 (by decide) ?_
  refine lv_iload_n hx hb d_Row_addZeros_2 rfl (lv_at hl 0 rfl) ?_
  refine lv_iload_n hx hb d_Row_addZeros_3 rfl (lv_at hl 2 rfl) ?_
  refine lv_icmp_ge (tgt := 18) hx hb d_Row_addZeros_4 (by decide) (fun c9 => absurd c9 (by decide)) (fun c9 => ?_)
  refine lv_aload_n hx hb d_Row_addZeros_7 rfl (lv_at hl 1 rfl) ?_
  refine lv_iconst (v := 0) hx hb d_Row_addZeros_8 (by decide) ?_
  refine kb_v (wc := [kb_o h 1 [.ref (uu33.1 0), .int 22], kb_a G (uu33.1 0) 32 (uu43.2 0)]) (wr := []) hE hP hD hS [0, 1] [] rfl rfl (by decide) (by decide) (kb_rV (As := [.int 0]) (rest := []) (wc := [kb_o h 1 [.ref (uu33.1 0), .int 22], kb_a G (uu33.1 0) 32 (uu43.2 0)]) (q0 := 0) ⟨hx, hb, hml, hown, ht⟩ ((c_Row_add_w l G h (uu33.1 0) 22 32 (uu43.2 0) 0 (by omega) (by omega)) _) (kb_gV wd_b959c18a wd_d7a504c3 wd_55347eca wd_4182e433 wd_0d22954f) ⟨rfl, hd_d22f4174⟩ ⟨(Nat.le_of_ble_eq_true rfl), (Nat.le_of_ble_eq_true rfl)⟩ hE hP hD hS [0, 1] rfl (by decide) rfl rfl rfl hl.1 rfl (Nat.le_of_ble_eq_true rfl) d_Row_addZeros_9 ⟨(Nat.le_of_ble_eq_true rfl), (Nat.le_of_ble_eq_true rfl)⟩) (fun uu45 H locs hw hP hD hS => ?_)
  have hP : va_P G.1 kb_cl [kb_o h 1 [.ref (uu33.1 0), .int 23], kb_a G (uu33.1 0) 32 (uu45.2 0)] H := hP
  have hD : va_D A [kb_o h 1 [.ref (uu33.1 0), .int 23], kb_a G (uu33.1 0) 32 (uu45.2 0)] := hD
  refine lv_iinc (v := 23) (lv' := [(2, .int 23), (0, .ref h), (1, .int 56)]) hx hb d_Row_addZeros_12 hl (k := 0) rfl (by decide) (by decide) rfl (fun ls hl => ?_)
  refine lv_goto (tgt := 2) hx hb d_Row_addZeros_15 (by decide) ?_
  refine lv_iload_n hx hb d_Row_addZeros_2 rfl (lv_at hl 0 rfl) ?_
  refine lv_iload_n hx hb d_Row_addZeros_3 rfl (lv_at hl 2 rfl) ?_
  refine lv_icmp_ge (tgt := 18) hx hb d_Row_addZeros_4 (by decide) (fun c9 => absurd c9 (by decide)) (fun c9 => ?_)
  refine lv_aload_n hx hb d_Row_addZeros_7 rfl (lv_at hl 1 rfl) ?_
  refine lv_iconst (v := 0) hx hb d_Row_addZeros_8 (by decide) ?_
  refine kb_v (wc := [kb_o h 1 [.ref (uu33.1 0), .int 23], kb_a G (uu33.1 0) 32 (uu45.2 0)]) (wr := []) hE hP hD hS [0, 1] [] rfl rfl (by decide) (by decide) (kb_rV (As := [.int 0]) (rest := []) (wc := [kb_o h 1 [.ref (uu33.1 0), .int 23], kb_a G (uu33.1 0) 32 (uu45.2 0)]) (q0 := 0) ⟨hx, hb, hml, hown, ht⟩ ((c_Row_add_w l G h (uu33.1 0) 23 32 (uu45.2 0) 0 (by omega) (by omega)) _) (kb_gV wd_b959c18a wd_d7a504c3 wd_55347eca wd_4182e433 wd_0d22954f) ⟨rfl, hd_d22f4174⟩ ⟨(Nat.le_of_ble_eq_true rfl), (Nat.le_of_ble_eq_true rfl)⟩ hE hP hD hS [0, 1] rfl (by decide) rfl rfl rfl hl.1 rfl (Nat.le_of_ble_eq_true rfl) d_Row_addZeros_9 ⟨(Nat.le_of_ble_eq_true rfl), (Nat.le_of_ble_eq_true rfl)⟩) (fun uu47 H locs hw hP hD hS => ?_)
  have hP : va_P G.1 kb_cl [kb_o h 1 [.ref (uu33.1 0), .int 24], kb_a G (uu33.1 0) 32 (uu47.2 0)] H := hP
  have hD : va_D A [kb_o h 1 [.ref (uu33.1 0), .int 24], kb_a G (uu33.1 0) 32 (uu47.2 0)] := hD
  refine lv_iinc (v := 24) (lv' := [(2, .int 24), (0, .ref h), (1, .int 56)]) hx hb d_Row_addZeros_12 hl (k := 0) rfl (by decide) (by decide) rfl (fun ls hl => ?_)
  refine lv_goto (tgt := 2) hx hb d_Row_addZeros_15 (by decide) ?_
  refine lv_iload_n hx hb d_Row_addZeros_2 rfl (lv_at hl 0 rfl) ?_
  refine lv_iload_n hx hb d_Row_addZeros_3 rfl (lv_at hl 2 rfl) ?_
  refine lv_icmp_ge (tgt := 18) hx hb d_Row_addZeros_4 (by decide) (fun c9 => absurd c9 (by decide)) (fun c9 => ?_)
  refine lv_aload_n hx hb d_Row_addZeros_7 rfl (lv_at hl 1 rfl) ?_
  refine lv_iconst (v := 0) hx hb d_Row_addZeros_8 (by decide) ?_
  refine kb_v (wc := [kb_o h 1 [.ref (uu33.1 0), .int 24], kb_a G (uu33.1 0) 32 (uu47.2 0)]) (wr := []) hE hP hD hS [0, 1] [] rfl rfl (by decide) (by decide) (kb_rV (As := [.int 0]) (rest := []) (wc := [kb_o h 1 [.ref (uu33.1 0), .int 24], kb_a G (uu33.1 0) 32 (uu47.2 0)]) (q0 := 0) ⟨hx, hb, hml, hown, ht⟩ ((c_Row_add_w l G h (uu33.1 0) 24 32 (uu47.2 0) 0 (by omega) (by omega)) _) (kb_gV wd_b959c18a wd_d7a504c3 wd_55347eca wd_4182e433 wd_0d22954f) ⟨rfl, hd_d22f4174⟩ ⟨(Nat.le_of_ble_eq_true rfl), (Nat.le_of_ble_eq_true rfl)⟩ hE hP hD hS [0, 1] rfl (by decide) rfl rfl rfl hl.1 rfl (Nat.le_of_ble_eq_true rfl) d_Row_addZeros_9 ⟨(Nat.le_of_ble_eq_true rfl), (Nat.le_of_ble_eq_true rfl)⟩) (fun uu49 H locs hw hP hD hS => ?_)
  have hP : va_P G.1 kb_cl [kb_o h 1 [.ref (uu33.1 0), .int 25], kb_a G (uu33.1 0) 32 (uu49.2 0)] H := hP
  have hD : va_D A [kb_o h 1 [.ref (uu33.1 0), .int 25], kb_a G (uu33.1 0) 32 (uu49.2 0)] := hD
  refine lv_iinc (v := 25) (lv' := [(2, .int 25), (0, .ref h), (1, .int 56)]) hx hb d_Row_addZeros_12 hl (k := 0) rfl (by decide) (by decide) rfl (fun ls hl => ?_)
  refine lv_goto (tgt := 2) hx hb d_Row_addZeros_15 (by decide) ?_
  refine lv_iload_n hx hb d_Row_addZeros_2 rfl (lv_at hl 0 rfl) ?_
  refine lv_iload_n hx hb d_Row_addZeros_3 rfl (lv_at hl 2 rfl) ?_
  refine lv_icmp_ge (tgt := 18) hx hb d_Row_addZeros_4 (by decide) (fun c9 => absurd c9 (by decide)) (fun c9 => ?_)
  refine lv_aload_n hx hb d_Row_addZeros_7 rfl (lv_at hl 1 rfl) ?_
  refine lv_iconst (v := 0) hx hb d_Row_addZeros_8 (by decide) ?_
  refine kb_v (wc := [kb_o h 1 [.ref (uu33.1 0), .int 25], kb_a G (uu33.1 0) 32 (uu49.2 0)]) (wr := []) hE hP hD hS [0, 1] [] rfl rfl (by decide) (by decide) (kb_rV (As := [.int 0]) (rest := []) (wc := [kb_o h 1 [.ref (uu33.1 0), .int 25], kb_a G (uu33.1 0) 32 (uu49.2 0)]) (q0 := 0) ⟨hx, hb, hml, hown, ht⟩ ((c_Row_add_w l G h (uu33.1 0) 25 32 (uu49.2 0) 0 (by omega) (by omega)) _) (kb_gV wd_b959c18a wd_d7a504c3 wd_55347eca wd_4182e433 wd_0d22954f) ⟨rfl, hd_d22f4174⟩ ⟨(Nat.le_of_ble_eq_true rfl), (Nat.le_of_ble_eq_true rfl)⟩ hE hP hD hS [0, 1] rfl (by decide) rfl rfl rfl hl.1 rfl (Nat.le_of_ble_eq_true rfl) d_Row_addZeros_9 ⟨(Nat.le_of_ble_eq_true rfl), (Nat.le_of_ble_eq_true rfl)⟩) (fun uu51 H locs hw hP hD hS => ?_)
  have hP : va_P G.1 kb_cl [kb_o h 1 [.ref (uu33.1 0), .int 26], kb_a G (uu33.1 0) 32 (uu51.2 0)] H := hP
  have hD : va_D A [kb_o h 1 [.ref (uu33.1 0), .int 26], kb_a G (uu33.1 0) 32 (uu51.2 0)] := hD
  refine lv_iinc (v := 26) (lv' := [(2, .int 26), (0, .ref h), (1, .int 56)]) hx hb d_Row_addZeros_12 hl (k := 0) rfl (by decide) (by decide) rfl (fun ls hl => ?_)
  refine lv_goto (tgt := 2) hx hb d_Row_addZeros_15 (by decide) ?_
  refine lv_iload_n hx hb d_Row_addZeros_2 rfl (lv_at hl 0 rfl) ?_
  refine lv_iload_n hx hb d_Row_addZeros_3 rfl (lv_at hl 2 rfl) ?_
  refine lv_icmp_ge (tgt := 18) hx hb d_Row_addZeros_4 (by decide) (fun c9 => absurd c9 (by decide)) (fun c9 => ?_)
  refine lv_aload_n hx hb d_Row_addZeros_7 rfl (lv_at hl 1 rfl) ?_
  refine lv_iconst (v := 0) hx hb d_Row_addZeros_8 (by decide) ?_
  refine kb_v (wc := [kb_o h 1 [.ref (uu33.1 0), .int 26], kb_a G (uu33.1 0) 32 (uu51.2 0)]) (wr := []) hE hP hD hS [0, 1] [] rfl rfl (by decide) (by decide) (kb_rV (As := [.int 0]) (rest := []) (wc := [kb_o h 1 [.ref (uu33.1 0), .int 26], kb_a G (uu33.1 0) 32 (uu51.2 0)]) (q0 := 0) ⟨hx, hb, hml, hown, ht⟩ ((c_Row_add_w l G h (uu33.1 0) 26 32 (uu51.2 0) 0 (by omega) (by omega)) _) (kb_gV wd_b959c18a wd_d7a504c3 wd_55347eca wd_4182e433 wd_0d22954f) ⟨rfl, hd_d22f4174⟩ ⟨(Nat.le_of_ble_eq_true rfl), (Nat.le_of_ble_eq_true rfl)⟩ hE hP hD hS [0, 1] rfl (by decide) rfl rfl rfl hl.1 rfl (Nat.le_of_ble_eq_true rfl) d_Row_addZeros_9 ⟨(Nat.le_of_ble_eq_true rfl), (Nat.le_of_ble_eq_true rfl)⟩) (fun uu53 H locs hw hP hD hS => ?_)
  have hP : va_P G.1 kb_cl [kb_o h 1 [.ref (uu33.1 0), .int 27], kb_a G (uu33.1 0) 32 (uu53.2 0)] H := hP
  have hD : va_D A [kb_o h 1 [.ref (uu33.1 0), .int 27], kb_a G (uu33.1 0) 32 (uu53.2 0)] := hD
  refine lv_iinc (v := 27) (lv' := [(2, .int 27), (0, .ref h), (1, .int 56)]) hx hb d_Row_addZeros_12 hl (k := 0) rfl (by decide) (by decide) rfl (fun ls hl => ?_)
  refine lv_goto (tgt := 2) hx hb d_Row_addZeros_15 (by decide) ?_
  refine lv_iload_n hx hb d_Row_addZeros_2 rfl (lv_at hl 0 rfl) ?_
  refine lv_iload_n hx hb d_Row_addZeros_3 rfl (lv_at hl 2 rfl) ?_
  refine lv_icmp_ge (tgt := 18) hx hb d_Row_addZeros_4 (by decide) (fun c9 => absurd c9 (by decide)) (fun c9 => ?_)
  refine lv_aload_n hx hb d_Row_addZeros_7 rfl (lv_at hl 1 rfl) ?_
  refine lv_iconst (v := 0) hx hb d_Row_addZeros_8 (by decide) ?_
  refine kb_v (wc := [kb_o h 1 [.ref (uu33.1 0), .int 27], kb_a G (uu33.1 0) 32 (uu53.2 0)]) (wr := []) hE hP hD hS [0, 1] [] rfl rfl (by decide) (by decide) (kb_rV (As := [.int 0]) (rest := []) (wc := [kb_o h 1 [.ref (uu33.1 0), .int 27], kb_a G (uu33.1 0) 32 (uu53.2 0)]) (q0 := 0) ⟨hx, hb, hml, hown, ht⟩ ((c_Row_add_w l G h (uu33.1 0) 27 32 (uu53.2 0) 0 (by omega) (by omega)) _) (kb_gV wd_b959c18a wd_d7a504c3 wd_55347eca wd_4182e433 wd_0d22954f) ⟨rfl, hd_d22f4174⟩ ⟨(Nat.le_of_ble_eq_true rfl), (Nat.le_of_ble_eq_true rfl)⟩ hE hP hD hS [0, 1] rfl (by decide) rfl rfl rfl hl.1 rfl (Nat.le_of_ble_eq_true rfl) d_Row_addZeros_9 ⟨(Nat.le_of_ble_eq_true rfl), (Nat.le_of_ble_eq_true rfl)⟩) (fun uu55 H locs hw hP hD hS => ?_)
  have hP : va_P G.1 kb_cl [kb_o h 1 [.ref (uu33.1 0), .int 28], kb_a G (uu33.1 0) 32 (uu55.2 0)] H := hP
  have hD : va_D A [kb_o h 1 [.ref (uu33.1 0), .int 28], kb_a G (uu33.1 0) 32 (uu55.2 0)] := hD
  refine lv_iinc (v := 28) (lv' := [(2, .int 28), (0, .ref h), (1, .int 56)]) hx hb d_Row_addZeros_12 hl (k := 0) rfl (by decide) (by decide) rfl (fun ls hl => ?_)
  refine lv_goto (tgt := 2) hx hb d_Row_addZeros_15 (by decide) ?_
  refine lv_iload_n hx hb d_Row_addZeros_2 rfl (lv_at hl 0 rfl) ?_
  refine lv_iload_n hx hb d_Row_addZeros_3 rfl (lv_at hl 2 rfl) ?_
  refine lv_icmp_ge (tgt := 18) hx hb d_Row_addZeros_4 (by decide) (fun c9 => absurd c9 (by decide)) (fun c9 => ?_)
  refine lv_aload_n hx hb d_Row_addZeros_7 rfl (lv_at hl 1 rfl) ?_
  refine lv_iconst (v := 0) hx hb d_Row_addZeros_8 (by decide) ?_
  refine kb_v (wc := [kb_o h 1 [.ref (uu33.1 0), .int 28], kb_a G (uu33.1 0) 32 (uu55.2 0)]) (wr := []) hE hP hD hS [0, 1] [] rfl rfl (by decide) (by decide) (kb_rV (As := [.int 0]) (rest := []) (wc := [kb_o h 1 [.ref (uu33.1 0), .int 28], kb_a G (uu33.1 0) 32 (uu55.2 0)]) (q0 := 0) ⟨hx, hb, hml, hown, ht⟩ ((c_Row_add_w l G h (uu33.1 0) 28 32 (uu55.2 0) 0 (by omega) (by omega)) _) (kb_gV wd_b959c18a wd_d7a504c3 wd_55347eca wd_4182e433 wd_0d22954f) ⟨rfl, hd_d22f4174⟩ ⟨(Nat.le_of_ble_eq_true rfl), (Nat.le_of_ble_eq_true rfl)⟩ hE hP hD hS [0, 1] rfl (by decide) rfl rfl rfl hl.1 rfl (Nat.le_of_ble_eq_true rfl) d_Row_addZeros_9 ⟨(Nat.le_of_ble_eq_true rfl), (Nat.le_of_ble_eq_true rfl)⟩) (fun uu57 H locs hw hP hD hS => ?_)
  have hP : va_P G.1 kb_cl [kb_o h 1 [.ref (uu33.1 0), .int 29], kb_a G (uu33.1 0) 32 (uu57.2 0)] H := hP
  have hD : va_D A [kb_o h 1 [.ref (uu33.1 0), .int 29], kb_a G (uu33.1 0) 32 (uu57.2 0)] := hD
  refine lv_iinc (v := 29) (lv' := [(2, .int 29), (0, .ref h), (1, .int 56)]) hx hb d_Row_addZeros_12 hl (k := 0) rfl (by decide) (by decide) rfl (fun ls hl => ?_)
  refine lv_goto (tgt := 2) hx hb d_Row_addZeros_15 (by decide) ?_
  refine lv_iload_n hx hb d_Row_addZeros_2 rfl (lv_at hl 0 rfl) ?_
  refine lv_iload_n hx hb d_Row_addZeros_3 rfl (lv_at hl 2 rfl) ?_
  refine lv_icmp_ge (tgt := 18) hx hb d_Row_addZeros_4 (by decide) (fun c9 => absurd c9 (by decide)) (fun c9 => ?_)
  refine lv_aload_n hx hb d_Row_addZeros_7 rfl (lv_at hl 1 rfl) ?_
  refine lv_iconst (v := 0) hx hb d_Row_addZeros_8 (by decide) ?_
  refine kb_v (wc := [kb_o h 1 [.ref (uu33.1 0), .int 29], kb_a G (uu33.1 0) 32 (uu57.2 0)]) (wr := []) hE hP hD hS [0, 1] [] rfl rfl (by decide) (by decide) (kb_rV (As := [.int 0]) (rest := []) (wc := [kb_o h 1 [.ref (uu33.1 0), .int 29], kb_a G (uu33.1 0) 32 (uu57.2 0)]) (q0 := 0) ⟨hx, hb, hml, hown, ht⟩ ((c_Row_add_w l G h (uu33.1 0) 29 32 (uu57.2 0) 0 (by omega) (by omega)) _) (kb_gV wd_b959c18a wd_d7a504c3 wd_55347eca wd_4182e433 wd_0d22954f) ⟨rfl, hd_d22f4174⟩ ⟨(Nat.le_of_ble_eq_true rfl), (Nat.le_of_ble_eq_true rfl)⟩ hE hP hD hS [0, 1] rfl (by decide) rfl rfl rfl hl.1 rfl (Nat.le_of_ble_eq_true rfl) d_Row_addZeros_9 ⟨(Nat.le_of_ble_eq_true rfl), (Nat.le_of_ble_eq_true rfl)⟩) (fun uu59 H locs hw hP hD hS => ?_)
  have hP : va_P G.1 kb_cl [kb_o h 1 [.ref (uu33.1 0), .int 30], kb_a G (uu33.1 0) 32 (uu59.2 0)] H := hP
  have hD : va_D A [kb_o h 1 [.ref (uu33.1 0), .int 30], kb_a G (uu33.1 0) 32 (uu59.2 0)] := hD
  refine lv_iinc (v := 30) (lv' := [(2, .int 30), (0, .ref h), (1, .int 56)]) hx hb d_Row_addZeros_12 hl (k := 0) rfl (by decide) (by decide) rfl (fun ls hl => ?_)
  refine lv_goto (tgt := 2) hx hb d_Row_addZeros_15 (by decide) ?_
  refine lv_iload_n hx hb d_Row_addZeros_2 rfl (lv_at hl 0 rfl) ?_
  refine lv_iload_n hx hb d_Row_addZeros_3 rfl (lv_at hl 2 rfl) ?_
  refine lv_icmp_ge (tgt := 18) hx hb d_Row_addZeros_4 (by decide) (fun c9 => absurd c9 (by decide)) (fun c9 => ?_)
  refine lv_aload_n hx hb d_Row_addZeros_7 rfl (lv_at hl 1 rfl) ?_
  refine lv_iconst (v := 0) hx hb d_Row_addZeros_8 (by decide) ?_
  refine kb_v (wc := [kb_o h 1 [.ref (uu33.1 0), .int 30], kb_a G (uu33.1 0) 32 (uu59.2 0)]) (wr := []) hE hP hD hS [0, 1] [] rfl rfl (by decide) (by decide) (kb_rV (As := [.int 0]) (rest := []) (wc := [kb_o h 1 [.ref (uu33.1 0), .int 30], kb_a G (uu33.1 0) 32 (uu59.2 0)]) (q0 := 0) ⟨hx, hb, hml, hown, ht⟩ ((c_Row_add_w l G h (uu33.1 0) 30 32 (uu59.2 0) 0 (by omega) (by omega)) _) (kb_gV wd_b959c18a wd_d7a504c3 wd_55347eca wd_4182e433 wd_0d22954f) ⟨rfl, hd_d22f4174⟩ ⟨(Nat.le_of_ble_eq_true rfl), (Nat.le_of_ble_eq_true rfl)⟩ hE hP hD hS [0, 1] rfl (by decide) rfl rfl rfl hl.1 rfl (Nat.le_of_ble_eq_true rfl) d_Row_addZeros_9 ⟨(Nat.le_of_ble_eq_true rfl), (Nat.le_of_ble_eq_true rfl)⟩) (fun uu61 H locs hw hP hD hS => ?_)
  have hP : va_P G.1 kb_cl [kb_o h 1 [.ref (uu33.1 0), .int 31], kb_a G (uu33.1 0) 32 (uu61.2 0)] H := hP
  have hD : va_D A [kb_o h 1 [.ref (uu33.1 0), .int 31], kb_a G (uu33.1 0) 32 (uu61.2 0)] := hD
  refine lv_iinc (v := 31) (lv' := [(2, .int 31), (0, .ref h), (1, .int 56)]) hx hb d_Row_addZeros_12 hl (k := 0) rfl (by decide) (by decide) rfl (fun ls hl => ?_)
  refine lv_goto (tgt := 2) hx hb d_Row_addZeros_15 (by decide) ?_
  refine lv_iload_n hx hb d_Row_addZeros_2 rfl (lv_at hl 0 rfl) ?_
  refine lv_iload_n hx hb d_Row_addZeros_3 rfl (lv_at hl 2 rfl) ?_
  refine lv_icmp_ge (tgt := 18) hx hb d_Row_addZeros_4 (by decide) (fun c9 => absurd c9 (by decide)) (fun c9 => ?_)
  refine lv_aload_n hx hb d_Row_addZeros_7 rfl (lv_at hl 1 rfl) ?_
  refine lv_iconst (v := 0) hx hb d_Row_addZeros_8 (by decide) ?_
  refine kb_v (wc := [kb_o h 1 [.ref (uu33.1 0), .int 31], kb_a G (uu33.1 0) 32 (uu61.2 0)]) (wr := []) hE hP hD hS [0, 1] [] rfl rfl (by decide) (by decide) (kb_rV (As := [.int 0]) (rest := []) (wc := [kb_o h 1 [.ref (uu33.1 0), .int 31], kb_a G (uu33.1 0) 32 (uu61.2 0)]) (q0 := 0) ⟨hx, hb, hml, hown, ht⟩ ((c_Row_add_w l G h (uu33.1 0) 31 32 (uu61.2 0) 0 (by omega) (by omega)) _) (kb_gV wd_b959c18a wd_d7a504c3 wd_55347eca wd_4182e433 wd_0d22954f) ⟨rfl, hd_d22f4174⟩ ⟨(Nat.le_of_ble_eq_true rfl), (Nat.le_of_ble_eq_true rfl)⟩ hE hP hD hS [0, 1] rfl (by decide) rfl rfl rfl hl.1 rfl (Nat.le_of_ble_eq_true rfl) d_Row_addZeros_9 ⟨(Nat.le_of_ble_eq_true rfl), (Nat.le_of_ble_eq_true rfl)⟩) (fun uu63 H locs hw hP hD hS => ?_)
  have hP : va_P G.1 kb_cl [kb_o h 1 [.ref (uu33.1 0), .int 32], kb_a G (uu33.1 0) 32 (uu63.2 0)] H := hP
  have hD : va_D A [kb_o h 1 [.ref (uu33.1 0), .int 32], kb_a G (uu33.1 0) 32 (uu63.2 0)] := hD
  refine lv_iinc (v := 32) (lv' := [(2, .int 32), (0, .ref h), (1, .int 56)]) hx hb d_Row_addZeros_12 hl (k := 0) rfl (by decide) (by decide) rfl (fun ls hl => ?_)
  refine lv_goto (tgt := 2) hx hb d_Row_addZeros_15 (by decide) ?_
  refine lv_iload_n hx hb d_Row_addZeros_2 rfl (lv_at hl 0 rfl) ?_
  refine lv_iload_n hx hb d_Row_addZeros_3 rfl (lv_at hl 2 rfl) ?_
  refine lv_icmp_ge (tgt := 18) hx hb d_Row_addZeros_4 (by decide) (fun c9 => absurd c9 (by decide)) (fun c9 => ?_)
  refine lv_aload_n hx hb d_Row_addZeros_7 rfl (lv_at hl 1 rfl) ?_
  refine lv_iconst (v := 0) hx hb d_Row_addZeros_8 (by decide) ?_
  refine kb_v (wc := [kb_o h 1 [.ref (uu33.1 0), .int 32], kb_a G (uu33.1 0) 32 (uu63.2 0)]) (wr := []) hE hP hD hS [0, 1] [] rfl rfl (by decide) (by decide) (kb_rV (As := [.int 0]) (rest := []) (wc := [kb_o h 1 [.ref (uu33.1 0), .int 32], kb_a G (uu33.1 0) 32 (uu63.2 0)]) (q0 := 0) ⟨hx, hb, hml, hown, ht⟩ ((c_Row_add_g32 l G h (uu33.1 0) (uu63.2 0) 0) _) (kb_gV wd_b959c18a wd_d7a504c3 wd_55347eca wd_4182e433 wd_0d22954f) ⟨rfl, hd_d22f4174⟩ ⟨(Nat.le_of_ble_eq_true rfl), (Nat.le_of_ble_eq_true rfl)⟩ hE hP hD hS [0, 1] rfl (by decide) rfl rfl rfl hl.1 rfl (Nat.le_of_ble_eq_true rfl) d_Row_addZeros_9 ⟨(Nat.le_of_ble_eq_true rfl), (Nat.le_of_ble_eq_true rfl)⟩) (fun uu65 H locs hw hP hD hS => ?_)
  have hP : va_P G.1 kb_cl [kb_o h 1 [.ref (uu65.1 0), .int 33], kb_a G (uu65.1 0) 64 (upd (uu65.2 0) 32 0)] H := hP
  have hD : va_D A [kb_o h 1 [.ref (uu65.1 0), .int 33], kb_a G (uu65.1 0) 64 (upd (uu65.2 0) 32 0)] := hD
  refine lv_iinc (v := 33) (lv' := [(2, .int 33), (0, .ref h), (1, .int 56)]) hx hb d_Row_addZeros_12 hl (k := 0) rfl (by decide) (by decide) rfl (fun ls hl => ?_)
  refine lv_goto (tgt := 2) hx hb d_Row_addZeros_15 (by decide) ?_
  refine lv_iload_n hx hb d_Row_addZeros_2 rfl (lv_at hl 0 rfl) ?_
  refine lv_iload_n hx hb d_Row_addZeros_3 rfl (lv_at hl 2 rfl) ?_
  refine lv_icmp_ge (tgt := 18) hx hb d_Row_addZeros_4 (by decide) (fun c9 => absurd c9 (by decide)) (fun c9 => ?_)
  refine lv_aload_n hx hb d_Row_addZeros_7 rfl (lv_at hl 1 rfl) ?_
  refine lv_iconst (v := 0) hx hb d_Row_addZeros_8 (by decide) ?_
  refine kb_v (wc := [kb_o h 1 [.ref (uu65.1 0), .int 33], kb_a G (uu65.1 0) 64 (upd (uu65.2 0) 32 0)]) (wr := []) hE hP hD hS [0, 1] [] rfl rfl (by decide) (by decide) (kb_rV (As := [.int 0]) (rest := []) (wc := [kb_o h 1 [.ref (uu65.1 0), .int 33], kb_a G (uu65.1 0) 64 (upd (uu65.2 0) 32 0)]) (q0 := 0) ⟨hx, hb, hml, hown, ht⟩ ((c_Row_add_w l G h (uu65.1 0) 33 64 (upd (uu65.2 0) 32 0) 0 (by omega) (by omega)) _) (kb_gV wd_b959c18a wd_d7a504c3 wd_55347eca wd_4182e433 wd_0d22954f) ⟨rfl, hd_d22f4174⟩ ⟨(Nat.le_of_ble_eq_true rfl), (Nat.le_of_ble_eq_true rfl)⟩ hE hP hD hS [0, 1] rfl (by decide) rfl rfl rfl hl.1 rfl (Nat.le_of_ble_eq_true rfl) d_Row_addZeros_9 ⟨(Nat.le_of_ble_eq_true rfl), (Nat.le_of_ble_eq_true rfl)⟩) (fun uu67 H locs hw hP hD hS => ?_)
  have hP : va_P G.1 kb_cl [kb_o h 1 [.ref (uu65.1 0), .int 34], kb_a G (uu65.1 0) 64 (uu67.2 0)] H := hP
  have hD : va_D A [kb_o h 1 [.ref (uu65.1 0), .int 34], kb_a G (uu65.1 0) 64 (uu67.2 0)] := hD
  refine lv_iinc (v := 34) (lv' := [(2, .int 34), (0, .ref h), (1, .int 56)]) hx hb d_Row_addZeros_12 hl (k := 0) rfl (by decide) (by decide) rfl (fun ls hl => ?_)
  refine lv_goto (tgt := 2) hx hb d_Row_addZeros_15 (by decide) ?_
  refine lv_iload_n hx hb d_Row_addZeros_2 rfl (lv_at hl 0 rfl) ?_
  refine lv_iload_n hx hb d_Row_addZeros_3 rfl (lv_at hl 2 rfl) ?_
  refine lv_icmp_ge (tgt := 18) hx hb d_Row_addZeros_4 (by decide) (fun c9 => absurd c9 (by decide)) (fun c9 => ?_)
  refine lv_aload_n hx hb d_Row_addZeros_7 rfl (lv_at hl 1 rfl) ?_
  refine lv_iconst (v := 0) hx hb d_Row_addZeros_8 (by decide) ?_
  refine kb_v (wc := [kb_o h 1 [.ref (uu65.1 0), .int 34], kb_a G (uu65.1 0) 64 (uu67.2 0)]) (wr := []) hE hP hD hS [0, 1] [] rfl rfl (by decide) (by decide) (kb_rV (As := [.int 0]) (rest := []) (wc := [kb_o h 1 [.ref (uu65.1 0), .int 34], kb_a G (uu65.1 0) 64 (uu67.2 0)]) (q0 := 0) ⟨hx, hb, hml, hown, ht⟩ ((c_Row_add_w l G h (uu65.1 0) 34 64 (uu67.2 0) 0 (by omega) (by omega)) _) (kb_gV wd_b959c18a wd_d7a504c3 wd_55347eca wd_4182e433 wd_0d22954f) ⟨rfl, hd_d22f4174⟩ ⟨(Nat.le_of_ble_eq_true rfl), (Nat.le_of_ble_eq_true rfl)⟩ hE hP hD hS [0, 1] rfl (by decide) rfl rfl rfl hl.1 rfl (Nat.le_of_ble_eq_true rfl) d_Row_addZeros_9 ⟨(Nat.le_of_ble_eq_true rfl), (Nat.le_of_ble_eq_true rfl)⟩) (fun uu69 H locs hw hP hD hS => ?_)
  have hP : va_P G.1 kb_cl [kb_o h 1 [.ref (uu65.1 0), .int 35], kb_a G (uu65.1 0) 64 (uu69.2 0)] H := hP
  have hD : va_D A [kb_o h 1 [.ref (uu65.1 0), .int 35], kb_a G (uu65.1 0) 64 (uu69.2 0)] := hD
  refine lv_iinc (v := 35) (lv' := [(2, .int 35), (0, .ref h), (1, .int 56)]) hx hb d_Row_addZeros_12 hl (k := 0) rfl (by decide) (by decide) rfl (fun ls hl => ?_)
  refine lv_goto (tgt := 2) hx hb d_Row_addZeros_15 (by decide) ?_
  refine lv_iload_n hx hb d_Row_addZeros_2 rfl (lv_at hl 0 rfl) ?_
  refine lv_iload_n hx hb d_Row_addZeros_3 rfl (lv_at hl 2 rfl) ?_
  refine lv_icmp_ge (tgt := 18) hx hb d_Row_addZeros_4 (by decide) (fun c9 => absurd c9 (by decide)) (fun c9 => ?_)
  refine lv_aload_n hx hb d_Row_addZeros_7 rfl (lv_at hl 1 rfl) ?_
  refine lv_iconst (v := 0) hx hb d_Row_addZeros_8 (by decide) ?_
  refine kb_v (wc := [kb_o h 1 [.ref (uu65.1 0), .int 35], kb_a G (uu65.1 0) 64 (uu69.2 0)]) (wr := []) hE hP hD hS [0, 1] [] rfl rfl (by decide) (by decide) (kb_rV (As := [.int 0]) (rest := []) (wc := [kb_o h 1 [.ref (uu65.1 0), .int 35], kb_a G (uu65.1 0) 64 (uu69.2 0)]) (q0 := 0) ⟨hx, hb, hml, hown, ht⟩ ((c_Row_add_w l G h (uu65.1 0) 35 64 (uu69.2 0) 0 (by omega) (by omega)) _) (kb_gV wd_b959c18a wd_d7a504c3 wd_55347eca wd_4182e433 wd_0d22954f) ⟨rfl, hd_d22f4174⟩ ⟨(Nat.le_of_ble_eq_true rfl), (Nat.le_of_ble_eq_true rfl)⟩ hE hP hD hS [0, 1] rfl (by decide) rfl rfl rfl hl.1 rfl (Nat.le_of_ble_eq_true rfl) d_Row_addZeros_9 ⟨(Nat.le_of_ble_eq_true rfl), (Nat.le_of_ble_eq_true rfl)⟩) (fun uu71 H locs hw hP hD hS => ?_)
  have hP : va_P G.1 kb_cl [kb_o h 1 [.ref (uu65.1 0), .int 36], kb_a G (uu65.1 0) 64 (uu71.2 0)] H := hP
  have hD : va_D A [kb_o h 1 [.ref (uu65.1 0), .int 36], kb_a G (uu65.1 0) 64 (uu71.2 0)] := hD
  refine lv_iinc (v := 36) (lv' := [(2, .int 36), (0, .ref h), (1, .int 56)]) hx hb d_Row_addZeros_12 hl (k := 0) rfl (by decide) (by decide) rfl (fun ls hl => ?_)
  refine lv_goto (tgt := 2) hx hb d_Row_addZeros_15 (by decide) ?_
  refine lv_iload_n hx hb d_Row_addZeros_2 rfl (lv_at hl 0 rfl) ?_
  refine lv_iload_n hx hb d_Row_addZeros_3 rfl (lv_at hl 2 rfl) ?_
  refine lv_icmp_ge (tgt := 18) hx hb d_Row_addZeros_4 (by decide) (fun c9 => absurd c9 (by decide)) (fun c9 => ?_)
  refine lv_aload_n hx hb d_Row_addZeros_7 rfl (lv_at hl 1 rfl) ?_
  refine lv_iconst (v := 0) hx hb d_Row_addZeros_8 (by decide) ?_
  refine kb_v (wc := [kb_o h 1 [.ref (uu65.1 0), .int 36], kb_a G (uu65.1 0) 64 (uu71.2 0)]) (wr := []) hE hP hD hS [0, 1] [] rfl rfl (by decide) (by decide) (kb_rV (As := [.int 0]) (rest := []) (wc := [kb_o h 1 [.ref (uu65.1 0), .int 36], kb_a G (uu65.1 0) 64 (uu71.2 0)]) (q0 := 0) ⟨hx, hb, hml, hown, ht⟩ ((c_Row_add_w l G h (uu65.1 0) 36 64 (uu71.2 0) 0 (by omega) (by omega)) _) (kb_gV wd_b959c18a wd_d7a504c3 wd_55347eca wd_4182e433 wd_0d22954f) ⟨rfl, hd_d22f4174⟩ ⟨(Nat.le_of_ble_eq_true rfl), (Nat.le_of_ble_eq_true rfl)⟩ hE hP hD hS [0, 1] rfl (by decide) rfl rfl rfl hl.1 rfl (Nat.le_of_ble_eq_true rfl) d_Row_addZeros_9 ⟨(Nat.le_of_ble_eq_true rfl), (Nat.le_of_ble_eq_true rfl)⟩) (fun uu73 H locs hw hP hD hS => ?_)
  have hP : va_P G.1 kb_cl [kb_o h 1 [.ref (uu65.1 0), .int 37], kb_a G (uu65.1 0) 64 (uu73.2 0)] H := hP
  have hD : va_D A [kb_o h 1 [.ref (uu65.1 0), .int 37], kb_a G (uu65.1 0) 64 (uu73.2 0)] := hD
  refine lv_iinc (v := 37) (lv' := [(2, .int 37), (0, .ref h), (1, .int 56)]) hx hb d_Row_addZeros_12 hl (k := 0) rfl (by decide) (by decide) rfl (fun ls hl => ?_)
  refine lv_goto (tgt := 2) hx hb d_Row_addZeros_15 (by decide) ?_
  refine lv_iload_n hx hb d_Row_addZeros_2 rfl (lv_at hl 0 rfl) ?_
  refine lv_iload_n hx hb d_Row_addZeros_3 rfl (lv_at hl 2 rfl) ?_
  refine lv_icmp_ge (tgt := 18) hx hb d_Row_addZeros_4 (by decide) (fun c9 => absurd c9 (by decide)) (fun c9 => ?_)
  refine lv_aload_n hx hb d_Row_addZeros_7 rfl (lv_at hl 1 rfl) ?_
  refine lv_iconst (v := 0) hx hb d_Row_addZeros_8 (by decide) ?_
  refine kb_v (wc := [kb_o h 1 [.ref (uu65.1 0), .int 37], kb_a G (uu65.1 0) 64 (uu73.2 0)]) (wr := []) hE hP hD hS [0, 1] [] rfl rfl (by decide) (by decide) (kb_rV (As := [.int 0]) (rest := []) (wc := [kb_o h 1 [.ref (uu65.1 0), .int 37], kb_a G (uu65.1 0) 64 (uu73.2 0)]) (q0 := 0) ⟨hx, hb, hml, hown, ht⟩ ((c_Row_add_w l G h (uu65.1 0) 37 64 (uu73.2 0) 0 (by omega) (by omega)) _) (kb_gV wd_b959c18a wd_d7a504c3 wd_55347eca wd_4182e433 wd_0d22954f) ⟨rfl, hd_d22f4174⟩ ⟨(Nat.le_of_ble_eq_true rfl), (Nat.le_of_ble_eq_true rfl)⟩ hE hP hD hS [0, 1] rfl (by decide) rfl rfl rfl hl.1 rfl (Nat.le_of_ble_eq_true rfl) d_Row_addZeros_9 ⟨(Nat.le_of_ble_eq_true rfl), (Nat.le_of_ble_eq_true rfl)⟩) (fun uu75 H locs hw hP hD hS => ?_)
  have hP : va_P G.1 kb_cl [kb_o h 1 [.ref (uu65.1 0), .int 38], kb_a G (uu65.1 0) 64 (uu75.2 0)] H := hP
  have hD : va_D A [kb_o h 1 [.ref (uu65.1 0), .int 38], kb_a G (uu65.1 0) 64 (uu75.2 0)] := hD
  refine lv_iinc (v := 38) (lv' := [(2, .int 38), (0, .ref h), (1, .int 56)]) hx hb d_Row_addZeros_12 hl (k := 0) rfl (by decide) (by decide) rfl (fun ls hl => ?_)
  refine lv_goto (tgt := 2) hx hb d_Row_addZeros_15 (by decide) ?_
  refine lv_iload_n hx hb d_Row_addZeros_2 rfl (lv_at hl 0 rfl) ?_
  refine lv_iload_n hx hb d_Row_addZeros_3 rfl (lv_at hl 2 rfl) ?_
  refine lv_icmp_ge (tgt := 18) hx hb d_Row_addZeros_4 (by decide) (fun c9 => absurd c9 (by decide)) (fun c9 => ?_)
  refine lv_aload_n hx hb d_Row_addZeros_7 rfl (lv_at hl 1 rfl) ?_
  refine lv_iconst (v := 0) hx hb d_Row_addZeros_8 (by decide) ?_
  refine kb_v (wc := [kb_o h 1 [.ref (uu65.1 0), .int 38], kb_a G (uu65.1 0) 64 (uu75.2 0)]) (wr := []) hE hP hD hS [0, 1] [] rfl rfl (by decide) (by decide) (kb_rV (As := [.int 0]) (rest := []) (wc := [kb_o h 1 [.ref (uu65.1 0), .int 38], kb_a G (uu65.1 0) 64 (uu75.2 0)]) (q0 := 0) ⟨hx, hb, hml, hown, ht⟩ ((c_Row_add_w l G h (uu65.1 0) 38 64 (uu75.2 0) 0 (by omega) (by omega)) _) (kb_gV wd_b959c18a wd_d7a504c3 wd_55347eca wd_4182e433 wd_0d22954f) ⟨rfl, hd_d22f4174⟩ ⟨(Nat.le_of_ble_eq_true rfl), (Nat.le_of_ble_eq_true rfl)⟩ hE hP hD hS [0, 1] rfl (by decide) rfl rfl rfl hl.1 rfl (Nat.le_of_ble_eq_true rfl) d_Row_addZeros_9 ⟨(Nat.le_of_ble_eq_true rfl), (Nat.le_of_ble_eq_true rfl)⟩) (fun uu77 H locs hw hP hD hS => ?_)
  have hP : va_P G.1 kb_cl [kb_o h 1 [.ref (uu65.1 0), .int 39], kb_a G (uu65.1 0) 64 (uu77.2 0)] H := hP
  have hD : va_D A [kb_o h 1 [.ref (uu65.1 0), .int 39], kb_a G (uu65.1 0) 64 (uu77.2 0)] := hD
  refine lv_iinc (v := 39) (lv' := [(2, .int 39), (0, .ref h), (1, .int 56)]) hx hb d_Row_addZeros_12 hl (k := 0) rfl (by decide) (by decide) rfl (fun ls hl => ?_)
  refine lv_goto (tgt := 2) hx hb d_Row_addZeros_15 (by decide) ?_
  refine lv_iload_n hx hb d_Row_addZeros_2 rfl (lv_at hl 0 rfl) ?_
  refine lv_iload_n hx hb d_Row_addZeros_3 rfl (lv_at hl 2 rfl) ?_
  refine lv_icmp_ge (tgt := 18) hx hb d_Row_addZeros_4 (by decide) (fun c9 => absurd c9 (by decide)) (fun c9 => ?_)
  refine lv_aload_n hx hb d_Row_addZeros_7 rfl (lv_at hl 1 rfl) ?_
  refine lv_iconst (v := 0) hx hb d_Row_addZeros_8 (by decide) ?_
  refine kb_v (wc := [kb_o h 1 [.ref (uu65.1 0), .int 39], kb_a G (uu65.1 0) 64 (uu77.2 0)]) (wr := []) hE hP hD hS [0, 1] [] rfl rfl (by decide) (by decide) (kb_rV (As := [.int 0]) (rest := []) (wc := [kb_o h 1 [.ref (uu65.1 0), .int 39], kb_a G (uu65.1 0) 64 (uu77.2 0)]) (q0 := 0) ⟨hx, hb, hml, hown, ht⟩ ((c_Row_add_w l G h (uu65.1 0) 39 64 (uu77.2 0) 0 (by omega) (by omega)) _) (kb_gV wd_b959c18a wd_d7a504c3 wd_55347eca wd_4182e433 wd_0d22954f) ⟨rfl, hd_d22f4174⟩ ⟨(Nat.le_of_ble_eq_true rfl), (Nat.le_of_ble_eq_true rfl)⟩ hE hP hD hS [0, 1] rfl (by decide) rfl rfl rfl hl.1 rfl (Nat.le_of_ble_eq_true rfl) d_Row_addZeros_9 ⟨(Nat.le_of_ble_eq_true rfl), (Nat.le_of_ble_eq_true rfl)⟩) (fun uu79 H locs hw hP hD hS => ?_)
  have hP : va_P G.1 kb_cl [kb_o h 1 [.ref (uu65.1 0), .int 40], kb_a G (uu65.1 0) 64 (uu79.2 0)] H := hP
  have hD : va_D A [kb_o h 1 [.ref (uu65.1 0), .int 40], kb_a G (uu65.1 0) 64 (uu79.2 0)] := hD
  refine lv_iinc (v := 40) (lv' := [(2, .int 40), (0, .ref h), (1, .int 56)]) hx hb d_Row_addZeros_12 hl (k := 0) rfl (by decide) (by decide) rfl (fun ls hl => ?_)
  refine lv_goto (tgt := 2) hx hb d_Row_addZeros_15 (by decide) ?_
  refine lv_iload_n hx hb d_Row_addZeros_2 rfl (lv_at hl 0 rfl) ?_
  refine lv_iload_n hx hb d_Row_addZeros_3 rfl (lv_at hl 2 rfl) ?_
  refine lv_icmp_ge (tgt := 18) hx hb d_Row_addZeros_4 (by decide) (fun c9 => absurd c9 (by decide)) (fun c9 => ?_)
  refine lv_aload_n hx hb d_Row_addZeros_7 rfl (lv_at hl 1 rfl) ?_
  refine lv_iconst (v := 0) hx hb d_Row_addZeros_8 (by decide) ?_
  refine kb_v (wc := [kb_o h 1 [.ref (uu65.1 0), .int 40], kb_a G (uu65.1 0) 64 (uu79.2 0)]) (wr := []) hE hP hD hS [0, 1] [] rfl rfl (by decide) (by decide) (kb_rV (As := [.int 0]) (rest := []) (wc := [kb_o h 1 [.ref (uu65.1 0), .int 40], kb_a G (uu65.1 0) 64 (uu79.2 0)]) (q0 := 0) ⟨hx, hb, hml, hown, ht⟩ ((c_Row_add_w l G h (uu65.1 0) 40 64 (uu79.2 0) 0 (by omega) (by omega)) _) (kb_gV wd_b959c18a wd_d7a504c3 wd_55347eca wd_4182e433 wd_0d22954f) ⟨rfl, hd_d22f4174⟩ ⟨(Nat.le_of_ble_eq_true rfl), (Nat.le_of_ble_eq_true rfl)⟩ hE hP hD hS [0, 1] rfl (by decide) rfl rfl rfl hl.1 rfl (Nat.le_of_ble_eq_true rfl) d_Row_addZeros_9 ⟨(Nat.le_of_ble_eq_true rfl), (Nat.le_of_ble_eq_true rfl)⟩) (fun uu81 H locs hw hP hD hS => ?_)
  have hP : va_P G.1 kb_cl [kb_o h 1 [.ref (uu65.1 0), .int 41], kb_a G (uu65.1 0) 64 (uu81.2 0)] H := hP
  have hD : va_D A [kb_o h 1 [.ref (uu65.1 0), .int 41], kb_a G (uu65.1 0) 64 (uu81.2 0)] := hD
  refine lv_iinc (v := 41) (lv' := [(2, .int 41), (0, .ref h), (1, .int 56)]) hx hb d_Row_addZeros_12 hl (k := 0) rfl (by decide) (by decide) rfl (fun ls hl => ?_)
  refine lv_goto (tgt := 2) hx hb d_Row_addZeros_15 (by decide) ?_
  refine lv_iload_n hx hb d_Row_addZeros_2 rfl (lv_at hl 0 rfl) ?_
  refine lv_iload_n hx hb d_Row_addZeros_3 rfl (lv_at hl 2 rfl) ?_
  refine lv_icmp_ge (tgt := 18) hx hb d_Row_addZeros_4 (by decide) (fun c9 => absurd c9 (by decide)) (fun c9 => ?_)
  refine lv_aload_n hx hb d_Row_addZeros_7 rfl (lv_at hl 1 rfl) ?_
  refine lv_iconst (v := 0) hx hb d_Row_addZeros_8 (by decide) ?_
  refine kb_v (wc := [kb_o h 1 [.ref (uu65.1 0), .int 41], kb_a G (uu65.1 0) 64 (uu81.2 0)]) (wr := []) hE hP hD hS [0, 1] [] rfl rfl (by decide) (by decide) (kb_rV (As := [.int 0]) (rest := []) (wc := [kb_o h 1 [.ref (uu65.1 0), .int 41], kb_a G (uu65.1 0) 64 (uu81.2 0)]) (q0 := 0) ⟨hx, hb, hml, hown, ht⟩ ((c_Row_add_w l G h (uu65.1 0) 41 64 (uu81.2 0) 0 (by omega) (by omega)) _) (kb_gV wd_b959c18a wd_d7a504c3 wd_55347eca wd_4182e433 wd_0d22954f) ⟨rfl, hd_d22f4174⟩ ⟨(Nat.le_of_ble_eq_true rfl), (Nat.le_of_ble_eq_true rfl)⟩ hE hP hD hS [0, 1] rfl (by decide) rfl rfl rfl hl.1 rfl (Nat.le_of_ble_eq_true rfl) d_Row_addZeros_9 ⟨(Nat.le_of_ble_eq_true rfl), (Nat.le_of_ble_eq_true rfl)⟩) (fun uu83 H locs hw hP hD hS => ?_)
  have hP : va_P G.1 kb_cl [kb_o h 1 [.ref (uu65.1 0), .int 42], kb_a G (uu65.1 0) 64 (uu83.2 0)] H := hP
  have hD : va_D A [kb_o h 1 [.ref (uu65.1 0), .int 42], kb_a G (uu65.1 0) 64 (uu83.2 0)] := hD
  refine lv_iinc (v := 42) (lv' := [(2, .int 42), (0, .ref h), (1, .int 56)]) hx hb d_Row_addZeros_12 hl (k := 0) rfl (by decide) (by decide) rfl (fun ls hl => ?_)
  refine lv_goto (tgt := 2) hx hb d_Row_addZeros_15 (by decide) ?_
  refine lv_iload_n hx hb d_Row_addZeros_2 rfl (lv_at hl 0 rfl) ?_
  refine lv_iload_n hx hb d_Row_addZeros_3 rfl (lv_at hl 2 rfl) ?_
  refine lv_icmp_ge (tgt := 18) hx hb d_Row_addZeros_4 (by decide) (fun c9 => absurd c9 (by decide)) (fun c9 => ?_)
  refine lv_aload_n hx hb d_Row_addZeros_7 rfl (lv_at hl 1 rfl) ?_
  refine lv_iconst (v := 0) hx hb d_Row_addZeros_8 (by decide) ?_
  refine kb_v (wc := [kb_o h 1 [.ref (uu65.1 0), .int 42], kb_a G (uu65.1 0) 64 (uu83.2 0)]) (wr := []) hE hP hD hS [0, 1] [] rfl rfl (by decide) (by decide) (kb_rV (As := [.int 0]) (rest := []) (wc := [kb_o h 1 [.ref (uu65.1 0), .int 42], kb_a G (uu65.1 0) 64 (uu83.2 0)]) (q0 := 0) ⟨hx, hb, hml, hown, ht⟩ ((c_Row_add_w l G h (uu65.1 0) 42 64 (uu83.2 0) 0 (by omega) (by omega)) _) (kb_gV wd_b959c18a wd_d7a504c3 wd_55347eca wd_4182e433 wd_0d22954f) ⟨rfl, hd_d22f4174⟩ ⟨(Nat.le_of_ble_eq_true rfl), (Nat.le_of_ble_eq_true rfl)⟩ hE hP hD hS [0, 1] rfl (by decide) rfl rfl rfl hl.1 rfl (Nat.le_of_ble_eq_true rfl) d_Row_addZeros_9 ⟨(Nat.le_of_ble_eq_true rfl), (Nat.le_of_ble_eq_true rfl)⟩) (fun uu85 H locs hw hP hD hS => ?_)
  have hP : va_P G.1 kb_cl [kb_o h 1 [.ref (uu65.1 0), .int 43], kb_a G (uu65.1 0) 64 (uu85.2 0)] H := hP
  have hD : va_D A [kb_o h 1 [.ref (uu65.1 0), .int 43], kb_a G (uu65.1 0) 64 (uu85.2 0)] := hD
  refine lv_iinc (v := 43) (lv' := [(2, .int 43), (0, .ref h), (1, .int 56)]) hx hb d_Row_addZeros_12 hl (k := 0) rfl (by decide) (by decide) rfl (fun ls hl => ?_)
  refine lv_goto (tgt := 2) hx hb d_Row_addZeros_15 (by decide) ?_
  refine lv_iload_n hx hb d_Row_addZeros_2 rfl (lv_at hl 0 rfl) ?_
  refine lv_iload_n hx hb d_Row_addZeros_3 rfl (lv_at hl 2 rfl) ?_
  refine lv_icmp_ge (tgt := 18) hx hb d_Row_addZeros_4 (by decide) (fun c9 => absurd c9 (by decide)) (fun c9 => ?_)
  refine lv_aload_n hx hb d_Row_addZeros_7 rfl (lv_at hl 1 rfl) ?_
  refine lv_iconst (v := 0) hx hb d_Row_addZeros_8 (by decide) ?_
  refine kb_v (wc := [kb_o h 1 [.ref (uu65.1 0), .int 43], kb_a G (uu65.1 0) 64 (uu85.2 0)]) (wr := []) hE hP hD hS [0, 1] [] rfl rfl (by decide) (by decide) (kb_rV (As := [.int 0]) (rest := []) (wc := [kb_o h 1 [.ref (uu65.1 0), .int 43], kb_a G (uu65.1 0) 64 (uu85.2 0)]) (q0 := 0) ⟨hx, hb, hml, hown, ht⟩ ((c_Row_add_w l G h (uu65.1 0) 43 64 (uu85.2 0) 0 (by omega) (by omega)) _) (kb_gV wd_b959c18a wd_d7a504c3 wd_55347eca wd_4182e433 wd_0d22954f) ⟨rfl, hd_d22f4174⟩ ⟨(Nat.le_of_ble_eq_true rfl), (Nat.le_of_ble_eq_true rfl)⟩ hE hP hD hS [0, 1] rfl (by decide) rfl rfl rfl hl.1 rfl (Nat.le_of_ble_eq_true rfl) d_Row_addZeros_9 ⟨(Nat.le_of_ble_eq_true rfl), (Nat.le_of_ble_eq_true rfl)⟩) (fun uu87 H locs hw hP hD hS => ?_)
  have hP : va_P G.1 kb_cl [kb_o h 1 [.ref (uu65.1 0), .int 44], kb_a G (uu65.1 0) 64 (uu87.2 0)] H := hP
  have hD : va_D A [kb_o h 1 [.ref (uu65.1 0), .int 44], kb_a G (uu65.1 0) 64 (uu87.2 0)] := hD
  refine lv_iinc (v := 44) (lv' := [(2, .int 44), (0, .ref h), (1, .int 56)]) hx hb d_Row_addZeros_12 hl (k := 0) rfl (by decide) (by decide) rfl (fun ls hl => ?_)
  refine lv_goto (tgt := 2) hx hb d_Row_addZeros_15 (by decide) ?_
  refine lv_iload_n hx hb d_Row_addZeros_2 rfl (lv_at hl 0 rfl) ?_
  refine lv_iload_n hx hb d_Row_addZeros_3 rfl (lv_at hl 2 rfl) ?_
  refine lv_icmp_ge (tgt := 18) hx hb d_Row_addZeros_4 (by decide) (fun c9 => absurd c9 (by decide)) (fun c9 => ?_)
  refine lv_aload_n hx hb d_Row_addZeros_7 rfl (lv_at hl 1 rfl) ?_
  refine lv_iconst (v := 0) hx hb d_Row_addZeros_8 (by decide) ?_
  refine kb_v (wc := [kb_o h 1 [.ref (uu65.1 0), .int 44], kb_a G (uu65.1 0) 64 (uu87.2 0)]) (wr := []) hE hP hD hS [0, 1] [] rfl rfl (by decide) (by decide) (kb_rV (As := [.int 0]) (rest := []) (wc := [kb_o h 1 [.ref (uu65.1 0), .int 44], kb_a G (uu65.1 0) 64 (uu87.2 0)]) (q0 := 0) ⟨hx, hb, hml, hown, ht⟩ ((c_Row_add_w l G h (uu65.1 0) 44 64 (uu87.2 0) 0 (by omega) (by omega)) _) (kb_gV wd_b959c18a wd_d7a504c3 wd_55347eca wd_4182e433 wd_0d22954f) ⟨rfl, hd_d22f4174⟩ ⟨(Nat.le_of_ble_eq_true rfl), (Nat.le_of_ble_eq_true rfl)⟩ hE hP hD hS [0, 1] rfl (by decide) rfl rfl rfl hl.1 rfl (Nat.le_of_ble_eq_true rfl) d_Row_addZeros_9 ⟨(Nat.le_of_ble_eq_true rfl), (Nat.le_of_ble_eq_true rfl)⟩) (fun uu89 H locs hw hP hD hS => ?_)
  have hP : va_P G.1 kb_cl [kb_o h 1 [.ref (uu65.1 0), .int 45], kb_a G (uu65.1 0) 64 (uu89.2 0)] H := hP
  have hD : va_D A [kb_o h 1 [.ref (uu65.1 0), .int 45], kb_a G (uu65.1 0) 64 (uu89.2 0)] := hD
  refine lv_iinc (v := 45) (lv' := [(2, .int 45), (0, .ref h), (1, .int 56)]) hx hb d_Row_addZeros_12 hl (k := 0) rfl (by decide) (by decide) rfl (fun ls hl => ?_)
  refine lv_goto (tgt := 2) hx hb d_Row_addZeros_15 (by decide) ?_
  refine lv_iload_n hx hb d_Row_addZeros_2 rfl (lv_at hl 0 rfl) ?_
  refine lv_iload_n hx hb d_Row_addZeros_3 rfl (lv_at hl 2 rfl) ?_
  refine lv_icmp_ge (tgt := 18) hx hb d_Row_addZeros_4 (by decide) (fun c9 => absurd c9 (by decide)) (fun c9 => ?_)
  refine lv_aload_n hx hb d_Row_addZeros_7 rfl (lv_at hl 1 rfl) ?_
  refine lv_iconst (v := 0) hx hb d_Row_addZeros_8 (by decide) ?_
  refine kb_v (wc := [kb_o h 1 [.ref (uu65.1 0), .int 45], kb_a G (uu65.1 0) 64 (uu89.2 0)]) (wr := []) hE hP hD hS [0, 1] [] rfl rfl (by decide) (by decide) (kb_rV (As := [.int 0]) (rest := []) (wc := [kb_o h 1 [.ref (uu65.1 0), .int 45], kb_a G (uu65.1 0) 64 (uu89.2 0)]) (q0 := 0) ⟨hx, hb, hml, hown, ht⟩ ((c_Row_add_w l G h (uu65.1 0) 45 64 (uu89.2 0) 0 (by omega) (by omega)) _) (kb_gV wd_b959c18a wd_d7a504c3 wd_55347eca wd_4182e433 wd_0d22954f) ⟨rfl, hd_d22f4174⟩ ⟨(Nat.le_of_ble_eq_true rfl), (Nat.le_of_ble_eq_true rfl)⟩ hE hP hD hS [0, 1] rfl (by decide) rfl rfl rfl hl.1 rfl (Nat.le_of_ble_eq_true rfl) d_Row_addZeros_9 ⟨(Nat.le_of_ble_eq_true rfl), (Nat.le_of_ble_eq_true rfl)⟩) (fun uu91 H locs hw hP hD hS => ?_)
  have hP : va_P G.1 kb_cl [kb_o h 1 [.ref (uu65.1 0), .int 46], kb_a G (uu65.1 0) 64 (uu91.2 0)] H := hP
  have hD : va_D A [kb_o h 1 [.ref (uu65.1 0), .int 46], kb_a G (uu65.1 0) 64 (uu91.2 0)] := hD
  refine lv_iinc (v := 46) (lv' := [(2, .int 46), (0, .ref h), (1, .int 56)]) hx hb d_Row_addZeros_12 hl (k := 0) rfl (by decide) (by decide) rfl (fun ls hl => ?_)
  refine lv_goto (tgt := 2) hx hb d_Row_addZeros_15 (by decide) ?_
  refine lv_iload_n hx hb d_Row_addZeros_2 rfl (lv_at hl 0 rfl) ?_
  refine lv_iload_n hx hb d_Row_addZeros_3 rfl (lv_at hl 2 rfl) ?_
  refine lv_icmp_ge (tgt := 18) hx hb d_Row_addZeros_4 (by decide) (fun c9 => absurd c9 (by decide)) (fun c9 => ?_)
  refine lv_aload_n hx hb d_Row_addZeros_7 rfl (lv_at hl 1 rfl) ?_
  refine lv_iconst (v := 0) hx hb d_Row_addZeros_8 (by decide) ?_
  refine kb_v (wc := [kb_o h 1 [.ref (uu65.1 0), .int 46], kb_a G (uu65.1 0) 64 (uu91.2 0)]) (wr := []) hE hP hD hS [0, 1] [] rfl rfl (by decide) (by decide) (kb_rV (As := [.int 0]) (rest := []) (wc := [kb_o h 1 [.ref (uu65.1 0), .int 46], kb_a G (uu65.1 0) 64 (uu91.2 0)]) (q0 := 0) ⟨hx, hb, hml, hown, ht⟩ ((c_Row_add_w l G h (uu65.1 0) 46 64 (uu91.2 0) 0 (by omega) (by omega)) _) (kb_gV wd_b959c18a wd_d7a504c3 wd_55347eca wd_4182e433 wd_0d22954f) ⟨rfl, hd_d22f4174⟩ ⟨(Nat.le_of_ble_eq_true rfl), (Nat.le_of_ble_eq_true rfl)⟩ hE hP hD hS [0, 1] rfl (by decide) rfl rfl rfl hl.1 rfl (Nat.le_of_ble_eq_true rfl) d_Row_addZeros_9 ⟨(Nat.le_of_ble_eq_true rfl), (Nat.le_of_ble_eq_true rfl)⟩) (fun uu93 H locs hw hP hD hS => ?_)
  have hP : va_P G.1 kb_cl [kb_o h 1 [.ref (uu65.1 0), .int 47], kb_a G (uu65.1 0) 64 (uu93.2 0)] H := hP
  have hD : va_D A [kb_o h 1 [.ref (uu65.1 0), .int 47], kb_a G (uu65.1 0) 64 (uu93.2 0)] := hD
  refine lv_iinc (v := 47) (lv' := [(2, .int 47), (0, .ref h), (1, .int 56)]) hx hb d_Row_addZeros_12 hl (k := 0) rfl (by decide) (by decide) rfl (fun ls hl => ?_)
  refine lv_goto (tgt := 2) hx hb d_Row_addZeros_15 (by decide) ?_
  refine lv_iload_n hx hb d_Row_addZeros_2 rfl (lv_at hl 0 rfl) ?_
  refine lv_iload_n hx hb d_Row_addZeros_3 rfl (lv_at hl 2 rfl) ?_
  refine lv_icmp_ge (tgt := 18) hx hb d_Row_addZeros_4 (by decide) (fun c9 => absurd c9 (by decide)) (fun c9 => ?_)
  refine lv_aload_n hx hb d_Row_addZeros_7 rfl (lv_at hl 1 rfl) ?_
  refine lv_iconst (v := 0) hx hb d_Row_addZeros_8 (by decide) ?_
  refine kb_v (wc := [kb_o h 1 [.ref (uu65.1 0), .int 47], kb_a G (uu65.1 0) 64 (uu93.2 0)]) (wr := []) hE hP hD hS [0, 1] [] rfl rfl (by decide) (by decide) (kb_rV (As := [.int 0]) (rest := []) (wc := [kb_o h 1 [.ref (uu65.1 0), .int 47], kb_a G (uu65.1 0) 64 (uu93.2 0)]) (q0 := 0) ⟨hx, hb, hml, hown, ht⟩ ((c_Row_add_w l G h (uu65.1 0) 47 64 (uu93.2 0) 0 (by omega) (by omega)) _) (kb_gV wd_b959c18a wd_d7a504c3 wd_55347eca wd_4182e433 wd_0d22954f) ⟨rfl, hd_d22f4174⟩ ⟨(Nat.le_of_ble_eq_true rfl), (Nat.le_of_ble_eq_true rfl)⟩ hE hP hD hS [0, 1] rfl (by decide) rfl rfl rfl hl.1 rfl (Nat.le_of_ble_eq_true rfl) d_Row_addZeros_9 ⟨(Nat.le_of_ble_eq_true rfl), (Nat.le_of_ble_eq_true rfl)⟩) (fun uu95 H locs hw hP hD hS => ?_)
  have hP : va_P G.1 kb_cl [kb_o h 1 [.ref (uu65.1 0), .int 48], kb_a G (uu65.1 0) 64 (uu95.2 0)] H := hP
  have hD : va_D A [kb_o h 1 [.ref (uu65.1 0), .int 48], kb_a G (uu65.1 0) 64 (uu95.2 0)] := hD
  refine lv_iinc (v := 48) (lv' := [(2, .int 48), (0, .ref h), (1, .int 56)]) hx hb d_Row_addZeros_12 hl (k := 0) rfl (by decide) (by decide) rfl (fun ls hl => ?_)
  refine lv_goto (tgt := 2) hx hb d_Row_addZeros_15 (by decide) ?_
  refine lv_iload_n hx hb d_Row_addZeros_2 rfl (lv_at hl 0 rfl) ?_
  refine lv_iload_n hx hb d_Row_addZeros_3 rfl (lv_at hl 2 rfl) ?_
  refine lv_icmp_ge (tgt := 18) hx hb d_Row_addZeros_4 (by decide) (fun c9 => absurd c9 (by decide)) (fun c9 => ?_)
  refine lv_aload_n hx hb d_Row_addZeros_7 rfl (lv_at hl 1 rfl) ?_
  refine lv_iconst (v := 0) hx hb d_Row_addZeros_8 (by decide) ?_
  refine kb_v (wc := [kb_o h 1 [.ref (uu65.1 0), .int 48], kb_a G (uu65.1 0) 64 (uu95.2 0)]) (wr := []) hE hP hD hS [0, 1] [] rfl rfl (by decide) (by decide) (kb_rV (As := [.int 0]) (rest := []) (wc := [kb_o h 1 [.ref (uu65.1 0), .int 48], kb_a G (uu65.1 0) 64 (uu95.2 0)]) (q0 := 0) ⟨hx, hb, hml, hown, ht⟩ ((c_Row_add_w l G h (uu65.1 0) 48 64 (uu95.2 0) 0 (by omega) (by omega)) _) (kb_gV wd_b959c18a wd_d7a504c3 wd_55347eca wd_4182e433 wd_0d22954f) ⟨rfl, hd_d22f4174⟩ ⟨(Nat.le_of_ble_eq_true rfl), (Nat.le_of_ble_eq_true rfl)⟩ hE hP hD hS [0, 1] rfl (by decide) rfl rfl rfl hl.1 rfl (Nat.le_of_ble_eq_true rfl) d_Row_addZeros_9 ⟨(Nat.le_of_ble_eq_true rfl), (Nat.le_of_ble_eq_true rfl)⟩) (fun uu97 H locs hw hP hD hS => ?_)
  have hP : va_P G.1 kb_cl [kb_o h 1 [.ref (uu65.1 0), .int 49], kb_a G (uu65.1 0) 64 (uu97.2 0)] H := hP
  have hD : va_D A [kb_o h 1 [.ref (uu65.1 0), .int 49], kb_a G (uu65.1 0) 64 (uu97.2 0)] := hD
  refine lv_iinc (v := 49) (lv' := [(2, .int 49), (0, .ref h), (1, .int 56)]) hx hb d_Row_addZeros_12 hl (k := 0) rfl (by decide) (by decide) rfl (fun ls hl => ?_)
  refine lv_goto (tgt := 2) hx hb d_Row_addZeros_15 (by decide) ?_
  refine lv_iload_n hx hb d_Row_addZeros_2 rfl (lv_at hl 0 rfl) ?_
  refine lv_iload_n hx hb d_Row_addZeros_3 rfl (lv_at hl 2 rfl) ?_
  refine lv_icmp_ge (tgt := 18) hx hb d_Row_addZeros_4 (by decide) (fun c9 => absurd c9 (by decide)) (fun c9 => ?_)
  refine lv_aload_n hx hb d_Row_addZeros_7 rfl (lv_at hl 1 rfl) ?_
  refine lv_iconst (v := 0) hx hb d_Row_addZeros_8 (by decide) ?_
  refine kb_v (wc := [kb_o h 1 [.ref (uu65.1 0), .int 49], kb_a G (uu65.1 0) 64 (uu97.2 0)]) (wr := []) hE hP hD hS [0, 1] [] rfl rfl (by decide) (by decide) (kb_rV (As := [.int 0]) (rest := []) (wc := [kb_o h 1 [.ref (uu65.1 0), .int 49], kb_a G (uu65.1 0) 64 (uu97.2 0)]) (q0 := 0) ⟨hx, hb, hml, hown, ht⟩ ((c_Row_add_w l G h (uu65.1 0) 49 64 (uu97.2 0) 0 (by omega) (by omega)) _) (kb_gV wd_b959c18a wd_d7a504c3 wd_55347eca wd_4182e433 wd_0d22954f) ⟨rfl, hd_d22f4174⟩ ⟨(Nat.le_of_ble_eq_true rfl), (Nat.le_of_ble_eq_true rfl)⟩ hE hP hD hS [0, 1] rfl (by decide) rfl rfl rfl hl.1 rfl (Nat.le_of_ble_eq_true rfl) d_Row_addZeros_9 ⟨(Nat.le_of_ble_eq_true rfl), (Nat.le_of_ble_eq_true rfl)⟩) (fun uu99 H locs hw hP hD hS => ?_)
  have hP : va_P G.1 kb_cl [kb_o h 1 [.ref (uu65.1 0), .int 50], kb_a G (uu65.1 0) 64 (uu99.2 0)] H := hP
  have hD : va_D A [kb_o h 1 [.ref (uu65.1 0), .int 50], kb_a G (uu65.1 0) 64 (uu99.2 0)] := hD
  refine lv_iinc (v := 50) (lv' := [(2, .int 50), (0, .ref h), (1, .int 56)]) hx hb d_Row_addZeros_12 hl (k := 0) rfl (by decide) (by decide) rfl (fun ls hl => ?_)
  refine lv_goto (tgt := 2) hx hb d_Row_addZeros_15 (by decide) ?_
  refine lv_iload_n hx hb d_Row_addZeros_2 rfl (lv_at hl 0 rfl) ?_
  refine lv_iload_n hx hb d_Row_addZeros_3 rfl (lv_at hl 2 rfl) ?_
  refine lv_icmp_ge (tgt := 18) hx hb d_Row_addZeros_4 (by decide) (fun c9 => absurd c9 (by decide)) (fun c9 => ?_)
  refine lv_aload_n hx hb d_Row_addZeros_7 rfl (lv_at hl 1 rfl) ?_
  refine lv_iconst (v := 0) hx hb d_Row_addZeros_8 (by decide) ?_
  refine kb_v (wc := [kb_o h 1 [.ref (uu65.1 0), .int 50], kb_a G (uu65.1 0) 64 (uu99.2 0)]) (wr := []) hE hP hD hS [0, 1] [] rfl rfl (by decide) (by decide) (kb_rV (As := [.int 0]) (rest := []) (wc := [kb_o h 1 [.ref (uu65.1 0), .int 50], kb_a G (uu65.1 0) 64 (uu99.2 0)]) (q0 := 0) ⟨hx, hb, hml, hown, ht⟩ ((c_Row_add_w l G h (uu65.1 0) 50 64 (uu99.2 0) 0 (by omega) (by omega)) _) (kb_gV wd_b959c18a wd_d7a504c3 wd_55347eca wd_4182e433 wd_0d22954f) ⟨rfl, hd_d22f4174⟩ ⟨(Nat.le_of_ble_eq_true rfl), (Nat.le_of_ble_eq_true rfl)⟩ hE hP hD hS [0, 1] rfl (by decide) rfl rfl rfl hl.1 rfl (Nat.le_of_ble_eq_true rfl) d_Row_addZeros_9 ⟨(Nat.le_of_ble_eq_true rfl), (Nat.le_of_ble_eq_true rfl)⟩) (fun uu101 H locs hw hP hD hS => ?_)
  have hP : va_P G.1 kb_cl [kb_o h 1 [.ref (uu65.1 0), .int 51], kb_a G (uu65.1 0) 64 (uu101.2 0)] H := hP
  have hD : va_D A [kb_o h 1 [.ref (uu65.1 0), .int 51], kb_a G (uu65.1 0) 64 (uu101.2 0)] := hD
  refine lv_iinc (v := 51) (lv' := [(2, .int 51), (0, .ref h), (1, .int 56)]) hx hb d_Row_addZeros_12 hl (k := 0) rfl (by decide) (by decide) rfl (fun ls hl => ?_)
  refine lv_goto (tgt := 2) hx hb d_Row_addZeros_15 (by decide) ?_
  refine lv_iload_n hx hb d_Row_addZeros_2 rfl (lv_at hl 0 rfl) ?_
  refine lv_iload_n hx hb d_Row_addZeros_3 rfl (lv_at hl 2 rfl) ?_
  refine lv_icmp_ge (tgt := 18) hx hb d_Row_addZeros_4 (by decide) (fun c9 => absurd c9 (by decide)) (fun c9 => ?_)
  refine lv_aload_n hx hb d_Row_addZeros_7 rfl (lv_at hl 1 rfl) ?_
  refine lv_iconst (v := 0) hx hb d_Row_addZeros_8 (by decide) ?_
  refine kb_v (wc := [kb_o h 1 [.ref (uu65.1 0), .int 51], kb_a G (uu65.1 0) 64 (uu101.2 0)]) (wr := []) hE hP hD hS [0, 1] [] rfl rfl (by decide) (by decide) (kb_rV (As := [.int 0]) (rest := []) (wc := [kb_o h 1 [.ref (uu65.1 0), .int 51], kb_a G (uu65.1 0) 64 (uu101.2 0)]) (q0 := 0) ⟨hx, hb, hml, hown, ht⟩ ((c_Row_add_w l G h (uu65.1 0) 51 64 (uu101.2 0) 0 (by omega) (by omega)) _) (kb_gV wd_b959c18a wd_d7a504c3 wd_55347eca wd_4182e433 wd_0d22954f) ⟨rfl, hd_d22f4174⟩ ⟨(Nat.le_of_ble_eq_true rfl), (Nat.le_of_ble_eq_true rfl)⟩ hE hP hD hS [0, 1] rfl (by decide) rfl rfl rfl hl.1 rfl (Nat.le_of_ble_eq_true rfl) d_Row_addZeros_9 ⟨(Nat.le_of_ble_eq_true rfl), (Nat.le_of_ble_eq_true rfl)⟩) (fun uu103 H locs hw hP hD hS => ?_)
  have hP : va_P G.1 kb_cl [kb_o h 1 [.ref (uu65.1 0), .int 52], kb_a G (uu65.1 0) 64 (uu103.2 0)] H := hP
  have hD : va_D A [kb_o h 1 [.ref (uu65.1 0), .int 52], kb_a G (uu65.1 0) 64 (uu103.2 0)] := hD
  refine lv_iinc (v := 52) (lv' := [(2, .int 52), (0, .ref h), (1, .int 56)]) hx hb d_Row_addZeros_12 hl (k := 0) rfl (by decide) (by decide) rfl (fun ls hl => ?_)
  refine lv_goto (tgt := 2) hx hb d_Row_addZeros_15 (by decide) ?_
  refine lv_iload_n hx hb d_Row_addZeros_2 rfl (lv_at hl 0 rfl) ?_
  refine lv_iload_n hx hb d_Row_addZeros_3 rfl (lv_at hl 2 rfl) ?_
  refine lv_icmp_ge (tgt := 18) hx hb d_Row_addZeros_4 (by decide) (fun c9 => absurd c9 (by decide)) (fun c9 => ?_)
  refine lv_aload_n hx hb d_Row_addZeros_7 rfl (lv_at hl 1 rfl) ?_
  refine lv_iconst (v := 0) hx hb d_Row_addZeros_8 (by decide) ?_
  refine kb_v (wc := [kb_o h 1 [.ref (uu65.1 0), .int 52], kb_a G (uu65.1 0) 64 (uu103.2 0)]) (wr := []) hE hP hD hS [0, 1] [] rfl rfl (by decide) (by decide) (kb_rV (As := [.int 0]) (rest := []) (wc := [kb_o h 1 [.ref (uu65.1 0), .int 52], kb_a G (uu65.1 0) 64 (uu103.2 0)]) (q0 := 0) ⟨hx, hb, hml, hown, ht⟩ ((c_Row_add_w l G h (uu65.1 0) 52 64 (uu103.2 0) 0 (by omega) (by omega)) _) (kb_gV wd_b959c18a wd_d7a504c3 wd_55347eca wd_4182e433 wd_0d22954f) ⟨rfl, hd_d22f4174⟩ ⟨(Nat.le_of_ble_eq_true rfl), (Nat.le_of_ble_eq_true rfl)⟩ hE hP hD hS [0, 1] rfl (by decide) rfl rfl rfl hl.1 rfl (Nat.le_of_ble_eq_true rfl) d_Row_addZeros_9 ⟨(Nat.le_of_ble_eq_true rfl), (Nat.le_of_ble_eq_true rfl)⟩) (fun uu105 H locs hw hP hD hS => ?_)
  have hP : va_P G.1 kb_cl [kb_o h 1 [.ref (uu65.1 0), .int 53], kb_a G (uu65.1 0) 64 (uu105.2 0)] H := hP
  have hD : va_D A [kb_o h 1 [.ref (uu65.1 0), .int 53], kb_a G (uu65.1 0) 64 (uu105.2 0)] := hD
  refine lv_iinc (v := 53) (lv' := [(2, .int 53), (0, .ref h), (1, .int 56)]) hx hb d_Row_addZeros_12 hl (k := 0) rfl (by decide) (by decide) rfl (fun ls hl => ?_)
  refine lv_goto (tgt := 2) hx hb d_Row_addZeros_15 (by decide) ?_
  refine lv_iload_n hx hb d_Row_addZeros_2 rfl (lv_at hl 0 rfl) ?_
  refine lv_iload_n hx hb d_Row_addZeros_3 rfl (lv_at hl 2 rfl) ?_
  refine lv_icmp_ge (tgt := 18) hx hb d_Row_addZeros_4 (by decide) (fun c9 => absurd c9 (by decide)) (fun c9 => ?_)
  refine lv_aload_n hx hb d_Row_addZeros_7 rfl (lv_at hl 1 rfl) ?_
  refine lv_iconst (v := 0) hx hb d_Row_addZeros_8 (by decide) ?_
  refine kb_v (wc := [kb_o h 1 [.ref (uu65.1 0), .int 53], kb_a G (uu65.1 0) 64 (uu105.2 0)]) (wr := []) hE hP hD hS [0, 1] [] rfl rfl (by decide) (by decide) (kb_rV (As := [.int 0]) (rest := []) (wc := [kb_o h 1 [.ref (uu65.1 0), .int 53], kb_a G (uu65.1 0) 64 (uu105.2 0)]) (q0 := 0) ⟨hx, hb, hml, hown, ht⟩ ((c_Row_add_w l G h (uu65.1 0) 53 64 (uu105.2 0) 0 (by omega) (by omega)) _) (kb_gV wd_b959c18a wd_d7a504c3 wd_55347eca wd_4182e433 wd_0d22954f) ⟨rfl, hd_d22f4174⟩ ⟨(Nat.le_of_ble_eq_true rfl), (Nat.le_of_ble_eq_true rfl)⟩ hE hP hD hS [0, 1] rfl (by decide) rfl rfl rfl hl.1 rfl (Nat.le_of_ble_eq_true rfl) d_Row_addZeros_9 ⟨(Nat.le_of_ble_eq_true rfl), (Nat.le_of_ble_eq_true rfl)⟩) (fun uu107 H locs hw hP hD hS => ?_)
  have hP : va_P G.1 kb_cl [kb_o h 1 [.ref (uu65.1 0), .int 54], kb_a G (uu65.1 0) 64 (uu107.2 0)] H := hP
  have hD : va_D A [kb_o h 1 [.ref (uu65.1 0), .int 54], kb_a G (uu65.1 0) 64 (uu107.2 0)] := hD
  refine lv_iinc (v := 54) (lv' := [(2, .int 54), (0, .ref h), (1, .int 56)]) hx hb d_Row_addZeros_12 hl (k := 0) rfl (by decide) (by decide) rfl (fun ls hl => ?_)
  refine lv_goto (tgt := 2) hx hb d_Row_addZeros_15 (by decide) ?_
  refine lv_iload_n hx hb d_Row_addZeros_2 rfl (lv_at hl 0 rfl) ?_
  refine lv_iload_n hx hb d_Row_addZeros_3 rfl (lv_at hl 2 rfl) ?_
  refine lv_icmp_ge (tgt := 18) hx hb d_Row_addZeros_4 (by decide) (fun c9 => absurd c9 (by decide)) (fun c9 => ?_)
  refine lv_aload_n hx hb d_Row_addZeros_7 rfl (lv_at hl 1 rfl) ?_
  refine lv_iconst (v := 0) hx hb d_Row_addZeros_8 (by decide) ?_
  refine kb_v (wc := [kb_o h 1 [.ref (uu65.1 0), .int 54], kb_a G (uu65.1 0) 64 (uu107.2 0)]) (wr := []) hE hP hD hS [0, 1] [] rfl rfl (by decide) (by decide) (kb_rV (As := [.int 0]) (rest := []) (wc := [kb_o h 1 [.ref (uu65.1 0), .int 54], kb_a G (uu65.1 0) 64 (uu107.2 0)]) (q0 := 0) ⟨hx, hb, hml, hown, ht⟩ ((c_Row_add_w l G h (uu65.1 0) 54 64 (uu107.2 0) 0 (by omega) (by omega)) _) (kb_gV wd_b959c18a wd_d7a504c3 wd_55347eca wd_4182e433 wd_0d22954f) ⟨rfl, hd_d22f4174⟩ ⟨(Nat.le_of_ble_eq_true rfl), (Nat.le_of_ble_eq_true rfl)⟩ hE hP hD hS [0, 1] rfl (by decide) rfl rfl rfl hl.1 rfl (Nat.le_of_ble_eq_true rfl) d_Row_addZeros_9 ⟨(Nat.le_of_ble_eq_true rfl), (Nat.le_of_ble_eq_true rfl)⟩) (fun uu109 H locs hw hP hD hS => ?_)
  have hP : va_P G.1 kb_cl [kb_o h 1 [.ref (uu65.1 0), .int 55], kb_a G (uu65.1 0) 64 (uu109.2 0)] H := hP
  have hD : va_D A [kb_o h 1 [.ref (uu65.1 0), .int 55], kb_a G (uu65.1 0) 64 (uu109.2 0)] := hD
  refine lv_iinc (v := 55) (lv' := [(2, .int 55), (0, .ref h), (1, .int 56)]) hx hb d_Row_addZeros_12 hl (k := 0) rfl (by decide) (by decide) rfl (fun ls hl => ?_)
  refine lv_goto (tgt := 2) hx hb d_Row_addZeros_15 (by decide) ?_
  refine lv_iload_n hx hb d_Row_addZeros_2 rfl (lv_at hl 0 rfl) ?_
  refine lv_iload_n hx hb d_Row_addZeros_3 rfl (lv_at hl 2 rfl) ?_
  refine lv_icmp_ge (tgt := 18) hx hb d_Row_addZeros_4 (by decide) (fun c9 => absurd c9 (by decide)) (fun c9 => ?_)
  refine lv_aload_n hx hb d_Row_addZeros_7 rfl (lv_at hl 1 rfl) ?_
  refine lv_iconst (v := 0) hx hb d_Row_addZeros_8 (by decide) ?_
  refine kb_v (wc := [kb_o h 1 [.ref (uu65.1 0), .int 55], kb_a G (uu65.1 0) 64 (uu109.2 0)]) (wr := []) hE hP hD hS [0, 1] [] rfl rfl (by decide) (by decide) (kb_rV (As := [.int 0]) (rest := []) (wc := [kb_o h 1 [.ref (uu65.1 0), .int 55], kb_a G (uu65.1 0) 64 (uu109.2 0)]) (q0 := 0) ⟨hx, hb, hml, hown, ht⟩ ((c_Row_add_w l G h (uu65.1 0) 55 64 (uu109.2 0) 0 (by omega) (by omega)) _) (kb_gV wd_b959c18a wd_d7a504c3 wd_55347eca wd_4182e433 wd_0d22954f) ⟨rfl, hd_d22f4174⟩ ⟨(Nat.le_of_ble_eq_true rfl), (Nat.le_of_ble_eq_true rfl)⟩ hE hP hD hS [0, 1] rfl (by decide) rfl rfl rfl hl.1 rfl (Nat.le_of_ble_eq_true rfl) d_Row_addZeros_9 ⟨(Nat.le_of_ble_eq_true rfl), (Nat.le_of_ble_eq_true rfl)⟩) (fun uu111 H locs hw hP hD hS => ?_)
  have hP : va_P G.1 kb_cl [kb_o h 1 [.ref (uu65.1 0), .int 56], kb_a G (uu65.1 0) 64 (uu111.2 0)] H := hP
  have hD : va_D A [kb_o h 1 [.ref (uu65.1 0), .int 56], kb_a G (uu65.1 0) 64 (uu111.2 0)] := hD
  refine lv_iinc (v := 56) (lv' := [(2, .int 56), (0, .ref h), (1, .int 56)]) hx hb d_Row_addZeros_12 hl (k := 0) rfl (by decide) (by decide) rfl (fun ls hl => ?_)
  refine lv_goto (tgt := 2) hx hb d_Row_addZeros_15 (by decide) ?_
  refine lv_iload_n hx hb d_Row_addZeros_2 rfl (lv_at hl 0 rfl) ?_
  refine lv_iload_n hx hb d_Row_addZeros_3 rfl (lv_at hl 2 rfl) ?_
  refine lv_icmp_ge (tgt := 18) hx hb d_Row_addZeros_4 (by decide) (fun c9 => ?_) (fun c9 => absurd (by decide) c9)
  exact kb_retv (kb_l [uu65.1 0], kb_f [uu111.2 0]) hx hb hr hlocks hE hP hD hS [0, 1] rfl (by decide) rfl trivial (Nat.le_of_ble_eq_true rfl) (Nat.le_of_ble_eq_true rfl) d_Row_addZeros_18

set_option maxHeartbeats 4000000 in
set_option maxRecDepth 100000 in
theorem c_Row_putNumber (l : Launch) (G : kb_G) (h : Nat) (a : Nat) (j : Nat) (f : Nat → Int32) (x : Int32) (hj : j + 4 ≤ 72) : kb_cv l G ⟨"TreePress$Row", "putNumber", "(II)V"⟩ prog_3_method_10_code 4 2 0 0 [.ref h, .int (nI j), .int x] [kb_o h 1 [.ref a, .int 72], kb_a G a 128 f] (fun u => True) (fun u => [kb_o h 1 [.ref a, .int 72], kb_a G a 128 (u.2 0)]) := by
  intro sz
  refine kb_body (QQ := fun A => kb_Qv G A (fun u => True) (fun u => [kb_o h 1 [.ref a, .int 72], kb_a G a 128 (u.2 0)])) (by decide) (Nat.le_of_ble_eq_true rfl) ?_
  intro p e s m below meth c A B ls hl
  obtain ⟨hx, hb, hr, hml, hlocks, hin, hown, ht, hE, hP, hD, hS⟩ := B
  have hl : lv_has ls 4 [(0, .ref h), (1, .int (nI j)), (2, .int x)] := hl
  have hP0 := hP
  obtain ⟨H, hHe⟩ : ∃ H, H = s.heap := ⟨_, rfl⟩
  rw [← hHe] at hP
  have hS : va_S A s.heap H [] := by rw [hHe]; exact hS
  refine kb_at hHe ?_
  clear hHe
  refine lv_iconst (v := 0) hx hb d_Row_putNumber_0 (by decide) ?_
  refine lv_istore_n (lv' := [(3, .int 0), (0, .ref h), (1, .int (nI j)), (2, .int x)]) hx hb d_Row_putNumber_1 rfl hl (by decide) rfl (fun ls hl => ?_)
  refine lv_iload_n hx hb d_Row_putNumber_2 rfl (lv_at hl 0 rfl) ?_
  refine lv_iconst (v := 4) hx hb d_Row_putNumber_3 (by decide) ?_
  refine lv_icmp_ge (tgt := 33) hx hb d_Row_putNumber_4 (by decide) (fun c9 => absurd c9 (by decide)) (fun c9 => ?_)
  refine lv_aload_n hx hb d_Row_putNumber_7 rfl (lv_at hl 1 rfl) ?_
  refine lv_iload_n hx hb d_Row_putNumber_8 rfl (lv_at hl 2 rfl) ?_
  refine lv_iload_n hx hb d_Row_putNumber_9 rfl (lv_at hl 0 rfl) ?_
  refine lv_iadd hx hb d_Row_putNumber_10 ?_
  refine kb_top (y := nI (j + 0)) (nI_add j 0) ?_
  refine lv_iload_n hx hb d_Row_putNumber_11 rfl (lv_at hl 3 rfl) ?_
  refine lv_bipush (v := 24) hx hb d_Row_putNumber_12 (by decide) ?_
  refine lv_bipush (v := 8) hx hb d_Row_putNumber_14 (by decide) ?_
  refine lv_iload_n hx hb d_Row_putNumber_16 rfl (lv_at hl 0 rfl) ?_
  refine lv_imul hx hb d_Row_putNumber_17 ?_
  refine kb_top (y := 0) (by decide) ?_
  refine lv_isub hx hb d_Row_putNumber_18 ?_
  refine kb_top (y := 24) (by decide) ?_
  refine lv_iushr (v := ((x : Int32).toUInt32 >>> ((24 : Int32).toUInt32 &&& Int32.toUInt32 31)).toInt32) hx hb d_Row_putNumber_19 rfl ?_
  refine lv_sipush (v := 255) hx hb d_Row_putNumber_20 (by decide) ?_
  refine lv_iand hx hb d_Row_putNumber_23 ?_
  refine kb_v (wc := [kb_o h 1 [.ref a, .int 72], kb_a G a 128 f]) (wr := []) hE hP hD hS [0, 1] [] rfl rfl (by decide) (by decide) (kb_rV (As := [.int (nI (j + 0)), .int ((((x : Int32).toUInt32 >>> ((24 : Int32).toUInt32 &&& Int32.toUInt32 31)).toInt32) &&& 255)]) (rest := []) (wc := [kb_o h 1 [.ref a, .int 72], kb_a G a 128 f]) (q0 := 0) ⟨hx, hb, hml, hown, ht⟩ ((c_Row_put l G h a (j + 0) f ((((x : Int32).toUInt32 >>> ((24 : Int32).toUInt32 &&& Int32.toUInt32 31)).toInt32) &&& 255) (by omega)) _) (kb_gV wd_fb9083d2 wd_b3824346 wd_43c38e26 wd_4182e433 wd_a447a7d7) ⟨rfl, hd_d300f370⟩ ⟨(Nat.le_of_ble_eq_true rfl), (Nat.le_of_ble_eq_true rfl)⟩ hE hP hD hS [0, 1] rfl (by decide) rfl rfl rfl hl.1 rfl (Nat.le_of_ble_eq_true rfl) d_Row_putNumber_24 ⟨(Nat.le_of_ble_eq_true rfl), (Nat.le_of_ble_eq_true rfl)⟩) (fun uu1 H locs hw hP hD hS => ?_)
  have hP : va_P G.1 kb_cl [kb_o h 1 [.ref a, .int 72], kb_a G a 128 (uu1.2 0)] H := hP
  have hD : va_D A [kb_o h 1 [.ref a, .int 72], kb_a G a 128 (uu1.2 0)] := hD
  refine lv_iinc (v := 1) (lv' := [(3, .int 1), (0, .ref h), (1, .int (nI j)), (2, .int x)]) hx hb d_Row_putNumber_27 hl (k := 0) rfl (by decide) (by decide) rfl (fun ls hl => ?_)
  refine lv_goto (tgt := 2) hx hb d_Row_putNumber_30 (by decide) ?_
  refine lv_iload_n hx hb d_Row_putNumber_2 rfl (lv_at hl 0 rfl) ?_
  refine lv_iconst (v := 4) hx hb d_Row_putNumber_3 (by decide) ?_
  refine lv_icmp_ge (tgt := 33) hx hb d_Row_putNumber_4 (by decide) (fun c9 => absurd c9 (by decide)) (fun c9 => ?_)
  refine lv_aload_n hx hb d_Row_putNumber_7 rfl (lv_at hl 1 rfl) ?_
  refine lv_iload_n hx hb d_Row_putNumber_8 rfl (lv_at hl 2 rfl) ?_
  refine lv_iload_n hx hb d_Row_putNumber_9 rfl (lv_at hl 0 rfl) ?_
  refine lv_iadd hx hb d_Row_putNumber_10 ?_
  refine kb_top (y := nI (j + 1)) (nI_add j 1) ?_
  refine lv_iload_n hx hb d_Row_putNumber_11 rfl (lv_at hl 3 rfl) ?_
  refine lv_bipush (v := 24) hx hb d_Row_putNumber_12 (by decide) ?_
  refine lv_bipush (v := 8) hx hb d_Row_putNumber_14 (by decide) ?_
  refine lv_iload_n hx hb d_Row_putNumber_16 rfl (lv_at hl 0 rfl) ?_
  refine lv_imul hx hb d_Row_putNumber_17 ?_
  refine kb_top (y := 8) (by decide) ?_
  refine lv_isub hx hb d_Row_putNumber_18 ?_
  refine kb_top (y := 16) (by decide) ?_
  refine lv_iushr (v := ((x : Int32).toUInt32 >>> ((16 : Int32).toUInt32 &&& Int32.toUInt32 31)).toInt32) hx hb d_Row_putNumber_19 rfl ?_
  refine lv_sipush (v := 255) hx hb d_Row_putNumber_20 (by decide) ?_
  refine lv_iand hx hb d_Row_putNumber_23 ?_
  refine kb_v (wc := [kb_o h 1 [.ref a, .int 72], kb_a G a 128 (uu1.2 0)]) (wr := []) hE hP hD hS [0, 1] [] rfl rfl (by decide) (by decide) (kb_rV (As := [.int (nI (j + 1)), .int ((((x : Int32).toUInt32 >>> ((16 : Int32).toUInt32 &&& Int32.toUInt32 31)).toInt32) &&& 255)]) (rest := []) (wc := [kb_o h 1 [.ref a, .int 72], kb_a G a 128 (uu1.2 0)]) (q0 := 0) ⟨hx, hb, hml, hown, ht⟩ ((c_Row_put l G h a (j + 1) (uu1.2 0) ((((x : Int32).toUInt32 >>> ((16 : Int32).toUInt32 &&& Int32.toUInt32 31)).toInt32) &&& 255) (by omega)) _) (kb_gV wd_fb9083d2 wd_b3824346 wd_43c38e26 wd_4182e433 wd_a447a7d7) ⟨rfl, hd_d300f370⟩ ⟨(Nat.le_of_ble_eq_true rfl), (Nat.le_of_ble_eq_true rfl)⟩ hE hP hD hS [0, 1] rfl (by decide) rfl rfl rfl hl.1 rfl (Nat.le_of_ble_eq_true rfl) d_Row_putNumber_24 ⟨(Nat.le_of_ble_eq_true rfl), (Nat.le_of_ble_eq_true rfl)⟩) (fun uu3 H locs hw hP hD hS => ?_)
  have hP : va_P G.1 kb_cl [kb_o h 1 [.ref a, .int 72], kb_a G a 128 (uu3.2 0)] H := hP
  have hD : va_D A [kb_o h 1 [.ref a, .int 72], kb_a G a 128 (uu3.2 0)] := hD
  refine lv_iinc (v := 2) (lv' := [(3, .int 2), (0, .ref h), (1, .int (nI j)), (2, .int x)]) hx hb d_Row_putNumber_27 hl (k := 0) rfl (by decide) (by decide) rfl (fun ls hl => ?_)
  refine lv_goto (tgt := 2) hx hb d_Row_putNumber_30 (by decide) ?_
  refine lv_iload_n hx hb d_Row_putNumber_2 rfl (lv_at hl 0 rfl) ?_
  refine lv_iconst (v := 4) hx hb d_Row_putNumber_3 (by decide) ?_
  refine lv_icmp_ge (tgt := 33) hx hb d_Row_putNumber_4 (by decide) (fun c9 => absurd c9 (by decide)) (fun c9 => ?_)
  refine lv_aload_n hx hb d_Row_putNumber_7 rfl (lv_at hl 1 rfl) ?_
  refine lv_iload_n hx hb d_Row_putNumber_8 rfl (lv_at hl 2 rfl) ?_
  refine lv_iload_n hx hb d_Row_putNumber_9 rfl (lv_at hl 0 rfl) ?_
  refine lv_iadd hx hb d_Row_putNumber_10 ?_
  refine kb_top (y := nI (j + 2)) (nI_add j 2) ?_
  refine lv_iload_n hx hb d_Row_putNumber_11 rfl (lv_at hl 3 rfl) ?_
  refine lv_bipush (v := 24) hx hb d_Row_putNumber_12 (by decide) ?_
  refine lv_bipush (v := 8) hx hb d_Row_putNumber_14 (by decide) ?_
  refine lv_iload_n hx hb d_Row_putNumber_16 rfl (lv_at hl 0 rfl) ?_
  refine lv_imul hx hb d_Row_putNumber_17 ?_
  refine kb_top (y := 16) (by decide) ?_
  refine lv_isub hx hb d_Row_putNumber_18 ?_
  refine kb_top (y := 8) (by decide) ?_
  refine lv_iushr (v := ((x : Int32).toUInt32 >>> ((8 : Int32).toUInt32 &&& Int32.toUInt32 31)).toInt32) hx hb d_Row_putNumber_19 rfl ?_
  refine lv_sipush (v := 255) hx hb d_Row_putNumber_20 (by decide) ?_
  refine lv_iand hx hb d_Row_putNumber_23 ?_
  refine kb_v (wc := [kb_o h 1 [.ref a, .int 72], kb_a G a 128 (uu3.2 0)]) (wr := []) hE hP hD hS [0, 1] [] rfl rfl (by decide) (by decide) (kb_rV (As := [.int (nI (j + 2)), .int ((((x : Int32).toUInt32 >>> ((8 : Int32).toUInt32 &&& Int32.toUInt32 31)).toInt32) &&& 255)]) (rest := []) (wc := [kb_o h 1 [.ref a, .int 72], kb_a G a 128 (uu3.2 0)]) (q0 := 0) ⟨hx, hb, hml, hown, ht⟩ ((c_Row_put l G h a (j + 2) (uu3.2 0) ((((x : Int32).toUInt32 >>> ((8 : Int32).toUInt32 &&& Int32.toUInt32 31)).toInt32) &&& 255) (by omega)) _) (kb_gV wd_fb9083d2 wd_b3824346 wd_43c38e26 wd_4182e433 wd_a447a7d7) ⟨rfl, hd_d300f370⟩ ⟨(Nat.le_of_ble_eq_true rfl), (Nat.le_of_ble_eq_true rfl)⟩ hE hP hD hS [0, 1] rfl (by decide) rfl rfl rfl hl.1 rfl (Nat.le_of_ble_eq_true rfl) d_Row_putNumber_24 ⟨(Nat.le_of_ble_eq_true rfl), (Nat.le_of_ble_eq_true rfl)⟩) (fun uu5 H locs hw hP hD hS => ?_)
  have hP : va_P G.1 kb_cl [kb_o h 1 [.ref a, .int 72], kb_a G a 128 (uu5.2 0)] H := hP
  have hD : va_D A [kb_o h 1 [.ref a, .int 72], kb_a G a 128 (uu5.2 0)] := hD
  refine lv_iinc (v := 3) (lv' := [(3, .int 3), (0, .ref h), (1, .int (nI j)), (2, .int x)]) hx hb d_Row_putNumber_27 hl (k := 0) rfl (by decide) (by decide) rfl (fun ls hl => ?_)
  refine lv_goto (tgt := 2) hx hb d_Row_putNumber_30 (by decide) ?_
  refine lv_iload_n hx hb d_Row_putNumber_2 rfl (lv_at hl 0 rfl) ?_
  refine lv_iconst (v := 4) hx hb d_Row_putNumber_3 (by decide) ?_
  refine lv_icmp_ge (tgt := 33) hx hb d_Row_putNumber_4 (by decide) (fun c9 => absurd c9 (by decide)) (fun c9 => ?_)
  refine lv_aload_n hx hb d_Row_putNumber_7 rfl (lv_at hl 1 rfl) ?_
  refine lv_iload_n hx hb d_Row_putNumber_8 rfl (lv_at hl 2 rfl) ?_
  refine lv_iload_n hx hb d_Row_putNumber_9 rfl (lv_at hl 0 rfl) ?_
  refine lv_iadd hx hb d_Row_putNumber_10 ?_
  refine kb_top (y := nI (j + 3)) (nI_add j 3) ?_
  refine lv_iload_n hx hb d_Row_putNumber_11 rfl (lv_at hl 3 rfl) ?_
  refine lv_bipush (v := 24) hx hb d_Row_putNumber_12 (by decide) ?_
  refine lv_bipush (v := 8) hx hb d_Row_putNumber_14 (by decide) ?_
  refine lv_iload_n hx hb d_Row_putNumber_16 rfl (lv_at hl 0 rfl) ?_
  refine lv_imul hx hb d_Row_putNumber_17 ?_
  refine kb_top (y := 24) (by decide) ?_
  refine lv_isub hx hb d_Row_putNumber_18 ?_
  refine kb_top (y := 0) (by decide) ?_
  refine lv_iushr (v := ((x : Int32).toUInt32 >>> ((0 : Int32).toUInt32 &&& Int32.toUInt32 31)).toInt32) hx hb d_Row_putNumber_19 rfl ?_
  refine lv_sipush (v := 255) hx hb d_Row_putNumber_20 (by decide) ?_
  refine lv_iand hx hb d_Row_putNumber_23 ?_
  refine kb_v (wc := [kb_o h 1 [.ref a, .int 72], kb_a G a 128 (uu5.2 0)]) (wr := []) hE hP hD hS [0, 1] [] rfl rfl (by decide) (by decide) (kb_rV (As := [.int (nI (j + 3)), .int ((((x : Int32).toUInt32 >>> ((0 : Int32).toUInt32 &&& Int32.toUInt32 31)).toInt32) &&& 255)]) (rest := []) (wc := [kb_o h 1 [.ref a, .int 72], kb_a G a 128 (uu5.2 0)]) (q0 := 0) ⟨hx, hb, hml, hown, ht⟩ ((c_Row_put l G h a (j + 3) (uu5.2 0) ((((x : Int32).toUInt32 >>> ((0 : Int32).toUInt32 &&& Int32.toUInt32 31)).toInt32) &&& 255) (by omega)) _) (kb_gV wd_fb9083d2 wd_b3824346 wd_43c38e26 wd_4182e433 wd_a447a7d7) ⟨rfl, hd_d300f370⟩ ⟨(Nat.le_of_ble_eq_true rfl), (Nat.le_of_ble_eq_true rfl)⟩ hE hP hD hS [0, 1] rfl (by decide) rfl rfl rfl hl.1 rfl (Nat.le_of_ble_eq_true rfl) d_Row_putNumber_24 ⟨(Nat.le_of_ble_eq_true rfl), (Nat.le_of_ble_eq_true rfl)⟩) (fun uu7 H locs hw hP hD hS => ?_)
  have hP : va_P G.1 kb_cl [kb_o h 1 [.ref a, .int 72], kb_a G a 128 (uu7.2 0)] H := hP
  have hD : va_D A [kb_o h 1 [.ref a, .int 72], kb_a G a 128 (uu7.2 0)] := hD
  refine lv_iinc (v := 4) (lv' := [(3, .int 4), (0, .ref h), (1, .int (nI j)), (2, .int x)]) hx hb d_Row_putNumber_27 hl (k := 0) rfl (by decide) (by decide) rfl (fun ls hl => ?_)
  refine lv_goto (tgt := 2) hx hb d_Row_putNumber_30 (by decide) ?_
  refine lv_iload_n hx hb d_Row_putNumber_2 rfl (lv_at hl 0 rfl) ?_
  refine lv_iconst (v := 4) hx hb d_Row_putNumber_3 (by decide) ?_
  refine lv_icmp_ge (tgt := 33) hx hb d_Row_putNumber_4 (by decide) (fun c9 => ?_) (fun c9 => absurd (by decide) c9)
  exact kb_retv (kb_l [], kb_f [uu7.2 0]) hx hb hr hlocks hE hP hD hS [0, 1] rfl (by decide) rfl trivial (Nat.le_of_ble_eq_true rfl) (Nat.le_of_ble_eq_true rfl) d_Row_putNumber_33

set_option maxHeartbeats 4000000 in
set_option maxRecDepth 100000 in
theorem c_Row_hasName_no (l : Launch) (G : kb_G) (h : Nat) (a : Nat) (v : Int32) (x : Int32) (k : Int32) (hk : k < 1) : kb_ci l G ⟨"TreePress$Row", "hasName", "(II)Z"⟩ prog_3_method_12_code 3 (some .boolean) 1 0 0 [.ref h, .int x, .int k] [kb_o h 1 [.ref a, .int v]] (fun r u => r = 0) (fun u => [kb_o h 1 [.ref a, .int v]]) := by
  intro sz
  refine kb_body (QQ := fun A => kb_Qi G A (fun r u => r = 0) (fun u => [kb_o h 1 [.ref a, .int v]])) (by decide) (Nat.le_of_ble_eq_true rfl) ?_
  intro p e s m below meth c A B ls hl
  obtain ⟨hx, hb, hr, hml, hlocks, hin, hown, ht, hE, hP, hD, hS⟩ := B
  have hl : lv_has ls 3 [(0, .ref h), (1, .int x), (2, .int k)] := hl
  have hP0 := hP
  obtain ⟨H, hHe⟩ : ∃ H, H = s.heap := ⟨_, rfl⟩
  rw [← hHe] at hP
  have hS : va_S A s.heap H [] := by rw [hHe]; exact hS
  refine kb_at hHe ?_
  clear hHe
  refine lv_iload_n hx hb d_Row_hasName_0 rfl (lv_at hl 2 rfl) ?_
  refine lv_iconst (v := 1) hx hb d_Row_hasName_1 (by decide) ?_
  refine lv_icmp_lt (tgt := 11) hx hb d_Row_hasName_2 (by decide) (fun c9 => ?_) (fun c9 => False.elim (by have e0 : (k : Int32).toInt < (1 : Int32).toInt := Int32.lt_iff_toInt_lt.mp hk; have e1 : ¬ (k : Int32).toInt < (1 : Int32).toInt := fun z9 => c9 (Int32.lt_iff_toInt_lt.mpr z9); have k0 : (1 : Int32).toInt = 1 := rfl; omega))
  refine lv_iconst (v := 0) hx hb d_Row_hasName_11 (by decide) ?_
  exact kb_retz (kb_l [], kb_f []) hx hb hr rfl hlocks hE hP hD hS [0] rfl (by decide) rfl rfl (Nat.le_of_ble_eq_true rfl) (Nat.le_of_ble_eq_true rfl) d_Row_hasName_12
end
section
theorem wd_4e2a5d63 : (Jvm.Cond.fieldLink "TreePress$Tree" (18 : Nat) "TreePress$Tree" "nodeParents" "LTreePress$Row;") ∈ kb_T := kb_t1 120 (by decide +kernel) (by decide +kernel)
theorem wd_d02778d4 : (Jvm.Cond.methodLink "TreePress$Tree" (69 : Nat) ({ cls := "TreePress$Row", name := "length", desc := "()I" } : Jvm.MethodName)) ∈ kb_T := kb_t1 80 (by decide +kernel) (by decide +kernel)
theorem wd_5e08083b : (Jvm.Cond.instanceMethod ({ cls := "TreePress$Row", name := "length", desc := "()I" } : Jvm.MethodName)) ∈ kb_T := kb_t1 81 (by decide +kernel) (by decide +kernel)
theorem wd_489345cb : (Jvm.Cond.selects "TreePress$Row" ({ cls := "TreePress$Row", name := "length", desc := "()I" } : Jvm.MethodName) ({ cls := "TreePress$Row", name := "length", desc := "()I" } : Jvm.MethodName)) ∈ kb_T := kb_t1 82 (by decide +kernel) (by decide +kernel)
theorem wd_8d5193a7 : (Jvm.Cond.code ({ cls := "TreePress$Row", name := "length", desc := "()I" } : Jvm.MethodName) prog_3_method_2_code (1 : Nat) (Option.some Jvm.ClassFile.FieldType.int)) ∈ kb_T := kb_t1 83 (by decide +kernel) (by decide +kernel)
theorem hd_d85231f4 : (⟨"TreePress$Row", "length", "()I"⟩ : MethodName).cls ≠ "java/lang/invoke/MethodHandle" ∧ (⟨"TreePress$Row", "length", "()I"⟩ : MethodName).cls ≠ "java/lang/invoke/VarHandle" ∧ (parseMethodDescriptor (⟨"TreePress$Row", "length", "()I"⟩ : MethodName).desc).map (fun d => d.parameters.length) = some 0 := by decide +kernel
theorem wd_99a1932c : (Jvm.Cond.fieldLink "TreePress$Tree" (36 : Nat) "TreePress$Tree" "owners" "LTreePress$Row;") ∈ kb_T := kb_t1 126 (by decide +kernel) (by decide +kernel)
theorem wd_0cfebd59 : (Jvm.Cond.methodLink "TreePress$Tree" (73 : Nat) ({ cls := "TreePress$Row", name := "at", desc := "(I)I" } : Jvm.MethodName)) ∈ kb_T := kb_t1 105 (by decide +kernel) (by decide +kernel)
theorem wd_1c0a6016 : (Jvm.Cond.instanceMethod ({ cls := "TreePress$Row", name := "at", desc := "(I)I" } : Jvm.MethodName)) ∈ kb_T := kb_t1 106 (by decide +kernel) (by decide +kernel)
theorem wd_3417d322 : (Jvm.Cond.selects "TreePress$Row" ({ cls := "TreePress$Row", name := "at", desc := "(I)I" } : Jvm.MethodName) ({ cls := "TreePress$Row", name := "at", desc := "(I)I" } : Jvm.MethodName)) ∈ kb_T := kb_t1 107 (by decide +kernel) (by decide +kernel)
theorem wd_8eb9b6e0 : (Jvm.Cond.code ({ cls := "TreePress$Row", name := "at", desc := "(I)I" } : Jvm.MethodName) prog_3_method_3_code (2 : Nat) (Option.some Jvm.ClassFile.FieldType.int)) ∈ kb_T := kb_t1 108 (by decide +kernel) (by decide +kernel)
theorem hd_d357ab42 : (⟨"TreePress$Row", "at", "(I)I"⟩ : MethodName).cls ≠ "java/lang/invoke/MethodHandle" ∧ (⟨"TreePress$Row", "at", "(I)I"⟩ : MethodName).cls ≠ "java/lang/invoke/VarHandle" ∧ (parseMethodDescriptor (⟨"TreePress$Row", "at", "(I)I"⟩ : MethodName).desc).map (fun d => d.parameters.length) = some 1 := by decide +kernel
theorem wd_a1ee67c2 : (Jvm.Cond.fieldLink "TreePress$Tree" (33 : Nat) "TreePress$Tree" "nodePropertyCounts" "LTreePress$Row;") ∈ kb_T := kb_t1 125 (by decide +kernel) (by decide +kernel)
theorem wd_5a2dade9 : (Jvm.Cond.fieldLink "TreePress$Tree" (30 : Nat) "TreePress$Tree" "nodeFirstProperties" "LTreePress$Row;") ∈ kb_T := kb_t1 124 (by decide +kernel) (by decide +kernel)
theorem wd_8b978912 : (Jvm.Cond.fieldLink "TreePress$Tree" (27 : Nat) "TreePress$Tree" "nodeNameLengths" "LTreePress$Row;") ∈ kb_T := kb_t1 123 (by decide +kernel) (by decide +kernel)
theorem wd_f9b8311a : (Jvm.Cond.methodLink "TreePress$Tree" (80 : Nat) ({ cls := "TreePress$Tree", name := "countOfNodes", desc := "()I" } : Jvm.MethodName)) ∈ kb_T := kb_t1 76 (by decide +kernel) (by decide +kernel)
theorem wd_004c0445 : (Jvm.Cond.instanceMethod ({ cls := "TreePress$Tree", name := "countOfNodes", desc := "()I" } : Jvm.MethodName)) ∈ kb_T := kb_t1 77 (by decide +kernel) (by decide +kernel)
theorem wd_dbedc27b : (Jvm.Cond.selects "TreePress$Tree" ({ cls := "TreePress$Tree", name := "countOfNodes", desc := "()I" } : Jvm.MethodName) ({ cls := "TreePress$Tree", name := "countOfNodes", desc := "()I" } : Jvm.MethodName)) ∈ kb_T := kb_t1 78 (by decide +kernel) (by decide +kernel)
theorem wd_ebf91e09 : (Jvm.Cond.initialized "TreePress$Tree") ∈ kb_T := kb_t1 4 (by decide +kernel) (by decide +kernel)
theorem wd_8a7bf582 : (Jvm.Cond.code ({ cls := "TreePress$Tree", name := "countOfNodes", desc := "()I" } : Jvm.MethodName) prog_4_method_3_code (1 : Nat) (Option.some Jvm.ClassFile.FieldType.int)) ∈ kb_T := kb_t1 79 (by decide +kernel) (by decide +kernel)
theorem hd_a0b17e13 : (⟨"TreePress$Tree", "countOfNodes", "()I"⟩ : MethodName).cls ≠ "java/lang/invoke/MethodHandle" ∧ (⟨"TreePress$Tree", "countOfNodes", "()I"⟩ : MethodName).cls ≠ "java/lang/invoke/VarHandle" ∧ (parseMethodDescriptor (⟨"TreePress$Tree", "countOfNodes", "()I"⟩ : MethodName).desc).map (fun d => d.parameters.length) = some 0 := by decide +kernel
theorem wd_f08393eb : (Jvm.Cond.fieldLink "TreePress$Tree" (62 : Nat) "TreePress$Tree" "place" "I") ∈ kb_T := kb_t1 132 (by decide +kernel) (by decide +kernel)
theorem wd_11d09eaf : (Jvm.Cond.methodLink "TreePress$Tree" (89 : Nat) ({ cls := "TreePress$Row", name := "add", desc := "(I)V" } : Jvm.MethodName)) ∈ kb_T := kb_t1 84 (by decide +kernel) (by decide +kernel)
theorem wd_6fe818ee : (Jvm.Cond.fieldLink "TreePress$Tree" (21 : Nat) "TreePress$Tree" "nodeDepths" "LTreePress$Row;") ∈ kb_T := kb_t1 121 (by decide +kernel) (by decide +kernel)
theorem wd_ae352740 : (Jvm.Cond.fieldLink "TreePress$Tree" (24 : Nat) "TreePress$Tree" "nodeNameStarts" "LTreePress$Row;") ∈ kb_T := kb_t1 122 (by decide +kernel) (by decide +kernel)
theorem wd_d0876019 : (Jvm.Cond.fieldLink "TreePress$Tree" (12 : Nat) "TreePress$Tree" "text" "LTreePress$Row;") ∈ kb_T := kb_t1 119 (by decide +kernel) (by decide +kernel)
theorem wd_a5250f59 : (Jvm.Cond.methodLink "TreePress$Tree" (83 : Nat) ({ cls := "TreePress$Tree", name := "countOfProperties", desc := "()I" } : Jvm.MethodName)) ∈ kb_T := kb_t1 109 (by decide +kernel) (by decide +kernel)
theorem wd_5e59c8fd : (Jvm.Cond.instanceMethod ({ cls := "TreePress$Tree", name := "countOfProperties", desc := "()I" } : Jvm.MethodName)) ∈ kb_T := kb_t1 110 (by decide +kernel) (by decide +kernel)
theorem wd_1e6fdce3 : (Jvm.Cond.selects "TreePress$Tree" ({ cls := "TreePress$Tree", name := "countOfProperties", desc := "()I" } : Jvm.MethodName) ({ cls := "TreePress$Tree", name := "countOfProperties", desc := "()I" } : Jvm.MethodName)) ∈ kb_T := kb_t1 111 (by decide +kernel) (by decide +kernel)
theorem wd_402a7dff : (Jvm.Cond.code ({ cls := "TreePress$Tree", name := "countOfProperties", desc := "()I" } : Jvm.MethodName) prog_4_method_4_code (1 : Nat) (Option.some Jvm.ClassFile.FieldType.int)) ∈ kb_T := kb_t1 112 (by decide +kernel) (by decide +kernel)
theorem hd_e49549c8 : (⟨"TreePress$Tree", "countOfProperties", "()I"⟩ : MethodName).cls ≠ "java/lang/invoke/MethodHandle" ∧ (⟨"TreePress$Tree", "countOfProperties", "()I"⟩ : MethodName).cls ≠ "java/lang/invoke/VarHandle" ∧ (parseMethodDescriptor (⟨"TreePress$Tree", "countOfProperties", "()I"⟩ : MethodName).desc).map (fun d => d.parameters.length) = some 0 := by decide +kernel
theorem wd_a985e60f : (Jvm.Cond.methodLink "TreePress$Tree" (92 : Nat) ({ cls := "TreePress$Row", name := "addPart", desc := "(LTreePress$Row;II)V" } : Jvm.MethodName)) ∈ kb_T := kb_t1 113 (by decide +kernel) (by decide +kernel)
theorem wd_620dff6e : (Jvm.Cond.instanceMethod ({ cls := "TreePress$Row", name := "addPart", desc := "(LTreePress$Row;II)V" } : Jvm.MethodName)) ∈ kb_T := kb_t1 114 (by decide +kernel) (by decide +kernel)
theorem wd_7e0170ce : (Jvm.Cond.selects "TreePress$Row" ({ cls := "TreePress$Row", name := "addPart", desc := "(LTreePress$Row;II)V" } : Jvm.MethodName) ({ cls := "TreePress$Row", name := "addPart", desc := "(LTreePress$Row;II)V" } : Jvm.MethodName)) ∈ kb_T := kb_t1 115 (by decide +kernel) (by decide +kernel)
theorem wd_2592bbbb : (Jvm.Cond.code ({ cls := "TreePress$Row", name := "addPart", desc := "(LTreePress$Row;II)V" } : Jvm.MethodName) prog_3_method_7_code (5 : Nat) (Option.none : Option Jvm.ClassFile.FieldType)) ∈ kb_T := kb_t1 116 (by decide +kernel) (by decide +kernel)
theorem hd_bbec148d : (⟨"TreePress$Row", "addPart", "(LTreePress$Row;II)V"⟩ : MethodName).cls ≠ "java/lang/invoke/MethodHandle" ∧ (⟨"TreePress$Row", "addPart", "(LTreePress$Row;II)V"⟩ : MethodName).cls ≠ "java/lang/invoke/VarHandle" ∧ (parseMethodDescriptor (⟨"TreePress$Row", "addPart", "(LTreePress$Row;II)V"⟩ : MethodName).desc).map (fun d => d.parameters.length) = some 3 := by decide +kernel
theorem wd_8899cd27 : (Jvm.Cond.methodLink "TreePress$Tree" (54 : Nat) ({ cls := "TreePress$Row", name := "cut", desc := "(I)V" } : Jvm.MethodName)) ∈ kb_T := kb_t1 68 (by decide +kernel) (by decide +kernel)
theorem wd_a30f3437 : (Jvm.Cond.instanceMethod ({ cls := "TreePress$Row", name := "cut", desc := "(I)V" } : Jvm.MethodName)) ∈ kb_T := kb_t1 69 (by decide +kernel) (by decide +kernel)
theorem wd_8c6818e9 : (Jvm.Cond.selects "TreePress$Row" ({ cls := "TreePress$Row", name := "cut", desc := "(I)V" } : Jvm.MethodName) ({ cls := "TreePress$Row", name := "cut", desc := "(I)V" } : Jvm.MethodName)) ∈ kb_T := kb_t1 70 (by decide +kernel) (by decide +kernel)
theorem wd_86891071 : (Jvm.Cond.code ({ cls := "TreePress$Row", name := "cut", desc := "(I)V" } : Jvm.MethodName) prog_3_method_6_code (2 : Nat) (Option.none : Option Jvm.ClassFile.FieldType)) ∈ kb_T := kb_t1 71 (by decide +kernel) (by decide +kernel)
theorem hd_934340dd : (⟨"TreePress$Row", "cut", "(I)V"⟩ : MethodName).cls ≠ "java/lang/invoke/MethodHandle" ∧ (⟨"TreePress$Row", "cut", "(I)V"⟩ : MethodName).cls ≠ "java/lang/invoke/VarHandle" ∧ (parseMethodDescriptor (⟨"TreePress$Row", "cut", "(I)V"⟩ : MethodName).desc).map (fun d => d.parameters.length) = some 1 := by decide +kernel
theorem wd_341ee72b : (Jvm.Cond.fieldLink "TreePress$Tree" (39 : Nat) "TreePress$Tree" "nameStarts" "LTreePress$Row;") ∈ kb_T := kb_t1 127 (by decide +kernel) (by decide +kernel)
theorem wd_20c6a963 : (Jvm.Cond.fieldLink "TreePress$Tree" (42 : Nat) "TreePress$Tree" "nameLengths" "LTreePress$Row;") ∈ kb_T := kb_t1 128 (by decide +kernel) (by decide +kernel)
theorem wd_41b50714 : (Jvm.Cond.fieldLink "TreePress$Tree" (45 : Nat) "TreePress$Tree" "valueLengths" "LTreePress$Row;") ∈ kb_T := kb_t1 129 (by decide +kernel) (by decide +kernel)
theorem wd_61bd367e : (Jvm.Cond.fieldLink "TreePress$Tree" (48 : Nat) "TreePress$Tree" "nameOffsets" "LTreePress$Row;") ∈ kb_T := kb_t1 130 (by decide +kernel) (by decide +kernel)
theorem wd_c03ba740 : (Jvm.Cond.fieldLink "TreePress$Tree" (58 : Nat) "TreePress$Tree" "laidNamesLength" "I") ∈ kb_T := kb_t1 131 (by decide +kernel) (by decide +kernel)
theorem wd_79d23d76 : (Jvm.Cond.methodLink "TreePress$Tree" (65 : Nat) ({ cls := "TreePress$Tree", name := "addNode", desc := "(LTreePress$Row;II)I" } : Jvm.MethodName)) ∈ kb_T := kb_t1 72 (by decide +kernel) (by decide +kernel)
theorem wd_d892b7a2 : (Jvm.Cond.instanceMethod ({ cls := "TreePress$Tree", name := "addNode", desc := "(LTreePress$Row;II)I" } : Jvm.MethodName)) ∈ kb_T := kb_t1 73 (by decide +kernel) (by decide +kernel)
theorem wd_4b7f4d4b : (Jvm.Cond.selects "TreePress$Tree" ({ cls := "TreePress$Tree", name := "addNode", desc := "(LTreePress$Row;II)I" } : Jvm.MethodName) ({ cls := "TreePress$Tree", name := "addNode", desc := "(LTreePress$Row;II)I" } : Jvm.MethodName)) ∈ kb_T := kb_t1 74 (by decide +kernel) (by decide +kernel)
theorem wd_d814e805 : (Jvm.Cond.code ({ cls := "TreePress$Tree", name := "addNode", desc := "(LTreePress$Row;II)I" } : Jvm.MethodName) prog_4_method_23_code (5 : Nat) (Option.some Jvm.ClassFile.FieldType.int)) ∈ kb_T := kb_t1 75 (by decide +kernel) (by decide +kernel)
theorem hd_0cbcafc1 : (⟨"TreePress$Tree", "addNode", "(LTreePress$Row;II)I"⟩ : MethodName).cls ≠ "java/lang/invoke/MethodHandle" ∧ (⟨"TreePress$Tree", "addNode", "(LTreePress$Row;II)I"⟩ : MethodName).cls ≠ "java/lang/invoke/VarHandle" ∧ (parseMethodDescriptor (⟨"TreePress$Tree", "addNode", "(LTreePress$Row;II)I"⟩ : MethodName).desc).map (fun d => d.parameters.length) = some 3 := by decide +kernel
theorem wd_b3268758 : (Jvm.Cond.methodLink "TreePress$Tree" (3 : Nat) ({ cls := "java/lang/Object", name := "<init>", desc := "()V" } : Jvm.MethodName)) ∈ kb_T := kb_t1 61 (by decide +kernel) (by decide +kernel)
theorem wd_bf675ff0 : (Jvm.Cond.classLink "TreePress$Tree" (9 : Nat) "TreePress$Row") ∈ kb_T := kb_t1 62 (by decide +kernel) (by decide +kernel)
theorem wd_23abe21f : (Jvm.Cond.instantiable "TreePress$Row" (2 : Nat)) ∈ kb_T := kb_t1 24 (by decide +kernel) (by decide +kernel)
theorem wd_120d8060 : (Jvm.Cond.code ({ cls := "TreePress$Row", name := "<init>", desc := "()V" } : Jvm.MethodName) prog_3_method_1_code (1 : Nat) (Option.none : Option Jvm.ClassFile.FieldType)) ∈ kb_T := kb_t1 27 (by decide +kernel) (by decide +kernel)
theorem wd_dfe53b0a : (Jvm.Cond.methodLink "TreePress$Tree" (11 : Nat) ({ cls := "TreePress$Row", name := "<init>", desc := "()V" } : Jvm.MethodName)) ∈ kb_T := kb_t1 63 (by decide +kernel) (by decide +kernel)
theorem wd_48fb15c2 : (Jvm.Cond.instanceMethod ({ cls := "TreePress$Row", name := "<init>", desc := "()V" } : Jvm.MethodName)) ∈ kb_T := kb_t1 26 (by decide +kernel) (by decide +kernel)
theorem hd_e8c59c19 : (⟨"TreePress$Row", "<init>", "()V"⟩ : MethodName).cls ≠ "java/lang/invoke/MethodHandle" ∧ (⟨"TreePress$Row", "<init>", "()V"⟩ : MethodName).cls ≠ "java/lang/invoke/VarHandle" ∧ (parseMethodDescriptor (⟨"TreePress$Row", "<init>", "()V"⟩ : MethodName).desc).map (fun d => d.parameters.length) = some 0 := by decide +kernel
theorem wd_c9d54c1b : (Jvm.Cond.methodLink "TreePress$Tree" (51 : Nat) ({ cls := "TreePress$Tree", name := "wipe", desc := "()V" } : Jvm.MethodName)) ∈ kb_T := kb_t1 64 (by decide +kernel) (by decide +kernel)
theorem wd_ece7ca0c : (Jvm.Cond.instanceMethod ({ cls := "TreePress$Tree", name := "wipe", desc := "()V" } : Jvm.MethodName)) ∈ kb_T := kb_t1 65 (by decide +kernel) (by decide +kernel)
theorem wd_737eaf02 : (Jvm.Cond.selects "TreePress$Tree" ({ cls := "TreePress$Tree", name := "wipe", desc := "()V" } : Jvm.MethodName) ({ cls := "TreePress$Tree", name := "wipe", desc := "()V" } : Jvm.MethodName)) ∈ kb_T := kb_t1 66 (by decide +kernel) (by decide +kernel)
theorem wd_aec3778d : (Jvm.Cond.code ({ cls := "TreePress$Tree", name := "wipe", desc := "()V" } : Jvm.MethodName) prog_4_method_2_code (1 : Nat) (Option.none : Option Jvm.ClassFile.FieldType)) ∈ kb_T := kb_t1 67 (by decide +kernel) (by decide +kernel)
theorem hd_4ac2e733 : (⟨"TreePress$Tree", "wipe", "()V"⟩ : MethodName).cls ≠ "java/lang/invoke/MethodHandle" ∧ (⟨"TreePress$Tree", "wipe", "()V"⟩ : MethodName).cls ≠ "java/lang/invoke/VarHandle" ∧ (parseMethodDescriptor (⟨"TreePress$Tree", "wipe", "()V"⟩ : MethodName).desc).map (fun d => d.parameters.length) = some 0 := by decide +kernel
theorem d_Tree_countOfNodes_0 : decode prog_4_method_3_code 0 = .ok (.aload_n 0, 1) := by decide +kernel
theorem d_Tree_countOfNodes_1 : decode prog_4_method_3_code 1 = .ok (.getfield 18, 3) := by decide +kernel
theorem d_Tree_countOfNodes_4 : decode prog_4_method_3_code 4 = .ok (.invokevirtual 69, 3) := by decide +kernel
theorem d_Tree_countOfNodes_7 : decode prog_4_method_3_code 7 = .ok (.ireturn, 1) := by decide +kernel
theorem d_Tree_countOfProperties_0 : decode prog_4_method_4_code 0 = .ok (.aload_n 0, 1) := by decide +kernel
theorem d_Tree_countOfProperties_1 : decode prog_4_method_4_code 1 = .ok (.getfield 36, 3) := by decide +kernel
theorem d_Tree_countOfProperties_4 : decode prog_4_method_4_code 4 = .ok (.invokevirtual 69, 3) := by decide +kernel
theorem d_Tree_countOfProperties_7 : decode prog_4_method_4_code 7 = .ok (.ireturn, 1) := by decide +kernel
theorem d_Tree_parentOf_0 : decode prog_4_method_5_code 0 = .ok (.aload_n 0, 1) := by decide +kernel
theorem d_Tree_parentOf_1 : decode prog_4_method_5_code 1 = .ok (.getfield 18, 3) := by decide +kernel
theorem d_Tree_parentOf_4 : decode prog_4_method_5_code 4 = .ok (.iload_n 1, 1) := by decide +kernel
theorem d_Tree_parentOf_5 : decode prog_4_method_5_code 5 = .ok (.invokevirtual 73, 3) := by decide +kernel
theorem d_Tree_parentOf_8 : decode prog_4_method_5_code 8 = .ok (.ireturn, 1) := by decide +kernel
theorem d_Tree_propertiesOf_0 : decode prog_4_method_6_code 0 = .ok (.aload_n 0, 1) := by decide +kernel
theorem d_Tree_propertiesOf_1 : decode prog_4_method_6_code 1 = .ok (.getfield 33, 3) := by decide +kernel
theorem d_Tree_propertiesOf_4 : decode prog_4_method_6_code 4 = .ok (.iload_n 1, 1) := by decide +kernel
theorem d_Tree_propertiesOf_5 : decode prog_4_method_6_code 5 = .ok (.invokevirtual 73, 3) := by decide +kernel
theorem d_Tree_propertiesOf_8 : decode prog_4_method_6_code 8 = .ok (.ireturn, 1) := by decide +kernel
theorem d_Tree_firstPropertyOf_0 : decode prog_4_method_7_code 0 = .ok (.aload_n 0, 1) := by decide +kernel
theorem d_Tree_firstPropertyOf_1 : decode prog_4_method_7_code 1 = .ok (.getfield 30, 3) := by decide +kernel
theorem d_Tree_firstPropertyOf_4 : decode prog_4_method_7_code 4 = .ok (.iload_n 1, 1) := by decide +kernel
theorem d_Tree_firstPropertyOf_5 : decode prog_4_method_7_code 5 = .ok (.invokevirtual 73, 3) := by decide +kernel
theorem d_Tree_firstPropertyOf_8 : decode prog_4_method_7_code 8 = .ok (.ireturn, 1) := by decide +kernel
theorem d_Tree_lengthOfNodeName_0 : decode prog_4_method_8_code 0 = .ok (.aload_n 0, 1) := by decide +kernel
theorem d_Tree_lengthOfNodeName_1 : decode prog_4_method_8_code 1 = .ok (.getfield 27, 3) := by decide +kernel
theorem d_Tree_lengthOfNodeName_4 : decode prog_4_method_8_code 4 = .ok (.iload_n 1, 1) := by decide +kernel
theorem d_Tree_lengthOfNodeName_5 : decode prog_4_method_8_code 5 = .ok (.invokevirtual 73, 3) := by decide +kernel
theorem d_Tree_lengthOfNodeName_8 : decode prog_4_method_8_code 8 = .ok (.ireturn, 1) := by decide +kernel
theorem d_Tree_addNode_0 : decode prog_4_method_23_code 0 = .ok (.aload_n 0, 1) := by decide +kernel
theorem d_Tree_addNode_1 : decode prog_4_method_23_code 1 = .ok (.invokevirtual 80, 3) := by decide +kernel
theorem d_Tree_addNode_4 : decode prog_4_method_23_code 4 = .ok (.istore 4, 2) := by decide +kernel
theorem d_Tree_addNode_6 : decode prog_4_method_23_code 6 = .ok (.aload_n 0, 1) := by decide +kernel
theorem d_Tree_addNode_7 : decode prog_4_method_23_code 7 = .ok (.getfield 18, 3) := by decide +kernel
theorem d_Tree_addNode_10 : decode prog_4_method_23_code 10 = .ok (.aload_n 0, 1) := by decide +kernel
theorem d_Tree_addNode_11 : decode prog_4_method_23_code 11 = .ok (.getfield 62, 3) := by decide +kernel
theorem d_Tree_addNode_14 : decode prog_4_method_23_code 14 = .ok (.invokevirtual 89, 3) := by decide +kernel
theorem d_Tree_addNode_17 : decode prog_4_method_23_code 17 = .ok (.aload_n 0, 1) := by decide +kernel
theorem d_Tree_addNode_18 : decode prog_4_method_23_code 18 = .ok (.getfield 21, 3) := by decide +kernel
theorem d_Tree_addNode_21 : decode prog_4_method_23_code 21 = .ok (.aload_n 0, 1) := by decide +kernel
theorem d_Tree_addNode_22 : decode prog_4_method_23_code 22 = .ok (.getfield 62, 3) := by decide +kernel
theorem d_Tree_addNode_25 : decode prog_4_method_23_code 25 = .ok (.iconst (-1), 1) := by decide +kernel
theorem d_Tree_addNode_26 : decode prog_4_method_23_code 26 = .ok (.if_icmp .ne 7, 3) := by decide +kernel
theorem d_Tree_addNode_29 : decode prog_4_method_23_code 29 = .ok (.iconst 1, 1) := by decide +kernel
theorem d_Tree_addNode_30 : decode prog_4_method_23_code 30 = .ok (.goto 16, 3) := by decide +kernel
theorem d_Tree_addNode_46 : decode prog_4_method_23_code 46 = .ok (.invokevirtual 89, 3) := by decide +kernel
theorem d_Tree_addNode_49 : decode prog_4_method_23_code 49 = .ok (.aload_n 0, 1) := by decide +kernel
theorem d_Tree_addNode_50 : decode prog_4_method_23_code 50 = .ok (.getfield 24, 3) := by decide +kernel
theorem d_Tree_addNode_53 : decode prog_4_method_23_code 53 = .ok (.aload_n 0, 1) := by decide +kernel
theorem d_Tree_addNode_54 : decode prog_4_method_23_code 54 = .ok (.getfield 12, 3) := by decide +kernel
theorem d_Tree_addNode_57 : decode prog_4_method_23_code 57 = .ok (.invokevirtual 69, 3) := by decide +kernel
theorem d_Tree_addNode_60 : decode prog_4_method_23_code 60 = .ok (.invokevirtual 89, 3) := by decide +kernel
theorem d_Tree_addNode_63 : decode prog_4_method_23_code 63 = .ok (.aload_n 0, 1) := by decide +kernel
theorem d_Tree_addNode_64 : decode prog_4_method_23_code 64 = .ok (.getfield 27, 3) := by decide +kernel
theorem d_Tree_addNode_67 : decode prog_4_method_23_code 67 = .ok (.iload_n 3, 1) := by decide +kernel
theorem d_Tree_addNode_68 : decode prog_4_method_23_code 68 = .ok (.invokevirtual 89, 3) := by decide +kernel
theorem d_Tree_addNode_71 : decode prog_4_method_23_code 71 = .ok (.aload_n 0, 1) := by decide +kernel
theorem d_Tree_addNode_72 : decode prog_4_method_23_code 72 = .ok (.getfield 30, 3) := by decide +kernel
theorem d_Tree_addNode_75 : decode prog_4_method_23_code 75 = .ok (.aload_n 0, 1) := by decide +kernel
theorem d_Tree_addNode_76 : decode prog_4_method_23_code 76 = .ok (.invokevirtual 83, 3) := by decide +kernel
theorem d_Tree_addNode_79 : decode prog_4_method_23_code 79 = .ok (.invokevirtual 89, 3) := by decide +kernel
theorem d_Tree_addNode_82 : decode prog_4_method_23_code 82 = .ok (.aload_n 0, 1) := by decide +kernel
theorem d_Tree_addNode_83 : decode prog_4_method_23_code 83 = .ok (.getfield 33, 3) := by decide +kernel
theorem d_Tree_addNode_86 : decode prog_4_method_23_code 86 = .ok (.iconst 0, 1) := by decide +kernel
theorem d_Tree_addNode_87 : decode prog_4_method_23_code 87 = .ok (.invokevirtual 89, 3) := by decide +kernel
theorem d_Tree_addNode_90 : decode prog_4_method_23_code 90 = .ok (.aload_n 0, 1) := by decide +kernel
theorem d_Tree_addNode_91 : decode prog_4_method_23_code 91 = .ok (.getfield 12, 3) := by decide +kernel
theorem d_Tree_addNode_94 : decode prog_4_method_23_code 94 = .ok (.aload_n 1, 1) := by decide +kernel
theorem d_Tree_addNode_95 : decode prog_4_method_23_code 95 = .ok (.iload_n 2, 1) := by decide +kernel
theorem d_Tree_addNode_96 : decode prog_4_method_23_code 96 = .ok (.iload_n 3, 1) := by decide +kernel
theorem d_Tree_addNode_97 : decode prog_4_method_23_code 97 = .ok (.invokevirtual 92, 3) := by decide +kernel
theorem d_Tree_addNode_100 : decode prog_4_method_23_code 100 = .ok (.aload_n 0, 1) := by decide +kernel
theorem d_Tree_addNode_101 : decode prog_4_method_23_code 101 = .ok (.iload 4, 2) := by decide +kernel
theorem d_Tree_addNode_103 : decode prog_4_method_23_code 103 = .ok (.putfield 62, 3) := by decide +kernel
theorem d_Tree_addNode_106 : decode prog_4_method_23_code 106 = .ok (.iload 4, 2) := by decide +kernel
theorem d_Tree_addNode_108 : decode prog_4_method_23_code 108 = .ok (.ireturn, 1) := by decide +kernel
theorem d_Tree_wipe_0 : decode prog_4_method_2_code 0 = .ok (.aload_n 0, 1) := by decide +kernel
theorem d_Tree_wipe_1 : decode prog_4_method_2_code 1 = .ok (.getfield 12, 3) := by decide +kernel
theorem d_Tree_wipe_4 : decode prog_4_method_2_code 4 = .ok (.iconst 0, 1) := by decide +kernel
theorem d_Tree_wipe_5 : decode prog_4_method_2_code 5 = .ok (.invokevirtual 54, 3) := by decide +kernel
theorem d_Tree_wipe_8 : decode prog_4_method_2_code 8 = .ok (.aload_n 0, 1) := by decide +kernel
theorem d_Tree_wipe_9 : decode prog_4_method_2_code 9 = .ok (.getfield 18, 3) := by decide +kernel
theorem d_Tree_wipe_12 : decode prog_4_method_2_code 12 = .ok (.iconst 0, 1) := by decide +kernel
theorem d_Tree_wipe_13 : decode prog_4_method_2_code 13 = .ok (.invokevirtual 54, 3) := by decide +kernel
theorem d_Tree_wipe_16 : decode prog_4_method_2_code 16 = .ok (.aload_n 0, 1) := by decide +kernel
theorem d_Tree_wipe_17 : decode prog_4_method_2_code 17 = .ok (.getfield 21, 3) := by decide +kernel
theorem d_Tree_wipe_20 : decode prog_4_method_2_code 20 = .ok (.iconst 0, 1) := by decide +kernel
theorem d_Tree_wipe_21 : decode prog_4_method_2_code 21 = .ok (.invokevirtual 54, 3) := by decide +kernel
theorem d_Tree_wipe_24 : decode prog_4_method_2_code 24 = .ok (.aload_n 0, 1) := by decide +kernel
theorem d_Tree_wipe_25 : decode prog_4_method_2_code 25 = .ok (.getfield 24, 3) := by decide +kernel
theorem d_Tree_wipe_28 : decode prog_4_method_2_code 28 = .ok (.iconst 0, 1) := by decide +kernel
theorem d_Tree_wipe_29 : decode prog_4_method_2_code 29 = .ok (.invokevirtual 54, 3) := by decide +kernel
theorem d_Tree_wipe_32 : decode prog_4_method_2_code 32 = .ok (.aload_n 0, 1) := by decide +kernel
theorem d_Tree_wipe_33 : decode prog_4_method_2_code 33 = .ok (.getfield 27, 3) := by decide +kernel
theorem d_Tree_wipe_36 : decode prog_4_method_2_code 36 = .ok (.iconst 0, 1) := by decide +kernel
theorem d_Tree_wipe_37 : decode prog_4_method_2_code 37 = .ok (.invokevirtual 54, 3) := by decide +kernel
theorem d_Tree_wipe_40 : decode prog_4_method_2_code 40 = .ok (.aload_n 0, 1) := by decide +kernel
theorem d_Tree_wipe_41 : decode prog_4_method_2_code 41 = .ok (.getfield 30, 3) := by decide +kernel
theorem d_Tree_wipe_44 : decode prog_4_method_2_code 44 = .ok (.iconst 0, 1) := by decide +kernel
theorem d_Tree_wipe_45 : decode prog_4_method_2_code 45 = .ok (.invokevirtual 54, 3) := by decide +kernel
theorem d_Tree_wipe_48 : decode prog_4_method_2_code 48 = .ok (.aload_n 0, 1) := by decide +kernel
theorem d_Tree_wipe_49 : decode prog_4_method_2_code 49 = .ok (.getfield 33, 3) := by decide +kernel
theorem d_Tree_wipe_52 : decode prog_4_method_2_code 52 = .ok (.iconst 0, 1) := by decide +kernel
theorem d_Tree_wipe_53 : decode prog_4_method_2_code 53 = .ok (.invokevirtual 54, 3) := by decide +kernel
theorem d_Tree_wipe_56 : decode prog_4_method_2_code 56 = .ok (.aload_n 0, 1) := by decide +kernel
theorem d_Tree_wipe_57 : decode prog_4_method_2_code 57 = .ok (.getfield 36, 3) := by decide +kernel
theorem d_Tree_wipe_60 : decode prog_4_method_2_code 60 = .ok (.iconst 0, 1) := by decide +kernel
theorem d_Tree_wipe_61 : decode prog_4_method_2_code 61 = .ok (.invokevirtual 54, 3) := by decide +kernel
theorem d_Tree_wipe_64 : decode prog_4_method_2_code 64 = .ok (.aload_n 0, 1) := by decide +kernel
theorem d_Tree_wipe_65 : decode prog_4_method_2_code 65 = .ok (.getfield 39, 3) := by decide +kernel
theorem d_Tree_wipe_68 : decode prog_4_method_2_code 68 = .ok (.iconst 0, 1) := by decide +kernel
theorem d_Tree_wipe_69 : decode prog_4_method_2_code 69 = .ok (.invokevirtual 54, 3) := by decide +kernel
theorem d_Tree_wipe_72 : decode prog_4_method_2_code 72 = .ok (.aload_n 0, 1) := by decide +kernel
theorem d_Tree_wipe_73 : decode prog_4_method_2_code 73 = .ok (.getfield 42, 3) := by decide +kernel
theorem d_Tree_wipe_76 : decode prog_4_method_2_code 76 = .ok (.iconst 0, 1) := by decide +kernel
theorem d_Tree_wipe_77 : decode prog_4_method_2_code 77 = .ok (.invokevirtual 54, 3) := by decide +kernel
theorem d_Tree_wipe_80 : decode prog_4_method_2_code 80 = .ok (.aload_n 0, 1) := by decide +kernel
theorem d_Tree_wipe_81 : decode prog_4_method_2_code 81 = .ok (.getfield 45, 3) := by decide +kernel
theorem d_Tree_wipe_84 : decode prog_4_method_2_code 84 = .ok (.iconst 0, 1) := by decide +kernel
theorem d_Tree_wipe_85 : decode prog_4_method_2_code 85 = .ok (.invokevirtual 54, 3) := by decide +kernel
theorem d_Tree_wipe_88 : decode prog_4_method_2_code 88 = .ok (.aload_n 0, 1) := by decide +kernel
theorem d_Tree_wipe_89 : decode prog_4_method_2_code 89 = .ok (.getfield 48, 3) := by decide +kernel
theorem d_Tree_wipe_92 : decode prog_4_method_2_code 92 = .ok (.iconst 0, 1) := by decide +kernel
theorem d_Tree_wipe_93 : decode prog_4_method_2_code 93 = .ok (.invokevirtual 54, 3) := by decide +kernel
theorem d_Tree_wipe_96 : decode prog_4_method_2_code 96 = .ok (.aload_n 0, 1) := by decide +kernel
theorem d_Tree_wipe_97 : decode prog_4_method_2_code 97 = .ok (.iconst 0, 1) := by decide +kernel
theorem d_Tree_wipe_98 : decode prog_4_method_2_code 98 = .ok (.putfield 58, 3) := by decide +kernel
theorem d_Tree_wipe_101 : decode prog_4_method_2_code 101 = .ok (.aload_n 0, 1) := by decide +kernel
theorem d_Tree_wipe_102 : decode prog_4_method_2_code 102 = .ok (.iconst (-1), 1) := by decide +kernel
theorem d_Tree_wipe_103 : decode prog_4_method_2_code 103 = .ok (.putfield 62, 3) := by decide +kernel
theorem d_Tree_wipe_106 : decode prog_4_method_2_code 106 = .ok (.aload_n 0, 1) := by decide +kernel
theorem d_Tree_wipe_107 : decode prog_4_method_2_code 107 = .ok (.aload_n 0, 1) := by decide +kernel
theorem d_Tree_wipe_108 : decode prog_4_method_2_code 108 = .ok (.getfield 12, 3) := by decide +kernel
theorem d_Tree_wipe_111 : decode prog_4_method_2_code 111 = .ok (.iconst 0, 1) := by decide +kernel
theorem d_Tree_wipe_112 : decode prog_4_method_2_code 112 = .ok (.iconst 0, 1) := by decide +kernel
theorem d_Tree_wipe_113 : decode prog_4_method_2_code 113 = .ok (.invokevirtual 65, 3) := by decide +kernel
theorem d_Tree_wipe_116 : decode prog_4_method_2_code 116 = .ok (.pop, 1) := by decide +kernel
theorem d_Tree_wipe_117 : decode prog_4_method_2_code 117 = .ok (.return_, 1) := by decide +kernel
theorem d_Tree_init_0 : decode prog_4_method_1_code 0 = .ok (.aload_n 0, 1) := by decide +kernel
theorem d_Tree_init_1 : decode prog_4_method_1_code 1 = .ok (.invokespecial 3, 3) := by decide +kernel
theorem d_Tree_init_4 : decode prog_4_method_1_code 4 = .ok (.aload_n 0, 1) := by decide +kernel
theorem d_Tree_init_5 : decode prog_4_method_1_code 5 = .ok (.new 9, 3) := by decide +kernel
theorem d_Tree_init_8 : decode prog_4_method_1_code 8 = .ok (.dup, 1) := by decide +kernel
theorem d_Tree_init_9 : decode prog_4_method_1_code 9 = .ok (.invokespecial 11, 3) := by decide +kernel
theorem d_Tree_init_12 : decode prog_4_method_1_code 12 = .ok (.putfield 12, 3) := by decide +kernel
theorem d_Tree_init_15 : decode prog_4_method_1_code 15 = .ok (.aload_n 0, 1) := by decide +kernel
theorem d_Tree_init_16 : decode prog_4_method_1_code 16 = .ok (.new 9, 3) := by decide +kernel
theorem d_Tree_init_19 : decode prog_4_method_1_code 19 = .ok (.dup, 1) := by decide +kernel
theorem d_Tree_init_20 : decode prog_4_method_1_code 20 = .ok (.invokespecial 11, 3) := by decide +kernel
theorem d_Tree_init_23 : decode prog_4_method_1_code 23 = .ok (.putfield 18, 3) := by decide +kernel
theorem d_Tree_init_26 : decode prog_4_method_1_code 26 = .ok (.aload_n 0, 1) := by decide +kernel
theorem d_Tree_init_27 : decode prog_4_method_1_code 27 = .ok (.new 9, 3) := by decide +kernel
theorem d_Tree_init_30 : decode prog_4_method_1_code 30 = .ok (.dup, 1) := by decide +kernel
theorem d_Tree_init_31 : decode prog_4_method_1_code 31 = .ok (.invokespecial 11, 3) := by decide +kernel
theorem d_Tree_init_34 : decode prog_4_method_1_code 34 = .ok (.putfield 21, 3) := by decide +kernel
theorem d_Tree_init_37 : decode prog_4_method_1_code 37 = .ok (.aload_n 0, 1) := by decide +kernel
theorem d_Tree_init_38 : decode prog_4_method_1_code 38 = .ok (.new 9, 3) := by decide +kernel
theorem d_Tree_init_41 : decode prog_4_method_1_code 41 = .ok (.dup, 1) := by decide +kernel
theorem d_Tree_init_42 : decode prog_4_method_1_code 42 = .ok (.invokespecial 11, 3) := by decide +kernel
theorem d_Tree_init_45 : decode prog_4_method_1_code 45 = .ok (.putfield 24, 3) := by decide +kernel
theorem d_Tree_init_48 : decode prog_4_method_1_code 48 = .ok (.aload_n 0, 1) := by decide +kernel
theorem d_Tree_init_49 : decode prog_4_method_1_code 49 = .ok (.new 9, 3) := by decide +kernel
theorem d_Tree_init_52 : decode prog_4_method_1_code 52 = .ok (.dup, 1) := by decide +kernel
theorem d_Tree_init_53 : decode prog_4_method_1_code 53 = .ok (.invokespecial 11, 3) := by decide +kernel
theorem d_Tree_init_56 : decode prog_4_method_1_code 56 = .ok (.putfield 27, 3) := by decide +kernel
theorem d_Tree_init_59 : decode prog_4_method_1_code 59 = .ok (.aload_n 0, 1) := by decide +kernel
theorem d_Tree_init_60 : decode prog_4_method_1_code 60 = .ok (.new 9, 3) := by decide +kernel
theorem d_Tree_init_63 : decode prog_4_method_1_code 63 = .ok (.dup, 1) := by decide +kernel
theorem d_Tree_init_64 : decode prog_4_method_1_code 64 = .ok (.invokespecial 11, 3) := by decide +kernel
theorem d_Tree_init_67 : decode prog_4_method_1_code 67 = .ok (.putfield 30, 3) := by decide +kernel
theorem d_Tree_init_70 : decode prog_4_method_1_code 70 = .ok (.aload_n 0, 1) := by decide +kernel
theorem d_Tree_init_71 : decode prog_4_method_1_code 71 = .ok (.new 9, 3) := by decide +kernel
theorem d_Tree_init_74 : decode prog_4_method_1_code 74 = .ok (.dup, 1) := by decide +kernel
theorem d_Tree_init_75 : decode prog_4_method_1_code 75 = .ok (.invokespecial 11, 3) := by decide +kernel
theorem d_Tree_init_78 : decode prog_4_method_1_code 78 = .ok (.putfield 33, 3) := by decide +kernel
theorem d_Tree_init_81 : decode prog_4_method_1_code 81 = .ok (.aload_n 0, 1) := by decide +kernel
theorem d_Tree_init_82 : decode prog_4_method_1_code 82 = .ok (.new 9, 3) := by decide +kernel
theorem d_Tree_init_85 : decode prog_4_method_1_code 85 = .ok (.dup, 1) := by decide +kernel
theorem d_Tree_init_86 : decode prog_4_method_1_code 86 = .ok (.invokespecial 11, 3) := by decide +kernel
theorem d_Tree_init_89 : decode prog_4_method_1_code 89 = .ok (.putfield 36, 3) := by decide +kernel
theorem d_Tree_init_92 : decode prog_4_method_1_code 92 = .ok (.aload_n 0, 1) := by decide +kernel
theorem d_Tree_init_93 : decode prog_4_method_1_code 93 = .ok (.new 9, 3) := by decide +kernel
theorem d_Tree_init_96 : decode prog_4_method_1_code 96 = .ok (.dup, 1) := by decide +kernel
theorem d_Tree_init_97 : decode prog_4_method_1_code 97 = .ok (.invokespecial 11, 3) := by decide +kernel
theorem d_Tree_init_100 : decode prog_4_method_1_code 100 = .ok (.putfield 39, 3) := by decide +kernel
theorem d_Tree_init_103 : decode prog_4_method_1_code 103 = .ok (.aload_n 0, 1) := by decide +kernel
theorem d_Tree_init_104 : decode prog_4_method_1_code 104 = .ok (.new 9, 3) := by decide +kernel
theorem d_Tree_init_107 : decode prog_4_method_1_code 107 = .ok (.dup, 1) := by decide +kernel
theorem d_Tree_init_108 : decode prog_4_method_1_code 108 = .ok (.invokespecial 11, 3) := by decide +kernel
theorem d_Tree_init_111 : decode prog_4_method_1_code 111 = .ok (.putfield 42, 3) := by decide +kernel
theorem d_Tree_init_114 : decode prog_4_method_1_code 114 = .ok (.aload_n 0, 1) := by decide +kernel
theorem d_Tree_init_115 : decode prog_4_method_1_code 115 = .ok (.new 9, 3) := by decide +kernel
theorem d_Tree_init_118 : decode prog_4_method_1_code 118 = .ok (.dup, 1) := by decide +kernel
theorem d_Tree_init_119 : decode prog_4_method_1_code 119 = .ok (.invokespecial 11, 3) := by decide +kernel
theorem d_Tree_init_122 : decode prog_4_method_1_code 122 = .ok (.putfield 45, 3) := by decide +kernel
theorem d_Tree_init_125 : decode prog_4_method_1_code 125 = .ok (.aload_n 0, 1) := by decide +kernel
theorem d_Tree_init_126 : decode prog_4_method_1_code 126 = .ok (.new 9, 3) := by decide +kernel
theorem d_Tree_init_129 : decode prog_4_method_1_code 129 = .ok (.dup, 1) := by decide +kernel
theorem d_Tree_init_130 : decode prog_4_method_1_code 130 = .ok (.invokespecial 11, 3) := by decide +kernel
theorem d_Tree_init_133 : decode prog_4_method_1_code 133 = .ok (.putfield 48, 3) := by decide +kernel
theorem d_Tree_init_136 : decode prog_4_method_1_code 136 = .ok (.aload_n 0, 1) := by decide +kernel
theorem d_Tree_init_137 : decode prog_4_method_1_code 137 = .ok (.invokevirtual 51, 3) := by decide +kernel
theorem d_Tree_init_140 : decode prog_4_method_1_code 140 = .ok (.return_, 1) := by decide +kernel
set_option maxHeartbeats 4000000 in
set_option maxRecDepth 100000 in
theorem c_Tree_countOfNodes (l : Launch) (G : kb_G) (h : Nat) (r0 : Nat) (r1 : Nat) (r2 : Nat) (r3 : Nat) (r4 : Nat) (r5 : Nat) (r6 : Nat) (r7 : Nat) (r8 : Nat) (r9 : Nat) (r10 : Nat) (r11 : Nat) (L : Int32) (P : Int32) (a : Nat) (v : Int32) : kb_ci l G ⟨"TreePress$Tree", "countOfNodes", "()I"⟩ prog_4_method_3_code 1 (some .int) 2 0 0 [.ref h] [kb_o h 2 [.ref r0, .ref r1, .ref r2, .ref r3, .ref r4, .ref r5, .ref r6, .ref r7, .ref r8, .ref r9, .ref r10, .ref r11, .int L, .int P], kb_o r1 1 [.ref a, .int v]] (fun r u => r = v) (fun u => [kb_o h 2 [.ref r0, .ref r1, .ref r2, .ref r3, .ref r4, .ref r5, .ref r6, .ref r7, .ref r8, .ref r9, .ref r10, .ref r11, .int L, .int P], kb_o r1 1 [.ref a, .int v]]) := by
  intro sz
  refine kb_body (QQ := fun A => kb_Qi G A (fun r u => r = v) (fun u => [kb_o h 2 [.ref r0, .ref r1, .ref r2, .ref r3, .ref r4, .ref r5, .ref r6, .ref r7, .ref r8, .ref r9, .ref r10, .ref r11, .int L, .int P], kb_o r1 1 [.ref a, .int v]])) (by decide) (Nat.le_of_ble_eq_true rfl) ?_
  intro p e s m below meth c A B ls hl
  obtain ⟨hx, hb, hr, hml, hlocks, hin, hown, ht, hE, hP, hD, hS⟩ := B
  have hl : lv_has ls 1 [(0, .ref h)] := hl
  have hP0 := hP
  obtain ⟨H, hHe⟩ : ∃ H, H = s.heap := ⟨_, rfl⟩
  rw [← hHe] at hP
  have hS : va_S A s.heap H [] := by rw [hHe]; exact hS
  refine kb_at hHe ?_
  clear hHe
  refine lv_aload_n hx hb d_Tree_countOfNodes_0 rfl (lv_at hl 0 rfl) ?_
  refine va_get (D := G.1) (ci := 2) (v := .ref r1) (C := "TreePress$Tree") (T := kb_F2) (N := 14) hx hb ht kb_w2 hown hE.1 hP 0 rfl rfl 1 (by decide) (ht _ wd_4e2a5d63) (fun _ h9 => h9) rfl d_Tree_countOfNodes_1 ?_
  refine kb_i (wc := [kb_o r1 1 [.ref a, .int v]]) (wr := [kb_o h 2 [.ref r0, .ref r1, .ref r2, .ref r3, .ref r4, .ref r5, .ref r6, .ref r7, .ref r8, .ref r9, .ref r10, .ref r11, .int L, .int P]]) hE hP hD hS [1] [0] rfl rfl (by decide) (by decide) (kb_rV (As := []) (rest := []) (wc := [kb_o r1 1 [.ref a, .int v]]) (q0 := 0) ⟨hx, hb, hml, hown, ht⟩ ((c_Row_length l G r1 a v) _) (kb_gV wd_d02778d4 wd_5e08083b wd_489345cb wd_4182e433 wd_8d5193a7) ⟨rfl, hd_d85231f4⟩ ⟨(Nat.le_of_ble_eq_true rfl), (Nat.le_of_ble_eq_true rfl)⟩ hE hP hD hS [1] rfl (by decide) rfl rfl rfl hl.1 rfl (Nat.le_of_ble_eq_true rfl) d_Tree_countOfNodes_4 ⟨(Nat.le_of_ble_eq_true rfl), (Nat.le_of_ble_eq_true rfl)⟩) (fun rv2 uu1 H locs hw hP hD hS => ?_)
  have hP : va_P G.1 kb_cl [kb_o h 2 [.ref r0, .ref r1, .ref r2, .ref r3, .ref r4, .ref r5, .ref r6, .ref r7, .ref r8, .ref r9, .ref r10, .ref r11, .int L, .int P], kb_o r1 1 [.ref a, .int v]] H := hP
  have hD : va_D A [kb_o h 2 [.ref r0, .ref r1, .ref r2, .ref r3, .ref r4, .ref r5, .ref r6, .ref r7, .ref r8, .ref r9, .ref r10, .ref r11, .int L, .int P], kb_o r1 1 [.ref a, .int v]] := hD
  refine kb_top (y := v) (show rv2 = v from hw) ?_
  exact kb_reti (kb_l [], kb_f []) hx hb hr hlocks hE hP hD hS [0, 1] rfl (by decide) rfl rfl (Nat.le_of_ble_eq_true rfl) (Nat.le_of_ble_eq_true rfl) d_Tree_countOfNodes_7

set_option maxHeartbeats 4000000 in
set_option maxRecDepth 100000 in
theorem c_Tree_countOfProperties (l : Launch) (G : kb_G) (h : Nat) (r0 : Nat) (r1 : Nat) (r2 : Nat) (r3 : Nat) (r4 : Nat) (r5 : Nat) (r6 : Nat) (r7 : Nat) (r8 : Nat) (r9 : Nat) (r10 : Nat) (r11 : Nat) (L : Int32) (P : Int32) (a : Nat) (v : Int32) : kb_ci l G ⟨"TreePress$Tree", "countOfProperties", "()I"⟩ prog_4_method_4_code 1 (some .int) 2 0 0 [.ref h] [kb_o h 2 [.ref r0, .ref r1, .ref r2, .ref r3, .ref r4, .ref r5, .ref r6, .ref r7, .ref r8, .ref r9, .ref r10, .ref r11, .int L, .int P], kb_o r7 1 [.ref a, .int v]] (fun r u => r = v) (fun u => [kb_o h 2 [.ref r0, .ref r1, .ref r2, .ref r3, .ref r4, .ref r5, .ref r6, .ref r7, .ref r8, .ref r9, .ref r10, .ref r11, .int L, .int P], kb_o r7 1 [.ref a, .int v]]) := by
  intro sz
  refine kb_body (QQ := fun A => kb_Qi G A (fun r u => r = v) (fun u => [kb_o h 2 [.ref r0, .ref r1, .ref r2, .ref r3, .ref r4, .ref r5, .ref r6, .ref r7, .ref r8, .ref r9, .ref r10, .ref r11, .int L, .int P], kb_o r7 1 [.ref a, .int v]])) (by decide) (Nat.le_of_ble_eq_true rfl) ?_
  intro p e s m below meth c A B ls hl
  obtain ⟨hx, hb, hr, hml, hlocks, hin, hown, ht, hE, hP, hD, hS⟩ := B
  have hl : lv_has ls 1 [(0, .ref h)] := hl
  have hP0 := hP
  obtain ⟨H, hHe⟩ : ∃ H, H = s.heap := ⟨_, rfl⟩
  rw [← hHe] at hP
  have hS : va_S A s.heap H [] := by rw [hHe]; exact hS
  refine kb_at hHe ?_
  clear hHe
  refine lv_aload_n hx hb d_Tree_countOfProperties_0 rfl (lv_at hl 0 rfl) ?_
  refine va_get (D := G.1) (ci := 2) (v := .ref r7) (C := "TreePress$Tree") (T := kb_F2) (N := 14) hx hb ht kb_w2 hown hE.1 hP 0 rfl rfl 7 (by decide) (ht _ wd_99a1932c) (fun _ h9 => h9) rfl d_Tree_countOfProperties_1 ?_
  refine kb_i (wc := [kb_o r7 1 [.ref a, .int v]]) (wr := [kb_o h 2 [.ref r0, .ref r1, .ref r2, .ref r3, .ref r4, .ref r5, .ref r6, .ref r7, .ref r8, .ref r9, .ref r10, .ref r11, .int L, .int P]]) hE hP hD hS [1] [0] rfl rfl (by decide) (by decide) (kb_rV (As := []) (rest := []) (wc := [kb_o r7 1 [.ref a, .int v]]) (q0 := 0) ⟨hx, hb, hml, hown, ht⟩ ((c_Row_length l G r7 a v) _) (kb_gV wd_d02778d4 wd_5e08083b wd_489345cb wd_4182e433 wd_8d5193a7) ⟨rfl, hd_d85231f4⟩ ⟨(Nat.le_of_ble_eq_true rfl), (Nat.le_of_ble_eq_true rfl)⟩ hE hP hD hS [1] rfl (by decide) rfl rfl rfl hl.1 rfl (Nat.le_of_ble_eq_true rfl) d_Tree_countOfProperties_4 ⟨(Nat.le_of_ble_eq_true rfl), (Nat.le_of_ble_eq_true rfl)⟩) (fun rv2 uu1 H locs hw hP hD hS => ?_)
  have hP : va_P G.1 kb_cl [kb_o h 2 [.ref r0, .ref r1, .ref r2, .ref r3, .ref r4, .ref r5, .ref r6, .ref r7, .ref r8, .ref r9, .ref r10, .ref r11, .int L, .int P], kb_o r7 1 [.ref a, .int v]] H := hP
  have hD : va_D A [kb_o h 2 [.ref r0, .ref r1, .ref r2, .ref r3, .ref r4, .ref r5, .ref r6, .ref r7, .ref r8, .ref r9, .ref r10, .ref r11, .int L, .int P], kb_o r7 1 [.ref a, .int v]] := hD
  refine kb_top (y := v) (show rv2 = v from hw) ?_
  exact kb_reti (kb_l [], kb_f []) hx hb hr hlocks hE hP hD hS [0, 1] rfl (by decide) rfl rfl (Nat.le_of_ble_eq_true rfl) (Nat.le_of_ble_eq_true rfl) d_Tree_countOfProperties_7

set_option maxHeartbeats 4000000 in
set_option maxRecDepth 100000 in
theorem c_Tree_parentOf (l : Launch) (G : kb_G) (h : Nat) (r0 : Nat) (r1 : Nat) (r2 : Nat) (r3 : Nat) (r4 : Nat) (r5 : Nat) (r6 : Nat) (r7 : Nat) (r8 : Nat) (r9 : Nat) (r10 : Nat) (r11 : Nat) (L : Int32) (P : Int32) (a : Nat) (f : Nat → Int32) : kb_ci l G ⟨"TreePress$Tree", "parentOf", "(I)I"⟩ prog_4_method_5_code 2 (some .int) 2 0 0 [.ref h, .int 0] [kb_o h 2 [.ref r0, .ref r1, .ref r2, .ref r3, .ref r4, .ref r5, .ref r6, .ref r7, .ref r8, .ref r9, .ref r10, .ref r11, .int L, .int P], kb_o r1 1 [.ref a, .int 1], kb_a G a 16 f] (fun r u => r = f 0) (fun u => [kb_o h 2 [.ref r0, .ref r1, .ref r2, .ref r3, .ref r4, .ref r5, .ref r6, .ref r7, .ref r8, .ref r9, .ref r10, .ref r11, .int L, .int P], kb_o r1 1 [.ref a, .int 1], kb_a G a 16 f]) := by
  intro sz
  refine kb_body (QQ := fun A => kb_Qi G A (fun r u => r = f 0) (fun u => [kb_o h 2 [.ref r0, .ref r1, .ref r2, .ref r3, .ref r4, .ref r5, .ref r6, .ref r7, .ref r8, .ref r9, .ref r10, .ref r11, .int L, .int P], kb_o r1 1 [.ref a, .int 1], kb_a G a 16 f])) (by decide) (Nat.le_of_ble_eq_true rfl) ?_
  intro p e s m below meth c A B ls hl
  obtain ⟨hx, hb, hr, hml, hlocks, hin, hown, ht, hE, hP, hD, hS⟩ := B
  have hl : lv_has ls 2 [(0, .ref h), (1, .int 0)] := hl
  have hP0 := hP
  obtain ⟨H, hHe⟩ : ∃ H, H = s.heap := ⟨_, rfl⟩
  rw [← hHe] at hP
  have hS : va_S A s.heap H [] := by rw [hHe]; exact hS
  refine kb_at hHe ?_
  clear hHe
  refine lv_aload_n hx hb d_Tree_parentOf_0 rfl (lv_at hl 0 rfl) ?_
  refine va_get (D := G.1) (ci := 2) (v := .ref r1) (C := "TreePress$Tree") (T := kb_F2) (N := 14) hx hb ht kb_w2 hown hE.1 hP 0 rfl rfl 1 (by decide) (ht _ wd_4e2a5d63) (fun _ h9 => h9) rfl d_Tree_parentOf_1 ?_
  refine lv_iload_n hx hb d_Tree_parentOf_4 rfl (lv_at hl 1 rfl) ?_
  refine kb_i (wc := [kb_o r1 1 [.ref a, .int 1], kb_a G a 16 f]) (wr := [kb_o h 2 [.ref r0, .ref r1, .ref r2, .ref r3, .ref r4, .ref r5, .ref r6, .ref r7, .ref r8, .ref r9, .ref r10, .ref r11, .int L, .int P]]) hE hP hD hS [1, 2] [0] rfl rfl (by decide) (by decide) (kb_rV (As := [.int 0]) (rest := []) (wc := [kb_o r1 1 [.ref a, .int 1], kb_a G a 16 f]) (q0 := 0) ⟨hx, hb, hml, hown, ht⟩ ((c_Row_at0 l G r1 a f) _) (kb_gV wd_0cfebd59 wd_1c0a6016 wd_3417d322 wd_4182e433 wd_8eb9b6e0) ⟨rfl, hd_d357ab42⟩ ⟨(Nat.le_of_ble_eq_true rfl), (Nat.le_of_ble_eq_true rfl)⟩ hE hP hD hS [1, 2] rfl (by decide) rfl rfl rfl hl.1 rfl (Nat.le_of_ble_eq_true rfl) d_Tree_parentOf_5 ⟨(Nat.le_of_ble_eq_true rfl), (Nat.le_of_ble_eq_true rfl)⟩) (fun rv2 uu1 H locs hw hP hD hS => ?_)
  have hP : va_P G.1 kb_cl [kb_o h 2 [.ref r0, .ref r1, .ref r2, .ref r3, .ref r4, .ref r5, .ref r6, .ref r7, .ref r8, .ref r9, .ref r10, .ref r11, .int L, .int P], kb_o r1 1 [.ref a, .int 1], kb_a G a 16 f] H := hP
  have hD : va_D A [kb_o h 2 [.ref r0, .ref r1, .ref r2, .ref r3, .ref r4, .ref r5, .ref r6, .ref r7, .ref r8, .ref r9, .ref r10, .ref r11, .int L, .int P], kb_o r1 1 [.ref a, .int 1], kb_a G a 16 f] := hD
  refine kb_top (y := f 0) (show rv2 = f 0 from hw) ?_
  exact kb_reti (kb_l [], kb_f []) hx hb hr hlocks hE hP hD hS [0, 1, 2] rfl (by decide) rfl rfl (Nat.le_of_ble_eq_true rfl) (Nat.le_of_ble_eq_true rfl) d_Tree_parentOf_8

set_option maxHeartbeats 4000000 in
set_option maxRecDepth 100000 in
theorem c_Tree_propertiesOf (l : Launch) (G : kb_G) (h : Nat) (r0 : Nat) (r1 : Nat) (r2 : Nat) (r3 : Nat) (r4 : Nat) (r5 : Nat) (r6 : Nat) (r7 : Nat) (r8 : Nat) (r9 : Nat) (r10 : Nat) (r11 : Nat) (L : Int32) (P : Int32) (a : Nat) (f : Nat → Int32) : kb_ci l G ⟨"TreePress$Tree", "propertiesOf", "(I)I"⟩ prog_4_method_6_code 2 (some .int) 2 0 0 [.ref h, .int 0] [kb_o h 2 [.ref r0, .ref r1, .ref r2, .ref r3, .ref r4, .ref r5, .ref r6, .ref r7, .ref r8, .ref r9, .ref r10, .ref r11, .int L, .int P], kb_o r6 1 [.ref a, .int 1], kb_a G a 16 f] (fun r u => r = f 0) (fun u => [kb_o h 2 [.ref r0, .ref r1, .ref r2, .ref r3, .ref r4, .ref r5, .ref r6, .ref r7, .ref r8, .ref r9, .ref r10, .ref r11, .int L, .int P], kb_o r6 1 [.ref a, .int 1], kb_a G a 16 f]) := by
  intro sz
  refine kb_body (QQ := fun A => kb_Qi G A (fun r u => r = f 0) (fun u => [kb_o h 2 [.ref r0, .ref r1, .ref r2, .ref r3, .ref r4, .ref r5, .ref r6, .ref r7, .ref r8, .ref r9, .ref r10, .ref r11, .int L, .int P], kb_o r6 1 [.ref a, .int 1], kb_a G a 16 f])) (by decide) (Nat.le_of_ble_eq_true rfl) ?_
  intro p e s m below meth c A B ls hl
  obtain ⟨hx, hb, hr, hml, hlocks, hin, hown, ht, hE, hP, hD, hS⟩ := B
  have hl : lv_has ls 2 [(0, .ref h), (1, .int 0)] := hl
  have hP0 := hP
  obtain ⟨H, hHe⟩ : ∃ H, H = s.heap := ⟨_, rfl⟩
  rw [← hHe] at hP
  have hS : va_S A s.heap H [] := by rw [hHe]; exact hS
  refine kb_at hHe ?_
  clear hHe
  refine lv_aload_n hx hb d_Tree_propertiesOf_0 rfl (lv_at hl 0 rfl) ?_
  refine va_get (D := G.1) (ci := 2) (v := .ref r6) (C := "TreePress$Tree") (T := kb_F2) (N := 14) hx hb ht kb_w2 hown hE.1 hP 0 rfl rfl 6 (by decide) (ht _ wd_a1ee67c2) (fun _ h9 => h9) rfl d_Tree_propertiesOf_1 ?_
  refine lv_iload_n hx hb d_Tree_propertiesOf_4 rfl (lv_at hl 1 rfl) ?_
  refine kb_i (wc := [kb_o r6 1 [.ref a, .int 1], kb_a G a 16 f]) (wr := [kb_o h 2 [.ref r0, .ref r1, .ref r2, .ref r3, .ref r4, .ref r5, .ref r6, .ref r7, .ref r8, .ref r9, .ref r10, .ref r11, .int L, .int P]]) hE hP hD hS [1, 2] [0] rfl rfl (by decide) (by decide) (kb_rV (As := [.int 0]) (rest := []) (wc := [kb_o r6 1 [.ref a, .int 1], kb_a G a 16 f]) (q0 := 0) ⟨hx, hb, hml, hown, ht⟩ ((c_Row_at0 l G r6 a f) _) (kb_gV wd_0cfebd59 wd_1c0a6016 wd_3417d322 wd_4182e433 wd_8eb9b6e0) ⟨rfl, hd_d357ab42⟩ ⟨(Nat.le_of_ble_eq_true rfl), (Nat.le_of_ble_eq_true rfl)⟩ hE hP hD hS [1, 2] rfl (by decide) rfl rfl rfl hl.1 rfl (Nat.le_of_ble_eq_true rfl) d_Tree_propertiesOf_5 ⟨(Nat.le_of_ble_eq_true rfl), (Nat.le_of_ble_eq_true rfl)⟩) (fun rv2 uu1 H locs hw hP hD hS => ?_)
  have hP : va_P G.1 kb_cl [kb_o h 2 [.ref r0, .ref r1, .ref r2, .ref r3, .ref r4, .ref r5, .ref r6, .ref r7, .ref r8, .ref r9, .ref r10, .ref r11, .int L, .int P], kb_o r6 1 [.ref a, .int 1], kb_a G a 16 f] H := hP
  have hD : va_D A [kb_o h 2 [.ref r0, .ref r1, .ref r2, .ref r3, .ref r4, .ref r5, .ref r6, .ref r7, .ref r8, .ref r9, .ref r10, .ref r11, .int L, .int P], kb_o r6 1 [.ref a, .int 1], kb_a G a 16 f] := hD
  refine kb_top (y := f 0) (show rv2 = f 0 from hw) ?_
  exact kb_reti (kb_l [], kb_f []) hx hb hr hlocks hE hP hD hS [0, 1, 2] rfl (by decide) rfl rfl (Nat.le_of_ble_eq_true rfl) (Nat.le_of_ble_eq_true rfl) d_Tree_propertiesOf_8

set_option maxHeartbeats 4000000 in
set_option maxRecDepth 100000 in
theorem c_Tree_firstPropertyOf (l : Launch) (G : kb_G) (h : Nat) (r0 : Nat) (r1 : Nat) (r2 : Nat) (r3 : Nat) (r4 : Nat) (r5 : Nat) (r6 : Nat) (r7 : Nat) (r8 : Nat) (r9 : Nat) (r10 : Nat) (r11 : Nat) (L : Int32) (P : Int32) (a : Nat) (f : Nat → Int32) : kb_ci l G ⟨"TreePress$Tree", "firstPropertyOf", "(I)I"⟩ prog_4_method_7_code 2 (some .int) 2 0 0 [.ref h, .int 0] [kb_o h 2 [.ref r0, .ref r1, .ref r2, .ref r3, .ref r4, .ref r5, .ref r6, .ref r7, .ref r8, .ref r9, .ref r10, .ref r11, .int L, .int P], kb_o r5 1 [.ref a, .int 1], kb_a G a 16 f] (fun r u => r = f 0) (fun u => [kb_o h 2 [.ref r0, .ref r1, .ref r2, .ref r3, .ref r4, .ref r5, .ref r6, .ref r7, .ref r8, .ref r9, .ref r10, .ref r11, .int L, .int P], kb_o r5 1 [.ref a, .int 1], kb_a G a 16 f]) := by
  intro sz
  refine kb_body (QQ := fun A => kb_Qi G A (fun r u => r = f 0) (fun u => [kb_o h 2 [.ref r0, .ref r1, .ref r2, .ref r3, .ref r4, .ref r5, .ref r6, .ref r7, .ref r8, .ref r9, .ref r10, .ref r11, .int L, .int P], kb_o r5 1 [.ref a, .int 1], kb_a G a 16 f])) (by decide) (Nat.le_of_ble_eq_true rfl) ?_
  intro p e s m below meth c A B ls hl
  obtain ⟨hx, hb, hr, hml, hlocks, hin, hown, ht, hE, hP, hD, hS⟩ := B
  have hl : lv_has ls 2 [(0, .ref h), (1, .int 0)] := hl
  have hP0 := hP
  obtain ⟨H, hHe⟩ : ∃ H, H = s.heap := ⟨_, rfl⟩
  rw [← hHe] at hP
  have hS : va_S A s.heap H [] := by rw [hHe]; exact hS
  refine kb_at hHe ?_
  clear hHe
  refine lv_aload_n hx hb d_Tree_firstPropertyOf_0 rfl (lv_at hl 0 rfl) ?_
  refine va_get (D := G.1) (ci := 2) (v := .ref r5) (C := "TreePress$Tree") (T := kb_F2) (N := 14) hx hb ht kb_w2 hown hE.1 hP 0 rfl rfl 5 (by decide) (ht _ wd_5a2dade9) (fun _ h9 => h9) rfl d_Tree_firstPropertyOf_1 ?_
  refine lv_iload_n hx hb d_Tree_firstPropertyOf_4 rfl (lv_at hl 1 rfl) ?_
  refine kb_i (wc := [kb_o r5 1 [.ref a, .int 1], kb_a G a 16 f]) (wr := [kb_o h 2 [.ref r0, .ref r1, .ref r2, .ref r3, .ref r4, .ref r5, .ref r6, .ref r7, .ref r8, .ref r9, .ref r10, .ref r11, .int L, .int P]]) hE hP hD hS [1, 2] [0] rfl rfl (by decide) (by decide) (kb_rV (As := [.int 0]) (rest := []) (wc := [kb_o r5 1 [.ref a, .int 1], kb_a G a 16 f]) (q0 := 0) ⟨hx, hb, hml, hown, ht⟩ ((c_Row_at0 l G r5 a f) _) (kb_gV wd_0cfebd59 wd_1c0a6016 wd_3417d322 wd_4182e433 wd_8eb9b6e0) ⟨rfl, hd_d357ab42⟩ ⟨(Nat.le_of_ble_eq_true rfl), (Nat.le_of_ble_eq_true rfl)⟩ hE hP hD hS [1, 2] rfl (by decide) rfl rfl rfl hl.1 rfl (Nat.le_of_ble_eq_true rfl) d_Tree_firstPropertyOf_5 ⟨(Nat.le_of_ble_eq_true rfl), (Nat.le_of_ble_eq_true rfl)⟩) (fun rv2 uu1 H locs hw hP hD hS => ?_)
  have hP : va_P G.1 kb_cl [kb_o h 2 [.ref r0, .ref r1, .ref r2, .ref r3, .ref r4, .ref r5, .ref r6, .ref r7, .ref r8, .ref r9, .ref r10, .ref r11, .int L, .int P], kb_o r5 1 [.ref a, .int 1], kb_a G a 16 f] H := hP
  have hD : va_D A [kb_o h 2 [.ref r0, .ref r1, .ref r2, .ref r3, .ref r4, .ref r5, .ref r6, .ref r7, .ref r8, .ref r9, .ref r10, .ref r11, .int L, .int P], kb_o r5 1 [.ref a, .int 1], kb_a G a 16 f] := hD
  refine kb_top (y := f 0) (show rv2 = f 0 from hw) ?_
  exact kb_reti (kb_l [], kb_f []) hx hb hr hlocks hE hP hD hS [0, 1, 2] rfl (by decide) rfl rfl (Nat.le_of_ble_eq_true rfl) (Nat.le_of_ble_eq_true rfl) d_Tree_firstPropertyOf_8

set_option maxHeartbeats 4000000 in
set_option maxRecDepth 100000 in
theorem c_Tree_lengthOfNodeName (l : Launch) (G : kb_G) (h : Nat) (r0 : Nat) (r1 : Nat) (r2 : Nat) (r3 : Nat) (r4 : Nat) (r5 : Nat) (r6 : Nat) (r7 : Nat) (r8 : Nat) (r9 : Nat) (r10 : Nat) (r11 : Nat) (L : Int32) (P : Int32) (a : Nat) (f : Nat → Int32) : kb_ci l G ⟨"TreePress$Tree", "lengthOfNodeName", "(I)I"⟩ prog_4_method_8_code 2 (some .int) 2 0 0 [.ref h, .int 0] [kb_o h 2 [.ref r0, .ref r1, .ref r2, .ref r3, .ref r4, .ref r5, .ref r6, .ref r7, .ref r8, .ref r9, .ref r10, .ref r11, .int L, .int P], kb_o r4 1 [.ref a, .int 1], kb_a G a 16 f] (fun r u => r = f 0) (fun u => [kb_o h 2 [.ref r0, .ref r1, .ref r2, .ref r3, .ref r4, .ref r5, .ref r6, .ref r7, .ref r8, .ref r9, .ref r10, .ref r11, .int L, .int P], kb_o r4 1 [.ref a, .int 1], kb_a G a 16 f]) := by
  intro sz
  refine kb_body (QQ := fun A => kb_Qi G A (fun r u => r = f 0) (fun u => [kb_o h 2 [.ref r0, .ref r1, .ref r2, .ref r3, .ref r4, .ref r5, .ref r6, .ref r7, .ref r8, .ref r9, .ref r10, .ref r11, .int L, .int P], kb_o r4 1 [.ref a, .int 1], kb_a G a 16 f])) (by decide) (Nat.le_of_ble_eq_true rfl) ?_
  intro p e s m below meth c A B ls hl
  obtain ⟨hx, hb, hr, hml, hlocks, hin, hown, ht, hE, hP, hD, hS⟩ := B
  have hl : lv_has ls 2 [(0, .ref h), (1, .int 0)] := hl
  have hP0 := hP
  obtain ⟨H, hHe⟩ : ∃ H, H = s.heap := ⟨_, rfl⟩
  rw [← hHe] at hP
  have hS : va_S A s.heap H [] := by rw [hHe]; exact hS
  refine kb_at hHe ?_
  clear hHe
  refine lv_aload_n hx hb d_Tree_lengthOfNodeName_0 rfl (lv_at hl 0 rfl) ?_
  refine va_get (D := G.1) (ci := 2) (v := .ref r4) (C := "TreePress$Tree") (T := kb_F2) (N := 14) hx hb ht kb_w2 hown hE.1 hP 0 rfl rfl 4 (by decide) (ht _ wd_8b978912) (fun _ h9 => h9) rfl d_Tree_lengthOfNodeName_1 ?_
  refine lv_iload_n hx hb d_Tree_lengthOfNodeName_4 rfl (lv_at hl 1 rfl) ?_
  refine kb_i (wc := [kb_o r4 1 [.ref a, .int 1], kb_a G a 16 f]) (wr := [kb_o h 2 [.ref r0, .ref r1, .ref r2, .ref r3, .ref r4, .ref r5, .ref r6, .ref r7, .ref r8, .ref r9, .ref r10, .ref r11, .int L, .int P]]) hE hP hD hS [1, 2] [0] rfl rfl (by decide) (by decide) (kb_rV (As := [.int 0]) (rest := []) (wc := [kb_o r4 1 [.ref a, .int 1], kb_a G a 16 f]) (q0 := 0) ⟨hx, hb, hml, hown, ht⟩ ((c_Row_at0 l G r4 a f) _) (kb_gV wd_0cfebd59 wd_1c0a6016 wd_3417d322 wd_4182e433 wd_8eb9b6e0) ⟨rfl, hd_d357ab42⟩ ⟨(Nat.le_of_ble_eq_true rfl), (Nat.le_of_ble_eq_true rfl)⟩ hE hP hD hS [1, 2] rfl (by decide) rfl rfl rfl hl.1 rfl (Nat.le_of_ble_eq_true rfl) d_Tree_lengthOfNodeName_5 ⟨(Nat.le_of_ble_eq_true rfl), (Nat.le_of_ble_eq_true rfl)⟩) (fun rv2 uu1 H locs hw hP hD hS => ?_)
  have hP : va_P G.1 kb_cl [kb_o h 2 [.ref r0, .ref r1, .ref r2, .ref r3, .ref r4, .ref r5, .ref r6, .ref r7, .ref r8, .ref r9, .ref r10, .ref r11, .int L, .int P], kb_o r4 1 [.ref a, .int 1], kb_a G a 16 f] H := hP
  have hD : va_D A [kb_o h 2 [.ref r0, .ref r1, .ref r2, .ref r3, .ref r4, .ref r5, .ref r6, .ref r7, .ref r8, .ref r9, .ref r10, .ref r11, .int L, .int P], kb_o r4 1 [.ref a, .int 1], kb_a G a 16 f] := hD
  refine kb_top (y := f 0) (show rv2 = f 0 from hw) ?_
  exact kb_reti (kb_l [], kb_f []) hx hb hr hlocks hE hP hD hS [0, 1, 2] rfl (by decide) rfl rfl (Nat.le_of_ble_eq_true rfl) (Nat.le_of_ble_eq_true rfl) d_Tree_lengthOfNodeName_8

set_option maxHeartbeats 4000000 in
set_option maxRecDepth 100000 in
theorem c_Tree_addNode (l : Launch) (G : kb_G) (h : Nat) (r0 : Nat) (r1 : Nat) (r2 : Nat) (r3 : Nat) (r4 : Nat) (r5 : Nat) (r6 : Nat) (r7 : Nat) (r8 : Nat) (r9 : Nat) (r10 : Nat) (r11 : Nat) (L : Int32) (a0 : Nat) (a1 : Nat) (a2 : Nat) (a3 : Nat) (a4 : Nat) (a5 : Nat) (a6 : Nat) (a7 : Nat) (f1 : Nat → Int32) (f2 : Nat → Int32) (f3 : Nat → Int32) (f4 : Nat → Int32) (f5 : Nat → Int32) (f6 : Nat → Int32) : kb_ci l G ⟨"TreePress$Tree", "addNode", "(LTreePress$Row;II)I"⟩ prog_4_method_23_code 5 (some .int) 5 0 0 [.ref h, .ref r0, .int 0, .int 0] [kb_o h 2 [.ref r0, .ref r1, .ref r2, .ref r3, .ref r4, .ref r5, .ref r6, .ref r7, .ref r8, .ref r9, .ref r10, .ref r11, .int L, .int (-1)], kb_o r0 1 [.ref a0, .int 0], kb_o r1 1 [.ref a1, .int 0], kb_o r2 1 [.ref a2, .int 0], kb_o r3 1 [.ref a3, .int 0], kb_o r4 1 [.ref a4, .int 0], kb_o r5 1 [.ref a5, .int 0], kb_o r6 1 [.ref a6, .int 0], kb_o r7 1 [.ref a7, .int 0], kb_a G a1 16 f1, kb_a G a2 16 f2, kb_a G a3 16 f3, kb_a G a4 16 f4, kb_a G a5 16 f5, kb_a G a6 16 f6] (fun r u => r = 0) (fun u => [kb_o r1 1 [.ref a1, .int 1], kb_a G a1 16 (upd f1 0 (-1)), kb_o r2 1 [.ref a2, .int 1], kb_a G a2 16 (upd f2 0 1), kb_o r3 1 [.ref a3, .int 1], kb_a G a3 16 (upd f3 0 0), kb_o r4 1 [.ref a4, .int 1], kb_a G a4 16 (upd f4 0 0), kb_o h 2 [.ref r0, .ref r1, .ref r2, .ref r3, .ref r4, .ref r5, .ref r6, .ref r7, .ref r8, .ref r9, .ref r10, .ref r11, .int L, .int 0], kb_o r7 1 [.ref a7, .int 0], kb_o r5 1 [.ref a5, .int 1], kb_a G a5 16 (upd f5 0 0), kb_o r6 1 [.ref a6, .int 1], kb_a G a6 16 (upd f6 0 0), kb_o r0 1 [.ref a0, .int 0]]) := by
  intro sz
  refine kb_body (QQ := fun A => kb_Qi G A (fun r u => r = 0) (fun u => [kb_o r1 1 [.ref a1, .int 1], kb_a G a1 16 (upd f1 0 (-1)), kb_o r2 1 [.ref a2, .int 1], kb_a G a2 16 (upd f2 0 1), kb_o r3 1 [.ref a3, .int 1], kb_a G a3 16 (upd f3 0 0), kb_o r4 1 [.ref a4, .int 1], kb_a G a4 16 (upd f4 0 0), kb_o h 2 [.ref r0, .ref r1, .ref r2, .ref r3, .ref r4, .ref r5, .ref r6, .ref r7, .ref r8, .ref r9, .ref r10, .ref r11, .int L, .int 0], kb_o r7 1 [.ref a7, .int 0], kb_o r5 1 [.ref a5, .int 1], kb_a G a5 16 (upd f5 0 0), kb_o r6 1 [.ref a6, .int 1], kb_a G a6 16 (upd f6 0 0), kb_o r0 1 [.ref a0, .int 0]])) (by decide) (Nat.le_of_ble_eq_true rfl) ?_
  intro p e s m below meth c A B ls hl
  obtain ⟨hx, hb, hr, hml, hlocks, hin, hown, ht, hE, hP, hD, hS⟩ := B
  have hl : lv_has ls 5 [(0, .ref h), (1, .ref r0), (2, .int 0), (3, .int 0)] := hl
  have hP0 := hP
  obtain ⟨H, hHe⟩ : ∃ H, H = s.heap := ⟨_, rfl⟩
  rw [← hHe] at hP
  have hS : va_S A s.heap H [] := by rw [hHe]; exact hS
  refine kb_at hHe ?_
  clear hHe
  refine lv_aload_n hx hb d_Tree_addNode_0 rfl (lv_at hl 0 rfl) ?_
  refine kb_i (wc := [kb_o h 2 [.ref r0, .ref r1, .ref r2, .ref r3, .ref r4, .ref r5, .ref r6, .ref r7, .ref r8, .ref r9, .ref r10, .ref r11, .int L, .int (-1)], kb_o r1 1 [.ref a1, .int 0]]) (wr := [kb_o r0 1 [.ref a0, .int 0], kb_o r2 1 [.ref a2, .int 0], kb_o r3 1 [.ref a3, .int 0], kb_o r4 1 [.ref a4, .int 0], kb_o r5 1 [.ref a5, .int 0], kb_o r6 1 [.ref a6, .int 0], kb_o r7 1 [.ref a7, .int 0], kb_a G a1 16 f1, kb_a G a2 16 f2, kb_a G a3 16 f3, kb_a G a4 16 f4, kb_a G a5 16 f5, kb_a G a6 16 f6]) hE hP hD hS [0, 2] [1, 3, 4, 5, 6, 7, 8, 9, 10, 11, 12, 13, 14] rfl rfl (by decide) (by decide) (kb_rV (As := []) (rest := []) (wc := [kb_o h 2 [.ref r0, .ref r1, .ref r2, .ref r3, .ref r4, .ref r5, .ref r6, .ref r7, .ref r8, .ref r9, .ref r10, .ref r11, .int L, .int (-1)], kb_o r1 1 [.ref a1, .int 0]]) (q0 := 0) ⟨hx, hb, hml, hown, ht⟩ ((c_Tree_countOfNodes l G h r0 r1 r2 r3 r4 r5 r6 r7 r8 r9 r10 r11 L (-1) a1 0) _) (kb_gV wd_f9b8311a wd_004c0445 wd_dbedc27b wd_ebf91e09 wd_8a7bf582) ⟨rfl, hd_a0b17e13⟩ ⟨(Nat.le_of_ble_eq_true rfl), (Nat.le_of_ble_eq_true rfl)⟩ hE hP hD hS [0, 2] rfl (by decide) rfl rfl rfl hl.1 rfl (Nat.le_of_ble_eq_true rfl) d_Tree_addNode_1 ⟨(Nat.le_of_ble_eq_true rfl), (Nat.le_of_ble_eq_true rfl)⟩) (fun rv2 uu1 H locs hw hP hD hS => ?_)
  have hP : va_P G.1 kb_cl [kb_o r0 1 [.ref a0, .int 0], kb_o r2 1 [.ref a2, .int 0], kb_o r3 1 [.ref a3, .int 0], kb_o r4 1 [.ref a4, .int 0], kb_o r5 1 [.ref a5, .int 0], kb_o r6 1 [.ref a6, .int 0], kb_o r7 1 [.ref a7, .int 0], kb_a G a1 16 f1, kb_a G a2 16 f2, kb_a G a3 16 f3, kb_a G a4 16 f4, kb_a G a5 16 f5, kb_a G a6 16 f6, kb_o h 2 [.ref r0, .ref r1, .ref r2, .ref r3, .ref r4, .ref r5, .ref r6, .ref r7, .ref r8, .ref r9, .ref r10, .ref r11, .int L, .int (-1)], kb_o r1 1 [.ref a1, .int 0]] H := hP
  have hD : va_D A [kb_o r0 1 [.ref a0, .int 0], kb_o r2 1 [.ref a2, .int 0], kb_o r3 1 [.ref a3, .int 0], kb_o r4 1 [.ref a4, .int 0], kb_o r5 1 [.ref a5, .int 0], kb_o r6 1 [.ref a6, .int 0], kb_o r7 1 [.ref a7, .int 0], kb_a G a1 16 f1, kb_a G a2 16 f2, kb_a G a3 16 f3, kb_a G a4 16 f4, kb_a G a5 16 f5, kb_a G a6 16 f6, kb_o h 2 [.ref r0, .ref r1, .ref r2, .ref r3, .ref r4, .ref r5, .ref r6, .ref r7, .ref r8, .ref r9, .ref r10, .ref r11, .int L, .int (-1)], kb_o r1 1 [.ref a1, .int 0]] := hD
  refine kb_top (y := 0) (show rv2 = 0 from hw) ?_
  refine lv_istore (lv' := [(4, .int 0), (0, .ref h), (1, .ref r0), (2, .int 0), (3, .int 0)]) hx hb d_Tree_addNode_4 hl (by decide) rfl (fun ls hl => ?_)
  refine lv_aload_n hx hb d_Tree_addNode_6 rfl (lv_at hl 1 rfl) ?_
  refine va_get (D := G.1) (ci := 2) (v := .ref r1) (C := "TreePress$Tree") (T := kb_F2) (N := 14) hx hb ht kb_w2 hown hE.1 hP 13 rfl rfl 1 (by decide) (ht _ wd_4e2a5d63) (fun _ h9 => h9) rfl d_Tree_addNode_7 ?_
  refine lv_aload_n hx hb d_Tree_addNode_10 rfl (lv_at hl 1 rfl) ?_
  refine va_get (D := G.1) (ci := 2) (v := .int (-1)) (C := "TreePress$Tree") (T := kb_F2) (N := 14) hx hb ht kb_w2 hown hE.1 hP 13 rfl rfl 13 (by decide) (ht _ wd_f08393eb) (fun _ h9 => h9) rfl d_Tree_addNode_11 ?_
  refine kb_v (wc := [kb_o r1 1 [.ref a1, .int 0], kb_a G a1 16 f1]) (wr := [kb_o r0 1 [.ref a0, .int 0], kb_o r2 1 [.ref a2, .int 0], kb_o r3 1 [.ref a3, .int 0], kb_o r4 1 [.ref a4, .int 0], kb_o r5 1 [.ref a5, .int 0], kb_o r6 1 [.ref a6, .int 0], kb_o r7 1 [.ref a7, .int 0], kb_a G a2 16 f2, kb_a G a3 16 f3, kb_a G a4 16 f4, kb_a G a5 16 f5, kb_a G a6 16 f6, kb_o h 2 [.ref r0, .ref r1, .ref r2, .ref r3, .ref r4, .ref r5, .ref r6, .ref r7, .ref r8, .ref r9, .ref r10, .ref r11, .int L, .int (-1)]]) hE hP hD hS [14, 7] [0, 1, 2, 3, 4, 5, 6, 8, 9, 10, 11, 12, 13] rfl rfl (by decide) (by decide) (kb_rV (As := [.int (-1)]) (rest := []) (wc := [kb_o r1 1 [.ref a1, .int 0], kb_a G a1 16 f1]) (q0 := 0) ⟨hx, hb, hml, hown, ht⟩ ((c_Row_add_n l G r1 a1 0 16 f1 (-1) (by omega) (by omega)) _) (kb_gV wd_11d09eaf wd_d7a504c3 wd_55347eca wd_4182e433 wd_0d22954f) ⟨rfl, hd_d22f4174⟩ ⟨(Nat.le_of_ble_eq_true rfl), (Nat.le_of_ble_eq_true rfl)⟩ hE hP hD hS [14, 7] rfl (by decide) rfl rfl rfl hl.1 rfl (Nat.le_of_ble_eq_true rfl) d_Tree_addNode_14 ⟨(Nat.le_of_ble_eq_true rfl), (Nat.le_of_ble_eq_true rfl)⟩) (fun uu3 H locs hw hP hD hS => ?_)
  have hP : va_P G.1 kb_cl [kb_o r0 1 [.ref a0, .int 0], kb_o r2 1 [.ref a2, .int 0], kb_o r3 1 [.ref a3, .int 0], kb_o r4 1 [.ref a4, .int 0], kb_o r5 1 [.ref a5, .int 0], kb_o r6 1 [.ref a6, .int 0], kb_o r7 1 [.ref a7, .int 0], kb_a G a2 16 f2, kb_a G a3 16 f3, kb_a G a4 16 f4, kb_a G a5 16 f5, kb_a G a6 16 f6, kb_o h 2 [.ref r0, .ref r1, .ref r2, .ref r3, .ref r4, .ref r5, .ref r6, .ref r7, .ref r8, .ref r9, .ref r10, .ref r11, .int L, .int (-1)], kb_o r1 1 [.ref a1, .int 1], kb_a G a1 16 (upd f1 0 (-1))] H := hP
  have hD : va_D A [kb_o r0 1 [.ref a0, .int 0], kb_o r2 1 [.ref a2, .int 0], kb_o r3 1 [.ref a3, .int 0], kb_o r4 1 [.ref a4, .int 0], kb_o r5 1 [.ref a5, .int 0], kb_o r6 1 [.ref a6, .int 0], kb_o r7 1 [.ref a7, .int 0], kb_a G a2 16 f2, kb_a G a3 16 f3, kb_a G a4 16 f4, kb_a G a5 16 f5, kb_a G a6 16 f6, kb_o h 2 [.ref r0, .ref r1, .ref r2, .ref r3, .ref r4, .ref r5, .ref r6, .ref r7, .ref r8, .ref r9, .ref r10, .ref r11, .int L, .int (-1)], kb_o r1 1 [.ref a1, .int 1], kb_a G a1 16 (upd f1 0 (-1))] := hD
  refine lv_aload_n hx hb d_Tree_addNode_17 rfl (lv_at hl 1 rfl) ?_
  refine va_get (D := G.1) (ci := 2) (v := .ref r2) (C := "TreePress$Tree") (T := kb_F2) (N := 14) hx hb ht kb_w2 hown hE.1 hP 12 rfl rfl 2 (by decide) (ht _ wd_6fe818ee) (fun _ h9 => h9) rfl d_Tree_addNode_18 ?_
  refine lv_aload_n hx hb d_Tree_addNode_21 rfl (lv_at hl 1 rfl) ?_
  refine va_get (D := G.1) (ci := 2) (v := .int (-1)) (C := "TreePress$Tree") (T := kb_F2) (N := 14) hx hb ht kb_w2 hown hE.1 hP 12 rfl rfl 13 (by decide) (ht _ wd_f08393eb) (fun _ h9 => h9) rfl d_Tree_addNode_22 ?_
  refine lv_iconst (v := (-1)) hx hb d_Tree_addNode_25 (by decide) ?_
  refine lv_icmp_ne (tgt := 33) hx hb d_Tree_addNode_26 (by decide) (fun c9 => absurd (by decide) c9) (fun c9 => ?_)
  refine lv_iconst (v := 1) hx hb d_Tree_addNode_29 (by decide) ?_
  refine lv_goto (tgt := 46) hx hb d_Tree_addNode_30 (by decide) ?_
  refine kb_v (wc := [kb_o r2 1 [.ref a2, .int 0], kb_a G a2 16 f2]) (wr := [kb_o r0 1 [.ref a0, .int 0], kb_o r3 1 [.ref a3, .int 0], kb_o r4 1 [.ref a4, .int 0], kb_o r5 1 [.ref a5, .int 0], kb_o r6 1 [.ref a6, .int 0], kb_o r7 1 [.ref a7, .int 0], kb_a G a3 16 f3, kb_a G a4 16 f4, kb_a G a5 16 f5, kb_a G a6 16 f6, kb_o h 2 [.ref r0, .ref r1, .ref r2, .ref r3, .ref r4, .ref r5, .ref r6, .ref r7, .ref r8, .ref r9, .ref r10, .ref r11, .int L, .int (-1)], kb_o r1 1 [.ref a1, .int 1], kb_a G a1 16 (upd f1 0 (-1))]) hE hP hD hS [1, 7] [0, 2, 3, 4, 5, 6, 8, 9, 10, 11, 12, 13, 14] rfl rfl (by decide) (by decide) (kb_rV (As := [.int 1]) (rest := []) (wc := [kb_o r2 1 [.ref a2, .int 0], kb_a G a2 16 f2]) (q0 := 0) ⟨hx, hb, hml, hown, ht⟩ ((c_Row_add_n l G r2 a2 0 16 f2 1 (by omega) (by omega)) _) (kb_gV wd_11d09eaf wd_d7a504c3 wd_55347eca wd_4182e433 wd_0d22954f) ⟨rfl, hd_d22f4174⟩ ⟨(Nat.le_of_ble_eq_true rfl), (Nat.le_of_ble_eq_true rfl)⟩ hE hP hD hS [1, 7] rfl (by decide) rfl rfl rfl hl.1 rfl (Nat.le_of_ble_eq_true rfl) d_Tree_addNode_46 ⟨(Nat.le_of_ble_eq_true rfl), (Nat.le_of_ble_eq_true rfl)⟩) (fun uu5 H locs hw hP hD hS => ?_)
  have hP : va_P G.1 kb_cl [kb_o r0 1 [.ref a0, .int 0], kb_o r3 1 [.ref a3, .int 0], kb_o r4 1 [.ref a4, .int 0], kb_o r5 1 [.ref a5, .int 0], kb_o r6 1 [.ref a6, .int 0], kb_o r7 1 [.ref a7, .int 0], kb_a G a3 16 f3, kb_a G a4 16 f4, kb_a G a5 16 f5, kb_a G a6 16 f6, kb_o h 2 [.ref r0, .ref r1, .ref r2, .ref r3, .ref r4, .ref r5, .ref r6, .ref r7, .ref r8, .ref r9, .ref r10, .ref r11, .int L, .int (-1)], kb_o r1 1 [.ref a1, .int 1], kb_a G a1 16 (upd f1 0 (-1)), kb_o r2 1 [.ref a2, .int 1], kb_a G a2 16 (upd f2 0 1)] H := hP
  have hD : va_D A [kb_o r0 1 [.ref a0, .int 0], kb_o r3 1 [.ref a3, .int 0], kb_o r4 1 [.ref a4, .int 0], kb_o r5 1 [.ref a5, .int 0], kb_o r6 1 [.ref a6, .int 0], kb_o r7 1 [.ref a7, .int 0], kb_a G a3 16 f3, kb_a G a4 16 f4, kb_a G a5 16 f5, kb_a G a6 16 f6, kb_o h 2 [.ref r0, .ref r1, .ref r2, .ref r3, .ref r4, .ref r5, .ref r6, .ref r7, .ref r8, .ref r9, .ref r10, .ref r11, .int L, .int (-1)], kb_o r1 1 [.ref a1, .int 1], kb_a G a1 16 (upd f1 0 (-1)), kb_o r2 1 [.ref a2, .int 1], kb_a G a2 16 (upd f2 0 1)] := hD
  refine lv_aload_n hx hb d_Tree_addNode_49 rfl (lv_at hl 1 rfl) ?_
  refine va_get (D := G.1) (ci := 2) (v := .ref r3) (C := "TreePress$Tree") (T := kb_F2) (N := 14) hx hb ht kb_w2 hown hE.1 hP 10 rfl rfl 3 (by decide) (ht _ wd_ae352740) (fun _ h9 => h9) rfl d_Tree_addNode_50 ?_
  refine lv_aload_n hx hb d_Tree_addNode_53 rfl (lv_at hl 1 rfl) ?_
  refine va_get (D := G.1) (ci := 2) (v := .ref r0) (C := "TreePress$Tree") (T := kb_F2) (N := 14) hx hb ht kb_w2 hown hE.1 hP 10 rfl rfl 0 (by decide) (ht _ wd_d0876019) (fun _ h9 => h9) rfl d_Tree_addNode_54 ?_
  refine kb_i (wc := [kb_o r0 1 [.ref a0, .int 0]]) (wr := [kb_o r3 1 [.ref a3, .int 0], kb_o r4 1 [.ref a4, .int 0], kb_o r5 1 [.ref a5, .int 0], kb_o r6 1 [.ref a6, .int 0], kb_o r7 1 [.ref a7, .int 0], kb_a G a3 16 f3, kb_a G a4 16 f4, kb_a G a5 16 f5, kb_a G a6 16 f6, kb_o h 2 [.ref r0, .ref r1, .ref r2, .ref r3, .ref r4, .ref r5, .ref r6, .ref r7, .ref r8, .ref r9, .ref r10, .ref r11, .int L, .int (-1)], kb_o r1 1 [.ref a1, .int 1], kb_a G a1 16 (upd f1 0 (-1)), kb_o r2 1 [.ref a2, .int 1], kb_a G a2 16 (upd f2 0 1)]) hE hP hD hS [0] [1, 2, 3, 4, 5, 6, 7, 8, 9, 10, 11, 12, 13, 14] rfl rfl (by decide) (by decide) (kb_rV (As := []) (rest := [.ref r3]) (wc := [kb_o r0 1 [.ref a0, .int 0]]) (q0 := 0) ⟨hx, hb, hml, hown, ht⟩ ((c_Row_length l G r0 a0 0) _) (kb_gV wd_d02778d4 wd_5e08083b wd_489345cb wd_4182e433 wd_8d5193a7) ⟨rfl, hd_d85231f4⟩ ⟨(Nat.le_of_ble_eq_true rfl), (Nat.le_of_ble_eq_true rfl)⟩ hE hP hD hS [0] rfl (by decide) rfl rfl rfl hl.1 rfl (Nat.le_of_ble_eq_true rfl) d_Tree_addNode_57 ⟨(Nat.le_of_ble_eq_true rfl), (Nat.le_of_ble_eq_true rfl)⟩) (fun rv8 uu7 H locs hw hP hD hS => ?_)
  have hP : va_P G.1 kb_cl [kb_o r3 1 [.ref a3, .int 0], kb_o r4 1 [.ref a4, .int 0], kb_o r5 1 [.ref a5, .int 0], kb_o r6 1 [.ref a6, .int 0], kb_o r7 1 [.ref a7, .int 0], kb_a G a3 16 f3, kb_a G a4 16 f4, kb_a G a5 16 f5, kb_a G a6 16 f6, kb_o h 2 [.ref r0, .ref r1, .ref r2, .ref r3, .ref r4, .ref r5, .ref r6, .ref r7, .ref r8, .ref r9, .ref r10, .ref r11, .int L, .int (-1)], kb_o r1 1 [.ref a1, .int 1], kb_a G a1 16 (upd f1 0 (-1)), kb_o r2 1 [.ref a2, .int 1], kb_a G a2 16 (upd f2 0 1), kb_o r0 1 [.ref a0, .int 0]] H := hP
  have hD : va_D A [kb_o r3 1 [.ref a3, .int 0], kb_o r4 1 [.ref a4, .int 0], kb_o r5 1 [.ref a5, .int 0], kb_o r6 1 [.ref a6, .int 0], kb_o r7 1 [.ref a7, .int 0], kb_a G a3 16 f3, kb_a G a4 16 f4, kb_a G a5 16 f5, kb_a G a6 16 f6, kb_o h 2 [.ref r0, .ref r1, .ref r2, .ref r3, .ref r4, .ref r5, .ref r6, .ref r7, .ref r8, .ref r9, .ref r10, .ref r11, .int L, .int (-1)], kb_o r1 1 [.ref a1, .int 1], kb_a G a1 16 (upd f1 0 (-1)), kb_o r2 1 [.ref a2, .int 1], kb_a G a2 16 (upd f2 0 1), kb_o r0 1 [.ref a0, .int 0]] := hD
  refine kb_top (y := 0) (show rv8 = 0 from hw) ?_
  refine kb_v (wc := [kb_o r3 1 [.ref a3, .int 0], kb_a G a3 16 f3]) (wr := [kb_o r4 1 [.ref a4, .int 0], kb_o r5 1 [.ref a5, .int 0], kb_o r6 1 [.ref a6, .int 0], kb_o r7 1 [.ref a7, .int 0], kb_a G a4 16 f4, kb_a G a5 16 f5, kb_a G a6 16 f6, kb_o h 2 [.ref r0, .ref r1, .ref r2, .ref r3, .ref r4, .ref r5, .ref r6, .ref r7, .ref r8, .ref r9, .ref r10, .ref r11, .int L, .int (-1)], kb_o r1 1 [.ref a1, .int 1], kb_a G a1 16 (upd f1 0 (-1)), kb_o r2 1 [.ref a2, .int 1], kb_a G a2 16 (upd f2 0 1), kb_o r0 1 [.ref a0, .int 0]]) hE hP hD hS [0, 5] [1, 2, 3, 4, 6, 7, 8, 9, 10, 11, 12, 13, 14] rfl rfl (by decide) (by decide) (kb_rV (As := [.int 0]) (rest := []) (wc := [kb_o r3 1 [.ref a3, .int 0], kb_a G a3 16 f3]) (q0 := 0) ⟨hx, hb, hml, hown, ht⟩ ((c_Row_add_n l G r3 a3 0 16 f3 0 (by omega) (by omega)) _) (kb_gV wd_11d09eaf wd_d7a504c3 wd_55347eca wd_4182e433 wd_0d22954f) ⟨rfl, hd_d22f4174⟩ ⟨(Nat.le_of_ble_eq_true rfl), (Nat.le_of_ble_eq_true rfl)⟩ hE hP hD hS [0, 5] rfl (by decide) rfl rfl rfl hl.1 rfl (Nat.le_of_ble_eq_true rfl) d_Tree_addNode_60 ⟨(Nat.le_of_ble_eq_true rfl), (Nat.le_of_ble_eq_true rfl)⟩) (fun uu9 H locs hw hP hD hS => ?_)
  have hP : va_P G.1 kb_cl [kb_o r4 1 [.ref a4, .int 0], kb_o r5 1 [.ref a5, .int 0], kb_o r6 1 [.ref a6, .int 0], kb_o r7 1 [.ref a7, .int 0], kb_a G a4 16 f4, kb_a G a5 16 f5, kb_a G a6 16 f6, kb_o h 2 [.ref r0, .ref r1, .ref r2, .ref r3, .ref r4, .ref r5, .ref r6, .ref r7, .ref r8, .ref r9, .ref r10, .ref r11, .int L, .int (-1)], kb_o r1 1 [.ref a1, .int 1], kb_a G a1 16 (upd f1 0 (-1)), kb_o r2 1 [.ref a2, .int 1], kb_a G a2 16 (upd f2 0 1), kb_o r0 1 [.ref a0, .int 0], kb_o r3 1 [.ref a3, .int 1], kb_a G a3 16 (upd f3 0 0)] H := hP
  have hD : va_D A [kb_o r4 1 [.ref a4, .int 0], kb_o r5 1 [.ref a5, .int 0], kb_o r6 1 [.ref a6, .int 0], kb_o r7 1 [.ref a7, .int 0], kb_a G a4 16 f4, kb_a G a5 16 f5, kb_a G a6 16 f6, kb_o h 2 [.ref r0, .ref r1, .ref r2, .ref r3, .ref r4, .ref r5, .ref r6, .ref r7, .ref r8, .ref r9, .ref r10, .ref r11, .int L, .int (-1)], kb_o r1 1 [.ref a1, .int 1], kb_a G a1 16 (upd f1 0 (-1)), kb_o r2 1 [.ref a2, .int 1], kb_a G a2 16 (upd f2 0 1), kb_o r0 1 [.ref a0, .int 0], kb_o r3 1 [.ref a3, .int 1], kb_a G a3 16 (upd f3 0 0)] := hD
  refine lv_aload_n hx hb d_Tree_addNode_63 rfl (lv_at hl 1 rfl) ?_
  refine va_get (D := G.1) (ci := 2) (v := .ref r4) (C := "TreePress$Tree") (T := kb_F2) (N := 14) hx hb ht kb_w2 hown hE.1 hP 7 rfl rfl 4 (by decide) (ht _ wd_8b978912) (fun _ h9 => h9) rfl d_Tree_addNode_64 ?_
  refine lv_iload_n hx hb d_Tree_addNode_67 rfl (lv_at hl 4 rfl) ?_
  refine kb_v (wc := [kb_o r4 1 [.ref a4, .int 0], kb_a G a4 16 f4]) (wr := [kb_o r5 1 [.ref a5, .int 0], kb_o r6 1 [.ref a6, .int 0], kb_o r7 1 [.ref a7, .int 0], kb_a G a5 16 f5, kb_a G a6 16 f6, kb_o h 2 [.ref r0, .ref r1, .ref r2, .ref r3, .ref r4, .ref r5, .ref r6, .ref r7, .ref r8, .ref r9, .ref r10, .ref r11, .int L, .int (-1)], kb_o r1 1 [.ref a1, .int 1], kb_a G a1 16 (upd f1 0 (-1)), kb_o r2 1 [.ref a2, .int 1], kb_a G a2 16 (upd f2 0 1), kb_o r0 1 [.ref a0, .int 0], kb_o r3 1 [.ref a3, .int 1], kb_a G a3 16 (upd f3 0 0)]) hE hP hD hS [0, 4] [1, 2, 3, 5, 6, 7, 8, 9, 10, 11, 12, 13, 14] rfl rfl (by decide) (by decide) (kb_rV (As := [.int 0]) (rest := []) (wc := [kb_o r4 1 [.ref a4, .int 0], kb_a G a4 16 f4]) (q0 := 0) ⟨hx, hb, hml, hown, ht⟩ ((c_Row_add_n l G r4 a4 0 16 f4 0 (by omega) (by omega)) _) (kb_gV wd_11d09eaf wd_d7a504c3 wd_55347eca wd_4182e433 wd_0d22954f) ⟨rfl, hd_d22f4174⟩ ⟨(Nat.le_of_ble_eq_true rfl), (Nat.le_of_ble_eq_true rfl)⟩ hE hP hD hS [0, 4] rfl (by decide) rfl rfl rfl hl.1 rfl (Nat.le_of_ble_eq_true rfl) d_Tree_addNode_68 ⟨(Nat.le_of_ble_eq_true rfl), (Nat.le_of_ble_eq_true rfl)⟩) (fun uu11 H locs hw hP hD hS => ?_)
  have hP : va_P G.1 kb_cl [kb_o r5 1 [.ref a5, .int 0], kb_o r6 1 [.ref a6, .int 0], kb_o r7 1 [.ref a7, .int 0], kb_a G a5 16 f5, kb_a G a6 16 f6, kb_o h 2 [.ref r0, .ref r1, .ref r2, .ref r3, .ref r4, .ref r5, .ref r6, .ref r7, .ref r8, .ref r9, .ref r10, .ref r11, .int L, .int (-1)], kb_o r1 1 [.ref a1, .int 1], kb_a G a1 16 (upd f1 0 (-1)), kb_o r2 1 [.ref a2, .int 1], kb_a G a2 16 (upd f2 0 1), kb_o r0 1 [.ref a0, .int 0], kb_o r3 1 [.ref a3, .int 1], kb_a G a3 16 (upd f3 0 0), kb_o r4 1 [.ref a4, .int 1], kb_a G a4 16 (upd f4 0 0)] H := hP
  have hD : va_D A [kb_o r5 1 [.ref a5, .int 0], kb_o r6 1 [.ref a6, .int 0], kb_o r7 1 [.ref a7, .int 0], kb_a G a5 16 f5, kb_a G a6 16 f6, kb_o h 2 [.ref r0, .ref r1, .ref r2, .ref r3, .ref r4, .ref r5, .ref r6, .ref r7, .ref r8, .ref r9, .ref r10, .ref r11, .int L, .int (-1)], kb_o r1 1 [.ref a1, .int 1], kb_a G a1 16 (upd f1 0 (-1)), kb_o r2 1 [.ref a2, .int 1], kb_a G a2 16 (upd f2 0 1), kb_o r0 1 [.ref a0, .int 0], kb_o r3 1 [.ref a3, .int 1], kb_a G a3 16 (upd f3 0 0), kb_o r4 1 [.ref a4, .int 1], kb_a G a4 16 (upd f4 0 0)] := hD
  refine lv_aload_n hx hb d_Tree_addNode_71 rfl (lv_at hl 1 rfl) ?_
  refine va_get (D := G.1) (ci := 2) (v := .ref r5) (C := "TreePress$Tree") (T := kb_F2) (N := 14) hx hb ht kb_w2 hown hE.1 hP 5 rfl rfl 5 (by decide) (ht _ wd_5a2dade9) (fun _ h9 => h9) rfl d_Tree_addNode_72 ?_
  refine lv_aload_n hx hb d_Tree_addNode_75 rfl (lv_at hl 1 rfl) ?_
  refine kb_i (wc := [kb_o h 2 [.ref r0, .ref r1, .ref r2, .ref r3, .ref r4, .ref r5, .ref r6, .ref r7, .ref r8, .ref r9, .ref r10, .ref r11, .int L, .int (-1)], kb_o r7 1 [.ref a7, .int 0]]) (wr := [kb_o r5 1 [.ref a5, .int 0], kb_o r6 1 [.ref a6, .int 0], kb_a G a5 16 f5, kb_a G a6 16 f6, kb_o r1 1 [.ref a1, .int 1], kb_a G a1 16 (upd f1 0 (-1)), kb_o r2 1 [.ref a2, .int 1], kb_a G a2 16 (upd f2 0 1), kb_o r0 1 [.ref a0, .int 0], kb_o r3 1 [.ref a3, .int 1], kb_a G a3 16 (upd f3 0 0), kb_o r4 1 [.ref a4, .int 1], kb_a G a4 16 (upd f4 0 0)]) hE hP hD hS [5, 2] [0, 1, 3, 4, 6, 7, 8, 9, 10, 11, 12, 13, 14] rfl rfl (by decide) (by decide) (kb_rV (As := []) (rest := [.ref r5]) (wc := [kb_o h 2 [.ref r0, .ref r1, .ref r2, .ref r3, .ref r4, .ref r5, .ref r6, .ref r7, .ref r8, .ref r9, .ref r10, .ref r11, .int L, .int (-1)], kb_o r7 1 [.ref a7, .int 0]]) (q0 := 0) ⟨hx, hb, hml, hown, ht⟩ ((c_Tree_countOfProperties l G h r0 r1 r2 r3 r4 r5 r6 r7 r8 r9 r10 r11 L (-1) a7 0) _) (kb_gV wd_a5250f59 wd_5e59c8fd wd_1e6fdce3 wd_ebf91e09 wd_402a7dff) ⟨rfl, hd_e49549c8⟩ ⟨(Nat.le_of_ble_eq_true rfl), (Nat.le_of_ble_eq_true rfl)⟩ hE hP hD hS [5, 2] rfl (by decide) rfl rfl rfl hl.1 rfl (Nat.le_of_ble_eq_true rfl) d_Tree_addNode_76 ⟨(Nat.le_of_ble_eq_true rfl), (Nat.le_of_ble_eq_true rfl)⟩) (fun rv14 uu13 H locs hw hP hD hS => ?_)
  have hP : va_P G.1 kb_cl [kb_o r5 1 [.ref a5, .int 0], kb_o r6 1 [.ref a6, .int 0], kb_a G a5 16 f5, kb_a G a6 16 f6, kb_o r1 1 [.ref a1, .int 1], kb_a G a1 16 (upd f1 0 (-1)), kb_o r2 1 [.ref a2, .int 1], kb_a G a2 16 (upd f2 0 1), kb_o r0 1 [.ref a0, .int 0], kb_o r3 1 [.ref a3, .int 1], kb_a G a3 16 (upd f3 0 0), kb_o r4 1 [.ref a4, .int 1], kb_a G a4 16 (upd f4 0 0), kb_o h 2 [.ref r0, .ref r1, .ref r2, .ref r3, .ref r4, .ref r5, .ref r6, .ref r7, .ref r8, .ref r9, .ref r10, .ref r11, .int L, .int (-1)], kb_o r7 1 [.ref a7, .int 0]] H := hP
  have hD : va_D A [kb_o r5 1 [.ref a5, .int 0], kb_o r6 1 [.ref a6, .int 0], kb_a G a5 16 f5, kb_a G a6 16 f6, kb_o r1 1 [.ref a1, .int 1], kb_a G a1 16 (upd f1 0 (-1)), kb_o r2 1 [.ref a2, .int 1], kb_a G a2 16 (upd f2 0 1), kb_o r0 1 [.ref a0, .int 0], kb_o r3 1 [.ref a3, .int 1], kb_a G a3 16 (upd f3 0 0), kb_o r4 1 [.ref a4, .int 1], kb_a G a4 16 (upd f4 0 0), kb_o h 2 [.ref r0, .ref r1, .ref r2, .ref r3, .ref r4, .ref r5, .ref r6, .ref r7, .ref r8, .ref r9, .ref r10, .ref r11, .int L, .int (-1)], kb_o r7 1 [.ref a7, .int 0]] := hD
  refine kb_top (y := 0) (show rv14 = 0 from hw) ?_
  refine kb_v (wc := [kb_o r5 1 [.ref a5, .int 0], kb_a G a5 16 f5]) (wr := [kb_o r6 1 [.ref a6, .int 0], kb_a G a6 16 f6, kb_o r1 1 [.ref a1, .int 1], kb_a G a1 16 (upd f1 0 (-1)), kb_o r2 1 [.ref a2, .int 1], kb_a G a2 16 (upd f2 0 1), kb_o r0 1 [.ref a0, .int 0], kb_o r3 1 [.ref a3, .int 1], kb_a G a3 16 (upd f3 0 0), kb_o r4 1 [.ref a4, .int 1], kb_a G a4 16 (upd f4 0 0), kb_o h 2 [.ref r0, .ref r1, .ref r2, .ref r3, .ref r4, .ref r5, .ref r6, .ref r7, .ref r8, .ref r9, .ref r10, .ref r11, .int L, .int (-1)], kb_o r7 1 [.ref a7, .int 0]]) hE hP hD hS [0, 2] [1, 3, 4, 5, 6, 7, 8, 9, 10, 11, 12, 13, 14] rfl rfl (by decide) (by decide) (kb_rV (As := [.int 0]) (rest := []) (wc := [kb_o r5 1 [.ref a5, .int 0], kb_a G a5 16 f5]) (q0 := 0) ⟨hx, hb, hml, hown, ht⟩ ((c_Row_add_n l G r5 a5 0 16 f5 0 (by omega) (by omega)) _) (kb_gV wd_11d09eaf wd_d7a504c3 wd_55347eca wd_4182e433 wd_0d22954f) ⟨rfl, hd_d22f4174⟩ ⟨(Nat.le_of_ble_eq_true rfl), (Nat.le_of_ble_eq_true rfl)⟩ hE hP hD hS [0, 2] rfl (by decide) rfl rfl rfl hl.1 rfl (Nat.le_of_ble_eq_true rfl) d_Tree_addNode_79 ⟨(Nat.le_of_ble_eq_true rfl), (Nat.le_of_ble_eq_true rfl)⟩) (fun uu15 H locs hw hP hD hS => ?_)
  have hP : va_P G.1 kb_cl [kb_o r6 1 [.ref a6, .int 0], kb_a G a6 16 f6, kb_o r1 1 [.ref a1, .int 1], kb_a G a1 16 (upd f1 0 (-1)), kb_o r2 1 [.ref a2, .int 1], kb_a G a2 16 (upd f2 0 1), kb_o r0 1 [.ref a0, .int 0], kb_o r3 1 [.ref a3, .int 1], kb_a G a3 16 (upd f3 0 0), kb_o r4 1 [.ref a4, .int 1], kb_a G a4 16 (upd f4 0 0), kb_o h 2 [.ref r0, .ref r1, .ref r2, .ref r3, .ref r4, .ref r5, .ref r6, .ref r7, .ref r8, .ref r9, .ref r10, .ref r11, .int L, .int (-1)], kb_o r7 1 [.ref a7, .int 0], kb_o r5 1 [.ref a5, .int 1], kb_a G a5 16 (upd f5 0 0)] H := hP
  have hD : va_D A [kb_o r6 1 [.ref a6, .int 0], kb_a G a6 16 f6, kb_o r1 1 [.ref a1, .int 1], kb_a G a1 16 (upd f1 0 (-1)), kb_o r2 1 [.ref a2, .int 1], kb_a G a2 16 (upd f2 0 1), kb_o r0 1 [.ref a0, .int 0], kb_o r3 1 [.ref a3, .int 1], kb_a G a3 16 (upd f3 0 0), kb_o r4 1 [.ref a4, .int 1], kb_a G a4 16 (upd f4 0 0), kb_o h 2 [.ref r0, .ref r1, .ref r2, .ref r3, .ref r4, .ref r5, .ref r6, .ref r7, .ref r8, .ref r9, .ref r10, .ref r11, .int L, .int (-1)], kb_o r7 1 [.ref a7, .int 0], kb_o r5 1 [.ref a5, .int 1], kb_a G a5 16 (upd f5 0 0)] := hD
  refine lv_aload_n hx hb d_Tree_addNode_82 rfl (lv_at hl 1 rfl) ?_
  refine va_get (D := G.1) (ci := 2) (v := .ref r6) (C := "TreePress$Tree") (T := kb_F2) (N := 14) hx hb ht kb_w2 hown hE.1 hP 11 rfl rfl 6 (by decide) (ht _ wd_a1ee67c2) (fun _ h9 => h9) rfl d_Tree_addNode_83 ?_
  refine lv_iconst (v := 0) hx hb d_Tree_addNode_86 (by decide) ?_
  refine kb_v (wc := [kb_o r6 1 [.ref a6, .int 0], kb_a G a6 16 f6]) (wr := [kb_o r1 1 [.ref a1, .int 1], kb_a G a1 16 (upd f1 0 (-1)), kb_o r2 1 [.ref a2, .int 1], kb_a G a2 16 (upd f2 0 1), kb_o r0 1 [.ref a0, .int 0], kb_o r3 1 [.ref a3, .int 1], kb_a G a3 16 (upd f3 0 0), kb_o r4 1 [.ref a4, .int 1], kb_a G a4 16 (upd f4 0 0), kb_o h 2 [.ref r0, .ref r1, .ref r2, .ref r3, .ref r4, .ref r5, .ref r6, .ref r7, .ref r8, .ref r9, .ref r10, .ref r11, .int L, .int (-1)], kb_o r7 1 [.ref a7, .int 0], kb_o r5 1 [.ref a5, .int 1], kb_a G a5 16 (upd f5 0 0)]) hE hP hD hS [0, 1] [2, 3, 4, 5, 6, 7, 8, 9, 10, 11, 12, 13, 14] rfl rfl (by decide) (by decide) (kb_rV (As := [.int 0]) (rest := []) (wc := [kb_o r6 1 [.ref a6, .int 0], kb_a G a6 16 f6]) (q0 := 0) ⟨hx, hb, hml, hown, ht⟩ ((c_Row_add_n l G r6 a6 0 16 f6 0 (by omega) (by omega)) _) (kb_gV wd_11d09eaf wd_d7a504c3 wd_55347eca wd_4182e433 wd_0d22954f) ⟨rfl, hd_d22f4174⟩ ⟨(Nat.le_of_ble_eq_true rfl), (Nat.le_of_ble_eq_true rfl)⟩ hE hP hD hS [0, 1] rfl (by decide) rfl rfl rfl hl.1 rfl (Nat.le_of_ble_eq_true rfl) d_Tree_addNode_87 ⟨(Nat.le_of_ble_eq_true rfl), (Nat.le_of_ble_eq_true rfl)⟩) (fun uu17 H locs hw hP hD hS => ?_)
  have hP : va_P G.1 kb_cl [kb_o r1 1 [.ref a1, .int 1], kb_a G a1 16 (upd f1 0 (-1)), kb_o r2 1 [.ref a2, .int 1], kb_a G a2 16 (upd f2 0 1), kb_o r0 1 [.ref a0, .int 0], kb_o r3 1 [.ref a3, .int 1], kb_a G a3 16 (upd f3 0 0), kb_o r4 1 [.ref a4, .int 1], kb_a G a4 16 (upd f4 0 0), kb_o h 2 [.ref r0, .ref r1, .ref r2, .ref r3, .ref r4, .ref r5, .ref r6, .ref r7, .ref r8, .ref r9, .ref r10, .ref r11, .int L, .int (-1)], kb_o r7 1 [.ref a7, .int 0], kb_o r5 1 [.ref a5, .int 1], kb_a G a5 16 (upd f5 0 0), kb_o r6 1 [.ref a6, .int 1], kb_a G a6 16 (upd f6 0 0)] H := hP
  have hD : va_D A [kb_o r1 1 [.ref a1, .int 1], kb_a G a1 16 (upd f1 0 (-1)), kb_o r2 1 [.ref a2, .int 1], kb_a G a2 16 (upd f2 0 1), kb_o r0 1 [.ref a0, .int 0], kb_o r3 1 [.ref a3, .int 1], kb_a G a3 16 (upd f3 0 0), kb_o r4 1 [.ref a4, .int 1], kb_a G a4 16 (upd f4 0 0), kb_o h 2 [.ref r0, .ref r1, .ref r2, .ref r3, .ref r4, .ref r5, .ref r6, .ref r7, .ref r8, .ref r9, .ref r10, .ref r11, .int L, .int (-1)], kb_o r7 1 [.ref a7, .int 0], kb_o r5 1 [.ref a5, .int 1], kb_a G a5 16 (upd f5 0 0), kb_o r6 1 [.ref a6, .int 1], kb_a G a6 16 (upd f6 0 0)] := hD
  refine lv_aload_n hx hb d_Tree_addNode_90 rfl (lv_at hl 1 rfl) ?_
  refine va_get (D := G.1) (ci := 2) (v := .ref r0) (C := "TreePress$Tree") (T := kb_F2) (N := 14) hx hb ht kb_w2 hown hE.1 hP 9 rfl rfl 0 (by decide) (ht _ wd_d0876019) (fun _ h9 => h9) rfl d_Tree_addNode_91 ?_
  refine lv_aload_n hx hb d_Tree_addNode_94 rfl (lv_at hl 2 rfl) ?_
  refine lv_iload_n hx hb d_Tree_addNode_95 rfl (lv_at hl 3 rfl) ?_
  refine lv_iload_n hx hb d_Tree_addNode_96 rfl (lv_at hl 4 rfl) ?_
  refine kb_v (wc := [kb_o r0 1 [.ref a0, .int 0]]) (wr := [kb_o r1 1 [.ref a1, .int 1], kb_a G a1 16 (upd f1 0 (-1)), kb_o r2 1 [.ref a2, .int 1], kb_a G a2 16 (upd f2 0 1), kb_o r3 1 [.ref a3, .int 1], kb_a G a3 16 (upd f3 0 0), kb_o r4 1 [.ref a4, .int 1], kb_a G a4 16 (upd f4 0 0), kb_o h 2 [.ref r0, .ref r1, .ref r2, .ref r3, .ref r4, .ref r5, .ref r6, .ref r7, .ref r8, .ref r9, .ref r10, .ref r11, .int L, .int (-1)], kb_o r7 1 [.ref a7, .int 0], kb_o r5 1 [.ref a5, .int 1], kb_a G a5 16 (upd f5 0 0), kb_o r6 1 [.ref a6, .int 1], kb_a G a6 16 (upd f6 0 0)]) hE hP hD hS [4] [0, 1, 2, 3, 5, 6, 7, 8, 9, 10, 11, 12, 13, 14] rfl rfl (by decide) (by decide) (kb_rV (As := [.ref r0, .int 0, .int 0]) (rest := []) (wc := [kb_o r0 1 [.ref a0, .int 0]]) (q0 := 0) ⟨hx, hb, hml, hown, ht⟩ ((c_Row_addPart0 l G r0 a0 0 r0 0) _) (kb_gV wd_a985e60f wd_620dff6e wd_7e0170ce wd_4182e433 wd_2592bbbb) ⟨rfl, hd_bbec148d⟩ ⟨(Nat.le_of_ble_eq_true rfl), (Nat.le_of_ble_eq_true rfl)⟩ hE hP hD hS [4] rfl (by decide) rfl rfl rfl hl.1 rfl (Nat.le_of_ble_eq_true rfl) d_Tree_addNode_97 ⟨(Nat.le_of_ble_eq_true rfl), (Nat.le_of_ble_eq_true rfl)⟩) (fun uu19 H locs hw hP hD hS => ?_)
  have hP : va_P G.1 kb_cl [kb_o r1 1 [.ref a1, .int 1], kb_a G a1 16 (upd f1 0 (-1)), kb_o r2 1 [.ref a2, .int 1], kb_a G a2 16 (upd f2 0 1), kb_o r3 1 [.ref a3, .int 1], kb_a G a3 16 (upd f3 0 0), kb_o r4 1 [.ref a4, .int 1], kb_a G a4 16 (upd f4 0 0), kb_o h 2 [.ref r0, .ref r1, .ref r2, .ref r3, .ref r4, .ref r5, .ref r6, .ref r7, .ref r8, .ref r9, .ref r10, .ref r11, .int L, .int (-1)], kb_o r7 1 [.ref a7, .int 0], kb_o r5 1 [.ref a5, .int 1], kb_a G a5 16 (upd f5 0 0), kb_o r6 1 [.ref a6, .int 1], kb_a G a6 16 (upd f6 0 0), kb_o r0 1 [.ref a0, .int 0]] H := hP
  have hD : va_D A [kb_o r1 1 [.ref a1, .int 1], kb_a G a1 16 (upd f1 0 (-1)), kb_o r2 1 [.ref a2, .int 1], kb_a G a2 16 (upd f2 0 1), kb_o r3 1 [.ref a3, .int 1], kb_a G a3 16 (upd f3 0 0), kb_o r4 1 [.ref a4, .int 1], kb_a G a4 16 (upd f4 0 0), kb_o h 2 [.ref r0, .ref r1, .ref r2, .ref r3, .ref r4, .ref r5, .ref r6, .ref r7, .ref r8, .ref r9, .ref r10, .ref r11, .int L, .int (-1)], kb_o r7 1 [.ref a7, .int 0], kb_o r5 1 [.ref a5, .int 1], kb_a G a5 16 (upd f5 0 0), kb_o r6 1 [.ref a6, .int 1], kb_a G a6 16 (upd f6 0 0), kb_o r0 1 [.ref a0, .int 0]] := hD
  refine lv_aload_n hx hb d_Tree_addNode_100 rfl (lv_at hl 1 rfl) ?_
  refine lv_iload hx hb d_Tree_addNode_101 (lv_at hl 0 rfl) ?_
  refine va_put (D := G.1) (ci := 2) (v := .int 0) (ty := .int) (C := "TreePress$Tree") (T := kb_F2) (N := 14) hx hb ht kb_w2 kb_y2 kb_p2 kb_n2 hown hE.1 hP hD hS 8 rfl rfl 13 (by decide) (ht _ wd_f08393eb) (fun _ h9 => h9) rfl (by decide +kernel) rfl rfl (Nat.le_of_ble_eq_true rfl) d_Tree_addNode_103 (fun H locs hP hD hS => ?_)
  have hP : va_P G.1 kb_cl [kb_o r1 1 [.ref a1, .int 1], kb_a G a1 16 (upd f1 0 (-1)), kb_o r2 1 [.ref a2, .int 1], kb_a G a2 16 (upd f2 0 1), kb_o r3 1 [.ref a3, .int 1], kb_a G a3 16 (upd f3 0 0), kb_o r4 1 [.ref a4, .int 1], kb_a G a4 16 (upd f4 0 0), kb_o h 2 [.ref r0, .ref r1, .ref r2, .ref r3, .ref r4, .ref r5, .ref r6, .ref r7, .ref r8, .ref r9, .ref r10, .ref r11, .int L, .int 0], kb_o r7 1 [.ref a7, .int 0], kb_o r5 1 [.ref a5, .int 1], kb_a G a5 16 (upd f5 0 0), kb_o r6 1 [.ref a6, .int 1], kb_a G a6 16 (upd f6 0 0), kb_o r0 1 [.ref a0, .int 0]] H := hP
  have hD : va_D A [kb_o r1 1 [.ref a1, .int 1], kb_a G a1 16 (upd f1 0 (-1)), kb_o r2 1 [.ref a2, .int 1], kb_a G a2 16 (upd f2 0 1), kb_o r3 1 [.ref a3, .int 1], kb_a G a3 16 (upd f3 0 0), kb_o r4 1 [.ref a4, .int 1], kb_a G a4 16 (upd f4 0 0), kb_o h 2 [.ref r0, .ref r1, .ref r2, .ref r3, .ref r4, .ref r5, .ref r6, .ref r7, .ref r8, .ref r9, .ref r10, .ref r11, .int L, .int 0], kb_o r7 1 [.ref a7, .int 0], kb_o r5 1 [.ref a5, .int 1], kb_a G a5 16 (upd f5 0 0), kb_o r6 1 [.ref a6, .int 1], kb_a G a6 16 (upd f6 0 0), kb_o r0 1 [.ref a0, .int 0]] := hD
  refine lv_iload hx hb d_Tree_addNode_106 (lv_at hl 0 rfl) ?_
  exact kb_reti (kb_l [], kb_f []) hx hb hr hlocks hE hP hD hS [0, 1, 2, 3, 4, 5, 6, 7, 8, 9, 10, 11, 12, 13, 14] rfl (by decide) rfl rfl (Nat.le_of_ble_eq_true rfl) (Nat.le_of_ble_eq_true rfl) d_Tree_addNode_108

set_option maxHeartbeats 4000000 in
set_option maxRecDepth 100000 in
theorem c_Tree_wipe0 (l : Launch) (G : kb_G) (h : Nat) (r0 : Nat) (r1 : Nat) (r2 : Nat) (r3 : Nat) (r4 : Nat) (r5 : Nat) (r6 : Nat) (r7 : Nat) (r8 : Nat) (r9 : Nat) (r10 : Nat) (r11 : Nat) (L : Int32) (P : Int32) (a0 : Nat) (a1 : Nat) (a2 : Nat) (a3 : Nat) (a4 : Nat) (a5 : Nat) (a6 : Nat) (a7 : Nat) (a8 : Nat) (a9 : Nat) (a10 : Nat) (a11 : Nat) (f1 : Nat → Int32) (f2 : Nat → Int32) (f3 : Nat → Int32) (f4 : Nat → Int32) (f5 : Nat → Int32) (f6 : Nat → Int32) : kb_cv l G ⟨"TreePress$Tree", "wipe", "()V"⟩ prog_4_method_2_code 1 6 0 0 [.ref h] [kb_o h 2 [.ref r0, .ref r1, .ref r2, .ref r3, .ref r4, .ref r5, .ref r6, .ref r7, .ref r8, .ref r9, .ref r10, .ref r11, .int L, .int P], kb_o r0 1 [.ref a0, .int 0], kb_o r1 1 [.ref a1, .int 0], kb_o r2 1 [.ref a2, .int 0], kb_o r3 1 [.ref a3, .int 0], kb_o r4 1 [.ref a4, .int 0], kb_o r5 1 [.ref a5, .int 0], kb_o r6 1 [.ref a6, .int 0], kb_o r7 1 [.ref a7, .int 0], kb_o r8 1 [.ref a8, .int 0], kb_o r9 1 [.ref a9, .int 0], kb_o r10 1 [.ref a10, .int 0], kb_o r11 1 [.ref a11, .int 0], kb_a G a1 16 f1, kb_a G a2 16 f2, kb_a G a3 16 f3, kb_a G a4 16 f4, kb_a G a5 16 f5, kb_a G a6 16 f6] (fun u => True) (fun u => [kb_o r8 1 [.ref a8, .int 0], kb_o r9 1 [.ref a9, .int 0], kb_o r10 1 [.ref a10, .int 0], kb_o r11 1 [.ref a11, .int 0], kb_o r1 1 [.ref a1, .int 1], kb_a G a1 16 (upd f1 0 (-1)), kb_o r2 1 [.ref a2, .int 1], kb_a G a2 16 (upd f2 0 1), kb_o r3 1 [.ref a3, .int 1], kb_a G a3 16 (upd f3 0 0), kb_o r4 1 [.ref a4, .int 1], kb_a G a4 16 (upd f4 0 0), kb_o h 2 [.ref r0, .ref r1, .ref r2, .ref r3, .ref r4, .ref r5, .ref r6, .ref r7, .ref r8, .ref r9, .ref r10, .ref r11, .int 0, .int 0], kb_o r7 1 [.ref a7, .int 0], kb_o r5 1 [.ref a5, .int 1], kb_a G a5 16 (upd f5 0 0), kb_o r6 1 [.ref a6, .int 1], kb_a G a6 16 (upd f6 0 0), kb_o r0 1 [.ref a0, .int 0]]) := by
  intro sz
  refine kb_body (QQ := fun A => kb_Qv G A (fun u => True) (fun u => [kb_o r8 1 [.ref a8, .int 0], kb_o r9 1 [.ref a9, .int 0], kb_o r10 1 [.ref a10, .int 0], kb_o r11 1 [.ref a11, .int 0], kb_o r1 1 [.ref a1, .int 1], kb_a G a1 16 (upd f1 0 (-1)), kb_o r2 1 [.ref a2, .int 1], kb_a G a2 16 (upd f2 0 1), kb_o r3 1 [.ref a3, .int 1], kb_a G a3 16 (upd f3 0 0), kb_o r4 1 [.ref a4, .int 1], kb_a G a4 16 (upd f4 0 0), kb_o h 2 [.ref r0, .ref r1, .ref r2, .ref r3, .ref r4, .ref r5, .ref r6, .ref r7, .ref r8, .ref r9, .ref r10, .ref r11, .int 0, .int 0], kb_o r7 1 [.ref a7, .int 0], kb_o r5 1 [.ref a5, .int 1], kb_a G a5 16 (upd f5 0 0), kb_o r6 1 [.ref a6, .int 1], kb_a G a6 16 (upd f6 0 0), kb_o r0 1 [.ref a0, .int 0]])) (by decide) (Nat.le_of_ble_eq_true rfl) ?_
  intro p e s m below meth c A B ls hl
  obtain ⟨hx, hb, hr, hml, hlocks, hin, hown, ht, hE, hP, hD, hS⟩ := B
  have hl : lv_has ls 1 [(0, .ref h)] := hl
  have hP0 := hP
  obtain ⟨H, hHe⟩ : ∃ H, H = s.heap := ⟨_, rfl⟩
  rw [← hHe] at hP
  have hS : va_S A s.heap H [] := by rw [hHe]; exact hS
  refine kb_at hHe ?_
  clear hHe
  refine lv_aload_n hx hb d_Tree_wipe_0 rfl (lv_at hl 0 rfl) ?_
  refine va_get (D := G.1) (ci := 2) (v := .ref r0) (C := "TreePress$Tree") (T := kb_F2) (N := 14) hx hb ht kb_w2 hown hE.1 hP 0 rfl rfl 0 (by decide) (ht _ wd_d0876019) (fun _ h9 => h9) rfl d_Tree_wipe_1 ?_
  refine lv_iconst (v := 0) hx hb d_Tree_wipe_4 (by decide) ?_
  refine kb_v (wc := [kb_o r0 1 [.ref a0, .int 0]]) (wr := [kb_o h 2 [.ref r0, .ref r1, .ref r2, .ref r3, .ref r4, .ref r5, .ref r6, .ref r7, .ref r8, .ref r9, .ref r10, .ref r11, .int L, .int P], kb_o r1 1 [.ref a1, .int 0], kb_o r2 1 [.ref a2, .int 0], kb_o r3 1 [.ref a3, .int 0], kb_o r4 1 [.ref a4, .int 0], kb_o r5 1 [.ref a5, .int 0], kb_o r6 1 [.ref a6, .int 0], kb_o r7 1 [.ref a7, .int 0], kb_o r8 1 [.ref a8, .int 0], kb_o r9 1 [.ref a9, .int 0], kb_o r10 1 [.ref a10, .int 0], kb_o r11 1 [.ref a11, .int 0], kb_a G a1 16 f1, kb_a G a2 16 f2, kb_a G a3 16 f3, kb_a G a4 16 f4, kb_a G a5 16 f5, kb_a G a6 16 f6]) hE hP hD hS [1] [0, 2, 3, 4, 5, 6, 7, 8, 9, 10, 11, 12, 13, 14, 15, 16, 17, 18] rfl rfl (by decide) (by decide) (kb_rV (As := [.int 0]) (rest := []) (wc := [kb_o r0 1 [.ref a0, .int 0]]) (q0 := 0) ⟨hx, hb, hml, hown, ht⟩ ((c_Row_cut0 l G r0 a0) _) (kb_gV wd_8899cd27 wd_a30f3437 wd_8c6818e9 wd_4182e433 wd_86891071) ⟨rfl, hd_934340dd⟩ ⟨(Nat.le_of_ble_eq_true rfl), (Nat.le_of_ble_eq_true rfl)⟩ hE hP hD hS [1] rfl (by decide) rfl rfl rfl hl.1 rfl (Nat.le_of_ble_eq_true rfl) d_Tree_wipe_5 ⟨(Nat.le_of_ble_eq_true rfl), (Nat.le_of_ble_eq_true rfl)⟩) (fun uu1 H locs hw hP hD hS => ?_)
  have hP : va_P G.1 kb_cl [kb_o h 2 [.ref r0, .ref r1, .ref r2, .ref r3, .ref r4, .ref r5, .ref r6, .ref r7, .ref r8, .ref r9, .ref r10, .ref r11, .int L, .int P], kb_o r1 1 [.ref a1, .int 0], kb_o r2 1 [.ref a2, .int 0], kb_o r3 1 [.ref a3, .int 0], kb_o r4 1 [.ref a4, .int 0], kb_o r5 1 [.ref a5, .int 0], kb_o r6 1 [.ref a6, .int 0], kb_o r7 1 [.ref a7, .int 0], kb_o r8 1 [.ref a8, .int 0], kb_o r9 1 [.ref a9, .int 0], kb_o r10 1 [.ref a10, .int 0], kb_o r11 1 [.ref a11, .int 0], kb_a G a1 16 f1, kb_a G a2 16 f2, kb_a G a3 16 f3, kb_a G a4 16 f4, kb_a G a5 16 f5, kb_a G a6 16 f6, kb_o r0 1 [.ref a0, .int 0]] H := hP
  have hD : va_D A [kb_o h 2 [.ref r0, .ref r1, .ref r2, .ref r3, .ref r4, .ref r5, .ref r6, .ref r7, .ref r8, .ref r9, .ref r10, .ref r11, .int L, .int P], kb_o r1 1 [.ref a1, .int 0], kb_o r2 1 [.ref a2, .int 0], kb_o r3 1 [.ref a3, .int 0], kb_o r4 1 [.ref a4, .int 0], kb_o r5 1 [.ref a5, .int 0], kb_o r6 1 [.ref a6, .int 0], kb_o r7 1 [.ref a7, .int 0], kb_o r8 1 [.ref a8, .int 0], kb_o r9 1 [.ref a9, .int 0], kb_o r10 1 [.ref a10, .int 0], kb_o r11 1 [.ref a11, .int 0], kb_a G a1 16 f1, kb_a G a2 16 f2, kb_a G a3 16 f3, kb_a G a4 16 f4, kb_a G a5 16 f5, kb_a G a6 16 f6, kb_o r0 1 [.ref a0, .int 0]] := hD
  refine lv_aload_n hx hb d_Tree_wipe_8 rfl (lv_at hl 0 rfl) ?_
  refine va_get (D := G.1) (ci := 2) (v := .ref r1) (C := "TreePress$Tree") (T := kb_F2) (N := 14) hx hb ht kb_w2 hown hE.1 hP 0 rfl rfl 1 (by decide) (ht _ wd_4e2a5d63) (fun _ h9 => h9) rfl d_Tree_wipe_9 ?_
  refine lv_iconst (v := 0) hx hb d_Tree_wipe_12 (by decide) ?_
  refine kb_v (wc := [kb_o r1 1 [.ref a1, .int 0]]) (wr := [kb_o h 2 [.ref r0, .ref r1, .ref r2, .ref r3, .ref r4, .ref r5, .ref r6, .ref r7, .ref r8, .ref r9, .ref r10, .ref r11, .int L, .int P], kb_o r2 1 [.ref a2, .int 0], kb_o r3 1 [.ref a3, .int 0], kb_o r4 1 [.ref a4, .int 0], kb_o r5 1 [.ref a5, .int 0], kb_o r6 1 [.ref a6, .int 0], kb_o r7 1 [.ref a7, .int 0], kb_o r8 1 [.ref a8, .int 0], kb_o r9 1 [.ref a9, .int 0], kb_o r10 1 [.ref a10, .int 0], kb_o r11 1 [.ref a11, .int 0], kb_a G a1 16 f1, kb_a G a2 16 f2, kb_a G a3 16 f3, kb_a G a4 16 f4, kb_a G a5 16 f5, kb_a G a6 16 f6, kb_o r0 1 [.ref a0, .int 0]]) hE hP hD hS [1] [0, 2, 3, 4, 5, 6, 7, 8, 9, 10, 11, 12, 13, 14, 15, 16, 17, 18] rfl rfl (by decide) (by decide) (kb_rV (As := [.int 0]) (rest := []) (wc := [kb_o r1 1 [.ref a1, .int 0]]) (q0 := 0) ⟨hx, hb, hml, hown, ht⟩ ((c_Row_cut0 l G r1 a1) _) (kb_gV wd_8899cd27 wd_a30f3437 wd_8c6818e9 wd_4182e433 wd_86891071) ⟨rfl, hd_934340dd⟩ ⟨(Nat.le_of_ble_eq_true rfl), (Nat.le_of_ble_eq_true rfl)⟩ hE hP hD hS [1] rfl (by decide) rfl rfl rfl hl.1 rfl (Nat.le_of_ble_eq_true rfl) d_Tree_wipe_13 ⟨(Nat.le_of_ble_eq_true rfl), (Nat.le_of_ble_eq_true rfl)⟩) (fun uu3 H locs hw hP hD hS => ?_)
  have hP : va_P G.1 kb_cl [kb_o h 2 [.ref r0, .ref r1, .ref r2, .ref r3, .ref r4, .ref r5, .ref r6, .ref r7, .ref r8, .ref r9, .ref r10, .ref r11, .int L, .int P], kb_o r2 1 [.ref a2, .int 0], kb_o r3 1 [.ref a3, .int 0], kb_o r4 1 [.ref a4, .int 0], kb_o r5 1 [.ref a5, .int 0], kb_o r6 1 [.ref a6, .int 0], kb_o r7 1 [.ref a7, .int 0], kb_o r8 1 [.ref a8, .int 0], kb_o r9 1 [.ref a9, .int 0], kb_o r10 1 [.ref a10, .int 0], kb_o r11 1 [.ref a11, .int 0], kb_a G a1 16 f1, kb_a G a2 16 f2, kb_a G a3 16 f3, kb_a G a4 16 f4, kb_a G a5 16 f5, kb_a G a6 16 f6, kb_o r0 1 [.ref a0, .int 0], kb_o r1 1 [.ref a1, .int 0]] H := hP
  have hD : va_D A [kb_o h 2 [.ref r0, .ref r1, .ref r2, .ref r3, .ref r4, .ref r5, .ref r6, .ref r7, .ref r8, .ref r9, .ref r10, .ref r11, .int L, .int P], kb_o r2 1 [.ref a2, .int 0], kb_o r3 1 [.ref a3, .int 0], kb_o r4 1 [.ref a4, .int 0], kb_o r5 1 [.ref a5, .int 0], kb_o r6 1 [.ref a6, .int 0], kb_o r7 1 [.ref a7, .int 0], kb_o r8 1 [.ref a8, .int 0], kb_o r9 1 [.ref a9, .int 0], kb_o r10 1 [.ref a10, .int 0], kb_o r11 1 [.ref a11, .int 0], kb_a G a1 16 f1, kb_a G a2 16 f2, kb_a G a3 16 f3, kb_a G a4 16 f4, kb_a G a5 16 f5, kb_a G a6 16 f6, kb_o r0 1 [.ref a0, .int 0], kb_o r1 1 [.ref a1, .int 0]] := hD
  refine lv_aload_n hx hb d_Tree_wipe_16 rfl (lv_at hl 0 rfl) ?_
  refine va_get (D := G.1) (ci := 2) (v := .ref r2) (C := "TreePress$Tree") (T := kb_F2) (N := 14) hx hb ht kb_w2 hown hE.1 hP 0 rfl rfl 2 (by decide) (ht _ wd_6fe818ee) (fun _ h9 => h9) rfl d_Tree_wipe_17 ?_
  refine lv_iconst (v := 0) hx hb d_Tree_wipe_20 (by decide) ?_
  refine kb_v (wc := [kb_o r2 1 [.ref a2, .int 0]]) (wr := [kb_o h 2 [.ref r0, .ref r1, .ref r2, .ref r3, .ref r4, .ref r5, .ref r6, .ref r7, .ref r8, .ref r9, .ref r10, .ref r11, .int L, .int P], kb_o r3 1 [.ref a3, .int 0], kb_o r4 1 [.ref a4, .int 0], kb_o r5 1 [.ref a5, .int 0], kb_o r6 1 [.ref a6, .int 0], kb_o r7 1 [.ref a7, .int 0], kb_o r8 1 [.ref a8, .int 0], kb_o r9 1 [.ref a9, .int 0], kb_o r10 1 [.ref a10, .int 0], kb_o r11 1 [.ref a11, .int 0], kb_a G a1 16 f1, kb_a G a2 16 f2, kb_a G a3 16 f3, kb_a G a4 16 f4, kb_a G a5 16 f5, kb_a G a6 16 f6, kb_o r0 1 [.ref a0, .int 0], kb_o r1 1 [.ref a1, .int 0]]) hE hP hD hS [1] [0, 2, 3, 4, 5, 6, 7, 8, 9, 10, 11, 12, 13, 14, 15, 16, 17, 18] rfl rfl (by decide) (by decide) (kb_rV (As := [.int 0]) (rest := []) (wc := [kb_o r2 1 [.ref a2, .int 0]]) (q0 := 0) ⟨hx, hb, hml, hown, ht⟩ ((c_Row_cut0 l G r2 a2) _) (kb_gV wd_8899cd27 wd_a30f3437 wd_8c6818e9 wd_4182e433 wd_86891071) ⟨rfl, hd_934340dd⟩ ⟨(Nat.le_of_ble_eq_true rfl), (Nat.le_of_ble_eq_true rfl)⟩ hE hP hD hS [1] rfl (by decide) rfl rfl rfl hl.1 rfl (Nat.le_of_ble_eq_true rfl) d_Tree_wipe_21 ⟨(Nat.le_of_ble_eq_true rfl), (Nat.le_of_ble_eq_true rfl)⟩) (fun uu5 H locs hw hP hD hS => ?_)
  have hP : va_P G.1 kb_cl [kb_o h 2 [.ref r0, .ref r1, .ref r2, .ref r3, .ref r4, .ref r5, .ref r6, .ref r7, .ref r8, .ref r9, .ref r10, .ref r11, .int L, .int P], kb_o r3 1 [.ref a3, .int 0], kb_o r4 1 [.ref a4, .int 0], kb_o r5 1 [.ref a5, .int 0], kb_o r6 1 [.ref a6, .int 0], kb_o r7 1 [.ref a7, .int 0], kb_o r8 1 [.ref a8, .int 0], kb_o r9 1 [.ref a9, .int 0], kb_o r10 1 [.ref a10, .int 0], kb_o r11 1 [.ref a11, .int 0], kb_a G a1 16 f1, kb_a G a2 16 f2, kb_a G a3 16 f3, kb_a G a4 16 f4, kb_a G a5 16 f5, kb_a G a6 16 f6, kb_o r0 1 [.ref a0, .int 0], kb_o r1 1 [.ref a1, .int 0], kb_o r2 1 [.ref a2, .int 0]] H := hP
  have hD : va_D A [kb_o h 2 [.ref r0, .ref r1, .ref r2, .ref r3, .ref r4, .ref r5, .ref r6, .ref r7, .ref r8, .ref r9, .ref r10, .ref r11, .int L, .int P], kb_o r3 1 [.ref a3, .int 0], kb_o r4 1 [.ref a4, .int 0], kb_o r5 1 [.ref a5, .int 0], kb_o r6 1 [.ref a6, .int 0], kb_o r7 1 [.ref a7, .int 0], kb_o r8 1 [.ref a8, .int 0], kb_o r9 1 [.ref a9, .int 0], kb_o r10 1 [.ref a10, .int 0], kb_o r11 1 [.ref a11, .int 0], kb_a G a1 16 f1, kb_a G a2 16 f2, kb_a G a3 16 f3, kb_a G a4 16 f4, kb_a G a5 16 f5, kb_a G a6 16 f6, kb_o r0 1 [.ref a0, .int 0], kb_o r1 1 [.ref a1, .int 0], kb_o r2 1 [.ref a2, .int 0]] := hD
  refine lv_aload_n hx hb d_Tree_wipe_24 rfl (lv_at hl 0 rfl) ?_
  refine va_get (D := G.1) (ci := 2) (v := .ref r3) (C := "TreePress$Tree") (T := kb_F2) (N := 14) hx hb ht kb_w2 hown hE.1 hP 0 rfl rfl 3 (by decide) (ht _ wd_ae352740) (fun _ h9 => h9) rfl d_Tree_wipe_25 ?_
  refine lv_iconst (v := 0) hx hb d_Tree_wipe_28 (by decide) ?_
  refine kb_v (wc := [kb_o r3 1 [.ref a3, .int 0]]) (wr := [kb_o h 2 [.ref r0, .ref r1, .ref r2, .ref r3, .ref r4, .ref r5, .ref r6, .ref r7, .ref r8, .ref r9, .ref r10, .ref r11, .int L, .int P], kb_o r4 1 [.ref a4, .int 0], kb_o r5 1 [.ref a5, .int 0], kb_o r6 1 [.ref a6, .int 0], kb_o r7 1 [.ref a7, .int 0], kb_o r8 1 [.ref a8, .int 0], kb_o r9 1 [.ref a9, .int 0], kb_o r10 1 [.ref a10, .int 0], kb_o r11 1 [.ref a11, .int 0], kb_a G a1 16 f1, kb_a G a2 16 f2, kb_a G a3 16 f3, kb_a G a4 16 f4, kb_a G a5 16 f5, kb_a G a6 16 f6, kb_o r0 1 [.ref a0, .int 0], kb_o r1 1 [.ref a1, .int 0], kb_o r2 1 [.ref a2, .int 0]]) hE hP hD hS [1] [0, 2, 3, 4, 5, 6, 7, 8, 9, 10, 11, 12, 13, 14, 15, 16, 17, 18] rfl rfl (by decide) (by decide) (kb_rV (As := [.int 0]) (rest := []) (wc := [kb_o r3 1 [.ref a3, .int 0]]) (q0 := 0) ⟨hx, hb, hml, hown, ht⟩ ((c_Row_cut0 l G r3 a3) _) (kb_gV wd_8899cd27 wd_a30f3437 wd_8c6818e9 wd_4182e433 wd_86891071) ⟨rfl, hd_934340dd⟩ ⟨(Nat.le_of_ble_eq_true rfl), (Nat.le_of_ble_eq_true rfl)⟩ hE hP hD hS [1] rfl (by decide) rfl rfl rfl hl.1 rfl (Nat.le_of_ble_eq_true rfl) d_Tree_wipe_29 ⟨(Nat.le_of_ble_eq_true rfl), (Nat.le_of_ble_eq_true rfl)⟩) (fun uu7 H locs hw hP hD hS => ?_)
  have hP : va_P G.1 kb_cl [kb_o h 2 [.ref r0, .ref r1, .ref r2, .ref r3, .ref r4, .ref r5, .ref r6, .ref r7, .ref r8, .ref r9, .ref r10, .ref r11, .int L, .int P], kb_o r4 1 [.ref a4, .int 0], kb_o r5 1 [.ref a5, .int 0], kb_o r6 1 [.ref a6, .int 0], kb_o r7 1 [.ref a7, .int 0], kb_o r8 1 [.ref a8, .int 0], kb_o r9 1 [.ref a9, .int 0], kb_o r10 1 [.ref a10, .int 0], kb_o r11 1 [.ref a11, .int 0], kb_a G a1 16 f1, kb_a G a2 16 f2, kb_a G a3 16 f3, kb_a G a4 16 f4, kb_a G a5 16 f5, kb_a G a6 16 f6, kb_o r0 1 [.ref a0, .int 0], kb_o r1 1 [.ref a1, .int 0], kb_o r2 1 [.ref a2, .int 0], kb_o r3 1 [.ref a3, .int 0]] H := hP
  have hD : va_D A [kb_o h 2 [.ref r0, .ref r1, .ref r2, .ref r3, .ref r4, .ref r5, .ref r6, .ref r7, .ref r8, .ref r9, .ref r10, .ref r11, .int L, .int P], kb_o r4 1 [.ref a4, .int 0], kb_o r5 1 [.ref a5, .int 0], kb_o r6 1 [.ref a6, .int 0], kb_o r7 1 [.ref a7, .int 0], kb_o r8 1 [.ref a8, .int 0], kb_o r9 1 [.ref a9, .int 0], kb_o r10 1 [.ref a10, .int 0], kb_o r11 1 [.ref a11, .int 0], kb_a G a1 16 f1, kb_a G a2 16 f2, kb_a G a3 16 f3, kb_a G a4 16 f4, kb_a G a5 16 f5, kb_a G a6 16 f6, kb_o r0 1 [.ref a0, .int 0], kb_o r1 1 [.ref a1, .int 0], kb_o r2 1 [.ref a2, .int 0], kb_o r3 1 [.ref a3, .int 0]] := hD
  refine lv_aload_n hx hb d_Tree_wipe_32 rfl (lv_at hl 0 rfl) ?_
  refine va_get (D := G.1) (ci := 2) (v := .ref r4) (C := "TreePress$Tree") (T := kb_F2) (N := 14) hx hb ht kb_w2 hown hE.1 hP 0 rfl rfl 4 (by decide) (ht _ wd_8b978912) (fun _ h9 => h9) rfl d_Tree_wipe_33 ?_
  refine lv_iconst (v := 0) hx hb d_Tree_wipe_36 (by decide) ?_
  refine kb_v (wc := [kb_o r4 1 [.ref a4, .int 0]]) (wr := [kb_o h 2 [.ref r0, .ref r1, .ref r2, .ref r3, .ref r4, .ref r5, .ref r6, .ref r7, .ref r8, .ref r9, .ref r10, .ref r11, .int L, .int P], kb_o r5 1 [.ref a5, .int 0], kb_o r6 1 [.ref a6, .int 0], kb_o r7 1 [.ref a7, .int 0], kb_o r8 1 [.ref a8, .int 0], kb_o r9 1 [.ref a9, .int 0], kb_o r10 1 [.ref a10, .int 0], kb_o r11 1 [.ref a11, .int 0], kb_a G a1 16 f1, kb_a G a2 16 f2, kb_a G a3 16 f3, kb_a G a4 16 f4, kb_a G a5 16 f5, kb_a G a6 16 f6, kb_o r0 1 [.ref a0, .int 0], kb_o r1 1 [.ref a1, .int 0], kb_o r2 1 [.ref a2, .int 0], kb_o r3 1 [.ref a3, .int 0]]) hE hP hD hS [1] [0, 2, 3, 4, 5, 6, 7, 8, 9, 10, 11, 12, 13, 14, 15, 16, 17, 18] rfl rfl (by decide) (by decide) (kb_rV (As := [.int 0]) (rest := []) (wc := [kb_o r4 1 [.ref a4, .int 0]]) (q0 := 0) ⟨hx, hb, hml, hown, ht⟩ ((c_Row_cut0 l G r4 a4) _) (kb_gV wd_8899cd27 wd_a30f3437 wd_8c6818e9 wd_4182e433 wd_86891071) ⟨rfl, hd_934340dd⟩ ⟨(Nat.le_of_ble_eq_true rfl), (Nat.le_of_ble_eq_true rfl)⟩ hE hP hD hS [1] rfl (by decide) rfl rfl rfl hl.1 rfl (Nat.le_of_ble_eq_true rfl) d_Tree_wipe_37 ⟨(Nat.le_of_ble_eq_true rfl), (Nat.le_of_ble_eq_true rfl)⟩) (fun uu9 H locs hw hP hD hS => ?_)
  have hP : va_P G.1 kb_cl [kb_o h 2 [.ref r0, .ref r1, .ref r2, .ref r3, .ref r4, .ref r5, .ref r6, .ref r7, .ref r8, .ref r9, .ref r10, .ref r11, .int L, .int P], kb_o r5 1 [.ref a5, .int 0], kb_o r6 1 [.ref a6, .int 0], kb_o r7 1 [.ref a7, .int 0], kb_o r8 1 [.ref a8, .int 0], kb_o r9 1 [.ref a9, .int 0], kb_o r10 1 [.ref a10, .int 0], kb_o r11 1 [.ref a11, .int 0], kb_a G a1 16 f1, kb_a G a2 16 f2, kb_a G a3 16 f3, kb_a G a4 16 f4, kb_a G a5 16 f5, kb_a G a6 16 f6, kb_o r0 1 [.ref a0, .int 0], kb_o r1 1 [.ref a1, .int 0], kb_o r2 1 [.ref a2, .int 0], kb_o r3 1 [.ref a3, .int 0], kb_o r4 1 [.ref a4, .int 0]] H := hP
  have hD : va_D A [kb_o h 2 [.ref r0, .ref r1, .ref r2, .ref r3, .ref r4, .ref r5, .ref r6, .ref r7, .ref r8, .ref r9, .ref r10, .ref r11, .int L, .int P], kb_o r5 1 [.ref a5, .int 0], kb_o r6 1 [.ref a6, .int 0], kb_o r7 1 [.ref a7, .int 0], kb_o r8 1 [.ref a8, .int 0], kb_o r9 1 [.ref a9, .int 0], kb_o r10 1 [.ref a10, .int 0], kb_o r11 1 [.ref a11, .int 0], kb_a G a1 16 f1, kb_a G a2 16 f2, kb_a G a3 16 f3, kb_a G a4 16 f4, kb_a G a5 16 f5, kb_a G a6 16 f6, kb_o r0 1 [.ref a0, .int 0], kb_o r1 1 [.ref a1, .int 0], kb_o r2 1 [.ref a2, .int 0], kb_o r3 1 [.ref a3, .int 0], kb_o r4 1 [.ref a4, .int 0]] := hD
  refine lv_aload_n hx hb d_Tree_wipe_40 rfl (lv_at hl 0 rfl) ?_
  refine va_get (D := G.1) (ci := 2) (v := .ref r5) (C := "TreePress$Tree") (T := kb_F2) (N := 14) hx hb ht kb_w2 hown hE.1 hP 0 rfl rfl 5 (by decide) (ht _ wd_5a2dade9) (fun _ h9 => h9) rfl d_Tree_wipe_41 ?_
  refine lv_iconst (v := 0) hx hb d_Tree_wipe_44 (by decide) ?_
  refine kb_v (wc := [kb_o r5 1 [.ref a5, .int 0]]) (wr := [kb_o h 2 [.ref r0, .ref r1, .ref r2, .ref r3, .ref r4, .ref r5, .ref r6, .ref r7, .ref r8, .ref r9, .ref r10, .ref r11, .int L, .int P], kb_o r6 1 [.ref a6, .int 0], kb_o r7 1 [.ref a7, .int 0], kb_o r8 1 [.ref a8, .int 0], kb_o r9 1 [.ref a9, .int 0], kb_o r10 1 [.ref a10, .int 0], kb_o r11 1 [.ref a11, .int 0], kb_a G a1 16 f1, kb_a G a2 16 f2, kb_a G a3 16 f3, kb_a G a4 16 f4, kb_a G a5 16 f5, kb_a G a6 16 f6, kb_o r0 1 [.ref a0, .int 0], kb_o r1 1 [.ref a1, .int 0], kb_o r2 1 [.ref a2, .int 0], kb_o r3 1 [.ref a3, .int 0], kb_o r4 1 [.ref a4, .int 0]]) hE hP hD hS [1] [0, 2, 3, 4, 5, 6, 7, 8, 9, 10, 11, 12, 13, 14, 15, 16, 17, 18] rfl rfl (by decide) (by decide) (kb_rV (As := [.int 0]) (rest := []) (wc := [kb_o r5 1 [.ref a5, .int 0]]) (q0 := 0) ⟨hx, hb, hml, hown, ht⟩ ((c_Row_cut0 l G r5 a5) _) (kb_gV wd_8899cd27 wd_a30f3437 wd_8c6818e9 wd_4182e433 wd_86891071) ⟨rfl, hd_934340dd⟩ ⟨(Nat.le_of_ble_eq_true rfl), (Nat.le_of_ble_eq_true rfl)⟩ hE hP hD hS [1] rfl (by decide) rfl rfl rfl hl.1 rfl (Nat.le_of_ble_eq_true rfl) d_Tree_wipe_45 ⟨(Nat.le_of_ble_eq_true rfl), (Nat.le_of_ble_eq_true rfl)⟩) (fun uu11 H locs hw hP hD hS => ?_)
  have hP : va_P G.1 kb_cl [kb_o h 2 [.ref r0, .ref r1, .ref r2, .ref r3, .ref r4, .ref r5, .ref r6, .ref r7, .ref r8, .ref r9, .ref r10, .ref r11, .int L, .int P], kb_o r6 1 [.ref a6, .int 0], kb_o r7 1 [.ref a7, .int 0], kb_o r8 1 [.ref a8, .int 0], kb_o r9 1 [.ref a9, .int 0], kb_o r10 1 [.ref a10, .int 0], kb_o r11 1 [.ref a11, .int 0], kb_a G a1 16 f1, kb_a G a2 16 f2, kb_a G a3 16 f3, kb_a G a4 16 f4, kb_a G a5 16 f5, kb_a G a6 16 f6, kb_o r0 1 [.ref a0, .int 0], kb_o r1 1 [.ref a1, .int 0], kb_o r2 1 [.ref a2, .int 0], kb_o r3 1 [.ref a3, .int 0], kb_o r4 1 [.ref a4, .int 0], kb_o r5 1 [.ref a5, .int 0]] H := hP
  have hD : va_D A [kb_o h 2 [.ref r0, .ref r1, .ref r2, .ref r3, .ref r4, .ref r5, .ref r6, .ref r7, .ref r8, .ref r9, .ref r10, .ref r11, .int L, .int P], kb_o r6 1 [.ref a6, .int 0], kb_o r7 1 [.ref a7, .int 0], kb_o r8 1 [.ref a8, .int 0], kb_o r9 1 [.ref a9, .int 0], kb_o r10 1 [.ref a10, .int 0], kb_o r11 1 [.ref a11, .int 0], kb_a G a1 16 f1, kb_a G a2 16 f2, kb_a G a3 16 f3, kb_a G a4 16 f4, kb_a G a5 16 f5, kb_a G a6 16 f6, kb_o r0 1 [.ref a0, .int 0], kb_o r1 1 [.ref a1, .int 0], kb_o r2 1 [.ref a2, .int 0], kb_o r3 1 [.ref a3, .int 0], kb_o r4 1 [.ref a4, .int 0], kb_o r5 1 [.ref a5, .int 0]] := hD
  refine lv_aload_n hx hb d_Tree_wipe_48 rfl (lv_at hl 0 rfl) ?_
  refine va_get (D := G.1) (ci := 2) (v := .ref r6) (C := "TreePress$Tree") (T := kb_F2) (N := 14) hx hb ht kb_w2 hown hE.1 hP 0 rfl rfl 6 (by decide) (ht _ wd_a1ee67c2) (fun _ h9 => h9) rfl d_Tree_wipe_49 ?_
  refine lv_iconst (v := 0) hx hb d_Tree_wipe_52 (by decide) ?_
  refine kb_v (wc := [kb_o r6 1 [.ref a6, .int 0]]) (wr := [kb_o h 2 [.ref r0, .ref r1, .ref r2, .ref r3, .ref r4, .ref r5, .ref r6, .ref r7, .ref r8, .ref r9, .ref r10, .ref r11, .int L, .int P], kb_o r7 1 [.ref a7, .int 0], kb_o r8 1 [.ref a8, .int 0], kb_o r9 1 [.ref a9, .int 0], kb_o r10 1 [.ref a10, .int 0], kb_o r11 1 [.ref a11, .int 0], kb_a G a1 16 f1, kb_a G a2 16 f2, kb_a G a3 16 f3, kb_a G a4 16 f4, kb_a G a5 16 f5, kb_a G a6 16 f6, kb_o r0 1 [.ref a0, .int 0], kb_o r1 1 [.ref a1, .int 0], kb_o r2 1 [.ref a2, .int 0], kb_o r3 1 [.ref a3, .int 0], kb_o r4 1 [.ref a4, .int 0], kb_o r5 1 [.ref a5, .int 0]]) hE hP hD hS [1] [0, 2, 3, 4, 5, 6, 7, 8, 9, 10, 11, 12, 13, 14, 15, 16, 17, 18] rfl rfl (by decide) (by decide) (kb_rV (As := [.int 0]) (rest := []) (wc := [kb_o r6 1 [.ref a6, .int 0]]) (q0 := 0) ⟨hx, hb, hml, hown, ht⟩ ((c_Row_cut0 l G r6 a6) _) (kb_gV wd_8899cd27 wd_a30f3437 wd_8c6818e9 wd_4182e433 wd_86891071) ⟨rfl, hd_934340dd⟩ ⟨(Nat.le_of_ble_eq_true rfl), (Nat.le_of_ble_eq_true rfl)⟩ hE hP hD hS [1] rfl (by decide) rfl rfl rfl hl.1 rfl (Nat.le_of_ble_eq_true rfl) d_Tree_wipe_53 ⟨(Nat.le_of_ble_eq_true rfl), (Nat.le_of_ble_eq_true rfl)⟩) (fun uu13 H locs hw hP hD hS => ?_)
  have hP : va_P G.1 kb_cl [kb_o h 2 [.ref r0, .ref r1, .ref r2, .ref r3, .ref r4, .ref r5, .ref r6, .ref r7, .ref r8, .ref r9, .ref r10, .ref r11, .int L, .int P], kb_o r7 1 [.ref a7, .int 0], kb_o r8 1 [.ref a8, .int 0], kb_o r9 1 [.ref a9, .int 0], kb_o r10 1 [.ref a10, .int 0], kb_o r11 1 [.ref a11, .int 0], kb_a G a1 16 f1, kb_a G a2 16 f2, kb_a G a3 16 f3, kb_a G a4 16 f4, kb_a G a5 16 f5, kb_a G a6 16 f6, kb_o r0 1 [.ref a0, .int 0], kb_o r1 1 [.ref a1, .int 0], kb_o r2 1 [.ref a2, .int 0], kb_o r3 1 [.ref a3, .int 0], kb_o r4 1 [.ref a4, .int 0], kb_o r5 1 [.ref a5, .int 0], kb_o r6 1 [.ref a6, .int 0]] H := hP
  have hD : va_D A [kb_o h 2 [.ref r0, .ref r1, .ref r2, .ref r3, .ref r4, .ref r5, .ref r6, .ref r7, .ref r8, .ref r9, .ref r10, .ref r11, .int L, .int P], kb_o r7 1 [.ref a7, .int 0], kb_o r8 1 [.ref a8, .int 0], kb_o r9 1 [.ref a9, .int 0], kb_o r10 1 [.ref a10, .int 0], kb_o r11 1 [.ref a11, .int 0], kb_a G a1 16 f1, kb_a G a2 16 f2, kb_a G a3 16 f3, kb_a G a4 16 f4, kb_a G a5 16 f5, kb_a G a6 16 f6, kb_o r0 1 [.ref a0, .int 0], kb_o r1 1 [.ref a1, .int 0], kb_o r2 1 [.ref a2, .int 0], kb_o r3 1 [.ref a3, .int 0], kb_o r4 1 [.ref a4, .int 0], kb_o r5 1 [.ref a5, .int 0], kb_o r6 1 [.ref a6, .int 0]] := hD
  refine lv_aload_n hx hb d_Tree_wipe_56 rfl (lv_at hl 0 rfl) ?_
  refine va_get (D := G.1) (ci := 2) (v := .ref r7) (C := "TreePress$Tree") (T := kb_F2) (N := 14) hx hb ht kb_w2 hown hE.1 hP 0 rfl rfl 7 (by decide) (ht _ wd_99a1932c) (fun _ h9 => h9) rfl d_Tree_wipe_57 ?_
  refine lv_iconst (v := 0) hx hb d_Tree_wipe_60 (by decide) ?_
  refine kb_v (wc := [kb_o r7 1 [.ref a7, .int 0]]) (wr := [kb_o h 2 [.ref r0, .ref r1, .ref r2, .ref r3, .ref r4, .ref r5, .ref r6, .ref r7, .ref r8, .ref r9, .ref r10, .ref r11, .int L, .int P], kb_o r8 1 [.ref a8, .int 0], kb_o r9 1 [.ref a9, .int 0], kb_o r10 1 [.ref a10, .int 0], kb_o r11 1 [.ref a11, .int 0], kb_a G a1 16 f1, kb_a G a2 16 f2, kb_a G a3 16 f3, kb_a G a4 16 f4, kb_a G a5 16 f5, kb_a G a6 16 f6, kb_o r0 1 [.ref a0, .int 0], kb_o r1 1 [.ref a1, .int 0], kb_o r2 1 [.ref a2, .int 0], kb_o r3 1 [.ref a3, .int 0], kb_o r4 1 [.ref a4, .int 0], kb_o r5 1 [.ref a5, .int 0], kb_o r6 1 [.ref a6, .int 0]]) hE hP hD hS [1] [0, 2, 3, 4, 5, 6, 7, 8, 9, 10, 11, 12, 13, 14, 15, 16, 17, 18] rfl rfl (by decide) (by decide) (kb_rV (As := [.int 0]) (rest := []) (wc := [kb_o r7 1 [.ref a7, .int 0]]) (q0 := 0) ⟨hx, hb, hml, hown, ht⟩ ((c_Row_cut0 l G r7 a7) _) (kb_gV wd_8899cd27 wd_a30f3437 wd_8c6818e9 wd_4182e433 wd_86891071) ⟨rfl, hd_934340dd⟩ ⟨(Nat.le_of_ble_eq_true rfl), (Nat.le_of_ble_eq_true rfl)⟩ hE hP hD hS [1] rfl (by decide) rfl rfl rfl hl.1 rfl (Nat.le_of_ble_eq_true rfl) d_Tree_wipe_61 ⟨(Nat.le_of_ble_eq_true rfl), (Nat.le_of_ble_eq_true rfl)⟩) (fun uu15 H locs hw hP hD hS => ?_)
  have hP : va_P G.1 kb_cl [kb_o h 2 [.ref r0, .ref r1, .ref r2, .ref r3, .ref r4, .ref r5, .ref r6, .ref r7, .ref r8, .ref r9, .ref r10, .ref r11, .int L, .int P], kb_o r8 1 [.ref a8, .int 0], kb_o r9 1 [.ref a9, .int 0], kb_o r10 1 [.ref a10, .int 0], kb_o r11 1 [.ref a11, .int 0], kb_a G a1 16 f1, kb_a G a2 16 f2, kb_a G a3 16 f3, kb_a G a4 16 f4, kb_a G a5 16 f5, kb_a G a6 16 f6, kb_o r0 1 [.ref a0, .int 0], kb_o r1 1 [.ref a1, .int 0], kb_o r2 1 [.ref a2, .int 0], kb_o r3 1 [.ref a3, .int 0], kb_o r4 1 [.ref a4, .int 0], kb_o r5 1 [.ref a5, .int 0], kb_o r6 1 [.ref a6, .int 0], kb_o r7 1 [.ref a7, .int 0]] H := hP
  have hD : va_D A [kb_o h 2 [.ref r0, .ref r1, .ref r2, .ref r3, .ref r4, .ref r5, .ref r6, .ref r7, .ref r8, .ref r9, .ref r10, .ref r11, .int L, .int P], kb_o r8 1 [.ref a8, .int 0], kb_o r9 1 [.ref a9, .int 0], kb_o r10 1 [.ref a10, .int 0], kb_o r11 1 [.ref a11, .int 0], kb_a G a1 16 f1, kb_a G a2 16 f2, kb_a G a3 16 f3, kb_a G a4 16 f4, kb_a G a5 16 f5, kb_a G a6 16 f6, kb_o r0 1 [.ref a0, .int 0], kb_o r1 1 [.ref a1, .int 0], kb_o r2 1 [.ref a2, .int 0], kb_o r3 1 [.ref a3, .int 0], kb_o r4 1 [.ref a4, .int 0], kb_o r5 1 [.ref a5, .int 0], kb_o r6 1 [.ref a6, .int 0], kb_o r7 1 [.ref a7, .int 0]] := hD
  refine lv_aload_n hx hb d_Tree_wipe_64 rfl (lv_at hl 0 rfl) ?_
  refine va_get (D := G.1) (ci := 2) (v := .ref r8) (C := "TreePress$Tree") (T := kb_F2) (N := 14) hx hb ht kb_w2 hown hE.1 hP 0 rfl rfl 8 (by decide) (ht _ wd_341ee72b) (fun _ h9 => h9) rfl d_Tree_wipe_65 ?_
  refine lv_iconst (v := 0) hx hb d_Tree_wipe_68 (by decide) ?_
  refine kb_v (wc := [kb_o r8 1 [.ref a8, .int 0]]) (wr := [kb_o h 2 [.ref r0, .ref r1, .ref r2, .ref r3, .ref r4, .ref r5, .ref r6, .ref r7, .ref r8, .ref r9, .ref r10, .ref r11, .int L, .int P], kb_o r9 1 [.ref a9, .int 0], kb_o r10 1 [.ref a10, .int 0], kb_o r11 1 [.ref a11, .int 0], kb_a G a1 16 f1, kb_a G a2 16 f2, kb_a G a3 16 f3, kb_a G a4 16 f4, kb_a G a5 16 f5, kb_a G a6 16 f6, kb_o r0 1 [.ref a0, .int 0], kb_o r1 1 [.ref a1, .int 0], kb_o r2 1 [.ref a2, .int 0], kb_o r3 1 [.ref a3, .int 0], kb_o r4 1 [.ref a4, .int 0], kb_o r5 1 [.ref a5, .int 0], kb_o r6 1 [.ref a6, .int 0], kb_o r7 1 [.ref a7, .int 0]]) hE hP hD hS [1] [0, 2, 3, 4, 5, 6, 7, 8, 9, 10, 11, 12, 13, 14, 15, 16, 17, 18] rfl rfl (by decide) (by decide) (kb_rV (As := [.int 0]) (rest := []) (wc := [kb_o r8 1 [.ref a8, .int 0]]) (q0 := 0) ⟨hx, hb, hml, hown, ht⟩ ((c_Row_cut0 l G r8 a8) _) (kb_gV wd_8899cd27 wd_a30f3437 wd_8c6818e9 wd_4182e433 wd_86891071) ⟨rfl, hd_934340dd⟩ ⟨(Nat.le_of_ble_eq_true rfl), (Nat.le_of_ble_eq_true rfl)⟩ hE hP hD hS [1] rfl (by decide) rfl rfl rfl hl.1 rfl (Nat.le_of_ble_eq_true rfl) d_Tree_wipe_69 ⟨(Nat.le_of_ble_eq_true rfl), (Nat.le_of_ble_eq_true rfl)⟩) (fun uu17 H locs hw hP hD hS => ?_)
  have hP : va_P G.1 kb_cl [kb_o h 2 [.ref r0, .ref r1, .ref r2, .ref r3, .ref r4, .ref r5, .ref r6, .ref r7, .ref r8, .ref r9, .ref r10, .ref r11, .int L, .int P], kb_o r9 1 [.ref a9, .int 0], kb_o r10 1 [.ref a10, .int 0], kb_o r11 1 [.ref a11, .int 0], kb_a G a1 16 f1, kb_a G a2 16 f2, kb_a G a3 16 f3, kb_a G a4 16 f4, kb_a G a5 16 f5, kb_a G a6 16 f6, kb_o r0 1 [.ref a0, .int 0], kb_o r1 1 [.ref a1, .int 0], kb_o r2 1 [.ref a2, .int 0], kb_o r3 1 [.ref a3, .int 0], kb_o r4 1 [.ref a4, .int 0], kb_o r5 1 [.ref a5, .int 0], kb_o r6 1 [.ref a6, .int 0], kb_o r7 1 [.ref a7, .int 0], kb_o r8 1 [.ref a8, .int 0]] H := hP
  have hD : va_D A [kb_o h 2 [.ref r0, .ref r1, .ref r2, .ref r3, .ref r4, .ref r5, .ref r6, .ref r7, .ref r8, .ref r9, .ref r10, .ref r11, .int L, .int P], kb_o r9 1 [.ref a9, .int 0], kb_o r10 1 [.ref a10, .int 0], kb_o r11 1 [.ref a11, .int 0], kb_a G a1 16 f1, kb_a G a2 16 f2, kb_a G a3 16 f3, kb_a G a4 16 f4, kb_a G a5 16 f5, kb_a G a6 16 f6, kb_o r0 1 [.ref a0, .int 0], kb_o r1 1 [.ref a1, .int 0], kb_o r2 1 [.ref a2, .int 0], kb_o r3 1 [.ref a3, .int 0], kb_o r4 1 [.ref a4, .int 0], kb_o r5 1 [.ref a5, .int 0], kb_o r6 1 [.ref a6, .int 0], kb_o r7 1 [.ref a7, .int 0], kb_o r8 1 [.ref a8, .int 0]] := hD
  refine lv_aload_n hx hb d_Tree_wipe_72 rfl (lv_at hl 0 rfl) ?_
  refine va_get (D := G.1) (ci := 2) (v := .ref r9) (C := "TreePress$Tree") (T := kb_F2) (N := 14) hx hb ht kb_w2 hown hE.1 hP 0 rfl rfl 9 (by decide) (ht _ wd_20c6a963) (fun _ h9 => h9) rfl d_Tree_wipe_73 ?_
  refine lv_iconst (v := 0) hx hb d_Tree_wipe_76 (by decide) ?_
  refine kb_v (wc := [kb_o r9 1 [.ref a9, .int 0]]) (wr := [kb_o h 2 [.ref r0, .ref r1, .ref r2, .ref r3, .ref r4, .ref r5, .ref r6, .ref r7, .ref r8, .ref r9, .ref r10, .ref r11, .int L, .int P], kb_o r10 1 [.ref a10, .int 0], kb_o r11 1 [.ref a11, .int 0], kb_a G a1 16 f1, kb_a G a2 16 f2, kb_a G a3 16 f3, kb_a G a4 16 f4, kb_a G a5 16 f5, kb_a G a6 16 f6, kb_o r0 1 [.ref a0, .int 0], kb_o r1 1 [.ref a1, .int 0], kb_o r2 1 [.ref a2, .int 0], kb_o r3 1 [.ref a3, .int 0], kb_o r4 1 [.ref a4, .int 0], kb_o r5 1 [.ref a5, .int 0], kb_o r6 1 [.ref a6, .int 0], kb_o r7 1 [.ref a7, .int 0], kb_o r8 1 [.ref a8, .int 0]]) hE hP hD hS [1] [0, 2, 3, 4, 5, 6, 7, 8, 9, 10, 11, 12, 13, 14, 15, 16, 17, 18] rfl rfl (by decide) (by decide) (kb_rV (As := [.int 0]) (rest := []) (wc := [kb_o r9 1 [.ref a9, .int 0]]) (q0 := 0) ⟨hx, hb, hml, hown, ht⟩ ((c_Row_cut0 l G r9 a9) _) (kb_gV wd_8899cd27 wd_a30f3437 wd_8c6818e9 wd_4182e433 wd_86891071) ⟨rfl, hd_934340dd⟩ ⟨(Nat.le_of_ble_eq_true rfl), (Nat.le_of_ble_eq_true rfl)⟩ hE hP hD hS [1] rfl (by decide) rfl rfl rfl hl.1 rfl (Nat.le_of_ble_eq_true rfl) d_Tree_wipe_77 ⟨(Nat.le_of_ble_eq_true rfl), (Nat.le_of_ble_eq_true rfl)⟩) (fun uu19 H locs hw hP hD hS => ?_)
  have hP : va_P G.1 kb_cl [kb_o h 2 [.ref r0, .ref r1, .ref r2, .ref r3, .ref r4, .ref r5, .ref r6, .ref r7, .ref r8, .ref r9, .ref r10, .ref r11, .int L, .int P], kb_o r10 1 [.ref a10, .int 0], kb_o r11 1 [.ref a11, .int 0], kb_a G a1 16 f1, kb_a G a2 16 f2, kb_a G a3 16 f3, kb_a G a4 16 f4, kb_a G a5 16 f5, kb_a G a6 16 f6, kb_o r0 1 [.ref a0, .int 0], kb_o r1 1 [.ref a1, .int 0], kb_o r2 1 [.ref a2, .int 0], kb_o r3 1 [.ref a3, .int 0], kb_o r4 1 [.ref a4, .int 0], kb_o r5 1 [.ref a5, .int 0], kb_o r6 1 [.ref a6, .int 0], kb_o r7 1 [.ref a7, .int 0], kb_o r8 1 [.ref a8, .int 0], kb_o r9 1 [.ref a9, .int 0]] H := hP
  have hD : va_D A [kb_o h 2 [.ref r0, .ref r1, .ref r2, .ref r3, .ref r4, .ref r5, .ref r6, .ref r7, .ref r8, .ref r9, .ref r10, .ref r11, .int L, .int P], kb_o r10 1 [.ref a10, .int 0], kb_o r11 1 [.ref a11, .int 0], kb_a G a1 16 f1, kb_a G a2 16 f2, kb_a G a3 16 f3, kb_a G a4 16 f4, kb_a G a5 16 f5, kb_a G a6 16 f6, kb_o r0 1 [.ref a0, .int 0], kb_o r1 1 [.ref a1, .int 0], kb_o r2 1 [.ref a2, .int 0], kb_o r3 1 [.ref a3, .int 0], kb_o r4 1 [.ref a4, .int 0], kb_o r5 1 [.ref a5, .int 0], kb_o r6 1 [.ref a6, .int 0], kb_o r7 1 [.ref a7, .int 0], kb_o r8 1 [.ref a8, .int 0], kb_o r9 1 [.ref a9, .int 0]] := hD
  refine lv_aload_n hx hb d_Tree_wipe_80 rfl (lv_at hl 0 rfl) ?_
  refine va_get (D := G.1) (ci := 2) (v := .ref r10) (C := "TreePress$Tree") (T := kb_F2) (N := 14) hx hb ht kb_w2 hown hE.1 hP 0 rfl rfl 10 (by decide) (ht _ wd_41b50714) (fun _ h9 => h9) rfl d_Tree_wipe_81 ?_
  refine lv_iconst (v := 0) hx hb d_Tree_wipe_84 (by decide) ?_
  refine kb_v (wc := [kb_o r10 1 [.ref a10, .int 0]]) (wr := [kb_o h 2 [.ref r0, .ref r1, .ref r2, .ref r3, .ref r4, .ref r5, .ref r6, .ref r7, .ref r8, .ref r9, .ref r10, .ref r11, .int L, .int P], kb_o r11 1 [.ref a11, .int 0], kb_a G a1 16 f1, kb_a G a2 16 f2, kb_a G a3 16 f3, kb_a G a4 16 f4, kb_a G a5 16 f5, kb_a G a6 16 f6, kb_o r0 1 [.ref a0, .int 0], kb_o r1 1 [.ref a1, .int 0], kb_o r2 1 [.ref a2, .int 0], kb_o r3 1 [.ref a3, .int 0], kb_o r4 1 [.ref a4, .int 0], kb_o r5 1 [.ref a5, .int 0], kb_o r6 1 [.ref a6, .int 0], kb_o r7 1 [.ref a7, .int 0], kb_o r8 1 [.ref a8, .int 0], kb_o r9 1 [.ref a9, .int 0]]) hE hP hD hS [1] [0, 2, 3, 4, 5, 6, 7, 8, 9, 10, 11, 12, 13, 14, 15, 16, 17, 18] rfl rfl (by decide) (by decide) (kb_rV (As := [.int 0]) (rest := []) (wc := [kb_o r10 1 [.ref a10, .int 0]]) (q0 := 0) ⟨hx, hb, hml, hown, ht⟩ ((c_Row_cut0 l G r10 a10) _) (kb_gV wd_8899cd27 wd_a30f3437 wd_8c6818e9 wd_4182e433 wd_86891071) ⟨rfl, hd_934340dd⟩ ⟨(Nat.le_of_ble_eq_true rfl), (Nat.le_of_ble_eq_true rfl)⟩ hE hP hD hS [1] rfl (by decide) rfl rfl rfl hl.1 rfl (Nat.le_of_ble_eq_true rfl) d_Tree_wipe_85 ⟨(Nat.le_of_ble_eq_true rfl), (Nat.le_of_ble_eq_true rfl)⟩) (fun uu21 H locs hw hP hD hS => ?_)
  have hP : va_P G.1 kb_cl [kb_o h 2 [.ref r0, .ref r1, .ref r2, .ref r3, .ref r4, .ref r5, .ref r6, .ref r7, .ref r8, .ref r9, .ref r10, .ref r11, .int L, .int P], kb_o r11 1 [.ref a11, .int 0], kb_a G a1 16 f1, kb_a G a2 16 f2, kb_a G a3 16 f3, kb_a G a4 16 f4, kb_a G a5 16 f5, kb_a G a6 16 f6, kb_o r0 1 [.ref a0, .int 0], kb_o r1 1 [.ref a1, .int 0], kb_o r2 1 [.ref a2, .int 0], kb_o r3 1 [.ref a3, .int 0], kb_o r4 1 [.ref a4, .int 0], kb_o r5 1 [.ref a5, .int 0], kb_o r6 1 [.ref a6, .int 0], kb_o r7 1 [.ref a7, .int 0], kb_o r8 1 [.ref a8, .int 0], kb_o r9 1 [.ref a9, .int 0], kb_o r10 1 [.ref a10, .int 0]] H := hP
  have hD : va_D A [kb_o h 2 [.ref r0, .ref r1, .ref r2, .ref r3, .ref r4, .ref r5, .ref r6, .ref r7, .ref r8, .ref r9, .ref r10, .ref r11, .int L, .int P], kb_o r11 1 [.ref a11, .int 0], kb_a G a1 16 f1, kb_a G a2 16 f2, kb_a G a3 16 f3, kb_a G a4 16 f4, kb_a G a5 16 f5, kb_a G a6 16 f6, kb_o r0 1 [.ref a0, .int 0], kb_o r1 1 [.ref a1, .int 0], kb_o r2 1 [.ref a2, .int 0], kb_o r3 1 [.ref a3, .int 0], kb_o r4 1 [.ref a4, .int 0], kb_o r5 1 [.ref a5, .int 0], kb_o r6 1 [.ref a6, .int 0], kb_o r7 1 [.ref a7, .int 0], kb_o r8 1 [.ref a8, .int 0], kb_o r9 1 [.ref a9, .int 0], kb_o r10 1 [.ref a10, .int 0]] := hD
  refine lv_aload_n hx hb d_Tree_wipe_88 rfl (lv_at hl 0 rfl) ?_
  refine va_get (D := G.1) (ci := 2) (v := .ref r11) (C := "TreePress$Tree") (T := kb_F2) (N := 14) hx hb ht kb_w2 hown hE.1 hP 0 rfl rfl 11 (by decide) (ht _ wd_61bd367e) (fun _ h9 => h9) rfl d_Tree_wipe_89 ?_
  refine lv_iconst (v := 0) hx hb d_Tree_wipe_92 (by decide) ?_
  refine kb_v (wc := [kb_o r11 1 [.ref a11, .int 0]]) (wr := [kb_o h 2 [.ref r0, .ref r1, .ref r2, .ref r3, .ref r4, .ref r5, .ref r6, .ref r7, .ref r8, .ref r9, .ref r10, .ref r11, .int L, .int P], kb_a G a1 16 f1, kb_a G a2 16 f2, kb_a G a3 16 f3, kb_a G a4 16 f4, kb_a G a5 16 f5, kb_a G a6 16 f6, kb_o r0 1 [.ref a0, .int 0], kb_o r1 1 [.ref a1, .int 0], kb_o r2 1 [.ref a2, .int 0], kb_o r3 1 [.ref a3, .int 0], kb_o r4 1 [.ref a4, .int 0], kb_o r5 1 [.ref a5, .int 0], kb_o r6 1 [.ref a6, .int 0], kb_o r7 1 [.ref a7, .int 0], kb_o r8 1 [.ref a8, .int 0], kb_o r9 1 [.ref a9, .int 0], kb_o r10 1 [.ref a10, .int 0]]) hE hP hD hS [1] [0, 2, 3, 4, 5, 6, 7, 8, 9, 10, 11, 12, 13, 14, 15, 16, 17, 18] rfl rfl (by decide) (by decide) (kb_rV (As := [.int 0]) (rest := []) (wc := [kb_o r11 1 [.ref a11, .int 0]]) (q0 := 0) ⟨hx, hb, hml, hown, ht⟩ ((c_Row_cut0 l G r11 a11) _) (kb_gV wd_8899cd27 wd_a30f3437 wd_8c6818e9 wd_4182e433 wd_86891071) ⟨rfl, hd_934340dd⟩ ⟨(Nat.le_of_ble_eq_true rfl), (Nat.le_of_ble_eq_true rfl)⟩ hE hP hD hS [1] rfl (by decide) rfl rfl rfl hl.1 rfl (Nat.le_of_ble_eq_true rfl) d_Tree_wipe_93 ⟨(Nat.le_of_ble_eq_true rfl), (Nat.le_of_ble_eq_true rfl)⟩) (fun uu23 H locs hw hP hD hS => ?_)
  have hP : va_P G.1 kb_cl [kb_o h 2 [.ref r0, .ref r1, .ref r2, .ref r3, .ref r4, .ref r5, .ref r6, .ref r7, .ref r8, .ref r9, .ref r10, .ref r11, .int L, .int P], kb_a G a1 16 f1, kb_a G a2 16 f2, kb_a G a3 16 f3, kb_a G a4 16 f4, kb_a G a5 16 f5, kb_a G a6 16 f6, kb_o r0 1 [.ref a0, .int 0], kb_o r1 1 [.ref a1, .int 0], kb_o r2 1 [.ref a2, .int 0], kb_o r3 1 [.ref a3, .int 0], kb_o r4 1 [.ref a4, .int 0], kb_o r5 1 [.ref a5, .int 0], kb_o r6 1 [.ref a6, .int 0], kb_o r7 1 [.ref a7, .int 0], kb_o r8 1 [.ref a8, .int 0], kb_o r9 1 [.ref a9, .int 0], kb_o r10 1 [.ref a10, .int 0], kb_o r11 1 [.ref a11, .int 0]] H := hP
  have hD : va_D A [kb_o h 2 [.ref r0, .ref r1, .ref r2, .ref r3, .ref r4, .ref r5, .ref r6, .ref r7, .ref r8, .ref r9, .ref r10, .ref r11, .int L, .int P], kb_a G a1 16 f1, kb_a G a2 16 f2, kb_a G a3 16 f3, kb_a G a4 16 f4, kb_a G a5 16 f5, kb_a G a6 16 f6, kb_o r0 1 [.ref a0, .int 0], kb_o r1 1 [.ref a1, .int 0], kb_o r2 1 [.ref a2, .int 0], kb_o r3 1 [.ref a3, .int 0], kb_o r4 1 [.ref a4, .int 0], kb_o r5 1 [.ref a5, .int 0], kb_o r6 1 [.ref a6, .int 0], kb_o r7 1 [.ref a7, .int 0], kb_o r8 1 [.ref a8, .int 0], kb_o r9 1 [.ref a9, .int 0], kb_o r10 1 [.ref a10, .int 0], kb_o r11 1 [.ref a11, .int 0]] := hD
  refine lv_aload_n hx hb d_Tree_wipe_96 rfl (lv_at hl 0 rfl) ?_
  refine lv_iconst (v := 0) hx hb d_Tree_wipe_97 (by decide) ?_
  refine va_put (D := G.1) (ci := 2) (v := .int 0) (ty := .int) (C := "TreePress$Tree") (T := kb_F2) (N := 14) hx hb ht kb_w2 kb_y2 kb_p2 kb_n2 hown hE.1 hP hD hS 0 rfl rfl 12 (by decide) (ht _ wd_c03ba740) (fun _ h9 => h9) rfl (by decide +kernel) rfl rfl (Nat.le_of_ble_eq_true rfl) d_Tree_wipe_98 (fun H locs hP hD hS => ?_)
  have hP : va_P G.1 kb_cl [kb_o h 2 [.ref r0, .ref r1, .ref r2, .ref r3, .ref r4, .ref r5, .ref r6, .ref r7, .ref r8, .ref r9, .ref r10, .ref r11, .int 0, .int P], kb_a G a1 16 f1, kb_a G a2 16 f2, kb_a G a3 16 f3, kb_a G a4 16 f4, kb_a G a5 16 f5, kb_a G a6 16 f6, kb_o r0 1 [.ref a0, .int 0], kb_o r1 1 [.ref a1, .int 0], kb_o r2 1 [.ref a2, .int 0], kb_o r3 1 [.ref a3, .int 0], kb_o r4 1 [.ref a4, .int 0], kb_o r5 1 [.ref a5, .int 0], kb_o r6 1 [.ref a6, .int 0], kb_o r7 1 [.ref a7, .int 0], kb_o r8 1 [.ref a8, .int 0], kb_o r9 1 [.ref a9, .int 0], kb_o r10 1 [.ref a10, .int 0], kb_o r11 1 [.ref a11, .int 0]] H := hP
  have hD : va_D A [kb_o h 2 [.ref r0, .ref r1, .ref r2, .ref r3, .ref r4, .ref r5, .ref r6, .ref r7, .ref r8, .ref r9, .ref r10, .ref r11, .int 0, .int P], kb_a G a1 16 f1, kb_a G a2 16 f2, kb_a G a3 16 f3, kb_a G a4 16 f4, kb_a G a5 16 f5, kb_a G a6 16 f6, kb_o r0 1 [.ref a0, .int 0], kb_o r1 1 [.ref a1, .int 0], kb_o r2 1 [.ref a2, .int 0], kb_o r3 1 [.ref a3, .int 0], kb_o r4 1 [.ref a4, .int 0], kb_o r5 1 [.ref a5, .int 0], kb_o r6 1 [.ref a6, .int 0], kb_o r7 1 [.ref a7, .int 0], kb_o r8 1 [.ref a8, .int 0], kb_o r9 1 [.ref a9, .int 0], kb_o r10 1 [.ref a10, .int 0], kb_o r11 1 [.ref a11, .int 0]] := hD
  refine lv_aload_n hx hb d_Tree_wipe_101 rfl (lv_at hl 0 rfl) ?_
  refine lv_iconst (v := (-1)) hx hb d_Tree_wipe_102 (by decide) ?_
  refine va_put (D := G.1) (ci := 2) (v := .int (-1)) (ty := .int) (C := "TreePress$Tree") (T := kb_F2) (N := 14) hx hb ht kb_w2 kb_y2 kb_p2 kb_n2 hown hE.1 hP hD hS 0 rfl rfl 13 (by decide) (ht _ wd_f08393eb) (fun _ h9 => h9) rfl (by decide +kernel) rfl rfl (Nat.le_of_ble_eq_true rfl) d_Tree_wipe_103 (fun H locs hP hD hS => ?_)
  have hP : va_P G.1 kb_cl [kb_o h 2 [.ref r0, .ref r1, .ref r2, .ref r3, .ref r4, .ref r5, .ref r6, .ref r7, .ref r8, .ref r9, .ref r10, .ref r11, .int 0, .int (-1)], kb_a G a1 16 f1, kb_a G a2 16 f2, kb_a G a3 16 f3, kb_a G a4 16 f4, kb_a G a5 16 f5, kb_a G a6 16 f6, kb_o r0 1 [.ref a0, .int 0], kb_o r1 1 [.ref a1, .int 0], kb_o r2 1 [.ref a2, .int 0], kb_o r3 1 [.ref a3, .int 0], kb_o r4 1 [.ref a4, .int 0], kb_o r5 1 [.ref a5, .int 0], kb_o r6 1 [.ref a6, .int 0], kb_o r7 1 [.ref a7, .int 0], kb_o r8 1 [.ref a8, .int 0], kb_o r9 1 [.ref a9, .int 0], kb_o r10 1 [.ref a10, .int 0], kb_o r11 1 [.ref a11, .int 0]] H := hP
  have hD : va_D A [kb_o h 2 [.ref r0, .ref r1, .ref r2, .ref r3, .ref r4, .ref r5, .ref r6, .ref r7, .ref r8, .ref r9, .ref r10, .ref r11, .int 0, .int (-1)], kb_a G a1 16 f1, kb_a G a2 16 f2, kb_a G a3 16 f3, kb_a G a4 16 f4, kb_a G a5 16 f5, kb_a G a6 16 f6, kb_o r0 1 [.ref a0, .int 0], kb_o r1 1 [.ref a1, .int 0], kb_o r2 1 [.ref a2, .int 0], kb_o r3 1 [.ref a3, .int 0], kb_o r4 1 [.ref a4, .int 0], kb_o r5 1 [.ref a5, .int 0], kb_o r6 1 [.ref a6, .int 0], kb_o r7 1 [.ref a7, .int 0], kb_o r8 1 [.ref a8, .int 0], kb_o r9 1 [.ref a9, .int 0], kb_o r10 1 [.ref a10, .int 0], kb_o r11 1 [.ref a11, .int 0]] := hD
  refine lv_aload_n hx hb d_Tree_wipe_106 rfl (lv_at hl 0 rfl) ?_
  refine lv_aload_n hx hb d_Tree_wipe_107 rfl (lv_at hl 0 rfl) ?_
  refine va_get (D := G.1) (ci := 2) (v := .ref r0) (C := "TreePress$Tree") (T := kb_F2) (N := 14) hx hb ht kb_w2 hown hE.1 hP 0 rfl rfl 0 (by decide) (ht _ wd_d0876019) (fun _ h9 => h9) rfl d_Tree_wipe_108 ?_
  refine lv_iconst (v := 0) hx hb d_Tree_wipe_111 (by decide) ?_
  refine lv_iconst (v := 0) hx hb d_Tree_wipe_112 (by decide) ?_
  refine kb_i (wc := [kb_o h 2 [.ref r0, .ref r1, .ref r2, .ref r3, .ref r4, .ref r5, .ref r6, .ref r7, .ref r8, .ref r9, .ref r10, .ref r11, .int 0, .int (-1)], kb_o r0 1 [.ref a0, .int 0], kb_o r1 1 [.ref a1, .int 0], kb_o r2 1 [.ref a2, .int 0], kb_o r3 1 [.ref a3, .int 0], kb_o r4 1 [.ref a4, .int 0], kb_o r5 1 [.ref a5, .int 0], kb_o r6 1 [.ref a6, .int 0], kb_o r7 1 [.ref a7, .int 0], kb_a G a1 16 f1, kb_a G a2 16 f2, kb_a G a3 16 f3, kb_a G a4 16 f4, kb_a G a5 16 f5, kb_a G a6 16 f6]) (wr := [kb_o r8 1 [.ref a8, .int 0], kb_o r9 1 [.ref a9, .int 0], kb_o r10 1 [.ref a10, .int 0], kb_o r11 1 [.ref a11, .int 0]]) hE hP hD hS [0, 7, 8, 9, 10, 11, 12, 13, 14, 1, 2, 3, 4, 5, 6] [15, 16, 17, 18] rfl rfl (by decide) (by decide) (kb_rV (As := [.ref r0, .int 0, .int 0]) (rest := []) (wc := [kb_o h 2 [.ref r0, .ref r1, .ref r2, .ref r3, .ref r4, .ref r5, .ref r6, .ref r7, .ref r8, .ref r9, .ref r10, .ref r11, .int 0, .int (-1)], kb_o r0 1 [.ref a0, .int 0], kb_o r1 1 [.ref a1, .int 0], kb_o r2 1 [.ref a2, .int 0], kb_o r3 1 [.ref a3, .int 0], kb_o r4 1 [.ref a4, .int 0], kb_o r5 1 [.ref a5, .int 0], kb_o r6 1 [.ref a6, .int 0], kb_o r7 1 [.ref a7, .int 0], kb_a G a1 16 f1, kb_a G a2 16 f2, kb_a G a3 16 f3, kb_a G a4 16 f4, kb_a G a5 16 f5, kb_a G a6 16 f6]) (q0 := 0) ⟨hx, hb, hml, hown, ht⟩ ((c_Tree_addNode l G h r0 r1 r2 r3 r4 r5 r6 r7 r8 r9 r10 r11 0 a0 a1 a2 a3 a4 a5 a6 a7 f1 f2 f3 f4 f5 f6) _) (kb_gV wd_79d23d76 wd_d892b7a2 wd_4b7f4d4b wd_ebf91e09 wd_d814e805) ⟨rfl, hd_0cbcafc1⟩ ⟨(Nat.le_of_ble_eq_true rfl), (Nat.le_of_ble_eq_true rfl)⟩ hE hP hD hS [0, 7, 8, 9, 10, 11, 12, 13, 14, 1, 2, 3, 4, 5, 6] rfl (by decide) rfl rfl rfl hl.1 rfl (Nat.le_of_ble_eq_true rfl) d_Tree_wipe_113 ⟨(Nat.le_of_ble_eq_true rfl), (Nat.le_of_ble_eq_true rfl)⟩) (fun rv26 uu25 H locs hw hP hD hS => ?_)
  have hP : va_P G.1 kb_cl [kb_o r8 1 [.ref a8, .int 0], kb_o r9 1 [.ref a9, .int 0], kb_o r10 1 [.ref a10, .int 0], kb_o r11 1 [.ref a11, .int 0], kb_o r1 1 [.ref a1, .int 1], kb_a G a1 16 (upd f1 0 (-1)), kb_o r2 1 [.ref a2, .int 1], kb_a G a2 16 (upd f2 0 1), kb_o r3 1 [.ref a3, .int 1], kb_a G a3 16 (upd f3 0 0), kb_o r4 1 [.ref a4, .int 1], kb_a G a4 16 (upd f4 0 0), kb_o h 2 [.ref r0, .ref r1, .ref r2, .ref r3, .ref r4, .ref r5, .ref r6, .ref r7, .ref r8, .ref r9, .ref r10, .ref r11, .int 0, .int 0], kb_o r7 1 [.ref a7, .int 0], kb_o r5 1 [.ref a5, .int 1], kb_a G a5 16 (upd f5 0 0), kb_o r6 1 [.ref a6, .int 1], kb_a G a6 16 (upd f6 0 0), kb_o r0 1 [.ref a0, .int 0]] H := hP
  have hD : va_D A [kb_o r8 1 [.ref a8, .int 0], kb_o r9 1 [.ref a9, .int 0], kb_o r10 1 [.ref a10, .int 0], kb_o r11 1 [.ref a11, .int 0], kb_o r1 1 [.ref a1, .int 1], kb_a G a1 16 (upd f1 0 (-1)), kb_o r2 1 [.ref a2, .int 1], kb_a G a2 16 (upd f2 0 1), kb_o r3 1 [.ref a3, .int 1], kb_a G a3 16 (upd f3 0 0), kb_o r4 1 [.ref a4, .int 1], kb_a G a4 16 (upd f4 0 0), kb_o h 2 [.ref r0, .ref r1, .ref r2, .ref r3, .ref r4, .ref r5, .ref r6, .ref r7, .ref r8, .ref r9, .ref r10, .ref r11, .int 0, .int 0], kb_o r7 1 [.ref a7, .int 0], kb_o r5 1 [.ref a5, .int 1], kb_a G a5 16 (upd f5 0 0), kb_o r6 1 [.ref a6, .int 1], kb_a G a6 16 (upd f6 0 0), kb_o r0 1 [.ref a0, .int 0]] := hD
  refine kb_top (y := 0) (show rv26 = 0 from hw) ?_
  refine lv_pop hx hb d_Tree_wipe_116 rfl ?_
  exact kb_retv (kb_l [], kb_f []) hx hb hr hlocks hE hP hD hS [0, 1, 2, 3, 4, 5, 6, 7, 8, 9, 10, 11, 12, 13, 14, 15, 16, 17, 18] rfl (by decide) rfl trivial (Nat.le_of_ble_eq_true rfl) (Nat.le_of_ble_eq_true rfl) d_Tree_wipe_117

set_option maxHeartbeats 4000000 in
set_option maxRecDepth 100000 in
theorem c_Tree_wipe1 (l : Launch) (G : kb_G) (h : Nat) (r0 : Nat) (r1 : Nat) (r2 : Nat) (r3 : Nat) (r4 : Nat) (r5 : Nat) (r6 : Nat) (r7 : Nat) (r8 : Nat) (r9 : Nat) (r10 : Nat) (r11 : Nat) (L : Int32) (P : Int32) (a0 : Nat) (a1 : Nat) (a2 : Nat) (a3 : Nat) (a4 : Nat) (a5 : Nat) (a6 : Nat) (a7 : Nat) (a8 : Nat) (a9 : Nat) (a10 : Nat) (a11 : Nat) (f1 : Nat → Int32) (f2 : Nat → Int32) (f3 : Nat → Int32) (f4 : Nat → Int32) (f5 : Nat → Int32) (f6 : Nat → Int32) : kb_cv l G ⟨"TreePress$Tree", "wipe", "()V"⟩ prog_4_method_2_code 1 6 0 0 [.ref h] [kb_o h 2 [.ref r0, .ref r1, .ref r2, .ref r3, .ref r4, .ref r5, .ref r6, .ref r7, .ref r8, .ref r9, .ref r10, .ref r11, .int L, .int P], kb_o r0 1 [.ref a0, .int 0], kb_o r1 1 [.ref a1, .int 1], kb_o r2 1 [.ref a2, .int 1], kb_o r3 1 [.ref a3, .int 1], kb_o r4 1 [.ref a4, .int 1], kb_o r5 1 [.ref a5, .int 1], kb_o r6 1 [.ref a6, .int 1], kb_o r7 1 [.ref a7, .int 0], kb_o r8 1 [.ref a8, .int 0], kb_o r9 1 [.ref a9, .int 0], kb_o r10 1 [.ref a10, .int 0], kb_o r11 1 [.ref a11, .int 0], kb_a G a1 16 f1, kb_a G a2 16 f2, kb_a G a3 16 f3, kb_a G a4 16 f4, kb_a G a5 16 f5, kb_a G a6 16 f6] (fun u => True) (fun u => [kb_o r8 1 [.ref a8, .int 0], kb_o r9 1 [.ref a9, .int 0], kb_o r10 1 [.ref a10, .int 0], kb_o r11 1 [.ref a11, .int 0], kb_o r1 1 [.ref a1, .int 1], kb_a G a1 16 (upd f1 0 (-1)), kb_o r2 1 [.ref a2, .int 1], kb_a G a2 16 (upd f2 0 1), kb_o r3 1 [.ref a3, .int 1], kb_a G a3 16 (upd f3 0 0), kb_o r4 1 [.ref a4, .int 1], kb_a G a4 16 (upd f4 0 0), kb_o h 2 [.ref r0, .ref r1, .ref r2, .ref r3, .ref r4, .ref r5, .ref r6, .ref r7, .ref r8, .ref r9, .ref r10, .ref r11, .int 0, .int 0], kb_o r7 1 [.ref a7, .int 0], kb_o r5 1 [.ref a5, .int 1], kb_a G a5 16 (upd f5 0 0), kb_o r6 1 [.ref a6, .int 1], kb_a G a6 16 (upd f6 0 0), kb_o r0 1 [.ref a0, .int 0]]) := by
  intro sz
  refine kb_body (QQ := fun A => kb_Qv G A (fun u => True) (fun u => [kb_o r8 1 [.ref a8, .int 0], kb_o r9 1 [.ref a9, .int 0], kb_o r10 1 [.ref a10, .int 0], kb_o r11 1 [.ref a11, .int 0], kb_o r1 1 [.ref a1, .int 1], kb_a G a1 16 (upd f1 0 (-1)), kb_o r2 1 [.ref a2, .int 1], kb_a G a2 16 (upd f2 0 1), kb_o r3 1 [.ref a3, .int 1], kb_a G a3 16 (upd f3 0 0), kb_o r4 1 [.ref a4, .int 1], kb_a G a4 16 (upd f4 0 0), kb_o h 2 [.ref r0, .ref r1, .ref r2, .ref r3, .ref r4, .ref r5, .ref r6, .ref r7, .ref r8, .ref r9, .ref r10, .ref r11, .int 0, .int 0], kb_o r7 1 [.ref a7, .int 0], kb_o r5 1 [.ref a5, .int 1], kb_a G a5 16 (upd f5 0 0), kb_o r6 1 [.ref a6, .int 1], kb_a G a6 16 (upd f6 0 0), kb_o r0 1 [.ref a0, .int 0]])) (by decide) (Nat.le_of_ble_eq_true rfl) ?_
  intro p e s m below meth c A B ls hl
  obtain ⟨hx, hb, hr, hml, hlocks, hin, hown, ht, hE, hP, hD, hS⟩ := B
  have hl : lv_has ls 1 [(0, .ref h)] := hl
  have hP0 := hP
  obtain ⟨H, hHe⟩ : ∃ H, H = s.heap := ⟨_, rfl⟩
  rw [← hHe] at hP
  have hS : va_S A s.heap H [] := by rw [hHe]; exact hS
  refine kb_at hHe ?_
  clear hHe
  refine lv_aload_n hx hb d_Tree_wipe_0 rfl (lv_at hl 0 rfl) ?_
  refine va_get (D := G.1) (ci := 2) (v := .ref r0) (C := "TreePress$Tree") (T := kb_F2) (N := 14) hx hb ht kb_w2 hown hE.1 hP 0 rfl rfl 0 (by decide) (ht _ wd_d0876019) (fun _ h9 => h9) rfl d_Tree_wipe_1 ?_
  refine lv_iconst (v := 0) hx hb d_Tree_wipe_4 (by decide) ?_
  refine kb_v (wc := [kb_o r0 1 [.ref a0, .int 0]]) (wr := [kb_o h 2 [.ref r0, .ref r1, .ref r2, .ref r3, .ref r4, .ref r5, .ref r6, .ref r7, .ref r8, .ref r9, .ref r10, .ref r11, .int L, .int P], kb_o r1 1 [.ref a1, .int 1], kb_o r2 1 [.ref a2, .int 1], kb_o r3 1 [.ref a3, .int 1], kb_o r4 1 [.ref a4, .int 1], kb_o r5 1 [.ref a5, .int 1], kb_o r6 1 [.ref a6, .int 1], kb_o r7 1 [.ref a7, .int 0], kb_o r8 1 [.ref a8, .int 0], kb_o r9 1 [.ref a9, .int 0], kb_o r10 1 [.ref a10, .int 0], kb_o r11 1 [.ref a11, .int 0], kb_a G a1 16 f1, kb_a G a2 16 f2, kb_a G a3 16 f3, kb_a G a4 16 f4, kb_a G a5 16 f5, kb_a G a6 16 f6]) hE hP hD hS [1] [0, 2, 3, 4, 5, 6, 7, 8, 9, 10, 11, 12, 13, 14, 15, 16, 17, 18] rfl rfl (by decide) (by decide) (kb_rV (As := [.int 0]) (rest := []) (wc := [kb_o r0 1 [.ref a0, .int 0]]) (q0 := 0) ⟨hx, hb, hml, hown, ht⟩ ((c_Row_cut0 l G r0 a0) _) (kb_gV wd_8899cd27 wd_a30f3437 wd_8c6818e9 wd_4182e433 wd_86891071) ⟨rfl, hd_934340dd⟩ ⟨(Nat.le_of_ble_eq_true rfl), (Nat.le_of_ble_eq_true rfl)⟩ hE hP hD hS [1] rfl (by decide) rfl rfl rfl hl.1 rfl (Nat.le_of_ble_eq_true rfl) d_Tree_wipe_5 ⟨(Nat.le_of_ble_eq_true rfl), (Nat.le_of_ble_eq_true rfl)⟩) (fun uu1 H locs hw hP hD hS => ?_)
  have hP : va_P G.1 kb_cl [kb_o h 2 [.ref r0, .ref r1, .ref r2, .ref r3, .ref r4, .ref r5, .ref r6, .ref r7, .ref r8, .ref r9, .ref r10, .ref r11, .int L, .int P], kb_o r1 1 [.ref a1, .int 1], kb_o r2 1 [.ref a2, .int 1], kb_o r3 1 [.ref a3, .int 1], kb_o r4 1 [.ref a4, .int 1], kb_o r5 1 [.ref a5, .int 1], kb_o r6 1 [.ref a6, .int 1], kb_o r7 1 [.ref a7, .int 0], kb_o r8 1 [.ref a8, .int 0], kb_o r9 1 [.ref a9, .int 0], kb_o r10 1 [.ref a10, .int 0], kb_o r11 1 [.ref a11, .int 0], kb_a G a1 16 f1, kb_a G a2 16 f2, kb_a G a3 16 f3, kb_a G a4 16 f4, kb_a G a5 16 f5, kb_a G a6 16 f6, kb_o r0 1 [.ref a0, .int 0]] H := hP
  have hD : va_D A [kb_o h 2 [.ref r0, .ref r1, .ref r2, .ref r3, .ref r4, .ref r5, .ref r6, .ref r7, .ref r8, .ref r9, .ref r10, .ref r11, .int L, .int P], kb_o r1 1 [.ref a1, .int 1], kb_o r2 1 [.ref a2, .int 1], kb_o r3 1 [.ref a3, .int 1], kb_o r4 1 [.ref a4, .int 1], kb_o r5 1 [.ref a5, .int 1], kb_o r6 1 [.ref a6, .int 1], kb_o r7 1 [.ref a7, .int 0], kb_o r8 1 [.ref a8, .int 0], kb_o r9 1 [.ref a9, .int 0], kb_o r10 1 [.ref a10, .int 0], kb_o r11 1 [.ref a11, .int 0], kb_a G a1 16 f1, kb_a G a2 16 f2, kb_a G a3 16 f3, kb_a G a4 16 f4, kb_a G a5 16 f5, kb_a G a6 16 f6, kb_o r0 1 [.ref a0, .int 0]] := hD
  refine lv_aload_n hx hb d_Tree_wipe_8 rfl (lv_at hl 0 rfl) ?_
  refine va_get (D := G.1) (ci := 2) (v := .ref r1) (C := "TreePress$Tree") (T := kb_F2) (N := 14) hx hb ht kb_w2 hown hE.1 hP 0 rfl rfl 1 (by decide) (ht _ wd_4e2a5d63) (fun _ h9 => h9) rfl d_Tree_wipe_9 ?_
  refine lv_iconst (v := 0) hx hb d_Tree_wipe_12 (by decide) ?_
  refine kb_v (wc := [kb_o r1 1 [.ref a1, .int 1]]) (wr := [kb_o h 2 [.ref r0, .ref r1, .ref r2, .ref r3, .ref r4, .ref r5, .ref r6, .ref r7, .ref r8, .ref r9, .ref r10, .ref r11, .int L, .int P], kb_o r2 1 [.ref a2, .int 1], kb_o r3 1 [.ref a3, .int 1], kb_o r4 1 [.ref a4, .int 1], kb_o r5 1 [.ref a5, .int 1], kb_o r6 1 [.ref a6, .int 1], kb_o r7 1 [.ref a7, .int 0], kb_o r8 1 [.ref a8, .int 0], kb_o r9 1 [.ref a9, .int 0], kb_o r10 1 [.ref a10, .int 0], kb_o r11 1 [.ref a11, .int 0], kb_a G a1 16 f1, kb_a G a2 16 f2, kb_a G a3 16 f3, kb_a G a4 16 f4, kb_a G a5 16 f5, kb_a G a6 16 f6, kb_o r0 1 [.ref a0, .int 0]]) hE hP hD hS [1] [0, 2, 3, 4, 5, 6, 7, 8, 9, 10, 11, 12, 13, 14, 15, 16, 17, 18] rfl rfl (by decide) (by decide) (kb_rV (As := [.int 0]) (rest := []) (wc := [kb_o r1 1 [.ref a1, .int 1]]) (q0 := 0) ⟨hx, hb, hml, hown, ht⟩ ((c_Row_cut1 l G r1 a1) _) (kb_gV wd_8899cd27 wd_a30f3437 wd_8c6818e9 wd_4182e433 wd_86891071) ⟨rfl, hd_934340dd⟩ ⟨(Nat.le_of_ble_eq_true rfl), (Nat.le_of_ble_eq_true rfl)⟩ hE hP hD hS [1] rfl (by decide) rfl rfl rfl hl.1 rfl (Nat.le_of_ble_eq_true rfl) d_Tree_wipe_13 ⟨(Nat.le_of_ble_eq_true rfl), (Nat.le_of_ble_eq_true rfl)⟩) (fun uu3 H locs hw hP hD hS => ?_)
  have hP : va_P G.1 kb_cl [kb_o h 2 [.ref r0, .ref r1, .ref r2, .ref r3, .ref r4, .ref r5, .ref r6, .ref r7, .ref r8, .ref r9, .ref r10, .ref r11, .int L, .int P], kb_o r2 1 [.ref a2, .int 1], kb_o r3 1 [.ref a3, .int 1], kb_o r4 1 [.ref a4, .int 1], kb_o r5 1 [.ref a5, .int 1], kb_o r6 1 [.ref a6, .int 1], kb_o r7 1 [.ref a7, .int 0], kb_o r8 1 [.ref a8, .int 0], kb_o r9 1 [.ref a9, .int 0], kb_o r10 1 [.ref a10, .int 0], kb_o r11 1 [.ref a11, .int 0], kb_a G a1 16 f1, kb_a G a2 16 f2, kb_a G a3 16 f3, kb_a G a4 16 f4, kb_a G a5 16 f5, kb_a G a6 16 f6, kb_o r0 1 [.ref a0, .int 0], kb_o r1 1 [.ref a1, .int 0]] H := hP
  have hD : va_D A [kb_o h 2 [.ref r0, .ref r1, .ref r2, .ref r3, .ref r4, .ref r5, .ref r6, .ref r7, .ref r8, .ref r9, .ref r10, .ref r11, .int L, .int P], kb_o r2 1 [.ref a2, .int 1], kb_o r3 1 [.ref a3, .int 1], kb_o r4 1 [.ref a4, .int 1], kb_o r5 1 [.ref a5, .int 1], kb_o r6 1 [.ref a6, .int 1], kb_o r7 1 [.ref a7, .int 0], kb_o r8 1 [.ref a8, .int 0], kb_o r9 1 [.ref a9, .int 0], kb_o r10 1 [.ref a10, .int 0], kb_o r11 1 [.ref a11, .int 0], kb_a G a1 16 f1, kb_a G a2 16 f2, kb_a G a3 16 f3, kb_a G a4 16 f4, kb_a G a5 16 f5, kb_a G a6 16 f6, kb_o r0 1 [.ref a0, .int 0], kb_o r1 1 [.ref a1, .int 0]] := hD
  refine lv_aload_n hx hb d_Tree_wipe_16 rfl (lv_at hl 0 rfl) ?_
  refine va_get (D := G.1) (ci := 2) (v := .ref r2) (C := "TreePress$Tree") (T := kb_F2) (N := 14) hx hb ht kb_w2 hown hE.1 hP 0 rfl rfl 2 (by decide) (ht _ wd_6fe818ee) (fun _ h9 => h9) rfl d_Tree_wipe_17 ?_
  refine lv_iconst (v := 0) hx hb d_Tree_wipe_20 (by decide) ?_
  refine kb_v (wc := [kb_o r2 1 [.ref a2, .int 1]]) (wr := [kb_o h 2 [.ref r0, .ref r1, .ref r2, .ref r3, .ref r4, .ref r5, .ref r6, .ref r7, .ref r8, .ref r9, .ref r10, .ref r11, .int L, .int P], kb_o r3 1 [.ref a3, .int 1], kb_o r4 1 [.ref a4, .int 1], kb_o r5 1 [.ref a5, .int 1], kb_o r6 1 [.ref a6, .int 1], kb_o r7 1 [.ref a7, .int 0], kb_o r8 1 [.ref a8, .int 0], kb_o r9 1 [.ref a9, .int 0], kb_o r10 1 [.ref a10, .int 0], kb_o r11 1 [.ref a11, .int 0], kb_a G a1 16 f1, kb_a G a2 16 f2, kb_a G a3 16 f3, kb_a G a4 16 f4, kb_a G a5 16 f5, kb_a G a6 16 f6, kb_o r0 1 [.ref a0, .int 0], kb_o r1 1 [.ref a1, .int 0]]) hE hP hD hS [1] [0, 2, 3, 4, 5, 6, 7, 8, 9, 10, 11, 12, 13, 14, 15, 16, 17, 18] rfl rfl (by decide) (by decide) (kb_rV (As := [.int 0]) (rest := []) (wc := [kb_o r2 1 [.ref a2, .int 1]]) (q0 := 0) ⟨hx, hb, hml, hown, ht⟩ ((c_Row_cut1 l G r2 a2) _) (kb_gV wd_8899cd27 wd_a30f3437 wd_8c6818e9 wd_4182e433 wd_86891071) ⟨rfl, hd_934340dd⟩ ⟨(Nat.le_of_ble_eq_true rfl), (Nat.le_of_ble_eq_true rfl)⟩ hE hP hD hS [1] rfl (by decide) rfl rfl rfl hl.1 rfl (Nat.le_of_ble_eq_true rfl) d_Tree_wipe_21 ⟨(Nat.le_of_ble_eq_true rfl), (Nat.le_of_ble_eq_true rfl)⟩) (fun uu5 H locs hw hP hD hS => ?_)
  have hP : va_P G.1 kb_cl [kb_o h 2 [.ref r0, .ref r1, .ref r2, .ref r3, .ref r4, .ref r5, .ref r6, .ref r7, .ref r8, .ref r9, .ref r10, .ref r11, .int L, .int P], kb_o r3 1 [.ref a3, .int 1], kb_o r4 1 [.ref a4, .int 1], kb_o r5 1 [.ref a5, .int 1], kb_o r6 1 [.ref a6, .int 1], kb_o r7 1 [.ref a7, .int 0], kb_o r8 1 [.ref a8, .int 0], kb_o r9 1 [.ref a9, .int 0], kb_o r10 1 [.ref a10, .int 0], kb_o r11 1 [.ref a11, .int 0], kb_a G a1 16 f1, kb_a G a2 16 f2, kb_a G a3 16 f3, kb_a G a4 16 f4, kb_a G a5 16 f5, kb_a G a6 16 f6, kb_o r0 1 [.ref a0, .int 0], kb_o r1 1 [.ref a1, .int 0], kb_o r2 1 [.ref a2, .int 0]] H := hP
  have hD : va_D A [kb_o h 2 [.ref r0, .ref r1, .ref r2, .ref r3, .ref r4, .ref r5, .ref r6, .ref r7, .ref r8, .ref r9, .ref r10, .ref r11, .int L, .int P], kb_o r3 1 [.ref a3, .int 1], kb_o r4 1 [.ref a4, .int 1], kb_o r5 1 [.ref a5, .int 1], kb_o r6 1 [.ref a6, .int 1], kb_o r7 1 [.ref a7, .int 0], kb_o r8 1 [.ref a8, .int 0], kb_o r9 1 [.ref a9, .int 0], kb_o r10 1 [.ref a10, .int 0], kb_o r11 1 [.ref a11, .int 0], kb_a G a1 16 f1, kb_a G a2 16 f2, kb_a G a3 16 f3, kb_a G a4 16 f4, kb_a G a5 16 f5, kb_a G a6 16 f6, kb_o r0 1 [.ref a0, .int 0], kb_o r1 1 [.ref a1, .int 0], kb_o r2 1 [.ref a2, .int 0]] := hD
  refine lv_aload_n hx hb d_Tree_wipe_24 rfl (lv_at hl 0 rfl) ?_
  refine va_get (D := G.1) (ci := 2) (v := .ref r3) (C := "TreePress$Tree") (T := kb_F2) (N := 14) hx hb ht kb_w2 hown hE.1 hP 0 rfl rfl 3 (by decide) (ht _ wd_ae352740) (fun _ h9 => h9) rfl d_Tree_wipe_25 ?_
  refine lv_iconst (v := 0) hx hb d_Tree_wipe_28 (by decide) ?_
  refine kb_v (wc := [kb_o r3 1 [.ref a3, .int 1]]) (wr := [kb_o h 2 [.ref r0, .ref r1, .ref r2, .ref r3, .ref r4, .ref r5, .ref r6, .ref r7, .ref r8, .ref r9, .ref r10, .ref r11, .int L, .int P], kb_o r4 1 [.ref a4, .int 1], kb_o r5 1 [.ref a5, .int 1], kb_o r6 1 [.ref a6, .int 1], kb_o r7 1 [.ref a7, .int 0], kb_o r8 1 [.ref a8, .int 0], kb_o r9 1 [.ref a9, .int 0], kb_o r10 1 [.ref a10, .int 0], kb_o r11 1 [.ref a11, .int 0], kb_a G a1 16 f1, kb_a G a2 16 f2, kb_a G a3 16 f3, kb_a G a4 16 f4, kb_a G a5 16 f5, kb_a G a6 16 f6, kb_o r0 1 [.ref a0, .int 0], kb_o r1 1 [.ref a1, .int 0], kb_o r2 1 [.ref a2, .int 0]]) hE hP hD hS [1] [0, 2, 3, 4, 5, 6, 7, 8, 9, 10, 11, 12, 13, 14, 15, 16, 17, 18] rfl rfl (by decide) (by decide) (kb_rV (As := [.int 0]) (rest := []) (wc := [kb_o r3 1 [.ref a3, .int 1]]) (q0 := 0) ⟨hx, hb, hml, hown, ht⟩ ((c_Row_cut1 l G r3 a3) _) (kb_gV wd_8899cd27 wd_a30f3437 wd_8c6818e9 wd_4182e433 wd_86891071) ⟨rfl, hd_934340dd⟩ ⟨(Nat.le_of_ble_eq_true rfl), (Nat.le_of_ble_eq_true rfl)⟩ hE hP hD hS [1] rfl (by decide) rfl rfl rfl hl.1 rfl (Nat.le_of_ble_eq_true rfl) d_Tree_wipe_29 ⟨(Nat.le_of_ble_eq_true rfl), (Nat.le_of_ble_eq_true rfl)⟩) (fun uu7 H locs hw hP hD hS => ?_)
  have hP : va_P G.1 kb_cl [kb_o h 2 [.ref r0, .ref r1, .ref r2, .ref r3, .ref r4, .ref r5, .ref r6, .ref r7, .ref r8, .ref r9, .ref r10, .ref r11, .int L, .int P], kb_o r4 1 [.ref a4, .int 1], kb_o r5 1 [.ref a5, .int 1], kb_o r6 1 [.ref a6, .int 1], kb_o r7 1 [.ref a7, .int 0], kb_o r8 1 [.ref a8, .int 0], kb_o r9 1 [.ref a9, .int 0], kb_o r10 1 [.ref a10, .int 0], kb_o r11 1 [.ref a11, .int 0], kb_a G a1 16 f1, kb_a G a2 16 f2, kb_a G a3 16 f3, kb_a G a4 16 f4, kb_a G a5 16 f5, kb_a G a6 16 f6, kb_o r0 1 [.ref a0, .int 0], kb_o r1 1 [.ref a1, .int 0], kb_o r2 1 [.ref a2, .int 0], kb_o r3 1 [.ref a3, .int 0]] H := hP
  have hD : va_D A [kb_o h 2 [.ref r0, .ref r1, .ref r2, .ref r3, .ref r4, .ref r5, .ref r6, .ref r7, .ref r8, .ref r9, .ref r10, .ref r11, .int L, .int P], kb_o r4 1 [.ref a4, .int 1], kb_o r5 1 [.ref a5, .int 1], kb_o r6 1 [.ref a6, .int 1], kb_o r7 1 [.ref a7, .int 0], kb_o r8 1 [.ref a8, .int 0], kb_o r9 1 [.ref a9, .int 0], kb_o r10 1 [.ref a10, .int 0], kb_o r11 1 [.ref a11, .int 0], kb_a G a1 16 f1, kb_a G a2 16 f2, kb_a G a3 16 f3, kb_a G a4 16 f4, kb_a G a5 16 f5, kb_a G a6 16 f6, kb_o r0 1 [.ref a0, .int 0], kb_o r1 1 [.ref a1, .int 0], kb_o r2 1 [.ref a2, .int 0], kb_o r3 1 [.ref a3, .int 0]] := hD
  refine lv_aload_n hx hb d_Tree_wipe_32 rfl (lv_at hl 0 rfl) ?_
  refine va_get (D := G.1) (ci := 2) (v := .ref r4) (C := "TreePress$Tree") (T := kb_F2) (N := 14) hx hb ht kb_w2 hown hE.1 hP 0 rfl rfl 4 (by decide) (ht _ wd_8b978912) (fun _ h9 => h9) rfl d_Tree_wipe_33 ?_
  refine lv_iconst (v := 0) hx hb d_Tree_wipe_36 (by decide) ?_
  refine kb_v (wc := [kb_o r4 1 [.ref a4, .int 1]]) (wr := [kb_o h 2 [.ref r0, .ref r1, .ref r2, .ref r3, .ref r4, .ref r5, .ref r6, .ref r7, .ref r8, .ref r9, .ref r10, .ref r11, .int L, .int P], kb_o r5 1 [.ref a5, .int 1], kb_o r6 1 [.ref a6, .int 1], kb_o r7 1 [.ref a7, .int 0], kb_o r8 1 [.ref a8, .int 0], kb_o r9 1 [.ref a9, .int 0], kb_o r10 1 [.ref a10, .int 0], kb_o r11 1 [.ref a11, .int 0], kb_a G a1 16 f1, kb_a G a2 16 f2, kb_a G a3 16 f3, kb_a G a4 16 f4, kb_a G a5 16 f5, kb_a G a6 16 f6, kb_o r0 1 [.ref a0, .int 0], kb_o r1 1 [.ref a1, .int 0], kb_o r2 1 [.ref a2, .int 0], kb_o r3 1 [.ref a3, .int 0]]) hE hP hD hS [1] [0, 2, 3, 4, 5, 6, 7, 8, 9, 10, 11, 12, 13, 14, 15, 16, 17, 18] rfl rfl (by decide) (by decide) (kb_rV (As := [.int 0]) (rest := []) (wc := [kb_o r4 1 [.ref a4, .int 1]]) (q0 := 0) ⟨hx, hb, hml, hown, ht⟩ ((c_Row_cut1 l G r4 a4) _) (kb_gV wd_8899cd27 wd_a30f3437 wd_8c6818e9 wd_4182e433 wd_86891071) ⟨rfl, hd_934340dd⟩ ⟨(Nat.le_of_ble_eq_true rfl), (Nat.le_of_ble_eq_true rfl)⟩ hE hP hD hS [1] rfl (by decide) rfl rfl rfl hl.1 rfl (Nat.le_of_ble_eq_true rfl) d_Tree_wipe_37 ⟨(Nat.le_of_ble_eq_true rfl), (Nat.le_of_ble_eq_true rfl)⟩) (fun uu9 H locs hw hP hD hS => ?_)
  have hP : va_P G.1 kb_cl [kb_o h 2 [.ref r0, .ref r1, .ref r2, .ref r3, .ref r4, .ref r5, .ref r6, .ref r7, .ref r8, .ref r9, .ref r10, .ref r11, .int L, .int P], kb_o r5 1 [.ref a5, .int 1], kb_o r6 1 [.ref a6, .int 1], kb_o r7 1 [.ref a7, .int 0], kb_o r8 1 [.ref a8, .int 0], kb_o r9 1 [.ref a9, .int 0], kb_o r10 1 [.ref a10, .int 0], kb_o r11 1 [.ref a11, .int 0], kb_a G a1 16 f1, kb_a G a2 16 f2, kb_a G a3 16 f3, kb_a G a4 16 f4, kb_a G a5 16 f5, kb_a G a6 16 f6, kb_o r0 1 [.ref a0, .int 0], kb_o r1 1 [.ref a1, .int 0], kb_o r2 1 [.ref a2, .int 0], kb_o r3 1 [.ref a3, .int 0], kb_o r4 1 [.ref a4, .int 0]] H := hP
  have hD : va_D A [kb_o h 2 [.ref r0, .ref r1, .ref r2, .ref r3, .ref r4, .ref r5, .ref r6, .ref r7, .ref r8, .ref r9, .ref r10, .ref r11, .int L, .int P], kb_o r5 1 [.ref a5, .int 1], kb_o r6 1 [.ref a6, .int 1], kb_o r7 1 [.ref a7, .int 0], kb_o r8 1 [.ref a8, .int 0], kb_o r9 1 [.ref a9, .int 0], kb_o r10 1 [.ref a10, .int 0], kb_o r11 1 [.ref a11, .int 0], kb_a G a1 16 f1, kb_a G a2 16 f2, kb_a G a3 16 f3, kb_a G a4 16 f4, kb_a G a5 16 f5, kb_a G a6 16 f6, kb_o r0 1 [.ref a0, .int 0], kb_o r1 1 [.ref a1, .int 0], kb_o r2 1 [.ref a2, .int 0], kb_o r3 1 [.ref a3, .int 0], kb_o r4 1 [.ref a4, .int 0]] := hD
  refine lv_aload_n hx hb d_Tree_wipe_40 rfl (lv_at hl 0 rfl) ?_
  refine va_get (D := G.1) (ci := 2) (v := .ref r5) (C := "TreePress$Tree") (T := kb_F2) (N := 14) hx hb ht kb_w2 hown hE.1 hP 0 rfl rfl 5 (by decide) (ht _ wd_5a2dade9) (fun _ h9 => h9) rfl d_Tree_wipe_41 ?_
  refine lv_iconst (v := 0) hx hb d_Tree_wipe_44 (by decide) ?_
  refine kb_v (wc := [kb_o r5 1 [.ref a5, .int 1]]) (wr := [kb_o h 2 [.ref r0, .ref r1, .ref r2, .ref r3, .ref r4, .ref r5, .ref r6, .ref r7, .ref r8, .ref r9, .ref r10, .ref r11, .int L, .int P], kb_o r6 1 [.ref a6, .int 1], kb_o r7 1 [.ref a7, .int 0], kb_o r8 1 [.ref a8, .int 0], kb_o r9 1 [.ref a9, .int 0], kb_o r10 1 [.ref a10, .int 0], kb_o r11 1 [.ref a11, .int 0], kb_a G a1 16 f1, kb_a G a2 16 f2, kb_a G a3 16 f3, kb_a G a4 16 f4, kb_a G a5 16 f5, kb_a G a6 16 f6, kb_o r0 1 [.ref a0, .int 0], kb_o r1 1 [.ref a1, .int 0], kb_o r2 1 [.ref a2, .int 0], kb_o r3 1 [.ref a3, .int 0], kb_o r4 1 [.ref a4, .int 0]]) hE hP hD hS [1] [0, 2, 3, 4, 5, 6, 7, 8, 9, 10, 11, 12, 13, 14, 15, 16, 17, 18] rfl rfl (by decide) (by decide) (kb_rV (As := [.int 0]) (rest := []) (wc := [kb_o r5 1 [.ref a5, .int 1]]) (q0 := 0) ⟨hx, hb, hml, hown, ht⟩ ((c_Row_cut1 l G r5 a5) _) (kb_gV wd_8899cd27 wd_a30f3437 wd_8c6818e9 wd_4182e433 wd_86891071) ⟨rfl, hd_934340dd⟩ ⟨(Nat.le_of_ble_eq_true rfl), (Nat.le_of_ble_eq_true rfl)⟩ hE hP hD hS [1] rfl (by decide) rfl rfl rfl hl.1 rfl (Nat.le_of_ble_eq_true rfl) d_Tree_wipe_45 ⟨(Nat.le_of_ble_eq_true rfl), (Nat.le_of_ble_eq_true rfl)⟩) (fun uu11 H locs hw hP hD hS => ?_)
  have hP : va_P G.1 kb_cl [kb_o h 2 [.ref r0, .ref r1, .ref r2, .ref r3, .ref r4, .ref r5, .ref r6, .ref r7, .ref r8, .ref r9, .ref r10, .ref r11, .int L, .int P], kb_o r6 1 [.ref a6, .int 1], kb_o r7 1 [.ref a7, .int 0], kb_o r8 1 [.ref a8, .int 0], kb_o r9 1 [.ref a9, .int 0], kb_o r10 1 [.ref a10, .int 0], kb_o r11 1 [.ref a11, .int 0], kb_a G a1 16 f1, kb_a G a2 16 f2, kb_a G a3 16 f3, kb_a G a4 16 f4, kb_a G a5 16 f5, kb_a G a6 16 f6, kb_o r0 1 [.ref a0, .int 0], kb_o r1 1 [.ref a1, .int 0], kb_o r2 1 [.ref a2, .int 0], kb_o r3 1 [.ref a3, .int 0], kb_o r4 1 [.ref a4, .int 0], kb_o r5 1 [.ref a5, .int 0]] H := hP
  have hD : va_D A [kb_o h 2 [.ref r0, .ref r1, .ref r2, .ref r3, .ref r4, .ref r5, .ref r6, .ref r7, .ref r8, .ref r9, .ref r10, .ref r11, .int L, .int P], kb_o r6 1 [.ref a6, .int 1], kb_o r7 1 [.ref a7, .int 0], kb_o r8 1 [.ref a8, .int 0], kb_o r9 1 [.ref a9, .int 0], kb_o r10 1 [.ref a10, .int 0], kb_o r11 1 [.ref a11, .int 0], kb_a G a1 16 f1, kb_a G a2 16 f2, kb_a G a3 16 f3, kb_a G a4 16 f4, kb_a G a5 16 f5, kb_a G a6 16 f6, kb_o r0 1 [.ref a0, .int 0], kb_o r1 1 [.ref a1, .int 0], kb_o r2 1 [.ref a2, .int 0], kb_o r3 1 [.ref a3, .int 0], kb_o r4 1 [.ref a4, .int 0], kb_o r5 1 [.ref a5, .int 0]] := hD
  refine lv_aload_n hx hb d_Tree_wipe_48 rfl (lv_at hl 0 rfl) ?_
  refine va_get (D := G.1) (ci := 2) (v := .ref r6) (C := "TreePress$Tree") (T := kb_F2) (N := 14) hx hb ht kb_w2 hown hE.1 hP 0 rfl rfl 6 (by decide) (ht _ wd_a1ee67c2) (fun _ h9 => h9) rfl d_Tree_wipe_49 ?_
  refine lv_iconst (v := 0) hx hb d_Tree_wipe_52 (by decide) ?_
  refine kb_v (wc := [kb_o r6 1 [.ref a6, .int 1]]) (wr := [kb_o h 2 [.ref r0, .ref r1, .ref r2, .ref r3, .ref r4, .ref r5, .ref r6, .ref r7, .ref r8, .ref r9, .ref r10, .ref r11, .int L, .int P], kb_o r7 1 [.ref a7, .int 0], kb_o r8 1 [.ref a8, .int 0], kb_o r9 1 [.ref a9, .int 0], kb_o r10 1 [.ref a10, .int 0], kb_o r11 1 [.ref a11, .int 0], kb_a G a1 16 f1, kb_a G a2 16 f2, kb_a G a3 16 f3, kb_a G a4 16 f4, kb_a G a5 16 f5, kb_a G a6 16 f6, kb_o r0 1 [.ref a0, .int 0], kb_o r1 1 [.ref a1, .int 0], kb_o r2 1 [.ref a2, .int 0], kb_o r3 1 [.ref a3, .int 0], kb_o r4 1 [.ref a4, .int 0], kb_o r5 1 [.ref a5, .int 0]]) hE hP hD hS [1] [0, 2, 3, 4, 5, 6, 7, 8, 9, 10, 11, 12, 13, 14, 15, 16, 17, 18] rfl rfl (by decide) (by decide) (kb_rV (As := [.int 0]) (rest := []) (wc := [kb_o r6 1 [.ref a6, .int 1]]) (q0 := 0) ⟨hx, hb, hml, hown, ht⟩ ((c_Row_cut1 l G r6 a6) _) (kb_gV wd_8899cd27 wd_a30f3437 wd_8c6818e9 wd_4182e433 wd_86891071) ⟨rfl, hd_934340dd⟩ ⟨(Nat.le_of_ble_eq_true rfl), (Nat.le_of_ble_eq_true rfl)⟩ hE hP hD hS [1] rfl (by decide) rfl rfl rfl hl.1 rfl (Nat.le_of_ble_eq_true rfl) d_Tree_wipe_53 ⟨(Nat.le_of_ble_eq_true rfl), (Nat.le_of_ble_eq_true rfl)⟩) (fun uu13 H locs hw hP hD hS => ?_)
  have hP : va_P G.1 kb_cl [kb_o h 2 [.ref r0, .ref r1, .ref r2, .ref r3, .ref r4, .ref r5, .ref r6, .ref r7, .ref r8, .ref r9, .ref r10, .ref r11, .int L, .int P], kb_o r7 1 [.ref a7, .int 0], kb_o r8 1 [.ref a8, .int 0], kb_o r9 1 [.ref a9, .int 0], kb_o r10 1 [.ref a10, .int 0], kb_o r11 1 [.ref a11, .int 0], kb_a G a1 16 f1, kb_a G a2 16 f2, kb_a G a3 16 f3, kb_a G a4 16 f4, kb_a G a5 16 f5, kb_a G a6 16 f6, kb_o r0 1 [.ref a0, .int 0], kb_o r1 1 [.ref a1, .int 0], kb_o r2 1 [.ref a2, .int 0], kb_o r3 1 [.ref a3, .int 0], kb_o r4 1 [.ref a4, .int 0], kb_o r5 1 [.ref a5, .int 0], kb_o r6 1 [.ref a6, .int 0]] H := hP
  have hD : va_D A [kb_o h 2 [.ref r0, .ref r1, .ref r2, .ref r3, .ref r4, .ref r5, .ref r6, .ref r7, .ref r8, .ref r9, .ref r10, .ref r11, .int L, .int P], kb_o r7 1 [.ref a7, .int 0], kb_o r8 1 [.ref a8, .int 0], kb_o r9 1 [.ref a9, .int 0], kb_o r10 1 [.ref a10, .int 0], kb_o r11 1 [.ref a11, .int 0], kb_a G a1 16 f1, kb_a G a2 16 f2, kb_a G a3 16 f3, kb_a G a4 16 f4, kb_a G a5 16 f5, kb_a G a6 16 f6, kb_o r0 1 [.ref a0, .int 0], kb_o r1 1 [.ref a1, .int 0], kb_o r2 1 [.ref a2, .int 0], kb_o r3 1 [.ref a3, .int 0], kb_o r4 1 [.ref a4, .int 0], kb_o r5 1 [.ref a5, .int 0], kb_o r6 1 [.ref a6, .int 0]] := hD
  refine lv_aload_n hx hb d_Tree_wipe_56 rfl (lv_at hl 0 rfl) ?_
  refine va_get (D := G.1) (ci := 2) (v := .ref r7) (C := "TreePress$Tree") (T := kb_F2) (N := 14) hx hb ht kb_w2 hown hE.1 hP 0 rfl rfl 7 (by decide) (ht _ wd_99a1932c) (fun _ h9 => h9) rfl d_Tree_wipe_57 ?_
  refine lv_iconst (v := 0) hx hb d_Tree_wipe_60 (by decide) ?_
  refine kb_v (wc := [kb_o r7 1 [.ref a7, .int 0]]) (wr := [kb_o h 2 [.ref r0, .ref r1, .ref r2, .ref r3, .ref r4, .ref r5, .ref r6, .ref r7, .ref r8, .ref r9, .ref r10, .ref r11, .int L, .int P], kb_o r8 1 [.ref a8, .int 0], kb_o r9 1 [.ref a9, .int 0], kb_o r10 1 [.ref a10, .int 0], kb_o r11 1 [.ref a11, .int 0], kb_a G a1 16 f1, kb_a G a2 16 f2, kb_a G a3 16 f3, kb_a G a4 16 f4, kb_a G a5 16 f5, kb_a G a6 16 f6, kb_o r0 1 [.ref a0, .int 0], kb_o r1 1 [.ref a1, .int 0], kb_o r2 1 [.ref a2, .int 0], kb_o r3 1 [.ref a3, .int 0], kb_o r4 1 [.ref a4, .int 0], kb_o r5 1 [.ref a5, .int 0], kb_o r6 1 [.ref a6, .int 0]]) hE hP hD hS [1] [0, 2, 3, 4, 5, 6, 7, 8, 9, 10, 11, 12, 13, 14, 15, 16, 17, 18] rfl rfl (by decide) (by decide) (kb_rV (As := [.int 0]) (rest := []) (wc := [kb_o r7 1 [.ref a7, .int 0]]) (q0 := 0) ⟨hx, hb, hml, hown, ht⟩ ((c_Row_cut0 l G r7 a7) _) (kb_gV wd_8899cd27 wd_a30f3437 wd_8c6818e9 wd_4182e433 wd_86891071) ⟨rfl, hd_934340dd⟩ ⟨(Nat.le_of_ble_eq_true rfl), (Nat.le_of_ble_eq_true rfl)⟩ hE hP hD hS [1] rfl (by decide) rfl rfl rfl hl.1 rfl (Nat.le_of_ble_eq_true rfl) d_Tree_wipe_61 ⟨(Nat.le_of_ble_eq_true rfl), (Nat.le_of_ble_eq_true rfl)⟩) (fun uu15 H locs hw hP hD hS => ?_)
  have hP : va_P G.1 kb_cl [kb_o h 2 [.ref r0, .ref r1, .ref r2, .ref r3, .ref r4, .ref r5, .ref r6, .ref r7, .ref r8, .ref r9, .ref r10, .ref r11, .int L, .int P], kb_o r8 1 [.ref a8, .int 0], kb_o r9 1 [.ref a9, .int 0], kb_o r10 1 [.ref a10, .int 0], kb_o r11 1 [.ref a11, .int 0], kb_a G a1 16 f1, kb_a G a2 16 f2, kb_a G a3 16 f3, kb_a G a4 16 f4, kb_a G a5 16 f5, kb_a G a6 16 f6, kb_o r0 1 [.ref a0, .int 0], kb_o r1 1 [.ref a1, .int 0], kb_o r2 1 [.ref a2, .int 0], kb_o r3 1 [.ref a3, .int 0], kb_o r4 1 [.ref a4, .int 0], kb_o r5 1 [.ref a5, .int 0], kb_o r6 1 [.ref a6, .int 0], kb_o r7 1 [.ref a7, .int 0]] H := hP
  have hD : va_D A [kb_o h 2 [.ref r0, .ref r1, .ref r2, .ref r3, .ref r4, .ref r5, .ref r6, .ref r7, .ref r8, .ref r9, .ref r10, .ref r11, .int L, .int P], kb_o r8 1 [.ref a8, .int 0], kb_o r9 1 [.ref a9, .int 0], kb_o r10 1 [.ref a10, .int 0], kb_o r11 1 [.ref a11, .int 0], kb_a G a1 16 f1, kb_a G a2 16 f2, kb_a G a3 16 f3, kb_a G a4 16 f4, kb_a G a5 16 f5, kb_a G a6 16 f6, kb_o r0 1 [.ref a0, .int 0], kb_o r1 1 [.ref a1, .int 0], kb_o r2 1 [.ref a2, .int 0], kb_o r3 1 [.ref a3, .int 0], kb_o r4 1 [.ref a4, .int 0], kb_o r5 1 [.ref a5, .int 0], kb_o r6 1 [.ref a6, .int 0], kb_o r7 1 [.ref a7, .int 0]] := hD
  refine lv_aload_n hx hb d_Tree_wipe_64 rfl (lv_at hl 0 rfl) ?_
  refine va_get (D := G.1) (ci := 2) (v := .ref r8) (C := "TreePress$Tree") (T := kb_F2) (N := 14) hx hb ht kb_w2 hown hE.1 hP 0 rfl rfl 8 (by decide) (ht _ wd_341ee72b) (fun _ h9 => h9) rfl d_Tree_wipe_65 ?_
  refine lv_iconst (v := 0) hx hb d_Tree_wipe_68 (by decide) ?_
  refine kb_v (wc := [kb_o r8 1 [.ref a8, .int 0]]) (wr := [kb_o h 2 [.ref r0, .ref r1, .ref r2, .ref r3, .ref r4, .ref r5, .ref r6, .ref r7, .ref r8, .ref r9, .ref r10, .ref r11, .int L, .int P], kb_o r9 1 [.ref a9, .int 0], kb_o r10 1 [.ref a10, .int 0], kb_o r11 1 [.ref a11, .int 0], kb_a G a1 16 f1, kb_a G a2 16 f2, kb_a G a3 16 f3, kb_a G a4 16 f4, kb_a G a5 16 f5, kb_a G a6 16 f6, kb_o r0 1 [.ref a0, .int 0], kb_o r1 1 [.ref a1, .int 0], kb_o r2 1 [.ref a2, .int 0], kb_o r3 1 [.ref a3, .int 0], kb_o r4 1 [.ref a4, .int 0], kb_o r5 1 [.ref a5, .int 0], kb_o r6 1 [.ref a6, .int 0], kb_o r7 1 [.ref a7, .int 0]]) hE hP hD hS [1] [0, 2, 3, 4, 5, 6, 7, 8, 9, 10, 11, 12, 13, 14, 15, 16, 17, 18] rfl rfl (by decide) (by decide) (kb_rV (As := [.int 0]) (rest := []) (wc := [kb_o r8 1 [.ref a8, .int 0]]) (q0 := 0) ⟨hx, hb, hml, hown, ht⟩ ((c_Row_cut0 l G r8 a8) _) (kb_gV wd_8899cd27 wd_a30f3437 wd_8c6818e9 wd_4182e433 wd_86891071) ⟨rfl, hd_934340dd⟩ ⟨(Nat.le_of_ble_eq_true rfl), (Nat.le_of_ble_eq_true rfl)⟩ hE hP hD hS [1] rfl (by decide) rfl rfl rfl hl.1 rfl (Nat.le_of_ble_eq_true rfl) d_Tree_wipe_69 ⟨(Nat.le_of_ble_eq_true rfl), (Nat.le_of_ble_eq_true rfl)⟩) (fun uu17 H locs hw hP hD hS => ?_)
  have hP : va_P G.1 kb_cl [kb_o h 2 [.ref r0, .ref r1, .ref r2, .ref r3, .ref r4, .ref r5, .ref r6, .ref r7, .ref r8, .ref r9, .ref r10, .ref r11, .int L, .int P], kb_o r9 1 [.ref a9, .int 0], kb_o r10 1 [.ref a10, .int 0], kb_o r11 1 [.ref a11, .int 0], kb_a G a1 16 f1, kb_a G a2 16 f2, kb_a G a3 16 f3, kb_a G a4 16 f4, kb_a G a5 16 f5, kb_a G a6 16 f6, kb_o r0 1 [.ref a0, .int 0], kb_o r1 1 [.ref a1, .int 0], kb_o r2 1 [.ref a2, .int 0], kb_o r3 1 [.ref a3, .int 0], kb_o r4 1 [.ref a4, .int 0], kb_o r5 1 [.ref a5, .int 0], kb_o r6 1 [.ref a6, .int 0], kb_o r7 1 [.ref a7, .int 0], kb_o r8 1 [.ref a8, .int 0]] H := hP
  have hD : va_D A [kb_o h 2 [.ref r0, .ref r1, .ref r2, .ref r3, .ref r4, .ref r5, .ref r6, .ref r7, .ref r8, .ref r9, .ref r10, .ref r11, .int L, .int P], kb_o r9 1 [.ref a9, .int 0], kb_o r10 1 [.ref a10, .int 0], kb_o r11 1 [.ref a11, .int 0], kb_a G a1 16 f1, kb_a G a2 16 f2, kb_a G a3 16 f3, kb_a G a4 16 f4, kb_a G a5 16 f5, kb_a G a6 16 f6, kb_o r0 1 [.ref a0, .int 0], kb_o r1 1 [.ref a1, .int 0], kb_o r2 1 [.ref a2, .int 0], kb_o r3 1 [.ref a3, .int 0], kb_o r4 1 [.ref a4, .int 0], kb_o r5 1 [.ref a5, .int 0], kb_o r6 1 [.ref a6, .int 0], kb_o r7 1 [.ref a7, .int 0], kb_o r8 1 [.ref a8, .int 0]] := hD
  refine lv_aload_n hx hb d_Tree_wipe_72 rfl (lv_at hl 0 rfl) ?_
  refine va_get (D := G.1) (ci := 2) (v := .ref r9) (C := "TreePress$Tree") (T := kb_F2) (N := 14) hx hb ht kb_w2 hown hE.1 hP 0 rfl rfl 9 (by decide) (ht _ wd_20c6a963) (fun _ h9 => h9) rfl d_Tree_wipe_73 ?_
  refine lv_iconst (v := 0) hx hb d_Tree_wipe_76 (by decide) ?_
  refine kb_v (wc := [kb_o r9 1 [.ref a9, .int 0]]) (wr := [kb_o h 2 [.ref r0, .ref r1, .ref r2, .ref r3, .ref r4, .ref r5, .ref r6, .ref r7, .ref r8, .ref r9, .ref r10, .ref r11, .int L, .int P], kb_o r10 1 [.ref a10, .int 0], kb_o r11 1 [.ref a11, .int 0], kb_a G a1 16 f1, kb_a G a2 16 f2, kb_a G a3 16 f3, kb_a G a4 16 f4, kb_a G a5 16 f5, kb_a G a6 16 f6, kb_o r0 1 [.ref a0, .int 0], kb_o r1 1 [.ref a1, .int 0], kb_o r2 1 [.ref a2, .int 0], kb_o r3 1 [.ref a3, .int 0], kb_o r4 1 [.ref a4, .int 0], kb_o r5 1 [.ref a5, .int 0], kb_o r6 1 [.ref a6, .int 0], kb_o r7 1 [.ref a7, .int 0], kb_o r8 1 [.ref a8, .int 0]]) hE hP hD hS [1] [0, 2, 3, 4, 5, 6, 7, 8, 9, 10, 11, 12, 13, 14, 15, 16, 17, 18] rfl rfl (by decide) (by decide) (kb_rV (As := [.int 0]) (rest := []) (wc := [kb_o r9 1 [.ref a9, .int 0]]) (q0 := 0) ⟨hx, hb, hml, hown, ht⟩ ((c_Row_cut0 l G r9 a9) _) (kb_gV wd_8899cd27 wd_a30f3437 wd_8c6818e9 wd_4182e433 wd_86891071) ⟨rfl, hd_934340dd⟩ ⟨(Nat.le_of_ble_eq_true rfl), (Nat.le_of_ble_eq_true rfl)⟩ hE hP hD hS [1] rfl (by decide) rfl rfl rfl hl.1 rfl (Nat.le_of_ble_eq_true rfl) d_Tree_wipe_77 ⟨(Nat.le_of_ble_eq_true rfl), (Nat.le_of_ble_eq_true rfl)⟩) (fun uu19 H locs hw hP hD hS => ?_)
  have hP : va_P G.1 kb_cl [kb_o h 2 [.ref r0, .ref r1, .ref r2, .ref r3, .ref r4, .ref r5, .ref r6, .ref r7, .ref r8, .ref r9, .ref r10, .ref r11, .int L, .int P], kb_o r10 1 [.ref a10, .int 0], kb_o r11 1 [.ref a11, .int 0], kb_a G a1 16 f1, kb_a G a2 16 f2, kb_a G a3 16 f3, kb_a G a4 16 f4, kb_a G a5 16 f5, kb_a G a6 16 f6, kb_o r0 1 [.ref a0, .int 0], kb_o r1 1 [.ref a1, .int 0], kb_o r2 1 [.ref a2, .int 0], kb_o r3 1 [.ref a3, .int 0], kb_o r4 1 [.ref a4, .int 0], kb_o r5 1 [.ref a5, .int 0], kb_o r6 1 [.ref a6, .int 0], kb_o r7 1 [.ref a7, .int 0], kb_o r8 1 [.ref a8, .int 0], kb_o r9 1 [.ref a9, .int 0]] H := hP
  have hD : va_D A [kb_o h 2 [.ref r0, .ref r1, .ref r2, .ref r3, .ref r4, .ref r5, .ref r6, .ref r7, .ref r8, .ref r9, .ref r10, .ref r11, .int L, .int P], kb_o r10 1 [.ref a10, .int 0], kb_o r11 1 [.ref a11, .int 0], kb_a G a1 16 f1, kb_a G a2 16 f2, kb_a G a3 16 f3, kb_a G a4 16 f4, kb_a G a5 16 f5, kb_a G a6 16 f6, kb_o r0 1 [.ref a0, .int 0], kb_o r1 1 [.ref a1, .int 0], kb_o r2 1 [.ref a2, .int 0], kb_o r3 1 [.ref a3, .int 0], kb_o r4 1 [.ref a4, .int 0], kb_o r5 1 [.ref a5, .int 0], kb_o r6 1 [.ref a6, .int 0], kb_o r7 1 [.ref a7, .int 0], kb_o r8 1 [.ref a8, .int 0], kb_o r9 1 [.ref a9, .int 0]] := hD
  refine lv_aload_n hx hb d_Tree_wipe_80 rfl (lv_at hl 0 rfl) ?_
  refine va_get (D := G.1) (ci := 2) (v := .ref r10) (C := "TreePress$Tree") (T := kb_F2) (N := 14) hx hb ht kb_w2 hown hE.1 hP 0 rfl rfl 10 (by decide) (ht _ wd_41b50714) (fun _ h9 => h9) rfl d_Tree_wipe_81 ?_
  refine lv_iconst (v := 0) hx hb d_Tree_wipe_84 (by decide) ?_
  refine kb_v (wc := [kb_o r10 1 [.ref a10, .int 0]]) (wr := [kb_o h 2 [.ref r0, .ref r1, .ref r2, .ref r3, .ref r4, .ref r5, .ref r6, .ref r7, .ref r8, .ref r9, .ref r10, .ref r11, .int L, .int P], kb_o r11 1 [.ref a11, .int 0], kb_a G a1 16 f1, kb_a G a2 16 f2, kb_a G a3 16 f3, kb_a G a4 16 f4, kb_a G a5 16 f5, kb_a G a6 16 f6, kb_o r0 1 [.ref a0, .int 0], kb_o r1 1 [.ref a1, .int 0], kb_o r2 1 [.ref a2, .int 0], kb_o r3 1 [.ref a3, .int 0], kb_o r4 1 [.ref a4, .int 0], kb_o r5 1 [.ref a5, .int 0], kb_o r6 1 [.ref a6, .int 0], kb_o r7 1 [.ref a7, .int 0], kb_o r8 1 [.ref a8, .int 0], kb_o r9 1 [.ref a9, .int 0]]) hE hP hD hS [1] [0, 2, 3, 4, 5, 6, 7, 8, 9, 10, 11, 12, 13, 14, 15, 16, 17, 18] rfl rfl (by decide) (by decide) (kb_rV (As := [.int 0]) (rest := []) (wc := [kb_o r10 1 [.ref a10, .int 0]]) (q0 := 0) ⟨hx, hb, hml, hown, ht⟩ ((c_Row_cut0 l G r10 a10) _) (kb_gV wd_8899cd27 wd_a30f3437 wd_8c6818e9 wd_4182e433 wd_86891071) ⟨rfl, hd_934340dd⟩ ⟨(Nat.le_of_ble_eq_true rfl), (Nat.le_of_ble_eq_true rfl)⟩ hE hP hD hS [1] rfl (by decide) rfl rfl rfl hl.1 rfl (Nat.le_of_ble_eq_true rfl) d_Tree_wipe_85 ⟨(Nat.le_of_ble_eq_true rfl), (Nat.le_of_ble_eq_true rfl)⟩) (fun uu21 H locs hw hP hD hS => ?_)
  have hP : va_P G.1 kb_cl [kb_o h 2 [.ref r0, .ref r1, .ref r2, .ref r3, .ref r4, .ref r5, .ref r6, .ref r7, .ref r8, .ref r9, .ref r10, .ref r11, .int L, .int P], kb_o r11 1 [.ref a11, .int 0], kb_a G a1 16 f1, kb_a G a2 16 f2, kb_a G a3 16 f3, kb_a G a4 16 f4, kb_a G a5 16 f5, kb_a G a6 16 f6, kb_o r0 1 [.ref a0, .int 0], kb_o r1 1 [.ref a1, .int 0], kb_o r2 1 [.ref a2, .int 0], kb_o r3 1 [.ref a3, .int 0], kb_o r4 1 [.ref a4, .int 0], kb_o r5 1 [.ref a5, .int 0], kb_o r6 1 [.ref a6, .int 0], kb_o r7 1 [.ref a7, .int 0], kb_o r8 1 [.ref a8, .int 0], kb_o r9 1 [.ref a9, .int 0], kb_o r10 1 [.ref a10, .int 0]] H := hP
  have hD : va_D A [kb_o h 2 [.ref r0, .ref r1, .ref r2, .ref r3, .ref r4, .ref r5, .ref r6, .ref r7, .ref r8, .ref r9, .ref r10, .ref r11, .int L, .int P], kb_o r11 1 [.ref a11, .int 0], kb_a G a1 16 f1, kb_a G a2 16 f2, kb_a G a3 16 f3, kb_a G a4 16 f4, kb_a G a5 16 f5, kb_a G a6 16 f6, kb_o r0 1 [.ref a0, .int 0], kb_o r1 1 [.ref a1, .int 0], kb_o r2 1 [.ref a2, .int 0], kb_o r3 1 [.ref a3, .int 0], kb_o r4 1 [.ref a4, .int 0], kb_o r5 1 [.ref a5, .int 0], kb_o r6 1 [.ref a6, .int 0], kb_o r7 1 [.ref a7, .int 0], kb_o r8 1 [.ref a8, .int 0], kb_o r9 1 [.ref a9, .int 0], kb_o r10 1 [.ref a10, .int 0]] := hD
  refine lv_aload_n hx hb d_Tree_wipe_88 rfl (lv_at hl 0 rfl) ?_
  refine va_get (D := G.1) (ci := 2) (v := .ref r11) (C := "TreePress$Tree") (T := kb_F2) (N := 14) hx hb ht kb_w2 hown hE.1 hP 0 rfl rfl 11 (by decide) (ht _ wd_61bd367e) (fun _ h9 => h9) rfl d_Tree_wipe_89 ?_
  refine lv_iconst (v := 0) hx hb d_Tree_wipe_92 (by decide) ?_
  refine kb_v (wc := [kb_o r11 1 [.ref a11, .int 0]]) (wr := [kb_o h 2 [.ref r0, .ref r1, .ref r2, .ref r3, .ref r4, .ref r5, .ref r6, .ref r7, .ref r8, .ref r9, .ref r10, .ref r11, .int L, .int P], kb_a G a1 16 f1, kb_a G a2 16 f2, kb_a G a3 16 f3, kb_a G a4 16 f4, kb_a G a5 16 f5, kb_a G a6 16 f6, kb_o r0 1 [.ref a0, .int 0], kb_o r1 1 [.ref a1, .int 0], kb_o r2 1 [.ref a2, .int 0], kb_o r3 1 [.ref a3, .int 0], kb_o r4 1 [.ref a4, .int 0], kb_o r5 1 [.ref a5, .int 0], kb_o r6 1 [.ref a6, .int 0], kb_o r7 1 [.ref a7, .int 0], kb_o r8 1 [.ref a8, .int 0], kb_o r9 1 [.ref a9, .int 0], kb_o r10 1 [.ref a10, .int 0]]) hE hP hD hS [1] [0, 2, 3, 4, 5, 6, 7, 8, 9, 10, 11, 12, 13, 14, 15, 16, 17, 18] rfl rfl (by decide) (by decide) (kb_rV (As := [.int 0]) (rest := []) (wc := [kb_o r11 1 [.ref a11, .int 0]]) (q0 := 0) ⟨hx, hb, hml, hown, ht⟩ ((c_Row_cut0 l G r11 a11) _) (kb_gV wd_8899cd27 wd_a30f3437 wd_8c6818e9 wd_4182e433 wd_86891071) ⟨rfl, hd_934340dd⟩ ⟨(Nat.le_of_ble_eq_true rfl), (Nat.le_of_ble_eq_true rfl)⟩ hE hP hD hS [1] rfl (by decide) rfl rfl rfl hl.1 rfl (Nat.le_of_ble_eq_true rfl) d_Tree_wipe_93 ⟨(Nat.le_of_ble_eq_true rfl), (Nat.le_of_ble_eq_true rfl)⟩) (fun uu23 H locs hw hP hD hS => ?_)
  have hP : va_P G.1 kb_cl [kb_o h 2 [.ref r0, .ref r1, .ref r2, .ref r3, .ref r4, .ref r5, .ref r6, .ref r7, .ref r8, .ref r9, .ref r10, .ref r11, .int L, .int P], kb_a G a1 16 f1, kb_a G a2 16 f2, kb_a G a3 16 f3, kb_a G a4 16 f4, kb_a G a5 16 f5, kb_a G a6 16 f6, kb_o r0 1 [.ref a0, .int 0], kb_o r1 1 [.ref a1, .int 0], kb_o r2 1 [.ref a2, .int 0], kb_o r3 1 [.ref a3, .int 0], kb_o r4 1 [.ref a4, .int 0], kb_o r5 1 [.ref a5, .int 0], kb_o r6 1 [.ref a6, .int 0], kb_o r7 1 [.ref a7, .int 0], kb_o r8 1 [.ref a8, .int 0], kb_o r9 1 [.ref a9, .int 0], kb_o r10 1 [.ref a10, .int 0], kb_o r11 1 [.ref a11, .int 0]] H := hP
  have hD : va_D A [kb_o h 2 [.ref r0, .ref r1, .ref r2, .ref r3, .ref r4, .ref r5, .ref r6, .ref r7, .ref r8, .ref r9, .ref r10, .ref r11, .int L, .int P], kb_a G a1 16 f1, kb_a G a2 16 f2, kb_a G a3 16 f3, kb_a G a4 16 f4, kb_a G a5 16 f5, kb_a G a6 16 f6, kb_o r0 1 [.ref a0, .int 0], kb_o r1 1 [.ref a1, .int 0], kb_o r2 1 [.ref a2, .int 0], kb_o r3 1 [.ref a3, .int 0], kb_o r4 1 [.ref a4, .int 0], kb_o r5 1 [.ref a5, .int 0], kb_o r6 1 [.ref a6, .int 0], kb_o r7 1 [.ref a7, .int 0], kb_o r8 1 [.ref a8, .int 0], kb_o r9 1 [.ref a9, .int 0], kb_o r10 1 [.ref a10, .int 0], kb_o r11 1 [.ref a11, .int 0]] := hD
  refine lv_aload_n hx hb d_Tree_wipe_96 rfl (lv_at hl 0 rfl) ?_
  refine lv_iconst (v := 0) hx hb d_Tree_wipe_97 (by decide) ?_
  refine va_put (D := G.1) (ci := 2) (v := .int 0) (ty := .int) (C := "TreePress$Tree") (T := kb_F2) (N := 14) hx hb ht kb_w2 kb_y2 kb_p2 kb_n2 hown hE.1 hP hD hS 0 rfl rfl 12 (by decide) (ht _ wd_c03ba740) (fun _ h9 => h9) rfl (by decide +kernel) rfl rfl (Nat.le_of_ble_eq_true rfl) d_Tree_wipe_98 (fun H locs hP hD hS => ?_)
  have hP : va_P G.1 kb_cl [kb_o h 2 [.ref r0, .ref r1, .ref r2, .ref r3, .ref r4, .ref r5, .ref r6, .ref r7, .ref r8, .ref r9, .ref r10, .ref r11, .int 0, .int P], kb_a G a1 16 f1, kb_a G a2 16 f2, kb_a G a3 16 f3, kb_a G a4 16 f4, kb_a G a5 16 f5, kb_a G a6 16 f6, kb_o r0 1 [.ref a0, .int 0], kb_o r1 1 [.ref a1, .int 0], kb_o r2 1 [.ref a2, .int 0], kb_o r3 1 [.ref a3, .int 0], kb_o r4 1 [.ref a4, .int 0], kb_o r5 1 [.ref a5, .int 0], kb_o r6 1 [.ref a6, .int 0], kb_o r7 1 [.ref a7, .int 0], kb_o r8 1 [.ref a8, .int 0], kb_o r9 1 [.ref a9, .int 0], kb_o r10 1 [.ref a10, .int 0], kb_o r11 1 [.ref a11, .int 0]] H := hP
  have hD : va_D A [kb_o h 2 [.ref r0, .ref r1, .ref r2, .ref r3, .ref r4, .ref r5, .ref r6, .ref r7, .ref r8, .ref r9, .ref r10, .ref r11, .int 0, .int P], kb_a G a1 16 f1, kb_a G a2 16 f2, kb_a G a3 16 f3, kb_a G a4 16 f4, kb_a G a5 16 f5, kb_a G a6 16 f6, kb_o r0 1 [.ref a0, .int 0], kb_o r1 1 [.ref a1, .int 0], kb_o r2 1 [.ref a2, .int 0], kb_o r3 1 [.ref a3, .int 0], kb_o r4 1 [.ref a4, .int 0], kb_o r5 1 [.ref a5, .int 0], kb_o r6 1 [.ref a6, .int 0], kb_o r7 1 [.ref a7, .int 0], kb_o r8 1 [.ref a8, .int 0], kb_o r9 1 [.ref a9, .int 0], kb_o r10 1 [.ref a10, .int 0], kb_o r11 1 [.ref a11, .int 0]] := hD
  refine lv_aload_n hx hb d_Tree_wipe_101 rfl (lv_at hl 0 rfl) ?_
  refine lv_iconst (v := (-1)) hx hb d_Tree_wipe_102 (by decide) ?_
  refine va_put (D := G.1) (ci := 2) (v := .int (-1)) (ty := .int) (C := "TreePress$Tree") (T := kb_F2) (N := 14) hx hb ht kb_w2 kb_y2 kb_p2 kb_n2 hown hE.1 hP hD hS 0 rfl rfl 13 (by decide) (ht _ wd_f08393eb) (fun _ h9 => h9) rfl (by decide +kernel) rfl rfl (Nat.le_of_ble_eq_true rfl) d_Tree_wipe_103 (fun H locs hP hD hS => ?_)
  have hP : va_P G.1 kb_cl [kb_o h 2 [.ref r0, .ref r1, .ref r2, .ref r3, .ref r4, .ref r5, .ref r6, .ref r7, .ref r8, .ref r9, .ref r10, .ref r11, .int 0, .int (-1)], kb_a G a1 16 f1, kb_a G a2 16 f2, kb_a G a3 16 f3, kb_a G a4 16 f4, kb_a G a5 16 f5, kb_a G a6 16 f6, kb_o r0 1 [.ref a0, .int 0], kb_o r1 1 [.ref a1, .int 0], kb_o r2 1 [.ref a2, .int 0], kb_o r3 1 [.ref a3, .int 0], kb_o r4 1 [.ref a4, .int 0], kb_o r5 1 [.ref a5, .int 0], kb_o r6 1 [.ref a6, .int 0], kb_o r7 1 [.ref a7, .int 0], kb_o r8 1 [.ref a8, .int 0], kb_o r9 1 [.ref a9, .int 0], kb_o r10 1 [.ref a10, .int 0], kb_o r11 1 [.ref a11, .int 0]] H := hP
  have hD : va_D A [kb_o h 2 [.ref r0, .ref r1, .ref r2, .ref r3, .ref r4, .ref r5, .ref r6, .ref r7, .ref r8, .ref r9, .ref r10, .ref r11, .int 0, .int (-1)], kb_a G a1 16 f1, kb_a G a2 16 f2, kb_a G a3 16 f3, kb_a G a4 16 f4, kb_a G a5 16 f5, kb_a G a6 16 f6, kb_o r0 1 [.ref a0, .int 0], kb_o r1 1 [.ref a1, .int 0], kb_o r2 1 [.ref a2, .int 0], kb_o r3 1 [.ref a3, .int 0], kb_o r4 1 [.ref a4, .int 0], kb_o r5 1 [.ref a5, .int 0], kb_o r6 1 [.ref a6, .int 0], kb_o r7 1 [.ref a7, .int 0], kb_o r8 1 [.ref a8, .int 0], kb_o r9 1 [.ref a9, .int 0], kb_o r10 1 [.ref a10, .int 0], kb_o r11 1 [.ref a11, .int 0]] := hD
  refine lv_aload_n hx hb d_Tree_wipe_106 rfl (lv_at hl 0 rfl) ?_
  refine lv_aload_n hx hb d_Tree_wipe_107 rfl (lv_at hl 0 rfl) ?_
  refine va_get (D := G.1) (ci := 2) (v := .ref r0) (C := "TreePress$Tree") (T := kb_F2) (N := 14) hx hb ht kb_w2 hown hE.1 hP 0 rfl rfl 0 (by decide) (ht _ wd_d0876019) (fun _ h9 => h9) rfl d_Tree_wipe_108 ?_
  refine lv_iconst (v := 0) hx hb d_Tree_wipe_111 (by decide) ?_
  refine lv_iconst (v := 0) hx hb d_Tree_wipe_112 (by decide) ?_
  refine kb_i (wc := [kb_o h 2 [.ref r0, .ref r1, .ref r2, .ref r3, .ref r4, .ref r5, .ref r6, .ref r7, .ref r8, .ref r9, .ref r10, .ref r11, .int 0, .int (-1)], kb_o r0 1 [.ref a0, .int 0], kb_o r1 1 [.ref a1, .int 0], kb_o r2 1 [.ref a2, .int 0], kb_o r3 1 [.ref a3, .int 0], kb_o r4 1 [.ref a4, .int 0], kb_o r5 1 [.ref a5, .int 0], kb_o r6 1 [.ref a6, .int 0], kb_o r7 1 [.ref a7, .int 0], kb_a G a1 16 f1, kb_a G a2 16 f2, kb_a G a3 16 f3, kb_a G a4 16 f4, kb_a G a5 16 f5, kb_a G a6 16 f6]) (wr := [kb_o r8 1 [.ref a8, .int 0], kb_o r9 1 [.ref a9, .int 0], kb_o r10 1 [.ref a10, .int 0], kb_o r11 1 [.ref a11, .int 0]]) hE hP hD hS [0, 7, 8, 9, 10, 11, 12, 13, 14, 1, 2, 3, 4, 5, 6] [15, 16, 17, 18] rfl rfl (by decide) (by decide) (kb_rV (As := [.ref r0, .int 0, .int 0]) (rest := []) (wc := [kb_o h 2 [.ref r0, .ref r1, .ref r2, .ref r3, .ref r4, .ref r5, .ref r6, .ref r7, .ref r8, .ref r9, .ref r10, .ref r11, .int 0, .int (-1)], kb_o r0 1 [.ref a0, .int 0], kb_o r1 1 [.ref a1, .int 0], kb_o r2 1 [.ref a2, .int 0], kb_o r3 1 [.ref a3, .int 0], kb_o r4 1 [.ref a4, .int 0], kb_o r5 1 [.ref a5, .int 0], kb_o r6 1 [.ref a6, .int 0], kb_o r7 1 [.ref a7, .int 0], kb_a G a1 16 f1, kb_a G a2 16 f2, kb_a G a3 16 f3, kb_a G a4 16 f4, kb_a G a5 16 f5, kb_a G a6 16 f6]) (q0 := 0) ⟨hx, hb, hml, hown, ht⟩ ((c_Tree_addNode l G h r0 r1 r2 r3 r4 r5 r6 r7 r8 r9 r10 r11 0 a0 a1 a2 a3 a4 a5 a6 a7 f1 f2 f3 f4 f5 f6) _) (kb_gV wd_79d23d76 wd_d892b7a2 wd_4b7f4d4b wd_ebf91e09 wd_d814e805) ⟨rfl, hd_0cbcafc1⟩ ⟨(Nat.le_of_ble_eq_true rfl), (Nat.le_of_ble_eq_true rfl)⟩ hE hP hD hS [0, 7, 8, 9, 10, 11, 12, 13, 14, 1, 2, 3, 4, 5, 6] rfl (by decide) rfl rfl rfl hl.1 rfl (Nat.le_of_ble_eq_true rfl) d_Tree_wipe_113 ⟨(Nat.le_of_ble_eq_true rfl), (Nat.le_of_ble_eq_true rfl)⟩) (fun rv26 uu25 H locs hw hP hD hS => ?_)
  have hP : va_P G.1 kb_cl [kb_o r8 1 [.ref a8, .int 0], kb_o r9 1 [.ref a9, .int 0], kb_o r10 1 [.ref a10, .int 0], kb_o r11 1 [.ref a11, .int 0], kb_o r1 1 [.ref a1, .int 1], kb_a G a1 16 (upd f1 0 (-1)), kb_o r2 1 [.ref a2, .int 1], kb_a G a2 16 (upd f2 0 1), kb_o r3 1 [.ref a3, .int 1], kb_a G a3 16 (upd f3 0 0), kb_o r4 1 [.ref a4, .int 1], kb_a G a4 16 (upd f4 0 0), kb_o h 2 [.ref r0, .ref r1, .ref r2, .ref r3, .ref r4, .ref r5, .ref r6, .ref r7, .ref r8, .ref r9, .ref r10, .ref r11, .int 0, .int 0], kb_o r7 1 [.ref a7, .int 0], kb_o r5 1 [.ref a5, .int 1], kb_a G a5 16 (upd f5 0 0), kb_o r6 1 [.ref a6, .int 1], kb_a G a6 16 (upd f6 0 0), kb_o r0 1 [.ref a0, .int 0]] H := hP
  have hD : va_D A [kb_o r8 1 [.ref a8, .int 0], kb_o r9 1 [.ref a9, .int 0], kb_o r10 1 [.ref a10, .int 0], kb_o r11 1 [.ref a11, .int 0], kb_o r1 1 [.ref a1, .int 1], kb_a G a1 16 (upd f1 0 (-1)), kb_o r2 1 [.ref a2, .int 1], kb_a G a2 16 (upd f2 0 1), kb_o r3 1 [.ref a3, .int 1], kb_a G a3 16 (upd f3 0 0), kb_o r4 1 [.ref a4, .int 1], kb_a G a4 16 (upd f4 0 0), kb_o h 2 [.ref r0, .ref r1, .ref r2, .ref r3, .ref r4, .ref r5, .ref r6, .ref r7, .ref r8, .ref r9, .ref r10, .ref r11, .int 0, .int 0], kb_o r7 1 [.ref a7, .int 0], kb_o r5 1 [.ref a5, .int 1], kb_a G a5 16 (upd f5 0 0), kb_o r6 1 [.ref a6, .int 1], kb_a G a6 16 (upd f6 0 0), kb_o r0 1 [.ref a0, .int 0]] := hD
  refine kb_top (y := 0) (show rv26 = 0 from hw) ?_
  refine lv_pop hx hb d_Tree_wipe_116 rfl ?_
  exact kb_retv (kb_l [], kb_f []) hx hb hr hlocks hE hP hD hS [0, 1, 2, 3, 4, 5, 6, 7, 8, 9, 10, 11, 12, 13, 14, 15, 16, 17, 18] rfl (by decide) rfl trivial (Nat.le_of_ble_eq_true rfl) (Nat.le_of_ble_eq_true rfl) d_Tree_wipe_117

set_option maxHeartbeats 4000000 in
set_option maxRecDepth 100000 in
theorem c_Tree_init (l : Launch) (G : kb_G) (h : Nat) : kb_cv l G ⟨"TreePress$Tree", "<init>", "()V"⟩ prog_4_method_1_code 1 7 24 216 [.ref h] [kb_o h 2 [.null, .null, .null, .null, .null, .null, .null, .null, .null, .null, .null, .null, .int 0, .int 0]] (fun u => True) (fun u => [kb_a G (u.1 1) 16 (fun _ => 0), kb_a G (u.1 15) 16 (fun _ => 0), kb_a G (u.1 17) 16 (fun _ => 0), kb_a G (u.1 19) 16 (fun _ => 0), kb_a G (u.1 21) 16 (fun _ => 0), kb_a G (u.1 23) 16 (fun _ => 0), kb_o (u.1 16) 1 [.ref (u.1 17), .int 0], kb_o (u.1 18) 1 [.ref (u.1 19), .int 0], kb_o (u.1 20) 1 [.ref (u.1 21), .int 0], kb_o (u.1 22) 1 [.ref (u.1 23), .int 0], kb_o (u.1 2) 1 [.ref (u.1 3), .int 1], kb_a G (u.1 3) 16 (upd (fun _ => 0) 0 (-1)), kb_o (u.1 4) 1 [.ref (u.1 5), .int 1], kb_a G (u.1 5) 16 (upd (fun _ => 0) 0 1), kb_o (u.1 6) 1 [.ref (u.1 7), .int 1], kb_a G (u.1 7) 16 (upd (fun _ => 0) 0 0), kb_o (u.1 8) 1 [.ref (u.1 9), .int 1], kb_a G (u.1 9) 16 (upd (fun _ => 0) 0 0), kb_o h 2 [.ref (u.1 0), .ref (u.1 2), .ref (u.1 4), .ref (u.1 6), .ref (u.1 8), .ref (u.1 10), .ref (u.1 12), .ref (u.1 14), .ref (u.1 16), .ref (u.1 18), .ref (u.1 20), .ref (u.1 22), .int 0, .int 0], kb_o (u.1 14) 1 [.ref (u.1 15), .int 0], kb_o (u.1 10) 1 [.ref (u.1 11), .int 1], kb_a G (u.1 11) 16 (upd (fun _ => 0) 0 0), kb_o (u.1 12) 1 [.ref (u.1 13), .int 1], kb_a G (u.1 13) 16 (upd (fun _ => 0) 0 0), kb_o (u.1 0) 1 [.ref (u.1 1), .int 0]]) := by
  intro sz
  refine kb_body (QQ := fun A => kb_Qv G A (fun u => True) (fun u => [kb_a G (u.1 1) 16 (fun _ => 0), kb_a G (u.1 15) 16 (fun _ => 0), kb_a G (u.1 17) 16 (fun _ => 0), kb_a G (u.1 19) 16 (fun _ => 0), kb_a G (u.1 21) 16 (fun _ => 0), kb_a G (u.1 23) 16 (fun _ => 0), kb_o (u.1 16) 1 [.ref (u.1 17), .int 0], kb_o (u.1 18) 1 [.ref (u.1 19), .int 0], kb_o (u.1 20) 1 [.ref (u.1 21), .int 0], kb_o (u.1 22) 1 [.ref (u.1 23), .int 0], kb_o (u.1 2) 1 [.ref (u.1 3), .int 1], kb_a G (u.1 3) 16 (upd (fun _ => 0) 0 (-1)), kb_o (u.1 4) 1 [.ref (u.1 5), .int 1], kb_a G (u.1 5) 16 (upd (fun _ => 0) 0 1), kb_o (u.1 6) 1 [.ref (u.1 7), .int 1], kb_a G (u.1 7) 16 (upd (fun _ => 0) 0 0), kb_o (u.1 8) 1 [.ref (u.1 9), .int 1], kb_a G (u.1 9) 16 (upd (fun _ => 0) 0 0), kb_o h 2 [.ref (u.1 0), .ref (u.1 2), .ref (u.1 4), .ref (u.1 6), .ref (u.1 8), .ref (u.1 10), .ref (u.1 12), .ref (u.1 14), .ref (u.1 16), .ref (u.1 18), .ref (u.1 20), .ref (u.1 22), .int 0, .int 0], kb_o (u.1 14) 1 [.ref (u.1 15), .int 0], kb_o (u.1 10) 1 [.ref (u.1 11), .int 1], kb_a G (u.1 11) 16 (upd (fun _ => 0) 0 0), kb_o (u.1 12) 1 [.ref (u.1 13), .int 1], kb_a G (u.1 13) 16 (upd (fun _ => 0) 0 0), kb_o (u.1 0) 1 [.ref (u.1 1), .int 0]])) (by decide) (Nat.le_of_ble_eq_true rfl) ?_
  intro p e s m below meth c A B ls hl
  obtain ⟨hx, hb, hr, hml, hlocks, hin, hown, ht, hE, hP, hD, hS⟩ := B
  have hl : lv_has ls 1 [(0, .ref h)] := hl
  have hP0 := hP
  obtain ⟨H, hHe⟩ : ∃ H, H = s.heap := ⟨_, rfl⟩
  rw [← hHe] at hP
  have hS : va_S A s.heap H [] := by rw [hHe]; exact hS
  refine kb_at hHe ?_
  clear hHe
  refine lv_aload_n hx hb d_Tree_init_0 rfl (lv_at hl 0 rfl) ?_
  refine W.objInit hx hb hown (ht _ wd_b3268758) (ht _ wd_962a1238) (ht _ wd_b2b9d69d) rfl (by rw [hml]; exact hl.1) rfl d_Tree_init_1 (Nat.le_of_ble_eq_true rfl) (Nat.le_of_ble_eq_true rfl) ?_
  refine W.eq (g2 := F0 m 4 ls []) rfl ?_
  refine lv_aload_n hx hb d_Tree_init_4 rfl (lv_at hl 0 rfl) ?_
  refine va_new (ci := 1) (fs := [.null, .int 0]) (C := "TreePress$Row") (T := kb_F1) (N := 2) hx hb ht kb_w1 kb_y1 kb_p1 hown (ht _ wd_bf675ff0) (ht _ wd_23abe21f) (ht _ wd_4182e433) hE.1 hP hD hS hE.2.2.2 rfl kb_d1 (Nat.le_of_ble_eq_true rfl) (Nat.le_of_ble_eq_true rfl) d_Tree_init_5 (fun qn1 H hP hD hS => ?_)
  have hP : va_P G.1 kb_cl [kb_o h 2 [.null, .null, .null, .null, .null, .null, .null, .null, .null, .null, .null, .null, .int 0, .int 0], kb_o qn1 1 [.null, .int 0]] H := hP
  have hD : va_D A [kb_o h 2 [.null, .null, .null, .null, .null, .null, .null, .null, .null, .null, .null, .null, .int 0, .int 0], kb_o qn1 1 [.null, .int 0]] := hD
  refine lv_dup hx hb d_Tree_init_8 rfl ?_
  refine kb_v (wc := [kb_o qn1 1 [.null, .int 0]]) (wr := [kb_o h 2 [.null, .null, .null, .null, .null, .null, .null, .null, .null, .null, .null, .null, .int 0, .int 0]]) hE hP hD hS [1] [0] rfl rfl (by decide) (by decide) (kb_rI (As := []) (rest := [.ref qn1, .ref h]) (wc := [kb_o qn1 1 [.null, .int 0]]) ⟨hx, hb, hml, hown, ht⟩ ((c_Row_init l G qn1) _) wd_120d8060 wd_4182e433 wd_dfe53b0a wd_48fb15c2 rfl hd_e8c59c19 ⟨(Nat.le_of_ble_eq_true rfl), (Nat.le_of_ble_eq_true rfl)⟩ hE hP hD hS [1] rfl (by decide) hl.1 rfl (Nat.le_of_ble_eq_true rfl) d_Tree_init_9 ⟨(Nat.le_of_ble_eq_true rfl), (Nat.le_of_ble_eq_true rfl)⟩) (fun uu2 H locs hw hP hD hS => ?_)
  have hP : va_P G.1 kb_cl [kb_o h 2 [.null, .null, .null, .null, .null, .null, .null, .null, .null, .null, .null, .null, .int 0, .int 0], kb_o qn1 1 [.ref (uu2.1 0), .int 0], kb_a G (uu2.1 0) 16 (fun _ => 0)] H := hP
  have hD : va_D A [kb_o h 2 [.null, .null, .null, .null, .null, .null, .null, .null, .null, .null, .null, .null, .int 0, .int 0], kb_o qn1 1 [.ref (uu2.1 0), .int 0], kb_a G (uu2.1 0) 16 (fun _ => 0)] := hD
  refine va_putF (D := G.1) (ci := 2) (v := .ref qn1) (ty := .object "TreePress$Row") (C := "TreePress$Tree") (T := kb_F2) (N := 14) hx hb ht kb_w2 kb_y2 kb_p2 kb_n2 hown hE.1 hP hD hS 0 rfl rfl 0 (by decide) (ht _ wd_d0876019) (fun _ h9 => h9) rfl hin rfl (by decide +kernel) rfl rfl (Nat.le_of_ble_eq_true rfl) d_Tree_init_12 (fun H locs hP hD hS => ?_)
  have hP : va_P G.1 kb_cl [kb_o h 2 [.ref qn1, .null, .null, .null, .null, .null, .null, .null, .null, .null, .null, .null, .int 0, .int 0], kb_o qn1 1 [.ref (uu2.1 0), .int 0], kb_a G (uu2.1 0) 16 (fun _ => 0)] H := hP
  have hD : va_D A [kb_o h 2 [.ref qn1, .null, .null, .null, .null, .null, .null, .null, .null, .null, .null, .null, .int 0, .int 0], kb_o qn1 1 [.ref (uu2.1 0), .int 0], kb_a G (uu2.1 0) 16 (fun _ => 0)] := hD
  refine lv_aload_n hx hb d_Tree_init_15 rfl (lv_at hl 0 rfl) ?_
  refine va_new (ci := 1) (fs := [.null, .int 0]) (C := "TreePress$Row") (T := kb_F1) (N := 2) hx hb ht kb_w1 kb_y1 kb_p1 hown (ht _ wd_bf675ff0) (ht _ wd_23abe21f) (ht _ wd_4182e433) hE.1 hP hD hS hE.2.2.2 rfl kb_d1 (Nat.le_of_ble_eq_true rfl) (Nat.le_of_ble_eq_true rfl) d_Tree_init_16 (fun qn4 H hP hD hS => ?_)
  have hP : va_P G.1 kb_cl [kb_o h 2 [.ref qn1, .null, .null, .null, .null, .null, .null, .null, .null, .null, .null, .null, .int 0, .int 0], kb_o qn1 1 [.ref (uu2.1 0), .int 0], kb_a G (uu2.1 0) 16 (fun _ => 0), kb_o qn4 1 [.null, .int 0]] H := hP
  have hD : va_D A [kb_o h 2 [.ref qn1, .null, .null, .null, .null, .null, .null, .null, .null, .null, .null, .null, .int 0, .int 0], kb_o qn1 1 [.ref (uu2.1 0), .int 0], kb_a G (uu2.1 0) 16 (fun _ => 0), kb_o qn4 1 [.null, .int 0]] := hD
  refine lv_dup hx hb d_Tree_init_19 rfl ?_
  refine kb_v (wc := [kb_o qn4 1 [.null, .int 0]]) (wr := [kb_o h 2 [.ref qn1, .null, .null, .null, .null, .null, .null, .null, .null, .null, .null, .null, .int 0, .int 0], kb_o qn1 1 [.ref (uu2.1 0), .int 0], kb_a G (uu2.1 0) 16 (fun _ => 0)]) hE hP hD hS [3] [0, 1, 2] rfl rfl (by decide) (by decide) (kb_rI (As := []) (rest := [.ref qn4, .ref h]) (wc := [kb_o qn4 1 [.null, .int 0]]) ⟨hx, hb, hml, hown, ht⟩ ((c_Row_init l G qn4) _) wd_120d8060 wd_4182e433 wd_dfe53b0a wd_48fb15c2 rfl hd_e8c59c19 ⟨(Nat.le_of_ble_eq_true rfl), (Nat.le_of_ble_eq_true rfl)⟩ hE hP hD hS [3] rfl (by decide) hl.1 rfl (Nat.le_of_ble_eq_true rfl) d_Tree_init_20 ⟨(Nat.le_of_ble_eq_true rfl), (Nat.le_of_ble_eq_true rfl)⟩) (fun uu5 H locs hw hP hD hS => ?_)
  have hP : va_P G.1 kb_cl [kb_o h 2 [.ref qn1, .null, .null, .null, .null, .null, .null, .null, .null, .null, .null, .null, .int 0, .int 0], kb_o qn1 1 [.ref (uu2.1 0), .int 0], kb_a G (uu2.1 0) 16 (fun _ => 0), kb_o qn4 1 [.ref (uu5.1 0), .int 0], kb_a G (uu5.1 0) 16 (fun _ => 0)] H := hP
  have hD : va_D A [kb_o h 2 [.ref qn1, .null, .null, .null, .null, .null, .null, .null, .null, .null, .null, .null, .int 0, .int 0], kb_o qn1 1 [.ref (uu2.1 0), .int 0], kb_a G (uu2.1 0) 16 (fun _ => 0), kb_o qn4 1 [.ref (uu5.1 0), .int 0], kb_a G (uu5.1 0) 16 (fun _ => 0)] := hD
  refine va_putF (D := G.1) (ci := 2) (v := .ref qn4) (ty := .object "TreePress$Row") (C := "TreePress$Tree") (T := kb_F2) (N := 14) hx hb ht kb_w2 kb_y2 kb_p2 kb_n2 hown hE.1 hP hD hS 0 rfl rfl 1 (by decide) (ht _ wd_4e2a5d63) (fun _ h9 => h9) rfl hin rfl (by decide +kernel) rfl rfl (Nat.le_of_ble_eq_true rfl) d_Tree_init_23 (fun H locs hP hD hS => ?_)
  have hP : va_P G.1 kb_cl [kb_o h 2 [.ref qn1, .ref qn4, .null, .null, .null, .null, .null, .null, .null, .null, .null, .null, .int 0, .int 0], kb_o qn1 1 [.ref (uu2.1 0), .int 0], kb_a G (uu2.1 0) 16 (fun _ => 0), kb_o qn4 1 [.ref (uu5.1 0), .int 0], kb_a G (uu5.1 0) 16 (fun _ => 0)] H := hP
  have hD : va_D A [kb_o h 2 [.ref qn1, .ref qn4, .null, .null, .null, .null, .null, .null, .null, .null, .null, .null, .int 0, .int 0], kb_o qn1 1 [.ref (uu2.1 0), .int 0], kb_a G (uu2.1 0) 16 (fun _ => 0), kb_o qn4 1 [.ref (uu5.1 0), .int 0], kb_a G (uu5.1 0) 16 (fun _ => 0)] := hD
  refine lv_aload_n hx hb d_Tree_init_26 rfl (lv_at hl 0 rfl) ?_
  refine va_new (ci := 1) (fs := [.null, .int 0]) (C := "TreePress$Row") (T := kb_F1) (N := 2) hx hb ht kb_w1 kb_y1 kb_p1 hown (ht _ wd_bf675ff0) (ht _ wd_23abe21f) (ht _ wd_4182e433) hE.1 hP hD hS hE.2.2.2 rfl kb_d1 (Nat.le_of_ble_eq_true rfl) (Nat.le_of_ble_eq_true rfl) d_Tree_init_27 (fun qn7 H hP hD hS => ?_)
  have hP : va_P G.1 kb_cl [kb_o h 2 [.ref qn1, .ref qn4, .null, .null, .null, .null, .null, .null, .null, .null, .null, .null, .int 0, .int 0], kb_o qn1 1 [.ref (uu2.1 0), .int 0], kb_a G (uu2.1 0) 16 (fun _ => 0), kb_o qn4 1 [.ref (uu5.1 0), .int 0], kb_a G (uu5.1 0) 16 (fun _ => 0), kb_o qn7 1 [.null, .int 0]] H := hP
  have hD : va_D A [kb_o h 2 [.ref qn1, .ref qn4, .null, .null, .null, .null, .null, .null, .null, .null, .null, .null, .int 0, .int 0], kb_o qn1 1 [.ref (uu2.1 0), .int 0], kb_a G (uu2.1 0) 16 (fun _ => 0), kb_o qn4 1 [.ref (uu5.1 0), .int 0], kb_a G (uu5.1 0) 16 (fun _ => 0), kb_o qn7 1 [.null, .int 0]] := hD
  refine lv_dup hx hb d_Tree_init_30 rfl ?_
  refine kb_v (wc := [kb_o qn7 1 [.null, .int 0]]) (wr := [kb_o h 2 [.ref qn1, .ref qn4, .null, .null, .null, .null, .null, .null, .null, .null, .null, .null, .int 0, .int 0], kb_o qn1 1 [.ref (uu2.1 0), .int 0], kb_a G (uu2.1 0) 16 (fun _ => 0), kb_o qn4 1 [.ref (uu5.1 0), .int 0], kb_a G (uu5.1 0) 16 (fun _ => 0)]) hE hP hD hS [5] [0, 1, 2, 3, 4] rfl rfl (by decide) (by decide) (kb_rI (As := []) (rest := [.ref qn7, .ref h]) (wc := [kb_o qn7 1 [.null, .int 0]]) ⟨hx, hb, hml, hown, ht⟩ ((c_Row_init l G qn7) _) wd_120d8060 wd_4182e433 wd_dfe53b0a wd_48fb15c2 rfl hd_e8c59c19 ⟨(Nat.le_of_ble_eq_true rfl), (Nat.le_of_ble_eq_true rfl)⟩ hE hP hD hS [5] rfl (by decide) hl.1 rfl (Nat.le_of_ble_eq_true rfl) d_Tree_init_31 ⟨(Nat.le_of_ble_eq_true rfl), (Nat.le_of_ble_eq_true rfl)⟩) (fun uu8 H locs hw hP hD hS => ?_)
  have hP : va_P G.1 kb_cl [kb_o h 2 [.ref qn1, .ref qn4, .null, .null, .null, .null, .null, .null, .null, .null, .null, .null, .int 0, .int 0], kb_o qn1 1 [.ref (uu2.1 0), .int 0], kb_a G (uu2.1 0) 16 (fun _ => 0), kb_o qn4 1 [.ref (uu5.1 0), .int 0], kb_a G (uu5.1 0) 16 (fun _ => 0), kb_o qn7 1 [.ref (uu8.1 0), .int 0], kb_a G (uu8.1 0) 16 (fun _ => 0)] H := hP
  have hD : va_D A [kb_o h 2 [.ref qn1, .ref qn4, .null, .null, .null, .null, .null, .null, .null, .null, .null, .null, .int 0, .int 0], kb_o qn1 1 [.ref (uu2.1 0), .int 0], kb_a G (uu2.1 0) 16 (fun _ => 0), kb_o qn4 1 [.ref (uu5.1 0), .int 0], kb_a G (uu5.1 0) 16 (fun _ => 0), kb_o qn7 1 [.ref (uu8.1 0), .int 0], kb_a G (uu8.1 0) 16 (fun _ => 0)] := hD
  refine va_putF (D := G.1) (ci := 2) (v := .ref qn7) (ty := .object "TreePress$Row") (C := "TreePress$Tree") (T := kb_F2) (N := 14) hx hb ht kb_w2 kb_y2 kb_p2 kb_n2 hown hE.1 hP hD hS 0 rfl rfl 2 (by decide) (ht _ wd_6fe818ee) (fun _ h9 => h9) rfl hin rfl (by decide +kernel) rfl rfl (Nat.le_of_ble_eq_true rfl) d_Tree_init_34 (fun H locs hP hD hS => ?_)
  have hP : va_P G.1 kb_cl [kb_o h 2 [.ref qn1, .ref qn4, .ref qn7, .null, .null, .null, .null, .null, .null, .null, .null, .null, .int 0, .int 0], kb_o qn1 1 [.ref (uu2.1 0), .int 0], kb_a G (uu2.1 0) 16 (fun _ => 0), kb_o qn4 1 [.ref (uu5.1 0), .int 0], kb_a G (uu5.1 0) 16 (fun _ => 0), kb_o qn7 1 [.ref (uu8.1 0), .int 0], kb_a G (uu8.1 0) 16 (fun _ => 0)] H := hP
  have hD : va_D A [kb_o h 2 [.ref qn1, .ref qn4, .ref qn7, .null, .null, .null, .null, .null, .null, .null, .null, .null, .int 0, .int 0], kb_o qn1 1 [.ref (uu2.1 0), .int 0], kb_a G (uu2.1 0) 16 (fun _ => 0), kb_o qn4 1 [.ref (uu5.1 0), .int 0], kb_a G (uu5.1 0) 16 (fun _ => 0), kb_o qn7 1 [.ref (uu8.1 0), .int 0], kb_a G (uu8.1 0) 16 (fun _ => 0)] := hD
  refine lv_aload_n hx hb d_Tree_init_37 rfl (lv_at hl 0 rfl) ?_
  refine va_new (ci := 1) (fs := [.null, .int 0]) (C := "TreePress$Row") (T := kb_F1) (N := 2) hx hb ht kb_w1 kb_y1 kb_p1 hown (ht _ wd_bf675ff0) (ht _ wd_23abe21f) (ht _ wd_4182e433) hE.1 hP hD hS hE.2.2.2 rfl kb_d1 (Nat.le_of_ble_eq_true rfl) (Nat.le_of_ble_eq_true rfl) d_Tree_init_38 (fun qn10 H hP hD hS => ?_)
  have hP : va_P G.1 kb_cl [kb_o h 2 [.ref qn1, .ref qn4, .ref qn7, .null, .null, .null, .null, .null, .null, .null, .null, .null, .int 0, .int 0], kb_o qn1 1 [.ref (uu2.1 0), .int 0], kb_a G (uu2.1 0) 16 (fun _ => 0), kb_o qn4 1 [.ref (uu5.1 0), .int 0], kb_a G (uu5.1 0) 16 (fun _ => 0), kb_o qn7 1 [.ref (uu8.1 0), .int 0], kb_a G (uu8.1 0) 16 (fun _ => 0), kb_o qn10 1 [.null, .int 0]] H := hP
  have hD : va_D A [kb_o h 2 [.ref qn1, .ref qn4, .ref qn7, .null, .null, .null, .null, .null, .null, .null, .null, .null, .int 0, .int 0], kb_o qn1 1 [.ref (uu2.1 0), .int 0], kb_a G (uu2.1 0) 16 (fun _ => 0), kb_o qn4 1 [.ref (uu5.1 0), .int 0], kb_a G (uu5.1 0) 16 (fun _ => 0), kb_o qn7 1 [.ref (uu8.1 0), .int 0], kb_a G (uu8.1 0) 16 (fun _ => 0), kb_o qn10 1 [.null, .int 0]] := hD
  refine lv_dup hx hb d_Tree_init_41 rfl ?_
  refine kb_v (wc := [kb_o qn10 1 [.null, .int 0]]) (wr := [kb_o h 2 [.ref qn1, .ref qn4, .ref qn7, .null, .null, .null, .null, .null, .null, .null, .null, .null, .int 0, .int 0], kb_o qn1 1 [.ref (uu2.1 0), .int 0], kb_a G (uu2.1 0) 16 (fun _ => 0), kb_o qn4 1 [.ref (uu5.1 0), .int 0], kb_a G (uu5.1 0) 16 (fun _ => 0), kb_o qn7 1 [.ref (uu8.1 0), .int 0], kb_a G (uu8.1 0) 16 (fun _ => 0)]) hE hP hD hS [7] [0, 1, 2, 3, 4, 5, 6] rfl rfl (by decide) (by decide) (kb_rI (As := []) (rest := [.ref qn10, .ref h]) (wc := [kb_o qn10 1 [.null, .int 0]]) ⟨hx, hb, hml, hown, ht⟩ ((c_Row_init l G qn10) _) wd_120d8060 wd_4182e433 wd_dfe53b0a wd_48fb15c2 rfl hd_e8c59c19 ⟨(Nat.le_of_ble_eq_true rfl), (Nat.le_of_ble_eq_true rfl)⟩ hE hP hD hS [7] rfl (by decide) hl.1 rfl (Nat.le_of_ble_eq_true rfl) d_Tree_init_42 ⟨(Nat.le_of_ble_eq_true rfl), (Nat.le_of_ble_eq_true rfl)⟩) (fun uu11 H locs hw hP hD hS => ?_)
  have hP : va_P G.1 kb_cl [kb_o h 2 [.ref qn1, .ref qn4, .ref qn7, .null, .null, .null, .null, .null, .null, .null, .null, .null, .int 0, .int 0], kb_o qn1 1 [.ref (uu2.1 0), .int 0], kb_a G (uu2.1 0) 16 (fun _ => 0), kb_o qn4 1 [.ref (uu5.1 0), .int 0], kb_a G (uu5.1 0) 16 (fun _ => 0), kb_o qn7 1 [.ref (uu8.1 0), .int 0], kb_a G (uu8.1 0) 16 (fun _ => 0), kb_o qn10 1 [.ref (uu11.1 0), .int 0], kb_a G (uu11.1 0) 16 (fun _ => 0)] H := hP
  have hD : va_D A [kb_o h 2 [.ref qn1, .ref qn4, .ref qn7, .null, .null, .null, .null, .null, .null, .null, .null, .null, .int 0, .int 0], kb_o qn1 1 [.ref (uu2.1 0), .int 0], kb_a G (uu2.1 0) 16 (fun _ => 0), kb_o qn4 1 [.ref (uu5.1 0), .int 0], kb_a G (uu5.1 0) 16 (fun _ => 0), kb_o qn7 1 [.ref (uu8.1 0), .int 0], kb_a G (uu8.1 0) 16 (fun _ => 0), kb_o qn10 1 [.ref (uu11.1 0), .int 0], kb_a G (uu11.1 0) 16 (fun _ => 0)] := hD
  refine va_putF (D := G.1) (ci := 2) (v := .ref qn10) (ty := .object "TreePress$Row") (C := "TreePress$Tree") (T := kb_F2) (N := 14) hx hb ht kb_w2 kb_y2 kb_p2 kb_n2 hown hE.1 hP hD hS 0 rfl rfl 3 (by decide) (ht _ wd_ae352740) (fun _ h9 => h9) rfl hin rfl (by decide +kernel) rfl rfl (Nat.le_of_ble_eq_true rfl) d_Tree_init_45 (fun H locs hP hD hS => ?_)
  have hP : va_P G.1 kb_cl [kb_o h 2 [.ref qn1, .ref qn4, .ref qn7, .ref qn10, .null, .null, .null, .null, .null, .null, .null, .null, .int 0, .int 0], kb_o qn1 1 [.ref (uu2.1 0), .int 0], kb_a G (uu2.1 0) 16 (fun _ => 0), kb_o qn4 1 [.ref (uu5.1 0), .int 0], kb_a G (uu5.1 0) 16 (fun _ => 0), kb_o qn7 1 [.ref (uu8.1 0), .int 0], kb_a G (uu8.1 0) 16 (fun _ => 0), kb_o qn10 1 [.ref (uu11.1 0), .int 0], kb_a G (uu11.1 0) 16 (fun _ => 0)] H := hP
  have hD : va_D A [kb_o h 2 [.ref qn1, .ref qn4, .ref qn7, .ref qn10, .null, .null, .null, .null, .null, .null, .null, .null, .int 0, .int 0], kb_o qn1 1 [.ref (uu2.1 0), .int 0], kb_a G (uu2.1 0) 16 (fun _ => 0), kb_o qn4 1 [.ref (uu5.1 0), .int 0], kb_a G (uu5.1 0) 16 (fun _ => 0), kb_o qn7 1 [.ref (uu8.1 0), .int 0], kb_a G (uu8.1 0) 16 (fun _ => 0), kb_o qn10 1 [.ref (uu11.1 0), .int 0], kb_a G (uu11.1 0) 16 (fun _ => 0)] := hD
  refine lv_aload_n hx hb d_Tree_init_48 rfl (lv_at hl 0 rfl) ?_
  refine va_new (ci := 1) (fs := [.null, .int 0]) (C := "TreePress$Row") (T := kb_F1) (N := 2) hx hb ht kb_w1 kb_y1 kb_p1 hown (ht _ wd_bf675ff0) (ht _ wd_23abe21f) (ht _ wd_4182e433) hE.1 hP hD hS hE.2.2.2 rfl kb_d1 (Nat.le_of_ble_eq_true rfl) (Nat.le_of_ble_eq_true rfl) d_Tree_init_49 (fun qn13 H hP hD hS => ?_)
  have hP : va_P G.1 kb_cl [kb_o h 2 [.ref qn1, .ref qn4, .ref qn7, .ref qn10, .null, .null, .null, .null, .null, .null, .null, .null, .int 0, .int 0], kb_o qn1 1 [.ref (uu2.1 0), .int 0], kb_a G (uu2.1 0) 16 (fun _ => 0), kb_o qn4 1 [.ref (uu5.1 0), .int 0], kb_a G (uu5.1 0) 16 (fun _ => 0), kb_o qn7 1 [.ref (uu8.1 0), .int 0], kb_a G (uu8.1 0) 16 (fun _ => 0), kb_o qn10 1 [.ref (uu11.1 0), .int 0], kb_a G (uu11.1 0) 16 (fun _ => 0), kb_o qn13 1 [.null, .int 0]] H := hP
  have hD : va_D A [kb_o h 2 [.ref qn1, .ref qn4, .ref qn7, .ref qn10, .null, .null, .null, .null, .null, .null, .null, .null, .int 0, .int 0], kb_o qn1 1 [.ref (uu2.1 0), .int 0], kb_a G (uu2.1 0) 16 (fun _ => 0), kb_o qn4 1 [.ref (uu5.1 0), .int 0], kb_a G (uu5.1 0) 16 (fun _ => 0), kb_o qn7 1 [.ref (uu8.1 0), .int 0], kb_a G (uu8.1 0) 16 (fun _ => 0), kb_o qn10 1 [.ref (uu11.1 0), .int 0], kb_a G (uu11.1 0) 16 (fun _ => 0), kb_o qn13 1 [.null, .int 0]] := hD
  refine lv_dup hx hb d_Tree_init_52 rfl ?_
  refine kb_v (wc := [kb_o qn13 1 [.null, .int 0]]) (wr := [kb_o h 2 [.ref qn1, .ref qn4, .ref qn7, .ref qn10, .null, .null, .null, .null, .null, .null, .null, .null, .int 0, .int 0], kb_o qn1 1 [.ref (uu2.1 0), .int 0], kb_a G (uu2.1 0) 16 (fun _ => 0), kb_o qn4 1 [.ref (uu5.1 0), .int 0], kb_a G (uu5.1 0) 16 (fun _ => 0), kb_o qn7 1 [.ref (uu8.1 0), .int 0], kb_a G (uu8.1 0) 16 (fun _ => 0), kb_o qn10 1 [.ref (uu11.1 0), .int 0], kb_a G (uu11.1 0) 16 (fun _ => 0)]) hE hP hD hS [9] [0, 1, 2, 3, 4, 5, 6, 7, 8] rfl rfl (by decide) (by decide) (kb_rI (As := []) (rest := [.ref qn13, .ref h]) (wc := [kb_o qn13 1 [.null, .int 0]]) ⟨hx, hb, hml, hown, ht⟩ ((c_Row_init l G qn13) _) wd_120d8060 wd_4182e433 wd_dfe53b0a wd_48fb15c2 rfl hd_e8c59c19 ⟨(Nat.le_of_ble_eq_true rfl), (Nat.le_of_ble_eq_true rfl)⟩ hE hP hD hS [9] rfl (by decide) hl.1 rfl (Nat.le_of_ble_eq_true rfl) d_Tree_init_53 ⟨(Nat.le_of_ble_eq_true rfl), (Nat.le_of_ble_eq_true rfl)⟩) (fun uu14 H locs hw hP hD hS => ?_)
  have hP : va_P G.1 kb_cl [kb_o h 2 [.ref qn1, .ref qn4, .ref qn7, .ref qn10, .null, .null, .null, .null, .null, .null, .null, .null, .int 0, .int 0], kb_o qn1 1 [.ref (uu2.1 0), .int 0], kb_a G (uu2.1 0) 16 (fun _ => 0), kb_o qn4 1 [.ref (uu5.1 0), .int 0], kb_a G (uu5.1 0) 16 (fun _ => 0), kb_o qn7 1 [.ref (uu8.1 0), .int 0], kb_a G (uu8.1 0) 16 (fun _ => 0), kb_o qn10 1 [.ref (uu11.1 0), .int 0], kb_a G (uu11.1 0) 16 (fun _ => 0), kb_o qn13 1 [.ref (uu14.1 0), .int 0], kb_a G (uu14.1 0) 16 (fun _ => 0)] H := hP
  have hD : va_D A [kb_o h 2 [.ref qn1, .ref qn4, .ref qn7, .ref qn10, .null, .null, .null, .null, .null, .null, .null, .null, .int 0, .int 0], kb_o qn1 1 [.ref (uu2.1 0), .int 0], kb_a G (uu2.1 0) 16 (fun _ => 0), kb_o qn4 1 [.ref (uu5.1 0), .int 0], kb_a G (uu5.1 0) 16 (fun _ => 0), kb_o qn7 1 [.ref (uu8.1 0), .int 0], kb_a G (uu8.1 0) 16 (fun _ => 0), kb_o qn10 1 [.ref (uu11.1 0), .int 0], kb_a G (uu11.1 0) 16 (fun _ => 0), kb_o qn13 1 [.ref (uu14.1 0), .int 0], kb_a G (uu14.1 0) 16 (fun _ => 0)] := hD
  refine va_putF (D := G.1) (ci := 2) (v := .ref qn13) (ty := .object "TreePress$Row") (C := "TreePress$Tree") (T := kb_F2) (N := 14) hx hb ht kb_w2 kb_y2 kb_p2 kb_n2 hown hE.1 hP hD hS 0 rfl rfl 4 (by decide) (ht _ wd_8b978912) (fun _ h9 => h9) rfl hin rfl (by decide +kernel) rfl rfl (Nat.le_of_ble_eq_true rfl) d_Tree_init_56 (fun H locs hP hD hS => ?_)
  have hP : va_P G.1 kb_cl [kb_o h 2 [.ref qn1, .ref qn4, .ref qn7, .ref qn10, .ref qn13, .null, .null, .null, .null, .null, .null, .null, .int 0, .int 0], kb_o qn1 1 [.ref (uu2.1 0), .int 0], kb_a G (uu2.1 0) 16 (fun _ => 0), kb_o qn4 1 [.ref (uu5.1 0), .int 0], kb_a G (uu5.1 0) 16 (fun _ => 0), kb_o qn7 1 [.ref (uu8.1 0), .int 0], kb_a G (uu8.1 0) 16 (fun _ => 0), kb_o qn10 1 [.ref (uu11.1 0), .int 0], kb_a G (uu11.1 0) 16 (fun _ => 0), kb_o qn13 1 [.ref (uu14.1 0), .int 0], kb_a G (uu14.1 0) 16 (fun _ => 0)] H := hP
  have hD : va_D A [kb_o h 2 [.ref qn1, .ref qn4, .ref qn7, .ref qn10, .ref qn13, .null, .null, .null, .null, .null, .null, .null, .int 0, .int 0], kb_o qn1 1 [.ref (uu2.1 0), .int 0], kb_a G (uu2.1 0) 16 (fun _ => 0), kb_o qn4 1 [.ref (uu5.1 0), .int 0], kb_a G (uu5.1 0) 16 (fun _ => 0), kb_o qn7 1 [.ref (uu8.1 0), .int 0], kb_a G (uu8.1 0) 16 (fun _ => 0), kb_o qn10 1 [.ref (uu11.1 0), .int 0], kb_a G (uu11.1 0) 16 (fun _ => 0), kb_o qn13 1 [.ref (uu14.1 0), .int 0], kb_a G (uu14.1 0) 16 (fun _ => 0)] := hD
  refine lv_aload_n hx hb d_Tree_init_59 rfl (lv_at hl 0 rfl) ?_
  refine va_new (ci := 1) (fs := [.null, .int 0]) (C := "TreePress$Row") (T := kb_F1) (N := 2) hx hb ht kb_w1 kb_y1 kb_p1 hown (ht _ wd_bf675ff0) (ht _ wd_23abe21f) (ht _ wd_4182e433) hE.1 hP hD hS hE.2.2.2 rfl kb_d1 (Nat.le_of_ble_eq_true rfl) (Nat.le_of_ble_eq_true rfl) d_Tree_init_60 (fun qn16 H hP hD hS => ?_)
  have hP : va_P G.1 kb_cl [kb_o h 2 [.ref qn1, .ref qn4, .ref qn7, .ref qn10, .ref qn13, .null, .null, .null, .null, .null, .null, .null, .int 0, .int 0], kb_o qn1 1 [.ref (uu2.1 0), .int 0], kb_a G (uu2.1 0) 16 (fun _ => 0), kb_o qn4 1 [.ref (uu5.1 0), .int 0], kb_a G (uu5.1 0) 16 (fun _ => 0), kb_o qn7 1 [.ref (uu8.1 0), .int 0], kb_a G (uu8.1 0) 16 (fun _ => 0), kb_o qn10 1 [.ref (uu11.1 0), .int 0], kb_a G (uu11.1 0) 16 (fun _ => 0), kb_o qn13 1 [.ref (uu14.1 0), .int 0], kb_a G (uu14.1 0) 16 (fun _ => 0), kb_o qn16 1 [.null, .int 0]] H := hP
  have hD : va_D A [kb_o h 2 [.ref qn1, .ref qn4, .ref qn7, .ref qn10, .ref qn13, .null, .null, .null, .null, .null, .null, .null, .int 0, .int 0], kb_o qn1 1 [.ref (uu2.1 0), .int 0], kb_a G (uu2.1 0) 16 (fun _ => 0), kb_o qn4 1 [.ref (uu5.1 0), .int 0], kb_a G (uu5.1 0) 16 (fun _ => 0), kb_o qn7 1 [.ref (uu8.1 0), .int 0], kb_a G (uu8.1 0) 16 (fun _ => 0), kb_o qn10 1 [.ref (uu11.1 0), .int 0], kb_a G (uu11.1 0) 16 (fun _ => 0), kb_o qn13 1 [.ref (uu14.1 0), .int 0], kb_a G (uu14.1 0) 16 (fun _ => 0), kb_o qn16 1 [.null, .int 0]] := hD
  refine lv_dup hx hb d_Tree_init_63 rfl ?_
  refine kb_v (wc := [kb_o qn16 1 [.null, .int 0]]) (wr := [kb_o h 2 [.ref qn1, .ref qn4, .ref qn7, .ref qn10, .ref qn13, .null, .null, .null, .null, .null, .null, .null, .int 0, .int 0], kb_o qn1 1 [.ref (uu2.1 0), .int 0], kb_a G (uu2.1 0) 16 (fun _ => 0), kb_o qn4 1 [.ref (uu5.1 0), .int 0], kb_a G (uu5.1 0) 16 (fun _ => 0), kb_o qn7 1 [.ref (uu8.1 0), .int 0], kb_a G (uu8.1 0) 16 (fun _ => 0), kb_o qn10 1 [.ref (uu11.1 0), .int 0], kb_a G (uu11.1 0) 16 (fun _ => 0), kb_o qn13 1 [.ref (uu14.1 0), .int 0], kb_a G (uu14.1 0) 16 (fun _ => 0)]) hE hP hD hS [11] [0, 1, 2, 3, 4, 5, 6, 7, 8, 9, 10] rfl rfl (by decide) (by decide) (kb_rI (As := []) (rest := [.ref qn16, .ref h]) (wc := [kb_o qn16 1 [.null, .int 0]]) ⟨hx, hb, hml, hown, ht⟩ ((c_Row_init l G qn16) _) wd_120d8060 wd_4182e433 wd_dfe53b0a wd_48fb15c2 rfl hd_e8c59c19 ⟨(Nat.le_of_ble_eq_true rfl), (Nat.le_of_ble_eq_true rfl)⟩ hE hP hD hS [11] rfl (by decide) hl.1 rfl (Nat.le_of_ble_eq_true rfl) d_Tree_init_64 ⟨(Nat.le_of_ble_eq_true rfl), (Nat.le_of_ble_eq_true rfl)⟩) (fun uu17 H locs hw hP hD hS => ?_)
  have hP : va_P G.1 kb_cl [kb_o h 2 [.ref qn1, .ref qn4, .ref qn7, .ref qn10, .ref qn13, .null, .null, .null, .null, .null, .null, .null, .int 0, .int 0], kb_o qn1 1 [.ref (uu2.1 0), .int 0], kb_a G (uu2.1 0) 16 (fun _ => 0), kb_o qn4 1 [.ref (uu5.1 0), .int 0], kb_a G (uu5.1 0) 16 (fun _ => 0), kb_o qn7 1 [.ref (uu8.1 0), .int 0], kb_a G (uu8.1 0) 16 (fun _ => 0), kb_o qn10 1 [.ref (uu11.1 0), .int 0], kb_a G (uu11.1 0) 16 (fun _ => 0), kb_o qn13 1 [.ref (uu14.1 0), .int 0], kb_a G (uu14.1 0) 16 (fun _ => 0), kb_o qn16 1 [.ref (uu17.1 0), .int 0], kb_a G (uu17.1 0) 16 (fun _ => 0)] H := hP
  have hD : va_D A [kb_o h 2 [.ref qn1, .ref qn4, .ref qn7, .ref qn10, .ref qn13, .null, .null, .null, .null, .null, .null, .null, .int 0, .int 0], kb_o qn1 1 [.ref (uu2.1 0), .int 0], kb_a G (uu2.1 0) 16 (fun _ => 0), kb_o qn4 1 [.ref (uu5.1 0), .int 0], kb_a G (uu5.1 0) 16 (fun _ => 0), kb_o qn7 1 [.ref (uu8.1 0), .int 0], kb_a G (uu8.1 0) 16 (fun _ => 0), kb_o qn10 1 [.ref (uu11.1 0), .int 0], kb_a G (uu11.1 0) 16 (fun _ => 0), kb_o qn13 1 [.ref (uu14.1 0), .int 0], kb_a G (uu14.1 0) 16 (fun _ => 0), kb_o qn16 1 [.ref (uu17.1 0), .int 0], kb_a G (uu17.1 0) 16 (fun _ => 0)] := hD
  refine va_putF (D := G.1) (ci := 2) (v := .ref qn16) (ty := .object "TreePress$Row") (C := "TreePress$Tree") (T := kb_F2) (N := 14) hx hb ht kb_w2 kb_y2 kb_p2 kb_n2 hown hE.1 hP hD hS 0 rfl rfl 5 (by decide) (ht _ wd_5a2dade9) (fun _ h9 => h9) rfl hin rfl (by decide +kernel) rfl rfl (Nat.le_of_ble_eq_true rfl) d_Tree_init_67 (fun H locs hP hD hS => ?_)
  have hP : va_P G.1 kb_cl [kb_o h 2 [.ref qn1, .ref qn4, .ref qn7, .ref qn10, .ref qn13, .ref qn16, .null, .null, .null, .null, .null, .null, .int 0, .int 0], kb_o qn1 1 [.ref (uu2.1 0), .int 0], kb_a G (uu2.1 0) 16 (fun _ => 0), kb_o qn4 1 [.ref (uu5.1 0), .int 0], kb_a G (uu5.1 0) 16 (fun _ => 0), kb_o qn7 1 [.ref (uu8.1 0), .int 0], kb_a G (uu8.1 0) 16 (fun _ => 0), kb_o qn10 1 [.ref (uu11.1 0), .int 0], kb_a G (uu11.1 0) 16 (fun _ => 0), kb_o qn13 1 [.ref (uu14.1 0), .int 0], kb_a G (uu14.1 0) 16 (fun _ => 0), kb_o qn16 1 [.ref (uu17.1 0), .int 0], kb_a G (uu17.1 0) 16 (fun _ => 0)] H := hP
  have hD : va_D A [kb_o h 2 [.ref qn1, .ref qn4, .ref qn7, .ref qn10, .ref qn13, .ref qn16, .null, .null, .null, .null, .null, .null, .int 0, .int 0], kb_o qn1 1 [.ref (uu2.1 0), .int 0], kb_a G (uu2.1 0) 16 (fun _ => 0), kb_o qn4 1 [.ref (uu5.1 0), .int 0], kb_a G (uu5.1 0) 16 (fun _ => 0), kb_o qn7 1 [.ref (uu8.1 0), .int 0], kb_a G (uu8.1 0) 16 (fun _ => 0), kb_o qn10 1 [.ref (uu11.1 0), .int 0], kb_a G (uu11.1 0) 16 (fun _ => 0), kb_o qn13 1 [.ref (uu14.1 0), .int 0], kb_a G (uu14.1 0) 16 (fun _ => 0), kb_o qn16 1 [.ref (uu17.1 0), .int 0], kb_a G (uu17.1 0) 16 (fun _ => 0)] := hD
  refine lv_aload_n hx hb d_Tree_init_70 rfl (lv_at hl 0 rfl) ?_
  refine va_new (ci := 1) (fs := [.null, .int 0]) (C := "TreePress$Row") (T := kb_F1) (N := 2) hx hb ht kb_w1 kb_y1 kb_p1 hown (ht _ wd_bf675ff0) (ht _ wd_23abe21f) (ht _ wd_4182e433) hE.1 hP hD hS hE.2.2.2 rfl kb_d1 (Nat.le_of_ble_eq_true rfl) (Nat.le_of_ble_eq_true rfl) d_Tree_init_71 (fun qn19 H hP hD hS => ?_)
  have hP : va_P G.1 kb_cl [kb_o h 2 [.ref qn1, .ref qn4, .ref qn7, .ref qn10, .ref qn13, .ref qn16, .null, .null, .null, .null, .null, .null, .int 0, .int 0], kb_o qn1 1 [.ref (uu2.1 0), .int 0], kb_a G (uu2.1 0) 16 (fun _ => 0), kb_o qn4 1 [.ref (uu5.1 0), .int 0], kb_a G (uu5.1 0) 16 (fun _ => 0), kb_o qn7 1 [.ref (uu8.1 0), .int 0], kb_a G (uu8.1 0) 16 (fun _ => 0), kb_o qn10 1 [.ref (uu11.1 0), .int 0], kb_a G (uu11.1 0) 16 (fun _ => 0), kb_o qn13 1 [.ref (uu14.1 0), .int 0], kb_a G (uu14.1 0) 16 (fun _ => 0), kb_o qn16 1 [.ref (uu17.1 0), .int 0], kb_a G (uu17.1 0) 16 (fun _ => 0), kb_o qn19 1 [.null, .int 0]] H := hP
  have hD : va_D A [kb_o h 2 [.ref qn1, .ref qn4, .ref qn7, .ref qn10, .ref qn13, .ref qn16, .null, .null, .null, .null, .null, .null, .int 0, .int 0], kb_o qn1 1 [.ref (uu2.1 0), .int 0], kb_a G (uu2.1 0) 16 (fun _ => 0), kb_o qn4 1 [.ref (uu5.1 0), .int 0], kb_a G (uu5.1 0) 16 (fun _ => 0), kb_o qn7 1 [.ref (uu8.1 0), .int 0], kb_a G (uu8.1 0) 16 (fun _ => 0), kb_o qn10 1 [.ref (uu11.1 0), .int 0], kb_a G (uu11.1 0) 16 (fun _ => 0), kb_o qn13 1 [.ref (uu14.1 0), .int 0], kb_a G (uu14.1 0) 16 (fun _ => 0), kb_o qn16 1 [.ref (uu17.1 0), .int 0], kb_a G (uu17.1 0) 16 (fun _ => 0), kb_o qn19 1 [.null, .int 0]] := hD
  refine lv_dup hx hb d_Tree_init_74 rfl ?_
  refine kb_v (wc := [kb_o qn19 1 [.null, .int 0]]) (wr := [kb_o h 2 [.ref qn1, .ref qn4, .ref qn7, .ref qn10, .ref qn13, .ref qn16, .null, .null, .null, .null, .null, .null, .int 0, .int 0], kb_o qn1 1 [.ref (uu2.1 0), .int 0], kb_a G (uu2.1 0) 16 (fun _ => 0), kb_o qn4 1 [.ref (uu5.1 0), .int 0], kb_a G (uu5.1 0) 16 (fun _ => 0), kb_o qn7 1 [.ref (uu8.1 0), .int 0], kb_a G (uu8.1 0) 16 (fun _ => 0), kb_o qn10 1 [.ref (uu11.1 0), .int 0], kb_a G (uu11.1 0) 16 (fun _ => 0), kb_o qn13 1 [.ref (uu14.1 0), .int 0], kb_a G (uu14.1 0) 16 (fun _ => 0), kb_o qn16 1 [.ref (uu17.1 0), .int 0], kb_a G (uu17.1 0) 16 (fun _ => 0)]) hE hP hD hS [13] [0, 1, 2, 3, 4, 5, 6, 7, 8, 9, 10, 11, 12] rfl rfl (by decide) (by decide) (kb_rI (As := []) (rest := [.ref qn19, .ref h]) (wc := [kb_o qn19 1 [.null, .int 0]]) ⟨hx, hb, hml, hown, ht⟩ ((c_Row_init l G qn19) _) wd_120d8060 wd_4182e433 wd_dfe53b0a wd_48fb15c2 rfl hd_e8c59c19 ⟨(Nat.le_of_ble_eq_true rfl), (Nat.le_of_ble_eq_true rfl)⟩ hE hP hD hS [13] rfl (by decide) hl.1 rfl (Nat.le_of_ble_eq_true rfl) d_Tree_init_75 ⟨(Nat.le_of_ble_eq_true rfl), (Nat.le_of_ble_eq_true rfl)⟩) (fun uu20 H locs hw hP hD hS => ?_)
  have hP : va_P G.1 kb_cl [kb_o h 2 [.ref qn1, .ref qn4, .ref qn7, .ref qn10, .ref qn13, .ref qn16, .null, .null, .null, .null, .null, .null, .int 0, .int 0], kb_o qn1 1 [.ref (uu2.1 0), .int 0], kb_a G (uu2.1 0) 16 (fun _ => 0), kb_o qn4 1 [.ref (uu5.1 0), .int 0], kb_a G (uu5.1 0) 16 (fun _ => 0), kb_o qn7 1 [.ref (uu8.1 0), .int 0], kb_a G (uu8.1 0) 16 (fun _ => 0), kb_o qn10 1 [.ref (uu11.1 0), .int 0], kb_a G (uu11.1 0) 16 (fun _ => 0), kb_o qn13 1 [.ref (uu14.1 0), .int 0], kb_a G (uu14.1 0) 16 (fun _ => 0), kb_o qn16 1 [.ref (uu17.1 0), .int 0], kb_a G (uu17.1 0) 16 (fun _ => 0), kb_o qn19 1 [.ref (uu20.1 0), .int 0], kb_a G (uu20.1 0) 16 (fun _ => 0)] H := hP
  have hD : va_D A [kb_o h 2 [.ref qn1, .ref qn4, .ref qn7, .ref qn10, .ref qn13, .ref qn16, .null, .null, .null, .null, .null, .null, .int 0, .int 0], kb_o qn1 1 [.ref (uu2.1 0), .int 0], kb_a G (uu2.1 0) 16 (fun _ => 0), kb_o qn4 1 [.ref (uu5.1 0), .int 0], kb_a G (uu5.1 0) 16 (fun _ => 0), kb_o qn7 1 [.ref (uu8.1 0), .int 0], kb_a G (uu8.1 0) 16 (fun _ => 0), kb_o qn10 1 [.ref (uu11.1 0), .int 0], kb_a G (uu11.1 0) 16 (fun _ => 0), kb_o qn13 1 [.ref (uu14.1 0), .int 0], kb_a G (uu14.1 0) 16 (fun _ => 0), kb_o qn16 1 [.ref (uu17.1 0), .int 0], kb_a G (uu17.1 0) 16 (fun _ => 0), kb_o qn19 1 [.ref (uu20.1 0), .int 0], kb_a G (uu20.1 0) 16 (fun _ => 0)] := hD
  refine va_putF (D := G.1) (ci := 2) (v := .ref qn19) (ty := .object "TreePress$Row") (C := "TreePress$Tree") (T := kb_F2) (N := 14) hx hb ht kb_w2 kb_y2 kb_p2 kb_n2 hown hE.1 hP hD hS 0 rfl rfl 6 (by decide) (ht _ wd_a1ee67c2) (fun _ h9 => h9) rfl hin rfl (by decide +kernel) rfl rfl (Nat.le_of_ble_eq_true rfl) d_Tree_init_78 (fun H locs hP hD hS => ?_)
  have hP : va_P G.1 kb_cl [kb_o h 2 [.ref qn1, .ref qn4, .ref qn7, .ref qn10, .ref qn13, .ref qn16, .ref qn19, .null, .null, .null, .null, .null, .int 0, .int 0], kb_o qn1 1 [.ref (uu2.1 0), .int 0], kb_a G (uu2.1 0) 16 (fun _ => 0), kb_o qn4 1 [.ref (uu5.1 0), .int 0], kb_a G (uu5.1 0) 16 (fun _ => 0), kb_o qn7 1 [.ref (uu8.1 0), .int 0], kb_a G (uu8.1 0) 16 (fun _ => 0), kb_o qn10 1 [.ref (uu11.1 0), .int 0], kb_a G (uu11.1 0) 16 (fun _ => 0), kb_o qn13 1 [.ref (uu14.1 0), .int 0], kb_a G (uu14.1 0) 16 (fun _ => 0), kb_o qn16 1 [.ref (uu17.1 0), .int 0], kb_a G (uu17.1 0) 16 (fun _ => 0), kb_o qn19 1 [.ref (uu20.1 0), .int 0], kb_a G (uu20.1 0) 16 (fun _ => 0)] H := hP
  have hD : va_D A [kb_o h 2 [.ref qn1, .ref qn4, .ref qn7, .ref qn10, .ref qn13, .ref qn16, .ref qn19, .null, .null, .null, .null, .null, .int 0, .int 0], kb_o qn1 1 [.ref (uu2.1 0), .int 0], kb_a G (uu2.1 0) 16 (fun _ => 0), kb_o qn4 1 [.ref (uu5.1 0), .int 0], kb_a G (uu5.1 0) 16 (fun _ => 0), kb_o qn7 1 [.ref (uu8.1 0), .int 0], kb_a G (uu8.1 0) 16 (fun _ => 0), kb_o qn10 1 [.ref (uu11.1 0), .int 0], kb_a G (uu11.1 0) 16 (fun _ => 0), kb_o qn13 1 [.ref (uu14.1 0), .int 0], kb_a G (uu14.1 0) 16 (fun _ => 0), kb_o qn16 1 [.ref (uu17.1 0), .int 0], kb_a G (uu17.1 0) 16 (fun _ => 0), kb_o qn19 1 [.ref (uu20.1 0), .int 0], kb_a G (uu20.1 0) 16 (fun _ => 0)] := hD
  refine lv_aload_n hx hb d_Tree_init_81 rfl (lv_at hl 0 rfl) ?_
  refine va_new (ci := 1) (fs := [.null, .int 0]) (C := "TreePress$Row") (T := kb_F1) (N := 2) hx hb ht kb_w1 kb_y1 kb_p1 hown (ht _ wd_bf675ff0) (ht _ wd_23abe21f) (ht _ wd_4182e433) hE.1 hP hD hS hE.2.2.2 rfl kb_d1 (Nat.le_of_ble_eq_true rfl) (Nat.le_of_ble_eq_true rfl) d_Tree_init_82 (fun qn22 H hP hD hS => ?_)
  have hP : va_P G.1 kb_cl [kb_o h 2 [.ref qn1, .ref qn4, .ref qn7, .ref qn10, .ref qn13, .ref qn16, .ref qn19, .null, .null, .null, .null, .null, .int 0, .int 0], kb_o qn1 1 [.ref (uu2.1 0), .int 0], kb_a G (uu2.1 0) 16 (fun _ => 0), kb_o qn4 1 [.ref (uu5.1 0), .int 0], kb_a G (uu5.1 0) 16 (fun _ => 0), kb_o qn7 1 [.ref (uu8.1 0), .int 0], kb_a G (uu8.1 0) 16 (fun _ => 0), kb_o qn10 1 [.ref (uu11.1 0), .int 0], kb_a G (uu11.1 0) 16 (fun _ => 0), kb_o qn13 1 [.ref (uu14.1 0), .int 0], kb_a G (uu14.1 0) 16 (fun _ => 0), kb_o qn16 1 [.ref (uu17.1 0), .int 0], kb_a G (uu17.1 0) 16 (fun _ => 0), kb_o qn19 1 [.ref (uu20.1 0), .int 0], kb_a G (uu20.1 0) 16 (fun _ => 0), kb_o qn22 1 [.null, .int 0]] H := hP
  have hD : va_D A [kb_o h 2 [.ref qn1, .ref qn4, .ref qn7, .ref qn10, .ref qn13, .ref qn16, .ref qn19, .null, .null, .null, .null, .null, .int 0, .int 0], kb_o qn1 1 [.ref (uu2.1 0), .int 0], kb_a G (uu2.1 0) 16 (fun _ => 0), kb_o qn4 1 [.ref (uu5.1 0), .int 0], kb_a G (uu5.1 0) 16 (fun _ => 0), kb_o qn7 1 [.ref (uu8.1 0), .int 0], kb_a G (uu8.1 0) 16 (fun _ => 0), kb_o qn10 1 [.ref (uu11.1 0), .int 0], kb_a G (uu11.1 0) 16 (fun _ => 0), kb_o qn13 1 [.ref (uu14.1 0), .int 0], kb_a G (uu14.1 0) 16 (fun _ => 0), kb_o qn16 1 [.ref (uu17.1 0), .int 0], kb_a G (uu17.1 0) 16 (fun _ => 0), kb_o qn19 1 [.ref (uu20.1 0), .int 0], kb_a G (uu20.1 0) 16 (fun _ => 0), kb_o qn22 1 [.null, .int 0]] := hD
  refine lv_dup hx hb d_Tree_init_85 rfl ?_
  refine kb_v (wc := [kb_o qn22 1 [.null, .int 0]]) (wr := [kb_o h 2 [.ref qn1, .ref qn4, .ref qn7, .ref qn10, .ref qn13, .ref qn16, .ref qn19, .null, .null, .null, .null, .null, .int 0, .int 0], kb_o qn1 1 [.ref (uu2.1 0), .int 0], kb_a G (uu2.1 0) 16 (fun _ => 0), kb_o qn4 1 [.ref (uu5.1 0), .int 0], kb_a G (uu5.1 0) 16 (fun _ => 0), kb_o qn7 1 [.ref (uu8.1 0), .int 0], kb_a G (uu8.1 0) 16 (fun _ => 0), kb_o qn10 1 [.ref (uu11.1 0), .int 0], kb_a G (uu11.1 0) 16 (fun _ => 0), kb_o qn13 1 [.ref (uu14.1 0), .int 0], kb_a G (uu14.1 0) 16 (fun _ => 0), kb_o qn16 1 [.ref (uu17.1 0), .int 0], kb_a G (uu17.1 0) 16 (fun _ => 0), kb_o qn19 1 [.ref (uu20.1 0), .int 0], kb_a G (uu20.1 0) 16 (fun _ => 0)]) hE hP hD hS [15] [0, 1, 2, 3, 4, 5, 6, 7, 8, 9, 10, 11, 12, 13, 14] rfl rfl (by decide) (by decide) (kb_rI (As := []) (rest := [.ref qn22, .ref h]) (wc := [kb_o qn22 1 [.null, .int 0]]) ⟨hx, hb, hml, hown, ht⟩ ((c_Row_init l G qn22) _) wd_120d8060 wd_4182e433 wd_dfe53b0a wd_48fb15c2 rfl hd_e8c59c19 ⟨(Nat.le_of_ble_eq_true rfl), (Nat.le_of_ble_eq_true rfl)⟩ hE hP hD hS [15] rfl (by decide) hl.1 rfl (Nat.le_of_ble_eq_true rfl) d_Tree_init_86 ⟨(Nat.le_of_ble_eq_true rfl), (Nat.le_of_ble_eq_true rfl)⟩) (fun uu23 H locs hw hP hD hS => ?_)
  have hP : va_P G.1 kb_cl [kb_o h 2 [.ref qn1, .ref qn4, .ref qn7, .ref qn10, .ref qn13, .ref qn16, .ref qn19, .null, .null, .null, .null, .null, .int 0, .int 0], kb_o qn1 1 [.ref (uu2.1 0), .int 0], kb_a G (uu2.1 0) 16 (fun _ => 0), kb_o qn4 1 [.ref (uu5.1 0), .int 0], kb_a G (uu5.1 0) 16 (fun _ => 0), kb_o qn7 1 [.ref (uu8.1 0), .int 0], kb_a G (uu8.1 0) 16 (fun _ => 0), kb_o qn10 1 [.ref (uu11.1 0), .int 0], kb_a G (uu11.1 0) 16 (fun _ => 0), kb_o qn13 1 [.ref (uu14.1 0), .int 0], kb_a G (uu14.1 0) 16 (fun _ => 0), kb_o qn16 1 [.ref (uu17.1 0), .int 0], kb_a G (uu17.1 0) 16 (fun _ => 0), kb_o qn19 1 [.ref (uu20.1 0), .int 0], kb_a G (uu20.1 0) 16 (fun _ => 0), kb_o qn22 1 [.ref (uu23.1 0), .int 0], kb_a G (uu23.1 0) 16 (fun _ => 0)] H := hP
  have hD : va_D A [kb_o h 2 [.ref qn1, .ref qn4, .ref qn7, .ref qn10, .ref qn13, .ref qn16, .ref qn19, .null, .null, .null, .null, .null, .int 0, .int 0], kb_o qn1 1 [.ref (uu2.1 0), .int 0], kb_a G (uu2.1 0) 16 (fun _ => 0), kb_o qn4 1 [.ref (uu5.1 0), .int 0], kb_a G (uu5.1 0) 16 (fun _ => 0), kb_o qn7 1 [.ref (uu8.1 0), .int 0], kb_a G (uu8.1 0) 16 (fun _ => 0), kb_o qn10 1 [.ref (uu11.1 0), .int 0], kb_a G (uu11.1 0) 16 (fun _ => 0), kb_o qn13 1 [.ref (uu14.1 0), .int 0], kb_a G (uu14.1 0) 16 (fun _ => 0), kb_o qn16 1 [.ref (uu17.1 0), .int 0], kb_a G (uu17.1 0) 16 (fun _ => 0), kb_o qn19 1 [.ref (uu20.1 0), .int 0], kb_a G (uu20.1 0) 16 (fun _ => 0), kb_o qn22 1 [.ref (uu23.1 0), .int 0], kb_a G (uu23.1 0) 16 (fun _ => 0)] := hD
  refine va_putF (D := G.1) (ci := 2) (v := .ref qn22) (ty := .object "TreePress$Row") (C := "TreePress$Tree") (T := kb_F2) (N := 14) hx hb ht kb_w2 kb_y2 kb_p2 kb_n2 hown hE.1 hP hD hS 0 rfl rfl 7 (by decide) (ht _ wd_99a1932c) (fun _ h9 => h9) rfl hin rfl (by decide +kernel) rfl rfl (Nat.le_of_ble_eq_true rfl) d_Tree_init_89 (fun H locs hP hD hS => ?_)
  have hP : va_P G.1 kb_cl [kb_o h 2 [.ref qn1, .ref qn4, .ref qn7, .ref qn10, .ref qn13, .ref qn16, .ref qn19, .ref qn22, .null, .null, .null, .null, .int 0, .int 0], kb_o qn1 1 [.ref (uu2.1 0), .int 0], kb_a G (uu2.1 0) 16 (fun _ => 0), kb_o qn4 1 [.ref (uu5.1 0), .int 0], kb_a G (uu5.1 0) 16 (fun _ => 0), kb_o qn7 1 [.ref (uu8.1 0), .int 0], kb_a G (uu8.1 0) 16 (fun _ => 0), kb_o qn10 1 [.ref (uu11.1 0), .int 0], kb_a G (uu11.1 0) 16 (fun _ => 0), kb_o qn13 1 [.ref (uu14.1 0), .int 0], kb_a G (uu14.1 0) 16 (fun _ => 0), kb_o qn16 1 [.ref (uu17.1 0), .int 0], kb_a G (uu17.1 0) 16 (fun _ => 0), kb_o qn19 1 [.ref (uu20.1 0), .int 0], kb_a G (uu20.1 0) 16 (fun _ => 0), kb_o qn22 1 [.ref (uu23.1 0), .int 0], kb_a G (uu23.1 0) 16 (fun _ => 0)] H := hP
  have hD : va_D A [kb_o h 2 [.ref qn1, .ref qn4, .ref qn7, .ref qn10, .ref qn13, .ref qn16, .ref qn19, .ref qn22, .null, .null, .null, .null, .int 0, .int 0], kb_o qn1 1 [.ref (uu2.1 0), .int 0], kb_a G (uu2.1 0) 16 (fun _ => 0), kb_o qn4 1 [.ref (uu5.1 0), .int 0], kb_a G (uu5.1 0) 16 (fun _ => 0), kb_o qn7 1 [.ref (uu8.1 0), .int 0], kb_a G (uu8.1 0) 16 (fun _ => 0), kb_o qn10 1 [.ref (uu11.1 0), .int 0], kb_a G (uu11.1 0) 16 (fun _ => 0), kb_o qn13 1 [.ref (uu14.1 0), .int 0], kb_a G (uu14.1 0) 16 (fun _ => 0), kb_o qn16 1 [.ref (uu17.1 0), .int 0], kb_a G (uu17.1 0) 16 (fun _ => 0), kb_o qn19 1 [.ref (uu20.1 0), .int 0], kb_a G (uu20.1 0) 16 (fun _ => 0), kb_o qn22 1 [.ref (uu23.1 0), .int 0], kb_a G (uu23.1 0) 16 (fun _ => 0)] := hD
  refine lv_aload_n hx hb d_Tree_init_92 rfl (lv_at hl 0 rfl) ?_
  refine va_new (ci := 1) (fs := [.null, .int 0]) (C := "TreePress$Row") (T := kb_F1) (N := 2) hx hb ht kb_w1 kb_y1 kb_p1 hown (ht _ wd_bf675ff0) (ht _ wd_23abe21f) (ht _ wd_4182e433) hE.1 hP hD hS hE.2.2.2 rfl kb_d1 (Nat.le_of_ble_eq_true rfl) (Nat.le_of_ble_eq_true rfl) d_Tree_init_93 (fun qn25 H hP hD hS => ?_)
  have hP : va_P G.1 kb_cl [kb_o h 2 [.ref qn1, .ref qn4, .ref qn7, .ref qn10, .ref qn13, .ref qn16, .ref qn19, .ref qn22, .null, .null, .null, .null, .int 0, .int 0], kb_o qn1 1 [.ref (uu2.1 0), .int 0], kb_a G (uu2.1 0) 16 (fun _ => 0), kb_o qn4 1 [.ref (uu5.1 0), .int 0], kb_a G (uu5.1 0) 16 (fun _ => 0), kb_o qn7 1 [.ref (uu8.1 0), .int 0], kb_a G (uu8.1 0) 16 (fun _ => 0), kb_o qn10 1 [.ref (uu11.1 0), .int 0], kb_a G (uu11.1 0) 16 (fun _ => 0), kb_o qn13 1 [.ref (uu14.1 0), .int 0], kb_a G (uu14.1 0) 16 (fun _ => 0), kb_o qn16 1 [.ref (uu17.1 0), .int 0], kb_a G (uu17.1 0) 16 (fun _ => 0), kb_o qn19 1 [.ref (uu20.1 0), .int 0], kb_a G (uu20.1 0) 16 (fun _ => 0), kb_o qn22 1 [.ref (uu23.1 0), .int 0], kb_a G (uu23.1 0) 16 (fun _ => 0), kb_o qn25 1 [.null, .int 0]] H := hP
  have hD : va_D A [kb_o h 2 [.ref qn1, .ref qn4, .ref qn7, .ref qn10, .ref qn13, .ref qn16, .ref qn19, .ref qn22, .null, .null, .null, .null, .int 0, .int 0], kb_o qn1 1 [.ref (uu2.1 0), .int 0], kb_a G (uu2.1 0) 16 (fun _ => 0), kb_o qn4 1 [.ref (uu5.1 0), .int 0], kb_a G (uu5.1 0) 16 (fun _ => 0), kb_o qn7 1 [.ref (uu8.1 0), .int 0], kb_a G (uu8.1 0) 16 (fun _ => 0), kb_o qn10 1 [.ref (uu11.1 0), .int 0], kb_a G (uu11.1 0) 16 (fun _ => 0), kb_o qn13 1 [.ref (uu14.1 0), .int 0], kb_a G (uu14.1 0) 16 (fun _ => 0), kb_o qn16 1 [.ref (uu17.1 0), .int 0], kb_a G (uu17.1 0) 16 (fun _ => 0), kb_o qn19 1 [.ref (uu20.1 0), .int 0], kb_a G (uu20.1 0) 16 (fun _ => 0), kb_o qn22 1 [.ref (uu23.1 0), .int 0], kb_a G (uu23.1 0) 16 (fun _ => 0), kb_o qn25 1 [.null, .int 0]] := hD
  refine lv_dup hx hb d_Tree_init_96 rfl ?_
  refine kb_v (wc := [kb_o qn25 1 [.null, .int 0]]) (wr := [kb_o h 2 [.ref qn1, .ref qn4, .ref qn7, .ref qn10, .ref qn13, .ref qn16, .ref qn19, .ref qn22, .null, .null, .null, .null, .int 0, .int 0], kb_o qn1 1 [.ref (uu2.1 0), .int 0], kb_a G (uu2.1 0) 16 (fun _ => 0), kb_o qn4 1 [.ref (uu5.1 0), .int 0], kb_a G (uu5.1 0) 16 (fun _ => 0), kb_o qn7 1 [.ref (uu8.1 0), .int 0], kb_a G (uu8.1 0) 16 (fun _ => 0), kb_o qn10 1 [.ref (uu11.1 0), .int 0], kb_a G (uu11.1 0) 16 (fun _ => 0), kb_o qn13 1 [.ref (uu14.1 0), .int 0], kb_a G (uu14.1 0) 16 (fun _ => 0), kb_o qn16 1 [.ref (uu17.1 0), .int 0], kb_a G (uu17.1 0) 16 (fun _ => 0), kb_o qn19 1 [.ref (uu20.1 0), .int 0], kb_a G (uu20.1 0) 16 (fun _ => 0), kb_o qn22 1 [.ref (uu23.1 0), .int 0], kb_a G (uu23.1 0) 16 (fun _ => 0)]) hE hP hD hS [17] [0, 1, 2, 3, 4, 5, 6, 7, 8, 9, 10, 11, 12, 13, 14, 15, 16] rfl rfl (by decide) (by decide) (kb_rI (As := []) (rest := [.ref qn25, .ref h]) (wc := [kb_o qn25 1 [.null, .int 0]]) ⟨hx, hb, hml, hown, ht⟩ ((c_Row_init l G qn25) _) wd_120d8060 wd_4182e433 wd_dfe53b0a wd_48fb15c2 rfl hd_e8c59c19 ⟨(Nat.le_of_ble_eq_true rfl), (Nat.le_of_ble_eq_true rfl)⟩ hE hP hD hS [17] rfl (by decide) hl.1 rfl (Nat.le_of_ble_eq_true rfl) d_Tree_init_97 ⟨(Nat.le_of_ble_eq_true rfl), (Nat.le_of_ble_eq_true rfl)⟩) (fun uu26 H locs hw hP hD hS => ?_)
  have hP : va_P G.1 kb_cl [kb_o h 2 [.ref qn1, .ref qn4, .ref qn7, .ref qn10, .ref qn13, .ref qn16, .ref qn19, .ref qn22, .null, .null, .null, .null, .int 0, .int 0], kb_o qn1 1 [.ref (uu2.1 0), .int 0], kb_a G (uu2.1 0) 16 (fun _ => 0), kb_o qn4 1 [.ref (uu5.1 0), .int 0], kb_a G (uu5.1 0) 16 (fun _ => 0), kb_o qn7 1 [.ref (uu8.1 0), .int 0], kb_a G (uu8.1 0) 16 (fun _ => 0), kb_o qn10 1 [.ref (uu11.1 0), .int 0], kb_a G (uu11.1 0) 16 (fun _ => 0), kb_o qn13 1 [.ref (uu14.1 0), .int 0], kb_a G (uu14.1 0) 16 (fun _ => 0), kb_o qn16 1 [.ref (uu17.1 0), .int 0], kb_a G (uu17.1 0) 16 (fun _ => 0), kb_o qn19 1 [.ref (uu20.1 0), .int 0], kb_a G (uu20.1 0) 16 (fun _ => 0), kb_o qn22 1 [.ref (uu23.1 0), .int 0], kb_a G (uu23.1 0) 16 (fun _ => 0), kb_o qn25 1 [.ref (uu26.1 0), .int 0], kb_a G (uu26.1 0) 16 (fun _ => 0)] H := hP
  have hD : va_D A [kb_o h 2 [.ref qn1, .ref qn4, .ref qn7, .ref qn10, .ref qn13, .ref qn16, .ref qn19, .ref qn22, .null, .null, .null, .null, .int 0, .int 0], kb_o qn1 1 [.ref (uu2.1 0), .int 0], kb_a G (uu2.1 0) 16 (fun _ => 0), kb_o qn4 1 [.ref (uu5.1 0), .int 0], kb_a G (uu5.1 0) 16 (fun _ => 0), kb_o qn7 1 [.ref (uu8.1 0), .int 0], kb_a G (uu8.1 0) 16 (fun _ => 0), kb_o qn10 1 [.ref (uu11.1 0), .int 0], kb_a G (uu11.1 0) 16 (fun _ => 0), kb_o qn13 1 [.ref (uu14.1 0), .int 0], kb_a G (uu14.1 0) 16 (fun _ => 0), kb_o qn16 1 [.ref (uu17.1 0), .int 0], kb_a G (uu17.1 0) 16 (fun _ => 0), kb_o qn19 1 [.ref (uu20.1 0), .int 0], kb_a G (uu20.1 0) 16 (fun _ => 0), kb_o qn22 1 [.ref (uu23.1 0), .int 0], kb_a G (uu23.1 0) 16 (fun _ => 0), kb_o qn25 1 [.ref (uu26.1 0), .int 0], kb_a G (uu26.1 0) 16 (fun _ => 0)] := hD
  refine va_putF (D := G.1) (ci := 2) (v := .ref qn25) (ty := .object "TreePress$Row") (C := "TreePress$Tree") (T := kb_F2) (N := 14) hx hb ht kb_w2 kb_y2 kb_p2 kb_n2 hown hE.1 hP hD hS 0 rfl rfl 8 (by decide) (ht _ wd_341ee72b) (fun _ h9 => h9) rfl hin rfl (by decide +kernel) rfl rfl (Nat.le_of_ble_eq_true rfl) d_Tree_init_100 (fun H locs hP hD hS => ?_)
  have hP : va_P G.1 kb_cl [kb_o h 2 [.ref qn1, .ref qn4, .ref qn7, .ref qn10, .ref qn13, .ref qn16, .ref qn19, .ref qn22, .ref qn25, .null, .null, .null, .int 0, .int 0], kb_o qn1 1 [.ref (uu2.1 0), .int 0], kb_a G (uu2.1 0) 16 (fun _ => 0), kb_o qn4 1 [.ref (uu5.1 0), .int 0], kb_a G (uu5.1 0) 16 (fun _ => 0), kb_o qn7 1 [.ref (uu8.1 0), .int 0], kb_a G (uu8.1 0) 16 (fun _ => 0), kb_o qn10 1 [.ref (uu11.1 0), .int 0], kb_a G (uu11.1 0) 16 (fun _ => 0), kb_o qn13 1 [.ref (uu14.1 0), .int 0], kb_a G (uu14.1 0) 16 (fun _ => 0), kb_o qn16 1 [.ref (uu17.1 0), .int 0], kb_a G (uu17.1 0) 16 (fun _ => 0), kb_o qn19 1 [.ref (uu20.1 0), .int 0], kb_a G (uu20.1 0) 16 (fun _ => 0), kb_o qn22 1 [.ref (uu23.1 0), .int 0], kb_a G (uu23.1 0) 16 (fun _ => 0), kb_o qn25 1 [.ref (uu26.1 0), .int 0], kb_a G (uu26.1 0) 16 (fun _ => 0)] H := hP
  have hD : va_D A [kb_o h 2 [.ref qn1, .ref qn4, .ref qn7, .ref qn10, .ref qn13, .ref qn16, .ref qn19, .ref qn22, .ref qn25, .null, .null, .null, .int 0, .int 0], kb_o qn1 1 [.ref (uu2.1 0), .int 0], kb_a G (uu2.1 0) 16 (fun _ => 0), kb_o qn4 1 [.ref (uu5.1 0), .int 0], kb_a G (uu5.1 0) 16 (fun _ => 0), kb_o qn7 1 [.ref (uu8.1 0), .int 0], kb_a G (uu8.1 0) 16 (fun _ => 0), kb_o qn10 1 [.ref (uu11.1 0), .int 0], kb_a G (uu11.1 0) 16 (fun _ => 0), kb_o qn13 1 [.ref (uu14.1 0), .int 0], kb_a G (uu14.1 0) 16 (fun _ => 0), kb_o qn16 1 [.ref (uu17.1 0), .int 0], kb_a G (uu17.1 0) 16 (fun _ => 0), kb_o qn19 1 [.ref (uu20.1 0), .int 0], kb_a G (uu20.1 0) 16 (fun _ => 0), kb_o qn22 1 [.ref (uu23.1 0), .int 0], kb_a G (uu23.1 0) 16 (fun _ => 0), kb_o qn25 1 [.ref (uu26.1 0), .int 0], kb_a G (uu26.1 0) 16 (fun _ => 0)] := hD
  refine lv_aload_n hx hb d_Tree_init_103 rfl (lv_at hl 0 rfl) ?_
  refine va_new (ci := 1) (fs := [.null, .int 0]) (C := "TreePress$Row") (T := kb_F1) (N := 2) hx hb ht kb_w1 kb_y1 kb_p1 hown (ht _ wd_bf675ff0) (ht _ wd_23abe21f) (ht _ wd_4182e433) hE.1 hP hD hS hE.2.2.2 rfl kb_d1 (Nat.le_of_ble_eq_true rfl) (Nat.le_of_ble_eq_true rfl) d_Tree_init_104 (fun qn28 H hP hD hS => ?_)
  have hP : va_P G.1 kb_cl [kb_o h 2 [.ref qn1, .ref qn4, .ref qn7, .ref qn10, .ref qn13, .ref qn16, .ref qn19, .ref qn22, .ref qn25, .null, .null, .null, .int 0, .int 0], kb_o qn1 1 [.ref (uu2.1 0), .int 0], kb_a G (uu2.1 0) 16 (fun _ => 0), kb_o qn4 1 [.ref (uu5.1 0), .int 0], kb_a G (uu5.1 0) 16 (fun _ => 0), kb_o qn7 1 [.ref (uu8.1 0), .int 0], kb_a G (uu8.1 0) 16 (fun _ => 0), kb_o qn10 1 [.ref (uu11.1 0), .int 0], kb_a G (uu11.1 0) 16 (fun _ => 0), kb_o qn13 1 [.ref (uu14.1 0), .int 0], kb_a G (uu14.1 0) 16 (fun _ => 0), kb_o qn16 1 [.ref (uu17.1 0), .int 0], kb_a G (uu17.1 0) 16 (fun _ => 0), kb_o qn19 1 [.ref (uu20.1 0), .int 0], kb_a G (uu20.1 0) 16 (fun _ => 0), kb_o qn22 1 [.ref (uu23.1 0), .int 0], kb_a G (uu23.1 0) 16 (fun _ => 0), kb_o qn25 1 [.ref (uu26.1 0), .int 0], kb_a G (uu26.1 0) 16 (fun _ => 0), kb_o qn28 1 [.null, .int 0]] H := hP
  have hD : va_D A [kb_o h 2 [.ref qn1, .ref qn4, .ref qn7, .ref qn10, .ref qn13, .ref qn16, .ref qn19, .ref qn22, .ref qn25, .null, .null, .null, .int 0, .int 0], kb_o qn1 1 [.ref (uu2.1 0), .int 0], kb_a G (uu2.1 0) 16 (fun _ => 0), kb_o qn4 1 [.ref (uu5.1 0), .int 0], kb_a G (uu5.1 0) 16 (fun _ => 0), kb_o qn7 1 [.ref (uu8.1 0), .int 0], kb_a G (uu8.1 0) 16 (fun _ => 0), kb_o qn10 1 [.ref (uu11.1 0), .int 0], kb_a G (uu11.1 0) 16 (fun _ => 0), kb_o qn13 1 [.ref (uu14.1 0), .int 0], kb_a G (uu14.1 0) 16 (fun _ => 0), kb_o qn16 1 [.ref (uu17.1 0), .int 0], kb_a G (uu17.1 0) 16 (fun _ => 0), kb_o qn19 1 [.ref (uu20.1 0), .int 0], kb_a G (uu20.1 0) 16 (fun _ => 0), kb_o qn22 1 [.ref (uu23.1 0), .int 0], kb_a G (uu23.1 0) 16 (fun _ => 0), kb_o qn25 1 [.ref (uu26.1 0), .int 0], kb_a G (uu26.1 0) 16 (fun _ => 0), kb_o qn28 1 [.null, .int 0]] := hD
  refine lv_dup hx hb d_Tree_init_107 rfl ?_
  refine kb_v (wc := [kb_o qn28 1 [.null, .int 0]]) (wr := [kb_o h 2 [.ref qn1, .ref qn4, .ref qn7, .ref qn10, .ref qn13, .ref qn16, .ref qn19, .ref qn22, .ref qn25, .null, .null, .null, .int 0, .int 0], kb_o qn1 1 [.ref (uu2.1 0), .int 0], kb_a G (uu2.1 0) 16 (fun _ => 0), kb_o qn4 1 [.ref (uu5.1 0), .int 0], kb_a G (uu5.1 0) 16 (fun _ => 0), kb_o qn7 1 [.ref (uu8.1 0), .int 0], kb_a G (uu8.1 0) 16 (fun _ => 0), kb_o qn10 1 [.ref (uu11.1 0), .int 0], kb_a G (uu11.1 0) 16 (fun _ => 0), kb_o qn13 1 [.ref (uu14.1 0), .int 0], kb_a G (uu14.1 0) 16 (fun _ => 0), kb_o qn16 1 [.ref (uu17.1 0), .int 0], kb_a G (uu17.1 0) 16 (fun _ => 0), kb_o qn19 1 [.ref (uu20.1 0), .int 0], kb_a G (uu20.1 0) 16 (fun _ => 0), kb_o qn22 1 [.ref (uu23.1 0), .int 0], kb_a G (uu23.1 0) 16 (fun _ => 0), kb_o qn25 1 [.ref (uu26.1 0), .int 0], kb_a G (uu26.1 0) 16 (fun _ => 0)]) hE hP hD hS [19] [0, 1, 2, 3, 4, 5, 6, 7, 8, 9, 10, 11, 12, 13, 14, 15, 16, 17, 18] rfl rfl (by decide) (by decide) (kb_rI (As := []) (rest := [.ref qn28, .ref h]) (wc := [kb_o qn28 1 [.null, .int 0]]) ⟨hx, hb, hml, hown, ht⟩ ((c_Row_init l G qn28) _) wd_120d8060 wd_4182e433 wd_dfe53b0a wd_48fb15c2 rfl hd_e8c59c19 ⟨(Nat.le_of_ble_eq_true rfl), (Nat.le_of_ble_eq_true rfl)⟩ hE hP hD hS [19] rfl (by decide) hl.1 rfl (Nat.le_of_ble_eq_true rfl) d_Tree_init_108 ⟨(Nat.le_of_ble_eq_true rfl), (Nat.le_of_ble_eq_true rfl)⟩) (fun uu29 H locs hw hP hD hS => ?_)
  have hP : va_P G.1 kb_cl [kb_o h 2 [.ref qn1, .ref qn4, .ref qn7, .ref qn10, .ref qn13, .ref qn16, .ref qn19, .ref qn22, .ref qn25, .null, .null, .null, .int 0, .int 0], kb_o qn1 1 [.ref (uu2.1 0), .int 0], kb_a G (uu2.1 0) 16 (fun _ => 0), kb_o qn4 1 [.ref (uu5.1 0), .int 0], kb_a G (uu5.1 0) 16 (fun _ => 0), kb_o qn7 1 [.ref (uu8.1 0), .int 0], kb_a G (uu8.1 0) 16 (fun _ => 0), kb_o qn10 1 [.ref (uu11.1 0), .int 0], kb_a G (uu11.1 0) 16 (fun _ => 0), kb_o qn13 1 [.ref (uu14.1 0), .int 0], kb_a G (uu14.1 0) 16 (fun _ => 0), kb_o qn16 1 [.ref (uu17.1 0), .int 0], kb_a G (uu17.1 0) 16 (fun _ => 0), kb_o qn19 1 [.ref (uu20.1 0), .int 0], kb_a G (uu20.1 0) 16 (fun _ => 0), kb_o qn22 1 [.ref (uu23.1 0), .int 0], kb_a G (uu23.1 0) 16 (fun _ => 0), kb_o qn25 1 [.ref (uu26.1 0), .int 0], kb_a G (uu26.1 0) 16 (fun _ => 0), kb_o qn28 1 [.ref (uu29.1 0), .int 0], kb_a G (uu29.1 0) 16 (fun _ => 0)] H := hP
  have hD : va_D A [kb_o h 2 [.ref qn1, .ref qn4, .ref qn7, .ref qn10, .ref qn13, .ref qn16, .ref qn19, .ref qn22, .ref qn25, .null, .null, .null, .int 0, .int 0], kb_o qn1 1 [.ref (uu2.1 0), .int 0], kb_a G (uu2.1 0) 16 (fun _ => 0), kb_o qn4 1 [.ref (uu5.1 0), .int 0], kb_a G (uu5.1 0) 16 (fun _ => 0), kb_o qn7 1 [.ref (uu8.1 0), .int 0], kb_a G (uu8.1 0) 16 (fun _ => 0), kb_o qn10 1 [.ref (uu11.1 0), .int 0], kb_a G (uu11.1 0) 16 (fun _ => 0), kb_o qn13 1 [.ref (uu14.1 0), .int 0], kb_a G (uu14.1 0) 16 (fun _ => 0), kb_o qn16 1 [.ref (uu17.1 0), .int 0], kb_a G (uu17.1 0) 16 (fun _ => 0), kb_o qn19 1 [.ref (uu20.1 0), .int 0], kb_a G (uu20.1 0) 16 (fun _ => 0), kb_o qn22 1 [.ref (uu23.1 0), .int 0], kb_a G (uu23.1 0) 16 (fun _ => 0), kb_o qn25 1 [.ref (uu26.1 0), .int 0], kb_a G (uu26.1 0) 16 (fun _ => 0), kb_o qn28 1 [.ref (uu29.1 0), .int 0], kb_a G (uu29.1 0) 16 (fun _ => 0)] := hD
  refine va_putF (D := G.1) (ci := 2) (v := .ref qn28) (ty := .object "TreePress$Row") (C := "TreePress$Tree") (T := kb_F2) (N := 14) hx hb ht kb_w2 kb_y2 kb_p2 kb_n2 hown hE.1 hP hD hS 0 rfl rfl 9 (by decide) (ht _ wd_20c6a963) (fun _ h9 => h9) rfl hin rfl (by decide +kernel) rfl rfl (Nat.le_of_ble_eq_true rfl) d_Tree_init_111 (fun H locs hP hD hS => ?_)
  have hP : va_P G.1 kb_cl [kb_o h 2 [.ref qn1, .ref qn4, .ref qn7, .ref qn10, .ref qn13, .ref qn16, .ref qn19, .ref qn22, .ref qn25, .ref qn28, .null, .null, .int 0, .int 0], kb_o qn1 1 [.ref (uu2.1 0), .int 0], kb_a G (uu2.1 0) 16 (fun _ => 0), kb_o qn4 1 [.ref (uu5.1 0), .int 0], kb_a G (uu5.1 0) 16 (fun _ => 0), kb_o qn7 1 [.ref (uu8.1 0), .int 0], kb_a G (uu8.1 0) 16 (fun _ => 0), kb_o qn10 1 [.ref (uu11.1 0), .int 0], kb_a G (uu11.1 0) 16 (fun _ => 0), kb_o qn13 1 [.ref (uu14.1 0), .int 0], kb_a G (uu14.1 0) 16 (fun _ => 0), kb_o qn16 1 [.ref (uu17.1 0), .int 0], kb_a G (uu17.1 0) 16 (fun _ => 0), kb_o qn19 1 [.ref (uu20.1 0), .int 0], kb_a G (uu20.1 0) 16 (fun _ => 0), kb_o qn22 1 [.ref (uu23.1 0), .int 0], kb_a G (uu23.1 0) 16 (fun _ => 0), kb_o qn25 1 [.ref (uu26.1 0), .int 0], kb_a G (uu26.1 0) 16 (fun _ => 0), kb_o qn28 1 [.ref (uu29.1 0), .int 0], kb_a G (uu29.1 0) 16 (fun _ => 0)] H := hP
  have hD : va_D A [kb_o h 2 [.ref qn1, .ref qn4, .ref qn7, .ref qn10, .ref qn13, .ref qn16, .ref qn19, .ref qn22, .ref qn25, .ref qn28, .null, .null, .int 0, .int 0], kb_o qn1 1 [.ref (uu2.1 0), .int 0], kb_a G (uu2.1 0) 16 (fun _ => 0), kb_o qn4 1 [.ref (uu5.1 0), .int 0], kb_a G (uu5.1 0) 16 (fun _ => 0), kb_o qn7 1 [.ref (uu8.1 0), .int 0], kb_a G (uu8.1 0) 16 (fun _ => 0), kb_o qn10 1 [.ref (uu11.1 0), .int 0], kb_a G (uu11.1 0) 16 (fun _ => 0), kb_o qn13 1 [.ref (uu14.1 0), .int 0], kb_a G (uu14.1 0) 16 (fun _ => 0), kb_o qn16 1 [.ref (uu17.1 0), .int 0], kb_a G (uu17.1 0) 16 (fun _ => 0), kb_o qn19 1 [.ref (uu20.1 0), .int 0], kb_a G (uu20.1 0) 16 (fun _ => 0), kb_o qn22 1 [.ref (uu23.1 0), .int 0], kb_a G (uu23.1 0) 16 (fun _ => 0), kb_o qn25 1 [.ref (uu26.1 0), .int 0], kb_a G (uu26.1 0) 16 (fun _ => 0), kb_o qn28 1 [.ref (uu29.1 0), .int 0], kb_a G (uu29.1 0) 16 (fun _ => 0)] := hD
  refine lv_aload_n hx hb d_Tree_init_114 rfl (lv_at hl 0 rfl) ?_
  refine va_new (ci := 1) (fs := [.null, .int 0]) (C := "TreePress$Row") (T := kb_F1) (N := 2) hx hb ht kb_w1 kb_y1 kb_p1 hown (ht _ wd_bf675ff0) (ht _ wd_23abe21f) (ht _ wd_4182e433) hE.1 hP hD hS hE.2.2.2 rfl kb_d1 (Nat.le_of_ble_eq_true rfl) (Nat.le_of_ble_eq_true rfl) d_Tree_init_115 (fun qn31 H hP hD hS => ?_)
  have hP : va_P G.1 kb_cl [kb_o h 2 [.ref qn1, .ref qn4, .ref qn7, .ref qn10, .ref qn13, .ref qn16, .ref qn19, .ref qn22, .ref qn25, .ref qn28, .null, .null, .int 0, .int 0], kb_o qn1 1 [.ref (uu2.1 0), .int 0], kb_a G (uu2.1 0) 16 (fun _ => 0), kb_o qn4 1 [.ref (uu5.1 0), .int 0], kb_a G (uu5.1 0) 16 (fun _ => 0), kb_o qn7 1 [.ref (uu8.1 0), .int 0], kb_a G (uu8.1 0) 16 (fun _ => 0), kb_o qn10 1 [.ref (uu11.1 0), .int 0], kb_a G (uu11.1 0) 16 (fun _ => 0), kb_o qn13 1 [.ref (uu14.1 0), .int 0], kb_a G (uu14.1 0) 16 (fun _ => 0), kb_o qn16 1 [.ref (uu17.1 0), .int 0], kb_a G (uu17.1 0) 16 (fun _ => 0), kb_o qn19 1 [.ref (uu20.1 0), .int 0], kb_a G (uu20.1 0) 16 (fun _ => 0), kb_o qn22 1 [.ref (uu23.1 0), .int 0], kb_a G (uu23.1 0) 16 (fun _ => 0), kb_o qn25 1 [.ref (uu26.1 0), .int 0], kb_a G (uu26.1 0) 16 (fun _ => 0), kb_o qn28 1 [.ref (uu29.1 0), .int 0], kb_a G (uu29.1 0) 16 (fun _ => 0), kb_o qn31 1 [.null, .int 0]] H := hP
  have hD : va_D A [kb_o h 2 [.ref qn1, .ref qn4, .ref qn7, .ref qn10, .ref qn13, .ref qn16, .ref qn19, .ref qn22, .ref qn25, .ref qn28, .null, .null, .int 0, .int 0], kb_o qn1 1 [.ref (uu2.1 0), .int 0], kb_a G (uu2.1 0) 16 (fun _ => 0), kb_o qn4 1 [.ref (uu5.1 0), .int 0], kb_a G (uu5.1 0) 16 (fun _ => 0), kb_o qn7 1 [.ref (uu8.1 0), .int 0], kb_a G (uu8.1 0) 16 (fun _ => 0), kb_o qn10 1 [.ref (uu11.1 0), .int 0], kb_a G (uu11.1 0) 16 (fun _ => 0), kb_o qn13 1 [.ref (uu14.1 0), .int 0], kb_a G (uu14.1 0) 16 (fun _ => 0), kb_o qn16 1 [.ref (uu17.1 0), .int 0], kb_a G (uu17.1 0) 16 (fun _ => 0), kb_o qn19 1 [.ref (uu20.1 0), .int 0], kb_a G (uu20.1 0) 16 (fun _ => 0), kb_o qn22 1 [.ref (uu23.1 0), .int 0], kb_a G (uu23.1 0) 16 (fun _ => 0), kb_o qn25 1 [.ref (uu26.1 0), .int 0], kb_a G (uu26.1 0) 16 (fun _ => 0), kb_o qn28 1 [.ref (uu29.1 0), .int 0], kb_a G (uu29.1 0) 16 (fun _ => 0), kb_o qn31 1 [.null, .int 0]] := hD
  refine lv_dup hx hb d_Tree_init_118 rfl ?_
  refine kb_v (wc := [kb_o qn31 1 [.null, .int 0]]) (wr := [kb_o h 2 [.ref qn1, .ref qn4, .ref qn7, .ref qn10, .ref qn13, .ref qn16, .ref qn19, .ref qn22, .ref qn25, .ref qn28, .null, .null, .int 0, .int 0], kb_o qn1 1 [.ref (uu2.1 0), .int 0], kb_a G (uu2.1 0) 16 (fun _ => 0), kb_o qn4 1 [.ref (uu5.1 0), .int 0], kb_a G (uu5.1 0) 16 (fun _ => 0), kb_o qn7 1 [.ref (uu8.1 0), .int 0], kb_a G (uu8.1 0) 16 (fun _ => 0), kb_o qn10 1 [.ref (uu11.1 0), .int 0], kb_a G (uu11.1 0) 16 (fun _ => 0), kb_o qn13 1 [.ref (uu14.1 0), .int 0], kb_a G (uu14.1 0) 16 (fun _ => 0), kb_o qn16 1 [.ref (uu17.1 0), .int 0], kb_a G (uu17.1 0) 16 (fun _ => 0), kb_o qn19 1 [.ref (uu20.1 0), .int 0], kb_a G (uu20.1 0) 16 (fun _ => 0), kb_o qn22 1 [.ref (uu23.1 0), .int 0], kb_a G (uu23.1 0) 16 (fun _ => 0), kb_o qn25 1 [.ref (uu26.1 0), .int 0], kb_a G (uu26.1 0) 16 (fun _ => 0), kb_o qn28 1 [.ref (uu29.1 0), .int 0], kb_a G (uu29.1 0) 16 (fun _ => 0)]) hE hP hD hS [21] [0, 1, 2, 3, 4, 5, 6, 7, 8, 9, 10, 11, 12, 13, 14, 15, 16, 17, 18, 19, 20] rfl rfl (by decide) (by decide) (kb_rI (As := []) (rest := [.ref qn31, .ref h]) (wc := [kb_o qn31 1 [.null, .int 0]]) ⟨hx, hb, hml, hown, ht⟩ ((c_Row_init l G qn31) _) wd_120d8060 wd_4182e433 wd_dfe53b0a wd_48fb15c2 rfl hd_e8c59c19 ⟨(Nat.le_of_ble_eq_true rfl), (Nat.le_of_ble_eq_true rfl)⟩ hE hP hD hS [21] rfl (by decide) hl.1 rfl (Nat.le_of_ble_eq_true rfl) d_Tree_init_119 ⟨(Nat.le_of_ble_eq_true rfl), (Nat.le_of_ble_eq_true rfl)⟩) (fun uu32 H locs hw hP hD hS => ?_)
  have hP : va_P G.1 kb_cl [kb_o h 2 [.ref qn1, .ref qn4, .ref qn7, .ref qn10, .ref qn13, .ref qn16, .ref qn19, .ref qn22, .ref qn25, .ref qn28, .null, .null, .int 0, .int 0], kb_o qn1 1 [.ref (uu2.1 0), .int 0], kb_a G (uu2.1 0) 16 (fun _ => 0), kb_o qn4 1 [.ref (uu5.1 0), .int 0], kb_a G (uu5.1 0) 16 (fun _ => 0), kb_o qn7 1 [.ref (uu8.1 0), .int 0], kb_a G (uu8.1 0) 16 (fun _ => 0), kb_o qn10 1 [.ref (uu11.1 0), .int 0], kb_a G (uu11.1 0) 16 (fun _ => 0), kb_o qn13 1 [.ref (uu14.1 0), .int 0], kb_a G (uu14.1 0) 16 (fun _ => 0), kb_o qn16 1 [.ref (uu17.1 0), .int 0], kb_a G (uu17.1 0) 16 (fun _ => 0), kb_o qn19 1 [.ref (uu20.1 0), .int 0], kb_a G (uu20.1 0) 16 (fun _ => 0), kb_o qn22 1 [.ref (uu23.1 0), .int 0], kb_a G (uu23.1 0) 16 (fun _ => 0), kb_o qn25 1 [.ref (uu26.1 0), .int 0], kb_a G (uu26.1 0) 16 (fun _ => 0), kb_o qn28 1 [.ref (uu29.1 0), .int 0], kb_a G (uu29.1 0) 16 (fun _ => 0), kb_o qn31 1 [.ref (uu32.1 0), .int 0], kb_a G (uu32.1 0) 16 (fun _ => 0)] H := hP
  have hD : va_D A [kb_o h 2 [.ref qn1, .ref qn4, .ref qn7, .ref qn10, .ref qn13, .ref qn16, .ref qn19, .ref qn22, .ref qn25, .ref qn28, .null, .null, .int 0, .int 0], kb_o qn1 1 [.ref (uu2.1 0), .int 0], kb_a G (uu2.1 0) 16 (fun _ => 0), kb_o qn4 1 [.ref (uu5.1 0), .int 0], kb_a G (uu5.1 0) 16 (fun _ => 0), kb_o qn7 1 [.ref (uu8.1 0), .int 0], kb_a G (uu8.1 0) 16 (fun _ => 0), kb_o qn10 1 [.ref (uu11.1 0), .int 0], kb_a G (uu11.1 0) 16 (fun _ => 0), kb_o qn13 1 [.ref (uu14.1 0), .int 0], kb_a G (uu14.1 0) 16 (fun _ => 0), kb_o qn16 1 [.ref (uu17.1 0), .int 0], kb_a G (uu17.1 0) 16 (fun _ => 0), kb_o qn19 1 [.ref (uu20.1 0), .int 0], kb_a G (uu20.1 0) 16 (fun _ => 0), kb_o qn22 1 [.ref (uu23.1 0), .int 0], kb_a G (uu23.1 0) 16 (fun _ => 0), kb_o qn25 1 [.ref (uu26.1 0), .int 0], kb_a G (uu26.1 0) 16 (fun _ => 0), kb_o qn28 1 [.ref (uu29.1 0), .int 0], kb_a G (uu29.1 0) 16 (fun _ => 0), kb_o qn31 1 [.ref (uu32.1 0), .int 0], kb_a G (uu32.1 0) 16 (fun _ => 0)] := hD
  refine va_putF (D := G.1) (ci := 2) (v := .ref qn31) (ty := .object "TreePress$Row") (C := "TreePress$Tree") (T := kb_F2) (N := 14) hx hb ht kb_w2 kb_y2 kb_p2 kb_n2 hown hE.1 hP hD hS 0 rfl rfl 10 (by decide) (ht _ wd_41b50714) (fun _ h9 => h9) rfl hin rfl (by decide +kernel) rfl rfl (Nat.le_of_ble_eq_true rfl) d_Tree_init_122 (fun H locs hP hD hS => ?_)
  have hP : va_P G.1 kb_cl [kb_o h 2 [.ref qn1, .ref qn4, .ref qn7, .ref qn10, .ref qn13, .ref qn16, .ref qn19, .ref qn22, .ref qn25, .ref qn28, .ref qn31, .null, .int 0, .int 0], kb_o qn1 1 [.ref (uu2.1 0), .int 0], kb_a G (uu2.1 0) 16 (fun _ => 0), kb_o qn4 1 [.ref (uu5.1 0), .int 0], kb_a G (uu5.1 0) 16 (fun _ => 0), kb_o qn7 1 [.ref (uu8.1 0), .int 0], kb_a G (uu8.1 0) 16 (fun _ => 0), kb_o qn10 1 [.ref (uu11.1 0), .int 0], kb_a G (uu11.1 0) 16 (fun _ => 0), kb_o qn13 1 [.ref (uu14.1 0), .int 0], kb_a G (uu14.1 0) 16 (fun _ => 0), kb_o qn16 1 [.ref (uu17.1 0), .int 0], kb_a G (uu17.1 0) 16 (fun _ => 0), kb_o qn19 1 [.ref (uu20.1 0), .int 0], kb_a G (uu20.1 0) 16 (fun _ => 0), kb_o qn22 1 [.ref (uu23.1 0), .int 0], kb_a G (uu23.1 0) 16 (fun _ => 0), kb_o qn25 1 [.ref (uu26.1 0), .int 0], kb_a G (uu26.1 0) 16 (fun _ => 0), kb_o qn28 1 [.ref (uu29.1 0), .int 0], kb_a G (uu29.1 0) 16 (fun _ => 0), kb_o qn31 1 [.ref (uu32.1 0), .int 0], kb_a G (uu32.1 0) 16 (fun _ => 0)] H := hP
  have hD : va_D A [kb_o h 2 [.ref qn1, .ref qn4, .ref qn7, .ref qn10, .ref qn13, .ref qn16, .ref qn19, .ref qn22, .ref qn25, .ref qn28, .ref qn31, .null, .int 0, .int 0], kb_o qn1 1 [.ref (uu2.1 0), .int 0], kb_a G (uu2.1 0) 16 (fun _ => 0), kb_o qn4 1 [.ref (uu5.1 0), .int 0], kb_a G (uu5.1 0) 16 (fun _ => 0), kb_o qn7 1 [.ref (uu8.1 0), .int 0], kb_a G (uu8.1 0) 16 (fun _ => 0), kb_o qn10 1 [.ref (uu11.1 0), .int 0], kb_a G (uu11.1 0) 16 (fun _ => 0), kb_o qn13 1 [.ref (uu14.1 0), .int 0], kb_a G (uu14.1 0) 16 (fun _ => 0), kb_o qn16 1 [.ref (uu17.1 0), .int 0], kb_a G (uu17.1 0) 16 (fun _ => 0), kb_o qn19 1 [.ref (uu20.1 0), .int 0], kb_a G (uu20.1 0) 16 (fun _ => 0), kb_o qn22 1 [.ref (uu23.1 0), .int 0], kb_a G (uu23.1 0) 16 (fun _ => 0), kb_o qn25 1 [.ref (uu26.1 0), .int 0], kb_a G (uu26.1 0) 16 (fun _ => 0), kb_o qn28 1 [.ref (uu29.1 0), .int 0], kb_a G (uu29.1 0) 16 (fun _ => 0), kb_o qn31 1 [.ref (uu32.1 0), .int 0], kb_a G (uu32.1 0) 16 (fun _ => 0)] := hD
  refine lv_aload_n hx hb d_Tree_init_125 rfl (lv_at hl 0 rfl) ?_
  refine va_new (ci := 1) (fs := [.null, .int 0]) (C := "TreePress$Row") (T := kb_F1) (N := 2) hx hb ht kb_w1 kb_y1 kb_p1 hown (ht _ wd_bf675ff0) (ht _ wd_23abe21f) (ht _ wd_4182e433) hE.1 hP hD hS hE.2.2.2 rfl kb_d1 (Nat.le_of_ble_eq_true rfl) (Nat.le_of_ble_eq_true rfl) d_Tree_init_126 (fun qn34 H hP hD hS => ?_)
  have hP : va_P G.1 kb_cl [kb_o h 2 [.ref qn1, .ref qn4, .ref qn7, .ref qn10, .ref qn13, .ref qn16, .ref qn19, .ref qn22, .ref qn25, .ref qn28, .ref qn31, .null, .int 0, .int 0], kb_o qn1 1 [.ref (uu2.1 0), .int 0], kb_a G (uu2.1 0) 16 (fun _ => 0), kb_o qn4 1 [.ref (uu5.1 0), .int 0], kb_a G (uu5.1 0) 16 (fun _ => 0), kb_o qn7 1 [.ref (uu8.1 0), .int 0], kb_a G (uu8.1 0) 16 (fun _ => 0), kb_o qn10 1 [.ref (uu11.1 0), .int 0], kb_a G (uu11.1 0) 16 (fun _ => 0), kb_o qn13 1 [.ref (uu14.1 0), .int 0], kb_a G (uu14.1 0) 16 (fun _ => 0), kb_o qn16 1 [.ref (uu17.1 0), .int 0], kb_a G (uu17.1 0) 16 (fun _ => 0), kb_o qn19 1 [.ref (uu20.1 0), .int 0], kb_a G (uu20.1 0) 16 (fun _ => 0), kb_o qn22 1 [.ref (uu23.1 0), .int 0], kb_a G (uu23.1 0) 16 (fun _ => 0), kb_o qn25 1 [.ref (uu26.1 0), .int 0], kb_a G (uu26.1 0) 16 (fun _ => 0), kb_o qn28 1 [.ref (uu29.1 0), .int 0], kb_a G (uu29.1 0) 16 (fun _ => 0), kb_o qn31 1 [.ref (uu32.1 0), .int 0], kb_a G (uu32.1 0) 16 (fun _ => 0), kb_o qn34 1 [.null, .int 0]] H := hP
  have hD : va_D A [kb_o h 2 [.ref qn1, .ref qn4, .ref qn7, .ref qn10, .ref qn13, .ref qn16, .ref qn19, .ref qn22, .ref qn25, .ref qn28, .ref qn31, .null, .int 0, .int 0], kb_o qn1 1 [.ref (uu2.1 0), .int 0], kb_a G (uu2.1 0) 16 (fun _ => 0), kb_o qn4 1 [.ref (uu5.1 0), .int 0], kb_a G (uu5.1 0) 16 (fun _ => 0), kb_o qn7 1 [.ref (uu8.1 0), .int 0], kb_a G (uu8.1 0) 16 (fun _ => 0), kb_o qn10 1 [.ref (uu11.1 0), .int 0], kb_a G (uu11.1 0) 16 (fun _ => 0), kb_o qn13 1 [.ref (uu14.1 0), .int 0], kb_a G (uu14.1 0) 16 (fun _ => 0), kb_o qn16 1 [.ref (uu17.1 0), .int 0], kb_a G (uu17.1 0) 16 (fun _ => 0), kb_o qn19 1 [.ref (uu20.1 0), .int 0], kb_a G (uu20.1 0) 16 (fun _ => 0), kb_o qn22 1 [.ref (uu23.1 0), .int 0], kb_a G (uu23.1 0) 16 (fun _ => 0), kb_o qn25 1 [.ref (uu26.1 0), .int 0], kb_a G (uu26.1 0) 16 (fun _ => 0), kb_o qn28 1 [.ref (uu29.1 0), .int 0], kb_a G (uu29.1 0) 16 (fun _ => 0), kb_o qn31 1 [.ref (uu32.1 0), .int 0], kb_a G (uu32.1 0) 16 (fun _ => 0), kb_o qn34 1 [.null, .int 0]] := hD
  refine lv_dup hx hb d_Tree_init_129 rfl ?_
  refine kb_v (wc := [kb_o qn34 1 [.null, .int 0]]) (wr := [kb_o h 2 [.ref qn1, .ref qn4, .ref qn7, .ref qn10, .ref qn13, .ref qn16, .ref qn19, .ref qn22, .ref qn25, .ref qn28, .ref qn31, .null, .int 0, .int 0], kb_o qn1 1 [.ref (uu2.1 0), .int 0], kb_a G (uu2.1 0) 16 (fun _ => 0), kb_o qn4 1 [.ref (uu5.1 0), .int 0], kb_a G (uu5.1 0) 16 (fun _ => 0), kb_o qn7 1 [.ref (uu8.1 0), .int 0], kb_a G (uu8.1 0) 16 (fun _ => 0), kb_o qn10 1 [.ref (uu11.1 0), .int 0], kb_a G (uu11.1 0) 16 (fun _ => 0), kb_o qn13 1 [.ref (uu14.1 0), .int 0], kb_a G (uu14.1 0) 16 (fun _ => 0), kb_o qn16 1 [.ref (uu17.1 0), .int 0], kb_a G (uu17.1 0) 16 (fun _ => 0), kb_o qn19 1 [.ref (uu20.1 0), .int 0], kb_a G (uu20.1 0) 16 (fun _ => 0), kb_o qn22 1 [.ref (uu23.1 0), .int 0], kb_a G (uu23.1 0) 16 (fun _ => 0), kb_o qn25 1 [.ref (uu26.1 0), .int 0], kb_a G (uu26.1 0) 16 (fun _ => 0), kb_o qn28 1 [.ref (uu29.1 0), .int 0], kb_a G (uu29.1 0) 16 (fun _ => 0), kb_o qn31 1 [.ref (uu32.1 0), .int 0], kb_a G (uu32.1 0) 16 (fun _ => 0)]) hE hP hD hS [23] [0, 1, 2, 3, 4, 5, 6, 7, 8, 9, 10, 11, 12, 13, 14, 15, 16, 17, 18, 19, 20, 21, 22] rfl rfl (by decide) (by decide) (kb_rI (As := []) (rest := [.ref qn34, .ref h]) (wc := [kb_o qn34 1 [.null, .int 0]]) ⟨hx, hb, hml, hown, ht⟩ ((c_Row_init l G qn34) _) wd_120d8060 wd_4182e433 wd_dfe53b0a wd_48fb15c2 rfl hd_e8c59c19 ⟨(Nat.le_of_ble_eq_true rfl), (Nat.le_of_ble_eq_true rfl)⟩ hE hP hD hS [23] rfl (by decide) hl.1 rfl (Nat.le_of_ble_eq_true rfl) d_Tree_init_130 ⟨(Nat.le_of_ble_eq_true rfl), (Nat.le_of_ble_eq_true rfl)⟩) (fun uu35 H locs hw hP hD hS => ?_)
  have hP : va_P G.1 kb_cl [kb_o h 2 [.ref qn1, .ref qn4, .ref qn7, .ref qn10, .ref qn13, .ref qn16, .ref qn19, .ref qn22, .ref qn25, .ref qn28, .ref qn31, .null, .int 0, .int 0], kb_o qn1 1 [.ref (uu2.1 0), .int 0], kb_a G (uu2.1 0) 16 (fun _ => 0), kb_o qn4 1 [.ref (uu5.1 0), .int 0], kb_a G (uu5.1 0) 16 (fun _ => 0), kb_o qn7 1 [.ref (uu8.1 0), .int 0], kb_a G (uu8.1 0) 16 (fun _ => 0), kb_o qn10 1 [.ref (uu11.1 0), .int 0], kb_a G (uu11.1 0) 16 (fun _ => 0), kb_o qn13 1 [.ref (uu14.1 0), .int 0], kb_a G (uu14.1 0) 16 (fun _ => 0), kb_o qn16 1 [.ref (uu17.1 0), .int 0], kb_a G (uu17.1 0) 16 (fun _ => 0), kb_o qn19 1 [.ref (uu20.1 0), .int 0], kb_a G (uu20.1 0) 16 (fun _ => 0), kb_o qn22 1 [.ref (uu23.1 0), .int 0], kb_a G (uu23.1 0) 16 (fun _ => 0), kb_o qn25 1 [.ref (uu26.1 0), .int 0], kb_a G (uu26.1 0) 16 (fun _ => 0), kb_o qn28 1 [.ref (uu29.1 0), .int 0], kb_a G (uu29.1 0) 16 (fun _ => 0), kb_o qn31 1 [.ref (uu32.1 0), .int 0], kb_a G (uu32.1 0) 16 (fun _ => 0), kb_o qn34 1 [.ref (uu35.1 0), .int 0], kb_a G (uu35.1 0) 16 (fun _ => 0)] H := hP
  have hD : va_D A [kb_o h 2 [.ref qn1, .ref qn4, .ref qn7, .ref qn10, .ref qn13, .ref qn16, .ref qn19, .ref qn22, .ref qn25, .ref qn28, .ref qn31, .null, .int 0, .int 0], kb_o qn1 1 [.ref (uu2.1 0), .int 0], kb_a G (uu2.1 0) 16 (fun _ => 0), kb_o qn4 1 [.ref (uu5.1 0), .int 0], kb_a G (uu5.1 0) 16 (fun _ => 0), kb_o qn7 1 [.ref (uu8.1 0), .int 0], kb_a G (uu8.1 0) 16 (fun _ => 0), kb_o qn10 1 [.ref (uu11.1 0), .int 0], kb_a G (uu11.1 0) 16 (fun _ => 0), kb_o qn13 1 [.ref (uu14.1 0), .int 0], kb_a G (uu14.1 0) 16 (fun _ => 0), kb_o qn16 1 [.ref (uu17.1 0), .int 0], kb_a G (uu17.1 0) 16 (fun _ => 0), kb_o qn19 1 [.ref (uu20.1 0), .int 0], kb_a G (uu20.1 0) 16 (fun _ => 0), kb_o qn22 1 [.ref (uu23.1 0), .int 0], kb_a G (uu23.1 0) 16 (fun _ => 0), kb_o qn25 1 [.ref (uu26.1 0), .int 0], kb_a G (uu26.1 0) 16 (fun _ => 0), kb_o qn28 1 [.ref (uu29.1 0), .int 0], kb_a G (uu29.1 0) 16 (fun _ => 0), kb_o qn31 1 [.ref (uu32.1 0), .int 0], kb_a G (uu32.1 0) 16 (fun _ => 0), kb_o qn34 1 [.ref (uu35.1 0), .int 0], kb_a G (uu35.1 0) 16 (fun _ => 0)] := hD
  refine va_putF (D := G.1) (ci := 2) (v := .ref qn34) (ty := .object "TreePress$Row") (C := "TreePress$Tree") (T := kb_F2) (N := 14) hx hb ht kb_w2 kb_y2 kb_p2 kb_n2 hown hE.1 hP hD hS 0 rfl rfl 11 (by decide) (ht _ wd_61bd367e) (fun _ h9 => h9) rfl hin rfl (by decide +kernel) rfl rfl (Nat.le_of_ble_eq_true rfl) d_Tree_init_133 (fun H locs hP hD hS => ?_)
  have hP : va_P G.1 kb_cl [kb_o h 2 [.ref qn1, .ref qn4, .ref qn7, .ref qn10, .ref qn13, .ref qn16, .ref qn19, .ref qn22, .ref qn25, .ref qn28, .ref qn31, .ref qn34, .int 0, .int 0], kb_o qn1 1 [.ref (uu2.1 0), .int 0], kb_a G (uu2.1 0) 16 (fun _ => 0), kb_o qn4 1 [.ref (uu5.1 0), .int 0], kb_a G (uu5.1 0) 16 (fun _ => 0), kb_o qn7 1 [.ref (uu8.1 0), .int 0], kb_a G (uu8.1 0) 16 (fun _ => 0), kb_o qn10 1 [.ref (uu11.1 0), .int 0], kb_a G (uu11.1 0) 16 (fun _ => 0), kb_o qn13 1 [.ref (uu14.1 0), .int 0], kb_a G (uu14.1 0) 16 (fun _ => 0), kb_o qn16 1 [.ref (uu17.1 0), .int 0], kb_a G (uu17.1 0) 16 (fun _ => 0), kb_o qn19 1 [.ref (uu20.1 0), .int 0], kb_a G (uu20.1 0) 16 (fun _ => 0), kb_o qn22 1 [.ref (uu23.1 0), .int 0], kb_a G (uu23.1 0) 16 (fun _ => 0), kb_o qn25 1 [.ref (uu26.1 0), .int 0], kb_a G (uu26.1 0) 16 (fun _ => 0), kb_o qn28 1 [.ref (uu29.1 0), .int 0], kb_a G (uu29.1 0) 16 (fun _ => 0), kb_o qn31 1 [.ref (uu32.1 0), .int 0], kb_a G (uu32.1 0) 16 (fun _ => 0), kb_o qn34 1 [.ref (uu35.1 0), .int 0], kb_a G (uu35.1 0) 16 (fun _ => 0)] H := hP
  have hD : va_D A [kb_o h 2 [.ref qn1, .ref qn4, .ref qn7, .ref qn10, .ref qn13, .ref qn16, .ref qn19, .ref qn22, .ref qn25, .ref qn28, .ref qn31, .ref qn34, .int 0, .int 0], kb_o qn1 1 [.ref (uu2.1 0), .int 0], kb_a G (uu2.1 0) 16 (fun _ => 0), kb_o qn4 1 [.ref (uu5.1 0), .int 0], kb_a G (uu5.1 0) 16 (fun _ => 0), kb_o qn7 1 [.ref (uu8.1 0), .int 0], kb_a G (uu8.1 0) 16 (fun _ => 0), kb_o qn10 1 [.ref (uu11.1 0), .int 0], kb_a G (uu11.1 0) 16 (fun _ => 0), kb_o qn13 1 [.ref (uu14.1 0), .int 0], kb_a G (uu14.1 0) 16 (fun _ => 0), kb_o qn16 1 [.ref (uu17.1 0), .int 0], kb_a G (uu17.1 0) 16 (fun _ => 0), kb_o qn19 1 [.ref (uu20.1 0), .int 0], kb_a G (uu20.1 0) 16 (fun _ => 0), kb_o qn22 1 [.ref (uu23.1 0), .int 0], kb_a G (uu23.1 0) 16 (fun _ => 0), kb_o qn25 1 [.ref (uu26.1 0), .int 0], kb_a G (uu26.1 0) 16 (fun _ => 0), kb_o qn28 1 [.ref (uu29.1 0), .int 0], kb_a G (uu29.1 0) 16 (fun _ => 0), kb_o qn31 1 [.ref (uu32.1 0), .int 0], kb_a G (uu32.1 0) 16 (fun _ => 0), kb_o qn34 1 [.ref (uu35.1 0), .int 0], kb_a G (uu35.1 0) 16 (fun _ => 0)] := hD
  refine lv_aload_n hx hb d_Tree_init_136 rfl (lv_at hl 0 rfl) ?_
  refine kb_v (wc := [kb_o h 2 [.ref qn1, .ref qn4, .ref qn7, .ref qn10, .ref qn13, .ref qn16, .ref qn19, .ref qn22, .ref qn25, .ref qn28, .ref qn31, .ref qn34, .int 0, .int 0], kb_o qn1 1 [.ref (uu2.1 0), .int 0], kb_o qn4 1 [.ref (uu5.1 0), .int 0], kb_o qn7 1 [.ref (uu8.1 0), .int 0], kb_o qn10 1 [.ref (uu11.1 0), .int 0], kb_o qn13 1 [.ref (uu14.1 0), .int 0], kb_o qn16 1 [.ref (uu17.1 0), .int 0], kb_o qn19 1 [.ref (uu20.1 0), .int 0], kb_o qn22 1 [.ref (uu23.1 0), .int 0], kb_o qn25 1 [.ref (uu26.1 0), .int 0], kb_o qn28 1 [.ref (uu29.1 0), .int 0], kb_o qn31 1 [.ref (uu32.1 0), .int 0], kb_o qn34 1 [.ref (uu35.1 0), .int 0], kb_a G (uu5.1 0) 16 (fun _ => 0), kb_a G (uu8.1 0) 16 (fun _ => 0), kb_a G (uu11.1 0) 16 (fun _ => 0), kb_a G (uu14.1 0) 16 (fun _ => 0), kb_a G (uu17.1 0) 16 (fun _ => 0), kb_a G (uu20.1 0) 16 (fun _ => 0)]) (wr := [kb_a G (uu2.1 0) 16 (fun _ => 0), kb_a G (uu23.1 0) 16 (fun _ => 0), kb_a G (uu26.1 0) 16 (fun _ => 0), kb_a G (uu29.1 0) 16 (fun _ => 0), kb_a G (uu32.1 0) 16 (fun _ => 0), kb_a G (uu35.1 0) 16 (fun _ => 0)]) hE hP hD hS [0, 1, 3, 5, 7, 9, 11, 13, 15, 17, 19, 21, 23, 4, 6, 8, 10, 12, 14] [2, 16, 18, 20, 22, 24] rfl rfl (by decide) (by decide) (kb_rV (As := []) (rest := []) (wc := [kb_o h 2 [.ref qn1, .ref qn4, .ref qn7, .ref qn10, .ref qn13, .ref qn16, .ref qn19, .ref qn22, .ref qn25, .ref qn28, .ref qn31, .ref qn34, .int 0, .int 0], kb_o qn1 1 [.ref (uu2.1 0), .int 0], kb_o qn4 1 [.ref (uu5.1 0), .int 0], kb_o qn7 1 [.ref (uu8.1 0), .int 0], kb_o qn10 1 [.ref (uu11.1 0), .int 0], kb_o qn13 1 [.ref (uu14.1 0), .int 0], kb_o qn16 1 [.ref (uu17.1 0), .int 0], kb_o qn19 1 [.ref (uu20.1 0), .int 0], kb_o qn22 1 [.ref (uu23.1 0), .int 0], kb_o qn25 1 [.ref (uu26.1 0), .int 0], kb_o qn28 1 [.ref (uu29.1 0), .int 0], kb_o qn31 1 [.ref (uu32.1 0), .int 0], kb_o qn34 1 [.ref (uu35.1 0), .int 0], kb_a G (uu5.1 0) 16 (fun _ => 0), kb_a G (uu8.1 0) 16 (fun _ => 0), kb_a G (uu11.1 0) 16 (fun _ => 0), kb_a G (uu14.1 0) 16 (fun _ => 0), kb_a G (uu17.1 0) 16 (fun _ => 0), kb_a G (uu20.1 0) 16 (fun _ => 0)]) (q0 := 0) ⟨hx, hb, hml, hown, ht⟩ ((c_Tree_wipe0 l G h qn1 qn4 qn7 qn10 qn13 qn16 qn19 qn22 qn25 qn28 qn31 qn34 0 0 (uu2.1 0) (uu5.1 0) (uu8.1 0) (uu11.1 0) (uu14.1 0) (uu17.1 0) (uu20.1 0) (uu23.1 0) (uu26.1 0) (uu29.1 0) (uu32.1 0) (uu35.1 0) (fun _ => 0) (fun _ => 0) (fun _ => 0) (fun _ => 0) (fun _ => 0) (fun _ => 0)) _) (kb_gV wd_c9d54c1b wd_ece7ca0c wd_737eaf02 wd_ebf91e09 wd_aec3778d) ⟨rfl, hd_4ac2e733⟩ ⟨(Nat.le_of_ble_eq_true rfl), (Nat.le_of_ble_eq_true rfl)⟩ hE hP hD hS [0, 1, 3, 5, 7, 9, 11, 13, 15, 17, 19, 21, 23, 4, 6, 8, 10, 12, 14] rfl (by decide) rfl rfl rfl hl.1 rfl (Nat.le_of_ble_eq_true rfl) d_Tree_init_137 ⟨(Nat.le_of_ble_eq_true rfl), (Nat.le_of_ble_eq_true rfl)⟩) (fun uu37 H locs hw hP hD hS => ?_)
  have hP : va_P G.1 kb_cl [kb_a G (uu2.1 0) 16 (fun _ => 0), kb_a G (uu23.1 0) 16 (fun _ => 0), kb_a G (uu26.1 0) 16 (fun _ => 0), kb_a G (uu29.1 0) 16 (fun _ => 0), kb_a G (uu32.1 0) 16 (fun _ => 0), kb_a G (uu35.1 0) 16 (fun _ => 0), kb_o qn25 1 [.ref (uu26.1 0), .int 0], kb_o qn28 1 [.ref (uu29.1 0), .int 0], kb_o qn31 1 [.ref (uu32.1 0), .int 0], kb_o qn34 1 [.ref (uu35.1 0), .int 0], kb_o qn4 1 [.ref (uu5.1 0), .int 1], kb_a G (uu5.1 0) 16 (upd (fun _ => 0) 0 (-1)), kb_o qn7 1 [.ref (uu8.1 0), .int 1], kb_a G (uu8.1 0) 16 (upd (fun _ => 0) 0 1), kb_o qn10 1 [.ref (uu11.1 0), .int 1], kb_a G (uu11.1 0) 16 (upd (fun _ => 0) 0 0), kb_o qn13 1 [.ref (uu14.1 0), .int 1], kb_a G (uu14.1 0) 16 (upd (fun _ => 0) 0 0), kb_o h 2 [.ref qn1, .ref qn4, .ref qn7, .ref qn10, .ref qn13, .ref qn16, .ref qn19, .ref qn22, .ref qn25, .ref qn28, .ref qn31, .ref qn34, .int 0, .int 0], kb_o qn22 1 [.ref (uu23.1 0), .int 0], kb_o qn16 1 [.ref (uu17.1 0), .int 1], kb_a G (uu17.1 0) 16 (upd (fun _ => 0) 0 0), kb_o qn19 1 [.ref (uu20.1 0), .int 1], kb_a G (uu20.1 0) 16 (upd (fun _ => 0) 0 0), kb_o qn1 1 [.ref (uu2.1 0), .int 0]] H := hP
  have hD : va_D A [kb_a G (uu2.1 0) 16 (fun _ => 0), kb_a G (uu23.1 0) 16 (fun _ => 0), kb_a G (uu26.1 0) 16 (fun _ => 0), kb_a G (uu29.1 0) 16 (fun _ => 0), kb_a G (uu32.1 0) 16 (fun _ => 0), kb_a G (uu35.1 0) 16 (fun _ => 0), kb_o qn25 1 [.ref (uu26.1 0), .int 0], kb_o qn28 1 [.ref (uu29.1 0), .int 0], kb_o qn31 1 [.ref (uu32.1 0), .int 0], kb_o qn34 1 [.ref (uu35.1 0), .int 0], kb_o qn4 1 [.ref (uu5.1 0), .int 1], kb_a G (uu5.1 0) 16 (upd (fun _ => 0) 0 (-1)), kb_o qn7 1 [.ref (uu8.1 0), .int 1], kb_a G (uu8.1 0) 16 (upd (fun _ => 0) 0 1), kb_o qn10 1 [.ref (uu11.1 0), .int 1], kb_a G (uu11.1 0) 16 (upd (fun _ => 0) 0 0), kb_o qn13 1 [.ref (uu14.1 0), .int 1], kb_a G (uu14.1 0) 16 (upd (fun _ => 0) 0 0), kb_o h 2 [.ref qn1, .ref qn4, .ref qn7, .ref qn10, .ref qn13, .ref qn16, .ref qn19, .ref qn22, .ref qn25, .ref qn28, .ref qn31, .ref qn34, .int 0, .int 0], kb_o qn22 1 [.ref (uu23.1 0), .int 0], kb_o qn16 1 [.ref (uu17.1 0), .int 1], kb_a G (uu17.1 0) 16 (upd (fun _ => 0) 0 0), kb_o qn19 1 [.ref (uu20.1 0), .int 1], kb_a G (uu20.1 0) 16 (upd (fun _ => 0) 0 0), kb_o qn1 1 [.ref (uu2.1 0), .int 0]] := hD
  exact kb_retv (kb_l [qn1, uu2.1 0, qn4, uu5.1 0, qn7, uu8.1 0, qn10, uu11.1 0, qn13, uu14.1 0, qn16, uu17.1 0, qn19, uu20.1 0, qn22, uu23.1 0, qn25, uu26.1 0, qn28, uu29.1 0, qn31, uu32.1 0, qn34, uu35.1 0], kb_f []) hx hb hr hlocks hE hP hD hS [0, 1, 2, 3, 4, 5, 6, 7, 8, 9, 10, 11, 12, 13, 14, 15, 16, 17, 18, 19, 20, 21, 22, 23, 24] rfl (by decide) rfl trivial (Nat.le_of_ble_eq_true rfl) (Nat.le_of_ble_eq_true rfl) d_Tree_init_140
end
section
theorem wd_8f9e2a03 : (Jvm.Cond.methodLink "TreePress$Reader" (3 : Nat) ({ cls := "java/lang/Object", name := "<init>", desc := "()V" } : Jvm.MethodName)) ∈ kb_T := kb_t1 42 (by decide +kernel) (by decide +kernel)
theorem wd_e34555f4 : (Jvm.Cond.methodLink "TreePress" (3 : Nat) ({ cls := "java/lang/Object", name := "<init>", desc := "()V" } : Jvm.MethodName)) ∈ kb_T := kb_t1 20 (by decide +kernel) (by decide +kernel)
theorem wd_9af8b77c : (Jvm.Cond.classLink "TreePress" (9 : Nat) "TreePress$Row") ∈ kb_T := kb_t1 23 (by decide +kernel) (by decide +kernel)
theorem wd_da7091fb : (Jvm.Cond.methodLink "TreePress" (11 : Nat) ({ cls := "TreePress$Row", name := "<init>", desc := "()V" } : Jvm.MethodName)) ∈ kb_T := kb_t1 25 (by decide +kernel) (by decide +kernel)
theorem wd_667fbbc4 : (Jvm.Cond.fieldLink "TreePress" (12 : Nat) "TreePress" "tape" "LTreePress$Row;") ∈ kb_T := kb_t1 162 (by decide +kernel) (by decide +kernel)
theorem wd_f079d5f7 : (Jvm.Cond.fieldLink "TreePress" (16 : Nat) "TreePress" "laidDown" "LTreePress$Row;") ∈ kb_T := kb_t1 163 (by decide +kernel) (by decide +kernel)
theorem wd_32d5abbe : (Jvm.Cond.classLink "TreePress" (19 : Nat) "TreePress$Reader") ∈ kb_T := kb_t1 37 (by decide +kernel) (by decide +kernel)
theorem wd_c4995118 : (Jvm.Cond.instantiable "TreePress$Reader" (4 : Nat)) ∈ kb_T := kb_t1 38 (by decide +kernel) (by decide +kernel)
theorem wd_6b307554 : (Jvm.Cond.initialized "TreePress$Reader") ∈ kb_T := kb_t1 3 (by decide +kernel) (by decide +kernel)
theorem wd_ad25d64a : (Jvm.Cond.code ({ cls := "TreePress$Reader", name := "<init>", desc := "()V" } : Jvm.MethodName) prog_2_method_1_code (1 : Nat) (Option.none : Option Jvm.ClassFile.FieldType)) ∈ kb_T := kb_t1 41 (by decide +kernel) (by decide +kernel)
theorem wd_5ece03e6 : (Jvm.Cond.instanceMethod ({ cls := "TreePress$Reader", name := "<init>", desc := "()V" } : Jvm.MethodName)) ∈ kb_T := kb_t1 40 (by decide +kernel) (by decide +kernel)
theorem hd_fccc560a : (⟨"TreePress$Reader", "<init>", "()V"⟩ : MethodName).cls ≠ "java/lang/invoke/MethodHandle" ∧ (⟨"TreePress$Reader", "<init>", "()V"⟩ : MethodName).cls ≠ "java/lang/invoke/VarHandle" ∧ (parseMethodDescriptor (⟨"TreePress$Reader", "<init>", "()V"⟩ : MethodName).desc).map (fun d => d.parameters.length) = some 0 := by decide +kernel
theorem wd_911c2fc6 : (Jvm.Cond.fieldLink "TreePress" (22 : Nat) "TreePress" "reader" "LTreePress$Reader;") ∈ kb_T := kb_t1 164 (by decide +kernel) (by decide +kernel)
theorem wd_d108d790 : (Jvm.Cond.classLink "TreePress" (26 : Nat) "TreePress$Tree") ∈ kb_T := kb_t1 56 (by decide +kernel) (by decide +kernel)
theorem wd_69499140 : (Jvm.Cond.instantiable "TreePress$Tree" (14 : Nat)) ∈ kb_T := kb_t1 57 (by decide +kernel) (by decide +kernel)
theorem wd_594609dd : (Jvm.Cond.code ({ cls := "TreePress$Tree", name := "<init>", desc := "()V" } : Jvm.MethodName) prog_4_method_1_code (1 : Nat) (Option.none : Option Jvm.ClassFile.FieldType)) ∈ kb_T := kb_t1 60 (by decide +kernel) (by decide +kernel)
theorem wd_dcb75c85 : (Jvm.Cond.methodLink "TreePress" (28 : Nat) ({ cls := "TreePress$Tree", name := "<init>", desc := "()V" } : Jvm.MethodName)) ∈ kb_T := kb_t1 58 (by decide +kernel) (by decide +kernel)
theorem wd_7590e593 : (Jvm.Cond.instanceMethod ({ cls := "TreePress$Tree", name := "<init>", desc := "()V" } : Jvm.MethodName)) ∈ kb_T := kb_t1 59 (by decide +kernel) (by decide +kernel)
theorem hd_ace844f1 : (⟨"TreePress$Tree", "<init>", "()V"⟩ : MethodName).cls ≠ "java/lang/invoke/MethodHandle" ∧ (⟨"TreePress$Tree", "<init>", "()V"⟩ : MethodName).cls ≠ "java/lang/invoke/VarHandle" ∧ (parseMethodDescriptor (⟨"TreePress$Tree", "<init>", "()V"⟩ : MethodName).desc).map (fun d => d.parameters.length) = some 0 := by decide +kernel
theorem wd_29809c8a : (Jvm.Cond.fieldLink "TreePress" (29 : Nat) "TreePress" "tree" "LTreePress$Tree;") ∈ kb_T := kb_t1 165 (by decide +kernel) (by decide +kernel)
theorem wd_3f558a37 : (Jvm.Cond.fieldLink "TreePress" (33 : Nat) "TreePress" "spare" "LTreePress$Tree;") ∈ kb_T := kb_t1 166 (by decide +kernel) (by decide +kernel)
theorem d_Rd_init_0 : decode prog_2_method_1_code 0 = .ok (.aload_n 0, 1) := by decide +kernel
theorem d_Rd_init_1 : decode prog_2_method_1_code 1 = .ok (.invokespecial 3, 3) := by decide +kernel
theorem d_Rd_init_4 : decode prog_2_method_1_code 4 = .ok (.return_, 1) := by decide +kernel
theorem d_Press_init_0 : decode prog_1_method_1_code 0 = .ok (.aload_n 0, 1) := by decide +kernel
theorem d_Press_init_1 : decode prog_1_method_1_code 1 = .ok (.invokespecial 3, 3) := by decide +kernel
theorem d_Press_init_4 : decode prog_1_method_1_code 4 = .ok (.aload_n 0, 1) := by decide +kernel
theorem d_Press_init_5 : decode prog_1_method_1_code 5 = .ok (.new 9, 3) := by decide +kernel
theorem d_Press_init_8 : decode prog_1_method_1_code 8 = .ok (.dup, 1) := by decide +kernel
theorem d_Press_init_9 : decode prog_1_method_1_code 9 = .ok (.invokespecial 11, 3) := by decide +kernel
theorem d_Press_init_12 : decode prog_1_method_1_code 12 = .ok (.putfield 12, 3) := by decide +kernel
theorem d_Press_init_15 : decode prog_1_method_1_code 15 = .ok (.aload_n 0, 1) := by decide +kernel
theorem d_Press_init_16 : decode prog_1_method_1_code 16 = .ok (.new 9, 3) := by decide +kernel
theorem d_Press_init_19 : decode prog_1_method_1_code 19 = .ok (.dup, 1) := by decide +kernel
theorem d_Press_init_20 : decode prog_1_method_1_code 20 = .ok (.invokespecial 11, 3) := by decide +kernel
theorem d_Press_init_23 : decode prog_1_method_1_code 23 = .ok (.putfield 16, 3) := by decide +kernel
theorem d_Press_init_26 : decode prog_1_method_1_code 26 = .ok (.aload_n 0, 1) := by decide +kernel
theorem d_Press_init_27 : decode prog_1_method_1_code 27 = .ok (.new 19, 3) := by decide +kernel
theorem d_Press_init_30 : decode prog_1_method_1_code 30 = .ok (.dup, 1) := by decide +kernel
theorem d_Press_init_31 : decode prog_1_method_1_code 31 = .ok (.invokespecial 21, 3) := by decide +kernel
theorem d_Press_init_34 : decode prog_1_method_1_code 34 = .ok (.putfield 22, 3) := by decide +kernel
theorem d_Press_init_37 : decode prog_1_method_1_code 37 = .ok (.aload_n 0, 1) := by decide +kernel
theorem d_Press_init_38 : decode prog_1_method_1_code 38 = .ok (.new 26, 3) := by decide +kernel
theorem d_Press_init_41 : decode prog_1_method_1_code 41 = .ok (.dup, 1) := by decide +kernel
theorem d_Press_init_42 : decode prog_1_method_1_code 42 = .ok (.invokespecial 28, 3) := by decide +kernel
theorem d_Press_init_45 : decode prog_1_method_1_code 45 = .ok (.putfield 29, 3) := by decide +kernel
theorem d_Press_init_48 : decode prog_1_method_1_code 48 = .ok (.aload_n 0, 1) := by decide +kernel
theorem d_Press_init_49 : decode prog_1_method_1_code 49 = .ok (.new 26, 3) := by decide +kernel
theorem d_Press_init_52 : decode prog_1_method_1_code 52 = .ok (.dup, 1) := by decide +kernel
theorem d_Press_init_53 : decode prog_1_method_1_code 53 = .ok (.invokespecial 28, 3) := by decide +kernel
theorem d_Press_init_56 : decode prog_1_method_1_code 56 = .ok (.putfield 33, 3) := by decide +kernel
theorem d_Press_init_59 : decode prog_1_method_1_code 59 = .ok (.return_, 1) := by decide +kernel
set_option maxHeartbeats 4000000 in
set_option maxRecDepth 100000 in
theorem c_Rd_init (l : Launch) (G : kb_G) (h : Nat) : kb_cv l G ⟨"TreePress$Reader", "<init>", "()V"⟩ prog_2_method_1_code 1 1 0 0 [.ref h] [kb_o h 0 [.int 0, .int 0, .int 0, .int 0]] (fun u => True) (fun u => [kb_o h 0 [.int 0, .int 0, .int 0, .int 0]]) := by
  intro sz
  refine kb_body (QQ := fun A => kb_Qv G A (fun u => True) (fun u => [kb_o h 0 [.int 0, .int 0, .int 0, .int 0]])) (by decide) (Nat.le_of_ble_eq_true rfl) ?_
  intro p e s m below meth c A B ls hl
  obtain ⟨hx, hb, hr, hml, hlocks, hin, hown, ht, hE, hP, hD, hS⟩ := B
  have hl : lv_has ls 1 [(0, .ref h)] := hl
  have hP0 := hP
  obtain ⟨H, hHe⟩ : ∃ H, H = s.heap := ⟨_, rfl⟩
  rw [← hHe] at hP
  have hS : va_S A s.heap H [] := by rw [hHe]; exact hS
  refine kb_at hHe ?_
  clear hHe
  refine lv_aload_n hx hb d_Rd_init_0 rfl (lv_at hl 0 rfl) ?_
  refine W.objInit hx hb hown (ht _ wd_8f9e2a03) (ht _ wd_962a1238) (ht _ wd_b2b9d69d) rfl (by rw [hml]; exact hl.1) rfl d_Rd_init_1 (Nat.le_of_ble_eq_true rfl) (Nat.le_of_ble_eq_true rfl) ?_
  refine W.eq (g2 := F0 m 4 ls []) rfl ?_
  exact kb_retv (kb_l [], kb_f []) hx hb hr hlocks hE hP hD hS [0] rfl (by decide) rfl trivial (Nat.le_of_ble_eq_true rfl) (Nat.le_of_ble_eq_true rfl) d_Rd_init_4

set_option maxHeartbeats 4000000 in
set_option maxRecDepth 100000 in
theorem c_Press_init (l : Launch) (G : kb_G) (h : Nat) : kb_cv l G ⟨"TreePress", "<init>", "()V"⟩ prog_1_method_1_code 1 8 55 500 [.ref h] [kb_o h 3 [.null, .null, .null, .null, .null]] (fun u => True) (fun u => [kb_o h 3 [.ref (u.1 0), .ref (u.1 2), .ref (u.1 4), .ref (u.1 5), .ref (u.1 30)], kb_o (u.1 0) 1 [.ref (u.1 1), .int 0], kb_a G (u.1 1) 16 (fun _ => 0), kb_o (u.1 2) 1 [.ref (u.1 3), .int 0], kb_a G (u.1 3) 16 (fun _ => 0), kb_o (u.1 4) 0 [.int 0, .int 0, .int 0, .int 0], kb_a G (u.1 6) 16 (fun _ => 0), kb_a G (u.1 7) 16 (fun _ => 0), kb_a G (u.1 8) 16 (fun _ => 0), kb_a G (u.1 9) 16 (fun _ => 0), kb_a G (u.1 10) 16 (fun _ => 0), kb_a G (u.1 11) 16 (fun _ => 0), kb_o (u.1 12) 1 [.ref (u.1 8), .int 0], kb_o (u.1 13) 1 [.ref (u.1 9), .int 0], kb_o (u.1 14) 1 [.ref (u.1 10), .int 0], kb_o (u.1 15) 1 [.ref (u.1 11), .int 0], kb_o (u.1 16) 1 [.ref (u.1 17), .int 1], kb_a G (u.1 17) 16 (upd (fun _ => 0) 0 (-1)), kb_o (u.1 18) 1 [.ref (u.1 19), .int 1], kb_a G (u.1 19) 16 (upd (fun _ => 0) 0 1), kb_o (u.1 20) 1 [.ref (u.1 21), .int 1], kb_a G (u.1 21) 16 (upd (fun _ => 0) 0 0), kb_o (u.1 22) 1 [.ref (u.1 23), .int 1], kb_a G (u.1 23) 16 (upd (fun _ => 0) 0 0), kb_o (u.1 5) 2 [.ref (u.1 29), .ref (u.1 16), .ref (u.1 18), .ref (u.1 20), .ref (u.1 22), .ref (u.1 25), .ref (u.1 27), .ref (u.1 24), .ref (u.1 12), .ref (u.1 13), .ref (u.1 14), .ref (u.1 15), .int 0, .int 0], kb_o (u.1 24) 1 [.ref (u.1 7), .int 0], kb_o (u.1 25) 1 [.ref (u.1 26), .int 1], kb_a G (u.1 26) 16 (upd (fun _ => 0) 0 0), kb_o (u.1 27) 1 [.ref (u.1 28), .int 1], kb_a G (u.1 28) 16 (upd (fun _ => 0) 0 0), kb_o (u.1 29) 1 [.ref (u.1 6), .int 0], kb_a G (u.1 31) 16 (fun _ => 0), kb_a G (u.1 32) 16 (fun _ => 0), kb_a G (u.1 33) 16 (fun _ => 0), kb_a G (u.1 34) 16 (fun _ => 0), kb_a G (u.1 35) 16 (fun _ => 0), kb_a G (u.1 36) 16 (fun _ => 0), kb_o (u.1 37) 1 [.ref (u.1 33), .int 0], kb_o (u.1 38) 1 [.ref (u.1 34), .int 0], kb_o (u.1 39) 1 [.ref (u.1 35), .int 0], kb_o (u.1 40) 1 [.ref (u.1 36), .int 0], kb_o (u.1 41) 1 [.ref (u.1 42), .int 1], kb_a G (u.1 42) 16 (upd (fun _ => 0) 0 (-1)), kb_o (u.1 43) 1 [.ref (u.1 44), .int 1], kb_a G (u.1 44) 16 (upd (fun _ => 0) 0 1), kb_o (u.1 45) 1 [.ref (u.1 46), .int 1], kb_a G (u.1 46) 16 (upd (fun _ => 0) 0 0), kb_o (u.1 47) 1 [.ref (u.1 48), .int 1], kb_a G (u.1 48) 16 (upd (fun _ => 0) 0 0), kb_o (u.1 30) 2 [.ref (u.1 54), .ref (u.1 41), .ref (u.1 43), .ref (u.1 45), .ref (u.1 47), .ref (u.1 50), .ref (u.1 52), .ref (u.1 49), .ref (u.1 37), .ref (u.1 38), .ref (u.1 39), .ref (u.1 40), .int 0, .int 0], kb_o (u.1 49) 1 [.ref (u.1 32), .int 0], kb_o (u.1 50) 1 [.ref (u.1 51), .int 1], kb_a G (u.1 51) 16 (upd (fun _ => 0) 0 0), kb_o (u.1 52) 1 [.ref (u.1 53), .int 1], kb_a G (u.1 53) 16 (upd (fun _ => 0) 0 0), kb_o (u.1 54) 1 [.ref (u.1 31), .int 0]]) := by
  intro sz
  refine kb_body (QQ := fun A => kb_Qv G A (fun u => True) (fun u => [kb_o h 3 [.ref (u.1 0), .ref (u.1 2), .ref (u.1 4), .ref (u.1 5), .ref (u.1 30)], kb_o (u.1 0) 1 [.ref (u.1 1), .int 0], kb_a G (u.1 1) 16 (fun _ => 0), kb_o (u.1 2) 1 [.ref (u.1 3), .int 0], kb_a G (u.1 3) 16 (fun _ => 0), kb_o (u.1 4) 0 [.int 0, .int 0, .int 0, .int 0], kb_a G (u.1 6) 16 (fun _ => 0), kb_a G (u.1 7) 16 (fun _ => 0), kb_a G (u.1 8) 16 (fun _ => 0), kb_a G (u.1 9) 16 (fun _ => 0), kb_a G (u.1 10) 16 (fun _ => 0), kb_a G (u.1 11) 16 (fun _ => 0), kb_o (u.1 12) 1 [.ref (u.1 8), .int 0], kb_o (u.1 13) 1 [.ref (u.1 9), .int 0], kb_o (u.1 14) 1 [.ref (u.1 10), .int 0], kb_o (u.1 15) 1 [.ref (u.1 11), .int 0], kb_o (u.1 16) 1 [.ref (u.1 17), .int 1], kb_a G (u.1 17) 16 (upd (fun _ => 0) 0 (-1)), kb_o (u.1 18) 1 [.ref (u.1 19), .int 1], kb_a G (u.1 19) 16 (upd (fun _ => 0) 0 1), kb_o (u.1 20) 1 [.ref (u.1 21), .int 1], kb_a G (u.1 21) 16 (upd (fun _ => 0) 0 0), kb_o (u.1 22) 1 [.ref (u.1 23), .int 1], kb_a G (u.1 23) 16 (upd (fun _ => 0) 0 0), kb_o (u.1 5) 2 [.ref (u.1 29), .ref (u.1 16), .ref (u.1 18), .ref (u.1 20), .ref (u.1 22), .ref (u.1 25), .ref (u.1 27), .ref (u.1 24), .ref (u.1 12), .ref (u.1 13), .ref (u.1 14), .ref (u.1 15), .int 0, .int 0], kb_o (u.1 24) 1 [.ref (u.1 7), .int 0], kb_o (u.1 25) 1 [.ref (u.1 26), .int 1], kb_a G (u.1 26) 16 (upd (fun _ => 0) 0 0), kb_o (u.1 27) 1 [.ref (u.1 28), .int 1], kb_a G (u.1 28) 16 (upd (fun _ => 0) 0 0), kb_o (u.1 29) 1 [.ref (u.1 6), .int 0], kb_a G (u.1 31) 16 (fun _ => 0), kb_a G (u.1 32) 16 (fun _ => 0), kb_a G (u.1 33) 16 (fun _ => 0), kb_a G (u.1 34) 16 (fun _ => 0), kb_a G (u.1 35) 16 (fun _ => 0), kb_a G (u.1 36) 16 (fun _ => 0), kb_o (u.1 37) 1 [.ref (u.1 33), .int 0], kb_o (u.1 38) 1 [.ref (u.1 34), .int 0], kb_o (u.1 39) 1 [.ref (u.1 35), .int 0], kb_o (u.1 40) 1 [.ref (u.1 36), .int 0], kb_o (u.1 41) 1 [.ref (u.1 42), .int 1], kb_a G (u.1 42) 16 (upd (fun _ => 0) 0 (-1)), kb_o (u.1 43) 1 [.ref (u.1 44), .int 1], kb_a G (u.1 44) 16 (upd (fun _ => 0) 0 1), kb_o (u.1 45) 1 [.ref (u.1 46), .int 1], kb_a G (u.1 46) 16 (upd (fun _ => 0) 0 0), kb_o (u.1 47) 1 [.ref (u.1 48), .int 1], kb_a G (u.1 48) 16 (upd (fun _ => 0) 0 0), kb_o (u.1 30) 2 [.ref (u.1 54), .ref (u.1 41), .ref (u.1 43), .ref (u.1 45), .ref (u.1 47), .ref (u.1 50), .ref (u.1 52), .ref (u.1 49), .ref (u.1 37), .ref (u.1 38), .ref (u.1 39), .ref (u.1 40), .int 0, .int 0], kb_o (u.1 49) 1 [.ref (u.1 32), .int 0], kb_o (u.1 50) 1 [.ref (u.1 51), .int 1], kb_a G (u.1 51) 16 (upd (fun _ => 0) 0 0), kb_o (u.1 52) 1 [.ref (u.1 53), .int 1], kb_a G (u.1 53) 16 (upd (fun _ => 0) 0 0), kb_o (u.1 54) 1 [.ref (u.1 31), .int 0]])) (by decide) (Nat.le_of_ble_eq_true rfl) ?_
  intro p e s m below meth c A B ls hl
  obtain ⟨hx, hb, hr, hml, hlocks, hin, hown, ht, hE, hP, hD, hS⟩ := B
  have hl : lv_has ls 1 [(0, .ref h)] := hl
  have hP0 := hP
  obtain ⟨H, hHe⟩ : ∃ H, H = s.heap := ⟨_, rfl⟩
  rw [← hHe] at hP
  have hS : va_S A s.heap H [] := by rw [hHe]; exact hS
  refine kb_at hHe ?_
  clear hHe
  refine lv_aload_n hx hb d_Press_init_0 rfl (lv_at hl 0 rfl) ?_
  refine W.objInit hx hb hown (ht _ wd_e34555f4) (ht _ wd_962a1238) (ht _ wd_b2b9d69d) rfl (by rw [hml]; exact hl.1) rfl d_Press_init_1 (Nat.le_of_ble_eq_true rfl) (Nat.le_of_ble_eq_true rfl) ?_
  refine W.eq (g2 := F0 m 4 ls []) rfl ?_
  refine lv_aload_n hx hb d_Press_init_4 rfl (lv_at hl 0 rfl) ?_
  refine va_new (ci := 1) (fs := [.null, .int 0]) (C := "TreePress$Row") (T := kb_F1) (N := 2) hx hb ht kb_w1 kb_y1 kb_p1 hown (ht _ wd_9af8b77c) (ht _ wd_23abe21f) (ht _ wd_4182e433) hE.1 hP hD hS hE.2.2.2 rfl kb_d1 (Nat.le_of_ble_eq_true rfl) (Nat.le_of_ble_eq_true rfl) d_Press_init_5 (fun qn1 H hP hD hS => ?_)
  have hP : va_P G.1 kb_cl [kb_o h 3 [.null, .null, .null, .null, .null], kb_o qn1 1 [.null, .int 0]] H := hP
  have hD : va_D A [kb_o h 3 [.null, .null, .null, .null, .null], kb_o qn1 1 [.null, .int 0]] := hD
  refine lv_dup hx hb d_Press_init_8 rfl ?_
  refine kb_v (wc := [kb_o qn1 1 [.null, .int 0]]) (wr := [kb_o h 3 [.null, .null, .null, .null, .null]]) hE hP hD hS [1] [0] rfl rfl (by decide) (by decide) (kb_rI (As := []) (rest := [.ref qn1, .ref h]) (wc := [kb_o qn1 1 [.null, .int 0]]) ⟨hx, hb, hml, hown, ht⟩ ((c_Row_init l G qn1) _) wd_120d8060 wd_4182e433 wd_da7091fb wd_48fb15c2 rfl hd_e8c59c19 ⟨(Nat.le_of_ble_eq_true rfl), (Nat.le_of_ble_eq_true rfl)⟩ hE hP hD hS [1] rfl (by decide) hl.1 rfl (Nat.le_of_ble_eq_true rfl) d_Press_init_9 ⟨(Nat.le_of_ble_eq_true rfl), (Nat.le_of_ble_eq_true rfl)⟩) (fun uu2 H locs hw hP hD hS => ?_)
  have hP : va_P G.1 kb_cl [kb_o h 3 [.null, .null, .null, .null, .null], kb_o qn1 1 [.ref (uu2.1 0), .int 0], kb_a G (uu2.1 0) 16 (fun _ => 0)] H := hP
  have hD : va_D A [kb_o h 3 [.null, .null, .null, .null, .null], kb_o qn1 1 [.ref (uu2.1 0), .int 0], kb_a G (uu2.1 0) 16 (fun _ => 0)] := hD
  refine va_putF (D := G.1) (ci := 3) (v := .ref qn1) (ty := .object "TreePress$Row") (C := "TreePress") (T := kb_F3) (N := 5) hx hb ht kb_w3 kb_y3 kb_p3 kb_n3 hown hE.1 hP hD hS 0 rfl rfl 0 (by decide) (ht _ wd_667fbbc4) (fun _ h9 => h9) rfl hin rfl (by decide +kernel) rfl rfl (Nat.le_of_ble_eq_true rfl) d_Press_init_12 (fun H locs hP hD hS => ?_)
  have hP : va_P G.1 kb_cl [kb_o h 3 [.ref qn1, .null, .null, .null, .null], kb_o qn1 1 [.ref (uu2.1 0), .int 0], kb_a G (uu2.1 0) 16 (fun _ => 0)] H := hP
  have hD : va_D A [kb_o h 3 [.ref qn1, .null, .null, .null, .null], kb_o qn1 1 [.ref (uu2.1 0), .int 0], kb_a G (uu2.1 0) 16 (fun _ => 0)] := hD
  refine lv_aload_n hx hb d_Press_init_15 rfl (lv_at hl 0 rfl) ?_
  refine va_new (ci := 1) (fs := [.null, .int 0]) (C := "TreePress$Row") (T := kb_F1) (N := 2) hx hb ht kb_w1 kb_y1 kb_p1 hown (ht _ wd_9af8b77c) (ht _ wd_23abe21f) (ht _ wd_4182e433) hE.1 hP hD hS hE.2.2.2 rfl kb_d1 (Nat.le_of_ble_eq_true rfl) (Nat.le_of_ble_eq_true rfl) d_Press_init_16 (fun qn4 H hP hD hS => ?_)
  have hP : va_P G.1 kb_cl [kb_o h 3 [.ref qn1, .null, .null, .null, .null], kb_o qn1 1 [.ref (uu2.1 0), .int 0], kb_a G (uu2.1 0) 16 (fun _ => 0), kb_o qn4 1 [.null, .int 0]] H := hP
  have hD : va_D A [kb_o h 3 [.ref qn1, .null, .null, .null, .null], kb_o qn1 1 [.ref (uu2.1 0), .int 0], kb_a G (uu2.1 0) 16 (fun _ => 0), kb_o qn4 1 [.null, .int 0]] := hD
  refine lv_dup hx hb d_Press_init_19 rfl ?_
  refine kb_v (wc := [kb_o qn4 1 [.null, .int 0]]) (wr := [kb_o h 3 [.ref qn1, .null, .null, .null, .null], kb_o qn1 1 [.ref (uu2.1 0), .int 0], kb_a G (uu2.1 0) 16 (fun _ => 0)]) hE hP hD hS [3] [0, 1, 2] rfl rfl (by decide) (by decide) (kb_rI (As := []) (rest := [.ref qn4, .ref h]) (wc := [kb_o qn4 1 [.null, .int 0]]) ⟨hx, hb, hml, hown, ht⟩ ((c_Row_init l G qn4) _) wd_120d8060 wd_4182e433 wd_da7091fb wd_48fb15c2 rfl hd_e8c59c19 ⟨(Nat.le_of_ble_eq_true rfl), (Nat.le_of_ble_eq_true rfl)⟩ hE hP hD hS [3] rfl (by decide) hl.1 rfl (Nat.le_of_ble_eq_true rfl) d_Press_init_20 ⟨(Nat.le_of_ble_eq_true rfl), (Nat.le_of_ble_eq_true rfl)⟩) (fun uu5 H locs hw hP hD hS => ?_)
  have hP : va_P G.1 kb_cl [kb_o h 3 [.ref qn1, .null, .null, .null, .null], kb_o qn1 1 [.ref (uu2.1 0), .int 0], kb_a G (uu2.1 0) 16 (fun _ => 0), kb_o qn4 1 [.ref (uu5.1 0), .int 0], kb_a G (uu5.1 0) 16 (fun _ => 0)] H := hP
  have hD : va_D A [kb_o h 3 [.ref qn1, .null, .null, .null, .null], kb_o qn1 1 [.ref (uu2.1 0), .int 0], kb_a G (uu2.1 0) 16 (fun _ => 0), kb_o qn4 1 [.ref (uu5.1 0), .int 0], kb_a G (uu5.1 0) 16 (fun _ => 0)] := hD
  refine va_putF (D := G.1) (ci := 3) (v := .ref qn4) (ty := .object "TreePress$Row") (C := "TreePress") (T := kb_F3) (N := 5) hx hb ht kb_w3 kb_y3 kb_p3 kb_n3 hown hE.1 hP hD hS 0 rfl rfl 1 (by decide) (ht _ wd_f079d5f7) (fun _ h9 => h9) rfl hin rfl (by decide +kernel) rfl rfl (Nat.le_of_ble_eq_true rfl) d_Press_init_23 (fun H locs hP hD hS => ?_)
  have hP : va_P G.1 kb_cl [kb_o h 3 [.ref qn1, .ref qn4, .null, .null, .null], kb_o qn1 1 [.ref (uu2.1 0), .int 0], kb_a G (uu2.1 0) 16 (fun _ => 0), kb_o qn4 1 [.ref (uu5.1 0), .int 0], kb_a G (uu5.1 0) 16 (fun _ => 0)] H := hP
  have hD : va_D A [kb_o h 3 [.ref qn1, .ref qn4, .null, .null, .null], kb_o qn1 1 [.ref (uu2.1 0), .int 0], kb_a G (uu2.1 0) 16 (fun _ => 0), kb_o qn4 1 [.ref (uu5.1 0), .int 0], kb_a G (uu5.1 0) 16 (fun _ => 0)] := hD
  refine lv_aload_n hx hb d_Press_init_26 rfl (lv_at hl 0 rfl) ?_
  refine va_new (ci := 0) (fs := [.int 0, .int 0, .int 0, .int 0]) (C := "TreePress$Reader") (T := kb_F0) (N := 4) hx hb ht kb_w0 kb_y0 kb_p0 hown (ht _ wd_32d5abbe) (ht _ wd_c4995118) (ht _ wd_6b307554) hE.1 hP hD hS hE.2.2.2 rfl kb_d0 (Nat.le_of_ble_eq_true rfl) (Nat.le_of_ble_eq_true rfl) d_Press_init_27 (fun qn7 H hP hD hS => ?_)
  have hP : va_P G.1 kb_cl [kb_o h 3 [.ref qn1, .ref qn4, .null, .null, .null], kb_o qn1 1 [.ref (uu2.1 0), .int 0], kb_a G (uu2.1 0) 16 (fun _ => 0), kb_o qn4 1 [.ref (uu5.1 0), .int 0], kb_a G (uu5.1 0) 16 (fun _ => 0), kb_o qn7 0 [.int 0, .int 0, .int 0, .int 0]] H := hP
  have hD : va_D A [kb_o h 3 [.ref qn1, .ref qn4, .null, .null, .null], kb_o qn1 1 [.ref (uu2.1 0), .int 0], kb_a G (uu2.1 0) 16 (fun _ => 0), kb_o qn4 1 [.ref (uu5.1 0), .int 0], kb_a G (uu5.1 0) 16 (fun _ => 0), kb_o qn7 0 [.int 0, .int 0, .int 0, .int 0]] := hD
  refine lv_dup hx hb d_Press_init_30 rfl ?_
  refine kb_v (wc := [kb_o qn7 0 [.int 0, .int 0, .int 0, .int 0]]) (wr := [kb_o h 3 [.ref qn1, .ref qn4, .null, .null, .null], kb_o qn1 1 [.ref (uu2.1 0), .int 0], kb_a G (uu2.1 0) 16 (fun _ => 0), kb_o qn4 1 [.ref (uu5.1 0), .int 0], kb_a G (uu5.1 0) 16 (fun _ => 0)]) hE hP hD hS [5] [0, 1, 2, 3, 4] rfl rfl (by decide) (by decide) (kb_rIN (As := []) (rest := [.ref qn7, .ref h]) (wc := [kb_o qn7 0 [.int 0, .int 0, .int 0, .int 0]]) ⟨hx, hb, hml, hown, ht⟩ ((c_Rd_init l G qn7) _) wd_ad25d64a wd_6b307554 hE.2.2.1.1.1 wd_5ece03e6 rfl hd_fccc560a ⟨(Nat.le_of_ble_eq_true rfl), (Nat.le_of_ble_eq_true rfl)⟩ hE hP hD hS [5] rfl (by decide) hl.1 rfl (Nat.le_of_ble_eq_true rfl) d_Press_init_31 ⟨(Nat.le_of_ble_eq_true rfl), (Nat.le_of_ble_eq_true rfl)⟩) (fun uu8 H locs hw hP hD hS => ?_)
  have hP : va_P G.1 kb_cl [kb_o h 3 [.ref qn1, .ref qn4, .null, .null, .null], kb_o qn1 1 [.ref (uu2.1 0), .int 0], kb_a G (uu2.1 0) 16 (fun _ => 0), kb_o qn4 1 [.ref (uu5.1 0), .int 0], kb_a G (uu5.1 0) 16 (fun _ => 0), kb_o qn7 0 [.int 0, .int 0, .int 0, .int 0]] H := hP
  have hD : va_D A [kb_o h 3 [.ref qn1, .ref qn4, .null, .null, .null], kb_o qn1 1 [.ref (uu2.1 0), .int 0], kb_a G (uu2.1 0) 16 (fun _ => 0), kb_o qn4 1 [.ref (uu5.1 0), .int 0], kb_a G (uu5.1 0) 16 (fun _ => 0), kb_o qn7 0 [.int 0, .int 0, .int 0, .int 0]] := hD
  refine va_putF (D := G.1) (ci := 3) (v := .ref qn7) (ty := .object "TreePress$Reader") (C := "TreePress") (T := kb_F3) (N := 5) hx hb ht kb_w3 kb_y3 kb_p3 kb_n3 hown hE.1 hP hD hS 0 rfl rfl 2 (by decide) (ht _ wd_911c2fc6) (fun _ h9 => h9) rfl hin rfl (by decide +kernel) rfl rfl (Nat.le_of_ble_eq_true rfl) d_Press_init_34 (fun H locs hP hD hS => ?_)
  have hP : va_P G.1 kb_cl [kb_o h 3 [.ref qn1, .ref qn4, .ref qn7, .null, .null], kb_o qn1 1 [.ref (uu2.1 0), .int 0], kb_a G (uu2.1 0) 16 (fun _ => 0), kb_o qn4 1 [.ref (uu5.1 0), .int 0], kb_a G (uu5.1 0) 16 (fun _ => 0), kb_o qn7 0 [.int 0, .int 0, .int 0, .int 0]] H := hP
  have hD : va_D A [kb_o h 3 [.ref qn1, .ref qn4, .ref qn7, .null, .null], kb_o qn1 1 [.ref (uu2.1 0), .int 0], kb_a G (uu2.1 0) 16 (fun _ => 0), kb_o qn4 1 [.ref (uu5.1 0), .int 0], kb_a G (uu5.1 0) 16 (fun _ => 0), kb_o qn7 0 [.int 0, .int 0, .int 0, .int 0]] := hD
  refine lv_aload_n hx hb d_Press_init_37 rfl (lv_at hl 0 rfl) ?_
  refine va_new (ci := 2) (fs := [.null, .null, .null, .null, .null, .null, .null, .null, .null, .null, .null, .null, .int 0, .int 0]) (C := "TreePress$Tree") (T := kb_F2) (N := 14) hx hb ht kb_w2 kb_y2 kb_p2 hown (ht _ wd_d108d790) (ht _ wd_69499140) (ht _ wd_ebf91e09) hE.1 hP hD hS hE.2.2.2 rfl kb_d2 (Nat.le_of_ble_eq_true rfl) (Nat.le_of_ble_eq_true rfl) d_Press_init_38 (fun qn10 H hP hD hS => ?_)
  have hP : va_P G.1 kb_cl [kb_o h 3 [.ref qn1, .ref qn4, .ref qn7, .null, .null], kb_o qn1 1 [.ref (uu2.1 0), .int 0], kb_a G (uu2.1 0) 16 (fun _ => 0), kb_o qn4 1 [.ref (uu5.1 0), .int 0], kb_a G (uu5.1 0) 16 (fun _ => 0), kb_o qn7 0 [.int 0, .int 0, .int 0, .int 0], kb_o qn10 2 [.null, .null, .null, .null, .null, .null, .null, .null, .null, .null, .null, .null, .int 0, .int 0]] H := hP
  have hD : va_D A [kb_o h 3 [.ref qn1, .ref qn4, .ref qn7, .null, .null], kb_o qn1 1 [.ref (uu2.1 0), .int 0], kb_a G (uu2.1 0) 16 (fun _ => 0), kb_o qn4 1 [.ref (uu5.1 0), .int 0], kb_a G (uu5.1 0) 16 (fun _ => 0), kb_o qn7 0 [.int 0, .int 0, .int 0, .int 0], kb_o qn10 2 [.null, .null, .null, .null, .null, .null, .null, .null, .null, .null, .null, .null, .int 0, .int 0]] := hD
  refine lv_dup hx hb d_Press_init_41 rfl ?_
  refine kb_v (wc := [kb_o qn10 2 [.null, .null, .null, .null, .null, .null, .null, .null, .null, .null, .null, .null, .int 0, .int 0]]) (wr := [kb_o h 3 [.ref qn1, .ref qn4, .ref qn7, .null, .null], kb_o qn1 1 [.ref (uu2.1 0), .int 0], kb_a G (uu2.1 0) 16 (fun _ => 0), kb_o qn4 1 [.ref (uu5.1 0), .int 0], kb_a G (uu5.1 0) 16 (fun _ => 0), kb_o qn7 0 [.int 0, .int 0, .int 0, .int 0]]) hE hP hD hS [6] [0, 1, 2, 3, 4, 5] rfl rfl (by decide) (by decide) (kb_rI (As := []) (rest := [.ref qn10, .ref h]) (wc := [kb_o qn10 2 [.null, .null, .null, .null, .null, .null, .null, .null, .null, .null, .null, .null, .int 0, .int 0]]) ⟨hx, hb, hml, hown, ht⟩ ((c_Tree_init l G qn10) _) wd_594609dd wd_ebf91e09 wd_dcb75c85 wd_7590e593 rfl hd_ace844f1 ⟨(Nat.le_of_ble_eq_true rfl), (Nat.le_of_ble_eq_true rfl)⟩ hE hP hD hS [6] rfl (by decide) hl.1 rfl (Nat.le_of_ble_eq_true rfl) d_Press_init_42 ⟨(Nat.le_of_ble_eq_true rfl), (Nat.le_of_ble_eq_true rfl)⟩) (fun uu11 H locs hw hP hD hS => ?_)
  have hP : va_P G.1 kb_cl [kb_o h 3 [.ref qn1, .ref qn4, .ref qn7, .null, .null], kb_o qn1 1 [.ref (uu2.1 0), .int 0], kb_a G (uu2.1 0) 16 (fun _ => 0), kb_o qn4 1 [.ref (uu5.1 0), .int 0], kb_a G (uu5.1 0) 16 (fun _ => 0), kb_o qn7 0 [.int 0, .int 0, .int 0, .int 0], kb_a G (uu11.1 1) 16 (fun _ => 0), kb_a G (uu11.1 15) 16 (fun _ => 0), kb_a G (uu11.1 17) 16 (fun _ => 0), kb_a G (uu11.1 19) 16 (fun _ => 0), kb_a G (uu11.1 21) 16 (fun _ => 0), kb_a G (uu11.1 23) 16 (fun _ => 0), kb_o (uu11.1 16) 1 [.ref (uu11.1 17), .int 0], kb_o (uu11.1 18) 1 [.ref (uu11.1 19), .int 0], kb_o (uu11.1 20) 1 [.ref (uu11.1 21), .int 0], kb_o (uu11.1 22) 1 [.ref (uu11.1 23), .int 0], kb_o (uu11.1 2) 1 [.ref (uu11.1 3), .int 1], kb_a G (uu11.1 3) 16 (upd (fun _ => 0) 0 (-1)), kb_o (uu11.1 4) 1 [.ref (uu11.1 5), .int 1], kb_a G (uu11.1 5) 16 (upd (fun _ => 0) 0 1), kb_o (uu11.1 6) 1 [.ref (uu11.1 7), .int 1], kb_a G (uu11.1 7) 16 (upd (fun _ => 0) 0 0), kb_o (uu11.1 8) 1 [.ref (uu11.1 9), .int 1], kb_a G (uu11.1 9) 16 (upd (fun _ => 0) 0 0), kb_o qn10 2 [.ref (uu11.1 0), .ref (uu11.1 2), .ref (uu11.1 4), .ref (uu11.1 6), .ref (uu11.1 8), .ref (uu11.1 10), .ref (uu11.1 12), .ref (uu11.1 14), .ref (uu11.1 16), .ref (uu11.1 18), .ref (uu11.1 20), .ref (uu11.1 22), .int 0, .int 0], kb_o (uu11.1 14) 1 [.ref (uu11.1 15), .int 0], kb_o (uu11.1 10) 1 [.ref (uu11.1 11), .int 1], kb_a G (uu11.1 11) 16 (upd (fun _ => 0) 0 0), kb_o (uu11.1 12) 1 [.ref (uu11.1 13), .int 1], kb_a G (uu11.1 13) 16 (upd (fun _ => 0) 0 0), kb_o (uu11.1 0) 1 [.ref (uu11.1 1), .int 0]] H := hP
  have hD : va_D A [kb_o h 3 [.ref qn1, .ref qn4, .ref qn7, .null, .null], kb_o qn1 1 [.ref (uu2.1 0), .int 0], kb_a G (uu2.1 0) 16 (fun _ => 0), kb_o qn4 1 [.ref (uu5.1 0), .int 0], kb_a G (uu5.1 0) 16 (fun _ => 0), kb_o qn7 0 [.int 0, .int 0, .int 0, .int 0], kb_a G (uu11.1 1) 16 (fun _ => 0), kb_a G (uu11.1 15) 16 (fun _ => 0), kb_a G (uu11.1 17) 16 (fun _ => 0), kb_a G (uu11.1 19) 16 (fun _ => 0), kb_a G (uu11.1 21) 16 (fun _ => 0), kb_a G (uu11.1 23) 16 (fun _ => 0), kb_o (uu11.1 16) 1 [.ref (uu11.1 17), .int 0], kb_o (uu11.1 18) 1 [.ref (uu11.1 19), .int 0], kb_o (uu11.1 20) 1 [.ref (uu11.1 21), .int 0], kb_o (uu11.1 22) 1 [.ref (uu11.1 23), .int 0], kb_o (uu11.1 2) 1 [.ref (uu11.1 3), .int 1], kb_a G (uu11.1 3) 16 (upd (fun _ => 0) 0 (-1)), kb_o (uu11.1 4) 1 [.ref (uu11.1 5), .int 1], kb_a G (uu11.1 5) 16 (upd (fun _ => 0) 0 1), kb_o (uu11.1 6) 1 [.ref (uu11.1 7), .int 1], kb_a G (uu11.1 7) 16 (upd (fun _ => 0) 0 0), kb_o (uu11.1 8) 1 [.ref (uu11.1 9), .int 1], kb_a G (uu11.1 9) 16 (upd (fun _ => 0) 0 0), kb_o qn10 2 [.ref (uu11.1 0), .ref (uu11.1 2), .ref (uu11.1 4), .ref (uu11.1 6), .ref (uu11.1 8), .ref (uu11.1 10), .ref (uu11.1 12), .ref (uu11.1 14), .ref (uu11.1 16), .ref (uu11.1 18), .ref (uu11.1 20), .ref (uu11.1 22), .int 0, .int 0], kb_o (uu11.1 14) 1 [.ref (uu11.1 15), .int 0], kb_o (uu11.1 10) 1 [.ref (uu11.1 11), .int 1], kb_a G (uu11.1 11) 16 (upd (fun _ => 0) 0 0), kb_o (uu11.1 12) 1 [.ref (uu11.1 13), .int 1], kb_a G (uu11.1 13) 16 (upd (fun _ => 0) 0 0), kb_o (uu11.1 0) 1 [.ref (uu11.1 1), .int 0]] := hD
  refine va_put (D := G.1) (ci := 3) (v := .ref qn10) (ty := .object "TreePress$Tree") (C := "TreePress") (T := kb_F3) (N := 5) hx hb ht kb_w3 kb_y3 kb_p3 kb_n3 hown hE.1 hP hD hS 0 rfl rfl 3 (by decide) (ht _ wd_29809c8a) (fun _ h9 => h9) rfl (by decide +kernel) rfl rfl (Nat.le_of_ble_eq_true rfl) d_Press_init_45 (fun H locs hP hD hS => ?_)
  have hP : va_P G.1 kb_cl [kb_o h 3 [.ref qn1, .ref qn4, .ref qn7, .ref qn10, .null], kb_o qn1 1 [.ref (uu2.1 0), .int 0], kb_a G (uu2.1 0) 16 (fun _ => 0), kb_o qn4 1 [.ref (uu5.1 0), .int 0], kb_a G (uu5.1 0) 16 (fun _ => 0), kb_o qn7 0 [.int 0, .int 0, .int 0, .int 0], kb_a G (uu11.1 1) 16 (fun _ => 0), kb_a G (uu11.1 15) 16 (fun _ => 0), kb_a G (uu11.1 17) 16 (fun _ => 0), kb_a G (uu11.1 19) 16 (fun _ => 0), kb_a G (uu11.1 21) 16 (fun _ => 0), kb_a G (uu11.1 23) 16 (fun _ => 0), kb_o (uu11.1 16) 1 [.ref (uu11.1 17), .int 0], kb_o (uu11.1 18) 1 [.ref (uu11.1 19), .int 0], kb_o (uu11.1 20) 1 [.ref (uu11.1 21), .int 0], kb_o (uu11.1 22) 1 [.ref (uu11.1 23), .int 0], kb_o (uu11.1 2) 1 [.ref (uu11.1 3), .int 1], kb_a G (uu11.1 3) 16 (upd (fun _ => 0) 0 (-1)), kb_o (uu11.1 4) 1 [.ref (uu11.1 5), .int 1], kb_a G (uu11.1 5) 16 (upd (fun _ => 0) 0 1), kb_o (uu11.1 6) 1 [.ref (uu11.1 7), .int 1], kb_a G (uu11.1 7) 16 (upd (fun _ => 0) 0 0), kb_o (uu11.1 8) 1 [.ref (uu11.1 9), .int 1], kb_a G (uu11.1 9) 16 (upd (fun _ => 0) 0 0), kb_o qn10 2 [.ref (uu11.1 0), .ref (uu11.1 2), .ref (uu11.1 4), .ref (uu11.1 6), .ref (uu11.1 8), .ref (uu11.1 10), .ref (uu11.1 12), .ref (uu11.1 14), .ref (uu11.1 16), .ref (uu11.1 18), .ref (uu11.1 20), .ref (uu11.1 22), .int 0, .int 0], kb_o (uu11.1 14) 1 [.ref (uu11.1 15), .int 0], kb_o (uu11.1 10) 1 [.ref (uu11.1 11), .int 1], kb_a G (uu11.1 11) 16 (upd (fun _ => 0) 0 0), kb_o (uu11.1 12) 1 [.ref (uu11.1 13), .int 1], kb_a G (uu11.1 13) 16 (upd (fun _ => 0) 0 0), kb_o (uu11.1 0) 1 [.ref (uu11.1 1), .int 0]] H := hP
  have hD : va_D A [kb_o h 3 [.ref qn1, .ref qn4, .ref qn7, .ref qn10, .null], kb_o qn1 1 [.ref (uu2.1 0), .int 0], kb_a G (uu2.1 0) 16 (fun _ => 0), kb_o qn4 1 [.ref (uu5.1 0), .int 0], kb_a G (uu5.1 0) 16 (fun _ => 0), kb_o qn7 0 [.int 0, .int 0, .int 0, .int 0], kb_a G (uu11.1 1) 16 (fun _ => 0), kb_a G (uu11.1 15) 16 (fun _ => 0), kb_a G (uu11.1 17) 16 (fun _ => 0), kb_a G (uu11.1 19) 16 (fun _ => 0), kb_a G (uu11.1 21) 16 (fun _ => 0), kb_a G (uu11.1 23) 16 (fun _ => 0), kb_o (uu11.1 16) 1 [.ref (uu11.1 17), .int 0], kb_o (uu11.1 18) 1 [.ref (uu11.1 19), .int 0], kb_o (uu11.1 20) 1 [.ref (uu11.1 21), .int 0], kb_o (uu11.1 22) 1 [.ref (uu11.1 23), .int 0], kb_o (uu11.1 2) 1 [.ref (uu11.1 3), .int 1], kb_a G (uu11.1 3) 16 (upd (fun _ => 0) 0 (-1)), kb_o (uu11.1 4) 1 [.ref (uu11.1 5), .int 1], kb_a G (uu11.1 5) 16 (upd (fun _ => 0) 0 1), kb_o (uu11.1 6) 1 [.ref (uu11.1 7), .int 1], kb_a G (uu11.1 7) 16 (upd (fun _ => 0) 0 0), kb_o (uu11.1 8) 1 [.ref (uu11.1 9), .int 1], kb_a G (uu11.1 9) 16 (upd (fun _ => 0) 0 0), kb_o qn10 2 [.ref (uu11.1 0), .ref (uu11.1 2), .ref (uu11.1 4), .ref (uu11.1 6), .ref (uu11.1 8), .ref (uu11.1 10), .ref (uu11.1 12), .ref (uu11.1 14), .ref (uu11.1 16), .ref (uu11.1 18), .ref (uu11.1 20), .ref (uu11.1 22), .int 0, .int 0], kb_o (uu11.1 14) 1 [.ref (uu11.1 15), .int 0], kb_o (uu11.1 10) 1 [.ref (uu11.1 11), .int 1], kb_a G (uu11.1 11) 16 (upd (fun _ => 0) 0 0), kb_o (uu11.1 12) 1 [.ref (uu11.1 13), .int 1], kb_a G (uu11.1 13) 16 (upd (fun _ => 0) 0 0), kb_o (uu11.1 0) 1 [.ref (uu11.1 1), .int 0]] := hD
  refine lv_aload_n hx hb d_Press_init_48 rfl (lv_at hl 0 rfl) ?_
  refine va_new (ci := 2) (fs := [.null, .null, .null, .null, .null, .null, .null, .null, .null, .null, .null, .null, .int 0, .int 0]) (C := "TreePress$Tree") (T := kb_F2) (N := 14) hx hb ht kb_w2 kb_y2 kb_p2 hown (ht _ wd_d108d790) (ht _ wd_69499140) (ht _ wd_ebf91e09) hE.1 hP hD hS hE.2.2.2 rfl kb_d2 (Nat.le_of_ble_eq_true rfl) (Nat.le_of_ble_eq_true rfl) d_Press_init_49 (fun qn13 H hP hD hS => ?_)
  have hP : va_P G.1 kb_cl [kb_o h 3 [.ref qn1, .ref qn4, .ref qn7, .ref qn10, .null], kb_o qn1 1 [.ref (uu2.1 0), .int 0], kb_a G (uu2.1 0) 16 (fun _ => 0), kb_o qn4 1 [.ref (uu5.1 0), .int 0], kb_a G (uu5.1 0) 16 (fun _ => 0), kb_o qn7 0 [.int 0, .int 0, .int 0, .int 0], kb_a G (uu11.1 1) 16 (fun _ => 0), kb_a G (uu11.1 15) 16 (fun _ => 0), kb_a G (uu11.1 17) 16 (fun _ => 0), kb_a G (uu11.1 19) 16 (fun _ => 0), kb_a G (uu11.1 21) 16 (fun _ => 0), kb_a G (uu11.1 23) 16 (fun _ => 0), kb_o (uu11.1 16) 1 [.ref (uu11.1 17), .int 0], kb_o (uu11.1 18) 1 [.ref (uu11.1 19), .int 0], kb_o (uu11.1 20) 1 [.ref (uu11.1 21), .int 0], kb_o (uu11.1 22) 1 [.ref (uu11.1 23), .int 0], kb_o (uu11.1 2) 1 [.ref (uu11.1 3), .int 1], kb_a G (uu11.1 3) 16 (upd (fun _ => 0) 0 (-1)), kb_o (uu11.1 4) 1 [.ref (uu11.1 5), .int 1], kb_a G (uu11.1 5) 16 (upd (fun _ => 0) 0 1), kb_o (uu11.1 6) 1 [.ref (uu11.1 7), .int 1], kb_a G (uu11.1 7) 16 (upd (fun _ => 0) 0 0), kb_o (uu11.1 8) 1 [.ref (uu11.1 9), .int 1], kb_a G (uu11.1 9) 16 (upd (fun _ => 0) 0 0), kb_o qn10 2 [.ref (uu11.1 0), .ref (uu11.1 2), .ref (uu11.1 4), .ref (uu11.1 6), .ref (uu11.1 8), .ref (uu11.1 10), .ref (uu11.1 12), .ref (uu11.1 14), .ref (uu11.1 16), .ref (uu11.1 18), .ref (uu11.1 20), .ref (uu11.1 22), .int 0, .int 0], kb_o (uu11.1 14) 1 [.ref (uu11.1 15), .int 0], kb_o (uu11.1 10) 1 [.ref (uu11.1 11), .int 1], kb_a G (uu11.1 11) 16 (upd (fun _ => 0) 0 0), kb_o (uu11.1 12) 1 [.ref (uu11.1 13), .int 1], kb_a G (uu11.1 13) 16 (upd (fun _ => 0) 0 0), kb_o (uu11.1 0) 1 [.ref (uu11.1 1), .int 0], kb_o qn13 2 [.null, .null, .null, .null, .null, .null, .null, .null, .null, .null, .null, .null, .int 0, .int 0]] H := hP
  have hD : va_D A [kb_o h 3 [.ref qn1, .ref qn4, .ref qn7, .ref qn10, .null], kb_o qn1 1 [.ref (uu2.1 0), .int 0], kb_a G (uu2.1 0) 16 (fun _ => 0), kb_o qn4 1 [.ref (uu5.1 0), .int 0], kb_a G (uu5.1 0) 16 (fun _ => 0), kb_o qn7 0 [.int 0, .int 0, .int 0, .int 0], kb_a G (uu11.1 1) 16 (fun _ => 0), kb_a G (uu11.1 15) 16 (fun _ => 0), kb_a G (uu11.1 17) 16 (fun _ => 0), kb_a G (uu11.1 19) 16 (fun _ => 0), kb_a G (uu11.1 21) 16 (fun _ => 0), kb_a G (uu11.1 23) 16 (fun _ => 0), kb_o (uu11.1 16) 1 [.ref (uu11.1 17), .int 0], kb_o (uu11.1 18) 1 [.ref (uu11.1 19), .int 0], kb_o (uu11.1 20) 1 [.ref (uu11.1 21), .int 0], kb_o (uu11.1 22) 1 [.ref (uu11.1 23), .int 0], kb_o (uu11.1 2) 1 [.ref (uu11.1 3), .int 1], kb_a G (uu11.1 3) 16 (upd (fun _ => 0) 0 (-1)), kb_o (uu11.1 4) 1 [.ref (uu11.1 5), .int 1], kb_a G (uu11.1 5) 16 (upd (fun _ => 0) 0 1), kb_o (uu11.1 6) 1 [.ref (uu11.1 7), .int 1], kb_a G (uu11.1 7) 16 (upd (fun _ => 0) 0 0), kb_o (uu11.1 8) 1 [.ref (uu11.1 9), .int 1], kb_a G (uu11.1 9) 16 (upd (fun _ => 0) 0 0), kb_o qn10 2 [.ref (uu11.1 0), .ref (uu11.1 2), .ref (uu11.1 4), .ref (uu11.1 6), .ref (uu11.1 8), .ref (uu11.1 10), .ref (uu11.1 12), .ref (uu11.1 14), .ref (uu11.1 16), .ref (uu11.1 18), .ref (uu11.1 20), .ref (uu11.1 22), .int 0, .int 0], kb_o (uu11.1 14) 1 [.ref (uu11.1 15), .int 0], kb_o (uu11.1 10) 1 [.ref (uu11.1 11), .int 1], kb_a G (uu11.1 11) 16 (upd (fun _ => 0) 0 0), kb_o (uu11.1 12) 1 [.ref (uu11.1 13), .int 1], kb_a G (uu11.1 13) 16 (upd (fun _ => 0) 0 0), kb_o (uu11.1 0) 1 [.ref (uu11.1 1), .int 0], kb_o qn13 2 [.null, .null, .null, .null, .null, .null, .null, .null, .null, .null, .null, .null, .int 0, .int 0]] := hD
  refine lv_dup hx hb d_Press_init_52 rfl ?_
  refine kb_v (wc := [kb_o qn13 2 [.null, .null, .null, .null, .null, .null, .null, .null, .null, .null, .null, .null, .int 0, .int 0]]) (wr := [kb_o h 3 [.ref qn1, .ref qn4, .ref qn7, .ref qn10, .null], kb_o qn1 1 [.ref (uu2.1 0), .int 0], kb_a G (uu2.1 0) 16 (fun _ => 0), kb_o qn4 1 [.ref (uu5.1 0), .int 0], kb_a G (uu5.1 0) 16 (fun _ => 0), kb_o qn7 0 [.int 0, .int 0, .int 0, .int 0], kb_a G (uu11.1 1) 16 (fun _ => 0), kb_a G (uu11.1 15) 16 (fun _ => 0), kb_a G (uu11.1 17) 16 (fun _ => 0), kb_a G (uu11.1 19) 16 (fun _ => 0), kb_a G (uu11.1 21) 16 (fun _ => 0), kb_a G (uu11.1 23) 16 (fun _ => 0), kb_o (uu11.1 16) 1 [.ref (uu11.1 17), .int 0], kb_o (uu11.1 18) 1 [.ref (uu11.1 19), .int 0], kb_o (uu11.1 20) 1 [.ref (uu11.1 21), .int 0], kb_o (uu11.1 22) 1 [.ref (uu11.1 23), .int 0], kb_o (uu11.1 2) 1 [.ref (uu11.1 3), .int 1], kb_a G (uu11.1 3) 16 (upd (fun _ => 0) 0 (-1)), kb_o (uu11.1 4) 1 [.ref (uu11.1 5), .int 1], kb_a G (uu11.1 5) 16 (upd (fun _ => 0) 0 1), kb_o (uu11.1 6) 1 [.ref (uu11.1 7), .int 1], kb_a G (uu11.1 7) 16 (upd (fun _ => 0) 0 0), kb_o (uu11.1 8) 1 [.ref (uu11.1 9), .int 1], kb_a G (uu11.1 9) 16 (upd (fun _ => 0) 0 0), kb_o qn10 2 [.ref (uu11.1 0), .ref (uu11.1 2), .ref (uu11.1 4), .ref (uu11.1 6), .ref (uu11.1 8), .ref (uu11.1 10), .ref (uu11.1 12), .ref (uu11.1 14), .ref (uu11.1 16), .ref (uu11.1 18), .ref (uu11.1 20), .ref (uu11.1 22), .int 0, .int 0], kb_o (uu11.1 14) 1 [.ref (uu11.1 15), .int 0], kb_o (uu11.1 10) 1 [.ref (uu11.1 11), .int 1], kb_a G (uu11.1 11) 16 (upd (fun _ => 0) 0 0), kb_o (uu11.1 12) 1 [.ref (uu11.1 13), .int 1], kb_a G (uu11.1 13) 16 (upd (fun _ => 0) 0 0), kb_o (uu11.1 0) 1 [.ref (uu11.1 1), .int 0]]) hE hP hD hS [31] [0, 1, 2, 3, 4, 5, 6, 7, 8, 9, 10, 11, 12, 13, 14, 15, 16, 17, 18, 19, 20, 21, 22, 23, 24, 25, 26, 27, 28, 29, 30] rfl rfl (by decide) (by decide) (kb_rI (As := []) (rest := [.ref qn13, .ref h]) (wc := [kb_o qn13 2 [.null, .null, .null, .null, .null, .null, .null, .null, .null, .null, .null, .null, .int 0, .int 0]]) ⟨hx, hb, hml, hown, ht⟩ ((c_Tree_init l G qn13) _) wd_594609dd wd_ebf91e09 wd_dcb75c85 wd_7590e593 rfl hd_ace844f1 ⟨(Nat.le_of_ble_eq_true rfl), (Nat.le_of_ble_eq_true rfl)⟩ hE hP hD hS [31] rfl (by decide) hl.1 rfl (Nat.le_of_ble_eq_true rfl) d_Press_init_53 ⟨(Nat.le_of_ble_eq_true rfl), (Nat.le_of_ble_eq_true rfl)⟩) (fun uu14 H locs hw hP hD hS => ?_)
  have hP : va_P G.1 kb_cl [kb_o h 3 [.ref qn1, .ref qn4, .ref qn7, .ref qn10, .null], kb_o qn1 1 [.ref (uu2.1 0), .int 0], kb_a G (uu2.1 0) 16 (fun _ => 0), kb_o qn4 1 [.ref (uu5.1 0), .int 0], kb_a G (uu5.1 0) 16 (fun _ => 0), kb_o qn7 0 [.int 0, .int 0, .int 0, .int 0], kb_a G (uu11.1 1) 16 (fun _ => 0), kb_a G (uu11.1 15) 16 (fun _ => 0), kb_a G (uu11.1 17) 16 (fun _ => 0), kb_a G (uu11.1 19) 16 (fun _ => 0), kb_a G (uu11.1 21) 16 (fun _ => 0), kb_a G (uu11.1 23) 16 (fun _ => 0), kb_o (uu11.1 16) 1 [.ref (uu11.1 17), .int 0], kb_o (uu11.1 18) 1 [.ref (uu11.1 19), .int 0], kb_o (uu11.1 20) 1 [.ref (uu11.1 21), .int 0], kb_o (uu11.1 22) 1 [.ref (uu11.1 23), .int 0], kb_o (uu11.1 2) 1 [.ref (uu11.1 3), .int 1], kb_a G (uu11.1 3) 16 (upd (fun _ => 0) 0 (-1)), kb_o (uu11.1 4) 1 [.ref (uu11.1 5), .int 1], kb_a G (uu11.1 5) 16 (upd (fun _ => 0) 0 1), kb_o (uu11.1 6) 1 [.ref (uu11.1 7), .int 1], kb_a G (uu11.1 7) 16 (upd (fun _ => 0) 0 0), kb_o (uu11.1 8) 1 [.ref (uu11.1 9), .int 1], kb_a G (uu11.1 9) 16 (upd (fun _ => 0) 0 0), kb_o qn10 2 [.ref (uu11.1 0), .ref (uu11.1 2), .ref (uu11.1 4), .ref (uu11.1 6), .ref (uu11.1 8), .ref (uu11.1 10), .ref (uu11.1 12), .ref (uu11.1 14), .ref (uu11.1 16), .ref (uu11.1 18), .ref (uu11.1 20), .ref (uu11.1 22), .int 0, .int 0], kb_o (uu11.1 14) 1 [.ref (uu11.1 15), .int 0], kb_o (uu11.1 10) 1 [.ref (uu11.1 11), .int 1], kb_a G (uu11.1 11) 16 (upd (fun _ => 0) 0 0), kb_o (uu11.1 12) 1 [.ref (uu11.1 13), .int 1], kb_a G (uu11.1 13) 16 (upd (fun _ => 0) 0 0), kb_o (uu11.1 0) 1 [.ref (uu11.1 1), .int 0], kb_a G (uu14.1 1) 16 (fun _ => 0), kb_a G (uu14.1 15) 16 (fun _ => 0), kb_a G (uu14.1 17) 16 (fun _ => 0), kb_a G (uu14.1 19) 16 (fun _ => 0), kb_a G (uu14.1 21) 16 (fun _ => 0), kb_a G (uu14.1 23) 16 (fun _ => 0), kb_o (uu14.1 16) 1 [.ref (uu14.1 17), .int 0], kb_o (uu14.1 18) 1 [.ref (uu14.1 19), .int 0], kb_o (uu14.1 20) 1 [.ref (uu14.1 21), .int 0], kb_o (uu14.1 22) 1 [.ref (uu14.1 23), .int 0], kb_o (uu14.1 2) 1 [.ref (uu14.1 3), .int 1], kb_a G (uu14.1 3) 16 (upd (fun _ => 0) 0 (-1)), kb_o (uu14.1 4) 1 [.ref (uu14.1 5), .int 1], kb_a G (uu14.1 5) 16 (upd (fun _ => 0) 0 1), kb_o (uu14.1 6) 1 [.ref (uu14.1 7), .int 1], kb_a G (uu14.1 7) 16 (upd (fun _ => 0) 0 0), kb_o (uu14.1 8) 1 [.ref (uu14.1 9), .int 1], kb_a G (uu14.1 9) 16 (upd (fun _ => 0) 0 0), kb_o qn13 2 [.ref (uu14.1 0), .ref (uu14.1 2), .ref (uu14.1 4), .ref (uu14.1 6), .ref (uu14.1 8), .ref (uu14.1 10), .ref (uu14.1 12), .ref (uu14.1 14), .ref (uu14.1 16), .ref (uu14.1 18), .ref (uu14.1 20), .ref (uu14.1 22), .int 0, .int 0], kb_o (uu14.1 14) 1 [.ref (uu14.1 15), .int 0], kb_o (uu14.1 10) 1 [.ref (uu14.1 11), .int 1], kb_a G (uu14.1 11) 16 (upd (fun _ => 0) 0 0), kb_o (uu14.1 12) 1 [.ref (uu14.1 13), .int 1], kb_a G (uu14.1 13) 16 (upd (fun _ => 0) 0 0), kb_o (uu14.1 0) 1 [.ref (uu14.1 1), .int 0]] H := hP
  have hD : va_D A [kb_o h 3 [.ref qn1, .ref qn4, .ref qn7, .ref qn10, .null], kb_o qn1 1 [.ref (uu2.1 0), .int 0], kb_a G (uu2.1 0) 16 (fun _ => 0), kb_o qn4 1 [.ref (uu5.1 0), .int 0], kb_a G (uu5.1 0) 16 (fun _ => 0), kb_o qn7 0 [.int 0, .int 0, .int 0, .int 0], kb_a G (uu11.1 1) 16 (fun _ => 0), kb_a G (uu11.1 15) 16 (fun _ => 0), kb_a G (uu11.1 17) 16 (fun _ => 0), kb_a G (uu11.1 19) 16 (fun _ => 0), kb_a G (uu11.1 21) 16 (fun _ => 0), kb_a G (uu11.1 23) 16 (fun _ => 0), kb_o (uu11.1 16) 1 [.ref (uu11.1 17), .int 0], kb_o (uu11.1 18) 1 [.ref (uu11.1 19), .int 0], kb_o (uu11.1 20) 1 [.ref (uu11.1 21), .int 0], kb_o (uu11.1 22) 1 [.ref (uu11.1 23), .int 0], kb_o (uu11.1 2) 1 [.ref (uu11.1 3), .int 1], kb_a G (uu11.1 3) 16 (upd (fun _ => 0) 0 (-1)), kb_o (uu11.1 4) 1 [.ref (uu11.1 5), .int 1], kb_a G (uu11.1 5) 16 (upd (fun _ => 0) 0 1), kb_o (uu11.1 6) 1 [.ref (uu11.1 7), .int 1], kb_a G (uu11.1 7) 16 (upd (fun _ => 0) 0 0), kb_o (uu11.1 8) 1 [.ref (uu11.1 9), .int 1], kb_a G (uu11.1 9) 16 (upd (fun _ => 0) 0 0), kb_o qn10 2 [.ref (uu11.1 0), .ref (uu11.1 2), .ref (uu11.1 4), .ref (uu11.1 6), .ref (uu11.1 8), .ref (uu11.1 10), .ref (uu11.1 12), .ref (uu11.1 14), .ref (uu11.1 16), .ref (uu11.1 18), .ref (uu11.1 20), .ref (uu11.1 22), .int 0, .int 0], kb_o (uu11.1 14) 1 [.ref (uu11.1 15), .int 0], kb_o (uu11.1 10) 1 [.ref (uu11.1 11), .int 1], kb_a G (uu11.1 11) 16 (upd (fun _ => 0) 0 0), kb_o (uu11.1 12) 1 [.ref (uu11.1 13), .int 1], kb_a G (uu11.1 13) 16 (upd (fun _ => 0) 0 0), kb_o (uu11.1 0) 1 [.ref (uu11.1 1), .int 0], kb_a G (uu14.1 1) 16 (fun _ => 0), kb_a G (uu14.1 15) 16 (fun _ => 0), kb_a G (uu14.1 17) 16 (fun _ => 0), kb_a G (uu14.1 19) 16 (fun _ => 0), kb_a G (uu14.1 21) 16 (fun _ => 0), kb_a G (uu14.1 23) 16 (fun _ => 0), kb_o (uu14.1 16) 1 [.ref (uu14.1 17), .int 0], kb_o (uu14.1 18) 1 [.ref (uu14.1 19), .int 0], kb_o (uu14.1 20) 1 [.ref (uu14.1 21), .int 0], kb_o (uu14.1 22) 1 [.ref (uu14.1 23), .int 0], kb_o (uu14.1 2) 1 [.ref (uu14.1 3), .int 1], kb_a G (uu14.1 3) 16 (upd (fun _ => 0) 0 (-1)), kb_o (uu14.1 4) 1 [.ref (uu14.1 5), .int 1], kb_a G (uu14.1 5) 16 (upd (fun _ => 0) 0 1), kb_o (uu14.1 6) 1 [.ref (uu14.1 7), .int 1], kb_a G (uu14.1 7) 16 (upd (fun _ => 0) 0 0), kb_o (uu14.1 8) 1 [.ref (uu14.1 9), .int 1], kb_a G (uu14.1 9) 16 (upd (fun _ => 0) 0 0), kb_o qn13 2 [.ref (uu14.1 0), .ref (uu14.1 2), .ref (uu14.1 4), .ref (uu14.1 6), .ref (uu14.1 8), .ref (uu14.1 10), .ref (uu14.1 12), .ref (uu14.1 14), .ref (uu14.1 16), .ref (uu14.1 18), .ref (uu14.1 20), .ref (uu14.1 22), .int 0, .int 0], kb_o (uu14.1 14) 1 [.ref (uu14.1 15), .int 0], kb_o (uu14.1 10) 1 [.ref (uu14.1 11), .int 1], kb_a G (uu14.1 11) 16 (upd (fun _ => 0) 0 0), kb_o (uu14.1 12) 1 [.ref (uu14.1 13), .int 1], kb_a G (uu14.1 13) 16 (upd (fun _ => 0) 0 0), kb_o (uu14.1 0) 1 [.ref (uu14.1 1), .int 0]] := hD
  refine va_put (D := G.1) (ci := 3) (v := .ref qn13) (ty := .object "TreePress$Tree") (C := "TreePress") (T := kb_F3) (N := 5) hx hb ht kb_w3 kb_y3 kb_p3 kb_n3 hown hE.1 hP hD hS 0 rfl rfl 4 (by decide) (ht _ wd_3f558a37) (fun _ h9 => h9) rfl (by decide +kernel) rfl rfl (Nat.le_of_ble_eq_true rfl) d_Press_init_56 (fun H locs hP hD hS => ?_)
  have hP : va_P G.1 kb_cl [kb_o h 3 [.ref qn1, .ref qn4, .ref qn7, .ref qn10, .ref qn13], kb_o qn1 1 [.ref (uu2.1 0), .int 0], kb_a G (uu2.1 0) 16 (fun _ => 0), kb_o qn4 1 [.ref (uu5.1 0), .int 0], kb_a G (uu5.1 0) 16 (fun _ => 0), kb_o qn7 0 [.int 0, .int 0, .int 0, .int 0], kb_a G (uu11.1 1) 16 (fun _ => 0), kb_a G (uu11.1 15) 16 (fun _ => 0), kb_a G (uu11.1 17) 16 (fun _ => 0), kb_a G (uu11.1 19) 16 (fun _ => 0), kb_a G (uu11.1 21) 16 (fun _ => 0), kb_a G (uu11.1 23) 16 (fun _ => 0), kb_o (uu11.1 16) 1 [.ref (uu11.1 17), .int 0], kb_o (uu11.1 18) 1 [.ref (uu11.1 19), .int 0], kb_o (uu11.1 20) 1 [.ref (uu11.1 21), .int 0], kb_o (uu11.1 22) 1 [.ref (uu11.1 23), .int 0], kb_o (uu11.1 2) 1 [.ref (uu11.1 3), .int 1], kb_a G (uu11.1 3) 16 (upd (fun _ => 0) 0 (-1)), kb_o (uu11.1 4) 1 [.ref (uu11.1 5), .int 1], kb_a G (uu11.1 5) 16 (upd (fun _ => 0) 0 1), kb_o (uu11.1 6) 1 [.ref (uu11.1 7), .int 1], kb_a G (uu11.1 7) 16 (upd (fun _ => 0) 0 0), kb_o (uu11.1 8) 1 [.ref (uu11.1 9), .int 1], kb_a G (uu11.1 9) 16 (upd (fun _ => 0) 0 0), kb_o qn10 2 [.ref (uu11.1 0), .ref (uu11.1 2), .ref (uu11.1 4), .ref (uu11.1 6), .ref (uu11.1 8), .ref (uu11.1 10), .ref (uu11.1 12), .ref (uu11.1 14), .ref (uu11.1 16), .ref (uu11.1 18), .ref (uu11.1 20), .ref (uu11.1 22), .int 0, .int 0], kb_o (uu11.1 14) 1 [.ref (uu11.1 15), .int 0], kb_o (uu11.1 10) 1 [.ref (uu11.1 11), .int 1], kb_a G (uu11.1 11) 16 (upd (fun _ => 0) 0 0), kb_o (uu11.1 12) 1 [.ref (uu11.1 13), .int 1], kb_a G (uu11.1 13) 16 (upd (fun _ => 0) 0 0), kb_o (uu11.1 0) 1 [.ref (uu11.1 1), .int 0], kb_a G (uu14.1 1) 16 (fun _ => 0), kb_a G (uu14.1 15) 16 (fun _ => 0), kb_a G (uu14.1 17) 16 (fun _ => 0), kb_a G (uu14.1 19) 16 (fun _ => 0), kb_a G (uu14.1 21) 16 (fun _ => 0), kb_a G (uu14.1 23) 16 (fun _ => 0), kb_o (uu14.1 16) 1 [.ref (uu14.1 17), .int 0], kb_o (uu14.1 18) 1 [.ref (uu14.1 19), .int 0], kb_o (uu14.1 20) 1 [.ref (uu14.1 21), .int 0], kb_o (uu14.1 22) 1 [.ref (uu14.1 23), .int 0], kb_o (uu14.1 2) 1 [.ref (uu14.1 3), .int 1], kb_a G (uu14.1 3) 16 (upd (fun _ => 0) 0 (-1)), kb_o (uu14.1 4) 1 [.ref (uu14.1 5), .int 1], kb_a G (uu14.1 5) 16 (upd (fun _ => 0) 0 1), kb_o (uu14.1 6) 1 [.ref (uu14.1 7), .int 1], kb_a G (uu14.1 7) 16 (upd (fun _ => 0) 0 0), kb_o (uu14.1 8) 1 [.ref (uu14.1 9), .int 1], kb_a G (uu14.1 9) 16 (upd (fun _ => 0) 0 0), kb_o qn13 2 [.ref (uu14.1 0), .ref (uu14.1 2), .ref (uu14.1 4), .ref (uu14.1 6), .ref (uu14.1 8), .ref (uu14.1 10), .ref (uu14.1 12), .ref (uu14.1 14), .ref (uu14.1 16), .ref (uu14.1 18), .ref (uu14.1 20), .ref (uu14.1 22), .int 0, .int 0], kb_o (uu14.1 14) 1 [.ref (uu14.1 15), .int 0], kb_o (uu14.1 10) 1 [.ref (uu14.1 11), .int 1], kb_a G (uu14.1 11) 16 (upd (fun _ => 0) 0 0), kb_o (uu14.1 12) 1 [.ref (uu14.1 13), .int 1], kb_a G (uu14.1 13) 16 (upd (fun _ => 0) 0 0), kb_o (uu14.1 0) 1 [.ref (uu14.1 1), .int 0]] H := hP
  have hD : va_D A [kb_o h 3 [.ref qn1, .ref qn4, .ref qn7, .ref qn10, .ref qn13], kb_o qn1 1 [.ref (uu2.1 0), .int 0], kb_a G (uu2.1 0) 16 (fun _ => 0), kb_o qn4 1 [.ref (uu5.1 0), .int 0], kb_a G (uu5.1 0) 16 (fun _ => 0), kb_o qn7 0 [.int 0, .int 0, .int 0, .int 0], kb_a G (uu11.1 1) 16 (fun _ => 0), kb_a G (uu11.1 15) 16 (fun _ => 0), kb_a G (uu11.1 17) 16 (fun _ => 0), kb_a G (uu11.1 19) 16 (fun _ => 0), kb_a G (uu11.1 21) 16 (fun _ => 0), kb_a G (uu11.1 23) 16 (fun _ => 0), kb_o (uu11.1 16) 1 [.ref (uu11.1 17), .int 0], kb_o (uu11.1 18) 1 [.ref (uu11.1 19), .int 0], kb_o (uu11.1 20) 1 [.ref (uu11.1 21), .int 0], kb_o (uu11.1 22) 1 [.ref (uu11.1 23), .int 0], kb_o (uu11.1 2) 1 [.ref (uu11.1 3), .int 1], kb_a G (uu11.1 3) 16 (upd (fun _ => 0) 0 (-1)), kb_o (uu11.1 4) 1 [.ref (uu11.1 5), .int 1], kb_a G (uu11.1 5) 16 (upd (fun _ => 0) 0 1), kb_o (uu11.1 6) 1 [.ref (uu11.1 7), .int 1], kb_a G (uu11.1 7) 16 (upd (fun _ => 0) 0 0), kb_o (uu11.1 8) 1 [.ref (uu11.1 9), .int 1], kb_a G (uu11.1 9) 16 (upd (fun _ => 0) 0 0), kb_o qn10 2 [.ref (uu11.1 0), .ref (uu11.1 2), .ref (uu11.1 4), .ref (uu11.1 6), .ref (uu11.1 8), .ref (uu11.1 10), .ref (uu11.1 12), .ref (uu11.1 14), .ref (uu11.1 16), .ref (uu11.1 18), .ref (uu11.1 20), .ref (uu11.1 22), .int 0, .int 0], kb_o (uu11.1 14) 1 [.ref (uu11.1 15), .int 0], kb_o (uu11.1 10) 1 [.ref (uu11.1 11), .int 1], kb_a G (uu11.1 11) 16 (upd (fun _ => 0) 0 0), kb_o (uu11.1 12) 1 [.ref (uu11.1 13), .int 1], kb_a G (uu11.1 13) 16 (upd (fun _ => 0) 0 0), kb_o (uu11.1 0) 1 [.ref (uu11.1 1), .int 0], kb_a G (uu14.1 1) 16 (fun _ => 0), kb_a G (uu14.1 15) 16 (fun _ => 0), kb_a G (uu14.1 17) 16 (fun _ => 0), kb_a G (uu14.1 19) 16 (fun _ => 0), kb_a G (uu14.1 21) 16 (fun _ => 0), kb_a G (uu14.1 23) 16 (fun _ => 0), kb_o (uu14.1 16) 1 [.ref (uu14.1 17), .int 0], kb_o (uu14.1 18) 1 [.ref (uu14.1 19), .int 0], kb_o (uu14.1 20) 1 [.ref (uu14.1 21), .int 0], kb_o (uu14.1 22) 1 [.ref (uu14.1 23), .int 0], kb_o (uu14.1 2) 1 [.ref (uu14.1 3), .int 1], kb_a G (uu14.1 3) 16 (upd (fun _ => 0) 0 (-1)), kb_o (uu14.1 4) 1 [.ref (uu14.1 5), .int 1], kb_a G (uu14.1 5) 16 (upd (fun _ => 0) 0 1), kb_o (uu14.1 6) 1 [.ref (uu14.1 7), .int 1], kb_a G (uu14.1 7) 16 (upd (fun _ => 0) 0 0), kb_o (uu14.1 8) 1 [.ref (uu14.1 9), .int 1], kb_a G (uu14.1 9) 16 (upd (fun _ => 0) 0 0), kb_o qn13 2 [.ref (uu14.1 0), .ref (uu14.1 2), .ref (uu14.1 4), .ref (uu14.1 6), .ref (uu14.1 8), .ref (uu14.1 10), .ref (uu14.1 12), .ref (uu14.1 14), .ref (uu14.1 16), .ref (uu14.1 18), .ref (uu14.1 20), .ref (uu14.1 22), .int 0, .int 0], kb_o (uu14.1 14) 1 [.ref (uu14.1 15), .int 0], kb_o (uu14.1 10) 1 [.ref (uu14.1 11), .int 1], kb_a G (uu14.1 11) 16 (upd (fun _ => 0) 0 0), kb_o (uu14.1 12) 1 [.ref (uu14.1 13), .int 1], kb_a G (uu14.1 13) 16 (upd (fun _ => 0) 0 0), kb_o (uu14.1 0) 1 [.ref (uu14.1 1), .int 0]] := hD
  exact kb_retv (kb_l [qn1, uu2.1 0, qn4, uu5.1 0, qn7, qn10, uu11.1 1, uu11.1 15, uu11.1 17, uu11.1 19, uu11.1 21, uu11.1 23, uu11.1 16, uu11.1 18, uu11.1 20, uu11.1 22, uu11.1 2, uu11.1 3, uu11.1 4, uu11.1 5, uu11.1 6, uu11.1 7, uu11.1 8, uu11.1 9, uu11.1 14, uu11.1 10, uu11.1 11, uu11.1 12, uu11.1 13, uu11.1 0, qn13, uu14.1 1, uu14.1 15, uu14.1 17, uu14.1 19, uu14.1 21, uu14.1 23, uu14.1 16, uu14.1 18, uu14.1 20, uu14.1 22, uu14.1 2, uu14.1 3, uu14.1 4, uu14.1 5, uu14.1 6, uu14.1 7, uu14.1 8, uu14.1 9, uu14.1 14, uu14.1 10, uu14.1 11, uu14.1 12, uu14.1 13, uu14.1 0], kb_f []) hx hb hr hlocks hE hP hD hS [0, 1, 2, 3, 4, 5, 6, 7, 8, 9, 10, 11, 12, 13, 14, 15, 16, 17, 18, 19, 20, 21, 22, 23, 24, 25, 26, 27, 28, 29, 30, 31, 32, 33, 34, 35, 36, 37, 38, 39, 40, 41, 42, 43, 44, 45, 46, 47, 48, 49, 50, 51, 52, 53, 54, 55] rfl (by decide) rfl trivial (Nat.le_of_ble_eq_true rfl) (Nat.le_of_ble_eq_true rfl) d_Press_init_59
end
section
theorem wd_e25ec9d3 : (Jvm.Cond.methodLink "TreePress$Tree" (125 : Nat) ({ cls := "TreePress$Tree", name := "lengthOfNodeName", desc := "(I)I" } : Jvm.MethodName)) ∈ kb_T := kb_t1 199 (by decide +kernel) (by decide +kernel)
theorem wd_13543ba7 : (Jvm.Cond.instanceMethod ({ cls := "TreePress$Tree", name := "lengthOfNodeName", desc := "(I)I" } : Jvm.MethodName)) ∈ kb_T := kb_t1 200 (by decide +kernel) (by decide +kernel)
theorem wd_7ab071a6 : (Jvm.Cond.selects "TreePress$Tree" ({ cls := "TreePress$Tree", name := "lengthOfNodeName", desc := "(I)I" } : Jvm.MethodName) ({ cls := "TreePress$Tree", name := "lengthOfNodeName", desc := "(I)I" } : Jvm.MethodName)) ∈ kb_T := kb_t1 201 (by decide +kernel) (by decide +kernel)
theorem wd_ba1edb6a : (Jvm.Cond.code ({ cls := "TreePress$Tree", name := "lengthOfNodeName", desc := "(I)I" } : Jvm.MethodName) prog_4_method_8_code (2 : Nat) (Option.some Jvm.ClassFile.FieldType.int)) ∈ kb_T := kb_t1 202 (by decide +kernel) (by decide +kernel)
theorem hd_e4346e9a : (⟨"TreePress$Tree", "lengthOfNodeName", "(I)I"⟩ : MethodName).cls ≠ "java/lang/invoke/MethodHandle" ∧ (⟨"TreePress$Tree", "lengthOfNodeName", "(I)I"⟩ : MethodName).cls ≠ "java/lang/invoke/VarHandle" ∧ (parseMethodDescriptor (⟨"TreePress$Tree", "lengthOfNodeName", "(I)I"⟩ : MethodName).desc).map (fun d => d.parameters.length) = some 1 := by decide +kernel
theorem wd_13c93286 : (Jvm.Cond.methodLink "TreePress$Tree" (138 : Nat) ({ cls := "TreePress$Row", name := "addNumber", desc := "(I)V" } : Jvm.MethodName)) ∈ kb_T := kb_t1 203 (by decide +kernel) (by decide +kernel)
theorem wd_091fe404 : (Jvm.Cond.instanceMethod ({ cls := "TreePress$Row", name := "addNumber", desc := "(I)V" } : Jvm.MethodName)) ∈ kb_T := kb_t1 204 (by decide +kernel) (by decide +kernel)
theorem wd_2d8090cf : (Jvm.Cond.selects "TreePress$Row" ({ cls := "TreePress$Row", name := "addNumber", desc := "(I)V" } : Jvm.MethodName) ({ cls := "TreePress$Row", name := "addNumber", desc := "(I)V" } : Jvm.MethodName)) ∈ kb_T := kb_t1 205 (by decide +kernel) (by decide +kernel)
theorem wd_378b6872 : (Jvm.Cond.code ({ cls := "TreePress$Row", name := "addNumber", desc := "(I)V" } : Jvm.MethodName) prog_3_method_8_code (3 : Nat) (Option.none : Option Jvm.ClassFile.FieldType)) ∈ kb_T := kb_t1 206 (by decide +kernel) (by decide +kernel)
theorem hd_6154874f : (⟨"TreePress$Row", "addNumber", "(I)V"⟩ : MethodName).cls ≠ "java/lang/invoke/MethodHandle" ∧ (⟨"TreePress$Row", "addNumber", "(I)V"⟩ : MethodName).cls ≠ "java/lang/invoke/VarHandle" ∧ (parseMethodDescriptor (⟨"TreePress$Row", "addNumber", "(I)V"⟩ : MethodName).desc).map (fun d => d.parameters.length) = some 1 := by decide +kernel
theorem wd_ce8c62b9 : (Jvm.Cond.code ({ cls := "TreePress", name := "filledUp", desc := "(I)I" } : Jvm.MethodName) prog_1_method_25_code (1 : Nat) (Option.some Jvm.ClassFile.FieldType.int)) ∈ kb_T := kb_t1 209 (by decide +kernel) (by decide +kernel)
theorem wd_28603eaf : (Jvm.Cond.initialized "TreePress") ∈ kb_T := kb_t1 1 (by decide +kernel) (by decide +kernel)
theorem wd_152693cc : (Jvm.Cond.static ({ cls := "TreePress", name := "filledUp", desc := "(I)I" } : Jvm.MethodName)) ∈ kb_T := kb_t1 208 (by decide +kernel) (by decide +kernel)
theorem hd_c73b0c43 : (⟨"TreePress", "filledUp", "(I)I"⟩ : MethodName).cls ≠ "java/lang/invoke/MethodHandle" ∧ (⟨"TreePress", "filledUp", "(I)I"⟩ : MethodName).cls ≠ "java/lang/invoke/VarHandle" ∧ (parseMethodDescriptor (⟨"TreePress", "filledUp", "(I)I"⟩ : MethodName).desc).map (fun d => d.parameters.length) = some 1 := by decide +kernel
theorem wd_4a3bcfd3 : (Jvm.Cond.methodLink "TreePress$Tree" (128 : Nat) ({ cls := "TreePress$Row", name := "addZeros", desc := "(I)V" } : Jvm.MethodName)) ∈ kb_T := kb_t1 191 (by decide +kernel) (by decide +kernel)
theorem wd_ff52bc62 : (Jvm.Cond.instanceMethod ({ cls := "TreePress$Row", name := "addZeros", desc := "(I)V" } : Jvm.MethodName)) ∈ kb_T := kb_t1 192 (by decide +kernel) (by decide +kernel)
theorem wd_604a9052 : (Jvm.Cond.selects "TreePress$Row" ({ cls := "TreePress$Row", name := "addZeros", desc := "(I)V" } : Jvm.MethodName) ({ cls := "TreePress$Row", name := "addZeros", desc := "(I)V" } : Jvm.MethodName)) ∈ kb_T := kb_t1 193 (by decide +kernel) (by decide +kernel)
theorem wd_14f930da : (Jvm.Cond.code ({ cls := "TreePress$Row", name := "addZeros", desc := "(I)V" } : Jvm.MethodName) prog_3_method_9_code (3 : Nat) (Option.none : Option Jvm.ClassFile.FieldType)) ∈ kb_T := kb_t1 194 (by decide +kernel) (by decide +kernel)
theorem hd_472d95d1 : (⟨"TreePress$Row", "addZeros", "(I)V"⟩ : MethodName).cls ≠ "java/lang/invoke/MethodHandle" ∧ (⟨"TreePress$Row", "addZeros", "(I)V"⟩ : MethodName).cls ≠ "java/lang/invoke/VarHandle" ∧ (parseMethodDescriptor (⟨"TreePress$Row", "addZeros", "(I)V"⟩ : MethodName).desc).map (fun d => d.parameters.length) = some 1 := by decide +kernel
theorem wd_b5e54596 : (Jvm.Cond.methodLink "TreePress$Tree" (114 : Nat) ({ cls := "TreePress$Tree", name := "firstPropertyOf", desc := "(I)I" } : Jvm.MethodName)) ∈ kb_T := kb_t1 210 (by decide +kernel) (by decide +kernel)
theorem wd_16213a5f : (Jvm.Cond.instanceMethod ({ cls := "TreePress$Tree", name := "firstPropertyOf", desc := "(I)I" } : Jvm.MethodName)) ∈ kb_T := kb_t1 211 (by decide +kernel) (by decide +kernel)
theorem wd_bba391b2 : (Jvm.Cond.selects "TreePress$Tree" ({ cls := "TreePress$Tree", name := "firstPropertyOf", desc := "(I)I" } : Jvm.MethodName) ({ cls := "TreePress$Tree", name := "firstPropertyOf", desc := "(I)I" } : Jvm.MethodName)) ∈ kb_T := kb_t1 212 (by decide +kernel) (by decide +kernel)
theorem wd_a2bf9666 : (Jvm.Cond.code ({ cls := "TreePress$Tree", name := "firstPropertyOf", desc := "(I)I" } : Jvm.MethodName) prog_4_method_7_code (2 : Nat) (Option.some Jvm.ClassFile.FieldType.int)) ∈ kb_T := kb_t1 213 (by decide +kernel) (by decide +kernel)
theorem hd_ce73edbf : (⟨"TreePress$Tree", "firstPropertyOf", "(I)I"⟩ : MethodName).cls ≠ "java/lang/invoke/MethodHandle" ∧ (⟨"TreePress$Tree", "firstPropertyOf", "(I)I"⟩ : MethodName).cls ≠ "java/lang/invoke/VarHandle" ∧ (parseMethodDescriptor (⟨"TreePress$Tree", "firstPropertyOf", "(I)I"⟩ : MethodName).desc).map (fun d => d.parameters.length) = some 1 := by decide +kernel
theorem wd_8341cc6b : (Jvm.Cond.methodLink "TreePress$Tree" (100 : Nat) ({ cls := "TreePress$Tree", name := "propertiesOf", desc := "(I)I" } : Jvm.MethodName)) ∈ kb_T := kb_t1 214 (by decide +kernel) (by decide +kernel)
theorem wd_c1c67d0b : (Jvm.Cond.instanceMethod ({ cls := "TreePress$Tree", name := "propertiesOf", desc := "(I)I" } : Jvm.MethodName)) ∈ kb_T := kb_t1 215 (by decide +kernel) (by decide +kernel)
theorem wd_a7a256ac : (Jvm.Cond.selects "TreePress$Tree" ({ cls := "TreePress$Tree", name := "propertiesOf", desc := "(I)I" } : Jvm.MethodName) ({ cls := "TreePress$Tree", name := "propertiesOf", desc := "(I)I" } : Jvm.MethodName)) ∈ kb_T := kb_t1 216 (by decide +kernel) (by decide +kernel)
theorem wd_f59b7322 : (Jvm.Cond.code ({ cls := "TreePress$Tree", name := "propertiesOf", desc := "(I)I" } : Jvm.MethodName) prog_4_method_6_code (2 : Nat) (Option.some Jvm.ClassFile.FieldType.int)) ∈ kb_T := kb_t1 217 (by decide +kernel) (by decide +kernel)
theorem hd_c0e23879 : (⟨"TreePress$Tree", "propertiesOf", "(I)I"⟩ : MethodName).cls ≠ "java/lang/invoke/MethodHandle" ∧ (⟨"TreePress$Tree", "propertiesOf", "(I)I"⟩ : MethodName).cls ≠ "java/lang/invoke/VarHandle" ∧ (parseMethodDescriptor (⟨"TreePress$Tree", "propertiesOf", "(I)I"⟩ : MethodName).desc).map (fun d => d.parameters.length) = some 1 := by decide +kernel
theorem wd_c7f69f9f : (Jvm.Cond.constant "TreePress$Tree" (157 : Nat) (-804389139 : Int32)) ∈ kb_T := kb_t2 6 (by decide +kernel) (by decide +kernel)
theorem wd_89b5d5c8 : (Jvm.Cond.methodLink "TreePress$Tree" (158 : Nat) ({ cls := "TreePress$Row", name := "putNumber", desc := "(II)V" } : Jvm.MethodName)) ∈ kb_T := kb_t2 7 (by decide +kernel) (by decide +kernel)
theorem wd_35bf1cf8 : (Jvm.Cond.instanceMethod ({ cls := "TreePress$Row", name := "putNumber", desc := "(II)V" } : Jvm.MethodName)) ∈ kb_T := kb_t2 8 (by decide +kernel) (by decide +kernel)
theorem wd_1686e439 : (Jvm.Cond.selects "TreePress$Row" ({ cls := "TreePress$Row", name := "putNumber", desc := "(II)V" } : Jvm.MethodName) ({ cls := "TreePress$Row", name := "putNumber", desc := "(II)V" } : Jvm.MethodName)) ∈ kb_T := kb_t2 9 (by decide +kernel) (by decide +kernel)
theorem wd_351f18cf : (Jvm.Cond.code ({ cls := "TreePress$Row", name := "putNumber", desc := "(II)V" } : Jvm.MethodName) prog_3_method_10_code (4 : Nat) (Option.none : Option Jvm.ClassFile.FieldType)) ∈ kb_T := kb_t2 10 (by decide +kernel) (by decide +kernel)
theorem hd_18a7462f : (⟨"TreePress$Row", "putNumber", "(II)V"⟩ : MethodName).cls ≠ "java/lang/invoke/MethodHandle" ∧ (⟨"TreePress$Row", "putNumber", "(II)V"⟩ : MethodName).cls ≠ "java/lang/invoke/VarHandle" ∧ (parseMethodDescriptor (⟨"TreePress$Row", "putNumber", "(II)V"⟩ : MethodName).desc).map (fun d => d.parameters.length) = some 2 := by decide +kernel
theorem wd_a9a8e6ba : (Jvm.Cond.methodLink "TreePress$Tree" (131 : Nat) ({ cls := "TreePress$Tree", name := "layNode", desc := "(LTreePress$Row;I)V" } : Jvm.MethodName)) ∈ kb_T := kb_t1 195 (by decide +kernel) (by decide +kernel)
theorem wd_25b88ae3 : (Jvm.Cond.instanceMethod ({ cls := "TreePress$Tree", name := "layNode", desc := "(LTreePress$Row;I)V" } : Jvm.MethodName)) ∈ kb_T := kb_t1 197 (by decide +kernel) (by decide +kernel)
theorem wd_45f0e859 : Cond.selects "TreePress$Tree" ⟨"TreePress$Tree", "layNode", "(LTreePress$Row;I)V"⟩ ⟨"TreePress$Tree", "layNode", "(LTreePress$Row;I)V"⟩ ∈ kb_T := kb_t0 (y := ⟨"TreePress$Tree", "layNode", "(LTreePress$Row;I)V"⟩) (n := 14) (by decide +kernel) (by decide +kernel)
theorem wd_8929b4d8 : (Jvm.Cond.code ({ cls := "TreePress$Tree", name := "layNode", desc := "(LTreePress$Row;I)V" } : Jvm.MethodName) prog_4_method_30_code (7 : Nat) (Option.none : Option Jvm.ClassFile.FieldType)) ∈ kb_T := kb_t1 198 (by decide +kernel) (by decide +kernel)
theorem hd_e599058f : (⟨"TreePress$Tree", "layNode", "(LTreePress$Row;I)V"⟩ : MethodName).cls ≠ "java/lang/invoke/MethodHandle" ∧ (⟨"TreePress$Tree", "layNode", "(LTreePress$Row;I)V"⟩ : MethodName).cls ≠ "java/lang/invoke/VarHandle" ∧ (parseMethodDescriptor (⟨"TreePress$Tree", "layNode", "(LTreePress$Row;I)V"⟩ : MethodName).desc).map (fun d => d.parameters.length) = some 2 := by decide +kernel
theorem wd_33961cfb : (Jvm.Cond.methodLink "TreePress$Tree" (135 : Nat) ({ cls := "TreePress$Tree", name := "layEndsBehind", desc := "(LTreePress$Row;I)V" } : Jvm.MethodName)) ∈ kb_T := kb_t1 230 (by decide +kernel) (by decide +kernel)
theorem wd_bc58458c : (Jvm.Cond.instanceMethod ({ cls := "TreePress$Tree", name := "layEndsBehind", desc := "(LTreePress$Row;I)V" } : Jvm.MethodName)) ∈ kb_T := kb_t1 232 (by decide +kernel) (by decide +kernel)
theorem wd_6188bd26 : Cond.selects "TreePress$Tree" ⟨"TreePress$Tree", "layEndsBehind", "(LTreePress$Row;I)V"⟩ ⟨"TreePress$Tree", "layEndsBehind", "(LTreePress$Row;I)V"⟩ ∈ kb_T := kb_t0 (y := ⟨"TreePress$Tree", "layEndsBehind", "(LTreePress$Row;I)V"⟩) (n := 14) (by decide +kernel) (by decide +kernel)
theorem wd_c7b1254d : (Jvm.Cond.code ({ cls := "TreePress$Tree", name := "layEndsBehind", desc := "(LTreePress$Row;I)V" } : Jvm.MethodName) prog_4_method_32_code (6 : Nat) (Option.none : Option Jvm.ClassFile.FieldType)) ∈ kb_T := kb_t1 233 (by decide +kernel) (by decide +kernel)
theorem hd_89f68894 : (⟨"TreePress$Tree", "layEndsBehind", "(LTreePress$Row;I)V"⟩ : MethodName).cls ≠ "java/lang/invoke/MethodHandle" ∧ (⟨"TreePress$Tree", "layEndsBehind", "(LTreePress$Row;I)V"⟩ : MethodName).cls ≠ "java/lang/invoke/VarHandle" ∧ (parseMethodDescriptor (⟨"TreePress$Tree", "layEndsBehind", "(LTreePress$Row;I)V"⟩ : MethodName).desc).map (fun d => d.parameters.length) = some 2 := by decide +kernel
theorem wd_032aa693 : (Jvm.Cond.methodLink "TreePress$Tree" (141 : Nat) ({ cls := "TreePress$Tree", name := "layNames", desc := "(LTreePress$Row;)V" } : Jvm.MethodName)) ∈ kb_T := kb_t1 234 (by decide +kernel) (by decide +kernel)
theorem wd_a72bef33 : (Jvm.Cond.instanceMethod ({ cls := "TreePress$Tree", name := "layNames", desc := "(LTreePress$Row;)V" } : Jvm.MethodName)) ∈ kb_T := kb_t1 236 (by decide +kernel) (by decide +kernel)
theorem wd_643849f3 : Cond.selects "TreePress$Tree" ⟨"TreePress$Tree", "layNames", "(LTreePress$Row;)V"⟩ ⟨"TreePress$Tree", "layNames", "(LTreePress$Row;)V"⟩ ∈ kb_T := kb_t0 (y := ⟨"TreePress$Tree", "layNames", "(LTreePress$Row;)V"⟩) (n := 14) (by decide +kernel) (by decide +kernel)
theorem wd_92ad19a1 : (Jvm.Cond.code ({ cls := "TreePress$Tree", name := "layNames", desc := "(LTreePress$Row;)V" } : Jvm.MethodName) prog_4_method_33_code (4 : Nat) (Option.none : Option Jvm.ClassFile.FieldType)) ∈ kb_T := kb_t1 237 (by decide +kernel) (by decide +kernel)
theorem hd_10328db4 : (⟨"TreePress$Tree", "layNames", "(LTreePress$Row;)V"⟩ : MethodName).cls ≠ "java/lang/invoke/MethodHandle" ∧ (⟨"TreePress$Tree", "layNames", "(LTreePress$Row;)V"⟩ : MethodName).cls ≠ "java/lang/invoke/VarHandle" ∧ (parseMethodDescriptor (⟨"TreePress$Tree", "layNames", "(LTreePress$Row;)V"⟩ : MethodName).desc).map (fun d => d.parameters.length) = some 1 := by decide +kernel
theorem wd_511f6847 : (Jvm.Cond.methodLink "TreePress$Tree" (145 : Nat) ({ cls := "TreePress$Tree", name := "layHead", desc := "(LTreePress$Row;I)V" } : Jvm.MethodName)) ∈ kb_T := kb_t2 2 (by decide +kernel) (by decide +kernel)
theorem wd_5a25eb90 : (Jvm.Cond.instanceMethod ({ cls := "TreePress$Tree", name := "layHead", desc := "(LTreePress$Row;I)V" } : Jvm.MethodName)) ∈ kb_T := kb_t2 4 (by decide +kernel) (by decide +kernel)
theorem wd_59440d11 : Cond.selects "TreePress$Tree" ⟨"TreePress$Tree", "layHead", "(LTreePress$Row;I)V"⟩ ⟨"TreePress$Tree", "layHead", "(LTreePress$Row;I)V"⟩ ∈ kb_T := kb_t0 (y := ⟨"TreePress$Tree", "layHead", "(LTreePress$Row;I)V"⟩) (n := 14) (by decide +kernel) (by decide +kernel)
theorem wd_116400c2 : (Jvm.Cond.code ({ cls := "TreePress$Tree", name := "layHead", desc := "(LTreePress$Row;I)V" } : Jvm.MethodName) prog_4_method_34_code (3 : Nat) (Option.none : Option Jvm.ClassFile.FieldType)) ∈ kb_T := kb_t2 5 (by decide +kernel) (by decide +kernel)
theorem hd_aa3bf1da : (⟨"TreePress$Tree", "layHead", "(LTreePress$Row;I)V"⟩ : MethodName).cls ≠ "java/lang/invoke/MethodHandle" ∧ (⟨"TreePress$Tree", "layHead", "(LTreePress$Row;I)V"⟩ : MethodName).cls ≠ "java/lang/invoke/VarHandle" ∧ (parseMethodDescriptor (⟨"TreePress$Tree", "layHead", "(LTreePress$Row;I)V"⟩ : MethodName).desc).map (fun d => d.parameters.length) = some 2 := by decide +kernel
theorem d_Press_filledUp_0 : decode prog_1_method_25_code 0 = .ok (.iload_n 0, 1) := by decide +kernel
theorem d_Press_filledUp_1 : decode prog_1_method_25_code 1 = .ok (.iconst 4, 1) := by decide +kernel
theorem d_Press_filledUp_2 : decode prog_1_method_25_code 2 = .ok (.iadd, 1) := by decide +kernel
theorem d_Press_filledUp_3 : decode prog_1_method_25_code 3 = .ok (.iconst 1, 1) := by decide +kernel
theorem d_Press_filledUp_4 : decode prog_1_method_25_code 4 = .ok (.isub, 1) := by decide +kernel
theorem d_Press_filledUp_5 : decode prog_1_method_25_code 5 = .ok (.iconst 4, 1) := by decide +kernel
theorem d_Press_filledUp_6 : decode prog_1_method_25_code 6 = .ok (.idiv, 1) := by decide +kernel
theorem d_Press_filledUp_7 : decode prog_1_method_25_code 7 = .ok (.iconst 4, 1) := by decide +kernel
theorem d_Press_filledUp_8 : decode prog_1_method_25_code 8 = .ok (.imul, 1) := by decide +kernel
theorem d_Press_filledUp_9 : decode prog_1_method_25_code 9 = .ok (.ireturn, 1) := by decide +kernel
theorem d_Tree_layNode_0 : decode prog_4_method_30_code 0 = .ok (.aload_n 0, 1) := by decide +kernel
theorem d_Tree_layNode_1 : decode prog_4_method_30_code 1 = .ok (.iload_n 2, 1) := by decide +kernel
theorem d_Tree_layNode_2 : decode prog_4_method_30_code 2 = .ok (.invokevirtual 125, 3) := by decide +kernel
theorem d_Tree_layNode_5 : decode prog_4_method_30_code 5 = .ok (.istore_n 3, 1) := by decide +kernel
theorem d_Tree_layNode_6 : decode prog_4_method_30_code 6 = .ok (.aload_n 1, 1) := by decide +kernel
theorem d_Tree_layNode_7 : decode prog_4_method_30_code 7 = .ok (.iconst 1, 1) := by decide +kernel
theorem d_Tree_layNode_8 : decode prog_4_method_30_code 8 = .ok (.invokevirtual 138, 3) := by decide +kernel
theorem d_Tree_layNode_11 : decode prog_4_method_30_code 11 = .ok (.aload_n 1, 1) := by decide +kernel
theorem d_Tree_layNode_12 : decode prog_4_method_30_code 12 = .ok (.aload_n 0, 1) := by decide +kernel
theorem d_Tree_layNode_13 : decode prog_4_method_30_code 13 = .ok (.getfield 12, 3) := by decide +kernel
theorem d_Tree_layNode_16 : decode prog_4_method_30_code 16 = .ok (.aload_n 0, 1) := by decide +kernel
theorem d_Tree_layNode_17 : decode prog_4_method_30_code 17 = .ok (.getfield 24, 3) := by decide +kernel
theorem d_Tree_layNode_20 : decode prog_4_method_30_code 20 = .ok (.iload_n 2, 1) := by decide +kernel
theorem d_Tree_layNode_21 : decode prog_4_method_30_code 21 = .ok (.invokevirtual 73, 3) := by decide +kernel
theorem d_Tree_layNode_24 : decode prog_4_method_30_code 24 = .ok (.iload_n 3, 1) := by decide +kernel
theorem d_Tree_layNode_25 : decode prog_4_method_30_code 25 = .ok (.invokevirtual 92, 3) := by decide +kernel
theorem d_Tree_layNode_28 : decode prog_4_method_30_code 28 = .ok (.aload_n 1, 1) := by decide +kernel
theorem d_Tree_layNode_29 : decode prog_4_method_30_code 29 = .ok (.iload_n 3, 1) := by decide +kernel
theorem d_Tree_layNode_30 : decode prog_4_method_30_code 30 = .ok (.iconst 1, 1) := by decide +kernel
theorem d_Tree_layNode_31 : decode prog_4_method_30_code 31 = .ok (.iadd, 1) := by decide +kernel
theorem d_Tree_layNode_32 : decode prog_4_method_30_code 32 = .ok (.invokestatic 148, 3) := by decide +kernel
theorem d_Tree_layNode_35 : decode prog_4_method_30_code 35 = .ok (.iload_n 3, 1) := by decide +kernel
theorem d_Tree_layNode_36 : decode prog_4_method_30_code 36 = .ok (.isub, 1) := by decide +kernel
theorem d_Tree_layNode_37 : decode prog_4_method_30_code 37 = .ok (.invokevirtual 128, 3) := by decide +kernel
theorem d_Tree_layNode_40 : decode prog_4_method_30_code 40 = .ok (.aload_n 0, 1) := by decide +kernel
theorem d_Tree_layNode_41 : decode prog_4_method_30_code 41 = .ok (.iload_n 2, 1) := by decide +kernel
theorem d_Tree_layNode_42 : decode prog_4_method_30_code 42 = .ok (.invokevirtual 114, 3) := by decide +kernel
theorem d_Tree_layNode_45 : decode prog_4_method_30_code 45 = .ok (.istore 4, 2) := by decide +kernel
theorem d_Tree_layNode_47 : decode prog_4_method_30_code 47 = .ok (.iload 4, 2) := by decide +kernel
theorem d_Tree_layNode_49 : decode prog_4_method_30_code 49 = .ok (.aload_n 0, 1) := by decide +kernel
theorem d_Tree_layNode_50 : decode prog_4_method_30_code 50 = .ok (.iload_n 2, 1) := by decide +kernel
theorem d_Tree_layNode_51 : decode prog_4_method_30_code 51 = .ok (.invokevirtual 100, 3) := by decide +kernel
theorem d_Tree_layNode_54 : decode prog_4_method_30_code 54 = .ok (.iadd, 1) := by decide +kernel
theorem d_Tree_layNode_55 : decode prog_4_method_30_code 55 = .ok (.istore 5, 2) := by decide +kernel
theorem d_Tree_layNode_57 : decode prog_4_method_30_code 57 = .ok (.iload 4, 2) := by decide +kernel
theorem d_Tree_layNode_59 : decode prog_4_method_30_code 59 = .ok (.istore 6, 2) := by decide +kernel
theorem d_Tree_layNode_61 : decode prog_4_method_30_code 61 = .ok (.iload 6, 2) := by decide +kernel
theorem d_Tree_layNode_63 : decode prog_4_method_30_code 63 = .ok (.iload 5, 2) := by decide +kernel
theorem d_Tree_layNode_65 : decode prog_4_method_30_code 65 = .ok (.if_icmp .ge 16, 3) := by decide +kernel
theorem d_Tree_layNode_81 : decode prog_4_method_30_code 81 = .ok (.return_, 1) := by decide +kernel
theorem d_Tree_layEndsBehind_0 : decode prog_4_method_32_code 0 = .ok (.iload_n 2, 1) := by decide +kernel
theorem d_Tree_layEndsBehind_1 : decode prog_4_method_32_code 1 = .ok (.iconst 1, 1) := by decide +kernel
theorem d_Tree_layEndsBehind_2 : decode prog_4_method_32_code 2 = .ok (.iadd, 1) := by decide +kernel
theorem d_Tree_layEndsBehind_3 : decode prog_4_method_32_code 3 = .ok (.istore_n 3, 1) := by decide +kernel
theorem d_Tree_layEndsBehind_4 : decode prog_4_method_32_code 4 = .ok (.iload_n 3, 1) := by decide +kernel
theorem d_Tree_layEndsBehind_5 : decode prog_4_method_32_code 5 = .ok (.aload_n 0, 1) := by decide +kernel
theorem d_Tree_layEndsBehind_6 : decode prog_4_method_32_code 6 = .ok (.invokevirtual 80, 3) := by decide +kernel
theorem d_Tree_layEndsBehind_9 : decode prog_4_method_32_code 9 = .ok (.if_icmp .ge 14, 3) := by decide +kernel
theorem d_Tree_layEndsBehind_23 : decode prog_4_method_32_code 23 = .ok (.iconst 1, 1) := by decide +kernel
theorem d_Tree_layEndsBehind_24 : decode prog_4_method_32_code 24 = .ok (.istore 4, 2) := by decide +kernel
theorem d_Tree_layEndsBehind_26 : decode prog_4_method_32_code 26 = .ok (.aload_n 0, 1) := by decide +kernel
theorem d_Tree_layEndsBehind_27 : decode prog_4_method_32_code 27 = .ok (.getfield 21, 3) := by decide +kernel
theorem d_Tree_layEndsBehind_30 : decode prog_4_method_32_code 30 = .ok (.iload_n 2, 1) := by decide +kernel
theorem d_Tree_layEndsBehind_31 : decode prog_4_method_32_code 31 = .ok (.invokevirtual 73, 3) := by decide +kernel
theorem d_Tree_layEndsBehind_34 : decode prog_4_method_32_code 34 = .ok (.istore 5, 2) := by decide +kernel
theorem d_Tree_layEndsBehind_36 : decode prog_4_method_32_code 36 = .ok (.iload 5, 2) := by decide +kernel
theorem d_Tree_layEndsBehind_38 : decode prog_4_method_32_code 38 = .ok (.iload 4, 2) := by decide +kernel
theorem d_Tree_layEndsBehind_40 : decode prog_4_method_32_code 40 = .ok (.if_icmp .lt 14, 3) := by decide +kernel
theorem d_Tree_layEndsBehind_43 : decode prog_4_method_32_code 43 = .ok (.aload_n 1, 1) := by decide +kernel
theorem d_Tree_layEndsBehind_44 : decode prog_4_method_32_code 44 = .ok (.iconst 2, 1) := by decide +kernel
theorem d_Tree_layEndsBehind_45 : decode prog_4_method_32_code 45 = .ok (.invokevirtual 138, 3) := by decide +kernel
theorem d_Tree_layEndsBehind_48 : decode prog_4_method_32_code 48 = .ok (.iinc 5 (-1), 3) := by decide +kernel
theorem d_Tree_layEndsBehind_51 : decode prog_4_method_32_code 51 = .ok (.goto (-15), 3) := by decide +kernel
theorem d_Tree_layEndsBehind_54 : decode prog_4_method_32_code 54 = .ok (.return_, 1) := by decide +kernel
theorem d_Tree_layNames_0 : decode prog_4_method_33_code 0 = .ok (.iconst 0, 1) := by decide +kernel
theorem d_Tree_layNames_1 : decode prog_4_method_33_code 1 = .ok (.istore_n 2, 1) := by decide +kernel
theorem d_Tree_layNames_2 : decode prog_4_method_33_code 2 = .ok (.iconst 0, 1) := by decide +kernel
theorem d_Tree_layNames_3 : decode prog_4_method_33_code 3 = .ok (.istore_n 3, 1) := by decide +kernel
theorem d_Tree_layNames_4 : decode prog_4_method_33_code 4 = .ok (.iload_n 3, 1) := by decide +kernel
theorem d_Tree_layNames_5 : decode prog_4_method_33_code 5 = .ok (.aload_n 0, 1) := by decide +kernel
theorem d_Tree_layNames_6 : decode prog_4_method_33_code 6 = .ok (.invokevirtual 83, 3) := by decide +kernel
theorem d_Tree_layNames_9 : decode prog_4_method_33_code 9 = .ok (.if_icmp .ge 57, 3) := by decide +kernel
theorem d_Tree_layNames_66 : decode prog_4_method_33_code 66 = .ok (.return_, 1) := by decide +kernel
theorem d_Tree_layHead_0 : decode prog_4_method_34_code 0 = .ok (.aload_n 1, 1) := by decide +kernel
theorem d_Tree_layHead_1 : decode prog_4_method_34_code 1 = .ok (.iconst 0, 1) := by decide +kernel
theorem d_Tree_layHead_2 : decode prog_4_method_34_code 2 = .ok (.ldc 157, 2) := by decide +kernel
theorem d_Tree_layHead_4 : decode prog_4_method_34_code 4 = .ok (.invokevirtual 158, 3) := by decide +kernel
theorem d_Tree_layHead_7 : decode prog_4_method_34_code 7 = .ok (.aload_n 1, 1) := by decide +kernel
theorem d_Tree_layHead_8 : decode prog_4_method_34_code 8 = .ok (.iconst 4, 1) := by decide +kernel
theorem d_Tree_layHead_9 : decode prog_4_method_34_code 9 = .ok (.aload_n 1, 1) := by decide +kernel
theorem d_Tree_layHead_10 : decode prog_4_method_34_code 10 = .ok (.invokevirtual 69, 3) := by decide +kernel
theorem d_Tree_layHead_13 : decode prog_4_method_34_code 13 = .ok (.invokevirtual 158, 3) := by decide +kernel
theorem d_Tree_layHead_16 : decode prog_4_method_34_code 16 = .ok (.aload_n 1, 1) := by decide +kernel
theorem d_Tree_layHead_17 : decode prog_4_method_34_code 17 = .ok (.bipush 8, 2) := by decide +kernel
theorem d_Tree_layHead_19 : decode prog_4_method_34_code 19 = .ok (.bipush 56, 2) := by decide +kernel
theorem d_Tree_layHead_21 : decode prog_4_method_34_code 21 = .ok (.invokevirtual 158, 3) := by decide +kernel
theorem d_Tree_layHead_24 : decode prog_4_method_34_code 24 = .ok (.aload_n 1, 1) := by decide +kernel
theorem d_Tree_layHead_25 : decode prog_4_method_34_code 25 = .ok (.bipush 12, 2) := by decide +kernel
theorem d_Tree_layHead_27 : decode prog_4_method_34_code 27 = .ok (.iload_n 2, 1) := by decide +kernel
theorem d_Tree_layHead_28 : decode prog_4_method_34_code 28 = .ok (.invokevirtual 158, 3) := by decide +kernel
theorem d_Tree_layHead_31 : decode prog_4_method_34_code 31 = .ok (.aload_n 1, 1) := by decide +kernel
theorem d_Tree_layHead_32 : decode prog_4_method_34_code 32 = .ok (.bipush 16, 2) := by decide +kernel
theorem d_Tree_layHead_34 : decode prog_4_method_34_code 34 = .ok (.bipush 40, 2) := by decide +kernel
theorem d_Tree_layHead_36 : decode prog_4_method_34_code 36 = .ok (.invokevirtual 158, 3) := by decide +kernel
theorem d_Tree_layHead_39 : decode prog_4_method_34_code 39 = .ok (.aload_n 1, 1) := by decide +kernel
theorem d_Tree_layHead_40 : decode prog_4_method_34_code 40 = .ok (.bipush 20, 2) := by decide +kernel
theorem d_Tree_layHead_42 : decode prog_4_method_34_code 42 = .ok (.bipush 17, 2) := by decide +kernel
theorem d_Tree_layHead_44 : decode prog_4_method_34_code 44 = .ok (.invokevirtual 158, 3) := by decide +kernel
theorem d_Tree_layHead_47 : decode prog_4_method_34_code 47 = .ok (.aload_n 1, 1) := by decide +kernel
theorem d_Tree_layHead_48 : decode prog_4_method_34_code 48 = .ok (.bipush 24, 2) := by decide +kernel
theorem d_Tree_layHead_50 : decode prog_4_method_34_code 50 = .ok (.bipush 16, 2) := by decide +kernel
theorem d_Tree_layHead_52 : decode prog_4_method_34_code 52 = .ok (.invokevirtual 158, 3) := by decide +kernel
theorem d_Tree_layHead_55 : decode prog_4_method_34_code 55 = .ok (.aload_n 1, 1) := by decide +kernel
theorem d_Tree_layHead_56 : decode prog_4_method_34_code 56 = .ok (.bipush 28, 2) := by decide +kernel
theorem d_Tree_layHead_58 : decode prog_4_method_34_code 58 = .ok (.iconst 0, 1) := by decide +kernel
theorem d_Tree_layHead_59 : decode prog_4_method_34_code 59 = .ok (.invokevirtual 158, 3) := by decide +kernel
theorem d_Tree_layHead_62 : decode prog_4_method_34_code 62 = .ok (.aload_n 1, 1) := by decide +kernel
theorem d_Tree_layHead_63 : decode prog_4_method_34_code 63 = .ok (.bipush 32, 2) := by decide +kernel
theorem d_Tree_layHead_65 : decode prog_4_method_34_code 65 = .ok (.aload_n 1, 1) := by decide +kernel
theorem d_Tree_layHead_66 : decode prog_4_method_34_code 66 = .ok (.invokevirtual 69, 3) := by decide +kernel
theorem d_Tree_layHead_69 : decode prog_4_method_34_code 69 = .ok (.iload_n 2, 1) := by decide +kernel
theorem d_Tree_layHead_70 : decode prog_4_method_34_code 70 = .ok (.isub, 1) := by decide +kernel
theorem d_Tree_layHead_71 : decode prog_4_method_34_code 71 = .ok (.invokevirtual 158, 3) := by decide +kernel
theorem d_Tree_layHead_74 : decode prog_4_method_34_code 74 = .ok (.aload_n 1, 1) := by decide +kernel
theorem d_Tree_layHead_75 : decode prog_4_method_34_code 75 = .ok (.bipush 36, 2) := by decide +kernel
theorem d_Tree_layHead_77 : decode prog_4_method_34_code 77 = .ok (.iload_n 2, 1) := by decide +kernel
theorem d_Tree_layHead_78 : decode prog_4_method_34_code 78 = .ok (.bipush 56, 2) := by decide +kernel
theorem d_Tree_layHead_80 : decode prog_4_method_34_code 80 = .ok (.isub, 1) := by decide +kernel
theorem d_Tree_layHead_81 : decode prog_4_method_34_code 81 = .ok (.invokevirtual 158, 3) := by decide +kernel
theorem d_Tree_layHead_84 : decode prog_4_method_34_code 84 = .ok (.return_, 1) := by decide +kernel
theorem d_Tree_layInto_0 : decode prog_4_method_29_code 0 = .ok (.aload_n 1, 1) := by decide +kernel
theorem d_Tree_layInto_1 : decode prog_4_method_29_code 1 = .ok (.iconst 0, 1) := by decide +kernel
theorem d_Tree_layInto_2 : decode prog_4_method_29_code 2 = .ok (.invokevirtual 54, 3) := by decide +kernel
theorem d_Tree_layInto_5 : decode prog_4_method_29_code 5 = .ok (.aload_n 1, 1) := by decide +kernel
theorem d_Tree_layInto_6 : decode prog_4_method_29_code 6 = .ok (.bipush 56, 2) := by decide +kernel
theorem d_Tree_layInto_8 : decode prog_4_method_29_code 8 = .ok (.invokevirtual 128, 3) := by decide +kernel
theorem d_Tree_layInto_11 : decode prog_4_method_29_code 11 = .ok (.iconst 0, 1) := by decide +kernel
theorem d_Tree_layInto_12 : decode prog_4_method_29_code 12 = .ok (.istore_n 2, 1) := by decide +kernel
theorem d_Tree_layInto_13 : decode prog_4_method_29_code 13 = .ok (.iload_n 2, 1) := by decide +kernel
theorem d_Tree_layInto_14 : decode prog_4_method_29_code 14 = .ok (.aload_n 0, 1) := by decide +kernel
theorem d_Tree_layInto_15 : decode prog_4_method_29_code 15 = .ok (.invokevirtual 80, 3) := by decide +kernel
theorem d_Tree_layInto_18 : decode prog_4_method_29_code 18 = .ok (.if_icmp .ge 21, 3) := by decide +kernel
theorem d_Tree_layInto_21 : decode prog_4_method_29_code 21 = .ok (.aload_n 0, 1) := by decide +kernel
theorem d_Tree_layInto_22 : decode prog_4_method_29_code 22 = .ok (.aload_n 1, 1) := by decide +kernel
theorem d_Tree_layInto_23 : decode prog_4_method_29_code 23 = .ok (.iload_n 2, 1) := by decide +kernel
theorem d_Tree_layInto_24 : decode prog_4_method_29_code 24 = .ok (.invokevirtual 131, 3) := by decide +kernel
theorem d_Tree_layInto_27 : decode prog_4_method_29_code 27 = .ok (.aload_n 0, 1) := by decide +kernel
theorem d_Tree_layInto_28 : decode prog_4_method_29_code 28 = .ok (.aload_n 1, 1) := by decide +kernel
theorem d_Tree_layInto_29 : decode prog_4_method_29_code 29 = .ok (.iload_n 2, 1) := by decide +kernel
theorem d_Tree_layInto_30 : decode prog_4_method_29_code 30 = .ok (.invokevirtual 135, 3) := by decide +kernel
theorem d_Tree_layInto_33 : decode prog_4_method_29_code 33 = .ok (.iinc 2 1, 3) := by decide +kernel
theorem d_Tree_layInto_36 : decode prog_4_method_29_code 36 = .ok (.goto (-23), 3) := by decide +kernel
theorem d_Tree_layInto_39 : decode prog_4_method_29_code 39 = .ok (.aload_n 1, 1) := by decide +kernel
theorem d_Tree_layInto_40 : decode prog_4_method_29_code 40 = .ok (.bipush 9, 2) := by decide +kernel
theorem d_Tree_layInto_42 : decode prog_4_method_29_code 42 = .ok (.invokevirtual 138, 3) := by decide +kernel
theorem d_Tree_layInto_45 : decode prog_4_method_29_code 45 = .ok (.aload_n 1, 1) := by decide +kernel
theorem d_Tree_layInto_46 : decode prog_4_method_29_code 46 = .ok (.invokevirtual 69, 3) := by decide +kernel
theorem d_Tree_layInto_49 : decode prog_4_method_29_code 49 = .ok (.istore_n 2, 1) := by decide +kernel
theorem d_Tree_layInto_50 : decode prog_4_method_29_code 50 = .ok (.aload_n 0, 1) := by decide +kernel
theorem d_Tree_layInto_51 : decode prog_4_method_29_code 51 = .ok (.aload_n 1, 1) := by decide +kernel
theorem d_Tree_layInto_52 : decode prog_4_method_29_code 52 = .ok (.invokevirtual 141, 3) := by decide +kernel
theorem d_Tree_layInto_55 : decode prog_4_method_29_code 55 = .ok (.aload_n 0, 1) := by decide +kernel
theorem d_Tree_layInto_56 : decode prog_4_method_29_code 56 = .ok (.aload_n 1, 1) := by decide +kernel
theorem d_Tree_layInto_57 : decode prog_4_method_29_code 57 = .ok (.iload_n 2, 1) := by decide +kernel
theorem d_Tree_layInto_58 : decode prog_4_method_29_code 58 = .ok (.invokevirtual 145, 3) := by decide +kernel
theorem d_Tree_layInto_61 : decode prog_4_method_29_code 61 = .ok (.return_, 1) := by decide +kernel
set_option maxHeartbeats 4000000 in
set_option maxRecDepth 100000 in
theorem c_Press_filledUp1 (l : Launch) (G : kb_G) : kb_ci l G ⟨"TreePress", "filledUp", "(I)I"⟩ prog_1_method_25_code 1 (some .int) 1 0 0 [.int 1] [] (fun r u => r = 4) (fun u => []) := by
  intro sz
  refine kb_body (QQ := fun A => kb_Qi G A (fun r u => r = 4) (fun u => [])) (by decide) (Nat.le_of_ble_eq_true rfl) ?_
  intro p e s m below meth c A B ls hl
  obtain ⟨hx, hb, hr, hml, hlocks, hin, hown, ht, hE, hP, hD, hS⟩ := B
  have hl : lv_has ls 1 [(0, .int 1)] := hl
  have hP0 := hP
  obtain ⟨H, hHe⟩ : ∃ H, H = s.heap := ⟨_, rfl⟩
  rw [← hHe] at hP
  have hS : va_S A s.heap H [] := by rw [hHe]; exact hS
  refine kb_at hHe ?_
  clear hHe
  refine lv_iload_n hx hb d_Press_filledUp_0 rfl (lv_at hl 0 rfl) ?_
  refine lv_iconst (v := 4) hx hb d_Press_filledUp_1 (by decide) ?_
  refine lv_iadd hx hb d_Press_filledUp_2 ?_
  refine kb_top (y := 5) (by decide) ?_
  refine lv_iconst (v := 1) hx hb d_Press_filledUp_3 (by decide) ?_
  refine lv_isub hx hb d_Press_filledUp_4 ?_
  refine kb_top (y := 4) (by decide) ?_
  refine lv_iconst (v := 4) hx hb d_Press_filledUp_5 (by decide) ?_
  refine lv_idiv hx hb d_Press_filledUp_6 (by decide) ?_
  refine kb_top (y := 1) (by decide) ?_
  refine lv_iconst (v := 4) hx hb d_Press_filledUp_7 (by decide) ?_
  refine lv_imul hx hb d_Press_filledUp_8 ?_
  refine kb_top (y := 4) (by decide) ?_
  exact kb_reti (kb_l [], kb_f []) hx hb hr hlocks hE hP hD hS [] rfl (by decide) rfl rfl (Nat.le_of_ble_eq_true rfl) (Nat.le_of_ble_eq_true rfl) d_Press_filledUp_9

set_option maxHeartbeats 4000000 in
set_option maxRecDepth 100000 in
theorem c_Tree_layNode (l : Launch) (G : kb_G) (h : Nat) (r0 : Nat) (r1 : Nat) (r2 : Nat) (r3 : Nat) (r4 : Nat) (r5 : Nat) (r6 : Nat) (r7 : Nat) (r8 : Nat) (r9 : Nat) (r10 : Nat) (r11 : Nat) (L : Int32) (P : Int32) (a3 : Nat) (a4 : Nat) (a5 : Nat) (a6 : Nat) (o : Nat) (b : Nat) (f : Nat → Int32) : kb_cv l G ⟨"TreePress$Tree", "layNode", "(LTreePress$Row;I)V"⟩ prog_4_method_30_code 7 5 0 0 [.ref h, .ref o, .int 0] [kb_o h 2 [.ref r0, .ref r1, .ref r2, .ref r3, .ref r4, .ref r5, .ref r6, .ref r7, .ref r8, .ref r9, .ref r10, .ref r11, .int L, .int P], kb_o r3 1 [.ref a3, .int 1], kb_a G a3 16 (upd (fun _ => 0) 0 0), kb_o r4 1 [.ref a4, .int 1], kb_a G a4 16 (upd (fun _ => 0) 0 0), kb_o r5 1 [.ref a5, .int 1], kb_a G a5 16 (upd (fun _ => 0) 0 0), kb_o r6 1 [.ref a6, .int 1], kb_a G a6 16 (upd (fun _ => 0) 0 0), kb_o o 1 [.ref b, .int 56], kb_a G b 64 f] (fun u => True) (fun u => [kb_o r4 1 [.ref a4, .int 1], kb_a G a4 16 (upd (fun _ => 0) 0 0), kb_o r3 1 [.ref a3, .int 1], kb_a G a3 16 (upd (fun _ => 0) 0 0), kb_o o 1 [.ref b, .int 64], kb_a G b 64 (u.2 0), kb_o r5 1 [.ref a5, .int 1], kb_a G a5 16 (upd (fun _ => 0) 0 0), kb_o h 2 [.ref r0, .ref r1, .ref r2, .ref r3, .ref r4, .ref r5, .ref r6, .ref r7, .ref r8, .ref r9, .ref r10, .ref r11, .int L, .int P], kb_o r6 1 [.ref a6, .int 1], kb_a G a6 16 (upd (fun _ => 0) 0 0)]) := by
  intro sz
  refine kb_body (QQ := fun A => kb_Qv G A (fun u => True) (fun u => [kb_o r4 1 [.ref a4, .int 1], kb_a G a4 16 (upd (fun _ => 0) 0 0), kb_o r3 1 [.ref a3, .int 1], kb_a G a3 16 (upd (fun _ => 0) 0 0), kb_o o 1 [.ref b, .int 64], kb_a G b 64 (u.2 0), kb_o r5 1 [.ref a5, .int 1], kb_a G a5 16 (upd (fun _ => 0) 0 0), kb_o h 2 [.ref r0, .ref r1, .ref r2, .ref r3, .ref r4, .ref r5, .ref r6, .ref r7, .ref r8, .ref r9, .ref r10, .ref r11, .int L, .int P], kb_o r6 1 [.ref a6, .int 1], kb_a G a6 16 (upd (fun _ => 0) 0 0)])) (by decide) (Nat.le_of_ble_eq_true rfl) ?_
  intro p e s m below meth c A B ls hl
  obtain ⟨hx, hb, hr, hml, hlocks, hin, hown, ht, hE, hP, hD, hS⟩ := B
  have hl : lv_has ls 7 [(0, .ref h), (1, .ref o), (2, .int 0)] := hl
  have hP0 := hP
  obtain ⟨H, hHe⟩ : ∃ H, H = s.heap := ⟨_, rfl⟩
  rw [← hHe] at hP
  have hS : va_S A s.heap H [] := by rw [hHe]; exact hS
  refine kb_at hHe ?_
  clear hHe
  refine lv_aload_n hx hb d_Tree_layNode_0 rfl (lv_at hl 0 rfl) ?_
  refine lv_iload_n hx hb d_Tree_layNode_1 rfl (lv_at hl 2 rfl) ?_
  refine kb_i (wc := [kb_o h 2 [.ref r0, .ref r1, .ref r2, .ref r3, .ref r4, .ref r5, .ref r6, .ref r7, .ref r8, .ref r9, .ref r10, .ref r11, .int L, .int P], kb_o r4 1 [.ref a4, .int 1], kb_a G a4 16 (upd (fun _ => 0) 0 0)]) (wr := [kb_o r3 1 [.ref a3, .int 1], kb_a G a3 16 (upd (fun _ => 0) 0 0), kb_o r5 1 [.ref a5, .int 1], kb_a G a5 16 (upd (fun _ => 0) 0 0), kb_o r6 1 [.ref a6, .int 1], kb_a G a6 16 (upd (fun _ => 0) 0 0), kb_o o 1 [.ref b, .int 56], kb_a G b 64 f]) hE hP hD hS [0, 3, 4] [1, 2, 5, 6, 7, 8, 9, 10] rfl rfl (by decide) (by decide) (kb_rV (As := [.int 0]) (rest := []) (wc := [kb_o h 2 [.ref r0, .ref r1, .ref r2, .ref r3, .ref r4, .ref r5, .ref r6, .ref r7, .ref r8, .ref r9, .ref r10, .ref r11, .int L, .int P], kb_o r4 1 [.ref a4, .int 1], kb_a G a4 16 (upd (fun _ => 0) 0 0)]) (q0 := 0) ⟨hx, hb, hml, hown, ht⟩ ((c_Tree_lengthOfNodeName l G h r0 r1 r2 r3 r4 r5 r6 r7 r8 r9 r10 r11 L P a4 (upd (fun _ => 0) 0 0)) _) (kb_gV wd_e25ec9d3 wd_13543ba7 wd_7ab071a6 wd_ebf91e09 wd_ba1edb6a) ⟨rfl, hd_e4346e9a⟩ ⟨(Nat.le_of_ble_eq_true rfl), (Nat.le_of_ble_eq_true rfl)⟩ hE hP hD hS [0, 3, 4] rfl (by decide) rfl rfl rfl hl.1 rfl (Nat.le_of_ble_eq_true rfl) d_Tree_layNode_2 ⟨(Nat.le_of_ble_eq_true rfl), (Nat.le_of_ble_eq_true rfl)⟩) (fun rv2 uu1 H locs hw hP hD hS => ?_)
  have hP : va_P G.1 kb_cl [kb_o r3 1 [.ref a3, .int 1], kb_a G a3 16 (upd (fun _ => 0) 0 0), kb_o r5 1 [.ref a5, .int 1], kb_a G a5 16 (upd (fun _ => 0) 0 0), kb_o r6 1 [.ref a6, .int 1], kb_a G a6 16 (upd (fun _ => 0) 0 0), kb_o o 1 [.ref b, .int 56], kb_a G b 64 f, kb_o h 2 [.ref r0, .ref r1, .ref r2, .ref r3, .ref r4, .ref r5, .ref r6, .ref r7, .ref r8, .ref r9, .ref r10, .ref r11, .int L, .int P], kb_o r4 1 [.ref a4, .int 1], kb_a G a4 16 (upd (fun _ => 0) 0 0)] H := hP
  have hD : va_D A [kb_o r3 1 [.ref a3, .int 1], kb_a G a3 16 (upd (fun _ => 0) 0 0), kb_o r5 1 [.ref a5, .int 1], kb_a G a5 16 (upd (fun _ => 0) 0 0), kb_o r6 1 [.ref a6, .int 1], kb_a G a6 16 (upd (fun _ => 0) 0 0), kb_o o 1 [.ref b, .int 56], kb_a G b 64 f, kb_o h 2 [.ref r0, .ref r1, .ref r2, .ref r3, .ref r4, .ref r5, .ref r6, .ref r7, .ref r8, .ref r9, .ref r10, .ref r11, .int L, .int P], kb_o r4 1 [.ref a4, .int 1], kb_a G a4 16 (upd (fun _ => 0) 0 0)] := hD
  refine kb_top (y := 0) (show rv2 = 0 from hw) ?_
  refine lv_istore_n (lv' := [(3, .int 0), (0, .ref h), (1, .ref o), (2, .int 0)]) hx hb d_Tree_layNode_5 rfl hl (by decide) rfl (fun ls hl => ?_)
  refine lv_aload_n hx hb d_Tree_layNode_6 rfl (lv_at hl 2 rfl) ?_
  refine lv_iconst (v := 1) hx hb d_Tree_layNode_7 (by decide) ?_
  refine kb_v (wc := [kb_o o 1 [.ref b, .int 56], kb_a G b 64 f]) (wr := [kb_o r3 1 [.ref a3, .int 1], kb_a G a3 16 (upd (fun _ => 0) 0 0), kb_o r5 1 [.ref a5, .int 1], kb_a G a5 16 (upd (fun _ => 0) 0 0), kb_o r6 1 [.ref a6, .int 1], kb_a G a6 16 (upd (fun _ => 0) 0 0), kb_o h 2 [.ref r0, .ref r1, .ref r2, .ref r3, .ref r4, .ref r5, .ref r6, .ref r7, .ref r8, .ref r9, .ref r10, .ref r11, .int L, .int P], kb_o r4 1 [.ref a4, .int 1], kb_a G a4 16 (upd (fun _ => 0) 0 0)]) hE hP hD hS [6, 7] [0, 1, 2, 3, 4, 5, 8, 9, 10] rfl rfl (by decide) (by decide) (kb_rV (As := [.int 1]) (rest := []) (wc := [kb_o o 1 [.ref b, .int 56], kb_a G b 64 f]) (q0 := 0) ⟨hx, hb, hml, hown, ht⟩ ((c_Row_addNumber_n l G o b 56 64 f 1 (by omega) (by omega)) _) (kb_gV wd_13c93286 wd_091fe404 wd_2d8090cf wd_4182e433 wd_378b6872) ⟨rfl, hd_6154874f⟩ ⟨(Nat.le_of_ble_eq_true rfl), (Nat.le_of_ble_eq_true rfl)⟩ hE hP hD hS [6, 7] rfl (by decide) rfl rfl rfl hl.1 rfl (Nat.le_of_ble_eq_true rfl) d_Tree_layNode_8 ⟨(Nat.le_of_ble_eq_true rfl), (Nat.le_of_ble_eq_true rfl)⟩) (fun uu3 H locs hw hP hD hS => ?_)
  have hP : va_P G.1 kb_cl [kb_o r3 1 [.ref a3, .int 1], kb_a G a3 16 (upd (fun _ => 0) 0 0), kb_o r5 1 [.ref a5, .int 1], kb_a G a5 16 (upd (fun _ => 0) 0 0), kb_o r6 1 [.ref a6, .int 1], kb_a G a6 16 (upd (fun _ => 0) 0 0), kb_o h 2 [.ref r0, .ref r1, .ref r2, .ref r3, .ref r4, .ref r5, .ref r6, .ref r7, .ref r8, .ref r9, .ref r10, .ref r11, .int L, .int P], kb_o r4 1 [.ref a4, .int 1], kb_a G a4 16 (upd (fun _ => 0) 0 0), kb_o o 1 [.ref b, .int 60], kb_a G b 64 (uu3.2 0)] H := hP
  have hD : va_D A [kb_o r3 1 [.ref a3, .int 1], kb_a G a3 16 (upd (fun _ => 0) 0 0), kb_o r5 1 [.ref a5, .int 1], kb_a G a5 16 (upd (fun _ => 0) 0 0), kb_o r6 1 [.ref a6, .int 1], kb_a G a6 16 (upd (fun _ => 0) 0 0), kb_o h 2 [.ref r0, .ref r1, .ref r2, .ref r3, .ref r4, .ref r5, .ref r6, .ref r7, .ref r8, .ref r9, .ref r10, .ref r11, .int L, .int P], kb_o r4 1 [.ref a4, .int 1], kb_a G a4 16 (upd (fun _ => 0) 0 0), kb_o o 1 [.ref b, .int 60], kb_a G b 64 (uu3.2 0)] := hD
  refine lv_aload_n hx hb d_Tree_layNode_11 rfl (lv_at hl 2 rfl) ?_
  refine lv_aload_n hx hb d_Tree_layNode_12 rfl (lv_at hl 1 rfl) ?_
  refine va_get (D := G.1) (ci := 2) (v := .ref r0) (C := "TreePress$Tree") (T := kb_F2) (N := 14) hx hb ht kb_w2 hown hE.1 hP 6 rfl rfl 0 (by decide) (ht _ wd_d0876019) (fun _ h9 => h9) rfl d_Tree_layNode_13 ?_
  refine lv_aload_n hx hb d_Tree_layNode_16 rfl (lv_at hl 1 rfl) ?_
  refine va_get (D := G.1) (ci := 2) (v := .ref r3) (C := "TreePress$Tree") (T := kb_F2) (N := 14) hx hb ht kb_w2 hown hE.1 hP 6 rfl rfl 3 (by decide) (ht _ wd_ae352740) (fun _ h9 => h9) rfl d_Tree_layNode_17 ?_
  refine lv_iload_n hx hb d_Tree_layNode_20 rfl (lv_at hl 3 rfl) ?_
  refine kb_i (wc := [kb_o r3 1 [.ref a3, .int 1], kb_a G a3 16 (upd (fun _ => 0) 0 0)]) (wr := [kb_o r5 1 [.ref a5, .int 1], kb_a G a5 16 (upd (fun _ => 0) 0 0), kb_o r6 1 [.ref a6, .int 1], kb_a G a6 16 (upd (fun _ => 0) 0 0), kb_o h 2 [.ref r0, .ref r1, .ref r2, .ref r3, .ref r4, .ref r5, .ref r6, .ref r7, .ref r8, .ref r9, .ref r10, .ref r11, .int L, .int P], kb_o r4 1 [.ref a4, .int 1], kb_a G a4 16 (upd (fun _ => 0) 0 0), kb_o o 1 [.ref b, .int 60], kb_a G b 64 (uu3.2 0)]) hE hP hD hS [0, 1] [2, 3, 4, 5, 6, 7, 8, 9, 10] rfl rfl (by decide) (by decide) (kb_rV (As := [.int 0]) (rest := [.ref r0, .ref o]) (wc := [kb_o r3 1 [.ref a3, .int 1], kb_a G a3 16 (upd (fun _ => 0) 0 0)]) (q0 := 0) ⟨hx, hb, hml, hown, ht⟩ ((c_Row_at0 l G r3 a3 (upd (fun _ => 0) 0 0)) _) (kb_gV wd_0cfebd59 wd_1c0a6016 wd_3417d322 wd_4182e433 wd_8eb9b6e0) ⟨rfl, hd_d357ab42⟩ ⟨(Nat.le_of_ble_eq_true rfl), (Nat.le_of_ble_eq_true rfl)⟩ hE hP hD hS [0, 1] rfl (by decide) rfl rfl rfl hl.1 rfl (Nat.le_of_ble_eq_true rfl) d_Tree_layNode_21 ⟨(Nat.le_of_ble_eq_true rfl), (Nat.le_of_ble_eq_true rfl)⟩) (fun rv6 uu5 H locs hw hP hD hS => ?_)
  have hP : va_P G.1 kb_cl [kb_o r5 1 [.ref a5, .int 1], kb_a G a5 16 (upd (fun _ => 0) 0 0), kb_o r6 1 [.ref a6, .int 1], kb_a G a6 16 (upd (fun _ => 0) 0 0), kb_o h 2 [.ref r0, .ref r1, .ref r2, .ref r3, .ref r4, .ref r5, .ref r6, .ref r7, .ref r8, .ref r9, .ref r10, .ref r11, .int L, .int P], kb_o r4 1 [.ref a4, .int 1], kb_a G a4 16 (upd (fun _ => 0) 0 0), kb_o o 1 [.ref b, .int 60], kb_a G b 64 (uu3.2 0), kb_o r3 1 [.ref a3, .int 1], kb_a G a3 16 (upd (fun _ => 0) 0 0)] H := hP
  have hD : va_D A [kb_o r5 1 [.ref a5, .int 1], kb_a G a5 16 (upd (fun _ => 0) 0 0), kb_o r6 1 [.ref a6, .int 1], kb_a G a6 16 (upd (fun _ => 0) 0 0), kb_o h 2 [.ref r0, .ref r1, .ref r2, .ref r3, .ref r4, .ref r5, .ref r6, .ref r7, .ref r8, .ref r9, .ref r10, .ref r11, .int L, .int P], kb_o r4 1 [.ref a4, .int 1], kb_a G a4 16 (upd (fun _ => 0) 0 0), kb_o o 1 [.ref b, .int 60], kb_a G b 64 (uu3.2 0), kb_o r3 1 [.ref a3, .int 1], kb_a G a3 16 (upd (fun _ => 0) 0 0)] := hD
  refine kb_top (y := 0) (show rv6 = 0 from hw) ?_
  refine lv_iload_n hx hb d_Tree_layNode_24 rfl (lv_at hl 0 rfl) ?_
  refine kb_v (wc := [kb_o o 1 [.ref b, .int 60]]) (wr := [kb_o r5 1 [.ref a5, .int 1], kb_a G a5 16 (upd (fun _ => 0) 0 0), kb_o r6 1 [.ref a6, .int 1], kb_a G a6 16 (upd (fun _ => 0) 0 0), kb_o h 2 [.ref r0, .ref r1, .ref r2, .ref r3, .ref r4, .ref r5, .ref r6, .ref r7, .ref r8, .ref r9, .ref r10, .ref r11, .int L, .int P], kb_o r4 1 [.ref a4, .int 1], kb_a G a4 16 (upd (fun _ => 0) 0 0), kb_a G b 64 (uu3.2 0), kb_o r3 1 [.ref a3, .int 1], kb_a G a3 16 (upd (fun _ => 0) 0 0)]) hE hP hD hS [7] [0, 1, 2, 3, 4, 5, 6, 8, 9, 10] rfl rfl (by decide) (by decide) (kb_rV (As := [.ref r0, .int 0, .int 0]) (rest := []) (wc := [kb_o o 1 [.ref b, .int 60]]) (q0 := 0) ⟨hx, hb, hml, hown, ht⟩ ((c_Row_addPart0 l G o b 60 r0 0) _) (kb_gV wd_a985e60f wd_620dff6e wd_7e0170ce wd_4182e433 wd_2592bbbb) ⟨rfl, hd_bbec148d⟩ ⟨(Nat.le_of_ble_eq_true rfl), (Nat.le_of_ble_eq_true rfl)⟩ hE hP hD hS [7] rfl (by decide) rfl rfl rfl hl.1 rfl (Nat.le_of_ble_eq_true rfl) d_Tree_layNode_25 ⟨(Nat.le_of_ble_eq_true rfl), (Nat.le_of_ble_eq_true rfl)⟩) (fun uu7 H locs hw hP hD hS => ?_)
  have hP : va_P G.1 kb_cl [kb_o r5 1 [.ref a5, .int 1], kb_a G a5 16 (upd (fun _ => 0) 0 0), kb_o r6 1 [.ref a6, .int 1], kb_a G a6 16 (upd (fun _ => 0) 0 0), kb_o h 2 [.ref r0, .ref r1, .ref r2, .ref r3, .ref r4, .ref r5, .ref r6, .ref r7, .ref r8, .ref r9, .ref r10, .ref r11, .int L, .int P], kb_o r4 1 [.ref a4, .int 1], kb_a G a4 16 (upd (fun _ => 0) 0 0), kb_a G b 64 (uu3.2 0), kb_o r3 1 [.ref a3, .int 1], kb_a G a3 16 (upd (fun _ => 0) 0 0), kb_o o 1 [.ref b, .int 60]] H := hP
  have hD : va_D A [kb_o r5 1 [.ref a5, .int 1], kb_a G a5 16 (upd (fun _ => 0) 0 0), kb_o r6 1 [.ref a6, .int 1], kb_a G a6 16 (upd (fun _ => 0) 0 0), kb_o h 2 [.ref r0, .ref r1, .ref r2, .ref r3, .ref r4, .ref r5, .ref r6, .ref r7, .ref r8, .ref r9, .ref r10, .ref r11, .int L, .int P], kb_o r4 1 [.ref a4, .int 1], kb_a G a4 16 (upd (fun _ => 0) 0 0), kb_a G b 64 (uu3.2 0), kb_o r3 1 [.ref a3, .int 1], kb_a G a3 16 (upd (fun _ => 0) 0 0), kb_o o 1 [.ref b, .int 60]] := hD
  refine lv_aload_n hx hb d_Tree_layNode_28 rfl (lv_at hl 2 rfl) ?_
  refine lv_iload_n hx hb d_Tree_layNode_29 rfl (lv_at hl 0 rfl) ?_
  refine lv_iconst (v := 1) hx hb d_Tree_layNode_30 (by decide) ?_
  refine lv_iadd hx hb d_Tree_layNode_31 ?_
  refine kb_top (y := 1) (by decide) ?_
  refine kb_i (wc := []) (wr := [kb_o r5 1 [.ref a5, .int 1], kb_a G a5 16 (upd (fun _ => 0) 0 0), kb_o r6 1 [.ref a6, .int 1], kb_a G a6 16 (upd (fun _ => 0) 0 0), kb_o h 2 [.ref r0, .ref r1, .ref r2, .ref r3, .ref r4, .ref r5, .ref r6, .ref r7, .ref r8, .ref r9, .ref r10, .ref r11, .int L, .int P], kb_o r4 1 [.ref a4, .int 1], kb_a G a4 16 (upd (fun _ => 0) 0 0), kb_a G b 64 (uu3.2 0), kb_o r3 1 [.ref a3, .int 1], kb_a G a3 16 (upd (fun _ => 0) 0 0), kb_o o 1 [.ref b, .int 60]]) hE hP hD hS [] [0, 1, 2, 3, 4, 5, 6, 7, 8, 9, 10] rfl rfl (by decide) (by decide) (kb_rSN (As := [.int 1]) (rest := [.ref o]) (wc := []) ⟨hx, hb, hml, hown, ht⟩ ((c_Press_filledUp1 l G) _) wd_ce8c62b9 wd_28603eaf hE.2.2.1.1.2 wd_152693cc hd_c73b0c43 ⟨(Nat.le_of_ble_eq_true rfl), (Nat.le_of_ble_eq_true rfl)⟩ hE hP hD hS [] rfl (by decide) hl.1 rfl (Nat.le_of_ble_eq_true rfl) d_Tree_layNode_32 ⟨(Nat.le_of_ble_eq_true rfl), (Nat.le_of_ble_eq_true rfl)⟩) (fun rv10 uu9 H locs hw hP hD hS => ?_)
  have hP : va_P G.1 kb_cl [kb_o r5 1 [.ref a5, .int 1], kb_a G a5 16 (upd (fun _ => 0) 0 0), kb_o r6 1 [.ref a6, .int 1], kb_a G a6 16 (upd (fun _ => 0) 0 0), kb_o h 2 [.ref r0, .ref r1, .ref r2, .ref r3, .ref r4, .ref r5, .ref r6, .ref r7, .ref r8, .ref r9, .ref r10, .ref r11, .int L, .int P], kb_o r4 1 [.ref a4, .int 1], kb_a G a4 16 (upd (fun _ => 0) 0 0), kb_a G b 64 (uu3.2 0), kb_o r3 1 [.ref a3, .int 1], kb_a G a3 16 (upd (fun _ => 0) 0 0), kb_o o 1 [.ref b, .int 60]] H := hP
  have hD : va_D A [kb_o r5 1 [.ref a5, .int 1], kb_a G a5 16 (upd (fun _ => 0) 0 0), kb_o r6 1 [.ref a6, .int 1], kb_a G a6 16 (upd (fun _ => 0) 0 0), kb_o h 2 [.ref r0, .ref r1, .ref r2, .ref r3, .ref r4, .ref r5, .ref r6, .ref r7, .ref r8, .ref r9, .ref r10, .ref r11, .int L, .int P], kb_o r4 1 [.ref a4, .int 1], kb_a G a4 16 (upd (fun _ => 0) 0 0), kb_a G b 64 (uu3.2 0), kb_o r3 1 [.ref a3, .int 1], kb_a G a3 16 (upd (fun _ => 0) 0 0), kb_o o 1 [.ref b, .int 60]] := hD
  refine kb_top (y := 4) (show rv10 = 4 from hw) ?_
  refine lv_iload_n hx hb d_Tree_layNode_35 rfl (lv_at hl 0 rfl) ?_
  refine lv_isub hx hb d_Tree_layNode_36 ?_
  refine kb_top (y := 4) (by decide) ?_
  refine kb_v (wc := [kb_o o 1 [.ref b, .int 60], kb_a G b 64 (uu3.2 0)]) (wr := [kb_o r5 1 [.ref a5, .int 1], kb_a G a5 16 (upd (fun _ => 0) 0 0), kb_o r6 1 [.ref a6, .int 1], kb_a G a6 16 (upd (fun _ => 0) 0 0), kb_o h 2 [.ref r0, .ref r1, .ref r2, .ref r3, .ref r4, .ref r5, .ref r6, .ref r7, .ref r8, .ref r9, .ref r10, .ref r11, .int L, .int P], kb_o r4 1 [.ref a4, .int 1], kb_a G a4 16 (upd (fun _ => 0) 0 0), kb_o r3 1 [.ref a3, .int 1], kb_a G a3 16 (upd (fun _ => 0) 0 0)]) hE hP hD hS [10, 7] [0, 1, 2, 3, 4, 5, 6, 8, 9] rfl rfl (by decide) (by decide) (kb_rV (As := [.int 4]) (rest := []) (wc := [kb_o o 1 [.ref b, .int 60], kb_a G b 64 (uu3.2 0)]) (q0 := 0) ⟨hx, hb, hml, hown, ht⟩ ((c_Row_addZeros_4 l G o b (uu3.2 0)) _) (kb_gV wd_4a3bcfd3 wd_ff52bc62 wd_604a9052 wd_4182e433 wd_14f930da) ⟨rfl, hd_472d95d1⟩ ⟨(Nat.le_of_ble_eq_true rfl), (Nat.le_of_ble_eq_true rfl)⟩ hE hP hD hS [10, 7] rfl (by decide) rfl rfl rfl hl.1 rfl (Nat.le_of_ble_eq_true rfl) d_Tree_layNode_37 ⟨(Nat.le_of_ble_eq_true rfl), (Nat.le_of_ble_eq_true rfl)⟩) (fun uu11 H locs hw hP hD hS => ?_)
  have hP : va_P G.1 kb_cl [kb_o r5 1 [.ref a5, .int 1], kb_a G a5 16 (upd (fun _ => 0) 0 0), kb_o r6 1 [.ref a6, .int 1], kb_a G a6 16 (upd (fun _ => 0) 0 0), kb_o h 2 [.ref r0, .ref r1, .ref r2, .ref r3, .ref r4, .ref r5, .ref r6, .ref r7, .ref r8, .ref r9, .ref r10, .ref r11, .int L, .int P], kb_o r4 1 [.ref a4, .int 1], kb_a G a4 16 (upd (fun _ => 0) 0 0), kb_o r3 1 [.ref a3, .int 1], kb_a G a3 16 (upd (fun _ => 0) 0 0), kb_o o 1 [.ref b, .int 64], kb_a G b 64 (uu11.2 0)] H := hP
  have hD : va_D A [kb_o r5 1 [.ref a5, .int 1], kb_a G a5 16 (upd (fun _ => 0) 0 0), kb_o r6 1 [.ref a6, .int 1], kb_a G a6 16 (upd (fun _ => 0) 0 0), kb_o h 2 [.ref r0, .ref r1, .ref r2, .ref r3, .ref r4, .ref r5, .ref r6, .ref r7, .ref r8, .ref r9, .ref r10, .ref r11, .int L, .int P], kb_o r4 1 [.ref a4, .int 1], kb_a G a4 16 (upd (fun _ => 0) 0 0), kb_o r3 1 [.ref a3, .int 1], kb_a G a3 16 (upd (fun _ => 0) 0 0), kb_o o 1 [.ref b, .int 64], kb_a G b 64 (uu11.2 0)] := hD
  refine lv_aload_n hx hb d_Tree_layNode_40 rfl (lv_at hl 1 rfl) ?_
  refine lv_iload_n hx hb d_Tree_layNode_41 rfl (lv_at hl 3 rfl) ?_
  refine kb_i (wc := [kb_o h 2 [.ref r0, .ref r1, .ref r2, .ref r3, .ref r4, .ref r5, .ref r6, .ref r7, .ref r8, .ref r9, .ref r10, .ref r11, .int L, .int P], kb_o r5 1 [.ref a5, .int 1], kb_a G a5 16 (upd (fun _ => 0) 0 0)]) (wr := [kb_o r6 1 [.ref a6, .int 1], kb_a G a6 16 (upd (fun _ => 0) 0 0), kb_o r4 1 [.ref a4, .int 1], kb_a G a4 16 (upd (fun _ => 0) 0 0), kb_o r3 1 [.ref a3, .int 1], kb_a G a3 16 (upd (fun _ => 0) 0 0), kb_o o 1 [.ref b, .int 64], kb_a G b 64 (uu11.2 0)]) hE hP hD hS [4, 0, 1] [2, 3, 5, 6, 7, 8, 9, 10] rfl rfl (by decide) (by decide) (kb_rV (As := [.int 0]) (rest := []) (wc := [kb_o h 2 [.ref r0, .ref r1, .ref r2, .ref r3, .ref r4, .ref r5, .ref r6, .ref r7, .ref r8, .ref r9, .ref r10, .ref r11, .int L, .int P], kb_o r5 1 [.ref a5, .int 1], kb_a G a5 16 (upd (fun _ => 0) 0 0)]) (q0 := 0) ⟨hx, hb, hml, hown, ht⟩ ((c_Tree_firstPropertyOf l G h r0 r1 r2 r3 r4 r5 r6 r7 r8 r9 r10 r11 L P a5 (upd (fun _ => 0) 0 0)) _) (kb_gV wd_b5e54596 wd_16213a5f wd_bba391b2 wd_ebf91e09 wd_a2bf9666) ⟨rfl, hd_ce73edbf⟩ ⟨(Nat.le_of_ble_eq_true rfl), (Nat.le_of_ble_eq_true rfl)⟩ hE hP hD hS [4, 0, 1] rfl (by decide) rfl rfl rfl hl.1 rfl (Nat.le_of_ble_eq_true rfl) d_Tree_layNode_42 ⟨(Nat.le_of_ble_eq_true rfl), (Nat.le_of_ble_eq_true rfl)⟩) (fun rv14 uu13 H locs hw hP hD hS => ?_)
  have hP : va_P G.1 kb_cl [kb_o r6 1 [.ref a6, .int 1], kb_a G a6 16 (upd (fun _ => 0) 0 0), kb_o r4 1 [.ref a4, .int 1], kb_a G a4 16 (upd (fun _ => 0) 0 0), kb_o r3 1 [.ref a3, .int 1], kb_a G a3 16 (upd (fun _ => 0) 0 0), kb_o o 1 [.ref b, .int 64], kb_a G b 64 (uu11.2 0), kb_o h 2 [.ref r0, .ref r1, .ref r2, .ref r3, .ref r4, .ref r5, .ref r6, .ref r7, .ref r8, .ref r9, .ref r10, .ref r11, .int L, .int P], kb_o r5 1 [.ref a5, .int 1], kb_a G a5 16 (upd (fun _ => 0) 0 0)] H := hP
  have hD : va_D A [kb_o r6 1 [.ref a6, .int 1], kb_a G a6 16 (upd (fun _ => 0) 0 0), kb_o r4 1 [.ref a4, .int 1], kb_a G a4 16 (upd (fun _ => 0) 0 0), kb_o r3 1 [.ref a3, .int 1], kb_a G a3 16 (upd (fun _ => 0) 0 0), kb_o o 1 [.ref b, .int 64], kb_a G b 64 (uu11.2 0), kb_o h 2 [.ref r0, .ref r1, .ref r2, .ref r3, .ref r4, .ref r5, .ref r6, .ref r7, .ref r8, .ref r9, .ref r10, .ref r11, .int L, .int P], kb_o r5 1 [.ref a5, .int 1], kb_a G a5 16 (upd (fun _ => 0) 0 0)] := hD
  refine kb_top (y := 0) (show rv14 = 0 from hw) ?_
  refine lv_istore (lv' := [(4, .int 0), (3, .int 0), (0, .ref h), (1, .ref o), (2, .int 0)]) hx hb d_Tree_layNode_45 hl (by decide) rfl (fun ls hl => ?_)
  refine lv_iload hx hb d_Tree_layNode_47 (lv_at hl 0 rfl) ?_
  refine lv_aload_n hx hb d_Tree_layNode_49 rfl (lv_at hl 2 rfl) ?_
  refine lv_iload_n hx hb d_Tree_layNode_50 rfl (lv_at hl 4 rfl) ?_
  refine kb_i (wc := [kb_o h 2 [.ref r0, .ref r1, .ref r2, .ref r3, .ref r4, .ref r5, .ref r6, .ref r7, .ref r8, .ref r9, .ref r10, .ref r11, .int L, .int P], kb_o r6 1 [.ref a6, .int 1], kb_a G a6 16 (upd (fun _ => 0) 0 0)]) (wr := [kb_o r4 1 [.ref a4, .int 1], kb_a G a4 16 (upd (fun _ => 0) 0 0), kb_o r3 1 [.ref a3, .int 1], kb_a G a3 16 (upd (fun _ => 0) 0 0), kb_o o 1 [.ref b, .int 64], kb_a G b 64 (uu11.2 0), kb_o r5 1 [.ref a5, .int 1], kb_a G a5 16 (upd (fun _ => 0) 0 0)]) hE hP hD hS [8, 0, 1] [2, 3, 4, 5, 6, 7, 9, 10] rfl rfl (by decide) (by decide) (kb_rV (As := [.int 0]) (rest := [.int 0]) (wc := [kb_o h 2 [.ref r0, .ref r1, .ref r2, .ref r3, .ref r4, .ref r5, .ref r6, .ref r7, .ref r8, .ref r9, .ref r10, .ref r11, .int L, .int P], kb_o r6 1 [.ref a6, .int 1], kb_a G a6 16 (upd (fun _ => 0) 0 0)]) (q0 := 0) ⟨hx, hb, hml, hown, ht⟩ ((c_Tree_propertiesOf l G h r0 r1 r2 r3 r4 r5 r6 r7 r8 r9 r10 r11 L P a6 (upd (fun _ => 0) 0 0)) _) (kb_gV wd_8341cc6b wd_c1c67d0b wd_a7a256ac wd_ebf91e09 wd_f59b7322) ⟨rfl, hd_c0e23879⟩ ⟨(Nat.le_of_ble_eq_true rfl), (Nat.le_of_ble_eq_true rfl)⟩ hE hP hD hS [8, 0, 1] rfl (by decide) rfl rfl rfl hl.1 rfl (Nat.le_of_ble_eq_true rfl) d_Tree_layNode_51 ⟨(Nat.le_of_ble_eq_true rfl), (Nat.le_of_ble_eq_true rfl)⟩) (fun rv16 uu15 H locs hw hP hD hS => ?_)
  have hP : va_P G.1 kb_cl [kb_o r4 1 [.ref a4, .int 1], kb_a G a4 16 (upd (fun _ => 0) 0 0), kb_o r3 1 [.ref a3, .int 1], kb_a G a3 16 (upd (fun _ => 0) 0 0), kb_o o 1 [.ref b, .int 64], kb_a G b 64 (uu11.2 0), kb_o r5 1 [.ref a5, .int 1], kb_a G a5 16 (upd (fun _ => 0) 0 0), kb_o h 2 [.ref r0, .ref r1, .ref r2, .ref r3, .ref r4, .ref r5, .ref r6, .ref r7, .ref r8, .ref r9, .ref r10, .ref r11, .int L, .int P], kb_o r6 1 [.ref a6, .int 1], kb_a G a6 16 (upd (fun _ => 0) 0 0)] H := hP
  have hD : va_D A [kb_o r4 1 [.ref a4, .int 1], kb_a G a4 16 (upd (fun _ => 0) 0 0), kb_o r3 1 [.ref a3, .int 1], kb_a G a3 16 (upd (fun _ => 0) 0 0), kb_o o 1 [.ref b, .int 64], kb_a G b 64 (uu11.2 0), kb_o r5 1 [.ref a5, .int 1], kb_a G a5 16 (upd (fun _ => 0) 0 0), kb_o h 2 [.ref r0, .ref r1, .ref r2, .ref r3, .ref r4, .ref r5, .ref r6, .ref r7, .ref r8, .ref r9, .ref r10, .ref r11, .int L, .int P], kb_o r6 1 [.ref a6, .int 1], kb_a G a6 16 (upd (fun _ => 0) 0 0)] := hD
  refine kb_top (y := 0) (show rv16 = 0 from hw) ?_
  refine lv_iadd hx hb d_Tree_layNode_54 ?_
  refine kb_top (y := 0) (by decide) ?_
  refine lv_istore (lv' := [(5, .int 0), (4, .int 0), (3, .int 0), (0, .ref h), (1, .ref o), (2, .int 0)]) hx hb d_Tree_layNode_55 hl (by decide) rfl (fun ls hl => ?_)
  refine lv_iload hx hb d_Tree_layNode_57 (lv_at hl 1 rfl) ?_
  refine lv_istore (lv' := [(6, .int 0), (5, .int 0), (4, .int 0), (3, .int 0), (0, .ref h), (1, .ref o), (2, .int 0)]) hx hb d_Tree_layNode_59 hl (by decide) rfl (fun ls hl => ?_)
  refine lv_iload hx hb d_Tree_layNode_61 (lv_at hl 0 rfl) ?_
  refine lv_iload hx hb d_Tree_layNode_63 (lv_at hl 1 rfl) ?_
  refine lv_icmp_ge (tgt := 81) hx hb d_Tree_layNode_65 (by decide) (fun c9 => ?_) (fun c9 => absurd (by decide) c9)
  exact kb_retv (kb_l [], kb_f [uu11.2 0]) hx hb hr hlocks hE hP hD hS [0, 1, 2, 3, 4, 5, 6, 7, 8, 9, 10] rfl (by decide) rfl trivial (Nat.le_of_ble_eq_true rfl) (Nat.le_of_ble_eq_true rfl) d_Tree_layNode_81

set_option maxHeartbeats 4000000 in
set_option maxRecDepth 100000 in
theorem c_Tree_layEndsBehind (l : Launch) (G : kb_G) (h : Nat) (r0 : Nat) (r1 : Nat) (r2 : Nat) (r3 : Nat) (r4 : Nat) (r5 : Nat) (r6 : Nat) (r7 : Nat) (r8 : Nat) (r9 : Nat) (r10 : Nat) (r11 : Nat) (L : Int32) (P : Int32) (a1 : Nat) (a2 : Nat) (o : Nat) (b : Nat) (f : Nat → Int32) : kb_cv l G ⟨"TreePress$Tree", "layEndsBehind", "(LTreePress$Row;I)V"⟩ prog_4_method_32_code 6 5 1 128 [.ref h, .ref o, .int 0] [kb_o h 2 [.ref r0, .ref r1, .ref r2, .ref r3, .ref r4, .ref r5, .ref r6, .ref r7, .ref r8, .ref r9, .ref r10, .ref r11, .int L, .int P], kb_o r1 1 [.ref a1, .int 1], kb_o r2 1 [.ref a2, .int 1], kb_a G a2 16 (upd (fun _ => 0) 0 1), kb_o o 1 [.ref b, .int 64], kb_a G b 64 f] (fun u => True) (fun u => [kb_o h 2 [.ref r0, .ref r1, .ref r2, .ref r3, .ref r4, .ref r5, .ref r6, .ref r7, .ref r8, .ref r9, .ref r10, .ref r11, .int L, .int P], kb_o r1 1 [.ref a1, .int 1], kb_o r2 1 [.ref a2, .int 1], kb_a G a2 16 (upd (fun _ => 0) 0 1), kb_o o 1 [.ref (u.1 0), .int 68], kb_a G (u.1 0) 128 (u.2 0)]) := by
  intro sz
  refine kb_body (QQ := fun A => kb_Qv G A (fun u => True) (fun u => [kb_o h 2 [.ref r0, .ref r1, .ref r2, .ref r3, .ref r4, .ref r5, .ref r6, .ref r7, .ref r8, .ref r9, .ref r10, .ref r11, .int L, .int P], kb_o r1 1 [.ref a1, .int 1], kb_o r2 1 [.ref a2, .int 1], kb_a G a2 16 (upd (fun _ => 0) 0 1), kb_o o 1 [.ref (u.1 0), .int 68], kb_a G (u.1 0) 128 (u.2 0)])) (by decide) (Nat.le_of_ble_eq_true rfl) ?_
  intro p e s m below meth c A B ls hl
  obtain ⟨hx, hb, hr, hml, hlocks, hin, hown, ht, hE, hP, hD, hS⟩ := B
  have hl : lv_has ls 6 [(0, .ref h), (1, .ref o), (2, .int 0)] := hl
  have hP0 := hP
  obtain ⟨H, hHe⟩ : ∃ H, H = s.heap := ⟨_, rfl⟩
  rw [← hHe] at hP
  have hS : va_S A s.heap H [] := by rw [hHe]; exact hS
  refine kb_at hHe ?_
  clear hHe
  refine lv_iload_n hx hb d_Tree_layEndsBehind_0 rfl (lv_at hl 2 rfl) ?_
  refine lv_iconst (v := 1) hx hb d_Tree_layEndsBehind_1 (by decide) ?_
  refine lv_iadd hx hb d_Tree_layEndsBehind_2 ?_
  refine kb_top (y := 1) (by decide) ?_
  refine lv_istore_n (lv' := [(3, .int 1), (0, .ref h), (1, .ref o), (2, .int 0)]) hx hb d_Tree_layEndsBehind_3 rfl hl (by decide) rfl (fun ls hl => ?_)
  refine lv_iload_n hx hb d_Tree_layEndsBehind_4 rfl (lv_at hl 0 rfl) ?_
  refine lv_aload_n hx hb d_Tree_layEndsBehind_5 rfl (lv_at hl 1 rfl) ?_
  refine kb_i (wc := [kb_o h 2 [.ref r0, .ref r1, .ref r2, .ref r3, .ref r4, .ref r5, .ref r6, .ref r7, .ref r8, .ref r9, .ref r10, .ref r11, .int L, .int P], kb_o r1 1 [.ref a1, .int 1]]) (wr := [kb_o r2 1 [.ref a2, .int 1], kb_a G a2 16 (upd (fun _ => 0) 0 1), kb_o o 1 [.ref b, .int 64], kb_a G b 64 f]) hE hP hD hS [0, 1] [2, 3, 4, 5] rfl rfl (by decide) (by decide) (kb_rV (As := []) (rest := [.int 1]) (wc := [kb_o h 2 [.ref r0, .ref r1, .ref r2, .ref r3, .ref r4, .ref r5, .ref r6, .ref r7, .ref r8, .ref r9, .ref r10, .ref r11, .int L, .int P], kb_o r1 1 [.ref a1, .int 1]]) (q0 := 0) ⟨hx, hb, hml, hown, ht⟩ ((c_Tree_countOfNodes l G h r0 r1 r2 r3 r4 r5 r6 r7 r8 r9 r10 r11 L P a1 1) _) (kb_gV wd_f9b8311a wd_004c0445 wd_dbedc27b wd_ebf91e09 wd_8a7bf582) ⟨rfl, hd_a0b17e13⟩ ⟨(Nat.le_of_ble_eq_true rfl), (Nat.le_of_ble_eq_true rfl)⟩ hE hP hD hS [0, 1] rfl (by decide) rfl rfl rfl hl.1 rfl (Nat.le_of_ble_eq_true rfl) d_Tree_layEndsBehind_6 ⟨(Nat.le_of_ble_eq_true rfl), (Nat.le_of_ble_eq_true rfl)⟩) (fun rv2 uu1 H locs hw hP hD hS => ?_)
  have hP : va_P G.1 kb_cl [kb_o r2 1 [.ref a2, .int 1], kb_a G a2 16 (upd (fun _ => 0) 0 1), kb_o o 1 [.ref b, .int 64], kb_a G b 64 f, kb_o h 2 [.ref r0, .ref r1, .ref r2, .ref r3, .ref r4, .ref r5, .ref r6, .ref r7, .ref r8, .ref r9, .ref r10, .ref r11, .int L, .int P], kb_o r1 1 [.ref a1, .int 1]] H := hP
  have hD : va_D A [kb_o r2 1 [.ref a2, .int 1], kb_a G a2 16 (upd (fun _ => 0) 0 1), kb_o o 1 [.ref b, .int 64], kb_a G b 64 f, kb_o h 2 [.ref r0, .ref r1, .ref r2, .ref r3, .ref r4, .ref r5, .ref r6, .ref r7, .ref r8, .ref r9, .ref r10, .ref r11, .int L, .int P], kb_o r1 1 [.ref a1, .int 1]] := hD
  refine kb_top (y := 1) (show rv2 = 1 from hw) ?_
  refine lv_icmp_ge (tgt := 23) hx hb d_Tree_layEndsBehind_9 (by decide) (fun c9 => ?_) (fun c9 => absurd (by decide) c9)
  refine lv_iconst (v := 1) hx hb d_Tree_layEndsBehind_23 (by decide) ?_
  refine lv_istore (lv' := [(4, .int 1), (3, .int 1), (0, .ref h), (1, .ref o), (2, .int 0)]) hx hb d_Tree_layEndsBehind_24 hl (by decide) rfl (fun ls hl => ?_)
  refine lv_aload_n hx hb d_Tree_layEndsBehind_26 rfl (lv_at hl 2 rfl) ?_
  refine va_get (D := G.1) (ci := 2) (v := .ref r2) (C := "TreePress$Tree") (T := kb_F2) (N := 14) hx hb ht kb_w2 hown hE.1 hP 4 rfl rfl 2 (by decide) (ht _ wd_6fe818ee) (fun _ h9 => h9) rfl d_Tree_layEndsBehind_27 ?_
  refine lv_iload_n hx hb d_Tree_layEndsBehind_30 rfl (lv_at hl 4 rfl) ?_
  refine kb_i (wc := [kb_o r2 1 [.ref a2, .int 1], kb_a G a2 16 (upd (fun _ => 0) 0 1)]) (wr := [kb_o o 1 [.ref b, .int 64], kb_a G b 64 f, kb_o h 2 [.ref r0, .ref r1, .ref r2, .ref r3, .ref r4, .ref r5, .ref r6, .ref r7, .ref r8, .ref r9, .ref r10, .ref r11, .int L, .int P], kb_o r1 1 [.ref a1, .int 1]]) hE hP hD hS [0, 1] [2, 3, 4, 5] rfl rfl (by decide) (by decide) (kb_rV (As := [.int 0]) (rest := []) (wc := [kb_o r2 1 [.ref a2, .int 1], kb_a G a2 16 (upd (fun _ => 0) 0 1)]) (q0 := 0) ⟨hx, hb, hml, hown, ht⟩ ((c_Row_at0 l G r2 a2 (upd (fun _ => 0) 0 1)) _) (kb_gV wd_0cfebd59 wd_1c0a6016 wd_3417d322 wd_4182e433 wd_8eb9b6e0) ⟨rfl, hd_d357ab42⟩ ⟨(Nat.le_of_ble_eq_true rfl), (Nat.le_of_ble_eq_true rfl)⟩ hE hP hD hS [0, 1] rfl (by decide) rfl rfl rfl hl.1 rfl (Nat.le_of_ble_eq_true rfl) d_Tree_layEndsBehind_31 ⟨(Nat.le_of_ble_eq_true rfl), (Nat.le_of_ble_eq_true rfl)⟩) (fun rv4 uu3 H locs hw hP hD hS => ?_)
  have hP : va_P G.1 kb_cl [kb_o o 1 [.ref b, .int 64], kb_a G b 64 f, kb_o h 2 [.ref r0, .ref r1, .ref r2, .ref r3, .ref r4, .ref r5, .ref r6, .ref r7, .ref r8, .ref r9, .ref r10, .ref r11, .int L, .int P], kb_o r1 1 [.ref a1, .int 1], kb_o r2 1 [.ref a2, .int 1], kb_a G a2 16 (upd (fun _ => 0) 0 1)] H := hP
  have hD : va_D A [kb_o o 1 [.ref b, .int 64], kb_a G b 64 f, kb_o h 2 [.ref r0, .ref r1, .ref r2, .ref r3, .ref r4, .ref r5, .ref r6, .ref r7, .ref r8, .ref r9, .ref r10, .ref r11, .int L, .int P], kb_o r1 1 [.ref a1, .int 1], kb_o r2 1 [.ref a2, .int 1], kb_a G a2 16 (upd (fun _ => 0) 0 1)] := hD
  refine kb_top (y := 1) (show rv4 = 1 from hw) ?_
  refine lv_istore (lv' := [(5, .int 1), (4, .int 1), (3, .int 1), (0, .ref h), (1, .ref o), (2, .int 0)]) hx hb d_Tree_layEndsBehind_34 hl (by decide) rfl (fun ls hl => ?_)
  refine lv_iload hx hb d_Tree_layEndsBehind_36 (lv_at hl 0 rfl) ?_
  refine lv_iload hx hb d_Tree_layEndsBehind_38 (lv_at hl 1 rfl) ?_
  refine lv_icmp_lt (tgt := 54) hx hb d_Tree_layEndsBehind_40 (by decide) (fun c9 => absurd c9 (by decide)) (fun c9 => ?_)
  refine lv_aload_n hx hb d_Tree_layEndsBehind_43 rfl (lv_at hl 4 rfl) ?_
  refine lv_iconst (v := 2) hx hb d_Tree_layEndsBehind_44 (by decide) ?_
  refine kb_v (wc := [kb_o o 1 [.ref b, .int 64], kb_a G b 64 f]) (wr := [kb_o h 2 [.ref r0, .ref r1, .ref r2, .ref r3, .ref r4, .ref r5, .ref r6, .ref r7, .ref r8, .ref r9, .ref r10, .ref r11, .int L, .int P], kb_o r1 1 [.ref a1, .int 1], kb_o r2 1 [.ref a2, .int 1], kb_a G a2 16 (upd (fun _ => 0) 0 1)]) hE hP hD hS [0, 1] [2, 3, 4, 5] rfl rfl (by decide) (by decide) (kb_rV (As := [.int 2]) (rest := []) (wc := [kb_o o 1 [.ref b, .int 64], kb_a G b 64 f]) (q0 := 0) ⟨hx, hb, hml, hown, ht⟩ ((c_Row_addNumber_g64 l G o b f 2) _) (kb_gV wd_13c93286 wd_091fe404 wd_2d8090cf wd_4182e433 wd_378b6872) ⟨rfl, hd_6154874f⟩ ⟨(Nat.le_of_ble_eq_true rfl), (Nat.le_of_ble_eq_true rfl)⟩ hE hP hD hS [0, 1] rfl (by decide) rfl rfl rfl hl.1 rfl (Nat.le_of_ble_eq_true rfl) d_Tree_layEndsBehind_45 ⟨(Nat.le_of_ble_eq_true rfl), (Nat.le_of_ble_eq_true rfl)⟩) (fun uu5 H locs hw hP hD hS => ?_)
  have hP : va_P G.1 kb_cl [kb_o h 2 [.ref r0, .ref r1, .ref r2, .ref r3, .ref r4, .ref r5, .ref r6, .ref r7, .ref r8, .ref r9, .ref r10, .ref r11, .int L, .int P], kb_o r1 1 [.ref a1, .int 1], kb_o r2 1 [.ref a2, .int 1], kb_a G a2 16 (upd (fun _ => 0) 0 1), kb_o o 1 [.ref (uu5.1 0), .int 68], kb_a G (uu5.1 0) 128 (uu5.2 0)] H := hP
  have hD : va_D A [kb_o h 2 [.ref r0, .ref r1, .ref r2, .ref r3, .ref r4, .ref r5, .ref r6, .ref r7, .ref r8, .ref r9, .ref r10, .ref r11, .int L, .int P], kb_o r1 1 [.ref a1, .int 1], kb_o r2 1 [.ref a2, .int 1], kb_a G a2 16 (upd (fun _ => 0) 0 1), kb_o o 1 [.ref (uu5.1 0), .int 68], kb_a G (uu5.1 0) 128 (uu5.2 0)] := hD
  refine lv_iinc (v := 0) (lv' := [(5, .int 0), (4, .int 1), (3, .int 1), (0, .ref h), (1, .ref o), (2, .int 0)]) hx hb d_Tree_layEndsBehind_48 hl (k := 0) rfl (by decide) (by decide) rfl (fun ls hl => ?_)
  refine lv_goto (tgt := 36) hx hb d_Tree_layEndsBehind_51 (by decide) ?_
  refine lv_iload hx hb d_Tree_layEndsBehind_36 (lv_at hl 0 rfl) ?_
  refine lv_iload hx hb d_Tree_layEndsBehind_38 (lv_at hl 1 rfl) ?_
  refine lv_icmp_lt (tgt := 54) hx hb d_Tree_layEndsBehind_40 (by decide) (fun c9 => ?_) (fun c9 => absurd (by decide) c9)
  exact kb_retv (kb_l [uu5.1 0], kb_f [uu5.2 0]) hx hb hr hlocks hE hP hD hS [0, 1, 2, 3, 4, 5] rfl (by decide) rfl trivial (Nat.le_of_ble_eq_true rfl) (Nat.le_of_ble_eq_true rfl) d_Tree_layEndsBehind_54

set_option maxHeartbeats 4000000 in
set_option maxRecDepth 100000 in
theorem c_Tree_layNames (l : Launch) (G : kb_G) (h : Nat) (r0 : Nat) (r1 : Nat) (r2 : Nat) (r3 : Nat) (r4 : Nat) (r5 : Nat) (r6 : Nat) (r7 : Nat) (r8 : Nat) (r9 : Nat) (r10 : Nat) (r11 : Nat) (L : Int32) (P : Int32) (a7 : Nat) (o : Nat) : kb_cv l G ⟨"TreePress$Tree", "layNames", "(LTreePress$Row;)V"⟩ prog_4_method_33_code 4 5 0 0 [.ref h, .ref o] [kb_o h 2 [.ref r0, .ref r1, .ref r2, .ref r3, .ref r4, .ref r5, .ref r6, .ref r7, .ref r8, .ref r9, .ref r10, .ref r11, .int L, .int P], kb_o r7 1 [.ref a7, .int 0]] (fun u => True) (fun u => [kb_o h 2 [.ref r0, .ref r1, .ref r2, .ref r3, .ref r4, .ref r5, .ref r6, .ref r7, .ref r8, .ref r9, .ref r10, .ref r11, .int L, .int P], kb_o r7 1 [.ref a7, .int 0]]) := by
  intro sz
  refine kb_body (QQ := fun A => kb_Qv G A (fun u => True) (fun u => [kb_o h 2 [.ref r0, .ref r1, .ref r2, .ref r3, .ref r4, .ref r5, .ref r6, .ref r7, .ref r8, .ref r9, .ref r10, .ref r11, .int L, .int P], kb_o r7 1 [.ref a7, .int 0]])) (by decide) (Nat.le_of_ble_eq_true rfl) ?_
  intro p e s m below meth c A B ls hl
  obtain ⟨hx, hb, hr, hml, hlocks, hin, hown, ht, hE, hP, hD, hS⟩ := B
  have hl : lv_has ls 4 [(0, .ref h), (1, .ref o)] := hl
  have hP0 := hP
  obtain ⟨H, hHe⟩ : ∃ H, H = s.heap := ⟨_, rfl⟩
  rw [← hHe] at hP
  have hS : va_S A s.heap H [] := by rw [hHe]; exact hS
  refine kb_at hHe ?_
  clear hHe
  refine lv_iconst (v := 0) hx hb d_Tree_layNames_0 (by decide) ?_
  refine lv_istore_n (lv' := [(2, .int 0), (0, .ref h), (1, .ref o)]) hx hb d_Tree_layNames_1 rfl hl (by decide) rfl (fun ls hl => ?_)
  refine lv_iconst (v := 0) hx hb d_Tree_layNames_2 (by decide) ?_
  refine lv_istore_n (lv' := [(3, .int 0), (2, .int 0), (0, .ref h), (1, .ref o)]) hx hb d_Tree_layNames_3 rfl hl (by decide) rfl (fun ls hl => ?_)
  refine lv_iload_n hx hb d_Tree_layNames_4 rfl (lv_at hl 0 rfl) ?_
  refine lv_aload_n hx hb d_Tree_layNames_5 rfl (lv_at hl 2 rfl) ?_
  refine kb_i (wc := [kb_o h 2 [.ref r0, .ref r1, .ref r2, .ref r3, .ref r4, .ref r5, .ref r6, .ref r7, .ref r8, .ref r9, .ref r10, .ref r11, .int L, .int P], kb_o r7 1 [.ref a7, .int 0]]) (wr := []) hE hP hD hS [0, 1] [] rfl rfl (by decide) (by decide) (kb_rV (As := []) (rest := [.int 0]) (wc := [kb_o h 2 [.ref r0, .ref r1, .ref r2, .ref r3, .ref r4, .ref r5, .ref r6, .ref r7, .ref r8, .ref r9, .ref r10, .ref r11, .int L, .int P], kb_o r7 1 [.ref a7, .int 0]]) (q0 := 0) ⟨hx, hb, hml, hown, ht⟩ ((c_Tree_countOfProperties l G h r0 r1 r2 r3 r4 r5 r6 r7 r8 r9 r10 r11 L P a7 0) _) (kb_gV wd_a5250f59 wd_5e59c8fd wd_1e6fdce3 wd_ebf91e09 wd_402a7dff) ⟨rfl, hd_e49549c8⟩ ⟨(Nat.le_of_ble_eq_true rfl), (Nat.le_of_ble_eq_true rfl)⟩ hE hP hD hS [0, 1] rfl (by decide) rfl rfl rfl hl.1 rfl (Nat.le_of_ble_eq_true rfl) d_Tree_layNames_6 ⟨(Nat.le_of_ble_eq_true rfl), (Nat.le_of_ble_eq_true rfl)⟩) (fun rv2 uu1 H locs hw hP hD hS => ?_)
  have hP : va_P G.1 kb_cl [kb_o h 2 [.ref r0, .ref r1, .ref r2, .ref r3, .ref r4, .ref r5, .ref r6, .ref r7, .ref r8, .ref r9, .ref r10, .ref r11, .int L, .int P], kb_o r7 1 [.ref a7, .int 0]] H := hP
  have hD : va_D A [kb_o h 2 [.ref r0, .ref r1, .ref r2, .ref r3, .ref r4, .ref r5, .ref r6, .ref r7, .ref r8, .ref r9, .ref r10, .ref r11, .int L, .int P], kb_o r7 1 [.ref a7, .int 0]] := hD
  refine kb_top (y := 0) (show rv2 = 0 from hw) ?_
  refine lv_icmp_ge (tgt := 66) hx hb d_Tree_layNames_9 (by decide) (fun c9 => ?_) (fun c9 => absurd (by decide) c9)
  exact kb_retv (kb_l [], kb_f []) hx hb hr hlocks hE hP hD hS [0, 1] rfl (by decide) rfl trivial (Nat.le_of_ble_eq_true rfl) (Nat.le_of_ble_eq_true rfl) d_Tree_layNames_66

set_option maxHeartbeats 4000000 in
set_option maxRecDepth 100000 in
theorem c_Tree_layHead (l : Launch) (G : kb_G) (h : Nat) (r0 : Nat) (r1 : Nat) (r2 : Nat) (r3 : Nat) (r4 : Nat) (r5 : Nat) (r6 : Nat) (r7 : Nat) (r8 : Nat) (r9 : Nat) (r10 : Nat) (r11 : Nat) (L : Int32) (P : Int32) (o : Nat) (b : Nat) (f : Nat → Int32) : kb_cv l G ⟨"TreePress$Tree", "layHead", "(LTreePress$Row;I)V"⟩ prog_4_method_34_code 3 3 0 0 [.ref h, .ref o, .int 72] [kb_o h 2 [.ref r0, .ref r1, .ref r2, .ref r3, .ref r4, .ref r5, .ref r6, .ref r7, .ref r8, .ref r9, .ref r10, .ref r11, .int L, .int P], kb_o o 1 [.ref b, .int 72], kb_a G b 128 f] (fun u => True) (fun u => [kb_o h 2 [.ref r0, .ref r1, .ref r2, .ref r3, .ref r4, .ref r5, .ref r6, .ref r7, .ref r8, .ref r9, .ref r10, .ref r11, .int L, .int P], kb_o o 1 [.ref b, .int 72], kb_a G b 128 (u.2 0)]) := by
  intro sz
  refine kb_body (QQ := fun A => kb_Qv G A (fun u => True) (fun u => [kb_o h 2 [.ref r0, .ref r1, .ref r2, .ref r3, .ref r4, .ref r5, .ref r6, .ref r7, .ref r8, .ref r9, .ref r10, .ref r11, .int L, .int P], kb_o o 1 [.ref b, .int 72], kb_a G b 128 (u.2 0)])) (by decide) (Nat.le_of_ble_eq_true rfl) ?_
  intro p e s m below meth c A B ls hl
  obtain ⟨hx, hb, hr, hml, hlocks, hin, hown, ht, hE, hP, hD, hS⟩ := B
  have hl : lv_has ls 3 [(0, .ref h), (1, .ref o), (2, .int 72)] := hl
  have hP0 := hP
  obtain ⟨H, hHe⟩ : ∃ H, H = s.heap := ⟨_, rfl⟩
  rw [← hHe] at hP
  have hS : va_S A s.heap H [] := by rw [hHe]; exact hS
  refine kb_at hHe ?_
  clear hHe
  refine lv_aload_n hx hb d_Tree_layHead_0 rfl (lv_at hl 1 rfl) ?_
  refine lv_iconst (v := 0) hx hb d_Tree_layHead_1 (by decide) ?_
  refine lv_ldc (v := (-804389139)) hx hb hown (ht _ wd_c7f69f9f) d_Tree_layHead_2 ?_
  refine kb_v (wc := [kb_o o 1 [.ref b, .int 72], kb_a G b 128 f]) (wr := [kb_o h 2 [.ref r0, .ref r1, .ref r2, .ref r3, .ref r4, .ref r5, .ref r6, .ref r7, .ref r8, .ref r9, .ref r10, .ref r11, .int L, .int P]]) hE hP hD hS [1, 2] [0] rfl rfl (by decide) (by decide) (kb_rV (As := [.int 0, .int (-804389139)]) (rest := []) (wc := [kb_o o 1 [.ref b, .int 72], kb_a G b 128 f]) (q0 := 0) ⟨hx, hb, hml, hown, ht⟩ ((c_Row_putNumber l G o b 0 f (-804389139) (by omega)) _) (kb_gV wd_89b5d5c8 wd_35bf1cf8 wd_1686e439 wd_4182e433 wd_351f18cf) ⟨rfl, hd_18a7462f⟩ ⟨(Nat.le_of_ble_eq_true rfl), (Nat.le_of_ble_eq_true rfl)⟩ hE hP hD hS [1, 2] rfl (by decide) rfl rfl rfl hl.1 rfl (Nat.le_of_ble_eq_true rfl) d_Tree_layHead_4 ⟨(Nat.le_of_ble_eq_true rfl), (Nat.le_of_ble_eq_true rfl)⟩) (fun uu1 H locs hw hP hD hS => ?_)
  have hP : va_P G.1 kb_cl [kb_o h 2 [.ref r0, .ref r1, .ref r2, .ref r3, .ref r4, .ref r5, .ref r6, .ref r7, .ref r8, .ref r9, .ref r10, .ref r11, .int L, .int P], kb_o o 1 [.ref b, .int 72], kb_a G b 128 (uu1.2 0)] H := hP
  have hD : va_D A [kb_o h 2 [.ref r0, .ref r1, .ref r2, .ref r3, .ref r4, .ref r5, .ref r6, .ref r7, .ref r8, .ref r9, .ref r10, .ref r11, .int L, .int P], kb_o o 1 [.ref b, .int 72], kb_a G b 128 (uu1.2 0)] := hD
  refine lv_aload_n hx hb d_Tree_layHead_7 rfl (lv_at hl 1 rfl) ?_
  refine lv_iconst (v := 4) hx hb d_Tree_layHead_8 (by decide) ?_
  refine lv_aload_n hx hb d_Tree_layHead_9 rfl (lv_at hl 1 rfl) ?_
  refine kb_i (wc := [kb_o o 1 [.ref b, .int 72]]) (wr := [kb_o h 2 [.ref r0, .ref r1, .ref r2, .ref r3, .ref r4, .ref r5, .ref r6, .ref r7, .ref r8, .ref r9, .ref r10, .ref r11, .int L, .int P], kb_a G b 128 (uu1.2 0)]) hE hP hD hS [1] [0, 2] rfl rfl (by decide) (by decide) (kb_rV (As := []) (rest := [.int 4, .ref o]) (wc := [kb_o o 1 [.ref b, .int 72]]) (q0 := 0) ⟨hx, hb, hml, hown, ht⟩ ((c_Row_length l G o b 72) _) (kb_gV wd_d02778d4 wd_5e08083b wd_489345cb wd_4182e433 wd_8d5193a7) ⟨rfl, hd_d85231f4⟩ ⟨(Nat.le_of_ble_eq_true rfl), (Nat.le_of_ble_eq_true rfl)⟩ hE hP hD hS [1] rfl (by decide) rfl rfl rfl hl.1 rfl (Nat.le_of_ble_eq_true rfl) d_Tree_layHead_10 ⟨(Nat.le_of_ble_eq_true rfl), (Nat.le_of_ble_eq_true rfl)⟩) (fun rv4 uu3 H locs hw hP hD hS => ?_)
  have hP : va_P G.1 kb_cl [kb_o h 2 [.ref r0, .ref r1, .ref r2, .ref r3, .ref r4, .ref r5, .ref r6, .ref r7, .ref r8, .ref r9, .ref r10, .ref r11, .int L, .int P], kb_a G b 128 (uu1.2 0), kb_o o 1 [.ref b, .int 72]] H := hP
  have hD : va_D A [kb_o h 2 [.ref r0, .ref r1, .ref r2, .ref r3, .ref r4, .ref r5, .ref r6, .ref r7, .ref r8, .ref r9, .ref r10, .ref r11, .int L, .int P], kb_a G b 128 (uu1.2 0), kb_o o 1 [.ref b, .int 72]] := hD
  refine kb_top (y := 72) (show rv4 = 72 from hw) ?_
  refine kb_v (wc := [kb_o o 1 [.ref b, .int 72], kb_a G b 128 (uu1.2 0)]) (wr := [kb_o h 2 [.ref r0, .ref r1, .ref r2, .ref r3, .ref r4, .ref r5, .ref r6, .ref r7, .ref r8, .ref r9, .ref r10, .ref r11, .int L, .int P]]) hE hP hD hS [2, 1] [0] rfl rfl (by decide) (by decide) (kb_rV (As := [.int 4, .int 72]) (rest := []) (wc := [kb_o o 1 [.ref b, .int 72], kb_a G b 128 (uu1.2 0)]) (q0 := 0) ⟨hx, hb, hml, hown, ht⟩ ((c_Row_putNumber l G o b 4 (uu1.2 0) 72 (by omega)) _) (kb_gV wd_89b5d5c8 wd_35bf1cf8 wd_1686e439 wd_4182e433 wd_351f18cf) ⟨rfl, hd_18a7462f⟩ ⟨(Nat.le_of_ble_eq_true rfl), (Nat.le_of_ble_eq_true rfl)⟩ hE hP hD hS [2, 1] rfl (by decide) rfl rfl rfl hl.1 rfl (Nat.le_of_ble_eq_true rfl) d_Tree_layHead_13 ⟨(Nat.le_of_ble_eq_true rfl), (Nat.le_of_ble_eq_true rfl)⟩) (fun uu5 H locs hw hP hD hS => ?_)
  have hP : va_P G.1 kb_cl [kb_o h 2 [.ref r0, .ref r1, .ref r2, .ref r3, .ref r4, .ref r5, .ref r6, .ref r7, .ref r8, .ref r9, .ref r10, .ref r11, .int L, .int P], kb_o o 1 [.ref b, .int 72], kb_a G b 128 (uu5.2 0)] H := hP
  have hD : va_D A [kb_o h 2 [.ref r0, .ref r1, .ref r2, .ref r3, .ref r4, .ref r5, .ref r6, .ref r7, .ref r8, .ref r9, .ref r10, .ref r11, .int L, .int P], kb_o o 1 [.ref b, .int 72], kb_a G b 128 (uu5.2 0)] := hD
  refine lv_aload_n hx hb d_Tree_layHead_16 rfl (lv_at hl 1 rfl) ?_
  refine lv_bipush (v := 8) hx hb d_Tree_layHead_17 (by decide) ?_
  refine lv_bipush (v := 56) hx hb d_Tree_layHead_19 (by decide) ?_
  refine kb_v (wc := [kb_o o 1 [.ref b, .int 72], kb_a G b 128 (uu5.2 0)]) (wr := [kb_o h 2 [.ref r0, .ref r1, .ref r2, .ref r3, .ref r4, .ref r5, .ref r6, .ref r7, .ref r8, .ref r9, .ref r10, .ref r11, .int L, .int P]]) hE hP hD hS [1, 2] [0] rfl rfl (by decide) (by decide) (kb_rV (As := [.int 8, .int 56]) (rest := []) (wc := [kb_o o 1 [.ref b, .int 72], kb_a G b 128 (uu5.2 0)]) (q0 := 0) ⟨hx, hb, hml, hown, ht⟩ ((c_Row_putNumber l G o b 8 (uu5.2 0) 56 (by omega)) _) (kb_gV wd_89b5d5c8 wd_35bf1cf8 wd_1686e439 wd_4182e433 wd_351f18cf) ⟨rfl, hd_18a7462f⟩ ⟨(Nat.le_of_ble_eq_true rfl), (Nat.le_of_ble_eq_true rfl)⟩ hE hP hD hS [1, 2] rfl (by decide) rfl rfl rfl hl.1 rfl (Nat.le_of_ble_eq_true rfl) d_Tree_layHead_21 ⟨(Nat.le_of_ble_eq_true rfl), (Nat.le_of_ble_eq_true rfl)⟩) (fun uu7 H locs hw hP hD hS => ?_)
  have hP : va_P G.1 kb_cl [kb_o h 2 [.ref r0, .ref r1, .ref r2, .ref r3, .ref r4, .ref r5, .ref r6, .ref r7, .ref r8, .ref r9, .ref r10, .ref r11, .int L, .int P], kb_o o 1 [.ref b, .int 72], kb_a G b 128 (uu7.2 0)] H := hP
  have hD : va_D A [kb_o h 2 [.ref r0, .ref r1, .ref r2, .ref r3, .ref r4, .ref r5, .ref r6, .ref r7, .ref r8, .ref r9, .ref r10, .ref r11, .int L, .int P], kb_o o 1 [.ref b, .int 72], kb_a G b 128 (uu7.2 0)] := hD
  refine lv_aload_n hx hb d_Tree_layHead_24 rfl (lv_at hl 1 rfl) ?_
  refine lv_bipush (v := 12) hx hb d_Tree_layHead_25 (by decide) ?_
  refine lv_iload_n hx hb d_Tree_layHead_27 rfl (lv_at hl 2 rfl) ?_
  refine kb_v (wc := [kb_o o 1 [.ref b, .int 72], kb_a G b 128 (uu7.2 0)]) (wr := [kb_o h 2 [.ref r0, .ref r1, .ref r2, .ref r3, .ref r4, .ref r5, .ref r6, .ref r7, .ref r8, .ref r9, .ref r10, .ref r11, .int L, .int P]]) hE hP hD hS [1, 2] [0] rfl rfl (by decide) (by decide) (kb_rV (As := [.int 12, .int 72]) (rest := []) (wc := [kb_o o 1 [.ref b, .int 72], kb_a G b 128 (uu7.2 0)]) (q0 := 0) ⟨hx, hb, hml, hown, ht⟩ ((c_Row_putNumber l G o b 12 (uu7.2 0) 72 (by omega)) _) (kb_gV wd_89b5d5c8 wd_35bf1cf8 wd_1686e439 wd_4182e433 wd_351f18cf) ⟨rfl, hd_18a7462f⟩ ⟨(Nat.le_of_ble_eq_true rfl), (Nat.le_of_ble_eq_true rfl)⟩ hE hP hD hS [1, 2] rfl (by decide) rfl rfl rfl hl.1 rfl (Nat.le_of_ble_eq_true rfl) d_Tree_layHead_28 ⟨(Nat.le_of_ble_eq_true rfl), (Nat.le_of_ble_eq_true rfl)⟩) (fun uu9 H locs hw hP hD hS => ?_)
  have hP : va_P G.1 kb_cl [kb_o h 2 [.ref r0, .ref r1, .ref r2, .ref r3, .ref r4, .ref r5, .ref r6, .ref r7, .ref r8, .ref r9, .ref r10, .ref r11, .int L, .int P], kb_o o 1 [.ref b, .int 72], kb_a G b 128 (uu9.2 0)] H := hP
  have hD : va_D A [kb_o h 2 [.ref r0, .ref r1, .ref r2, .ref r3, .ref r4, .ref r5, .ref r6, .ref r7, .ref r8, .ref r9, .ref r10, .ref r11, .int L, .int P], kb_o o 1 [.ref b, .int 72], kb_a G b 128 (uu9.2 0)] := hD
  refine lv_aload_n hx hb d_Tree_layHead_31 rfl (lv_at hl 1 rfl) ?_
  refine lv_bipush (v := 16) hx hb d_Tree_layHead_32 (by decide) ?_
  refine lv_bipush (v := 40) hx hb d_Tree_layHead_34 (by decide) ?_
  refine kb_v (wc := [kb_o o 1 [.ref b, .int 72], kb_a G b 128 (uu9.2 0)]) (wr := [kb_o h 2 [.ref r0, .ref r1, .ref r2, .ref r3, .ref r4, .ref r5, .ref r6, .ref r7, .ref r8, .ref r9, .ref r10, .ref r11, .int L, .int P]]) hE hP hD hS [1, 2] [0] rfl rfl (by decide) (by decide) (kb_rV (As := [.int 16, .int 40]) (rest := []) (wc := [kb_o o 1 [.ref b, .int 72], kb_a G b 128 (uu9.2 0)]) (q0 := 0) ⟨hx, hb, hml, hown, ht⟩ ((c_Row_putNumber l G o b 16 (uu9.2 0) 40 (by omega)) _) (kb_gV wd_89b5d5c8 wd_35bf1cf8 wd_1686e439 wd_4182e433 wd_351f18cf) ⟨rfl, hd_18a7462f⟩ ⟨(Nat.le_of_ble_eq_true rfl), (Nat.le_of_ble_eq_true rfl)⟩ hE hP hD hS [1, 2] rfl (by decide) rfl rfl rfl hl.1 rfl (Nat.le_of_ble_eq_true rfl) d_Tree_layHead_36 ⟨(Nat.le_of_ble_eq_true rfl), (Nat.le_of_ble_eq_true rfl)⟩) (fun uu11 H locs hw hP hD hS => ?_)
  have hP : va_P G.1 kb_cl [kb_o h 2 [.ref r0, .ref r1, .ref r2, .ref r3, .ref r4, .ref r5, .ref r6, .ref r7, .ref r8, .ref r9, .ref r10, .ref r11, .int L, .int P], kb_o o 1 [.ref b, .int 72], kb_a G b 128 (uu11.2 0)] H := hP
  have hD : va_D A [kb_o h 2 [.ref r0, .ref r1, .ref r2, .ref r3, .ref r4, .ref r5, .ref r6, .ref r7, .ref r8, .ref r9, .ref r10, .ref r11, .int L, .int P], kb_o o 1 [.ref b, .int 72], kb_a G b 128 (uu11.2 0)] := hD
  refine lv_aload_n hx hb d_Tree_layHead_39 rfl (lv_at hl 1 rfl) ?_
  refine lv_bipush (v := 20) hx hb d_Tree_layHead_40 (by decide) ?_
  refine lv_bipush (v := 17) hx hb d_Tree_layHead_42 (by decide) ?_
  refine kb_v (wc := [kb_o o 1 [.ref b, .int 72], kb_a G b 128 (uu11.2 0)]) (wr := [kb_o h 2 [.ref r0, .ref r1, .ref r2, .ref r3, .ref r4, .ref r5, .ref r6, .ref r7, .ref r8, .ref r9, .ref r10, .ref r11, .int L, .int P]]) hE hP hD hS [1, 2] [0] rfl rfl (by decide) (by decide) (kb_rV (As := [.int 20, .int 17]) (rest := []) (wc := [kb_o o 1 [.ref b, .int 72], kb_a G b 128 (uu11.2 0)]) (q0 := 0) ⟨hx, hb, hml, hown, ht⟩ ((c_Row_putNumber l G o b 20 (uu11.2 0) 17 (by omega)) _) (kb_gV wd_89b5d5c8 wd_35bf1cf8 wd_1686e439 wd_4182e433 wd_351f18cf) ⟨rfl, hd_18a7462f⟩ ⟨(Nat.le_of_ble_eq_true rfl), (Nat.le_of_ble_eq_true rfl)⟩ hE hP hD hS [1, 2] rfl (by decide) rfl rfl rfl hl.1 rfl (Nat.le_of_ble_eq_true rfl) d_Tree_layHead_44 ⟨(Nat.le_of_ble_eq_true rfl), (Nat.le_of_ble_eq_true rfl)⟩) (fun uu13 H locs hw hP hD hS => ?_)
  have hP : va_P G.1 kb_cl [kb_o h 2 [.ref r0, .ref r1, .ref r2, .ref r3, .ref r4, .ref r5, .ref r6, .ref r7, .ref r8, .ref r9, .ref r10, .ref r11, .int L, .int P], kb_o o 1 [.ref b, .int 72], kb_a G b 128 (uu13.2 0)] H := hP
  have hD : va_D A [kb_o h 2 [.ref r0, .ref r1, .ref r2, .ref r3, .ref r4, .ref r5, .ref r6, .ref r7, .ref r8, .ref r9, .ref r10, .ref r11, .int L, .int P], kb_o o 1 [.ref b, .int 72], kb_a G b 128 (uu13.2 0)] := hD
  refine lv_aload_n hx hb d_Tree_layHead_47 rfl (lv_at hl 1 rfl) ?_
  refine lv_bipush (v := 24) hx hb d_Tree_layHead_48 (by decide) ?_
  refine lv_bipush (v := 16) hx hb d_Tree_layHead_50 (by decide) ?_
  refine kb_v (wc := [kb_o o 1 [.ref b, .int 72], kb_a G b 128 (uu13.2 0)]) (wr := [kb_o h 2 [.ref r0, .ref r1, .ref r2, .ref r3, .ref r4, .ref r5, .ref r6, .ref r7, .ref r8, .ref r9, .ref r10, .ref r11, .int L, .int P]]) hE hP hD hS [1, 2] [0] rfl rfl (by decide) (by decide) (kb_rV (As := [.int 24, .int 16]) (rest := []) (wc := [kb_o o 1 [.ref b, .int 72], kb_a G b 128 (uu13.2 0)]) (q0 := 0) ⟨hx, hb, hml, hown, ht⟩ ((c_Row_putNumber l G o b 24 (uu13.2 0) 16 (by omega)) _) (kb_gV wd_89b5d5c8 wd_35bf1cf8 wd_1686e439 wd_4182e433 wd_351f18cf) ⟨rfl, hd_18a7462f⟩ ⟨(Nat.le_of_ble_eq_true rfl), (Nat.le_of_ble_eq_true rfl)⟩ hE hP hD hS [1, 2] rfl (by decide) rfl rfl rfl hl.1 rfl (Nat.le_of_ble_eq_true rfl) d_Tree_layHead_52 ⟨(Nat.le_of_ble_eq_true rfl), (Nat.le_of_ble_eq_true rfl)⟩) (fun uu15 H locs hw hP hD hS => ?_)
  have hP : va_P G.1 kb_cl [kb_o h 2 [.ref r0, .ref r1, .ref r2, .ref r3, .ref r4, .ref r5, .ref r6, .ref r7, .ref r8, .ref r9, .ref r10, .ref r11, .int L, .int P], kb_o o 1 [.ref b, .int 72], kb_a G b 128 (uu15.2 0)] H := hP
  have hD : va_D A [kb_o h 2 [.ref r0, .ref r1, .ref r2, .ref r3, .ref r4, .ref r5, .ref r6, .ref r7, .ref r8, .ref r9, .ref r10, .ref r11, .int L, .int P], kb_o o 1 [.ref b, .int 72], kb_a G b 128 (uu15.2 0)] := hD
  refine lv_aload_n hx hb d_Tree_layHead_55 rfl (lv_at hl 1 rfl) ?_
  refine lv_bipush (v := 28) hx hb d_Tree_layHead_56 (by decide) ?_
  refine lv_iconst (v := 0) hx hb d_Tree_layHead_58 (by decide) ?_
  refine kb_v (wc := [kb_o o 1 [.ref b, .int 72], kb_a G b 128 (uu15.2 0)]) (wr := [kb_o h 2 [.ref r0, .ref r1, .ref r2, .ref r3, .ref r4, .ref r5, .ref r6, .ref r7, .ref r8, .ref r9, .ref r10, .ref r11, .int L, .int P]]) hE hP hD hS [1, 2] [0] rfl rfl (by decide) (by decide) (kb_rV (As := [.int 28, .int 0]) (rest := []) (wc := [kb_o o 1 [.ref b, .int 72], kb_a G b 128 (uu15.2 0)]) (q0 := 0) ⟨hx, hb, hml, hown, ht⟩ ((c_Row_putNumber l G o b 28 (uu15.2 0) 0 (by omega)) _) (kb_gV wd_89b5d5c8 wd_35bf1cf8 wd_1686e439 wd_4182e433 wd_351f18cf) ⟨rfl, hd_18a7462f⟩ ⟨(Nat.le_of_ble_eq_true rfl), (Nat.le_of_ble_eq_true rfl)⟩ hE hP hD hS [1, 2] rfl (by decide) rfl rfl rfl hl.1 rfl (Nat.le_of_ble_eq_true rfl) d_Tree_layHead_59 ⟨(Nat.le_of_ble_eq_true rfl), (Nat.le_of_ble_eq_true rfl)⟩) (fun uu17 H locs hw hP hD hS => ?_)
  have hP : va_P G.1 kb_cl [kb_o h 2 [.ref r0, .ref r1, .ref r2, .ref r3, .ref r4, .ref r5, .ref r6, .ref r7, .ref r8, .ref r9, .ref r10, .ref r11, .int L, .int P], kb_o o 1 [.ref b, .int 72], kb_a G b 128 (uu17.2 0)] H := hP
  have hD : va_D A [kb_o h 2 [.ref r0, .ref r1, .ref r2, .ref r3, .ref r4, .ref r5, .ref r6, .ref r7, .ref r8, .ref r9, .ref r10, .ref r11, .int L, .int P], kb_o o 1 [.ref b, .int 72], kb_a G b 128 (uu17.2 0)] := hD
  refine lv_aload_n hx hb d_Tree_layHead_62 rfl (lv_at hl 1 rfl) ?_
  refine lv_bipush (v := 32) hx hb d_Tree_layHead_63 (by decide) ?_
  refine lv_aload_n hx hb d_Tree_layHead_65 rfl (lv_at hl 1 rfl) ?_
  refine kb_i (wc := [kb_o o 1 [.ref b, .int 72]]) (wr := [kb_o h 2 [.ref r0, .ref r1, .ref r2, .ref r3, .ref r4, .ref r5, .ref r6, .ref r7, .ref r8, .ref r9, .ref r10, .ref r11, .int L, .int P], kb_a G b 128 (uu17.2 0)]) hE hP hD hS [1] [0, 2] rfl rfl (by decide) (by decide) (kb_rV (As := []) (rest := [.int 32, .ref o]) (wc := [kb_o o 1 [.ref b, .int 72]]) (q0 := 0) ⟨hx, hb, hml, hown, ht⟩ ((c_Row_length l G o b 72) _) (kb_gV wd_d02778d4 wd_5e08083b wd_489345cb wd_4182e433 wd_8d5193a7) ⟨rfl, hd_d85231f4⟩ ⟨(Nat.le_of_ble_eq_true rfl), (Nat.le_of_ble_eq_true rfl)⟩ hE hP hD hS [1] rfl (by decide) rfl rfl rfl hl.1 rfl (Nat.le_of_ble_eq_true rfl) d_Tree_layHead_66 ⟨(Nat.le_of_ble_eq_true rfl), (Nat.le_of_ble_eq_true rfl)⟩) (fun rv20 uu19 H locs hw hP hD hS => ?_)
  have hP : va_P G.1 kb_cl [kb_o h 2 [.ref r0, .ref r1, .ref r2, .ref r3, .ref r4, .ref r5, .ref r6, .ref r7, .ref r8, .ref r9, .ref r10, .ref r11, .int L, .int P], kb_a G b 128 (uu17.2 0), kb_o o 1 [.ref b, .int 72]] H := hP
  have hD : va_D A [kb_o h 2 [.ref r0, .ref r1, .ref r2, .ref r3, .ref r4, .ref r5, .ref r6, .ref r7, .ref r8, .ref r9, .ref r10, .ref r11, .int L, .int P], kb_a G b 128 (uu17.2 0), kb_o o 1 [.ref b, .int 72]] := hD
  refine kb_top (y := 72) (show rv20 = 72 from hw) ?_
  refine lv_iload_n hx hb d_Tree_layHead_69 rfl (lv_at hl 2 rfl) ?_
  refine lv_isub hx hb d_Tree_layHead_70 ?_
  refine kb_top (y := 0) (by decide) ?_
  refine kb_v (wc := [kb_o o 1 [.ref b, .int 72], kb_a G b 128 (uu17.2 0)]) (wr := [kb_o h 2 [.ref r0, .ref r1, .ref r2, .ref r3, .ref r4, .ref r5, .ref r6, .ref r7, .ref r8, .ref r9, .ref r10, .ref r11, .int L, .int P]]) hE hP hD hS [2, 1] [0] rfl rfl (by decide) (by decide) (kb_rV (As := [.int 32, .int 0]) (rest := []) (wc := [kb_o o 1 [.ref b, .int 72], kb_a G b 128 (uu17.2 0)]) (q0 := 0) ⟨hx, hb, hml, hown, ht⟩ ((c_Row_putNumber l G o b 32 (uu17.2 0) 0 (by omega)) _) (kb_gV wd_89b5d5c8 wd_35bf1cf8 wd_1686e439 wd_4182e433 wd_351f18cf) ⟨rfl, hd_18a7462f⟩ ⟨(Nat.le_of_ble_eq_true rfl), (Nat.le_of_ble_eq_true rfl)⟩ hE hP hD hS [2, 1] rfl (by decide) rfl rfl rfl hl.1 rfl (Nat.le_of_ble_eq_true rfl) d_Tree_layHead_71 ⟨(Nat.le_of_ble_eq_true rfl), (Nat.le_of_ble_eq_true rfl)⟩) (fun uu21 H locs hw hP hD hS => ?_)
  have hP : va_P G.1 kb_cl [kb_o h 2 [.ref r0, .ref r1, .ref r2, .ref r3, .ref r4, .ref r5, .ref r6, .ref r7, .ref r8, .ref r9, .ref r10, .ref r11, .int L, .int P], kb_o o 1 [.ref b, .int 72], kb_a G b 128 (uu21.2 0)] H := hP
  have hD : va_D A [kb_o h 2 [.ref r0, .ref r1, .ref r2, .ref r3, .ref r4, .ref r5, .ref r6, .ref r7, .ref r8, .ref r9, .ref r10, .ref r11, .int L, .int P], kb_o o 1 [.ref b, .int 72], kb_a G b 128 (uu21.2 0)] := hD
  refine lv_aload_n hx hb d_Tree_layHead_74 rfl (lv_at hl 1 rfl) ?_
  refine lv_bipush (v := 36) hx hb d_Tree_layHead_75 (by decide) ?_
  refine lv_iload_n hx hb d_Tree_layHead_77 rfl (lv_at hl 2 rfl) ?_
  refine lv_bipush (v := 56) hx hb d_Tree_layHead_78 (by decide) ?_
  refine lv_isub hx hb d_Tree_layHead_80 ?_
  refine kb_top (y := 16) (by decide) ?_
  refine kb_v (wc := [kb_o o 1 [.ref b, .int 72], kb_a G b 128 (uu21.2 0)]) (wr := [kb_o h 2 [.ref r0, .ref r1, .ref r2, .ref r3, .ref r4, .ref r5, .ref r6, .ref r7, .ref r8, .ref r9, .ref r10, .ref r11, .int L, .int P]]) hE hP hD hS [1, 2] [0] rfl rfl (by decide) (by decide) (kb_rV (As := [.int 36, .int 16]) (rest := []) (wc := [kb_o o 1 [.ref b, .int 72], kb_a G b 128 (uu21.2 0)]) (q0 := 0) ⟨hx, hb, hml, hown, ht⟩ ((c_Row_putNumber l G o b 36 (uu21.2 0) 16 (by omega)) _) (kb_gV wd_89b5d5c8 wd_35bf1cf8 wd_1686e439 wd_4182e433 wd_351f18cf) ⟨rfl, hd_18a7462f⟩ ⟨(Nat.le_of_ble_eq_true rfl), (Nat.le_of_ble_eq_true rfl)⟩ hE hP hD hS [1, 2] rfl (by decide) rfl rfl rfl hl.1 rfl (Nat.le_of_ble_eq_true rfl) d_Tree_layHead_81 ⟨(Nat.le_of_ble_eq_true rfl), (Nat.le_of_ble_eq_true rfl)⟩) (fun uu23 H locs hw hP hD hS => ?_)
  have hP : va_P G.1 kb_cl [kb_o h 2 [.ref r0, .ref r1, .ref r2, .ref r3, .ref r4, .ref r5, .ref r6, .ref r7, .ref r8, .ref r9, .ref r10, .ref r11, .int L, .int P], kb_o o 1 [.ref b, .int 72], kb_a G b 128 (uu23.2 0)] H := hP
  have hD : va_D A [kb_o h 2 [.ref r0, .ref r1, .ref r2, .ref r3, .ref r4, .ref r5, .ref r6, .ref r7, .ref r8, .ref r9, .ref r10, .ref r11, .int L, .int P], kb_o o 1 [.ref b, .int 72], kb_a G b 128 (uu23.2 0)] := hD
  exact kb_retv (kb_l [], kb_f [uu23.2 0]) hx hb hr hlocks hE hP hD hS [0, 1, 2] rfl (by decide) rfl trivial (Nat.le_of_ble_eq_true rfl) (Nat.le_of_ble_eq_true rfl) d_Tree_layHead_84

set_option maxHeartbeats 4000000 in
set_option maxRecDepth 100000 in
theorem c_Tree_layInto (l : Launch) (G : kb_G) (h : Nat) (r0 : Nat) (r1 : Nat) (r2 : Nat) (r3 : Nat) (r4 : Nat) (r5 : Nat) (r6 : Nat) (r7 : Nat) (r8 : Nat) (r9 : Nat) (r10 : Nat) (r11 : Nat) (L : Int32) (P : Int32) (a1 : Nat) (a2 : Nat) (a3 : Nat) (a4 : Nat) (a5 : Nat) (a6 : Nat) (a7 : Nat) (o : Nat) (b : Nat) (f : Nat → Int32) : kb_cv l G ⟨"TreePress$Tree", "layInto", "(LTreePress$Row;)V"⟩ prog_4_method_29_code 3 6 3 224 [.ref h, .ref o] [kb_o h 2 [.ref r0, .ref r1, .ref r2, .ref r3, .ref r4, .ref r5, .ref r6, .ref r7, .ref r8, .ref r9, .ref r10, .ref r11, .int L, .int P], kb_o r1 1 [.ref a1, .int 1], kb_o r2 1 [.ref a2, .int 1], kb_o r3 1 [.ref a3, .int 1], kb_o r4 1 [.ref a4, .int 1], kb_o r5 1 [.ref a5, .int 1], kb_o r6 1 [.ref a6, .int 1], kb_o r7 1 [.ref a7, .int 0], kb_a G a2 16 (upd (fun _ => 0) 0 1), kb_a G a3 16 (upd (fun _ => 0) 0 0), kb_a G a4 16 (upd (fun _ => 0) 0 0), kb_a G a5 16 (upd (fun _ => 0) 0 0), kb_a G a6 16 (upd (fun _ => 0) 0 0), kb_o o 1 [.ref b, .int 0], kb_a G b 16 f] (fun u => True) (fun u => [kb_o o 1 [.ref (u.1 0), .int 72]]) := by
  intro sz
  refine kb_body (QQ := fun A => kb_Qv G A (fun u => True) (fun u => [kb_o o 1 [.ref (u.1 0), .int 72]])) (by decide) (Nat.le_of_ble_eq_true rfl) ?_
  intro p e s m below meth c A B ls hl
  obtain ⟨hx, hb, hr, hml, hlocks, hin, hown, ht, hE, hP, hD, hS⟩ := B
  have hl : lv_has ls 3 [(0, .ref h), (1, .ref o)] := hl
  have hP0 := hP
  obtain ⟨H, hHe⟩ : ∃ H, H = s.heap := ⟨_, rfl⟩
  rw [← hHe] at hP
  have hS : va_S A s.heap H [] := by rw [hHe]; exact hS
  refine kb_at hHe ?_
  clear hHe
  refine lv_aload_n hx hb d_Tree_layInto_0 rfl (lv_at hl 1 rfl) ?_
  refine lv_iconst (v := 0) hx hb d_Tree_layInto_1 (by decide) ?_
  refine kb_v (wc := [kb_o o 1 [.ref b, .int 0]]) (wr := [kb_o h 2 [.ref r0, .ref r1, .ref r2, .ref r3, .ref r4, .ref r5, .ref r6, .ref r7, .ref r8, .ref r9, .ref r10, .ref r11, .int L, .int P], kb_o r1 1 [.ref a1, .int 1], kb_o r2 1 [.ref a2, .int 1], kb_o r3 1 [.ref a3, .int 1], kb_o r4 1 [.ref a4, .int 1], kb_o r5 1 [.ref a5, .int 1], kb_o r6 1 [.ref a6, .int 1], kb_o r7 1 [.ref a7, .int 0], kb_a G a2 16 (upd (fun _ => 0) 0 1), kb_a G a3 16 (upd (fun _ => 0) 0 0), kb_a G a4 16 (upd (fun _ => 0) 0 0), kb_a G a5 16 (upd (fun _ => 0) 0 0), kb_a G a6 16 (upd (fun _ => 0) 0 0), kb_a G b 16 f]) hE hP hD hS [13] [0, 1, 2, 3, 4, 5, 6, 7, 8, 9, 10, 11, 12, 14] rfl rfl (by decide) (by decide) (kb_rV (As := [.int 0]) (rest := []) (wc := [kb_o o 1 [.ref b, .int 0]]) (q0 := 0) ⟨hx, hb, hml, hown, ht⟩ ((c_Row_cut0 l G o b) _) (kb_gV wd_8899cd27 wd_a30f3437 wd_8c6818e9 wd_4182e433 wd_86891071) ⟨rfl, hd_934340dd⟩ ⟨(Nat.le_of_ble_eq_true rfl), (Nat.le_of_ble_eq_true rfl)⟩ hE hP hD hS [13] rfl (by decide) rfl rfl rfl hl.1 rfl (Nat.le_of_ble_eq_true rfl) d_Tree_layInto_2 ⟨(Nat.le_of_ble_eq_true rfl), (Nat.le_of_ble_eq_true rfl)⟩) (fun uu1 H locs hw hP hD hS => ?_)
  have hP : va_P G.1 kb_cl [kb_o h 2 [.ref r0, .ref r1, .ref r2, .ref r3, .ref r4, .ref r5, .ref r6, .ref r7, .ref r8, .ref r9, .ref r10, .ref r11, .int L, .int P], kb_o r1 1 [.ref a1, .int 1], kb_o r2 1 [.ref a2, .int 1], kb_o r3 1 [.ref a3, .int 1], kb_o r4 1 [.ref a4, .int 1], kb_o r5 1 [.ref a5, .int 1], kb_o r6 1 [.ref a6, .int 1], kb_o r7 1 [.ref a7, .int 0], kb_a G a2 16 (upd (fun _ => 0) 0 1), kb_a G a3 16 (upd (fun _ => 0) 0 0), kb_a G a4 16 (upd (fun _ => 0) 0 0), kb_a G a5 16 (upd (fun _ => 0) 0 0), kb_a G a6 16 (upd (fun _ => 0) 0 0), kb_a G b 16 f, kb_o o 1 [.ref b, .int 0]] H := hP
  have hD : va_D A [kb_o h 2 [.ref r0, .ref r1, .ref r2, .ref r3, .ref r4, .ref r5, .ref r6, .ref r7, .ref r8, .ref r9, .ref r10, .ref r11, .int L, .int P], kb_o r1 1 [.ref a1, .int 1], kb_o r2 1 [.ref a2, .int 1], kb_o r3 1 [.ref a3, .int 1], kb_o r4 1 [.ref a4, .int 1], kb_o r5 1 [.ref a5, .int 1], kb_o r6 1 [.ref a6, .int 1], kb_o r7 1 [.ref a7, .int 0], kb_a G a2 16 (upd (fun _ => 0) 0 1), kb_a G a3 16 (upd (fun _ => 0) 0 0), kb_a G a4 16 (upd (fun _ => 0) 0 0), kb_a G a5 16 (upd (fun _ => 0) 0 0), kb_a G a6 16 (upd (fun _ => 0) 0 0), kb_a G b 16 f, kb_o o 1 [.ref b, .int 0]] := hD
  refine lv_aload_n hx hb d_Tree_layInto_5 rfl (lv_at hl 1 rfl) ?_
  refine lv_bipush (v := 56) hx hb d_Tree_layInto_6 (by decide) ?_
  refine kb_v (wc := [kb_o o 1 [.ref b, .int 0], kb_a G b 16 f]) (wr := [kb_o h 2 [.ref r0, .ref r1, .ref r2, .ref r3, .ref r4, .ref r5, .ref r6, .ref r7, .ref r8, .ref r9, .ref r10, .ref r11, .int L, .int P], kb_o r1 1 [.ref a1, .int 1], kb_o r2 1 [.ref a2, .int 1], kb_o r3 1 [.ref a3, .int 1], kb_o r4 1 [.ref a4, .int 1], kb_o r5 1 [.ref a5, .int 1], kb_o r6 1 [.ref a6, .int 1], kb_o r7 1 [.ref a7, .int 0], kb_a G a2 16 (upd (fun _ => 0) 0 1), kb_a G a3 16 (upd (fun _ => 0) 0 0), kb_a G a4 16 (upd (fun _ => 0) 0 0), kb_a G a5 16 (upd (fun _ => 0) 0 0), kb_a G a6 16 (upd (fun _ => 0) 0 0)]) hE hP hD hS [14, 13] [0, 1, 2, 3, 4, 5, 6, 7, 8, 9, 10, 11, 12] rfl rfl (by decide) (by decide) (kb_rV (As := [.int 56]) (rest := []) (wc := [kb_o o 1 [.ref b, .int 0], kb_a G b 16 f]) (q0 := 0) ⟨hx, hb, hml, hown, ht⟩ ((c_Row_addZeros_56 l G o b f) _) (kb_gV wd_4a3bcfd3 wd_ff52bc62 wd_604a9052 wd_4182e433 wd_14f930da) ⟨rfl, hd_472d95d1⟩ ⟨(Nat.le_of_ble_eq_true rfl), (Nat.le_of_ble_eq_true rfl)⟩ hE hP hD hS [14, 13] rfl (by decide) rfl rfl rfl hl.1 rfl (Nat.le_of_ble_eq_true rfl) d_Tree_layInto_8 ⟨(Nat.le_of_ble_eq_true rfl), (Nat.le_of_ble_eq_true rfl)⟩) (fun uu3 H locs hw hP hD hS => ?_)
  have hP : va_P G.1 kb_cl [kb_o h 2 [.ref r0, .ref r1, .ref r2, .ref r3, .ref r4, .ref r5, .ref r6, .ref r7, .ref r8, .ref r9, .ref r10, .ref r11, .int L, .int P], kb_o r1 1 [.ref a1, .int 1], kb_o r2 1 [.ref a2, .int 1], kb_o r3 1 [.ref a3, .int 1], kb_o r4 1 [.ref a4, .int 1], kb_o r5 1 [.ref a5, .int 1], kb_o r6 1 [.ref a6, .int 1], kb_o r7 1 [.ref a7, .int 0], kb_a G a2 16 (upd (fun _ => 0) 0 1), kb_a G a3 16 (upd (fun _ => 0) 0 0), kb_a G a4 16 (upd (fun _ => 0) 0 0), kb_a G a5 16 (upd (fun _ => 0) 0 0), kb_a G a6 16 (upd (fun _ => 0) 0 0), kb_o o 1 [.ref (uu3.1 0), .int 56], kb_a G (uu3.1 0) 64 (uu3.2 0)] H := hP
  have hD : va_D A [kb_o h 2 [.ref r0, .ref r1, .ref r2, .ref r3, .ref r4, .ref r5, .ref r6, .ref r7, .ref r8, .ref r9, .ref r10, .ref r11, .int L, .int P], kb_o r1 1 [.ref a1, .int 1], kb_o r2 1 [.ref a2, .int 1], kb_o r3 1 [.ref a3, .int 1], kb_o r4 1 [.ref a4, .int 1], kb_o r5 1 [.ref a5, .int 1], kb_o r6 1 [.ref a6, .int 1], kb_o r7 1 [.ref a7, .int 0], kb_a G a2 16 (upd (fun _ => 0) 0 1), kb_a G a3 16 (upd (fun _ => 0) 0 0), kb_a G a4 16 (upd (fun _ => 0) 0 0), kb_a G a5 16 (upd (fun _ => 0) 0 0), kb_a G a6 16 (upd (fun _ => 0) 0 0), kb_o o 1 [.ref (uu3.1 0), .int 56], kb_a G (uu3.1 0) 64 (uu3.2 0)] := hD
  refine lv_iconst (v := 0) hx hb d_Tree_layInto_11 (by decide) ?_
  refine lv_istore_n (lv' := [(2, .int 0), (0, .ref h), (1, .ref o)]) hx hb d_Tree_layInto_12 rfl hl (by decide) rfl (fun ls hl => ?_)
  refine lv_iload_n hx hb d_Tree_layInto_13 rfl (lv_at hl 0 rfl) ?_
  refine lv_aload_n hx hb d_Tree_layInto_14 rfl (lv_at hl 1 rfl) ?_
  refine kb_i (wc := [kb_o h 2 [.ref r0, .ref r1, .ref r2, .ref r3, .ref r4, .ref r5, .ref r6, .ref r7, .ref r8, .ref r9, .ref r10, .ref r11, .int L, .int P], kb_o r1 1 [.ref a1, .int 1]]) (wr := [kb_o r2 1 [.ref a2, .int 1], kb_o r3 1 [.ref a3, .int 1], kb_o r4 1 [.ref a4, .int 1], kb_o r5 1 [.ref a5, .int 1], kb_o r6 1 [.ref a6, .int 1], kb_o r7 1 [.ref a7, .int 0], kb_a G a2 16 (upd (fun _ => 0) 0 1), kb_a G a3 16 (upd (fun _ => 0) 0 0), kb_a G a4 16 (upd (fun _ => 0) 0 0), kb_a G a5 16 (upd (fun _ => 0) 0 0), kb_a G a6 16 (upd (fun _ => 0) 0 0), kb_o o 1 [.ref (uu3.1 0), .int 56], kb_a G (uu3.1 0) 64 (uu3.2 0)]) hE hP hD hS [0, 1] [2, 3, 4, 5, 6, 7, 8, 9, 10, 11, 12, 13, 14] rfl rfl (by decide) (by decide) (kb_rV (As := []) (rest := [.int 0]) (wc := [kb_o h 2 [.ref r0, .ref r1, .ref r2, .ref r3, .ref r4, .ref r5, .ref r6, .ref r7, .ref r8, .ref r9, .ref r10, .ref r11, .int L, .int P], kb_o r1 1 [.ref a1, .int 1]]) (q0 := 0) ⟨hx, hb, hml, hown, ht⟩ ((c_Tree_countOfNodes l G h r0 r1 r2 r3 r4 r5 r6 r7 r8 r9 r10 r11 L P a1 1) _) (kb_gV wd_f9b8311a wd_004c0445 wd_dbedc27b wd_ebf91e09 wd_8a7bf582) ⟨rfl, hd_a0b17e13⟩ ⟨(Nat.le_of_ble_eq_true rfl), (Nat.le_of_ble_eq_true rfl)⟩ hE hP hD hS [0, 1] rfl (by decide) rfl rfl rfl hl.1 rfl (Nat.le_of_ble_eq_true rfl) d_Tree_layInto_15 ⟨(Nat.le_of_ble_eq_true rfl), (Nat.le_of_ble_eq_true rfl)⟩) (fun rv6 uu5 H locs hw hP hD hS => ?_)
  have hP : va_P G.1 kb_cl [kb_o r2 1 [.ref a2, .int 1], kb_o r3 1 [.ref a3, .int 1], kb_o r4 1 [.ref a4, .int 1], kb_o r5 1 [.ref a5, .int 1], kb_o r6 1 [.ref a6, .int 1], kb_o r7 1 [.ref a7, .int 0], kb_a G a2 16 (upd (fun _ => 0) 0 1), kb_a G a3 16 (upd (fun _ => 0) 0 0), kb_a G a4 16 (upd (fun _ => 0) 0 0), kb_a G a5 16 (upd (fun _ => 0) 0 0), kb_a G a6 16 (upd (fun _ => 0) 0 0), kb_o o 1 [.ref (uu3.1 0), .int 56], kb_a G (uu3.1 0) 64 (uu3.2 0), kb_o h 2 [.ref r0, .ref r1, .ref r2, .ref r3, .ref r4, .ref r5, .ref r6, .ref r7, .ref r8, .ref r9, .ref r10, .ref r11, .int L, .int P], kb_o r1 1 [.ref a1, .int 1]] H := hP
  have hD : va_D A [kb_o r2 1 [.ref a2, .int 1], kb_o r3 1 [.ref a3, .int 1], kb_o r4 1 [.ref a4, .int 1], kb_o r5 1 [.ref a5, .int 1], kb_o r6 1 [.ref a6, .int 1], kb_o r7 1 [.ref a7, .int 0], kb_a G a2 16 (upd (fun _ => 0) 0 1), kb_a G a3 16 (upd (fun _ => 0) 0 0), kb_a G a4 16 (upd (fun _ => 0) 0 0), kb_a G a5 16 (upd (fun _ => 0) 0 0), kb_a G a6 16 (upd (fun _ => 0) 0 0), kb_o o 1 [.ref (uu3.1 0), .int 56], kb_a G (uu3.1 0) 64 (uu3.2 0), kb_o h 2 [.ref r0, .ref r1, .ref r2, .ref r3, .ref r4, .ref r5, .ref r6, .ref r7, .ref r8, .ref r9, .ref r10, .ref r11, .int L, .int P], kb_o r1 1 [.ref a1, .int 1]] := hD
  refine kb_top (y := 1) (show rv6 = 1 from hw) ?_
  refine lv_icmp_ge (tgt := 39) hx hb d_Tree_layInto_18 (by decide) (fun c9 => absurd c9 (by decide)) (fun c9 => ?_)
  refine lv_aload_n hx hb d_Tree_layInto_21 rfl (lv_at hl 1 rfl) ?_
  refine lv_aload_n hx hb d_Tree_layInto_22 rfl (lv_at hl 2 rfl) ?_
  refine lv_iload_n hx hb d_Tree_layInto_23 rfl (lv_at hl 0 rfl) ?_
  refine kb_v (wc := [kb_o h 2 [.ref r0, .ref r1, .ref r2, .ref r3, .ref r4, .ref r5, .ref r6, .ref r7, .ref r8, .ref r9, .ref r10, .ref r11, .int L, .int P], kb_o r3 1 [.ref a3, .int 1], kb_a G a3 16 (upd (fun _ => 0) 0 0), kb_o r4 1 [.ref a4, .int 1], kb_a G a4 16 (upd (fun _ => 0) 0 0), kb_o r5 1 [.ref a5, .int 1], kb_a G a5 16 (upd (fun _ => 0) 0 0), kb_o r6 1 [.ref a6, .int 1], kb_a G a6 16 (upd (fun _ => 0) 0 0), kb_o o 1 [.ref (uu3.1 0), .int 56], kb_a G (uu3.1 0) 64 (uu3.2 0)]) (wr := [kb_o r2 1 [.ref a2, .int 1], kb_o r7 1 [.ref a7, .int 0], kb_a G a2 16 (upd (fun _ => 0) 0 1), kb_o r1 1 [.ref a1, .int 1]]) hE hP hD hS [13, 1, 7, 2, 8, 3, 9, 4, 10, 11, 12] [0, 5, 6, 14] rfl rfl (by decide) (by decide) (kb_rV (As := [.ref o, .int 0]) (rest := []) (wc := [kb_o h 2 [.ref r0, .ref r1, .ref r2, .ref r3, .ref r4, .ref r5, .ref r6, .ref r7, .ref r8, .ref r9, .ref r10, .ref r11, .int L, .int P], kb_o r3 1 [.ref a3, .int 1], kb_a G a3 16 (upd (fun _ => 0) 0 0), kb_o r4 1 [.ref a4, .int 1], kb_a G a4 16 (upd (fun _ => 0) 0 0), kb_o r5 1 [.ref a5, .int 1], kb_a G a5 16 (upd (fun _ => 0) 0 0), kb_o r6 1 [.ref a6, .int 1], kb_a G a6 16 (upd (fun _ => 0) 0 0), kb_o o 1 [.ref (uu3.1 0), .int 56], kb_a G (uu3.1 0) 64 (uu3.2 0)]) (q0 := 0) ⟨hx, hb, hml, hown, ht⟩ ((c_Tree_layNode l G h r0 r1 r2 r3 r4 r5 r6 r7 r8 r9 r10 r11 L P a3 a4 a5 a6 o (uu3.1 0) (uu3.2 0)) _) (kb_gV wd_a9a8e6ba wd_25b88ae3 wd_45f0e859 wd_ebf91e09 wd_8929b4d8) ⟨rfl, hd_e599058f⟩ ⟨(Nat.le_of_ble_eq_true rfl), (Nat.le_of_ble_eq_true rfl)⟩ hE hP hD hS [13, 1, 7, 2, 8, 3, 9, 4, 10, 11, 12] rfl (by decide) rfl rfl rfl hl.1 rfl (Nat.le_of_ble_eq_true rfl) d_Tree_layInto_24 ⟨(Nat.le_of_ble_eq_true rfl), (Nat.le_of_ble_eq_true rfl)⟩) (fun uu7 H locs hw hP hD hS => ?_)
  have hP : va_P G.1 kb_cl [kb_o r2 1 [.ref a2, .int 1], kb_o r7 1 [.ref a7, .int 0], kb_a G a2 16 (upd (fun _ => 0) 0 1), kb_o r1 1 [.ref a1, .int 1], kb_o r4 1 [.ref a4, .int 1], kb_a G a4 16 (upd (fun _ => 0) 0 0), kb_o r3 1 [.ref a3, .int 1], kb_a G a3 16 (upd (fun _ => 0) 0 0), kb_o o 1 [.ref (uu3.1 0), .int 64], kb_a G (uu3.1 0) 64 (uu7.2 0), kb_o r5 1 [.ref a5, .int 1], kb_a G a5 16 (upd (fun _ => 0) 0 0), kb_o h 2 [.ref r0, .ref r1, .ref r2, .ref r3, .ref r4, .ref r5, .ref r6, .ref r7, .ref r8, .ref r9, .ref r10, .ref r11, .int L, .int P], kb_o r6 1 [.ref a6, .int 1], kb_a G a6 16 (upd (fun _ => 0) 0 0)] H := hP
  have hD : va_D A [kb_o r2 1 [.ref a2, .int 1], kb_o r7 1 [.ref a7, .int 0], kb_a G a2 16 (upd (fun _ => 0) 0 1), kb_o r1 1 [.ref a1, .int 1], kb_o r4 1 [.ref a4, .int 1], kb_a G a4 16 (upd (fun _ => 0) 0 0), kb_o r3 1 [.ref a3, .int 1], kb_a G a3 16 (upd (fun _ => 0) 0 0), kb_o o 1 [.ref (uu3.1 0), .int 64], kb_a G (uu3.1 0) 64 (uu7.2 0), kb_o r5 1 [.ref a5, .int 1], kb_a G a5 16 (upd (fun _ => 0) 0 0), kb_o h 2 [.ref r0, .ref r1, .ref r2, .ref r3, .ref r4, .ref r5, .ref r6, .ref r7, .ref r8, .ref r9, .ref r10, .ref r11, .int L, .int P], kb_o r6 1 [.ref a6, .int 1], kb_a G a6 16 (upd (fun _ => 0) 0 0)] := hD
  refine lv_aload_n hx hb d_Tree_layInto_27 rfl (lv_at hl 1 rfl) ?_
  refine lv_aload_n hx hb d_Tree_layInto_28 rfl (lv_at hl 2 rfl) ?_
  refine lv_iload_n hx hb d_Tree_layInto_29 rfl (lv_at hl 0 rfl) ?_
  refine kb_v (wc := [kb_o h 2 [.ref r0, .ref r1, .ref r2, .ref r3, .ref r4, .ref r5, .ref r6, .ref r7, .ref r8, .ref r9, .ref r10, .ref r11, .int L, .int P], kb_o r1 1 [.ref a1, .int 1], kb_o r2 1 [.ref a2, .int 1], kb_a G a2 16 (upd (fun _ => 0) 0 1), kb_o o 1 [.ref (uu3.1 0), .int 64], kb_a G (uu3.1 0) 64 (uu7.2 0)]) (wr := [kb_o r7 1 [.ref a7, .int 0], kb_o r4 1 [.ref a4, .int 1], kb_a G a4 16 (upd (fun _ => 0) 0 0), kb_o r3 1 [.ref a3, .int 1], kb_a G a3 16 (upd (fun _ => 0) 0 0), kb_o r5 1 [.ref a5, .int 1], kb_a G a5 16 (upd (fun _ => 0) 0 0), kb_o r6 1 [.ref a6, .int 1], kb_a G a6 16 (upd (fun _ => 0) 0 0)]) hE hP hD hS [12, 3, 0, 2, 8, 9] [1, 4, 5, 6, 7, 10, 11, 13, 14] rfl rfl (by decide) (by decide) (kb_rV (As := [.ref o, .int 0]) (rest := []) (wc := [kb_o h 2 [.ref r0, .ref r1, .ref r2, .ref r3, .ref r4, .ref r5, .ref r6, .ref r7, .ref r8, .ref r9, .ref r10, .ref r11, .int L, .int P], kb_o r1 1 [.ref a1, .int 1], kb_o r2 1 [.ref a2, .int 1], kb_a G a2 16 (upd (fun _ => 0) 0 1), kb_o o 1 [.ref (uu3.1 0), .int 64], kb_a G (uu3.1 0) 64 (uu7.2 0)]) (q0 := 0) ⟨hx, hb, hml, hown, ht⟩ ((c_Tree_layEndsBehind l G h r0 r1 r2 r3 r4 r5 r6 r7 r8 r9 r10 r11 L P a1 a2 o (uu3.1 0) (uu7.2 0)) _) (kb_gV wd_33961cfb wd_bc58458c wd_6188bd26 wd_ebf91e09 wd_c7b1254d) ⟨rfl, hd_89f68894⟩ ⟨(Nat.le_of_ble_eq_true rfl), (Nat.le_of_ble_eq_true rfl)⟩ hE hP hD hS [12, 3, 0, 2, 8, 9] rfl (by decide) rfl rfl rfl hl.1 rfl (Nat.le_of_ble_eq_true rfl) d_Tree_layInto_30 ⟨(Nat.le_of_ble_eq_true rfl), (Nat.le_of_ble_eq_true rfl)⟩) (fun uu9 H locs hw hP hD hS => ?_)
  have hP : va_P G.1 kb_cl [kb_o r7 1 [.ref a7, .int 0], kb_o r4 1 [.ref a4, .int 1], kb_a G a4 16 (upd (fun _ => 0) 0 0), kb_o r3 1 [.ref a3, .int 1], kb_a G a3 16 (upd (fun _ => 0) 0 0), kb_o r5 1 [.ref a5, .int 1], kb_a G a5 16 (upd (fun _ => 0) 0 0), kb_o r6 1 [.ref a6, .int 1], kb_a G a6 16 (upd (fun _ => 0) 0 0), kb_o h 2 [.ref r0, .ref r1, .ref r2, .ref r3, .ref r4, .ref r5, .ref r6, .ref r7, .ref r8, .ref r9, .ref r10, .ref r11, .int L, .int P], kb_o r1 1 [.ref a1, .int 1], kb_o r2 1 [.ref a2, .int 1], kb_a G a2 16 (upd (fun _ => 0) 0 1), kb_o o 1 [.ref (uu9.1 0), .int 68], kb_a G (uu9.1 0) 128 (uu9.2 0)] H := hP
  have hD : va_D A [kb_o r7 1 [.ref a7, .int 0], kb_o r4 1 [.ref a4, .int 1], kb_a G a4 16 (upd (fun _ => 0) 0 0), kb_o r3 1 [.ref a3, .int 1], kb_a G a3 16 (upd (fun _ => 0) 0 0), kb_o r5 1 [.ref a5, .int 1], kb_a G a5 16 (upd (fun _ => 0) 0 0), kb_o r6 1 [.ref a6, .int 1], kb_a G a6 16 (upd (fun _ => 0) 0 0), kb_o h 2 [.ref r0, .ref r1, .ref r2, .ref r3, .ref r4, .ref r5, .ref r6, .ref r7, .ref r8, .ref r9, .ref r10, .ref r11, .int L, .int P], kb_o r1 1 [.ref a1, .int 1], kb_o r2 1 [.ref a2, .int 1], kb_a G a2 16 (upd (fun _ => 0) 0 1), kb_o o 1 [.ref (uu9.1 0), .int 68], kb_a G (uu9.1 0) 128 (uu9.2 0)] := hD
  refine lv_iinc (v := 1) (lv' := [(2, .int 1), (0, .ref h), (1, .ref o)]) hx hb d_Tree_layInto_33 hl (k := 0) rfl (by decide) (by decide) rfl (fun ls hl => ?_)
  refine lv_goto (tgt := 13) hx hb d_Tree_layInto_36 (by decide) ?_
  refine lv_iload_n hx hb d_Tree_layInto_13 rfl (lv_at hl 0 rfl) ?_
  refine lv_aload_n hx hb d_Tree_layInto_14 rfl (lv_at hl 1 rfl) ?_
  refine kb_i (wc := [kb_o h 2 [.ref r0, .ref r1, .ref r2, .ref r3, .ref r4, .ref r5, .ref r6, .ref r7, .ref r8, .ref r9, .ref r10, .ref r11, .int L, .int P], kb_o r1 1 [.ref a1, .int 1]]) (wr := [kb_o r7 1 [.ref a7, .int 0], kb_o r4 1 [.ref a4, .int 1], kb_a G a4 16 (upd (fun _ => 0) 0 0), kb_o r3 1 [.ref a3, .int 1], kb_a G a3 16 (upd (fun _ => 0) 0 0), kb_o r5 1 [.ref a5, .int 1], kb_a G a5 16 (upd (fun _ => 0) 0 0), kb_o r6 1 [.ref a6, .int 1], kb_a G a6 16 (upd (fun _ => 0) 0 0), kb_o r2 1 [.ref a2, .int 1], kb_a G a2 16 (upd (fun _ => 0) 0 1), kb_o o 1 [.ref (uu9.1 0), .int 68], kb_a G (uu9.1 0) 128 (uu9.2 0)]) hE hP hD hS [9, 10] [0, 1, 2, 3, 4, 5, 6, 7, 8, 11, 12, 13, 14] rfl rfl (by decide) (by decide) (kb_rV (As := []) (rest := [.int 1]) (wc := [kb_o h 2 [.ref r0, .ref r1, .ref r2, .ref r3, .ref r4, .ref r5, .ref r6, .ref r7, .ref r8, .ref r9, .ref r10, .ref r11, .int L, .int P], kb_o r1 1 [.ref a1, .int 1]]) (q0 := 0) ⟨hx, hb, hml, hown, ht⟩ ((c_Tree_countOfNodes l G h r0 r1 r2 r3 r4 r5 r6 r7 r8 r9 r10 r11 L P a1 1) _) (kb_gV wd_f9b8311a wd_004c0445 wd_dbedc27b wd_ebf91e09 wd_8a7bf582) ⟨rfl, hd_a0b17e13⟩ ⟨(Nat.le_of_ble_eq_true rfl), (Nat.le_of_ble_eq_true rfl)⟩ hE hP hD hS [9, 10] rfl (by decide) rfl rfl rfl hl.1 rfl (Nat.le_of_ble_eq_true rfl) d_Tree_layInto_15 ⟨(Nat.le_of_ble_eq_true rfl), (Nat.le_of_ble_eq_true rfl)⟩) (fun rv12 uu11 H locs hw hP hD hS => ?_)
  have hP : va_P G.1 kb_cl [kb_o r7 1 [.ref a7, .int 0], kb_o r4 1 [.ref a4, .int 1], kb_a G a4 16 (upd (fun _ => 0) 0 0), kb_o r3 1 [.ref a3, .int 1], kb_a G a3 16 (upd (fun _ => 0) 0 0), kb_o r5 1 [.ref a5, .int 1], kb_a G a5 16 (upd (fun _ => 0) 0 0), kb_o r6 1 [.ref a6, .int 1], kb_a G a6 16 (upd (fun _ => 0) 0 0), kb_o r2 1 [.ref a2, .int 1], kb_a G a2 16 (upd (fun _ => 0) 0 1), kb_o o 1 [.ref (uu9.1 0), .int 68], kb_a G (uu9.1 0) 128 (uu9.2 0), kb_o h 2 [.ref r0, .ref r1, .ref r2, .ref r3, .ref r4, .ref r5, .ref r6, .ref r7, .ref r8, .ref r9, .ref r10, .ref r11, .int L, .int P], kb_o r1 1 [.ref a1, .int 1]] H := hP
  have hD : va_D A [kb_o r7 1 [.ref a7, .int 0], kb_o r4 1 [.ref a4, .int 1], kb_a G a4 16 (upd (fun _ => 0) 0 0), kb_o r3 1 [.ref a3, .int 1], kb_a G a3 16 (upd (fun _ => 0) 0 0), kb_o r5 1 [.ref a5, .int 1], kb_a G a5 16 (upd (fun _ => 0) 0 0), kb_o r6 1 [.ref a6, .int 1], kb_a G a6 16 (upd (fun _ => 0) 0 0), kb_o r2 1 [.ref a2, .int 1], kb_a G a2 16 (upd (fun _ => 0) 0 1), kb_o o 1 [.ref (uu9.1 0), .int 68], kb_a G (uu9.1 0) 128 (uu9.2 0), kb_o h 2 [.ref r0, .ref r1, .ref r2, .ref r3, .ref r4, .ref r5, .ref r6, .ref r7, .ref r8, .ref r9, .ref r10, .ref r11, .int L, .int P], kb_o r1 1 [.ref a1, .int 1]] := hD
  refine kb_top (y := 1) (show rv12 = 1 from hw) ?_
  refine lv_icmp_ge (tgt := 39) hx hb d_Tree_layInto_18 (by decide) (fun c9 => ?_) (fun c9 => absurd (by decide) c9)
  refine lv_aload_n hx hb d_Tree_layInto_39 rfl (lv_at hl 2 rfl) ?_
  refine lv_bipush (v := 9) hx hb d_Tree_layInto_40 (by decide) ?_
  refine kb_v (wc := [kb_o o 1 [.ref (uu9.1 0), .int 68], kb_a G (uu9.1 0) 128 (uu9.2 0)]) (wr := [kb_o r7 1 [.ref a7, .int 0], kb_o r4 1 [.ref a4, .int 1], kb_a G a4 16 (upd (fun _ => 0) 0 0), kb_o r3 1 [.ref a3, .int 1], kb_a G a3 16 (upd (fun _ => 0) 0 0), kb_o r5 1 [.ref a5, .int 1], kb_a G a5 16 (upd (fun _ => 0) 0 0), kb_o r6 1 [.ref a6, .int 1], kb_a G a6 16 (upd (fun _ => 0) 0 0), kb_o r2 1 [.ref a2, .int 1], kb_a G a2 16 (upd (fun _ => 0) 0 1), kb_o h 2 [.ref r0, .ref r1, .ref r2, .ref r3, .ref r4, .ref r5, .ref r6, .ref r7, .ref r8, .ref r9, .ref r10, .ref r11, .int L, .int P], kb_o r1 1 [.ref a1, .int 1]]) hE hP hD hS [11, 12] [0, 1, 2, 3, 4, 5, 6, 7, 8, 9, 10, 13, 14] rfl rfl (by decide) (by decide) (kb_rV (As := [.int 9]) (rest := []) (wc := [kb_o o 1 [.ref (uu9.1 0), .int 68], kb_a G (uu9.1 0) 128 (uu9.2 0)]) (q0 := 0) ⟨hx, hb, hml, hown, ht⟩ ((c_Row_addNumber_n l G o (uu9.1 0) 68 128 (uu9.2 0) 9 (by omega) (by omega)) _) (kb_gV wd_13c93286 wd_091fe404 wd_2d8090cf wd_4182e433 wd_378b6872) ⟨rfl, hd_6154874f⟩ ⟨(Nat.le_of_ble_eq_true rfl), (Nat.le_of_ble_eq_true rfl)⟩ hE hP hD hS [11, 12] rfl (by decide) rfl rfl rfl hl.1 rfl (Nat.le_of_ble_eq_true rfl) d_Tree_layInto_42 ⟨(Nat.le_of_ble_eq_true rfl), (Nat.le_of_ble_eq_true rfl)⟩) (fun uu13 H locs hw hP hD hS => ?_)
  have hP : va_P G.1 kb_cl [kb_o r7 1 [.ref a7, .int 0], kb_o r4 1 [.ref a4, .int 1], kb_a G a4 16 (upd (fun _ => 0) 0 0), kb_o r3 1 [.ref a3, .int 1], kb_a G a3 16 (upd (fun _ => 0) 0 0), kb_o r5 1 [.ref a5, .int 1], kb_a G a5 16 (upd (fun _ => 0) 0 0), kb_o r6 1 [.ref a6, .int 1], kb_a G a6 16 (upd (fun _ => 0) 0 0), kb_o r2 1 [.ref a2, .int 1], kb_a G a2 16 (upd (fun _ => 0) 0 1), kb_o h 2 [.ref r0, .ref r1, .ref r2, .ref r3, .ref r4, .ref r5, .ref r6, .ref r7, .ref r8, .ref r9, .ref r10, .ref r11, .int L, .int P], kb_o r1 1 [.ref a1, .int 1], kb_o o 1 [.ref (uu9.1 0), .int 72], kb_a G (uu9.1 0) 128 (uu13.2 0)] H := hP
  have hD : va_D A [kb_o r7 1 [.ref a7, .int 0], kb_o r4 1 [.ref a4, .int 1], kb_a G a4 16 (upd (fun _ => 0) 0 0), kb_o r3 1 [.ref a3, .int 1], kb_a G a3 16 (upd (fun _ => 0) 0 0), kb_o r5 1 [.ref a5, .int 1], kb_a G a5 16 (upd (fun _ => 0) 0 0), kb_o r6 1 [.ref a6, .int 1], kb_a G a6 16 (upd (fun _ => 0) 0 0), kb_o r2 1 [.ref a2, .int 1], kb_a G a2 16 (upd (fun _ => 0) 0 1), kb_o h 2 [.ref r0, .ref r1, .ref r2, .ref r3, .ref r4, .ref r5, .ref r6, .ref r7, .ref r8, .ref r9, .ref r10, .ref r11, .int L, .int P], kb_o r1 1 [.ref a1, .int 1], kb_o o 1 [.ref (uu9.1 0), .int 72], kb_a G (uu9.1 0) 128 (uu13.2 0)] := hD
  refine lv_aload_n hx hb d_Tree_layInto_45 rfl (lv_at hl 2 rfl) ?_
  refine kb_i (wc := [kb_o o 1 [.ref (uu9.1 0), .int 72]]) (wr := [kb_o r7 1 [.ref a7, .int 0], kb_o r4 1 [.ref a4, .int 1], kb_a G a4 16 (upd (fun _ => 0) 0 0), kb_o r3 1 [.ref a3, .int 1], kb_a G a3 16 (upd (fun _ => 0) 0 0), kb_o r5 1 [.ref a5, .int 1], kb_a G a5 16 (upd (fun _ => 0) 0 0), kb_o r6 1 [.ref a6, .int 1], kb_a G a6 16 (upd (fun _ => 0) 0 0), kb_o r2 1 [.ref a2, .int 1], kb_a G a2 16 (upd (fun _ => 0) 0 1), kb_o h 2 [.ref r0, .ref r1, .ref r2, .ref r3, .ref r4, .ref r5, .ref r6, .ref r7, .ref r8, .ref r9, .ref r10, .ref r11, .int L, .int P], kb_o r1 1 [.ref a1, .int 1], kb_a G (uu9.1 0) 128 (uu13.2 0)]) hE hP hD hS [13] [0, 1, 2, 3, 4, 5, 6, 7, 8, 9, 10, 11, 12, 14] rfl rfl (by decide) (by decide) (kb_rV (As := []) (rest := []) (wc := [kb_o o 1 [.ref (uu9.1 0), .int 72]]) (q0 := 0) ⟨hx, hb, hml, hown, ht⟩ ((c_Row_length l G o (uu9.1 0) 72) _) (kb_gV wd_d02778d4 wd_5e08083b wd_489345cb wd_4182e433 wd_8d5193a7) ⟨rfl, hd_d85231f4⟩ ⟨(Nat.le_of_ble_eq_true rfl), (Nat.le_of_ble_eq_true rfl)⟩ hE hP hD hS [13] rfl (by decide) rfl rfl rfl hl.1 rfl (Nat.le_of_ble_eq_true rfl) d_Tree_layInto_46 ⟨(Nat.le_of_ble_eq_true rfl), (Nat.le_of_ble_eq_true rfl)⟩) (fun rv16 uu15 H locs hw hP hD hS => ?_)
  have hP : va_P G.1 kb_cl [kb_o r7 1 [.ref a7, .int 0], kb_o r4 1 [.ref a4, .int 1], kb_a G a4 16 (upd (fun _ => 0) 0 0), kb_o r3 1 [.ref a3, .int 1], kb_a G a3 16 (upd (fun _ => 0) 0 0), kb_o r5 1 [.ref a5, .int 1], kb_a G a5 16 (upd (fun _ => 0) 0 0), kb_o r6 1 [.ref a6, .int 1], kb_a G a6 16 (upd (fun _ => 0) 0 0), kb_o r2 1 [.ref a2, .int 1], kb_a G a2 16 (upd (fun _ => 0) 0 1), kb_o h 2 [.ref r0, .ref r1, .ref r2, .ref r3, .ref r4, .ref r5, .ref r6, .ref r7, .ref r8, .ref r9, .ref r10, .ref r11, .int L, .int P], kb_o r1 1 [.ref a1, .int 1], kb_a G (uu9.1 0) 128 (uu13.2 0), kb_o o 1 [.ref (uu9.1 0), .int 72]] H := hP
  have hD : va_D A [kb_o r7 1 [.ref a7, .int 0], kb_o r4 1 [.ref a4, .int 1], kb_a G a4 16 (upd (fun _ => 0) 0 0), kb_o r3 1 [.ref a3, .int 1], kb_a G a3 16 (upd (fun _ => 0) 0 0), kb_o r5 1 [.ref a5, .int 1], kb_a G a5 16 (upd (fun _ => 0) 0 0), kb_o r6 1 [.ref a6, .int 1], kb_a G a6 16 (upd (fun _ => 0) 0 0), kb_o r2 1 [.ref a2, .int 1], kb_a G a2 16 (upd (fun _ => 0) 0 1), kb_o h 2 [.ref r0, .ref r1, .ref r2, .ref r3, .ref r4, .ref r5, .ref r6, .ref r7, .ref r8, .ref r9, .ref r10, .ref r11, .int L, .int P], kb_o r1 1 [.ref a1, .int 1], kb_a G (uu9.1 0) 128 (uu13.2 0), kb_o o 1 [.ref (uu9.1 0), .int 72]] := hD
  refine kb_top (y := 72) (show rv16 = 72 from hw) ?_
  refine lv_istore_n (lv' := [(2, .int 72), (0, .ref h), (1, .ref o)]) hx hb d_Tree_layInto_49 rfl hl (by decide) rfl (fun ls hl => ?_)
  refine lv_aload_n hx hb d_Tree_layInto_50 rfl (lv_at hl 1 rfl) ?_
  refine lv_aload_n hx hb d_Tree_layInto_51 rfl (lv_at hl 2 rfl) ?_
  refine kb_v (wc := [kb_o h 2 [.ref r0, .ref r1, .ref r2, .ref r3, .ref r4, .ref r5, .ref r6, .ref r7, .ref r8, .ref r9, .ref r10, .ref r11, .int L, .int P], kb_o r7 1 [.ref a7, .int 0]]) (wr := [kb_o r4 1 [.ref a4, .int 1], kb_a G a4 16 (upd (fun _ => 0) 0 0), kb_o r3 1 [.ref a3, .int 1], kb_a G a3 16 (upd (fun _ => 0) 0 0), kb_o r5 1 [.ref a5, .int 1], kb_a G a5 16 (upd (fun _ => 0) 0 0), kb_o r6 1 [.ref a6, .int 1], kb_a G a6 16 (upd (fun _ => 0) 0 0), kb_o r2 1 [.ref a2, .int 1], kb_a G a2 16 (upd (fun _ => 0) 0 1), kb_o r1 1 [.ref a1, .int 1], kb_a G (uu9.1 0) 128 (uu13.2 0), kb_o o 1 [.ref (uu9.1 0), .int 72]]) hE hP hD hS [11, 0] [1, 2, 3, 4, 5, 6, 7, 8, 9, 10, 12, 13, 14] rfl rfl (by decide) (by decide) (kb_rV (As := [.ref o]) (rest := []) (wc := [kb_o h 2 [.ref r0, .ref r1, .ref r2, .ref r3, .ref r4, .ref r5, .ref r6, .ref r7, .ref r8, .ref r9, .ref r10, .ref r11, .int L, .int P], kb_o r7 1 [.ref a7, .int 0]]) (q0 := 0) ⟨hx, hb, hml, hown, ht⟩ ((c_Tree_layNames l G h r0 r1 r2 r3 r4 r5 r6 r7 r8 r9 r10 r11 L P a7 o) _) (kb_gV wd_032aa693 wd_a72bef33 wd_643849f3 wd_ebf91e09 wd_92ad19a1) ⟨rfl, hd_10328db4⟩ ⟨(Nat.le_of_ble_eq_true rfl), (Nat.le_of_ble_eq_true rfl)⟩ hE hP hD hS [11, 0] rfl (by decide) rfl rfl rfl hl.1 rfl (Nat.le_of_ble_eq_true rfl) d_Tree_layInto_52 ⟨(Nat.le_of_ble_eq_true rfl), (Nat.le_of_ble_eq_true rfl)⟩) (fun uu17 H locs hw hP hD hS => ?_)
  have hP : va_P G.1 kb_cl [kb_o r4 1 [.ref a4, .int 1], kb_a G a4 16 (upd (fun _ => 0) 0 0), kb_o r3 1 [.ref a3, .int 1], kb_a G a3 16 (upd (fun _ => 0) 0 0), kb_o r5 1 [.ref a5, .int 1], kb_a G a5 16 (upd (fun _ => 0) 0 0), kb_o r6 1 [.ref a6, .int 1], kb_a G a6 16 (upd (fun _ => 0) 0 0), kb_o r2 1 [.ref a2, .int 1], kb_a G a2 16 (upd (fun _ => 0) 0 1), kb_o r1 1 [.ref a1, .int 1], kb_a G (uu9.1 0) 128 (uu13.2 0), kb_o o 1 [.ref (uu9.1 0), .int 72], kb_o h 2 [.ref r0, .ref r1, .ref r2, .ref r3, .ref r4, .ref r5, .ref r6, .ref r7, .ref r8, .ref r9, .ref r10, .ref r11, .int L, .int P], kb_o r7 1 [.ref a7, .int 0]] H := hP
  have hD : va_D A [kb_o r4 1 [.ref a4, .int 1], kb_a G a4 16 (upd (fun _ => 0) 0 0), kb_o r3 1 [.ref a3, .int 1], kb_a G a3 16 (upd (fun _ => 0) 0 0), kb_o r5 1 [.ref a5, .int 1], kb_a G a5 16 (upd (fun _ => 0) 0 0), kb_o r6 1 [.ref a6, .int 1], kb_a G a6 16 (upd (fun _ => 0) 0 0), kb_o r2 1 [.ref a2, .int 1], kb_a G a2 16 (upd (fun _ => 0) 0 1), kb_o r1 1 [.ref a1, .int 1], kb_a G (uu9.1 0) 128 (uu13.2 0), kb_o o 1 [.ref (uu9.1 0), .int 72], kb_o h 2 [.ref r0, .ref r1, .ref r2, .ref r3, .ref r4, .ref r5, .ref r6, .ref r7, .ref r8, .ref r9, .ref r10, .ref r11, .int L, .int P], kb_o r7 1 [.ref a7, .int 0]] := hD
  refine lv_aload_n hx hb d_Tree_layInto_55 rfl (lv_at hl 1 rfl) ?_
  refine lv_aload_n hx hb d_Tree_layInto_56 rfl (lv_at hl 2 rfl) ?_
  refine lv_iload_n hx hb d_Tree_layInto_57 rfl (lv_at hl 0 rfl) ?_
  refine kb_v (wc := [kb_o h 2 [.ref r0, .ref r1, .ref r2, .ref r3, .ref r4, .ref r5, .ref r6, .ref r7, .ref r8, .ref r9, .ref r10, .ref r11, .int L, .int P], kb_o o 1 [.ref (uu9.1 0), .int 72], kb_a G (uu9.1 0) 128 (uu13.2 0)]) (wr := [kb_o r4 1 [.ref a4, .int 1], kb_a G a4 16 (upd (fun _ => 0) 0 0), kb_o r3 1 [.ref a3, .int 1], kb_a G a3 16 (upd (fun _ => 0) 0 0), kb_o r5 1 [.ref a5, .int 1], kb_a G a5 16 (upd (fun _ => 0) 0 0), kb_o r6 1 [.ref a6, .int 1], kb_a G a6 16 (upd (fun _ => 0) 0 0), kb_o r2 1 [.ref a2, .int 1], kb_a G a2 16 (upd (fun _ => 0) 0 1), kb_o r1 1 [.ref a1, .int 1], kb_o r7 1 [.ref a7, .int 0]]) hE hP hD hS [13, 12, 11] [0, 1, 2, 3, 4, 5, 6, 7, 8, 9, 10, 14] rfl rfl (by decide) (by decide) (kb_rV (As := [.ref o, .int 72]) (rest := []) (wc := [kb_o h 2 [.ref r0, .ref r1, .ref r2, .ref r3, .ref r4, .ref r5, .ref r6, .ref r7, .ref r8, .ref r9, .ref r10, .ref r11, .int L, .int P], kb_o o 1 [.ref (uu9.1 0), .int 72], kb_a G (uu9.1 0) 128 (uu13.2 0)]) (q0 := 0) ⟨hx, hb, hml, hown, ht⟩ ((c_Tree_layHead l G h r0 r1 r2 r3 r4 r5 r6 r7 r8 r9 r10 r11 L P o (uu9.1 0) (uu13.2 0)) _) (kb_gV wd_511f6847 wd_5a25eb90 wd_59440d11 wd_ebf91e09 wd_116400c2) ⟨rfl, hd_aa3bf1da⟩ ⟨(Nat.le_of_ble_eq_true rfl), (Nat.le_of_ble_eq_true rfl)⟩ hE hP hD hS [13, 12, 11] rfl (by decide) rfl rfl rfl hl.1 rfl (Nat.le_of_ble_eq_true rfl) d_Tree_layInto_58 ⟨(Nat.le_of_ble_eq_true rfl), (Nat.le_of_ble_eq_true rfl)⟩) (fun uu19 H locs hw hP hD hS => ?_)
  have hP : va_P G.1 kb_cl [kb_o r4 1 [.ref a4, .int 1], kb_a G a4 16 (upd (fun _ => 0) 0 0), kb_o r3 1 [.ref a3, .int 1], kb_a G a3 16 (upd (fun _ => 0) 0 0), kb_o r5 1 [.ref a5, .int 1], kb_a G a5 16 (upd (fun _ => 0) 0 0), kb_o r6 1 [.ref a6, .int 1], kb_a G a6 16 (upd (fun _ => 0) 0 0), kb_o r2 1 [.ref a2, .int 1], kb_a G a2 16 (upd (fun _ => 0) 0 1), kb_o r1 1 [.ref a1, .int 1], kb_o r7 1 [.ref a7, .int 0], kb_o h 2 [.ref r0, .ref r1, .ref r2, .ref r3, .ref r4, .ref r5, .ref r6, .ref r7, .ref r8, .ref r9, .ref r10, .ref r11, .int L, .int P], kb_o o 1 [.ref (uu9.1 0), .int 72], kb_a G (uu9.1 0) 128 (uu19.2 0)] H := hP
  have hD : va_D A [kb_o r4 1 [.ref a4, .int 1], kb_a G a4 16 (upd (fun _ => 0) 0 0), kb_o r3 1 [.ref a3, .int 1], kb_a G a3 16 (upd (fun _ => 0) 0 0), kb_o r5 1 [.ref a5, .int 1], kb_a G a5 16 (upd (fun _ => 0) 0 0), kb_o r6 1 [.ref a6, .int 1], kb_a G a6 16 (upd (fun _ => 0) 0 0), kb_o r2 1 [.ref a2, .int 1], kb_a G a2 16 (upd (fun _ => 0) 0 1), kb_o r1 1 [.ref a1, .int 1], kb_o r7 1 [.ref a7, .int 0], kb_o h 2 [.ref r0, .ref r1, .ref r2, .ref r3, .ref r4, .ref r5, .ref r6, .ref r7, .ref r8, .ref r9, .ref r10, .ref r11, .int L, .int P], kb_o o 1 [.ref (uu9.1 0), .int 72], kb_a G (uu9.1 0) 128 (uu19.2 0)] := hD
  exact kb_retv (kb_l [uu9.1 0], kb_f []) hx hb hr hlocks hE hP hD hS [13] rfl (by decide) rfl trivial (Nat.le_of_ble_eq_true rfl) (Nat.le_of_ble_eq_true rfl) d_Tree_layInto_61
end
section
theorem wd_27b8bd78 : (Jvm.Cond.methodLink "TreePress$Tree" (96 : Nat) ({ cls := "TreePress$Tree", name := "firstNamed", desc := "(IILTreePress$Row;II)I" } : Jvm.MethodName)) ∈ kb_T := kb_t2 107 (by decide +kernel) (by decide +kernel)
theorem wd_dddc6343 : (Jvm.Cond.instanceMethod ({ cls := "TreePress$Tree", name := "firstNamed", desc := "(IILTreePress$Row;II)I" } : Jvm.MethodName)) ∈ kb_T := kb_t2 109 (by decide +kernel) (by decide +kernel)
theorem wd_7dd518e9 : Cond.selects "TreePress$Tree" ⟨"TreePress$Tree", "firstNamed", "(IILTreePress$Row;II)I"⟩ ⟨"TreePress$Tree", "firstNamed", "(IILTreePress$Row;II)I"⟩ ∈ kb_T := kb_t0 (y := ⟨"TreePress$Tree", "firstNamed", "(IILTreePress$Row;II)I"⟩) (n := 14) (by decide +kernel) (by decide +kernel)
theorem wd_fb620020 : (Jvm.Cond.code ({ cls := "TreePress$Tree", name := "firstNamed", desc := "(IILTreePress$Row;II)I" } : Jvm.MethodName) prog_4_method_25_code (7 : Nat) (Option.some Jvm.ClassFile.FieldType.int)) ∈ kb_T := kb_t2 110 (by decide +kernel) (by decide +kernel)
theorem hd_f7d4c618 : (⟨"TreePress$Tree", "firstNamed", "(IILTreePress$Row;II)I"⟩ : MethodName).cls ≠ "java/lang/invoke/MethodHandle" ∧ (⟨"TreePress$Tree", "firstNamed", "(IILTreePress$Row;II)I"⟩ : MethodName).cls ≠ "java/lang/invoke/VarHandle" ∧ (parseMethodDescriptor (⟨"TreePress$Tree", "firstNamed", "(IILTreePress$Row;II)I"⟩ : MethodName).desc).map (fun d => d.parameters.length) = some 5 := by decide +kernel
theorem wd_5f5b0b19 : (Jvm.Cond.methodLink "TreePress$Reader" (9 : Nat) ({ cls := "TreePress$Row", name := "length", desc := "()I" } : Jvm.MethodName)) ∈ kb_T := kb_t2 24 (by decide +kernel) (by decide +kernel)
theorem wd_b6aba818 : (Jvm.Cond.methodLink "TreePress" (36 : Nat) ({ cls := "TreePress$Row", name := "length", desc := "()I" } : Jvm.MethodName)) ∈ kb_T := kb_t2 15 (by decide +kernel) (by decide +kernel)
theorem wd_1c022c51 : (Jvm.Cond.constant "TreePress" (40 : Nat) (65516 : Int32)) ∈ kb_T := kb_t2 169 (by decide +kernel) (by decide +kernel)
theorem wd_ea688bce : (Jvm.Cond.methodLink "TreePress" (48 : Nat) ({ cls := "TreePress$Row", name := "addNumber", desc := "(I)V" } : Jvm.MethodName)) ∈ kb_T := kb_t2 238 (by decide +kernel) (by decide +kernel)
theorem wd_50e9e1ec : (Jvm.Cond.methodLink "TreePress" (57 : Nat) ({ cls := "TreePress$Row", name := "cut", desc := "(I)V" } : Jvm.MethodName)) ∈ kb_T := kb_t2 129 (by decide +kernel) (by decide +kernel)
theorem wd_c02bd52e : (Jvm.Cond.classLink "TreePress" (52 : Nat) "java/lang/IllegalArgumentException") ∈ kb_T := kb_t3 7 (by decide +kernel) (by decide +kernel)
theorem wd_2cf38b0f : (Jvm.Cond.initialized "java/lang/IllegalArgumentException") ∈ kb_T := kb_t1 13 (by decide +kernel) (by decide +kernel)
theorem wd_89e4deee : (Jvm.Cond.methodLink "TreePress" (60 : Nat) ({ cls := "TreePress$Tree", name := "wipe", desc := "()V" } : Jvm.MethodName)) ∈ kb_T := kb_t1 182 (by decide +kernel) (by decide +kernel)
theorem wd_7ead187f : (Jvm.Cond.methodLink "TreePress" (63 : Nat) ({ cls := "TreePress$Row", name := "hasName", desc := "(II)Z" } : Jvm.MethodName)) ∈ kb_T := kb_t3 30 (by decide +kernel) (by decide +kernel)
theorem wd_9b3ab837 : (Jvm.Cond.instanceMethod ({ cls := "TreePress$Row", name := "hasName", desc := "(II)Z" } : Jvm.MethodName)) ∈ kb_T := kb_t3 31 (by decide +kernel) (by decide +kernel)
theorem wd_de0cb18c : (Jvm.Cond.selects "TreePress$Row" ({ cls := "TreePress$Row", name := "hasName", desc := "(II)Z" } : Jvm.MethodName) ({ cls := "TreePress$Row", name := "hasName", desc := "(II)Z" } : Jvm.MethodName)) ∈ kb_T := kb_t3 32 (by decide +kernel) (by decide +kernel)
theorem wd_b70b5cc0 : (Jvm.Cond.code ({ cls := "TreePress$Row", name := "hasName", desc := "(II)Z" } : Jvm.MethodName) prog_3_method_12_code (3 : Nat) (Option.some Jvm.ClassFile.FieldType.boolean)) ∈ kb_T := kb_t3 33 (by decide +kernel) (by decide +kernel)
theorem hd_fc8c0803 : (⟨"TreePress$Row", "hasName", "(II)Z"⟩ : MethodName).cls ≠ "java/lang/invoke/MethodHandle" ∧ (⟨"TreePress$Row", "hasName", "(II)Z"⟩ : MethodName).cls ≠ "java/lang/invoke/VarHandle" ∧ (parseMethodDescriptor (⟨"TreePress$Row", "hasName", "(II)Z"⟩ : MethodName).desc).map (fun d => d.parameters.length) = some 2 := by decide +kernel
theorem wd_00104652 : (Jvm.Cond.methodLink "TreePress" (96 : Nat) ({ cls := "TreePress$Tree", name := "placeIsFirst", desc := "()Z" } : Jvm.MethodName)) ∈ kb_T := kb_t3 59 (by decide +kernel) (by decide +kernel)
theorem wd_07d8eb28 : (Jvm.Cond.instanceMethod ({ cls := "TreePress$Tree", name := "placeIsFirst", desc := "()Z" } : Jvm.MethodName)) ∈ kb_T := kb_t3 60 (by decide +kernel) (by decide +kernel)
theorem wd_47ccf0f8 : (Jvm.Cond.selects "TreePress$Tree" ({ cls := "TreePress$Tree", name := "placeIsFirst", desc := "()Z" } : Jvm.MethodName) ({ cls := "TreePress$Tree", name := "placeIsFirst", desc := "()Z" } : Jvm.MethodName)) ∈ kb_T := kb_t3 61 (by decide +kernel) (by decide +kernel)
theorem wd_032c31a5 : (Jvm.Cond.code ({ cls := "TreePress$Tree", name := "placeIsFirst", desc := "()Z" } : Jvm.MethodName) prog_4_method_20_code (1 : Nat) (Option.some Jvm.ClassFile.FieldType.boolean)) ∈ kb_T := kb_t3 62 (by decide +kernel) (by decide +kernel)
theorem hd_0c218c32 : (⟨"TreePress$Tree", "placeIsFirst", "()Z"⟩ : MethodName).cls ≠ "java/lang/invoke/MethodHandle" ∧ (⟨"TreePress$Tree", "placeIsFirst", "()Z"⟩ : MethodName).cls ≠ "java/lang/invoke/VarHandle" ∧ (parseMethodDescriptor (⟨"TreePress$Tree", "placeIsFirst", "()Z"⟩ : MethodName).desc).map (fun d => d.parameters.length) = some 0 := by decide +kernel
theorem wd_4bed6c35 : (Jvm.Cond.methodLink "TreePress" (104 : Nat) ({ cls := "TreePress$Tree", name := "layInto", desc := "(LTreePress$Row;)V" } : Jvm.MethodName)) ∈ kb_T := kb_t1 187 (by decide +kernel) (by decide +kernel)
theorem wd_04c55ec2 : (Jvm.Cond.instanceMethod ({ cls := "TreePress$Tree", name := "layInto", desc := "(LTreePress$Row;)V" } : Jvm.MethodName)) ∈ kb_T := kb_t1 188 (by decide +kernel) (by decide +kernel)
theorem wd_f9b29598 : (Jvm.Cond.selects "TreePress$Tree" ({ cls := "TreePress$Tree", name := "layInto", desc := "(LTreePress$Row;)V" } : Jvm.MethodName) ({ cls := "TreePress$Tree", name := "layInto", desc := "(LTreePress$Row;)V" } : Jvm.MethodName)) ∈ kb_T := kb_t1 189 (by decide +kernel) (by decide +kernel)
theorem wd_f0b1e0c4 : (Jvm.Cond.code ({ cls := "TreePress$Tree", name := "layInto", desc := "(LTreePress$Row;)V" } : Jvm.MethodName) prog_4_method_29_code (3 : Nat) (Option.none : Option Jvm.ClassFile.FieldType)) ∈ kb_T := kb_t1 190 (by decide +kernel) (by decide +kernel)
theorem hd_3ffc8199 : (⟨"TreePress$Tree", "layInto", "(LTreePress$Row;)V"⟩ : MethodName).cls ≠ "java/lang/invoke/MethodHandle" ∧ (⟨"TreePress$Tree", "layInto", "(LTreePress$Row;)V"⟩ : MethodName).cls ≠ "java/lang/invoke/VarHandle" ∧ (parseMethodDescriptor (⟨"TreePress$Tree", "layInto", "(LTreePress$Row;)V"⟩ : MethodName).desc).map (fun d => d.parameters.length) = some 1 := by decide +kernel
theorem wd_6ce1761d : (Jvm.Cond.classLink "TreePress" (108 : Nat) "java/lang/IndexOutOfBoundsException") ∈ kb_T := kb_t3 73 (by decide +kernel) (by decide +kernel)
theorem wd_37a516df : (Jvm.Cond.initialized "java/lang/IndexOutOfBoundsException") ∈ kb_T := kb_t1 14 (by decide +kernel) (by decide +kernel)
theorem wd_69af0a74 : (Jvm.Cond.methodLink "TreePress" (117 : Nat) ({ cls := "TreePress$Reader", name := "failureOfHead", desc := "(LTreePress$Row;)I" } : Jvm.MethodName)) ∈ kb_T := kb_t2 20 (by decide +kernel) (by decide +kernel)
theorem wd_5df73203 : (Jvm.Cond.instanceMethod ({ cls := "TreePress$Reader", name := "failureOfHead", desc := "(LTreePress$Row;)I" } : Jvm.MethodName)) ∈ kb_T := kb_t2 21 (by decide +kernel) (by decide +kernel)
theorem wd_849b4cd1 : (Jvm.Cond.selects "TreePress$Reader" ({ cls := "TreePress$Reader", name := "failureOfHead", desc := "(LTreePress$Row;)I" } : Jvm.MethodName) ({ cls := "TreePress$Reader", name := "failureOfHead", desc := "(LTreePress$Row;)I" } : Jvm.MethodName)) ∈ kb_T := kb_t2 22 (by decide +kernel) (by decide +kernel)
theorem wd_5a273ca5 : (Jvm.Cond.code ({ cls := "TreePress$Reader", name := "failureOfHead", desc := "(LTreePress$Row;)I" } : Jvm.MethodName) prog_2_method_2_code (6 : Nat) (Option.some Jvm.ClassFile.FieldType.int)) ∈ kb_T := kb_t2 23 (by decide +kernel) (by decide +kernel)
theorem hd_088e31de : (⟨"TreePress$Reader", "failureOfHead", "(LTreePress$Row;)I"⟩ : MethodName).cls ≠ "java/lang/invoke/MethodHandle" ∧ (⟨"TreePress$Reader", "failureOfHead", "(LTreePress$Row;)I"⟩ : MethodName).cls ≠ "java/lang/invoke/VarHandle" ∧ (parseMethodDescriptor (⟨"TreePress$Reader", "failureOfHead", "(LTreePress$Row;)I"⟩ : MethodName).desc).map (fun d => d.parameters.length) = some 1 := by decide +kernel
theorem wd_b7ad6793 : (Jvm.Cond.methodLink "TreePress" (128 : Nat) ({ cls := "TreePress$Tree", name := "makeFirstThePlace", desc := "()V" } : Jvm.MethodName)) ∈ kb_T := kb_t2 134 (by decide +kernel) (by decide +kernel)
theorem wd_8b8de08e : (Jvm.Cond.instanceMethod ({ cls := "TreePress$Tree", name := "makeFirstThePlace", desc := "()V" } : Jvm.MethodName)) ∈ kb_T := kb_t2 135 (by decide +kernel) (by decide +kernel)
theorem wd_329d51d3 : (Jvm.Cond.selects "TreePress$Tree" ({ cls := "TreePress$Tree", name := "makeFirstThePlace", desc := "()V" } : Jvm.MethodName) ({ cls := "TreePress$Tree", name := "makeFirstThePlace", desc := "()V" } : Jvm.MethodName)) ∈ kb_T := kb_t2 136 (by decide +kernel) (by decide +kernel)
theorem wd_72b6c249 : (Jvm.Cond.code ({ cls := "TreePress$Tree", name := "makeFirstThePlace", desc := "()V" } : Jvm.MethodName) prog_4_method_21_code (1 : Nat) (Option.none : Option Jvm.ClassFile.FieldType)) ∈ kb_T := kb_t2 137 (by decide +kernel) (by decide +kernel)
theorem hd_5d0c0cc3 : (⟨"TreePress$Tree", "makeFirstThePlace", "()V"⟩ : MethodName).cls ≠ "java/lang/invoke/MethodHandle" ∧ (⟨"TreePress$Tree", "makeFirstThePlace", "()V"⟩ : MethodName).cls ≠ "java/lang/invoke/VarHandle" ∧ (parseMethodDescriptor (⟨"TreePress$Tree", "makeFirstThePlace", "()V"⟩ : MethodName).desc).map (fun d => d.parameters.length) = some 0 := by decide +kernel
theorem wd_b4350c08 : (Jvm.Cond.methodLink "TreePress" (131 : Nat) ({ cls := "TreePress$Tree", name := "countOfNodes", desc := "()I" } : Jvm.MethodName)) ∈ kb_T := kb_t2 142 (by decide +kernel) (by decide +kernel)
theorem wd_4921e727 : (Jvm.Cond.methodLink "TreePress" (134 : Nat) ({ cls := "TreePress$Tree", name := "countOfProperties", desc := "()I" } : Jvm.MethodName)) ∈ kb_T := kb_t2 147 (by decide +kernel) (by decide +kernel)
theorem wd_cef057ed : (Jvm.Cond.methodLink "TreePress" (137 : Nat) ({ cls := "TreePress", name := "refuseWrongNode", desc := "(I)V" } : Jvm.MethodName)) ∈ kb_T := kb_t3 97 (by decide +kernel) (by decide +kernel)
theorem wd_8ab2e778 : (Jvm.Cond.instanceMethod ({ cls := "TreePress", name := "refuseWrongNode", desc := "(I)V" } : Jvm.MethodName)) ∈ kb_T := kb_t3 99 (by decide +kernel) (by decide +kernel)
theorem wd_df57965e : Cond.selects "TreePress" ⟨"TreePress", "refuseWrongNode", "(I)V"⟩ ⟨"TreePress", "refuseWrongNode", "(I)V"⟩ ∈ kb_T := kb_t0 (y := ⟨"TreePress", "refuseWrongNode", "(I)V"⟩) (n := 5) (by decide +kernel) (by decide +kernel)
theorem wd_aac2f91e : (Jvm.Cond.code ({ cls := "TreePress", name := "refuseWrongNode", desc := "(I)V" } : Jvm.MethodName) prog_1_method_21_code (2 : Nat) (Option.none : Option Jvm.ClassFile.FieldType)) ∈ kb_T := kb_t3 100 (by decide +kernel) (by decide +kernel)
theorem hd_9eec11a5 : (⟨"TreePress", "refuseWrongNode", "(I)V"⟩ : MethodName).cls ≠ "java/lang/invoke/MethodHandle" ∧ (⟨"TreePress", "refuseWrongNode", "(I)V"⟩ : MethodName).cls ≠ "java/lang/invoke/VarHandle" ∧ (parseMethodDescriptor (⟨"TreePress", "refuseWrongNode", "(I)V"⟩ : MethodName).desc).map (fun d => d.parameters.length) = some 1 := by decide +kernel
theorem wd_027edd69 : (Jvm.Cond.methodLink "TreePress" (140 : Nat) ({ cls := "TreePress$Tree", name := "parentOf", desc := "(I)I" } : Jvm.MethodName)) ∈ kb_T := kb_t3 102 (by decide +kernel) (by decide +kernel)
theorem wd_e9a4ab07 : (Jvm.Cond.instanceMethod ({ cls := "TreePress$Tree", name := "parentOf", desc := "(I)I" } : Jvm.MethodName)) ∈ kb_T := kb_t2 126 (by decide +kernel) (by decide +kernel)
theorem wd_965ae80d : (Jvm.Cond.selects "TreePress$Tree" ({ cls := "TreePress$Tree", name := "parentOf", desc := "(I)I" } : Jvm.MethodName) ({ cls := "TreePress$Tree", name := "parentOf", desc := "(I)I" } : Jvm.MethodName)) ∈ kb_T := kb_t2 127 (by decide +kernel) (by decide +kernel)
theorem wd_1d64fd41 : (Jvm.Cond.code ({ cls := "TreePress$Tree", name := "parentOf", desc := "(I)I" } : Jvm.MethodName) prog_4_method_5_code (2 : Nat) (Option.some Jvm.ClassFile.FieldType.int)) ∈ kb_T := kb_t2 128 (by decide +kernel) (by decide +kernel)
theorem hd_452d295b : (⟨"TreePress$Tree", "parentOf", "(I)I"⟩ : MethodName).cls ≠ "java/lang/invoke/MethodHandle" ∧ (⟨"TreePress$Tree", "parentOf", "(I)I"⟩ : MethodName).cls ≠ "java/lang/invoke/VarHandle" ∧ (parseMethodDescriptor (⟨"TreePress$Tree", "parentOf", "(I)I"⟩ : MethodName).desc).map (fun d => d.parameters.length) = some 1 := by decide +kernel
theorem wd_a51d1720 : (Jvm.Cond.methodLink "TreePress" (143 : Nat) ({ cls := "TreePress$Tree", name := "propertiesOf", desc := "(I)I" } : Jvm.MethodName)) ∈ kb_T := kb_t3 103 (by decide +kernel) (by decide +kernel)
theorem wd_7c0e2508 : (Jvm.Cond.methodLink "TreePress" (149 : Nat) ({ cls := "TreePress$Tree", name := "lengthOfNodeName", desc := "(I)I" } : Jvm.MethodName)) ∈ kb_T := kb_t3 105 (by decide +kernel) (by decide +kernel)
theorem wd_211cd185 : (Jvm.Cond.methodLink "TreePress" (154 : Nat) ({ cls := "TreePress", name := "refuseWrongProperty", desc := "(I)V" } : Jvm.MethodName)) ∈ kb_T := kb_t3 114 (by decide +kernel) (by decide +kernel)
theorem wd_e5093493 : (Jvm.Cond.instanceMethod ({ cls := "TreePress", name := "refuseWrongProperty", desc := "(I)V" } : Jvm.MethodName)) ∈ kb_T := kb_t3 116 (by decide +kernel) (by decide +kernel)
theorem wd_779fc113 : Cond.selects "TreePress" ⟨"TreePress", "refuseWrongProperty", "(I)V"⟩ ⟨"TreePress", "refuseWrongProperty", "(I)V"⟩ ∈ kb_T := kb_t0 (y := ⟨"TreePress", "refuseWrongProperty", "(I)V"⟩) (n := 5) (by decide +kernel) (by decide +kernel)
theorem wd_2caac5ad : (Jvm.Cond.code ({ cls := "TreePress", name := "refuseWrongProperty", desc := "(I)V" } : Jvm.MethodName) prog_1_method_22_code (2 : Nat) (Option.none : Option Jvm.ClassFile.FieldType)) ∈ kb_T := kb_t3 117 (by decide +kernel) (by decide +kernel)
theorem hd_9c0fd48f : (⟨"TreePress", "refuseWrongProperty", "(I)V"⟩ : MethodName).cls ≠ "java/lang/invoke/MethodHandle" ∧ (⟨"TreePress", "refuseWrongProperty", "(I)V"⟩ : MethodName).cls ≠ "java/lang/invoke/VarHandle" ∧ (parseMethodDescriptor (⟨"TreePress", "refuseWrongProperty", "(I)V"⟩ : MethodName).desc).map (fun d => d.parameters.length) = some 1 := by decide +kernel
theorem wd_a848cb19 : (Jvm.Cond.methodLink "TreePress" (168 : Nat) ({ cls := "TreePress", name := "refuseWrongByte", desc := "(II)V" } : Jvm.MethodName)) ∈ kb_T := kb_t3 133 (by decide +kernel) (by decide +kernel)
theorem wd_64969b3a : (Jvm.Cond.static ({ cls := "TreePress", name := "refuseWrongByte", desc := "(II)V" } : Jvm.MethodName)) ∈ kb_T := kb_t3 134 (by decide +kernel) (by decide +kernel)
theorem wd_07eee442 : (Jvm.Cond.code ({ cls := "TreePress", name := "refuseWrongByte", desc := "(II)V" } : Jvm.MethodName) prog_1_method_23_code (2 : Nat) (Option.none : Option Jvm.ClassFile.FieldType)) ∈ kb_T := kb_t3 135 (by decide +kernel) (by decide +kernel)
theorem hd_08f3cc26 : (⟨"TreePress", "refuseWrongByte", "(II)V"⟩ : MethodName).cls ≠ "java/lang/invoke/MethodHandle" ∧ (⟨"TreePress", "refuseWrongByte", "(II)V"⟩ : MethodName).cls ≠ "java/lang/invoke/VarHandle" ∧ (parseMethodDescriptor (⟨"TreePress", "refuseWrongByte", "(II)V"⟩ : MethodName).desc).map (fun d => d.parameters.length) = some 2 := by decide +kernel
theorem wd_51c0458f : (Jvm.Cond.methodLink "TreePress" (182 : Nat) ({ cls := "TreePress$Tree", name := "nodeOnPath", desc := "(LTreePress$Row;)I" } : Jvm.MethodName)) ∈ kb_T := kb_t2 152 (by decide +kernel) (by decide +kernel)
theorem wd_82694476 : (Jvm.Cond.instanceMethod ({ cls := "TreePress$Tree", name := "nodeOnPath", desc := "(LTreePress$Row;)I" } : Jvm.MethodName)) ∈ kb_T := kb_t2 153 (by decide +kernel) (by decide +kernel)
theorem wd_297977ec : (Jvm.Cond.selects "TreePress$Tree" ({ cls := "TreePress$Tree", name := "nodeOnPath", desc := "(LTreePress$Row;)I" } : Jvm.MethodName) ({ cls := "TreePress$Tree", name := "nodeOnPath", desc := "(LTreePress$Row;)I" } : Jvm.MethodName)) ∈ kb_T := kb_t2 154 (by decide +kernel) (by decide +kernel)
theorem wd_0b06b708 : (Jvm.Cond.code ({ cls := "TreePress$Tree", name := "nodeOnPath", desc := "(LTreePress$Row;)I" } : Jvm.MethodName) prog_4_method_27_code (7 : Nat) (Option.some Jvm.ClassFile.FieldType.int)) ∈ kb_T := kb_t2 155 (by decide +kernel) (by decide +kernel)
theorem hd_c7bd48b6 : (⟨"TreePress$Tree", "nodeOnPath", "(LTreePress$Row;)I"⟩ : MethodName).cls ≠ "java/lang/invoke/MethodHandle" ∧ (⟨"TreePress$Tree", "nodeOnPath", "(LTreePress$Row;)I"⟩ : MethodName).cls ≠ "java/lang/invoke/VarHandle" ∧ (parseMethodDescriptor (⟨"TreePress$Tree", "nodeOnPath", "(LTreePress$Row;)I"⟩ : MethodName).desc).map (fun d => d.parameters.length) = some 1 := by decide +kernel
theorem wd_b8a9a485 : (Jvm.Cond.methodLink "TreePress" (185 : Nat) ({ cls := "TreePress$Tree", name := "propertyNamed", desc := "(ILTreePress$Row;)I" } : Jvm.MethodName)) ∈ kb_T := kb_t3 170 (by decide +kernel) (by decide +kernel)
theorem wd_aac1b7bf : (Jvm.Cond.instanceMethod ({ cls := "TreePress$Tree", name := "propertyNamed", desc := "(ILTreePress$Row;)I" } : Jvm.MethodName)) ∈ kb_T := kb_t3 171 (by decide +kernel) (by decide +kernel)
theorem wd_9f1def76 : (Jvm.Cond.selects "TreePress$Tree" ({ cls := "TreePress$Tree", name := "propertyNamed", desc := "(ILTreePress$Row;)I" } : Jvm.MethodName) ({ cls := "TreePress$Tree", name := "propertyNamed", desc := "(ILTreePress$Row;)I" } : Jvm.MethodName)) ∈ kb_T := kb_t3 172 (by decide +kernel) (by decide +kernel)
theorem wd_74d40f9d : (Jvm.Cond.code ({ cls := "TreePress$Tree", name := "propertyNamed", desc := "(ILTreePress$Row;)I" } : Jvm.MethodName) prog_4_method_26_code (4 : Nat) (Option.some Jvm.ClassFile.FieldType.int)) ∈ kb_T := kb_t3 173 (by decide +kernel) (by decide +kernel)
theorem hd_47559c00 : (⟨"TreePress$Tree", "propertyNamed", "(ILTreePress$Row;)I"⟩ : MethodName).cls ≠ "java/lang/invoke/MethodHandle" ∧ (⟨"TreePress$Tree", "propertyNamed", "(ILTreePress$Row;)I"⟩ : MethodName).cls ≠ "java/lang/invoke/VarHandle" ∧ (parseMethodDescriptor (⟨"TreePress$Tree", "propertyNamed", "(ILTreePress$Row;)I"⟩ : MethodName).desc).map (fun d => d.parameters.length) = some 2 := by decide +kernel
theorem d_Tree_placeIsFirst_0 : decode prog_4_method_20_code 0 = .ok (.aload_n 0, 1) := by decide +kernel
theorem d_Tree_placeIsFirst_1 : decode prog_4_method_20_code 1 = .ok (.getfield 62, 3) := by decide +kernel
theorem d_Tree_placeIsFirst_4 : decode prog_4_method_20_code 4 = .ok (.ifCond .ne 7, 3) := by decide +kernel
theorem d_Tree_placeIsFirst_7 : decode prog_4_method_20_code 7 = .ok (.iconst 1, 1) := by decide +kernel
theorem d_Tree_placeIsFirst_8 : decode prog_4_method_20_code 8 = .ok (.goto 4, 3) := by decide +kernel
theorem d_Tree_placeIsFirst_12 : decode prog_4_method_20_code 12 = .ok (.ireturn, 1) := by decide +kernel
theorem d_Tree_makeFirstThePlace_0 : decode prog_4_method_21_code 0 = .ok (.aload_n 0, 1) := by decide +kernel
theorem d_Tree_makeFirstThePlace_1 : decode prog_4_method_21_code 1 = .ok (.iconst 0, 1) := by decide +kernel
theorem d_Tree_makeFirstThePlace_2 : decode prog_4_method_21_code 2 = .ok (.putfield 62, 3) := by decide +kernel
theorem d_Tree_makeFirstThePlace_5 : decode prog_4_method_21_code 5 = .ok (.return_, 1) := by decide +kernel
theorem d_Tree_firstNamed_0 : decode prog_4_method_25_code 0 = .ok (.iload_n 1, 1) := by decide +kernel
theorem d_Tree_firstNamed_1 : decode prog_4_method_25_code 1 = .ok (.istore 6, 2) := by decide +kernel
theorem d_Tree_firstNamed_3 : decode prog_4_method_25_code 3 = .ok (.iload 6, 2) := by decide +kernel
theorem d_Tree_firstNamed_5 : decode prog_4_method_25_code 5 = .ok (.iload_n 2, 1) := by decide +kernel
theorem d_Tree_firstNamed_6 : decode prog_4_method_25_code 6 = .ok (.if_icmp .ge 47, 3) := by decide +kernel
theorem d_Tree_firstNamed_53 : decode prog_4_method_25_code 53 = .ok (.iconst (-1), 1) := by decide +kernel
theorem d_Tree_firstNamed_54 : decode prog_4_method_25_code 54 = .ok (.ireturn, 1) := by decide +kernel
theorem d_Tree_propertyNamed_0 : decode prog_4_method_26_code 0 = .ok (.aload_n 0, 1) := by decide +kernel
theorem d_Tree_propertyNamed_1 : decode prog_4_method_26_code 1 = .ok (.iload_n 1, 1) := by decide +kernel
theorem d_Tree_propertyNamed_2 : decode prog_4_method_26_code 2 = .ok (.invokevirtual 114, 3) := by decide +kernel
theorem d_Tree_propertyNamed_5 : decode prog_4_method_26_code 5 = .ok (.istore_n 3, 1) := by decide +kernel
theorem d_Tree_propertyNamed_6 : decode prog_4_method_26_code 6 = .ok (.aload_n 0, 1) := by decide +kernel
theorem d_Tree_propertyNamed_7 : decode prog_4_method_26_code 7 = .ok (.iload_n 3, 1) := by decide +kernel
theorem d_Tree_propertyNamed_8 : decode prog_4_method_26_code 8 = .ok (.iload_n 3, 1) := by decide +kernel
theorem d_Tree_propertyNamed_9 : decode prog_4_method_26_code 9 = .ok (.aload_n 0, 1) := by decide +kernel
theorem d_Tree_propertyNamed_10 : decode prog_4_method_26_code 10 = .ok (.iload_n 1, 1) := by decide +kernel
theorem d_Tree_propertyNamed_11 : decode prog_4_method_26_code 11 = .ok (.invokevirtual 100, 3) := by decide +kernel
theorem d_Tree_propertyNamed_14 : decode prog_4_method_26_code 14 = .ok (.iadd, 1) := by decide +kernel
theorem d_Tree_propertyNamed_15 : decode prog_4_method_26_code 15 = .ok (.aload_n 2, 1) := by decide +kernel
theorem d_Tree_propertyNamed_16 : decode prog_4_method_26_code 16 = .ok (.iconst 0, 1) := by decide +kernel
theorem d_Tree_propertyNamed_17 : decode prog_4_method_26_code 17 = .ok (.aload_n 2, 1) := by decide +kernel
theorem d_Tree_propertyNamed_18 : decode prog_4_method_26_code 18 = .ok (.invokevirtual 69, 3) := by decide +kernel
theorem d_Tree_propertyNamed_21 : decode prog_4_method_26_code 21 = .ok (.invokevirtual 96, 3) := by decide +kernel
theorem d_Tree_propertyNamed_24 : decode prog_4_method_26_code 24 = .ok (.ireturn, 1) := by decide +kernel
theorem d_Tree_nodeOnPath_0 : decode prog_4_method_27_code 0 = .ok (.aload_n 1, 1) := by decide +kernel
theorem d_Tree_nodeOnPath_1 : decode prog_4_method_27_code 1 = .ok (.invokevirtual 69, 3) := by decide +kernel
theorem d_Tree_nodeOnPath_4 : decode prog_4_method_27_code 4 = .ok (.istore_n 2, 1) := by decide +kernel
theorem d_Tree_nodeOnPath_5 : decode prog_4_method_27_code 5 = .ok (.iload_n 2, 1) := by decide +kernel
theorem d_Tree_nodeOnPath_6 : decode prog_4_method_27_code 6 = .ok (.iconst 1, 1) := by decide +kernel
theorem d_Tree_nodeOnPath_7 : decode prog_4_method_27_code 7 = .ok (.if_icmp .ne 15, 3) := by decide +kernel
theorem d_Tree_nodeOnPath_22 : decode prog_4_method_27_code 22 = .ok (.iconst 0, 1) := by decide +kernel
theorem d_Tree_nodeOnPath_23 : decode prog_4_method_27_code 23 = .ok (.istore_n 3, 1) := by decide +kernel
theorem d_Tree_nodeOnPath_24 : decode prog_4_method_27_code 24 = .ok (.iconst 0, 1) := by decide +kernel
theorem d_Tree_nodeOnPath_25 : decode prog_4_method_27_code 25 = .ok (.istore 4, 2) := by decide +kernel
theorem d_Tree_nodeOnPath_27 : decode prog_4_method_27_code 27 = .ok (.iconst 0, 1) := by decide +kernel
theorem d_Tree_nodeOnPath_28 : decode prog_4_method_27_code 28 = .ok (.istore 5, 2) := by decide +kernel
theorem d_Tree_nodeOnPath_30 : decode prog_4_method_27_code 30 = .ok (.iload 5, 2) := by decide +kernel
theorem d_Tree_nodeOnPath_32 : decode prog_4_method_27_code 32 = .ok (.bipush 16, 2) := by decide +kernel
theorem d_Tree_nodeOnPath_34 : decode prog_4_method_27_code 34 = .ok (.if_icmp .ge 68, 3) := by decide +kernel
theorem d_Tree_nodeOnPath_37 : decode prog_4_method_27_code 37 = .ok (.iload 4, 2) := by decide +kernel
theorem d_Tree_nodeOnPath_39 : decode prog_4_method_27_code 39 = .ok (.iload_n 2, 1) := by decide +kernel
theorem d_Tree_nodeOnPath_40 : decode prog_4_method_27_code 40 = .ok (.if_icmp .ge 62, 3) := by decide +kernel
theorem d_Tree_nodeOnPath_102 : decode prog_4_method_27_code 102 = .ok (.iload 4, 2) := by decide +kernel
theorem d_Tree_nodeOnPath_104 : decode prog_4_method_27_code 104 = .ok (.iload_n 2, 1) := by decide +kernel
theorem d_Tree_nodeOnPath_105 : decode prog_4_method_27_code 105 = .ok (.if_icmp .ge 7, 3) := by decide +kernel
theorem d_Tree_nodeOnPath_112 : decode prog_4_method_27_code 112 = .ok (.iload_n 3, 1) := by decide +kernel
theorem d_Tree_nodeOnPath_113 : decode prog_4_method_27_code 113 = .ok (.ireturn, 1) := by decide +kernel
theorem d_Rd_failureOfHead_0 : decode prog_2_method_2_code 0 = .ok (.aload_n 1, 1) := by decide +kernel
theorem d_Rd_failureOfHead_1 : decode prog_2_method_2_code 1 = .ok (.invokevirtual 9, 3) := by decide +kernel
theorem d_Rd_failureOfHead_4 : decode prog_2_method_2_code 4 = .ok (.istore_n 2, 1) := by decide +kernel
theorem d_Rd_failureOfHead_5 : decode prog_2_method_2_code 5 = .ok (.iconst 0, 1) := by decide +kernel
theorem d_Rd_failureOfHead_6 : decode prog_2_method_2_code 6 = .ok (.istore_n 3, 1) := by decide +kernel
theorem d_Rd_failureOfHead_7 : decode prog_2_method_2_code 7 = .ok (.iload_n 3, 1) := by decide +kernel
theorem d_Rd_failureOfHead_8 : decode prog_2_method_2_code 8 = .ok (.bipush 10, 2) := by decide +kernel
theorem d_Rd_failureOfHead_10 : decode prog_2_method_2_code 10 = .ok (.if_icmp .ge 51, 3) := by decide +kernel
theorem d_Rd_failureOfHead_13 : decode prog_2_method_2_code 13 = .ok (.iload_n 3, 1) := by decide +kernel
theorem d_Rd_failureOfHead_14 : decode prog_2_method_2_code 14 = .ok (.iconst 4, 1) := by decide +kernel
theorem d_Rd_failureOfHead_15 : decode prog_2_method_2_code 15 = .ok (.imul, 1) := by decide +kernel
theorem d_Rd_failureOfHead_16 : decode prog_2_method_2_code 16 = .ok (.istore 4, 2) := by decide +kernel
theorem d_Rd_failureOfHead_18 : decode prog_2_method_2_code 18 = .ok (.iload 4, 2) := by decide +kernel
theorem d_Rd_failureOfHead_20 : decode prog_2_method_2_code 20 = .ok (.bipush 12, 2) := by decide +kernel
theorem d_Rd_failureOfHead_22 : decode prog_2_method_2_code 22 = .ok (.if_icmp .ne 8, 3) := by decide +kernel
theorem d_Rd_failureOfHead_30 : decode prog_2_method_2_code 30 = .ok (.iload 4, 2) := by decide +kernel
theorem d_Rd_failureOfHead_32 : decode prog_2_method_2_code 32 = .ok (.iconst 4, 1) := by decide +kernel
theorem d_Rd_failureOfHead_33 : decode prog_2_method_2_code 33 = .ok (.iadd, 1) := by decide +kernel
theorem d_Rd_failureOfHead_34 : decode prog_2_method_2_code 34 = .ok (.istore 5, 2) := by decide +kernel
theorem d_Rd_failureOfHead_36 : decode prog_2_method_2_code 36 = .ok (.iload_n 2, 1) := by decide +kernel
theorem d_Rd_failureOfHead_37 : decode prog_2_method_2_code 37 = .ok (.iload 5, 2) := by decide +kernel
theorem d_Rd_failureOfHead_39 : decode prog_2_method_2_code 39 = .ok (.if_icmp .ge 5, 3) := by decide +kernel
theorem d_Rd_failureOfHead_42 : decode prog_2_method_2_code 42 = .ok (.iload_n 2, 1) := by decide +kernel
theorem d_Rd_failureOfHead_43 : decode prog_2_method_2_code 43 = .ok (.ireturn, 1) := by decide +kernel
theorem d_Press_feed_0 : decode prog_1_method_2_code 0 = .ok (.aload_n 0, 1) := by decide +kernel
theorem d_Press_feed_1 : decode prog_1_method_2_code 1 = .ok (.getfield 12, 3) := by decide +kernel
theorem d_Press_feed_4 : decode prog_1_method_2_code 4 = .ok (.invokevirtual 36, 3) := by decide +kernel
theorem d_Press_feed_7 : decode prog_1_method_2_code 7 = .ok (.ldc 40, 2) := by decide +kernel
theorem d_Press_feed_9 : decode prog_1_method_2_code 9 = .ok (.if_icmp .le 13, 3) := by decide +kernel
theorem d_Press_feed_22 : decode prog_1_method_2_code 22 = .ok (.aload_n 0, 1) := by decide +kernel
theorem d_Press_feed_23 : decode prog_1_method_2_code 23 = .ok (.getfield 12, 3) := by decide +kernel
theorem d_Press_feed_26 : decode prog_1_method_2_code 26 = .ok (.iload_n 1, 1) := by decide +kernel
theorem d_Press_feed_27 : decode prog_1_method_2_code 27 = .ok (.invokevirtual 48, 3) := by decide +kernel
theorem d_Press_feed_30 : decode prog_1_method_2_code 30 = .ok (.aload_n 0, 1) := by decide +kernel
theorem d_Press_feed_31 : decode prog_1_method_2_code 31 = .ok (.getfield 12, 3) := by decide +kernel
theorem d_Press_feed_34 : decode prog_1_method_2_code 34 = .ok (.iload_n 2, 1) := by decide +kernel
theorem d_Press_feed_35 : decode prog_1_method_2_code 35 = .ok (.invokevirtual 48, 3) := by decide +kernel
theorem d_Press_feed_38 : decode prog_1_method_2_code 38 = .ok (.aload_n 0, 1) := by decide +kernel
theorem d_Press_feed_39 : decode prog_1_method_2_code 39 = .ok (.getfield 12, 3) := by decide +kernel
theorem d_Press_feed_42 : decode prog_1_method_2_code 42 = .ok (.iload_n 3, 1) := by decide +kernel
theorem d_Press_feed_43 : decode prog_1_method_2_code 43 = .ok (.invokevirtual 48, 3) := by decide +kernel
theorem d_Press_feed_46 : decode prog_1_method_2_code 46 = .ok (.aload_n 0, 1) := by decide +kernel
theorem d_Press_feed_47 : decode prog_1_method_2_code 47 = .ok (.getfield 12, 3) := by decide +kernel
theorem d_Press_feed_50 : decode prog_1_method_2_code 50 = .ok (.iload 4, 2) := by decide +kernel
theorem d_Press_feed_52 : decode prog_1_method_2_code 52 = .ok (.invokevirtual 48, 3) := by decide +kernel
theorem d_Press_feed_55 : decode prog_1_method_2_code 55 = .ok (.aload_n 0, 1) := by decide +kernel
theorem d_Press_feed_56 : decode prog_1_method_2_code 56 = .ok (.getfield 12, 3) := by decide +kernel
theorem d_Press_feed_59 : decode prog_1_method_2_code 59 = .ok (.iload 5, 2) := by decide +kernel
theorem d_Press_feed_61 : decode prog_1_method_2_code 61 = .ok (.invokevirtual 48, 3) := by decide +kernel
theorem d_Press_feed_64 : decode prog_1_method_2_code 64 = .ok (.aload_n 0, 1) := by decide +kernel
theorem d_Press_feed_65 : decode prog_1_method_2_code 65 = .ok (.getfield 12, 3) := by decide +kernel
theorem d_Press_feed_68 : decode prog_1_method_2_code 68 = .ok (.invokevirtual 36, 3) := by decide +kernel
theorem d_Press_feed_71 : decode prog_1_method_2_code 71 = .ok (.ireturn, 1) := by decide +kernel
theorem d_Press_end_0 : decode prog_1_method_3_code 0 = .ok (.iload_n 1, 1) := by decide +kernel
theorem d_Press_end_1 : decode prog_1_method_3_code 1 = .ok (.ifCond .lt 14, 3) := by decide +kernel
theorem d_Press_end_4 : decode prog_1_method_3_code 4 = .ok (.iload_n 1, 1) := by decide +kernel
theorem d_Press_end_5 : decode prog_1_method_3_code 5 = .ok (.aload_n 0, 1) := by decide +kernel
theorem d_Press_end_6 : decode prog_1_method_3_code 6 = .ok (.getfield 12, 3) := by decide +kernel
theorem d_Press_end_9 : decode prog_1_method_3_code 9 = .ok (.invokevirtual 36, 3) := by decide +kernel
theorem d_Press_end_12 : decode prog_1_method_3_code 12 = .ok (.if_icmp .le 13, 3) := by decide +kernel
theorem d_Press_end_25 : decode prog_1_method_3_code 25 = .ok (.aload_n 0, 1) := by decide +kernel
theorem d_Press_end_26 : decode prog_1_method_3_code 26 = .ok (.getfield 12, 3) := by decide +kernel
theorem d_Press_end_29 : decode prog_1_method_3_code 29 = .ok (.iload_n 1, 1) := by decide +kernel
theorem d_Press_end_30 : decode prog_1_method_3_code 30 = .ok (.invokevirtual 57, 3) := by decide +kernel
theorem d_Press_end_33 : decode prog_1_method_3_code 33 = .ok (.return_, 1) := by decide +kernel
theorem d_Press_end_15 : decode prog_1_method_3_code 15 = .ok (.new 52, 3) := by decide +kernel
theorem d_Press_end_18 : decode prog_1_method_3_code 18 = .ok (.dup, 1) := by decide +kernel
theorem d_Press_end_19 : decode prog_1_method_3_code 19 = .ok (.ldc 54, 2) := by decide +kernel
theorem d_Press_end_21 : decode prog_1_method_3_code 21 = .ok (.invokespecial 56, 3) := by decide +kernel
theorem d_Press_end_24 : decode prog_1_method_3_code 24 = .ok (.athrow, 1) := by decide +kernel
theorem d_Press_clear_0 : decode prog_1_method_4_code 0 = .ok (.aload_n 0, 1) := by decide +kernel
theorem d_Press_clear_1 : decode prog_1_method_4_code 1 = .ok (.getfield 29, 3) := by decide +kernel
theorem d_Press_clear_4 : decode prog_1_method_4_code 4 = .ok (.invokevirtual 60, 3) := by decide +kernel
theorem d_Press_clear_7 : decode prog_1_method_4_code 7 = .ok (.return_, 1) := by decide +kernel
theorem d_Press_open_0 : decode prog_1_method_5_code 0 = .ok (.aload_n 0, 1) := by decide +kernel
theorem d_Press_open_1 : decode prog_1_method_5_code 1 = .ok (.getfield 12, 3) := by decide +kernel
theorem d_Press_open_4 : decode prog_1_method_5_code 4 = .ok (.invokevirtual 36, 3) := by decide +kernel
theorem d_Press_open_7 : decode prog_1_method_5_code 7 = .ok (.istore_n 1, 1) := by decide +kernel
theorem d_Press_open_8 : decode prog_1_method_5_code 8 = .ok (.aload_n 0, 1) := by decide +kernel
theorem d_Press_open_9 : decode prog_1_method_5_code 9 = .ok (.getfield 12, 3) := by decide +kernel
theorem d_Press_open_12 : decode prog_1_method_5_code 12 = .ok (.iconst 0, 1) := by decide +kernel
theorem d_Press_open_13 : decode prog_1_method_5_code 13 = .ok (.iload_n 1, 1) := by decide +kernel
theorem d_Press_open_14 : decode prog_1_method_5_code 14 = .ok (.invokevirtual 63, 3) := by decide +kernel
theorem d_Press_open_17 : decode prog_1_method_5_code 17 = .ok (.ifCond .ne 13, 3) := by decide +kernel
theorem d_Press_open_20 : decode prog_1_method_5_code 20 = .ok (.new 52, 3) := by decide +kernel
theorem d_Press_open_23 : decode prog_1_method_5_code 23 = .ok (.dup, 1) := by decide +kernel
theorem d_Press_open_24 : decode prog_1_method_5_code 24 = .ok (.ldc 67, 2) := by decide +kernel
theorem d_Press_open_26 : decode prog_1_method_5_code 26 = .ok (.invokespecial 56, 3) := by decide +kernel
theorem d_Press_open_29 : decode prog_1_method_5_code 29 = .ok (.athrow, 1) := by decide +kernel
theorem d_Press_property_0 : decode prog_1_method_6_code 0 = .ok (.aload_n 0, 1) := by decide +kernel
theorem d_Press_property_1 : decode prog_1_method_6_code 1 = .ok (.getfield 12, 3) := by decide +kernel
theorem d_Press_property_4 : decode prog_1_method_6_code 4 = .ok (.invokevirtual 36, 3) := by decide +kernel
theorem d_Press_property_7 : decode prog_1_method_6_code 7 = .ok (.istore_n 2, 1) := by decide +kernel
theorem d_Press_property_8 : decode prog_1_method_6_code 8 = .ok (.iload_n 1, 1) := by decide +kernel
theorem d_Press_property_9 : decode prog_1_method_6_code 9 = .ok (.ifCond .lt 20, 3) := by decide +kernel
theorem d_Press_property_29 : decode prog_1_method_6_code 29 = .ok (.new 52, 3) := by decide +kernel
theorem d_Press_property_32 : decode prog_1_method_6_code 32 = .ok (.dup, 1) := by decide +kernel
theorem d_Press_property_33 : decode prog_1_method_6_code 33 = .ok (.ldc 82, 2) := by decide +kernel
theorem d_Press_property_35 : decode prog_1_method_6_code 35 = .ok (.invokespecial 56, 3) := by decide +kernel
theorem d_Press_property_38 : decode prog_1_method_6_code 38 = .ok (.athrow, 1) := by decide +kernel
theorem d_Press_property_12 : decode prog_1_method_6_code 12 = .ok (.iload_n 1, 1) := by decide +kernel
theorem d_Press_property_13 : decode prog_1_method_6_code 13 = .ok (.iload_n 2, 1) := by decide +kernel
theorem d_Press_property_14 : decode prog_1_method_6_code 14 = .ok (.if_icmp .gt 15, 3) := by decide +kernel
theorem d_Press_property_17 : decode prog_1_method_6_code 17 = .ok (.aload_n 0, 1) := by decide +kernel
theorem d_Press_property_18 : decode prog_1_method_6_code 18 = .ok (.getfield 12, 3) := by decide +kernel
theorem d_Press_property_21 : decode prog_1_method_6_code 21 = .ok (.iconst 0, 1) := by decide +kernel
theorem d_Press_property_22 : decode prog_1_method_6_code 22 = .ok (.iload_n 1, 1) := by decide +kernel
theorem d_Press_property_23 : decode prog_1_method_6_code 23 = .ok (.invokevirtual 63, 3) := by decide +kernel
theorem d_Press_property_26 : decode prog_1_method_6_code 26 = .ok (.ifCond .ne 13, 3) := by decide +kernel
theorem d_Press_close_0 : decode prog_1_method_7_code 0 = .ok (.aload_n 0, 1) := by decide +kernel
theorem d_Press_close_1 : decode prog_1_method_7_code 1 = .ok (.getfield 29, 3) := by decide +kernel
theorem d_Press_close_4 : decode prog_1_method_7_code 4 = .ok (.invokevirtual 96, 3) := by decide +kernel
theorem d_Press_close_7 : decode prog_1_method_7_code 7 = .ok (.ifCond .eq 13, 3) := by decide +kernel
theorem d_Press_close_10 : decode prog_1_method_7_code 10 = .ok (.new 52, 3) := by decide +kernel
theorem d_Press_close_13 : decode prog_1_method_7_code 13 = .ok (.dup, 1) := by decide +kernel
theorem d_Press_close_14 : decode prog_1_method_7_code 14 = .ok (.ldc 99, 2) := by decide +kernel
theorem d_Press_close_16 : decode prog_1_method_7_code 16 = .ok (.invokespecial 56, 3) := by decide +kernel
theorem d_Press_close_19 : decode prog_1_method_7_code 19 = .ok (.athrow, 1) := by decide +kernel
theorem d_Press_lay_0 : decode prog_1_method_8_code 0 = .ok (.aload_n 0, 1) := by decide +kernel
theorem d_Press_lay_1 : decode prog_1_method_8_code 1 = .ok (.getfield 29, 3) := by decide +kernel
theorem d_Press_lay_4 : decode prog_1_method_8_code 4 = .ok (.aload_n 0, 1) := by decide +kernel
theorem d_Press_lay_5 : decode prog_1_method_8_code 5 = .ok (.getfield 16, 3) := by decide +kernel
theorem d_Press_lay_8 : decode prog_1_method_8_code 8 = .ok (.invokevirtual 104, 3) := by decide +kernel
theorem d_Press_lay_11 : decode prog_1_method_8_code 11 = .ok (.aload_n 0, 1) := by decide +kernel
theorem d_Press_lay_12 : decode prog_1_method_8_code 12 = .ok (.getfield 16, 3) := by decide +kernel
theorem d_Press_lay_15 : decode prog_1_method_8_code 15 = .ok (.invokevirtual 36, 3) := by decide +kernel
theorem d_Press_lay_18 : decode prog_1_method_8_code 18 = .ok (.ireturn, 1) := by decide +kernel
theorem d_Press_laid_0 : decode prog_1_method_9_code 0 = .ok (.iload_n 1, 1) := by decide +kernel
theorem d_Press_laid_1 : decode prog_1_method_9_code 1 = .ok (.ifCond .lt 14, 3) := by decide +kernel
theorem d_Press_laid_15 : decode prog_1_method_9_code 15 = .ok (.new 108, 3) := by decide +kernel
theorem d_Press_laid_18 : decode prog_1_method_9_code 18 = .ok (.dup, 1) := by decide +kernel
theorem d_Press_laid_19 : decode prog_1_method_9_code 19 = .ok (.ldc 110, 2) := by decide +kernel
theorem d_Press_laid_21 : decode prog_1_method_9_code 21 = .ok (.invokespecial 112, 3) := by decide +kernel
theorem d_Press_laid_24 : decode prog_1_method_9_code 24 = .ok (.athrow, 1) := by decide +kernel
theorem d_Press_laid_4 : decode prog_1_method_9_code 4 = .ok (.iload_n 1, 1) := by decide +kernel
theorem d_Press_laid_5 : decode prog_1_method_9_code 5 = .ok (.aload_n 0, 1) := by decide +kernel
theorem d_Press_laid_6 : decode prog_1_method_9_code 6 = .ok (.getfield 16, 3) := by decide +kernel
theorem d_Press_laid_9 : decode prog_1_method_9_code 9 = .ok (.invokevirtual 36, 3) := by decide +kernel
theorem d_Press_laid_12 : decode prog_1_method_9_code 12 = .ok (.if_icmp .lt 13, 3) := by decide +kernel
theorem d_Press_read_0 : decode prog_1_method_10_code 0 = .ok (.aload_n 0, 1) := by decide +kernel
theorem d_Press_read_1 : decode prog_1_method_10_code 1 = .ok (.getfield 22, 3) := by decide +kernel
theorem d_Press_read_4 : decode prog_1_method_10_code 4 = .ok (.aload_n 0, 1) := by decide +kernel
theorem d_Press_read_5 : decode prog_1_method_10_code 5 = .ok (.getfield 12, 3) := by decide +kernel
theorem d_Press_read_8 : decode prog_1_method_10_code 8 = .ok (.invokevirtual 117, 3) := by decide +kernel
theorem d_Press_read_11 : decode prog_1_method_10_code 11 = .ok (.istore_n 1, 1) := by decide +kernel
theorem d_Press_read_12 : decode prog_1_method_10_code 12 = .ok (.iload_n 1, 1) := by decide +kernel
theorem d_Press_read_13 : decode prog_1_method_10_code 13 = .ok (.iconst (-1), 1) := by decide +kernel
theorem d_Press_read_14 : decode prog_1_method_10_code 14 = .ok (.if_icmp .ne 19, 3) := by decide +kernel
theorem d_Press_read_33 : decode prog_1_method_10_code 33 = .ok (.aload_n 0, 1) := by decide +kernel
theorem d_Press_read_34 : decode prog_1_method_10_code 34 = .ok (.getfield 12, 3) := by decide +kernel
theorem d_Press_read_37 : decode prog_1_method_10_code 37 = .ok (.iconst 0, 1) := by decide +kernel
theorem d_Press_read_38 : decode prog_1_method_10_code 38 = .ok (.invokevirtual 57, 3) := by decide +kernel
theorem d_Press_read_41 : decode prog_1_method_10_code 41 = .ok (.iload_n 1, 1) := by decide +kernel
theorem d_Press_read_42 : decode prog_1_method_10_code 42 = .ok (.iconst (-1), 1) := by decide +kernel
theorem d_Press_read_43 : decode prog_1_method_10_code 43 = .ok (.if_icmp .ne 7, 3) := by decide +kernel
theorem d_Press_read_50 : decode prog_1_method_10_code 50 = .ok (.aload_n 0, 1) := by decide +kernel
theorem d_Press_read_51 : decode prog_1_method_10_code 51 = .ok (.getfield 29, 3) := by decide +kernel
theorem d_Press_read_54 : decode prog_1_method_10_code 54 = .ok (.invokevirtual 128, 3) := by decide +kernel
theorem d_Press_read_57 : decode prog_1_method_10_code 57 = .ok (.iload_n 1, 1) := by decide +kernel
theorem d_Press_read_58 : decode prog_1_method_10_code 58 = .ok (.ireturn, 1) := by decide +kernel
theorem d_Press_nodes_0 : decode prog_1_method_11_code 0 = .ok (.aload_n 0, 1) := by decide +kernel
theorem d_Press_nodes_1 : decode prog_1_method_11_code 1 = .ok (.getfield 29, 3) := by decide +kernel
theorem d_Press_nodes_4 : decode prog_1_method_11_code 4 = .ok (.invokevirtual 131, 3) := by decide +kernel
theorem d_Press_nodes_7 : decode prog_1_method_11_code 7 = .ok (.ireturn, 1) := by decide +kernel
theorem d_Press_properties_0 : decode prog_1_method_12_code 0 = .ok (.aload_n 0, 1) := by decide +kernel
theorem d_Press_properties_1 : decode prog_1_method_12_code 1 = .ok (.getfield 29, 3) := by decide +kernel
theorem d_Press_properties_4 : decode prog_1_method_12_code 4 = .ok (.invokevirtual 134, 3) := by decide +kernel
theorem d_Press_properties_7 : decode prog_1_method_12_code 7 = .ok (.ireturn, 1) := by decide +kernel
theorem d_Press_refuseWrongNode_0 : decode prog_1_method_21_code 0 = .ok (.iload_n 1, 1) := by decide +kernel
theorem d_Press_refuseWrongNode_1 : decode prog_1_method_21_code 1 = .ok (.ifCond .lt 14, 3) := by decide +kernel
theorem d_Press_refuseWrongNode_4 : decode prog_1_method_21_code 4 = .ok (.iload_n 1, 1) := by decide +kernel
theorem d_Press_refuseWrongNode_5 : decode prog_1_method_21_code 5 = .ok (.aload_n 0, 1) := by decide +kernel
theorem d_Press_refuseWrongNode_6 : decode prog_1_method_21_code 6 = .ok (.getfield 29, 3) := by decide +kernel
theorem d_Press_refuseWrongNode_9 : decode prog_1_method_21_code 9 = .ok (.invokevirtual 131, 3) := by decide +kernel
theorem d_Press_refuseWrongNode_12 : decode prog_1_method_21_code 12 = .ok (.if_icmp .lt 13, 3) := by decide +kernel
theorem d_Press_refuseWrongNode_25 : decode prog_1_method_21_code 25 = .ok (.return_, 1) := by decide +kernel
theorem d_Press_refuseWrongNode_15 : decode prog_1_method_21_code 15 = .ok (.new 108, 3) := by decide +kernel
theorem d_Press_refuseWrongNode_18 : decode prog_1_method_21_code 18 = .ok (.dup, 1) := by decide +kernel
theorem d_Press_refuseWrongNode_19 : decode prog_1_method_21_code 19 = .ok (.ldc 189, 2) := by decide +kernel
theorem d_Press_refuseWrongNode_21 : decode prog_1_method_21_code 21 = .ok (.invokespecial 112, 3) := by decide +kernel
theorem d_Press_refuseWrongNode_24 : decode prog_1_method_21_code 24 = .ok (.athrow, 1) := by decide +kernel
theorem d_Press_refuseWrongProperty_0 : decode prog_1_method_22_code 0 = .ok (.iload_n 1, 1) := by decide +kernel
theorem d_Press_refuseWrongProperty_1 : decode prog_1_method_22_code 1 = .ok (.ifCond .lt 14, 3) := by decide +kernel
theorem d_Press_refuseWrongProperty_15 : decode prog_1_method_22_code 15 = .ok (.new 108, 3) := by decide +kernel
theorem d_Press_refuseWrongProperty_18 : decode prog_1_method_22_code 18 = .ok (.dup, 1) := by decide +kernel
theorem d_Press_refuseWrongProperty_19 : decode prog_1_method_22_code 19 = .ok (.ldc 191, 2) := by decide +kernel
theorem d_Press_refuseWrongProperty_21 : decode prog_1_method_22_code 21 = .ok (.invokespecial 112, 3) := by decide +kernel
theorem d_Press_refuseWrongProperty_24 : decode prog_1_method_22_code 24 = .ok (.athrow, 1) := by decide +kernel
theorem d_Press_refuseWrongProperty_4 : decode prog_1_method_22_code 4 = .ok (.iload_n 1, 1) := by decide +kernel
theorem d_Press_refuseWrongProperty_5 : decode prog_1_method_22_code 5 = .ok (.aload_n 0, 1) := by decide +kernel
theorem d_Press_refuseWrongProperty_6 : decode prog_1_method_22_code 6 = .ok (.getfield 29, 3) := by decide +kernel
theorem d_Press_refuseWrongProperty_9 : decode prog_1_method_22_code 9 = .ok (.invokevirtual 134, 3) := by decide +kernel
theorem d_Press_refuseWrongProperty_12 : decode prog_1_method_22_code 12 = .ok (.if_icmp .lt 13, 3) := by decide +kernel
theorem d_Press_refuseWrongByte_0 : decode prog_1_method_23_code 0 = .ok (.iload_n 0, 1) := by decide +kernel
theorem d_Press_refuseWrongByte_1 : decode prog_1_method_23_code 1 = .ok (.ifCond .lt 8, 3) := by decide +kernel
theorem d_Press_refuseWrongByte_9 : decode prog_1_method_23_code 9 = .ok (.new 108, 3) := by decide +kernel
theorem d_Press_refuseWrongByte_12 : decode prog_1_method_23_code 12 = .ok (.dup, 1) := by decide +kernel
theorem d_Press_refuseWrongByte_13 : decode prog_1_method_23_code 13 = .ok (.ldc 193, 2) := by decide +kernel
theorem d_Press_refuseWrongByte_15 : decode prog_1_method_23_code 15 = .ok (.invokespecial 112, 3) := by decide +kernel
theorem d_Press_refuseWrongByte_18 : decode prog_1_method_23_code 18 = .ok (.athrow, 1) := by decide +kernel
theorem d_Press_refuseWrongByte_4 : decode prog_1_method_23_code 4 = .ok (.iload_n 0, 1) := by decide +kernel
theorem d_Press_refuseWrongByte_5 : decode prog_1_method_23_code 5 = .ok (.iload_n 1, 1) := by decide +kernel
theorem d_Press_refuseWrongByte_6 : decode prog_1_method_23_code 6 = .ok (.if_icmp .lt 13, 3) := by decide +kernel
theorem d_Press_node_0 : decode prog_1_method_13_code 0 = .ok (.aload_n 0, 1) := by decide +kernel
theorem d_Press_node_1 : decode prog_1_method_13_code 1 = .ok (.iload_n 1, 1) := by decide +kernel
theorem d_Press_node_2 : decode prog_1_method_13_code 2 = .ok (.invokevirtual 137, 3) := by decide +kernel
theorem d_Press_node_5 : decode prog_1_method_13_code 5 = .ok (.iload_n 2, 1) := by decide +kernel
theorem d_Press_node_6 : decode prog_1_method_13_code 6 = .ok (.tableswitch 81 0 3 #[30, 39, 48, 72], 30) := by decide +kernel
theorem d_Press_node_36 : decode prog_1_method_13_code 36 = .ok (.aload_n 0, 1) := by decide +kernel
theorem d_Press_node_37 : decode prog_1_method_13_code 37 = .ok (.getfield 29, 3) := by decide +kernel
theorem d_Press_node_40 : decode prog_1_method_13_code 40 = .ok (.iload_n 1, 1) := by decide +kernel
theorem d_Press_node_41 : decode prog_1_method_13_code 41 = .ok (.invokevirtual 140, 3) := by decide +kernel
theorem d_Press_node_44 : decode prog_1_method_13_code 44 = .ok (.ireturn, 1) := by decide +kernel
theorem d_Press_node_45 : decode prog_1_method_13_code 45 = .ok (.aload_n 0, 1) := by decide +kernel
theorem d_Press_node_46 : decode prog_1_method_13_code 46 = .ok (.getfield 29, 3) := by decide +kernel
theorem d_Press_node_49 : decode prog_1_method_13_code 49 = .ok (.iload_n 1, 1) := by decide +kernel
theorem d_Press_node_50 : decode prog_1_method_13_code 50 = .ok (.invokevirtual 143, 3) := by decide +kernel
theorem d_Press_node_53 : decode prog_1_method_13_code 53 = .ok (.ireturn, 1) := by decide +kernel
theorem d_Press_node_54 : decode prog_1_method_13_code 54 = .ok (.aload_n 0, 1) := by decide +kernel
theorem d_Press_node_55 : decode prog_1_method_13_code 55 = .ok (.getfield 29, 3) := by decide +kernel
theorem d_Press_node_58 : decode prog_1_method_13_code 58 = .ok (.iload_n 1, 1) := by decide +kernel
theorem d_Press_node_59 : decode prog_1_method_13_code 59 = .ok (.invokevirtual 143, 3) := by decide +kernel
theorem d_Press_node_62 : decode prog_1_method_13_code 62 = .ok (.ifCond .ne 7, 3) := by decide +kernel
theorem d_Press_node_65 : decode prog_1_method_13_code 65 = .ok (.iconst (-1), 1) := by decide +kernel
theorem d_Press_node_66 : decode prog_1_method_13_code 66 = .ok (.goto 11, 3) := by decide +kernel
theorem d_Press_node_77 : decode prog_1_method_13_code 77 = .ok (.ireturn, 1) := by decide +kernel
theorem d_Press_node_78 : decode prog_1_method_13_code 78 = .ok (.aload_n 0, 1) := by decide +kernel
theorem d_Press_node_79 : decode prog_1_method_13_code 79 = .ok (.getfield 29, 3) := by decide +kernel
theorem d_Press_node_82 : decode prog_1_method_13_code 82 = .ok (.iload_n 1, 1) := by decide +kernel
theorem d_Press_node_83 : decode prog_1_method_13_code 83 = .ok (.invokevirtual 149, 3) := by decide +kernel
theorem d_Press_node_86 : decode prog_1_method_13_code 86 = .ok (.ireturn, 1) := by decide +kernel
theorem d_Press_node_87 : decode prog_1_method_13_code 87 = .ok (.new 52, 3) := by decide +kernel
theorem d_Press_node_90 : decode prog_1_method_13_code 90 = .ok (.dup, 1) := by decide +kernel
theorem d_Press_node_91 : decode prog_1_method_13_code 91 = .ok (.ldc 152, 2) := by decide +kernel
theorem d_Press_node_93 : decode prog_1_method_13_code 93 = .ok (.invokespecial 56, 3) := by decide +kernel
theorem d_Press_node_96 : decode prog_1_method_13_code 96 = .ok (.athrow, 1) := by decide +kernel
theorem d_Press_about_0 : decode prog_1_method_14_code 0 = .ok (.aload_n 0, 1) := by decide +kernel
theorem d_Press_about_1 : decode prog_1_method_14_code 1 = .ok (.iload_n 1, 1) := by decide +kernel
theorem d_Press_about_2 : decode prog_1_method_14_code 2 = .ok (.invokevirtual 154, 3) := by decide +kernel
theorem d_Press_name_0 : decode prog_1_method_16_code 0 = .ok (.aload_n 0, 1) := by decide +kernel
theorem d_Press_name_1 : decode prog_1_method_16_code 1 = .ok (.iload_n 1, 1) := by decide +kernel
theorem d_Press_name_2 : decode prog_1_method_16_code 2 = .ok (.invokevirtual 154, 3) := by decide +kernel
theorem d_Press_value_0 : decode prog_1_method_17_code 0 = .ok (.aload_n 0, 1) := by decide +kernel
theorem d_Press_value_1 : decode prog_1_method_17_code 1 = .ok (.iload_n 1, 1) := by decide +kernel
theorem d_Press_value_2 : decode prog_1_method_17_code 2 = .ok (.invokevirtual 154, 3) := by decide +kernel
theorem d_Press_nodeName_0 : decode prog_1_method_15_code 0 = .ok (.aload_n 0, 1) := by decide +kernel
theorem d_Press_nodeName_1 : decode prog_1_method_15_code 1 = .ok (.iload_n 1, 1) := by decide +kernel
theorem d_Press_nodeName_2 : decode prog_1_method_15_code 2 = .ok (.invokevirtual 137, 3) := by decide +kernel
theorem d_Press_nodeName_5 : decode prog_1_method_15_code 5 = .ok (.iload_n 2, 1) := by decide +kernel
theorem d_Press_nodeName_6 : decode prog_1_method_15_code 6 = .ok (.aload_n 0, 1) := by decide +kernel
theorem d_Press_nodeName_7 : decode prog_1_method_15_code 7 = .ok (.getfield 29, 3) := by decide +kernel
theorem d_Press_nodeName_10 : decode prog_1_method_15_code 10 = .ok (.iload_n 1, 1) := by decide +kernel
theorem d_Press_nodeName_11 : decode prog_1_method_15_code 11 = .ok (.invokevirtual 149, 3) := by decide +kernel
theorem d_Press_nodeName_14 : decode prog_1_method_15_code 14 = .ok (.invokestatic 168, 3) := by decide +kernel
theorem d_Press_find_0 : decode prog_1_method_18_code 0 = .ok (.aload_n 0, 1) := by decide +kernel
theorem d_Press_find_1 : decode prog_1_method_18_code 1 = .ok (.getfield 29, 3) := by decide +kernel
theorem d_Press_find_4 : decode prog_1_method_18_code 4 = .ok (.aload_n 0, 1) := by decide +kernel
theorem d_Press_find_5 : decode prog_1_method_18_code 5 = .ok (.getfield 12, 3) := by decide +kernel
theorem d_Press_find_8 : decode prog_1_method_18_code 8 = .ok (.invokevirtual 182, 3) := by decide +kernel
theorem d_Press_find_11 : decode prog_1_method_18_code 11 = .ok (.istore_n 1, 1) := by decide +kernel
theorem d_Press_find_12 : decode prog_1_method_18_code 12 = .ok (.aload_n 0, 1) := by decide +kernel
theorem d_Press_find_13 : decode prog_1_method_18_code 13 = .ok (.getfield 12, 3) := by decide +kernel
theorem d_Press_find_16 : decode prog_1_method_18_code 16 = .ok (.iconst 0, 1) := by decide +kernel
theorem d_Press_find_17 : decode prog_1_method_18_code 17 = .ok (.invokevirtual 57, 3) := by decide +kernel
theorem d_Press_find_20 : decode prog_1_method_18_code 20 = .ok (.iload_n 1, 1) := by decide +kernel
theorem d_Press_find_21 : decode prog_1_method_18_code 21 = .ok (.ireturn, 1) := by decide +kernel
theorem d_Press_seek_0 : decode prog_1_method_19_code 0 = .ok (.aload_n 0, 1) := by decide +kernel
theorem d_Press_seek_1 : decode prog_1_method_19_code 1 = .ok (.iload_n 1, 1) := by decide +kernel
theorem d_Press_seek_2 : decode prog_1_method_19_code 2 = .ok (.invokevirtual 137, 3) := by decide +kernel
theorem d_Press_seek_5 : decode prog_1_method_19_code 5 = .ok (.aload_n 0, 1) := by decide +kernel
theorem d_Press_seek_6 : decode prog_1_method_19_code 6 = .ok (.getfield 29, 3) := by decide +kernel
theorem d_Press_seek_9 : decode prog_1_method_19_code 9 = .ok (.iload_n 1, 1) := by decide +kernel
theorem d_Press_seek_10 : decode prog_1_method_19_code 10 = .ok (.aload_n 0, 1) := by decide +kernel
theorem d_Press_seek_11 : decode prog_1_method_19_code 11 = .ok (.getfield 12, 3) := by decide +kernel
theorem d_Press_seek_14 : decode prog_1_method_19_code 14 = .ok (.invokevirtual 185, 3) := by decide +kernel
theorem d_Press_seek_17 : decode prog_1_method_19_code 17 = .ok (.istore_n 2, 1) := by decide +kernel
theorem d_Press_seek_18 : decode prog_1_method_19_code 18 = .ok (.aload_n 0, 1) := by decide +kernel
theorem d_Press_seek_19 : decode prog_1_method_19_code 19 = .ok (.getfield 12, 3) := by decide +kernel
theorem d_Press_seek_22 : decode prog_1_method_19_code 22 = .ok (.iconst 0, 1) := by decide +kernel
theorem d_Press_seek_23 : decode prog_1_method_19_code 23 = .ok (.invokevirtual 57, 3) := by decide +kernel
theorem d_Press_seek_26 : decode prog_1_method_19_code 26 = .ok (.iload_n 2, 1) := by decide +kernel
theorem d_Press_seek_27 : decode prog_1_method_19_code 27 = .ok (.ireturn, 1) := by decide +kernel
set_option maxHeartbeats 4000000 in
set_option maxRecDepth 100000 in
theorem c_Tree_placeIsFirst (l : Launch) (G : kb_G) (h : Nat) (r0 : Nat) (r1 : Nat) (r2 : Nat) (r3 : Nat) (r4 : Nat) (r5 : Nat) (r6 : Nat) (r7 : Nat) (r8 : Nat) (r9 : Nat) (r10 : Nat) (r11 : Nat) (L : Int32) : kb_ci l G ⟨"TreePress$Tree", "placeIsFirst", "()Z"⟩ prog_4_method_20_code 1 (some .boolean) 1 0 0 [.ref h] [kb_o h 2 [.ref r0, .ref r1, .ref r2, .ref r3, .ref r4, .ref r5, .ref r6, .ref r7, .ref r8, .ref r9, .ref r10, .ref r11, .int L, .int 0]] (fun r u => r = 1) (fun u => [kb_o h 2 [.ref r0, .ref r1, .ref r2, .ref r3, .ref r4, .ref r5, .ref r6, .ref r7, .ref r8, .ref r9, .ref r10, .ref r11, .int L, .int 0]]) := by
  intro sz
  refine kb_body (QQ := fun A => kb_Qi G A (fun r u => r = 1) (fun u => [kb_o h 2 [.ref r0, .ref r1, .ref r2, .ref r3, .ref r4, .ref r5, .ref r6, .ref r7, .ref r8, .ref r9, .ref r10, .ref r11, .int L, .int 0]])) (by decide) (Nat.le_of_ble_eq_true rfl) ?_
  intro p e s m below meth c A B ls hl
  obtain ⟨hx, hb, hr, hml, hlocks, hin, hown, ht, hE, hP, hD, hS⟩ := B
  have hl : lv_has ls 1 [(0, .ref h)] := hl
  have hP0 := hP
  obtain ⟨H, hHe⟩ : ∃ H, H = s.heap := ⟨_, rfl⟩
  rw [← hHe] at hP
  have hS : va_S A s.heap H [] := by rw [hHe]; exact hS
  refine kb_at hHe ?_
  clear hHe
  refine lv_aload_n hx hb d_Tree_placeIsFirst_0 rfl (lv_at hl 0 rfl) ?_
  refine va_get (D := G.1) (ci := 2) (v := .int 0) (C := "TreePress$Tree") (T := kb_F2) (N := 14) hx hb ht kb_w2 hown hE.1 hP 0 rfl rfl 13 (by decide) (ht _ wd_f08393eb) (fun _ h9 => h9) rfl d_Tree_placeIsFirst_1 ?_
  refine lv_if_ne (tgt := 11) hx hb d_Tree_placeIsFirst_4 (by decide) (fun c9 => absurd (by decide) c9) (fun c9 => ?_)
  refine lv_iconst (v := 1) hx hb d_Tree_placeIsFirst_7 (by decide) ?_
  refine lv_goto (tgt := 12) hx hb d_Tree_placeIsFirst_8 (by decide) ?_
  exact kb_retz (kb_l [], kb_f []) hx hb hr rfl hlocks hE hP hD hS [0] rfl (by decide) rfl rfl (Nat.le_of_ble_eq_true rfl) (Nat.le_of_ble_eq_true rfl) d_Tree_placeIsFirst_12

set_option maxHeartbeats 4000000 in
set_option maxRecDepth 100000 in
theorem c_Tree_makeFirstThePlace (l : Launch) (G : kb_G) (h : Nat) (r0 : Nat) (r1 : Nat) (r2 : Nat) (r3 : Nat) (r4 : Nat) (r5 : Nat) (r6 : Nat) (r7 : Nat) (r8 : Nat) (r9 : Nat) (r10 : Nat) (r11 : Nat) (L : Int32) (P : Int32) : kb_cv l G ⟨"TreePress$Tree", "makeFirstThePlace", "()V"⟩ prog_4_method_21_code 1 1 0 0 [.ref h] [kb_o h 2 [.ref r0, .ref r1, .ref r2, .ref r3, .ref r4, .ref r5, .ref r6, .ref r7, .ref r8, .ref r9, .ref r10, .ref r11, .int L, .int P]] (fun u => True) (fun u => [kb_o h 2 [.ref r0, .ref r1, .ref r2, .ref r3, .ref r4, .ref r5, .ref r6, .ref r7, .ref r8, .ref r9, .ref r10, .ref r11, .int L, .int 0]]) := by
  intro sz
  refine kb_body (QQ := fun A => kb_Qv G A (fun u => True) (fun u => [kb_o h 2 [.ref r0, .ref r1, .ref r2, .ref r3, .ref r4, .ref r5, .ref r6, .ref r7, .ref r8, .ref r9, .ref r10, .ref r11, .int L, .int 0]])) (by decide) (Nat.le_of_ble_eq_true rfl) ?_
  intro p e s m below meth c A B ls hl
  obtain ⟨hx, hb, hr, hml, hlocks, hin, hown, ht, hE, hP, hD, hS⟩ := B
  have hl : lv_has ls 1 [(0, .ref h)] := hl
  have hP0 := hP
  obtain ⟨H, hHe⟩ : ∃ H, H = s.heap := ⟨_, rfl⟩
  rw [← hHe] at hP
  have hS : va_S A s.heap H [] := by rw [hHe]; exact hS
  refine kb_at hHe ?_
  clear hHe
  refine lv_aload_n hx hb d_Tree_makeFirstThePlace_0 rfl (lv_at hl 0 rfl) ?_
  refine lv_iconst (v := 0) hx hb d_Tree_makeFirstThePlace_1 (by decide) ?_
  refine va_put (D := G.1) (ci := 2) (v := .int 0) (ty := .int) (C := "TreePress$Tree") (T := kb_F2) (N := 14) hx hb ht kb_w2 kb_y2 kb_p2 kb_n2 hown hE.1 hP hD hS 0 rfl rfl 13 (by decide) (ht _ wd_f08393eb) (fun _ h9 => h9) rfl (by decide +kernel) rfl rfl (Nat.le_of_ble_eq_true rfl) d_Tree_makeFirstThePlace_2 (fun H locs hP hD hS => ?_)
  have hP : va_P G.1 kb_cl [kb_o h 2 [.ref r0, .ref r1, .ref r2, .ref r3, .ref r4, .ref r5, .ref r6, .ref r7, .ref r8, .ref r9, .ref r10, .ref r11, .int L, .int 0]] H := hP
  have hD : va_D A [kb_o h 2 [.ref r0, .ref r1, .ref r2, .ref r3, .ref r4, .ref r5, .ref r6, .ref r7, .ref r8, .ref r9, .ref r10, .ref r11, .int L, .int 0]] := hD
  exact kb_retv (kb_l [], kb_f []) hx hb hr hlocks hE hP hD hS [0] rfl (by decide) rfl trivial (Nat.le_of_ble_eq_true rfl) (Nat.le_of_ble_eq_true rfl) d_Tree_makeFirstThePlace_5

set_option maxHeartbeats 4000000 in
set_option maxRecDepth 100000 in
theorem c_Tree_firstNamed (l : Launch) (G : kb_G) (h : Nat) (r0 : Nat) (r1 : Nat) (r2 : Nat) (r3 : Nat) (r4 : Nat) (r5 : Nat) (r6 : Nat) (r7 : Nat) (r8 : Nat) (r9 : Nat) (r10 : Nat) (r11 : Nat) (L : Int32) (P : Int32) (g : Nat) (x : Int32) (y : Int32) : kb_ci l G ⟨"TreePress$Tree", "firstNamed", "(IILTreePress$Row;II)I"⟩ prog_4_method_25_code 7 (some .int) 2 0 0 [.ref h, .int 0, .int 0, .ref g, .int x, .int y] [kb_o h 2 [.ref r0, .ref r1, .ref r2, .ref r3, .ref r4, .ref r5, .ref r6, .ref r7, .ref r8, .ref r9, .ref r10, .ref r11, .int L, .int P]] (fun r u => r = (-1)) (fun u => [kb_o h 2 [.ref r0, .ref r1, .ref r2, .ref r3, .ref r4, .ref r5, .ref r6, .ref r7, .ref r8, .ref r9, .ref r10, .ref r11, .int L, .int P]]) := by
  intro sz
  refine kb_body (QQ := fun A => kb_Qi G A (fun r u => r = (-1)) (fun u => [kb_o h 2 [.ref r0, .ref r1, .ref r2, .ref r3, .ref r4, .ref r5, .ref r6, .ref r7, .ref r8, .ref r9, .ref r10, .ref r11, .int L, .int P]])) (by decide) (Nat.le_of_ble_eq_true rfl) ?_
  intro p e s m below meth c A B ls hl
  obtain ⟨hx, hb, hr, hml, hlocks, hin, hown, ht, hE, hP, hD, hS⟩ := B
  have hl : lv_has ls 7 [(0, .ref h), (1, .int 0), (2, .int 0), (3, .ref g), (4, .int x), (5, .int y)] := hl
  have hP0 := hP
  obtain ⟨H, hHe⟩ : ∃ H, H = s.heap := ⟨_, rfl⟩
  rw [← hHe] at hP
  have hS : va_S A s.heap H [] := by rw [hHe]; exact hS
  refine kb_at hHe ?_
  clear hHe
  refine lv_iload_n hx hb d_Tree_firstNamed_0 rfl (lv_at hl 1 rfl) ?_
  refine lv_istore (lv' := [(6, .int 0), (0, .ref h), (1, .int 0), (2, .int 0), (3, .ref g), (4, .int x), (5, .int y)]) hx hb d_Tree_firstNamed_1 hl (by decide) rfl (fun ls hl => ?_)
  refine lv_iload hx hb d_Tree_firstNamed_3 (lv_at hl 0 rfl) ?_
  refine lv_iload_n hx hb d_Tree_firstNamed_5 rfl (lv_at hl 3 rfl) ?_
  refine lv_icmp_ge (tgt := 53) hx hb d_Tree_firstNamed_6 (by decide) (fun c9 => ?_) (fun c9 => absurd (by decide) c9)
  refine lv_iconst (v := (-1)) hx hb d_Tree_firstNamed_53 (by decide) ?_
  exact kb_reti (kb_l [], kb_f []) hx hb hr hlocks hE hP hD hS [0] rfl (by decide) rfl rfl (Nat.le_of_ble_eq_true rfl) (Nat.le_of_ble_eq_true rfl) d_Tree_firstNamed_54

set_option maxHeartbeats 4000000 in
set_option maxRecDepth 100000 in
theorem c_Tree_propertyNamed (l : Launch) (G : kb_G) (h : Nat) (r0 : Nat) (r1 : Nat) (r2 : Nat) (r3 : Nat) (r4 : Nat) (r5 : Nat) (r6 : Nat) (r7 : Nat) (r8 : Nat) (r9 : Nat) (r10 : Nat) (r11 : Nat) (L : Int32) (P : Int32) (g : Nat) (b : Nat) (v : Int32) (a5 : Nat) (a6 : Nat) : kb_ci l G ⟨"TreePress$Tree", "propertyNamed", "(ILTreePress$Row;)I"⟩ prog_4_method_26_code 4 (some .int) 3 0 0 [.ref h, .int 0, .ref g] [kb_o h 2 [.ref r0, .ref r1, .ref r2, .ref r3, .ref r4, .ref r5, .ref r6, .ref r7, .ref r8, .ref r9, .ref r10, .ref r11, .int L, .int P], kb_o r5 1 [.ref a5, .int 1], kb_o r6 1 [.ref a6, .int 1], kb_a G a5 16 (upd (fun _ => 0) 0 0), kb_a G a6 16 (upd (fun _ => 0) 0 0), kb_o g 1 [.ref b, .int v]] (fun r u => r = (-1)) (fun u => [kb_o r5 1 [.ref a5, .int 1], kb_a G a5 16 (upd (fun _ => 0) 0 0), kb_o r6 1 [.ref a6, .int 1], kb_a G a6 16 (upd (fun _ => 0) 0 0), kb_o g 1 [.ref b, .int v], kb_o h 2 [.ref r0, .ref r1, .ref r2, .ref r3, .ref r4, .ref r5, .ref r6, .ref r7, .ref r8, .ref r9, .ref r10, .ref r11, .int L, .int P]]) := by
  intro sz
  refine kb_body (QQ := fun A => kb_Qi G A (fun r u => r = (-1)) (fun u => [kb_o r5 1 [.ref a5, .int 1], kb_a G a5 16 (upd (fun _ => 0) 0 0), kb_o r6 1 [.ref a6, .int 1], kb_a G a6 16 (upd (fun _ => 0) 0 0), kb_o g 1 [.ref b, .int v], kb_o h 2 [.ref r0, .ref r1, .ref r2, .ref r3, .ref r4, .ref r5, .ref r6, .ref r7, .ref r8, .ref r9, .ref r10, .ref r11, .int L, .int P]])) (by decide) (Nat.le_of_ble_eq_true rfl) ?_
  intro p e s m below meth c A B ls hl
  obtain ⟨hx, hb, hr, hml, hlocks, hin, hown, ht, hE, hP, hD, hS⟩ := B
  have hl : lv_has ls 4 [(0, .ref h), (1, .int 0), (2, .ref g)] := hl
  have hP0 := hP
  obtain ⟨H, hHe⟩ : ∃ H, H = s.heap := ⟨_, rfl⟩
  rw [← hHe] at hP
  have hS : va_S A s.heap H [] := by rw [hHe]; exact hS
  refine kb_at hHe ?_
  clear hHe
  refine lv_aload_n hx hb d_Tree_propertyNamed_0 rfl (lv_at hl 0 rfl) ?_
  refine lv_iload_n hx hb d_Tree_propertyNamed_1 rfl (lv_at hl 1 rfl) ?_
  refine kb_i (wc := [kb_o h 2 [.ref r0, .ref r1, .ref r2, .ref r3, .ref r4, .ref r5, .ref r6, .ref r7, .ref r8, .ref r9, .ref r10, .ref r11, .int L, .int P], kb_o r5 1 [.ref a5, .int 1], kb_a G a5 16 (upd (fun _ => 0) 0 0)]) (wr := [kb_o r6 1 [.ref a6, .int 1], kb_a G a6 16 (upd (fun _ => 0) 0 0), kb_o g 1 [.ref b, .int v]]) hE hP hD hS [0, 1, 3] [2, 4, 5] rfl rfl (by decide) (by decide) (kb_rV (As := [.int 0]) (rest := []) (wc := [kb_o h 2 [.ref r0, .ref r1, .ref r2, .ref r3, .ref r4, .ref r5, .ref r6, .ref r7, .ref r8, .ref r9, .ref r10, .ref r11, .int L, .int P], kb_o r5 1 [.ref a5, .int 1], kb_a G a5 16 (upd (fun _ => 0) 0 0)]) (q0 := 0) ⟨hx, hb, hml, hown, ht⟩ ((c_Tree_firstPropertyOf l G h r0 r1 r2 r3 r4 r5 r6 r7 r8 r9 r10 r11 L P a5 (upd (fun _ => 0) 0 0)) _) (kb_gV wd_b5e54596 wd_16213a5f wd_bba391b2 wd_ebf91e09 wd_a2bf9666) ⟨rfl, hd_ce73edbf⟩ ⟨(Nat.le_of_ble_eq_true rfl), (Nat.le_of_ble_eq_true rfl)⟩ hE hP hD hS [0, 1, 3] rfl (by decide) rfl rfl rfl hl.1 rfl (Nat.le_of_ble_eq_true rfl) d_Tree_propertyNamed_2 ⟨(Nat.le_of_ble_eq_true rfl), (Nat.le_of_ble_eq_true rfl)⟩) (fun rv2 uu1 H locs hw hP hD hS => ?_)
  have hP : va_P G.1 kb_cl [kb_o r6 1 [.ref a6, .int 1], kb_a G a6 16 (upd (fun _ => 0) 0 0), kb_o g 1 [.ref b, .int v], kb_o h 2 [.ref r0, .ref r1, .ref r2, .ref r3, .ref r4, .ref r5, .ref r6, .ref r7, .ref r8, .ref r9, .ref r10, .ref r11, .int L, .int P], kb_o r5 1 [.ref a5, .int 1], kb_a G a5 16 (upd (fun _ => 0) 0 0)] H := hP
  have hD : va_D A [kb_o r6 1 [.ref a6, .int 1], kb_a G a6 16 (upd (fun _ => 0) 0 0), kb_o g 1 [.ref b, .int v], kb_o h 2 [.ref r0, .ref r1, .ref r2, .ref r3, .ref r4, .ref r5, .ref r6, .ref r7, .ref r8, .ref r9, .ref r10, .ref r11, .int L, .int P], kb_o r5 1 [.ref a5, .int 1], kb_a G a5 16 (upd (fun _ => 0) 0 0)] := hD
  refine kb_top (y := 0) (show rv2 = 0 from hw) ?_
  refine lv_istore_n (lv' := [(3, .int 0), (0, .ref h), (1, .int 0), (2, .ref g)]) hx hb d_Tree_propertyNamed_5 rfl hl (by decide) rfl (fun ls hl => ?_)
  refine lv_aload_n hx hb d_Tree_propertyNamed_6 rfl (lv_at hl 1 rfl) ?_
  refine lv_iload_n hx hb d_Tree_propertyNamed_7 rfl (lv_at hl 0 rfl) ?_
  refine lv_iload_n hx hb d_Tree_propertyNamed_8 rfl (lv_at hl 0 rfl) ?_
  refine lv_aload_n hx hb d_Tree_propertyNamed_9 rfl (lv_at hl 1 rfl) ?_
  refine lv_iload_n hx hb d_Tree_propertyNamed_10 rfl (lv_at hl 2 rfl) ?_
  refine kb_i (wc := [kb_o h 2 [.ref r0, .ref r1, .ref r2, .ref r3, .ref r4, .ref r5, .ref r6, .ref r7, .ref r8, .ref r9, .ref r10, .ref r11, .int L, .int P], kb_o r6 1 [.ref a6, .int 1], kb_a G a6 16 (upd (fun _ => 0) 0 0)]) (wr := [kb_o g 1 [.ref b, .int v], kb_o r5 1 [.ref a5, .int 1], kb_a G a5 16 (upd (fun _ => 0) 0 0)]) hE hP hD hS [3, 0, 1] [2, 4, 5] rfl rfl (by decide) (by decide) (kb_rV (As := [.int 0]) (rest := [.int 0, .int 0, .ref h]) (wc := [kb_o h 2 [.ref r0, .ref r1, .ref r2, .ref r3, .ref r4, .ref r5, .ref r6, .ref r7, .ref r8, .ref r9, .ref r10, .ref r11, .int L, .int P], kb_o r6 1 [.ref a6, .int 1], kb_a G a6 16 (upd (fun _ => 0) 0 0)]) (q0 := 0) ⟨hx, hb, hml, hown, ht⟩ ((c_Tree_propertiesOf l G h r0 r1 r2 r3 r4 r5 r6 r7 r8 r9 r10 r11 L P a6 (upd (fun _ => 0) 0 0)) _) (kb_gV wd_8341cc6b wd_c1c67d0b wd_a7a256ac wd_ebf91e09 wd_f59b7322) ⟨rfl, hd_c0e23879⟩ ⟨(Nat.le_of_ble_eq_true rfl), (Nat.le_of_ble_eq_true rfl)⟩ hE hP hD hS [3, 0, 1] rfl (by decide) rfl rfl rfl hl.1 rfl (Nat.le_of_ble_eq_true rfl) d_Tree_propertyNamed_11 ⟨(Nat.le_of_ble_eq_true rfl), (Nat.le_of_ble_eq_true rfl)⟩) (fun rv4 uu3 H locs hw hP hD hS => ?_)
  have hP : va_P G.1 kb_cl [kb_o g 1 [.ref b, .int v], kb_o r5 1 [.ref a5, .int 1], kb_a G a5 16 (upd (fun _ => 0) 0 0), kb_o h 2 [.ref r0, .ref r1, .ref r2, .ref r3, .ref r4, .ref r5, .ref r6, .ref r7, .ref r8, .ref r9, .ref r10, .ref r11, .int L, .int P], kb_o r6 1 [.ref a6, .int 1], kb_a G a6 16 (upd (fun _ => 0) 0 0)] H := hP
  have hD : va_D A [kb_o g 1 [.ref b, .int v], kb_o r5 1 [.ref a5, .int 1], kb_a G a5 16 (upd (fun _ => 0) 0 0), kb_o h 2 [.ref r0, .ref r1, .ref r2, .ref r3, .ref r4, .ref r5, .ref r6, .ref r7, .ref r8, .ref r9, .ref r10, .ref r11, .int L, .int P], kb_o r6 1 [.ref a6, .int 1], kb_a G a6 16 (upd (fun _ => 0) 0 0)] := hD
  refine kb_top (y := 0) (show rv4 = 0 from hw) ?_
  refine lv_iadd hx hb d_Tree_propertyNamed_14 ?_
  refine kb_top (y := 0) (by decide) ?_
  refine lv_aload_n hx hb d_Tree_propertyNamed_15 rfl (lv_at hl 3 rfl) ?_
  refine lv_iconst (v := 0) hx hb d_Tree_propertyNamed_16 (by decide) ?_
  refine lv_aload_n hx hb d_Tree_propertyNamed_17 rfl (lv_at hl 3 rfl) ?_
  refine kb_i (wc := [kb_o g 1 [.ref b, .int v]]) (wr := [kb_o r5 1 [.ref a5, .int 1], kb_a G a5 16 (upd (fun _ => 0) 0 0), kb_o h 2 [.ref r0, .ref r1, .ref r2, .ref r3, .ref r4, .ref r5, .ref r6, .ref r7, .ref r8, .ref r9, .ref r10, .ref r11, .int L, .int P], kb_o r6 1 [.ref a6, .int 1], kb_a G a6 16 (upd (fun _ => 0) 0 0)]) hE hP hD hS [0] [1, 2, 3, 4, 5] rfl rfl (by decide) (by decide) (kb_rV (As := []) (rest := [.int 0, .ref g, .int 0, .int 0, .ref h]) (wc := [kb_o g 1 [.ref b, .int v]]) (q0 := 0) ⟨hx, hb, hml, hown, ht⟩ ((c_Row_length l G g b v) _) (kb_gV wd_d02778d4 wd_5e08083b wd_489345cb wd_4182e433 wd_8d5193a7) ⟨rfl, hd_d85231f4⟩ ⟨(Nat.le_of_ble_eq_true rfl), (Nat.le_of_ble_eq_true rfl)⟩ hE hP hD hS [0] rfl (by decide) rfl rfl rfl hl.1 rfl (Nat.le_of_ble_eq_true rfl) d_Tree_propertyNamed_18 ⟨(Nat.le_of_ble_eq_true rfl), (Nat.le_of_ble_eq_true rfl)⟩) (fun rv6 uu5 H locs hw hP hD hS => ?_)
  have hP : va_P G.1 kb_cl [kb_o r5 1 [.ref a5, .int 1], kb_a G a5 16 (upd (fun _ => 0) 0 0), kb_o h 2 [.ref r0, .ref r1, .ref r2, .ref r3, .ref r4, .ref r5, .ref r6, .ref r7, .ref r8, .ref r9, .ref r10, .ref r11, .int L, .int P], kb_o r6 1 [.ref a6, .int 1], kb_a G a6 16 (upd (fun _ => 0) 0 0), kb_o g 1 [.ref b, .int v]] H := hP
  have hD : va_D A [kb_o r5 1 [.ref a5, .int 1], kb_a G a5 16 (upd (fun _ => 0) 0 0), kb_o h 2 [.ref r0, .ref r1, .ref r2, .ref r3, .ref r4, .ref r5, .ref r6, .ref r7, .ref r8, .ref r9, .ref r10, .ref r11, .int L, .int P], kb_o r6 1 [.ref a6, .int 1], kb_a G a6 16 (upd (fun _ => 0) 0 0), kb_o g 1 [.ref b, .int v]] := hD
  refine kb_top (y := v) (show rv6 = v from hw) ?_
  refine kb_i (wc := [kb_o h 2 [.ref r0, .ref r1, .ref r2, .ref r3, .ref r4, .ref r5, .ref r6, .ref r7, .ref r8, .ref r9, .ref r10, .ref r11, .int L, .int P]]) (wr := [kb_o r5 1 [.ref a5, .int 1], kb_a G a5 16 (upd (fun _ => 0) 0 0), kb_o r6 1 [.ref a6, .int 1], kb_a G a6 16 (upd (fun _ => 0) 0 0), kb_o g 1 [.ref b, .int v]]) hE hP hD hS [2] [0, 1, 3, 4, 5] rfl rfl (by decide) (by decide) (kb_rV (As := [.int 0, .int 0, .ref g, .int 0, .int v]) (rest := []) (wc := [kb_o h 2 [.ref r0, .ref r1, .ref r2, .ref r3, .ref r4, .ref r5, .ref r6, .ref r7, .ref r8, .ref r9, .ref r10, .ref r11, .int L, .int P]]) (q0 := 0) ⟨hx, hb, hml, hown, ht⟩ ((c_Tree_firstNamed l G h r0 r1 r2 r3 r4 r5 r6 r7 r8 r9 r10 r11 L P g 0 v) _) (kb_gV wd_27b8bd78 wd_dddc6343 wd_7dd518e9 wd_ebf91e09 wd_fb620020) ⟨rfl, hd_f7d4c618⟩ ⟨(Nat.le_of_ble_eq_true rfl), (Nat.le_of_ble_eq_true rfl)⟩ hE hP hD hS [2] rfl (by decide) rfl rfl rfl hl.1 rfl (Nat.le_of_ble_eq_true rfl) d_Tree_propertyNamed_21 ⟨(Nat.le_of_ble_eq_true rfl), (Nat.le_of_ble_eq_true rfl)⟩) (fun rv8 uu7 H locs hw hP hD hS => ?_)
  have hP : va_P G.1 kb_cl [kb_o r5 1 [.ref a5, .int 1], kb_a G a5 16 (upd (fun _ => 0) 0 0), kb_o r6 1 [.ref a6, .int 1], kb_a G a6 16 (upd (fun _ => 0) 0 0), kb_o g 1 [.ref b, .int v], kb_o h 2 [.ref r0, .ref r1, .ref r2, .ref r3, .ref r4, .ref r5, .ref r6, .ref r7, .ref r8, .ref r9, .ref r10, .ref r11, .int L, .int P]] H := hP
  have hD : va_D A [kb_o r5 1 [.ref a5, .int 1], kb_a G a5 16 (upd (fun _ => 0) 0 0), kb_o r6 1 [.ref a6, .int 1], kb_a G a6 16 (upd (fun _ => 0) 0 0), kb_o g 1 [.ref b, .int v], kb_o h 2 [.ref r0, .ref r1, .ref r2, .ref r3, .ref r4, .ref r5, .ref r6, .ref r7, .ref r8, .ref r9, .ref r10, .ref r11, .int L, .int P]] := hD
  refine kb_top (y := (-1)) (show rv8 = (-1) from hw) ?_
  exact kb_reti (kb_l [], kb_f []) hx hb hr hlocks hE hP hD hS [0, 1, 2, 3, 4, 5] rfl (by decide) rfl rfl (Nat.le_of_ble_eq_true rfl) (Nat.le_of_ble_eq_true rfl) d_Tree_propertyNamed_24

set_option maxHeartbeats 4000000 in
set_option maxRecDepth 100000 in
theorem c_Tree_nodeOnPath (l : Launch) (G : kb_G) (h : Nat) (r0 : Nat) (r1 : Nat) (r2 : Nat) (r3 : Nat) (r4 : Nat) (r5 : Nat) (r6 : Nat) (r7 : Nat) (r8 : Nat) (r9 : Nat) (r10 : Nat) (r11 : Nat) (L : Int32) (P : Int32) (g : Nat) (b : Nat) : kb_ci l G ⟨"TreePress$Tree", "nodeOnPath", "(LTreePress$Row;)I"⟩ prog_4_method_27_code 7 (some .int) 2 0 0 [.ref h, .ref g] [kb_o h 2 [.ref r0, .ref r1, .ref r2, .ref r3, .ref r4, .ref r5, .ref r6, .ref r7, .ref r8, .ref r9, .ref r10, .ref r11, .int L, .int P], kb_o g 1 [.ref b, .int 0]] (fun r u => r = 0) (fun u => [kb_o h 2 [.ref r0, .ref r1, .ref r2, .ref r3, .ref r4, .ref r5, .ref r6, .ref r7, .ref r8, .ref r9, .ref r10, .ref r11, .int L, .int P], kb_o g 1 [.ref b, .int 0]]) := by
  intro sz
  refine kb_body (QQ := fun A => kb_Qi G A (fun r u => r = 0) (fun u => [kb_o h 2 [.ref r0, .ref r1, .ref r2, .ref r3, .ref r4, .ref r5, .ref r6, .ref r7, .ref r8, .ref r9, .ref r10, .ref r11, .int L, .int P], kb_o g 1 [.ref b, .int 0]])) (by decide) (Nat.le_of_ble_eq_true rfl) ?_
  intro p e s m below meth c A B ls hl
  obtain ⟨hx, hb, hr, hml, hlocks, hin, hown, ht, hE, hP, hD, hS⟩ := B
  have hl : lv_has ls 7 [(0, .ref h), (1, .ref g)] := hl
  have hP0 := hP
  obtain ⟨H, hHe⟩ : ∃ H, H = s.heap := ⟨_, rfl⟩
  rw [← hHe] at hP
  have hS : va_S A s.heap H [] := by rw [hHe]; exact hS
  refine kb_at hHe ?_
  clear hHe
  refine lv_aload_n hx hb d_Tree_nodeOnPath_0 rfl (lv_at hl 1 rfl) ?_
  refine kb_i (wc := [kb_o g 1 [.ref b, .int 0]]) (wr := [kb_o h 2 [.ref r0, .ref r1, .ref r2, .ref r3, .ref r4, .ref r5, .ref r6, .ref r7, .ref r8, .ref r9, .ref r10, .ref r11, .int L, .int P]]) hE hP hD hS [1] [0] rfl rfl (by decide) (by decide) (kb_rV (As := []) (rest := []) (wc := [kb_o g 1 [.ref b, .int 0]]) (q0 := 0) ⟨hx, hb, hml, hown, ht⟩ ((c_Row_length l G g b 0) _) (kb_gV wd_d02778d4 wd_5e08083b wd_489345cb wd_4182e433 wd_8d5193a7) ⟨rfl, hd_d85231f4⟩ ⟨(Nat.le_of_ble_eq_true rfl), (Nat.le_of_ble_eq_true rfl)⟩ hE hP hD hS [1] rfl (by decide) rfl rfl rfl hl.1 rfl (Nat.le_of_ble_eq_true rfl) d_Tree_nodeOnPath_1 ⟨(Nat.le_of_ble_eq_true rfl), (Nat.le_of_ble_eq_true rfl)⟩) (fun rv2 uu1 H locs hw hP hD hS => ?_)
  have hP : va_P G.1 kb_cl [kb_o h 2 [.ref r0, .ref r1, .ref r2, .ref r3, .ref r4, .ref r5, .ref r6, .ref r7, .ref r8, .ref r9, .ref r10, .ref r11, .int L, .int P], kb_o g 1 [.ref b, .int 0]] H := hP
  have hD : va_D A [kb_o h 2 [.ref r0, .ref r1, .ref r2, .ref r3, .ref r4, .ref r5, .ref r6, .ref r7, .ref r8, .ref r9, .ref r10, .ref r11, .int L, .int P], kb_o g 1 [.ref b, .int 0]] := hD
  refine kb_top (y := 0) (show rv2 = 0 from hw) ?_
  refine lv_istore_n (lv' := [(2, .int 0), (0, .ref h), (1, .ref g)]) hx hb d_Tree_nodeOnPath_4 rfl hl (by decide) rfl (fun ls hl => ?_)
  refine lv_iload_n hx hb d_Tree_nodeOnPath_5 rfl (lv_at hl 0 rfl) ?_
  refine lv_iconst (v := 1) hx hb d_Tree_nodeOnPath_6 (by decide) ?_
  refine lv_icmp_ne (tgt := 22) hx hb d_Tree_nodeOnPath_7 (by decide) (fun c9 => ?_) (fun c9 => absurd c9 (by decide))
  refine lv_iconst (v := 0) hx hb d_Tree_nodeOnPath_22 (by decide) ?_
  refine lv_istore_n (lv' := [(3, .int 0), (2, .int 0), (0, .ref h), (1, .ref g)]) hx hb d_Tree_nodeOnPath_23 rfl hl (by decide) rfl (fun ls hl => ?_)
  refine lv_iconst (v := 0) hx hb d_Tree_nodeOnPath_24 (by decide) ?_
  refine lv_istore (lv' := [(4, .int 0), (3, .int 0), (2, .int 0), (0, .ref h), (1, .ref g)]) hx hb d_Tree_nodeOnPath_25 hl (by decide) rfl (fun ls hl => ?_)
  refine lv_iconst (v := 0) hx hb d_Tree_nodeOnPath_27 (by decide) ?_
  refine lv_istore (lv' := [(5, .int 0), (4, .int 0), (3, .int 0), (2, .int 0), (0, .ref h), (1, .ref g)]) hx hb d_Tree_nodeOnPath_28 hl (by decide) rfl (fun ls hl => ?_)
  refine lv_iload hx hb d_Tree_nodeOnPath_30 (lv_at hl 0 rfl) ?_
  refine lv_bipush (v := 16) hx hb d_Tree_nodeOnPath_32 (by decide) ?_
  refine lv_icmp_ge (tgt := 102) hx hb d_Tree_nodeOnPath_34 (by decide) (fun c9 => absurd c9 (by decide)) (fun c9 => ?_)
  refine lv_iload hx hb d_Tree_nodeOnPath_37 (lv_at hl 1 rfl) ?_
  refine lv_iload_n hx hb d_Tree_nodeOnPath_39 rfl (lv_at hl 3 rfl) ?_
  refine lv_icmp_ge (tgt := 102) hx hb d_Tree_nodeOnPath_40 (by decide) (fun c9 => ?_) (fun c9 => absurd (by decide) c9)
  refine lv_iload hx hb d_Tree_nodeOnPath_102 (lv_at hl 1 rfl) ?_
  refine lv_iload_n hx hb d_Tree_nodeOnPath_104 rfl (lv_at hl 3 rfl) ?_
  refine lv_icmp_ge (tgt := 112) hx hb d_Tree_nodeOnPath_105 (by decide) (fun c9 => ?_) (fun c9 => absurd (by decide) c9)
  refine lv_iload_n hx hb d_Tree_nodeOnPath_112 rfl (lv_at hl 2 rfl) ?_
  exact kb_reti (kb_l [], kb_f []) hx hb hr hlocks hE hP hD hS [0, 1] rfl (by decide) rfl rfl (Nat.le_of_ble_eq_true rfl) (Nat.le_of_ble_eq_true rfl) d_Tree_nodeOnPath_113

set_option maxHeartbeats 4000000 in
set_option maxRecDepth 100000 in
theorem c_Rd_failureOfHead (l : Launch) (G : kb_G) (h : Nat) (i0 : Int32) (i1 : Int32) (i2 : Int32) (i3 : Int32) (g : Nat) (b : Nat) : kb_ci l G ⟨"TreePress$Reader", "failureOfHead", "(LTreePress$Row;)I"⟩ prog_2_method_2_code 6 (some .int) 2 0 0 [.ref h, .ref g] [kb_o h 0 [.int i0, .int i1, .int i2, .int i3], kb_o g 1 [.ref b, .int 0]] (fun r u => r = 0) (fun u => [kb_o h 0 [.int i0, .int i1, .int i2, .int i3], kb_o g 1 [.ref b, .int 0]]) := by
  intro sz
  refine kb_body (QQ := fun A => kb_Qi G A (fun r u => r = 0) (fun u => [kb_o h 0 [.int i0, .int i1, .int i2, .int i3], kb_o g 1 [.ref b, .int 0]])) (by decide) (Nat.le_of_ble_eq_true rfl) ?_
  intro p e s m below meth c A B ls hl
  obtain ⟨hx, hb, hr, hml, hlocks, hin, hown, ht, hE, hP, hD, hS⟩ := B
  have hl : lv_has ls 6 [(0, .ref h), (1, .ref g)] := hl
  have hP0 := hP
  obtain ⟨H, hHe⟩ : ∃ H, H = s.heap := ⟨_, rfl⟩
  rw [← hHe] at hP
  have hS : va_S A s.heap H [] := by rw [hHe]; exact hS
  refine kb_at hHe ?_
  clear hHe
  refine lv_aload_n hx hb d_Rd_failureOfHead_0 rfl (lv_at hl 1 rfl) ?_
  refine kb_i (wc := [kb_o g 1 [.ref b, .int 0]]) (wr := [kb_o h 0 [.int i0, .int i1, .int i2, .int i3]]) hE hP hD hS [1] [0] rfl rfl (by decide) (by decide) (kb_rV (As := []) (rest := []) (wc := [kb_o g 1 [.ref b, .int 0]]) (q0 := 0) ⟨hx, hb, hml, hown, ht⟩ ((c_Row_length l G g b 0) _) (kb_gV wd_5f5b0b19 wd_5e08083b wd_489345cb wd_4182e433 wd_8d5193a7) ⟨rfl, hd_d85231f4⟩ ⟨(Nat.le_of_ble_eq_true rfl), (Nat.le_of_ble_eq_true rfl)⟩ hE hP hD hS [1] rfl (by decide) rfl rfl rfl hl.1 rfl (Nat.le_of_ble_eq_true rfl) d_Rd_failureOfHead_1 ⟨(Nat.le_of_ble_eq_true rfl), (Nat.le_of_ble_eq_true rfl)⟩) (fun rv2 uu1 H locs hw hP hD hS => ?_)
  have hP : va_P G.1 kb_cl [kb_o h 0 [.int i0, .int i1, .int i2, .int i3], kb_o g 1 [.ref b, .int 0]] H := hP
  have hD : va_D A [kb_o h 0 [.int i0, .int i1, .int i2, .int i3], kb_o g 1 [.ref b, .int 0]] := hD
  refine kb_top (y := 0) (show rv2 = 0 from hw) ?_
  refine lv_istore_n (lv' := [(2, .int 0), (0, .ref h), (1, .ref g)]) hx hb d_Rd_failureOfHead_4 rfl hl (by decide) rfl (fun ls hl => ?_)
  refine lv_iconst (v := 0) hx hb d_Rd_failureOfHead_5 (by decide) ?_
  refine lv_istore_n (lv' := [(3, .int 0), (2, .int 0), (0, .ref h), (1, .ref g)]) hx hb d_Rd_failureOfHead_6 rfl hl (by decide) rfl (fun ls hl => ?_)
  refine lv_iload_n hx hb d_Rd_failureOfHead_7 rfl (lv_at hl 0 rfl) ?_
  refine lv_bipush (v := 10) hx hb d_Rd_failureOfHead_8 (by decide) ?_
  refine lv_icmp_ge (tgt := 61) hx hb d_Rd_failureOfHead_10 (by decide) (fun c9 => absurd c9 (by decide)) (fun c9 => ?_)
  refine lv_iload_n hx hb d_Rd_failureOfHead_13 rfl (lv_at hl 0 rfl) ?_
  refine lv_iconst (v := 4) hx hb d_Rd_failureOfHead_14 (by decide) ?_
  refine lv_imul hx hb d_Rd_failureOfHead_15 ?_
  refine kb_top (y := 0) (by decide) ?_
  refine lv_istore (lv' := [(4, .int 0), (3, .int 0), (2, .int 0), (0, .ref h), (1, .ref g)]) hx hb d_Rd_failureOfHead_16 hl (by decide) rfl (fun ls hl => ?_)
  refine lv_iload hx hb d_Rd_failureOfHead_18 (lv_at hl 0 rfl) ?_
  refine lv_bipush (v := 12) hx hb d_Rd_failureOfHead_20 (by decide) ?_
  refine lv_icmp_ne (tgt := 30) hx hb d_Rd_failureOfHead_22 (by decide) (fun c9 => ?_) (fun c9 => absurd c9 (by decide))
  refine lv_iload hx hb d_Rd_failureOfHead_30 (lv_at hl 0 rfl) ?_
  refine lv_iconst (v := 4) hx hb d_Rd_failureOfHead_32 (by decide) ?_
  refine lv_iadd hx hb d_Rd_failureOfHead_33 ?_
  refine kb_top (y := 4) (by decide) ?_
  refine lv_istore (lv' := [(5, .int 4), (4, .int 0), (3, .int 0), (2, .int 0), (0, .ref h), (1, .ref g)]) hx hb d_Rd_failureOfHead_34 hl (by decide) rfl (fun ls hl => ?_)
  refine lv_iload_n hx hb d_Rd_failureOfHead_36 rfl (lv_at hl 3 rfl) ?_
  refine lv_iload hx hb d_Rd_failureOfHead_37 (lv_at hl 0 rfl) ?_
  refine lv_icmp_ge (tgt := 44) hx hb d_Rd_failureOfHead_39 (by decide) (fun c9 => absurd c9 (by decide)) (fun c9 => ?_)
  refine lv_iload_n hx hb d_Rd_failureOfHead_42 rfl (lv_at hl 3 rfl) ?_
  exact kb_reti (kb_l [], kb_f []) hx hb hr hlocks hE hP hD hS [0, 1] rfl (by decide) rfl rfl (Nat.le_of_ble_eq_true rfl) (Nat.le_of_ble_eq_true rfl) d_Rd_failureOfHead_43

set_option maxHeartbeats 4000000 in
set_option maxRecDepth 100000 in
theorem c_Press_feed (l : Launch) (G : kb_G) (h : Nat) (tp : Nat) (ld : Nat) (rd : Nat) (tr : Nat) (sp : Nat) (ta : Nat) (f : Nat → Int32) (x1 : Int32) (x2 : Int32) (x3 : Int32) (x4 : Int32) (x5 : Int32) : kb_ci l G ⟨"TreePress", "feed", "(IIIII)I"⟩ prog_1_method_2_code 6 (some .int) 6 1 32 [.ref h, .int x1, .int x2, .int x3, .int x4, .int x5] [kb_o h 3 [.ref tp, .ref ld, .ref rd, .ref tr, .ref sp], kb_o tp 1 [.ref ta, .int 0], kb_a G ta 16 f] (fun r u => r = 20) (fun u => []) := by
  intro sz
  refine kb_body (QQ := fun A => kb_Qi G A (fun r u => r = 20) (fun u => [])) (by decide) (Nat.le_of_ble_eq_true rfl) ?_
  intro p e s m below meth c A B ls hl
  obtain ⟨hx, hb, hr, hml, hlocks, hin, hown, ht, hE, hP, hD, hS⟩ := B
  have hl : lv_has ls 6 [(0, .ref h), (1, .int x1), (2, .int x2), (3, .int x3), (4, .int x4), (5, .int x5)] := hl
  have hP0 := hP
  obtain ⟨H, hHe⟩ : ∃ H, H = s.heap := ⟨_, rfl⟩
  rw [← hHe] at hP
  have hS : va_S A s.heap H [] := by rw [hHe]; exact hS
  refine kb_at hHe ?_
  clear hHe
  refine lv_aload_n hx hb d_Press_feed_0 rfl (lv_at hl 0 rfl) ?_
  refine va_get (D := G.1) (ci := 3) (v := .ref tp) (C := "TreePress") (T := kb_F3) (N := 5) hx hb ht kb_w3 hown hE.1 hP 0 rfl rfl 0 (by decide) (ht _ wd_667fbbc4) (fun _ h9 => h9) rfl d_Press_feed_1 ?_
  refine kb_i (wc := [kb_o tp 1 [.ref ta, .int 0]]) (wr := [kb_o h 3 [.ref tp, .ref ld, .ref rd, .ref tr, .ref sp], kb_a G ta 16 f]) hE hP hD hS [1] [0, 2] rfl rfl (by decide) (by decide) (kb_rV (As := []) (rest := []) (wc := [kb_o tp 1 [.ref ta, .int 0]]) (q0 := 0) ⟨hx, hb, hml, hown, ht⟩ ((c_Row_length l G tp ta 0) _) (kb_gV wd_b6aba818 wd_5e08083b wd_489345cb wd_4182e433 wd_8d5193a7) ⟨rfl, hd_d85231f4⟩ ⟨(Nat.le_of_ble_eq_true rfl), (Nat.le_of_ble_eq_true rfl)⟩ hE hP hD hS [1] rfl (by decide) rfl rfl rfl hl.1 rfl (Nat.le_of_ble_eq_true rfl) d_Press_feed_4 ⟨(Nat.le_of_ble_eq_true rfl), (Nat.le_of_ble_eq_true rfl)⟩) (fun rv2 uu1 H locs hw hP hD hS => ?_)
  have hP : va_P G.1 kb_cl [kb_o h 3 [.ref tp, .ref ld, .ref rd, .ref tr, .ref sp], kb_a G ta 16 f, kb_o tp 1 [.ref ta, .int 0]] H := hP
  have hD : va_D A [kb_o h 3 [.ref tp, .ref ld, .ref rd, .ref tr, .ref sp], kb_a G ta 16 f, kb_o tp 1 [.ref ta, .int 0]] := hD
  refine kb_top (y := 0) (show rv2 = 0 from hw) ?_
  refine lv_ldc (v := 65516) hx hb hown (ht _ wd_1c022c51) d_Press_feed_7 ?_
  refine lv_icmp_le (tgt := 22) hx hb d_Press_feed_9 (by decide) (fun c9 => ?_) (fun c9 => absurd (by decide) c9)
  refine lv_aload_n hx hb d_Press_feed_22 rfl (lv_at hl 0 rfl) ?_
  refine va_get (D := G.1) (ci := 3) (v := .ref tp) (C := "TreePress") (T := kb_F3) (N := 5) hx hb ht kb_w3 hown hE.1 hP 0 rfl rfl 0 (by decide) (ht _ wd_667fbbc4) (fun _ h9 => h9) rfl d_Press_feed_23 ?_
  refine lv_iload_n hx hb d_Press_feed_26 rfl (lv_at hl 1 rfl) ?_
  refine kb_v (wc := [kb_o tp 1 [.ref ta, .int 0], kb_a G ta 16 f]) (wr := [kb_o h 3 [.ref tp, .ref ld, .ref rd, .ref tr, .ref sp]]) hE hP hD hS [2, 1] [0] rfl rfl (by decide) (by decide) (kb_rV (As := [.int x1]) (rest := []) (wc := [kb_o tp 1 [.ref ta, .int 0], kb_a G ta 16 f]) (q0 := 0) ⟨hx, hb, hml, hown, ht⟩ ((c_Row_addNumber_n l G tp ta 0 16 f x1 (by omega) (by omega)) _) (kb_gV wd_ea688bce wd_091fe404 wd_2d8090cf wd_4182e433 wd_378b6872) ⟨rfl, hd_6154874f⟩ ⟨(Nat.le_of_ble_eq_true rfl), (Nat.le_of_ble_eq_true rfl)⟩ hE hP hD hS [2, 1] rfl (by decide) rfl rfl rfl hl.1 rfl (Nat.le_of_ble_eq_true rfl) d_Press_feed_27 ⟨(Nat.le_of_ble_eq_true rfl), (Nat.le_of_ble_eq_true rfl)⟩) (fun uu3 H locs hw hP hD hS => ?_)
  have hP : va_P G.1 kb_cl [kb_o h 3 [.ref tp, .ref ld, .ref rd, .ref tr, .ref sp], kb_o tp 1 [.ref ta, .int 4], kb_a G ta 16 (uu3.2 0)] H := hP
  have hD : va_D A [kb_o h 3 [.ref tp, .ref ld, .ref rd, .ref tr, .ref sp], kb_o tp 1 [.ref ta, .int 4], kb_a G ta 16 (uu3.2 0)] := hD
  refine lv_aload_n hx hb d_Press_feed_30 rfl (lv_at hl 0 rfl) ?_
  refine va_get (D := G.1) (ci := 3) (v := .ref tp) (C := "TreePress") (T := kb_F3) (N := 5) hx hb ht kb_w3 hown hE.1 hP 0 rfl rfl 0 (by decide) (ht _ wd_667fbbc4) (fun _ h9 => h9) rfl d_Press_feed_31 ?_
  refine lv_iload_n hx hb d_Press_feed_34 rfl (lv_at hl 2 rfl) ?_
  refine kb_v (wc := [kb_o tp 1 [.ref ta, .int 4], kb_a G ta 16 (uu3.2 0)]) (wr := [kb_o h 3 [.ref tp, .ref ld, .ref rd, .ref tr, .ref sp]]) hE hP hD hS [1, 2] [0] rfl rfl (by decide) (by decide) (kb_rV (As := [.int x2]) (rest := []) (wc := [kb_o tp 1 [.ref ta, .int 4], kb_a G ta 16 (uu3.2 0)]) (q0 := 0) ⟨hx, hb, hml, hown, ht⟩ ((c_Row_addNumber_n l G tp ta 4 16 (uu3.2 0) x2 (by omega) (by omega)) _) (kb_gV wd_ea688bce wd_091fe404 wd_2d8090cf wd_4182e433 wd_378b6872) ⟨rfl, hd_6154874f⟩ ⟨(Nat.le_of_ble_eq_true rfl), (Nat.le_of_ble_eq_true rfl)⟩ hE hP hD hS [1, 2] rfl (by decide) rfl rfl rfl hl.1 rfl (Nat.le_of_ble_eq_true rfl) d_Press_feed_35 ⟨(Nat.le_of_ble_eq_true rfl), (Nat.le_of_ble_eq_true rfl)⟩) (fun uu5 H locs hw hP hD hS => ?_)
  have hP : va_P G.1 kb_cl [kb_o h 3 [.ref tp, .ref ld, .ref rd, .ref tr, .ref sp], kb_o tp 1 [.ref ta, .int 8], kb_a G ta 16 (uu5.2 0)] H := hP
  have hD : va_D A [kb_o h 3 [.ref tp, .ref ld, .ref rd, .ref tr, .ref sp], kb_o tp 1 [.ref ta, .int 8], kb_a G ta 16 (uu5.2 0)] := hD
  refine lv_aload_n hx hb d_Press_feed_38 rfl (lv_at hl 0 rfl) ?_
  refine va_get (D := G.1) (ci := 3) (v := .ref tp) (C := "TreePress") (T := kb_F3) (N := 5) hx hb ht kb_w3 hown hE.1 hP 0 rfl rfl 0 (by decide) (ht _ wd_667fbbc4) (fun _ h9 => h9) rfl d_Press_feed_39 ?_
  refine lv_iload_n hx hb d_Press_feed_42 rfl (lv_at hl 3 rfl) ?_
  refine kb_v (wc := [kb_o tp 1 [.ref ta, .int 8], kb_a G ta 16 (uu5.2 0)]) (wr := [kb_o h 3 [.ref tp, .ref ld, .ref rd, .ref tr, .ref sp]]) hE hP hD hS [1, 2] [0] rfl rfl (by decide) (by decide) (kb_rV (As := [.int x3]) (rest := []) (wc := [kb_o tp 1 [.ref ta, .int 8], kb_a G ta 16 (uu5.2 0)]) (q0 := 0) ⟨hx, hb, hml, hown, ht⟩ ((c_Row_addNumber_n l G tp ta 8 16 (uu5.2 0) x3 (by omega) (by omega)) _) (kb_gV wd_ea688bce wd_091fe404 wd_2d8090cf wd_4182e433 wd_378b6872) ⟨rfl, hd_6154874f⟩ ⟨(Nat.le_of_ble_eq_true rfl), (Nat.le_of_ble_eq_true rfl)⟩ hE hP hD hS [1, 2] rfl (by decide) rfl rfl rfl hl.1 rfl (Nat.le_of_ble_eq_true rfl) d_Press_feed_43 ⟨(Nat.le_of_ble_eq_true rfl), (Nat.le_of_ble_eq_true rfl)⟩) (fun uu7 H locs hw hP hD hS => ?_)
  have hP : va_P G.1 kb_cl [kb_o h 3 [.ref tp, .ref ld, .ref rd, .ref tr, .ref sp], kb_o tp 1 [.ref ta, .int 12], kb_a G ta 16 (uu7.2 0)] H := hP
  have hD : va_D A [kb_o h 3 [.ref tp, .ref ld, .ref rd, .ref tr, .ref sp], kb_o tp 1 [.ref ta, .int 12], kb_a G ta 16 (uu7.2 0)] := hD
  refine lv_aload_n hx hb d_Press_feed_46 rfl (lv_at hl 0 rfl) ?_
  refine va_get (D := G.1) (ci := 3) (v := .ref tp) (C := "TreePress") (T := kb_F3) (N := 5) hx hb ht kb_w3 hown hE.1 hP 0 rfl rfl 0 (by decide) (ht _ wd_667fbbc4) (fun _ h9 => h9) rfl d_Press_feed_47 ?_
  refine lv_iload hx hb d_Press_feed_50 (lv_at hl 4 rfl) ?_
  refine kb_v (wc := [kb_o tp 1 [.ref ta, .int 12], kb_a G ta 16 (uu7.2 0)]) (wr := [kb_o h 3 [.ref tp, .ref ld, .ref rd, .ref tr, .ref sp]]) hE hP hD hS [1, 2] [0] rfl rfl (by decide) (by decide) (kb_rV (As := [.int x4]) (rest := []) (wc := [kb_o tp 1 [.ref ta, .int 12], kb_a G ta 16 (uu7.2 0)]) (q0 := 0) ⟨hx, hb, hml, hown, ht⟩ ((c_Row_addNumber_n l G tp ta 12 16 (uu7.2 0) x4 (by omega) (by omega)) _) (kb_gV wd_ea688bce wd_091fe404 wd_2d8090cf wd_4182e433 wd_378b6872) ⟨rfl, hd_6154874f⟩ ⟨(Nat.le_of_ble_eq_true rfl), (Nat.le_of_ble_eq_true rfl)⟩ hE hP hD hS [1, 2] rfl (by decide) rfl rfl rfl hl.1 rfl (Nat.le_of_ble_eq_true rfl) d_Press_feed_52 ⟨(Nat.le_of_ble_eq_true rfl), (Nat.le_of_ble_eq_true rfl)⟩) (fun uu9 H locs hw hP hD hS => ?_)
  have hP : va_P G.1 kb_cl [kb_o h 3 [.ref tp, .ref ld, .ref rd, .ref tr, .ref sp], kb_o tp 1 [.ref ta, .int 16], kb_a G ta 16 (uu9.2 0)] H := hP
  have hD : va_D A [kb_o h 3 [.ref tp, .ref ld, .ref rd, .ref tr, .ref sp], kb_o tp 1 [.ref ta, .int 16], kb_a G ta 16 (uu9.2 0)] := hD
  refine lv_aload_n hx hb d_Press_feed_55 rfl (lv_at hl 0 rfl) ?_
  refine va_get (D := G.1) (ci := 3) (v := .ref tp) (C := "TreePress") (T := kb_F3) (N := 5) hx hb ht kb_w3 hown hE.1 hP 0 rfl rfl 0 (by decide) (ht _ wd_667fbbc4) (fun _ h9 => h9) rfl d_Press_feed_56 ?_
  refine lv_iload hx hb d_Press_feed_59 (lv_at hl 5 rfl) ?_
  refine kb_v (wc := [kb_o tp 1 [.ref ta, .int 16], kb_a G ta 16 (uu9.2 0)]) (wr := [kb_o h 3 [.ref tp, .ref ld, .ref rd, .ref tr, .ref sp]]) hE hP hD hS [1, 2] [0] rfl rfl (by decide) (by decide) (kb_rV (As := [.int x5]) (rest := []) (wc := [kb_o tp 1 [.ref ta, .int 16], kb_a G ta 16 (uu9.2 0)]) (q0 := 0) ⟨hx, hb, hml, hown, ht⟩ ((c_Row_addNumber_g16 l G tp ta (uu9.2 0) x5) _) (kb_gV wd_ea688bce wd_091fe404 wd_2d8090cf wd_4182e433 wd_378b6872) ⟨rfl, hd_6154874f⟩ ⟨(Nat.le_of_ble_eq_true rfl), (Nat.le_of_ble_eq_true rfl)⟩ hE hP hD hS [1, 2] rfl (by decide) rfl rfl rfl hl.1 rfl (Nat.le_of_ble_eq_true rfl) d_Press_feed_61 ⟨(Nat.le_of_ble_eq_true rfl), (Nat.le_of_ble_eq_true rfl)⟩) (fun uu11 H locs hw hP hD hS => ?_)
  have hP : va_P G.1 kb_cl [kb_o h 3 [.ref tp, .ref ld, .ref rd, .ref tr, .ref sp], kb_o tp 1 [.ref (uu11.1 0), .int 20], kb_a G (uu11.1 0) 32 (uu11.2 0)] H := hP
  have hD : va_D A [kb_o h 3 [.ref tp, .ref ld, .ref rd, .ref tr, .ref sp], kb_o tp 1 [.ref (uu11.1 0), .int 20], kb_a G (uu11.1 0) 32 (uu11.2 0)] := hD
  refine lv_aload_n hx hb d_Press_feed_64 rfl (lv_at hl 0 rfl) ?_
  refine va_get (D := G.1) (ci := 3) (v := .ref tp) (C := "TreePress") (T := kb_F3) (N := 5) hx hb ht kb_w3 hown hE.1 hP 0 rfl rfl 0 (by decide) (ht _ wd_667fbbc4) (fun _ h9 => h9) rfl d_Press_feed_65 ?_
  refine kb_i (wc := [kb_o tp 1 [.ref (uu11.1 0), .int 20]]) (wr := [kb_o h 3 [.ref tp, .ref ld, .ref rd, .ref tr, .ref sp], kb_a G (uu11.1 0) 32 (uu11.2 0)]) hE hP hD hS [1] [0, 2] rfl rfl (by decide) (by decide) (kb_rV (As := []) (rest := []) (wc := [kb_o tp 1 [.ref (uu11.1 0), .int 20]]) (q0 := 0) ⟨hx, hb, hml, hown, ht⟩ ((c_Row_length l G tp (uu11.1 0) 20) _) (kb_gV wd_b6aba818 wd_5e08083b wd_489345cb wd_4182e433 wd_8d5193a7) ⟨rfl, hd_d85231f4⟩ ⟨(Nat.le_of_ble_eq_true rfl), (Nat.le_of_ble_eq_true rfl)⟩ hE hP hD hS [1] rfl (by decide) rfl rfl rfl hl.1 rfl (Nat.le_of_ble_eq_true rfl) d_Press_feed_68 ⟨(Nat.le_of_ble_eq_true rfl), (Nat.le_of_ble_eq_true rfl)⟩) (fun rv14 uu13 H locs hw hP hD hS => ?_)
  have hP : va_P G.1 kb_cl [kb_o h 3 [.ref tp, .ref ld, .ref rd, .ref tr, .ref sp], kb_a G (uu11.1 0) 32 (uu11.2 0), kb_o tp 1 [.ref (uu11.1 0), .int 20]] H := hP
  have hD : va_D A [kb_o h 3 [.ref tp, .ref ld, .ref rd, .ref tr, .ref sp], kb_a G (uu11.1 0) 32 (uu11.2 0), kb_o tp 1 [.ref (uu11.1 0), .int 20]] := hD
  refine kb_top (y := 20) (show rv14 = 20 from hw) ?_
  exact kb_reti (kb_l [], kb_f []) hx hb hr hlocks hE hP hD hS [] rfl (by decide) rfl rfl (Nat.le_of_ble_eq_true rfl) (Nat.le_of_ble_eq_true rfl) d_Press_feed_71

set_option maxHeartbeats 4000000 in
set_option maxRecDepth 100000 in
theorem c_Press_end0 (l : Launch) (G : kb_G) (h : Nat) (tp : Nat) (ld : Nat) (rd : Nat) (tr : Nat) (sp : Nat) (ta : Nat) : kb_cv l G ⟨"TreePress", "end", "(I)V"⟩ prog_1_method_3_code 2 6 0 0 [.ref h, .int 0] [kb_o h 3 [.ref tp, .ref ld, .ref rd, .ref tr, .ref sp], kb_o tp 1 [.ref ta, .int 0]] (fun u => True) (fun u => []) := by
  intro sz
  refine kb_body (QQ := fun A => kb_Qv G A (fun u => True) (fun u => [])) (by decide) (Nat.le_of_ble_eq_true rfl) ?_
  intro p e s m below meth c A B ls hl
  obtain ⟨hx, hb, hr, hml, hlocks, hin, hown, ht, hE, hP, hD, hS⟩ := B
  have hl : lv_has ls 2 [(0, .ref h), (1, .int 0)] := hl
  have hP0 := hP
  obtain ⟨H, hHe⟩ : ∃ H, H = s.heap := ⟨_, rfl⟩
  rw [← hHe] at hP
  have hS : va_S A s.heap H [] := by rw [hHe]; exact hS
  refine kb_at hHe ?_
  clear hHe
  refine lv_iload_n hx hb d_Press_end_0 rfl (lv_at hl 1 rfl) ?_
  refine lv_if_lt (tgt := 15) hx hb d_Press_end_1 (by decide) (fun c9 => absurd c9 (by decide)) (fun c9 => ?_)
  refine lv_iload_n hx hb d_Press_end_4 rfl (lv_at hl 1 rfl) ?_
  refine lv_aload_n hx hb d_Press_end_5 rfl (lv_at hl 0 rfl) ?_
  refine va_get (D := G.1) (ci := 3) (v := .ref tp) (C := "TreePress") (T := kb_F3) (N := 5) hx hb ht kb_w3 hown hE.1 hP 0 rfl rfl 0 (by decide) (ht _ wd_667fbbc4) (fun _ h9 => h9) rfl d_Press_end_6 ?_
  refine kb_i (wc := [kb_o tp 1 [.ref ta, .int 0]]) (wr := [kb_o h 3 [.ref tp, .ref ld, .ref rd, .ref tr, .ref sp]]) hE hP hD hS [1] [0] rfl rfl (by decide) (by decide) (kb_rV (As := []) (rest := [.int 0]) (wc := [kb_o tp 1 [.ref ta, .int 0]]) (q0 := 0) ⟨hx, hb, hml, hown, ht⟩ ((c_Row_length l G tp ta 0) _) (kb_gV wd_b6aba818 wd_5e08083b wd_489345cb wd_4182e433 wd_8d5193a7) ⟨rfl, hd_d85231f4⟩ ⟨(Nat.le_of_ble_eq_true rfl), (Nat.le_of_ble_eq_true rfl)⟩ hE hP hD hS [1] rfl (by decide) rfl rfl rfl hl.1 rfl (Nat.le_of_ble_eq_true rfl) d_Press_end_9 ⟨(Nat.le_of_ble_eq_true rfl), (Nat.le_of_ble_eq_true rfl)⟩) (fun rv2 uu1 H locs hw hP hD hS => ?_)
  have hP : va_P G.1 kb_cl [kb_o h 3 [.ref tp, .ref ld, .ref rd, .ref tr, .ref sp], kb_o tp 1 [.ref ta, .int 0]] H := hP
  have hD : va_D A [kb_o h 3 [.ref tp, .ref ld, .ref rd, .ref tr, .ref sp], kb_o tp 1 [.ref ta, .int 0]] := hD
  refine kb_top (y := 0) (show rv2 = 0 from hw) ?_
  refine lv_icmp_le (tgt := 25) hx hb d_Press_end_12 (by decide) (fun c9 => ?_) (fun c9 => absurd (by decide) c9)
  refine lv_aload_n hx hb d_Press_end_25 rfl (lv_at hl 0 rfl) ?_
  refine va_get (D := G.1) (ci := 3) (v := .ref tp) (C := "TreePress") (T := kb_F3) (N := 5) hx hb ht kb_w3 hown hE.1 hP 0 rfl rfl 0 (by decide) (ht _ wd_667fbbc4) (fun _ h9 => h9) rfl d_Press_end_26 ?_
  refine lv_iload_n hx hb d_Press_end_29 rfl (lv_at hl 1 rfl) ?_
  refine kb_v (wc := [kb_o tp 1 [.ref ta, .int 0]]) (wr := [kb_o h 3 [.ref tp, .ref ld, .ref rd, .ref tr, .ref sp]]) hE hP hD hS [1] [0] rfl rfl (by decide) (by decide) (kb_rV (As := [.int 0]) (rest := []) (wc := [kb_o tp 1 [.ref ta, .int 0]]) (q0 := 0) ⟨hx, hb, hml, hown, ht⟩ ((c_Row_cut0 l G tp ta) _) (kb_gV wd_50e9e1ec wd_a30f3437 wd_8c6818e9 wd_4182e433 wd_86891071) ⟨rfl, hd_934340dd⟩ ⟨(Nat.le_of_ble_eq_true rfl), (Nat.le_of_ble_eq_true rfl)⟩ hE hP hD hS [1] rfl (by decide) rfl rfl rfl hl.1 rfl (Nat.le_of_ble_eq_true rfl) d_Press_end_30 ⟨(Nat.le_of_ble_eq_true rfl), (Nat.le_of_ble_eq_true rfl)⟩) (fun uu3 H locs hw hP hD hS => ?_)
  have hP : va_P G.1 kb_cl [kb_o h 3 [.ref tp, .ref ld, .ref rd, .ref tr, .ref sp], kb_o tp 1 [.ref ta, .int 0]] H := hP
  have hD : va_D A [kb_o h 3 [.ref tp, .ref ld, .ref rd, .ref tr, .ref sp], kb_o tp 1 [.ref ta, .int 0]] := hD
  exact kb_retv (kb_l [], kb_f []) hx hb hr hlocks hE hP hD hS [] rfl (by decide) rfl trivial (Nat.le_of_ble_eq_true rfl) (Nat.le_of_ble_eq_true rfl) d_Press_end_33

set_option maxHeartbeats 4000000 in
set_option maxRecDepth 100000 in
theorem c_Press_endX (l : Launch) (hst : l.stackTraces = false) (G : kb_G) (h : Nat) (tp : Nat) (ld : Nat) (rd : Nat) (tr : Nat) (sp : Nat) (ta : Nat) (n : Int32) (hn : ¬ n = 0) : kb_cx l G ⟨"TreePress", "end", "(I)V"⟩ prog_1_method_3_code 2 none 6 1 6 [.ref h, .int n] [kb_o h 3 [.ref tp, .ref ld, .ref rd, .ref tr, .ref sp], kb_o tp 1 [.ref ta, .int 0]] "java/lang/IllegalArgumentException" := by
  refine kb_bodyX (by decide) (Nat.le_of_ble_eq_true rfl) ?_
  intro p e s m below meth c A B hno hAw ls hl
  obtain ⟨hx, hb, hr, hml, hlocks, hin, hown, ht, hE, hP, hD, hS⟩ := B
  have hl : lv_has ls 2 [(0, .ref h), (1, .int n)] := hl
  have hP0 := hP
  obtain ⟨H, hHe⟩ : ∃ H, H = s.heap := ⟨_, rfl⟩
  rw [← hHe] at hP
  have hS : va_S A s.heap H [] := by rw [hHe]; exact hS
  refine kb_at hHe ?_
  clear hHe
  refine lv_iload_n hx hb d_Press_end_0 rfl (lv_at hl 1 rfl) ?_
  refine lv_if_lt (tgt := 15) hx hb d_Press_end_1 (by decide) (fun cb1 => ?_) (fun cb1 => ?_)
  · exact kb_throw (E := "java/lang/IllegalArgumentException") (names := kb_names) (wi := [kb_o h 3 [.ref tp, .ref ld, .ref rd, .ref tr, .ref sp], kb_o tp 1 [.ref ta, .int 0]]) hx hb hst hown ht hE (by decide +kernel) (by decide +kernel) wd_c02bd52e wd_2cf38b0f kb_own_IllegalArgument kb_ownb_IllegalArgument (by decide +kernel) (List.mem_of_getElem? (i := 1) rfl) hP0 hAw hS (hl.1.trans hml.symm) hno hlocks d_Press_end_15 d_Press_end_18 d_Press_end_19 d_Press_end_21 d_Press_end_24 (Nat.le_of_ble_eq_true rfl) (Nat.le_of_ble_eq_true rfl) (Nat.le_of_ble_eq_true rfl) (Nat.le_of_ble_eq_true rfl) (Nat.le_of_ble_eq_true rfl) (Nat.le_of_ble_eq_true rfl)
  · refine lv_iload_n hx hb d_Press_end_4 rfl (lv_at hl 1 rfl) ?_
    refine lv_aload_n hx hb d_Press_end_5 rfl (lv_at hl 0 rfl) ?_
    refine va_get (D := G.1) (ci := 3) (v := .ref tp) (C := "TreePress") (T := kb_F3) (N := 5) hx hb ht kb_w3 hown hE.1 hP 0 rfl rfl 0 (by decide) (ht _ wd_667fbbc4) (fun _ h9 => h9) rfl d_Press_end_6 ?_
    refine kb_i (wc := [kb_o tp 1 [.ref ta, .int 0]]) (wr := [kb_o h 3 [.ref tp, .ref ld, .ref rd, .ref tr, .ref sp]]) hE hP hD hS [1] [0] rfl rfl (by decide) (by decide) (kb_rV (As := []) (rest := [.int n]) (wc := [kb_o tp 1 [.ref ta, .int 0]]) (q0 := 0) ⟨hx, hb, hml, hown, ht⟩ ((c_Row_length l G tp ta 0) _) (kb_gV wd_b6aba818 wd_5e08083b wd_489345cb wd_4182e433 wd_8d5193a7) ⟨rfl, hd_d85231f4⟩ ⟨(Nat.le_of_ble_eq_true rfl), (Nat.le_of_ble_eq_true rfl)⟩ hE hP hD hS [1] rfl (by decide) rfl rfl rfl hl.1 rfl (Nat.le_of_ble_eq_true rfl) d_Press_end_9 ⟨(Nat.le_of_ble_eq_true rfl), (Nat.le_of_ble_eq_true rfl)⟩) (fun rv3 uu2 H locs hw hP hD hS => ?_)
    have hP : va_P G.1 kb_cl [kb_o h 3 [.ref tp, .ref ld, .ref rd, .ref tr, .ref sp], kb_o tp 1 [.ref ta, .int 0]] H := hP
    have hD : va_D A [kb_o h 3 [.ref tp, .ref ld, .ref rd, .ref tr, .ref sp], kb_o tp 1 [.ref ta, .int 0]] := hD
    refine kb_top (y := 0) (show rv3 = 0 from hw) ?_
    refine lv_icmp_le (tgt := 25) hx hb d_Press_end_12 (by decide) (fun c9 => False.elim (by have e0 : ¬ (n : Int32).toInt = (0 : Int32).toInt := fun z9 => hn (Int32.toInt_inj.mp z9); have e1 : ¬ (n : Int32).toInt < (0 : Int32).toInt := fun z9 => cb1 (Int32.lt_iff_toInt_lt.mpr z9); have e2 : (n : Int32).toInt ≤ (0 : Int32).toInt := Int32.le_iff_toInt_le.mp c9; have k0 : (0 : Int32).toInt = 0 := rfl; omega)) (fun c9 => ?_)
    exact kb_throw (E := "java/lang/IllegalArgumentException") (names := kb_names) (wi := [kb_o h 3 [.ref tp, .ref ld, .ref rd, .ref tr, .ref sp], kb_o tp 1 [.ref ta, .int 0]]) hx hb hst hown ht hE (by decide +kernel) (by decide +kernel) wd_c02bd52e wd_2cf38b0f kb_own_IllegalArgument kb_ownb_IllegalArgument (by decide +kernel) (List.mem_of_getElem? (i := 1) rfl) hP0 hAw hS (hl.1.trans hml.symm) hno hlocks d_Press_end_15 d_Press_end_18 d_Press_end_19 d_Press_end_21 d_Press_end_24 (Nat.le_of_ble_eq_true rfl) (Nat.le_of_ble_eq_true rfl) (Nat.le_of_ble_eq_true rfl) (Nat.le_of_ble_eq_true rfl) (Nat.le_of_ble_eq_true rfl) (Nat.le_of_ble_eq_true rfl)

set_option maxHeartbeats 4000000 in
set_option maxRecDepth 100000 in
theorem c_Press_clear (l : Launch) (G : kb_G) (h : Nat) (tp : Nat) (ld : Nat) (rd : Nat) (tr : Nat) (sp : Nat) (r0 : Nat) (r1 : Nat) (r2 : Nat) (r3 : Nat) (r4 : Nat) (r5 : Nat) (r6 : Nat) (r7 : Nat) (r8 : Nat) (r9 : Nat) (r10 : Nat) (r11 : Nat) (L : Int32) (P : Int32) (a0 : Nat) (a1 : Nat) (a2 : Nat) (a3 : Nat) (a4 : Nat) (a5 : Nat) (a6 : Nat) (a7 : Nat) (a8 : Nat) (a9 : Nat) (a10 : Nat) (a11 : Nat) : kb_cv l G ⟨"TreePress", "clear", "()V"⟩ prog_1_method_4_code 1 7 0 0 [.ref h] [kb_o h 3 [.ref tp, .ref ld, .ref rd, .ref tr, .ref sp], kb_o tr 2 [.ref r0, .ref r1, .ref r2, .ref r3, .ref r4, .ref r5, .ref r6, .ref r7, .ref r8, .ref r9, .ref r10, .ref r11, .int L, .int P], kb_o r0 1 [.ref a0, .int 0], kb_o r1 1 [.ref a1, .int 1], kb_o r2 1 [.ref a2, .int 1], kb_o r3 1 [.ref a3, .int 1], kb_o r4 1 [.ref a4, .int 1], kb_o r5 1 [.ref a5, .int 1], kb_o r6 1 [.ref a6, .int 1], kb_o r7 1 [.ref a7, .int 0], kb_o r8 1 [.ref a8, .int 0], kb_o r9 1 [.ref a9, .int 0], kb_o r10 1 [.ref a10, .int 0], kb_o r11 1 [.ref a11, .int 0], kb_a G a1 16 (upd (fun _ => 0) 0 (-1)), kb_a G a2 16 (upd (fun _ => 0) 0 1), kb_a G a3 16 (upd (fun _ => 0) 0 0), kb_a G a4 16 (upd (fun _ => 0) 0 0), kb_a G a5 16 (upd (fun _ => 0) 0 0), kb_a G a6 16 (upd (fun _ => 0) 0 0)] (fun u => True) (fun u => []) := by
  intro sz
  refine kb_body (QQ := fun A => kb_Qv G A (fun u => True) (fun u => [])) (by decide) (Nat.le_of_ble_eq_true rfl) ?_
  intro p e s m below meth c A B ls hl
  obtain ⟨hx, hb, hr, hml, hlocks, hin, hown, ht, hE, hP, hD, hS⟩ := B
  have hl : lv_has ls 1 [(0, .ref h)] := hl
  have hP0 := hP
  obtain ⟨H, hHe⟩ : ∃ H, H = s.heap := ⟨_, rfl⟩
  rw [← hHe] at hP
  have hS : va_S A s.heap H [] := by rw [hHe]; exact hS
  refine kb_at hHe ?_
  clear hHe
  refine lv_aload_n hx hb d_Press_clear_0 rfl (lv_at hl 0 rfl) ?_
  refine va_get (D := G.1) (ci := 3) (v := .ref tr) (C := "TreePress") (T := kb_F3) (N := 5) hx hb ht kb_w3 hown hE.1 hP 0 rfl rfl 3 (by decide) (ht _ wd_29809c8a) (fun _ h9 => h9) rfl d_Press_clear_1 ?_
  refine kb_v (wc := [kb_o tr 2 [.ref r0, .ref r1, .ref r2, .ref r3, .ref r4, .ref r5, .ref r6, .ref r7, .ref r8, .ref r9, .ref r10, .ref r11, .int L, .int P], kb_o r0 1 [.ref a0, .int 0], kb_o r1 1 [.ref a1, .int 1], kb_o r2 1 [.ref a2, .int 1], kb_o r3 1 [.ref a3, .int 1], kb_o r4 1 [.ref a4, .int 1], kb_o r5 1 [.ref a5, .int 1], kb_o r6 1 [.ref a6, .int 1], kb_o r7 1 [.ref a7, .int 0], kb_o r8 1 [.ref a8, .int 0], kb_o r9 1 [.ref a9, .int 0], kb_o r10 1 [.ref a10, .int 0], kb_o r11 1 [.ref a11, .int 0], kb_a G a1 16 (upd (fun _ => 0) 0 (-1)), kb_a G a2 16 (upd (fun _ => 0) 0 1), kb_a G a3 16 (upd (fun _ => 0) 0 0), kb_a G a4 16 (upd (fun _ => 0) 0 0), kb_a G a5 16 (upd (fun _ => 0) 0 0), kb_a G a6 16 (upd (fun _ => 0) 0 0)]) (wr := [kb_o h 3 [.ref tp, .ref ld, .ref rd, .ref tr, .ref sp]]) hE hP hD hS [1, 2, 3, 4, 5, 6, 7, 8, 9, 10, 11, 12, 13, 14, 15, 16, 17, 18, 19] [0] rfl rfl (by decide) (by decide) (kb_rV (As := []) (rest := []) (wc := [kb_o tr 2 [.ref r0, .ref r1, .ref r2, .ref r3, .ref r4, .ref r5, .ref r6, .ref r7, .ref r8, .ref r9, .ref r10, .ref r11, .int L, .int P], kb_o r0 1 [.ref a0, .int 0], kb_o r1 1 [.ref a1, .int 1], kb_o r2 1 [.ref a2, .int 1], kb_o r3 1 [.ref a3, .int 1], kb_o r4 1 [.ref a4, .int 1], kb_o r5 1 [.ref a5, .int 1], kb_o r6 1 [.ref a6, .int 1], kb_o r7 1 [.ref a7, .int 0], kb_o r8 1 [.ref a8, .int 0], kb_o r9 1 [.ref a9, .int 0], kb_o r10 1 [.ref a10, .int 0], kb_o r11 1 [.ref a11, .int 0], kb_a G a1 16 (upd (fun _ => 0) 0 (-1)), kb_a G a2 16 (upd (fun _ => 0) 0 1), kb_a G a3 16 (upd (fun _ => 0) 0 0), kb_a G a4 16 (upd (fun _ => 0) 0 0), kb_a G a5 16 (upd (fun _ => 0) 0 0), kb_a G a6 16 (upd (fun _ => 0) 0 0)]) (q0 := 0) ⟨hx, hb, hml, hown, ht⟩ ((c_Tree_wipe1 l G tr r0 r1 r2 r3 r4 r5 r6 r7 r8 r9 r10 r11 L P a0 a1 a2 a3 a4 a5 a6 a7 a8 a9 a10 a11 (upd (fun _ => 0) 0 (-1)) (upd (fun _ => 0) 0 1) (upd (fun _ => 0) 0 0) (upd (fun _ => 0) 0 0) (upd (fun _ => 0) 0 0) (upd (fun _ => 0) 0 0)) _) (kb_gV wd_89e4deee wd_ece7ca0c wd_737eaf02 wd_ebf91e09 wd_aec3778d) ⟨rfl, hd_4ac2e733⟩ ⟨(Nat.le_of_ble_eq_true rfl), (Nat.le_of_ble_eq_true rfl)⟩ hE hP hD hS [1, 2, 3, 4, 5, 6, 7, 8, 9, 10, 11, 12, 13, 14, 15, 16, 17, 18, 19] rfl (by decide) rfl rfl rfl hl.1 rfl (Nat.le_of_ble_eq_true rfl) d_Press_clear_4 ⟨(Nat.le_of_ble_eq_true rfl), (Nat.le_of_ble_eq_true rfl)⟩) (fun uu1 H locs hw hP hD hS => ?_)
  have hP : va_P G.1 kb_cl [kb_o h 3 [.ref tp, .ref ld, .ref rd, .ref tr, .ref sp], kb_o r8 1 [.ref a8, .int 0], kb_o r9 1 [.ref a9, .int 0], kb_o r10 1 [.ref a10, .int 0], kb_o r11 1 [.ref a11, .int 0], kb_o r1 1 [.ref a1, .int 1], kb_a G a1 16 (upd (upd (fun _ => 0) 0 (-1)) 0 (-1)), kb_o r2 1 [.ref a2, .int 1], kb_a G a2 16 (upd (upd (fun _ => 0) 0 1) 0 1), kb_o r3 1 [.ref a3, .int 1], kb_a G a3 16 (upd (upd (fun _ => 0) 0 0) 0 0), kb_o r4 1 [.ref a4, .int 1], kb_a G a4 16 (upd (upd (fun _ => 0) 0 0) 0 0), kb_o tr 2 [.ref r0, .ref r1, .ref r2, .ref r3, .ref r4, .ref r5, .ref r6, .ref r7, .ref r8, .ref r9, .ref r10, .ref r11, .int 0, .int 0], kb_o r7 1 [.ref a7, .int 0], kb_o r5 1 [.ref a5, .int 1], kb_a G a5 16 (upd (upd (fun _ => 0) 0 0) 0 0), kb_o r6 1 [.ref a6, .int 1], kb_a G a6 16 (upd (upd (fun _ => 0) 0 0) 0 0), kb_o r0 1 [.ref a0, .int 0]] H := hP
  have hD : va_D A [kb_o h 3 [.ref tp, .ref ld, .ref rd, .ref tr, .ref sp], kb_o r8 1 [.ref a8, .int 0], kb_o r9 1 [.ref a9, .int 0], kb_o r10 1 [.ref a10, .int 0], kb_o r11 1 [.ref a11, .int 0], kb_o r1 1 [.ref a1, .int 1], kb_a G a1 16 (upd (upd (fun _ => 0) 0 (-1)) 0 (-1)), kb_o r2 1 [.ref a2, .int 1], kb_a G a2 16 (upd (upd (fun _ => 0) 0 1) 0 1), kb_o r3 1 [.ref a3, .int 1], kb_a G a3 16 (upd (upd (fun _ => 0) 0 0) 0 0), kb_o r4 1 [.ref a4, .int 1], kb_a G a4 16 (upd (upd (fun _ => 0) 0 0) 0 0), kb_o tr 2 [.ref r0, .ref r1, .ref r2, .ref r3, .ref r4, .ref r5, .ref r6, .ref r7, .ref r8, .ref r9, .ref r10, .ref r11, .int 0, .int 0], kb_o r7 1 [.ref a7, .int 0], kb_o r5 1 [.ref a5, .int 1], kb_a G a5 16 (upd (upd (fun _ => 0) 0 0) 0 0), kb_o r6 1 [.ref a6, .int 1], kb_a G a6 16 (upd (upd (fun _ => 0) 0 0) 0 0), kb_o r0 1 [.ref a0, .int 0]] := hD
  exact kb_retv (kb_l [], kb_f []) hx hb hr hlocks hE hP hD hS [] rfl (by decide) rfl trivial (Nat.le_of_ble_eq_true rfl) (Nat.le_of_ble_eq_true rfl) d_Press_clear_7

set_option maxHeartbeats 4000000 in
set_option maxRecDepth 100000 in
theorem c_Press_openX (l : Launch) (hst : l.stackTraces = false) (G : kb_G) (h : Nat) (tp : Nat) (ld : Nat) (rd : Nat) (tr : Nat) (sp : Nat) (ta : Nat) : kb_cx l G ⟨"TreePress", "open", "()I"⟩ prog_1_method_5_code 3 (some .int) 6 1 6 [.ref h] [kb_o h 3 [.ref tp, .ref ld, .ref rd, .ref tr, .ref sp], kb_o tp 1 [.ref ta, .int 0]] "java/lang/IllegalArgumentException" := by
  refine kb_bodyX (by decide) (Nat.le_of_ble_eq_true rfl) ?_
  intro p e s m below meth c A B hno hAw ls hl
  obtain ⟨hx, hb, hr, hml, hlocks, hin, hown, ht, hE, hP, hD, hS⟩ := B
  have hl : lv_has ls 3 [(0, .ref h)] := hl
  have hP0 := hP
  obtain ⟨H, hHe⟩ : ∃ H, H = s.heap := ⟨_, rfl⟩
  rw [← hHe] at hP
  have hS : va_S A s.heap H [] := by rw [hHe]; exact hS
  refine kb_at hHe ?_
  clear hHe
  refine lv_aload_n hx hb d_Press_open_0 rfl (lv_at hl 0 rfl) ?_
  refine va_get (D := G.1) (ci := 3) (v := .ref tp) (C := "TreePress") (T := kb_F3) (N := 5) hx hb ht kb_w3 hown hE.1 hP 0 rfl rfl 0 (by decide) (ht _ wd_667fbbc4) (fun _ h9 => h9) rfl d_Press_open_1 ?_
  refine kb_i (wc := [kb_o tp 1 [.ref ta, .int 0]]) (wr := [kb_o h 3 [.ref tp, .ref ld, .ref rd, .ref tr, .ref sp]]) hE hP hD hS [1] [0] rfl rfl (by decide) (by decide) (kb_rV (As := []) (rest := []) (wc := [kb_o tp 1 [.ref ta, .int 0]]) (q0 := 0) ⟨hx, hb, hml, hown, ht⟩ ((c_Row_length l G tp ta 0) _) (kb_gV wd_b6aba818 wd_5e08083b wd_489345cb wd_4182e433 wd_8d5193a7) ⟨rfl, hd_d85231f4⟩ ⟨(Nat.le_of_ble_eq_true rfl), (Nat.le_of_ble_eq_true rfl)⟩ hE hP hD hS [1] rfl (by decide) rfl rfl rfl hl.1 rfl (Nat.le_of_ble_eq_true rfl) d_Press_open_4 ⟨(Nat.le_of_ble_eq_true rfl), (Nat.le_of_ble_eq_true rfl)⟩) (fun rv2 uu1 H locs hw hP hD hS => ?_)
  have hP : va_P G.1 kb_cl [kb_o h 3 [.ref tp, .ref ld, .ref rd, .ref tr, .ref sp], kb_o tp 1 [.ref ta, .int 0]] H := hP
  have hD : va_D A [kb_o h 3 [.ref tp, .ref ld, .ref rd, .ref tr, .ref sp], kb_o tp 1 [.ref ta, .int 0]] := hD
  refine kb_top (y := 0) (show rv2 = 0 from hw) ?_
  refine lv_istore_n (lv' := [(1, .int 0), (0, .ref h)]) hx hb d_Press_open_7 rfl hl (by decide) rfl (fun ls hl => ?_)
  refine lv_aload_n hx hb d_Press_open_8 rfl (lv_at hl 1 rfl) ?_
  refine va_get (D := G.1) (ci := 3) (v := .ref tp) (C := "TreePress") (T := kb_F3) (N := 5) hx hb ht kb_w3 hown hE.1 hP 0 rfl rfl 0 (by decide) (ht _ wd_667fbbc4) (fun _ h9 => h9) rfl d_Press_open_9 ?_
  refine lv_iconst (v := 0) hx hb d_Press_open_12 (by decide) ?_
  refine lv_iload_n hx hb d_Press_open_13 rfl (lv_at hl 0 rfl) ?_
  refine kb_i (wc := [kb_o tp 1 [.ref ta, .int 0]]) (wr := [kb_o h 3 [.ref tp, .ref ld, .ref rd, .ref tr, .ref sp]]) hE hP hD hS [1] [0] rfl rfl (by decide) (by decide) (kb_rV (As := [.int 0, .int 0]) (rest := []) (wc := [kb_o tp 1 [.ref ta, .int 0]]) (q0 := 0) ⟨hx, hb, hml, hown, ht⟩ ((c_Row_hasName_no l G tp ta 0 0 0 (by decide)) _) (kb_gV wd_7ead187f wd_9b3ab837 wd_de0cb18c wd_4182e433 wd_b70b5cc0) ⟨rfl, hd_fc8c0803⟩ ⟨(Nat.le_of_ble_eq_true rfl), (Nat.le_of_ble_eq_true rfl)⟩ hE hP hD hS [1] rfl (by decide) rfl rfl rfl hl.1 rfl (Nat.le_of_ble_eq_true rfl) d_Press_open_14 ⟨(Nat.le_of_ble_eq_true rfl), (Nat.le_of_ble_eq_true rfl)⟩) (fun rv4 uu3 H locs hw hP hD hS => ?_)
  have hP : va_P G.1 kb_cl [kb_o h 3 [.ref tp, .ref ld, .ref rd, .ref tr, .ref sp], kb_o tp 1 [.ref ta, .int 0]] H := hP
  have hD : va_D A [kb_o h 3 [.ref tp, .ref ld, .ref rd, .ref tr, .ref sp], kb_o tp 1 [.ref ta, .int 0]] := hD
  refine kb_top (y := 0) (show rv4 = 0 from hw) ?_
  refine lv_if_ne (tgt := 30) hx hb d_Press_open_17 (by decide) (fun c9 => absurd (by decide) c9) (fun c9 => ?_)
  exact kb_throw (E := "java/lang/IllegalArgumentException") (names := kb_names) (wi := [kb_o h 3 [.ref tp, .ref ld, .ref rd, .ref tr, .ref sp], kb_o tp 1 [.ref ta, .int 0]]) hx hb hst hown ht hE (by decide +kernel) (by decide +kernel) wd_c02bd52e wd_2cf38b0f kb_own_IllegalArgument kb_ownb_IllegalArgument (by decide +kernel) (List.mem_of_getElem? (i := 2) rfl) hP0 hAw hS (hl.1.trans hml.symm) hno hlocks d_Press_open_20 d_Press_open_23 d_Press_open_24 d_Press_open_26 d_Press_open_29 (Nat.le_of_ble_eq_true rfl) (Nat.le_of_ble_eq_true rfl) (Nat.le_of_ble_eq_true rfl) (Nat.le_of_ble_eq_true rfl) (Nat.le_of_ble_eq_true rfl) (Nat.le_of_ble_eq_true rfl)

set_option maxHeartbeats 4000000 in
set_option maxRecDepth 100000 in
theorem c_Press_propertyX (l : Launch) (hst : l.stackTraces = false) (G : kb_G) (h : Nat) (tp : Nat) (ld : Nat) (rd : Nat) (tr : Nat) (sp : Nat) (ta : Nat) (k : Int32) : kb_cx l G ⟨"TreePress", "property", "(I)I"⟩ prog_1_method_6_code 4 (some .int) 6 1 6 [.ref h, .int k] [kb_o h 3 [.ref tp, .ref ld, .ref rd, .ref tr, .ref sp], kb_o tp 1 [.ref ta, .int 0]] "java/lang/IllegalArgumentException" := by
  refine kb_bodyX (by decide) (Nat.le_of_ble_eq_true rfl) ?_
  intro p e s m below meth c A B hno hAw ls hl
  obtain ⟨hx, hb, hr, hml, hlocks, hin, hown, ht, hE, hP, hD, hS⟩ := B
  have hl : lv_has ls 4 [(0, .ref h), (1, .int k)] := hl
  have hP0 := hP
  obtain ⟨H, hHe⟩ : ∃ H, H = s.heap := ⟨_, rfl⟩
  rw [← hHe] at hP
  have hS : va_S A s.heap H [] := by rw [hHe]; exact hS
  refine kb_at hHe ?_
  clear hHe
  refine lv_aload_n hx hb d_Press_property_0 rfl (lv_at hl 0 rfl) ?_
  refine va_get (D := G.1) (ci := 3) (v := .ref tp) (C := "TreePress") (T := kb_F3) (N := 5) hx hb ht kb_w3 hown hE.1 hP 0 rfl rfl 0 (by decide) (ht _ wd_667fbbc4) (fun _ h9 => h9) rfl d_Press_property_1 ?_
  refine kb_i (wc := [kb_o tp 1 [.ref ta, .int 0]]) (wr := [kb_o h 3 [.ref tp, .ref ld, .ref rd, .ref tr, .ref sp]]) hE hP hD hS [1] [0] rfl rfl (by decide) (by decide) (kb_rV (As := []) (rest := []) (wc := [kb_o tp 1 [.ref ta, .int 0]]) (q0 := 0) ⟨hx, hb, hml, hown, ht⟩ ((c_Row_length l G tp ta 0) _) (kb_gV wd_b6aba818 wd_5e08083b wd_489345cb wd_4182e433 wd_8d5193a7) ⟨rfl, hd_d85231f4⟩ ⟨(Nat.le_of_ble_eq_true rfl), (Nat.le_of_ble_eq_true rfl)⟩ hE hP hD hS [1] rfl (by decide) rfl rfl rfl hl.1 rfl (Nat.le_of_ble_eq_true rfl) d_Press_property_4 ⟨(Nat.le_of_ble_eq_true rfl), (Nat.le_of_ble_eq_true rfl)⟩) (fun rv2 uu1 H locs hw hP hD hS => ?_)
  have hP : va_P G.1 kb_cl [kb_o h 3 [.ref tp, .ref ld, .ref rd, .ref tr, .ref sp], kb_o tp 1 [.ref ta, .int 0]] H := hP
  have hD : va_D A [kb_o h 3 [.ref tp, .ref ld, .ref rd, .ref tr, .ref sp], kb_o tp 1 [.ref ta, .int 0]] := hD
  refine kb_top (y := 0) (show rv2 = 0 from hw) ?_
  refine lv_istore_n (lv' := [(2, .int 0), (0, .ref h), (1, .int k)]) hx hb d_Press_property_7 rfl hl (by decide) rfl (fun ls hl => ?_)
  refine lv_iload_n hx hb d_Press_property_8 rfl (lv_at hl 2 rfl) ?_
  refine lv_if_lt (tgt := 29) hx hb d_Press_property_9 (by decide) (fun cb3 => ?_) (fun cb3 => ?_)
  · exact kb_throw (E := "java/lang/IllegalArgumentException") (names := kb_names) (wi := [kb_o h 3 [.ref tp, .ref ld, .ref rd, .ref tr, .ref sp], kb_o tp 1 [.ref ta, .int 0]]) hx hb hst hown ht hE (by decide +kernel) (by decide +kernel) wd_c02bd52e wd_2cf38b0f kb_own_IllegalArgument kb_ownb_IllegalArgument (by decide +kernel) (List.mem_of_getElem? (i := 4) rfl) hP0 hAw hS (hl.1.trans hml.symm) hno hlocks d_Press_property_29 d_Press_property_32 d_Press_property_33 d_Press_property_35 d_Press_property_38 (Nat.le_of_ble_eq_true rfl) (Nat.le_of_ble_eq_true rfl) (Nat.le_of_ble_eq_true rfl) (Nat.le_of_ble_eq_true rfl) (Nat.le_of_ble_eq_true rfl) (Nat.le_of_ble_eq_true rfl)
  · refine lv_iload_n hx hb d_Press_property_12 rfl (lv_at hl 2 rfl) ?_
    refine lv_iload_n hx hb d_Press_property_13 rfl (lv_at hl 0 rfl) ?_
    refine lv_icmp_gt (tgt := 29) hx hb d_Press_property_14 (by decide) (fun cb4 => ?_) (fun cb4 => ?_)
    · exact kb_throw (E := "java/lang/IllegalArgumentException") (names := kb_names) (wi := [kb_o h 3 [.ref tp, .ref ld, .ref rd, .ref tr, .ref sp], kb_o tp 1 [.ref ta, .int 0]]) hx hb hst hown ht hE (by decide +kernel) (by decide +kernel) wd_c02bd52e wd_2cf38b0f kb_own_IllegalArgument kb_ownb_IllegalArgument (by decide +kernel) (List.mem_of_getElem? (i := 4) rfl) hP0 hAw hS (hl.1.trans hml.symm) hno hlocks d_Press_property_29 d_Press_property_32 d_Press_property_33 d_Press_property_35 d_Press_property_38 (Nat.le_of_ble_eq_true rfl) (Nat.le_of_ble_eq_true rfl) (Nat.le_of_ble_eq_true rfl) (Nat.le_of_ble_eq_true rfl) (Nat.le_of_ble_eq_true rfl) (Nat.le_of_ble_eq_true rfl)
    · refine lv_aload_n hx hb d_Press_property_17 rfl (lv_at hl 1 rfl) ?_
      refine va_get (D := G.1) (ci := 3) (v := .ref tp) (C := "TreePress") (T := kb_F3) (N := 5) hx hb ht kb_w3 hown hE.1 hP 0 rfl rfl 0 (by decide) (ht _ wd_667fbbc4) (fun _ h9 => h9) rfl d_Press_property_18 ?_
      refine lv_iconst (v := 0) hx hb d_Press_property_21 (by decide) ?_
      refine lv_iload_n hx hb d_Press_property_22 rfl (lv_at hl 2 rfl) ?_
      refine kb_i (wc := [kb_o tp 1 [.ref ta, .int 0]]) (wr := [kb_o h 3 [.ref tp, .ref ld, .ref rd, .ref tr, .ref sp]]) hE hP hD hS [1] [0] rfl rfl (by decide) (by decide) (kb_rV (As := [.int 0, .int k]) (rest := []) (wc := [kb_o tp 1 [.ref ta, .int 0]]) (q0 := 0) ⟨hx, hb, hml, hown, ht⟩ ((c_Row_hasName_no l G tp ta 0 0 k (Decidable.byContradiction (fun z8 => (False.elim (by have e0 : ¬ (k : Int32).toInt < (0 : Int32).toInt := fun z9 => cb3 (Int32.lt_iff_toInt_lt.mpr z9); have e1 : ¬ (0 : Int32).toInt < (k : Int32).toInt := fun z9 => cb4 (Int32.lt_iff_toInt_lt.mpr z9); have e2 : ¬ (k : Int32).toInt < (1 : Int32).toInt := fun z9 => z8 (Int32.lt_iff_toInt_lt.mpr z9); have k0 : (0 : Int32).toInt = 0 := rfl; have k1 : (1 : Int32).toInt = 1 := rfl; omega))))) _) (kb_gV wd_7ead187f wd_9b3ab837 wd_de0cb18c wd_4182e433 wd_b70b5cc0) ⟨rfl, hd_fc8c0803⟩ ⟨(Nat.le_of_ble_eq_true rfl), (Nat.le_of_ble_eq_true rfl)⟩ hE hP hD hS [1] rfl (by decide) rfl rfl rfl hl.1 rfl (Nat.le_of_ble_eq_true rfl) d_Press_property_23 ⟨(Nat.le_of_ble_eq_true rfl), (Nat.le_of_ble_eq_true rfl)⟩) (fun rv6 uu5 H locs hw hP hD hS => ?_)
      have hP : va_P G.1 kb_cl [kb_o h 3 [.ref tp, .ref ld, .ref rd, .ref tr, .ref sp], kb_o tp 1 [.ref ta, .int 0]] H := hP
      have hD : va_D A [kb_o h 3 [.ref tp, .ref ld, .ref rd, .ref tr, .ref sp], kb_o tp 1 [.ref ta, .int 0]] := hD
      refine kb_top (y := 0) (show rv6 = 0 from hw) ?_
      refine lv_if_ne (tgt := 39) hx hb d_Press_property_26 (by decide) (fun c9 => absurd (by decide) c9) (fun c9 => ?_)
      exact kb_throw (E := "java/lang/IllegalArgumentException") (names := kb_names) (wi := [kb_o h 3 [.ref tp, .ref ld, .ref rd, .ref tr, .ref sp], kb_o tp 1 [.ref ta, .int 0]]) hx hb hst hown ht hE (by decide +kernel) (by decide +kernel) wd_c02bd52e wd_2cf38b0f kb_own_IllegalArgument kb_ownb_IllegalArgument (by decide +kernel) (List.mem_of_getElem? (i := 4) rfl) hP0 hAw hS (hl.1.trans hml.symm) hno hlocks d_Press_property_29 d_Press_property_32 d_Press_property_33 d_Press_property_35 d_Press_property_38 (Nat.le_of_ble_eq_true rfl) (Nat.le_of_ble_eq_true rfl) (Nat.le_of_ble_eq_true rfl) (Nat.le_of_ble_eq_true rfl) (Nat.le_of_ble_eq_true rfl) (Nat.le_of_ble_eq_true rfl)

set_option maxHeartbeats 4000000 in
set_option maxRecDepth 100000 in
theorem c_Press_closeX (l : Launch) (hst : l.stackTraces = false) (G : kb_G) (h : Nat) (tp : Nat) (ld : Nat) (rd : Nat) (tr : Nat) (sp : Nat) (r0 : Nat) (r1 : Nat) (r2 : Nat) (r3 : Nat) (r4 : Nat) (r5 : Nat) (r6 : Nat) (r7 : Nat) (r8 : Nat) (r9 : Nat) (r10 : Nat) (r11 : Nat) (L : Int32) : kb_cx l G ⟨"TreePress", "close", "()I"⟩ prog_1_method_7_code 1 (some .int) 6 1 6 [.ref h] [kb_o h 3 [.ref tp, .ref ld, .ref rd, .ref tr, .ref sp], kb_o tr 2 [.ref r0, .ref r1, .ref r2, .ref r3, .ref r4, .ref r5, .ref r6, .ref r7, .ref r8, .ref r9, .ref r10, .ref r11, .int L, .int 0]] "java/lang/IllegalArgumentException" := by
  refine kb_bodyX (by decide) (Nat.le_of_ble_eq_true rfl) ?_
  intro p e s m below meth c A B hno hAw ls hl
  obtain ⟨hx, hb, hr, hml, hlocks, hin, hown, ht, hE, hP, hD, hS⟩ := B
  have hl : lv_has ls 1 [(0, .ref h)] := hl
  have hP0 := hP
  obtain ⟨H, hHe⟩ : ∃ H, H = s.heap := ⟨_, rfl⟩
  rw [← hHe] at hP
  have hS : va_S A s.heap H [] := by rw [hHe]; exact hS
  refine kb_at hHe ?_
  clear hHe
  refine lv_aload_n hx hb d_Press_close_0 rfl (lv_at hl 0 rfl) ?_
  refine va_get (D := G.1) (ci := 3) (v := .ref tr) (C := "TreePress") (T := kb_F3) (N := 5) hx hb ht kb_w3 hown hE.1 hP 0 rfl rfl 3 (by decide) (ht _ wd_29809c8a) (fun _ h9 => h9) rfl d_Press_close_1 ?_
  refine kb_i (wc := [kb_o tr 2 [.ref r0, .ref r1, .ref r2, .ref r3, .ref r4, .ref r5, .ref r6, .ref r7, .ref r8, .ref r9, .ref r10, .ref r11, .int L, .int 0]]) (wr := [kb_o h 3 [.ref tp, .ref ld, .ref rd, .ref tr, .ref sp]]) hE hP hD hS [1] [0] rfl rfl (by decide) (by decide) (kb_rV (As := []) (rest := []) (wc := [kb_o tr 2 [.ref r0, .ref r1, .ref r2, .ref r3, .ref r4, .ref r5, .ref r6, .ref r7, .ref r8, .ref r9, .ref r10, .ref r11, .int L, .int 0]]) (q0 := 0) ⟨hx, hb, hml, hown, ht⟩ ((c_Tree_placeIsFirst l G tr r0 r1 r2 r3 r4 r5 r6 r7 r8 r9 r10 r11 L) _) (kb_gV wd_00104652 wd_07d8eb28 wd_47ccf0f8 wd_ebf91e09 wd_032c31a5) ⟨rfl, hd_0c218c32⟩ ⟨(Nat.le_of_ble_eq_true rfl), (Nat.le_of_ble_eq_true rfl)⟩ hE hP hD hS [1] rfl (by decide) rfl rfl rfl hl.1 rfl (Nat.le_of_ble_eq_true rfl) d_Press_close_4 ⟨(Nat.le_of_ble_eq_true rfl), (Nat.le_of_ble_eq_true rfl)⟩) (fun rv2 uu1 H locs hw hP hD hS => ?_)
  have hP : va_P G.1 kb_cl [kb_o h 3 [.ref tp, .ref ld, .ref rd, .ref tr, .ref sp], kb_o tr 2 [.ref r0, .ref r1, .ref r2, .ref r3, .ref r4, .ref r5, .ref r6, .ref r7, .ref r8, .ref r9, .ref r10, .ref r11, .int L, .int 0]] H := hP
  have hD : va_D A [kb_o h 3 [.ref tp, .ref ld, .ref rd, .ref tr, .ref sp], kb_o tr 2 [.ref r0, .ref r1, .ref r2, .ref r3, .ref r4, .ref r5, .ref r6, .ref r7, .ref r8, .ref r9, .ref r10, .ref r11, .int L, .int 0]] := hD
  refine kb_top (y := 1) (show rv2 = 1 from hw) ?_
  refine lv_if_eq (tgt := 20) hx hb d_Press_close_7 (by decide) (fun c9 => absurd c9 (by decide)) (fun c9 => ?_)
  exact kb_throw (E := "java/lang/IllegalArgumentException") (names := kb_names) (wi := [kb_o h 3 [.ref tp, .ref ld, .ref rd, .ref tr, .ref sp], kb_o tr 2 [.ref r0, .ref r1, .ref r2, .ref r3, .ref r4, .ref r5, .ref r6, .ref r7, .ref r8, .ref r9, .ref r10, .ref r11, .int L, .int 0]]) hx hb hst hown ht hE (by decide +kernel) (by decide +kernel) wd_c02bd52e wd_2cf38b0f kb_own_IllegalArgument kb_ownb_IllegalArgument (by decide +kernel) (List.mem_of_getElem? (i := 6) rfl) hP0 hAw hS (hl.1.trans hml.symm) hno hlocks d_Press_close_10 d_Press_close_13 d_Press_close_14 d_Press_close_16 d_Press_close_19 (Nat.le_of_ble_eq_true rfl) (Nat.le_of_ble_eq_true rfl) (Nat.le_of_ble_eq_true rfl) (Nat.le_of_ble_eq_true rfl) (Nat.le_of_ble_eq_true rfl) (Nat.le_of_ble_eq_true rfl)

set_option maxHeartbeats 4000000 in
set_option maxRecDepth 100000 in
theorem c_Press_lay (l : Launch) (G : kb_G) (h : Nat) (tp : Nat) (ld : Nat) (rd : Nat) (tr : Nat) (sp : Nat) (r0 : Nat) (r1 : Nat) (r2 : Nat) (r3 : Nat) (r4 : Nat) (r5 : Nat) (r6 : Nat) (r7 : Nat) (r8 : Nat) (r9 : Nat) (r10 : Nat) (r11 : Nat) (L : Int32) (P : Int32) (a1 : Nat) (a2 : Nat) (a3 : Nat) (a4 : Nat) (a5 : Nat) (a6 : Nat) (a7 : Nat) (b : Nat) (f : Nat → Int32) : kb_ci l G ⟨"TreePress", "lay", "()I"⟩ prog_1_method_8_code 1 (some .int) 7 3 224 [.ref h] [kb_o h 3 [.ref tp, .ref ld, .ref rd, .ref tr, .ref sp], kb_o tr 2 [.ref r0, .ref r1, .ref r2, .ref r3, .ref r4, .ref r5, .ref r6, .ref r7, .ref r8, .ref r9, .ref r10, .ref r11, .int L, .int P], kb_o r1 1 [.ref a1, .int 1], kb_o r2 1 [.ref a2, .int 1], kb_o r3 1 [.ref a3, .int 1], kb_o r4 1 [.ref a4, .int 1], kb_o r5 1 [.ref a5, .int 1], kb_o r6 1 [.ref a6, .int 1], kb_o r7 1 [.ref a7, .int 0], kb_a G a2 16 (upd (fun _ => 0) 0 1), kb_a G a3 16 (upd (fun _ => 0) 0 0), kb_a G a4 16 (upd (fun _ => 0) 0 0), kb_a G a5 16 (upd (fun _ => 0) 0 0), kb_a G a6 16 (upd (fun _ => 0) 0 0), kb_o ld 1 [.ref b, .int 0], kb_a G b 16 f] (fun r u => r = 72) (fun u => []) := by
  intro sz
  refine kb_body (QQ := fun A => kb_Qi G A (fun r u => r = 72) (fun u => [])) (by decide) (Nat.le_of_ble_eq_true rfl) ?_
  intro p e s m below meth c A B ls hl
  obtain ⟨hx, hb, hr, hml, hlocks, hin, hown, ht, hE, hP, hD, hS⟩ := B
  have hl : lv_has ls 1 [(0, .ref h)] := hl
  have hP0 := hP
  obtain ⟨H, hHe⟩ : ∃ H, H = s.heap := ⟨_, rfl⟩
  rw [← hHe] at hP
  have hS : va_S A s.heap H [] := by rw [hHe]; exact hS
  refine kb_at hHe ?_
  clear hHe
  refine lv_aload_n hx hb d_Press_lay_0 rfl (lv_at hl 0 rfl) ?_
  refine va_get (D := G.1) (ci := 3) (v := .ref tr) (C := "TreePress") (T := kb_F3) (N := 5) hx hb ht kb_w3 hown hE.1 hP 0 rfl rfl 3 (by decide) (ht _ wd_29809c8a) (fun _ h9 => h9) rfl d_Press_lay_1 ?_
  refine lv_aload_n hx hb d_Press_lay_4 rfl (lv_at hl 0 rfl) ?_
  refine va_get (D := G.1) (ci := 3) (v := .ref ld) (C := "TreePress") (T := kb_F3) (N := 5) hx hb ht kb_w3 hown hE.1 hP 0 rfl rfl 1 (by decide) (ht _ wd_f079d5f7) (fun _ h9 => h9) rfl d_Press_lay_5 ?_
  refine kb_v (wc := [kb_o tr 2 [.ref r0, .ref r1, .ref r2, .ref r3, .ref r4, .ref r5, .ref r6, .ref r7, .ref r8, .ref r9, .ref r10, .ref r11, .int L, .int P], kb_o r1 1 [.ref a1, .int 1], kb_o r2 1 [.ref a2, .int 1], kb_o r3 1 [.ref a3, .int 1], kb_o r4 1 [.ref a4, .int 1], kb_o r5 1 [.ref a5, .int 1], kb_o r6 1 [.ref a6, .int 1], kb_o r7 1 [.ref a7, .int 0], kb_a G a2 16 (upd (fun _ => 0) 0 1), kb_a G a3 16 (upd (fun _ => 0) 0 0), kb_a G a4 16 (upd (fun _ => 0) 0 0), kb_a G a5 16 (upd (fun _ => 0) 0 0), kb_a G a6 16 (upd (fun _ => 0) 0 0), kb_o ld 1 [.ref b, .int 0], kb_a G b 16 f]) (wr := [kb_o h 3 [.ref tp, .ref ld, .ref rd, .ref tr, .ref sp]]) hE hP hD hS [1, 2, 3, 4, 5, 6, 7, 8, 9, 10, 11, 12, 13, 14, 15] [0] rfl rfl (by decide) (by decide) (kb_rV (As := [.ref ld]) (rest := []) (wc := [kb_o tr 2 [.ref r0, .ref r1, .ref r2, .ref r3, .ref r4, .ref r5, .ref r6, .ref r7, .ref r8, .ref r9, .ref r10, .ref r11, .int L, .int P], kb_o r1 1 [.ref a1, .int 1], kb_o r2 1 [.ref a2, .int 1], kb_o r3 1 [.ref a3, .int 1], kb_o r4 1 [.ref a4, .int 1], kb_o r5 1 [.ref a5, .int 1], kb_o r6 1 [.ref a6, .int 1], kb_o r7 1 [.ref a7, .int 0], kb_a G a2 16 (upd (fun _ => 0) 0 1), kb_a G a3 16 (upd (fun _ => 0) 0 0), kb_a G a4 16 (upd (fun _ => 0) 0 0), kb_a G a5 16 (upd (fun _ => 0) 0 0), kb_a G a6 16 (upd (fun _ => 0) 0 0), kb_o ld 1 [.ref b, .int 0], kb_a G b 16 f]) (q0 := 0) ⟨hx, hb, hml, hown, ht⟩ ((c_Tree_layInto l G tr r0 r1 r2 r3 r4 r5 r6 r7 r8 r9 r10 r11 L P a1 a2 a3 a4 a5 a6 a7 ld b f) _) (kb_gV wd_4bed6c35 wd_04c55ec2 wd_f9b29598 wd_ebf91e09 wd_f0b1e0c4) ⟨rfl, hd_3ffc8199⟩ ⟨(Nat.le_of_ble_eq_true rfl), (Nat.le_of_ble_eq_true rfl)⟩ hE hP hD hS [1, 2, 3, 4, 5, 6, 7, 8, 9, 10, 11, 12, 13, 14, 15] rfl (by decide) rfl rfl rfl hl.1 rfl (Nat.le_of_ble_eq_true rfl) d_Press_lay_8 ⟨(Nat.le_of_ble_eq_true rfl), (Nat.le_of_ble_eq_true rfl)⟩) (fun uu1 H locs hw hP hD hS => ?_)
  have hP : va_P G.1 kb_cl [kb_o h 3 [.ref tp, .ref ld, .ref rd, .ref tr, .ref sp], kb_o ld 1 [.ref (uu1.1 0), .int 72]] H := hP
  have hD : va_D A [kb_o h 3 [.ref tp, .ref ld, .ref rd, .ref tr, .ref sp], kb_o ld 1 [.ref (uu1.1 0), .int 72]] := hD
  refine lv_aload_n hx hb d_Press_lay_11 rfl (lv_at hl 0 rfl) ?_
  refine va_get (D := G.1) (ci := 3) (v := .ref ld) (C := "TreePress") (T := kb_F3) (N := 5) hx hb ht kb_w3 hown hE.1 hP 0 rfl rfl 1 (by decide) (ht _ wd_f079d5f7) (fun _ h9 => h9) rfl d_Press_lay_12 ?_
  refine kb_i (wc := [kb_o ld 1 [.ref (uu1.1 0), .int 72]]) (wr := [kb_o h 3 [.ref tp, .ref ld, .ref rd, .ref tr, .ref sp]]) hE hP hD hS [1] [0] rfl rfl (by decide) (by decide) (kb_rV (As := []) (rest := []) (wc := [kb_o ld 1 [.ref (uu1.1 0), .int 72]]) (q0 := 0) ⟨hx, hb, hml, hown, ht⟩ ((c_Row_length l G ld (uu1.1 0) 72) _) (kb_gV wd_b6aba818 wd_5e08083b wd_489345cb wd_4182e433 wd_8d5193a7) ⟨rfl, hd_d85231f4⟩ ⟨(Nat.le_of_ble_eq_true rfl), (Nat.le_of_ble_eq_true rfl)⟩ hE hP hD hS [1] rfl (by decide) rfl rfl rfl hl.1 rfl (Nat.le_of_ble_eq_true rfl) d_Press_lay_15 ⟨(Nat.le_of_ble_eq_true rfl), (Nat.le_of_ble_eq_true rfl)⟩) (fun rv4 uu3 H locs hw hP hD hS => ?_)
  have hP : va_P G.1 kb_cl [kb_o h 3 [.ref tp, .ref ld, .ref rd, .ref tr, .ref sp], kb_o ld 1 [.ref (uu1.1 0), .int 72]] H := hP
  have hD : va_D A [kb_o h 3 [.ref tp, .ref ld, .ref rd, .ref tr, .ref sp], kb_o ld 1 [.ref (uu1.1 0), .int 72]] := hD
  refine kb_top (y := 72) (show rv4 = 72 from hw) ?_
  exact kb_reti (kb_l [], kb_f []) hx hb hr hlocks hE hP hD hS [] rfl (by decide) rfl rfl (Nat.le_of_ble_eq_true rfl) (Nat.le_of_ble_eq_true rfl) d_Press_lay_18

set_option maxHeartbeats 4000000 in
set_option maxRecDepth 100000 in
theorem c_Press_laidX (l : Launch) (hst : l.stackTraces = false) (G : kb_G) (h : Nat) (tp : Nat) (ld : Nat) (rd : Nat) (tr : Nat) (sp : Nat) (b : Nat) (i : Int32) : kb_cx l G ⟨"TreePress", "laid", "(I)I"⟩ prog_1_method_9_code 2 (some .int) 6 1 6 [.ref h, .int i] [kb_o h 3 [.ref tp, .ref ld, .ref rd, .ref tr, .ref sp], kb_o ld 1 [.ref b, .int 0]] "java/lang/IndexOutOfBoundsException" := by
  refine kb_bodyX (by decide) (Nat.le_of_ble_eq_true rfl) ?_
  intro p e s m below meth c A B hno hAw ls hl
  obtain ⟨hx, hb, hr, hml, hlocks, hin, hown, ht, hE, hP, hD, hS⟩ := B
  have hl : lv_has ls 2 [(0, .ref h), (1, .int i)] := hl
  have hP0 := hP
  obtain ⟨H, hHe⟩ : ∃ H, H = s.heap := ⟨_, rfl⟩
  rw [← hHe] at hP
  have hS : va_S A s.heap H [] := by rw [hHe]; exact hS
  refine kb_at hHe ?_
  clear hHe
  refine lv_iload_n hx hb d_Press_laid_0 rfl (lv_at hl 1 rfl) ?_
  refine lv_if_lt (tgt := 15) hx hb d_Press_laid_1 (by decide) (fun cb1 => ?_) (fun cb1 => ?_)
  · exact kb_throw (E := "java/lang/IndexOutOfBoundsException") (names := kb_names) (wi := [kb_o h 3 [.ref tp, .ref ld, .ref rd, .ref tr, .ref sp], kb_o ld 1 [.ref b, .int 0]]) hx hb hst hown ht hE (by decide +kernel) (by decide +kernel) wd_6ce1761d wd_37a516df kb_own_IndexOutOfBounds kb_ownb_IndexOutOfBounds (by decide +kernel) (List.mem_of_getElem? (i := 7) rfl) hP0 hAw hS (hl.1.trans hml.symm) hno hlocks d_Press_laid_15 d_Press_laid_18 d_Press_laid_19 d_Press_laid_21 d_Press_laid_24 (Nat.le_of_ble_eq_true rfl) (Nat.le_of_ble_eq_true rfl) (Nat.le_of_ble_eq_true rfl) (Nat.le_of_ble_eq_true rfl) (Nat.le_of_ble_eq_true rfl) (Nat.le_of_ble_eq_true rfl)
  · refine lv_iload_n hx hb d_Press_laid_4 rfl (lv_at hl 1 rfl) ?_
    refine lv_aload_n hx hb d_Press_laid_5 rfl (lv_at hl 0 rfl) ?_
    refine va_get (D := G.1) (ci := 3) (v := .ref ld) (C := "TreePress") (T := kb_F3) (N := 5) hx hb ht kb_w3 hown hE.1 hP 0 rfl rfl 1 (by decide) (ht _ wd_f079d5f7) (fun _ h9 => h9) rfl d_Press_laid_6 ?_
    refine kb_i (wc := [kb_o ld 1 [.ref b, .int 0]]) (wr := [kb_o h 3 [.ref tp, .ref ld, .ref rd, .ref tr, .ref sp]]) hE hP hD hS [1] [0] rfl rfl (by decide) (by decide) (kb_rV (As := []) (rest := [.int i]) (wc := [kb_o ld 1 [.ref b, .int 0]]) (q0 := 0) ⟨hx, hb, hml, hown, ht⟩ ((c_Row_length l G ld b 0) _) (kb_gV wd_b6aba818 wd_5e08083b wd_489345cb wd_4182e433 wd_8d5193a7) ⟨rfl, hd_d85231f4⟩ ⟨(Nat.le_of_ble_eq_true rfl), (Nat.le_of_ble_eq_true rfl)⟩ hE hP hD hS [1] rfl (by decide) rfl rfl rfl hl.1 rfl (Nat.le_of_ble_eq_true rfl) d_Press_laid_9 ⟨(Nat.le_of_ble_eq_true rfl), (Nat.le_of_ble_eq_true rfl)⟩) (fun rv3 uu2 H locs hw hP hD hS => ?_)
    have hP : va_P G.1 kb_cl [kb_o h 3 [.ref tp, .ref ld, .ref rd, .ref tr, .ref sp], kb_o ld 1 [.ref b, .int 0]] H := hP
    have hD : va_D A [kb_o h 3 [.ref tp, .ref ld, .ref rd, .ref tr, .ref sp], kb_o ld 1 [.ref b, .int 0]] := hD
    refine kb_top (y := 0) (show rv3 = 0 from hw) ?_
    refine lv_icmp_lt (tgt := 25) hx hb d_Press_laid_12 (by decide) (fun c9 => False.elim (by have e0 : ¬ (i : Int32).toInt < (0 : Int32).toInt := fun z9 => cb1 (Int32.lt_iff_toInt_lt.mpr z9); have e1 : (i : Int32).toInt < (0 : Int32).toInt := Int32.lt_iff_toInt_lt.mp c9; have k0 : (0 : Int32).toInt = 0 := rfl; omega)) (fun c9 => ?_)
    exact kb_throw (E := "java/lang/IndexOutOfBoundsException") (names := kb_names) (wi := [kb_o h 3 [.ref tp, .ref ld, .ref rd, .ref tr, .ref sp], kb_o ld 1 [.ref b, .int 0]]) hx hb hst hown ht hE (by decide +kernel) (by decide +kernel) wd_6ce1761d wd_37a516df kb_own_IndexOutOfBounds kb_ownb_IndexOutOfBounds (by decide +kernel) (List.mem_of_getElem? (i := 7) rfl) hP0 hAw hS (hl.1.trans hml.symm) hno hlocks d_Press_laid_15 d_Press_laid_18 d_Press_laid_19 d_Press_laid_21 d_Press_laid_24 (Nat.le_of_ble_eq_true rfl) (Nat.le_of_ble_eq_true rfl) (Nat.le_of_ble_eq_true rfl) (Nat.le_of_ble_eq_true rfl) (Nat.le_of_ble_eq_true rfl) (Nat.le_of_ble_eq_true rfl)

set_option maxHeartbeats 4000000 in
set_option maxRecDepth 100000 in
theorem c_Press_read (l : Launch) (G : kb_G) (h : Nat) (tp : Nat) (ld : Nat) (rd : Nat) (tr : Nat) (sp : Nat) (ta : Nat) (r0 : Nat) (r1 : Nat) (r2 : Nat) (r3 : Nat) (r4 : Nat) (r5 : Nat) (r6 : Nat) (r7 : Nat) (r8 : Nat) (r9 : Nat) (r10 : Nat) (r11 : Nat) (L : Int32) (P : Int32) (i0 : Int32) (i1 : Int32) (i2 : Int32) (i3 : Int32) : kb_ci l G ⟨"TreePress", "read", "()I"⟩ prog_1_method_10_code 2 (some .int) 6 0 0 [.ref h] [kb_o h 3 [.ref tp, .ref ld, .ref rd, .ref tr, .ref sp], kb_o tp 1 [.ref ta, .int 0], kb_o rd 0 [.int i0, .int i1, .int i2, .int i3], kb_o tr 2 [.ref r0, .ref r1, .ref r2, .ref r3, .ref r4, .ref r5, .ref r6, .ref r7, .ref r8, .ref r9, .ref r10, .ref r11, .int L, .int P]] (fun r u => r = 0) (fun u => []) := by
  intro sz
  refine kb_body (QQ := fun A => kb_Qi G A (fun r u => r = 0) (fun u => [])) (by decide) (Nat.le_of_ble_eq_true rfl) ?_
  intro p e s m below meth c A B ls hl
  obtain ⟨hx, hb, hr, hml, hlocks, hin, hown, ht, hE, hP, hD, hS⟩ := B
  have hl : lv_has ls 2 [(0, .ref h)] := hl
  have hP0 := hP
  obtain ⟨H, hHe⟩ : ∃ H, H = s.heap := ⟨_, rfl⟩
  rw [← hHe] at hP
  have hS : va_S A s.heap H [] := by rw [hHe]; exact hS
  refine kb_at hHe ?_
  clear hHe
  refine lv_aload_n hx hb d_Press_read_0 rfl (lv_at hl 0 rfl) ?_
  refine va_get (D := G.1) (ci := 3) (v := .ref rd) (C := "TreePress") (T := kb_F3) (N := 5) hx hb ht kb_w3 hown hE.1 hP 0 rfl rfl 2 (by decide) (ht _ wd_911c2fc6) (fun _ h9 => h9) rfl d_Press_read_1 ?_
  refine lv_aload_n hx hb d_Press_read_4 rfl (lv_at hl 0 rfl) ?_
  refine va_get (D := G.1) (ci := 3) (v := .ref tp) (C := "TreePress") (T := kb_F3) (N := 5) hx hb ht kb_w3 hown hE.1 hP 0 rfl rfl 0 (by decide) (ht _ wd_667fbbc4) (fun _ h9 => h9) rfl d_Press_read_5 ?_
  refine kb_i (wc := [kb_o rd 0 [.int i0, .int i1, .int i2, .int i3], kb_o tp 1 [.ref ta, .int 0]]) (wr := [kb_o h 3 [.ref tp, .ref ld, .ref rd, .ref tr, .ref sp], kb_o tr 2 [.ref r0, .ref r1, .ref r2, .ref r3, .ref r4, .ref r5, .ref r6, .ref r7, .ref r8, .ref r9, .ref r10, .ref r11, .int L, .int P]]) hE hP hD hS [2, 1] [0, 3] rfl rfl (by decide) (by decide) (kb_rV (As := [.ref tp]) (rest := []) (wc := [kb_o rd 0 [.int i0, .int i1, .int i2, .int i3], kb_o tp 1 [.ref ta, .int 0]]) (q0 := 0) ⟨hx, hb, hml, hown, ht⟩ ((c_Rd_failureOfHead l G rd i0 i1 i2 i3 tp ta) _) (kb_gV wd_69af0a74 wd_5df73203 wd_849b4cd1 wd_6b307554 wd_5a273ca5) ⟨rfl, hd_088e31de⟩ ⟨(Nat.le_of_ble_eq_true rfl), (Nat.le_of_ble_eq_true rfl)⟩ hE hP hD hS [2, 1] rfl (by decide) rfl rfl rfl hl.1 rfl (Nat.le_of_ble_eq_true rfl) d_Press_read_8 ⟨(Nat.le_of_ble_eq_true rfl), (Nat.le_of_ble_eq_true rfl)⟩) (fun rv2 uu1 H locs hw hP hD hS => ?_)
  have hP : va_P G.1 kb_cl [kb_o h 3 [.ref tp, .ref ld, .ref rd, .ref tr, .ref sp], kb_o tr 2 [.ref r0, .ref r1, .ref r2, .ref r3, .ref r4, .ref r5, .ref r6, .ref r7, .ref r8, .ref r9, .ref r10, .ref r11, .int L, .int P], kb_o rd 0 [.int i0, .int i1, .int i2, .int i3], kb_o tp 1 [.ref ta, .int 0]] H := hP
  have hD : va_D A [kb_o h 3 [.ref tp, .ref ld, .ref rd, .ref tr, .ref sp], kb_o tr 2 [.ref r0, .ref r1, .ref r2, .ref r3, .ref r4, .ref r5, .ref r6, .ref r7, .ref r8, .ref r9, .ref r10, .ref r11, .int L, .int P], kb_o rd 0 [.int i0, .int i1, .int i2, .int i3], kb_o tp 1 [.ref ta, .int 0]] := hD
  refine kb_top (y := 0) (show rv2 = 0 from hw) ?_
  refine lv_istore_n (lv' := [(1, .int 0), (0, .ref h)]) hx hb d_Press_read_11 rfl hl (by decide) rfl (fun ls hl => ?_)
  refine lv_iload_n hx hb d_Press_read_12 rfl (lv_at hl 0 rfl) ?_
  refine lv_iconst (v := (-1)) hx hb d_Press_read_13 (by decide) ?_
  refine lv_icmp_ne (tgt := 33) hx hb d_Press_read_14 (by decide) (fun c9 => ?_) (fun c9 => absurd c9 (by decide))
  refine lv_aload_n hx hb d_Press_read_33 rfl (lv_at hl 1 rfl) ?_
  refine va_get (D := G.1) (ci := 3) (v := .ref tp) (C := "TreePress") (T := kb_F3) (N := 5) hx hb ht kb_w3 hown hE.1 hP 0 rfl rfl 0 (by decide) (ht _ wd_667fbbc4) (fun _ h9 => h9) rfl d_Press_read_34 ?_
  refine lv_iconst (v := 0) hx hb d_Press_read_37 (by decide) ?_
  refine kb_v (wc := [kb_o tp 1 [.ref ta, .int 0]]) (wr := [kb_o h 3 [.ref tp, .ref ld, .ref rd, .ref tr, .ref sp], kb_o tr 2 [.ref r0, .ref r1, .ref r2, .ref r3, .ref r4, .ref r5, .ref r6, .ref r7, .ref r8, .ref r9, .ref r10, .ref r11, .int L, .int P], kb_o rd 0 [.int i0, .int i1, .int i2, .int i3]]) hE hP hD hS [3] [0, 1, 2] rfl rfl (by decide) (by decide) (kb_rV (As := [.int 0]) (rest := []) (wc := [kb_o tp 1 [.ref ta, .int 0]]) (q0 := 0) ⟨hx, hb, hml, hown, ht⟩ ((c_Row_cut0 l G tp ta) _) (kb_gV wd_50e9e1ec wd_a30f3437 wd_8c6818e9 wd_4182e433 wd_86891071) ⟨rfl, hd_934340dd⟩ ⟨(Nat.le_of_ble_eq_true rfl), (Nat.le_of_ble_eq_true rfl)⟩ hE hP hD hS [3] rfl (by decide) rfl rfl rfl hl.1 rfl (Nat.le_of_ble_eq_true rfl) d_Press_read_38 ⟨(Nat.le_of_ble_eq_true rfl), (Nat.le_of_ble_eq_true rfl)⟩) (fun uu3 H locs hw hP hD hS => ?_)
  have hP : va_P G.1 kb_cl [kb_o h 3 [.ref tp, .ref ld, .ref rd, .ref tr, .ref sp], kb_o tr 2 [.ref r0, .ref r1, .ref r2, .ref r3, .ref r4, .ref r5, .ref r6, .ref r7, .ref r8, .ref r9, .ref r10, .ref r11, .int L, .int P], kb_o rd 0 [.int i0, .int i1, .int i2, .int i3], kb_o tp 1 [.ref ta, .int 0]] H := hP
  have hD : va_D A [kb_o h 3 [.ref tp, .ref ld, .ref rd, .ref tr, .ref sp], kb_o tr 2 [.ref r0, .ref r1, .ref r2, .ref r3, .ref r4, .ref r5, .ref r6, .ref r7, .ref r8, .ref r9, .ref r10, .ref r11, .int L, .int P], kb_o rd 0 [.int i0, .int i1, .int i2, .int i3], kb_o tp 1 [.ref ta, .int 0]] := hD
  refine lv_iload_n hx hb d_Press_read_41 rfl (lv_at hl 0 rfl) ?_
  refine lv_iconst (v := (-1)) hx hb d_Press_read_42 (by decide) ?_
  refine lv_icmp_ne (tgt := 50) hx hb d_Press_read_43 (by decide) (fun c9 => ?_) (fun c9 => absurd c9 (by decide))
  refine lv_aload_n hx hb d_Press_read_50 rfl (lv_at hl 1 rfl) ?_
  refine va_get (D := G.1) (ci := 3) (v := .ref tr) (C := "TreePress") (T := kb_F3) (N := 5) hx hb ht kb_w3 hown hE.1 hP 0 rfl rfl 3 (by decide) (ht _ wd_29809c8a) (fun _ h9 => h9) rfl d_Press_read_51 ?_
  refine kb_v (wc := [kb_o tr 2 [.ref r0, .ref r1, .ref r2, .ref r3, .ref r4, .ref r5, .ref r6, .ref r7, .ref r8, .ref r9, .ref r10, .ref r11, .int L, .int P]]) (wr := [kb_o h 3 [.ref tp, .ref ld, .ref rd, .ref tr, .ref sp], kb_o rd 0 [.int i0, .int i1, .int i2, .int i3], kb_o tp 1 [.ref ta, .int 0]]) hE hP hD hS [1] [0, 2, 3] rfl rfl (by decide) (by decide) (kb_rV (As := []) (rest := []) (wc := [kb_o tr 2 [.ref r0, .ref r1, .ref r2, .ref r3, .ref r4, .ref r5, .ref r6, .ref r7, .ref r8, .ref r9, .ref r10, .ref r11, .int L, .int P]]) (q0 := 0) ⟨hx, hb, hml, hown, ht⟩ ((c_Tree_makeFirstThePlace l G tr r0 r1 r2 r3 r4 r5 r6 r7 r8 r9 r10 r11 L P) _) (kb_gV wd_b7ad6793 wd_8b8de08e wd_329d51d3 wd_ebf91e09 wd_72b6c249) ⟨rfl, hd_5d0c0cc3⟩ ⟨(Nat.le_of_ble_eq_true rfl), (Nat.le_of_ble_eq_true rfl)⟩ hE hP hD hS [1] rfl (by decide) rfl rfl rfl hl.1 rfl (Nat.le_of_ble_eq_true rfl) d_Press_read_54 ⟨(Nat.le_of_ble_eq_true rfl), (Nat.le_of_ble_eq_true rfl)⟩) (fun uu5 H locs hw hP hD hS => ?_)
  have hP : va_P G.1 kb_cl [kb_o h 3 [.ref tp, .ref ld, .ref rd, .ref tr, .ref sp], kb_o rd 0 [.int i0, .int i1, .int i2, .int i3], kb_o tp 1 [.ref ta, .int 0], kb_o tr 2 [.ref r0, .ref r1, .ref r2, .ref r3, .ref r4, .ref r5, .ref r6, .ref r7, .ref r8, .ref r9, .ref r10, .ref r11, .int L, .int 0]] H := hP
  have hD : va_D A [kb_o h 3 [.ref tp, .ref ld, .ref rd, .ref tr, .ref sp], kb_o rd 0 [.int i0, .int i1, .int i2, .int i3], kb_o tp 1 [.ref ta, .int 0], kb_o tr 2 [.ref r0, .ref r1, .ref r2, .ref r3, .ref r4, .ref r5, .ref r6, .ref r7, .ref r8, .ref r9, .ref r10, .ref r11, .int L, .int 0]] := hD
  refine lv_iload_n hx hb d_Press_read_57 rfl (lv_at hl 0 rfl) ?_
  exact kb_reti (kb_l [], kb_f []) hx hb hr hlocks hE hP hD hS [] rfl (by decide) rfl rfl (Nat.le_of_ble_eq_true rfl) (Nat.le_of_ble_eq_true rfl) d_Press_read_58

set_option maxHeartbeats 4000000 in
set_option maxRecDepth 100000 in
theorem c_Press_nodes (l : Launch) (G : kb_G) (h : Nat) (tp : Nat) (ld : Nat) (rd : Nat) (tr : Nat) (sp : Nat) (r0 : Nat) (r1 : Nat) (r2 : Nat) (r3 : Nat) (r4 : Nat) (r5 : Nat) (r6 : Nat) (r7 : Nat) (r8 : Nat) (r9 : Nat) (r10 : Nat) (r11 : Nat) (L : Int32) (P : Int32) (a : Nat) (v : Int32) : kb_ci l G ⟨"TreePress", "nodes", "()I"⟩ prog_1_method_11_code 1 (some .int) 6 0 0 [.ref h] [kb_o h 3 [.ref tp, .ref ld, .ref rd, .ref tr, .ref sp], kb_o tr 2 [.ref r0, .ref r1, .ref r2, .ref r3, .ref r4, .ref r5, .ref r6, .ref r7, .ref r8, .ref r9, .ref r10, .ref r11, .int L, .int P], kb_o r1 1 [.ref a, .int v]] (fun r u => r = v) (fun u => [kb_o h 3 [.ref tp, .ref ld, .ref rd, .ref tr, .ref sp], kb_o tr 2 [.ref r0, .ref r1, .ref r2, .ref r3, .ref r4, .ref r5, .ref r6, .ref r7, .ref r8, .ref r9, .ref r10, .ref r11, .int L, .int P], kb_o r1 1 [.ref a, .int v]]) := by
  intro sz
  refine kb_body (QQ := fun A => kb_Qi G A (fun r u => r = v) (fun u => [kb_o h 3 [.ref tp, .ref ld, .ref rd, .ref tr, .ref sp], kb_o tr 2 [.ref r0, .ref r1, .ref r2, .ref r3, .ref r4, .ref r5, .ref r6, .ref r7, .ref r8, .ref r9, .ref r10, .ref r11, .int L, .int P], kb_o r1 1 [.ref a, .int v]])) (by decide) (Nat.le_of_ble_eq_true rfl) ?_
  intro p e s m below meth c A B ls hl
  obtain ⟨hx, hb, hr, hml, hlocks, hin, hown, ht, hE, hP, hD, hS⟩ := B
  have hl : lv_has ls 1 [(0, .ref h)] := hl
  have hP0 := hP
  obtain ⟨H, hHe⟩ : ∃ H, H = s.heap := ⟨_, rfl⟩
  rw [← hHe] at hP
  have hS : va_S A s.heap H [] := by rw [hHe]; exact hS
  refine kb_at hHe ?_
  clear hHe
  refine lv_aload_n hx hb d_Press_nodes_0 rfl (lv_at hl 0 rfl) ?_
  refine va_get (D := G.1) (ci := 3) (v := .ref tr) (C := "TreePress") (T := kb_F3) (N := 5) hx hb ht kb_w3 hown hE.1 hP 0 rfl rfl 3 (by decide) (ht _ wd_29809c8a) (fun _ h9 => h9) rfl d_Press_nodes_1 ?_
  refine kb_i (wc := [kb_o tr 2 [.ref r0, .ref r1, .ref r2, .ref r3, .ref r4, .ref r5, .ref r6, .ref r7, .ref r8, .ref r9, .ref r10, .ref r11, .int L, .int P], kb_o r1 1 [.ref a, .int v]]) (wr := [kb_o h 3 [.ref tp, .ref ld, .ref rd, .ref tr, .ref sp]]) hE hP hD hS [1, 2] [0] rfl rfl (by decide) (by decide) (kb_rV (As := []) (rest := []) (wc := [kb_o tr 2 [.ref r0, .ref r1, .ref r2, .ref r3, .ref r4, .ref r5, .ref r6, .ref r7, .ref r8, .ref r9, .ref r10, .ref r11, .int L, .int P], kb_o r1 1 [.ref a, .int v]]) (q0 := 0) ⟨hx, hb, hml, hown, ht⟩ ((c_Tree_countOfNodes l G tr r0 r1 r2 r3 r4 r5 r6 r7 r8 r9 r10 r11 L P a v) _) (kb_gV wd_b4350c08 wd_004c0445 wd_dbedc27b wd_ebf91e09 wd_8a7bf582) ⟨rfl, hd_a0b17e13⟩ ⟨(Nat.le_of_ble_eq_true rfl), (Nat.le_of_ble_eq_true rfl)⟩ hE hP hD hS [1, 2] rfl (by decide) rfl rfl rfl hl.1 rfl (Nat.le_of_ble_eq_true rfl) d_Press_nodes_4 ⟨(Nat.le_of_ble_eq_true rfl), (Nat.le_of_ble_eq_true rfl)⟩) (fun rv2 uu1 H locs hw hP hD hS => ?_)
  have hP : va_P G.1 kb_cl [kb_o h 3 [.ref tp, .ref ld, .ref rd, .ref tr, .ref sp], kb_o tr 2 [.ref r0, .ref r1, .ref r2, .ref r3, .ref r4, .ref r5, .ref r6, .ref r7, .ref r8, .ref r9, .ref r10, .ref r11, .int L, .int P], kb_o r1 1 [.ref a, .int v]] H := hP
  have hD : va_D A [kb_o h 3 [.ref tp, .ref ld, .ref rd, .ref tr, .ref sp], kb_o tr 2 [.ref r0, .ref r1, .ref r2, .ref r3, .ref r4, .ref r5, .ref r6, .ref r7, .ref r8, .ref r9, .ref r10, .ref r11, .int L, .int P], kb_o r1 1 [.ref a, .int v]] := hD
  refine kb_top (y := v) (show rv2 = v from hw) ?_
  exact kb_reti (kb_l [], kb_f []) hx hb hr hlocks hE hP hD hS [0, 1, 2] rfl (by decide) rfl rfl (Nat.le_of_ble_eq_true rfl) (Nat.le_of_ble_eq_true rfl) d_Press_nodes_7

set_option maxHeartbeats 4000000 in
set_option maxRecDepth 100000 in
theorem c_Press_properties (l : Launch) (G : kb_G) (h : Nat) (tp : Nat) (ld : Nat) (rd : Nat) (tr : Nat) (sp : Nat) (r0 : Nat) (r1 : Nat) (r2 : Nat) (r3 : Nat) (r4 : Nat) (r5 : Nat) (r6 : Nat) (r7 : Nat) (r8 : Nat) (r9 : Nat) (r10 : Nat) (r11 : Nat) (L : Int32) (P : Int32) (a : Nat) (v : Int32) : kb_ci l G ⟨"TreePress", "properties", "()I"⟩ prog_1_method_12_code 1 (some .int) 6 0 0 [.ref h] [kb_o h 3 [.ref tp, .ref ld, .ref rd, .ref tr, .ref sp], kb_o tr 2 [.ref r0, .ref r1, .ref r2, .ref r3, .ref r4, .ref r5, .ref r6, .ref r7, .ref r8, .ref r9, .ref r10, .ref r11, .int L, .int P], kb_o r7 1 [.ref a, .int v]] (fun r u => r = v) (fun u => [kb_o h 3 [.ref tp, .ref ld, .ref rd, .ref tr, .ref sp], kb_o tr 2 [.ref r0, .ref r1, .ref r2, .ref r3, .ref r4, .ref r5, .ref r6, .ref r7, .ref r8, .ref r9, .ref r10, .ref r11, .int L, .int P], kb_o r7 1 [.ref a, .int v]]) := by
  intro sz
  refine kb_body (QQ := fun A => kb_Qi G A (fun r u => r = v) (fun u => [kb_o h 3 [.ref tp, .ref ld, .ref rd, .ref tr, .ref sp], kb_o tr 2 [.ref r0, .ref r1, .ref r2, .ref r3, .ref r4, .ref r5, .ref r6, .ref r7, .ref r8, .ref r9, .ref r10, .ref r11, .int L, .int P], kb_o r7 1 [.ref a, .int v]])) (by decide) (Nat.le_of_ble_eq_true rfl) ?_
  intro p e s m below meth c A B ls hl
  obtain ⟨hx, hb, hr, hml, hlocks, hin, hown, ht, hE, hP, hD, hS⟩ := B
  have hl : lv_has ls 1 [(0, .ref h)] := hl
  have hP0 := hP
  obtain ⟨H, hHe⟩ : ∃ H, H = s.heap := ⟨_, rfl⟩
  rw [← hHe] at hP
  have hS : va_S A s.heap H [] := by rw [hHe]; exact hS
  refine kb_at hHe ?_
  clear hHe
  refine lv_aload_n hx hb d_Press_properties_0 rfl (lv_at hl 0 rfl) ?_
  refine va_get (D := G.1) (ci := 3) (v := .ref tr) (C := "TreePress") (T := kb_F3) (N := 5) hx hb ht kb_w3 hown hE.1 hP 0 rfl rfl 3 (by decide) (ht _ wd_29809c8a) (fun _ h9 => h9) rfl d_Press_properties_1 ?_
  refine kb_i (wc := [kb_o tr 2 [.ref r0, .ref r1, .ref r2, .ref r3, .ref r4, .ref r5, .ref r6, .ref r7, .ref r8, .ref r9, .ref r10, .ref r11, .int L, .int P], kb_o r7 1 [.ref a, .int v]]) (wr := [kb_o h 3 [.ref tp, .ref ld, .ref rd, .ref tr, .ref sp]]) hE hP hD hS [1, 2] [0] rfl rfl (by decide) (by decide) (kb_rV (As := []) (rest := []) (wc := [kb_o tr 2 [.ref r0, .ref r1, .ref r2, .ref r3, .ref r4, .ref r5, .ref r6, .ref r7, .ref r8, .ref r9, .ref r10, .ref r11, .int L, .int P], kb_o r7 1 [.ref a, .int v]]) (q0 := 0) ⟨hx, hb, hml, hown, ht⟩ ((c_Tree_countOfProperties l G tr r0 r1 r2 r3 r4 r5 r6 r7 r8 r9 r10 r11 L P a v) _) (kb_gV wd_4921e727 wd_5e59c8fd wd_1e6fdce3 wd_ebf91e09 wd_402a7dff) ⟨rfl, hd_e49549c8⟩ ⟨(Nat.le_of_ble_eq_true rfl), (Nat.le_of_ble_eq_true rfl)⟩ hE hP hD hS [1, 2] rfl (by decide) rfl rfl rfl hl.1 rfl (Nat.le_of_ble_eq_true rfl) d_Press_properties_4 ⟨(Nat.le_of_ble_eq_true rfl), (Nat.le_of_ble_eq_true rfl)⟩) (fun rv2 uu1 H locs hw hP hD hS => ?_)
  have hP : va_P G.1 kb_cl [kb_o h 3 [.ref tp, .ref ld, .ref rd, .ref tr, .ref sp], kb_o tr 2 [.ref r0, .ref r1, .ref r2, .ref r3, .ref r4, .ref r5, .ref r6, .ref r7, .ref r8, .ref r9, .ref r10, .ref r11, .int L, .int P], kb_o r7 1 [.ref a, .int v]] H := hP
  have hD : va_D A [kb_o h 3 [.ref tp, .ref ld, .ref rd, .ref tr, .ref sp], kb_o tr 2 [.ref r0, .ref r1, .ref r2, .ref r3, .ref r4, .ref r5, .ref r6, .ref r7, .ref r8, .ref r9, .ref r10, .ref r11, .int L, .int P], kb_o r7 1 [.ref a, .int v]] := hD
  refine kb_top (y := v) (show rv2 = v from hw) ?_
  exact kb_reti (kb_l [], kb_f []) hx hb hr hlocks hE hP hD hS [0, 1, 2] rfl (by decide) rfl rfl (Nat.le_of_ble_eq_true rfl) (Nat.le_of_ble_eq_true rfl) d_Press_properties_7

set_option maxHeartbeats 4000000 in
set_option maxRecDepth 100000 in
theorem c_Press_refuseNode0 (l : Launch) (G : kb_G) (h : Nat) (tp : Nat) (ld : Nat) (rd : Nat) (tr : Nat) (sp : Nat) (r0 : Nat) (r1 : Nat) (r2 : Nat) (r3 : Nat) (r4 : Nat) (r5 : Nat) (r6 : Nat) (r7 : Nat) (r8 : Nat) (r9 : Nat) (r10 : Nat) (r11 : Nat) (L : Int32) (P : Int32) (a1 : Nat) : kb_cv l G ⟨"TreePress", "refuseWrongNode", "(I)V"⟩ prog_1_method_21_code 2 6 0 0 [.ref h, .int 0] [kb_o h 3 [.ref tp, .ref ld, .ref rd, .ref tr, .ref sp], kb_o tr 2 [.ref r0, .ref r1, .ref r2, .ref r3, .ref r4, .ref r5, .ref r6, .ref r7, .ref r8, .ref r9, .ref r10, .ref r11, .int L, .int P], kb_o r1 1 [.ref a1, .int 1]] (fun u => True) (fun u => [kb_o h 3 [.ref tp, .ref ld, .ref rd, .ref tr, .ref sp], kb_o tr 2 [.ref r0, .ref r1, .ref r2, .ref r3, .ref r4, .ref r5, .ref r6, .ref r7, .ref r8, .ref r9, .ref r10, .ref r11, .int L, .int P], kb_o r1 1 [.ref a1, .int 1]]) := by
  intro sz
  refine kb_body (QQ := fun A => kb_Qv G A (fun u => True) (fun u => [kb_o h 3 [.ref tp, .ref ld, .ref rd, .ref tr, .ref sp], kb_o tr 2 [.ref r0, .ref r1, .ref r2, .ref r3, .ref r4, .ref r5, .ref r6, .ref r7, .ref r8, .ref r9, .ref r10, .ref r11, .int L, .int P], kb_o r1 1 [.ref a1, .int 1]])) (by decide) (Nat.le_of_ble_eq_true rfl) ?_
  intro p e s m below meth c A B ls hl
  obtain ⟨hx, hb, hr, hml, hlocks, hin, hown, ht, hE, hP, hD, hS⟩ := B
  have hl : lv_has ls 2 [(0, .ref h), (1, .int 0)] := hl
  have hP0 := hP
  obtain ⟨H, hHe⟩ : ∃ H, H = s.heap := ⟨_, rfl⟩
  rw [← hHe] at hP
  have hS : va_S A s.heap H [] := by rw [hHe]; exact hS
  refine kb_at hHe ?_
  clear hHe
  refine lv_iload_n hx hb d_Press_refuseWrongNode_0 rfl (lv_at hl 1 rfl) ?_
  refine lv_if_lt (tgt := 15) hx hb d_Press_refuseWrongNode_1 (by decide) (fun c9 => absurd c9 (by decide)) (fun c9 => ?_)
  refine lv_iload_n hx hb d_Press_refuseWrongNode_4 rfl (lv_at hl 1 rfl) ?_
  refine lv_aload_n hx hb d_Press_refuseWrongNode_5 rfl (lv_at hl 0 rfl) ?_
  refine va_get (D := G.1) (ci := 3) (v := .ref tr) (C := "TreePress") (T := kb_F3) (N := 5) hx hb ht kb_w3 hown hE.1 hP 0 rfl rfl 3 (by decide) (ht _ wd_29809c8a) (fun _ h9 => h9) rfl d_Press_refuseWrongNode_6 ?_
  refine kb_i (wc := [kb_o tr 2 [.ref r0, .ref r1, .ref r2, .ref r3, .ref r4, .ref r5, .ref r6, .ref r7, .ref r8, .ref r9, .ref r10, .ref r11, .int L, .int P], kb_o r1 1 [.ref a1, .int 1]]) (wr := [kb_o h 3 [.ref tp, .ref ld, .ref rd, .ref tr, .ref sp]]) hE hP hD hS [1, 2] [0] rfl rfl (by decide) (by decide) (kb_rV (As := []) (rest := [.int 0]) (wc := [kb_o tr 2 [.ref r0, .ref r1, .ref r2, .ref r3, .ref r4, .ref r5, .ref r6, .ref r7, .ref r8, .ref r9, .ref r10, .ref r11, .int L, .int P], kb_o r1 1 [.ref a1, .int 1]]) (q0 := 0) ⟨hx, hb, hml, hown, ht⟩ ((c_Tree_countOfNodes l G tr r0 r1 r2 r3 r4 r5 r6 r7 r8 r9 r10 r11 L P a1 1) _) (kb_gV wd_b4350c08 wd_004c0445 wd_dbedc27b wd_ebf91e09 wd_8a7bf582) ⟨rfl, hd_a0b17e13⟩ ⟨(Nat.le_of_ble_eq_true rfl), (Nat.le_of_ble_eq_true rfl)⟩ hE hP hD hS [1, 2] rfl (by decide) rfl rfl rfl hl.1 rfl (Nat.le_of_ble_eq_true rfl) d_Press_refuseWrongNode_9 ⟨(Nat.le_of_ble_eq_true rfl), (Nat.le_of_ble_eq_true rfl)⟩) (fun rv2 uu1 H locs hw hP hD hS => ?_)
  have hP : va_P G.1 kb_cl [kb_o h 3 [.ref tp, .ref ld, .ref rd, .ref tr, .ref sp], kb_o tr 2 [.ref r0, .ref r1, .ref r2, .ref r3, .ref r4, .ref r5, .ref r6, .ref r7, .ref r8, .ref r9, .ref r10, .ref r11, .int L, .int P], kb_o r1 1 [.ref a1, .int 1]] H := hP
  have hD : va_D A [kb_o h 3 [.ref tp, .ref ld, .ref rd, .ref tr, .ref sp], kb_o tr 2 [.ref r0, .ref r1, .ref r2, .ref r3, .ref r4, .ref r5, .ref r6, .ref r7, .ref r8, .ref r9, .ref r10, .ref r11, .int L, .int P], kb_o r1 1 [.ref a1, .int 1]] := hD
  refine kb_top (y := 1) (show rv2 = 1 from hw) ?_
  refine lv_icmp_lt (tgt := 25) hx hb d_Press_refuseWrongNode_12 (by decide) (fun c9 => ?_) (fun c9 => absurd (by decide) c9)
  exact kb_retv (kb_l [], kb_f []) hx hb hr hlocks hE hP hD hS [0, 1, 2] rfl (by decide) rfl trivial (Nat.le_of_ble_eq_true rfl) (Nat.le_of_ble_eq_true rfl) d_Press_refuseWrongNode_25

set_option maxHeartbeats 4000000 in
set_option maxRecDepth 100000 in
theorem c_Press_refuseNodeX (l : Launch) (hst : l.stackTraces = false) (G : kb_G) (h : Nat) (tp : Nat) (ld : Nat) (rd : Nat) (tr : Nat) (sp : Nat) (r0 : Nat) (r1 : Nat) (r2 : Nat) (r3 : Nat) (r4 : Nat) (r5 : Nat) (r6 : Nat) (r7 : Nat) (r8 : Nat) (r9 : Nat) (r10 : Nat) (r11 : Nat) (L : Int32) (P : Int32) (a1 : Nat) (i : Int32) (hi : ¬ i = 0) : kb_cx l G ⟨"TreePress", "refuseWrongNode", "(I)V"⟩ prog_1_method_21_code 2 none 6 1 6 [.ref h, .int i] [kb_o h 3 [.ref tp, .ref ld, .ref rd, .ref tr, .ref sp], kb_o tr 2 [.ref r0, .ref r1, .ref r2, .ref r3, .ref r4, .ref r5, .ref r6, .ref r7, .ref r8, .ref r9, .ref r10, .ref r11, .int L, .int P], kb_o r1 1 [.ref a1, .int 1]] "java/lang/IndexOutOfBoundsException" := by
  refine kb_bodyX (by decide) (Nat.le_of_ble_eq_true rfl) ?_
  intro p e s m below meth c A B hno hAw ls hl
  obtain ⟨hx, hb, hr, hml, hlocks, hin, hown, ht, hE, hP, hD, hS⟩ := B
  have hl : lv_has ls 2 [(0, .ref h), (1, .int i)] := hl
  have hP0 := hP
  obtain ⟨H, hHe⟩ : ∃ H, H = s.heap := ⟨_, rfl⟩
  rw [← hHe] at hP
  have hS : va_S A s.heap H [] := by rw [hHe]; exact hS
  refine kb_at hHe ?_
  clear hHe
  refine lv_iload_n hx hb d_Press_refuseWrongNode_0 rfl (lv_at hl 1 rfl) ?_
  refine lv_if_lt (tgt := 15) hx hb d_Press_refuseWrongNode_1 (by decide) (fun cb1 => ?_) (fun cb1 => ?_)
  · exact kb_throw (E := "java/lang/IndexOutOfBoundsException") (names := kb_names) (wi := [kb_o h 3 [.ref tp, .ref ld, .ref rd, .ref tr, .ref sp], kb_o tr 2 [.ref r0, .ref r1, .ref r2, .ref r3, .ref r4, .ref r5, .ref r6, .ref r7, .ref r8, .ref r9, .ref r10, .ref r11, .int L, .int P], kb_o r1 1 [.ref a1, .int 1]]) hx hb hst hown ht hE (by decide +kernel) (by decide +kernel) wd_6ce1761d wd_37a516df kb_own_IndexOutOfBounds kb_ownb_IndexOutOfBounds (by decide +kernel) (List.mem_of_getElem? (i := 10) rfl) hP0 hAw hS (hl.1.trans hml.symm) hno hlocks d_Press_refuseWrongNode_15 d_Press_refuseWrongNode_18 d_Press_refuseWrongNode_19 d_Press_refuseWrongNode_21 d_Press_refuseWrongNode_24 (Nat.le_of_ble_eq_true rfl) (Nat.le_of_ble_eq_true rfl) (Nat.le_of_ble_eq_true rfl) (Nat.le_of_ble_eq_true rfl) (Nat.le_of_ble_eq_true rfl) (Nat.le_of_ble_eq_true rfl)
  · refine lv_iload_n hx hb d_Press_refuseWrongNode_4 rfl (lv_at hl 1 rfl) ?_
    refine lv_aload_n hx hb d_Press_refuseWrongNode_5 rfl (lv_at hl 0 rfl) ?_
    refine va_get (D := G.1) (ci := 3) (v := .ref tr) (C := "TreePress") (T := kb_F3) (N := 5) hx hb ht kb_w3 hown hE.1 hP 0 rfl rfl 3 (by decide) (ht _ wd_29809c8a) (fun _ h9 => h9) rfl d_Press_refuseWrongNode_6 ?_
    refine kb_i (wc := [kb_o tr 2 [.ref r0, .ref r1, .ref r2, .ref r3, .ref r4, .ref r5, .ref r6, .ref r7, .ref r8, .ref r9, .ref r10, .ref r11, .int L, .int P], kb_o r1 1 [.ref a1, .int 1]]) (wr := [kb_o h 3 [.ref tp, .ref ld, .ref rd, .ref tr, .ref sp]]) hE hP hD hS [1, 2] [0] rfl rfl (by decide) (by decide) (kb_rV (As := []) (rest := [.int i]) (wc := [kb_o tr 2 [.ref r0, .ref r1, .ref r2, .ref r3, .ref r4, .ref r5, .ref r6, .ref r7, .ref r8, .ref r9, .ref r10, .ref r11, .int L, .int P], kb_o r1 1 [.ref a1, .int 1]]) (q0 := 0) ⟨hx, hb, hml, hown, ht⟩ ((c_Tree_countOfNodes l G tr r0 r1 r2 r3 r4 r5 r6 r7 r8 r9 r10 r11 L P a1 1) _) (kb_gV wd_b4350c08 wd_004c0445 wd_dbedc27b wd_ebf91e09 wd_8a7bf582) ⟨rfl, hd_a0b17e13⟩ ⟨(Nat.le_of_ble_eq_true rfl), (Nat.le_of_ble_eq_true rfl)⟩ hE hP hD hS [1, 2] rfl (by decide) rfl rfl rfl hl.1 rfl (Nat.le_of_ble_eq_true rfl) d_Press_refuseWrongNode_9 ⟨(Nat.le_of_ble_eq_true rfl), (Nat.le_of_ble_eq_true rfl)⟩) (fun rv3 uu2 H locs hw hP hD hS => ?_)
    have hP : va_P G.1 kb_cl [kb_o h 3 [.ref tp, .ref ld, .ref rd, .ref tr, .ref sp], kb_o tr 2 [.ref r0, .ref r1, .ref r2, .ref r3, .ref r4, .ref r5, .ref r6, .ref r7, .ref r8, .ref r9, .ref r10, .ref r11, .int L, .int P], kb_o r1 1 [.ref a1, .int 1]] H := hP
    have hD : va_D A [kb_o h 3 [.ref tp, .ref ld, .ref rd, .ref tr, .ref sp], kb_o tr 2 [.ref r0, .ref r1, .ref r2, .ref r3, .ref r4, .ref r5, .ref r6, .ref r7, .ref r8, .ref r9, .ref r10, .ref r11, .int L, .int P], kb_o r1 1 [.ref a1, .int 1]] := hD
    refine kb_top (y := 1) (show rv3 = 1 from hw) ?_
    refine lv_icmp_lt (tgt := 25) hx hb d_Press_refuseWrongNode_12 (by decide) (fun c9 => False.elim (by have e0 : ¬ (i : Int32).toInt = (0 : Int32).toInt := fun z9 => hi (Int32.toInt_inj.mp z9); have e1 : ¬ (i : Int32).toInt < (0 : Int32).toInt := fun z9 => cb1 (Int32.lt_iff_toInt_lt.mpr z9); have e2 : (i : Int32).toInt < (1 : Int32).toInt := Int32.lt_iff_toInt_lt.mp c9; have k0 : (0 : Int32).toInt = 0 := rfl; have k1 : (1 : Int32).toInt = 1 := rfl; omega)) (fun c9 => ?_)
    exact kb_throw (E := "java/lang/IndexOutOfBoundsException") (names := kb_names) (wi := [kb_o h 3 [.ref tp, .ref ld, .ref rd, .ref tr, .ref sp], kb_o tr 2 [.ref r0, .ref r1, .ref r2, .ref r3, .ref r4, .ref r5, .ref r6, .ref r7, .ref r8, .ref r9, .ref r10, .ref r11, .int L, .int P], kb_o r1 1 [.ref a1, .int 1]]) hx hb hst hown ht hE (by decide +kernel) (by decide +kernel) wd_6ce1761d wd_37a516df kb_own_IndexOutOfBounds kb_ownb_IndexOutOfBounds (by decide +kernel) (List.mem_of_getElem? (i := 10) rfl) hP0 hAw hS (hl.1.trans hml.symm) hno hlocks d_Press_refuseWrongNode_15 d_Press_refuseWrongNode_18 d_Press_refuseWrongNode_19 d_Press_refuseWrongNode_21 d_Press_refuseWrongNode_24 (Nat.le_of_ble_eq_true rfl) (Nat.le_of_ble_eq_true rfl) (Nat.le_of_ble_eq_true rfl) (Nat.le_of_ble_eq_true rfl) (Nat.le_of_ble_eq_true rfl) (Nat.le_of_ble_eq_true rfl)

set_option maxHeartbeats 4000000 in
set_option maxRecDepth 100000 in
theorem c_Press_refusePropX (l : Launch) (hst : l.stackTraces = false) (G : kb_G) (h : Nat) (tp : Nat) (ld : Nat) (rd : Nat) (tr : Nat) (sp : Nat) (r0 : Nat) (r1 : Nat) (r2 : Nat) (r3 : Nat) (r4 : Nat) (r5 : Nat) (r6 : Nat) (r7 : Nat) (r8 : Nat) (r9 : Nat) (r10 : Nat) (r11 : Nat) (L : Int32) (P : Int32) (a7 : Nat) (i : Int32) : kb_cx l G ⟨"TreePress", "refuseWrongProperty", "(I)V"⟩ prog_1_method_22_code 2 none 6 1 6 [.ref h, .int i] [kb_o h 3 [.ref tp, .ref ld, .ref rd, .ref tr, .ref sp], kb_o tr 2 [.ref r0, .ref r1, .ref r2, .ref r3, .ref r4, .ref r5, .ref r6, .ref r7, .ref r8, .ref r9, .ref r10, .ref r11, .int L, .int P], kb_o r7 1 [.ref a7, .int 0]] "java/lang/IndexOutOfBoundsException" := by
  refine kb_bodyX (by decide) (Nat.le_of_ble_eq_true rfl) ?_
  intro p e s m below meth c A B hno hAw ls hl
  obtain ⟨hx, hb, hr, hml, hlocks, hin, hown, ht, hE, hP, hD, hS⟩ := B
  have hl : lv_has ls 2 [(0, .ref h), (1, .int i)] := hl
  have hP0 := hP
  obtain ⟨H, hHe⟩ : ∃ H, H = s.heap := ⟨_, rfl⟩
  rw [← hHe] at hP
  have hS : va_S A s.heap H [] := by rw [hHe]; exact hS
  refine kb_at hHe ?_
  clear hHe
  refine lv_iload_n hx hb d_Press_refuseWrongProperty_0 rfl (lv_at hl 1 rfl) ?_
  refine lv_if_lt (tgt := 15) hx hb d_Press_refuseWrongProperty_1 (by decide) (fun cb1 => ?_) (fun cb1 => ?_)
  · exact kb_throw (E := "java/lang/IndexOutOfBoundsException") (names := kb_names) (wi := [kb_o h 3 [.ref tp, .ref ld, .ref rd, .ref tr, .ref sp], kb_o tr 2 [.ref r0, .ref r1, .ref r2, .ref r3, .ref r4, .ref r5, .ref r6, .ref r7, .ref r8, .ref r9, .ref r10, .ref r11, .int L, .int P], kb_o r7 1 [.ref a7, .int 0]]) hx hb hst hown ht hE (by decide +kernel) (by decide +kernel) wd_6ce1761d wd_37a516df kb_own_IndexOutOfBounds kb_ownb_IndexOutOfBounds (by decide +kernel) (List.mem_of_getElem? (i := 11) rfl) hP0 hAw hS (hl.1.trans hml.symm) hno hlocks d_Press_refuseWrongProperty_15 d_Press_refuseWrongProperty_18 d_Press_refuseWrongProperty_19 d_Press_refuseWrongProperty_21 d_Press_refuseWrongProperty_24 (Nat.le_of_ble_eq_true rfl) (Nat.le_of_ble_eq_true rfl) (Nat.le_of_ble_eq_true rfl) (Nat.le_of_ble_eq_true rfl) (Nat.le_of_ble_eq_true rfl) (Nat.le_of_ble_eq_true rfl)
  · refine lv_iload_n hx hb d_Press_refuseWrongProperty_4 rfl (lv_at hl 1 rfl) ?_
    refine lv_aload_n hx hb d_Press_refuseWrongProperty_5 rfl (lv_at hl 0 rfl) ?_
    refine va_get (D := G.1) (ci := 3) (v := .ref tr) (C := "TreePress") (T := kb_F3) (N := 5) hx hb ht kb_w3 hown hE.1 hP 0 rfl rfl 3 (by decide) (ht _ wd_29809c8a) (fun _ h9 => h9) rfl d_Press_refuseWrongProperty_6 ?_
    refine kb_i (wc := [kb_o tr 2 [.ref r0, .ref r1, .ref r2, .ref r3, .ref r4, .ref r5, .ref r6, .ref r7, .ref r8, .ref r9, .ref r10, .ref r11, .int L, .int P], kb_o r7 1 [.ref a7, .int 0]]) (wr := [kb_o h 3 [.ref tp, .ref ld, .ref rd, .ref tr, .ref sp]]) hE hP hD hS [1, 2] [0] rfl rfl (by decide) (by decide) (kb_rV (As := []) (rest := [.int i]) (wc := [kb_o tr 2 [.ref r0, .ref r1, .ref r2, .ref r3, .ref r4, .ref r5, .ref r6, .ref r7, .ref r8, .ref r9, .ref r10, .ref r11, .int L, .int P], kb_o r7 1 [.ref a7, .int 0]]) (q0 := 0) ⟨hx, hb, hml, hown, ht⟩ ((c_Tree_countOfProperties l G tr r0 r1 r2 r3 r4 r5 r6 r7 r8 r9 r10 r11 L P a7 0) _) (kb_gV wd_4921e727 wd_5e59c8fd wd_1e6fdce3 wd_ebf91e09 wd_402a7dff) ⟨rfl, hd_e49549c8⟩ ⟨(Nat.le_of_ble_eq_true rfl), (Nat.le_of_ble_eq_true rfl)⟩ hE hP hD hS [1, 2] rfl (by decide) rfl rfl rfl hl.1 rfl (Nat.le_of_ble_eq_true rfl) d_Press_refuseWrongProperty_9 ⟨(Nat.le_of_ble_eq_true rfl), (Nat.le_of_ble_eq_true rfl)⟩) (fun rv3 uu2 H locs hw hP hD hS => ?_)
    have hP : va_P G.1 kb_cl [kb_o h 3 [.ref tp, .ref ld, .ref rd, .ref tr, .ref sp], kb_o tr 2 [.ref r0, .ref r1, .ref r2, .ref r3, .ref r4, .ref r5, .ref r6, .ref r7, .ref r8, .ref r9, .ref r10, .ref r11, .int L, .int P], kb_o r7 1 [.ref a7, .int 0]] H := hP
    have hD : va_D A [kb_o h 3 [.ref tp, .ref ld, .ref rd, .ref tr, .ref sp], kb_o tr 2 [.ref r0, .ref r1, .ref r2, .ref r3, .ref r4, .ref r5, .ref r6, .ref r7, .ref r8, .ref r9, .ref r10, .ref r11, .int L, .int P], kb_o r7 1 [.ref a7, .int 0]] := hD
    refine kb_top (y := 0) (show rv3 = 0 from hw) ?_
    refine lv_icmp_lt (tgt := 25) hx hb d_Press_refuseWrongProperty_12 (by decide) (fun c9 => False.elim (by have e0 : ¬ (i : Int32).toInt < (0 : Int32).toInt := fun z9 => cb1 (Int32.lt_iff_toInt_lt.mpr z9); have e1 : (i : Int32).toInt < (0 : Int32).toInt := Int32.lt_iff_toInt_lt.mp c9; have k0 : (0 : Int32).toInt = 0 := rfl; omega)) (fun c9 => ?_)
    exact kb_throw (E := "java/lang/IndexOutOfBoundsException") (names := kb_names) (wi := [kb_o h 3 [.ref tp, .ref ld, .ref rd, .ref tr, .ref sp], kb_o tr 2 [.ref r0, .ref r1, .ref r2, .ref r3, .ref r4, .ref r5, .ref r6, .ref r7, .ref r8, .ref r9, .ref r10, .ref r11, .int L, .int P], kb_o r7 1 [.ref a7, .int 0]]) hx hb hst hown ht hE (by decide +kernel) (by decide +kernel) wd_6ce1761d wd_37a516df kb_own_IndexOutOfBounds kb_ownb_IndexOutOfBounds (by decide +kernel) (List.mem_of_getElem? (i := 11) rfl) hP0 hAw hS (hl.1.trans hml.symm) hno hlocks d_Press_refuseWrongProperty_15 d_Press_refuseWrongProperty_18 d_Press_refuseWrongProperty_19 d_Press_refuseWrongProperty_21 d_Press_refuseWrongProperty_24 (Nat.le_of_ble_eq_true rfl) (Nat.le_of_ble_eq_true rfl) (Nat.le_of_ble_eq_true rfl) (Nat.le_of_ble_eq_true rfl) (Nat.le_of_ble_eq_true rfl) (Nat.le_of_ble_eq_true rfl)

set_option maxHeartbeats 4000000 in
set_option maxRecDepth 100000 in
theorem c_Press_refuseByteX (l : Launch) (hst : l.stackTraces = false) (G : kb_G) (j : Int32) : kb_cx l G ⟨"TreePress", "refuseWrongByte", "(II)V"⟩ prog_1_method_23_code 2 none 6 1 6 [.int j, .int 0] [] "java/lang/IndexOutOfBoundsException" := by
  refine kb_bodyX (by decide) (Nat.le_of_ble_eq_true rfl) ?_
  intro p e s m below meth c A B hno hAw ls hl
  obtain ⟨hx, hb, hr, hml, hlocks, hin, hown, ht, hE, hP, hD, hS⟩ := B
  have hl : lv_has ls 2 [(0, .int j), (1, .int 0)] := hl
  have hP0 := hP
  obtain ⟨H, hHe⟩ : ∃ H, H = s.heap := ⟨_, rfl⟩
  rw [← hHe] at hP
  have hS : va_S A s.heap H [] := by rw [hHe]; exact hS
  refine kb_at hHe ?_
  clear hHe
  refine lv_iload_n hx hb d_Press_refuseWrongByte_0 rfl (lv_at hl 0 rfl) ?_
  refine lv_if_lt (tgt := 9) hx hb d_Press_refuseWrongByte_1 (by decide) (fun cb1 => ?_) (fun cb1 => ?_)
  · exact kb_throw (E := "java/lang/IndexOutOfBoundsException") (names := kb_names) (wi := []) hx hb hst hown ht hE (by decide +kernel) (by decide +kernel) wd_6ce1761d wd_37a516df kb_own_IndexOutOfBounds kb_ownb_IndexOutOfBounds (by decide +kernel) (List.mem_of_getElem? (i := 12) rfl) hP0 hAw hS (hl.1.trans hml.symm) hno hlocks d_Press_refuseWrongByte_9 d_Press_refuseWrongByte_12 d_Press_refuseWrongByte_13 d_Press_refuseWrongByte_15 d_Press_refuseWrongByte_18 (Nat.le_of_ble_eq_true rfl) (Nat.le_of_ble_eq_true rfl) (Nat.le_of_ble_eq_true rfl) (Nat.le_of_ble_eq_true rfl) (Nat.le_of_ble_eq_true rfl) (Nat.le_of_ble_eq_true rfl)
  · refine lv_iload_n hx hb d_Press_refuseWrongByte_4 rfl (lv_at hl 0 rfl) ?_
    refine lv_iload_n hx hb d_Press_refuseWrongByte_5 rfl (lv_at hl 1 rfl) ?_
    refine lv_icmp_lt (tgt := 19) hx hb d_Press_refuseWrongByte_6 (by decide) (fun c9 => False.elim (by have e0 : ¬ (j : Int32).toInt < (0 : Int32).toInt := fun z9 => cb1 (Int32.lt_iff_toInt_lt.mpr z9); have e1 : (j : Int32).toInt < (0 : Int32).toInt := Int32.lt_iff_toInt_lt.mp c9; have k0 : (0 : Int32).toInt = 0 := rfl; omega)) (fun c9 => ?_)
    exact kb_throw (E := "java/lang/IndexOutOfBoundsException") (names := kb_names) (wi := []) hx hb hst hown ht hE (by decide +kernel) (by decide +kernel) wd_6ce1761d wd_37a516df kb_own_IndexOutOfBounds kb_ownb_IndexOutOfBounds (by decide +kernel) (List.mem_of_getElem? (i := 12) rfl) hP0 hAw hS (hl.1.trans hml.symm) hno hlocks d_Press_refuseWrongByte_9 d_Press_refuseWrongByte_12 d_Press_refuseWrongByte_13 d_Press_refuseWrongByte_15 d_Press_refuseWrongByte_18 (Nat.le_of_ble_eq_true rfl) (Nat.le_of_ble_eq_true rfl) (Nat.le_of_ble_eq_true rfl) (Nat.le_of_ble_eq_true rfl) (Nat.le_of_ble_eq_true rfl) (Nat.le_of_ble_eq_true rfl)

set_option maxHeartbeats 4000000 in
set_option maxRecDepth 100000 in
theorem c_Press_node0 (l : Launch) (G : kb_G) (h : Nat) (tp : Nat) (ld : Nat) (rd : Nat) (tr : Nat) (sp : Nat) (r0 : Nat) (r1 : Nat) (r2 : Nat) (r3 : Nat) (r4 : Nat) (r5 : Nat) (r6 : Nat) (r7 : Nat) (r8 : Nat) (r9 : Nat) (r10 : Nat) (r11 : Nat) (L : Int32) (P : Int32) (a1 : Nat) : kb_ci l G ⟨"TreePress", "node", "(II)I"⟩ prog_1_method_13_code 3 (some .int) 7 0 0 [.ref h, .int 0, .int 0] [kb_o h 3 [.ref tp, .ref ld, .ref rd, .ref tr, .ref sp], kb_o tr 2 [.ref r0, .ref r1, .ref r2, .ref r3, .ref r4, .ref r5, .ref r6, .ref r7, .ref r8, .ref r9, .ref r10, .ref r11, .int L, .int P], kb_o r1 1 [.ref a1, .int 1], kb_a G a1 16 (upd (fun _ => 0) 0 (-1))] (fun r u => r = (-1)) (fun u => []) := by
  intro sz
  refine kb_body (QQ := fun A => kb_Qi G A (fun r u => r = (-1)) (fun u => [])) (by decide) (Nat.le_of_ble_eq_true rfl) ?_
  intro p e s m below meth c A B ls hl
  obtain ⟨hx, hb, hr, hml, hlocks, hin, hown, ht, hE, hP, hD, hS⟩ := B
  have hl : lv_has ls 3 [(0, .ref h), (1, .int 0), (2, .int 0)] := hl
  have hP0 := hP
  obtain ⟨H, hHe⟩ : ∃ H, H = s.heap := ⟨_, rfl⟩
  rw [← hHe] at hP
  have hS : va_S A s.heap H [] := by rw [hHe]; exact hS
  refine kb_at hHe ?_
  clear hHe
  refine lv_aload_n hx hb d_Press_node_0 rfl (lv_at hl 0 rfl) ?_
  refine lv_iload_n hx hb d_Press_node_1 rfl (lv_at hl 1 rfl) ?_
  refine kb_v (wc := [kb_o h 3 [.ref tp, .ref ld, .ref rd, .ref tr, .ref sp], kb_o tr 2 [.ref r0, .ref r1, .ref r2, .ref r3, .ref r4, .ref r5, .ref r6, .ref r7, .ref r8, .ref r9, .ref r10, .ref r11, .int L, .int P], kb_o r1 1 [.ref a1, .int 1]]) (wr := [kb_a G a1 16 (upd (fun _ => 0) 0 (-1))]) hE hP hD hS [0, 1, 2] [3] rfl rfl (by decide) (by decide) (kb_rV (As := [.int 0]) (rest := []) (wc := [kb_o h 3 [.ref tp, .ref ld, .ref rd, .ref tr, .ref sp], kb_o tr 2 [.ref r0, .ref r1, .ref r2, .ref r3, .ref r4, .ref r5, .ref r6, .ref r7, .ref r8, .ref r9, .ref r10, .ref r11, .int L, .int P], kb_o r1 1 [.ref a1, .int 1]]) (q0 := 0) ⟨hx, hb, hml, hown, ht⟩ ((c_Press_refuseNode0 l G h tp ld rd tr sp r0 r1 r2 r3 r4 r5 r6 r7 r8 r9 r10 r11 L P a1) _) (kb_gV wd_cef057ed wd_8ab2e778 wd_df57965e wd_28603eaf wd_aac2f91e) ⟨rfl, hd_9eec11a5⟩ ⟨(Nat.le_of_ble_eq_true rfl), (Nat.le_of_ble_eq_true rfl)⟩ hE hP hD hS [0, 1, 2] rfl (by decide) rfl rfl rfl hl.1 rfl (Nat.le_of_ble_eq_true rfl) d_Press_node_2 ⟨(Nat.le_of_ble_eq_true rfl), (Nat.le_of_ble_eq_true rfl)⟩) (fun uu1 H locs hw hP hD hS => ?_)
  have hP : va_P G.1 kb_cl [kb_a G a1 16 (upd (fun _ => 0) 0 (-1)), kb_o h 3 [.ref tp, .ref ld, .ref rd, .ref tr, .ref sp], kb_o tr 2 [.ref r0, .ref r1, .ref r2, .ref r3, .ref r4, .ref r5, .ref r6, .ref r7, .ref r8, .ref r9, .ref r10, .ref r11, .int L, .int P], kb_o r1 1 [.ref a1, .int 1]] H := hP
  have hD : va_D A [kb_a G a1 16 (upd (fun _ => 0) 0 (-1)), kb_o h 3 [.ref tp, .ref ld, .ref rd, .ref tr, .ref sp], kb_o tr 2 [.ref r0, .ref r1, .ref r2, .ref r3, .ref r4, .ref r5, .ref r6, .ref r7, .ref r8, .ref r9, .ref r10, .ref r11, .int L, .int P], kb_o r1 1 [.ref a1, .int 1]] := hD
  refine lv_iload_n hx hb d_Press_node_5 rfl (lv_at hl 2 rfl) ?_
  refine lv_tableIn (tgt := 36) (off := 30) hx hb d_Press_node_6 (by decide) (by decide) (by decide) (by decide) ?_
  refine lv_aload_n hx hb d_Press_node_36 rfl (lv_at hl 0 rfl) ?_
  refine va_get (D := G.1) (ci := 3) (v := .ref tr) (C := "TreePress") (T := kb_F3) (N := 5) hx hb ht kb_w3 hown hE.1 hP 1 rfl rfl 3 (by decide) (ht _ wd_29809c8a) (fun _ h9 => h9) rfl d_Press_node_37 ?_
  refine lv_iload_n hx hb d_Press_node_40 rfl (lv_at hl 1 rfl) ?_
  refine kb_i (wc := [kb_o tr 2 [.ref r0, .ref r1, .ref r2, .ref r3, .ref r4, .ref r5, .ref r6, .ref r7, .ref r8, .ref r9, .ref r10, .ref r11, .int L, .int P], kb_o r1 1 [.ref a1, .int 1], kb_a G a1 16 (upd (fun _ => 0) 0 (-1))]) (wr := [kb_o h 3 [.ref tp, .ref ld, .ref rd, .ref tr, .ref sp]]) hE hP hD hS [2, 3, 0] [1] rfl rfl (by decide) (by decide) (kb_rV (As := [.int 0]) (rest := []) (wc := [kb_o tr 2 [.ref r0, .ref r1, .ref r2, .ref r3, .ref r4, .ref r5, .ref r6, .ref r7, .ref r8, .ref r9, .ref r10, .ref r11, .int L, .int P], kb_o r1 1 [.ref a1, .int 1], kb_a G a1 16 (upd (fun _ => 0) 0 (-1))]) (q0 := 0) ⟨hx, hb, hml, hown, ht⟩ ((c_Tree_parentOf l G tr r0 r1 r2 r3 r4 r5 r6 r7 r8 r9 r10 r11 L P a1 (upd (fun _ => 0) 0 (-1))) _) (kb_gV wd_027edd69 wd_e9a4ab07 wd_965ae80d wd_ebf91e09 wd_1d64fd41) ⟨rfl, hd_452d295b⟩ ⟨(Nat.le_of_ble_eq_true rfl), (Nat.le_of_ble_eq_true rfl)⟩ hE hP hD hS [2, 3, 0] rfl (by decide) rfl rfl rfl hl.1 rfl (Nat.le_of_ble_eq_true rfl) d_Press_node_41 ⟨(Nat.le_of_ble_eq_true rfl), (Nat.le_of_ble_eq_true rfl)⟩) (fun rv4 uu3 H locs hw hP hD hS => ?_)
  have hP : va_P G.1 kb_cl [kb_o h 3 [.ref tp, .ref ld, .ref rd, .ref tr, .ref sp], kb_o tr 2 [.ref r0, .ref r1, .ref r2, .ref r3, .ref r4, .ref r5, .ref r6, .ref r7, .ref r8, .ref r9, .ref r10, .ref r11, .int L, .int P], kb_o r1 1 [.ref a1, .int 1], kb_a G a1 16 (upd (fun _ => 0) 0 (-1))] H := hP
  have hD : va_D A [kb_o h 3 [.ref tp, .ref ld, .ref rd, .ref tr, .ref sp], kb_o tr 2 [.ref r0, .ref r1, .ref r2, .ref r3, .ref r4, .ref r5, .ref r6, .ref r7, .ref r8, .ref r9, .ref r10, .ref r11, .int L, .int P], kb_o r1 1 [.ref a1, .int 1], kb_a G a1 16 (upd (fun _ => 0) 0 (-1))] := hD
  refine kb_top (y := (-1)) (show rv4 = (-1) from hw) ?_
  exact kb_reti (kb_l [], kb_f []) hx hb hr hlocks hE hP hD hS [] rfl (by decide) rfl rfl (Nat.le_of_ble_eq_true rfl) (Nat.le_of_ble_eq_true rfl) d_Press_node_44

set_option maxHeartbeats 4000000 in
set_option maxRecDepth 100000 in
theorem c_Press_node1 (l : Launch) (G : kb_G) (h : Nat) (tp : Nat) (ld : Nat) (rd : Nat) (tr : Nat) (sp : Nat) (r0 : Nat) (r1 : Nat) (r2 : Nat) (r3 : Nat) (r4 : Nat) (r5 : Nat) (r6 : Nat) (r7 : Nat) (r8 : Nat) (r9 : Nat) (r10 : Nat) (r11 : Nat) (L : Int32) (P : Int32) (a1 : Nat) (a6 : Nat) : kb_ci l G ⟨"TreePress", "node", "(II)I"⟩ prog_1_method_13_code 3 (some .int) 7 0 0 [.ref h, .int 0, .int 1] [kb_o h 3 [.ref tp, .ref ld, .ref rd, .ref tr, .ref sp], kb_o tr 2 [.ref r0, .ref r1, .ref r2, .ref r3, .ref r4, .ref r5, .ref r6, .ref r7, .ref r8, .ref r9, .ref r10, .ref r11, .int L, .int P], kb_o r1 1 [.ref a1, .int 1], kb_o r6 1 [.ref a6, .int 1], kb_a G a6 16 (upd (fun _ => 0) 0 0)] (fun r u => r = 0) (fun u => []) := by
  intro sz
  refine kb_body (QQ := fun A => kb_Qi G A (fun r u => r = 0) (fun u => [])) (by decide) (Nat.le_of_ble_eq_true rfl) ?_
  intro p e s m below meth c A B ls hl
  obtain ⟨hx, hb, hr, hml, hlocks, hin, hown, ht, hE, hP, hD, hS⟩ := B
  have hl : lv_has ls 3 [(0, .ref h), (1, .int 0), (2, .int 1)] := hl
  have hP0 := hP
  obtain ⟨H, hHe⟩ : ∃ H, H = s.heap := ⟨_, rfl⟩
  rw [← hHe] at hP
  have hS : va_S A s.heap H [] := by rw [hHe]; exact hS
  refine kb_at hHe ?_
  clear hHe
  refine lv_aload_n hx hb d_Press_node_0 rfl (lv_at hl 0 rfl) ?_
  refine lv_iload_n hx hb d_Press_node_1 rfl (lv_at hl 1 rfl) ?_
  refine kb_v (wc := [kb_o h 3 [.ref tp, .ref ld, .ref rd, .ref tr, .ref sp], kb_o tr 2 [.ref r0, .ref r1, .ref r2, .ref r3, .ref r4, .ref r5, .ref r6, .ref r7, .ref r8, .ref r9, .ref r10, .ref r11, .int L, .int P], kb_o r1 1 [.ref a1, .int 1]]) (wr := [kb_o r6 1 [.ref a6, .int 1], kb_a G a6 16 (upd (fun _ => 0) 0 0)]) hE hP hD hS [0, 1, 2] [3, 4] rfl rfl (by decide) (by decide) (kb_rV (As := [.int 0]) (rest := []) (wc := [kb_o h 3 [.ref tp, .ref ld, .ref rd, .ref tr, .ref sp], kb_o tr 2 [.ref r0, .ref r1, .ref r2, .ref r3, .ref r4, .ref r5, .ref r6, .ref r7, .ref r8, .ref r9, .ref r10, .ref r11, .int L, .int P], kb_o r1 1 [.ref a1, .int 1]]) (q0 := 0) ⟨hx, hb, hml, hown, ht⟩ ((c_Press_refuseNode0 l G h tp ld rd tr sp r0 r1 r2 r3 r4 r5 r6 r7 r8 r9 r10 r11 L P a1) _) (kb_gV wd_cef057ed wd_8ab2e778 wd_df57965e wd_28603eaf wd_aac2f91e) ⟨rfl, hd_9eec11a5⟩ ⟨(Nat.le_of_ble_eq_true rfl), (Nat.le_of_ble_eq_true rfl)⟩ hE hP hD hS [0, 1, 2] rfl (by decide) rfl rfl rfl hl.1 rfl (Nat.le_of_ble_eq_true rfl) d_Press_node_2 ⟨(Nat.le_of_ble_eq_true rfl), (Nat.le_of_ble_eq_true rfl)⟩) (fun uu1 H locs hw hP hD hS => ?_)
  have hP : va_P G.1 kb_cl [kb_o r6 1 [.ref a6, .int 1], kb_a G a6 16 (upd (fun _ => 0) 0 0), kb_o h 3 [.ref tp, .ref ld, .ref rd, .ref tr, .ref sp], kb_o tr 2 [.ref r0, .ref r1, .ref r2, .ref r3, .ref r4, .ref r5, .ref r6, .ref r7, .ref r8, .ref r9, .ref r10, .ref r11, .int L, .int P], kb_o r1 1 [.ref a1, .int 1]] H := hP
  have hD : va_D A [kb_o r6 1 [.ref a6, .int 1], kb_a G a6 16 (upd (fun _ => 0) 0 0), kb_o h 3 [.ref tp, .ref ld, .ref rd, .ref tr, .ref sp], kb_o tr 2 [.ref r0, .ref r1, .ref r2, .ref r3, .ref r4, .ref r5, .ref r6, .ref r7, .ref r8, .ref r9, .ref r10, .ref r11, .int L, .int P], kb_o r1 1 [.ref a1, .int 1]] := hD
  refine lv_iload_n hx hb d_Press_node_5 rfl (lv_at hl 2 rfl) ?_
  refine lv_tableIn (tgt := 45) (off := 39) hx hb d_Press_node_6 (by decide) (by decide) (by decide) (by decide) ?_
  refine lv_aload_n hx hb d_Press_node_45 rfl (lv_at hl 0 rfl) ?_
  refine va_get (D := G.1) (ci := 3) (v := .ref tr) (C := "TreePress") (T := kb_F3) (N := 5) hx hb ht kb_w3 hown hE.1 hP 2 rfl rfl 3 (by decide) (ht _ wd_29809c8a) (fun _ h9 => h9) rfl d_Press_node_46 ?_
  refine lv_iload_n hx hb d_Press_node_49 rfl (lv_at hl 1 rfl) ?_
  refine kb_i (wc := [kb_o tr 2 [.ref r0, .ref r1, .ref r2, .ref r3, .ref r4, .ref r5, .ref r6, .ref r7, .ref r8, .ref r9, .ref r10, .ref r11, .int L, .int P], kb_o r6 1 [.ref a6, .int 1], kb_a G a6 16 (upd (fun _ => 0) 0 0)]) (wr := [kb_o h 3 [.ref tp, .ref ld, .ref rd, .ref tr, .ref sp], kb_o r1 1 [.ref a1, .int 1]]) hE hP hD hS [3, 0, 1] [2, 4] rfl rfl (by decide) (by decide) (kb_rV (As := [.int 0]) (rest := []) (wc := [kb_o tr 2 [.ref r0, .ref r1, .ref r2, .ref r3, .ref r4, .ref r5, .ref r6, .ref r7, .ref r8, .ref r9, .ref r10, .ref r11, .int L, .int P], kb_o r6 1 [.ref a6, .int 1], kb_a G a6 16 (upd (fun _ => 0) 0 0)]) (q0 := 0) ⟨hx, hb, hml, hown, ht⟩ ((c_Tree_propertiesOf l G tr r0 r1 r2 r3 r4 r5 r6 r7 r8 r9 r10 r11 L P a6 (upd (fun _ => 0) 0 0)) _) (kb_gV wd_a51d1720 wd_c1c67d0b wd_a7a256ac wd_ebf91e09 wd_f59b7322) ⟨rfl, hd_c0e23879⟩ ⟨(Nat.le_of_ble_eq_true rfl), (Nat.le_of_ble_eq_true rfl)⟩ hE hP hD hS [3, 0, 1] rfl (by decide) rfl rfl rfl hl.1 rfl (Nat.le_of_ble_eq_true rfl) d_Press_node_50 ⟨(Nat.le_of_ble_eq_true rfl), (Nat.le_of_ble_eq_true rfl)⟩) (fun rv4 uu3 H locs hw hP hD hS => ?_)
  have hP : va_P G.1 kb_cl [kb_o h 3 [.ref tp, .ref ld, .ref rd, .ref tr, .ref sp], kb_o r1 1 [.ref a1, .int 1], kb_o tr 2 [.ref r0, .ref r1, .ref r2, .ref r3, .ref r4, .ref r5, .ref r6, .ref r7, .ref r8, .ref r9, .ref r10, .ref r11, .int L, .int P], kb_o r6 1 [.ref a6, .int 1], kb_a G a6 16 (upd (fun _ => 0) 0 0)] H := hP
  have hD : va_D A [kb_o h 3 [.ref tp, .ref ld, .ref rd, .ref tr, .ref sp], kb_o r1 1 [.ref a1, .int 1], kb_o tr 2 [.ref r0, .ref r1, .ref r2, .ref r3, .ref r4, .ref r5, .ref r6, .ref r7, .ref r8, .ref r9, .ref r10, .ref r11, .int L, .int P], kb_o r6 1 [.ref a6, .int 1], kb_a G a6 16 (upd (fun _ => 0) 0 0)] := hD
  refine kb_top (y := 0) (show rv4 = 0 from hw) ?_
  exact kb_reti (kb_l [], kb_f []) hx hb hr hlocks hE hP hD hS [] rfl (by decide) rfl rfl (Nat.le_of_ble_eq_true rfl) (Nat.le_of_ble_eq_true rfl) d_Press_node_53

set_option maxHeartbeats 4000000 in
set_option maxRecDepth 100000 in
theorem c_Press_node2 (l : Launch) (G : kb_G) (h : Nat) (tp : Nat) (ld : Nat) (rd : Nat) (tr : Nat) (sp : Nat) (r0 : Nat) (r1 : Nat) (r2 : Nat) (r3 : Nat) (r4 : Nat) (r5 : Nat) (r6 : Nat) (r7 : Nat) (r8 : Nat) (r9 : Nat) (r10 : Nat) (r11 : Nat) (L : Int32) (P : Int32) (a1 : Nat) (a6 : Nat) : kb_ci l G ⟨"TreePress", "node", "(II)I"⟩ prog_1_method_13_code 3 (some .int) 7 0 0 [.ref h, .int 0, .int 2] [kb_o h 3 [.ref tp, .ref ld, .ref rd, .ref tr, .ref sp], kb_o tr 2 [.ref r0, .ref r1, .ref r2, .ref r3, .ref r4, .ref r5, .ref r6, .ref r7, .ref r8, .ref r9, .ref r10, .ref r11, .int L, .int P], kb_o r1 1 [.ref a1, .int 1], kb_o r6 1 [.ref a6, .int 1], kb_a G a6 16 (upd (fun _ => 0) 0 0)] (fun r u => r = (-1)) (fun u => []) := by
  intro sz
  refine kb_body (QQ := fun A => kb_Qi G A (fun r u => r = (-1)) (fun u => [])) (by decide) (Nat.le_of_ble_eq_true rfl) ?_
  intro p e s m below meth c A B ls hl
  obtain ⟨hx, hb, hr, hml, hlocks, hin, hown, ht, hE, hP, hD, hS⟩ := B
  have hl : lv_has ls 3 [(0, .ref h), (1, .int 0), (2, .int 2)] := hl
  have hP0 := hP
  obtain ⟨H, hHe⟩ : ∃ H, H = s.heap := ⟨_, rfl⟩
  rw [← hHe] at hP
  have hS : va_S A s.heap H [] := by rw [hHe]; exact hS
  refine kb_at hHe ?_
  clear hHe
  refine lv_aload_n hx hb d_Press_node_0 rfl (lv_at hl 0 rfl) ?_
  refine lv_iload_n hx hb d_Press_node_1 rfl (lv_at hl 1 rfl) ?_
  refine kb_v (wc := [kb_o h 3 [.ref tp, .ref ld, .ref rd, .ref tr, .ref sp], kb_o tr 2 [.ref r0, .ref r1, .ref r2, .ref r3, .ref r4, .ref r5, .ref r6, .ref r7, .ref r8, .ref r9, .ref r10, .ref r11, .int L, .int P], kb_o r1 1 [.ref a1, .int 1]]) (wr := [kb_o r6 1 [.ref a6, .int 1], kb_a G a6 16 (upd (fun _ => 0) 0 0)]) hE hP hD hS [0, 1, 2] [3, 4] rfl rfl (by decide) (by decide) (kb_rV (As := [.int 0]) (rest := []) (wc := [kb_o h 3 [.ref tp, .ref ld, .ref rd, .ref tr, .ref sp], kb_o tr 2 [.ref r0, .ref r1, .ref r2, .ref r3, .ref r4, .ref r5, .ref r6, .ref r7, .ref r8, .ref r9, .ref r10, .ref r11, .int L, .int P], kb_o r1 1 [.ref a1, .int 1]]) (q0 := 0) ⟨hx, hb, hml, hown, ht⟩ ((c_Press_refuseNode0 l G h tp ld rd tr sp r0 r1 r2 r3 r4 r5 r6 r7 r8 r9 r10 r11 L P a1) _) (kb_gV wd_cef057ed wd_8ab2e778 wd_df57965e wd_28603eaf wd_aac2f91e) ⟨rfl, hd_9eec11a5⟩ ⟨(Nat.le_of_ble_eq_true rfl), (Nat.le_of_ble_eq_true rfl)⟩ hE hP hD hS [0, 1, 2] rfl (by decide) rfl rfl rfl hl.1 rfl (Nat.le_of_ble_eq_true rfl) d_Press_node_2 ⟨(Nat.le_of_ble_eq_true rfl), (Nat.le_of_ble_eq_true rfl)⟩) (fun uu1 H locs hw hP hD hS => ?_)
  have hP : va_P G.1 kb_cl [kb_o r6 1 [.ref a6, .int 1], kb_a G a6 16 (upd (fun _ => 0) 0 0), kb_o h 3 [.ref tp, .ref ld, .ref rd, .ref tr, .ref sp], kb_o tr 2 [.ref r0, .ref r1, .ref r2, .ref r3, .ref r4, .ref r5, .ref r6, .ref r7, .ref r8, .ref r9, .ref r10, .ref r11, .int L, .int P], kb_o r1 1 [.ref a1, .int 1]] H := hP
  have hD : va_D A [kb_o r6 1 [.ref a6, .int 1], kb_a G a6 16 (upd (fun _ => 0) 0 0), kb_o h 3 [.ref tp, .ref ld, .ref rd, .ref tr, .ref sp], kb_o tr 2 [.ref r0, .ref r1, .ref r2, .ref r3, .ref r4, .ref r5, .ref r6, .ref r7, .ref r8, .ref r9, .ref r10, .ref r11, .int L, .int P], kb_o r1 1 [.ref a1, .int 1]] := hD
  refine lv_iload_n hx hb d_Press_node_5 rfl (lv_at hl 2 rfl) ?_
  refine lv_tableIn (tgt := 54) (off := 48) hx hb d_Press_node_6 (by decide) (by decide) (by decide) (by decide) ?_
  refine lv_aload_n hx hb d_Press_node_54 rfl (lv_at hl 0 rfl) ?_
  refine va_get (D := G.1) (ci := 3) (v := .ref tr) (C := "TreePress") (T := kb_F3) (N := 5) hx hb ht kb_w3 hown hE.1 hP 2 rfl rfl 3 (by decide) (ht _ wd_29809c8a) (fun _ h9 => h9) rfl d_Press_node_55 ?_
  refine lv_iload_n hx hb d_Press_node_58 rfl (lv_at hl 1 rfl) ?_
  refine kb_i (wc := [kb_o tr 2 [.ref r0, .ref r1, .ref r2, .ref r3, .ref r4, .ref r5, .ref r6, .ref r7, .ref r8, .ref r9, .ref r10, .ref r11, .int L, .int P], kb_o r6 1 [.ref a6, .int 1], kb_a G a6 16 (upd (fun _ => 0) 0 0)]) (wr := [kb_o h 3 [.ref tp, .ref ld, .ref rd, .ref tr, .ref sp], kb_o r1 1 [.ref a1, .int 1]]) hE hP hD hS [3, 0, 1] [2, 4] rfl rfl (by decide) (by decide) (kb_rV (As := [.int 0]) (rest := []) (wc := [kb_o tr 2 [.ref r0, .ref r1, .ref r2, .ref r3, .ref r4, .ref r5, .ref r6, .ref r7, .ref r8, .ref r9, .ref r10, .ref r11, .int L, .int P], kb_o r6 1 [.ref a6, .int 1], kb_a G a6 16 (upd (fun _ => 0) 0 0)]) (q0 := 0) ⟨hx, hb, hml, hown, ht⟩ ((c_Tree_propertiesOf l G tr r0 r1 r2 r3 r4 r5 r6 r7 r8 r9 r10 r11 L P a6 (upd (fun _ => 0) 0 0)) _) (kb_gV wd_a51d1720 wd_c1c67d0b wd_a7a256ac wd_ebf91e09 wd_f59b7322) ⟨rfl, hd_c0e23879⟩ ⟨(Nat.le_of_ble_eq_true rfl), (Nat.le_of_ble_eq_true rfl)⟩ hE hP hD hS [3, 0, 1] rfl (by decide) rfl rfl rfl hl.1 rfl (Nat.le_of_ble_eq_true rfl) d_Press_node_59 ⟨(Nat.le_of_ble_eq_true rfl), (Nat.le_of_ble_eq_true rfl)⟩) (fun rv4 uu3 H locs hw hP hD hS => ?_)
  have hP : va_P G.1 kb_cl [kb_o h 3 [.ref tp, .ref ld, .ref rd, .ref tr, .ref sp], kb_o r1 1 [.ref a1, .int 1], kb_o tr 2 [.ref r0, .ref r1, .ref r2, .ref r3, .ref r4, .ref r5, .ref r6, .ref r7, .ref r8, .ref r9, .ref r10, .ref r11, .int L, .int P], kb_o r6 1 [.ref a6, .int 1], kb_a G a6 16 (upd (fun _ => 0) 0 0)] H := hP
  have hD : va_D A [kb_o h 3 [.ref tp, .ref ld, .ref rd, .ref tr, .ref sp], kb_o r1 1 [.ref a1, .int 1], kb_o tr 2 [.ref r0, .ref r1, .ref r2, .ref r3, .ref r4, .ref r5, .ref r6, .ref r7, .ref r8, .ref r9, .ref r10, .ref r11, .int L, .int P], kb_o r6 1 [.ref a6, .int 1], kb_a G a6 16 (upd (fun _ => 0) 0 0)] := hD
  refine kb_top (y := 0) (show rv4 = 0 from hw) ?_
  refine lv_if_ne (tgt := 69) hx hb d_Press_node_62 (by decide) (fun c9 => absurd (by decide) c9) (fun c9 => ?_)
  refine lv_iconst (v := (-1)) hx hb d_Press_node_65 (by decide) ?_
  refine lv_goto (tgt := 77) hx hb d_Press_node_66 (by decide) ?_
  exact kb_reti (kb_l [], kb_f []) hx hb hr hlocks hE hP hD hS [] rfl (by decide) rfl rfl (Nat.le_of_ble_eq_true rfl) (Nat.le_of_ble_eq_true rfl) d_Press_node_77

set_option maxHeartbeats 4000000 in
set_option maxRecDepth 100000 in
theorem c_Press_node3 (l : Launch) (G : kb_G) (h : Nat) (tp : Nat) (ld : Nat) (rd : Nat) (tr : Nat) (sp : Nat) (r0 : Nat) (r1 : Nat) (r2 : Nat) (r3 : Nat) (r4 : Nat) (r5 : Nat) (r6 : Nat) (r7 : Nat) (r8 : Nat) (r9 : Nat) (r10 : Nat) (r11 : Nat) (L : Int32) (P : Int32) (a1 : Nat) (a4 : Nat) : kb_ci l G ⟨"TreePress", "node", "(II)I"⟩ prog_1_method_13_code 3 (some .int) 7 0 0 [.ref h, .int 0, .int 3] [kb_o h 3 [.ref tp, .ref ld, .ref rd, .ref tr, .ref sp], kb_o tr 2 [.ref r0, .ref r1, .ref r2, .ref r3, .ref r4, .ref r5, .ref r6, .ref r7, .ref r8, .ref r9, .ref r10, .ref r11, .int L, .int P], kb_o r1 1 [.ref a1, .int 1], kb_o r4 1 [.ref a4, .int 1], kb_a G a4 16 (upd (fun _ => 0) 0 0)] (fun r u => r = 0) (fun u => []) := by
  intro sz
  refine kb_body (QQ := fun A => kb_Qi G A (fun r u => r = 0) (fun u => [])) (by decide) (Nat.le_of_ble_eq_true rfl) ?_
  intro p e s m below meth c A B ls hl
  obtain ⟨hx, hb, hr, hml, hlocks, hin, hown, ht, hE, hP, hD, hS⟩ := B
  have hl : lv_has ls 3 [(0, .ref h), (1, .int 0), (2, .int 3)] := hl
  have hP0 := hP
  obtain ⟨H, hHe⟩ : ∃ H, H = s.heap := ⟨_, rfl⟩
  rw [← hHe] at hP
  have hS : va_S A s.heap H [] := by rw [hHe]; exact hS
  refine kb_at hHe ?_
  clear hHe
  refine lv_aload_n hx hb d_Press_node_0 rfl (lv_at hl 0 rfl) ?_
  refine lv_iload_n hx hb d_Press_node_1 rfl (lv_at hl 1 rfl) ?_
  refine kb_v (wc := [kb_o h 3 [.ref tp, .ref ld, .ref rd, .ref tr, .ref sp], kb_o tr 2 [.ref r0, .ref r1, .ref r2, .ref r3, .ref r4, .ref r5, .ref r6, .ref r7, .ref r8, .ref r9, .ref r10, .ref r11, .int L, .int P], kb_o r1 1 [.ref a1, .int 1]]) (wr := [kb_o r4 1 [.ref a4, .int 1], kb_a G a4 16 (upd (fun _ => 0) 0 0)]) hE hP hD hS [0, 1, 2] [3, 4] rfl rfl (by decide) (by decide) (kb_rV (As := [.int 0]) (rest := []) (wc := [kb_o h 3 [.ref tp, .ref ld, .ref rd, .ref tr, .ref sp], kb_o tr 2 [.ref r0, .ref r1, .ref r2, .ref r3, .ref r4, .ref r5, .ref r6, .ref r7, .ref r8, .ref r9, .ref r10, .ref r11, .int L, .int P], kb_o r1 1 [.ref a1, .int 1]]) (q0 := 0) ⟨hx, hb, hml, hown, ht⟩ ((c_Press_refuseNode0 l G h tp ld rd tr sp r0 r1 r2 r3 r4 r5 r6 r7 r8 r9 r10 r11 L P a1) _) (kb_gV wd_cef057ed wd_8ab2e778 wd_df57965e wd_28603eaf wd_aac2f91e) ⟨rfl, hd_9eec11a5⟩ ⟨(Nat.le_of_ble_eq_true rfl), (Nat.le_of_ble_eq_true rfl)⟩ hE hP hD hS [0, 1, 2] rfl (by decide) rfl rfl rfl hl.1 rfl (Nat.le_of_ble_eq_true rfl) d_Press_node_2 ⟨(Nat.le_of_ble_eq_true rfl), (Nat.le_of_ble_eq_true rfl)⟩) (fun uu1 H locs hw hP hD hS => ?_)
  have hP : va_P G.1 kb_cl [kb_o r4 1 [.ref a4, .int 1], kb_a G a4 16 (upd (fun _ => 0) 0 0), kb_o h 3 [.ref tp, .ref ld, .ref rd, .ref tr, .ref sp], kb_o tr 2 [.ref r0, .ref r1, .ref r2, .ref r3, .ref r4, .ref r5, .ref r6, .ref r7, .ref r8, .ref r9, .ref r10, .ref r11, .int L, .int P], kb_o r1 1 [.ref a1, .int 1]] H := hP
  have hD : va_D A [kb_o r4 1 [.ref a4, .int 1], kb_a G a4 16 (upd (fun _ => 0) 0 0), kb_o h 3 [.ref tp, .ref ld, .ref rd, .ref tr, .ref sp], kb_o tr 2 [.ref r0, .ref r1, .ref r2, .ref r3, .ref r4, .ref r5, .ref r6, .ref r7, .ref r8, .ref r9, .ref r10, .ref r11, .int L, .int P], kb_o r1 1 [.ref a1, .int 1]] := hD
  refine lv_iload_n hx hb d_Press_node_5 rfl (lv_at hl 2 rfl) ?_
  refine lv_tableIn (tgt := 78) (off := 72) hx hb d_Press_node_6 (by decide) (by decide) (by decide) (by decide) ?_
  refine lv_aload_n hx hb d_Press_node_78 rfl (lv_at hl 0 rfl) ?_
  refine va_get (D := G.1) (ci := 3) (v := .ref tr) (C := "TreePress") (T := kb_F3) (N := 5) hx hb ht kb_w3 hown hE.1 hP 2 rfl rfl 3 (by decide) (ht _ wd_29809c8a) (fun _ h9 => h9) rfl d_Press_node_79 ?_
  refine lv_iload_n hx hb d_Press_node_82 rfl (lv_at hl 1 rfl) ?_
  refine kb_i (wc := [kb_o tr 2 [.ref r0, .ref r1, .ref r2, .ref r3, .ref r4, .ref r5, .ref r6, .ref r7, .ref r8, .ref r9, .ref r10, .ref r11, .int L, .int P], kb_o r4 1 [.ref a4, .int 1], kb_a G a4 16 (upd (fun _ => 0) 0 0)]) (wr := [kb_o h 3 [.ref tp, .ref ld, .ref rd, .ref tr, .ref sp], kb_o r1 1 [.ref a1, .int 1]]) hE hP hD hS [3, 0, 1] [2, 4] rfl rfl (by decide) (by decide) (kb_rV (As := [.int 0]) (rest := []) (wc := [kb_o tr 2 [.ref r0, .ref r1, .ref r2, .ref r3, .ref r4, .ref r5, .ref r6, .ref r7, .ref r8, .ref r9, .ref r10, .ref r11, .int L, .int P], kb_o r4 1 [.ref a4, .int 1], kb_a G a4 16 (upd (fun _ => 0) 0 0)]) (q0 := 0) ⟨hx, hb, hml, hown, ht⟩ ((c_Tree_lengthOfNodeName l G tr r0 r1 r2 r3 r4 r5 r6 r7 r8 r9 r10 r11 L P a4 (upd (fun _ => 0) 0 0)) _) (kb_gV wd_7c0e2508 wd_13543ba7 wd_7ab071a6 wd_ebf91e09 wd_ba1edb6a) ⟨rfl, hd_e4346e9a⟩ ⟨(Nat.le_of_ble_eq_true rfl), (Nat.le_of_ble_eq_true rfl)⟩ hE hP hD hS [3, 0, 1] rfl (by decide) rfl rfl rfl hl.1 rfl (Nat.le_of_ble_eq_true rfl) d_Press_node_83 ⟨(Nat.le_of_ble_eq_true rfl), (Nat.le_of_ble_eq_true rfl)⟩) (fun rv4 uu3 H locs hw hP hD hS => ?_)
  have hP : va_P G.1 kb_cl [kb_o h 3 [.ref tp, .ref ld, .ref rd, .ref tr, .ref sp], kb_o r1 1 [.ref a1, .int 1], kb_o tr 2 [.ref r0, .ref r1, .ref r2, .ref r3, .ref r4, .ref r5, .ref r6, .ref r7, .ref r8, .ref r9, .ref r10, .ref r11, .int L, .int P], kb_o r4 1 [.ref a4, .int 1], kb_a G a4 16 (upd (fun _ => 0) 0 0)] H := hP
  have hD : va_D A [kb_o h 3 [.ref tp, .ref ld, .ref rd, .ref tr, .ref sp], kb_o r1 1 [.ref a1, .int 1], kb_o tr 2 [.ref r0, .ref r1, .ref r2, .ref r3, .ref r4, .ref r5, .ref r6, .ref r7, .ref r8, .ref r9, .ref r10, .ref r11, .int L, .int P], kb_o r4 1 [.ref a4, .int 1], kb_a G a4 16 (upd (fun _ => 0) 0 0)] := hD
  refine kb_top (y := 0) (show rv4 = 0 from hw) ?_
  exact kb_reti (kb_l [], kb_f []) hx hb hr hlocks hE hP hD hS [] rfl (by decide) rfl rfl (Nat.le_of_ble_eq_true rfl) (Nat.le_of_ble_eq_true rfl) d_Press_node_86

set_option maxHeartbeats 4000000 in
set_option maxRecDepth 100000 in
theorem c_Press_nodeX1 (l : Launch) (hst : l.stackTraces = false) (G : kb_G) (h : Nat) (tp : Nat) (ld : Nat) (rd : Nat) (tr : Nat) (sp : Nat) (r0 : Nat) (r1 : Nat) (r2 : Nat) (r3 : Nat) (r4 : Nat) (r5 : Nat) (r6 : Nat) (r7 : Nat) (r8 : Nat) (r9 : Nat) (r10 : Nat) (r11 : Nat) (L : Int32) (P : Int32) (a1 : Nat) (i : Int32) (k : Int32) (hi : ¬ i = 0) : kb_cx l G ⟨"TreePress", "node", "(II)I"⟩ prog_1_method_13_code 3 (some .int) 7 1 6 [.ref h, .int i, .int k] [kb_o h 3 [.ref tp, .ref ld, .ref rd, .ref tr, .ref sp], kb_o tr 2 [.ref r0, .ref r1, .ref r2, .ref r3, .ref r4, .ref r5, .ref r6, .ref r7, .ref r8, .ref r9, .ref r10, .ref r11, .int L, .int P], kb_o r1 1 [.ref a1, .int 1]] "java/lang/IndexOutOfBoundsException" := by
  refine kb_bodyX (by decide) (Nat.le_of_ble_eq_true rfl) ?_
  intro p e s m below meth c A B hno hAw ls hl
  obtain ⟨hx, hb, hr, hml, hlocks, hin, hown, ht, hE, hP, hD, hS⟩ := B
  have hl : lv_has ls 3 [(0, .ref h), (1, .int i), (2, .int k)] := hl
  have hP0 := hP
  obtain ⟨H, hHe⟩ : ∃ H, H = s.heap := ⟨_, rfl⟩
  rw [← hHe] at hP
  have hS : va_S A s.heap H [] := by rw [hHe]; exact hS
  refine kb_at hHe ?_
  clear hHe
  refine lv_aload_n hx hb d_Press_node_0 rfl (lv_at hl 0 rfl) ?_
  refine lv_iload_n hx hb d_Press_node_1 rfl (lv_at hl 1 rfl) ?_
  refine kb_xV (As := [.int i]) (rest := []) (wc := [kb_o h 3 [.ref tp, .ref ld, .ref rd, .ref tr, .ref sp], kb_o tr 2 [.ref r0, .ref r1, .ref r2, .ref r3, .ref r4, .ref r5, .ref r6, .ref r7, .ref r8, .ref r9, .ref r10, .ref r11, .int L, .int P], kb_o r1 1 [.ref a1, .int 1]]) (wr := []) (q0 := 0) ⟨hx, hb, hml, hown, ht⟩ (c_Press_refuseNodeX l hst G h tp ld rd tr sp r0 r1 r2 r3 r4 r5 r6 r7 r8 r9 r10 r11 L P a1 i hi) wd_cef057ed wd_8ab2e778 wd_df57965e wd_28603eaf wd_aac2f91e hd_9eec11a5 ⟨(Nat.le_of_ble_eq_true rfl), (Nat.le_of_ble_eq_true rfl)⟩ hE hP hD hS [0, 1, 2] [] rfl rfl (by decide) (by decide) (by decide) rfl rfl rfl hl.1 rfl (Nat.le_of_ble_eq_true rfl) d_Press_node_2 ⟨(Nat.le_of_ble_eq_true rfl), (Nat.le_of_ble_eq_true rfl)⟩ (fun q9 ce H locs hce hcv hcl hP hD hS => ?_)
  exact kb_out hno hlocks hce hcv hcl hS (Nat.le_of_ble_eq_true rfl) (Nat.le_of_ble_eq_true rfl)

set_option maxHeartbeats 4000000 in
set_option maxRecDepth 100000 in
theorem c_Press_nodeX2 (l : Launch) (hst : l.stackTraces = false) (G : kb_G) (h : Nat) (tp : Nat) (ld : Nat) (rd : Nat) (tr : Nat) (sp : Nat) (r0 : Nat) (r1 : Nat) (r2 : Nat) (r3 : Nat) (r4 : Nat) (r5 : Nat) (r6 : Nat) (r7 : Nat) (r8 : Nat) (r9 : Nat) (r10 : Nat) (r11 : Nat) (L : Int32) (P : Int32) (a1 : Nat) (k : Int32) (hk : k.toInt < 0 ∨ 3 < k.toInt) : kb_cx l G ⟨"TreePress", "node", "(II)I"⟩ prog_1_method_13_code 3 (some .int) 7 1 6 [.ref h, .int 0, .int k] [kb_o h 3 [.ref tp, .ref ld, .ref rd, .ref tr, .ref sp], kb_o tr 2 [.ref r0, .ref r1, .ref r2, .ref r3, .ref r4, .ref r5, .ref r6, .ref r7, .ref r8, .ref r9, .ref r10, .ref r11, .int L, .int P], kb_o r1 1 [.ref a1, .int 1]] "java/lang/IllegalArgumentException" := by
  refine kb_bodyX (by decide) (Nat.le_of_ble_eq_true rfl) ?_
  intro p e s m below meth c A B hno hAw ls hl
  obtain ⟨hx, hb, hr, hml, hlocks, hin, hown, ht, hE, hP, hD, hS⟩ := B
  have hl : lv_has ls 3 [(0, .ref h), (1, .int 0), (2, .int k)] := hl
  have hP0 := hP
  obtain ⟨H, hHe⟩ : ∃ H, H = s.heap := ⟨_, rfl⟩
  rw [← hHe] at hP
  have hS : va_S A s.heap H [] := by rw [hHe]; exact hS
  refine kb_at hHe ?_
  clear hHe
  refine lv_aload_n hx hb d_Press_node_0 rfl (lv_at hl 0 rfl) ?_
  refine lv_iload_n hx hb d_Press_node_1 rfl (lv_at hl 1 rfl) ?_
  refine kb_v (wc := [kb_o h 3 [.ref tp, .ref ld, .ref rd, .ref tr, .ref sp], kb_o tr 2 [.ref r0, .ref r1, .ref r2, .ref r3, .ref r4, .ref r5, .ref r6, .ref r7, .ref r8, .ref r9, .ref r10, .ref r11, .int L, .int P], kb_o r1 1 [.ref a1, .int 1]]) (wr := []) hE hP hD hS [0, 1, 2] [] rfl rfl (by decide) (by decide) (kb_rV (As := [.int 0]) (rest := []) (wc := [kb_o h 3 [.ref tp, .ref ld, .ref rd, .ref tr, .ref sp], kb_o tr 2 [.ref r0, .ref r1, .ref r2, .ref r3, .ref r4, .ref r5, .ref r6, .ref r7, .ref r8, .ref r9, .ref r10, .ref r11, .int L, .int P], kb_o r1 1 [.ref a1, .int 1]]) (q0 := 0) ⟨hx, hb, hml, hown, ht⟩ ((c_Press_refuseNode0 l G h tp ld rd tr sp r0 r1 r2 r3 r4 r5 r6 r7 r8 r9 r10 r11 L P a1) _) (kb_gV wd_cef057ed wd_8ab2e778 wd_df57965e wd_28603eaf wd_aac2f91e) ⟨rfl, hd_9eec11a5⟩ ⟨(Nat.le_of_ble_eq_true rfl), (Nat.le_of_ble_eq_true rfl)⟩ hE hP hD hS [0, 1, 2] rfl (by decide) rfl rfl rfl hl.1 rfl (Nat.le_of_ble_eq_true rfl) d_Press_node_2 ⟨(Nat.le_of_ble_eq_true rfl), (Nat.le_of_ble_eq_true rfl)⟩) (fun uu1 H locs hw hP hD hS => ?_)
  have hP : va_P G.1 kb_cl [kb_o h 3 [.ref tp, .ref ld, .ref rd, .ref tr, .ref sp], kb_o tr 2 [.ref r0, .ref r1, .ref r2, .ref r3, .ref r4, .ref r5, .ref r6, .ref r7, .ref r8, .ref r9, .ref r10, .ref r11, .int L, .int P], kb_o r1 1 [.ref a1, .int 1]] H := hP
  have hD : va_D A [kb_o h 3 [.ref tp, .ref ld, .ref rd, .ref tr, .ref sp], kb_o tr 2 [.ref r0, .ref r1, .ref r2, .ref r3, .ref r4, .ref r5, .ref r6, .ref r7, .ref r8, .ref r9, .ref r10, .ref r11, .int L, .int P], kb_o r1 1 [.ref a1, .int 1]] := hD
  refine lv_iload_n hx hb d_Press_node_5 rfl (lv_at hl 2 rfl) ?_
  refine lv_tableOut (tgt := 87) hx hb d_Press_node_6 hk (by decide) ?_
  exact kb_throw (E := "java/lang/IllegalArgumentException") (names := kb_names) (wi := [kb_o h 3 [.ref tp, .ref ld, .ref rd, .ref tr, .ref sp], kb_o tr 2 [.ref r0, .ref r1, .ref r2, .ref r3, .ref r4, .ref r5, .ref r6, .ref r7, .ref r8, .ref r9, .ref r10, .ref r11, .int L, .int P], kb_o r1 1 [.ref a1, .int 1]]) hx hb hst hown ht hE (by decide +kernel) (by decide +kernel) wd_c02bd52e wd_2cf38b0f kb_own_IllegalArgument kb_ownb_IllegalArgument (by decide +kernel) (List.mem_of_getElem? (i := 8) rfl) hP0 hAw hS (hl.1.trans hml.symm) hno hlocks d_Press_node_87 d_Press_node_90 d_Press_node_91 d_Press_node_93 d_Press_node_96 (Nat.le_of_ble_eq_true rfl) (Nat.le_of_ble_eq_true rfl) (Nat.le_of_ble_eq_true rfl) (Nat.le_of_ble_eq_true rfl) (Nat.le_of_ble_eq_true rfl) (Nat.le_of_ble_eq_true rfl)

set_option maxHeartbeats 4000000 in
set_option maxRecDepth 100000 in
theorem c_Press_aboutX (l : Launch) (hst : l.stackTraces = false) (G : kb_G) (h : Nat) (tp : Nat) (ld : Nat) (rd : Nat) (tr : Nat) (sp : Nat) (r0 : Nat) (r1 : Nat) (r2 : Nat) (r3 : Nat) (r4 : Nat) (r5 : Nat) (r6 : Nat) (r7 : Nat) (r8 : Nat) (r9 : Nat) (r10 : Nat) (r11 : Nat) (L : Int32) (P : Int32) (a7 : Nat) (i : Int32) (k : Int32) : kb_cx l G ⟨"TreePress", "about", "(II)I"⟩ prog_1_method_14_code 3 (some .int) 7 1 6 [.ref h, .int i, .int k] [kb_o h 3 [.ref tp, .ref ld, .ref rd, .ref tr, .ref sp], kb_o tr 2 [.ref r0, .ref r1, .ref r2, .ref r3, .ref r4, .ref r5, .ref r6, .ref r7, .ref r8, .ref r9, .ref r10, .ref r11, .int L, .int P], kb_o r7 1 [.ref a7, .int 0]] "java/lang/IndexOutOfBoundsException" := by
  refine kb_bodyX (by decide) (Nat.le_of_ble_eq_true rfl) ?_
  intro p e s m below meth c A B hno hAw ls hl
  obtain ⟨hx, hb, hr, hml, hlocks, hin, hown, ht, hE, hP, hD, hS⟩ := B
  have hl : lv_has ls 3 [(0, .ref h), (1, .int i), (2, .int k)] := hl
  have hP0 := hP
  obtain ⟨H, hHe⟩ : ∃ H, H = s.heap := ⟨_, rfl⟩
  rw [← hHe] at hP
  have hS : va_S A s.heap H [] := by rw [hHe]; exact hS
  refine kb_at hHe ?_
  clear hHe
  refine lv_aload_n hx hb d_Press_about_0 rfl (lv_at hl 0 rfl) ?_
  refine lv_iload_n hx hb d_Press_about_1 rfl (lv_at hl 1 rfl) ?_
  refine kb_xV (As := [.int i]) (rest := []) (wc := [kb_o h 3 [.ref tp, .ref ld, .ref rd, .ref tr, .ref sp], kb_o tr 2 [.ref r0, .ref r1, .ref r2, .ref r3, .ref r4, .ref r5, .ref r6, .ref r7, .ref r8, .ref r9, .ref r10, .ref r11, .int L, .int P], kb_o r7 1 [.ref a7, .int 0]]) (wr := []) (q0 := 0) ⟨hx, hb, hml, hown, ht⟩ (c_Press_refusePropX l hst G h tp ld rd tr sp r0 r1 r2 r3 r4 r5 r6 r7 r8 r9 r10 r11 L P a7 i) wd_211cd185 wd_e5093493 wd_779fc113 wd_28603eaf wd_2caac5ad hd_9c0fd48f ⟨(Nat.le_of_ble_eq_true rfl), (Nat.le_of_ble_eq_true rfl)⟩ hE hP hD hS [0, 1, 2] [] rfl rfl (by decide) (by decide) (by decide) rfl rfl rfl hl.1 rfl (Nat.le_of_ble_eq_true rfl) d_Press_about_2 ⟨(Nat.le_of_ble_eq_true rfl), (Nat.le_of_ble_eq_true rfl)⟩ (fun q9 ce H locs hce hcv hcl hP hD hS => ?_)
  exact kb_out hno hlocks hce hcv hcl hS (Nat.le_of_ble_eq_true rfl) (Nat.le_of_ble_eq_true rfl)

set_option maxHeartbeats 4000000 in
set_option maxRecDepth 100000 in
theorem c_Press_nameX (l : Launch) (hst : l.stackTraces = false) (G : kb_G) (h : Nat) (tp : Nat) (ld : Nat) (rd : Nat) (tr : Nat) (sp : Nat) (r0 : Nat) (r1 : Nat) (r2 : Nat) (r3 : Nat) (r4 : Nat) (r5 : Nat) (r6 : Nat) (r7 : Nat) (r8 : Nat) (r9 : Nat) (r10 : Nat) (r11 : Nat) (L : Int32) (P : Int32) (a7 : Nat) (i : Int32) (k : Int32) : kb_cx l G ⟨"TreePress", "name", "(II)I"⟩ prog_1_method_16_code 3 (some .int) 7 1 6 [.ref h, .int i, .int k] [kb_o h 3 [.ref tp, .ref ld, .ref rd, .ref tr, .ref sp], kb_o tr 2 [.ref r0, .ref r1, .ref r2, .ref r3, .ref r4, .ref r5, .ref r6, .ref r7, .ref r8, .ref r9, .ref r10, .ref r11, .int L, .int P], kb_o r7 1 [.ref a7, .int 0]] "java/lang/IndexOutOfBoundsException" := by
  refine kb_bodyX (by decide) (Nat.le_of_ble_eq_true rfl) ?_
  intro p e s m below meth c A B hno hAw ls hl
  obtain ⟨hx, hb, hr, hml, hlocks, hin, hown, ht, hE, hP, hD, hS⟩ := B
  have hl : lv_has ls 3 [(0, .ref h), (1, .int i), (2, .int k)] := hl
  have hP0 := hP
  obtain ⟨H, hHe⟩ : ∃ H, H = s.heap := ⟨_, rfl⟩
  rw [← hHe] at hP
  have hS : va_S A s.heap H [] := by rw [hHe]; exact hS
  refine kb_at hHe ?_
  clear hHe
  refine lv_aload_n hx hb d_Press_name_0 rfl (lv_at hl 0 rfl) ?_
  refine lv_iload_n hx hb d_Press_name_1 rfl (lv_at hl 1 rfl) ?_
  refine kb_xV (As := [.int i]) (rest := []) (wc := [kb_o h 3 [.ref tp, .ref ld, .ref rd, .ref tr, .ref sp], kb_o tr 2 [.ref r0, .ref r1, .ref r2, .ref r3, .ref r4, .ref r5, .ref r6, .ref r7, .ref r8, .ref r9, .ref r10, .ref r11, .int L, .int P], kb_o r7 1 [.ref a7, .int 0]]) (wr := []) (q0 := 0) ⟨hx, hb, hml, hown, ht⟩ (c_Press_refusePropX l hst G h tp ld rd tr sp r0 r1 r2 r3 r4 r5 r6 r7 r8 r9 r10 r11 L P a7 i) wd_211cd185 wd_e5093493 wd_779fc113 wd_28603eaf wd_2caac5ad hd_9c0fd48f ⟨(Nat.le_of_ble_eq_true rfl), (Nat.le_of_ble_eq_true rfl)⟩ hE hP hD hS [0, 1, 2] [] rfl rfl (by decide) (by decide) (by decide) rfl rfl rfl hl.1 rfl (Nat.le_of_ble_eq_true rfl) d_Press_name_2 ⟨(Nat.le_of_ble_eq_true rfl), (Nat.le_of_ble_eq_true rfl)⟩ (fun q9 ce H locs hce hcv hcl hP hD hS => ?_)
  exact kb_out hno hlocks hce hcv hcl hS (Nat.le_of_ble_eq_true rfl) (Nat.le_of_ble_eq_true rfl)

set_option maxHeartbeats 4000000 in
set_option maxRecDepth 100000 in
theorem c_Press_valueX (l : Launch) (hst : l.stackTraces = false) (G : kb_G) (h : Nat) (tp : Nat) (ld : Nat) (rd : Nat) (tr : Nat) (sp : Nat) (r0 : Nat) (r1 : Nat) (r2 : Nat) (r3 : Nat) (r4 : Nat) (r5 : Nat) (r6 : Nat) (r7 : Nat) (r8 : Nat) (r9 : Nat) (r10 : Nat) (r11 : Nat) (L : Int32) (P : Int32) (a7 : Nat) (i : Int32) (k : Int32) : kb_cx l G ⟨"TreePress", "value", "(II)I"⟩ prog_1_method_17_code 3 (some .int) 7 1 6 [.ref h, .int i, .int k] [kb_o h 3 [.ref tp, .ref ld, .ref rd, .ref tr, .ref sp], kb_o tr 2 [.ref r0, .ref r1, .ref r2, .ref r3, .ref r4, .ref r5, .ref r6, .ref r7, .ref r8, .ref r9, .ref r10, .ref r11, .int L, .int P], kb_o r7 1 [.ref a7, .int 0]] "java/lang/IndexOutOfBoundsException" := by
  refine kb_bodyX (by decide) (Nat.le_of_ble_eq_true rfl) ?_
  intro p e s m below meth c A B hno hAw ls hl
  obtain ⟨hx, hb, hr, hml, hlocks, hin, hown, ht, hE, hP, hD, hS⟩ := B
  have hl : lv_has ls 3 [(0, .ref h), (1, .int i), (2, .int k)] := hl
  have hP0 := hP
  obtain ⟨H, hHe⟩ : ∃ H, H = s.heap := ⟨_, rfl⟩
  rw [← hHe] at hP
  have hS : va_S A s.heap H [] := by rw [hHe]; exact hS
  refine kb_at hHe ?_
  clear hHe
  refine lv_aload_n hx hb d_Press_value_0 rfl (lv_at hl 0 rfl) ?_
  refine lv_iload_n hx hb d_Press_value_1 rfl (lv_at hl 1 rfl) ?_
  refine kb_xV (As := [.int i]) (rest := []) (wc := [kb_o h 3 [.ref tp, .ref ld, .ref rd, .ref tr, .ref sp], kb_o tr 2 [.ref r0, .ref r1, .ref r2, .ref r3, .ref r4, .ref r5, .ref r6, .ref r7, .ref r8, .ref r9, .ref r10, .ref r11, .int L, .int P], kb_o r7 1 [.ref a7, .int 0]]) (wr := []) (q0 := 0) ⟨hx, hb, hml, hown, ht⟩ (c_Press_refusePropX l hst G h tp ld rd tr sp r0 r1 r2 r3 r4 r5 r6 r7 r8 r9 r10 r11 L P a7 i) wd_211cd185 wd_e5093493 wd_779fc113 wd_28603eaf wd_2caac5ad hd_9c0fd48f ⟨(Nat.le_of_ble_eq_true rfl), (Nat.le_of_ble_eq_true rfl)⟩ hE hP hD hS [0, 1, 2] [] rfl rfl (by decide) (by decide) (by decide) rfl rfl rfl hl.1 rfl (Nat.le_of_ble_eq_true rfl) d_Press_value_2 ⟨(Nat.le_of_ble_eq_true rfl), (Nat.le_of_ble_eq_true rfl)⟩ (fun q9 ce H locs hce hcv hcl hP hD hS => ?_)
  exact kb_out hno hlocks hce hcv hcl hS (Nat.le_of_ble_eq_true rfl) (Nat.le_of_ble_eq_true rfl)

set_option maxHeartbeats 4000000 in
set_option maxRecDepth 100000 in
theorem c_Press_nodeNameX1 (l : Launch) (hst : l.stackTraces = false) (G : kb_G) (h : Nat) (tp : Nat) (ld : Nat) (rd : Nat) (tr : Nat) (sp : Nat) (r0 : Nat) (r1 : Nat) (r2 : Nat) (r3 : Nat) (r4 : Nat) (r5 : Nat) (r6 : Nat) (r7 : Nat) (r8 : Nat) (r9 : Nat) (r10 : Nat) (r11 : Nat) (L : Int32) (P : Int32) (a1 : Nat) (i : Int32) (k : Int32) (hi : ¬ i = 0) : kb_cx l G ⟨"TreePress", "nodeName", "(II)I"⟩ prog_1_method_15_code 3 (some .int) 7 1 6 [.ref h, .int i, .int k] [kb_o h 3 [.ref tp, .ref ld, .ref rd, .ref tr, .ref sp], kb_o tr 2 [.ref r0, .ref r1, .ref r2, .ref r3, .ref r4, .ref r5, .ref r6, .ref r7, .ref r8, .ref r9, .ref r10, .ref r11, .int L, .int P], kb_o r1 1 [.ref a1, .int 1]] "java/lang/IndexOutOfBoundsException" := by
  refine kb_bodyX (by decide) (Nat.le_of_ble_eq_true rfl) ?_
  intro p e s m below meth c A B hno hAw ls hl
  obtain ⟨hx, hb, hr, hml, hlocks, hin, hown, ht, hE, hP, hD, hS⟩ := B
  have hl : lv_has ls 3 [(0, .ref h), (1, .int i), (2, .int k)] := hl
  have hP0 := hP
  obtain ⟨H, hHe⟩ : ∃ H, H = s.heap := ⟨_, rfl⟩
  rw [← hHe] at hP
  have hS : va_S A s.heap H [] := by rw [hHe]; exact hS
  refine kb_at hHe ?_
  clear hHe
  refine lv_aload_n hx hb d_Press_nodeName_0 rfl (lv_at hl 0 rfl) ?_
  refine lv_iload_n hx hb d_Press_nodeName_1 rfl (lv_at hl 1 rfl) ?_
  refine kb_xV (As := [.int i]) (rest := []) (wc := [kb_o h 3 [.ref tp, .ref ld, .ref rd, .ref tr, .ref sp], kb_o tr 2 [.ref r0, .ref r1, .ref r2, .ref r3, .ref r4, .ref r5, .ref r6, .ref r7, .ref r8, .ref r9, .ref r10, .ref r11, .int L, .int P], kb_o r1 1 [.ref a1, .int 1]]) (wr := []) (q0 := 0) ⟨hx, hb, hml, hown, ht⟩ (c_Press_refuseNodeX l hst G h tp ld rd tr sp r0 r1 r2 r3 r4 r5 r6 r7 r8 r9 r10 r11 L P a1 i hi) wd_cef057ed wd_8ab2e778 wd_df57965e wd_28603eaf wd_aac2f91e hd_9eec11a5 ⟨(Nat.le_of_ble_eq_true rfl), (Nat.le_of_ble_eq_true rfl)⟩ hE hP hD hS [0, 1, 2] [] rfl rfl (by decide) (by decide) (by decide) rfl rfl rfl hl.1 rfl (Nat.le_of_ble_eq_true rfl) d_Press_nodeName_2 ⟨(Nat.le_of_ble_eq_true rfl), (Nat.le_of_ble_eq_true rfl)⟩ (fun q9 ce H locs hce hcv hcl hP hD hS => ?_)
  exact kb_out hno hlocks hce hcv hcl hS (Nat.le_of_ble_eq_true rfl) (Nat.le_of_ble_eq_true rfl)

set_option maxHeartbeats 4000000 in
set_option maxRecDepth 100000 in
theorem c_Press_nodeNameX2 (l : Launch) (hst : l.stackTraces = false) (G : kb_G) (h : Nat) (tp : Nat) (ld : Nat) (rd : Nat) (tr : Nat) (sp : Nat) (r0 : Nat) (r1 : Nat) (r2 : Nat) (r3 : Nat) (r4 : Nat) (r5 : Nat) (r6 : Nat) (r7 : Nat) (r8 : Nat) (r9 : Nat) (r10 : Nat) (r11 : Nat) (L : Int32) (P : Int32) (a1 : Nat) (a4 : Nat) (k : Int32) : kb_cx l G ⟨"TreePress", "nodeName", "(II)I"⟩ prog_1_method_15_code 3 (some .int) 7 1 6 [.ref h, .int 0, .int k] [kb_o h 3 [.ref tp, .ref ld, .ref rd, .ref tr, .ref sp], kb_o tr 2 [.ref r0, .ref r1, .ref r2, .ref r3, .ref r4, .ref r5, .ref r6, .ref r7, .ref r8, .ref r9, .ref r10, .ref r11, .int L, .int P], kb_o r1 1 [.ref a1, .int 1], kb_o r4 1 [.ref a4, .int 1], kb_a G a4 16 (upd (fun _ => 0) 0 0)] "java/lang/IndexOutOfBoundsException" := by
  refine kb_bodyX (by decide) (Nat.le_of_ble_eq_true rfl) ?_
  intro p e s m below meth c A B hno hAw ls hl
  obtain ⟨hx, hb, hr, hml, hlocks, hin, hown, ht, hE, hP, hD, hS⟩ := B
  have hl : lv_has ls 3 [(0, .ref h), (1, .int 0), (2, .int k)] := hl
  have hP0 := hP
  obtain ⟨H, hHe⟩ : ∃ H, H = s.heap := ⟨_, rfl⟩
  rw [← hHe] at hP
  have hS : va_S A s.heap H [] := by rw [hHe]; exact hS
  refine kb_at hHe ?_
  clear hHe
  refine lv_aload_n hx hb d_Press_nodeName_0 rfl (lv_at hl 0 rfl) ?_
  refine lv_iload_n hx hb d_Press_nodeName_1 rfl (lv_at hl 1 rfl) ?_
  refine kb_v (wc := [kb_o h 3 [.ref tp, .ref ld, .ref rd, .ref tr, .ref sp], kb_o tr 2 [.ref r0, .ref r1, .ref r2, .ref r3, .ref r4, .ref r5, .ref r6, .ref r7, .ref r8, .ref r9, .ref r10, .ref r11, .int L, .int P], kb_o r1 1 [.ref a1, .int 1]]) (wr := [kb_o r4 1 [.ref a4, .int 1], kb_a G a4 16 (upd (fun _ => 0) 0 0)]) hE hP hD hS [0, 1, 2] [3, 4] rfl rfl (by decide) (by decide) (kb_rV (As := [.int 0]) (rest := []) (wc := [kb_o h 3 [.ref tp, .ref ld, .ref rd, .ref tr, .ref sp], kb_o tr 2 [.ref r0, .ref r1, .ref r2, .ref r3, .ref r4, .ref r5, .ref r6, .ref r7, .ref r8, .ref r9, .ref r10, .ref r11, .int L, .int P], kb_o r1 1 [.ref a1, .int 1]]) (q0 := 0) ⟨hx, hb, hml, hown, ht⟩ ((c_Press_refuseNode0 l G h tp ld rd tr sp r0 r1 r2 r3 r4 r5 r6 r7 r8 r9 r10 r11 L P a1) _) (kb_gV wd_cef057ed wd_8ab2e778 wd_df57965e wd_28603eaf wd_aac2f91e) ⟨rfl, hd_9eec11a5⟩ ⟨(Nat.le_of_ble_eq_true rfl), (Nat.le_of_ble_eq_true rfl)⟩ hE hP hD hS [0, 1, 2] rfl (by decide) rfl rfl rfl hl.1 rfl (Nat.le_of_ble_eq_true rfl) d_Press_nodeName_2 ⟨(Nat.le_of_ble_eq_true rfl), (Nat.le_of_ble_eq_true rfl)⟩) (fun uu1 H locs hw hP hD hS => ?_)
  have hP : va_P G.1 kb_cl [kb_o r4 1 [.ref a4, .int 1], kb_a G a4 16 (upd (fun _ => 0) 0 0), kb_o h 3 [.ref tp, .ref ld, .ref rd, .ref tr, .ref sp], kb_o tr 2 [.ref r0, .ref r1, .ref r2, .ref r3, .ref r4, .ref r5, .ref r6, .ref r7, .ref r8, .ref r9, .ref r10, .ref r11, .int L, .int P], kb_o r1 1 [.ref a1, .int 1]] H := hP
  have hD : va_D A [kb_o r4 1 [.ref a4, .int 1], kb_a G a4 16 (upd (fun _ => 0) 0 0), kb_o h 3 [.ref tp, .ref ld, .ref rd, .ref tr, .ref sp], kb_o tr 2 [.ref r0, .ref r1, .ref r2, .ref r3, .ref r4, .ref r5, .ref r6, .ref r7, .ref r8, .ref r9, .ref r10, .ref r11, .int L, .int P], kb_o r1 1 [.ref a1, .int 1]] := hD
  refine lv_iload_n hx hb d_Press_nodeName_5 rfl (lv_at hl 2 rfl) ?_
  refine lv_aload_n hx hb d_Press_nodeName_6 rfl (lv_at hl 0 rfl) ?_
  refine va_get (D := G.1) (ci := 3) (v := .ref tr) (C := "TreePress") (T := kb_F3) (N := 5) hx hb ht kb_w3 hown hE.1 hP 2 rfl rfl 3 (by decide) (ht _ wd_29809c8a) (fun _ h9 => h9) rfl d_Press_nodeName_7 ?_
  refine lv_iload_n hx hb d_Press_nodeName_10 rfl (lv_at hl 1 rfl) ?_
  refine kb_i (wc := [kb_o tr 2 [.ref r0, .ref r1, .ref r2, .ref r3, .ref r4, .ref r5, .ref r6, .ref r7, .ref r8, .ref r9, .ref r10, .ref r11, .int L, .int P], kb_o r4 1 [.ref a4, .int 1], kb_a G a4 16 (upd (fun _ => 0) 0 0)]) (wr := [kb_o h 3 [.ref tp, .ref ld, .ref rd, .ref tr, .ref sp], kb_o r1 1 [.ref a1, .int 1]]) hE hP hD hS [3, 0, 1] [2, 4] rfl rfl (by decide) (by decide) (kb_rV (As := [.int 0]) (rest := [.int k]) (wc := [kb_o tr 2 [.ref r0, .ref r1, .ref r2, .ref r3, .ref r4, .ref r5, .ref r6, .ref r7, .ref r8, .ref r9, .ref r10, .ref r11, .int L, .int P], kb_o r4 1 [.ref a4, .int 1], kb_a G a4 16 (upd (fun _ => 0) 0 0)]) (q0 := 0) ⟨hx, hb, hml, hown, ht⟩ ((c_Tree_lengthOfNodeName l G tr r0 r1 r2 r3 r4 r5 r6 r7 r8 r9 r10 r11 L P a4 (upd (fun _ => 0) 0 0)) _) (kb_gV wd_7c0e2508 wd_13543ba7 wd_7ab071a6 wd_ebf91e09 wd_ba1edb6a) ⟨rfl, hd_e4346e9a⟩ ⟨(Nat.le_of_ble_eq_true rfl), (Nat.le_of_ble_eq_true rfl)⟩ hE hP hD hS [3, 0, 1] rfl (by decide) rfl rfl rfl hl.1 rfl (Nat.le_of_ble_eq_true rfl) d_Press_nodeName_11 ⟨(Nat.le_of_ble_eq_true rfl), (Nat.le_of_ble_eq_true rfl)⟩) (fun rv4 uu3 H locs hw hP hD hS => ?_)
  have hP : va_P G.1 kb_cl [kb_o h 3 [.ref tp, .ref ld, .ref rd, .ref tr, .ref sp], kb_o r1 1 [.ref a1, .int 1], kb_o tr 2 [.ref r0, .ref r1, .ref r2, .ref r3, .ref r4, .ref r5, .ref r6, .ref r7, .ref r8, .ref r9, .ref r10, .ref r11, .int L, .int P], kb_o r4 1 [.ref a4, .int 1], kb_a G a4 16 (upd (fun _ => 0) 0 0)] H := hP
  have hD : va_D A [kb_o h 3 [.ref tp, .ref ld, .ref rd, .ref tr, .ref sp], kb_o r1 1 [.ref a1, .int 1], kb_o tr 2 [.ref r0, .ref r1, .ref r2, .ref r3, .ref r4, .ref r5, .ref r6, .ref r7, .ref r8, .ref r9, .ref r10, .ref r11, .int L, .int P], kb_o r4 1 [.ref a4, .int 1], kb_a G a4 16 (upd (fun _ => 0) 0 0)] := hD
  refine kb_top (y := 0) (show rv4 = 0 from hw) ?_
  refine kb_xS (As := [.int k, .int 0]) (rest := []) (wc := []) (wr := [kb_o h 3 [.ref tp, .ref ld, .ref rd, .ref tr, .ref sp], kb_o r1 1 [.ref a1, .int 1], kb_o tr 2 [.ref r0, .ref r1, .ref r2, .ref r3, .ref r4, .ref r5, .ref r6, .ref r7, .ref r8, .ref r9, .ref r10, .ref r11, .int L, .int P], kb_o r4 1 [.ref a4, .int 1], kb_a G a4 16 (upd (fun _ => 0) 0 0)]) ⟨hx, hb, hml, hown, ht⟩ (c_Press_refuseByteX l hst G k) wd_a848cb19 wd_64969b3a wd_28603eaf wd_07eee442 hd_08f3cc26 ⟨(Nat.le_of_ble_eq_true rfl), (Nat.le_of_ble_eq_true rfl)⟩ hE hP hD hS [] [0, 1, 2, 3, 4] rfl rfl (by decide) (by decide) (by decide) hl.1 rfl (Nat.le_of_ble_eq_true rfl) d_Press_nodeName_14 ⟨(Nat.le_of_ble_eq_true rfl), (Nat.le_of_ble_eq_true rfl)⟩ (fun q9 ce H locs hce hcv hcl hP hD hS => ?_)
  exact kb_out hno hlocks hce hcv hcl hS (Nat.le_of_ble_eq_true rfl) (Nat.le_of_ble_eq_true rfl)

set_option maxHeartbeats 4000000 in
set_option maxRecDepth 100000 in
theorem c_Press_find (l : Launch) (G : kb_G) (h : Nat) (tp : Nat) (ld : Nat) (rd : Nat) (tr : Nat) (sp : Nat) (ta : Nat) (r0 : Nat) (r1 : Nat) (r2 : Nat) (r3 : Nat) (r4 : Nat) (r5 : Nat) (r6 : Nat) (r7 : Nat) (r8 : Nat) (r9 : Nat) (r10 : Nat) (r11 : Nat) (L : Int32) (P : Int32) : kb_ci l G ⟨"TreePress", "find", "()I"⟩ prog_1_method_18_code 2 (some .int) 6 0 0 [.ref h] [kb_o h 3 [.ref tp, .ref ld, .ref rd, .ref tr, .ref sp], kb_o tp 1 [.ref ta, .int 0], kb_o tr 2 [.ref r0, .ref r1, .ref r2, .ref r3, .ref r4, .ref r5, .ref r6, .ref r7, .ref r8, .ref r9, .ref r10, .ref r11, .int L, .int P]] (fun r u => r = 0) (fun u => []) := by
  intro sz
  refine kb_body (QQ := fun A => kb_Qi G A (fun r u => r = 0) (fun u => [])) (by decide) (Nat.le_of_ble_eq_true rfl) ?_
  intro p e s m below meth c A B ls hl
  obtain ⟨hx, hb, hr, hml, hlocks, hin, hown, ht, hE, hP, hD, hS⟩ := B
  have hl : lv_has ls 2 [(0, .ref h)] := hl
  have hP0 := hP
  obtain ⟨H, hHe⟩ : ∃ H, H = s.heap := ⟨_, rfl⟩
  rw [← hHe] at hP
  have hS : va_S A s.heap H [] := by rw [hHe]; exact hS
  refine kb_at hHe ?_
  clear hHe
  refine lv_aload_n hx hb d_Press_find_0 rfl (lv_at hl 0 rfl) ?_
  refine va_get (D := G.1) (ci := 3) (v := .ref tr) (C := "TreePress") (T := kb_F3) (N := 5) hx hb ht kb_w3 hown hE.1 hP 0 rfl rfl 3 (by decide) (ht _ wd_29809c8a) (fun _ h9 => h9) rfl d_Press_find_1 ?_
  refine lv_aload_n hx hb d_Press_find_4 rfl (lv_at hl 0 rfl) ?_
  refine va_get (D := G.1) (ci := 3) (v := .ref tp) (C := "TreePress") (T := kb_F3) (N := 5) hx hb ht kb_w3 hown hE.1 hP 0 rfl rfl 0 (by decide) (ht _ wd_667fbbc4) (fun _ h9 => h9) rfl d_Press_find_5 ?_
  refine kb_i (wc := [kb_o tr 2 [.ref r0, .ref r1, .ref r2, .ref r3, .ref r4, .ref r5, .ref r6, .ref r7, .ref r8, .ref r9, .ref r10, .ref r11, .int L, .int P], kb_o tp 1 [.ref ta, .int 0]]) (wr := [kb_o h 3 [.ref tp, .ref ld, .ref rd, .ref tr, .ref sp]]) hE hP hD hS [2, 1] [0] rfl rfl (by decide) (by decide) (kb_rV (As := [.ref tp]) (rest := []) (wc := [kb_o tr 2 [.ref r0, .ref r1, .ref r2, .ref r3, .ref r4, .ref r5, .ref r6, .ref r7, .ref r8, .ref r9, .ref r10, .ref r11, .int L, .int P], kb_o tp 1 [.ref ta, .int 0]]) (q0 := 0) ⟨hx, hb, hml, hown, ht⟩ ((c_Tree_nodeOnPath l G tr r0 r1 r2 r3 r4 r5 r6 r7 r8 r9 r10 r11 L P tp ta) _) (kb_gV wd_51c0458f wd_82694476 wd_297977ec wd_ebf91e09 wd_0b06b708) ⟨rfl, hd_c7bd48b6⟩ ⟨(Nat.le_of_ble_eq_true rfl), (Nat.le_of_ble_eq_true rfl)⟩ hE hP hD hS [2, 1] rfl (by decide) rfl rfl rfl hl.1 rfl (Nat.le_of_ble_eq_true rfl) d_Press_find_8 ⟨(Nat.le_of_ble_eq_true rfl), (Nat.le_of_ble_eq_true rfl)⟩) (fun rv2 uu1 H locs hw hP hD hS => ?_)
  have hP : va_P G.1 kb_cl [kb_o h 3 [.ref tp, .ref ld, .ref rd, .ref tr, .ref sp], kb_o tr 2 [.ref r0, .ref r1, .ref r2, .ref r3, .ref r4, .ref r5, .ref r6, .ref r7, .ref r8, .ref r9, .ref r10, .ref r11, .int L, .int P], kb_o tp 1 [.ref ta, .int 0]] H := hP
  have hD : va_D A [kb_o h 3 [.ref tp, .ref ld, .ref rd, .ref tr, .ref sp], kb_o tr 2 [.ref r0, .ref r1, .ref r2, .ref r3, .ref r4, .ref r5, .ref r6, .ref r7, .ref r8, .ref r9, .ref r10, .ref r11, .int L, .int P], kb_o tp 1 [.ref ta, .int 0]] := hD
  refine kb_top (y := 0) (show rv2 = 0 from hw) ?_
  refine lv_istore_n (lv' := [(1, .int 0), (0, .ref h)]) hx hb d_Press_find_11 rfl hl (by decide) rfl (fun ls hl => ?_)
  refine lv_aload_n hx hb d_Press_find_12 rfl (lv_at hl 1 rfl) ?_
  refine va_get (D := G.1) (ci := 3) (v := .ref tp) (C := "TreePress") (T := kb_F3) (N := 5) hx hb ht kb_w3 hown hE.1 hP 0 rfl rfl 0 (by decide) (ht _ wd_667fbbc4) (fun _ h9 => h9) rfl d_Press_find_13 ?_
  refine lv_iconst (v := 0) hx hb d_Press_find_16 (by decide) ?_
  refine kb_v (wc := [kb_o tp 1 [.ref ta, .int 0]]) (wr := [kb_o h 3 [.ref tp, .ref ld, .ref rd, .ref tr, .ref sp], kb_o tr 2 [.ref r0, .ref r1, .ref r2, .ref r3, .ref r4, .ref r5, .ref r6, .ref r7, .ref r8, .ref r9, .ref r10, .ref r11, .int L, .int P]]) hE hP hD hS [2] [0, 1] rfl rfl (by decide) (by decide) (kb_rV (As := [.int 0]) (rest := []) (wc := [kb_o tp 1 [.ref ta, .int 0]]) (q0 := 0) ⟨hx, hb, hml, hown, ht⟩ ((c_Row_cut0 l G tp ta) _) (kb_gV wd_50e9e1ec wd_a30f3437 wd_8c6818e9 wd_4182e433 wd_86891071) ⟨rfl, hd_934340dd⟩ ⟨(Nat.le_of_ble_eq_true rfl), (Nat.le_of_ble_eq_true rfl)⟩ hE hP hD hS [2] rfl (by decide) rfl rfl rfl hl.1 rfl (Nat.le_of_ble_eq_true rfl) d_Press_find_17 ⟨(Nat.le_of_ble_eq_true rfl), (Nat.le_of_ble_eq_true rfl)⟩) (fun uu3 H locs hw hP hD hS => ?_)
  have hP : va_P G.1 kb_cl [kb_o h 3 [.ref tp, .ref ld, .ref rd, .ref tr, .ref sp], kb_o tr 2 [.ref r0, .ref r1, .ref r2, .ref r3, .ref r4, .ref r5, .ref r6, .ref r7, .ref r8, .ref r9, .ref r10, .ref r11, .int L, .int P], kb_o tp 1 [.ref ta, .int 0]] H := hP
  have hD : va_D A [kb_o h 3 [.ref tp, .ref ld, .ref rd, .ref tr, .ref sp], kb_o tr 2 [.ref r0, .ref r1, .ref r2, .ref r3, .ref r4, .ref r5, .ref r6, .ref r7, .ref r8, .ref r9, .ref r10, .ref r11, .int L, .int P], kb_o tp 1 [.ref ta, .int 0]] := hD
  refine lv_iload_n hx hb d_Press_find_20 rfl (lv_at hl 0 rfl) ?_
  exact kb_reti (kb_l [], kb_f []) hx hb hr hlocks hE hP hD hS [] rfl (by decide) rfl rfl (Nat.le_of_ble_eq_true rfl) (Nat.le_of_ble_eq_true rfl) d_Press_find_21

set_option maxHeartbeats 4000000 in
set_option maxRecDepth 100000 in
theorem c_Press_seek0 (l : Launch) (G : kb_G) (h : Nat) (tp : Nat) (ld : Nat) (rd : Nat) (tr : Nat) (sp : Nat) (ta : Nat) (r0 : Nat) (r1 : Nat) (r2 : Nat) (r3 : Nat) (r4 : Nat) (r5 : Nat) (r6 : Nat) (r7 : Nat) (r8 : Nat) (r9 : Nat) (r10 : Nat) (r11 : Nat) (L : Int32) (P : Int32) (a1 : Nat) (a5 : Nat) (a6 : Nat) : kb_ci l G ⟨"TreePress", "seek", "(I)I"⟩ prog_1_method_19_code 3 (some .int) 7 0 0 [.ref h, .int 0] [kb_o h 3 [.ref tp, .ref ld, .ref rd, .ref tr, .ref sp], kb_o tp 1 [.ref ta, .int 0], kb_o tr 2 [.ref r0, .ref r1, .ref r2, .ref r3, .ref r4, .ref r5, .ref r6, .ref r7, .ref r8, .ref r9, .ref r10, .ref r11, .int L, .int P], kb_o r1 1 [.ref a1, .int 1], kb_o r5 1 [.ref a5, .int 1], kb_o r6 1 [.ref a6, .int 1], kb_a G a5 16 (upd (fun _ => 0) 0 0), kb_a G a6 16 (upd (fun _ => 0) 0 0)] (fun r u => r = (-1)) (fun u => []) := by
  intro sz
  refine kb_body (QQ := fun A => kb_Qi G A (fun r u => r = (-1)) (fun u => [])) (by decide) (Nat.le_of_ble_eq_true rfl) ?_
  intro p e s m below meth c A B ls hl
  obtain ⟨hx, hb, hr, hml, hlocks, hin, hown, ht, hE, hP, hD, hS⟩ := B
  have hl : lv_has ls 3 [(0, .ref h), (1, .int 0)] := hl
  have hP0 := hP
  obtain ⟨H, hHe⟩ : ∃ H, H = s.heap := ⟨_, rfl⟩
  rw [← hHe] at hP
  have hS : va_S A s.heap H [] := by rw [hHe]; exact hS
  refine kb_at hHe ?_
  clear hHe
  refine lv_aload_n hx hb d_Press_seek_0 rfl (lv_at hl 0 rfl) ?_
  refine lv_iload_n hx hb d_Press_seek_1 rfl (lv_at hl 1 rfl) ?_
  refine kb_v (wc := [kb_o h 3 [.ref tp, .ref ld, .ref rd, .ref tr, .ref sp], kb_o tr 2 [.ref r0, .ref r1, .ref r2, .ref r3, .ref r4, .ref r5, .ref r6, .ref r7, .ref r8, .ref r9, .ref r10, .ref r11, .int L, .int P], kb_o r1 1 [.ref a1, .int 1]]) (wr := [kb_o tp 1 [.ref ta, .int 0], kb_o r5 1 [.ref a5, .int 1], kb_o r6 1 [.ref a6, .int 1], kb_a G a5 16 (upd (fun _ => 0) 0 0), kb_a G a6 16 (upd (fun _ => 0) 0 0)]) hE hP hD hS [0, 2, 3] [1, 4, 5, 6, 7] rfl rfl (by decide) (by decide) (kb_rV (As := [.int 0]) (rest := []) (wc := [kb_o h 3 [.ref tp, .ref ld, .ref rd, .ref tr, .ref sp], kb_o tr 2 [.ref r0, .ref r1, .ref r2, .ref r3, .ref r4, .ref r5, .ref r6, .ref r7, .ref r8, .ref r9, .ref r10, .ref r11, .int L, .int P], kb_o r1 1 [.ref a1, .int 1]]) (q0 := 0) ⟨hx, hb, hml, hown, ht⟩ ((c_Press_refuseNode0 l G h tp ld rd tr sp r0 r1 r2 r3 r4 r5 r6 r7 r8 r9 r10 r11 L P a1) _) (kb_gV wd_cef057ed wd_8ab2e778 wd_df57965e wd_28603eaf wd_aac2f91e) ⟨rfl, hd_9eec11a5⟩ ⟨(Nat.le_of_ble_eq_true rfl), (Nat.le_of_ble_eq_true rfl)⟩ hE hP hD hS [0, 2, 3] rfl (by decide) rfl rfl rfl hl.1 rfl (Nat.le_of_ble_eq_true rfl) d_Press_seek_2 ⟨(Nat.le_of_ble_eq_true rfl), (Nat.le_of_ble_eq_true rfl)⟩) (fun uu1 H locs hw hP hD hS => ?_)
  have hP : va_P G.1 kb_cl [kb_o tp 1 [.ref ta, .int 0], kb_o r5 1 [.ref a5, .int 1], kb_o r6 1 [.ref a6, .int 1], kb_a G a5 16 (upd (fun _ => 0) 0 0), kb_a G a6 16 (upd (fun _ => 0) 0 0), kb_o h 3 [.ref tp, .ref ld, .ref rd, .ref tr, .ref sp], kb_o tr 2 [.ref r0, .ref r1, .ref r2, .ref r3, .ref r4, .ref r5, .ref r6, .ref r7, .ref r8, .ref r9, .ref r10, .ref r11, .int L, .int P], kb_o r1 1 [.ref a1, .int 1]] H := hP
  have hD : va_D A [kb_o tp 1 [.ref ta, .int 0], kb_o r5 1 [.ref a5, .int 1], kb_o r6 1 [.ref a6, .int 1], kb_a G a5 16 (upd (fun _ => 0) 0 0), kb_a G a6 16 (upd (fun _ => 0) 0 0), kb_o h 3 [.ref tp, .ref ld, .ref rd, .ref tr, .ref sp], kb_o tr 2 [.ref r0, .ref r1, .ref r2, .ref r3, .ref r4, .ref r5, .ref r6, .ref r7, .ref r8, .ref r9, .ref r10, .ref r11, .int L, .int P], kb_o r1 1 [.ref a1, .int 1]] := hD
  refine lv_aload_n hx hb d_Press_seek_5 rfl (lv_at hl 0 rfl) ?_
  refine va_get (D := G.1) (ci := 3) (v := .ref tr) (C := "TreePress") (T := kb_F3) (N := 5) hx hb ht kb_w3 hown hE.1 hP 5 rfl rfl 3 (by decide) (ht _ wd_29809c8a) (fun _ h9 => h9) rfl d_Press_seek_6 ?_
  refine lv_iload_n hx hb d_Press_seek_9 rfl (lv_at hl 1 rfl) ?_
  refine lv_aload_n hx hb d_Press_seek_10 rfl (lv_at hl 0 rfl) ?_
  refine va_get (D := G.1) (ci := 3) (v := .ref tp) (C := "TreePress") (T := kb_F3) (N := 5) hx hb ht kb_w3 hown hE.1 hP 5 rfl rfl 0 (by decide) (ht _ wd_667fbbc4) (fun _ h9 => h9) rfl d_Press_seek_11 ?_
  refine kb_i (wc := [kb_o tr 2 [.ref r0, .ref r1, .ref r2, .ref r3, .ref r4, .ref r5, .ref r6, .ref r7, .ref r8, .ref r9, .ref r10, .ref r11, .int L, .int P], kb_o r5 1 [.ref a5, .int 1], kb_o r6 1 [.ref a6, .int 1], kb_a G a5 16 (upd (fun _ => 0) 0 0), kb_a G a6 16 (upd (fun _ => 0) 0 0), kb_o tp 1 [.ref ta, .int 0]]) (wr := [kb_o h 3 [.ref tp, .ref ld, .ref rd, .ref tr, .ref sp], kb_o r1 1 [.ref a1, .int 1]]) hE hP hD hS [6, 1, 2, 3, 4, 0] [5, 7] rfl rfl (by decide) (by decide) (kb_rV (As := [.int 0, .ref tp]) (rest := []) (wc := [kb_o tr 2 [.ref r0, .ref r1, .ref r2, .ref r3, .ref r4, .ref r5, .ref r6, .ref r7, .ref r8, .ref r9, .ref r10, .ref r11, .int L, .int P], kb_o r5 1 [.ref a5, .int 1], kb_o r6 1 [.ref a6, .int 1], kb_a G a5 16 (upd (fun _ => 0) 0 0), kb_a G a6 16 (upd (fun _ => 0) 0 0), kb_o tp 1 [.ref ta, .int 0]]) (q0 := 0) ⟨hx, hb, hml, hown, ht⟩ ((c_Tree_propertyNamed l G tr r0 r1 r2 r3 r4 r5 r6 r7 r8 r9 r10 r11 L P tp ta 0 a5 a6) _) (kb_gV wd_b8a9a485 wd_aac1b7bf wd_9f1def76 wd_ebf91e09 wd_74d40f9d) ⟨rfl, hd_47559c00⟩ ⟨(Nat.le_of_ble_eq_true rfl), (Nat.le_of_ble_eq_true rfl)⟩ hE hP hD hS [6, 1, 2, 3, 4, 0] rfl (by decide) rfl rfl rfl hl.1 rfl (Nat.le_of_ble_eq_true rfl) d_Press_seek_14 ⟨(Nat.le_of_ble_eq_true rfl), (Nat.le_of_ble_eq_true rfl)⟩) (fun rv4 uu3 H locs hw hP hD hS => ?_)
  have hP : va_P G.1 kb_cl [kb_o h 3 [.ref tp, .ref ld, .ref rd, .ref tr, .ref sp], kb_o r1 1 [.ref a1, .int 1], kb_o r5 1 [.ref a5, .int 1], kb_a G a5 16 (upd (fun _ => 0) 0 0), kb_o r6 1 [.ref a6, .int 1], kb_a G a6 16 (upd (fun _ => 0) 0 0), kb_o tp 1 [.ref ta, .int 0], kb_o tr 2 [.ref r0, .ref r1, .ref r2, .ref r3, .ref r4, .ref r5, .ref r6, .ref r7, .ref r8, .ref r9, .ref r10, .ref r11, .int L, .int P]] H := hP
  have hD : va_D A [kb_o h 3 [.ref tp, .ref ld, .ref rd, .ref tr, .ref sp], kb_o r1 1 [.ref a1, .int 1], kb_o r5 1 [.ref a5, .int 1], kb_a G a5 16 (upd (fun _ => 0) 0 0), kb_o r6 1 [.ref a6, .int 1], kb_a G a6 16 (upd (fun _ => 0) 0 0), kb_o tp 1 [.ref ta, .int 0], kb_o tr 2 [.ref r0, .ref r1, .ref r2, .ref r3, .ref r4, .ref r5, .ref r6, .ref r7, .ref r8, .ref r9, .ref r10, .ref r11, .int L, .int P]] := hD
  refine kb_top (y := (-1)) (show rv4 = (-1) from hw) ?_
  refine lv_istore_n (lv' := [(2, .int (-1)), (0, .ref h), (1, .int 0)]) hx hb d_Press_seek_17 rfl hl (by decide) rfl (fun ls hl => ?_)
  refine lv_aload_n hx hb d_Press_seek_18 rfl (lv_at hl 1 rfl) ?_
  refine va_get (D := G.1) (ci := 3) (v := .ref tp) (C := "TreePress") (T := kb_F3) (N := 5) hx hb ht kb_w3 hown hE.1 hP 0 rfl rfl 0 (by decide) (ht _ wd_667fbbc4) (fun _ h9 => h9) rfl d_Press_seek_19 ?_
  refine lv_iconst (v := 0) hx hb d_Press_seek_22 (by decide) ?_
  refine kb_v (wc := [kb_o tp 1 [.ref ta, .int 0]]) (wr := [kb_o h 3 [.ref tp, .ref ld, .ref rd, .ref tr, .ref sp], kb_o r1 1 [.ref a1, .int 1], kb_o r5 1 [.ref a5, .int 1], kb_a G a5 16 (upd (fun _ => 0) 0 0), kb_o r6 1 [.ref a6, .int 1], kb_a G a6 16 (upd (fun _ => 0) 0 0), kb_o tr 2 [.ref r0, .ref r1, .ref r2, .ref r3, .ref r4, .ref r5, .ref r6, .ref r7, .ref r8, .ref r9, .ref r10, .ref r11, .int L, .int P]]) hE hP hD hS [6] [0, 1, 2, 3, 4, 5, 7] rfl rfl (by decide) (by decide) (kb_rV (As := [.int 0]) (rest := []) (wc := [kb_o tp 1 [.ref ta, .int 0]]) (q0 := 0) ⟨hx, hb, hml, hown, ht⟩ ((c_Row_cut0 l G tp ta) _) (kb_gV wd_50e9e1ec wd_a30f3437 wd_8c6818e9 wd_4182e433 wd_86891071) ⟨rfl, hd_934340dd⟩ ⟨(Nat.le_of_ble_eq_true rfl), (Nat.le_of_ble_eq_true rfl)⟩ hE hP hD hS [6] rfl (by decide) rfl rfl rfl hl.1 rfl (Nat.le_of_ble_eq_true rfl) d_Press_seek_23 ⟨(Nat.le_of_ble_eq_true rfl), (Nat.le_of_ble_eq_true rfl)⟩) (fun uu5 H locs hw hP hD hS => ?_)
  have hP : va_P G.1 kb_cl [kb_o h 3 [.ref tp, .ref ld, .ref rd, .ref tr, .ref sp], kb_o r1 1 [.ref a1, .int 1], kb_o r5 1 [.ref a5, .int 1], kb_a G a5 16 (upd (fun _ => 0) 0 0), kb_o r6 1 [.ref a6, .int 1], kb_a G a6 16 (upd (fun _ => 0) 0 0), kb_o tr 2 [.ref r0, .ref r1, .ref r2, .ref r3, .ref r4, .ref r5, .ref r6, .ref r7, .ref r8, .ref r9, .ref r10, .ref r11, .int L, .int P], kb_o tp 1 [.ref ta, .int 0]] H := hP
  have hD : va_D A [kb_o h 3 [.ref tp, .ref ld, .ref rd, .ref tr, .ref sp], kb_o r1 1 [.ref a1, .int 1], kb_o r5 1 [.ref a5, .int 1], kb_a G a5 16 (upd (fun _ => 0) 0 0), kb_o r6 1 [.ref a6, .int 1], kb_a G a6 16 (upd (fun _ => 0) 0 0), kb_o tr 2 [.ref r0, .ref r1, .ref r2, .ref r3, .ref r4, .ref r5, .ref r6, .ref r7, .ref r8, .ref r9, .ref r10, .ref r11, .int L, .int P], kb_o tp 1 [.ref ta, .int 0]] := hD
  refine lv_iload_n hx hb d_Press_seek_26 rfl (lv_at hl 0 rfl) ?_
  exact kb_reti (kb_l [], kb_f []) hx hb hr hlocks hE hP hD hS [] rfl (by decide) rfl rfl (Nat.le_of_ble_eq_true rfl) (Nat.le_of_ble_eq_true rfl) d_Press_seek_27

set_option maxHeartbeats 4000000 in
set_option maxRecDepth 100000 in
theorem c_Press_seekX (l : Launch) (hst : l.stackTraces = false) (G : kb_G) (h : Nat) (tp : Nat) (ld : Nat) (rd : Nat) (tr : Nat) (sp : Nat) (r0 : Nat) (r1 : Nat) (r2 : Nat) (r3 : Nat) (r4 : Nat) (r5 : Nat) (r6 : Nat) (r7 : Nat) (r8 : Nat) (r9 : Nat) (r10 : Nat) (r11 : Nat) (L : Int32) (P : Int32) (a1 : Nat) (i : Int32) (hi : ¬ i = 0) : kb_cx l G ⟨"TreePress", "seek", "(I)I"⟩ prog_1_method_19_code 3 (some .int) 7 1 6 [.ref h, .int i] [kb_o h 3 [.ref tp, .ref ld, .ref rd, .ref tr, .ref sp], kb_o tr 2 [.ref r0, .ref r1, .ref r2, .ref r3, .ref r4, .ref r5, .ref r6, .ref r7, .ref r8, .ref r9, .ref r10, .ref r11, .int L, .int P], kb_o r1 1 [.ref a1, .int 1]] "java/lang/IndexOutOfBoundsException" := by
  refine kb_bodyX (by decide) (Nat.le_of_ble_eq_true rfl) ?_
  intro p e s m below meth c A B hno hAw ls hl
  obtain ⟨hx, hb, hr, hml, hlocks, hin, hown, ht, hE, hP, hD, hS⟩ := B
  have hl : lv_has ls 3 [(0, .ref h), (1, .int i)] := hl
  have hP0 := hP
  obtain ⟨H, hHe⟩ : ∃ H, H = s.heap := ⟨_, rfl⟩
  rw [← hHe] at hP
  have hS : va_S A s.heap H [] := by rw [hHe]; exact hS
  refine kb_at hHe ?_
  clear hHe
  refine lv_aload_n hx hb d_Press_seek_0 rfl (lv_at hl 0 rfl) ?_
  refine lv_iload_n hx hb d_Press_seek_1 rfl (lv_at hl 1 rfl) ?_
  refine kb_xV (As := [.int i]) (rest := []) (wc := [kb_o h 3 [.ref tp, .ref ld, .ref rd, .ref tr, .ref sp], kb_o tr 2 [.ref r0, .ref r1, .ref r2, .ref r3, .ref r4, .ref r5, .ref r6, .ref r7, .ref r8, .ref r9, .ref r10, .ref r11, .int L, .int P], kb_o r1 1 [.ref a1, .int 1]]) (wr := []) (q0 := 0) ⟨hx, hb, hml, hown, ht⟩ (c_Press_refuseNodeX l hst G h tp ld rd tr sp r0 r1 r2 r3 r4 r5 r6 r7 r8 r9 r10 r11 L P a1 i hi) wd_cef057ed wd_8ab2e778 wd_df57965e wd_28603eaf wd_aac2f91e hd_9eec11a5 ⟨(Nat.le_of_ble_eq_true rfl), (Nat.le_of_ble_eq_true rfl)⟩ hE hP hD hS [0, 1, 2] [] rfl rfl (by decide) (by decide) (by decide) rfl rfl rfl hl.1 rfl (Nat.le_of_ble_eq_true rfl) d_Press_seek_2 ⟨(Nat.le_of_ble_eq_true rfl), (Nat.le_of_ble_eq_true rfl)⟩ (fun q9 ce H locs hce hcv hcl hP hD hS => ?_)
  exact kb_out hno hlocks hce hcv hcl hS (Nat.le_of_ble_eq_true rfl) (Nat.le_of_ble_eq_true rfl)
end
