section
-- ===== PART A: goes FIRST, ahead of the names: the tables' words, and 'selects' of the private methods out of them =====
/-- a private method of a class that the tables say can be made, by its rows of tables_1 -/
def lw_okq (q : MethodName × Nat) : Prop := (q.1.cls ≠ "java/lang/invoke/MethodHandle" ∧ q.1.cls ≠ "java/lang/invoke/VarHandle") ∧ Cond.instantiable q.1.cls q.2 ∈ tables_1 ∧ Cond.privateMethod q.1 ∈ tables_1 ∧ Cond.instanceMethod q.1 ∈ tables_1
theorem lw_p0 : lw_okq (⟨"TreePress$Tree", "layNode", "(LTreePress$Row;I)V"⟩, 14) := ⟨⟨by decide +kernel, by decide +kernel⟩, List.mem_of_getElem? (i := 57) (by decide +kernel), List.mem_of_getElem? (i := 196) (by decide +kernel), List.mem_of_getElem? (i := 197) (by decide +kernel)⟩
theorem lw_p1 : lw_okq (⟨"TreePress$Tree", "layProperty", "(LTreePress$Row;I)V"⟩, 14) := ⟨⟨by decide +kernel, by decide +kernel⟩, List.mem_of_getElem? (i := 57) (by decide +kernel), List.mem_of_getElem? (i := 219) (by decide +kernel), List.mem_of_getElem? (i := 220) (by decide +kernel)⟩
theorem lw_p2 : lw_okq (⟨"TreePress$Tree", "startOfValue", "(I)I"⟩, 14) := ⟨⟨by decide +kernel, by decide +kernel⟩, List.mem_of_getElem? (i := 57) (by decide +kernel), List.mem_of_getElem? (i := 227) (by decide +kernel), List.mem_of_getElem? (i := 228) (by decide +kernel)⟩
theorem lw_p3 : lw_okq (⟨"TreePress$Tree", "layEndsBehind", "(LTreePress$Row;I)V"⟩, 14) := ⟨⟨by decide +kernel, by decide +kernel⟩, List.mem_of_getElem? (i := 57) (by decide +kernel), List.mem_of_getElem? (i := 231) (by decide +kernel), List.mem_of_getElem? (i := 232) (by decide +kernel)⟩
theorem lw_p4 : lw_okq (⟨"TreePress$Tree", "layNames", "(LTreePress$Row;)V"⟩, 14) := ⟨⟨by decide +kernel, by decide +kernel⟩, List.mem_of_getElem? (i := 57) (by decide +kernel), List.mem_of_getElem? (i := 235) (by decide +kernel), List.mem_of_getElem? (i := 236) (by decide +kernel)⟩
theorem lw_p5 : lw_okq (⟨"TreePress$Tree", "layHead", "(LTreePress$Row;I)V"⟩, 14) := ⟨⟨by decide +kernel, by decide +kernel⟩, List.mem_of_getElem? (i := 57) (by decide +kernel), List.mem_of_getElem? (i := 243) (by decide +kernel), List.mem_of_getElem? (i := 244) (by decide +kernel)⟩
theorem lw_p6 : lw_okq (⟨"TreePress$Reader", "failureOfZeros", "(LTreePress$Row;II)I"⟩, 4) := ⟨⟨by decide +kernel, by decide +kernel⟩, List.mem_of_getElem? (i := 38) (by decide +kernel), List.mem_of_getElem? (i := 280) (by decide +kernel), List.mem_of_getElem? (i := 281) (by decide +kernel)⟩
theorem lw_p7 : lw_okq (⟨"TreePress$Reader", "passOver", "()I"⟩, 4) := ⟨⟨by decide +kernel, by decide +kernel⟩, List.mem_of_getElem? (i := 38) (by decide +kernel), List.mem_of_getElem? (i := 294) (by decide +kernel), List.mem_of_getElem? (i := 295) (by decide +kernel)⟩
theorem lw_p8 : lw_okq (⟨"TreePress$Reader", "failureOfFirstNode", "(LTreePress$Row;)I"⟩, 4) := ⟨⟨by decide +kernel, by decide +kernel⟩, List.mem_of_getElem? (i := 38) (by decide +kernel), List.mem_of_getElem? (i := 298) (by decide +kernel), List.mem_of_getElem? (i := 299) (by decide +kernel)⟩
theorem lw_p9 : lw_okq (⟨"TreePress$Reader", "failureBehindLast", "()I"⟩, 4) := ⟨⟨by decide +kernel, by decide +kernel⟩, List.mem_of_getElem? (i := 38) (by decide +kernel), List.mem_of_getElem? (i := 304) (by decide +kernel), List.mem_of_getElem? (i := 305) (by decide +kernel)⟩
theorem lw_p10 : lw_okq (⟨"TreePress$Reader", "failureOfNode", "(LTreePress$Row;LTreePress$Tree;)I"⟩, 4) := ⟨⟨by decide +kernel, by decide +kernel⟩, List.mem_of_getElem? (i := 38) (by decide +kernel), List.mem_of_getElem? (i := 308) (by decide +kernel), List.mem_of_getElem? (i := 309) (by decide +kernel)⟩
theorem lw_p11 : lw_okq (⟨"TreePress$Reader", "failureOfProperty", "(LTreePress$Row;LTreePress$Tree;)I"⟩, 4) := ⟨⟨by decide +kernel, by decide +kernel⟩, List.mem_of_getElem? (i := 38) (by decide +kernel), List.mem_of_getElem? (i := 329) (by decide +kernel), List.mem_of_getElem? (i := 330) (by decide +kernel)⟩
theorem lw_p12 : lw_okq (⟨"TreePress$Tree", "firstNamed", "(IILTreePress$Row;II)I"⟩, 14) := ⟨⟨by decide +kernel, by decide +kernel⟩, List.mem_of_getElem? (i := 57) (by decide +kernel), List.mem_of_getElem? (i := 348) (by decide +kernel), List.mem_of_getElem? (i := 349) (by decide +kernel)⟩
theorem lw_p13 : lw_okq (⟨"TreePress$Reader", "leaveNode", "(LTreePress$Tree;)I"⟩, 4) := ⟨⟨by decide +kernel, by decide +kernel⟩, List.mem_of_getElem? (i := 38) (by decide +kernel), List.mem_of_getElem? (i := 358) (by decide +kernel), List.mem_of_getElem? (i := 359) (by decide +kernel)⟩
theorem lw_p14 : lw_okq (⟨"TreePress", "swapTrees", "()V"⟩, 5) := ⟨⟨by decide +kernel, by decide +kernel⟩, List.mem_of_getElem? (i := 16) (by decide +kernel), List.mem_of_getElem? (i := 371) (by decide +kernel), List.mem_of_getElem? (i := 372) (by decide +kernel)⟩
theorem lw_p15 : lw_okq (⟨"TreePress$Tree", "firstWithin", "(ILTreePress$Row;II)I"⟩, 14) := ⟨⟨by decide +kernel, by decide +kernel⟩, List.mem_of_getElem? (i := 57) (by decide +kernel), List.mem_of_getElem? (i := 398) (by decide +kernel), List.mem_of_getElem? (i := 399) (by decide +kernel)⟩
def lw_privs_1 : List (MethodName × Nat) := [(⟨"TreePress$Tree", "layNode", "(LTreePress$Row;I)V"⟩, 14), (⟨"TreePress$Tree", "layProperty", "(LTreePress$Row;I)V"⟩, 14), (⟨"TreePress$Tree", "startOfValue", "(I)I"⟩, 14), (⟨"TreePress$Tree", "layEndsBehind", "(LTreePress$Row;I)V"⟩, 14), (⟨"TreePress$Tree", "layNames", "(LTreePress$Row;)V"⟩, 14), (⟨"TreePress$Tree", "layHead", "(LTreePress$Row;I)V"⟩, 14), (⟨"TreePress$Reader", "failureOfZeros", "(LTreePress$Row;II)I"⟩, 4), (⟨"TreePress$Reader", "passOver", "()I"⟩, 4), (⟨"TreePress$Reader", "failureOfFirstNode", "(LTreePress$Row;)I"⟩, 4), (⟨"TreePress$Reader", "failureBehindLast", "()I"⟩, 4), (⟨"TreePress$Reader", "failureOfNode", "(LTreePress$Row;LTreePress$Tree;)I"⟩, 4), (⟨"TreePress$Reader", "failureOfProperty", "(LTreePress$Row;LTreePress$Tree;)I"⟩, 4), (⟨"TreePress$Tree", "firstNamed", "(IILTreePress$Row;II)I"⟩, 14), (⟨"TreePress$Reader", "leaveNode", "(LTreePress$Tree;)I"⟩, 4), (⟨"TreePress", "swapTrees", "()V"⟩, 5), (⟨"TreePress$Tree", "firstWithin", "(ILTreePress$Row;II)I"⟩, 14)]
theorem lw_r1 : ∀ q ∈ lw_privs_1, lw_okq q := List.forall_mem_cons.mpr ⟨lw_p0, List.forall_mem_cons.mpr ⟨lw_p1, List.forall_mem_cons.mpr ⟨lw_p2, List.forall_mem_cons.mpr ⟨lw_p3, List.forall_mem_cons.mpr ⟨lw_p4, List.forall_mem_cons.mpr ⟨lw_p5, List.forall_mem_cons.mpr ⟨lw_p6, List.forall_mem_cons.mpr ⟨lw_p7, List.forall_mem_cons.mpr ⟨lw_p8, List.forall_mem_cons.mpr ⟨lw_p9, List.forall_mem_cons.mpr ⟨lw_p10, List.forall_mem_cons.mpr ⟨lw_p11, List.forall_mem_cons.mpr ⟨lw_p12, List.forall_mem_cons.mpr ⟨lw_p13, List.forall_mem_cons.mpr ⟨lw_p14, List.forall_mem_cons.mpr ⟨lw_p15, fun _ h => absurd h List.not_mem_nil⟩⟩⟩⟩⟩⟩⟩⟩⟩⟩⟩⟩⟩⟩⟩⟩
theorem lw_p16 : lw_okq (⟨"java/lang/Throwable", "fillInStackTrace", "(I)Ljava/lang/Throwable;"⟩, 6) := ⟨⟨by decide +kernel, by decide +kernel⟩, List.mem_of_getElem? (i := 449) (by decide +kernel), List.mem_of_getElem? (i := 447) (by decide +kernel), List.mem_of_getElem? (i := 448) (by decide +kernel)⟩
theorem lw_p17 : lw_okq (⟨"TreePress", "refuseWrongNode", "(I)V"⟩, 5) := ⟨⟨by decide +kernel, by decide +kernel⟩, List.mem_of_getElem? (i := 16) (by decide +kernel), List.mem_of_getElem? (i := 578) (by decide +kernel), List.mem_of_getElem? (i := 579) (by decide +kernel)⟩
theorem lw_p18 : lw_okq (⟨"TreePress", "refuseWrongProperty", "(I)V"⟩, 5) := ⟨⟨by decide +kernel, by decide +kernel⟩, List.mem_of_getElem? (i := 16) (by decide +kernel), List.mem_of_getElem? (i := 595) (by decide +kernel), List.mem_of_getElem? (i := 596) (by decide +kernel)⟩
theorem lw_p19 : lw_okq (⟨"TreePressModel", "begin", "(I)V"⟩, 21) := ⟨⟨by decide +kernel, by decide +kernel⟩, List.mem_of_getElem? (i := 655) (by decide +kernel), List.mem_of_getElem? (i := 663) (by decide +kernel), List.mem_of_getElem? (i := 664) (by decide +kernel)⟩
theorem lw_p20 : lw_okq (⟨"TreePressModel", "depthOf", "(II)I"⟩, 21) := ⟨⟨by decide +kernel, by decide +kernel⟩, List.mem_of_getElem? (i := 655) (by decide +kernel), List.mem_of_getElem? (i := 751) (by decide +kernel), List.mem_of_getElem? (i := 752) (by decide +kernel)⟩
theorem lw_p21 : lw_okq (⟨"TreePressModel", "isName", "(I)Z"⟩, 21) := ⟨⟨by decide +kernel, by decide +kernel⟩, List.mem_of_getElem? (i := 655) (by decide +kernel), List.mem_of_getElem? (i := 755) (by decide +kernel), List.mem_of_getElem? (i := 756) (by decide +kernel)⟩
theorem lw_p22 : lw_okq (⟨"TreePressModel", "addNode", "(IIII)V"⟩, 21) := ⟨⟨by decide +kernel, by decide +kernel⟩, List.mem_of_getElem? (i := 655) (by decide +kernel), List.mem_of_getElem? (i := 762) (by decide +kernel), List.mem_of_getElem? (i := 763) (by decide +kernel)⟩
theorem lw_p23 : lw_okq (⟨"TreePressModel", "keep", "(III)V"⟩, 21) := ⟨⟨by decide +kernel, by decide +kernel⟩, List.mem_of_getElem? (i := 655) (by decide +kernel), List.mem_of_getElem? (i := 766) (by decide +kernel), List.mem_of_getElem? (i := 767) (by decide +kernel)⟩
theorem lw_p24 : lw_okq (⟨"TreePressModel", "addProperty", "(IIIIII)V"⟩, 21) := ⟨⟨by decide +kernel, by decide +kernel⟩, List.mem_of_getElem? (i := 655) (by decide +kernel), List.mem_of_getElem? (i := 774) (by decide +kernel), List.mem_of_getElem? (i := 775) (by decide +kernel)⟩
theorem lw_p25 : lw_okq (⟨"TreePressModel", "layNodes", "()V"⟩, 21) := ⟨⟨by decide +kernel, by decide +kernel⟩, List.mem_of_getElem? (i := 655) (by decide +kernel), List.mem_of_getElem? (i := 786) (by decide +kernel), List.mem_of_getElem? (i := 787) (by decide +kernel)⟩
theorem lw_p26 : lw_okq (⟨"TreePressModel", "number", "(I)V"⟩, 21) := ⟨⟨by decide +kernel, by decide +kernel⟩, List.mem_of_getElem? (i := 655) (by decide +kernel), List.mem_of_getElem? (i := 790) (by decide +kernel), List.mem_of_getElem? (i := 791) (by decide +kernel)⟩
theorem lw_p27 : lw_okq (⟨"TreePressModel", "put", "(I)V"⟩, 21) := ⟨⟨by decide +kernel, by decide +kernel⟩, List.mem_of_getElem? (i := 655) (by decide +kernel), List.mem_of_getElem? (i := 794) (by decide +kernel), List.mem_of_getElem? (i := 795) (by decide +kernel)⟩
theorem lw_p28 : lw_okq (⟨"TreePressModel", "fillUp", "()V"⟩, 21) := ⟨⟨by decide +kernel, by decide +kernel⟩, List.mem_of_getElem? (i := 655) (by decide +kernel), List.mem_of_getElem? (i := 798) (by decide +kernel), List.mem_of_getElem? (i := 799) (by decide +kernel)⟩
theorem lw_p29 : lw_okq (⟨"TreePressModel", "layProperties", "(I)V"⟩, 21) := ⟨⟨by decide +kernel, by decide +kernel⟩, List.mem_of_getElem? (i := 655) (by decide +kernel), List.mem_of_getElem? (i := 802) (by decide +kernel), List.mem_of_getElem? (i := 803) (by decide +kernel)⟩
theorem lw_p30 : lw_okq (⟨"TreePressModel", "nameNumber", "(I)I"⟩, 21) := ⟨⟨by decide +kernel, by decide +kernel⟩, List.mem_of_getElem? (i := 655) (by decide +kernel), List.mem_of_getElem? (i := 806) (by decide +kernel), List.mem_of_getElem? (i := 807) (by decide +kernel)⟩
theorem lw_p31 : lw_okq (⟨"TreePressModel", "sameName", "(II)Z"⟩, 21) := ⟨⟨by decide +kernel, by decide +kernel⟩, List.mem_of_getElem? (i := 655) (by decide +kernel), List.mem_of_getElem? (i := 810) (by decide +kernel), List.mem_of_getElem? (i := 811) (by decide +kernel)⟩
def lw_privs_2 : List (MethodName × Nat) := [(⟨"java/lang/Throwable", "fillInStackTrace", "(I)Ljava/lang/Throwable;"⟩, 6), (⟨"TreePress", "refuseWrongNode", "(I)V"⟩, 5), (⟨"TreePress", "refuseWrongProperty", "(I)V"⟩, 5), (⟨"TreePressModel", "begin", "(I)V"⟩, 21), (⟨"TreePressModel", "depthOf", "(II)I"⟩, 21), (⟨"TreePressModel", "isName", "(I)Z"⟩, 21), (⟨"TreePressModel", "addNode", "(IIII)V"⟩, 21), (⟨"TreePressModel", "keep", "(III)V"⟩, 21), (⟨"TreePressModel", "addProperty", "(IIIIII)V"⟩, 21), (⟨"TreePressModel", "layNodes", "()V"⟩, 21), (⟨"TreePressModel", "number", "(I)V"⟩, 21), (⟨"TreePressModel", "put", "(I)V"⟩, 21), (⟨"TreePressModel", "fillUp", "()V"⟩, 21), (⟨"TreePressModel", "layProperties", "(I)V"⟩, 21), (⟨"TreePressModel", "nameNumber", "(I)I"⟩, 21), (⟨"TreePressModel", "sameName", "(II)Z"⟩, 21)]
theorem lw_r2 : ∀ q ∈ lw_privs_2, lw_okq q := List.forall_mem_cons.mpr ⟨lw_p16, List.forall_mem_cons.mpr ⟨lw_p17, List.forall_mem_cons.mpr ⟨lw_p18, List.forall_mem_cons.mpr ⟨lw_p19, List.forall_mem_cons.mpr ⟨lw_p20, List.forall_mem_cons.mpr ⟨lw_p21, List.forall_mem_cons.mpr ⟨lw_p22, List.forall_mem_cons.mpr ⟨lw_p23, List.forall_mem_cons.mpr ⟨lw_p24, List.forall_mem_cons.mpr ⟨lw_p25, List.forall_mem_cons.mpr ⟨lw_p26, List.forall_mem_cons.mpr ⟨lw_p27, List.forall_mem_cons.mpr ⟨lw_p28, List.forall_mem_cons.mpr ⟨lw_p29, List.forall_mem_cons.mpr ⟨lw_p30, List.forall_mem_cons.mpr ⟨lw_p31, fun _ h => absurd h List.not_mem_nil⟩⟩⟩⟩⟩⟩⟩⟩⟩⟩⟩⟩⟩⟩⟩⟩
theorem lw_p32 : lw_okq (⟨"TreePressModel", "isFirst", "(I)Z"⟩, 21) := ⟨⟨by decide +kernel, by decide +kernel⟩, List.mem_of_getElem? (i := 655) (by decide +kernel), List.mem_of_getElem? (i := 814) (by decide +kernel), List.mem_of_getElem? (i := 815) (by decide +kernel)⟩
theorem lw_p33 : lw_okq (⟨"TreePressModel", "layNames", "()V"⟩, 21) := ⟨⟨by decide +kernel, by decide +kernel⟩, List.mem_of_getElem? (i := 655) (by decide +kernel), List.mem_of_getElem? (i := 818) (by decide +kernel), List.mem_of_getElem? (i := 819) (by decide +kernel)⟩
theorem lw_p34 : lw_okq (⟨"TreePressModel", "head", "(II)V"⟩, 21) := ⟨⟨by decide +kernel, by decide +kernel⟩, List.mem_of_getElem? (i := 655) (by decide +kernel), List.mem_of_getElem? (i := 822) (by decide +kernel), List.mem_of_getElem? (i := 823) (by decide +kernel)⟩
theorem lw_p35 : lw_okq (⟨"TreePressModel", "readsHead", "()Z"⟩, 21) := ⟨⟨by decide +kernel, by decide +kernel⟩, List.mem_of_getElem? (i := 655) (by decide +kernel), List.mem_of_getElem? (i := 835) (by decide +kernel), List.mem_of_getElem? (i := 836) (by decide +kernel)⟩
theorem lw_p36 : lw_okq (⟨"TreePressModel", "fail", "(I)Z"⟩, 21) := ⟨⟨by decide +kernel, by decide +kernel⟩, List.mem_of_getElem? (i := 655) (by decide +kernel), List.mem_of_getElem? (i := 839) (by decide +kernel), List.mem_of_getElem? (i := 840) (by decide +kernel)⟩
theorem lw_p37 : lw_okq (⟨"TreePressModel", "isHead", "(I)Z"⟩, 21) := ⟨⟨by decide +kernel, by decide +kernel⟩, List.mem_of_getElem? (i := 655) (by decide +kernel), List.mem_of_getElem? (i := 843) (by decide +kernel), List.mem_of_getElem? (i := 844) (by decide +kernel)⟩
theorem lw_p38 : lw_okq (⟨"TreePressModel", "numberAt", "(I)J"⟩, 21) := ⟨⟨by decide +kernel, by decide +kernel⟩, List.mem_of_getElem? (i := 655) (by decide +kernel), List.mem_of_getElem? (i := 847) (by decide +kernel), List.mem_of_getElem? (i := 848) (by decide +kernel)⟩
theorem lw_p39 : lw_okq (⟨"TreePressModel", "readsTree", "()Z"⟩, 21) := ⟨⟨by decide +kernel, by decide +kernel⟩, List.mem_of_getElem? (i := 655) (by decide +kernel), List.mem_of_getElem? (i := 859) (by decide +kernel), List.mem_of_getElem? (i := 860) (by decide +kernel)⟩
theorem lw_p40 : lw_okq (⟨"TreePressModel", "next", "()J"⟩, 21) := ⟨⟨by decide +kernel, by decide +kernel⟩, List.mem_of_getElem? (i := 655) (by decide +kernel), List.mem_of_getElem? (i := 863) (by decide +kernel), List.mem_of_getElem? (i := 864) (by decide +kernel)⟩
theorem lw_p41 : lw_okq (⟨"TreePressModel", "readsNode", "(I)Z"⟩, 21) := ⟨⟨by decide +kernel, by decide +kernel⟩, List.mem_of_getElem? (i := 655) (by decide +kernel), List.mem_of_getElem? (i := 868) (by decide +kernel), List.mem_of_getElem? (i := 869) (by decide +kernel)⟩
theorem lw_p42 : lw_okq (⟨"TreePressModel", "readsZeros", "()Z"⟩, 21) := ⟨⟨by decide +kernel, by decide +kernel⟩, List.mem_of_getElem? (i := 655) (by decide +kernel), List.mem_of_getElem? (i := 872) (by decide +kernel), List.mem_of_getElem? (i := 873) (by decide +kernel)⟩
theorem lw_p43 : lw_okq (⟨"TreePressModel", "readsProperty", "(I)Z"⟩, 21) := ⟨⟨by decide +kernel, by decide +kernel⟩, List.mem_of_getElem? (i := 655) (by decide +kernel), List.mem_of_getElem? (i := 878) (by decide +kernel), List.mem_of_getElem? (i := 879) (by decide +kernel)⟩
theorem lw_p44 : lw_okq (⟨"TreePressModel", "nameAt", "(J)I"⟩, 21) := ⟨⟨by decide +kernel, by decide +kernel⟩, List.mem_of_getElem? (i := 655) (by decide +kernel), List.mem_of_getElem? (i := 884) (by decide +kernel), List.mem_of_getElem? (i := 885) (by decide +kernel)⟩
theorem lw_p45 : lw_okq (⟨"TreePressModel", "become", "()V"⟩, 21) := ⟨⟨by decide +kernel, by decide +kernel⟩, List.mem_of_getElem? (i := 655) (by decide +kernel), List.mem_of_getElem? (i := 889) (by decide +kernel), List.mem_of_getElem? (i := 890) (by decide +kernel)⟩
theorem lw_p46 : lw_okq (⟨"TreePressModel", "manyOf", "(I)I"⟩, 21) := ⟨⟨by decide +kernel, by decide +kernel⟩, List.mem_of_getElem? (i := 655) (by decide +kernel), List.mem_of_getElem? (i := 905) (by decide +kernel), List.mem_of_getElem? (i := 906) (by decide +kernel)⟩
theorem lw_p47 : lw_okq (⟨"TreePressModel", "firstOf", "(I)I"⟩, 21) := ⟨⟨by decide +kernel, by decide +kernel⟩, List.mem_of_getElem? (i := 655) (by decide +kernel), List.mem_of_getElem? (i := 909) (by decide +kernel), List.mem_of_getElem? (i := 910) (by decide +kernel)⟩
def lw_privs_3 : List (MethodName × Nat) := [(⟨"TreePressModel", "isFirst", "(I)Z"⟩, 21), (⟨"TreePressModel", "layNames", "()V"⟩, 21), (⟨"TreePressModel", "head", "(II)V"⟩, 21), (⟨"TreePressModel", "readsHead", "()Z"⟩, 21), (⟨"TreePressModel", "fail", "(I)Z"⟩, 21), (⟨"TreePressModel", "isHead", "(I)Z"⟩, 21), (⟨"TreePressModel", "numberAt", "(I)J"⟩, 21), (⟨"TreePressModel", "readsTree", "()Z"⟩, 21), (⟨"TreePressModel", "next", "()J"⟩, 21), (⟨"TreePressModel", "readsNode", "(I)Z"⟩, 21), (⟨"TreePressModel", "readsZeros", "()Z"⟩, 21), (⟨"TreePressModel", "readsProperty", "(I)Z"⟩, 21), (⟨"TreePressModel", "nameAt", "(J)I"⟩, 21), (⟨"TreePressModel", "become", "()V"⟩, 21), (⟨"TreePressModel", "manyOf", "(I)I"⟩, 21), (⟨"TreePressModel", "firstOf", "(I)I"⟩, 21)]
theorem lw_r3 : ∀ q ∈ lw_privs_3, lw_okq q := List.forall_mem_cons.mpr ⟨lw_p32, List.forall_mem_cons.mpr ⟨lw_p33, List.forall_mem_cons.mpr ⟨lw_p34, List.forall_mem_cons.mpr ⟨lw_p35, List.forall_mem_cons.mpr ⟨lw_p36, List.forall_mem_cons.mpr ⟨lw_p37, List.forall_mem_cons.mpr ⟨lw_p38, List.forall_mem_cons.mpr ⟨lw_p39, List.forall_mem_cons.mpr ⟨lw_p40, List.forall_mem_cons.mpr ⟨lw_p41, List.forall_mem_cons.mpr ⟨lw_p42, List.forall_mem_cons.mpr ⟨lw_p43, List.forall_mem_cons.mpr ⟨lw_p44, List.forall_mem_cons.mpr ⟨lw_p45, List.forall_mem_cons.mpr ⟨lw_p46, List.forall_mem_cons.mpr ⟨lw_p47, fun _ h => absurd h List.not_mem_nil⟩⟩⟩⟩⟩⟩⟩⟩⟩⟩⟩⟩⟩⟩⟩⟩
theorem lw_p48 : lw_okq (⟨"TreePressModel", "byteOf", "(ZIII)I"⟩, 21) := ⟨⟨by decide +kernel, by decide +kernel⟩, List.mem_of_getElem? (i := 655) (by decide +kernel), List.mem_of_getElem? (i := 921) (by decide +kernel), List.mem_of_getElem? (i := 922) (by decide +kernel)⟩
theorem lw_p49 : lw_okq (⟨"TreePressModel", "childNamed", "(III)I"⟩, 21) := ⟨⟨by decide +kernel, by decide +kernel⟩, List.mem_of_getElem? (i := 655) (by decide +kernel), List.mem_of_getElem? (i := 937) (by decide +kernel), List.mem_of_getElem? (i := 938) (by decide +kernel)⟩
theorem lw_p50 : lw_okq (⟨"TreePressModel", "isTape", "(IIII)Z"⟩, 21) := ⟨⟨by decide +kernel, by decide +kernel⟩, List.mem_of_getElem? (i := 655) (by decide +kernel), List.mem_of_getElem? (i := 941) (by decide +kernel), List.mem_of_getElem? (i := 942) (by decide +kernel)⟩
def lw_privs_4 : List (MethodName × Nat) := [(⟨"TreePressModel", "byteOf", "(ZIII)I"⟩, 21), (⟨"TreePressModel", "childNamed", "(III)I"⟩, 21), (⟨"TreePressModel", "isTape", "(IIII)Z"⟩, 21)]
theorem lw_r4 : ∀ q ∈ lw_privs_4, lw_okq q := List.forall_mem_cons.mpr ⟨lw_p48, List.forall_mem_cons.mpr ⟨lw_p49, List.forall_mem_cons.mpr ⟨lw_p50, fun _ h => absurd h List.not_mem_nil⟩⟩⟩
def lw_privs : List (MethodName × Nat) := lw_privs_1 ++ (lw_privs_2 ++ (lw_privs_3 ++ (lw_privs_4)))
def lw_tbl : List Cond := k2_sels lw_privs ++ tables_1
theorem lw_privs_ok : ∀ q ∈ lw_privs, lw_okq q := by
  show ∀ q ∈ lw_privs_1 ++ (lw_privs_2 ++ (lw_privs_3 ++ (lw_privs_4))), lw_okq q
  exact List.forall_mem_append.mpr ⟨lw_r1, List.forall_mem_append.mpr ⟨lw_r2, List.forall_mem_append.mpr ⟨lw_r3, lw_r4⟩⟩⟩

/-! the tables' good words, by their places -/
def kb_T : List Cond := lw_tbl.filter goodWord
theorem kb_in {w : Cond} (h : w ∈ lw_tbl) (g : goodWord w = true) : w ∈ kb_T := List.mem_filter.mpr ⟨h, g⟩
theorem kb_good {w : Cond} (h : w ∈ kb_T) : goodWord w = true := (List.mem_filter.mp h).2
theorem kb_tbl {w : Cond} (h : w ∈ tables_1) : w ∈ lw_tbl := List.mem_append_right _ h
theorem kb_l1 {w : Cond} (i : Nat) (h : tables_1_1[i]? = some w) : w ∈ tables_1 := List.mem_append_left _ (List.mem_of_getElem? h)
theorem kb_l2 {w : Cond} (i : Nat) (h : tables_1_2[i]? = some w) : w ∈ tables_1 := List.mem_append_right _ (List.mem_append_left _ (List.mem_of_getElem? h))
theorem kb_l3 {w : Cond} (i : Nat) (h : tables_1_3[i]? = some w) : w ∈ tables_1 := List.mem_append_right _ (List.mem_append_right _ (List.mem_append_left _ (List.mem_of_getElem? h)))
theorem kb_l4 {w : Cond} (i : Nat) (h : tables_1_4[i]? = some w) : w ∈ tables_1 := List.mem_append_right _ (List.mem_append_right _ (List.mem_append_right _ (List.mem_of_getElem? h)))
theorem kb_t1 {w : Cond} (i : Nat) (h : tables_1_1[i]? = some w) (g : goodWord w = true) : w ∈ kb_T := kb_in (kb_tbl (kb_l1 i h)) g
theorem kb_t2 {w : Cond} (i : Nat) (h : tables_1_2[i]? = some w) (g : goodWord w = true) : w ∈ kb_T := kb_in (kb_tbl (kb_l2 i h)) g
theorem kb_t3 {w : Cond} (i : Nat) (h : tables_1_3[i]? = some w) (g : goodWord w = true) : w ∈ kb_T := kb_in (kb_tbl (kb_l3 i h)) g
theorem kb_t4 {w : Cond} (i : Nat) (h : tables_1_4[i]? = some w) (g : goodWord w = true) : w ∈ kb_T := kb_in (kb_tbl (kb_l4 i h)) g
theorem kb_t0 {y : MethodName} {n : Nat} (h : (y, n) ∈ lw_privs) (g : goodWord (.selects y.cls y y) = true) : Cond.selects y.cls y y ∈ kb_T := kb_in (List.mem_append_left _ (List.mem_map.mpr ⟨(y, n), h, rfl⟩)) g
theorem kb_goodIn {ws : List Cond} (h : ∀ w ∈ ws, w ∈ kb_T) : GoodIn kb_T ws := fun w hw => ⟨h w hw, good_of_word (kb_good (h w hw))⟩
/-- a method's words: its code, and all of the tables -/
def kb_W (y : MethodName) (c : ByteArray) (n : Nat) (r : Option FieldType) : List Cond := .code y c n r :: kb_T
theorem kb_gW {y : MethodName} {c : ByteArray} {n : Nat} {r : Option FieldType} (h : Cond.code y c n r ∈ kb_T) : GoodIn kb_T (kb_W y c n r) := kb_goodIn (fun w hw => (List.mem_cons.mp hw).elim (fun e => e ▸ h) id)
theorem kb_gV {own C : String} {idx : Nat} {y : MethodName} {c : ByteArray} {n : Nat} {r : Option FieldType} (h1 : Cond.methodLink own idx y ∈ kb_T) (h2 : Cond.instanceMethod y ∈ kb_T) (h3 : Cond.selects C y y ∈ kb_T) (h4 : Cond.initialized C ∈ kb_T) (h5 : Cond.code y c n r ∈ kb_T) : GoodIn kb_T (wsV own idx C y (kb_W y c n r)) := by
  refine kb_goodIn (fun w hw => ?_)
  rcases List.mem_append.mp hw with h | h
  · simp only [List.mem_cons, List.not_mem_nil, or_false] at h
    rcases h with rfl | rfl | rfl | rfl
    · exact h1
    · exact h2
    · exact h3
    · exact h4
  · exact (kb_gW h5 w h).1
theorem kb_gS {own : String} {idx : Nat} {y : MethodName} {c : ByteArray} {n : Nat} {r : Option FieldType} (h1 : Cond.methodLink own idx y ∈ kb_T) (h2 : Cond.static y ∈ kb_T) (h4 : Cond.initialized own ∈ kb_T) (h5 : Cond.code y c n r ∈ kb_T) : GoodIn kb_T (wsS own idx y (kb_W y c n r)) := by
  refine kb_goodIn (fun w hw => ?_)
  rcases List.mem_append.mp hw with h | h
  · simp only [List.mem_cons, List.not_mem_nil, or_false] at h
    rcases h with rfl | rfl | rfl
    · exact h1
    · exact h2
    · exact h4
  · exact (kb_gW h5 w h).1
end
section
/-! the classes: fields, types, words -/
def kb_F0 : u_T := fun k => match k with
  | 0 => ("TreePress$Reader", "at", "I", false)
  | 1 => ("TreePress$Reader", "end", "I", false)
  | 2 => ("TreePress$Reader", "depth", "I", false)
  | _ => ("TreePress$Reader", "begun", "Z", false)
def kb_y0 : Nat → FieldType := fun k => match k with
  | 0 => .int
  | 1 => .int
  | 2 => .int
  | _ => .boolean
theorem kb_n0 : ∀ a, a < 4 → ∀ b, b < 4 → a ≠ b → (kb_F0 a).2.1 ≠ (kb_F0 b).2.1 := by decide +kernel
theorem kb_p0 : ∀ k, k < 4 → parseFieldDescriptor (kb_F0 k).2.2.1 = some (kb_y0 k) := by decide +kernel
theorem kb_w0 : ∀ w ∈ u_ws "TreePress$Reader" kb_F0 4, w ∈ kb_T := fun w h => kb_in ((by decide +kernel : ∀ w ∈ u_ws "TreePress$Reader" kb_F0 4, w ∈ lw_tbl) w h) (List.all_eq_true.mp (by decide +kernel : (u_ws "TreePress$Reader" kb_F0 4).all goodWord = true) w h)
def kb_F1 : u_T := fun k => match k with
  | 0 => ("TreePress$Row", "cells", "[I", false)
  | _ => ("TreePress$Row", "length", "I", false)
def kb_y1 : Nat → FieldType := fun k => match k with
  | 0 => .array .int
  | _ => .int
theorem kb_n1 : ∀ a, a < 2 → ∀ b, b < 2 → a ≠ b → (kb_F1 a).2.1 ≠ (kb_F1 b).2.1 := by decide +kernel
theorem kb_p1 : ∀ k, k < 2 → parseFieldDescriptor (kb_F1 k).2.2.1 = some (kb_y1 k) := by decide +kernel
theorem kb_w1 : ∀ w ∈ u_ws "TreePress$Row" kb_F1 2, w ∈ kb_T := fun w h => kb_in ((by decide +kernel : ∀ w ∈ u_ws "TreePress$Row" kb_F1 2, w ∈ lw_tbl) w h) (List.all_eq_true.mp (by decide +kernel : (u_ws "TreePress$Row" kb_F1 2).all goodWord = true) w h)
def kb_F2 : u_T := fun k => match k with
  | 0 => ("TreePress$Tree", "text", "LTreePress$Row;", true)
  | 1 => ("TreePress$Tree", "nodeParents", "LTreePress$Row;", true)
  | 2 => ("TreePress$Tree", "nodeDepths", "LTreePress$Row;", true)
  | 3 => ("TreePress$Tree", "nodeNameStarts", "LTreePress$Row;", true)
  | 4 => ("TreePress$Tree", "nodeNameLengths", "LTreePress$Row;", true)
  | 5 => ("TreePress$Tree", "nodeFirstProperties", "LTreePress$Row;", true)
  | 6 => ("TreePress$Tree", "nodePropertyCounts", "LTreePress$Row;", true)
  | 7 => ("TreePress$Tree", "owners", "LTreePress$Row;", true)
  | 8 => ("TreePress$Tree", "nameStarts", "LTreePress$Row;", true)
  | 9 => ("TreePress$Tree", "nameLengths", "LTreePress$Row;", true)
  | 10 => ("TreePress$Tree", "valueLengths", "LTreePress$Row;", true)
  | 11 => ("TreePress$Tree", "nameOffsets", "LTreePress$Row;", true)
  | 12 => ("TreePress$Tree", "laidNamesLength", "I", false)
  | _ => ("TreePress$Tree", "place", "I", false)
def kb_y2 : Nat → FieldType := fun k => match k with
  | 0 => .object "TreePress$Row"
  | 1 => .object "TreePress$Row"
  | 2 => .object "TreePress$Row"
  | 3 => .object "TreePress$Row"
  | 4 => .object "TreePress$Row"
  | 5 => .object "TreePress$Row"
  | 6 => .object "TreePress$Row"
  | 7 => .object "TreePress$Row"
  | 8 => .object "TreePress$Row"
  | 9 => .object "TreePress$Row"
  | 10 => .object "TreePress$Row"
  | 11 => .object "TreePress$Row"
  | 12 => .int
  | _ => .int
theorem kb_n2 : ∀ a, a < 14 → ∀ b, b < 14 → a ≠ b → (kb_F2 a).2.1 ≠ (kb_F2 b).2.1 := by decide +kernel
theorem kb_p2 : ∀ k, k < 14 → parseFieldDescriptor (kb_F2 k).2.2.1 = some (kb_y2 k) := by decide +kernel
theorem kb_w2 : ∀ w ∈ u_ws "TreePress$Tree" kb_F2 14, w ∈ kb_T := fun w h => kb_in ((by decide +kernel : ∀ w ∈ u_ws "TreePress$Tree" kb_F2 14, w ∈ lw_tbl) w h) (List.all_eq_true.mp (by decide +kernel : (u_ws "TreePress$Tree" kb_F2 14).all goodWord = true) w h)
def kb_F3 : u_T := fun k => match k with
  | 0 => ("TreePress", "tape", "LTreePress$Row;", true)
  | 1 => ("TreePress", "laidDown", "LTreePress$Row;", true)
  | 2 => ("TreePress", "reader", "LTreePress$Reader;", true)
  | 3 => ("TreePress", "tree", "LTreePress$Tree;", false)
  | _ => ("TreePress", "spare", "LTreePress$Tree;", false)
def kb_y3 : Nat → FieldType := fun k => match k with
  | 0 => .object "TreePress$Row"
  | 1 => .object "TreePress$Row"
  | 2 => .object "TreePress$Reader"
  | 3 => .object "TreePress$Tree"
  | _ => .object "TreePress$Tree"
theorem kb_n3 : ∀ a, a < 5 → ∀ b, b < 5 → a ≠ b → (kb_F3 a).2.1 ≠ (kb_F3 b).2.1 := by decide +kernel
theorem kb_p3 : ∀ k, k < 5 → parseFieldDescriptor (kb_F3 k).2.2.1 = some (kb_y3 k) := by decide +kernel
theorem kb_w3 : ∀ w ∈ u_ws "TreePress" kb_F3 5, w ∈ kb_T := fun w h => kb_in ((by decide +kernel : ∀ w ∈ u_ws "TreePress" kb_F3 5, w ∈ lw_tbl) w h) (List.all_eq_true.mp (by decide +kernel : (u_ws "TreePress" kb_F3 5).all goodWord = true) w h)
def kb_F4 : u_T := fun k => match k with
  | 0 => ("TreePressModel", "thrown", "I", false)
  | 1 => ("TreePressModel", "tape", "[I", true)
  | 2 => ("TreePressModel", "taped", "I", false)
  | 3 => ("TreePressModel", "out", "[I", true)
  | 4 => ("TreePressModel", "many", "I", false)
  | 5 => ("TreePressModel", "nodes", "[I", true)
  | 6 => ("TreePressModel", "properties", "[I", true)
  | 7 => ("TreePressModel", "used", "[I", true)
  | 8 => ("TreePressModel", "inside", "[I", true)
  | 9 => ("TreePressModel", "nodeFrom", "[I", true)
  | 10 => ("TreePressModel", "nodeTo", "[I", true)
  | 11 => ("TreePressModel", "owner", "[I", true)
  | 12 => ("TreePressModel", "nameFrom", "[I", true)
  | 13 => ("TreePressModel", "valueFrom", "[I", true)
  | 14 => ("TreePressModel", "valueTo", "[I", true)
  | 15 => ("TreePressModel", "bytes", "[I", true)
  | 16 => ("TreePressModel", "place", "I", false)
  | 17 => ("TreePressModel", "at", "I", false)
  | 18 => ("TreePressModel", "edge", "I", false)
  | 19 => ("TreePressModel", "fails", "I", false)
  | _ => ("TreePressModel", "namesAt", "I", false)
def kb_y4 : Nat → FieldType := fun k => match k with
  | 0 => .int
  | 1 => .array .int
  | 2 => .int
  | 3 => .array .int
  | 4 => .int
  | 5 => .array .int
  | 6 => .array .int
  | 7 => .array .int
  | 8 => .array .int
  | 9 => .array .int
  | 10 => .array .int
  | 11 => .array .int
  | 12 => .array .int
  | 13 => .array .int
  | 14 => .array .int
  | 15 => .array .int
  | 16 => .int
  | 17 => .int
  | 18 => .int
  | 19 => .int
  | _ => .int
theorem kb_n4 : ∀ a, a < 21 → ∀ b, b < 21 → a ≠ b → (kb_F4 a).2.1 ≠ (kb_F4 b).2.1 := by decide +kernel
theorem kb_p4 : ∀ k, k < 21 → parseFieldDescriptor (kb_F4 k).2.2.1 = some (kb_y4 k) := by decide +kernel
theorem kb_w4 : ∀ w ∈ u_ws "TreePressModel" kb_F4 21, w ∈ kb_T := fun w h => kb_in ((by decide +kernel : ∀ w ∈ u_ws "TreePressModel" kb_F4 21, w ∈ lw_tbl) w h) (List.all_eq_true.mp (by decide +kernel : (u_ws "TreePressModel" kb_F4 21).all goodWord = true) w h)
abbrev kb_cl : List vw_C := [("TreePress$Reader", kb_F0, 4), ("TreePress$Row", kb_F1, 2), ("TreePress$Tree", kb_F2, 14), ("TreePress", kb_F3, 5), ("TreePressModel", kb_F4, 21)]
/-! what is known of the tables at a state: the classes, the arrays' classes -/
abbrev kb_G : Type := va_G × ClassId × ClassId
abbrev kb_tys (G : kb_G) : List (ClassId × FieldType) := [(G.2.1, .int), (G.2.2, .long)]
abbrev kb_o (a ci : Nat) (fs : List Value) : Nat × va_E := (a, .inr (ci, fs))
abbrev kb_a (G : kb_G) (a N : Nat) (f : Nat → Int32) : Nat × va_E := (a, .inl (G.2.1, N, .inl f))
abbrev kb_j (G : kb_G) (a N : Nat) (f : Nat → Int64) : Nat × va_E := (a, .inl (G.2.2, N, .inr (.inl f)))
abbrev kb_rm (k mc ms : Nat) : Room := { frames := k, cells := mc, slots := ms, locals := 32 * k }
/-- what a contract leaves open behind a call: addresses, contents -/
abbrev kb_S : Type := (Nat → Nat) × (Nat → Nat → Int32)
abbrev kb_l (xs : List Nat) : Nat → Nat := fun i => xs.getD i 0
abbrev kb_f (fs : List (Nat → Int32)) : Nat → Nat → Int32 := fun i => fs.getD i (fun _ => 0)
end
section
/-! two statics of Throwable that every constructor of one reads: where they lie, what they hold -/
def kb_Zf (n d : String) (A : Nat → Prop) (U : State) (H : Heap) : Prop := ∃ (c : ClassId) (k : Class) (i : Nat) (f : Field) (a : Nat) (cell : Cell) (v : Value), U.vm.findClass Bundle.tN = some c ∧ U.fieldFound? Bundle.tN n d = some (c, k, i, f) ∧ f.isStatic = true ∧ k.statics = some a ∧ H[a]? = some cell ∧ cell.vm.isStatics = true ∧ cell.cls = c ∧ f.slot < cell.slots.size ∧ k.staticTypes[f.slot]? = some f.type ∧ ¬ A a ∧ cell.slots[f.slot]? = some v ∧ v.isRef = true
theorem kb_Zf.moved {n d : String} {A : Nat → Prop} {u U : State} {H : Heap} (hvm : u.vm.Alike U.vm) (h : kb_Zf n d A u H) : kb_Zf n d A U H := by
  obtain ⟨c, k, i, f, a, cell, v, h1, h2, h3, h4, h5, h6, h7, h8, h9, h10⟩ := h
  obtain ⟨k', hi', he⟩ := State.fieldFound?_setVm hvm h2
  exact ⟨c, k', i, f, a, cell, v, by rw [hvm.findClass]; exact h1, hi', h3, by rw [he]; exact h4, h5, h6, h7, h8, by rw [he]; exact h9, h10⟩
theorem kb_Zf.kept {n d : String} {A B : Nat → Prop} {U : State} {H H1 : Heap} (h : kb_Zf n d A U H) (hq : ∀ a : Nat, a < H.size → ¬ A a → H1[a]? = H[a]?) (hB : ∀ q, B q → A q) : kb_Zf n d B U H1 := by
  obtain ⟨c, k, i, f, a, cell, v, h1, h2, h3, h4, h5, h6, h7, h8, h9, h10, h11⟩ := h
  exact ⟨c, k, i, f, a, cell, v, h1, h2, h3, h4, by rw [hq a (Array.getElem?_eq_some_iff.mp h5).1 h10]; exact h5, h6, h7, h8, h9, fun z => h10 (hB _ z), h11⟩
theorem kb_Zf.lays {n d : String} {A : Nat → Prop} {s : State} {args : Array Value} (h : kb_Zf n d A s s.heap) : (Cond.laysStatic Bundle.tN n d).before args s = true := by
  obtain ⟨c, k, i, f, a, cell, v, h1, h2, h3, h4, h5, h6, h7, h8, h9, -⟩ := h
  show (Cond.laysStatic Bundle.tN n d).holds args s none s [] = true
  exact Cond.laysStatic_of h1 h2 h3 h4 h5 h6 h7 h8 h9
theorem kb_Zf.isRef {n d : String} {A : Nat → Prop} {s : State} {args : Array Value} (h : kb_Zf n d A s s.heap) : (Cond.isRef (.static Bundle.tN n d)).before args s = true := by
  obtain ⟨c, k, i, f, a, cell, v, h1, h2, h3, h4, h5, h6, h7, h8, h9, -, h10, h11⟩ := h
  have he : (Term.static Bundle.tN n d).eval args s none [] s = some v := by
    simp [Term.eval, State.fieldNamed?, h2, h3, h4, h5, h6, h10]
  simp only [Cond.before, Cond.holds, Cond.value, he]
  cases v <;> simp_all [Value.isRef]
theorem kb_Zf.of {n d : String} {A : Nat → Prop} {s : State} {args : Array Value} (hl : (Cond.laysStatic Bundle.tN n d).before args s = true) (hr : (Cond.isRef (.static Bundle.tN n d)).before args s = true) (hA : ∀ a : Nat, a < s.heap.size → ¬ A a) : kb_Zf n d A s s.heap := by
  obtain ⟨c, k, i, f, a, cell, h1, h2, h3, h4, h5, h6, h7, h8, h9⟩ := Cond.laysStatic_spec hl
  obtain ⟨v, hv⟩ : ∃ v, cell.slots[f.slot]? = some v := ⟨_, Array.getElem?_eq_getElem h8⟩
  have he : (Term.static Bundle.tN n d).eval args s none [] s = some v := by
    simp [Term.eval, State.fieldNamed?, h2, h3, h4, h5, h6, hv]
  refine ⟨c, k, i, f, a, cell, v, h1, h2, h3, h4, h5, h6, h7, h8, h9, hA a (Array.getElem?_eq_some_iff.mp h5).1, hv, ?_⟩
  simp only [Cond.before, Cond.holds, Cond.value, he] at hr
  cases v <;> simp_all [Value.isRef]
def kb_Z (A : Nat → Prop) (U : State) (H : Heap) : Prop := kb_Zf "UNASSIGNED_STACK" Bundle.steD A U H ∧ kb_Zf "SUPPRESSED_SENTINEL" Bundle.listD A U H
theorem kb_Z.moved {A : Nat → Prop} {u U : State} {H : Heap} (hvm : u.vm.Alike U.vm) (h : kb_Z A u H) : kb_Z A U H := ⟨h.1.moved hvm, h.2.moved hvm⟩
theorem kb_Z.kept {A B : Nat → Prop} {U : State} {H H1 : Heap} (h : kb_Z A U H) (hq : ∀ a : Nat, a < H.size → ¬ A a → H1[a]? = H[a]?) (hB : ∀ q, B q → A q) : kb_Z B U H1 := ⟨h.1.kept hq hB, h.2.kept hq hB⟩
/-! words that aren't good ones: links across the nest, casts, String constants -/
def kb_cast : List (String × String) := [("java/lang/IllegalArgumentException", "java/lang/IllegalArgumentException"), ("java/lang/IndexOutOfBoundsException", "java/lang/IndexOutOfBoundsException")]
def kb_strs : List (Nat × String) := [(43, "the tape would have too many bytes"), (54, "the tape has no such place"), (67, "the tape is no name"), (76, "the tree would be too big"), (82, "these bytes are no name"), (87, "the place has nodes"), (99, "the place is the first node"), (110, "no such byte was laid down"), (152, "nothing of a node has that number"), (166, "nothing of a property has that number"), (189, "there is no such node"), (191, "there is no such property"), (193, "there is no such byte")]
def kb_N (U : State) : Prop := (va_Nw (.methodLinkNest "TreePress" 21 ⟨"TreePress$Reader", "<init>", "()V"⟩ "TreePress") U ∧ va_Nw (.methodLinkNest "TreePress$Tree" 148 ⟨"TreePress", "filledUp", "(I)I"⟩ "TreePress") U) ∧ (∀ q ∈ kb_cast, va_Nw (.castable q.1 q.2) U) ∧ (∀ q ∈ kb_strs, ∃ a, vk_R "TreePress" q.1 q.2 a U) ∧ va_Nc "java/lang/IllegalArgumentException" "java/lang/IndexOutOfBoundsException" U
theorem kb_N.moved {s U : State} (hW : s.WarmedH U.vm) (h : kb_N s) : kb_N U :=
  ⟨⟨va_Nw.warmM hW h.1.1, va_Nw.warmM hW h.1.2⟩, fun q hq => va_Nw.warmC hW (h.2.1 q hq), fun q hq => (h.2.2.1 q hq).imp fun a ha => vk_R.warm hW ha, va_Nc.moved hW.alike h.2.2.2⟩
/-! a method's start -/
def kb_Pre (G : kb_G) (wi : va_W) (sz : Nat) (U : State) : Prop := U.heap.size = sz ∧ va_P G.1 kb_cl wi U.heap ∧ va_K G.1 kb_cl (kb_tys G) U ∧ va_D (fun _ => True) wi ∧ kb_Z (va_A wi sz) U U.heap ∧ kb_N U
/-- what stays true while a method runs -/
def kb_E (G : kb_G) (A : Nat → Prop) (s : State) : Prop := va_K G.1 kb_cl (kb_tys G) s ∧ kb_Z A s s.heap ∧ kb_N s ∧ ∀ q, s.heap.size ≤ q → A q
theorem kb_blind {G : kb_G} {av : List Value} {wi : va_W} {sz : Nat} : FrameBlind (va_Pc av (kb_Pre G wi sz)) := by
  intro a U g mk q
  obtain ⟨q0, q1, qP, qK, qD, qZ, qN⟩ := q
  refine ⟨q0, q1, qP, va_K.moved (u := U) (U := U.calling g mk a) (Vm.Alike.refl U.vm) qK, qD, ?_, ?_⟩
  · exact kb_Z.moved (u := U) (U := U.calling g mk a) (Vm.Alike.refl U.vm) qZ
  · exact kb_N.moved (s := U) (U := U.calling g mk a) (State.WarmedH.refl U) qN
theorem kb_start {G : kb_G} {A : Nat → Prop} {s : State} {H : Heap} {locs : List Loc} {wc : va_W} (hE : kb_E G A s) (hS : va_S A s.heap H locs) (hPc : va_P G.1 kb_cl wc H) (hDc : va_D A wc) (hF : ∀ q, va_A wc H.size q → A q) : ∀ U : State, U.heap = H → s.WarmedH U.vm → kb_Pre G wc H.size U := by
  intro U hU hW
  refine ⟨by rw [hU], by rw [hU]; exact hPc, va_K.moved hW.alike hE.1, hDc.weaken (fun _ _ _ _ => trivial), ?_, kb_N.moved hW hE.2.2.1⟩
  rw [hU]
  exact (hE.2.1.kept hS.2.1 hF).moved hW.alike
/-- ends -/
def kb_Qi (G : kb_G) (A : Nat → Prop) (post : Int32 → kb_S → Prop) (wo : kb_S → va_W) : Array Value → State → Outcome → State → Prop := va_Qi post (fun u t => va_P G.1 kb_cl (wo u) t.heap ∧ va_K G.1 kb_cl (kb_tys G) t ∧ va_D A (wo u)) A
def kb_Qv (G : kb_G) (A : Nat → Prop) (post : kb_S → Prop) (wo : kb_S → va_W) : Array Value → State → Outcome → State → Prop := va_Qv post (fun u t => va_P G.1 kb_cl (wo u) t.heap ∧ va_K G.1 kb_cl (kb_tys G) t ∧ va_D A (wo u)) A
def kb_Qr (G : kb_G) (A : Nat → Prop) (post : kb_S → Prop) (wo : kb_S → va_W) : Array Value → State → Outcome → State → Prop := va_Qr post (fun u a t => a = u.1 0 ∧ va_P G.1 kb_cl (wo u) t.heap ∧ va_K G.1 kb_cl (kb_tys G) t ∧ va_D A (wo u)) A
/-- contracts: an int comes back, nothing, a reference (the address u.1 0) -/
def kb_ci (l : Launch) (G : kb_G) (y : MethodName) (c : ByteArray) (n : Nat) (r : Option FieldType) (k mc ms : Nat) (av : List Value) (wi : va_W) (post : Int32 → kb_S → Prop) (wo : kb_S → va_W) : Prop :=
  ∀ sz, Met l y (kb_W y c n r) (kb_rm k mc ms) (va_Pc av (kb_Pre G wi sz)) (kb_Qi G (va_A wi sz) post wo) mc ms (va_A wi sz)
def kb_cv (l : Launch) (G : kb_G) (y : MethodName) (c : ByteArray) (n : Nat) (k mc ms : Nat) (av : List Value) (wi : va_W) (post : kb_S → Prop) (wo : kb_S → va_W) : Prop :=
  ∀ sz, Met l y (kb_W y c n none) (kb_rm k mc ms) (va_Pc av (kb_Pre G wi sz)) (kb_Qv G (va_A wi sz) post wo) mc ms (va_A wi sz)
def kb_cr (l : Launch) (G : kb_G) (y : MethodName) (c : ByteArray) (n : Nat) (r : Option FieldType) (k mc ms : Nat) (av : List Value) (wi : va_W) (post : kb_S → Prop) (wo : kb_S → va_W) : Prop :=
  ∀ sz, Met l y (kb_W y c n r) (kb_rm k mc ms) (va_Pc av (kb_Pre G wi sz)) (kb_Qr G (va_A wi sz) post wo) mc ms (va_A wi sz)
/-- what a body knows at its entry -/
def kb_B (G : kb_G) (y : MethodName) (bytes : ByteArray) (maxL : Nat) (ret : Option FieldType) (av : List Value) (wi : va_W) (p : Program) (s : State) (m : MethodId) (meth : Method) (c : Code) (A : Nat → Prop) : Prop :=
  p.tables.exec = Jvm.exec ∧ c.code = bytes ∧ meth.sig.returnType = ret ∧ c.maxLocals = maxL ∧ meth.locks = false ∧ meth.name = y.name ∧ s.vm.findClass y.cls = some m.cls ∧ (∀ w ∈ kb_T, w.before av.toArray s = true) ∧ kb_E G A s ∧ va_P G.1 kb_cl wi s.heap ∧ va_D A wi ∧ va_S A s.heap s.heap []
theorem kb_body {l : Launch} {G : kb_G} {y : MethodName} {bytes : ByteArray} {maxL : Nat} {ret : Option FieldType} {k mc ms : Nat} {av : List Value} {wi : va_W} {sz : Nat} {QQ : (Nat → Prop) → Array Value → State → Outcome → State → Prop} (hy : plainName y.cls = true) (hav : (lg_sl av).length ≤ maxL)
    (body : ∀ p e s m below meth c A, kb_B G y bytes maxL ret av wi p s m meth c A → ∀ ls, lv_has ls maxL (lv_args 0 av) → W p l e (kb_rm k mc ms) s m av.toArray below meth c s.heap [] 0 0 (MQ below (QQ A) av.toArray s mc ms A) (F0 m 0 ls [])) :
    Met l y (kb_W y bytes maxL ret) (kb_rm k mc ms) (va_Pc av (kb_Pre G wi sz)) (QQ (va_A wi sz)) mc ms (va_A wi sz) := by
  refine Met.ofW (cc := bytes) (maxL := maxL) (ret := ret) hy rfl ?_
  intro p e s m args below meth c s₁ B hml hv
  obtain ⟨rfl, hsz, hP, hK, hD0, hZ, hN⟩ := hv
  subst hsz
  have hts := atoms_spec (ws := kb_W y bytes maxL ret) B.pre
  have h := body p e s m below meth c (va_A wi s.heap.size) ⟨B.exec, B.bytes, B.returns, hml, B.notSynchronized, (name_of_methodNamed B.named B.method).1, findClass_of_methodNamed B.named, fun w hw => hts w (List.mem_cons_of_mem _ hw), ⟨hK, hZ, hN, fun q hq => Or.inr hq⟩, hP, hD0.self, va_S.rf⟩
  rw [lg_entry_eq]
  exact h _ (lv_entry av (n := maxL) hav)
section KB
variable {p : Program} {l : Launch} {e : Env} {R : Room} {s : State} {m : MethodId} {args : Array Value} {below : List Frame} {meth : Method} {c : Code} {H : Heap} {locs : List Loc} {cells slots : Nat} {Q : State → Prop}
variable {G : kb_G} {A : Nat → Prop} {ws wc wr : va_W} {cc : ByteArray} {pc nL : Nat} {ls : Array Slot} {rest st0 : List Value}
theorem kb_top {x y : Int32} (h : x = y) (k : W p l e R s m args below meth c H locs cells slots Q (F0 m pc ls (.int y :: rest))) : W p l e R s m args below meth c H locs cells slots Q (F0 m pc ls (.int x :: rest)) := h ▸ k
theorem kb_reti {v : Int32} {post : Int32 → kb_S → Prop} {wo : kb_S → va_W} {mc ms : Nat} (u : kb_S) (hx : p.tables.exec = Jvm.exec) (hb : c.code = cc) (hr : meth.sig.returnType = some .int) (hlocks : meth.locks = false) (hE : kb_E G A s) (hP : va_P G.1 kb_cl ws H) (hD : va_D A ws) (hS : va_S A s.heap H locs) (is : List Nat) (h1 : is.filterMap (fun i => ws[i]?) = wo u) (h2 : va_nd is = true) (h3 : is.map (fun i => ws[i]?) = (wo u).map some) (hp : post v u) (hc : cells ≤ mc) (hs : slots ≤ ms)
    (hdg : decode cc pc = .ok (.ireturn, 1)) : W p l e R s m args below meth c H locs cells slots (MQ below (kb_Qi G A post wo) args s mc ms A) (F0 m pc ls [.int v]) := by
  refine W.widen (k := mc) (n := ms) hc hs ?_
  exact W.iret hx hb hr (fun t ht hW => ⟨⟨v, u, rfl, hp, by rw [ht]; exact hP.sub is h1, va_K.moved hW.alike hE.1, hD.sub is h2 h3⟩, hS.F ht⟩) hS.2.2 hdg hlocks
theorem kb_retz {v : Int32} {post : Int32 → kb_S → Prop} {wo : kb_S → va_W} {mc ms : Nat} (u : kb_S) (hx : p.tables.exec = Jvm.exec) (hb : c.code = cc) (hr : meth.sig.returnType = some .boolean) (hn : narrow .boolean (.int v) = .int v) (hlocks : meth.locks = false) (hE : kb_E G A s) (hP : va_P G.1 kb_cl ws H) (hD : va_D A ws) (hS : va_S A s.heap H locs) (is : List Nat) (h1 : is.filterMap (fun i => ws[i]?) = wo u) (h2 : va_nd is = true) (h3 : is.map (fun i => ws[i]?) = (wo u).map some) (hp : post v u) (hc : cells ≤ mc) (hs : slots ≤ ms)
    (hdg : decode cc pc = .ok (.ireturn, 1)) : W p l e R s m args below meth c H locs cells slots (MQ below (kb_Qi G A post wo) args s mc ms A) (F0 m pc ls [.int v]) := by
  refine W.widen (k := mc) (n := ms) hc hs ?_
  exact W.zret hx hb hr hn (fun t ht hW => ⟨⟨v, u, rfl, hp, by rw [ht]; exact hP.sub is h1, va_K.moved hW.alike hE.1, hD.sub is h2 h3⟩, hS.F ht⟩) hS.2.2 hdg hlocks
theorem kb_retv {post : kb_S → Prop} {wo : kb_S → va_W} {mc ms : Nat} (u : kb_S) (hx : p.tables.exec = Jvm.exec) (hb : c.code = cc) (hr : meth.sig.returnType = none) (hlocks : meth.locks = false) (hE : kb_E G A s) (hP : va_P G.1 kb_cl ws H) (hD : va_D A ws) (hS : va_S A s.heap H locs) (is : List Nat) (h1 : is.filterMap (fun i => ws[i]?) = wo u) (h2 : va_nd is = true) (h3 : is.map (fun i => ws[i]?) = (wo u).map some) (hp : post u) (hc : cells ≤ mc) (hs : slots ≤ ms)
    (hdg : decode cc pc = .ok (.return_, 1)) : W p l e R s m args below meth c H locs cells slots (MQ below (kb_Qv G A post wo) args s mc ms A) (F0 m pc ls []) := by
  refine W.widen (k := mc) (n := ms) hc hs ?_
  exact W.vret hx hb hr (fun t ht hW => ⟨⟨u, rfl, hp, by rw [ht]; exact hP.sub is h1, va_K.moved hW.alike hE.1, hD.sub is h2 h3⟩, hS.F ht⟩) hS.2.2 hdg hlocks
theorem kb_reta {a : Nat} {rt : FieldType} {post : kb_S → Prop} {wo : kb_S → va_W} {mc ms : Nat} (u : kb_S) (ha : a = u.1 0) (hx : p.tables.exec = Jvm.exec) (hb : c.code = cc) (hr : meth.sig.returnType = some (.array rt)) (hlocks : meth.locks = false) (hE : kb_E G A s) (hP : va_P G.1 kb_cl ws H) (hD : va_D A ws) (hS : va_S A s.heap H locs) (is : List Nat) (h1 : is.filterMap (fun i => ws[i]?) = wo u) (h2 : va_nd is = true) (h3 : is.map (fun i => ws[i]?) = (wo u).map some) (hp : post u) (hc : cells ≤ mc) (hs : slots ≤ ms)
    (hdg : decode cc pc = .ok (.areturn, 1)) : W p l e R s m args below meth c H locs cells slots (MQ below (kb_Qr G A post wo) args s mc ms A) (F0 m pc ls [.ref a]) := by
  refine W.widen (k := mc) (n := ms) hc hs ?_
  exact W.aret hx hb hr (Or.inr ⟨_, rfl⟩) (Or.inr ⟨_, rfl⟩) (fun t ht hW => ⟨⟨u, a, rfl, hp, ha, by rw [ht]; exact hP.sub is h1, va_K.moved hW.alike hE.1, hD.sub is h2 h3⟩, hS.F ht⟩) hS.2.2 hdg hlocks
/-- a new array of ints or longs -/
theorem kb_newi (hx : p.tables.exec = Jvm.exec) (hb : c.code = cc) (harr : (Cond.arrayClass .int).before args s = true) (hE : kb_E G A s) (hP : va_P G.1 kb_cl ws H) (hD : va_D A ws) (hS : va_S A s.heap H locs) {n : Int32} {N : Nat} (hn : ¬ n < 0) (hN : n.toNatClampNeg = N) (hbytes : N * 4 ≤ 536870912) (hcells : cells + 1 ≤ R.cells) (hslots : slots + N ≤ R.slots) (hdg : decode cc pc = .ok (.newarray .int, 2))
    (kk : ∀ (q : Nat) (H1 : Heap), va_P G.1 kb_cl (ws ++ [kb_a G q N (fun _ => 0)]) H1 → va_D A (ws ++ [kb_a G q N (fun _ => 0)]) → va_S A s.heap H1 locs → W p l e R s m args below meth c H1 locs (cells + 1) (slots + N) Q (F0 m (pc + 2) ls (.ref q :: rest))) : W p l e R s m args below meth c H locs cells slots Q (F0 m pc ls (.int n :: rest)) := by
  refine va_newa (atype := .int) (ty := .int) (a0 := (N, .inl (fun _ => 0))) hx hb harr rfl hE.1 hP hD hS hE.2.2.2 (fun cA => rfl) hn hN hbytes hcells hslots hdg (fun q cA H1 hK1 hP1 hD1 hS1 => ?_)
  have h1 : va_RA s cA .int := (hK1.2 2 (cA, .int) rfl).2
  have h2 : va_RA s G.2.1 .int := (hE.1.2 0 (G.2.1, .int) rfl).2
  have h3 : cA = G.2.1 := Option.some.inj (Eq.trans (Eq.symm (show s.vm.findClass ("[" ++ FieldType.int.toString) = some cA from h1)) h2)
  subst h3
  exact kk q H1 hP1 hD1 hS1
theorem kb_newj (hx : p.tables.exec = Jvm.exec) (hb : c.code = cc) (harr : (Cond.arrayClass .long).before args s = true) (hE : kb_E G A s) (hP : va_P G.1 kb_cl ws H) (hD : va_D A ws) (hS : va_S A s.heap H locs) {n : Int32} {N : Nat} (hn : ¬ n < 0) (hN : n.toNatClampNeg = N) (hbytes : N * 8 ≤ 536870912) (hcells : cells + 1 ≤ R.cells) (hslots : slots + N ≤ R.slots) (hdg : decode cc pc = .ok (.newarray .long, 2))
    (kk : ∀ (q : Nat) (H1 : Heap), va_P G.1 kb_cl (ws ++ [kb_j G q N (fun _ => 0)]) H1 → va_D A (ws ++ [kb_j G q N (fun _ => 0)]) → va_S A s.heap H1 locs → W p l e R s m args below meth c H1 locs (cells + 1) (slots + N) Q (F0 m (pc + 2) ls (.ref q :: rest))) : W p l e R s m args below meth c H locs cells slots Q (F0 m pc ls (.int n :: rest)) := by
  refine va_newa (atype := .long) (ty := .long) (a0 := (N, .inr (.inl (fun _ => 0)))) hx hb harr rfl hE.1 hP hD hS hE.2.2.2 (fun cA => rfl) hn hN hbytes hcells hslots hdg (fun q cA H1 hK1 hP1 hD1 hS1 => ?_)
  have h1 : va_RA s cA .long := (hK1.2 2 (cA, .long) rfl).2
  have h2 : va_RA s G.2.2 .long := (hE.1.2 1 (G.2.2, .long) rfl).2
  have h3 : cA = G.2.2 := Option.some.inj (Eq.trans (Eq.symm (show s.vm.findClass ("[" ++ FieldType.long.toString) = some cA from h1)) h2)
  subst h3
  exact kk q H1 hP1 hD1 hS1
end KB
end
