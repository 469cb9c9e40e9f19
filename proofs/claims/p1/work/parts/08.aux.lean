section KA
variable {p : Program} {l : Launch} {e : Env} {R : Room} {s : State} {m : MethodId} {args : Array Value} {below : List Frame} {meth : Method} {c : Code} {H : Heap} {locs : List Loc} {cells slots : Nat} {Q : State → Prop} {pc : Nat} {ls : Array Slot} {rest : List Value} {g : JFrame}
theorem kb_at (h : H = s.heap) (k : W p l e R s m args below meth c H locs cells slots Q g) : W p l e R s m args below meth c s.heap locs cells slots Q g := h ▸ k
theorem kb_topl {x y : Int64} (h : x = y) (k : W p l e R s m args below meth c H locs cells slots Q (F0 m pc ls (.long y :: rest))) : W p l e R s m args below meth c H locs cells slots Q (F0 m pc ls (.long x :: rest)) := h ▸ k
end KA
theorem kb_tab1 {t : List ExceptionTableEntry} {a b c d : Nat} (h : t.map (fun h => (h.startPc, h.endPc, h.handlerPc, h.catchType)) = [(a, b, c, d)]) : ∃ z0 : ExceptionTableEntry, t = [z0] ∧ z0 = ⟨a, b, c, d⟩ := by
  match t, h with
  | [⟨_, _, _, _⟩], h =>
    simp only [List.map_cons, List.map_nil, List.cons.injEq, Prod.mk.injEq, and_true] at h
    obtain ⟨rfl, rfl, rfl, rfl⟩ := h
    exact ⟨_, rfl, rfl⟩
theorem kb_tab2 {t : List ExceptionTableEntry} {a b c d a' b' c' d' : Nat} (h : t.map (fun h => (h.startPc, h.endPc, h.handlerPc, h.catchType)) = [(a, b, c, d), (a', b', c', d')]) : ∃ z0 z1 : ExceptionTableEntry, t = [z0, z1] ∧ z0 = ⟨a, b, c, d⟩ ∧ z1 = ⟨a', b', c', d'⟩ := by
  match t, h with
  | [⟨_, _, _, _⟩, ⟨_, _, _, _⟩], h =>
    simp only [List.map_cons, List.map_nil, List.cons.injEq, Prod.mk.injEq, and_true] at h
    obtain ⟨⟨rfl, rfl, rfl, rfl⟩, rfl, rfl, rfl, rfl⟩ := h
    exact ⟨_, _, rfl, rfl, rfl⟩
theorem kb_d0 : ∀ j, j < 4 → defaultValue (kb_y0 j) = vp_V [.int 0, .int 0, .int 0, .int 0] j := by decide +kernel
theorem kb_d1 : ∀ j, j < 2 → defaultValue (kb_y1 j) = vp_V [.null, .int 0] j := by decide +kernel
theorem kb_d2 : ∀ j, j < 14 → defaultValue (kb_y2 j) = vp_V [.null, .null, .null, .null, .null, .null, .null, .null, .null, .null, .null, .null, .int 0, .int 0] j := by decide +kernel
theorem kb_d3 : ∀ j, j < 5 → defaultValue (kb_y3 j) = vp_V [.null, .null, .null, .null, .null] j := by decide +kernel
theorem kb_d4 : ∀ j, j < 21 → defaultValue (kb_y4 j) = vp_V [.int 0, .null, .int 0, .null, .int 0, .null, .null, .null, .null, .null, .null, .null, .null, .null, .null, .null, .int 0, .int 0, .int 0, .int 0, .int 0] j := by decide +kernel
def kb_names : List String := ["java/lang/RuntimeException", "java/lang/Exception"]
theorem kb_own_IllegalArgument : ∀ w ∈ (Bundle.ownAtoms "TreePress" 56 "java/lang/IllegalArgumentException" kb_names).filter goodWord, w ∈ kb_T := fun w h => kb_in ((by decide +kernel : ∀ w ∈ (Bundle.ownAtoms "TreePress" 56 "java/lang/IllegalArgumentException" kb_names).filter goodWord, w ∈ lw_tbl) w h) (List.mem_filter.mp h).2
theorem kb_ownb_IllegalArgument : ∀ w ∈ (Bundle.ownAtoms "TreePress" 56 "java/lang/IllegalArgumentException" kb_names).filter (fun w => !goodWord w), w ∈ [Cond.castable "java/lang/IllegalArgumentException" "java/lang/IllegalArgumentException", .isRef (.static Bundle.tN "UNASSIGNED_STACK" Bundle.steD), .isRef (.static Bundle.tN "SUPPRESSED_SENTINEL" Bundle.listD), .laysStatic Bundle.tN "UNASSIGNED_STACK" Bundle.steD, .laysStatic Bundle.tN "SUPPRESSED_SENTINEL" Bundle.listD, Cond.declares (Bundle.initS "java/lang/RuntimeException"), .declares (Bundle.initS "java/lang/Exception"), .declares (Bundle.initS Bundle.tN)] := by decide +kernel
theorem kb_own_IndexOutOfBounds : ∀ w ∈ (Bundle.ownAtoms "TreePress" 112 "java/lang/IndexOutOfBoundsException" kb_names).filter goodWord, w ∈ kb_T := fun w h => kb_in ((by decide +kernel : ∀ w ∈ (Bundle.ownAtoms "TreePress" 112 "java/lang/IndexOutOfBoundsException" kb_names).filter goodWord, w ∈ lw_tbl) w h) (List.mem_filter.mp h).2
theorem kb_ownb_IndexOutOfBounds : ∀ w ∈ (Bundle.ownAtoms "TreePress" 112 "java/lang/IndexOutOfBoundsException" kb_names).filter (fun w => !goodWord w), w ∈ [Cond.castable "java/lang/IndexOutOfBoundsException" "java/lang/IndexOutOfBoundsException", .isRef (.static Bundle.tN "UNASSIGNED_STACK" Bundle.steD), .isRef (.static Bundle.tN "SUPPRESSED_SENTINEL" Bundle.listD), .laysStatic Bundle.tN "UNASSIGNED_STACK" Bundle.steD, .laysStatic Bundle.tN "SUPPRESSED_SENTINEL" Bundle.listD, Cond.declares (Bundle.initS "java/lang/RuntimeException"), .declares (Bundle.initS "java/lang/Exception"), .declares (Bundle.initS Bundle.tN)] := by decide +kernel
