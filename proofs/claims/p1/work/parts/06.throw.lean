section KT
variable {p : Program} {l : Launch} {e : Env} {R : Room} {s : State} {m : MethodId} {args : Array Value} {below : List Frame} {meth : Method} {c : Code} {T : State} {H : Heap} {locs : List Loc} {cells slots : Nat} {Q : State → Prop}
variable {G : kb_G} {A : Nat → Prop} {wi : va_W} {cc : ByteArray} {pc : Nat} {ls : Array Slot} {rest : List Value} {mc ms : Nat} {E : String}
theorem kb_plain {q : Nat} {cell : Cell} (hP : va_P G.1 kb_cl wi H) (hA : va_A wi H.size q) (h : H[q]? = some cell) : cell.vm = .none := by
  rcases hA with ⟨k, e9, hk⟩ | hA
  · have h1 := hP k _ hk
    cases e9 with
    | inl a =>
      have h2 : H[q]? = some (vp_cell a.1 a.2) := h1
      cases Option.some.inj (h.symm.trans h2)
      unfold vp_cell
      split <;> rfl
    | inr o =>
      obtain ⟨r, -, cell9, q1, q2, q3, q4⟩ := h1
      cases Option.some.inj (h.symm.trans q1)
      exact q3
  · have h3 := (Array.getElem?_eq_some_iff.mp h).1
    omega
theorem kb_same {U : State} {k n : Nat} (h : s.sameButNew ({ U with vm := s.vm } : State) locs k n) (hA : ∀ z ∈ locs, A z.base) : va_F A s U := by
  obtain ⟨-, h2, -, -, -, h6⟩ := h
  refine ⟨h2, fun q hq hz => ?_⟩
  obtain ⟨c9, e1, e2, e3, e4⟩ := h6 q _ (Array.getElem?_eq_getElem hq)
  have hs : c9.slots = (s.heap[q]).slots := Array.ext_getElem? fun i => e4 i fun hm => hz (hA _ hm)
  have h9 : c9 = s.heap[q] := by
    rw [hs] at e2
    exact e2
  have e5 : U.heap[q]? = some c9 := e1
  rw [e5, h9, Array.getElem?_eq_getElem hq]
/-- throw new E("text"), where no entry of this method's table is in the way -/
theorem kb_throw {text : String} {names : List String} {ik is ic : Nat} (hx : p.tables.exec = Jvm.exec) (hb : c.code = cc) (hl : l.stackTraces = false) (hown : s.vm.findClass "TreePress" = some m.cls) (ht : ∀ w ∈ kb_T, w.before args s = true) (hE : kb_E G A s) (hcls : Bundle.fit E = true) (hnames : ∀ n ∈ names, Bundle.fit n = true)
    (hk : Cond.classLink "TreePress" ik E ∈ kb_T) (hini : Cond.initialized E ∈ kb_T) (hat : ∀ w ∈ (Bundle.ownAtoms "TreePress" ic E names).filter goodWord, w ∈ kb_T)
    (hbad : ∀ w ∈ (Bundle.ownAtoms "TreePress" ic E names).filter (fun w => !goodWord w), w ∈ [Cond.castable E E, .isRef (.static Bundle.tN "UNASSIGNED_STACK" Bundle.steD), .isRef (.static Bundle.tN "SUPPRESSED_SENTINEL" Bundle.listD), .laysStatic Bundle.tN "UNASSIGNED_STACK" Bundle.steD, .laysStatic Bundle.tN "SUPPRESSED_SENTINEL" Bundle.listD, Cond.declares (Bundle.initS "java/lang/RuntimeException"), .declares (Bundle.initS "java/lang/Exception"), .declares (Bundle.initS Bundle.tN)])
    (hcast : (E, E) ∈ kb_cast) (hstr : (is, text) ∈ kb_strs) (hP0 : va_P G.1 kb_cl wi s.heap) (hAw : ∀ q, A q → va_A wi s.heap.size q) (hS : va_S A s.heap H locs) (hsize : ls.size = c.maxLocals) (hno : ∀ z ∈ c.exceptionTable.toList, False) (hlocks : meth.locks = false)
    (d0 : decode cc pc = .ok (.new ik, 3)) (d3 : decode cc (pc + 3) = .ok (.dup, 1)) (d4 : decode cc (pc + 4) = .ok (.ldc is, 2)) (d6 : decode cc (pc + 6) = .ok (.invokespecial ic, 3)) (d9 : decode cc (pc + 9) = .ok (.athrow, 1))
    (hRf : names.length + 3 < R.frames) (hRl : (rest.map fun v => v.category).sum + (13 * (names.length + 1) + 43) ≤ R.locals) (hcells : cells + 1 ≤ R.cells) (hslots : slots + 6 ≤ R.slots) (hc : cells + 1 ≤ mc) (hs : slots + 6 ≤ ms) :
    W p l e R s m args below meth c H locs cells slots (kb_MX below E A args s mc ms) (F0 m pc ls rest) := by
  intro T hT X
  have htr : e.platform.stackTraces = false := (show e.platform.stackTraces = l.stackTraces by rw [X.admits.platform]).trans hl
  have hall : ∀ w ∈ Bundle.ownAtoms "TreePress" ic E names, w.before args s = true := by
    intro w hw
    by_cases g : goodWord w = true
    · exact ht w (hat w (List.mem_filter.mpr ⟨hw, g⟩))
    · have h1 := hbad w (List.mem_filter.mpr ⟨hw, by simp [g]⟩)
      simp only [List.mem_cons, List.not_mem_nil, or_false] at h1
      rcases h1 with rfl | rfl | rfl | rfl | rfl | rfl | rfl | rfl
      · exact va_Nw.use rfl (hE.2.2.1.2.1 _ hcast)
      · exact hE.2.1.1.isRef
      · exact hE.2.1.2.isRef
      · exact hE.2.1.1.lays
      · exact hE.2.1.2.lays
      · exact va_Nw.use rfl (hE.2.2.1.2.2.2.2 _ (List.mem_of_getElem? (i := 0) rfl))
      · exact va_Nw.use rfl (hE.2.2.1.2.2.2.2 _ (List.mem_of_getElem? (i := 1) rfl))
      · exact va_Nw.use rfl (hE.2.2.1.2.2.2.2 _ (List.mem_of_getElem? (i := 2) rfl))
  have hins : (Cond.instantiable E 6).before args s = true := hall _ (by simp [Bundle.ownAtoms])
  obtain ⟨vm₁, cX, kX, hfX, hkX, -, -, X₁, st1⟩ := X.newCold hx (own := "TreePress") (C := E) (index := ik) (n := 6) hown (ht _ hk) hins (ht _ hini) (g := F0 m pc ls rest) rfl (by rw [hb]; exact d0) hcells hslots
  generalize hT1 : (T.setVm vm₁).pushCell { cls := cX, slots := kX.instanceTypes.map defaultValue, vm := .none } = T1 at X₁ st1
  have hcellA : T1.heap[T.heap.size]? = some (freshCell cX kX) := by rw [← hT1]; exact State.heap_pushCell_size _ _
  have hcat : (Value.ref T.heap.size).category = 1 := rfl
  have d3' : decode c.code (pc + 3) = .ok (.dup, 1) := by rw [hb]; exact d3
  have d4' : decode c.code (pc + 4) = .ok (.ldc is, 2) := by rw [hb]; exact d4
  obtain ⟨sa, hsa1, hsa2⟩ := hE.2.2.1.2.2.1 _ hstr
  have hstr1 : (Cond.stringRef "TreePress" is text).before args s = true := hsa1
  have hstr2 : (Term.string "TreePress" is).eval args s none [] s = some (.ref sa) := hsa2
  obtain ⟨U, hsteps, hrun, hend, hW, hsame, ce, hce, hO⟩ := X₁.ctorThrowS hx htr (own := "TreePress") (cls := E) (names := names) (ic := ic) hown hcls hnames hall
    (fun z hz cell hcell => by rw [kb_plain hP0 (hAw _ (hS.2.2 z hz)) hcell]; rfl) hfX hkX hcellA (by rw [hT]; exact hS.1) (msg := .ref sa) rfl
    (g := { method := m, pc := pc + 6, locals := ls, stack := .ref sa :: .ref T.heap.size :: .ref T.heap.size :: rest, locked := none }) rfl hsize rfl rfl (rest := rest) rfl
    (by rw [hb]; exact d6) (by rw [hb]; exact d9) (fun z hz => (hno z hz).elim) hRf (by show 2 * 0 + _ + _ ≤ _; simp only [List.map_cons, List.sum_cons, hcat]; omega) hlocks
  refine ⟨U, ?_, .threw T.heap.size, hrun, hend, T.heap.size, ce, locs, rfl, kb_same hsame hS.2.2, hce, hO.vm, hO.cls, hW, hsame.mono hc hs, hS.2.2⟩
  refine st1 _ ?_
  show Steps p.tables e below (T1.setTop { method := m, pc := pc + 3, locals := ls, stack := .ref T.heap.size :: rest, locked := none }) _
  jvm_step X₁.here [X₁.here.top, hx, d3', Value.category]
  exact X₁.ldcString hx (own := "TreePress") (text := text) (index := is) (a := sa) hown hstr1 hstr2
    (g := { method := m, pc := pc + 4, locals := ls, stack := .ref T.heap.size :: .ref T.heap.size :: rest, locked := none }) rfl d4' _ hsteps
end KT
