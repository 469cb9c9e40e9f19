/-! two statics of Throwable that every constructor of one reads: where they lie, what they hold -/
def kb_Zf (n d : String) (A : Nat → Prop) (U : State) (H : Heap) : Prop := ∃ (c : ClassId) (k : Class) (i : Nat) (f : Field) (a : Nat) (cell : Cell) (v : Value), U.vm.findClass Bundle.tN = some c ∧ U.fieldFound? Bundle.tN n d = some (c, k, i, f) ∧ f.isStatic = true ∧ k.statics = some a ∧ H[a]? = some cell ∧ cell.vm.isStatics = true ∧ cell.cls = c ∧ f.slot < cell.slots.size ∧ k.staticTypes[f.slot]? = some f.type ∧ ¬ A a ∧ cell.slots[f.slot]? = some v ∧ v.isRef = true
theorem kb_Zf.moved {n d : String} {A : Nat → Prop} {u U : State} {H : Heap} (hvm : u.vm.Alike U.vm) (h : kb_Zf n d A u H) : kb_Zf n d A U H := by
  obtain ⟨c, k, i, f, a, cell, v, h1, h2, h3, h4, h5, h6, h7, h8, h9, h10⟩ := h
  obtain ⟨k', hi', he⟩ := State.fieldFound?_setVm hvm h2
  exact ⟨c, k', i, f, a, cell, v, by rw [hvm.findClass]; exact h1, hi', h3, by rw [he]; exact h4, h5, h6, h7, h8, by rw [he]; exact h9, h10⟩
theorem kb_Zf.kept {n d : String} {A B : Nat → Prop} {U : State} {H H1 : Heap} (h : kb_Zf n d A U H) (hq : ∀ a : Nat, a < H.size → ¬ A a → H1[a]? = H[a]?) (hB : ∀ q, B q → A q) : kb_Zf n d B U H1 := by
  obtain ⟨c, k, i, f, a, cell, v, h1, h2, h3, h4, h5, h6, h7, h8, h9, h10, h11⟩ := h
  exact ⟨c, k, i, f, a, cell, v, h1, h2, h3, h4, by rw [hq a (Array.getElem?_eq_some_iff.mp h5).1 h10]; exact h5, h6, h7, h8, h9, fun z => h10 (hB _ z), h11⟩
theorem kb_Zf.lays {n d : String} {A : Nat → Prop} {s : State} {args : Array Value} (h : kb_Zf n d A s s.heap) : (Cond.laysStatic Bundle.tN n d).before args s = true := by
  obtain ⟨c, k, i, f, a, cell, v, h1, h2, h3, h4, h5, h6, h7, h8, h9, -⟩ := h
  show (Cond.laysStatic Bundle.tN n d).holds args s none s [] = true
  exact Cond.laysStatic_of h1 h2 h3 h4 h5 h6 h7 h8 h9
theorem kb_Zf.isRef {n d : String} {A : Nat → Prop} {s : State} {args : Array Value} (h : kb_Zf n d A s s.heap) : (Cond.isRef (.static Bundle.tN n d)).before args s = true := by
  obtain ⟨c, k, i, f, a, cell, v, h1, h2, h3, h4, h5, h6, h7, h8, h9, -, h10, h11⟩ := h
  have he : (Term.static Bundle.tN n d).eval args s none [] s = some v := by
    simp [Term.eval, State.fieldNamed?, h2, h3, h4, h5, h6, h10]
  simp only [Cond.before, Cond.holds, Cond.value, he]
  cases v <;> simp_all [Value.isRef]
theorem kb_Zf.of {n d : String} {A : Nat → Prop} {s : State} {args : Array Value} (hl : (Cond.laysStatic Bundle.tN n d).before args s = true) (hr : (Cond.isRef (.static Bundle.tN n d)).before args s = true) (hA : ∀ a : Nat, a < s.heap.size → ¬ A a) : kb_Zf n d A s s.heap := by
  obtain ⟨c, k, i, f, a, cell, h1, h2, h3, h4, h5, h6, h7, h8, h9⟩ := Cond.laysStatic_spec hl
  obtain ⟨v, hv⟩ : ∃ v, cell.slots[f.slot]? = some v := ⟨_, Array.getElem?_eq_getElem h8⟩
  have he : (Term.static Bundle.tN n d).eval args s none [] s = some v := by
    simp [Term.eval, State.fieldNamed?, h2, h3, h4, h5, h6, hv]
  refine ⟨c, k, i, f, a, cell, v, h1, h2, h3, h4, h5, h6, h7, h8, h9, hA a (Array.getElem?_eq_some_iff.mp h5).1, hv, ?_⟩
  simp only [Cond.before, Cond.holds, Cond.value, he] at hr
  cases v <;> simp_all [Value.isRef]
def kb_Z (A : Nat → Prop) (U : State) (H : Heap) : Prop := kb_Zf "UNASSIGNED_STACK" Bundle.steD A U H ∧ kb_Zf "SUPPRESSED_SENTINEL" Bundle.listD A U H
theorem kb_Z.moved {A : Nat → Prop} {u U : State} {H : Heap} (hvm : u.vm.Alike U.vm) (h : kb_Z A u H) : kb_Z A U H := ⟨h.1.moved hvm, h.2.moved hvm⟩
theorem kb_Z.kept {A B : Nat → Prop} {U : State} {H H1 : Heap} (h : kb_Z A U H) (hq : ∀ a : Nat, a < H.size → ¬ A a → H1[a]? = H[a]?) (hB : ∀ q, B q → A q) : kb_Z B U H1 := ⟨h.1.kept hq hB, h.2.kept hq hB⟩
/-! words that aren't good ones: links across the nest, casts, String constants -/
def kb_cast : List (String × String) := [("java/lang/IllegalArgumentException", "java/lang/IllegalArgumentException"), ("java/lang/IndexOutOfBoundsException", "java/lang/IndexOutOfBoundsException")]
def kb_strs : List (Nat × String) := [(43, "the tape would have too many bytes"), (54, "the tape has no such place"), (67, "the tape is no name"), (76, "the tree would be too big"), (82, "these bytes are no name"), (87, "the place has nodes"), (99, "the place is the first node"), (110, "no such byte was laid down"), (152, "nothing of a node has that number"), (166, "nothing of a property has that number"), (189, "there is no such node"), (191, "there is no such property"), (193, "there is no such byte")]
def kb_decl : List MethodName := [Bundle.initS "java/lang/RuntimeException", Bundle.initS "java/lang/Exception", Bundle.initS Bundle.tN]
def kb_N (U : State) : Prop := (va_Nw (.methodLinkNest "TreePress" 21 ⟨"TreePress$Reader", "<init>", "()V"⟩ "TreePress") U ∧ va_Nw (.methodLinkNest "TreePress$Tree" 148 ⟨"TreePress", "filledUp", "(I)I"⟩ "TreePress") U) ∧ (∀ q ∈ kb_cast, va_Nw (.castable q.1 q.2) U) ∧ (∀ q ∈ kb_strs, ∃ a, vk_R "TreePress" q.1 q.2 a U) ∧ va_Nc "java/lang/IllegalArgumentException" "java/lang/IndexOutOfBoundsException" U ∧ ∀ y ∈ kb_decl, va_Nw (.declares y) U
theorem kb_N.moved {s U : State} (hW : s.WarmedH U.vm) (h : kb_N s) : kb_N U :=
  ⟨⟨va_Nw.warmM hW h.1.1, va_Nw.warmM hW h.1.2⟩, fun q hq => va_Nw.warmC hW (h.2.1 q hq), fun q hq => (h.2.2.1 q hq).imp fun a ha => vk_R.warm hW ha, va_Nc.moved hW.alike h.2.2.2.1, fun y hy => va_Nw.warmD hW (h.2.2.2.2 y hy)⟩
/-! a method's start -/
def kb_Pre (G : kb_G) (wi : va_W) (sz : Nat) (U : State) : Prop := U.heap.size = sz ∧ va_P G.1 kb_cl wi U.heap ∧ va_K G.1 kb_cl (kb_tys G) U ∧ va_D (fun _ => True) wi ∧ kb_Z (va_A wi sz) U U.heap ∧ kb_N U
/-- what stays true while a method runs -/
def kb_E (G : kb_G) (A : Nat → Prop) (s : State) : Prop := va_K G.1 kb_cl (kb_tys G) s ∧ kb_Z A s s.heap ∧ kb_N s ∧ ∀ q, s.heap.size ≤ q → A q
theorem kb_blind {G : kb_G} {av : List Value} {wi : va_W} {sz : Nat} : FrameBlind (va_Pc av (kb_Pre G wi sz)) := by
  intro a U g mk q
  obtain ⟨q0, q1, qP, qK, qD, qZ, qN⟩ := q
  refine ⟨q0, q1, qP, va_K.moved (u := U) (U := U.calling g mk a) (Vm.Alike.refl U.vm) qK, qD, ?_, ?_⟩
  · exact kb_Z.moved (u := U) (U := U.calling g mk a) (Vm.Alike.refl U.vm) qZ
  · exact kb_N.moved (s := U) (U := U.calling g mk a) (State.WarmedH.refl U) qN
theorem kb_start {G : kb_G} {A : Nat → Prop} {s : State} {H : Heap} {locs : List Loc} {wc : va_W} (hE : kb_E G A s) (hS : va_S A s.heap H locs) (hPc : va_P G.1 kb_cl wc H) (hDc : va_D A wc) (hF : ∀ q, va_A wc H.size q → A q) : ∀ U : State, U.heap = H → s.WarmedH U.vm → kb_Pre G wc H.size U := by
  intro U hU hW
  refine ⟨by rw [hU], by rw [hU]; exact hPc, va_K.moved hW.alike hE.1, hDc.weaken (fun _ _ _ _ => trivial), ?_, kb_N.moved hW hE.2.2.1⟩
  rw [hU]
  exact (hE.2.1.kept hS.2.1 hF).moved hW.alike
/-- ends -/
def kb_Qi (G : kb_G) (A : Nat → Prop) (post : Int32 → kb_S → Prop) (wo : kb_S → va_W) : Array Value → State → Outcome → State → Prop := va_Qi post (fun u t => va_P G.1 kb_cl (wo u) t.heap ∧ va_K G.1 kb_cl (kb_tys G) t ∧ va_D A (wo u)) A
def kb_Qv (G : kb_G) (A : Nat → Prop) (post : kb_S → Prop) (wo : kb_S → va_W) : Array Value → State → Outcome → State → Prop := va_Qv post (fun u t => va_P G.1 kb_cl (wo u) t.heap ∧ va_K G.1 kb_cl (kb_tys G) t ∧ va_D A (wo u)) A
def kb_Qr (G : kb_G) (A : Nat → Prop) (post : kb_S → Prop) (wo : kb_S → va_W) : Array Value → State → Outcome → State → Prop := va_Qr post (fun u a t => a = u.1 0 ∧ va_P G.1 kb_cl (wo u) t.heap ∧ va_K G.1 kb_cl (kb_tys G) t ∧ va_D A (wo u)) A
/-- contracts: an int comes back, nothing, a reference (the address u.1 0) -/
def kb_ci (l : Launch) (G : kb_G) (y : MethodName) (c : ByteArray) (n : Nat) (r : Option FieldType) (k mc ms : Nat) (av : List Value) (wi : va_W) (post : Int32 → kb_S → Prop) (wo : kb_S → va_W) : Prop :=
  ∀ sz, Met l y (kb_W y c n r) (kb_rm k mc ms) (va_Pc av (kb_Pre G wi sz)) (kb_Qi G (va_A wi sz) post wo) mc ms (va_A wi sz)
def kb_cv (l : Launch) (G : kb_G) (y : MethodName) (c : ByteArray) (n : Nat) (k mc ms : Nat) (av : List Value) (wi : va_W) (post : kb_S → Prop) (wo : kb_S → va_W) : Prop :=
  ∀ sz, Met l y (kb_W y c n none) (kb_rm k mc ms) (va_Pc av (kb_Pre G wi sz)) (kb_Qv G (va_A wi sz) post wo) mc ms (va_A wi sz)
def kb_cr (l : Launch) (G : kb_G) (y : MethodName) (c : ByteArray) (n : Nat) (r : Option FieldType) (k mc ms : Nat) (av : List Value) (wi : va_W) (post : kb_S → Prop) (wo : kb_S → va_W) : Prop :=
  ∀ sz, Met l y (kb_W y c n r) (kb_rm k mc ms) (va_Pc av (kb_Pre G wi sz)) (kb_Qr G (va_A wi sz) post wo) mc ms (va_A wi sz)
/-- what a body knows at its entry -/
def kb_B (G : kb_G) (y : MethodName) (bytes : ByteArray) (maxL : Nat) (ret : Option FieldType) (av : List Value) (wi : va_W) (p : Program) (s : State) (m : MethodId) (meth : Method) (c : Code) (A : Nat → Prop) : Prop :=
  p.tables.exec = Jvm.exec ∧ c.code = bytes ∧ meth.sig.returnType = ret ∧ c.maxLocals = maxL ∧ meth.locks = false ∧ meth.name = y.name ∧ s.vm.findClass y.cls = some m.cls ∧ (∀ w ∈ kb_T, w.before av.toArray s = true) ∧ kb_E G A s ∧ va_P G.1 kb_cl wi s.heap ∧ va_D A wi ∧ va_S A s.heap s.heap []
theorem kb_body {l : Launch} {G : kb_G} {y : MethodName} {bytes : ByteArray} {maxL : Nat} {ret : Option FieldType} {k mc ms : Nat} {av : List Value} {wi : va_W} {sz : Nat} {QQ : (Nat → Prop) → Array Value → State → Outcome → State → Prop} (hy : plainName y.cls = true) (hav : (lg_sl av).length ≤ maxL)
    (body : ∀ p e s m below meth c A, kb_B G y bytes maxL ret av wi p s m meth c A → ∀ ls, lv_has ls maxL (lv_args 0 av) → W p l e (kb_rm k mc ms) s m av.toArray below meth c s.heap [] 0 0 (MQ below (QQ A) av.toArray s mc ms A) (F0 m 0 ls [])) :
    Met l y (kb_W y bytes maxL ret) (kb_rm k mc ms) (va_Pc av (kb_Pre G wi sz)) (QQ (va_A wi sz)) mc ms (va_A wi sz) := by
  refine Met.ofW (cc := bytes) (maxL := maxL) (ret := ret) hy rfl ?_
  intro p e s m args below meth c s₁ B hml hv
  obtain ⟨rfl, hsz, hP, hK, hD0, hZ, hN⟩ := hv
  subst hsz
  have hts := atoms_spec (ws := kb_W y bytes maxL ret) B.pre
  have h := body p e s m below meth c (va_A wi s.heap.size) ⟨B.exec, B.bytes, B.returns, hml, B.notSynchronized, (name_of_methodNamed B.named B.method).1, findClass_of_methodNamed B.named, fun w hw => hts w (List.mem_cons_of_mem _ hw), ⟨hK, hZ, hN, fun q hq => Or.inr hq⟩, hP, hD0.self, va_S.rf⟩
  rw [lg_entry_eq]
  exact h _ (lv_entry av (n := maxL) hav)
section KB
variable {p : Program} {l : Launch} {e : Env} {R : Room} {s : State} {m : MethodId} {args : Array Value} {below : List Frame} {meth : Method} {c : Code} {H : Heap} {locs : List Loc} {cells slots : Nat} {Q : State → Prop}
variable {G : kb_G} {A : Nat → Prop} {ws wc wr : va_W} {cc : ByteArray} {pc nL : Nat} {ls : Array Slot} {rest st0 : List Value}
theorem kb_top {x y : Int32} (h : x = y) (k : W p l e R s m args below meth c H locs cells slots Q (F0 m pc ls (.int y :: rest))) : W p l e R s m args below meth c H locs cells slots Q (F0 m pc ls (.int x :: rest)) := h ▸ k
theorem kb_reti {v : Int32} {post : Int32 → kb_S → Prop} {wo : kb_S → va_W} {mc ms : Nat} (u : kb_S) (hx : p.tables.exec = Jvm.exec) (hb : c.code = cc) (hr : meth.sig.returnType = some .int) (hlocks : meth.locks = false) (hE : kb_E G A s) (hP : va_P G.1 kb_cl ws H) (hD : va_D A ws) (hS : va_S A s.heap H locs) (is : List Nat) (h1 : is.filterMap (fun i => ws[i]?) = wo u) (h2 : va_nd is = true) (h3 : is.map (fun i => ws[i]?) = (wo u).map some) (hp : post v u) (hc : cells ≤ mc) (hs : slots ≤ ms)
    (hdg : decode cc pc = .ok (.ireturn, 1)) : W p l e R s m args below meth c H locs cells slots (MQ below (kb_Qi G A post wo) args s mc ms A) (F0 m pc ls [.int v]) := by
  refine W.widen (k := mc) (n := ms) hc hs ?_
  exact W.iret hx hb hr (fun t ht hW => ⟨⟨v, u, rfl, hp, by rw [ht]; exact hP.sub is h1, va_K.moved hW.alike hE.1, hD.sub is h2 h3⟩, hS.F ht⟩) hS.2.2 hdg hlocks
theorem kb_retz {v : Int32} {post : Int32 → kb_S → Prop} {wo : kb_S → va_W} {mc ms : Nat} (u : kb_S) (hx : p.tables.exec = Jvm.exec) (hb : c.code = cc) (hr : meth.sig.returnType = some .boolean) (hn : narrow .boolean (.int v) = .int v) (hlocks : meth.locks = false) (hE : kb_E G A s) (hP : va_P G.1 kb_cl ws H) (hD : va_D A ws) (hS : va_S A s.heap H locs) (is : List Nat) (h1 : is.filterMap (fun i => ws[i]?) = wo u) (h2 : va_nd is = true) (h3 : is.map (fun i => ws[i]?) = (wo u).map some) (hp : post v u) (hc : cells ≤ mc) (hs : slots ≤ ms)
    (hdg : decode cc pc = .ok (.ireturn, 1)) : W p l e R s m args below meth c H locs cells slots (MQ below (kb_Qi G A post wo) args s mc ms A) (F0 m pc ls [.int v]) := by
  refine W.widen (k := mc) (n := ms) hc hs ?_
  exact W.zret hx hb hr hn (fun t ht hW => ⟨⟨v, u, rfl, hp, by rw [ht]; exact hP.sub is h1, va_K.moved hW.alike hE.1, hD.sub is h2 h3⟩, hS.F ht⟩) hS.2.2 hdg hlocks
theorem kb_retv {post : kb_S → Prop} {wo : kb_S → va_W} {mc ms : Nat} (u : kb_S) (hx : p.tables.exec = Jvm.exec) (hb : c.code = cc) (hr : meth.sig.returnType = none) (hlocks : meth.locks = false) (hE : kb_E G A s) (hP : va_P G.1 kb_cl ws H) (hD : va_D A ws) (hS : va_S A s.heap H locs) (is : List Nat) (h1 : is.filterMap (fun i => ws[i]?) = wo u) (h2 : va_nd is = true) (h3 : is.map (fun i => ws[i]?) = (wo u).map some) (hp : post u) (hc : cells ≤ mc) (hs : slots ≤ ms)
    (hdg : decode cc pc = .ok (.return_, 1)) : W p l e R s m args below meth c H locs cells slots (MQ below (kb_Qv G A post wo) args s mc ms A) (F0 m pc ls []) := by
  refine W.widen (k := mc) (n := ms) hc hs ?_
  exact W.vret hx hb hr (fun t ht hW => ⟨⟨u, rfl, hp, by rw [ht]; exact hP.sub is h1, va_K.moved hW.alike hE.1, hD.sub is h2 h3⟩, hS.F ht⟩) hS.2.2 hdg hlocks
theorem kb_reta {a : Nat} {rt : FieldType} {post : kb_S → Prop} {wo : kb_S → va_W} {mc ms : Nat} (u : kb_S) (ha : a = u.1 0) (hx : p.tables.exec = Jvm.exec) (hb : c.code = cc) (hr : meth.sig.returnType = some (.array rt)) (hlocks : meth.locks = false) (hE : kb_E G A s) (hP : va_P G.1 kb_cl ws H) (hD : va_D A ws) (hS : va_S A s.heap H locs) (is : List Nat) (h1 : is.filterMap (fun i => ws[i]?) = wo u) (h2 : va_nd is = true) (h3 : is.map (fun i => ws[i]?) = (wo u).map some) (hp : post u) (hc : cells ≤ mc) (hs : slots ≤ ms)
    (hdg : decode cc pc = .ok (.areturn, 1)) : W p l e R s m args below meth c H locs cells slots (MQ below (kb_Qr G A post wo) args s mc ms A) (F0 m pc ls [.ref a]) := by
  refine W.widen (k := mc) (n := ms) hc hs ?_
  exact W.aret hx hb hr (Or.inr ⟨_, rfl⟩) (Or.inr ⟨_, rfl⟩) (fun t ht hW => ⟨⟨u, a, rfl, hp, ha, by rw [ht]; exact hP.sub is h1, va_K.moved hW.alike hE.1, hD.sub is h2 h3⟩, hS.F ht⟩) hS.2.2 hdg hlocks
/-- a new array of ints or longs -/
theorem kb_newi (hx : p.tables.exec = Jvm.exec) (hb : c.code = cc) (harr : (Cond.arrayClass .int).before args s = true) (hE : kb_E G A s) (hP : va_P G.1 kb_cl ws H) (hD : va_D A ws) (hS : va_S A s.heap H locs) {n : Int32} {N : Nat} (hn : ¬ n < 0) (hN : n.toNatClampNeg = N) (hbytes : N * 4 ≤ 536870912) (hcells : cells + 1 ≤ R.cells) (hslots : slots + N ≤ R.slots) (hdg : decode cc pc = .ok (.newarray .int, 2))
    (kk : ∀ (q : Nat) (H1 : Heap), va_P G.1 kb_cl (ws ++ [kb_a G q N (fun _ => 0)]) H1 → va_D A (ws ++ [kb_a G q N (fun _ => 0)]) → va_S A s.heap H1 locs → W p l e R s m args below meth c H1 locs (cells + 1) (slots + N) Q (F0 m (pc + 2) ls (.ref q :: rest))) : W p l e R s m args below meth c H locs cells slots Q (F0 m pc ls (.int n :: rest)) := by
  refine va_newa (atype := .int) (ty := .int) (a0 := (N, .inl (fun _ => 0))) hx hb harr rfl hE.1 hP hD hS hE.2.2.2 (fun cA => rfl) hn hN hbytes hcells hslots hdg (fun q cA H1 hK1 hP1 hD1 hS1 => ?_)
  have h1 : va_RA s cA .int := (hK1.2 2 (cA, .int) rfl).2
  have h2 : va_RA s G.2.1 .int := (hE.1.2 0 (G.2.1, .int) rfl).2
  have h3 : cA = G.2.1 := Option.some.inj (Eq.trans (Eq.symm (show s.vm.findClass ("[" ++ FieldType.int.toString) = some cA from h1)) h2)
  subst h3
  exact kk q H1 hP1 hD1 hS1
theorem kb_newj (hx : p.tables.exec = Jvm.exec) (hb : c.code = cc) (harr : (Cond.arrayClass .long).before args s = true) (hE : kb_E G A s) (hP : va_P G.1 kb_cl ws H) (hD : va_D A ws) (hS : va_S A s.heap H locs) {n : Int32} {N : Nat} (hn : ¬ n < 0) (hN : n.toNatClampNeg = N) (hbytes : N * 8 ≤ 536870912) (hcells : cells + 1 ≤ R.cells) (hslots : slots + N ≤ R.slots) (hdg : decode cc pc = .ok (.newarray .long, 2))
    (kk : ∀ (q : Nat) (H1 : Heap), va_P G.1 kb_cl (ws ++ [kb_j G q N (fun _ => 0)]) H1 → va_D A (ws ++ [kb_j G q N (fun _ => 0)]) → va_S A s.heap H1 locs → W p l e R s m args below meth c H1 locs (cells + 1) (slots + N) Q (F0 m (pc + 2) ls (.ref q :: rest))) : W p l e R s m args below meth c H locs cells slots Q (F0 m pc ls (.int n :: rest)) := by
  refine va_newa (atype := .long) (ty := .long) (a0 := (N, .inr (.inl (fun _ => 0)))) hx hb harr rfl hE.1 hP hD hS hE.2.2.2 (fun cA => rfl) hn hN hbytes hcells hslots hdg (fun q cA H1 hK1 hP1 hD1 hS1 => ?_)
  have h1 : va_RA s cA .long := (hK1.2 2 (cA, .long) rfl).2
  have h2 : va_RA s G.2.2 .long := (hE.1.2 1 (G.2.2, .long) rfl).2
  have h3 : cA = G.2.2 := Option.some.inj (Eq.trans (Eq.symm (show s.vm.findClass ("[" ++ FieldType.long.toString) = some cA from h1)) h2)
  subst h3
  exact kk q H1 hP1 hD1 hS1
end KB
