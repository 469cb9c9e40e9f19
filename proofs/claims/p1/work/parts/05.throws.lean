/-! methods that throw: on the roads of this claim it is known of each call whether it returns or throws -/
def kb_QX (E : String) (mc ms : Nat) (F : Nat → Prop) : Array Value → State → Outcome → State → Prop := fun _ st o t =>
  ∃ (q : Addr) (ce : Cell) (L : List Loc), o = .threw q ∧ va_F F st t ∧ t.heap[q]? = some ce ∧ ce.vm = .none ∧ st.vm.findClass E = some ce.cls ∧ st.WarmedH t.vm ∧ st.sameButNew ({ t with vm := st.vm } : State) L mc ms ∧ ∀ z ∈ L, F z.base
def kb_cx (l : Launch) (G : kb_G) (y : MethodName) (c : ByteArray) (n : Nat) (r : Option FieldType) (k mc ms : Nat) (av : List Value) (wi : va_W) (E : String) : Prop :=
  ∀ sz, MetFree l y (headSpec (kb_W y c n r) (kb_rm k mc ms)) (va_Pc av (kb_Pre G wi sz)) (fun _ _ _ _ _ => True) (kb_QX E mc ms (va_A wi sz))
/-- what a body that throws owes at its end -/
def kb_MX (below : List Frame) (E : String) (F : Nat → Prop) (a : Array Value) (s : State) (mc ms : Nat) : State → Prop := fun t => ∃ o, t.status = .running ∧ Ended t below o ∧ kb_QX E mc ms F a s o t
theorem kb_bodyX {l : Launch} {G : kb_G} {y : MethodName} {bytes : ByteArray} {maxL : Nat} {ret : Option FieldType} {k mc ms : Nat} {av : List Value} {wi : va_W} {E : String} (hy : plainName y.cls = true) (hav : (lg_sl av).length ≤ maxL)
    (body : ∀ p e s m below meth c A, kb_B G y bytes maxL ret av wi p s m meth c A → (∀ z ∈ c.exceptionTable.toList, False) → (∀ q, A q → va_A wi s.heap.size q) → ∀ ls, lv_has ls maxL (lv_args 0 av) → W p l e (kb_rm k mc ms) s m av.toArray below meth c s.heap [] 0 0 (kb_MX below E A av.toArray s mc ms) (F0 m 0 ls [])) :
    kb_cx l G y bytes maxL ret k mc ms av wi E := by
  intro sz
  refine MetFree.of_bodyS (code := bytes) (maxLocals := maxL) (ret := ret) hy ?_ ?_
  · intro args s m h hn
    obtain ⟨meth, c, h1, h2, h3, h4, h5, h6, -, -⟩ := Cond.code_spec hn (atoms_spec (ws := kb_W y bytes maxL ret) h _ List.mem_cons_self)
    exact ⟨meth, c, h1, h2, h3, h4, h5, h6⟩
  · intro p e s m args below meth c s₁ B hml hv _
    obtain ⟨rfl, hsz, hP, hK, hD0, hZ, hN⟩ := hv
    subst hsz
    have hh0 : s₁.heap = s.heap := by rw [B.state]; rfl
    have hts := atoms_spec (ws := kb_W y bytes maxL ret) B.pre
    have X := Stand.of_body B
    have hno : ∀ z ∈ c.exceptionTable.toList, False := by
      obtain ⟨meth9, c9, h1, h2, -, -, -, -, h7, -⟩ := Cond.code_spec B.named (hts _ List.mem_cons_self)
      cases Option.some.inj (h1.symm.trans B.method)
      cases Option.some.inj (h2.symm.trans X.code)
      intro z hz
      rw [Array.isEmpty_iff.mp h7] at hz
      cases hz
    have h := body p e s m below meth c (va_A wi s.heap.size) ⟨B.exec, B.bytes, B.returns, hml, B.notSynchronized, (name_of_methodNamed B.named B.method).1, findClass_of_methodNamed B.named, fun w hw => hts w (List.mem_cons_of_mem _ hw), ⟨hK, hZ, hN, fun q hq => Or.inr hq⟩, hP, hD0.self, va_S.rf⟩ hno (fun q h => h) _ (lv_entry av (n := maxL) hav)
    have h2 : W p l e (kb_rm k mc ms) s m av.toArray below meth c s.heap [] 0 0 (kb_MX below E (va_A wi s.heap.size) av.toArray s mc ms) (entryFrame m av.toArray maxL) := by
      rw [lg_entry_eq]
      exact h
    obtain ⟨t, a1, o, b1, b2, b3⟩ := h2 s₁ hh0 X
    exact ⟨t, o, a1, b1, b2, b3⟩
section KX
variable {p : Program} {l : Launch} {e : Env} {R : Room} {s : State} {m : MethodId} {args : Array Value} {below : List Frame} {meth : Method} {c : Code} {T : State} {H : Heap} {locs : List Loc} {cells slots : Nat} {Q : State → Prop}
variable {G : kb_G} {A : Nat → Prop} {ws wc wr : va_W} {cc : ByteArray} {pc nL : Nat} {ls : Array Slot} {rest st0 As : List Value}
variable {y : MethodName} {bytes : ByteArray} {maxL k mc ms index : Nat} {ret : Option FieldType} {own C E : String} {b q0 ci : Nat} {fs : List Value} {q : vw_C}
/-- q is on its way up, over the frame g -/
def kb_WX (p : Program) (l : Launch) (e : Env) (R : Room) (s : State) (m : MethodId) (args : Array Value) (below : List Frame) (meth : Method) (c : Code) (H : Heap) (locs : List Loc) (cells slots : Nat) (Q : State → Prop) (g : JFrame) (q : Addr) : Prop :=
  ∀ T : State, T.heap = H → Stand p l e R s m args below meth c T locs cells slots → ∃ t, Steps p.tables e below ((T.setTop g).pushFrame (.throwing q)) t ∧ Q t
/-- one run of a callee that throws, paid out of its contract -/
theorem kb_payX {Pc : Array Value → State → Prop} {F : Nat → Prop} {a : Array Value} {g : JFrame} {ig : Instr} {len : Nat} {mk : MethodId} (X : Stand p l e R s m args below meth c T locs cells slots)
    (hM : MetFree l y (headSpec (kb_W y bytes maxL ret) (kb_rm k mc ms)) Pc (fun _ _ _ _ _ => True) (kb_QX E mc ms F)) (hbl : FrameBlind Pc) (hPc : Pc a T) (hR : k + 1 ≤ R.frames ∧ 8 + (maxL + 11) + 32 * k ≤ R.locals) (hf : cells + mc ≤ R.cells ∧ slots + ms ≤ R.slots)
    (ht : ∀ w ∈ kb_T, w.before args s = true) (hcode : Cond.code y bytes maxL ret ∈ kb_T) (hini : Cond.initialized y.cls ∈ kb_T) (hg : g.method = m) (hsize : g.locals.size = c.maxLocals) (hdg : decode c.code g.pc = .ok (ig, len)) (hW : 2 * g.monitorRoom + (g.stack.map fun v => v.category).sum ≤ 8) (hn : T.methodNamed? y = some mk) :
    ∃ (q : Addr) (ce : Cell) (T' : State) (L : List Loc), Stand p l e R s m args below meth c T' (locs ++ L) (cells + mc) (slots + ms) ∧ (∀ z ∈ L, F z.base) ∧ T.heap.size ≤ T'.heap.size ∧ (∀ q : Nat, q < T.heap.size → ¬ F q → T'.heap[q]? = T.heap[q]?) ∧ T'.heap[q]? = some ce ∧ ce.vm = .none ∧ T.vm.findClass E = some ce.cls ∧
      Steps p.tables e below (doInvoke e (T.setTop g) [] mk a).1 ((T'.setTop g).pushFrame (.throwing q)) := by
  have pay : ∀ w ∈ kb_T, w.before a T = true := fun w hw => word_at X.warmed (good_of_word (kb_good hw)) (ht w hw)
  have hpre : (headSpec (kb_W y bytes maxL ret) (kb_rm k mc ms)).pre.before a T = true := atoms_intro fun w hw => (List.mem_cons.mp hw).elim (fun e => by rw [e]; exact pay _ hcode) (pay w)
  obtain ⟨methY, cY, hmY, hcY, -, hlY, -, -, -, -⟩ := Cond.code_spec hn (pay _ hcode)
  obtain ⟨kY, hkY, -⟩ := className_of_methodNamed hn
  have hinitY : kY.init = .initialized := Cond.initialized_spec (findClass_of_methodNamed hn) hkY (pay _ hini)
  subst hg
  have happ : (headSpec (kb_W y bytes maxL ret) (kb_rm k mc ms)).appliesLoose y e.platform (T.calling g mk a) = true :=
    Spec.appliesLoose_calling (g := g) X.here hdg hn hkY hinitY (X.room_calling (g := g) (R' := kb_rm k mc ms) hsize hmY hcY hR.1 (by rw [hlY]; show _ + _ + 32 * k ≤ _; omega) hf.1 hf.2) hpre
  obtain ⟨mid, hmid⟩ := X.here.above
  have hfr : (T.setTop g).frames = (.java g :: mid) ++ below := by rw [State.frames_setTop' g X.here.top, hmid]; rfl
  obtain ⟨o, s₂, hsteps, -, hend, hq⟩ := Steps.callFree hM p X.admits X.cas X.clock (acts := []) hfr happ (hbl _ _ _ _ hPc) trivial
  obtain ⟨q, ce, L, rfl, hF, hce, hcv, hcl, hW₂, hsm, hL⟩ : kb_QX E mc ms F a (T.calling g mk a) o s₂ := hq
  rw [State.frames_setTop' g X.here.top] at hend
  obtain ⟨g₀, hg0⟩ := Option.isSome_iff_exists.mp X.here.top
  obtain ⟨r, hr⟩ := State.topJava?_eq_some.mp hg0
  have hW' : T.WarmedH s₂.vm := hW₂
  obtain ⟨e2, q2, q3, q4, q5, q6⟩ := id hsm
  have hf₂ : s₂.frames = .throwing q :: .java g :: T.frames.tail := hend
  have hr' : (({ T with heap := s₂.heap, slotsUsed := s₂.slotsUsed } : State).setVm s₂.vm).frames = .java g₀ :: r := hr
  have e3 : s₂ = ({ (T.calling g mk a).setFrames s₂.frames with heap := s₂.heap, slotsUsed := s₂.slotsUsed } : State).setVm s₂.vm := by
    have h9 : s₂ = ({ s₂ with vm := (T.calling g mk a).vm } : State).setVm s₂.vm := rfl
    rw [e2] at h9
    exact h9
  have hs₂ : s₂ = ((({ T with heap := s₂.heap, slotsUsed := s₂.slotsUsed } : State).setVm s₂.vm).setTop g).pushFrame (.throwing q) := by
    refine e3.trans ?_
    rw [hf₂, State.calling_eq X.here.top, State.setFrames_setFrames, State.pushFrame, State.frames_setTop _ hr', State.setTop_of_frames _ hr', State.setFrames_setFrames, hr]
    rfl
  have hsame : T.sameButNew ({ T with heap := s₂.heap, slotsUsed := s₂.slotsUsed } : State) L mc ms := by
    refine ⟨?_, q2, q3, q4, q5, q6⟩
    obtain ⟨t9, h9, -⟩ := State.frames_cons hr
    show ({ T with heap := s₂.heap, slotsUsed := s₂.slotsUsed } : State) = { T.setFrames T.frames with heap := s₂.heap, slotsUsed := s₂.slotsUsed }
    rw [State.setFrames_self h9]
  refine ⟨q, ce, (({ T with heap := s₂.heap, slotsUsed := s₂.slotsUsed } : State).setVm s₂.vm), L,
    ⟨X.admits, X.cas, X.clock, X.frames, X.room, X.hears, X.method, X.code, (X.here.setHeapUsed s₂.heap s₂.slotsUsed).setVm hW'.alike, X.tail, State.WarmedH.trans X.warmed hW', X.limits, X.bytes, X.same.trans (hsame.setVm s.vm)⟩, hL, hF.1, fun z h1 h2 => hF.2 z h1 h2, hce, hcv, hcl, ?_⟩
  rw [← hs₂]
  exact hsteps
theorem kb_afterX {F : Nat → Prop} {H1 : Heap} {L : List Loc} (hE : kb_E G A s) (hP : va_P G.1 kb_cl ws H) (hD : va_D A ws) (hS : va_S A s.heap H locs) (isC isR : List Nat) (hC : isC.map (fun i => ws[i]?) = wc.map some) (hRr : isR.map (fun i => ws[i]?) = wr.map some) (hn : va_nd isR = true) (hdis : ∀ i ∈ isR, i ∉ isC) (hL : ∀ z ∈ L, va_A wc H.size z.base) (hz : H.size ≤ H1.size) (hk : ∀ q : Nat, q < H.size → ¬ va_A wc H.size q → H1[q]? = H[q]?) : va_P G.1 kb_cl wr H1 ∧ va_D A wr ∧ va_S A s.heap H1 (locs ++ L) := by
  have hF := va_free hD hS hE.2.2.2 isC hC
  obtain ⟨hP2, hD2⟩ := va_join (wr := wr) (w1 := []) hP hD isC isR hC hRr hn hdis hk hF (fun k q h => by simp at h) ⟨fun i j p q h => by simp at h, fun k q h => by simp at h⟩
  rw [List.append_nil] at hP2 hD2
  refine ⟨hP2, hD2, Nat.le_trans hS.1 hz, fun q h1 h2 => ?_, fun z hz => ?_⟩
  · rw [hk q (Nat.lt_of_lt_of_le h1 hS.1) (fun h => h2 (hF q h))]
    exact hS.2.1 q h1 h2
  · rcases List.mem_append.mp hz with h | h
    · exact hS.2.2 z h
    · exact hF _ (hL z h)
theorem kb_xV (S : CallFix p m c cc nL s args kb_T own) (hM : kb_cx l G y bytes maxL ret k mc ms (.ref b :: As) wc E) (g1 : Cond.methodLink own index y ∈ kb_T) (g2 : Cond.instanceMethod y ∈ kb_T) (g3 : Cond.selects y.cls y y ∈ kb_T) (g4 : Cond.initialized y.cls ∈ kb_T) (g5 : Cond.code y bytes maxL ret ∈ kb_T)
    (hd : y.cls ≠ "java/lang/invoke/MethodHandle" ∧ y.cls ≠ "java/lang/invoke/VarHandle" ∧ (parseMethodDescriptor y.desc).map (fun d => d.parameters.length) = some As.length) (hR : k + 1 ≤ R.frames ∧ 8 + (maxL + 11) + 32 * k ≤ R.locals)
    (hE : kb_E G A s) (hP : va_P G.1 kb_cl ws H) (hD : va_D A ws) (hS : va_S A s.heap H locs) (isC isR : List Nat) (hC : isC.map (fun i => ws[i]?) = wc.map some) (hRr : isR.map (fun i => ws[i]?) = wr.map some) (hnC : va_nd isC = true) (hn : va_nd isR = true) (hdis : ∀ i ∈ isR, i ∉ isC)
    (he : wc[q0]? = some (b, .inr (ci, fs))) (hc : kb_cl[ci]? = some q) (hq : q.1 = y.cls) (hls : ls.size = nL) (hst : st0 = As.reverse ++ .ref b :: rest) (hW : (rest.map fun v => v.category).sum ≤ 8) (hdg : decode cc pc = .ok (.invokevirtual index, 3)) (hf : cells + mc ≤ R.cells ∧ slots + ms ≤ R.slots)
    (kk : ∀ (q9 : Addr) (ce : Cell) (H1 : Heap) (locs1 : List Loc), H1[q9]? = some ce → ce.vm = .none → s.vm.findClass E = some ce.cls → va_P G.1 kb_cl wr H1 → va_D A wr → va_S A s.heap H1 locs1 → kb_WX p l e R s m args below meth c H1 locs1 (cells + mc) (slots + ms) Q (F0 m pc ls rest) q9) :
    W p l e R s m args below meth c H locs cells slots Q (F0 m pc ls st0) := by
  obtain ⟨hx, hb, hml, hown, ht⟩ := S
  have hPc := kb_cut hP isC hC
  have hF := va_free hD hS hE.2.2.2 isC hC
  obtain ⟨cellB, hcB, hoB, hclB⟩ := va_recv hE.1 hPc hc he
  intro T hT X
  obtain ⟨mkn, methM, hnamed, hmethM, hstM, habM⟩ := Cond.instanceMethod_spec (ht _ g2)
  obtain ⟨methM', cM, hmethM', -, -, -, -, -, -, hsigM⟩ := Cond.code_spec hnamed (ht _ g5)
  cases hmethM.symm.trans hmethM'
  obtain ⟨c2, r2, m2, q1, q2, q3, q4, kP, hkP, hkPi⟩ := Cond.selects_spec (ht _ g3)
  rw [hq] at hclB
  cases hclB.symm.trans q1
  cases (State.methodFound?_of_named hnamed ⟨hd.1, hd.2.1⟩).symm.trans q2
  cases hnamed.symm.trans q3
  have hselP : selectMethod e.platform s.vm cellB.cls mkn = .method mkn := by rw [Launch.admits_selectMethod X.admits]; exact q4
  have hlen : As.length = methM.sig.parameters.length := by
    have h9 := hd.2.2
    rw [hsigM] at h9
    exact (Option.some.inj h9).symm
  obtain ⟨vm₁, X₁, hstep₁⟩ := X.invokevirtual hx hown (ht _ g1) hnamed hmethM hstM hkP hkPi ⟨hd.1, hd.2.1⟩ (a := b) (cell := cellB) (by rw [hT]; exact hcB)
    (fun z h => by rw [h] at hoB; cases hoB) hselP hmethM habM hkP hkPi (g := F0 m pc ls st0) rfl (argsL := As) (rest := rest) hlen hst (by rw [hb]; exact hdg)
  obtain ⟨q9, ce, T', L, X', hL, hz, hk, hce, hcv, hcl, st⟩ := kb_payX (a := (Value.ref b :: As).toArray) (g := F0 m pc ls rest) X₁ (hM H.size) kb_blind ⟨rfl, kb_start hE hS hPc (hD.sub isC hnC hC) hF (T.setVm vm₁) hT X₁.warmed⟩ hR hf ht g5 g4 rfl (hls.trans hml.symm) (by rw [hb]; exact hdg) (lv_room hW) (X₁.named hnamed)
  have hz' : H.size ≤ T'.heap.size := by rw [← hT]; exact hz
  have hk' : ∀ q : Nat, q < H.size → ¬ va_A wc H.size q → T'.heap[q]? = H[q]? := by
    intro z h1 h2
    rw [← hT] at h1 ⊢
    exact hk z h1 h2
  obtain ⟨hP2, hD2, hS2⟩ := kb_afterX (F := A) hE hP hD hS isC isR hC hRr hn hdis hL hz' hk'
  have hcl' : s.vm.findClass E = some ce.cls := by
    have h1 : vm₁.findClass E = some ce.cls := hcl
    have h2 : s.vm.Alike vm₁ := X₁.warmed.alike
    rw [h2.findClass] at h1
    exact h1
  obtain ⟨t, a1, b1⟩ := kk q9 ce T'.heap (locs ++ L) hce hcv hcl' hP2 hD2 hS2 T' rfl X'
  exact ⟨t, hstep₁ _ fun acts => by rw [doInvoke_state]; exact st.trans a1, b1⟩
theorem kb_xS (S : CallFix p m c cc nL s args kb_T own) (hM : kb_cx l G y bytes maxL ret k mc ms As wc E) (g1 : Cond.methodLink own index y ∈ kb_T) (g2 : Cond.static y ∈ kb_T) (g4 : Cond.initialized y.cls ∈ kb_T) (g5 : Cond.code y bytes maxL ret ∈ kb_T)
    (hd : y.cls ≠ "java/lang/invoke/MethodHandle" ∧ y.cls ≠ "java/lang/invoke/VarHandle" ∧ (parseMethodDescriptor y.desc).map (fun d => d.parameters.length) = some As.length) (hR : k + 1 ≤ R.frames ∧ 8 + (maxL + 11) + 32 * k ≤ R.locals)
    (hE : kb_E G A s) (hP : va_P G.1 kb_cl ws H) (hD : va_D A ws) (hS : va_S A s.heap H locs) (isC isR : List Nat) (hC : isC.map (fun i => ws[i]?) = wc.map some) (hRr : isR.map (fun i => ws[i]?) = wr.map some) (hnC : va_nd isC = true) (hn : va_nd isR = true) (hdis : ∀ i ∈ isR, i ∉ isC)
    (hls : ls.size = nL) (hst : st0 = As.reverse ++ rest) (hW : (rest.map fun v => v.category).sum ≤ 8) (hdg : decode cc pc = .ok (.invokestatic index, 3)) (hf : cells + mc ≤ R.cells ∧ slots + ms ≤ R.slots)
    (kk : ∀ (q9 : Addr) (ce : Cell) (H1 : Heap) (locs1 : List Loc), H1[q9]? = some ce → ce.vm = .none → s.vm.findClass E = some ce.cls → va_P G.1 kb_cl wr H1 → va_D A wr → va_S A s.heap H1 locs1 → kb_WX p l e R s m args below meth c H1 locs1 (cells + mc) (slots + ms) Q (F0 m pc ls rest) q9) :
    W p l e R s m args below meth c H locs cells slots Q (F0 m pc ls st0) := by
  obtain ⟨hx, hb, hml, hown, ht⟩ := S
  have hPc := kb_cut hP isC hC
  have hF := va_free hD hS hE.2.2.2 isC hC
  intro T hT X
  obtain ⟨mkn, hnamed⟩ := Cond.code_named (ht _ g5)
  obtain ⟨methM, cM, hmethM, -, -, -, -, -, -, hsigM⟩ := Cond.code_spec hnamed (ht _ g5)
  have hstatic : methM.isStatic = true := Cond.static_spec hnamed hmethM (ht _ g2)
  obtain ⟨kP, hkP, -⟩ := className_of_methodNamed hnamed
  have hinitP : kP.init = .initialized := Cond.initialized_spec (findClass_of_methodNamed hnamed) hkP (ht _ g4)
  have hlen : As.length = methM.sig.parameters.length := by
    have h9 := hd.2.2
    rw [hsigM] at h9
    exact (Option.some.inj h9).symm
  obtain ⟨vm₁, X₁, hstep₁⟩ := X.invokestatic hx hown (ht _ g1) hnamed hmethM hstatic hkP hinitP ⟨hd.1, hd.2.1⟩ (g := F0 m pc ls st0) rfl (argsL := As) (rest := rest) hlen hst (by rw [hb]; exact hdg)
  obtain ⟨q9, ce, T', L, X', hL, hz, hk, hce, hcv, hcl, st⟩ := kb_payX (a := As.toArray) (g := F0 m pc ls rest) X₁ (hM H.size) kb_blind ⟨rfl, kb_start hE hS hPc (hD.sub isC hnC hC) hF (T.setVm vm₁) hT X₁.warmed⟩ hR hf ht g5 g4 rfl (hls.trans hml.symm) (by rw [hb]; exact hdg) (lv_room hW) (X₁.named hnamed)
  have hz' : H.size ≤ T'.heap.size := by rw [← hT]; exact hz
  have hk' : ∀ q : Nat, q < H.size → ¬ va_A wc H.size q → T'.heap[q]? = H[q]? := by
    intro z h1 h2
    rw [← hT] at h1 ⊢
    exact hk z h1 h2
  obtain ⟨hP2, hD2, hS2⟩ := kb_afterX (F := A) hE hP hD hS isC isR hC hRr hn hdis hL hz' hk'
  have hcl' : s.vm.findClass E = some ce.cls := by
    have h1 : vm₁.findClass E = some ce.cls := hcl
    have h2 : s.vm.Alike vm₁ := X₁.warmed.alike
    rw [h2.findClass] at h1
    exact h1
  obtain ⟨t, a1, b1⟩ := kk q9 ce T'.heap (locs ++ L) hce hcv hcl' hP2 hD2 hS2 T' rfl X'
  exact ⟨t, hstep₁ _ fun acts => by rw [doInvoke_state]; exact st.trans a1, b1⟩
/-- not caught here: it leaves this method too -/
theorem kb_out {ce : Cell} {q9 : Addr} (hno : ∀ z ∈ c.exceptionTable.toList, False) (hlocks : meth.locks = false) (hce : H[q9]? = some ce) (hcv : ce.vm = .none) (hcl : s.vm.findClass E = some ce.cls) (hS : va_S A s.heap H locs) (hc : cells ≤ mc) (hs : slots ≤ ms) :
    kb_WX p l e R s m args below meth c H locs cells slots (kb_MX below E A args s mc ms) (F0 m pc ls rest) q9 := by
  intro T hT X
  obtain ⟨st1, hrun, hend, hW, hsm⟩ := X.leaveThrown q9 (g := F0 m pc ls rest) rfl rfl rfl (fun z hz => (hno z hz).elim) hlocks
  refine ⟨_, st1, .threw q9, hrun, hend, q9, ce, locs, rfl, hS.F hT, ?_, hcv, hcl, hW, hsm.mono hc hs, hS.2.2⟩
  show T.heap[q9]? = some ce
  rw [hT]
  exact hce
end KX
