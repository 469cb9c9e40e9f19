/-! methods with a table: the search of a handler, whose class is linked on the way -/
section KH
variable {p : Program} {l : Launch} {e : Env} {R : Room} {s : State} {m : MethodId} {args : Array Value} {below : List Frame} {meth : Method} {c : Code} {T : State} {H : Heap} {locs : List Loc} {cells slots : Nat} {Q : State → Prop}
/-- an entry that covers the pc: it takes the object, or it passes it on; either way its class is noted -/
theorem kb_go {f : JFrame} {a : Addr} {S : State} {d : Bool} {acts : List Action} {Qh : Handler → Pre} {Ec : CtlPost} {z : ExceptionTableEntry} {tl : List ExceptionTableEntry} {k : ClassId} {cell : Cell} (hz : covers z f.pc = true) (h0 : z.catchType ≠ 0)
    (hlk : S.vm.ClassLinks e.platform f.method.cls z.catchType k) (hcell : S.heap[a]? = some cell) (hobj : ∀ q, cell.vm ≠ .statics q) (h1 : ∃ q, S.vm.classes[cell.cls]? = some q) (h2 : ∃ q, S.vm.classes[k]? = some q) :
    wp (findHandler.go f a (z :: tl)) Qh Ec e d acts S ↔ if S.vm.assignable cell.cls k = true then Qh (.found z.handlerPc) d acts (S.setVm (S.vm.noted f.method.cls z.catchType (.cls k))) else wp (findHandler.go f a tl) Qh Ec e d acts (S.setVm (S.vm.noted f.method.cls z.catchType (.cls k))) := by
  simp only [covers] at hz
  obtain ⟨ha, ht⟩ := (resolveClass_links e.toSetting hlk).op (op := VmOp.resolveClass f.method.cls z.catchType) rfl
  have hal : S.vm.Alike (S.vm.noted f.method.cls z.catchType (.cls k)) := (Vm.Alike.refl S.vm).noted _ _ _
  obtain ⟨k1, hk1⟩ := h1
  obtain ⟨k2, hk2⟩ := h2
  obtain ⟨k1', hk1', -⟩ := hal.2.2 _ _ hk1
  obtain ⟨k2', hk2', -⟩ := hal.2.2 _ _ hk2
  have hs : (S.vm.noted f.method.cls z.catchType (.cls k)).assignable cell.cls k = S.vm.assignable cell.cls k := hal.assignable _ _
  by_cases hfit : S.vm.assignable cell.cls k = true
  · rw [hfit] at hs
    simp [findHandler.go, hz, h0, ha, ht, hcell, hobj, hk1', hk2', hs, hfit, VmOp.dirties, VmOp.acts]
  · have hno : S.vm.assignable cell.cls k = false := by simpa using hfit
    rw [hno] at hs
    simp [findHandler.go, hz, h0, ha, ht, hcell, hobj, hk1', hk2', hs, hno, VmOp.dirties, VmOp.acts]
/-- the search ends at the handler h, with the tables vm' -/
def kb_F (e : Env) (S : State) (f : JFrame) (a : Addr) (h : Nat) (vm' : Vm) : Prop := ∀ (Qh : Handler → Pre) (Ec : CtlPost) (d : Bool) (acts : List Action), wp (findHandler f a) Qh Ec e d acts S ↔ Qh (.found h) d acts (S.setVm vm')
theorem kb_caught {tb : Tables} {target : State} {g : JFrame} {a : Addr} {h : Nat} {vm' : Vm} (X : At T g.method c below) (hf : kb_F e ((T.setTop g).pushFrame (.throwing a)) g a h vm') (hrest : Steps tb e below ((T.setVm vm').setTop { g with pc := h, stack := [.ref a] }) target) : Steps tb e below ((T.setTop g).pushFrame (.throwing a)) target := by
  obtain ⟨hgo, hw⟩ := X.throwing a
  refine Steps.head hgo hw ?_
  have hst : ∀ r : List Frame, (stepThrowing e ((T.setTop g).pushFrame (.throwing a)) a (.java g :: r)).Is ((((T.setTop g).pushFrame (.throwing a)).setVm vm').setFrames (.java { g with pc := h, stack := [.ref a] } :: r)) [] := by
    intro r
    simp only [stepThrowing, searchFrame, vmDo]
    generalize hr : Sem.go _ e false [] _ = res
    obtain ⟨as, rfl, ha⟩ := Sem.eq_ok_of hr (a := Handler.found h) (s' := ((T.setTop g).pushFrame (.throwing a)).setVm vm') (acts' := []) (by simp [hf _ _ _ _])
    exact ⟨rfl, ha⟩
  rw [stepThread_throwing (frames_entered X.top _), (hst _).1]
  obtain ⟨g₀, hg⟩ := Option.isSome_iff_exists.mp X.top
  obtain ⟨r, hr⟩ := State.topJava?_eq_some.mp hg
  have hr' : (T.setVm vm').frames = .java g₀ :: r := hr
  have e1 : ∀ (u : State) (F1 F2 : List Frame), ((u.setFrames F1).setVm vm').setFrames F2 = (u.setVm vm').setFrames F2 := fun u F1 F2 => by
    have h9 : (u.setFrames F1).setVm vm' = (u.setVm vm').setFrames F1 := rfl
    rw [h9, State.setFrames_setFrames]
  rw [State.setTop_of_frames _ hr'] at hrest
  rw [hr, List.tail_cons, State.pushFrame, e1, State.setTop_of_frames _ hr, e1]
  exact hrest
variable {cc : ByteArray} {pc : Nat} {ls : Array Slot} {rest : List Value} {own E : String} {ce : Cell} {q9 : Addr}
/-- the first entry takes it -/
theorem kb_catch1 {name : String} {z : ExceptionTableEntry} {tl : List ExceptionTableEntry} (hown : s.vm.findClass own = some m.cls) (htab : c.exceptionTable.toList = z :: tl) (hz : covers z pc = true) (h0 : z.catchType ≠ 0) (hlink : (Cond.classLink own z.catchType name).before args s = true) (hcast : (Cond.castable E name).before args s = true)
    (hce : H[q9]? = some ce) (hcv : ce.vm = .none) (hcl : s.vm.findClass E = some ce.cls) (kk : W p l e R s m args below meth c H locs cells slots Q (F0 m z.handlerPc ls [.ref q9])) : kb_WX p l e R s m args below meth c H locs cells slots Q (F0 m pc ls rest) q9 := by
  intro T hT X
  have hpl : e.platform.magicAccessors = ({} : Platform).magicAccessors := by rw [X.admits.platform]
  obtain ⟨c3, c4, hc3, hc4, hasg⟩ := Cond.castable_spec hcast
  cases Option.some.inj (hc3.symm.trans hcl)
  obtain ⟨c5, hc5, hlk⟩ := Cond.classLink_spec hown hlink e.platform hpl
  cases Option.some.inj (hc4.symm.trans hc5)
  obtain ⟨dk, _, _, kt, hd, _, _, _, _, hkt, _, hopen⟩ := hlk.here
  obtain ⟨kt', hkt', -⟩ := X.warmed.alike.2.2 _ _ hkt
  obtain ⟨ke, hke, -⟩ := Vm.findClass_spec hcl
  obtain ⟨ke', hke', -⟩ := X.warmed.alike.2.2 _ _ hke
  have hW' : s.WarmedH (T.vm.noted m.cls z.catchType (.cls c4)) := X.warmed.noted hd hopen (State.rightAt_cls hlk)
  have hf : kb_F e ((T.setTop (F0 m pc ls rest)).pushFrame (.throwing q9)) (F0 m pc ls rest) q9 z.handlerPc (T.vm.noted m.cls z.catchType (.cls c4)) := by
    intro Qh Ec d acts
    rw [W.findHandler_eq (meth := meth) (code := c) X.method' X.code, htab, kb_go (e := e) (f := F0 m pc ls rest) (S := ((T.setTop (F0 m pc ls rest)).pushFrame (.throwing q9))) (k := c4) (cell := ce) hz h0 (X.warmed.classLinks hlk) (show T.heap[q9]? = some ce by rw [hT]; exact hce) (fun q h => by rw [hcv] at h; cases h) ⟨ke', hke'⟩ ⟨kt', hkt'⟩, if_pos (show ((T.setTop (F0 m pc ls rest)).pushFrame (.throwing q9)).vm.assignable ce.cls c4 = true from show T.vm.assignable ce.cls c4 = true by rw [X.warmed.alike.assignable]; exact hasg)]
    rfl
  obtain ⟨t, a1, b1⟩ := kk (T.setVm (T.vm.noted m.cls z.catchType (.cls c4))) hT (X.noted hW')
  exact ⟨t, kb_caught X.here hf a1, b1⟩
/-- the first entry passes it on, the second takes it -/
theorem kb_catch2 {nam1 name : String} {z1 z : ExceptionTableEntry} {tl : List ExceptionTableEntry} (hown : s.vm.findClass own = some m.cls) (htab : c.exceptionTable.toList = z1 :: z :: tl) (hz1 : covers z1 pc = true) (h01 : z1.catchType ≠ 0) (hlink1 : (Cond.classLink own z1.catchType nam1).before args s = true) (hnc : va_Nc E nam1 s)
    (hz : covers z pc = true) (h0 : z.catchType ≠ 0) (hlink : (Cond.classLink own z.catchType name).before args s = true) (hcast : (Cond.castable E name).before args s = true)
    (hce : H[q9]? = some ce) (hcv : ce.vm = .none) (hcl : s.vm.findClass E = some ce.cls) (kk : W p l e R s m args below meth c H locs cells slots Q (F0 m z.handlerPc ls [.ref q9])) : kb_WX p l e R s m args below meth c H locs cells slots Q (F0 m pc ls rest) q9 := by
  intro T hT X
  have hpl : e.platform.magicAccessors = ({} : Platform).magicAccessors := by rw [X.admits.platform]
  obtain ⟨c3, c4, hc3, hc4, hasg⟩ := Cond.castable_spec hcast
  cases Option.some.inj (hc3.symm.trans hcl)
  obtain ⟨c5, hc5, hlk⟩ := Cond.classLink_spec hown hlink e.platform hpl
  cases Option.some.inj (hc4.symm.trans hc5)
  obtain ⟨c6, c7, hc6, hc7, hnas⟩ := hnc
  cases Option.some.inj (hc6.symm.trans hcl)
  obtain ⟨c8, hc8, hlk1⟩ := Cond.classLink_spec hown hlink1 e.platform hpl
  cases Option.some.inj (hc7.symm.trans hc8)
  obtain ⟨dk1, _, _, kt1, hd1, _, _, _, _, hkt1, _, hopen1⟩ := hlk1.here
  obtain ⟨dk, _, _, kt, hd, _, _, _, _, hkt, _, hopen⟩ := hlk.here
  obtain ⟨ke, hke, -⟩ := Vm.findClass_spec hcl
  have hW1 : s.WarmedH (T.vm.noted m.cls z1.catchType (.cls c7)) := X.warmed.noted hd1 hopen1 (State.rightAt_cls hlk1)
  have hW' : s.WarmedH ((T.vm.noted m.cls z1.catchType (.cls c7)).noted m.cls z.catchType (.cls c4)) := hW1.noted hd hopen (State.rightAt_cls hlk)
  obtain ⟨kt1', hkt1', -⟩ := X.warmed.alike.2.2 _ _ hkt1
  obtain ⟨ke1', hke1', -⟩ := X.warmed.alike.2.2 _ _ hke
  obtain ⟨kt', hkt', -⟩ := hW1.alike.2.2 _ _ hkt
  obtain ⟨ke', hke', -⟩ := hW1.alike.2.2 _ _ hke
  have hf : kb_F e ((T.setTop (F0 m pc ls rest)).pushFrame (.throwing q9)) (F0 m pc ls rest) q9 z.handlerPc ((T.vm.noted m.cls z1.catchType (.cls c7)).noted m.cls z.catchType (.cls c4)) := by
    intro Qh Ec d acts
    rw [W.findHandler_eq (meth := meth) (code := c) X.method' X.code, htab, kb_go (e := e) (f := F0 m pc ls rest) (S := ((T.setTop (F0 m pc ls rest)).pushFrame (.throwing q9))) (k := c7) (cell := ce) hz1 h01 (X.warmed.classLinks hlk1) (show T.heap[q9]? = some ce by rw [hT]; exact hce) (fun q h => by rw [hcv] at h; cases h) ⟨ke1', hke1'⟩ ⟨kt1', hkt1'⟩, if_neg (show ¬ ((T.setTop (F0 m pc ls rest)).pushFrame (.throwing q9)).vm.assignable ce.cls c7 = true from show ¬ T.vm.assignable ce.cls c7 = true by rw [X.warmed.alike.assignable, hnas]; decide),
      kb_go (e := e) (f := F0 m pc ls rest) (S := ((T.setTop (F0 m pc ls rest)).pushFrame (.throwing q9)).setVm (((T.setTop (F0 m pc ls rest)).pushFrame (.throwing q9)).vm.noted (F0 m pc ls rest).method.cls z1.catchType (.cls c7))) (k := c4) (cell := ce) hz h0 (hW1.classLinks hlk) (show T.heap[q9]? = some ce by rw [hT]; exact hce) (fun q h => by rw [hcv] at h; cases h) ⟨ke', hke'⟩ ⟨kt', hkt'⟩, if_pos (show (((T.setTop (F0 m pc ls rest)).pushFrame (.throwing q9)).setVm (((T.setTop (F0 m pc ls rest)).pushFrame (.throwing q9)).vm.noted (F0 m pc ls rest).method.cls z1.catchType (.cls c7))).vm.assignable ce.cls c4 = true from show (T.vm.noted m.cls z1.catchType (.cls c7)).assignable ce.cls c4 = true by rw [hW1.alike.assignable]; exact hasg)]
    rfl
  obtain ⟨t, a1, b1⟩ := kk (T.setVm ((T.vm.noted m.cls z1.catchType (.cls c7)).noted m.cls z.catchType (.cls c4))) hT (X.noted hW')
  exact ⟨t, kb_caught X.here hf a1, b1⟩
end KH
/-! a method with a table: its contract, its body, its call -/
def kb_WH (y : MethodName) (c : ByteArray) (n : Nat) (r : Option FieldType) (hh : List (Nat × Nat × Nat × Nat)) : List Cond := .codeWith y c n r hh :: kb_T
def kb_ch (l : Launch) (G : kb_G) (y : MethodName) (c : ByteArray) (n : Nat) (r : Option FieldType) (hh : List (Nat × Nat × Nat × Nat)) (k mc ms : Nat) (av : List Value) (wi : va_W) (post : Int32 → kb_S → Prop) (wo : kb_S → va_W) : Prop :=
  ∀ sz, Met l y (kb_WH y c n r hh) (kb_rm k mc ms) (va_Pc av (kb_Pre G wi sz)) (kb_Qi G (va_A wi sz) post wo) mc ms (va_A wi sz)
theorem kb_bodyH {l : Launch} {G : kb_G} {y : MethodName} {bytes : ByteArray} {maxL : Nat} {ret : Option FieldType} {hh : List (Nat × Nat × Nat × Nat)} {k mc ms : Nat} {av : List Value} {wi : va_W} {post : Int32 → kb_S → Prop} {wo : kb_S → va_W} (hy : plainName y.cls = true) (hav : (lg_sl av).length ≤ maxL)
    (body : ∀ p e s m below meth c A, kb_B G y bytes maxL ret av wi p s m meth c A → c.exceptionTable.toList.map (fun h => (h.startPc, h.endPc, h.handlerPc, h.catchType)) = hh → ∀ ls, lv_has ls maxL (lv_args 0 av) → W p l e (kb_rm k mc ms) s m av.toArray below meth c s.heap [] 0 0 (MQ below (kb_Qi G A post wo) av.toArray s mc ms A) (F0 m 0 ls [])) :
    kb_ch l G y bytes maxL ret hh k mc ms av wi post wo := by
  intro sz
  refine va_MetW (cc := bytes) (maxL := maxL) (ret := ret) (hh := hh) hy rfl ?_
  intro p e s m args below meth c s₁ B hml hv
  obtain ⟨rfl, hsz, hP, hK, hD0, hZ, hN⟩ := hv
  subst hsz
  have hts := atoms_spec (ws := kb_WH y bytes maxL ret hh) B.pre
  have htab : c.exceptionTable.toList.map (fun h => (h.startPc, h.endPc, h.handlerPc, h.catchType)) = hh := by
    obtain ⟨m9, meth9, c9, hn9, h1, h2, -, -, h6, -⟩ := Cond.codeWith_spec (hts _ List.mem_cons_self)
    cases Option.some.inj (hn9.symm.trans B.named)
    cases Option.some.inj (h1.symm.trans B.method)
    cases Option.some.inj (h2.symm.trans (Stand.of_body B).code)
    exact h6
  have h := body p e s m below meth c (va_A wi s.heap.size) ⟨B.exec, B.bytes, B.returns, hml, B.notSynchronized, (name_of_methodNamed B.named B.method).1, findClass_of_methodNamed B.named, fun w hw => hts w (List.mem_cons_of_mem _ hw), ⟨hK, hZ, hN, fun q hq => Or.inr hq⟩, hP, hD0.self, va_S.rf⟩ htab
  rw [lg_entry_eq]
  exact h _ (lv_entry av (n := maxL) hav)
section KI
variable {p : Program} {l : Launch} {e : Env} {R : Room} {s : State} {m : MethodId} {args : Array Value} {below : List Frame} {meth : Method} {c : Code} {T : State} {H : Heap} {locs : List Loc} {cells slots : Nat} {Q : State → Prop}
variable {G : kb_G} {A : Nat → Prop} {ws wc wr : va_W} {cc : ByteArray} {pc nL : Nat} {ls : Array Slot} {rest st0 As : List Value}
variable {y : MethodName} {bytes : ByteArray} {maxL k mc ms index : Nat} {ret : Option FieldType} {own : String} {hh : List (Nat × Nat × Nat × Nat)}
theorem kb_rH {post : Int32 → kb_S → Prop} {wo : kb_S → va_W} (S : CallFix p m c cc nL s args kb_T own) (hM : kb_ch l G y bytes maxL ret hh k mc ms As wc post wo) (g1 : Cond.codeWith y bytes maxL ret hh ∈ kb_T) (g2 : Cond.initialized y.cls ∈ kb_T) (g3 : Cond.methodLink own index y ∈ kb_T) (g4 : Cond.static y ∈ kb_T)
    (hd : y.cls ≠ "java/lang/invoke/MethodHandle" ∧ y.cls ≠ "java/lang/invoke/VarHandle" ∧ (parseMethodDescriptor y.desc).map (fun d => d.parameters.length) = some As.length) (hR : k + 1 ≤ R.frames ∧ 8 + (maxL + 11) + 32 * k ≤ R.locals)
    (hE : kb_E G A s) (hP : va_P G.1 kb_cl ws H) (hD : va_D A ws) (hS : va_S A s.heap H locs) (isC : List Nat) (hC : isC.map (fun i => ws[i]?) = wc.map some) (hn : va_nd isC = true)
    (hls : ls.size = nL) (hst : st0 = As.reverse ++ rest) (hW : (rest.map fun v => v.category).sum ≤ 8) (hdg : decode cc pc = .ok (.invokestatic index, 3)) (hf : cells + mc ≤ R.cells ∧ slots + ms ≤ R.slots) :
    va_Run p l e R s m args below meth c H locs cells slots mc ms (F0 m pc ls st0) rest (kb_Qi G (va_A wc H.size) post wo As.toArray) (va_A wc H.size) := by
  obtain ⟨hx, hb, hml, hown, ht⟩ := S
  have hPc := kb_cut hP isC hC
  have hF := va_free hD hS hE.2.2.2 isC hC
  have pay : ∀ w ∈ kb_T, ∀ (a' : Array Value) (U : State), s.WarmedH U.vm → w.before a' U = true := fun w hw a' U hU => word_at hU (good_of_word (kb_good hw)) (ht w hw)
  have hK : Back l R p e below s args y 3 8 (PreOf R mc ms (va_Pc As (kb_Pre G wc H.size))) (PostOf (kb_Qi G (va_A wc H.size) post wo) mc ms (va_A wc H.size)) :=
    va_backW (hh := hh) (bytes := bytes) (maxL := maxL) (ret := ret) (hM H.size) kb_blind rfl rfl hR.1 hR.2 (fun w hw => (List.mem_cons.mp hw).elim (fun e => by rw [e]; exact pay _ g1) (pay w)) List.mem_cons_self (pay _ g2)
  intro T hT X
  obtain ⟨mkn, methM, cM, hnamed, hmethM, -, -, -, -, -, -, hsigM⟩ := Cond.codeWith_spec (ht _ g1)
  have hstatic : methM.isStatic = true := Cond.static_spec hnamed hmethM (ht _ g4)
  obtain ⟨kP, hkP, -⟩ := className_of_methodNamed hnamed
  have hinitP : kP.init = .initialized := Cond.initialized_spec (findClass_of_methodNamed hnamed) hkP (ht _ g2)
  have hlen : As.length = methM.sig.parameters.length := by
    have h9 := hd.2.2
    rw [hsigM] at h9
    exact (Option.some.inj h9).symm
  obtain ⟨vm₁, X₁, hstep₁⟩ := X.invokestatic hx hown (ht _ g3) hnamed hmethM hstatic hkP hinitP ⟨hd.1, hd.2.1⟩ (g := F0 m pc ls st0) rfl (argsL := As) (rest := rest) hlen hst (by rw [hb]; exact hdg)
  obtain ⟨v, ⟨U', l2, c2, s2⟩, X', ⟨g', mk, t, L, e1, e2, hq, h1, hL, h2, h3⟩, hsteps⟩ := hK m meth c ⟨T.setVm vm₁, locs, cells, slots⟩ (F0 m pc ls rest) (.invokestatic index) mkn As.toArray X₁ rfl (hls.trans hml.symm) (by rw [hb]; exact hdg) (lv_room hW) (X₁.named hnamed) ⟨hf.1, hf.2, rfl, kb_start hE hS hPc (hD.sub isC hn hC) hF (T.setVm vm₁) hT X₁.warmed⟩
  dsimp only [Pt.U, Pt.locs, Pt.cells, Pt.slots] at X' e1 e2 h1 h2 h3 hsteps
  subst h1; subst h2; subst h3
  exact ⟨v, (T.setVm vm₁).calling g' mk As.toArray, t, U', L, hT, X', hL, e1, e2, hq, fun target h => hstep₁ _ fun acts => by rw [doInvoke_state]; exact hsteps.trans h⟩
end KI
