section KC
variable {p : Program} {l : Launch} {e : Env} {R : Room} {s : State} {m : MethodId} {args : Array Value} {below : List Frame} {meth : Method} {c : Code} {H : Heap} {locs : List Loc} {cells slots : Nat} {Q : State → Prop}
variable {G : kb_G} {A : Nat → Prop} {ws wc wr : va_W} {cc : ByteArray} {pc nL : Nat} {ls : Array Slot} {rest st0 As : List Value}
variable {y : MethodName} {bytes : ByteArray} {maxL k mc ms index : Nat} {ret : Option FieldType} {own C host : String} {b q0 ci : Nat} {fs : List Value} {q : vw_C}
variable {QQ : (Nat → Prop) → Array Value → State → Outcome → State → Prop}
/-- the callee's cells out of the caller's -/
theorem kb_cut (hP : va_P G.1 kb_cl ws H) (isC : List Nat) (hC : isC.map (fun i => ws[i]?) = wc.map some) : va_P G.1 kb_cl wc H := by
  intro k q hk
  have h1 : (isC.map (fun i => ws[i]?))[k]? = some (some q) := by rw [hC, List.getElem?_map, hk]; rfl
  rw [List.getElem?_map] at h1
  cases hi : isC[k]? with
  | none => rw [hi] at h1; cases h1
  | some i => rw [hi] at h1; exact hP i q (Option.some.inj h1)
theorem kb_rV (S : CallFix p m c cc nL s args kb_T own) (hM : Met l y (kb_W y bytes maxL ret) (kb_rm k mc ms) (va_Pc (.ref b :: As) (kb_Pre G wc H.size)) (QQ (va_A wc H.size)) mc ms (va_A wc H.size)) (gd : GoodIn kb_T (wsV own index C y (kb_W y bytes maxL ret)))
    (hd : y.cls = C ∧ y.cls ≠ "java/lang/invoke/MethodHandle" ∧ y.cls ≠ "java/lang/invoke/VarHandle" ∧ (parseMethodDescriptor y.desc).map (fun d => d.parameters.length) = some As.length) (hR : k + 1 ≤ R.frames ∧ 8 + (maxL + 11) + 32 * k ≤ R.locals)
    (hE : kb_E G A s) (hP : va_P G.1 kb_cl ws H) (hD : va_D A ws) (hS : va_S A s.heap H locs) (isC : List Nat) (hC : isC.map (fun i => ws[i]?) = wc.map some) (hn : va_nd isC = true)
    (he : wc[q0]? = some (b, .inr (ci, fs))) (hc : kb_cl[ci]? = some q) (hq : q.1 = C) (hls : ls.size = nL) (hst : st0 = As.reverse ++ .ref b :: rest) (hW : (rest.map fun v => v.category).sum ≤ 8) (hdg : decode cc pc = .ok (.invokevirtual index, 3)) (hf : cells + mc ≤ R.cells ∧ slots + ms ≤ R.slots) :
    va_Run p l e R s m args below meth c H locs cells slots mc ms (F0 m pc ls st0) rest (QQ (va_A wc H.size) (Value.ref b :: As).toArray) (va_A wc H.size) := by
  subst hq
  have hPc := kb_cut hP isC hC
  have hF := va_free hD hS hE.2.2.2 isC hC
  exact va_runV (As := As) (rest := rest) (b := b) S hM (cwV As.length S.2.2.2.2 gd rfl rfl rfl hd hR) ⟨kb_blind, va_recv hE.1 hPc hc he, fun U hU hW => ⟨rfl, kb_start hE hS hPc (hD.sub isC hn hC) hF U hU hW⟩⟩ rfl rfl hls hst (lv_room hW) hdg hf
theorem kb_rI (S : CallFix p m c cc nL s args kb_T own) (hM : Met l y (kb_W y bytes maxL none) (kb_rm k mc ms) (va_Pc (.ref b :: As) (kb_Pre G wc H.size)) (QQ (va_A wc H.size)) mc ms (va_A wc H.size)) (g1 : Cond.code y bytes maxL none ∈ kb_T) (g2 : Cond.initialized y.cls ∈ kb_T) (g3 : Cond.methodLink own index y ∈ kb_T) (g4 : Cond.instanceMethod y ∈ kb_T) (hy : y.name = "<init>")
    (hd : y.cls ≠ "java/lang/invoke/MethodHandle" ∧ y.cls ≠ "java/lang/invoke/VarHandle" ∧ (parseMethodDescriptor y.desc).map (fun d => d.parameters.length) = some As.length) (hR : k + 1 ≤ R.frames ∧ 8 + (maxL + 11) + 32 * k ≤ R.locals)
    (hE : kb_E G A s) (hP : va_P G.1 kb_cl ws H) (hD : va_D A ws) (hS : va_S A s.heap H locs) (isC : List Nat) (hC : isC.map (fun i => ws[i]?) = wc.map some) (hn : va_nd isC = true)
    (hls : ls.size = nL) (hst : st0 = As.reverse ++ .ref b :: rest) (hW : (rest.map fun v => v.category).sum ≤ 8) (hdg : decode cc pc = .ok (.invokespecial index, 3)) (hf : cells + mc ≤ R.cells ∧ slots + ms ≤ R.slots) :
    va_Run p l e R s m args below meth c H locs cells slots mc ms (F0 m pc ls st0) rest (QQ (va_A wc H.size) (Value.ref b :: As).toArray) (va_A wc H.size) := by
  have hPc := kb_cut hP isC hC
  have hF := va_free hD hS hE.2.2.2 isC hC
  exact va_runI (As := As) (rest := rest) (b := b) S hM (cwI As.length S.2.2.2.2 (kb_gW g1) rfl rfl rfl (S.2.2.2.2 _ g2) (S.2.2.2.2 _ g3) (S.2.2.2.2 _ g4) hy hd hR) ⟨kb_blind, fun U hU hW => ⟨rfl, kb_start hE hS hPc (hD.sub isC hn hC) hF U hU hW⟩⟩ rfl rfl hls hst (lv_room hW) hdg hf
theorem kb_rIN (S : CallFix p m c cc nL s args kb_T own) (hM : Met l y (kb_W y bytes maxL none) (kb_rm k mc ms) (va_Pc (.ref b :: As) (kb_Pre G wc H.size)) (QQ (va_A wc H.size)) mc ms (va_A wc H.size)) (g1 : Cond.code y bytes maxL none ∈ kb_T) (g2 : Cond.initialized y.cls ∈ kb_T) (g3 : va_Nw (.methodLinkNest own index y host) s) (g4 : Cond.instanceMethod y ∈ kb_T) (hy : y.name = "<init>")
    (hd : y.cls ≠ "java/lang/invoke/MethodHandle" ∧ y.cls ≠ "java/lang/invoke/VarHandle" ∧ (parseMethodDescriptor y.desc).map (fun d => d.parameters.length) = some As.length) (hR : k + 1 ≤ R.frames ∧ 8 + (maxL + 11) + 32 * k ≤ R.locals)
    (hE : kb_E G A s) (hP : va_P G.1 kb_cl ws H) (hD : va_D A ws) (hS : va_S A s.heap H locs) (isC : List Nat) (hC : isC.map (fun i => ws[i]?) = wc.map some) (hn : va_nd isC = true)
    (hls : ls.size = nL) (hst : st0 = As.reverse ++ .ref b :: rest) (hW : (rest.map fun v => v.category).sum ≤ 8) (hdg : decode cc pc = .ok (.invokespecial index, 3)) (hf : cells + mc ≤ R.cells ∧ slots + ms ≤ R.slots) :
    va_Run p l e R s m args below meth c H locs cells slots mc ms (F0 m pc ls st0) rest (QQ (va_A wc H.size) (Value.ref b :: As).toArray) (va_A wc H.size) := by
  have hPc := kb_cut hP isC hC
  have hF := va_free hD hS hE.2.2.2 isC hC
  exact va_runIN (As := As) (rest := rest) (b := b) (host := host) S hM ⟨va_cnB As.length S.2.2.2.2 (kb_gW g1) rfl rfl rfl g3 (S.2.2.2.2 _ g2) hd hR, hy, S.2.2.2.2 _ g4⟩ ⟨kb_blind, fun U hU hW => ⟨rfl, kb_start hE hS hPc (hD.sub isC hn hC) hF U hU hW⟩⟩ rfl rfl hls hst (lv_room hW) hdg hf
theorem kb_rS (S : CallFix p m c cc nL s args kb_T own) (hM : Met l y (kb_W y bytes maxL ret) (kb_rm k mc ms) (va_Pc As (kb_Pre G wc H.size)) (QQ (va_A wc H.size)) mc ms (va_A wc H.size)) (g1 : Cond.code y bytes maxL ret ∈ kb_T) (g2 : Cond.initialized y.cls ∈ kb_T) (g3 : Cond.methodLink own index y ∈ kb_T) (g4 : Cond.static y ∈ kb_T)
    (hd : y.cls ≠ "java/lang/invoke/MethodHandle" ∧ y.cls ≠ "java/lang/invoke/VarHandle" ∧ (parseMethodDescriptor y.desc).map (fun d => d.parameters.length) = some As.length) (hR : k + 1 ≤ R.frames ∧ 8 + (maxL + 11) + 32 * k ≤ R.locals)
    (hE : kb_E G A s) (hP : va_P G.1 kb_cl ws H) (hD : va_D A ws) (hS : va_S A s.heap H locs) (isC : List Nat) (hC : isC.map (fun i => ws[i]?) = wc.map some) (hn : va_nd isC = true)
    (hls : ls.size = nL) (hst : st0 = As.reverse ++ rest) (hW : (rest.map fun v => v.category).sum ≤ 8) (hdg : decode cc pc = .ok (.invokestatic index, 3)) (hf : cells + mc ≤ R.cells ∧ slots + ms ≤ R.slots) :
    va_Run p l e R s m args below meth c H locs cells slots mc ms (F0 m pc ls st0) rest (QQ (va_A wc H.size) As.toArray) (va_A wc H.size) := by
  have hPc := kb_cut hP isC hC
  have hF := va_free hD hS hE.2.2.2 isC hC
  exact va_runS (As := As) (rest := rest) S hM ⟨callB_of As.length S.2.2.2.2 (kb_gW g1) rfl rfl rfl (S.2.2.2.2 _ g2) (S.2.2.2.2 _ g3) hd hR, S.2.2.2.2 _ g4⟩ ⟨kb_blind, fun U hU hW => ⟨rfl, kb_start hE hS hPc (hD.sub isC hn hC) hF U hU hW⟩⟩ rfl rfl hls hst (lv_room hW) hdg hf
theorem kb_rSN (S : CallFix p m c cc nL s args kb_T own) (hM : Met l y (kb_W y bytes maxL ret) (kb_rm k mc ms) (va_Pc As (kb_Pre G wc H.size)) (QQ (va_A wc H.size)) mc ms (va_A wc H.size)) (g1 : Cond.code y bytes maxL ret ∈ kb_T) (g2 : Cond.initialized y.cls ∈ kb_T) (g3 : va_Nw (.methodLinkNest own index y host) s) (g4 : Cond.static y ∈ kb_T)
    (hd : y.cls ≠ "java/lang/invoke/MethodHandle" ∧ y.cls ≠ "java/lang/invoke/VarHandle" ∧ (parseMethodDescriptor y.desc).map (fun d => d.parameters.length) = some As.length) (hR : k + 1 ≤ R.frames ∧ 8 + (maxL + 11) + 32 * k ≤ R.locals)
    (hE : kb_E G A s) (hP : va_P G.1 kb_cl ws H) (hD : va_D A ws) (hS : va_S A s.heap H locs) (isC : List Nat) (hC : isC.map (fun i => ws[i]?) = wc.map some) (hn : va_nd isC = true)
    (hls : ls.size = nL) (hst : st0 = As.reverse ++ rest) (hW : (rest.map fun v => v.category).sum ≤ 8) (hdg : decode cc pc = .ok (.invokestatic index, 3)) (hf : cells + mc ≤ R.cells ∧ slots + ms ≤ R.slots) :
    va_Run p l e R s m args below meth c H locs cells slots mc ms (F0 m pc ls st0) rest (QQ (va_A wc H.size) As.toArray) (va_A wc H.size) := by
  have hPc := kb_cut hP isC hC
  have hF := va_free hD hS hE.2.2.2 isC hC
  exact va_runSN (As := As) (rest := rest) (host := host) S hM ⟨va_cnB As.length S.2.2.2.2 (kb_gW g1) rfl rfl rfl g3 (S.2.2.2.2 _ g2) hd hR, S.2.2.2.2 _ g4, trivial⟩ ⟨kb_blind, fun U hU hW => ⟨rfl, kb_start hE hS hPc (hD.sub isC hn hC) hF U hU hW⟩⟩ rfl rfl hls hst (lv_room hW) hdg hf
variable {a : Array Value}
/-- behind the call: the caller's other cells, then what the callee leaves -/
theorem kb_i {post : Int32 → kb_S → Prop} {wo : kb_S → va_W} (hE : kb_E G A s) (hP : va_P G.1 kb_cl ws H) (hD : va_D A ws) (hS : va_S A s.heap H locs) (isC isR : List Nat) (hC : isC.map (fun i => ws[i]?) = wc.map some) (hR : isR.map (fun i => ws[i]?) = wr.map some) (hn : va_nd isR = true) (hdis : ∀ i ∈ isR, i ∉ isC)
    (hr : va_Run p l e R s m args below meth c H locs cells slots mc ms (F0 m pc ls st0) rest (kb_Qi G (va_A wc H.size) post wo a) (va_A wc H.size))
    (kk : ∀ (r : Int32) (u : kb_S) (H1 : Heap) (locs1 : List Loc), post r u → va_P G.1 kb_cl (wr ++ wo u) H1 → va_D A (wr ++ wo u) → va_S A s.heap H1 locs1 → W p l e R s m args below meth c H1 locs1 (cells + mc) (slots + ms) Q (F0 m (pc + 3) ls (.int r :: rest))) : W p l e R s m args below meth c H locs cells slots Q (F0 m pc ls st0) := by
  have hF := va_free hD hS hE.2.2.2 isC hC
  refine va_calli hr hS (fun q _ h => hF q h) hF (fun r u t H1 locs1 ht hvm hw hB hz1 hk1 hS1 => ?_)
  obtain ⟨hP1, hK1, hD1⟩ := hB
  rw [ht] at hP1
  obtain ⟨hP2, hD2⟩ := va_join (wr := wr) (w1 := wo u) hP hD isC isR hC hR hn hdis hk1 hF hP1 hD1
  exact kk r u H1 locs1 hw hP2 hD2 hS1
theorem kb_v {post : kb_S → Prop} {wo : kb_S → va_W} (hE : kb_E G A s) (hP : va_P G.1 kb_cl ws H) (hD : va_D A ws) (hS : va_S A s.heap H locs) (isC isR : List Nat) (hC : isC.map (fun i => ws[i]?) = wc.map some) (hR : isR.map (fun i => ws[i]?) = wr.map some) (hn : va_nd isR = true) (hdis : ∀ i ∈ isR, i ∉ isC)
    (hr : va_Run p l e R s m args below meth c H locs cells slots mc ms (F0 m pc ls st0) rest (kb_Qv G (va_A wc H.size) post wo a) (va_A wc H.size))
    (kk : ∀ (u : kb_S) (H1 : Heap) (locs1 : List Loc), post u → va_P G.1 kb_cl (wr ++ wo u) H1 → va_D A (wr ++ wo u) → va_S A s.heap H1 locs1 → W p l e R s m args below meth c H1 locs1 (cells + mc) (slots + ms) Q (F0 m (pc + 3) ls rest)) : W p l e R s m args below meth c H locs cells slots Q (F0 m pc ls st0) := by
  have hF := va_free hD hS hE.2.2.2 isC hC
  refine va_callv hr hS (fun q _ h => hF q h) hF (fun u t H1 locs1 ht hvm hw hB hz1 hk1 hS1 => ?_)
  obtain ⟨hP1, hK1, hD1⟩ := hB
  rw [ht] at hP1
  obtain ⟨hP2, hD2⟩ := va_join (wr := wr) (w1 := wo u) hP hD isC isR hC hR hn hdis hk1 hF hP1 hD1
  exact kk u H1 locs1 hw hP2 hD2 hS1
theorem kb_r {post : kb_S → Prop} {wo : kb_S → va_W} (hE : kb_E G A s) (hP : va_P G.1 kb_cl ws H) (hD : va_D A ws) (hS : va_S A s.heap H locs) (isC isR : List Nat) (hC : isC.map (fun i => ws[i]?) = wc.map some) (hR : isR.map (fun i => ws[i]?) = wr.map some) (hn : va_nd isR = true) (hdis : ∀ i ∈ isR, i ∉ isC)
    (hr : va_Run p l e R s m args below meth c H locs cells slots mc ms (F0 m pc ls st0) rest (kb_Qr G (va_A wc H.size) post wo a) (va_A wc H.size))
    (kk : ∀ (u : kb_S) (H1 : Heap) (locs1 : List Loc), post u → va_P G.1 kb_cl (wr ++ wo u) H1 → va_D A (wr ++ wo u) → va_S A s.heap H1 locs1 → W p l e R s m args below meth c H1 locs1 (cells + mc) (slots + ms) Q (F0 m (pc + 3) ls (.ref (u.1 0) :: rest))) : W p l e R s m args below meth c H locs cells slots Q (F0 m pc ls st0) := by
  have hF := va_free hD hS hE.2.2.2 isC hC
  refine va_callr hr hS (fun q _ h => hF q h) hF (fun u ra t H1 locs1 ht hvm hw hB hz1 hk1 hS1 => ?_)
  obtain ⟨ha, hP1, hK1, hD1⟩ := hB
  rw [ht] at hP1
  obtain ⟨hP2, hD2⟩ := va_join (wr := wr) (w1 := wo u) hP hD isC isR hC hR hn hdis hk1 hF hP1 hD1
  rw [ha]
  exact kk u H1 locs1 hw hP2 hD2 hS1
end KC
