/-! a method that throws, its call, and what catches it -/
theorem tk_keep {s t : State} {mc ms : Nat} (h : s.sameButNew ({ t with vm := s.vm } : State) [] mc ms) : s.heap.size ≤ t.heap.size ∧ ∀ q, q < s.heap.size → t.heap[q]? = s.heap[q]? := by
  obtain ⟨-, h2, -, -, -, h6⟩ := h
  refine ⟨h2, fun q hq => ?_⟩
  obtain ⟨c', e1, e2, e3, e4⟩ := h6 q s.heap[q] (by simp [hq])
  have e1 : t.heap[q]? = some c' := e1
  have e5 : c'.slots = (s.heap[q]).slots := Array.ext_getElem? (fun i => e4 i (by simp))
  have e6 : c' = s.heap[q] := by rw [e2, e5]
  rw [e1, e6]
  simp [hq]
def TQ (below : List Frame) (s : State) (X : String) (mc ms : Nat) : State → Prop := fun t =>
  ∃ (x : Addr) (ce : Cell), t.status = .running ∧ Ended t below (.threw x) ∧ s.WarmedH t.vm ∧ s.sameButNew ({ t with vm := s.vm } : State) [] mc ms ∧ t.heap[x]? = some ce ∧ s.vm.findClass X = some ce.cls ∧ ce.vm.isStatics = false
section TK1
variable {p : Program} {l : Launch} {e : Env} {R : Room} {s : State} {m : MethodId} {args : Array Value} {below : List Frame} {meth : Method} {c : Code}
variable {cc : ByteArray} {nL pc : Nat} {ls : Array Slot}
/-- new, dup, ldc, the constructor, athrow -/
theorem tk_throw (S : CallFix p m c cc nL s args tb "ProofReader") (htr : l.stackTraces = false) (hlocks : meth.locks = false) (hnt : c.exceptionTable.toList = [])
    {X tx : String} {i1 i2 i3 : Nat} (k1 : Cond.classLink "ProofReader" i1 X ∈ tb) (k2 : Cond.instantiable X 6 ∈ tb) (k3 : Cond.initialized X ∈ tb)
    (hZ : ∃ a, vk_R "ProofReader" i2 tx a s) (hown : ∀ a ∈ Bundle.ownAtoms "ProofReader" i3 X tk_nms, a.before args s = true) (hfit : Bundle.fit X = true) (hls : ls.size = nL)
    (d0 : decode cc pc = .ok (.new i1, 3)) (d1 : decode cc (pc + 3) = .ok (.dup, 1)) (d2 : decode cc (pc + 4) = .ok (.ldc i2, 2)) (d3 : decode cc (pc + 6) = .ok (.invokespecial i3, 3)) (d4 : decode cc (pc + 9) = .ok (.athrow, 1))
    (hR : 5 < R.frames ∧ 100 ≤ R.locals ∧ 1 ≤ R.cells ∧ 6 ≤ R.slots) :
    W p l e R s m args below meth c s.heap [] 0 0 (TQ below s X 1 6) (F0 m pc ls []) := by
  obtain ⟨r1, r2, r3, r4⟩ := hR
  refine W.newc S.1 S.2.1 S.2.2.2.1 (S.2.2.2.2 _ k1) (S.2.2.2.2 _ k2) (S.2.2.2.2 _ k3) (g := F0 m pc ls []) rfl d0 (by omega) (by omega) (fun cC kC h1 h2 h3 h4 => ?_)
  show W p l e R s m args below meth c _ [] (0 + 1) (0 + 6) (TQ below s X 1 6) (F0 m (pc + 3) ls [.ref s.heap.size])
  refine lv_dup S.1 S.2.1 d1 rfl ?_
  obtain ⟨q, hZ⟩ := hZ
  refine va_ldcS S.1 S.2.1 S.2.2.2.1 hZ d2 ?_
  intro T hT XX
  have ht : e.platform.stackTraces = l.stackTraces := by rw [XX.admits.platform]
  obtain ⟨U, st, hrun, hend, hWm, hsame, ce, hce, O⟩ := XX.ctorThrowS S.1 (ht.trans htr) (own := "ProofReader") (cls := X) (names := tk_nms) (ic := i3) S.2.2.2.1 hfit (by decide) hown (fun x hx => by cases hx) h1 h2 (a := s.heap.size) (by rw [hT]; simp [freshCell]) (Nat.le_refl _) (msg := .ref q) rfl
    (g := F0 m (pc + 6) ls [.ref q, .ref s.heap.size, .ref s.heap.size]) rfl (hls.trans S.2.2.1.symm) rfl rfl (rest := []) rfl (by rw [S.2.1]; exact d3) (by rw [S.2.1]; exact d4) (fun x hx => by rw [hnt] at hx; cases hx) (by show 2 + 3 < R.frames; omega) (by show 2 * 0 + 1 + (13 * (2 + 1) + 42) ≤ R.locals; omega) hlocks
  exact ⟨U, st, s.heap.size, ce, hrun, hend, hWm, hsame, hce, O.cls, by rw [O.vm]; rfl⟩
end TK1
/-- a method that throws an X, writes nothing that was there, and makes no more than its room -/
def Ct (l : Launch) (D : va_G) (tys : Tys) (y : MethodName) (cc : ByteArray) (n : Nat) (ret : Option FieldType) (rm : Room) (av : List Value) (ws : va_W) (X : String) : Prop :=
  ∀ sz, MetFree l y (headSpec (mw y cc n ret) rm) (va_Pc av (fun U => PcW D tys sz ws U ∧ Tw U)) (fun _ _ _ _ _ => True)
    (fun _ st o t => ∃ (x : Addr) (ce : Cell), o = .threw x ∧ st.WarmedH t.vm ∧ st.sameButNew ({ t with vm := st.vm } : State) [] rm.cells rm.slots ∧ t.heap[x]? = some ce ∧ st.vm.findClass X = some ce.cls ∧ ce.vm.isStatics = false)
theorem ct_of {l : Launch} {D : va_G} {tys : Tys} {y : MethodName} {cc : ByteArray} {n : Nat} {ret : Option FieldType} {rm : Room} {av : List Value} {ws : va_W} {own X : String} (hy : plainName y.cls = true) (ho : y.cls = own) (hn : (lg_sl av).length ≤ n)
    (body : ∀ (p : Program) (e : Env) (s : State) (m : MethodId) (args : Array Value) (below : List Frame) (meth : Method) (c : Code) (A : Nat → Prop), CallFix p m c cc n s args tb own → meth.locks = false → c.exceptionTable.toList = [] → Tw s →
      ∀ ls, lv_has ls n (lv_args 0 av) → Wd D tys A s s.heap s.heap [] ws → W p l e rm s m args below meth c s.heap [] 0 0 (TQ below s X rm.cells rm.slots) (F0 m 0 ls [])) : Ct l D tys y cc n ret rm av ws X := by
  intro sz
  refine MetFree.of_bodyS (code := cc) (maxLocals := n) (ret := ret) hy ?_ ?_
  · intro args s m h hn
    obtain ⟨meth, c, h1, h2, h3, h4, h5, h6, -, -⟩ := Cond.code_spec hn (atoms_spec (ws := mw y cc n ret) h _ List.mem_cons_self)
    exact ⟨meth, c, h1, h2, h3, h4, h5, h6⟩
  · intro p e s m args below meth c s₁ B hml hv _
    obtain ⟨rfl, ⟨hsz, hP, hK, hD0⟩, hTw⟩ := hv
    have hts := atoms_spec (ws := mw y cc n ret) B.pre
    have hown : s.vm.findClass own = some m.cls := by rw [← ho]; exact findClass_of_methodNamed B.named
    obtain ⟨meth', c', g1, g2, -, -, -, -, g7, -⟩ := Cond.code_spec B.named (hts _ List.mem_cons_self)
    cases B.method.symm.trans g1
    cases (Stand.of_body B).code.symm.trans g2
    have hnt : c.exceptionTable.toList = [] := by
      have q := Array.isEmpty_iff.mp g7
      rw [q]
    subst hsz
    have hh0 : s₁.heap = s.heap := by rw [B.state]; rfl
    have K := body p e s m av.toArray below meth c (va_A ws s.heap.size) ⟨B.exec, B.bytes, hml, hown, fun w h => hts w (List.mem_cons_of_mem _ h)⟩ B.notSynchronized hnt hTw _ (lv_entry av hn) ⟨hK, hP, hD0.self, va_S.rf⟩
    obtain ⟨t, a1, x, ce, b1, b2, b3, b4, b5, b6, b7⟩ := K s₁ hh0 (Stand.of_body B)
    refine ⟨t, .threw x, ?_, b1, b2, x, ce, rfl, b3, b4, b5, b6, b7⟩
    rw [lg_entry_eq]
    exact a1
section TK2
variable {p : Program} {l : Launch} {e : Env} {R : Room} {s : State} {m : MethodId} {args : Array Value} {below : List Frame} {meth : Method} {c : Code} {H : Heap} {locs : List Loc} {cells slots : Nat} {Q : State → Prop}
variable {cc : ByteArray} {nL pc : Nat} {ls : Array Slot} {rest st : List Value} {D : va_G} {A : Nat → Prop} {tys : Tys} {ws : va_W} {H0 : Heap} {own : String}
variable {y : MethodName} {yc : ByteArray} {yn np index : Nat} {yr : Room} {b : Nat} {As : List Value} {wc wr : va_W} {C : String} {T : u_T} {N ci : Nat} {fs : List Value}
/-- a call that throws: the state in which the exception is looked for a handler -/
theorem callV_t {ret : Option FieldType} {X : String} (hM : Ct l D tys y yc yn ret yr (.ref b :: As) wc X)
    (k1 : Cond.methodLink own index y ∈ tb) (k2 : Cond.instanceMethod y ∈ tb) (k3 : Cond.selects C y y ∈ tb) (k4 : Cond.initialized C ∈ tb) (k5 : Cond.code y yc yn ret ∈ tb)
    (hd : y.cls = C ∧ y.cls ≠ "java/lang/invoke/MethodHandle" ∧ y.cls ≠ "java/lang/invoke/VarHandle" ∧ (parseMethodDescriptor y.desc).map (fun d => d.parameters.length) = some np)
    (S : CallFix p m c cc nL s args tb own) (hW : Wd D tys A s H0 H locs ws) (hTw : ∀ U : State, U.heap = H → s.WarmedH U.vm → Tw U)
    (hR : yr.frames + 1 ≤ R.frames ∧ 8 + (yn + 11) + yr.locals ≤ R.locals) (hf : cells + yr.cells ≤ R.cells ∧ slots + yr.slots ≤ R.slots)
    (hc : cls[ci]? = some (C, T, N)) (q0 : Nat) (he : wc[q0]? = some (b, .inr (ci, fs))) (isC : List Nat) (hC : isC.map (fun i => ws[i]?) = wc.map some) (hnC : va_nd isC = true)
    (hlen : As.length = np) (hls : ls.size = nL) (hst : st = As.reverse ++ .ref b :: rest) (hroom : (rest.map fun v => v.category).sum ≤ 8) (hdg : decode cc pc = .ok (.invokevirtual index, 3))
    (kk : ∀ (x : Addr) (ce : Cell) (T' : State), Stand p l e R s m args below meth c T' locs (cells + yr.cells) (slots + yr.slots) → H.size ≤ T'.heap.size → (∀ q, q < H.size → T'.heap[q]? = H[q]?) → T'.heap[x]? = some ce → s.vm.findClass X = some ce.cls → ce.vm.isStatics = false → ∃ t, Steps p.tables e below ((T'.setTop (F0 m pc ls rest)).pushFrame (.throwing x)) t ∧ Q t) :
    W p l e R s m args below meth c H locs cells slots Q (F0 m pc ls st) := by
  intro T hT XX
  have hPc := sub_P hW.2.1 hC
  have hDc := hW.2.2.1.sub isC hnC hC
  obtain ⟨cellB, hcB, hoB, hclB⟩ := va_recv hW.1.1 hPc hc he
  obtain ⟨mk, methM, hnamed, hmethM, hstM, habM⟩ := Cond.instanceMethod_spec (S.2.2.2.2 _ k2)
  obtain ⟨methM', cM, hmethM', -, -, -, -, -, -, hsigM⟩ := Cond.code_spec hnamed (S.2.2.2.2 _ k5)
  cases hmethM.symm.trans hmethM'
  obtain ⟨c2, r2, m2, q1, q2, q3, q4, kP, hkP, hkPi⟩ := Cond.selects_spec (S.2.2.2.2 _ k3)
  cases hclB.symm.trans q1
  cases (State.methodFound?_of_named hnamed ⟨hd.2.1, hd.2.2.1⟩).symm.trans q2
  cases hnamed.symm.trans q3
  have hselP : selectMethod e.platform s.vm cellB.cls mk = .method mk := by rw [Launch.admits_selectMethod XX.admits]; exact q4
  have hlen' : As.length = methM.sig.parameters.length := by
    have h2 := hd.2.2.2
    rw [hsigM] at h2
    exact hlen.trans (Option.some.inj h2).symm
  obtain ⟨vm₁, X₁, hstep₁⟩ := XX.invokevirtual S.1 S.2.2.2.1 (S.2.2.2.2 _ k1) hnamed hmethM hstM hkP hkPi ⟨hd.2.1, hd.2.2.1⟩ (a := b) (cell := cellB) (by rw [hT]; exact hcB)
    (fun z h => by rw [h] at hoB; cases hoB) hselP hmethM habM hkP hkPi (g := F0 m pc ls st) rfl (argsL := As) (rest := rest) hlen' hst (by rw [S.2.1]; exact hdg)
  have hwU : ∀ (w : Cond) (a' : Array Value), w ∈ tb → w.before a' (T.setVm vm₁) = true := fun w a' hw => word_at X₁.warmed (good_tb w hw).2 (S.2.2.2.2 w hw)
  have hn := X₁.named hnamed
  obtain ⟨methY, cY, hmY, hcY, -, hlY, -, -, -, -⟩ := Cond.code_spec hn (hwU _ #[] k5)
  obtain ⟨kY, hkY, -⟩ := className_of_methodNamed hn
  have hinitY : kY.init = .initialized := Cond.initialized_spec (findClass_of_methodNamed hn) hkY (by rw [hd.1]; exact hwU _ #[] k4)
  have hdg' : decode c.code (F0 m pc ls rest).pc = .ok (.invokevirtual index, 3) := by rw [S.2.1]; exact hdg
  have h : At (T.setVm vm₁) (F0 m pc ls rest).method c below := X₁.here
  have happ : (headSpec (mw y yc yn ret) yr).appliesLoose y e.platform ((T.setVm vm₁).calling (F0 m pc ls rest) mk (Value.ref b :: As).toArray) = true :=
    Spec.appliesLoose_calling (g := F0 m pc ls rest) h hdg' hn hkY hinitY
      (X₁.room_calling (g := F0 m pc ls rest) (R' := yr) (hls.trans S.2.2.1.symm) hmY hcY hR.1 (by rw [hlY]; have := hR.2; show 2 * 0 + (rest.map fun v => v.category).sum + (yn + 11) + yr.locals ≤ R.locals; omega) hf.1 hf.2)
      (atoms_intro fun w hw => (List.mem_cons.mp hw).elim (fun e => e ▸ hwU _ _ k5) (fun hw => hwU w _ hw))
  obtain ⟨mid, hmid⟩ := h.above
  have hfr : ((T.setVm vm₁).setTop (F0 m pc ls rest)).frames = (.java (F0 m pc ls rest) :: mid) ++ below := by rw [State.frames_setTop' (F0 m pc ls rest) h.top, hmid]; rfl
  have hTU : Tw ((T.setVm vm₁).calling (F0 m pc ls rest) mk (Value.ref b :: As).toArray) := Tw.same (u := T.setVm vm₁) rfl (fun _ _ => rfl) (hTw (T.setVm vm₁) hT X₁.warmed)
  have hPU : va_Pc (.ref b :: As) (PcW D tys H.size wc) (Value.ref b :: As).toArray ((T.setVm vm₁).calling (F0 m pc ls rest) mk (Value.ref b :: As).toArray) :=
    PcW_blind _ _ _ _ ⟨rfl, by rw [← hT]; rfl, by rw [← hT] at hPc; exact hPc, hW.1.warm X₁.warmed, hDc.weaken (fun _ _ _ _ => trivial)⟩
  obtain ⟨o, s₂, hsteps, -, hend, hq⟩ := Steps.callFree (hM H.size) p X₁.admits X₁.cas X₁.clock (acts := []) hfr happ ⟨hPU.1, hPU.2, hTU⟩ trivial
  obtain ⟨x, ce, rfl, hW₂, hsm, hce, hcls, hstt⟩ := hq
  have hkeep := tk_keep hsm
  obtain ⟨e2, q2, q3, q4, q5, q6⟩ := id hsm
  rw [State.frames_setTop' (F0 m pc ls rest) h.top] at hend
  have hf₂ : s₂.frames = .throwing x :: .java (F0 m pc ls rest) :: (T.setVm vm₁).frames.tail := hend
  have e3 : s₂ = ({ ((T.setVm vm₁).calling (F0 m pc ls rest) mk (Value.ref b :: As).toArray).setFrames s₂.frames with heap := s₂.heap, slotsUsed := s₂.slotsUsed } : State).setVm s₂.vm := by
    have : s₂ = ({ s₂ with vm := ((T.setVm vm₁).calling (F0 m pc ls rest) mk (Value.ref b :: As).toArray).vm } : State).setVm s₂.vm := rfl
    rw [show ({ s₂ with vm := ((T.setVm vm₁).calling (F0 m pc ls rest) mk (Value.ref b :: As).toArray).vm } : State) = _ from e2] at this
    exact this
  have hW' : (T.setVm vm₁).WarmedH s₂.vm := hW₂
  obtain ⟨g₀, hg0⟩ := Option.isSome_iff_exists.mp h.top
  obtain ⟨r, hr⟩ := State.topJava?_eq_some.mp hg0
  have hs₂ : s₂ = ((({ T.setVm vm₁ with heap := s₂.heap, slotsUsed := s₂.slotsUsed } : State).setVm s₂.vm).setTop (F0 m pc ls rest)).pushFrame (.throwing x) := by
    have hr' : (({ T.setVm vm₁ with heap := s₂.heap, slotsUsed := s₂.slotsUsed } : State).setVm s₂.vm).frames = .java g₀ :: r := hr
    refine e3.trans ?_
    rw [hf₂, State.calling_eq h.top, State.setFrames_setFrames, State.pushFrame, State.frames_setTop _ hr', State.setTop_of_frames _ hr', State.setFrames_setFrames, hr]
    rfl
  have hsame : (T.setVm vm₁).sameButNew ({ T.setVm vm₁ with heap := s₂.heap, slotsUsed := s₂.slotsUsed } : State) [] yr.cells yr.slots := by
    refine ⟨?_, q2, q3, q4, q5, q6⟩
    obtain ⟨t, ht, -⟩ := State.frames_cons hr
    show ({ T.setVm vm₁ with heap := s₂.heap, slotsUsed := s₂.slotsUsed } : State) = { (T.setVm vm₁).setFrames (T.setVm vm₁).frames with heap := s₂.heap, slotsUsed := s₂.slotsUsed }
    rw [State.setFrames_self ht]
  have X₂ : Stand p l e R s m args below meth c (({ T.setVm vm₁ with heap := s₂.heap, slotsUsed := s₂.slotsUsed } : State).setVm s₂.vm) (locs ++ []) (cells + yr.cells) (slots + yr.slots) :=
    ⟨X₁.admits, X₁.cas, X₁.clock, X₁.frames, X₁.room, X₁.hears, X₁.method, X₁.code, (X₁.here.setHeapUsed s₂.heap s₂.slotsUsed).setVm hW'.alike, X₁.tail, State.WarmedH.trans X₁.warmed hW', X₁.limits, X₁.bytes, X₁.same.trans (hsame.setVm s.vm)⟩
  rw [List.append_nil] at X₂
  have hcls' : s.vm.findClass X = some ce.cls := by rw [← X₁.warmed.alike.findClass]; exact hcls
  obtain ⟨t, a1, b1⟩ := kk x ce _ X₂ (by rw [← hT]; exact hkeep.1) (fun q hq => by rw [← hT] at hq ⊢; exact hkeep.2 q hq) hce hcls' hstt
  refine ⟨t, hstep₁ _ fun acts => ?_, b1⟩
  rw [doInvoke_state]
  refine hsteps.trans ?_
  rw [hs₂]
  exact a1
end TK2
