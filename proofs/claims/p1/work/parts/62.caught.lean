/-! the search for a handler, whose class is looked up there for the first time -/
/-- what the search gives, and the tables that it leaves -/
def tk_F (e : Env) (s : State) (f : JFrame) (a : Addr) (h : Handler) (vm' : Vm) : Prop := ∀ (Q : Handler → Pre) (E : CtlPost) (d : Bool) (acts : List Action), wp (findHandler f a) Q E e d acts s ↔ Q h d acts (s.setVm vm')
section TK3
variable {e : Env} {s : State} {f : JFrame} {a : Addr}
theorem tk_go {Q : Handler → Pre} {E : CtlPost} {d : Bool} {acts : List Action} {x : ExceptionTableEntry} {t : List ExceptionTableEntry} {c : ClassId} {cell : Cell} (hx : covers x f.pc = true) (h0 : x.catchType ≠ 0) (hl : s.vm.ClassLinks e.platform f.method.cls x.catchType c) (hcell : s.heap[a]? = some cell) (hobj : cell.vm.isStatics = false)
    (hk : ∃ k, s.vm.classes[cell.cls]? = some k) (hc : ∃ k, s.vm.classes[c]? = some k) {b : Bool} (hb : s.vm.assignable cell.cls c = b) :
    wp (findHandler.go f a (x :: t)) Q E e d acts s ↔ if b = true then Q (.found x.handlerPc) d acts (s.setVm (s.vm.noted f.method.cls x.catchType (.cls c))) else wp (findHandler.go f a t) Q E e d acts (s.setVm (s.vm.noted f.method.cls x.catchType (.cls c))) := by
  simp only [covers] at hx
  obtain ⟨ha, ht⟩ := (resolveClass_links e.toSetting hl).op (op := VmOp.resolveClass f.method.cls x.catchType) rfl
  have hal : s.vm.Alike (s.vm.noted f.method.cls x.catchType (.cls c)) := (Vm.Alike.refl s.vm).noted _ _ _
  obtain ⟨k1, hk1⟩ := hk
  obtain ⟨k2, hk2⟩ := hc
  obtain ⟨j1, hj1, -⟩ := hal.2.2 _ _ hk1
  obtain ⟨j2, hj2, -⟩ := hal.2.2 _ _ hk2
  have hq : (s.vm.noted f.method.cls x.catchType (.cls c)).assignable cell.cls c = b := by rw [hal.assignable]; exact hb
  have hn := VmData.ne_statics_of hobj
  cases b <;> simp [findHandler.go, hx, h0, ha, ht, hcell, hn, hj1, hj2, hq, VmOp.dirties, VmOp.acts]
/-- the first entry catches -/
theorem tk_find1 {meth : Method} {code : Code} (hm : s.vm.method? f.method = some meth) (hcd : meth.code = some code) {x : ExceptionTableEntry} {t : List ExceptionTableEntry} (hsplit : code.exceptionTable.toList = x :: t) {c : ClassId} {cell : Cell} (hx : covers x f.pc = true) (h0 : x.catchType ≠ 0) (hl : s.vm.ClassLinks e.platform f.method.cls x.catchType c) (hcell : s.heap[a]? = some cell) (hobj : cell.vm.isStatics = false)
    (hk : ∃ k, s.vm.classes[cell.cls]? = some k) (hc : ∃ k, s.vm.classes[c]? = some k) (hb : s.vm.assignable cell.cls c = true) : tk_F e s f a (.found x.handlerPc) (s.vm.noted f.method.cls x.catchType (.cls c)) := by
  intro Q E d acts
  rw [Jvm.W.findHandler_eq hm hcd, hsplit, tk_go hx h0 hl hcell hobj hk hc hb, if_pos rfl]
/-- the first entry is passed, the second catches -/
theorem tk_find2 {meth : Method} {code : Code} (hm : s.vm.method? f.method = some meth) (hcd : meth.code = some code) {x y : ExceptionTableEntry} {t : List ExceptionTableEntry} (hsplit : code.exceptionTable.toList = x :: y :: t) {c c2 : ClassId} {cell : Cell} (hx : covers x f.pc = true) (hy : covers y f.pc = true) (h0 : x.catchType ≠ 0) (h1 : y.catchType ≠ 0) (hl : s.vm.ClassLinks e.platform f.method.cls x.catchType c)
    (hl2 : (s.vm.noted f.method.cls x.catchType (.cls c)).ClassLinks e.platform f.method.cls y.catchType c2) (hcell : s.heap[a]? = some cell) (hobj : cell.vm.isStatics = false)
    (hk : ∃ k, s.vm.classes[cell.cls]? = some k) (hc : ∃ k, s.vm.classes[c]? = some k) (hc2 : ∃ k, s.vm.classes[c2]? = some k) (hb : s.vm.assignable cell.cls c = false) (hb2 : s.vm.assignable cell.cls c2 = true) :
    tk_F e s f a (.found y.handlerPc) ((s.vm.noted f.method.cls x.catchType (.cls c)).noted f.method.cls y.catchType (.cls c2)) := by
  intro Q E d acts
  have hal : s.vm.Alike (s.vm.noted f.method.cls x.catchType (.cls c)) := (Vm.Alike.refl s.vm).noted _ _ _
  obtain ⟨k1, hk1⟩ := hk
  obtain ⟨k2, hk2⟩ := hc2
  obtain ⟨j1, hj1, -⟩ := hal.2.2 _ _ hk1
  obtain ⟨j2, hj2, -⟩ := hal.2.2 _ _ hk2
  rw [Jvm.W.findHandler_eq hm hcd, hsplit, tk_go hx h0 hl hcell hobj ⟨k1, hk1⟩ hc hb, if_neg (by decide)]
  have h2 := tk_go (e := e) (s := s.setVm (s.vm.noted f.method.cls x.catchType (.cls c))) (f := f) (a := a) (Q := Q) (E := E) (d := d) (acts := acts) (x := y) (t := t) (c := c2) (cell := cell) hy h1 hl2 hcell hobj ⟨j1, hj1⟩ ⟨j2, hj2⟩ (b := true) (by rw [show (s.setVm (s.vm.noted f.method.cls x.catchType (.cls c))).vm.assignable cell.cls c2 = _ from hal.assignable _ _]; exact hb2)
  rw [h2, if_pos rfl]
  exact Iff.rfl
theorem tk_step {r : List Frame} {pc : Nat} {vm' : Vm} (hfind : tk_F e s f a (.found pc) vm') : (stepThrowing e s a (.java f :: r)).Is ((s.setVm vm').setFrames (.java { f with pc := pc, stack := [.ref a] } :: r)) [] := by
  simp only [stepThrowing, searchFrame, vmDo]
  generalize hr : Sem.go _ e false [] s = res
  obtain ⟨as, rfl, ha⟩ := Sem.eq_ok_of hr (a := Handler.found pc) (s' := s.setVm vm') (acts' := []) (by simp [hfind _ _ _ _])
  exact ⟨rfl, ha⟩
theorem tk_fvf (u : State) (v : Vm) (F G : List Frame) : ((u.setFrames F).setVm v).setFrames G = (u.setVm v).setFrames G := by
  rw [show (u.setFrames F).setVm v = (u.setVm v).setFrames F from rfl, State.setFrames_setFrames]
theorem tk_caught {tbl : Tables} {target : State} {g : JFrame} {c : Code} {below : List Frame} (h : At s g.method c below) {pc : Nat} {vm' : Vm} (hfind : tk_F e ((s.setTop g).pushFrame (.throwing a)) g a (.found pc) vm')
    (hrest : Steps tbl e below ((s.setVm vm').setTop { g with pc := pc, stack := [.ref a] }) target) : Steps tbl e below ((s.setTop g).pushFrame (.throwing a)) target := by
  obtain ⟨hgo, hw⟩ := h.throwing a
  refine Steps.head hgo hw ?_
  obtain ⟨g₀, hg⟩ := Option.isSome_iff_exists.mp h.top
  obtain ⟨r, hr⟩ := State.topJava?_eq_some.mp hg
  have hr' : (s.setVm vm').frames = .java g₀ :: r := hr
  rw [State.setTop_of_frames _ hr'] at hrest
  rw [stepThread_throwing (frames_entered h.top _), (tk_step (s := (s.setTop g).pushFrame (.throwing a)) hfind).1, hr, List.tail_cons, State.pushFrame, tk_fvf, State.setTop_of_frames _ hr, tk_fvf]
  exact hrest
end TK3
section TK4
variable {p : Program} {l : Launch} {e : Env} {R : Room} {s : State} {m : MethodId} {args : Array Value} {below : List Frame} {meth : Method} {c : Code} {locs : List Loc} {cells slots : Nat} {Q : State → Prop}
variable {cc : ByteArray} {nL pc : Nat} {ls : Array Slot} {rest : List Value} {own : String} {T : State}
theorem tk_catch1 (XX : Stand p l e R s m args below meth c T locs cells slots) (S : CallFix p m c cc nL s args tb own) {x0 : ExceptionTableEntry} {t0 : List ExceptionTableEntry} (htab : c.exceptionTable.toList = x0 :: t0) (hcov : covers x0 pc = true) (h0 : x0.catchType ≠ 0) {n X : String} (k : Cond.classLink own x0.catchType n ∈ tb)
    {a : Addr} {ce : Cell} (hcell : T.heap[a]? = some ce) (hobj : ce.vm.isStatics = false) (hX : s.vm.findClass X = some ce.cls) {z : Array Value} (hcast : (Cond.castable X n).before z s = true)
    (kk : W p l e R s m args below meth c T.heap locs cells slots Q (F0 m x0.handlerPc ls [.ref a])) : ∃ t, Steps p.tables e below ((T.setTop (F0 m pc ls rest)).pushFrame (.throwing a)) t ∧ Q t := by
  have hpl : e.platform.magicAccessors = ({} : Platform).magicAccessors := by rw [XX.admits.platform]
  obtain ⟨c', hc', hcl⟩ := Cond.classLink_spec S.2.2.2.1 (S.2.2.2.2 _ k) e.platform hpl
  obtain ⟨c3, c4, e3, e4, hasg⟩ := Cond.castable_spec hcast
  cases hX.symm.trans e3
  cases hc'.symm.trans e4
  obtain ⟨dk, _, _, kt, hd, _, _, _, _, hkt, _, hopen⟩ := hcl.here
  have hcl₀ := XX.warmed.classLinks hcl
  have hW' : s.WarmedH (T.vm.noted m.cls x0.catchType (.cls c')) := XX.warmed.noted hd hopen (State.rightAt_cls hcl)
  obtain ⟨kt', hkt', -⟩ := XX.warmed.alike.2.2 _ _ hkt
  obtain ⟨kx, hkx⟩ := Vm.classAt_of_findClass hX
  obtain ⟨kx', hkx', -⟩ := XX.warmed.alike.2.2 _ _ hkx
  have hfit' : T.vm.assignable ce.cls c' = true := by rw [XX.warmed.alike.assignable]; exact hasg
  obtain ⟨t, a1, b1⟩ := kk (T.setVm (T.vm.noted m.cls x0.catchType (.cls c'))) rfl (XX.noted hW')
  exact ⟨t, tk_caught (g := F0 m pc ls rest) XX.here (tk_find1 (s := (T.setTop (F0 m pc ls rest)).pushFrame (.throwing a)) (f := F0 m pc ls rest) (meth := meth) (code := c) XX.method' XX.code htab hcov h0 (c := c') (cell := ce) hcl₀ hcell hobj ⟨kx', hkx'⟩ ⟨kt', hkt'⟩ hfit') a1, b1⟩
theorem tk_catch2 (XX : Stand p l e R s m args below meth c T locs cells slots) (S : CallFix p m c cc nL s args tb own) {x0 x1 : ExceptionTableEntry} {t0 : List ExceptionTableEntry} (htab : c.exceptionTable.toList = x0 :: x1 :: t0) (hcov : covers x0 pc = true) (hcov1 : covers x1 pc = true) (h0 : x0.catchType ≠ 0) (h1 : x1.catchType ≠ 0) {n n1 X : String} (k : Cond.classLink own x0.catchType n ∈ tb) (k1 : Cond.classLink own x1.catchType n1 ∈ tb)
    {a : Addr} {ce : Cell} (hcell : T.heap[a]? = some ce) (hobj : ce.vm.isStatics = false) (hX : s.vm.findClass X = some ce.cls) {z : Array Value} (hcast : (Cond.castable X n1).before z s = true) (hno : ∀ c1 c2, s.vm.findClass X = some c1 → s.vm.findClass n = some c2 → s.vm.assignable c1 c2 = false)
    (kk : W p l e R s m args below meth c T.heap locs cells slots Q (F0 m x1.handlerPc ls [.ref a])) : ∃ t, Steps p.tables e below ((T.setTop (F0 m pc ls rest)).pushFrame (.throwing a)) t ∧ Q t := by
  have hpl : e.platform.magicAccessors = ({} : Platform).magicAccessors := by rw [XX.admits.platform]
  obtain ⟨cA, hcA, hclA⟩ := Cond.classLink_spec S.2.2.2.1 (S.2.2.2.2 _ k) e.platform hpl
  obtain ⟨c', hc', hcl⟩ := Cond.classLink_spec S.2.2.2.1 (S.2.2.2.2 _ k1) e.platform hpl
  obtain ⟨c3, c4, e3, e4, hasg⟩ := Cond.castable_spec hcast
  cases hX.symm.trans e3
  cases hc'.symm.trans e4
  obtain ⟨dkA, _, _, ktA, hdA, _, _, _, _, hktA, _, hopenA⟩ := hclA.here
  obtain ⟨dk, _, _, kt, hd, _, _, _, _, hkt, _, hopen⟩ := hcl.here
  have hclA₀ := XX.warmed.classLinks hclA
  have hWA : s.WarmedH (T.vm.noted m.cls x0.catchType (.cls cA)) := XX.warmed.noted hdA hopenA (State.rightAt_cls hclA)
  have hcl₀ := hWA.classLinks hcl
  have hW' : s.WarmedH ((T.vm.noted m.cls x0.catchType (.cls cA)).noted m.cls x1.catchType (.cls c')) := hWA.noted hd hopen (State.rightAt_cls hcl)
  obtain ⟨kt', hkt', -⟩ := XX.warmed.alike.2.2 _ _ hkt
  obtain ⟨ktA', hktA', -⟩ := XX.warmed.alike.2.2 _ _ hktA
  obtain ⟨kx, hkx⟩ := Vm.classAt_of_findClass hX
  obtain ⟨kx', hkx', -⟩ := XX.warmed.alike.2.2 _ _ hkx
  have hfit' : T.vm.assignable ce.cls c' = true := by rw [XX.warmed.alike.assignable]; exact hasg
  have hnot' : T.vm.assignable ce.cls cA = false := by rw [XX.warmed.alike.assignable]; exact hno _ _ hX hcA
  obtain ⟨t, a1, b1⟩ := kk (T.setVm ((T.vm.noted m.cls x0.catchType (.cls cA)).noted m.cls x1.catchType (.cls c'))) rfl (XX.noted hW')
  exact ⟨t, tk_caught (g := F0 m pc ls rest) XX.here (tk_find2 (s := (T.setTop (F0 m pc ls rest)).pushFrame (.throwing a)) (f := F0 m pc ls rest) (meth := meth) (code := c) XX.method' XX.code htab hcov hcov1 h0 h1 (c := cA) (c2 := c') (cell := ce) hclA₀ hcl₀ hcell hobj ⟨kx', hkx'⟩ ⟨ktA', hktA'⟩ ⟨kt', hkt'⟩ hnot' hfit') a1, b1⟩
end TK4
/-! methods with an exception table: contract and call -/
abbrev mwW (y : MethodName) (cc : ByteArray) (n : Nat) (ret : Option FieldType) (hh : List (Nat × Nat × Nat × Nat)) : List Cond := .codeWith y cc n ret hh :: tb
abbrev PcT (D : va_G) (tys : Tys) (sz : Nat) (ws : va_W) (U : State) : Prop := PcW D tys sz ws U ∧ Tw U
theorem PcT_blind {D : va_G} {tys : Tys} {sz : Nat} {ws : va_W} {av : List Value} : FrameBlind (va_Pc av (PcT D tys sz ws)) := fun a U g mk q => ⟨q.1, (PcW_blind a U g mk ⟨q.1, q.2.1⟩).2, Tw.same (u := U) rfl (fun _ _ => rfl) q.2.2⟩
def CiW (l : Launch) (D : va_G) (tys : Tys) (y : MethodName) (cc : ByteArray) (n : Nat) (ret : Option FieldType) (hh : List (Nat × Nat × Nat × Nat)) (rm : Room) (av : List Value) (ws : va_W) (post : Int32 → va_W → Prop) : Prop :=
  ∀ sz, Met l y (mwW y cc n ret hh) rm (va_Pc av (PcT D tys sz ws)) (va_Qi (S := va_W) post (BW D tys (va_A ws sz)) (va_A ws sz)) rm.cells rm.slots (va_A ws sz)
theorem met_iW {l : Launch} {D : va_G} {tys : Tys} {y : MethodName} {cc : ByteArray} {n : Nat} {rm : Room} {av : List Value} {ws : va_W} {own : String} {ret : FieldType} {hh : List (Nat × Nat × Nat × Nat)} {post : Int32 → va_W → Prop} (hy : plainName y.cls = true) (ho : y.cls = own) (hn : (lg_sl av).length ≤ n)
    (body : ∀ (p : Program) (e : Env) (s : State) (m : MethodId) (args : Array Value) (below : List Frame) (meth : Method) (c : Code) (A : Nat → Prop) (Q : State → Prop), CallFix p m c cc n s args tb own → Tw s → c.exceptionTable.toList.map (fun h => (h.startPc, h.endPc, h.handlerPc, h.catchType)) = hh → (∀ q, s.heap.size ≤ q → A q) →
      (∀ (pc : Nat) (H : Heap) (locs : List Loc) (ls : Array Slot) (v : Int32) (u : va_W), decode cc pc = .ok (.ireturn, 1) → narrow ret (.int v) = .int v → post v u → Wd D tys A s s.heap H locs u → W p l e rm s m args below meth c H locs rm.cells rm.slots Q (F0 m pc ls [.int v])) →
      ∀ ls, lv_has ls n (lv_args 0 av) → Wd D tys A s s.heap s.heap [] ws → W p l e rm s m args below meth c s.heap [] 0 0 Q (F0 m 0 ls [])) : CiW l D tys y cc n (some ret) hh rm av ws post := by
  intro sz
  refine va_MetW (cc := cc) (maxL := n) (ret := some ret) (hh := hh) hy rfl ?_
  intro p e s m args below meth c s₁ B hml hv
  obtain ⟨rfl, ⟨hsz, hP, hK, hD0⟩, hTw⟩ := hv
  have hts := atoms_spec (ws := mwW y cc n (some ret) hh) B.pre
  have hown : s.vm.findClass own = some m.cls := by rw [← ho]; exact findClass_of_methodNamed B.named
  have hlocks := B.notSynchronized
  obtain ⟨m', meth', c', g0, g1, g2, -, -, g5, -⟩ := Cond.codeWith_spec (hts _ List.mem_cons_self)
  cases B.named.symm.trans g0
  cases B.method.symm.trans g1
  cases (Stand.of_body B).code.symm.trans g2
  subst hsz
  rw [lg_entry_eq]
  refine body p e s m _ below meth c (va_A ws s.heap.size) _ ⟨B.exec, B.bytes, hml, hown, fun w h => hts w (List.mem_cons_of_mem _ h)⟩ hTw g5 (fun q h => Or.inr h) ?_ _ (lv_entry av hn) ⟨hK, hP, hD0.self, va_S.rf⟩
  intro pc H locs ls v u hdg hnr hp hW
  exact W.zret B.exec B.bytes B.returns hnr (fun t ht hw => ⟨⟨v, u, rfl, hp, hW.B ht hw⟩, hW.2.2.2.F ht⟩) hW.2.2.2.2.2 hdg
section TK5
variable {p : Program} {l : Launch} {e : Env} {R : Room} {s : State} {m : MethodId} {args : Array Value} {below : List Frame} {meth : Method} {c : Code} {H : Heap} {locs : List Loc} {cells slots : Nat} {Q : State → Prop}
variable {cc : ByteArray} {nL pc : Nat} {ls : Array Slot} {rest st : List Value} {D : va_G} {A : Nat → Prop} {tys : Tys} {ws : va_W} {H0 : Heap} {own : String}
variable {y : MethodName} {yc : ByteArray} {yn np index : Nat} {yr : Room} {As : List Value} {wc wr : va_W}
theorem callSW_i {ret : Option FieldType} {hh : List (Nat × Nat × Nat × Nat)} {post : Int32 → va_W → Prop} (hM : CiW l D tys y yc yn ret hh yr As wc post)
    (k1 : Cond.methodLink own index y ∈ tb) (k2 : Cond.static y ∈ tb) (k4 : Cond.initialized own ∈ tb) (k5 : Cond.codeWith y yc yn ret hh ∈ tb)
    (hd : y.cls = own ∧ y.cls ≠ "java/lang/invoke/MethodHandle" ∧ y.cls ≠ "java/lang/invoke/VarHandle" ∧ (parseMethodDescriptor y.desc).map (fun d => d.parameters.length) = some np)
    (S : CallFix p m c cc nL s args tb own) (hW : Wd D tys A s H0 H locs ws) (hTw : ∀ U : State, U.heap = H → s.WarmedH U.vm → Tw U) (hA : ∀ q, H0.size ≤ q → A q)
    (hR : yr.frames + 1 ≤ R.frames ∧ 8 + (yn + 11) + yr.locals ≤ R.locals) (hf : cells + yr.cells ≤ R.cells ∧ slots + yr.slots ≤ R.slots)
    (isC isR : List Nat) (hC : isC.map (fun i => ws[i]?) = wc.map some) (hnC : va_nd isC = true) (hR2 : isR.map (fun i => ws[i]?) = wr.map some) (hnR : va_nd isR = true) (hdis : ∀ i ∈ isR, i ∉ isC)
    (hlen : As.length = np) (hls : ls.size = nL) (hst : st = As.reverse ++ rest) (hroom : (rest.map fun v => v.category).sum ≤ 8) (hdg : decode cc pc = .ok (.invokestatic index, 3))
    (kk : ∀ (r : Int32) (u : va_W) (H1 : Heap) (locs1 : List Loc), post r u → Wd D tys A s H0 H1 locs1 (wr ++ u) → W p l e R s m args below meth c H1 locs1 (cells + yr.cells) (slots + yr.slots) Q (F0 m (pc + 3) ls (.int r :: rest))) :
    W p l e R s m args below meth c H locs cells slots Q (F0 m pc ls st) := by
  have hF := va_free (wc := wc) hW.2.2.1 hW.2.2.2 hA isC hC
  have hPc := sub_P hW.2.1 hC
  have hDc := hW.2.2.1.sub isC hnC hC
  have hwU : ∀ w ∈ mwW y yc yn ret hh, ∀ (a' : Array Value) (U : State), s.WarmedH U.vm → w.before a' U = true := fun w hw a' U hU => (List.mem_cons.mp hw).elim (fun q => q ▸ word_at hU (good_tb _ k5).2 (S.2.2.2.2 _ k5)) (fun q => word_at hU (good_tb w q).2 (S.2.2.2.2 w q))
  have hK : Back l R p e below s args y 3 8 (PreOf R yr.cells yr.slots (va_Pc As (PcT D tys H.size wc))) (PostOf (va_Qi (S := va_W) post (BW D tys (va_A wc H.size)) (va_A wc H.size)) yr.cells yr.slots (va_A wc H.size)) :=
    va_backW (hh := hh) (bytes := yc) (maxL := yn) (ret := ret) (hM H.size) PcT_blind rfl rfl hR.1 hR.2 hwU List.mem_cons_self (fun a' U hU => by rw [hd.1]; exact word_at hU (good_tb _ k4).2 (S.2.2.2.2 _ k4))
  have hrun : va_Run p l e R s m args below meth c H locs cells slots yr.cells yr.slots (F0 m pc ls st) rest (va_Qi (S := va_W) post (BW D tys (va_A wc H.size)) (va_A wc H.size) As.toArray) (va_A wc H.size) := by
    intro T hT X
    obtain ⟨mk, methM, cM, hnamed, hmethM, -, -, -, -, -, -, hsigM⟩ := Cond.codeWith_spec (S.2.2.2.2 _ k5)
    have hstatic : methM.isStatic = true := Cond.static_spec hnamed hmethM (S.2.2.2.2 _ k2)
    obtain ⟨kP, hkP, -⟩ := className_of_methodNamed hnamed
    have hinitP : kP.init = .initialized := Cond.initialized_spec (findClass_of_methodNamed hnamed) hkP (by rw [hd.1]; exact S.2.2.2.2 _ k4)
    have hlen' : As.length = methM.sig.parameters.length := by
      have h2 := hd.2.2.2
      rw [hsigM] at h2
      exact hlen.trans (Option.some.inj h2).symm
    obtain ⟨vm₁, X₁, hstep₁⟩ := X.invokestatic S.1 S.2.2.2.1 (S.2.2.2.2 _ k1) hnamed hmethM hstatic hkP hinitP ⟨hd.2.1, hd.2.2.1⟩ (g := F0 m pc ls st) rfl (argsL := As) (rest := rest) hlen' hst (by rw [S.2.1]; exact hdg)
    obtain ⟨v, ⟨U', l2, c2, s2⟩, X', ⟨g', mk', t, L, e1, e2, hq, h1, hL, h2, h3⟩, hsteps⟩ := hK m meth c ⟨T.setVm vm₁, locs, cells, slots⟩ { F0 m pc ls st with stack := rest } (.invokestatic index) mk As.toArray X₁ rfl (hls.trans S.2.2.1.symm) (by rw [S.2.1]; exact hdg) (lv_room hroom) (X₁.named hnamed)
      ⟨hf.1, hf.2, rfl, ⟨by rw [← hT]; rfl, by rw [← hT] at hPc; exact hPc, hW.1.warm X₁.warmed, hDc.weaken (fun _ _ _ _ => trivial)⟩, hTw _ hT X₁.warmed⟩
    dsimp only [Pt.U, Pt.locs, Pt.cells, Pt.slots] at X' e1 e2 h1 h2 h3 hsteps
    subst h1; subst h2; subst h3
    exact ⟨v, (T.setVm vm₁).calling g' mk' As.toArray, t, U', L, hT, X', hL, e1, e2, hq, fun target h => hstep₁ _ fun acts => by rw [doInvoke_state]; exact hsteps.trans h⟩
  refine va_calli hrun hW.2.2.2 (fun q _ h => hF q h) hF (fun r u t H1 locs1 ht hvm hp hB hz hk hS => ?_)
  obtain ⟨hP1, hK1, hD1⟩ := hB
  rw [ht] at hP1
  obtain ⟨hP, hD⟩ := va_join hW.2.1 hW.2.2.1 isC isR hC hR2 hnR hdis hk hF hP1 hD1
  exact kk r u H1 locs1 hp ⟨hW.1, hP, hD, hS⟩
end TK5
