/-! calls by contract: the callee's cells are cut out of the caller's, what it leaves is put beside the rest -/
theorem sub_at {ws w : va_W} {is : List Nat} (hs : is.map (fun i => ws[i]?) = w.map some) (k : Nat) (q : Nat × va_E) (hq : w[k]? = some q) : ∃ i, is[k]? = some i ∧ ws[i]? = some q := by
  have h1 : (is.map (fun i => ws[i]?))[k]? = some (some q) := by rw [hs, List.getElem?_map, hq]; rfl
  rw [List.getElem?_map] at h1
  cases hi : is[k]? with
  | none => rw [hi] at h1; cases h1
  | some i => rw [hi] at h1; exact ⟨i, rfl, Option.some.inj h1⟩
theorem sub_P {D : va_G} {ws w : va_W} {H : Heap} {is : List Nat} (hP : va_P D cls ws H) (hs : is.map (fun i => ws[i]?) = w.map some) : va_P D cls w H := fun k q hq => by
  obtain ⟨i, -, hi⟩ := sub_at hs k q hq
  exact hP i q hi
/-- another order, or a part, of a world -/
theorem Wd.sub {D : va_G} {tys : Tys} {A : Nat → Prop} {s : State} {H0 H : Heap} {locs : List Loc} {ws ws' : va_W} (h : Wd D tys A s H0 H locs ws) (is : List Nat) (hn : va_nd is = true) (hs : is.map (fun i => ws[i]?) = ws'.map some) : Wd D tys A s H0 H locs ws' := ⟨h.1, sub_P h.2.1 hs, h.2.2.1.sub is hn hs, h.2.2.2⟩
theorem PcW_blind {D : va_G} {tys : Tys} {sz : Nat} {ws : va_W} {av : List Value} : FrameBlind (va_Pc av (PcW D tys sz ws)) := fun a U g mk q => by
  obtain ⟨q0, q1, qP, qK, qD⟩ := q
  exact ⟨q0, q1, qP, ⟨va_K.moved (u := U) (U := U.calling g mk a) (Vm.Alike.refl U.vm) qK.1, qK.2.same rfl⟩, qD⟩
section KC
variable {p : Program} {l : Launch} {e : Env} {R : Room} {s : State} {m : MethodId} {args : Array Value} {below : List Frame} {meth : Method} {c : Code} {H : Heap} {locs : List Loc} {cells slots : Nat} {Q : State → Prop}
variable {cc : ByteArray} {nL pc : Nat} {ls : Array Slot} {rest st : List Value} {D : va_G} {A : Nat → Prop} {tys : Tys} {ws : va_W} {H0 : Heap} {own : String}
variable {y : MethodName} {yc : ByteArray} {yn np index : Nat} {yr : Room} {b : Nat} {As : List Value} {wc wr : va_W} {C : String} {T : u_T} {N ci : Nat} {fs : List Value}
/-- the facts of a call of an instance method that are the same whatever it answers -/
theorem callV_run {ret : Option FieldType} {Qc : Nat → Array Value → State → Outcome → State → Prop} (S : CallFix p m c cc nL s args tb own) (hW : Wd D tys A s H0 H locs ws)
    (hM : Met l y (mw y yc yn ret) yr (va_Pc (.ref b :: As) (PcW D tys H.size wc)) (Qc H.size) yr.cells yr.slots (va_A wc H.size))
    (k1 : Cond.methodLink own index y ∈ tb) (k2 : Cond.instanceMethod y ∈ tb) (k3 : Cond.selects C y y ∈ tb) (k4 : Cond.initialized C ∈ tb) (k5 : Cond.code y yc yn ret ∈ tb)
    (hd : y.cls = C ∧ y.cls ≠ "java/lang/invoke/MethodHandle" ∧ y.cls ≠ "java/lang/invoke/VarHandle" ∧ (parseMethodDescriptor y.desc).map (fun d => d.parameters.length) = some np)
    (hR : yr.frames + 1 ≤ R.frames ∧ 8 + (yn + 11) + yr.locals ≤ R.locals) (hf : cells + yr.cells ≤ R.cells ∧ slots + yr.slots ≤ R.slots)
    (hc : cls[ci]? = some (C, T, N)) (q0 : Nat) (he : wc[q0]? = some (b, .inr (ci, fs))) (isC : List Nat) (hC : isC.map (fun i => ws[i]?) = wc.map some) (hnC : va_nd isC = true)
    (hlen : As.length = np) (hls : ls.size = nL) (hst : st = As.reverse ++ .ref b :: rest) (hroom : (rest.map fun v => v.category).sum ≤ 8) (hdg : decode cc pc = .ok (.invokevirtual index, 3)) :
    va_Run p l e R s m args below meth c H locs cells slots yr.cells yr.slots (F0 m pc ls st) rest (Qc H.size (Value.ref b :: As).toArray) (va_A wc H.size) := by
  have hPc := sub_P hW.2.1 hC
  have hDc := hW.2.2.1.sub isC hnC hC
  have g : GoodIn tb (wsV own index C y (mw y yc yn ret)) := fun w hw => by
    rcases List.mem_append.mp hw with h | h
    · simp only [List.mem_cons, List.not_mem_nil, or_false] at h
      rcases h with rfl | rfl | rfl | rfl
      · exact good_tb _ k1
      · exact good_tb _ k2
      · exact good_tb _ k3
      · exact good_tb _ k4
    · exact good_mw k5 w h
  refine va_runV (As := As) (rest := rest) S hM (cwV np S.2.2.2.2 g rfl rfl rfl hd hR) ⟨PcW_blind, va_recv hW.1.1 hPc hc he, fun U hU hw => ⟨rfl, by rw [hU], by rw [hU]; exact hPc, hW.1.warm hw, hDc.weaken (fun _ _ _ _ => trivial)⟩⟩ rfl hlen hls hst (lv_room hroom) hdg hf
theorem callV_i {ret : Option FieldType} {post : Int32 → va_W → Prop} (hM : Ci l D tys y yc yn ret yr (.ref b :: As) wc post)
    (k1 : Cond.methodLink own index y ∈ tb) (k2 : Cond.instanceMethod y ∈ tb) (k3 : Cond.selects C y y ∈ tb) (k4 : Cond.initialized C ∈ tb) (k5 : Cond.code y yc yn ret ∈ tb)
    (hd : y.cls = C ∧ y.cls ≠ "java/lang/invoke/MethodHandle" ∧ y.cls ≠ "java/lang/invoke/VarHandle" ∧ (parseMethodDescriptor y.desc).map (fun d => d.parameters.length) = some np)
    (S : CallFix p m c cc nL s args tb own) (hW : Wd D tys A s H0 H locs ws) (hA : ∀ q, H0.size ≤ q → A q)
    (hR : yr.frames + 1 ≤ R.frames ∧ 8 + (yn + 11) + yr.locals ≤ R.locals) (hf : cells + yr.cells ≤ R.cells ∧ slots + yr.slots ≤ R.slots)
    (hc : cls[ci]? = some (C, T, N)) (q0 : Nat) (he : wc[q0]? = some (b, .inr (ci, fs))) (isC isR : List Nat) (hC : isC.map (fun i => ws[i]?) = wc.map some) (hnC : va_nd isC = true) (hR2 : isR.map (fun i => ws[i]?) = wr.map some) (hnR : va_nd isR = true) (hdis : ∀ i ∈ isR, i ∉ isC)
    (hlen : As.length = np) (hls : ls.size = nL) (hst : st = As.reverse ++ .ref b :: rest) (hroom : (rest.map fun v => v.category).sum ≤ 8) (hdg : decode cc pc = .ok (.invokevirtual index, 3))
    (kk : ∀ (r : Int32) (u : va_W) (H1 : Heap) (locs1 : List Loc), post r u → Wd D tys A s H0 H1 locs1 (wr ++ u) → W p l e R s m args below meth c H1 locs1 (cells + yr.cells) (slots + yr.slots) Q (F0 m (pc + 3) ls (.int r :: rest))) :
    W p l e R s m args below meth c H locs cells slots Q (F0 m pc ls st) := by
  have hF := va_free (wc := wc) hW.2.2.1 hW.2.2.2 hA isC hC
  refine va_calli (callV_run (Qc := fun sz => va_Qi (S := va_W) post (BW D tys (va_A wc sz)) (va_A wc sz)) S hW (hM H.size) k1 k2 k3 k4 k5 hd hR hf hc q0 he isC hC hnC hlen hls hst hroom hdg) hW.2.2.2 (fun q _ h => hF q h) hF (fun r u t H1 locs1 ht hvm hp hB hz hk hS => ?_)
  obtain ⟨hP1, hK1, hD1⟩ := hB
  rw [ht] at hP1
  obtain ⟨hP, hD⟩ := va_join hW.2.1 hW.2.2.1 isC isR hC hR2 hnR hdis hk hF hP1 hD1
  exact kk r u H1 locs1 hp ⟨hW.1, hP, hD, hS⟩
/-- a private method of a nest mate that answers an int -/
theorem callVN_i {ret : Option FieldType} {post : Int32 → va_W → Prop} (hM : Ci l D tys y yc yn ret yr (.ref b :: As) wc post)
    (k1 : nst s → va_Nw (.methodLinkNest own index y own) s) (k2 : Cond.instanceMethod y ∈ tb) (k3 : Cond.selects C y y ∈ tb) (k4 : Cond.initialized y.cls ∈ tb) (k5 : Cond.code y yc yn ret ∈ tb)
    (hd : y.cls = C ∧ y.cls ≠ "java/lang/invoke/MethodHandle" ∧ y.cls ≠ "java/lang/invoke/VarHandle" ∧ (parseMethodDescriptor y.desc).map (fun d => d.parameters.length) = some np)
    (S : CallFix p m c cc nL s args tb own) (hW : Wd D tys A s H0 H locs ws) (hA : ∀ q, H0.size ≤ q → A q)
    (hR : yr.frames + 1 ≤ R.frames ∧ 8 + (yn + 11) + yr.locals ≤ R.locals) (hf : cells + yr.cells ≤ R.cells ∧ slots + yr.slots ≤ R.slots)
    (hc : cls[ci]? = some (C, T, N)) (q0 : Nat) (he : wc[q0]? = some (b, .inr (ci, fs))) (isC isR : List Nat) (hC : isC.map (fun i => ws[i]?) = wc.map some) (hnC : va_nd isC = true) (hR2 : isR.map (fun i => ws[i]?) = wr.map some) (hnR : va_nd isR = true) (hdis : ∀ i ∈ isR, i ∉ isC)
    (hlen : As.length = np) (hls : ls.size = nL) (hst : st = As.reverse ++ .ref b :: rest) (hroom : (rest.map fun v => v.category).sum ≤ 8) (hdg : decode cc pc = .ok (.invokevirtual index, 3))
    (kk : ∀ (r : Int32) (u : va_W) (H1 : Heap) (locs1 : List Loc), post r u → Wd D tys A s H0 H1 locs1 (wr ++ u) → W p l e R s m args below meth c H1 locs1 (cells + yr.cells) (slots + yr.slots) Q (F0 m (pc + 3) ls (.int r :: rest))) :
    W p l e R s m args below meth c H locs cells slots Q (F0 m pc ls st) := by
  have hF := va_free (wc := wc) hW.2.2.1 hW.2.2.2 hA isC hC
  refine va_calli (va_runVN (As := As) (rest := rest) S (hM H.size) ⟨va_cnB np S.2.2.2.2 (good_mw k5) rfl rfl rfl (k1 hW.1.2) (S.2.2.2.2 _ k4) hd.2 hR, S.2.2.2.2 _ k2, S.2.2.2.2 _ k3⟩ ⟨PcW_blind, va_recv hW.1.1 (sub_P hW.2.1 hC) hc he, fun U hU hw => ⟨rfl, by rw [hU], by rw [hU]; exact sub_P hW.2.1 hC, hW.1.warm hw, (hW.2.2.1.sub isC hnC hC).weaken (fun _ _ _ _ => trivial)⟩⟩ rfl hlen hls hst (lv_room hroom) hdg hf) hW.2.2.2 (fun q _ h => hF q h) hF (fun r u t H1 locs1 ht hvm hp hB hz hk hS => ?_)
  obtain ⟨hP1, hK1, hD1⟩ := hB
  rw [ht] at hP1
  obtain ⟨hP, hD⟩ := va_join hW.2.1 hW.2.2.1 isC isR hC hR2 hnR hdis hk hF hP1 hD1
  exact kk r u H1 locs1 hp ⟨hW.1, hP, hD, hS⟩
theorem callV_l {ret : Option FieldType} {post : Int64 → va_W → Prop} (hM : Cl l D tys y yc yn ret yr (.ref b :: As) wc post)
    (k1 : Cond.methodLink own index y ∈ tb) (k2 : Cond.instanceMethod y ∈ tb) (k3 : Cond.selects C y y ∈ tb) (k4 : Cond.initialized C ∈ tb) (k5 : Cond.code y yc yn ret ∈ tb)
    (hd : y.cls = C ∧ y.cls ≠ "java/lang/invoke/MethodHandle" ∧ y.cls ≠ "java/lang/invoke/VarHandle" ∧ (parseMethodDescriptor y.desc).map (fun d => d.parameters.length) = some np)
    (S : CallFix p m c cc nL s args tb own) (hW : Wd D tys A s H0 H locs ws) (hA : ∀ q, H0.size ≤ q → A q)
    (hR : yr.frames + 1 ≤ R.frames ∧ 8 + (yn + 11) + yr.locals ≤ R.locals) (hf : cells + yr.cells ≤ R.cells ∧ slots + yr.slots ≤ R.slots)
    (hc : cls[ci]? = some (C, T, N)) (q0 : Nat) (he : wc[q0]? = some (b, .inr (ci, fs))) (isC isR : List Nat) (hC : isC.map (fun i => ws[i]?) = wc.map some) (hnC : va_nd isC = true) (hR2 : isR.map (fun i => ws[i]?) = wr.map some) (hnR : va_nd isR = true) (hdis : ∀ i ∈ isR, i ∉ isC)
    (hlen : As.length = np) (hls : ls.size = nL) (hst : st = As.reverse ++ .ref b :: rest) (hroom : (rest.map fun v => v.category).sum ≤ 8) (hdg : decode cc pc = .ok (.invokevirtual index, 3))
    (kk : ∀ (r : Int64) (u : va_W) (H1 : Heap) (locs1 : List Loc), post r u → Wd D tys A s H0 H1 locs1 (wr ++ u) → W p l e R s m args below meth c H1 locs1 (cells + yr.cells) (slots + yr.slots) Q (F0 m (pc + 3) ls (.long r :: rest))) :
    W p l e R s m args below meth c H locs cells slots Q (F0 m pc ls st) := by
  have hF := va_free (wc := wc) hW.2.2.1 hW.2.2.2 hA isC hC
  refine va_calll (callV_run (Qc := fun sz => va_Ql (S := va_W) post (BW D tys (va_A wc sz)) (va_A wc sz)) S hW (hM H.size) k1 k2 k3 k4 k5 hd hR hf hc q0 he isC hC hnC hlen hls hst hroom hdg) hW.2.2.2 (fun q _ h => hF q h) hF (fun r u t H1 locs1 ht hvm hp hB hz hk hS => ?_)
  obtain ⟨hP1, hK1, hD1⟩ := hB
  rw [ht] at hP1
  obtain ⟨hP, hD⟩ := va_join hW.2.1 hW.2.2.1 isC isR hC hR2 hnR hdis hk hF hP1 hD1
  exact kk r u H1 locs1 hp ⟨hW.1, hP, hD, hS⟩
theorem callV_v {post : va_W → Prop} (hM : Cv l D tys y yc yn yr (.ref b :: As) wc post)
    (k1 : Cond.methodLink own index y ∈ tb) (k2 : Cond.instanceMethod y ∈ tb) (k3 : Cond.selects C y y ∈ tb) (k4 : Cond.initialized C ∈ tb) (k5 : Cond.code y yc yn none ∈ tb)
    (hd : y.cls = C ∧ y.cls ≠ "java/lang/invoke/MethodHandle" ∧ y.cls ≠ "java/lang/invoke/VarHandle" ∧ (parseMethodDescriptor y.desc).map (fun d => d.parameters.length) = some np)
    (S : CallFix p m c cc nL s args tb own) (hW : Wd D tys A s H0 H locs ws) (hA : ∀ q, H0.size ≤ q → A q)
    (hR : yr.frames + 1 ≤ R.frames ∧ 8 + (yn + 11) + yr.locals ≤ R.locals) (hf : cells + yr.cells ≤ R.cells ∧ slots + yr.slots ≤ R.slots)
    (hc : cls[ci]? = some (C, T, N)) (q0 : Nat) (he : wc[q0]? = some (b, .inr (ci, fs))) (isC isR : List Nat) (hC : isC.map (fun i => ws[i]?) = wc.map some) (hnC : va_nd isC = true) (hR2 : isR.map (fun i => ws[i]?) = wr.map some) (hnR : va_nd isR = true) (hdis : ∀ i ∈ isR, i ∉ isC)
    (hlen : As.length = np) (hls : ls.size = nL) (hst : st = As.reverse ++ .ref b :: rest) (hroom : (rest.map fun v => v.category).sum ≤ 8) (hdg : decode cc pc = .ok (.invokevirtual index, 3))
    (kk : ∀ (u : va_W) (H1 : Heap) (locs1 : List Loc), post u → Wd D tys A s H0 H1 locs1 (wr ++ u) → W p l e R s m args below meth c H1 locs1 (cells + yr.cells) (slots + yr.slots) Q (F0 m (pc + 3) ls rest)) :
    W p l e R s m args below meth c H locs cells slots Q (F0 m pc ls st) := by
  have hF := va_free (wc := wc) hW.2.2.1 hW.2.2.2 hA isC hC
  refine va_callv (callV_run (Qc := fun sz => va_Qv (S := va_W) post (BW D tys (va_A wc sz)) (va_A wc sz)) S hW (hM H.size) k1 k2 k3 k4 k5 hd hR hf hc q0 he isC hC hnC hlen hls hst hroom hdg) hW.2.2.2 (fun q _ h => hF q h) hF (fun u t H1 locs1 ht hvm hp hB hz hk hS => ?_)
  obtain ⟨hP1, hK1, hD1⟩ := hB
  rw [ht] at hP1
  obtain ⟨hP, hD⟩ := va_join hW.2.1 hW.2.2.1 isC isR hC hR2 hnR hdis hk hF hP1 hD1
  exact kk u H1 locs1 hp ⟨hW.1, hP, hD, hS⟩
/-- a constructor's call -/
theorem callI_v {post : va_W → Prop} (hM : Cv l D tys y yc yn yr (.ref b :: As) wc post)
    (k1 : Cond.methodLink own index y ∈ tb) (k2 : Cond.instanceMethod y ∈ tb) (k4 : Cond.initialized y.cls ∈ tb) (k5 : Cond.code y yc yn none ∈ tb)
    (hd : y.cls ≠ "java/lang/invoke/MethodHandle" ∧ y.cls ≠ "java/lang/invoke/VarHandle" ∧ (parseMethodDescriptor y.desc).map (fun d => d.parameters.length) = some np) (hy1 : y.name = "<init>")
    (S : CallFix p m c cc nL s args tb own) (hW : Wd D tys A s H0 H locs ws) (hA : ∀ q, H0.size ≤ q → A q)
    (hR : yr.frames + 1 ≤ R.frames ∧ 8 + (yn + 11) + yr.locals ≤ R.locals) (hf : cells + yr.cells ≤ R.cells ∧ slots + yr.slots ≤ R.slots)
    (isC isR : List Nat) (hC : isC.map (fun i => ws[i]?) = wc.map some) (hnC : va_nd isC = true) (hR2 : isR.map (fun i => ws[i]?) = wr.map some) (hnR : va_nd isR = true) (hdis : ∀ i ∈ isR, i ∉ isC)
    (hlen : As.length = np) (hls : ls.size = nL) (hst : st = As.reverse ++ .ref b :: rest) (hroom : (rest.map fun v => v.category).sum ≤ 8) (hdg : decode cc pc = .ok (.invokespecial index, 3))
    (kk : ∀ (u : va_W) (H1 : Heap) (locs1 : List Loc), post u → Wd D tys A s H0 H1 locs1 (wr ++ u) → W p l e R s m args below meth c H1 locs1 (cells + yr.cells) (slots + yr.slots) Q (F0 m (pc + 3) ls rest)) :
    W p l e R s m args below meth c H locs cells slots Q (F0 m pc ls st) := by
  have hF := va_free (wc := wc) hW.2.2.1 hW.2.2.2 hA isC hC
  have hPc := sub_P hW.2.1 hC
  have hDc := hW.2.2.1.sub isC hnC hC
  refine va_callv (va_runI (As := As) (rest := rest) S (hM H.size) (cwI np S.2.2.2.2 (good_mw k5) rfl rfl rfl (S.2.2.2.2 _ k4) (S.2.2.2.2 _ k1) (S.2.2.2.2 _ k2) hy1 hd hR) ⟨PcW_blind, fun U hU hw => ⟨rfl, by rw [hU], by rw [hU]; exact hPc, hW.1.warm hw, hDc.weaken (fun _ _ _ _ => trivial)⟩⟩ rfl hlen hls hst (lv_room hroom) hdg hf) hW.2.2.2 (fun q _ h => hF q h) hF (fun u t H1 locs1 ht hvm hp hB hz hk hS => ?_)
  obtain ⟨hP1, hK1, hD1⟩ := hB
  rw [ht] at hP1
  obtain ⟨hP, hD⟩ := va_join hW.2.1 hW.2.2.1 isC isR hC hR2 hnR hdis hk hF hP1 hD1
  exact kk u H1 locs1 hp ⟨hW.1, hP, hD, hS⟩
/-- a private constructor of a nest mate -/
theorem callIN_v {post : va_W → Prop} (hM : Cv l D tys y yc yn yr (.ref b :: As) wc post)
    (k1 : nst s → va_Nw (.methodLinkNest own index y own) s) (k2 : Cond.instanceMethod y ∈ tb) (k4 : Cond.initialized y.cls ∈ tb) (k5 : Cond.code y yc yn none ∈ tb)
    (hd : y.cls ≠ "java/lang/invoke/MethodHandle" ∧ y.cls ≠ "java/lang/invoke/VarHandle" ∧ (parseMethodDescriptor y.desc).map (fun d => d.parameters.length) = some np) (hy1 : y.name = "<init>")
    (S : CallFix p m c cc nL s args tb own) (hW : Wd D tys A s H0 H locs ws) (hA : ∀ q, H0.size ≤ q → A q)
    (hR : yr.frames + 1 ≤ R.frames ∧ 8 + (yn + 11) + yr.locals ≤ R.locals) (hf : cells + yr.cells ≤ R.cells ∧ slots + yr.slots ≤ R.slots)
    (isC isR : List Nat) (hC : isC.map (fun i => ws[i]?) = wc.map some) (hnC : va_nd isC = true) (hR2 : isR.map (fun i => ws[i]?) = wr.map some) (hnR : va_nd isR = true) (hdis : ∀ i ∈ isR, i ∉ isC)
    (hlen : As.length = np) (hls : ls.size = nL) (hst : st = As.reverse ++ .ref b :: rest) (hroom : (rest.map fun v => v.category).sum ≤ 8) (hdg : decode cc pc = .ok (.invokespecial index, 3))
    (kk : ∀ (u : va_W) (H1 : Heap) (locs1 : List Loc), post u → Wd D tys A s H0 H1 locs1 (wr ++ u) → W p l e R s m args below meth c H1 locs1 (cells + yr.cells) (slots + yr.slots) Q (F0 m (pc + 3) ls rest)) :
    W p l e R s m args below meth c H locs cells slots Q (F0 m pc ls st) := by
  have hF := va_free (wc := wc) hW.2.2.1 hW.2.2.2 hA isC hC
  have hPc := sub_P hW.2.1 hC
  have hDc := hW.2.2.1.sub isC hnC hC
  refine va_callv (va_runIN (As := As) (rest := rest) S (hM H.size) ⟨va_cnB np S.2.2.2.2 (good_mw k5) rfl rfl rfl (k1 hW.1.2) (S.2.2.2.2 _ k4) hd hR, hy1, S.2.2.2.2 _ k2⟩ ⟨PcW_blind, fun U hU hw => ⟨rfl, by rw [hU], by rw [hU]; exact hPc, hW.1.warm hw, hDc.weaken (fun _ _ _ _ => trivial)⟩⟩ rfl hlen hls hst (lv_room hroom) hdg hf) hW.2.2.2 (fun q _ h => hF q h) hF (fun u t H1 locs1 ht hvm hp hB hz hk hS => ?_)
  obtain ⟨hP1, hK1, hD1⟩ := hB
  rw [ht] at hP1
  obtain ⟨hP, hD⟩ := va_join hW.2.1 hW.2.2.1 isC isR hC hR2 hnR hdis hk hF hP1 hD1
  exact kk u H1 locs1 hp ⟨hW.1, hP, hD, hS⟩
/-- a static method's call that answers an int -/
theorem callS_i {ret : Option FieldType} {post : Int32 → va_W → Prop} (hM : Ci l D tys y yc yn ret yr As wc post)
    (k1 : Cond.methodLink own index y ∈ tb) (k2 : Cond.static y ∈ tb) (k4 : Cond.initialized own ∈ tb) (k5 : Cond.code y yc yn ret ∈ tb)
    (hd : y.cls = own ∧ y.cls ≠ "java/lang/invoke/MethodHandle" ∧ y.cls ≠ "java/lang/invoke/VarHandle" ∧ (parseMethodDescriptor y.desc).map (fun d => d.parameters.length) = some np)
    (S : CallFix p m c cc nL s args tb own) (hW : Wd D tys A s H0 H locs ws) (hA : ∀ q, H0.size ≤ q → A q)
    (hR : yr.frames + 1 ≤ R.frames ∧ 8 + (yn + 11) + yr.locals ≤ R.locals) (hf : cells + yr.cells ≤ R.cells ∧ slots + yr.slots ≤ R.slots)
    (isC isR : List Nat) (hC : isC.map (fun i => ws[i]?) = wc.map some) (hnC : va_nd isC = true) (hR2 : isR.map (fun i => ws[i]?) = wr.map some) (hnR : va_nd isR = true) (hdis : ∀ i ∈ isR, i ∉ isC)
    (hlen : As.length = np) (hls : ls.size = nL) (hst : st = As.reverse ++ rest) (hroom : (rest.map fun v => v.category).sum ≤ 8) (hdg : decode cc pc = .ok (.invokestatic index, 3))
    (kk : ∀ (r : Int32) (u : va_W) (H1 : Heap) (locs1 : List Loc), post r u → Wd D tys A s H0 H1 locs1 (wr ++ u) → W p l e R s m args below meth c H1 locs1 (cells + yr.cells) (slots + yr.slots) Q (F0 m (pc + 3) ls (.int r :: rest))) :
    W p l e R s m args below meth c H locs cells slots Q (F0 m pc ls st) := by
  have hF := va_free (wc := wc) hW.2.2.1 hW.2.2.2 hA isC hC
  have hPc := sub_P hW.2.1 hC
  have hDc := hW.2.2.1.sub isC hnC hC
  have g : GoodIn tb (wsS own index y (mw y yc yn ret)) := fun w hw => by
    rcases List.mem_append.mp hw with h | h
    · simp only [List.mem_cons, List.not_mem_nil, or_false] at h
      rcases h with rfl | rfl | rfl
      · exact good_tb _ k1
      · exact good_tb _ k2
      · exact good_tb _ k4
    · exact good_mw k5 w h
  refine va_calli (va_runS (As := As) (rest := rest) S (hM H.size) (cwS np S.2.2.2.2 g rfl rfl rfl hd hR) ⟨PcW_blind, fun U hU hw => ⟨rfl, by rw [hU], by rw [hU]; exact hPc, hW.1.warm hw, hDc.weaken (fun _ _ _ _ => trivial)⟩⟩ rfl hlen hls hst (lv_room hroom) hdg hf) hW.2.2.2 (fun q _ h => hF q h) hF (fun r u t H1 locs1 ht hvm hp hB hz hk hS => ?_)
  obtain ⟨hP1, hK1, hD1⟩ := hB
  rw [ht] at hP1
  obtain ⟨hP, hD⟩ := va_join hW.2.1 hW.2.2.1 isC isR hC hR2 hnR hdis hk hF hP1 hD1
  exact kk r u H1 locs1 hp ⟨hW.1, hP, hD, hS⟩
end KC
