theorem tk_arr {args : Array Value} {s : State} {ty : FieldType} (h : (Cond.arrayClass ty).before args s = true) : ∃ cA, ArrOfT s cA ty ∧ s.vm.findClass ("[" ++ ty.toString) = some cA := by
  obtain ⟨cA, kA, comp, h1, h2, h3⟩ := Cond.arrayClass_spec h
  exact ⟨cA, fun n z => ⟨fun k h => (by cases h), kA, h2, comp, h3⟩, h1⟩
set_option maxRecDepth 100000 in
theorem tk_start {args : Array Value} {s : State} (hts : ∀ w ∈ lw_tbl, w.before args s = true) (hgv : (Jvm.Cond.and given_1 narrow_1).before args s = true) : Tw s := by
  have h81 : ∃ a, vk_R "ProofReader" 81 "n is not 1 to 8" a s := by
    obtain ⟨a, q0, q1, q2, q3, -⟩ := Cond.exactly_spec (args := args) (first := s) (o := none) (s := s) (idx := []) (t := .string "ProofReader" 81) (cls := "java/lang/String") (flat_of_before _ hgv (.exactly (.string "ProofReader" 81) "java/lang/String") (by decide +kernel))
    exact ⟨a, vk_R.of (hts (.stringRef "ProofReader" 81 "n is not 1 to 8") (List.mem_of_getElem? (i := 878) (by decide +kernel))) q3⟩
  have h126 : ∃ a, vk_R "ProofReader" 126 "what is not 0 to 5" a s := by
    obtain ⟨a, q0, q1, q2, q3, -⟩ := Cond.exactly_spec (args := args) (first := s) (o := none) (s := s) (idx := []) (t := .string "ProofReader" 126) (cls := "java/lang/String") (flat_of_before _ hgv (.exactly (.string "ProofReader" 126) "java/lang/String") (by decide +kernel))
    exact ⟨a, vk_R.of (hts (.stringRef "ProofReader" 126 "what is not 0 to 5") (List.mem_of_getElem? (i := 916) (by decide +kernel))) q3⟩
  have h130 : ∃ a, vk_R "ProofReader" 130 "there is no such constant" a s := by
    obtain ⟨a, q0, q1, q2, q3, -⟩ := Cond.exactly_spec (args := args) (first := s) (o := none) (s := s) (idx := []) (t := .string "ProofReader" 130) (cls := "java/lang/String") (flat_of_before _ hgv (.exactly (.string "ProofReader" 130) "java/lang/String") (by decide +kernel))
    exact ⟨a, vk_R.of (hts (.stringRef "ProofReader" 130 "there is no such constant") (List.mem_of_getElem? (i := 926) (by decide +kernel))) q3⟩
  refine ⟨fun w hw => ?_, ⟨h81, h126, h130⟩, ?_⟩
  · by_cases hr : w ∈ tk_rw
    · simp only [tk_rw, List.mem_cons, List.not_mem_nil, or_false] at hr
      rcases hr with rfl | rfl
      · exact tk_isref rfl (fun _ _ => rfl) (flat_of_before _ hgv (.isRef (.static "java/lang/Throwable" "UNASSIGNED_STACK" "[Ljava/lang/StackTraceElement;")) (by decide +kernel))
      · exact tk_isref rfl (fun _ _ => rfl) (flat_of_before _ hgv (.isRef (.static "java/lang/Throwable" "SUPPRESSED_SENTINEL" "Ljava/util/List;")) (by decide +kernel))
    · have hm : w ∈ tk_tab := List.mem_filter.mpr ⟨hw, by simp [hr]⟩
      exact tk_same (Bool.and_eq_true_iff.mp (List.all_eq_true.mp tk_all w hw)).2 rfl (fun _ _ => rfl) (hts w (tk_in w hm))
  · intro c1 c2 e1 e2
    have h := flat_of_before _ hgv (.not (.castable "java/lang/IndexOutOfBoundsException" "java/lang/IllegalArgumentException")) (by decide +kernel)
    have e1' : s.vm.findClass "java/lang/IndexOutOfBoundsException" = some c1 := e1
    have e2' : s.vm.findClass "java/lang/IllegalArgumentException" = some c2 := e2
    cases hq : s.vm.assignable c1 c2 with
    | false => rfl
    | true => simp [Cond.before, Cond.holds, Cond.value, e1', e2', hq] at h
set_option maxHeartbeats 4000000 in
set_option maxRecDepth 100000 in
/-- from the entry, for every script of at most 4 ints, the law comes to its end with true -/
theorem whole_start {p : Program} {e : Env} {s : State} {m : MethodId} {below : List Frame} {meth : Method} {c : Code} (l : Launch) (htr : l.stackTraces = false) {b L : Nat} {xs : Nat → Int32} (hL : L ≤ 4) (C0 : lw_At p s m meth c b L xs) : W p l e room_1 s m #[Value.ref b] below meth c s.heap [] 0 0 (lw_Z below #[Value.ref b] s) (entryFrame m ([Value.ref b] : List Value).toArray 7) := by
  obtain ⟨hx, hb, hr, hml, hown, hts, hX, hbl, hlocks, hgv⟩ := id C0
  obtain ⟨A, hAd⟩ : ∃ A : Nat → Prop, A = fun q => s.heap.size ≤ q := ⟨_, rfl⟩
  have hA : ∀ q, s.heap.size ≤ q → A q := fun q h => by rw [hAd]; exact h
  have hAq : ∀ q, A q → s.heap.size ≤ q := fun q h => by rw [hAd] at h; exact h
  have hbA : ¬ A b := fun h => absurd (hAq b h) (Nat.not_le.mpr hbl)
  obtain ⟨c0, s0, hK0⟩ := u_known (C := R_F) (T := F_F) (N := 2) (n := 2) hts i0_F (hts _ (List.mem_filter.mp kn_F).1)
  obtain ⟨c1, s1, hK1⟩ := u_known (C := R_C) (T := F_C) (N := 5) (n := 5) hts i0_C (hts _ (List.mem_filter.mp kn_C).1)
  obtain ⟨c2, s2, hK2⟩ := u_known (C := R_P) (T := F_P) (N := 3) (n := 3) hts i0_P (hts _ (List.mem_filter.mp kn_P).1)
  obtain ⟨c3, s3, hK3⟩ := u_known (C := R_T) (T := F_T) (N := 8) (n := 8) hts i0_T (hts _ (List.mem_filter.mp kn_T).1)
  obtain ⟨c4, s4, hK4⟩ := u_known (C := R_K) (T := F_K) (N := 8) (n := 8) hts i0_K (hts _ (List.mem_filter.mp kn_K).1)
  obtain ⟨c5, s5, hK5⟩ := u_known (C := R_R) (T := F_R) (N := 17) (n := 17) hts i0_R (hts _ (List.mem_filter.mp kn_R).1)
  obtain ⟨c6, s6, hK6⟩ := u_known (C := R_U) (T := F_U) (N := 11) (n := 11) hts i0_U (hts _ (List.mem_filter.mp kn_U).1)
  obtain ⟨c7, s7, hK7⟩ := u_known (C := R_H) (T := F_H) (N := 6) (n := 6) hts i0_H (hts _ (List.mem_filter.mp kn_H).1)
  obtain ⟨c8, s8, hK8⟩ := u_known (C := R_I) (T := F_I) (N := 8) (n := 8) hts i0_I (hts _ (List.mem_filter.mp kn_I).1)
  obtain ⟨c9, s9, hK9⟩ := u_known (C := R_X) (T := F_X) (N := 9) (n := 9) hts i0_X (hts _ (List.mem_filter.mp kn_X).1)
  obtain ⟨c10, s10, hK10⟩ := u_known (C := R_M) (T := F_M) (N := 61) (n := 61) hts i0_M (hts _ (List.mem_filter.mp kn_M).1)
  obtain ⟨cI, gI, fI⟩ := tk_arr (hts _ (List.mem_filter.mp ka_int).1)
  obtain ⟨cJ, gJ, fJ⟩ := tk_arr (hts _ (List.mem_filter.mp ka_long).1)
  obtain ⟨cB, gB, fB⟩ := tk_arr (hts _ (List.mem_filter.mp ka_byte).1)
  obtain ⟨cZ, gZ, fZ⟩ := tk_arr (hts _ (List.mem_filter.mp ka_boolean).1)
  obtain ⟨D, hKc⟩ : ∃ D : va_G, ∀ (k : Nat) (q : vw_C), cls[k]? = some q → u_Kn s q.1 q.2.1 q.2.2 (D.1 k) (D.2 k) := by
    refine ⟨(fun k => [c0, c1, c2, c3, c4, c5, c6, c7, c8, c9, c10].getD k c0, fun k => [s0, s1, s2, s3, s4, s5, s6, s7, s8, s9, s10].getD k s0), ?_⟩
    intro k q hq
    match k, hq with
    | 0, hq => cases hq; exact hK0
    | 1, hq => cases hq; exact hK1
    | 2, hq => cases hq; exact hK2
    | 3, hq => cases hq; exact hK3
    | 4, hq => cases hq; exact hK4
    | 5, hq => cases hq; exact hK5
    | 6, hq => cases hq; exact hK6
    | 7, hq => cases hq; exact hK7
    | 8, hq => cases hq; exact hK8
    | 9, hq => cases hq; exact hK9
    | 10, hq => cases hq; exact hK10
    | k + 11, hq => simp [cls] at hq
  have hK : va_K D cls (tyl cI cJ cB cZ) s := ⟨hKc, fun k q hq => by
    match k, hq with
    | 0, hq => cases hq; exact ⟨gI, fI⟩
    | 1, hq => cases hq; exact ⟨gJ, fJ⟩
    | 2, hq => cases hq; exact ⟨gB, fB⟩
    | 3, hq => cases hq; exact ⟨gZ, fZ⟩
    | k + 4, hq => simp [tyl] at hq⟩
  have hN : nst s := ⟨va_Nw.of rfl (hts (.methodLinkNest "ProofReader" 9 y_F_init "ProofReader") (List.mem_of_getElem? (i := 125) (by decide +kernel))), va_Nw.of rfl (hts (.methodLinkNest "ProofReader" 18 y_C_init "ProofReader") (List.mem_of_getElem? (i := 140) (by decide +kernel))), va_Nw.of rfl (hts (.methodLinkNest "ProofReader" 25 y_P_init "ProofReader") (List.mem_of_getElem? (i := 182) (by decide +kernel))), va_Nw.of rfl (hts (.methodLinkNest "ProofReader" 189 y_H_type "ProofReader") (List.mem_of_getElem? (i := 770) (by decide +kernel))), va_Nw.of rfl (hts (.methodLinkNest "ProofReader" 196 y_H_object "ProofReader") (List.mem_of_getElem? (i := 779) (by decide +kernel)))⟩
  have hW : Wd D (tyl cI cJ cB cZ) A s s.heap s.heap [] [] := ⟨⟨hK, hN⟩, fun k q h => by simp at h, ⟨fun i j p q h => by simp at h, fun k q h => by simp at h⟩, va_S.rf⟩
  have C : LawC p l s m meth c b L xs A := ⟨⟨hx, hb, hml, hown, tb_of hts⟩, hX, hbl, hbA, hA, hAq, hr, hlocks, tk_start hts hgv, htr⟩
  have hl := lv_entry ([.ref b]) (n := 7) (Nat.le_of_ble_eq_true rfl)
  rw [lg_entry_eq]
  exact law_0to20 hL C hW hl
set_option maxHeartbeats 4000000 in
theorem lw_walk (l : Launch) (htr : l.stackTraces = false) (b : Addr) (xs : List Int32) : MetFree l x (headSpec (Jvm.Cond.code x code maxLocals ret :: tables_1) room_1) (lw_P b xs) (fun _ _ _ _ _ => True) lw_Q := by
  refine MetFree.of_bodyS (code := code) (maxLocals := maxLocals) (ret := ret) (by decide) ?_ ?_
  · intro args s m h hn
    obtain ⟨meth, c, h1, h2, h3, h4, h5, h6, -, -⟩ := Cond.code_spec hn (atoms_spec (ws := Jvm.Cond.code x code maxLocals ret :: tables_1) h _ List.mem_cons_self)
    exact ⟨meth, c, h1, h2, h3, h4, h5, h6⟩
  · intro p e s m args below meth c s₁ B hml0 hP _
    obtain ⟨rfl, hx, hbd, hgv⟩ := hP
    obtain ⟨scr, harrAt, hlist, hof, hsmall⟩ := hx
    obtain ⟨hcb, hkn, -, -⟩ := State.arrayAt?_spec harrAt
    have hown : s.vm.findClass R_law = some m.cls := findClass_of_methodNamed B.named
    have hts0 : ∀ c ∈ (Jvm.Cond.code x code maxLocals ret :: tables_1), c.before #[Value.ref b] s = true := atoms_spec (ws := Jvm.Cond.code x code maxLocals ret :: tables_1) B.pre
    have hts : ∀ w ∈ lw_tbl, w.before #[Value.ref b] s = true := k2_hts_sels lw_privs (fun w hw => hts0 w (List.mem_cons_of_mem _ hw)) lw_privs_ok
    have hml : c.maxLocals = 7 := B.maxLocals_eq (hts0 _ List.mem_cons_self)
    have X₀ : Stand p l e room_1 s m #[Value.ref b] below meth c s₁ [] 0 0 := Stand.of_body B
    have hh0 : s₁.heap = s.heap := by rw [B.state]; rfl
    have hsz : scr.slots.size = xs.length := by rw [← Array.length_toList, hlist, List.length_map]
    have hval : ∀ j : Nat, j < xs.length → scr.slots[j]? = some (.int (xs.getD j 0)) := fun j hj => by
      rw [← Array.getElem?_toList, hlist]
      simp [hj]
    have hbl : b < s.heap.size := (Array.getElem?_eq_some_iff.mp hcb).1
    have hX : va_X b xs.length (fun j => xs.getD j 0) s s.heap := ⟨scr, hcb, hof, hkn, hsz, hval⟩
    have K : W p l e room_1 s m #[Value.ref b] below meth c s₁.heap [] 0 0 (lw_Z below #[Value.ref b] s) (entryFrame m ([Value.ref b] : List Value).toArray 7) := by
      rw [hh0]
      exact whole_start l htr hbd ⟨B.exec, B.bytes, B.returns, hml, hown, hts, hX, hbl, B.notSynchronized, hgv⟩
    obtain ⟨t, a1, o, b1, b2, b3⟩ := K s₁ rfl X₀
    exact ⟨t, o, a1, b1, b2, b3⟩
theorem lw_pre_spec {args : Array Value} {s : State} (h : (Jvm.Cond.and given_1 narrow_1).before args s = true) (hr : rest_1_c.before args s = true) : ∃ (b : Addr) (xs : List Int32), lw_P b xs args s := by
  have hs := flat_of_before _ h
  have hq := flat_of_before _ hr
  have hc : (Cond.count 1).before args s = true := hs _ (by decide +kernel)
  have harr : (Cond.arrayOf (.arg 0) .int).before args s = true := hs _ (by decide +kernel)
  have hle : (Cond.le (.length (.arg 0)) (.int 4)).before args s = true := hs _ (by decide +kernel)
  have hlen : (Cond.isInt (.length (.arg 0))).before args s = true := hq _ (by decide +kernel)
  have hall : (Cond.all (.arg 0) (.isInt (.elem (.arg 0) (.index 0)))).before args s = true := hq _ (by decide +kernel)
  obtain ⟨b, xs, hb, hx⟩ := State.ints_of_pre rfl harr hlen hall
  have hsm : xs.length < 2 ^ 31 := hx.choose_spec.2.2.2
  have hev : (Term.length (.arg 0)).eval args s none [] s = some (.int xs.length.toInt32) := hx.length_eval hb
  have hv := Cond.le_ints hev (show (Term.int 4).eval args s none [] s = some (.int 4) from rfl)
  have hd : xs.length.toInt32 ≤ 4 := by
    simpa [Cond.before, Cond.holds, hv] using hle
  have hN : xs.length ≤ 4 := (Int32.ofNat_le_ofNat hsm (by decide)).mp (show Int32.ofNat xs.length ≤ Int32.ofNat 4 from hd)
  exact ⟨b, xs, Cond.one_arg hc (show args[0]? = some (.ref b) from hb), hx, hN, h⟩
theorem lw_comes (l : Launch) (htr : l.stackTraces = false) : Comes l x (Jvm.Cond.code x code maxLocals ret :: tables_1) room_1 (fun tb e args s => Calls_1 tb e args s ∧ rest_1 tb e args s ∧ Pre_1 tb e args s)
    (fun _ _ args s o t => lw_Q args s o t) := by
  intro p e ha hc hk s m args below hf hfit hheap happ hpre
  obtain ⟨b, xs, hP⟩ := lw_pre_spec hpre.2.2 hpre.2.1
  obtain ⟨k, o, h1, h2, h3, hQ⟩ := lw_walk l htr b xs p e ha hc hk s m args below hf ((Spec.applies_iff_loose hf).mp happ).1 hP trivial
  exact ⟨k, o, h1, h2, h3, hQ⟩
theorem lw_frame {s t : State} {o : Outcome} {args : Array Value} (h : Framed s o t [] 600002 7302232) :
    Framed s o t (fieldLocs frame_1_writes args s ++ arrayLocs frame_1_arrays args s ++ staticLocs frame_1_statics s) 600002 7302232 := h
theorem lw_limb (L : Cond) (hL : ∀ (args : Array Value) (s t : State), L.after args s (.returned (some (.int 1))) t = true) :
    ArmFor flags0 classFile x code maxLocals ret World_1 tables_1 room_1 Calls_1 rest_1 Pre_1
      (fun tb e a s o t => postC L tb e a s o t ∧ Framed s o t (fieldLocs frame_1_writes a s ++ arrayLocs frame_1_arrays a s ++ staticLocs frame_1_statics s) 600002 7302232) := by
  intro l hfl _ _ p e ha hc hk s m args below hf hfit hheap happ hpre
  obtain ⟨k, o, h1, h2, h3, rfl, hF⟩ := lw_comes l (by unfold Launch.stackTraces; rw [hfl]; decide +kernel) p e ha hc hk s m args below hf hfit hheap happ hpre
  exact ⟨k, _, h1, h2, h3, hL args s _, lw_frame hF⟩
theorem i_vc : Claimed_1_1 ∧ Claimed_1_2 := ⟨lw_limb limb_1_1 (fun args s t => by simp [limb_1_1, Cond.after, Cond.holds, Cond.value]), lw_limb limb_1_2 (fun args s t => Cond.after_iff.mpr (by
  first | (rw [show limb_1_2 = Cond.eq .result (.int 1) from rfl, Cond.eq_ints (x := 1) (y := 1) rfl rfl]; simp; done) | (simp [limb_1_2, Cond.value, Term.eval]; done)))⟩
