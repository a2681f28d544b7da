/-! exceptions: what the tables say of Throwable, and how it is carried from state to state -/
def tk_A : String := "java/lang/IllegalArgumentException"
def tk_B : String := "java/lang/IndexOutOfBoundsException"
def tk_nms : List String := ["java/lang/RuntimeException", "java/lang/Exception"]
def tk_1 : List Cond := Bundle.ownAtoms "ProofReader" 83 "java/lang/IllegalArgumentException" tk_nms
def tk_2 : List Cond := Bundle.ownAtoms "ProofReader" 132 "java/lang/IndexOutOfBoundsException" tk_nms
def tk_ws : List Cond := tk_1 ++ tk_2
/-- the words that read the heap: the two statics of Throwable -/
def tk_hw : List Cond := [.laysStatic Bundle.tN "UNASSIGNED_STACK" Bundle.steD, .laysStatic Bundle.tN "SUPPRESSED_SENTINEL" Bundle.listD, .isRef (.static Bundle.tN "UNASSIGNED_STACK" Bundle.steD), .isRef (.static Bundle.tN "SUPPRESSED_SENTINEL" Bundle.listD)]
def tk_rw : List Cond := [.isRef (.static Bundle.tN "UNASSIGNED_STACK" Bundle.steD), .isRef (.static Bundle.tN "SUPPRESSED_SENTINEL" Bundle.listD)]
theorem tk_all : tk_ws.all (fun w => w.keepsFace && (w.onTables || decide (w ∈ tk_hw))) = true := by decide +kernel
def tk_tab : List Cond := tk_ws.filter (fun w => !decide (w ∈ tk_rw))
theorem tk_in : ∀ w ∈ tk_tab, w ∈ lw_tbl := goodIn_r tk_tab [104, 860, 869, 872, 875, 877, 861, 862, 121, 122, 863, 868, 873, 893, 850, 894, 852, 895, 854, 864, 865, 866, 867, 856, 889, 890, 892, 856, 880, 881, 882, 883, 842, 883, 884, 885, 886, 844, 886, 887, 888, 889, 846, 879, 839, 840, 847, 848, 849, 851, 853, 855, 859, 858, 857, 104, 860, 869, 872, 875, 877, 861, 862, 121, 122, 863, 868, 873, 893, 850, 894, 852, 895, 854, 864, 865, 866, 867, 856, 889, 890, 892, 856, 928, 929, 930, 883, 842, 883, 884, 885, 886, 844, 886, 887, 888, 889, 846, 927, 918, 919, 920, 871, 921, 922, 923, 924, 859, 858, 925] (by decide +kernel)
theorem kw_L_feed : Cond.codeWith y_L_feed b_L_feed 6 (some .int) [(0, 11, 14, 13)] ∈ tb := tbm 832 (by decide +kernel) (by decide +kernel)
theorem kw_L_constant : Cond.codeWith y_L_constant b_L_constant 5 (some .int) [(0, 10, 13, 13), (0, 10, 17, 19)] ∈ tb := tbm 910 (by decide +kernel) (by decide +kernel)
theorem tk_lays {C n d : String} {A B : Array Value} {u U : State} (hv : u.vm = U.vm) (hh : ∀ q, q < u.heap.size → U.heap[q]? = u.heap[q]?) (h : (Cond.laysStatic C n d).before A u = true) : (Cond.laysStatic C n d).before B U = true := by
  obtain ⟨c, k, i, f, a, cell, h1, h2, h3, h4, h5, h6, h7, h8, h9⟩ := Cond.laysStatic_spec h
  have h1' : U.vm.findClass C = some c := by rw [← hv]; exact h1
  have h2' : U.fieldFound? C n d = some (c, k, i, f) := by
    have q := h2
    unfold State.fieldFound? at q ⊢
    rw [← hv]
    exact q
  have h5' : U.heap[a]? = some cell := by rw [hh a (Array.getElem?_eq_some_iff.mp h5).1]; exact h5
  simp [Cond.before, Cond.holds, Cond.value, h1', h2', h3, h4, h5', h6, h7, h8, h9]
theorem tk_static {C n d : String} {A B : Array Value} {u U : State} {v : Value} (hv : u.vm = U.vm) (hh : ∀ q, q < u.heap.size → U.heap[q]? = u.heap[q]?) (h : (Term.static C n d).eval A u none [] u = some v) : (Term.static C n d).eval B U none [] U = some v := by
  have hn : U.fieldNamed? C n d true = u.fieldNamed? C n d true := by
    unfold State.fieldNamed? State.fieldFound?
    rw [hv]
  simp only [Term.eval, Option.bind_eq_bind, Option.bind_eq_some_iff] at h ⊢
  obtain ⟨x, hx, a, ha, cell, hc, hs⟩ := h
  exact ⟨x, by rw [hn]; exact hx, a, ha, cell, by rw [hh a (Array.getElem?_eq_some_iff.mp hc).1]; exact hc, hs⟩
theorem tk_isref {C n d : String} {A B : Array Value} {u U : State} (hv : u.vm = U.vm) (hh : ∀ q, q < u.heap.size → U.heap[q]? = u.heap[q]?) (h : (Cond.isRef (.static C n d)).before A u = true) : (Cond.isRef (.static C n d)).before B U = true := by
  cases he : (Term.static C n d).eval A u none [] u with
  | none => simp [Cond.before, Cond.holds, Cond.value, he] at h
  | some v =>
    have he' := tk_static (B := B) hv hh he
    simp only [Cond.before, Cond.holds, Cond.value, he] at h
    simp only [Cond.before, Cond.holds, Cond.value, he']
    exact h
theorem tk_same {w : Cond} (hw : (w.onTables || decide (w ∈ tk_hw)) = true) {A B : Array Value} {u U : State} (hv : u.vm = U.vm) (hh : ∀ q, q < u.heap.size → U.heap[q]? = u.heap[q]?) (h : w.before A u = true) : w.before B U = true := by
  rcases Bool.or_eq_true_iff.mp hw with h1 | h1
  · exact va_tabs h1 hv h
  · have h2 := of_decide_eq_true h1
    simp only [tk_hw, List.mem_cons, List.not_mem_nil, or_false] at h2
    rcases h2 with rfl | rfl | rfl | rfl
    · exact tk_lays hv hh h
    · exact tk_lays hv hh h
    · exact tk_isref hv hh h
    · exact tk_isref hv hh h
/-- all that a thrown exception asks of the state -/
def Tw (U : State) : Prop := (∀ w ∈ tk_ws, w.before #[] U = true) ∧ ((∃ a, vk_R "ProofReader" 81 "n is not 1 to 8" a U) ∧ (∃ a, vk_R "ProofReader" 126 "what is not 0 to 5" a U) ∧ (∃ a, vk_R "ProofReader" 130 "there is no such constant" a U)) ∧ ∀ c1 c2, U.vm.findClass tk_B = some c1 → U.vm.findClass tk_A = some c2 → U.vm.assignable c1 c2 = false
theorem Tw.same {u U : State} (hv : u.vm = U.vm) (hh : ∀ q, q < u.heap.size → U.heap[q]? = u.heap[q]?) (h : Tw u) : Tw U := by
  obtain ⟨h1, ⟨⟨a1, g1⟩, ⟨a2, g2⟩, ⟨a3, g3⟩⟩, h3⟩ := h
  refine ⟨fun w hw => ?_, ⟨⟨a1, g1.same hv.symm⟩, ⟨a2, g2.same hv.symm⟩, ⟨a3, g3.same hv.symm⟩⟩, ?_⟩
  · have h4 := List.all_eq_true.mp tk_all w hw
    exact tk_same (Bool.and_eq_true_iff.mp h4).2 hv hh (h1 w hw)
  · rw [← hv]; exact h3
theorem Tw.warm {s U : State} (hW : s.WarmedH U.vm) (h : Tw s) : Tw (s.setVm U.vm) := by
  obtain ⟨h1, ⟨⟨a1, g1⟩, ⟨a2, g2⟩, ⟨a3, g3⟩⟩, h3⟩ := h
  have hW' : s.WarmedH (s.setVm U.vm).vm := hW
  refine ⟨fun w hw => ?_, ⟨⟨a1, g1.warm hW'⟩, ⟨a2, g2.warm hW'⟩, ⟨a3, g3.warm hW'⟩⟩, ?_⟩
  · have h4 := List.all_eq_true.mp tk_all w hw
    exact Cond.before_shiftedFace (State.Shifted.of_warmed hW) w (Bool.and_eq_true_iff.mp h4).1 (h1 w hw)
  · intro c1 c2 e1 e2
    have q1 : s.vm.findClass tk_B = some c1 := by rw [← hW.alike.findClass]; exact e1
    have q2 : s.vm.findClass tk_A = some c2 := by rw [← hW.alike.findClass]; exact e2
    show U.vm.assignable c1 c2 = false
    rw [hW.alike.assignable]
    exact h3 c1 c2 q1 q2
theorem Tw.move {s U : State} (hW : s.WarmedH U.vm) (hh : ∀ q, q < s.heap.size → U.heap[q]? = s.heap[q]?) (h : Tw s) : Tw U := Tw.same (u := s.setVm U.vm) rfl hh (h.warm hW)
theorem Tw.use1 {s : State} {args : Array Value} (h : Tw s) : ∀ a ∈ Bundle.ownAtoms "ProofReader" 83 "java/lang/IllegalArgumentException" tk_nms, a.before args s = true := fun w hw => by
  have hm : w ∈ tk_ws := List.mem_append_left _ hw
  exact tk_same (Bool.and_eq_true_iff.mp (List.all_eq_true.mp tk_all w hm)).2 rfl (fun _ _ => rfl) (h.1 w hm)
theorem Tw.use2 {s : State} {args : Array Value} (h : Tw s) : ∀ a ∈ Bundle.ownAtoms "ProofReader" 132 "java/lang/IndexOutOfBoundsException" tk_nms, a.before args s = true := fun w hw => by
  have hm : w ∈ tk_ws := List.mem_append_right _ hw
  exact tk_same (Bool.and_eq_true_iff.mp (List.all_eq_true.mp tk_all w hm)).2 rfl (fun _ _ => rfl) (h.1 w hm)
