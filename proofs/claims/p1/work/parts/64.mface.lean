theorem d_M_thrown_0 : decode b_M_thrown 0 = .ok (.aload_n 0, 1) := by decide +kernel
theorem d_M_thrown_1 : decode b_M_thrown 1 = .ok (.getfield 104, 3) := by decide +kernel
theorem d_M_thrown_4 : decode b_M_thrown 4 = .ok (.ireturn, 1) := by decide +kernel
set_option maxHeartbeats 4000000 in
set_option maxRecDepth 100000 in
theorem c_M_thrown (l : Launch) (D : va_G) (cI cJ cB cZ : ClassId) (aM m_text m_paper m_firstHalf m_secondHalf m_stored m_proved m_written m_places m_levelKind m_levelStart m_levelApp m_levelHad m_levelScope m_levelId m_levelFirst m_levelSecond m_scopeFirst m_scopeSecond m_scopeId m_made m_typeOf m_tasks m_todo m_renamed m_bound m_markA m_markB m_line : Nat) (v_thrown v_length v_came v_fault v_place v_papered v_constants v_at v_token v_tokenAt v_end v_second v_ids v_nodes v_opens v_levelOpens v_start v_app v_behind v_level v_scope v_top v_left v_waits v_fresh v_changed v_changedTo v_out v_counted v_printed v_questionAt : Int32) (v_nameFirst v_nameSecond : Int64) : Ci l D (tyl cI cJ cB cZ) y_M_thrown b_M_thrown 1 (some .int) ({ frames := 0, cells := 0, slots := 0, locals := 0 } : Room) [.ref aM] [(aM, .inr (10, [.int v_thrown, .ref m_text, .int v_length, .int v_came, .int v_fault, .int v_place, .ref m_paper, .int v_papered, .int v_constants, .ref m_firstHalf, .ref m_secondHalf, .ref m_stored, .ref m_proved, .int v_at, .int v_token, .int v_tokenAt, .long v_nameFirst, .long v_nameSecond, .ref m_written, .ref m_places, .int v_end, .int v_second, .int v_ids, .int v_nodes, .int v_opens, .int v_levelOpens, .int v_start, .int v_app, .int v_behind, .ref m_levelKind, .ref m_levelStart, .ref m_levelApp, .ref m_levelHad, .ref m_levelScope, .ref m_levelId, .ref m_levelFirst, .ref m_levelSecond, .int v_level, .ref m_scopeFirst, .ref m_scopeSecond, .ref m_scopeId, .int v_scope, .ref m_made, .int v_top, .ref m_typeOf, .ref m_tasks, .int v_left, .ref m_todo, .int v_waits, .ref m_renamed, .ref m_bound, .int v_fresh, .int v_changed, .int v_changedTo, .int v_out, .int v_counted, .ref m_markA, .ref m_markB, .ref m_line, .int v_printed, .int v_questionAt]))] (fun r u => r = v_thrown ∧ u = [(aM, .inr (10, [.int v_thrown, .ref m_text, .int v_length, .int v_came, .int v_fault, .int v_place, .ref m_paper, .int v_papered, .int v_constants, .ref m_firstHalf, .ref m_secondHalf, .ref m_stored, .ref m_proved, .int v_at, .int v_token, .int v_tokenAt, .long v_nameFirst, .long v_nameSecond, .ref m_written, .ref m_places, .int v_end, .int v_second, .int v_ids, .int v_nodes, .int v_opens, .int v_levelOpens, .int v_start, .int v_app, .int v_behind, .ref m_levelKind, .ref m_levelStart, .ref m_levelApp, .ref m_levelHad, .ref m_levelScope, .ref m_levelId, .ref m_levelFirst, .ref m_levelSecond, .int v_level, .ref m_scopeFirst, .ref m_scopeSecond, .ref m_scopeId, .int v_scope, .ref m_made, .int v_top, .ref m_typeOf, .ref m_tasks, .int v_left, .ref m_todo, .int v_waits, .ref m_renamed, .ref m_bound, .int v_fresh, .int v_changed, .int v_changedTo, .int v_out, .int v_counted, .ref m_markA, .ref m_markB, .ref m_line, .int v_printed, .int v_questionAt]))]) := by
  refine met_i (own := "ProofReaderModel") (by decide) rfl (Nat.le_of_ble_eq_true rfl) ?_
  intro p e s m args below meth c A Q S hA ret ls hl hW
  have hl : lv_has ls 1 [(0, .ref aM)] := hl
  have hW : Wd D (tyl cI cJ cB cZ) A s s.heap s.heap [] [(aM, .inr (10, [.int v_thrown, .ref m_text, .int v_length, .int v_came, .int v_fault, .int v_place, .ref m_paper, .int v_papered, .int v_constants, .ref m_firstHalf, .ref m_secondHalf, .ref m_stored, .ref m_proved, .int v_at, .int v_token, .int v_tokenAt, .long v_nameFirst, .long v_nameSecond, .ref m_written, .ref m_places, .int v_end, .int v_second, .int v_ids, .int v_nodes, .int v_opens, .int v_levelOpens, .int v_start, .int v_app, .int v_behind, .ref m_levelKind, .ref m_levelStart, .ref m_levelApp, .ref m_levelHad, .ref m_levelScope, .ref m_levelId, .ref m_levelFirst, .ref m_levelSecond, .int v_level, .ref m_scopeFirst, .ref m_scopeSecond, .ref m_scopeId, .int v_scope, .ref m_made, .int v_top, .ref m_typeOf, .ref m_tasks, .int v_left, .ref m_todo, .int v_waits, .ref m_renamed, .ref m_bound, .int v_fresh, .int v_changed, .int v_changedTo, .int v_out, .int v_counted, .ref m_markA, .ref m_markB, .ref m_line, .int v_printed, .int v_questionAt]))] := hW
  refine lv_aload_n S.1 S.2.1 d_M_thrown_0 rfl (lv_at hl 0 rfl) ?_
  refine g_get i_M S hW 0 rfl rfl 0 (by decide) kf_M_104 rfl d_M_thrown_1 ?_
  exact ret _ _ _ _ _ _ d_M_thrown_4 rfl ⟨rfl, rfl⟩ hW
theorem d_M_fault_0 : decode b_M_fault 0 = .ok (.aload_n 0, 1) := by decide +kernel
theorem d_M_fault_1 : decode b_M_fault 1 = .ok (.iconst 0, 1) := by decide +kernel
theorem d_M_fault_2 : decode b_M_fault 2 = .ok (.putfield 104, 3) := by decide +kernel
theorem d_M_fault_5 : decode b_M_fault 5 = .ok (.aload_n 0, 1) := by decide +kernel
theorem d_M_fault_6 : decode b_M_fault 6 = .ok (.getfield 138, 3) := by decide +kernel
theorem d_M_fault_9 : decode b_M_fault 9 = .ok (.ireturn, 1) := by decide +kernel
set_option maxHeartbeats 4000000 in
set_option maxRecDepth 100000 in
theorem c_M_fault (l : Launch) (D : va_G) (cI cJ cB cZ : ClassId) (aM m_text m_paper m_firstHalf m_secondHalf m_stored m_proved m_written m_places m_levelKind m_levelStart m_levelApp m_levelHad m_levelScope m_levelId m_levelFirst m_levelSecond m_scopeFirst m_scopeSecond m_scopeId m_made m_typeOf m_tasks m_todo m_renamed m_bound m_markA m_markB m_line : Nat) (v_thrown v_length v_came v_fault v_place v_papered v_constants v_at v_token v_tokenAt v_end v_second v_ids v_nodes v_opens v_levelOpens v_start v_app v_behind v_level v_scope v_top v_left v_waits v_fresh v_changed v_changedTo v_out v_counted v_printed v_questionAt : Int32) (v_nameFirst v_nameSecond : Int64) : Ci l D (tyl cI cJ cB cZ) y_M_fault b_M_fault 1 (some .int) ({ frames := 0, cells := 0, slots := 0, locals := 0 } : Room) [.ref aM] [(aM, .inr (10, [.int v_thrown, .ref m_text, .int v_length, .int v_came, .int v_fault, .int v_place, .ref m_paper, .int v_papered, .int v_constants, .ref m_firstHalf, .ref m_secondHalf, .ref m_stored, .ref m_proved, .int v_at, .int v_token, .int v_tokenAt, .long v_nameFirst, .long v_nameSecond, .ref m_written, .ref m_places, .int v_end, .int v_second, .int v_ids, .int v_nodes, .int v_opens, .int v_levelOpens, .int v_start, .int v_app, .int v_behind, .ref m_levelKind, .ref m_levelStart, .ref m_levelApp, .ref m_levelHad, .ref m_levelScope, .ref m_levelId, .ref m_levelFirst, .ref m_levelSecond, .int v_level, .ref m_scopeFirst, .ref m_scopeSecond, .ref m_scopeId, .int v_scope, .ref m_made, .int v_top, .ref m_typeOf, .ref m_tasks, .int v_left, .ref m_todo, .int v_waits, .ref m_renamed, .ref m_bound, .int v_fresh, .int v_changed, .int v_changedTo, .int v_out, .int v_counted, .ref m_markA, .ref m_markB, .ref m_line, .int v_printed, .int v_questionAt]))] (fun r u => r = v_fault ∧ u = [(aM, .inr (10, [.int (nI 0), .ref m_text, .int v_length, .int v_came, .int v_fault, .int v_place, .ref m_paper, .int v_papered, .int v_constants, .ref m_firstHalf, .ref m_secondHalf, .ref m_stored, .ref m_proved, .int v_at, .int v_token, .int v_tokenAt, .long v_nameFirst, .long v_nameSecond, .ref m_written, .ref m_places, .int v_end, .int v_second, .int v_ids, .int v_nodes, .int v_opens, .int v_levelOpens, .int v_start, .int v_app, .int v_behind, .ref m_levelKind, .ref m_levelStart, .ref m_levelApp, .ref m_levelHad, .ref m_levelScope, .ref m_levelId, .ref m_levelFirst, .ref m_levelSecond, .int v_level, .ref m_scopeFirst, .ref m_scopeSecond, .ref m_scopeId, .int v_scope, .ref m_made, .int v_top, .ref m_typeOf, .ref m_tasks, .int v_left, .ref m_todo, .int v_waits, .ref m_renamed, .ref m_bound, .int v_fresh, .int v_changed, .int v_changedTo, .int v_out, .int v_counted, .ref m_markA, .ref m_markB, .ref m_line, .int v_printed, .int v_questionAt]))]) := by
  refine met_i (own := "ProofReaderModel") (by decide) rfl (Nat.le_of_ble_eq_true rfl) ?_
  intro p e s m args below meth c A Q S hA ret ls hl hW
  have hl : lv_has ls 1 [(0, .ref aM)] := hl
  have hW : Wd D (tyl cI cJ cB cZ) A s s.heap s.heap [] [(aM, .inr (10, [.int v_thrown, .ref m_text, .int v_length, .int v_came, .int v_fault, .int v_place, .ref m_paper, .int v_papered, .int v_constants, .ref m_firstHalf, .ref m_secondHalf, .ref m_stored, .ref m_proved, .int v_at, .int v_token, .int v_tokenAt, .long v_nameFirst, .long v_nameSecond, .ref m_written, .ref m_places, .int v_end, .int v_second, .int v_ids, .int v_nodes, .int v_opens, .int v_levelOpens, .int v_start, .int v_app, .int v_behind, .ref m_levelKind, .ref m_levelStart, .ref m_levelApp, .ref m_levelHad, .ref m_levelScope, .ref m_levelId, .ref m_levelFirst, .ref m_levelSecond, .int v_level, .ref m_scopeFirst, .ref m_scopeSecond, .ref m_scopeId, .int v_scope, .ref m_made, .int v_top, .ref m_typeOf, .ref m_tasks, .int v_left, .ref m_todo, .int v_waits, .ref m_renamed, .ref m_bound, .int v_fresh, .int v_changed, .int v_changedTo, .int v_out, .int v_counted, .ref m_markA, .ref m_markB, .ref m_line, .int v_printed, .int v_questionAt]))] := hW
  refine lv_aload_n S.1 S.2.1 d_M_fault_0 rfl (lv_at hl 0 rfl) ?_
  refine lv_iconst (v := (nI 0)) S.1 S.2.1 d_M_fault_1 (by decide) ?_
  refine g_put (ws2 := [(aM, .inr (10, [.int (nI 0), .ref m_text, .int v_length, .int v_came, .int v_fault, .int v_place, .ref m_paper, .int v_papered, .int v_constants, .ref m_firstHalf, .ref m_secondHalf, .ref m_stored, .ref m_proved, .int v_at, .int v_token, .int v_tokenAt, .long v_nameFirst, .long v_nameSecond, .ref m_written, .ref m_places, .int v_end, .int v_second, .int v_ids, .int v_nodes, .int v_opens, .int v_levelOpens, .int v_start, .int v_app, .int v_behind, .ref m_levelKind, .ref m_levelStart, .ref m_levelApp, .ref m_levelHad, .ref m_levelScope, .ref m_levelId, .ref m_levelFirst, .ref m_levelSecond, .int v_level, .ref m_scopeFirst, .ref m_scopeSecond, .ref m_scopeId, .int v_scope, .ref m_made, .int v_top, .ref m_typeOf, .ref m_tasks, .int v_left, .ref m_todo, .int v_waits, .ref m_renamed, .ref m_bound, .int v_fresh, .int v_changed, .int v_changedTo, .int v_out, .int v_counted, .ref m_markA, .ref m_markB, .ref m_line, .int v_printed, .int v_questionAt]))]) i_M ft_M ft_M_ok n_M S hW 0 rfl rfl 0 (by decide) kf_M_104 rfl rfl rfl (Nat.le_of_ble_eq_true rfl) rfl d_M_fault_2 (fun H locs hW => ?_)
  refine lv_aload_n S.1 S.2.1 d_M_fault_5 rfl (lv_at hl 0 rfl) ?_
  refine g_get i_M S hW 0 rfl rfl 4 (by decide) kf_M_138 rfl d_M_fault_6 ?_
  exact ret _ _ _ _ _ _ d_M_fault_9 rfl ⟨rfl, rfl⟩ hW
theorem d_M_place_0 : decode b_M_place 0 = .ok (.aload_n 0, 1) := by decide +kernel
theorem d_M_place_1 : decode b_M_place 1 = .ok (.iconst 0, 1) := by decide +kernel
theorem d_M_place_2 : decode b_M_place 2 = .ok (.putfield 104, 3) := by decide +kernel
theorem d_M_place_5 : decode b_M_place 5 = .ok (.aload_n 0, 1) := by decide +kernel
theorem d_M_place_6 : decode b_M_place 6 = .ok (.getfield 13, 3) := by decide +kernel
theorem d_M_place_9 : decode b_M_place 9 = .ok (.ireturn, 1) := by decide +kernel
set_option maxHeartbeats 4000000 in
set_option maxRecDepth 100000 in
theorem c_M_place (l : Launch) (D : va_G) (cI cJ cB cZ : ClassId) (aM m_text m_paper m_firstHalf m_secondHalf m_stored m_proved m_written m_places m_levelKind m_levelStart m_levelApp m_levelHad m_levelScope m_levelId m_levelFirst m_levelSecond m_scopeFirst m_scopeSecond m_scopeId m_made m_typeOf m_tasks m_todo m_renamed m_bound m_markA m_markB m_line : Nat) (v_thrown v_length v_came v_fault v_place v_papered v_constants v_at v_token v_tokenAt v_end v_second v_ids v_nodes v_opens v_levelOpens v_start v_app v_behind v_level v_scope v_top v_left v_waits v_fresh v_changed v_changedTo v_out v_counted v_printed v_questionAt : Int32) (v_nameFirst v_nameSecond : Int64) : Ci l D (tyl cI cJ cB cZ) y_M_place b_M_place 1 (some .int) ({ frames := 0, cells := 0, slots := 0, locals := 0 } : Room) [.ref aM] [(aM, .inr (10, [.int v_thrown, .ref m_text, .int v_length, .int v_came, .int v_fault, .int v_place, .ref m_paper, .int v_papered, .int v_constants, .ref m_firstHalf, .ref m_secondHalf, .ref m_stored, .ref m_proved, .int v_at, .int v_token, .int v_tokenAt, .long v_nameFirst, .long v_nameSecond, .ref m_written, .ref m_places, .int v_end, .int v_second, .int v_ids, .int v_nodes, .int v_opens, .int v_levelOpens, .int v_start, .int v_app, .int v_behind, .ref m_levelKind, .ref m_levelStart, .ref m_levelApp, .ref m_levelHad, .ref m_levelScope, .ref m_levelId, .ref m_levelFirst, .ref m_levelSecond, .int v_level, .ref m_scopeFirst, .ref m_scopeSecond, .ref m_scopeId, .int v_scope, .ref m_made, .int v_top, .ref m_typeOf, .ref m_tasks, .int v_left, .ref m_todo, .int v_waits, .ref m_renamed, .ref m_bound, .int v_fresh, .int v_changed, .int v_changedTo, .int v_out, .int v_counted, .ref m_markA, .ref m_markB, .ref m_line, .int v_printed, .int v_questionAt]))] (fun r u => r = v_place ∧ u = [(aM, .inr (10, [.int (nI 0), .ref m_text, .int v_length, .int v_came, .int v_fault, .int v_place, .ref m_paper, .int v_papered, .int v_constants, .ref m_firstHalf, .ref m_secondHalf, .ref m_stored, .ref m_proved, .int v_at, .int v_token, .int v_tokenAt, .long v_nameFirst, .long v_nameSecond, .ref m_written, .ref m_places, .int v_end, .int v_second, .int v_ids, .int v_nodes, .int v_opens, .int v_levelOpens, .int v_start, .int v_app, .int v_behind, .ref m_levelKind, .ref m_levelStart, .ref m_levelApp, .ref m_levelHad, .ref m_levelScope, .ref m_levelId, .ref m_levelFirst, .ref m_levelSecond, .int v_level, .ref m_scopeFirst, .ref m_scopeSecond, .ref m_scopeId, .int v_scope, .ref m_made, .int v_top, .ref m_typeOf, .ref m_tasks, .int v_left, .ref m_todo, .int v_waits, .ref m_renamed, .ref m_bound, .int v_fresh, .int v_changed, .int v_changedTo, .int v_out, .int v_counted, .ref m_markA, .ref m_markB, .ref m_line, .int v_printed, .int v_questionAt]))]) := by
  refine met_i (own := "ProofReaderModel") (by decide) rfl (Nat.le_of_ble_eq_true rfl) ?_
  intro p e s m args below meth c A Q S hA ret ls hl hW
  have hl : lv_has ls 1 [(0, .ref aM)] := hl
  have hW : Wd D (tyl cI cJ cB cZ) A s s.heap s.heap [] [(aM, .inr (10, [.int v_thrown, .ref m_text, .int v_length, .int v_came, .int v_fault, .int v_place, .ref m_paper, .int v_papered, .int v_constants, .ref m_firstHalf, .ref m_secondHalf, .ref m_stored, .ref m_proved, .int v_at, .int v_token, .int v_tokenAt, .long v_nameFirst, .long v_nameSecond, .ref m_written, .ref m_places, .int v_end, .int v_second, .int v_ids, .int v_nodes, .int v_opens, .int v_levelOpens, .int v_start, .int v_app, .int v_behind, .ref m_levelKind, .ref m_levelStart, .ref m_levelApp, .ref m_levelHad, .ref m_levelScope, .ref m_levelId, .ref m_levelFirst, .ref m_levelSecond, .int v_level, .ref m_scopeFirst, .ref m_scopeSecond, .ref m_scopeId, .int v_scope, .ref m_made, .int v_top, .ref m_typeOf, .ref m_tasks, .int v_left, .ref m_todo, .int v_waits, .ref m_renamed, .ref m_bound, .int v_fresh, .int v_changed, .int v_changedTo, .int v_out, .int v_counted, .ref m_markA, .ref m_markB, .ref m_line, .int v_printed, .int v_questionAt]))] := hW
  refine lv_aload_n S.1 S.2.1 d_M_place_0 rfl (lv_at hl 0 rfl) ?_
  refine lv_iconst (v := (nI 0)) S.1 S.2.1 d_M_place_1 (by decide) ?_
  refine g_put (ws2 := [(aM, .inr (10, [.int (nI 0), .ref m_text, .int v_length, .int v_came, .int v_fault, .int v_place, .ref m_paper, .int v_papered, .int v_constants, .ref m_firstHalf, .ref m_secondHalf, .ref m_stored, .ref m_proved, .int v_at, .int v_token, .int v_tokenAt, .long v_nameFirst, .long v_nameSecond, .ref m_written, .ref m_places, .int v_end, .int v_second, .int v_ids, .int v_nodes, .int v_opens, .int v_levelOpens, .int v_start, .int v_app, .int v_behind, .ref m_levelKind, .ref m_levelStart, .ref m_levelApp, .ref m_levelHad, .ref m_levelScope, .ref m_levelId, .ref m_levelFirst, .ref m_levelSecond, .int v_level, .ref m_scopeFirst, .ref m_scopeSecond, .ref m_scopeId, .int v_scope, .ref m_made, .int v_top, .ref m_typeOf, .ref m_tasks, .int v_left, .ref m_todo, .int v_waits, .ref m_renamed, .ref m_bound, .int v_fresh, .int v_changed, .int v_changedTo, .int v_out, .int v_counted, .ref m_markA, .ref m_markB, .ref m_line, .int v_printed, .int v_questionAt]))]) i_M ft_M ft_M_ok n_M S hW 0 rfl rfl 0 (by decide) kf_M_104 rfl rfl rfl (Nat.le_of_ble_eq_true rfl) rfl d_M_place_2 (fun H locs hW => ?_)
  refine lv_aload_n S.1 S.2.1 d_M_place_5 rfl (lv_at hl 0 rfl) ?_
  refine g_get i_M S hW 0 rfl rfl 5 (by decide) kf_M_13 rfl d_M_place_6 ?_
  exact ret _ _ _ _ _ _ d_M_place_9 rfl ⟨rfl, rfl⟩ hW
theorem d_M_constants_0 : decode b_M_constants 0 = .ok (.aload_n 0, 1) := by decide +kernel
theorem d_M_constants_1 : decode b_M_constants 1 = .ok (.iconst 0, 1) := by decide +kernel
theorem d_M_constants_2 : decode b_M_constants 2 = .ok (.putfield 104, 3) := by decide +kernel
theorem d_M_constants_5 : decode b_M_constants 5 = .ok (.aload_n 0, 1) := by decide +kernel
theorem d_M_constants_6 : decode b_M_constants 6 = .ok (.getfield 162, 3) := by decide +kernel
theorem d_M_constants_9 : decode b_M_constants 9 = .ok (.ireturn, 1) := by decide +kernel
set_option maxHeartbeats 4000000 in
set_option maxRecDepth 100000 in
theorem c_M_constants (l : Launch) (D : va_G) (cI cJ cB cZ : ClassId) (aM m_text m_paper m_firstHalf m_secondHalf m_stored m_proved m_written m_places m_levelKind m_levelStart m_levelApp m_levelHad m_levelScope m_levelId m_levelFirst m_levelSecond m_scopeFirst m_scopeSecond m_scopeId m_made m_typeOf m_tasks m_todo m_renamed m_bound m_markA m_markB m_line : Nat) (v_thrown v_length v_came v_fault v_place v_papered v_constants v_at v_token v_tokenAt v_end v_second v_ids v_nodes v_opens v_levelOpens v_start v_app v_behind v_level v_scope v_top v_left v_waits v_fresh v_changed v_changedTo v_out v_counted v_printed v_questionAt : Int32) (v_nameFirst v_nameSecond : Int64) : Ci l D (tyl cI cJ cB cZ) y_M_constants b_M_constants 1 (some .int) ({ frames := 0, cells := 0, slots := 0, locals := 0 } : Room) [.ref aM] [(aM, .inr (10, [.int v_thrown, .ref m_text, .int v_length, .int v_came, .int v_fault, .int v_place, .ref m_paper, .int v_papered, .int v_constants, .ref m_firstHalf, .ref m_secondHalf, .ref m_stored, .ref m_proved, .int v_at, .int v_token, .int v_tokenAt, .long v_nameFirst, .long v_nameSecond, .ref m_written, .ref m_places, .int v_end, .int v_second, .int v_ids, .int v_nodes, .int v_opens, .int v_levelOpens, .int v_start, .int v_app, .int v_behind, .ref m_levelKind, .ref m_levelStart, .ref m_levelApp, .ref m_levelHad, .ref m_levelScope, .ref m_levelId, .ref m_levelFirst, .ref m_levelSecond, .int v_level, .ref m_scopeFirst, .ref m_scopeSecond, .ref m_scopeId, .int v_scope, .ref m_made, .int v_top, .ref m_typeOf, .ref m_tasks, .int v_left, .ref m_todo, .int v_waits, .ref m_renamed, .ref m_bound, .int v_fresh, .int v_changed, .int v_changedTo, .int v_out, .int v_counted, .ref m_markA, .ref m_markB, .ref m_line, .int v_printed, .int v_questionAt]))] (fun r u => r = v_constants ∧ u = [(aM, .inr (10, [.int (nI 0), .ref m_text, .int v_length, .int v_came, .int v_fault, .int v_place, .ref m_paper, .int v_papered, .int v_constants, .ref m_firstHalf, .ref m_secondHalf, .ref m_stored, .ref m_proved, .int v_at, .int v_token, .int v_tokenAt, .long v_nameFirst, .long v_nameSecond, .ref m_written, .ref m_places, .int v_end, .int v_second, .int v_ids, .int v_nodes, .int v_opens, .int v_levelOpens, .int v_start, .int v_app, .int v_behind, .ref m_levelKind, .ref m_levelStart, .ref m_levelApp, .ref m_levelHad, .ref m_levelScope, .ref m_levelId, .ref m_levelFirst, .ref m_levelSecond, .int v_level, .ref m_scopeFirst, .ref m_scopeSecond, .ref m_scopeId, .int v_scope, .ref m_made, .int v_top, .ref m_typeOf, .ref m_tasks, .int v_left, .ref m_todo, .int v_waits, .ref m_renamed, .ref m_bound, .int v_fresh, .int v_changed, .int v_changedTo, .int v_out, .int v_counted, .ref m_markA, .ref m_markB, .ref m_line, .int v_printed, .int v_questionAt]))]) := by
  refine met_i (own := "ProofReaderModel") (by decide) rfl (Nat.le_of_ble_eq_true rfl) ?_
  intro p e s m args below meth c A Q S hA ret ls hl hW
  have hl : lv_has ls 1 [(0, .ref aM)] := hl
  have hW : Wd D (tyl cI cJ cB cZ) A s s.heap s.heap [] [(aM, .inr (10, [.int v_thrown, .ref m_text, .int v_length, .int v_came, .int v_fault, .int v_place, .ref m_paper, .int v_papered, .int v_constants, .ref m_firstHalf, .ref m_secondHalf, .ref m_stored, .ref m_proved, .int v_at, .int v_token, .int v_tokenAt, .long v_nameFirst, .long v_nameSecond, .ref m_written, .ref m_places, .int v_end, .int v_second, .int v_ids, .int v_nodes, .int v_opens, .int v_levelOpens, .int v_start, .int v_app, .int v_behind, .ref m_levelKind, .ref m_levelStart, .ref m_levelApp, .ref m_levelHad, .ref m_levelScope, .ref m_levelId, .ref m_levelFirst, .ref m_levelSecond, .int v_level, .ref m_scopeFirst, .ref m_scopeSecond, .ref m_scopeId, .int v_scope, .ref m_made, .int v_top, .ref m_typeOf, .ref m_tasks, .int v_left, .ref m_todo, .int v_waits, .ref m_renamed, .ref m_bound, .int v_fresh, .int v_changed, .int v_changedTo, .int v_out, .int v_counted, .ref m_markA, .ref m_markB, .ref m_line, .int v_printed, .int v_questionAt]))] := hW
  refine lv_aload_n S.1 S.2.1 d_M_constants_0 rfl (lv_at hl 0 rfl) ?_
  refine lv_iconst (v := (nI 0)) S.1 S.2.1 d_M_constants_1 (by decide) ?_
  refine g_put (ws2 := [(aM, .inr (10, [.int (nI 0), .ref m_text, .int v_length, .int v_came, .int v_fault, .int v_place, .ref m_paper, .int v_papered, .int v_constants, .ref m_firstHalf, .ref m_secondHalf, .ref m_stored, .ref m_proved, .int v_at, .int v_token, .int v_tokenAt, .long v_nameFirst, .long v_nameSecond, .ref m_written, .ref m_places, .int v_end, .int v_second, .int v_ids, .int v_nodes, .int v_opens, .int v_levelOpens, .int v_start, .int v_app, .int v_behind, .ref m_levelKind, .ref m_levelStart, .ref m_levelApp, .ref m_levelHad, .ref m_levelScope, .ref m_levelId, .ref m_levelFirst, .ref m_levelSecond, .int v_level, .ref m_scopeFirst, .ref m_scopeSecond, .ref m_scopeId, .int v_scope, .ref m_made, .int v_top, .ref m_typeOf, .ref m_tasks, .int v_left, .ref m_todo, .int v_waits, .ref m_renamed, .ref m_bound, .int v_fresh, .int v_changed, .int v_changedTo, .int v_out, .int v_counted, .ref m_markA, .ref m_markB, .ref m_line, .int v_printed, .int v_questionAt]))]) i_M ft_M ft_M_ok n_M S hW 0 rfl rfl 0 (by decide) kf_M_104 rfl rfl rfl (Nat.le_of_ble_eq_true rfl) rfl d_M_constants_2 (fun H locs hW => ?_)
  refine lv_aload_n S.1 S.2.1 d_M_constants_5 rfl (lv_at hl 0 rfl) ?_
  refine g_get i_M S hW 0 rfl rfl 8 (by decide) kf_M_162 rfl d_M_constants_6 ?_
  exact ret _ _ _ _ _ _ d_M_constants_9 rfl ⟨rfl, rfl⟩ hW
theorem d_M_printed_0 : decode b_M_printed 0 = .ok (.aload_n 0, 1) := by decide +kernel
theorem d_M_printed_1 : decode b_M_printed 1 = .ok (.iconst 0, 1) := by decide +kernel
theorem d_M_printed_2 : decode b_M_printed 2 = .ok (.putfield 104, 3) := by decide +kernel
theorem d_M_printed_5 : decode b_M_printed 5 = .ok (.aload_n 0, 1) := by decide +kernel
theorem d_M_printed_6 : decode b_M_printed 6 = .ok (.getfield 339, 3) := by decide +kernel
theorem d_M_printed_9 : decode b_M_printed 9 = .ok (.ireturn, 1) := by decide +kernel
set_option maxHeartbeats 4000000 in
set_option maxRecDepth 100000 in
theorem c_M_printed (l : Launch) (D : va_G) (cI cJ cB cZ : ClassId) (aM m_text m_paper m_firstHalf m_secondHalf m_stored m_proved m_written m_places m_levelKind m_levelStart m_levelApp m_levelHad m_levelScope m_levelId m_levelFirst m_levelSecond m_scopeFirst m_scopeSecond m_scopeId m_made m_typeOf m_tasks m_todo m_renamed m_bound m_markA m_markB m_line : Nat) (v_thrown v_length v_came v_fault v_place v_papered v_constants v_at v_token v_tokenAt v_end v_second v_ids v_nodes v_opens v_levelOpens v_start v_app v_behind v_level v_scope v_top v_left v_waits v_fresh v_changed v_changedTo v_out v_counted v_printed v_questionAt : Int32) (v_nameFirst v_nameSecond : Int64) : Ci l D (tyl cI cJ cB cZ) y_M_printed b_M_printed 1 (some .int) ({ frames := 0, cells := 0, slots := 0, locals := 0 } : Room) [.ref aM] [(aM, .inr (10, [.int v_thrown, .ref m_text, .int v_length, .int v_came, .int v_fault, .int v_place, .ref m_paper, .int v_papered, .int v_constants, .ref m_firstHalf, .ref m_secondHalf, .ref m_stored, .ref m_proved, .int v_at, .int v_token, .int v_tokenAt, .long v_nameFirst, .long v_nameSecond, .ref m_written, .ref m_places, .int v_end, .int v_second, .int v_ids, .int v_nodes, .int v_opens, .int v_levelOpens, .int v_start, .int v_app, .int v_behind, .ref m_levelKind, .ref m_levelStart, .ref m_levelApp, .ref m_levelHad, .ref m_levelScope, .ref m_levelId, .ref m_levelFirst, .ref m_levelSecond, .int v_level, .ref m_scopeFirst, .ref m_scopeSecond, .ref m_scopeId, .int v_scope, .ref m_made, .int v_top, .ref m_typeOf, .ref m_tasks, .int v_left, .ref m_todo, .int v_waits, .ref m_renamed, .ref m_bound, .int v_fresh, .int v_changed, .int v_changedTo, .int v_out, .int v_counted, .ref m_markA, .ref m_markB, .ref m_line, .int v_printed, .int v_questionAt]))] (fun r u => r = v_papered ∧ u = [(aM, .inr (10, [.int (nI 0), .ref m_text, .int v_length, .int v_came, .int v_fault, .int v_place, .ref m_paper, .int v_papered, .int v_constants, .ref m_firstHalf, .ref m_secondHalf, .ref m_stored, .ref m_proved, .int v_at, .int v_token, .int v_tokenAt, .long v_nameFirst, .long v_nameSecond, .ref m_written, .ref m_places, .int v_end, .int v_second, .int v_ids, .int v_nodes, .int v_opens, .int v_levelOpens, .int v_start, .int v_app, .int v_behind, .ref m_levelKind, .ref m_levelStart, .ref m_levelApp, .ref m_levelHad, .ref m_levelScope, .ref m_levelId, .ref m_levelFirst, .ref m_levelSecond, .int v_level, .ref m_scopeFirst, .ref m_scopeSecond, .ref m_scopeId, .int v_scope, .ref m_made, .int v_top, .ref m_typeOf, .ref m_tasks, .int v_left, .ref m_todo, .int v_waits, .ref m_renamed, .ref m_bound, .int v_fresh, .int v_changed, .int v_changedTo, .int v_out, .int v_counted, .ref m_markA, .ref m_markB, .ref m_line, .int v_printed, .int v_questionAt]))]) := by
  refine met_i (own := "ProofReaderModel") (by decide) rfl (Nat.le_of_ble_eq_true rfl) ?_
  intro p e s m args below meth c A Q S hA ret ls hl hW
  have hl : lv_has ls 1 [(0, .ref aM)] := hl
  have hW : Wd D (tyl cI cJ cB cZ) A s s.heap s.heap [] [(aM, .inr (10, [.int v_thrown, .ref m_text, .int v_length, .int v_came, .int v_fault, .int v_place, .ref m_paper, .int v_papered, .int v_constants, .ref m_firstHalf, .ref m_secondHalf, .ref m_stored, .ref m_proved, .int v_at, .int v_token, .int v_tokenAt, .long v_nameFirst, .long v_nameSecond, .ref m_written, .ref m_places, .int v_end, .int v_second, .int v_ids, .int v_nodes, .int v_opens, .int v_levelOpens, .int v_start, .int v_app, .int v_behind, .ref m_levelKind, .ref m_levelStart, .ref m_levelApp, .ref m_levelHad, .ref m_levelScope, .ref m_levelId, .ref m_levelFirst, .ref m_levelSecond, .int v_level, .ref m_scopeFirst, .ref m_scopeSecond, .ref m_scopeId, .int v_scope, .ref m_made, .int v_top, .ref m_typeOf, .ref m_tasks, .int v_left, .ref m_todo, .int v_waits, .ref m_renamed, .ref m_bound, .int v_fresh, .int v_changed, .int v_changedTo, .int v_out, .int v_counted, .ref m_markA, .ref m_markB, .ref m_line, .int v_printed, .int v_questionAt]))] := hW
  refine lv_aload_n S.1 S.2.1 d_M_printed_0 rfl (lv_at hl 0 rfl) ?_
  refine lv_iconst (v := (nI 0)) S.1 S.2.1 d_M_printed_1 (by decide) ?_
  refine g_put (ws2 := [(aM, .inr (10, [.int (nI 0), .ref m_text, .int v_length, .int v_came, .int v_fault, .int v_place, .ref m_paper, .int v_papered, .int v_constants, .ref m_firstHalf, .ref m_secondHalf, .ref m_stored, .ref m_proved, .int v_at, .int v_token, .int v_tokenAt, .long v_nameFirst, .long v_nameSecond, .ref m_written, .ref m_places, .int v_end, .int v_second, .int v_ids, .int v_nodes, .int v_opens, .int v_levelOpens, .int v_start, .int v_app, .int v_behind, .ref m_levelKind, .ref m_levelStart, .ref m_levelApp, .ref m_levelHad, .ref m_levelScope, .ref m_levelId, .ref m_levelFirst, .ref m_levelSecond, .int v_level, .ref m_scopeFirst, .ref m_scopeSecond, .ref m_scopeId, .int v_scope, .ref m_made, .int v_top, .ref m_typeOf, .ref m_tasks, .int v_left, .ref m_todo, .int v_waits, .ref m_renamed, .ref m_bound, .int v_fresh, .int v_changed, .int v_changedTo, .int v_out, .int v_counted, .ref m_markA, .ref m_markB, .ref m_line, .int v_printed, .int v_questionAt]))]) i_M ft_M ft_M_ok n_M S hW 0 rfl rfl 0 (by decide) kf_M_104 rfl rfl rfl (Nat.le_of_ble_eq_true rfl) rfl d_M_printed_2 (fun H locs hW => ?_)
  refine lv_aload_n S.1 S.2.1 d_M_printed_5 rfl (lv_at hl 0 rfl) ?_
  refine g_get i_M S hW 0 rfl rfl 7 (by decide) kf_M_339 rfl d_M_printed_6 ?_
  exact ret _ _ _ _ _ _ d_M_printed_9 rfl ⟨rfl, rfl⟩ hW
theorem d_M_clear_0 : decode b_M_clear 0 = .ok (.aload_n 0, 1) := by decide +kernel
theorem d_M_clear_1 : decode b_M_clear 1 = .ok (.iconst 0, 1) := by decide +kernel
theorem d_M_clear_2 : decode b_M_clear 2 = .ok (.putfield 104, 3) := by decide +kernel
theorem d_M_clear_5 : decode b_M_clear 5 = .ok (.aload_n 0, 1) := by decide +kernel
theorem d_M_clear_6 : decode b_M_clear 6 = .ok (.getfield 162, 3) := by decide +kernel
theorem d_M_clear_9 : decode b_M_clear 9 = .ok (.istore_n 1, 1) := by decide +kernel
theorem d_M_clear_10 : decode b_M_clear 10 = .ok (.aload_n 0, 1) := by decide +kernel
theorem d_M_clear_11 : decode b_M_clear 11 = .ok (.iconst 0, 1) := by decide +kernel
theorem d_M_clear_12 : decode b_M_clear 12 = .ok (.putfield 162, 3) := by decide +kernel
theorem d_M_clear_15 : decode b_M_clear 15 = .ok (.aload_n 0, 1) := by decide +kernel
theorem d_M_clear_16 : decode b_M_clear 16 = .ok (.iconst 0, 1) := by decide +kernel
theorem d_M_clear_17 : decode b_M_clear 17 = .ok (.putfield 117, 3) := by decide +kernel
theorem d_M_clear_20 : decode b_M_clear 20 = .ok (.aload_n 0, 1) := by decide +kernel
theorem d_M_clear_21 : decode b_M_clear 21 = .ok (.iconst 0, 1) := by decide +kernel
theorem d_M_clear_22 : decode b_M_clear 22 = .ok (.putfield 364, 3) := by decide +kernel
theorem d_M_clear_25 : decode b_M_clear 25 = .ok (.aload_n 0, 1) := by decide +kernel
theorem d_M_clear_26 : decode b_M_clear 26 = .ok (.iconst 0, 1) := by decide +kernel
theorem d_M_clear_27 : decode b_M_clear 27 = .ok (.putfield 339, 3) := by decide +kernel
theorem d_M_clear_30 : decode b_M_clear 30 = .ok (.iload_n 1, 1) := by decide +kernel
theorem d_M_clear_31 : decode b_M_clear 31 = .ok (.ireturn, 1) := by decide +kernel
set_option maxHeartbeats 4000000 in
set_option maxRecDepth 100000 in
theorem c_M_clear (l : Launch) (D : va_G) (cI cJ cB cZ : ClassId) (aM m_text m_paper m_firstHalf m_secondHalf m_stored m_proved m_written m_places m_levelKind m_levelStart m_levelApp m_levelHad m_levelScope m_levelId m_levelFirst m_levelSecond m_scopeFirst m_scopeSecond m_scopeId m_made m_typeOf m_tasks m_todo m_renamed m_bound m_markA m_markB m_line : Nat) (v_thrown v_length v_came v_fault v_place v_papered v_constants v_at v_token v_tokenAt v_end v_second v_ids v_nodes v_opens v_levelOpens v_start v_app v_behind v_level v_scope v_top v_left v_waits v_fresh v_changed v_changedTo v_out v_counted v_printed v_questionAt : Int32) (v_nameFirst v_nameSecond : Int64) : Ci l D (tyl cI cJ cB cZ) y_M_clear b_M_clear 2 (some .int) ({ frames := 0, cells := 0, slots := 0, locals := 0 } : Room) [.ref aM] [(aM, .inr (10, [.int v_thrown, .ref m_text, .int v_length, .int v_came, .int v_fault, .int v_place, .ref m_paper, .int v_papered, .int v_constants, .ref m_firstHalf, .ref m_secondHalf, .ref m_stored, .ref m_proved, .int v_at, .int v_token, .int v_tokenAt, .long v_nameFirst, .long v_nameSecond, .ref m_written, .ref m_places, .int v_end, .int v_second, .int v_ids, .int v_nodes, .int v_opens, .int v_levelOpens, .int v_start, .int v_app, .int v_behind, .ref m_levelKind, .ref m_levelStart, .ref m_levelApp, .ref m_levelHad, .ref m_levelScope, .ref m_levelId, .ref m_levelFirst, .ref m_levelSecond, .int v_level, .ref m_scopeFirst, .ref m_scopeSecond, .ref m_scopeId, .int v_scope, .ref m_made, .int v_top, .ref m_typeOf, .ref m_tasks, .int v_left, .ref m_todo, .int v_waits, .ref m_renamed, .ref m_bound, .int v_fresh, .int v_changed, .int v_changedTo, .int v_out, .int v_counted, .ref m_markA, .ref m_markB, .ref m_line, .int v_printed, .int v_questionAt]))] (fun r u => r = v_constants ∧ u = [(aM, .inr (10, [.int (nI 0), .ref m_text, .int (nI 0), .int (nI 0), .int v_fault, .int v_place, .ref m_paper, .int (nI 0), .int (nI 0), .ref m_firstHalf, .ref m_secondHalf, .ref m_stored, .ref m_proved, .int v_at, .int v_token, .int v_tokenAt, .long v_nameFirst, .long v_nameSecond, .ref m_written, .ref m_places, .int v_end, .int v_second, .int v_ids, .int v_nodes, .int v_opens, .int v_levelOpens, .int v_start, .int v_app, .int v_behind, .ref m_levelKind, .ref m_levelStart, .ref m_levelApp, .ref m_levelHad, .ref m_levelScope, .ref m_levelId, .ref m_levelFirst, .ref m_levelSecond, .int v_level, .ref m_scopeFirst, .ref m_scopeSecond, .ref m_scopeId, .int v_scope, .ref m_made, .int v_top, .ref m_typeOf, .ref m_tasks, .int v_left, .ref m_todo, .int v_waits, .ref m_renamed, .ref m_bound, .int v_fresh, .int v_changed, .int v_changedTo, .int v_out, .int v_counted, .ref m_markA, .ref m_markB, .ref m_line, .int v_printed, .int v_questionAt]))]) := by
  refine met_i (own := "ProofReaderModel") (by decide) rfl (Nat.le_of_ble_eq_true rfl) ?_
  intro p e s m args below meth c A Q S hA ret ls hl hW
  have hl : lv_has ls 2 [(0, .ref aM)] := hl
  have hW : Wd D (tyl cI cJ cB cZ) A s s.heap s.heap [] [(aM, .inr (10, [.int v_thrown, .ref m_text, .int v_length, .int v_came, .int v_fault, .int v_place, .ref m_paper, .int v_papered, .int v_constants, .ref m_firstHalf, .ref m_secondHalf, .ref m_stored, .ref m_proved, .int v_at, .int v_token, .int v_tokenAt, .long v_nameFirst, .long v_nameSecond, .ref m_written, .ref m_places, .int v_end, .int v_second, .int v_ids, .int v_nodes, .int v_opens, .int v_levelOpens, .int v_start, .int v_app, .int v_behind, .ref m_levelKind, .ref m_levelStart, .ref m_levelApp, .ref m_levelHad, .ref m_levelScope, .ref m_levelId, .ref m_levelFirst, .ref m_levelSecond, .int v_level, .ref m_scopeFirst, .ref m_scopeSecond, .ref m_scopeId, .int v_scope, .ref m_made, .int v_top, .ref m_typeOf, .ref m_tasks, .int v_left, .ref m_todo, .int v_waits, .ref m_renamed, .ref m_bound, .int v_fresh, .int v_changed, .int v_changedTo, .int v_out, .int v_counted, .ref m_markA, .ref m_markB, .ref m_line, .int v_printed, .int v_questionAt]))] := hW
  refine lv_aload_n S.1 S.2.1 d_M_clear_0 rfl (lv_at hl 0 rfl) ?_
  refine lv_iconst (v := (nI 0)) S.1 S.2.1 d_M_clear_1 (by decide) ?_
  refine g_put (ws2 := [(aM, .inr (10, [.int (nI 0), .ref m_text, .int v_length, .int v_came, .int v_fault, .int v_place, .ref m_paper, .int v_papered, .int v_constants, .ref m_firstHalf, .ref m_secondHalf, .ref m_stored, .ref m_proved, .int v_at, .int v_token, .int v_tokenAt, .long v_nameFirst, .long v_nameSecond, .ref m_written, .ref m_places, .int v_end, .int v_second, .int v_ids, .int v_nodes, .int v_opens, .int v_levelOpens, .int v_start, .int v_app, .int v_behind, .ref m_levelKind, .ref m_levelStart, .ref m_levelApp, .ref m_levelHad, .ref m_levelScope, .ref m_levelId, .ref m_levelFirst, .ref m_levelSecond, .int v_level, .ref m_scopeFirst, .ref m_scopeSecond, .ref m_scopeId, .int v_scope, .ref m_made, .int v_top, .ref m_typeOf, .ref m_tasks, .int v_left, .ref m_todo, .int v_waits, .ref m_renamed, .ref m_bound, .int v_fresh, .int v_changed, .int v_changedTo, .int v_out, .int v_counted, .ref m_markA, .ref m_markB, .ref m_line, .int v_printed, .int v_questionAt]))]) i_M ft_M ft_M_ok n_M S hW 0 rfl rfl 0 (by decide) kf_M_104 rfl rfl rfl (Nat.le_of_ble_eq_true rfl) rfl d_M_clear_2 (fun H locs hW => ?_)
  refine lv_aload_n S.1 S.2.1 d_M_clear_5 rfl (lv_at hl 0 rfl) ?_
  refine g_get i_M S hW 0 rfl rfl 8 (by decide) kf_M_162 rfl d_M_clear_6 ?_
  refine lv_istore_n (lv' := [(1, .int v_constants), (0, .ref aM)]) S.1 S.2.1 d_M_clear_9 rfl hl (by decide) rfl (fun ls hl => ?_)
  refine lv_aload_n S.1 S.2.1 d_M_clear_10 rfl (lv_at hl 1 rfl) ?_
  refine lv_iconst (v := (nI 0)) S.1 S.2.1 d_M_clear_11 (by decide) ?_
  refine g_put (ws2 := [(aM, .inr (10, [.int (nI 0), .ref m_text, .int v_length, .int v_came, .int v_fault, .int v_place, .ref m_paper, .int v_papered, .int (nI 0), .ref m_firstHalf, .ref m_secondHalf, .ref m_stored, .ref m_proved, .int v_at, .int v_token, .int v_tokenAt, .long v_nameFirst, .long v_nameSecond, .ref m_written, .ref m_places, .int v_end, .int v_second, .int v_ids, .int v_nodes, .int v_opens, .int v_levelOpens, .int v_start, .int v_app, .int v_behind, .ref m_levelKind, .ref m_levelStart, .ref m_levelApp, .ref m_levelHad, .ref m_levelScope, .ref m_levelId, .ref m_levelFirst, .ref m_levelSecond, .int v_level, .ref m_scopeFirst, .ref m_scopeSecond, .ref m_scopeId, .int v_scope, .ref m_made, .int v_top, .ref m_typeOf, .ref m_tasks, .int v_left, .ref m_todo, .int v_waits, .ref m_renamed, .ref m_bound, .int v_fresh, .int v_changed, .int v_changedTo, .int v_out, .int v_counted, .ref m_markA, .ref m_markB, .ref m_line, .int v_printed, .int v_questionAt]))]) i_M ft_M ft_M_ok n_M S hW 0 rfl rfl 8 (by decide) kf_M_162 rfl rfl rfl (Nat.le_of_ble_eq_true rfl) rfl d_M_clear_12 (fun H locs hW => ?_)
  refine lv_aload_n S.1 S.2.1 d_M_clear_15 rfl (lv_at hl 1 rfl) ?_
  refine lv_iconst (v := (nI 0)) S.1 S.2.1 d_M_clear_16 (by decide) ?_
  refine g_put (ws2 := [(aM, .inr (10, [.int (nI 0), .ref m_text, .int (nI 0), .int v_came, .int v_fault, .int v_place, .ref m_paper, .int v_papered, .int (nI 0), .ref m_firstHalf, .ref m_secondHalf, .ref m_stored, .ref m_proved, .int v_at, .int v_token, .int v_tokenAt, .long v_nameFirst, .long v_nameSecond, .ref m_written, .ref m_places, .int v_end, .int v_second, .int v_ids, .int v_nodes, .int v_opens, .int v_levelOpens, .int v_start, .int v_app, .int v_behind, .ref m_levelKind, .ref m_levelStart, .ref m_levelApp, .ref m_levelHad, .ref m_levelScope, .ref m_levelId, .ref m_levelFirst, .ref m_levelSecond, .int v_level, .ref m_scopeFirst, .ref m_scopeSecond, .ref m_scopeId, .int v_scope, .ref m_made, .int v_top, .ref m_typeOf, .ref m_tasks, .int v_left, .ref m_todo, .int v_waits, .ref m_renamed, .ref m_bound, .int v_fresh, .int v_changed, .int v_changedTo, .int v_out, .int v_counted, .ref m_markA, .ref m_markB, .ref m_line, .int v_printed, .int v_questionAt]))]) i_M ft_M ft_M_ok n_M S hW 0 rfl rfl 2 (by decide) kf_M_117 rfl rfl rfl (Nat.le_of_ble_eq_true rfl) rfl d_M_clear_17 (fun H locs hW => ?_)
  refine lv_aload_n S.1 S.2.1 d_M_clear_20 rfl (lv_at hl 1 rfl) ?_
  refine lv_iconst (v := (nI 0)) S.1 S.2.1 d_M_clear_21 (by decide) ?_
  refine g_put (ws2 := [(aM, .inr (10, [.int (nI 0), .ref m_text, .int (nI 0), .int (nI 0), .int v_fault, .int v_place, .ref m_paper, .int v_papered, .int (nI 0), .ref m_firstHalf, .ref m_secondHalf, .ref m_stored, .ref m_proved, .int v_at, .int v_token, .int v_tokenAt, .long v_nameFirst, .long v_nameSecond, .ref m_written, .ref m_places, .int v_end, .int v_second, .int v_ids, .int v_nodes, .int v_opens, .int v_levelOpens, .int v_start, .int v_app, .int v_behind, .ref m_levelKind, .ref m_levelStart, .ref m_levelApp, .ref m_levelHad, .ref m_levelScope, .ref m_levelId, .ref m_levelFirst, .ref m_levelSecond, .int v_level, .ref m_scopeFirst, .ref m_scopeSecond, .ref m_scopeId, .int v_scope, .ref m_made, .int v_top, .ref m_typeOf, .ref m_tasks, .int v_left, .ref m_todo, .int v_waits, .ref m_renamed, .ref m_bound, .int v_fresh, .int v_changed, .int v_changedTo, .int v_out, .int v_counted, .ref m_markA, .ref m_markB, .ref m_line, .int v_printed, .int v_questionAt]))]) i_M ft_M ft_M_ok n_M S hW 0 rfl rfl 3 (by decide) kf_M_364 rfl rfl rfl (Nat.le_of_ble_eq_true rfl) rfl d_M_clear_22 (fun H locs hW => ?_)
  refine lv_aload_n S.1 S.2.1 d_M_clear_25 rfl (lv_at hl 1 rfl) ?_
  refine lv_iconst (v := (nI 0)) S.1 S.2.1 d_M_clear_26 (by decide) ?_
  refine g_put (ws2 := [(aM, .inr (10, [.int (nI 0), .ref m_text, .int (nI 0), .int (nI 0), .int v_fault, .int v_place, .ref m_paper, .int (nI 0), .int (nI 0), .ref m_firstHalf, .ref m_secondHalf, .ref m_stored, .ref m_proved, .int v_at, .int v_token, .int v_tokenAt, .long v_nameFirst, .long v_nameSecond, .ref m_written, .ref m_places, .int v_end, .int v_second, .int v_ids, .int v_nodes, .int v_opens, .int v_levelOpens, .int v_start, .int v_app, .int v_behind, .ref m_levelKind, .ref m_levelStart, .ref m_levelApp, .ref m_levelHad, .ref m_levelScope, .ref m_levelId, .ref m_levelFirst, .ref m_levelSecond, .int v_level, .ref m_scopeFirst, .ref m_scopeSecond, .ref m_scopeId, .int v_scope, .ref m_made, .int v_top, .ref m_typeOf, .ref m_tasks, .int v_left, .ref m_todo, .int v_waits, .ref m_renamed, .ref m_bound, .int v_fresh, .int v_changed, .int v_changedTo, .int v_out, .int v_counted, .ref m_markA, .ref m_markB, .ref m_line, .int v_printed, .int v_questionAt]))]) i_M ft_M ft_M_ok n_M S hW 0 rfl rfl 7 (by decide) kf_M_339 rfl rfl rfl (Nat.le_of_ble_eq_true rfl) rfl d_M_clear_27 (fun H locs hW => ?_)
  refine lv_iload_n S.1 S.2.1 d_M_clear_30 rfl (lv_at hl 0 rfl) ?_
  exact ret _ _ _ _ _ _ d_M_clear_31 rfl ⟨rfl, rfl⟩ hW
theorem d_M_wipe_0 : decode b_M_wipe 0 = .ok (.aload_n 0, 1) := by decide +kernel
theorem d_M_wipe_1 : decode b_M_wipe 1 = .ok (.iconst 0, 1) := by decide +kernel
theorem d_M_wipe_2 : decode b_M_wipe 2 = .ok (.putfield 104, 3) := by decide +kernel
theorem d_M_wipe_5 : decode b_M_wipe 5 = .ok (.aload_n 0, 1) := by decide +kernel
theorem d_M_wipe_6 : decode b_M_wipe 6 = .ok (.getfield 339, 3) := by decide +kernel
theorem d_M_wipe_9 : decode b_M_wipe 9 = .ok (.istore_n 1, 1) := by decide +kernel
theorem d_M_wipe_10 : decode b_M_wipe 10 = .ok (.aload_n 0, 1) := by decide +kernel
theorem d_M_wipe_11 : decode b_M_wipe 11 = .ok (.iconst 0, 1) := by decide +kernel
theorem d_M_wipe_12 : decode b_M_wipe 12 = .ok (.putfield 339, 3) := by decide +kernel
theorem d_M_wipe_15 : decode b_M_wipe 15 = .ok (.iload_n 1, 1) := by decide +kernel
theorem d_M_wipe_16 : decode b_M_wipe 16 = .ok (.ireturn, 1) := by decide +kernel
set_option maxHeartbeats 4000000 in
set_option maxRecDepth 100000 in
theorem c_M_wipe (l : Launch) (D : va_G) (cI cJ cB cZ : ClassId) (aM m_text m_paper m_firstHalf m_secondHalf m_stored m_proved m_written m_places m_levelKind m_levelStart m_levelApp m_levelHad m_levelScope m_levelId m_levelFirst m_levelSecond m_scopeFirst m_scopeSecond m_scopeId m_made m_typeOf m_tasks m_todo m_renamed m_bound m_markA m_markB m_line : Nat) (v_thrown v_length v_came v_fault v_place v_papered v_constants v_at v_token v_tokenAt v_end v_second v_ids v_nodes v_opens v_levelOpens v_start v_app v_behind v_level v_scope v_top v_left v_waits v_fresh v_changed v_changedTo v_out v_counted v_printed v_questionAt : Int32) (v_nameFirst v_nameSecond : Int64) : Ci l D (tyl cI cJ cB cZ) y_M_wipe b_M_wipe 2 (some .int) ({ frames := 0, cells := 0, slots := 0, locals := 0 } : Room) [.ref aM] [(aM, .inr (10, [.int v_thrown, .ref m_text, .int v_length, .int v_came, .int v_fault, .int v_place, .ref m_paper, .int v_papered, .int v_constants, .ref m_firstHalf, .ref m_secondHalf, .ref m_stored, .ref m_proved, .int v_at, .int v_token, .int v_tokenAt, .long v_nameFirst, .long v_nameSecond, .ref m_written, .ref m_places, .int v_end, .int v_second, .int v_ids, .int v_nodes, .int v_opens, .int v_levelOpens, .int v_start, .int v_app, .int v_behind, .ref m_levelKind, .ref m_levelStart, .ref m_levelApp, .ref m_levelHad, .ref m_levelScope, .ref m_levelId, .ref m_levelFirst, .ref m_levelSecond, .int v_level, .ref m_scopeFirst, .ref m_scopeSecond, .ref m_scopeId, .int v_scope, .ref m_made, .int v_top, .ref m_typeOf, .ref m_tasks, .int v_left, .ref m_todo, .int v_waits, .ref m_renamed, .ref m_bound, .int v_fresh, .int v_changed, .int v_changedTo, .int v_out, .int v_counted, .ref m_markA, .ref m_markB, .ref m_line, .int v_printed, .int v_questionAt]))] (fun r u => r = v_papered ∧ u = [(aM, .inr (10, [.int (nI 0), .ref m_text, .int v_length, .int v_came, .int v_fault, .int v_place, .ref m_paper, .int (nI 0), .int v_constants, .ref m_firstHalf, .ref m_secondHalf, .ref m_stored, .ref m_proved, .int v_at, .int v_token, .int v_tokenAt, .long v_nameFirst, .long v_nameSecond, .ref m_written, .ref m_places, .int v_end, .int v_second, .int v_ids, .int v_nodes, .int v_opens, .int v_levelOpens, .int v_start, .int v_app, .int v_behind, .ref m_levelKind, .ref m_levelStart, .ref m_levelApp, .ref m_levelHad, .ref m_levelScope, .ref m_levelId, .ref m_levelFirst, .ref m_levelSecond, .int v_level, .ref m_scopeFirst, .ref m_scopeSecond, .ref m_scopeId, .int v_scope, .ref m_made, .int v_top, .ref m_typeOf, .ref m_tasks, .int v_left, .ref m_todo, .int v_waits, .ref m_renamed, .ref m_bound, .int v_fresh, .int v_changed, .int v_changedTo, .int v_out, .int v_counted, .ref m_markA, .ref m_markB, .ref m_line, .int v_printed, .int v_questionAt]))]) := by
  refine met_i (own := "ProofReaderModel") (by decide) rfl (Nat.le_of_ble_eq_true rfl) ?_
  intro p e s m args below meth c A Q S hA ret ls hl hW
  have hl : lv_has ls 2 [(0, .ref aM)] := hl
  have hW : Wd D (tyl cI cJ cB cZ) A s s.heap s.heap [] [(aM, .inr (10, [.int v_thrown, .ref m_text, .int v_length, .int v_came, .int v_fault, .int v_place, .ref m_paper, .int v_papered, .int v_constants, .ref m_firstHalf, .ref m_secondHalf, .ref m_stored, .ref m_proved, .int v_at, .int v_token, .int v_tokenAt, .long v_nameFirst, .long v_nameSecond, .ref m_written, .ref m_places, .int v_end, .int v_second, .int v_ids, .int v_nodes, .int v_opens, .int v_levelOpens, .int v_start, .int v_app, .int v_behind, .ref m_levelKind, .ref m_levelStart, .ref m_levelApp, .ref m_levelHad, .ref m_levelScope, .ref m_levelId, .ref m_levelFirst, .ref m_levelSecond, .int v_level, .ref m_scopeFirst, .ref m_scopeSecond, .ref m_scopeId, .int v_scope, .ref m_made, .int v_top, .ref m_typeOf, .ref m_tasks, .int v_left, .ref m_todo, .int v_waits, .ref m_renamed, .ref m_bound, .int v_fresh, .int v_changed, .int v_changedTo, .int v_out, .int v_counted, .ref m_markA, .ref m_markB, .ref m_line, .int v_printed, .int v_questionAt]))] := hW
  refine lv_aload_n S.1 S.2.1 d_M_wipe_0 rfl (lv_at hl 0 rfl) ?_
  refine lv_iconst (v := (nI 0)) S.1 S.2.1 d_M_wipe_1 (by decide) ?_
  refine g_put (ws2 := [(aM, .inr (10, [.int (nI 0), .ref m_text, .int v_length, .int v_came, .int v_fault, .int v_place, .ref m_paper, .int v_papered, .int v_constants, .ref m_firstHalf, .ref m_secondHalf, .ref m_stored, .ref m_proved, .int v_at, .int v_token, .int v_tokenAt, .long v_nameFirst, .long v_nameSecond, .ref m_written, .ref m_places, .int v_end, .int v_second, .int v_ids, .int v_nodes, .int v_opens, .int v_levelOpens, .int v_start, .int v_app, .int v_behind, .ref m_levelKind, .ref m_levelStart, .ref m_levelApp, .ref m_levelHad, .ref m_levelScope, .ref m_levelId, .ref m_levelFirst, .ref m_levelSecond, .int v_level, .ref m_scopeFirst, .ref m_scopeSecond, .ref m_scopeId, .int v_scope, .ref m_made, .int v_top, .ref m_typeOf, .ref m_tasks, .int v_left, .ref m_todo, .int v_waits, .ref m_renamed, .ref m_bound, .int v_fresh, .int v_changed, .int v_changedTo, .int v_out, .int v_counted, .ref m_markA, .ref m_markB, .ref m_line, .int v_printed, .int v_questionAt]))]) i_M ft_M ft_M_ok n_M S hW 0 rfl rfl 0 (by decide) kf_M_104 rfl rfl rfl (Nat.le_of_ble_eq_true rfl) rfl d_M_wipe_2 (fun H locs hW => ?_)
  refine lv_aload_n S.1 S.2.1 d_M_wipe_5 rfl (lv_at hl 0 rfl) ?_
  refine g_get i_M S hW 0 rfl rfl 7 (by decide) kf_M_339 rfl d_M_wipe_6 ?_
  refine lv_istore_n (lv' := [(1, .int v_papered), (0, .ref aM)]) S.1 S.2.1 d_M_wipe_9 rfl hl (by decide) rfl (fun ls hl => ?_)
  refine lv_aload_n S.1 S.2.1 d_M_wipe_10 rfl (lv_at hl 1 rfl) ?_
  refine lv_iconst (v := (nI 0)) S.1 S.2.1 d_M_wipe_11 (by decide) ?_
  refine g_put (ws2 := [(aM, .inr (10, [.int (nI 0), .ref m_text, .int v_length, .int v_came, .int v_fault, .int v_place, .ref m_paper, .int (nI 0), .int v_constants, .ref m_firstHalf, .ref m_secondHalf, .ref m_stored, .ref m_proved, .int v_at, .int v_token, .int v_tokenAt, .long v_nameFirst, .long v_nameSecond, .ref m_written, .ref m_places, .int v_end, .int v_second, .int v_ids, .int v_nodes, .int v_opens, .int v_levelOpens, .int v_start, .int v_app, .int v_behind, .ref m_levelKind, .ref m_levelStart, .ref m_levelApp, .ref m_levelHad, .ref m_levelScope, .ref m_levelId, .ref m_levelFirst, .ref m_levelSecond, .int v_level, .ref m_scopeFirst, .ref m_scopeSecond, .ref m_scopeId, .int v_scope, .ref m_made, .int v_top, .ref m_typeOf, .ref m_tasks, .int v_left, .ref m_todo, .int v_waits, .ref m_renamed, .ref m_bound, .int v_fresh, .int v_changed, .int v_changedTo, .int v_out, .int v_counted, .ref m_markA, .ref m_markB, .ref m_line, .int v_printed, .int v_questionAt]))]) i_M ft_M ft_M_ok n_M S hW 0 rfl rfl 7 (by decide) kf_M_339 rfl rfl rfl (Nat.le_of_ble_eq_true rfl) rfl d_M_wipe_12 (fun H locs hW => ?_)
  refine lv_iload_n S.1 S.2.1 d_M_wipe_15 rfl (lv_at hl 0 rfl) ?_
  exact ret _ _ _ _ _ _ d_M_wipe_16 rfl ⟨rfl, rfl⟩ hW
theorem d_M_readToken_0 : decode b_M_readToken 0 = .ok (.aload_n 0, 1) := by decide +kernel
theorem d_M_readToken_1 : decode b_M_readToken 1 = .ok (.getfield 114, 3) := by decide +kernel
theorem d_M_readToken_4 : decode b_M_readToken 4 = .ok (.aload_n 0, 1) := by decide +kernel
theorem d_M_readToken_5 : decode b_M_readToken 5 = .ok (.getfield 117, 3) := by decide +kernel
theorem d_M_readToken_8 : decode b_M_readToken 8 = .ok (.if_icmp .ge 30, 3) := by decide +kernel
theorem d_M_readToken_11 : decode b_M_readToken 11 = .ok (.aload_n 0, 1) := by decide +kernel
theorem d_M_readToken_12 : decode b_M_readToken 12 = .ok (.getfield 7, 3) := by decide +kernel
theorem d_M_readToken_15 : decode b_M_readToken 15 = .ok (.aload_n 0, 1) := by decide +kernel
theorem d_M_readToken_16 : decode b_M_readToken 16 = .ok (.getfield 114, 3) := by decide +kernel
theorem d_M_readToken_19 : decode b_M_readToken 19 = .ok (.iaload, 1) := by decide +kernel
theorem d_M_readToken_20 : decode b_M_readToken 20 = .ok (.bipush 32, 2) := by decide +kernel
theorem d_M_readToken_22 : decode b_M_readToken 22 = .ok (.if_icmp .gt 16, 3) := by decide +kernel
theorem d_M_readToken_25 : decode b_M_readToken 25 = .ok (.aload_n 0, 1) := by decide +kernel
theorem d_M_readToken_26 : decode b_M_readToken 26 = .ok (.dup, 1) := by decide +kernel
theorem d_M_readToken_27 : decode b_M_readToken 27 = .ok (.getfield 114, 3) := by decide +kernel
theorem d_M_readToken_30 : decode b_M_readToken 30 = .ok (.iconst 1, 1) := by decide +kernel
theorem d_M_readToken_31 : decode b_M_readToken 31 = .ok (.iadd, 1) := by decide +kernel
theorem d_M_readToken_32 : decode b_M_readToken 32 = .ok (.putfield 114, 3) := by decide +kernel
theorem d_M_readToken_35 : decode b_M_readToken 35 = .ok (.goto (-35), 3) := by decide +kernel
theorem d_M_readToken_38 : decode b_M_readToken 38 = .ok (.aload_n 0, 1) := by decide +kernel
theorem d_M_readToken_39 : decode b_M_readToken 39 = .ok (.aload_n 0, 1) := by decide +kernel
theorem d_M_readToken_40 : decode b_M_readToken 40 = .ok (.getfield 114, 3) := by decide +kernel
theorem d_M_readToken_43 : decode b_M_readToken 43 = .ok (.putfield 129, 3) := by decide +kernel
theorem d_M_readToken_46 : decode b_M_readToken 46 = .ok (.aload_n 0, 1) := by decide +kernel
theorem d_M_readToken_47 : decode b_M_readToken 47 = .ok (.getfield 114, 3) := by decide +kernel
theorem d_M_readToken_50 : decode b_M_readToken 50 = .ok (.aload_n 0, 1) := by decide +kernel
theorem d_M_readToken_51 : decode b_M_readToken 51 = .ok (.getfield 117, 3) := by decide +kernel
theorem d_M_readToken_54 : decode b_M_readToken 54 = .ok (.if_icmp .ne 9, 3) := by decide +kernel
theorem d_M_readToken_57 : decode b_M_readToken 57 = .ok (.aload_n 0, 1) := by decide +kernel
theorem d_M_readToken_58 : decode b_M_readToken 58 = .ok (.iconst 0, 1) := by decide +kernel
theorem d_M_readToken_59 : decode b_M_readToken 59 = .ok (.putfield 126, 3) := by decide +kernel
theorem d_M_readToken_62 : decode b_M_readToken 62 = .ok (.return_, 1) := by decide +kernel
theorem d_M_readToken_63 : decode b_M_readToken 63 = .ok (.aload_n 0, 1) := by decide +kernel
theorem d_M_readToken_64 : decode b_M_readToken 64 = .ok (.getfield 7, 3) := by decide +kernel
theorem d_M_readToken_67 : decode b_M_readToken 67 = .ok (.aload_n 0, 1) := by decide +kernel
theorem d_M_readToken_68 : decode b_M_readToken 68 = .ok (.getfield 114, 3) := by decide +kernel
theorem d_M_readToken_71 : decode b_M_readToken 71 = .ok (.iaload, 1) := by decide +kernel
theorem d_M_readToken_72 : decode b_M_readToken 72 = .ok (.istore_n 1, 1) := by decide +kernel
theorem d_M_readToken_73 : decode b_M_readToken 73 = .ok (.iload_n 1, 1) := by decide +kernel
theorem d_M_readToken_74 : decode b_M_readToken 74 = .ok (.invokestatic 120, 3) := by decide +kernel
theorem d_M_readToken_77 : decode b_M_readToken 77 = .ok (.ifCond .eq 10, 3) := by decide +kernel
theorem d_M_readToken_80 : decode b_M_readToken 80 = .ok (.aload_n 0, 1) := by decide +kernel
theorem d_M_readToken_81 : decode b_M_readToken 81 = .ok (.invokevirtual 132, 3) := by decide +kernel
theorem d_M_readToken_84 : decode b_M_readToken 84 = .ok (.goto 86, 3) := by decide +kernel
theorem d_M_readToken_87 : decode b_M_readToken 87 = .ok (.iload_n 1, 1) := by decide +kernel
theorem d_M_readToken_88 : decode b_M_readToken 88 = .ok (.bipush 45, 2) := by decide +kernel
theorem d_M_readToken_90 : decode b_M_readToken 90 = .ok (.if_icmp .ne 54, 3) := by decide +kernel
theorem d_M_readToken_93 : decode b_M_readToken 93 = .ok (.aload_n 0, 1) := by decide +kernel
theorem d_M_readToken_94 : decode b_M_readToken 94 = .ok (.aload_n 0, 1) := by decide +kernel
theorem d_M_readToken_95 : decode b_M_readToken 95 = .ok (.getfield 114, 3) := by decide +kernel
theorem d_M_readToken_98 : decode b_M_readToken 98 = .ok (.iconst 1, 1) := by decide +kernel
theorem d_M_readToken_99 : decode b_M_readToken 99 = .ok (.iadd, 1) := by decide +kernel
theorem d_M_readToken_100 : decode b_M_readToken 100 = .ok (.aload_n 0, 1) := by decide +kernel
theorem d_M_readToken_101 : decode b_M_readToken 101 = .ok (.getfield 117, 3) := by decide +kernel
theorem d_M_readToken_104 : decode b_M_readToken 104 = .ok (.if_icmp .ge 23, 3) := by decide +kernel
theorem d_M_readToken_107 : decode b_M_readToken 107 = .ok (.aload_n 0, 1) := by decide +kernel
theorem d_M_readToken_108 : decode b_M_readToken 108 = .ok (.getfield 7, 3) := by decide +kernel
theorem d_M_readToken_111 : decode b_M_readToken 111 = .ok (.aload_n 0, 1) := by decide +kernel
theorem d_M_readToken_112 : decode b_M_readToken 112 = .ok (.getfield 114, 3) := by decide +kernel
theorem d_M_readToken_115 : decode b_M_readToken 115 = .ok (.iconst 1, 1) := by decide +kernel
theorem d_M_readToken_116 : decode b_M_readToken 116 = .ok (.iadd, 1) := by decide +kernel
theorem d_M_readToken_117 : decode b_M_readToken 117 = .ok (.iaload, 1) := by decide +kernel
theorem d_M_readToken_118 : decode b_M_readToken 118 = .ok (.bipush 62, 2) := by decide +kernel
theorem d_M_readToken_120 : decode b_M_readToken 120 = .ok (.if_icmp .ne 7, 3) := by decide +kernel
theorem d_M_readToken_123 : decode b_M_readToken 123 = .ok (.iconst 3, 1) := by decide +kernel
theorem d_M_readToken_124 : decode b_M_readToken 124 = .ok (.goto 4, 3) := by decide +kernel
theorem d_M_readToken_127 : decode b_M_readToken 127 = .ok (.iconst 4, 1) := by decide +kernel
theorem d_M_readToken_128 : decode b_M_readToken 128 = .ok (.putfield 126, 3) := by decide +kernel
theorem d_M_readToken_131 : decode b_M_readToken 131 = .ok (.aload_n 0, 1) := by decide +kernel
theorem d_M_readToken_132 : decode b_M_readToken 132 = .ok (.aload_n 0, 1) := by decide +kernel
theorem d_M_readToken_133 : decode b_M_readToken 133 = .ok (.getfield 114, 3) := by decide +kernel
theorem d_M_readToken_136 : decode b_M_readToken 136 = .ok (.iconst 2, 1) := by decide +kernel
theorem d_M_readToken_137 : decode b_M_readToken 137 = .ok (.iadd, 1) := by decide +kernel
theorem d_M_readToken_138 : decode b_M_readToken 138 = .ok (.putfield 114, 3) := by decide +kernel
theorem d_M_readToken_141 : decode b_M_readToken 141 = .ok (.goto 29, 3) := by decide +kernel
theorem d_M_readToken_144 : decode b_M_readToken 144 = .ok (.aload_n 0, 1) := by decide +kernel
theorem d_M_readToken_145 : decode b_M_readToken 145 = .ok (.iload_n 1, 1) := by decide +kernel
theorem d_M_readToken_146 : decode b_M_readToken 146 = .ok (.invokestatic 135, 3) := by decide +kernel
theorem d_M_readToken_149 : decode b_M_readToken 149 = .ok (.ifCond .eq 7, 3) := by decide +kernel
theorem d_M_readToken_152 : decode b_M_readToken 152 = .ok (.iload_n 1, 1) := by decide +kernel
theorem d_M_readToken_153 : decode b_M_readToken 153 = .ok (.goto 4, 3) := by decide +kernel
theorem d_M_readToken_156 : decode b_M_readToken 156 = .ok (.iconst 4, 1) := by decide +kernel
theorem d_M_readToken_157 : decode b_M_readToken 157 = .ok (.putfield 126, 3) := by decide +kernel
theorem d_M_readToken_160 : decode b_M_readToken 160 = .ok (.aload_n 0, 1) := by decide +kernel
theorem d_M_readToken_161 : decode b_M_readToken 161 = .ok (.dup, 1) := by decide +kernel
theorem d_M_readToken_162 : decode b_M_readToken 162 = .ok (.getfield 114, 3) := by decide +kernel
theorem d_M_readToken_165 : decode b_M_readToken 165 = .ok (.iconst 1, 1) := by decide +kernel
theorem d_M_readToken_166 : decode b_M_readToken 166 = .ok (.iadd, 1) := by decide +kernel
theorem d_M_readToken_167 : decode b_M_readToken 167 = .ok (.putfield 114, 3) := by decide +kernel
theorem d_M_readToken_170 : decode b_M_readToken 170 = .ok (.return_, 1) := by decide +kernel
set_option maxHeartbeats 4000000 in
set_option maxRecDepth 100000 in
theorem c_M_readToken (l : Launch) (D : va_G) (cI cJ cB cZ : ClassId) (aM m_text m_paper m_firstHalf m_secondHalf m_stored m_proved m_written m_places m_levelKind m_levelStart m_levelApp m_levelHad m_levelScope m_levelId m_levelFirst m_levelSecond m_scopeFirst m_scopeSecond m_scopeId m_made m_typeOf m_tasks m_todo m_renamed m_bound m_markA m_markB m_line : Nat) (v_thrown v_came v_fault v_place v_papered v_constants v_token v_tokenAt v_end v_second v_ids v_nodes v_opens v_levelOpens v_start v_app v_behind v_level v_scope v_top v_left v_waits v_fresh v_changed v_changedTo v_out v_counted v_printed v_questionAt : Int32) (v_nameFirst v_nameSecond : Int64) : Cv l D (tyl cI cJ cB cZ) y_M_readToken b_M_readToken 2 ({ frames := 0, cells := 0, slots := 0, locals := 0 } : Room) [.ref aM] [(aM, .inr (10, [.int v_thrown, .ref m_text, .int (nI 0), .int v_came, .int v_fault, .int v_place, .ref m_paper, .int v_papered, .int v_constants, .ref m_firstHalf, .ref m_secondHalf, .ref m_stored, .ref m_proved, .int (nI 0), .int v_token, .int v_tokenAt, .long v_nameFirst, .long v_nameSecond, .ref m_written, .ref m_places, .int v_end, .int v_second, .int v_ids, .int v_nodes, .int v_opens, .int v_levelOpens, .int v_start, .int v_app, .int v_behind, .ref m_levelKind, .ref m_levelStart, .ref m_levelApp, .ref m_levelHad, .ref m_levelScope, .ref m_levelId, .ref m_levelFirst, .ref m_levelSecond, .int v_level, .ref m_scopeFirst, .ref m_scopeSecond, .ref m_scopeId, .int v_scope, .ref m_made, .int v_top, .ref m_typeOf, .ref m_tasks, .int v_left, .ref m_todo, .int v_waits, .ref m_renamed, .ref m_bound, .int v_fresh, .int v_changed, .int v_changedTo, .int v_out, .int v_counted, .ref m_markA, .ref m_markB, .ref m_line, .int v_printed, .int v_questionAt]))] (fun u => u = [(aM, .inr (10, [.int v_thrown, .ref m_text, .int (nI 0), .int v_came, .int v_fault, .int v_place, .ref m_paper, .int v_papered, .int v_constants, .ref m_firstHalf, .ref m_secondHalf, .ref m_stored, .ref m_proved, .int (nI 0), .int (nI 0), .int (nI 0), .long v_nameFirst, .long v_nameSecond, .ref m_written, .ref m_places, .int v_end, .int v_second, .int v_ids, .int v_nodes, .int v_opens, .int v_levelOpens, .int v_start, .int v_app, .int v_behind, .ref m_levelKind, .ref m_levelStart, .ref m_levelApp, .ref m_levelHad, .ref m_levelScope, .ref m_levelId, .ref m_levelFirst, .ref m_levelSecond, .int v_level, .ref m_scopeFirst, .ref m_scopeSecond, .ref m_scopeId, .int v_scope, .ref m_made, .int v_top, .ref m_typeOf, .ref m_tasks, .int v_left, .ref m_todo, .int v_waits, .ref m_renamed, .ref m_bound, .int v_fresh, .int v_changed, .int v_changedTo, .int v_out, .int v_counted, .ref m_markA, .ref m_markB, .ref m_line, .int v_printed, .int v_questionAt]))]) := by
  refine met_v (own := "ProofReaderModel") (by decide) rfl (Nat.le_of_ble_eq_true rfl) ?_
  intro p e s m args below meth c A Q S hin hA ret ls hl hW
  have hl : lv_has ls 2 [(0, .ref aM)] := hl
  have hW : Wd D (tyl cI cJ cB cZ) A s s.heap s.heap [] [(aM, .inr (10, [.int v_thrown, .ref m_text, .int (nI 0), .int v_came, .int v_fault, .int v_place, .ref m_paper, .int v_papered, .int v_constants, .ref m_firstHalf, .ref m_secondHalf, .ref m_stored, .ref m_proved, .int (nI 0), .int v_token, .int v_tokenAt, .long v_nameFirst, .long v_nameSecond, .ref m_written, .ref m_places, .int v_end, .int v_second, .int v_ids, .int v_nodes, .int v_opens, .int v_levelOpens, .int v_start, .int v_app, .int v_behind, .ref m_levelKind, .ref m_levelStart, .ref m_levelApp, .ref m_levelHad, .ref m_levelScope, .ref m_levelId, .ref m_levelFirst, .ref m_levelSecond, .int v_level, .ref m_scopeFirst, .ref m_scopeSecond, .ref m_scopeId, .int v_scope, .ref m_made, .int v_top, .ref m_typeOf, .ref m_tasks, .int v_left, .ref m_todo, .int v_waits, .ref m_renamed, .ref m_bound, .int v_fresh, .int v_changed, .int v_changedTo, .int v_out, .int v_counted, .ref m_markA, .ref m_markB, .ref m_line, .int v_printed, .int v_questionAt]))] := hW
  refine lv_aload_n S.1 S.2.1 d_M_readToken_0 rfl (lv_at hl 0 rfl) ?_
  refine g_get i_M S hW 0 rfl rfl 13 (by decide) kf_M_114 rfl d_M_readToken_1 ?_
  refine lv_aload_n S.1 S.2.1 d_M_readToken_4 rfl (lv_at hl 0 rfl) ?_
  refine g_get i_M S hW 0 rfl rfl 2 (by decide) kf_M_117 rfl d_M_readToken_5 ?_
  refine lv_icmp_ge (tgt := 38) S.1 S.2.1 d_M_readToken_8 (by decide) (fun _ => ?_) (fun h => absurd h (by decide))
  refine lv_aload_n S.1 S.2.1 d_M_readToken_38 rfl (lv_at hl 0 rfl) ?_
  refine lv_aload_n S.1 S.2.1 d_M_readToken_39 rfl (lv_at hl 0 rfl) ?_
  refine g_get i_M S hW 0 rfl rfl 13 (by decide) kf_M_114 rfl d_M_readToken_40 ?_
  refine g_put (ws2 := [(aM, .inr (10, [.int v_thrown, .ref m_text, .int (nI 0), .int v_came, .int v_fault, .int v_place, .ref m_paper, .int v_papered, .int v_constants, .ref m_firstHalf, .ref m_secondHalf, .ref m_stored, .ref m_proved, .int (nI 0), .int v_token, .int (nI 0), .long v_nameFirst, .long v_nameSecond, .ref m_written, .ref m_places, .int v_end, .int v_second, .int v_ids, .int v_nodes, .int v_opens, .int v_levelOpens, .int v_start, .int v_app, .int v_behind, .ref m_levelKind, .ref m_levelStart, .ref m_levelApp, .ref m_levelHad, .ref m_levelScope, .ref m_levelId, .ref m_levelFirst, .ref m_levelSecond, .int v_level, .ref m_scopeFirst, .ref m_scopeSecond, .ref m_scopeId, .int v_scope, .ref m_made, .int v_top, .ref m_typeOf, .ref m_tasks, .int v_left, .ref m_todo, .int v_waits, .ref m_renamed, .ref m_bound, .int v_fresh, .int v_changed, .int v_changedTo, .int v_out, .int v_counted, .ref m_markA, .ref m_markB, .ref m_line, .int v_printed, .int v_questionAt]))]) i_M ft_M ft_M_ok n_M S hW 0 rfl rfl 15 (by decide) kf_M_129 rfl rfl rfl (Nat.le_of_ble_eq_true rfl) rfl d_M_readToken_43 (fun H locs hW => ?_)
  refine lv_aload_n S.1 S.2.1 d_M_readToken_46 rfl (lv_at hl 0 rfl) ?_
  refine g_get i_M S hW 0 rfl rfl 13 (by decide) kf_M_114 rfl d_M_readToken_47 ?_
  refine lv_aload_n S.1 S.2.1 d_M_readToken_50 rfl (lv_at hl 0 rfl) ?_
  refine g_get i_M S hW 0 rfl rfl 2 (by decide) kf_M_117 rfl d_M_readToken_51 ?_
  refine lv_icmp_ne (tgt := 63) S.1 S.2.1 d_M_readToken_54 (by decide) (fun h => absurd h (by decide)) (fun _ => ?_)
  refine lv_aload_n S.1 S.2.1 d_M_readToken_57 rfl (lv_at hl 0 rfl) ?_
  refine lv_iconst (v := (nI 0)) S.1 S.2.1 d_M_readToken_58 (by decide) ?_
  refine g_put (ws2 := [(aM, .inr (10, [.int v_thrown, .ref m_text, .int (nI 0), .int v_came, .int v_fault, .int v_place, .ref m_paper, .int v_papered, .int v_constants, .ref m_firstHalf, .ref m_secondHalf, .ref m_stored, .ref m_proved, .int (nI 0), .int (nI 0), .int (nI 0), .long v_nameFirst, .long v_nameSecond, .ref m_written, .ref m_places, .int v_end, .int v_second, .int v_ids, .int v_nodes, .int v_opens, .int v_levelOpens, .int v_start, .int v_app, .int v_behind, .ref m_levelKind, .ref m_levelStart, .ref m_levelApp, .ref m_levelHad, .ref m_levelScope, .ref m_levelId, .ref m_levelFirst, .ref m_levelSecond, .int v_level, .ref m_scopeFirst, .ref m_scopeSecond, .ref m_scopeId, .int v_scope, .ref m_made, .int v_top, .ref m_typeOf, .ref m_tasks, .int v_left, .ref m_todo, .int v_waits, .ref m_renamed, .ref m_bound, .int v_fresh, .int v_changed, .int v_changedTo, .int v_out, .int v_counted, .ref m_markA, .ref m_markB, .ref m_line, .int v_printed, .int v_questionAt]))]) i_M ft_M ft_M_ok n_M S hW 0 rfl rfl 14 (by decide) kf_M_126 rfl rfl rfl (Nat.le_of_ble_eq_true rfl) rfl d_M_readToken_59 (fun H locs hW => ?_)
  exact ret _ _ _ _ _ d_M_readToken_62 rfl hW
theorem d_M_read_0 : decode b_M_read 0 = .ok (.aload_n 0, 1) := by decide +kernel
theorem d_M_read_1 : decode b_M_read 1 = .ok (.iconst 0, 1) := by decide +kernel
theorem d_M_read_2 : decode b_M_read 2 = .ok (.putfield 104, 3) := by decide +kernel
theorem d_M_read_5 : decode b_M_read 5 = .ok (.aload_n 0, 1) := by decide +kernel
theorem d_M_read_6 : decode b_M_read 6 = .ok (.iconst 0, 1) := by decide +kernel
theorem d_M_read_7 : decode b_M_read 7 = .ok (.putfield 138, 3) := by decide +kernel
theorem d_M_read_10 : decode b_M_read 10 = .ok (.aload_n 0, 1) := by decide +kernel
theorem d_M_read_11 : decode b_M_read 11 = .ok (.iconst (-1), 1) := by decide +kernel
theorem d_M_read_12 : decode b_M_read 12 = .ok (.putfield 13, 3) := by decide +kernel
theorem d_M_read_15 : decode b_M_read 15 = .ok (.aload_n 0, 1) := by decide +kernel
theorem d_M_read_16 : decode b_M_read 16 = .ok (.iconst 0, 1) := by decide +kernel
theorem d_M_read_17 : decode b_M_read 17 = .ok (.putfield 114, 3) := by decide +kernel
theorem d_M_read_20 : decode b_M_read 20 = .ok (.iconst 0, 1) := by decide +kernel
theorem d_M_read_21 : decode b_M_read 21 = .ok (.istore_n 1, 1) := by decide +kernel
theorem d_M_read_22 : decode b_M_read 22 = .ok (.iconst 1, 1) := by decide +kernel
theorem d_M_read_23 : decode b_M_read 23 = .ok (.istore_n 2, 1) := by decide +kernel
theorem d_M_read_24 : decode b_M_read 24 = .ok (.iconst 1, 1) := by decide +kernel
theorem d_M_read_25 : decode b_M_read 25 = .ok (.istore_n 3, 1) := by decide +kernel
theorem d_M_read_26 : decode b_M_read 26 = .ok (.iload_n 3, 1) := by decide +kernel
theorem d_M_read_27 : decode b_M_read 27 = .ok (.ifCond .eq 77, 3) := by decide +kernel
theorem d_M_read_30 : decode b_M_read 30 = .ok (.aload_n 0, 1) := by decide +kernel
theorem d_M_read_31 : decode b_M_read 31 = .ok (.invokevirtual 145, 3) := by decide +kernel
theorem d_M_read_34 : decode b_M_read 34 = .ok (.aload_n 0, 1) := by decide +kernel
theorem d_M_read_35 : decode b_M_read 35 = .ok (.getfield 126, 3) := by decide +kernel
theorem d_M_read_38 : decode b_M_read 38 = .ok (.ifCond .eq 7, 3) := by decide +kernel
theorem d_M_read_41 : decode b_M_read 41 = .ok (.iconst 1, 1) := by decide +kernel
theorem d_M_read_42 : decode b_M_read 42 = .ok (.goto 4, 3) := by decide +kernel
theorem d_M_read_45 : decode b_M_read 45 = .ok (.iconst 0, 1) := by decide +kernel
theorem d_M_read_46 : decode b_M_read 46 = .ok (.istore_n 3, 1) := by decide +kernel
theorem d_M_read_47 : decode b_M_read 47 = .ok (.iload_n 3, 1) := by decide +kernel
theorem d_M_read_48 : decode b_M_read 48 = .ok (.ifCond .eq (-22), 3) := by decide +kernel
theorem d_M_read_51 : decode b_M_read 51 = .ok (.aload_n 0, 1) := by decide +kernel
theorem d_M_read_52 : decode b_M_read 52 = .ok (.getfield 126, 3) := by decide +kernel
theorem d_M_read_55 : decode b_M_read 55 = .ok (.iconst 1, 1) := by decide +kernel
theorem d_M_read_56 : decode b_M_read 56 = .ok (.if_icmp .ne 10, 3) := by decide +kernel
theorem d_M_read_59 : decode b_M_read 59 = .ok (.aload_n 0, 1) := by decide +kernel
theorem d_M_read_60 : decode b_M_read 60 = .ok (.invokevirtual 358, 3) := by decide +kernel
theorem d_M_read_63 : decode b_M_read 63 = .ok (.goto 23, 3) := by decide +kernel
theorem d_M_read_66 : decode b_M_read 66 = .ok (.aload_n 0, 1) := by decide +kernel
theorem d_M_read_67 : decode b_M_read 67 = .ok (.getfield 126, 3) := by decide +kernel
theorem d_M_read_70 : decode b_M_read 70 = .ok (.bipush 63, 2) := by decide +kernel
theorem d_M_read_72 : decode b_M_read 72 = .ok (.if_icmp .ne 10, 3) := by decide +kernel
theorem d_M_read_75 : decode b_M_read 75 = .ok (.aload_n 0, 1) := by decide +kernel
theorem d_M_read_76 : decode b_M_read 76 = .ok (.invokevirtual 361, 3) := by decide +kernel
theorem d_M_read_79 : decode b_M_read 79 = .ok (.goto 7, 3) := by decide +kernel
theorem d_M_read_82 : decode b_M_read 82 = .ok (.aload_n 0, 1) := by decide +kernel
theorem d_M_read_83 : decode b_M_read 83 = .ok (.invokevirtual 148, 3) := by decide +kernel
theorem d_M_read_86 : decode b_M_read 86 = .ok (.istore_n 2, 1) := by decide +kernel
theorem d_M_read_87 : decode b_M_read 87 = .ok (.iload_n 2, 1) := by decide +kernel
theorem d_M_read_88 : decode b_M_read 88 = .ok (.istore_n 3, 1) := by decide +kernel
theorem d_M_read_89 : decode b_M_read 89 = .ok (.iload_n 2, 1) := by decide +kernel
theorem d_M_read_90 : decode b_M_read 90 = .ok (.ifCond .eq 9, 3) := by decide +kernel
theorem d_M_read_93 : decode b_M_read 93 = .ok (.iload_n 1, 1) := by decide +kernel
theorem d_M_read_94 : decode b_M_read 94 = .ok (.iconst 1, 1) := by decide +kernel
theorem d_M_read_95 : decode b_M_read 95 = .ok (.iadd, 1) := by decide +kernel
theorem d_M_read_96 : decode b_M_read 96 = .ok (.goto 4, 3) := by decide +kernel
theorem d_M_read_99 : decode b_M_read 99 = .ok (.iload_n 1, 1) := by decide +kernel
theorem d_M_read_100 : decode b_M_read 100 = .ok (.istore_n 1, 1) := by decide +kernel
theorem d_M_read_101 : decode b_M_read 101 = .ok (.goto (-75), 3) := by decide +kernel
theorem d_M_read_104 : decode b_M_read 104 = .ok (.aload_n 0, 1) := by decide +kernel
theorem d_M_read_105 : decode b_M_read 105 = .ok (.iconst 0, 1) := by decide +kernel
theorem d_M_read_106 : decode b_M_read 106 = .ok (.putfield 117, 3) := by decide +kernel
theorem d_M_read_109 : decode b_M_read 109 = .ok (.iload_n 2, 1) := by decide +kernel
theorem d_M_read_110 : decode b_M_read 110 = .ok (.ifCond .eq 7, 3) := by decide +kernel
theorem d_M_read_113 : decode b_M_read 113 = .ok (.iload_n 1, 1) := by decide +kernel
theorem d_M_read_114 : decode b_M_read 114 = .ok (.goto 4, 3) := by decide +kernel
theorem d_M_read_117 : decode b_M_read 117 = .ok (.iconst (-1), 1) := by decide +kernel
theorem d_M_read_118 : decode b_M_read 118 = .ok (.ireturn, 1) := by decide +kernel
set_option maxHeartbeats 4000000 in
set_option maxRecDepth 100000 in
theorem c_M_read (l : Launch) (D : va_G) (cI cJ cB cZ : ClassId) (aM m_text m_paper m_firstHalf m_secondHalf m_stored m_proved m_written m_places m_levelKind m_levelStart m_levelApp m_levelHad m_levelScope m_levelId m_levelFirst m_levelSecond m_scopeFirst m_scopeSecond m_scopeId m_made m_typeOf m_tasks m_todo m_renamed m_bound m_markA m_markB m_line : Nat) (v_thrown v_came v_fault v_place v_papered v_constants v_at v_token v_tokenAt v_end v_second v_ids v_nodes v_opens v_levelOpens v_start v_app v_behind v_level v_scope v_top v_left v_waits v_fresh v_changed v_changedTo v_out v_counted v_printed v_questionAt : Int32) (v_nameFirst v_nameSecond : Int64) : Ci l D (tyl cI cJ cB cZ) y_M_read b_M_read 4 (some .int) ({ frames := 1, cells := 0, slots := 0, locals := 21 } : Room) [.ref aM] [(aM, .inr (10, [.int v_thrown, .ref m_text, .int (nI 0), .int v_came, .int v_fault, .int v_place, .ref m_paper, .int v_papered, .int v_constants, .ref m_firstHalf, .ref m_secondHalf, .ref m_stored, .ref m_proved, .int v_at, .int v_token, .int v_tokenAt, .long v_nameFirst, .long v_nameSecond, .ref m_written, .ref m_places, .int v_end, .int v_second, .int v_ids, .int v_nodes, .int v_opens, .int v_levelOpens, .int v_start, .int v_app, .int v_behind, .ref m_levelKind, .ref m_levelStart, .ref m_levelApp, .ref m_levelHad, .ref m_levelScope, .ref m_levelId, .ref m_levelFirst, .ref m_levelSecond, .int v_level, .ref m_scopeFirst, .ref m_scopeSecond, .ref m_scopeId, .int v_scope, .ref m_made, .int v_top, .ref m_typeOf, .ref m_tasks, .int v_left, .ref m_todo, .int v_waits, .ref m_renamed, .ref m_bound, .int v_fresh, .int v_changed, .int v_changedTo, .int v_out, .int v_counted, .ref m_markA, .ref m_markB, .ref m_line, .int v_printed, .int v_questionAt]))] (fun r u => r = (nI 0) ∧ u = [(aM, .inr (10, [.int (nI 0), .ref m_text, .int (nI 0), .int v_came, .int (nI 0), .int (-1), .ref m_paper, .int v_papered, .int v_constants, .ref m_firstHalf, .ref m_secondHalf, .ref m_stored, .ref m_proved, .int (nI 0), .int (nI 0), .int (nI 0), .long v_nameFirst, .long v_nameSecond, .ref m_written, .ref m_places, .int v_end, .int v_second, .int v_ids, .int v_nodes, .int v_opens, .int v_levelOpens, .int v_start, .int v_app, .int v_behind, .ref m_levelKind, .ref m_levelStart, .ref m_levelApp, .ref m_levelHad, .ref m_levelScope, .ref m_levelId, .ref m_levelFirst, .ref m_levelSecond, .int v_level, .ref m_scopeFirst, .ref m_scopeSecond, .ref m_scopeId, .int v_scope, .ref m_made, .int v_top, .ref m_typeOf, .ref m_tasks, .int v_left, .ref m_todo, .int v_waits, .ref m_renamed, .ref m_bound, .int v_fresh, .int v_changed, .int v_changedTo, .int v_out, .int v_counted, .ref m_markA, .ref m_markB, .ref m_line, .int v_printed, .int v_questionAt]))]) := by
  refine met_i (own := "ProofReaderModel") (by decide) rfl (Nat.le_of_ble_eq_true rfl) ?_
  intro p e s m args below meth c A Q S hA ret ls hl hW
  have hl : lv_has ls 4 [(0, .ref aM)] := hl
  have hW : Wd D (tyl cI cJ cB cZ) A s s.heap s.heap [] [(aM, .inr (10, [.int v_thrown, .ref m_text, .int (nI 0), .int v_came, .int v_fault, .int v_place, .ref m_paper, .int v_papered, .int v_constants, .ref m_firstHalf, .ref m_secondHalf, .ref m_stored, .ref m_proved, .int v_at, .int v_token, .int v_tokenAt, .long v_nameFirst, .long v_nameSecond, .ref m_written, .ref m_places, .int v_end, .int v_second, .int v_ids, .int v_nodes, .int v_opens, .int v_levelOpens, .int v_start, .int v_app, .int v_behind, .ref m_levelKind, .ref m_levelStart, .ref m_levelApp, .ref m_levelHad, .ref m_levelScope, .ref m_levelId, .ref m_levelFirst, .ref m_levelSecond, .int v_level, .ref m_scopeFirst, .ref m_scopeSecond, .ref m_scopeId, .int v_scope, .ref m_made, .int v_top, .ref m_typeOf, .ref m_tasks, .int v_left, .ref m_todo, .int v_waits, .ref m_renamed, .ref m_bound, .int v_fresh, .int v_changed, .int v_changedTo, .int v_out, .int v_counted, .ref m_markA, .ref m_markB, .ref m_line, .int v_printed, .int v_questionAt]))] := hW
  refine lv_aload_n S.1 S.2.1 d_M_read_0 rfl (lv_at hl 0 rfl) ?_
  refine lv_iconst (v := (nI 0)) S.1 S.2.1 d_M_read_1 (by decide) ?_
  refine g_put (ws2 := [(aM, .inr (10, [.int (nI 0), .ref m_text, .int (nI 0), .int v_came, .int v_fault, .int v_place, .ref m_paper, .int v_papered, .int v_constants, .ref m_firstHalf, .ref m_secondHalf, .ref m_stored, .ref m_proved, .int v_at, .int v_token, .int v_tokenAt, .long v_nameFirst, .long v_nameSecond, .ref m_written, .ref m_places, .int v_end, .int v_second, .int v_ids, .int v_nodes, .int v_opens, .int v_levelOpens, .int v_start, .int v_app, .int v_behind, .ref m_levelKind, .ref m_levelStart, .ref m_levelApp, .ref m_levelHad, .ref m_levelScope, .ref m_levelId, .ref m_levelFirst, .ref m_levelSecond, .int v_level, .ref m_scopeFirst, .ref m_scopeSecond, .ref m_scopeId, .int v_scope, .ref m_made, .int v_top, .ref m_typeOf, .ref m_tasks, .int v_left, .ref m_todo, .int v_waits, .ref m_renamed, .ref m_bound, .int v_fresh, .int v_changed, .int v_changedTo, .int v_out, .int v_counted, .ref m_markA, .ref m_markB, .ref m_line, .int v_printed, .int v_questionAt]))]) i_M ft_M ft_M_ok n_M S hW 0 rfl rfl 0 (by decide) kf_M_104 rfl rfl rfl (Nat.le_of_ble_eq_true rfl) rfl d_M_read_2 (fun H locs hW => ?_)
  refine lv_aload_n S.1 S.2.1 d_M_read_5 rfl (lv_at hl 0 rfl) ?_
  refine lv_iconst (v := (nI 0)) S.1 S.2.1 d_M_read_6 (by decide) ?_
  refine g_put (ws2 := [(aM, .inr (10, [.int (nI 0), .ref m_text, .int (nI 0), .int v_came, .int (nI 0), .int v_place, .ref m_paper, .int v_papered, .int v_constants, .ref m_firstHalf, .ref m_secondHalf, .ref m_stored, .ref m_proved, .int v_at, .int v_token, .int v_tokenAt, .long v_nameFirst, .long v_nameSecond, .ref m_written, .ref m_places, .int v_end, .int v_second, .int v_ids, .int v_nodes, .int v_opens, .int v_levelOpens, .int v_start, .int v_app, .int v_behind, .ref m_levelKind, .ref m_levelStart, .ref m_levelApp, .ref m_levelHad, .ref m_levelScope, .ref m_levelId, .ref m_levelFirst, .ref m_levelSecond, .int v_level, .ref m_scopeFirst, .ref m_scopeSecond, .ref m_scopeId, .int v_scope, .ref m_made, .int v_top, .ref m_typeOf, .ref m_tasks, .int v_left, .ref m_todo, .int v_waits, .ref m_renamed, .ref m_bound, .int v_fresh, .int v_changed, .int v_changedTo, .int v_out, .int v_counted, .ref m_markA, .ref m_markB, .ref m_line, .int v_printed, .int v_questionAt]))]) i_M ft_M ft_M_ok n_M S hW 0 rfl rfl 4 (by decide) kf_M_138 rfl rfl rfl (Nat.le_of_ble_eq_true rfl) rfl d_M_read_7 (fun H locs hW => ?_)
  refine lv_aload_n S.1 S.2.1 d_M_read_10 rfl (lv_at hl 0 rfl) ?_
  refine lv_iconst (v := (-1)) S.1 S.2.1 d_M_read_11 (by decide) ?_
  refine g_put (ws2 := [(aM, .inr (10, [.int (nI 0), .ref m_text, .int (nI 0), .int v_came, .int (nI 0), .int (-1), .ref m_paper, .int v_papered, .int v_constants, .ref m_firstHalf, .ref m_secondHalf, .ref m_stored, .ref m_proved, .int v_at, .int v_token, .int v_tokenAt, .long v_nameFirst, .long v_nameSecond, .ref m_written, .ref m_places, .int v_end, .int v_second, .int v_ids, .int v_nodes, .int v_opens, .int v_levelOpens, .int v_start, .int v_app, .int v_behind, .ref m_levelKind, .ref m_levelStart, .ref m_levelApp, .ref m_levelHad, .ref m_levelScope, .ref m_levelId, .ref m_levelFirst, .ref m_levelSecond, .int v_level, .ref m_scopeFirst, .ref m_scopeSecond, .ref m_scopeId, .int v_scope, .ref m_made, .int v_top, .ref m_typeOf, .ref m_tasks, .int v_left, .ref m_todo, .int v_waits, .ref m_renamed, .ref m_bound, .int v_fresh, .int v_changed, .int v_changedTo, .int v_out, .int v_counted, .ref m_markA, .ref m_markB, .ref m_line, .int v_printed, .int v_questionAt]))]) i_M ft_M ft_M_ok n_M S hW 0 rfl rfl 5 (by decide) kf_M_13 rfl rfl rfl (Nat.le_of_ble_eq_true rfl) rfl d_M_read_12 (fun H locs hW => ?_)
  refine lv_aload_n S.1 S.2.1 d_M_read_15 rfl (lv_at hl 0 rfl) ?_
  refine lv_iconst (v := (nI 0)) S.1 S.2.1 d_M_read_16 (by decide) ?_
  refine g_put (ws2 := [(aM, .inr (10, [.int (nI 0), .ref m_text, .int (nI 0), .int v_came, .int (nI 0), .int (-1), .ref m_paper, .int v_papered, .int v_constants, .ref m_firstHalf, .ref m_secondHalf, .ref m_stored, .ref m_proved, .int (nI 0), .int v_token, .int v_tokenAt, .long v_nameFirst, .long v_nameSecond, .ref m_written, .ref m_places, .int v_end, .int v_second, .int v_ids, .int v_nodes, .int v_opens, .int v_levelOpens, .int v_start, .int v_app, .int v_behind, .ref m_levelKind, .ref m_levelStart, .ref m_levelApp, .ref m_levelHad, .ref m_levelScope, .ref m_levelId, .ref m_levelFirst, .ref m_levelSecond, .int v_level, .ref m_scopeFirst, .ref m_scopeSecond, .ref m_scopeId, .int v_scope, .ref m_made, .int v_top, .ref m_typeOf, .ref m_tasks, .int v_left, .ref m_todo, .int v_waits, .ref m_renamed, .ref m_bound, .int v_fresh, .int v_changed, .int v_changedTo, .int v_out, .int v_counted, .ref m_markA, .ref m_markB, .ref m_line, .int v_printed, .int v_questionAt]))]) i_M ft_M ft_M_ok n_M S hW 0 rfl rfl 13 (by decide) kf_M_114 rfl rfl rfl (Nat.le_of_ble_eq_true rfl) rfl d_M_read_17 (fun H locs hW => ?_)
  refine lv_iconst (v := (nI 0)) S.1 S.2.1 d_M_read_20 (by decide) ?_
  refine lv_istore_n (lv' := [(1, .int (nI 0)), (0, .ref aM)]) S.1 S.2.1 d_M_read_21 rfl hl (by decide) rfl (fun ls hl => ?_)
  refine lv_iconst (v := (nI 1)) S.1 S.2.1 d_M_read_22 (by decide) ?_
  refine lv_istore_n (lv' := [(2, .int (nI 1)), (1, .int (nI 0)), (0, .ref aM)]) S.1 S.2.1 d_M_read_23 rfl hl (by decide) rfl (fun ls hl => ?_)
  refine lv_iconst (v := (nI 1)) S.1 S.2.1 d_M_read_24 (by decide) ?_
  refine lv_istore_n (lv' := [(3, .int (nI 1)), (2, .int (nI 1)), (1, .int (nI 0)), (0, .ref aM)]) S.1 S.2.1 d_M_read_25 rfl hl (by decide) rfl (fun ls hl => ?_)
  refine lv_iload_n S.1 S.2.1 d_M_read_26 rfl (lv_at hl 0 rfl) ?_
  refine lv_if_eq (tgt := 104) S.1 S.2.1 d_M_read_27 (by decide) (fun h => absurd h (by decide)) (fun _ => ?_)
  refine lv_aload_n S.1 S.2.1 d_M_read_30 rfl (lv_at hl 3 rfl) ?_
  refine callV_v (wr := []) (wc := [(aM, .inr (10, [.int (nI 0), .ref m_text, .int (nI 0), .int v_came, .int (nI 0), .int (-1), .ref m_paper, .int v_papered, .int v_constants, .ref m_firstHalf, .ref m_secondHalf, .ref m_stored, .ref m_proved, .int (nI 0), .int v_token, .int v_tokenAt, .long v_nameFirst, .long v_nameSecond, .ref m_written, .ref m_places, .int v_end, .int v_second, .int v_ids, .int v_nodes, .int v_opens, .int v_levelOpens, .int v_start, .int v_app, .int v_behind, .ref m_levelKind, .ref m_levelStart, .ref m_levelApp, .ref m_levelHad, .ref m_levelScope, .ref m_levelId, .ref m_levelFirst, .ref m_levelSecond, .int v_level, .ref m_scopeFirst, .ref m_scopeSecond, .ref m_scopeId, .int v_scope, .ref m_made, .int v_top, .ref m_typeOf, .ref m_tasks, .int v_left, .ref m_todo, .int v_waits, .ref m_renamed, .ref m_bound, .int v_fresh, .int v_changed, .int v_changedTo, .int v_out, .int v_counted, .ref m_markA, .ref m_markB, .ref m_line, .int v_printed, .int v_questionAt]))]) (np := 0) (As := []) (rest := []) (c_M_readToken l D cI cJ cB cZ aM m_text m_paper m_firstHalf m_secondHalf m_stored m_proved m_written m_places m_levelKind m_levelStart m_levelApp m_levelHad m_levelScope m_levelId m_levelFirst m_levelSecond m_scopeFirst m_scopeSecond m_scopeId m_made m_typeOf m_tasks m_todo m_renamed m_bound m_markA m_markB m_line (nI 0) v_came (nI 0) (-1) v_papered v_constants v_token v_tokenAt v_end v_second v_ids v_nodes v_opens v_levelOpens v_start v_app v_behind v_level v_scope v_top v_left v_waits v_fresh v_changed v_changedTo v_out v_counted v_printed v_questionAt v_nameFirst v_nameSecond ) km_M_145 ki_M_readToken kv_M_readToken kz_M kk_M_readToken (by decide +kernel) S hW hA ⟨Nat.le_of_ble_eq_true rfl, Nat.le_of_ble_eq_true rfl⟩ ⟨Nat.le_of_ble_eq_true rfl, Nat.le_of_ble_eq_true rfl⟩ rfl 0 rfl [0] [] rfl (by decide) rfl (by decide) (by decide) rfl hl.1 rfl (Nat.le_of_ble_eq_true rfl) d_M_read_31 (fun u H locs hp hW => ?_)
  obtain rfl := hp
  have hW : Wd D (tyl cI cJ cB cZ) A s s.heap H locs [(aM, .inr (10, [.int (nI 0), .ref m_text, .int (nI 0), .int v_came, .int (nI 0), .int (-1), .ref m_paper, .int v_papered, .int v_constants, .ref m_firstHalf, .ref m_secondHalf, .ref m_stored, .ref m_proved, .int (nI 0), .int (nI 0), .int (nI 0), .long v_nameFirst, .long v_nameSecond, .ref m_written, .ref m_places, .int v_end, .int v_second, .int v_ids, .int v_nodes, .int v_opens, .int v_levelOpens, .int v_start, .int v_app, .int v_behind, .ref m_levelKind, .ref m_levelStart, .ref m_levelApp, .ref m_levelHad, .ref m_levelScope, .ref m_levelId, .ref m_levelFirst, .ref m_levelSecond, .int v_level, .ref m_scopeFirst, .ref m_scopeSecond, .ref m_scopeId, .int v_scope, .ref m_made, .int v_top, .ref m_typeOf, .ref m_tasks, .int v_left, .ref m_todo, .int v_waits, .ref m_renamed, .ref m_bound, .int v_fresh, .int v_changed, .int v_changedTo, .int v_out, .int v_counted, .ref m_markA, .ref m_markB, .ref m_line, .int v_printed, .int v_questionAt]))] := hW
  refine lv_aload_n S.1 S.2.1 d_M_read_34 rfl (lv_at hl 3 rfl) ?_
  refine g_get i_M S hW 0 rfl rfl 14 (by decide) kf_M_126 rfl d_M_read_35 ?_
  refine lv_if_eq (tgt := 45) S.1 S.2.1 d_M_read_38 (by decide) (fun _ => ?_) (fun h => absurd h (by decide))
  refine lv_iconst (v := (nI 0)) S.1 S.2.1 d_M_read_45 (by decide) ?_
  refine lv_istore_n (lv' := [(3, .int (nI 0)), (2, .int (nI 1)), (1, .int (nI 0)), (0, .ref aM)]) S.1 S.2.1 d_M_read_46 rfl hl (by decide) rfl (fun ls hl => ?_)
  refine lv_iload_n S.1 S.2.1 d_M_read_47 rfl (lv_at hl 0 rfl) ?_
  refine lv_if_eq (tgt := 26) S.1 S.2.1 d_M_read_48 (by decide) (fun _ => ?_) (fun h => absurd h (by decide))
  refine lv_iload_n S.1 S.2.1 d_M_read_26 rfl (lv_at hl 0 rfl) ?_
  refine lv_if_eq (tgt := 104) S.1 S.2.1 d_M_read_27 (by decide) (fun _ => ?_) (fun h => absurd h (by decide))
  refine lv_aload_n S.1 S.2.1 d_M_read_104 rfl (lv_at hl 3 rfl) ?_
  refine lv_iconst (v := (nI 0)) S.1 S.2.1 d_M_read_105 (by decide) ?_
  refine g_put (ws2 := [(aM, .inr (10, [.int (nI 0), .ref m_text, .int (nI 0), .int v_came, .int (nI 0), .int (-1), .ref m_paper, .int v_papered, .int v_constants, .ref m_firstHalf, .ref m_secondHalf, .ref m_stored, .ref m_proved, .int (nI 0), .int (nI 0), .int (nI 0), .long v_nameFirst, .long v_nameSecond, .ref m_written, .ref m_places, .int v_end, .int v_second, .int v_ids, .int v_nodes, .int v_opens, .int v_levelOpens, .int v_start, .int v_app, .int v_behind, .ref m_levelKind, .ref m_levelStart, .ref m_levelApp, .ref m_levelHad, .ref m_levelScope, .ref m_levelId, .ref m_levelFirst, .ref m_levelSecond, .int v_level, .ref m_scopeFirst, .ref m_scopeSecond, .ref m_scopeId, .int v_scope, .ref m_made, .int v_top, .ref m_typeOf, .ref m_tasks, .int v_left, .ref m_todo, .int v_waits, .ref m_renamed, .ref m_bound, .int v_fresh, .int v_changed, .int v_changedTo, .int v_out, .int v_counted, .ref m_markA, .ref m_markB, .ref m_line, .int v_printed, .int v_questionAt]))]) i_M ft_M ft_M_ok n_M S hW 0 rfl rfl 2 (by decide) kf_M_117 rfl rfl rfl (Nat.le_of_ble_eq_true rfl) rfl d_M_read_106 (fun H locs hW => ?_)
  refine lv_iload_n S.1 S.2.1 d_M_read_109 rfl (lv_at hl 1 rfl) ?_
  refine lv_if_eq (tgt := 117) S.1 S.2.1 d_M_read_110 (by decide) (fun h => absurd h (by decide)) (fun _ => ?_)
  refine lv_iload_n S.1 S.2.1 d_M_read_113 rfl (lv_at hl 2 rfl) ?_
  refine lv_goto (tgt := 118) S.1 S.2.1 d_M_read_114 (by decide) ?_
  exact ret _ _ _ _ _ _ d_M_read_118 rfl ⟨rfl, rfl⟩ hW
theorem d_M_paper_0 : decode b_M_paper 0 = .ok (.aload_n 0, 1) := by decide +kernel
theorem d_M_paper_1 : decode b_M_paper 1 = .ok (.iconst 0, 1) := by decide +kernel
theorem d_M_paper_2 : decode b_M_paper 2 = .ok (.putfield 104, 3) := by decide +kernel
theorem d_M_paper_5 : decode b_M_paper 5 = .ok (.lconst 0, 1) := by decide +kernel
theorem d_M_paper_6 : decode b_M_paper 6 = .ok (.lstore_n 2, 1) := by decide +kernel
theorem d_M_paper_7 : decode b_M_paper 7 = .ok (.iconst 0, 1) := by decide +kernel
theorem d_M_paper_8 : decode b_M_paper 8 = .ok (.istore 4, 2) := by decide +kernel
theorem d_M_paper_10 : decode b_M_paper 10 = .ok (.iload 4, 2) := by decide +kernel
theorem d_M_paper_12 : decode b_M_paper 12 = .ok (.bipush 8, 2) := by decide +kernel
theorem d_M_paper_14 : decode b_M_paper 14 = .ok (.if_icmp .ge 57, 3) := by decide +kernel
theorem d_M_paper_17 : decode b_M_paper 17 = .ok (.iload_n 1, 1) := by decide +kernel
theorem d_M_paper_18 : decode b_M_paper 18 = .ok (.i2l, 1) := by decide +kernel
theorem d_M_paper_19 : decode b_M_paper 19 = .ok (.iload 4, 2) := by decide +kernel
theorem d_M_paper_21 : decode b_M_paper 21 = .ok (.i2l, 1) := by decide +kernel
theorem d_M_paper_22 : decode b_M_paper 22 = .ok (.ladd, 1) := by decide +kernel
theorem d_M_paper_23 : decode b_M_paper 23 = .ok (.lstore 5, 2) := by decide +kernel
theorem d_M_paper_25 : decode b_M_paper 25 = .ok (.lload 5, 2) := by decide +kernel
theorem d_M_paper_27 : decode b_M_paper 27 = .ok (.lconst 0, 1) := by decide +kernel
theorem d_M_paper_28 : decode b_M_paper 28 = .ok (.lcmp, 1) := by decide +kernel
theorem d_M_paper_29 : decode b_M_paper 29 = .ok (.ifCond .lt 34, 3) := by decide +kernel
theorem d_M_paper_32 : decode b_M_paper 32 = .ok (.lload 5, 2) := by decide +kernel
theorem d_M_paper_34 : decode b_M_paper 34 = .ok (.aload_n 0, 1) := by decide +kernel
theorem d_M_paper_35 : decode b_M_paper 35 = .ok (.getfield 339, 3) := by decide +kernel
theorem d_M_paper_38 : decode b_M_paper 38 = .ok (.i2l, 1) := by decide +kernel
theorem d_M_paper_39 : decode b_M_paper 39 = .ok (.lcmp, 1) := by decide +kernel
theorem d_M_paper_40 : decode b_M_paper 40 = .ok (.ifCond .ge 23, 3) := by decide +kernel
theorem d_M_paper_43 : decode b_M_paper 43 = .ok (.lload_n 2, 1) := by decide +kernel
theorem d_M_paper_44 : decode b_M_paper 44 = .ok (.aload_n 0, 1) := by decide +kernel
theorem d_M_paper_45 : decode b_M_paper 45 = .ok (.getfield 17, 3) := by decide +kernel
theorem d_M_paper_48 : decode b_M_paper 48 = .ok (.lload 5, 2) := by decide +kernel
theorem d_M_paper_50 : decode b_M_paper 50 = .ok (.l2i, 1) := by decide +kernel
theorem d_M_paper_51 : decode b_M_paper 51 = .ok (.iaload, 1) := by decide +kernel
theorem d_M_paper_52 : decode b_M_paper 52 = .ok (.i2l, 1) := by decide +kernel
theorem d_M_paper_53 : decode b_M_paper 53 = .ok (.bipush 8, 2) := by decide +kernel
theorem d_M_paper_55 : decode b_M_paper 55 = .ok (.iload 4, 2) := by decide +kernel
theorem d_M_paper_57 : decode b_M_paper 57 = .ok (.imul, 1) := by decide +kernel
theorem d_M_paper_58 : decode b_M_paper 58 = .ok (.lshl, 1) := by decide +kernel
theorem d_M_paper_59 : decode b_M_paper 59 = .ok (.lor, 1) := by decide +kernel
theorem d_M_paper_60 : decode b_M_paper 60 = .ok (.goto 4, 3) := by decide +kernel
theorem d_M_paper_63 : decode b_M_paper 63 = .ok (.lload_n 2, 1) := by decide +kernel
theorem d_M_paper_64 : decode b_M_paper 64 = .ok (.lstore_n 2, 1) := by decide +kernel
theorem d_M_paper_65 : decode b_M_paper 65 = .ok (.iinc 4 1, 3) := by decide +kernel
theorem d_M_paper_68 : decode b_M_paper 68 = .ok (.goto (-58), 3) := by decide +kernel
theorem d_M_paper_71 : decode b_M_paper 71 = .ok (.lload_n 2, 1) := by decide +kernel
theorem d_M_paper_72 : decode b_M_paper 72 = .ok (.lreturn, 1) := by decide +kernel
set_option maxHeartbeats 4000000 in
set_option maxRecDepth 100000 in
theorem c_M_paper (l : Launch) (D : va_G) (cI cJ cB cZ : ClassId) (aM m_text m_paper m_firstHalf m_secondHalf m_stored m_proved m_written m_places m_levelKind m_levelStart m_levelApp m_levelHad m_levelScope m_levelId m_levelFirst m_levelSecond m_scopeFirst m_scopeSecond m_scopeId m_made m_typeOf m_tasks m_todo m_renamed m_bound m_markA m_markB m_line : Nat) (v_thrown v_length v_came v_fault v_place v_constants v_at v_token v_tokenAt v_end v_second v_ids v_nodes v_opens v_levelOpens v_start v_app v_behind v_level v_scope v_top v_left v_waits v_fresh v_changed v_changedTo v_out v_counted v_printed v_questionAt : Int32) (v_nameFirst v_nameSecond : Int64) (i : Int32) : Cl l D (tyl cI cJ cB cZ) y_M_paper b_M_paper 7 (some .long) ({ frames := 0, cells := 0, slots := 0, locals := 0 } : Room) [.ref aM, .int i] [(aM, .inr (10, [.int v_thrown, .ref m_text, .int v_length, .int v_came, .int v_fault, .int v_place, .ref m_paper, .int (nI 0), .int v_constants, .ref m_firstHalf, .ref m_secondHalf, .ref m_stored, .ref m_proved, .int v_at, .int v_token, .int v_tokenAt, .long v_nameFirst, .long v_nameSecond, .ref m_written, .ref m_places, .int v_end, .int v_second, .int v_ids, .int v_nodes, .int v_opens, .int v_levelOpens, .int v_start, .int v_app, .int v_behind, .ref m_levelKind, .ref m_levelStart, .ref m_levelApp, .ref m_levelHad, .ref m_levelScope, .ref m_levelId, .ref m_levelFirst, .ref m_levelSecond, .int v_level, .ref m_scopeFirst, .ref m_scopeSecond, .ref m_scopeId, .int v_scope, .ref m_made, .int v_top, .ref m_typeOf, .ref m_tasks, .int v_left, .ref m_todo, .int v_waits, .ref m_renamed, .ref m_bound, .int v_fresh, .int v_changed, .int v_changedTo, .int v_out, .int v_counted, .ref m_markA, .ref m_markB, .ref m_line, .int v_printed, .int v_questionAt]))] (fun r u => r = 0 ∧ u = [(aM, .inr (10, [.int (nI 0), .ref m_text, .int v_length, .int v_came, .int v_fault, .int v_place, .ref m_paper, .int (nI 0), .int v_constants, .ref m_firstHalf, .ref m_secondHalf, .ref m_stored, .ref m_proved, .int v_at, .int v_token, .int v_tokenAt, .long v_nameFirst, .long v_nameSecond, .ref m_written, .ref m_places, .int v_end, .int v_second, .int v_ids, .int v_nodes, .int v_opens, .int v_levelOpens, .int v_start, .int v_app, .int v_behind, .ref m_levelKind, .ref m_levelStart, .ref m_levelApp, .ref m_levelHad, .ref m_levelScope, .ref m_levelId, .ref m_levelFirst, .ref m_levelSecond, .int v_level, .ref m_scopeFirst, .ref m_scopeSecond, .ref m_scopeId, .int v_scope, .ref m_made, .int v_top, .ref m_typeOf, .ref m_tasks, .int v_left, .ref m_todo, .int v_waits, .ref m_renamed, .ref m_bound, .int v_fresh, .int v_changed, .int v_changedTo, .int v_out, .int v_counted, .ref m_markA, .ref m_markB, .ref m_line, .int v_printed, .int v_questionAt]))]) := by
  refine met_l (own := "ProofReaderModel") (by decide) rfl (Nat.le_of_ble_eq_true rfl) ?_
  intro p e s m args below meth c A Q S hA ret ls hl hW
  have hl : lv_has ls 7 [(0, .ref aM), (1, .int i)] := hl
  have hW : Wd D (tyl cI cJ cB cZ) A s s.heap s.heap [] [(aM, .inr (10, [.int v_thrown, .ref m_text, .int v_length, .int v_came, .int v_fault, .int v_place, .ref m_paper, .int (nI 0), .int v_constants, .ref m_firstHalf, .ref m_secondHalf, .ref m_stored, .ref m_proved, .int v_at, .int v_token, .int v_tokenAt, .long v_nameFirst, .long v_nameSecond, .ref m_written, .ref m_places, .int v_end, .int v_second, .int v_ids, .int v_nodes, .int v_opens, .int v_levelOpens, .int v_start, .int v_app, .int v_behind, .ref m_levelKind, .ref m_levelStart, .ref m_levelApp, .ref m_levelHad, .ref m_levelScope, .ref m_levelId, .ref m_levelFirst, .ref m_levelSecond, .int v_level, .ref m_scopeFirst, .ref m_scopeSecond, .ref m_scopeId, .int v_scope, .ref m_made, .int v_top, .ref m_typeOf, .ref m_tasks, .int v_left, .ref m_todo, .int v_waits, .ref m_renamed, .ref m_bound, .int v_fresh, .int v_changed, .int v_changedTo, .int v_out, .int v_counted, .ref m_markA, .ref m_markB, .ref m_line, .int v_printed, .int v_questionAt]))] := hW
  refine lv_aload_n S.1 S.2.1 d_M_paper_0 rfl (lv_at hl 0 rfl) ?_
  refine lv_iconst (v := (nI 0)) S.1 S.2.1 d_M_paper_1 (by decide) ?_
  refine g_put (ws2 := [(aM, .inr (10, [.int (nI 0), .ref m_text, .int v_length, .int v_came, .int v_fault, .int v_place, .ref m_paper, .int (nI 0), .int v_constants, .ref m_firstHalf, .ref m_secondHalf, .ref m_stored, .ref m_proved, .int v_at, .int v_token, .int v_tokenAt, .long v_nameFirst, .long v_nameSecond, .ref m_written, .ref m_places, .int v_end, .int v_second, .int v_ids, .int v_nodes, .int v_opens, .int v_levelOpens, .int v_start, .int v_app, .int v_behind, .ref m_levelKind, .ref m_levelStart, .ref m_levelApp, .ref m_levelHad, .ref m_levelScope, .ref m_levelId, .ref m_levelFirst, .ref m_levelSecond, .int v_level, .ref m_scopeFirst, .ref m_scopeSecond, .ref m_scopeId, .int v_scope, .ref m_made, .int v_top, .ref m_typeOf, .ref m_tasks, .int v_left, .ref m_todo, .int v_waits, .ref m_renamed, .ref m_bound, .int v_fresh, .int v_changed, .int v_changedTo, .int v_out, .int v_counted, .ref m_markA, .ref m_markB, .ref m_line, .int v_printed, .int v_questionAt]))]) i_M ft_M ft_M_ok n_M S hW 0 rfl rfl 0 (by decide) kf_M_104 rfl rfl rfl (Nat.le_of_ble_eq_true rfl) rfl d_M_paper_2 (fun H locs hW => ?_)
  refine lv_lconst (v := 0) S.1 S.2.1 d_M_paper_5 rfl ?_
  refine lv_lstore_n (lv' := [(2, .long 0), (0, .ref aM), (1, .int i)]) S.1 S.2.1 d_M_paper_6 rfl hl (by decide) rfl (fun ls hl => ?_)
  refine lv_iconst (v := (nI 0)) S.1 S.2.1 d_M_paper_7 (by decide) ?_
  refine lv_istore (lv' := [(4, .int (nI 0)), (2, .long 0), (0, .ref aM), (1, .int i)]) S.1 S.2.1 d_M_paper_8 hl (by decide) rfl (fun ls hl => ?_)
  have loop_10 : ∀ (nf : Nat) (n : Nat), 8 - n < nf → (n ≤ 8) → ∀ (H : Heap) (locs : List Loc), Wd D (tyl cI cJ cB cZ) A s s.heap H locs [(aM, .inr (10, [.int (nI 0), .ref m_text, .int v_length, .int v_came, .int v_fault, .int v_place, .ref m_paper, .int (nI 0), .int v_constants, .ref m_firstHalf, .ref m_secondHalf, .ref m_stored, .ref m_proved, .int v_at, .int v_token, .int v_tokenAt, .long v_nameFirst, .long v_nameSecond, .ref m_written, .ref m_places, .int v_end, .int v_second, .int v_ids, .int v_nodes, .int v_opens, .int v_levelOpens, .int v_start, .int v_app, .int v_behind, .ref m_levelKind, .ref m_levelStart, .ref m_levelApp, .ref m_levelHad, .ref m_levelScope, .ref m_levelId, .ref m_levelFirst, .ref m_levelSecond, .int v_level, .ref m_scopeFirst, .ref m_scopeSecond, .ref m_scopeId, .int v_scope, .ref m_made, .int v_top, .ref m_typeOf, .ref m_tasks, .int v_left, .ref m_todo, .int v_waits, .ref m_renamed, .ref m_bound, .int v_fresh, .int v_changed, .int v_changedTo, .int v_out, .int v_counted, .ref m_markA, .ref m_markB, .ref m_line, .int v_printed, .int v_questionAt]))] → ∀ (ls : Array Slot), lv_has ls 7 [(4, .int (nI n)), (2, .long 0), (0, .ref aM), (1, .int i)] → W p l e ({ frames := 0, cells := 0, slots := 0, locals := 0 } : Room) s m args below meth c H locs 0 0 Q (F0 m 10 ls []) := by
    intro nf
    induction nf with
    | zero =>
      intros
      omega
    | succ nf ih =>
      intro n hnf hn H locs hW ls hl
      refine lv_iload S.1 S.2.1 d_M_paper_10 (lv_at hl 0 rfl) ?_
      refine lv_bipush (v := (nI 8)) S.1 S.2.1 d_M_paper_12 (by decide) ?_
      refine n_icmp_ge (tgt := 71) S (by omega) (by omega) d_M_paper_14 (by decide) (fun c_14 => ?_) (fun c_14 => ?_)
      · refine lv_lload_n S.1 S.2.1 d_M_paper_71 rfl (lv_at hl 1 rfl) ?_
        exact ret _ _ _ _ _ _ d_M_paper_72 ⟨rfl, rfl⟩ hW
      · refine lv_iload_n S.1 S.2.1 d_M_paper_17 rfl (lv_at hl 3 rfl) ?_
        refine lv_i2l (v := i.toInt64) S.1 S.2.1 d_M_paper_18 rfl ?_
        refine lv_iload S.1 S.2.1 d_M_paper_19 (lv_at hl 0 rfl) ?_
        refine lv_i2l (v := (nI n).toInt64) S.1 S.2.1 d_M_paper_21 rfl ?_
        refine lv_ladd S.1 S.2.1 d_M_paper_22 ?_
        refine lv_lstore (lv' := [(5, .long (i.toInt64 + ((nI n).toInt64))), (4, .int (nI n)), (2, .long 0), (0, .ref aM), (1, .int i)]) S.1 S.2.1 d_M_paper_23 hl (by decide) rfl (fun ls hl => ?_)
        refine lv_lload S.1 S.2.1 d_M_paper_25 (lv_at hl 0 rfl) ?_
        refine lv_lconst (v := 0) S.1 S.2.1 d_M_paper_27 rfl ?_
        refine W.lcmp S.1 S.2.1 d_M_paper_28 ?_
        refine lv_if_lt (tgt := 63) S.1 S.2.1 d_M_paper_29 (by decide) (fun c_29 => ?_) (fun c_29 => ?_)
        · refine lv_lload_n S.1 S.2.1 d_M_paper_63 rfl (lv_at hl 2 rfl) ?_
          refine lv_lstore_n (lv' := [(2, .long 0), (5, .long (i.toInt64 + ((nI n).toInt64))), (4, .int (nI n)), (0, .ref aM), (1, .int i)]) S.1 S.2.1 d_M_paper_64 rfl hl (by decide) rfl (fun ls hl => ?_)
          refine lv_iinc (v := (nI (n + 1))) (lv' := [(4, .int (nI (n + 1))), (2, .long 0), (5, .long (i.toInt64 + ((nI n).toInt64))), (0, .ref aM), (1, .int i)]) S.1 S.2.1 d_M_paper_65 hl (k := 2) rfl (inc_eq _ 1 _ (by decide)) (by decide) rfl (fun ls hl => ?_)
          refine lv_goto (tgt := 10) S.1 S.2.1 d_M_paper_68 (by decide) ?_
          exact ih (n + 1) (by omega) (by omega) _ _ hW _ (lv_sub hl [0, 1, 3, 4] rfl)
        · refine lv_lload S.1 S.2.1 d_M_paper_32 (lv_at hl 0 rfl) ?_
          refine lv_aload_n S.1 S.2.1 d_M_paper_34 rfl (lv_at hl 3 rfl) ?_
          refine g_get i_M S hW 0 rfl rfl 7 (by decide) kf_M_339 rfl d_M_paper_35 ?_
          refine lv_i2l (v := (nI 0).toInt64) S.1 S.2.1 d_M_paper_38 rfl ?_
          refine W.lcmp S.1 S.2.1 d_M_paper_39 ?_
          refine lv_if_ge (tgt := 63) S.1 S.2.1 d_M_paper_40 (by decide) (fun c_40 => ?_) (fun c_40 => absurd c_40 (fun z => z (by rw [(show (nI 0).toInt64 = 0 by decide)]; exact Int32.not_lt.mp c_29)))
          refine lv_lload_n S.1 S.2.1 d_M_paper_63 rfl (lv_at hl 2 rfl) ?_
          refine lv_lstore_n (lv' := [(2, .long 0), (5, .long (i.toInt64 + ((nI n).toInt64))), (4, .int (nI n)), (0, .ref aM), (1, .int i)]) S.1 S.2.1 d_M_paper_64 rfl hl (by decide) rfl (fun ls hl => ?_)
          refine lv_iinc (v := (nI (n + 1))) (lv' := [(4, .int (nI (n + 1))), (2, .long 0), (5, .long (i.toInt64 + ((nI n).toInt64))), (0, .ref aM), (1, .int i)]) S.1 S.2.1 d_M_paper_65 hl (k := 2) rfl (inc_eq _ 1 _ (by decide)) (by decide) rfl (fun ls hl => ?_)
          refine lv_goto (tgt := 10) S.1 S.2.1 d_M_paper_68 (by decide) ?_
          exact ih (n + 1) (by omega) (by omega) _ _ hW _ (lv_sub hl [0, 1, 3, 4] rfl)
  exact loop_10 (8 - 0 + 1) 0 (Nat.lt_succ_self _) (by omega) _ _ hW _ (lv_sub hl [0, 1, 2, 3] rfl)
theorem d_M_feed_0 : decode b_M_feed 0 = .ok (.aload_n 0, 1) := by decide +kernel
theorem d_M_feed_1 : decode b_M_feed 1 = .ok (.iload_n 1, 1) := by decide +kernel
theorem d_M_feed_2 : decode b_M_feed 2 = .ok (.iconst 1, 1) := by decide +kernel
theorem d_M_feed_3 : decode b_M_feed 3 = .ok (.if_icmp .lt 9, 3) := by decide +kernel
theorem d_M_feed_6 : decode b_M_feed 6 = .ok (.iload_n 1, 1) := by decide +kernel
theorem d_M_feed_7 : decode b_M_feed 7 = .ok (.bipush 8, 2) := by decide +kernel
theorem d_M_feed_9 : decode b_M_feed 9 = .ok (.if_icmp .le 7, 3) := by decide +kernel
theorem d_M_feed_12 : decode b_M_feed 12 = .ok (.iconst 1, 1) := by decide +kernel
theorem d_M_feed_13 : decode b_M_feed 13 = .ok (.goto 4, 3) := by decide +kernel
theorem d_M_feed_16 : decode b_M_feed 16 = .ok (.iconst 0, 1) := by decide +kernel
theorem d_M_feed_17 : decode b_M_feed 17 = .ok (.putfield 104, 3) := by decide +kernel
theorem d_M_feed_20 : decode b_M_feed 20 = .ok (.aload_n 0, 1) := by decide +kernel
theorem d_M_feed_21 : decode b_M_feed 21 = .ok (.getfield 104, 3) := by decide +kernel
theorem d_M_feed_24 : decode b_M_feed 24 = .ok (.ifCond .le 5, 3) := by decide +kernel
theorem d_M_feed_27 : decode b_M_feed 27 = .ok (.iconst 0, 1) := by decide +kernel
theorem d_M_feed_28 : decode b_M_feed 28 = .ok (.ireturn, 1) := by decide +kernel
theorem d_M_feed_29 : decode b_M_feed 29 = .ok (.aload_n 0, 1) := by decide +kernel
theorem d_M_feed_30 : decode b_M_feed 30 = .ok (.getfield 364, 3) := by decide +kernel
theorem d_M_feed_33 : decode b_M_feed 33 = .ok (.iload_n 1, 1) := by decide +kernel
theorem d_M_feed_34 : decode b_M_feed 34 = .ok (.iadd, 1) := by decide +kernel
theorem d_M_feed_35 : decode b_M_feed 35 = .ok (.sipush 8192, 3) := by decide +kernel
theorem d_M_feed_38 : decode b_M_feed 38 = .ok (.if_icmp .le 5, 3) := by decide +kernel
theorem d_M_feed_41 : decode b_M_feed 41 = .ok (.iconst (-1), 1) := by decide +kernel
theorem d_M_feed_42 : decode b_M_feed 42 = .ok (.ireturn, 1) := by decide +kernel
theorem d_M_feed_43 : decode b_M_feed 43 = .ok (.iconst 0, 1) := by decide +kernel
theorem d_M_feed_44 : decode b_M_feed 44 = .ok (.istore 4, 2) := by decide +kernel
theorem d_M_feed_46 : decode b_M_feed 46 = .ok (.iload 4, 2) := by decide +kernel
theorem d_M_feed_48 : decode b_M_feed 48 = .ok (.iload_n 1, 1) := by decide +kernel
theorem d_M_feed_49 : decode b_M_feed 49 = .ok (.if_icmp .ge 40, 3) := by decide +kernel
theorem d_M_feed_52 : decode b_M_feed 52 = .ok (.aload_n 0, 1) := by decide +kernel
theorem d_M_feed_53 : decode b_M_feed 53 = .ok (.getfield 7, 3) := by decide +kernel
theorem d_M_feed_56 : decode b_M_feed 56 = .ok (.aload_n 0, 1) := by decide +kernel
theorem d_M_feed_57 : decode b_M_feed 57 = .ok (.getfield 117, 3) := by decide +kernel
theorem d_M_feed_60 : decode b_M_feed 60 = .ok (.lload_n 2, 1) := by decide +kernel
theorem d_M_feed_61 : decode b_M_feed 61 = .ok (.bipush 8, 2) := by decide +kernel
theorem d_M_feed_63 : decode b_M_feed 63 = .ok (.iload 4, 2) := by decide +kernel
theorem d_M_feed_65 : decode b_M_feed 65 = .ok (.imul, 1) := by decide +kernel
theorem d_M_feed_66 : decode b_M_feed 66 = .ok (.lshr, 1) := by decide +kernel
theorem d_M_feed_67 : decode b_M_feed 67 = .ok (.ldc2_w 324, 3) := by decide +kernel
theorem d_M_feed_70 : decode b_M_feed 70 = .ok (.land, 1) := by decide +kernel
theorem d_M_feed_71 : decode b_M_feed 71 = .ok (.l2i, 1) := by decide +kernel
theorem d_M_feed_72 : decode b_M_feed 72 = .ok (.iastore, 1) := by decide +kernel
theorem d_M_feed_73 : decode b_M_feed 73 = .ok (.aload_n 0, 1) := by decide +kernel
theorem d_M_feed_74 : decode b_M_feed 74 = .ok (.dup, 1) := by decide +kernel
theorem d_M_feed_75 : decode b_M_feed 75 = .ok (.getfield 117, 3) := by decide +kernel
theorem d_M_feed_78 : decode b_M_feed 78 = .ok (.iconst 1, 1) := by decide +kernel
theorem d_M_feed_79 : decode b_M_feed 79 = .ok (.iadd, 1) := by decide +kernel
theorem d_M_feed_80 : decode b_M_feed 80 = .ok (.putfield 117, 3) := by decide +kernel
theorem d_M_feed_83 : decode b_M_feed 83 = .ok (.iinc 4 1, 3) := by decide +kernel
theorem d_M_feed_86 : decode b_M_feed 86 = .ok (.goto (-40), 3) := by decide +kernel
theorem d_M_feed_89 : decode b_M_feed 89 = .ok (.aload_n 0, 1) := by decide +kernel
theorem d_M_feed_90 : decode b_M_feed 90 = .ok (.dup, 1) := by decide +kernel
theorem d_M_feed_91 : decode b_M_feed 91 = .ok (.getfield 364, 3) := by decide +kernel
theorem d_M_feed_94 : decode b_M_feed 94 = .ok (.iload_n 1, 1) := by decide +kernel
theorem d_M_feed_95 : decode b_M_feed 95 = .ok (.iadd, 1) := by decide +kernel
theorem d_M_feed_96 : decode b_M_feed 96 = .ok (.putfield 364, 3) := by decide +kernel
theorem d_M_feed_99 : decode b_M_feed 99 = .ok (.aload_n 0, 1) := by decide +kernel
theorem d_M_feed_100 : decode b_M_feed 100 = .ok (.getfield 117, 3) := by decide +kernel
theorem d_M_feed_103 : decode b_M_feed 103 = .ok (.ireturn, 1) := by decide +kernel
set_option maxHeartbeats 4000000 in
set_option maxRecDepth 100000 in
theorem c_M_feed (l : Launch) (D : va_G) (cI cJ cB cZ : ClassId) (aM m_text m_paper m_firstHalf m_secondHalf m_stored m_proved m_written m_places m_levelKind m_levelStart m_levelApp m_levelHad m_levelScope m_levelId m_levelFirst m_levelSecond m_scopeFirst m_scopeSecond m_scopeId m_made m_typeOf m_tasks m_todo m_renamed m_bound m_markA m_markB m_line : Nat) (v_thrown v_fault v_place v_papered v_constants v_at v_token v_tokenAt v_end v_second v_ids v_nodes v_opens v_levelOpens v_start v_app v_behind v_level v_scope v_top v_left v_waits v_fresh v_changed v_changedTo v_out v_counted v_printed v_questionAt : Int32) (v_nameFirst v_nameSecond : Int64) (f : Nat → Int32) (k : Nat) (v : Int64) (h1 : 1 ≤ k) (h8 : k ≤ 8) : Ci l D (tyl cI cJ cB cZ) y_M_feed b_M_feed 5 (some .int) ({ frames := 0, cells := 0, slots := 0, locals := 0 } : Room) [.ref aM, .int (nI k), .long v] [(aM, .inr (10, [.int v_thrown, .ref m_text, .int (nI 0), .int (nI 0), .int v_fault, .int v_place, .ref m_paper, .int v_papered, .int v_constants, .ref m_firstHalf, .ref m_secondHalf, .ref m_stored, .ref m_proved, .int v_at, .int v_token, .int v_tokenAt, .long v_nameFirst, .long v_nameSecond, .ref m_written, .ref m_places, .int v_end, .int v_second, .int v_ids, .int v_nodes, .int v_opens, .int v_levelOpens, .int v_start, .int v_app, .int v_behind, .ref m_levelKind, .ref m_levelStart, .ref m_levelApp, .ref m_levelHad, .ref m_levelScope, .ref m_levelId, .ref m_levelFirst, .ref m_levelSecond, .int v_level, .ref m_scopeFirst, .ref m_scopeSecond, .ref m_scopeId, .int v_scope, .ref m_made, .int v_top, .ref m_typeOf, .ref m_tasks, .int v_left, .ref m_todo, .int v_waits, .ref m_renamed, .ref m_bound, .int v_fresh, .int v_changed, .int v_changedTo, .int v_out, .int v_counted, .ref m_markA, .ref m_markB, .ref m_line, .int v_printed, .int v_questionAt])), (m_text, .inl (cI, 8192, .inl f))] (fun r u => ∃ (f2 : Nat → Int32), r = (nI k) ∧ u = [(aM, .inr (10, [.int (nI 0), .ref m_text, .int (nI k), .int (nI (0 + k)), .int v_fault, .int v_place, .ref m_paper, .int v_papered, .int v_constants, .ref m_firstHalf, .ref m_secondHalf, .ref m_stored, .ref m_proved, .int v_at, .int v_token, .int v_tokenAt, .long v_nameFirst, .long v_nameSecond, .ref m_written, .ref m_places, .int v_end, .int v_second, .int v_ids, .int v_nodes, .int v_opens, .int v_levelOpens, .int v_start, .int v_app, .int v_behind, .ref m_levelKind, .ref m_levelStart, .ref m_levelApp, .ref m_levelHad, .ref m_levelScope, .ref m_levelId, .ref m_levelFirst, .ref m_levelSecond, .int v_level, .ref m_scopeFirst, .ref m_scopeSecond, .ref m_scopeId, .int v_scope, .ref m_made, .int v_top, .ref m_typeOf, .ref m_tasks, .int v_left, .ref m_todo, .int v_waits, .ref m_renamed, .ref m_bound, .int v_fresh, .int v_changed, .int v_changedTo, .int v_out, .int v_counted, .ref m_markA, .ref m_markB, .ref m_line, .int v_printed, .int v_questionAt])), (m_text, .inl (cI, 8192, .inl f2))]) := by
  refine met_i (own := "ProofReaderModel") (by decide) rfl (Nat.le_of_ble_eq_true rfl) ?_
  intro p e s m args below meth c A Q S hA ret ls hl hW
  have hl : lv_has ls 5 [(0, .ref aM), (1, .int (nI k)), (2, .long v)] := hl
  have hW : Wd D (tyl cI cJ cB cZ) A s s.heap s.heap [] [(aM, .inr (10, [.int v_thrown, .ref m_text, .int (nI 0), .int (nI 0), .int v_fault, .int v_place, .ref m_paper, .int v_papered, .int v_constants, .ref m_firstHalf, .ref m_secondHalf, .ref m_stored, .ref m_proved, .int v_at, .int v_token, .int v_tokenAt, .long v_nameFirst, .long v_nameSecond, .ref m_written, .ref m_places, .int v_end, .int v_second, .int v_ids, .int v_nodes, .int v_opens, .int v_levelOpens, .int v_start, .int v_app, .int v_behind, .ref m_levelKind, .ref m_levelStart, .ref m_levelApp, .ref m_levelHad, .ref m_levelScope, .ref m_levelId, .ref m_levelFirst, .ref m_levelSecond, .int v_level, .ref m_scopeFirst, .ref m_scopeSecond, .ref m_scopeId, .int v_scope, .ref m_made, .int v_top, .ref m_typeOf, .ref m_tasks, .int v_left, .ref m_todo, .int v_waits, .ref m_renamed, .ref m_bound, .int v_fresh, .int v_changed, .int v_changedTo, .int v_out, .int v_counted, .ref m_markA, .ref m_markB, .ref m_line, .int v_printed, .int v_questionAt])), (m_text, .inl (cI, 8192, .inl f))] := hW
  refine lv_aload_n S.1 S.2.1 d_M_feed_0 rfl (lv_at hl 0 rfl) ?_
  refine lv_iload_n S.1 S.2.1 d_M_feed_1 rfl (lv_at hl 1 rfl) ?_
  refine lv_iconst (v := (nI 1)) S.1 S.2.1 d_M_feed_2 (by decide) ?_
  refine n_icmp_lt (tgt := 12) S (by omega) (by omega) d_M_feed_3 (by decide) (fun c_3 => absurd c_3 (by omega)) (fun c_3 => ?_)
  refine lv_iload_n S.1 S.2.1 d_M_feed_6 rfl (lv_at hl 1 rfl) ?_
  refine lv_bipush (v := (nI 8)) S.1 S.2.1 d_M_feed_7 (by decide) ?_
  refine n_icmp_le (tgt := 16) S (by omega) (by omega) d_M_feed_9 (by decide) (fun c_9 => ?_) (fun c_9 => absurd c_9 (by omega))
  refine lv_iconst (v := (nI 0)) S.1 S.2.1 d_M_feed_16 (by decide) ?_
  refine g_put (ws2 := [(aM, .inr (10, [.int (nI 0), .ref m_text, .int (nI 0), .int (nI 0), .int v_fault, .int v_place, .ref m_paper, .int v_papered, .int v_constants, .ref m_firstHalf, .ref m_secondHalf, .ref m_stored, .ref m_proved, .int v_at, .int v_token, .int v_tokenAt, .long v_nameFirst, .long v_nameSecond, .ref m_written, .ref m_places, .int v_end, .int v_second, .int v_ids, .int v_nodes, .int v_opens, .int v_levelOpens, .int v_start, .int v_app, .int v_behind, .ref m_levelKind, .ref m_levelStart, .ref m_levelApp, .ref m_levelHad, .ref m_levelScope, .ref m_levelId, .ref m_levelFirst, .ref m_levelSecond, .int v_level, .ref m_scopeFirst, .ref m_scopeSecond, .ref m_scopeId, .int v_scope, .ref m_made, .int v_top, .ref m_typeOf, .ref m_tasks, .int v_left, .ref m_todo, .int v_waits, .ref m_renamed, .ref m_bound, .int v_fresh, .int v_changed, .int v_changedTo, .int v_out, .int v_counted, .ref m_markA, .ref m_markB, .ref m_line, .int v_printed, .int v_questionAt])), (m_text, .inl (cI, 8192, .inl f))]) i_M ft_M ft_M_ok n_M S hW 0 rfl rfl 0 (by decide) kf_M_104 rfl rfl rfl (Nat.le_of_ble_eq_true rfl) rfl d_M_feed_17 (fun H locs hW => ?_)
  refine lv_aload_n S.1 S.2.1 d_M_feed_20 rfl (lv_at hl 0 rfl) ?_
  refine g_get i_M S hW 0 rfl rfl 0 (by decide) kf_M_104 rfl d_M_feed_21 ?_
  refine lv_if_le (tgt := 29) S.1 S.2.1 d_M_feed_24 (by decide) (fun _ => ?_) (fun h => absurd h (by decide))
  refine lv_aload_n S.1 S.2.1 d_M_feed_29 rfl (lv_at hl 0 rfl) ?_
  refine g_get i_M S hW 0 rfl rfl 3 (by decide) kf_M_364 rfl d_M_feed_30 ?_
  refine lv_iload_n S.1 S.2.1 d_M_feed_33 rfl (lv_at hl 1 rfl) ?_
  refine n_iadd S d_M_feed_34 ?_
  refine lv_sipush (v := (nI 8192)) S.1 S.2.1 d_M_feed_35 (by decide) ?_
  refine n_icmp_le (tgt := 43) S (by omega) (by omega) d_M_feed_38 (by decide) (fun c_38 => ?_) (fun c_38 => absurd c_38 (by omega))
  refine lv_iconst (v := (nI 0)) S.1 S.2.1 d_M_feed_43 (by decide) ?_
  refine lv_istore (lv' := [(4, .int (nI 0)), (0, .ref aM), (1, .int (nI k)), (2, .long v)]) S.1 S.2.1 d_M_feed_44 hl (by decide) rfl (fun ls hl => ?_)
  have loop_46 : ∀ (nf : Nat) (i : Nat) (f1 : Nat → Int32), k - i < nf → (i ≤ k) → ∀ (H : Heap) (locs : List Loc), Wd D (tyl cI cJ cB cZ) A s s.heap H locs [(aM, .inr (10, [.int (nI 0), .ref m_text, .int (nI i), .int (nI 0), .int v_fault, .int v_place, .ref m_paper, .int v_papered, .int v_constants, .ref m_firstHalf, .ref m_secondHalf, .ref m_stored, .ref m_proved, .int v_at, .int v_token, .int v_tokenAt, .long v_nameFirst, .long v_nameSecond, .ref m_written, .ref m_places, .int v_end, .int v_second, .int v_ids, .int v_nodes, .int v_opens, .int v_levelOpens, .int v_start, .int v_app, .int v_behind, .ref m_levelKind, .ref m_levelStart, .ref m_levelApp, .ref m_levelHad, .ref m_levelScope, .ref m_levelId, .ref m_levelFirst, .ref m_levelSecond, .int v_level, .ref m_scopeFirst, .ref m_scopeSecond, .ref m_scopeId, .int v_scope, .ref m_made, .int v_top, .ref m_typeOf, .ref m_tasks, .int v_left, .ref m_todo, .int v_waits, .ref m_renamed, .ref m_bound, .int v_fresh, .int v_changed, .int v_changedTo, .int v_out, .int v_counted, .ref m_markA, .ref m_markB, .ref m_line, .int v_printed, .int v_questionAt])), (m_text, .inl (cI, 8192, .inl f1))] → ∀ (ls : Array Slot), lv_has ls 5 [(4, .int (nI i)), (0, .ref aM), (1, .int (nI k)), (2, .long v)] → W p l e ({ frames := 0, cells := 0, slots := 0, locals := 0 } : Room) s m args below meth c H locs 0 0 Q (F0 m 46 ls []) := by
    intro nf
    induction nf with
    | zero =>
      intros
      omega
    | succ nf ih =>
      intro i f1 hnf hi H locs hW ls hl
      refine lv_iload S.1 S.2.1 d_M_feed_46 (lv_at hl 0 rfl) ?_
      refine lv_iload_n S.1 S.2.1 d_M_feed_48 rfl (lv_at hl 2 rfl) ?_
      refine n_icmp_ge (tgt := 89) S (by omega) (by omega) d_M_feed_49 (by decide) (fun c_49 => ?_) (fun c_49 => ?_)
      · refine lv_aload_n S.1 S.2.1 d_M_feed_89 rfl (lv_at hl 1 rfl) ?_
        refine lv_dup S.1 S.2.1 d_M_feed_90 rfl ?_
        refine g_get i_M S hW 0 rfl rfl 3 (by decide) kf_M_364 rfl d_M_feed_91 ?_
        refine lv_iload_n S.1 S.2.1 d_M_feed_94 rfl (lv_at hl 2 rfl) ?_
        refine n_iadd S d_M_feed_95 ?_
        refine g_put (ws2 := [(aM, .inr (10, [.int (nI 0), .ref m_text, .int (nI i), .int (nI (0 + k)), .int v_fault, .int v_place, .ref m_paper, .int v_papered, .int v_constants, .ref m_firstHalf, .ref m_secondHalf, .ref m_stored, .ref m_proved, .int v_at, .int v_token, .int v_tokenAt, .long v_nameFirst, .long v_nameSecond, .ref m_written, .ref m_places, .int v_end, .int v_second, .int v_ids, .int v_nodes, .int v_opens, .int v_levelOpens, .int v_start, .int v_app, .int v_behind, .ref m_levelKind, .ref m_levelStart, .ref m_levelApp, .ref m_levelHad, .ref m_levelScope, .ref m_levelId, .ref m_levelFirst, .ref m_levelSecond, .int v_level, .ref m_scopeFirst, .ref m_scopeSecond, .ref m_scopeId, .int v_scope, .ref m_made, .int v_top, .ref m_typeOf, .ref m_tasks, .int v_left, .ref m_todo, .int v_waits, .ref m_renamed, .ref m_bound, .int v_fresh, .int v_changed, .int v_changedTo, .int v_out, .int v_counted, .ref m_markA, .ref m_markB, .ref m_line, .int v_printed, .int v_questionAt])), (m_text, .inl (cI, 8192, .inl f1))]) i_M ft_M ft_M_ok n_M S hW 0 rfl rfl 3 (by decide) kf_M_364 rfl rfl rfl (Nat.le_of_ble_eq_true rfl) rfl d_M_feed_96 (fun H locs hW => ?_)
        refine lv_aload_n S.1 S.2.1 d_M_feed_99 rfl (lv_at hl 1 rfl) ?_
        refine g_get i_M S hW 0 rfl rfl 2 (by decide) kf_M_117 rfl d_M_feed_100 ?_
        exact ret _ _ _ _ _ _ d_M_feed_103 rfl ⟨f1, (by rw [show i = k by omega]), (by rw [show i = k by omega])⟩ hW
      · refine lv_aload_n S.1 S.2.1 d_M_feed_52 rfl (lv_at hl 1 rfl) ?_
        refine g_get i_M S hW 0 rfl rfl 1 (by decide) kf_M_7 rfl d_M_feed_53 ?_
        refine lv_aload_n S.1 S.2.1 d_M_feed_56 rfl (lv_at hl 1 rfl) ?_
        refine g_get i_M S hW 0 rfl rfl 2 (by decide) kf_M_117 rfl d_M_feed_57 ?_
        refine lv_lload_n S.1 S.2.1 d_M_feed_60 rfl (lv_at hl 3 rfl) ?_
        refine lv_bipush (v := (nI 8)) S.1 S.2.1 d_M_feed_61 (by decide) ?_
        refine lv_iload S.1 S.2.1 d_M_feed_63 (lv_at hl 0 rfl) ?_
        refine n_imul S d_M_feed_65 ?_
        refine lv_lshr (v := v >>> ((nI (8 * i)).toInt64 &&& 63)) S.1 S.2.1 d_M_feed_66 rfl ?_
        refine lv_ldc2 (v := 255) S.1 S.2.1 S.2.2.2.1 (S.2.2.2.2 _ kq_M_324) d_M_feed_67 ?_
        refine lv_land S.1 S.2.1 d_M_feed_70 ?_
        refine lv_l2i (v := ((v >>> ((nI (8 * i)).toInt64 &&& 63)) &&& 255).toInt32) S.1 S.2.1 d_M_feed_71 rfl ?_
        refine n_iast (ws2 := [(aM, .inr (10, [.int (nI 0), .ref m_text, .int (nI i), .int (nI 0), .int v_fault, .int v_place, .ref m_paper, .int v_papered, .int v_constants, .ref m_firstHalf, .ref m_secondHalf, .ref m_stored, .ref m_proved, .int v_at, .int v_token, .int v_tokenAt, .long v_nameFirst, .long v_nameSecond, .ref m_written, .ref m_places, .int v_end, .int v_second, .int v_ids, .int v_nodes, .int v_opens, .int v_levelOpens, .int v_start, .int v_app, .int v_behind, .ref m_levelKind, .ref m_levelStart, .ref m_levelApp, .ref m_levelHad, .ref m_levelScope, .ref m_levelId, .ref m_levelFirst, .ref m_levelSecond, .int v_level, .ref m_scopeFirst, .ref m_scopeSecond, .ref m_scopeId, .int v_scope, .ref m_made, .int v_top, .ref m_typeOf, .ref m_tasks, .int v_left, .ref m_todo, .int v_waits, .ref m_renamed, .ref m_bound, .int v_fresh, .int v_changed, .int v_changedTo, .int v_out, .int v_counted, .ref m_markA, .ref m_markB, .ref m_line, .int v_printed, .int v_questionAt])), (m_text, .inl (cI, 8192, .inl (upd f1 i (((v >>> ((nI (8 * i)).toInt64 &&& 63)) &&& 255).toInt32))))]) S hW 1 0 rfl rfl (by decide) (by omega) rfl d_M_feed_72 (fun H locs hW => ?_)
        refine lv_aload_n S.1 S.2.1 d_M_feed_73 rfl (lv_at hl 1 rfl) ?_
        refine lv_dup S.1 S.2.1 d_M_feed_74 rfl ?_
        refine g_get i_M S hW 0 rfl rfl 2 (by decide) kf_M_117 rfl d_M_feed_75 ?_
        refine lv_iconst (v := (nI 1)) S.1 S.2.1 d_M_feed_78 (by decide) ?_
        refine n_iadd S d_M_feed_79 ?_
        refine g_put (ws2 := [(aM, .inr (10, [.int (nI 0), .ref m_text, .int (nI (i + 1)), .int (nI 0), .int v_fault, .int v_place, .ref m_paper, .int v_papered, .int v_constants, .ref m_firstHalf, .ref m_secondHalf, .ref m_stored, .ref m_proved, .int v_at, .int v_token, .int v_tokenAt, .long v_nameFirst, .long v_nameSecond, .ref m_written, .ref m_places, .int v_end, .int v_second, .int v_ids, .int v_nodes, .int v_opens, .int v_levelOpens, .int v_start, .int v_app, .int v_behind, .ref m_levelKind, .ref m_levelStart, .ref m_levelApp, .ref m_levelHad, .ref m_levelScope, .ref m_levelId, .ref m_levelFirst, .ref m_levelSecond, .int v_level, .ref m_scopeFirst, .ref m_scopeSecond, .ref m_scopeId, .int v_scope, .ref m_made, .int v_top, .ref m_typeOf, .ref m_tasks, .int v_left, .ref m_todo, .int v_waits, .ref m_renamed, .ref m_bound, .int v_fresh, .int v_changed, .int v_changedTo, .int v_out, .int v_counted, .ref m_markA, .ref m_markB, .ref m_line, .int v_printed, .int v_questionAt])), (m_text, .inl (cI, 8192, .inl (upd f1 i (((v >>> ((nI (8 * i)).toInt64 &&& 63)) &&& 255).toInt32))))]) i_M ft_M ft_M_ok n_M S hW 0 rfl rfl 2 (by decide) kf_M_117 rfl rfl rfl (Nat.le_of_ble_eq_true rfl) rfl d_M_feed_80 (fun H locs hW => ?_)
        refine lv_iinc (v := (nI (i + 1))) (lv' := [(4, .int (nI (i + 1))), (0, .ref aM), (1, .int (nI k)), (2, .long v)]) S.1 S.2.1 d_M_feed_83 hl (k := 0) rfl (inc_eq _ 1 _ (by decide)) (by decide) rfl (fun ls hl => ?_)
        refine lv_goto (tgt := 46) S.1 S.2.1 d_M_feed_86 (by decide) ?_
        exact ih (i + 1) (upd f1 i (((v >>> ((nI (8 * i)).toInt64 &&& 63)) &&& 255).toInt32)) (by omega) (by omega) _ _ hW _ (lv_sub hl [0, 1, 2, 3] rfl)
  exact loop_46 (k - 0 + 1) 0 f (Nat.lt_succ_self _) (by omega) _ _ hW _ (lv_sub hl [0, 1, 2, 3] rfl)
set_option maxHeartbeats 4000000 in
set_option maxRecDepth 100000 in
theorem c_M_feedT (l : Launch) (D : va_G) (cI cJ cB cZ : ClassId) (aM m_text m_paper m_firstHalf m_secondHalf m_stored m_proved m_written m_places m_levelKind m_levelStart m_levelApp m_levelHad m_levelScope m_levelId m_levelFirst m_levelSecond m_scopeFirst m_scopeSecond m_scopeId m_made m_typeOf m_tasks m_todo m_renamed m_bound m_markA m_markB m_line : Nat) (v_thrown v_length v_came v_fault v_place v_papered v_constants v_at v_token v_tokenAt v_end v_second v_ids v_nodes v_opens v_levelOpens v_start v_app v_behind v_level v_scope v_top v_left v_waits v_fresh v_changed v_changedTo v_out v_counted v_printed v_questionAt : Int32) (v_nameFirst v_nameSecond : Int64) (n : Int32) (v : Int64) (hb : ¬ (¬ n < nI 1 ∧ n ≤ nI 8)) : Ci l D (tyl cI cJ cB cZ) y_M_feed b_M_feed 5 (some .int) ({ frames := 0, cells := 0, slots := 0, locals := 0 } : Room) [.ref aM, .int n, .long v] [(aM, .inr (10, [.int v_thrown, .ref m_text, .int v_length, .int v_came, .int v_fault, .int v_place, .ref m_paper, .int v_papered, .int v_constants, .ref m_firstHalf, .ref m_secondHalf, .ref m_stored, .ref m_proved, .int v_at, .int v_token, .int v_tokenAt, .long v_nameFirst, .long v_nameSecond, .ref m_written, .ref m_places, .int v_end, .int v_second, .int v_ids, .int v_nodes, .int v_opens, .int v_levelOpens, .int v_start, .int v_app, .int v_behind, .ref m_levelKind, .ref m_levelStart, .ref m_levelApp, .ref m_levelHad, .ref m_levelScope, .ref m_levelId, .ref m_levelFirst, .ref m_levelSecond, .int v_level, .ref m_scopeFirst, .ref m_scopeSecond, .ref m_scopeId, .int v_scope, .ref m_made, .int v_top, .ref m_typeOf, .ref m_tasks, .int v_left, .ref m_todo, .int v_waits, .ref m_renamed, .ref m_bound, .int v_fresh, .int v_changed, .int v_changedTo, .int v_out, .int v_counted, .ref m_markA, .ref m_markB, .ref m_line, .int v_printed, .int v_questionAt]))] (fun r u => r = (nI 0) ∧ u = [(aM, .inr (10, [.int (nI 1), .ref m_text, .int v_length, .int v_came, .int v_fault, .int v_place, .ref m_paper, .int v_papered, .int v_constants, .ref m_firstHalf, .ref m_secondHalf, .ref m_stored, .ref m_proved, .int v_at, .int v_token, .int v_tokenAt, .long v_nameFirst, .long v_nameSecond, .ref m_written, .ref m_places, .int v_end, .int v_second, .int v_ids, .int v_nodes, .int v_opens, .int v_levelOpens, .int v_start, .int v_app, .int v_behind, .ref m_levelKind, .ref m_levelStart, .ref m_levelApp, .ref m_levelHad, .ref m_levelScope, .ref m_levelId, .ref m_levelFirst, .ref m_levelSecond, .int v_level, .ref m_scopeFirst, .ref m_scopeSecond, .ref m_scopeId, .int v_scope, .ref m_made, .int v_top, .ref m_typeOf, .ref m_tasks, .int v_left, .ref m_todo, .int v_waits, .ref m_renamed, .ref m_bound, .int v_fresh, .int v_changed, .int v_changedTo, .int v_out, .int v_counted, .ref m_markA, .ref m_markB, .ref m_line, .int v_printed, .int v_questionAt]))]) := by
  refine met_i (own := "ProofReaderModel") (by decide) rfl (Nat.le_of_ble_eq_true rfl) ?_
  intro p e s m args below meth c A Q S hA ret ls hl hW
  have hl : lv_has ls 5 [(0, .ref aM), (1, .int n), (2, .long v)] := hl
  have hW : Wd D (tyl cI cJ cB cZ) A s s.heap s.heap [] [(aM, .inr (10, [.int v_thrown, .ref m_text, .int v_length, .int v_came, .int v_fault, .int v_place, .ref m_paper, .int v_papered, .int v_constants, .ref m_firstHalf, .ref m_secondHalf, .ref m_stored, .ref m_proved, .int v_at, .int v_token, .int v_tokenAt, .long v_nameFirst, .long v_nameSecond, .ref m_written, .ref m_places, .int v_end, .int v_second, .int v_ids, .int v_nodes, .int v_opens, .int v_levelOpens, .int v_start, .int v_app, .int v_behind, .ref m_levelKind, .ref m_levelStart, .ref m_levelApp, .ref m_levelHad, .ref m_levelScope, .ref m_levelId, .ref m_levelFirst, .ref m_levelSecond, .int v_level, .ref m_scopeFirst, .ref m_scopeSecond, .ref m_scopeId, .int v_scope, .ref m_made, .int v_top, .ref m_typeOf, .ref m_tasks, .int v_left, .ref m_todo, .int v_waits, .ref m_renamed, .ref m_bound, .int v_fresh, .int v_changed, .int v_changedTo, .int v_out, .int v_counted, .ref m_markA, .ref m_markB, .ref m_line, .int v_printed, .int v_questionAt]))] := hW
  refine lv_aload_n S.1 S.2.1 d_M_feed_0 rfl (lv_at hl 0 rfl) ?_
  refine lv_iload_n S.1 S.2.1 d_M_feed_1 rfl (lv_at hl 1 rfl) ?_
  refine lv_iconst (v := (nI 1)) S.1 S.2.1 d_M_feed_2 (by decide) ?_
  refine lv_icmp_lt (tgt := 12) S.1 S.2.1 d_M_feed_3 (by decide) (fun c_3 => ?_) (fun c_3 => ?_)
  · refine lv_iconst (v := (nI 1)) S.1 S.2.1 d_M_feed_12 (by decide) ?_
    refine lv_goto (tgt := 17) S.1 S.2.1 d_M_feed_13 (by decide) ?_
    refine g_put (ws2 := [(aM, .inr (10, [.int (nI 1), .ref m_text, .int v_length, .int v_came, .int v_fault, .int v_place, .ref m_paper, .int v_papered, .int v_constants, .ref m_firstHalf, .ref m_secondHalf, .ref m_stored, .ref m_proved, .int v_at, .int v_token, .int v_tokenAt, .long v_nameFirst, .long v_nameSecond, .ref m_written, .ref m_places, .int v_end, .int v_second, .int v_ids, .int v_nodes, .int v_opens, .int v_levelOpens, .int v_start, .int v_app, .int v_behind, .ref m_levelKind, .ref m_levelStart, .ref m_levelApp, .ref m_levelHad, .ref m_levelScope, .ref m_levelId, .ref m_levelFirst, .ref m_levelSecond, .int v_level, .ref m_scopeFirst, .ref m_scopeSecond, .ref m_scopeId, .int v_scope, .ref m_made, .int v_top, .ref m_typeOf, .ref m_tasks, .int v_left, .ref m_todo, .int v_waits, .ref m_renamed, .ref m_bound, .int v_fresh, .int v_changed, .int v_changedTo, .int v_out, .int v_counted, .ref m_markA, .ref m_markB, .ref m_line, .int v_printed, .int v_questionAt]))]) i_M ft_M ft_M_ok n_M S hW 0 rfl rfl 0 (by decide) kf_M_104 rfl rfl rfl (Nat.le_of_ble_eq_true rfl) rfl d_M_feed_17 (fun H locs hW => ?_)
    refine lv_aload_n S.1 S.2.1 d_M_feed_20 rfl (lv_at hl 0 rfl) ?_
    refine g_get i_M S hW 0 rfl rfl 0 (by decide) kf_M_104 rfl d_M_feed_21 ?_
    refine lv_if_le (tgt := 29) S.1 S.2.1 d_M_feed_24 (by decide) (fun h => absurd h (by decide)) (fun _ => ?_)
    refine lv_iconst (v := (nI 0)) S.1 S.2.1 d_M_feed_27 (by decide) ?_
    exact ret _ _ _ _ _ _ d_M_feed_28 rfl ⟨rfl, rfl⟩ hW
  · refine lv_iload_n S.1 S.2.1 d_M_feed_6 rfl (lv_at hl 1 rfl) ?_
    refine lv_bipush (v := (nI 8)) S.1 S.2.1 d_M_feed_7 (by decide) ?_
    refine lv_icmp_le (tgt := 16) S.1 S.2.1 d_M_feed_9 (by decide) (fun c_9 => absurd c_9 (fun z => hb ⟨c_3, z⟩)) (fun c_9 => ?_)
    refine lv_iconst (v := (nI 1)) S.1 S.2.1 d_M_feed_12 (by decide) ?_
    refine lv_goto (tgt := 17) S.1 S.2.1 d_M_feed_13 (by decide) ?_
    refine g_put (ws2 := [(aM, .inr (10, [.int (nI 1), .ref m_text, .int v_length, .int v_came, .int v_fault, .int v_place, .ref m_paper, .int v_papered, .int v_constants, .ref m_firstHalf, .ref m_secondHalf, .ref m_stored, .ref m_proved, .int v_at, .int v_token, .int v_tokenAt, .long v_nameFirst, .long v_nameSecond, .ref m_written, .ref m_places, .int v_end, .int v_second, .int v_ids, .int v_nodes, .int v_opens, .int v_levelOpens, .int v_start, .int v_app, .int v_behind, .ref m_levelKind, .ref m_levelStart, .ref m_levelApp, .ref m_levelHad, .ref m_levelScope, .ref m_levelId, .ref m_levelFirst, .ref m_levelSecond, .int v_level, .ref m_scopeFirst, .ref m_scopeSecond, .ref m_scopeId, .int v_scope, .ref m_made, .int v_top, .ref m_typeOf, .ref m_tasks, .int v_left, .ref m_todo, .int v_waits, .ref m_renamed, .ref m_bound, .int v_fresh, .int v_changed, .int v_changedTo, .int v_out, .int v_counted, .ref m_markA, .ref m_markB, .ref m_line, .int v_printed, .int v_questionAt]))]) i_M ft_M ft_M_ok n_M S hW 0 rfl rfl 0 (by decide) kf_M_104 rfl rfl rfl (Nat.le_of_ble_eq_true rfl) rfl d_M_feed_17 (fun H locs hW => ?_)
    refine lv_aload_n S.1 S.2.1 d_M_feed_20 rfl (lv_at hl 0 rfl) ?_
    refine g_get i_M S hW 0 rfl rfl 0 (by decide) kf_M_104 rfl d_M_feed_21 ?_
    refine lv_if_le (tgt := 29) S.1 S.2.1 d_M_feed_24 (by decide) (fun h => absurd h (by decide)) (fun _ => ?_)
    refine lv_iconst (v := (nI 0)) S.1 S.2.1 d_M_feed_27 (by decide) ?_
    exact ret _ _ _ _ _ _ d_M_feed_28 rfl ⟨rfl, rfl⟩ hW
theorem d_M_constant_0 : decode b_M_constant 0 = .ok (.aload_n 0, 1) := by decide +kernel
theorem d_M_constant_1 : decode b_M_constant 1 = .ok (.iload_n 2, 1) := by decide +kernel
theorem d_M_constant_2 : decode b_M_constant 2 = .ok (.ifCond .lt 8, 3) := by decide +kernel
theorem d_M_constant_5 : decode b_M_constant 5 = .ok (.iload_n 2, 1) := by decide +kernel
theorem d_M_constant_6 : decode b_M_constant 6 = .ok (.iconst 5, 1) := by decide +kernel
theorem d_M_constant_7 : decode b_M_constant 7 = .ok (.if_icmp .le 7, 3) := by decide +kernel
theorem d_M_constant_10 : decode b_M_constant 10 = .ok (.iconst 1, 1) := by decide +kernel
theorem d_M_constant_11 : decode b_M_constant 11 = .ok (.goto 20, 3) := by decide +kernel
theorem d_M_constant_14 : decode b_M_constant 14 = .ok (.iload_n 1, 1) := by decide +kernel
theorem d_M_constant_15 : decode b_M_constant 15 = .ok (.ifCond .lt 11, 3) := by decide +kernel
theorem d_M_constant_18 : decode b_M_constant 18 = .ok (.iload_n 1, 1) := by decide +kernel
theorem d_M_constant_19 : decode b_M_constant 19 = .ok (.aload_n 0, 1) := by decide +kernel
theorem d_M_constant_20 : decode b_M_constant 20 = .ok (.getfield 162, 3) := by decide +kernel
theorem d_M_constant_23 : decode b_M_constant 23 = .ok (.if_icmp .lt 7, 3) := by decide +kernel
theorem d_M_constant_26 : decode b_M_constant 26 = .ok (.iconst 2, 1) := by decide +kernel
theorem d_M_constant_27 : decode b_M_constant 27 = .ok (.goto 4, 3) := by decide +kernel
theorem d_M_constant_30 : decode b_M_constant 30 = .ok (.iconst 0, 1) := by decide +kernel
theorem d_M_constant_31 : decode b_M_constant 31 = .ok (.putfield 104, 3) := by decide +kernel
theorem d_M_constant_34 : decode b_M_constant 34 = .ok (.aload_n 0, 1) := by decide +kernel
theorem d_M_constant_35 : decode b_M_constant 35 = .ok (.getfield 104, 3) := by decide +kernel
theorem d_M_constant_38 : decode b_M_constant 38 = .ok (.ifCond .le 5, 3) := by decide +kernel
theorem d_M_constant_41 : decode b_M_constant 41 = .ok (.iconst 0, 1) := by decide +kernel
theorem d_M_constant_42 : decode b_M_constant 42 = .ok (.ireturn, 1) := by decide +kernel
theorem d_M_constant_43 : decode b_M_constant 43 = .ok (.aload_n 0, 1) := by decide +kernel
theorem d_M_constant_44 : decode b_M_constant 44 = .ok (.iload_n 1, 1) := by decide +kernel
theorem d_M_constant_45 : decode b_M_constant 45 = .ok (.invokevirtual 367, 3) := by decide +kernel
theorem d_M_constant_48 : decode b_M_constant 48 = .ok (.istore_n 3, 1) := by decide +kernel
theorem d_M_constant_49 : decode b_M_constant 49 = .ok (.iload_n 2, 1) := by decide +kernel
theorem d_M_constant_50 : decode b_M_constant 50 = .ok (.tableswitch 74 0 4 #[34, 49, 55, 61, 67], 34) := by decide +kernel
theorem d_M_constant_84 : decode b_M_constant 84 = .ok (.aload_n 0, 1) := by decide +kernel
theorem d_M_constant_85 : decode b_M_constant 85 = .ok (.getfield 28, 3) := by decide +kernel
theorem d_M_constant_88 : decode b_M_constant 88 = .ok (.iload_n 3, 1) := by decide +kernel
theorem d_M_constant_89 : decode b_M_constant 89 = .ok (.iaload, 1) := by decide +kernel
theorem d_M_constant_90 : decode b_M_constant 90 = .ok (.ifCond .ne 7, 3) := by decide +kernel
theorem d_M_constant_93 : decode b_M_constant 93 = .ok (.iconst 1, 1) := by decide +kernel
theorem d_M_constant_94 : decode b_M_constant 94 = .ok (.goto 4, 3) := by decide +kernel
theorem d_M_constant_97 : decode b_M_constant 97 = .ok (.iconst 0, 1) := by decide +kernel
theorem d_M_constant_98 : decode b_M_constant 98 = .ok (.ireturn, 1) := by decide +kernel
theorem d_M_constant_99 : decode b_M_constant 99 = .ok (.aload_n 0, 1) := by decide +kernel
theorem d_M_constant_100 : decode b_M_constant 100 = .ok (.iload_n 1, 1) := by decide +kernel
theorem d_M_constant_101 : decode b_M_constant 101 = .ok (.invokevirtual 371, 3) := by decide +kernel
theorem d_M_constant_104 : decode b_M_constant 104 = .ok (.ireturn, 1) := by decide +kernel
theorem d_M_constant_105 : decode b_M_constant 105 = .ok (.aload_n 0, 1) := by decide +kernel
theorem d_M_constant_106 : decode b_M_constant 106 = .ok (.iload_n 1, 1) := by decide +kernel
theorem d_M_constant_107 : decode b_M_constant 107 = .ok (.invokevirtual 374, 3) := by decide +kernel
theorem d_M_constant_110 : decode b_M_constant 110 = .ok (.ireturn, 1) := by decide +kernel
theorem d_M_constant_111 : decode b_M_constant 111 = .ok (.aload_n 0, 1) := by decide +kernel
theorem d_M_constant_112 : decode b_M_constant 112 = .ok (.iload_n 1, 1) := by decide +kernel
theorem d_M_constant_113 : decode b_M_constant 113 = .ok (.invokevirtual 377, 3) := by decide +kernel
theorem d_M_constant_116 : decode b_M_constant 116 = .ok (.ireturn, 1) := by decide +kernel
theorem d_M_constant_117 : decode b_M_constant 117 = .ok (.aload_n 0, 1) := by decide +kernel
theorem d_M_constant_118 : decode b_M_constant 118 = .ok (.getfield 31, 3) := by decide +kernel
theorem d_M_constant_121 : decode b_M_constant 121 = .ok (.iload_n 1, 1) := by decide +kernel
theorem d_M_constant_122 : decode b_M_constant 122 = .ok (.iaload, 1) := by decide +kernel
theorem d_M_constant_123 : decode b_M_constant 123 = .ok (.ireturn, 1) := by decide +kernel
theorem d_M_constant_124 : decode b_M_constant 124 = .ok (.aload_n 0, 1) := by decide +kernel
theorem d_M_constant_125 : decode b_M_constant 125 = .ok (.getfield 28, 3) := by decide +kernel
theorem d_M_constant_128 : decode b_M_constant 128 = .ok (.iload_n 3, 1) := by decide +kernel
theorem d_M_constant_129 : decode b_M_constant 129 = .ok (.iaload, 1) := by decide +kernel
theorem d_M_constant_130 : decode b_M_constant 130 = .ok (.ifCond .ne 7, 3) := by decide +kernel
theorem d_M_constant_133 : decode b_M_constant 133 = .ok (.iconst (-1), 1) := by decide +kernel
theorem d_M_constant_134 : decode b_M_constant 134 = .ok (.goto 11, 3) := by decide +kernel
theorem d_M_constant_137 : decode b_M_constant 137 = .ok (.aload_n 0, 1) := by decide +kernel
theorem d_M_constant_138 : decode b_M_constant 138 = .ok (.getfield 28, 3) := by decide +kernel
theorem d_M_constant_141 : decode b_M_constant 141 = .ok (.iload_n 3, 1) := by decide +kernel
theorem d_M_constant_142 : decode b_M_constant 142 = .ok (.iconst 1, 1) := by decide +kernel
theorem d_M_constant_143 : decode b_M_constant 143 = .ok (.iadd, 1) := by decide +kernel
theorem d_M_constant_144 : decode b_M_constant 144 = .ok (.iaload, 1) := by decide +kernel
theorem d_M_constant_145 : decode b_M_constant 145 = .ok (.ireturn, 1) := by decide +kernel
set_option maxHeartbeats 4000000 in
set_option maxRecDepth 100000 in
theorem c_M_constantA (l : Launch) (D : va_G) (cI cJ cB cZ : ClassId) (aM m_text m_paper m_firstHalf m_secondHalf m_stored m_proved m_written m_places m_levelKind m_levelStart m_levelApp m_levelHad m_levelScope m_levelId m_levelFirst m_levelSecond m_scopeFirst m_scopeSecond m_scopeId m_made m_typeOf m_tasks m_todo m_renamed m_bound m_markA m_markB m_line : Nat) (v_thrown v_length v_came v_fault v_place v_papered v_constants v_at v_token v_tokenAt v_end v_second v_ids v_nodes v_opens v_levelOpens v_start v_app v_behind v_level v_scope v_top v_left v_waits v_fresh v_changed v_changedTo v_out v_counted v_printed v_questionAt : Int32) (v_nameFirst v_nameSecond : Int64) (k w : Int32) (hb : ¬ (¬ w < 0 ∧ w ≤ nI 5)) : Ci l D (tyl cI cJ cB cZ) y_M_constant b_M_constant 4 (some .int) ({ frames := 0, cells := 0, slots := 0, locals := 0 } : Room) [.ref aM, .int k, .int w] [(aM, .inr (10, [.int v_thrown, .ref m_text, .int v_length, .int v_came, .int v_fault, .int v_place, .ref m_paper, .int v_papered, .int v_constants, .ref m_firstHalf, .ref m_secondHalf, .ref m_stored, .ref m_proved, .int v_at, .int v_token, .int v_tokenAt, .long v_nameFirst, .long v_nameSecond, .ref m_written, .ref m_places, .int v_end, .int v_second, .int v_ids, .int v_nodes, .int v_opens, .int v_levelOpens, .int v_start, .int v_app, .int v_behind, .ref m_levelKind, .ref m_levelStart, .ref m_levelApp, .ref m_levelHad, .ref m_levelScope, .ref m_levelId, .ref m_levelFirst, .ref m_levelSecond, .int v_level, .ref m_scopeFirst, .ref m_scopeSecond, .ref m_scopeId, .int v_scope, .ref m_made, .int v_top, .ref m_typeOf, .ref m_tasks, .int v_left, .ref m_todo, .int v_waits, .ref m_renamed, .ref m_bound, .int v_fresh, .int v_changed, .int v_changedTo, .int v_out, .int v_counted, .ref m_markA, .ref m_markB, .ref m_line, .int v_printed, .int v_questionAt]))] (fun r u => r = (nI 0) ∧ u = [(aM, .inr (10, [.int (nI 1), .ref m_text, .int v_length, .int v_came, .int v_fault, .int v_place, .ref m_paper, .int v_papered, .int v_constants, .ref m_firstHalf, .ref m_secondHalf, .ref m_stored, .ref m_proved, .int v_at, .int v_token, .int v_tokenAt, .long v_nameFirst, .long v_nameSecond, .ref m_written, .ref m_places, .int v_end, .int v_second, .int v_ids, .int v_nodes, .int v_opens, .int v_levelOpens, .int v_start, .int v_app, .int v_behind, .ref m_levelKind, .ref m_levelStart, .ref m_levelApp, .ref m_levelHad, .ref m_levelScope, .ref m_levelId, .ref m_levelFirst, .ref m_levelSecond, .int v_level, .ref m_scopeFirst, .ref m_scopeSecond, .ref m_scopeId, .int v_scope, .ref m_made, .int v_top, .ref m_typeOf, .ref m_tasks, .int v_left, .ref m_todo, .int v_waits, .ref m_renamed, .ref m_bound, .int v_fresh, .int v_changed, .int v_changedTo, .int v_out, .int v_counted, .ref m_markA, .ref m_markB, .ref m_line, .int v_printed, .int v_questionAt]))]) := by
  refine met_i (own := "ProofReaderModel") (by decide) rfl (Nat.le_of_ble_eq_true rfl) ?_
  intro p e s m args below meth c A Q S hA ret ls hl hW
  have hl : lv_has ls 4 [(0, .ref aM), (1, .int k), (2, .int w)] := hl
  have hW : Wd D (tyl cI cJ cB cZ) A s s.heap s.heap [] [(aM, .inr (10, [.int v_thrown, .ref m_text, .int v_length, .int v_came, .int v_fault, .int v_place, .ref m_paper, .int v_papered, .int v_constants, .ref m_firstHalf, .ref m_secondHalf, .ref m_stored, .ref m_proved, .int v_at, .int v_token, .int v_tokenAt, .long v_nameFirst, .long v_nameSecond, .ref m_written, .ref m_places, .int v_end, .int v_second, .int v_ids, .int v_nodes, .int v_opens, .int v_levelOpens, .int v_start, .int v_app, .int v_behind, .ref m_levelKind, .ref m_levelStart, .ref m_levelApp, .ref m_levelHad, .ref m_levelScope, .ref m_levelId, .ref m_levelFirst, .ref m_levelSecond, .int v_level, .ref m_scopeFirst, .ref m_scopeSecond, .ref m_scopeId, .int v_scope, .ref m_made, .int v_top, .ref m_typeOf, .ref m_tasks, .int v_left, .ref m_todo, .int v_waits, .ref m_renamed, .ref m_bound, .int v_fresh, .int v_changed, .int v_changedTo, .int v_out, .int v_counted, .ref m_markA, .ref m_markB, .ref m_line, .int v_printed, .int v_questionAt]))] := hW
  refine lv_aload_n S.1 S.2.1 d_M_constant_0 rfl (lv_at hl 0 rfl) ?_
  refine lv_iload_n S.1 S.2.1 d_M_constant_1 rfl (lv_at hl 2 rfl) ?_
  refine lv_if_lt (tgt := 10) S.1 S.2.1 d_M_constant_2 (by decide) (fun c_2 => ?_) (fun c_2 => ?_)
  · refine lv_iconst (v := (nI 1)) S.1 S.2.1 d_M_constant_10 (by decide) ?_
    refine lv_goto (tgt := 31) S.1 S.2.1 d_M_constant_11 (by decide) ?_
    refine g_put (ws2 := [(aM, .inr (10, [.int (nI 1), .ref m_text, .int v_length, .int v_came, .int v_fault, .int v_place, .ref m_paper, .int v_papered, .int v_constants, .ref m_firstHalf, .ref m_secondHalf, .ref m_stored, .ref m_proved, .int v_at, .int v_token, .int v_tokenAt, .long v_nameFirst, .long v_nameSecond, .ref m_written, .ref m_places, .int v_end, .int v_second, .int v_ids, .int v_nodes, .int v_opens, .int v_levelOpens, .int v_start, .int v_app, .int v_behind, .ref m_levelKind, .ref m_levelStart, .ref m_levelApp, .ref m_levelHad, .ref m_levelScope, .ref m_levelId, .ref m_levelFirst, .ref m_levelSecond, .int v_level, .ref m_scopeFirst, .ref m_scopeSecond, .ref m_scopeId, .int v_scope, .ref m_made, .int v_top, .ref m_typeOf, .ref m_tasks, .int v_left, .ref m_todo, .int v_waits, .ref m_renamed, .ref m_bound, .int v_fresh, .int v_changed, .int v_changedTo, .int v_out, .int v_counted, .ref m_markA, .ref m_markB, .ref m_line, .int v_printed, .int v_questionAt]))]) i_M ft_M ft_M_ok n_M S hW 0 rfl rfl 0 (by decide) kf_M_104 rfl rfl rfl (Nat.le_of_ble_eq_true rfl) rfl d_M_constant_31 (fun H locs hW => ?_)
    refine lv_aload_n S.1 S.2.1 d_M_constant_34 rfl (lv_at hl 0 rfl) ?_
    refine g_get i_M S hW 0 rfl rfl 0 (by decide) kf_M_104 rfl d_M_constant_35 ?_
    refine lv_if_le (tgt := 43) S.1 S.2.1 d_M_constant_38 (by decide) (fun h => absurd h (by decide)) (fun _ => ?_)
    refine lv_iconst (v := (nI 0)) S.1 S.2.1 d_M_constant_41 (by decide) ?_
    exact ret _ _ _ _ _ _ d_M_constant_42 rfl ⟨rfl, rfl⟩ hW
  · refine lv_iload_n S.1 S.2.1 d_M_constant_5 rfl (lv_at hl 2 rfl) ?_
    refine lv_iconst (v := (nI 5)) S.1 S.2.1 d_M_constant_6 (by decide) ?_
    refine lv_icmp_le (tgt := 14) S.1 S.2.1 d_M_constant_7 (by decide) (fun c_7 => absurd c_7 (fun z => hb ⟨c_2, z⟩)) (fun c_7 => ?_)
    refine lv_iconst (v := (nI 1)) S.1 S.2.1 d_M_constant_10 (by decide) ?_
    refine lv_goto (tgt := 31) S.1 S.2.1 d_M_constant_11 (by decide) ?_
    refine g_put (ws2 := [(aM, .inr (10, [.int (nI 1), .ref m_text, .int v_length, .int v_came, .int v_fault, .int v_place, .ref m_paper, .int v_papered, .int v_constants, .ref m_firstHalf, .ref m_secondHalf, .ref m_stored, .ref m_proved, .int v_at, .int v_token, .int v_tokenAt, .long v_nameFirst, .long v_nameSecond, .ref m_written, .ref m_places, .int v_end, .int v_second, .int v_ids, .int v_nodes, .int v_opens, .int v_levelOpens, .int v_start, .int v_app, .int v_behind, .ref m_levelKind, .ref m_levelStart, .ref m_levelApp, .ref m_levelHad, .ref m_levelScope, .ref m_levelId, .ref m_levelFirst, .ref m_levelSecond, .int v_level, .ref m_scopeFirst, .ref m_scopeSecond, .ref m_scopeId, .int v_scope, .ref m_made, .int v_top, .ref m_typeOf, .ref m_tasks, .int v_left, .ref m_todo, .int v_waits, .ref m_renamed, .ref m_bound, .int v_fresh, .int v_changed, .int v_changedTo, .int v_out, .int v_counted, .ref m_markA, .ref m_markB, .ref m_line, .int v_printed, .int v_questionAt]))]) i_M ft_M ft_M_ok n_M S hW 0 rfl rfl 0 (by decide) kf_M_104 rfl rfl rfl (Nat.le_of_ble_eq_true rfl) rfl d_M_constant_31 (fun H locs hW => ?_)
    refine lv_aload_n S.1 S.2.1 d_M_constant_34 rfl (lv_at hl 0 rfl) ?_
    refine g_get i_M S hW 0 rfl rfl 0 (by decide) kf_M_104 rfl d_M_constant_35 ?_
    refine lv_if_le (tgt := 43) S.1 S.2.1 d_M_constant_38 (by decide) (fun h => absurd h (by decide)) (fun _ => ?_)
    refine lv_iconst (v := (nI 0)) S.1 S.2.1 d_M_constant_41 (by decide) ?_
    exact ret _ _ _ _ _ _ d_M_constant_42 rfl ⟨rfl, rfl⟩ hW
set_option maxHeartbeats 4000000 in
set_option maxRecDepth 100000 in
theorem c_M_constantB (l : Launch) (D : va_G) (cI cJ cB cZ : ClassId) (aM m_text m_paper m_firstHalf m_secondHalf m_stored m_proved m_written m_places m_levelKind m_levelStart m_levelApp m_levelHad m_levelScope m_levelId m_levelFirst m_levelSecond m_scopeFirst m_scopeSecond m_scopeId m_made m_typeOf m_tasks m_todo m_renamed m_bound m_markA m_markB m_line : Nat) (v_thrown v_length v_came v_fault v_place v_papered v_at v_token v_tokenAt v_end v_second v_ids v_nodes v_opens v_levelOpens v_start v_app v_behind v_level v_scope v_top v_left v_waits v_fresh v_changed v_changedTo v_out v_counted v_printed v_questionAt : Int32) (v_nameFirst v_nameSecond : Int64) (k w : Int32) (hb : ¬ w < 0 ∧ w ≤ nI 5) : Ci l D (tyl cI cJ cB cZ) y_M_constant b_M_constant 4 (some .int) ({ frames := 0, cells := 0, slots := 0, locals := 0 } : Room) [.ref aM, .int k, .int w] [(aM, .inr (10, [.int v_thrown, .ref m_text, .int v_length, .int v_came, .int v_fault, .int v_place, .ref m_paper, .int v_papered, .int (nI 0), .ref m_firstHalf, .ref m_secondHalf, .ref m_stored, .ref m_proved, .int v_at, .int v_token, .int v_tokenAt, .long v_nameFirst, .long v_nameSecond, .ref m_written, .ref m_places, .int v_end, .int v_second, .int v_ids, .int v_nodes, .int v_opens, .int v_levelOpens, .int v_start, .int v_app, .int v_behind, .ref m_levelKind, .ref m_levelStart, .ref m_levelApp, .ref m_levelHad, .ref m_levelScope, .ref m_levelId, .ref m_levelFirst, .ref m_levelSecond, .int v_level, .ref m_scopeFirst, .ref m_scopeSecond, .ref m_scopeId, .int v_scope, .ref m_made, .int v_top, .ref m_typeOf, .ref m_tasks, .int v_left, .ref m_todo, .int v_waits, .ref m_renamed, .ref m_bound, .int v_fresh, .int v_changed, .int v_changedTo, .int v_out, .int v_counted, .ref m_markA, .ref m_markB, .ref m_line, .int v_printed, .int v_questionAt]))] (fun r u => r = (nI 0) ∧ u = [(aM, .inr (10, [.int (nI 2), .ref m_text, .int v_length, .int v_came, .int v_fault, .int v_place, .ref m_paper, .int v_papered, .int (nI 0), .ref m_firstHalf, .ref m_secondHalf, .ref m_stored, .ref m_proved, .int v_at, .int v_token, .int v_tokenAt, .long v_nameFirst, .long v_nameSecond, .ref m_written, .ref m_places, .int v_end, .int v_second, .int v_ids, .int v_nodes, .int v_opens, .int v_levelOpens, .int v_start, .int v_app, .int v_behind, .ref m_levelKind, .ref m_levelStart, .ref m_levelApp, .ref m_levelHad, .ref m_levelScope, .ref m_levelId, .ref m_levelFirst, .ref m_levelSecond, .int v_level, .ref m_scopeFirst, .ref m_scopeSecond, .ref m_scopeId, .int v_scope, .ref m_made, .int v_top, .ref m_typeOf, .ref m_tasks, .int v_left, .ref m_todo, .int v_waits, .ref m_renamed, .ref m_bound, .int v_fresh, .int v_changed, .int v_changedTo, .int v_out, .int v_counted, .ref m_markA, .ref m_markB, .ref m_line, .int v_printed, .int v_questionAt]))]) := by
  refine met_i (own := "ProofReaderModel") (by decide) rfl (Nat.le_of_ble_eq_true rfl) ?_
  intro p e s m args below meth c A Q S hA ret ls hl hW
  have hl : lv_has ls 4 [(0, .ref aM), (1, .int k), (2, .int w)] := hl
  have hW : Wd D (tyl cI cJ cB cZ) A s s.heap s.heap [] [(aM, .inr (10, [.int v_thrown, .ref m_text, .int v_length, .int v_came, .int v_fault, .int v_place, .ref m_paper, .int v_papered, .int (nI 0), .ref m_firstHalf, .ref m_secondHalf, .ref m_stored, .ref m_proved, .int v_at, .int v_token, .int v_tokenAt, .long v_nameFirst, .long v_nameSecond, .ref m_written, .ref m_places, .int v_end, .int v_second, .int v_ids, .int v_nodes, .int v_opens, .int v_levelOpens, .int v_start, .int v_app, .int v_behind, .ref m_levelKind, .ref m_levelStart, .ref m_levelApp, .ref m_levelHad, .ref m_levelScope, .ref m_levelId, .ref m_levelFirst, .ref m_levelSecond, .int v_level, .ref m_scopeFirst, .ref m_scopeSecond, .ref m_scopeId, .int v_scope, .ref m_made, .int v_top, .ref m_typeOf, .ref m_tasks, .int v_left, .ref m_todo, .int v_waits, .ref m_renamed, .ref m_bound, .int v_fresh, .int v_changed, .int v_changedTo, .int v_out, .int v_counted, .ref m_markA, .ref m_markB, .ref m_line, .int v_printed, .int v_questionAt]))] := hW
  refine lv_aload_n S.1 S.2.1 d_M_constant_0 rfl (lv_at hl 0 rfl) ?_
  refine lv_iload_n S.1 S.2.1 d_M_constant_1 rfl (lv_at hl 2 rfl) ?_
  refine lv_if_lt (tgt := 10) S.1 S.2.1 d_M_constant_2 (by decide) (fun c_2 => absurd c_2 hb.1) (fun c_2 => ?_)
  refine lv_iload_n S.1 S.2.1 d_M_constant_5 rfl (lv_at hl 2 rfl) ?_
  refine lv_iconst (v := (nI 5)) S.1 S.2.1 d_M_constant_6 (by decide) ?_
  refine lv_icmp_le (tgt := 14) S.1 S.2.1 d_M_constant_7 (by decide) (fun c_7 => ?_) (fun c_7 => absurd c_7 (fun z => z hb.2))
  refine lv_iload_n S.1 S.2.1 d_M_constant_14 rfl (lv_at hl 1 rfl) ?_
  refine lv_if_lt (tgt := 26) S.1 S.2.1 d_M_constant_15 (by decide) (fun c_15 => ?_) (fun c_15 => ?_)
  · refine lv_iconst (v := (nI 2)) S.1 S.2.1 d_M_constant_26 (by decide) ?_
    refine lv_goto (tgt := 31) S.1 S.2.1 d_M_constant_27 (by decide) ?_
    refine g_put (ws2 := [(aM, .inr (10, [.int (nI 2), .ref m_text, .int v_length, .int v_came, .int v_fault, .int v_place, .ref m_paper, .int v_papered, .int (nI 0), .ref m_firstHalf, .ref m_secondHalf, .ref m_stored, .ref m_proved, .int v_at, .int v_token, .int v_tokenAt, .long v_nameFirst, .long v_nameSecond, .ref m_written, .ref m_places, .int v_end, .int v_second, .int v_ids, .int v_nodes, .int v_opens, .int v_levelOpens, .int v_start, .int v_app, .int v_behind, .ref m_levelKind, .ref m_levelStart, .ref m_levelApp, .ref m_levelHad, .ref m_levelScope, .ref m_levelId, .ref m_levelFirst, .ref m_levelSecond, .int v_level, .ref m_scopeFirst, .ref m_scopeSecond, .ref m_scopeId, .int v_scope, .ref m_made, .int v_top, .ref m_typeOf, .ref m_tasks, .int v_left, .ref m_todo, .int v_waits, .ref m_renamed, .ref m_bound, .int v_fresh, .int v_changed, .int v_changedTo, .int v_out, .int v_counted, .ref m_markA, .ref m_markB, .ref m_line, .int v_printed, .int v_questionAt]))]) i_M ft_M ft_M_ok n_M S hW 0 rfl rfl 0 (by decide) kf_M_104 rfl rfl rfl (Nat.le_of_ble_eq_true rfl) rfl d_M_constant_31 (fun H locs hW => ?_)
    refine lv_aload_n S.1 S.2.1 d_M_constant_34 rfl (lv_at hl 0 rfl) ?_
    refine g_get i_M S hW 0 rfl rfl 0 (by decide) kf_M_104 rfl d_M_constant_35 ?_
    refine lv_if_le (tgt := 43) S.1 S.2.1 d_M_constant_38 (by decide) (fun h => absurd h (by decide)) (fun _ => ?_)
    refine lv_iconst (v := (nI 0)) S.1 S.2.1 d_M_constant_41 (by decide) ?_
    exact ret _ _ _ _ _ _ d_M_constant_42 rfl ⟨rfl, rfl⟩ hW
  · refine lv_iload_n S.1 S.2.1 d_M_constant_18 rfl (lv_at hl 1 rfl) ?_
    refine lv_aload_n S.1 S.2.1 d_M_constant_19 rfl (lv_at hl 0 rfl) ?_
    refine g_get i_M S hW 0 rfl rfl 8 (by decide) kf_M_162 rfl d_M_constant_20 ?_
    refine lv_icmp_lt (tgt := 30) S.1 S.2.1 d_M_constant_23 (by decide) (fun c_23 => absurd c_23 c_15) (fun c_23 => ?_)
    refine lv_iconst (v := (nI 2)) S.1 S.2.1 d_M_constant_26 (by decide) ?_
    refine lv_goto (tgt := 31) S.1 S.2.1 d_M_constant_27 (by decide) ?_
    refine g_put (ws2 := [(aM, .inr (10, [.int (nI 2), .ref m_text, .int v_length, .int v_came, .int v_fault, .int v_place, .ref m_paper, .int v_papered, .int (nI 0), .ref m_firstHalf, .ref m_secondHalf, .ref m_stored, .ref m_proved, .int v_at, .int v_token, .int v_tokenAt, .long v_nameFirst, .long v_nameSecond, .ref m_written, .ref m_places, .int v_end, .int v_second, .int v_ids, .int v_nodes, .int v_opens, .int v_levelOpens, .int v_start, .int v_app, .int v_behind, .ref m_levelKind, .ref m_levelStart, .ref m_levelApp, .ref m_levelHad, .ref m_levelScope, .ref m_levelId, .ref m_levelFirst, .ref m_levelSecond, .int v_level, .ref m_scopeFirst, .ref m_scopeSecond, .ref m_scopeId, .int v_scope, .ref m_made, .int v_top, .ref m_typeOf, .ref m_tasks, .int v_left, .ref m_todo, .int v_waits, .ref m_renamed, .ref m_bound, .int v_fresh, .int v_changed, .int v_changedTo, .int v_out, .int v_counted, .ref m_markA, .ref m_markB, .ref m_line, .int v_printed, .int v_questionAt]))]) i_M ft_M ft_M_ok n_M S hW 0 rfl rfl 0 (by decide) kf_M_104 rfl rfl rfl (Nat.le_of_ble_eq_true rfl) rfl d_M_constant_31 (fun H locs hW => ?_)
    refine lv_aload_n S.1 S.2.1 d_M_constant_34 rfl (lv_at hl 0 rfl) ?_
    refine g_get i_M S hW 0 rfl rfl 0 (by decide) kf_M_104 rfl d_M_constant_35 ?_
    refine lv_if_le (tgt := 43) S.1 S.2.1 d_M_constant_38 (by decide) (fun h => absurd h (by decide)) (fun _ => ?_)
    refine lv_iconst (v := (nI 0)) S.1 S.2.1 d_M_constant_41 (by decide) ?_
    exact ret _ _ _ _ _ _ d_M_constant_42 rfl ⟨rfl, rfl⟩ hW
