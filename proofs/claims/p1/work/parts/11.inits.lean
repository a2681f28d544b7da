theorem dv_F : ∀ j, j < 2 → defaultValue (ft_F j) = vp_V [.int 0, .int 0] j := by decide +kernel
theorem dv_C : ∀ j, j < 5 → defaultValue (ft_C j) = vp_V [.null, .null, .null, .null, .null] j := by decide +kernel
theorem dv_P : ∀ j, j < 3 → defaultValue (ft_P j) = vp_V [.null, .int 0, .int 0] j := by decide +kernel
theorem dv_T : ∀ j, j < 8 → defaultValue (ft_T j) = vp_V [.null, .null, .int 0, .int 0, .int 0, .int 0, .long 0, .long 0] j := by decide +kernel
theorem dv_K : ∀ j, j < 8 → defaultValue (ft_K j) = vp_V [.null, .null, .null, .null, .null, .null, .int 0, .int 0] j := by decide +kernel
theorem dv_R : ∀ j, j < 17 → defaultValue (ft_R j) = vp_V [.null, .null, .null, .null, .null, .null, .int 0, .int 0, .int 0, .int 0, .int 0, .int 0, .int 0, .long 0, .long 0, .int 0, .int 0] j := by decide +kernel
theorem dv_U : ∀ j, j < 11 → defaultValue (ft_U j) = vp_V [.null, .null, .null, .null, .null, .null, .int 0, .int 0, .int 0, .int 0, .int 0] j := by decide +kernel
theorem dv_H : ∀ j, j < 6 → defaultValue (ft_H j) = vp_V [.null, .null, .null, .null, .null, .int 0] j := by decide +kernel
theorem dv_I : ∀ j, j < 8 → defaultValue (ft_I j) = vp_V [.null, .null, .null, .null, .null, .null, .int 0, .int 0] j := by decide +kernel
theorem dv_X : ∀ j, j < 9 → defaultValue (ft_X j) = vp_V [.null, .null, .null, .null, .null, .null, .null, .null, .int 0] j := by decide +kernel
theorem dv_M : ∀ j, j < 61 → defaultValue (ft_M j) = vp_V [.int 0, .null, .int 0, .int 0, .int 0, .int 0, .null, .int 0, .int 0, .null, .null, .null, .null, .int 0, .int 0, .int 0, .long 0, .long 0, .null, .null, .int 0, .int 0, .int 0, .int 0, .int 0, .int 0, .int 0, .int 0, .int 0, .null, .null, .null, .null, .null, .null, .null, .null, .int 0, .null, .null, .null, .int 0, .null, .int 0, .null, .null, .int 0, .null, .int 0, .null, .null, .int 0, .int 0, .int 0, .int 0, .int 0, .null, .null, .null, .int 0, .int 0] j := by decide +kernel
theorem d_F_init_0 : decode b_F_init 0 = .ok (.aload_n 0, 1) := by decide +kernel
theorem d_F_init_1 : decode b_F_init 1 = .ok (.invokespecial 3, 3) := by decide +kernel
theorem d_F_init_4 : decode b_F_init 4 = .ok (.aload_n 0, 1) := by decide +kernel
theorem d_F_init_5 : decode b_F_init 5 = .ok (.iconst 0, 1) := by decide +kernel
theorem d_F_init_6 : decode b_F_init 6 = .ok (.putfield 9, 3) := by decide +kernel
theorem d_F_init_9 : decode b_F_init 9 = .ok (.aload_n 0, 1) := by decide +kernel
theorem d_F_init_10 : decode b_F_init 10 = .ok (.iconst (-1), 1) := by decide +kernel
theorem d_F_init_11 : decode b_F_init 11 = .ok (.putfield 15, 3) := by decide +kernel
theorem d_F_init_14 : decode b_F_init 14 = .ok (.return_, 1) := by decide +kernel
set_option maxHeartbeats 4000000 in
set_option maxRecDepth 100000 in
theorem c_F_init (l : Launch) (D : va_G) (cI cJ cB cZ : ClassId) (aF : Nat) : Cv l D (tyl cI cJ cB cZ) y_F_init b_F_init 1 ({ frames := 1, cells := 0, slots := 0, locals := 20 } : Room) [.ref aF] [(aF, .inr (0, [.int 0, .int 0]))] (fun u => u = [(aF, .inr (0, [.int (nI 0), .int (-1)]))]) := by
  refine met_v (own := "ProofReader$Fault") (by decide) rfl (Nat.le_of_ble_eq_true rfl) ?_
  intro p e s m args below meth c A Q S hin hA ret ls hl hW
  have hl : lv_has ls 1 [(0, .ref aF)] := hl
  have hW : Wd D (tyl cI cJ cB cZ) A s s.heap s.heap [] [(aF, .inr (0, [.int 0, .int 0]))] := hW
  have hin : meth.name = "<init>" := hin
  refine lv_aload_n S.1 S.2.1 d_F_init_0 rfl (lv_at hl 0 rfl) ?_
  refine g_objInit S km_F_3 hl.1 d_F_init_1 (by decide) (Nat.le_of_ble_eq_true rfl) ?_
  refine lv_aload_n S.1 S.2.1 d_F_init_4 rfl (lv_at hl 0 rfl) ?_
  refine lv_iconst (v := (nI 0)) S.1 S.2.1 d_F_init_5 (by decide) ?_
  refine g_put (ws2 := [(aF, .inr (0, [.int (nI 0), .int 0]))]) i_F ft_F ft_F_ok n_F S hW 0 rfl rfl 0 (by decide) kf_F_9 rfl rfl rfl (Nat.le_of_ble_eq_true rfl) rfl d_F_init_6 (fun H locs hW => ?_)
  refine lv_aload_n S.1 S.2.1 d_F_init_9 rfl (lv_at hl 0 rfl) ?_
  refine lv_iconst (v := (-1)) S.1 S.2.1 d_F_init_10 (by decide) ?_
  refine g_put (ws2 := [(aF, .inr (0, [.int (nI 0), .int (-1)]))]) i_F ft_F ft_F_ok n_F S hW 0 rfl rfl 1 (by decide) kf_F_15 rfl rfl rfl (Nat.le_of_ble_eq_true rfl) rfl d_F_init_11 (fun H locs hW => ?_)
  exact ret _ _ _ _ _ d_F_init_14 rfl hW
theorem d_C_init_0 : decode b_C_init 0 = .ok (.aload_n 0, 1) := by decide +kernel
theorem d_C_init_1 : decode b_C_init 1 = .ok (.invokespecial 3, 3) := by decide +kernel
theorem d_C_init_4 : decode b_C_init 4 = .ok (.aload_n 0, 1) := by decide +kernel
theorem d_C_init_5 : decode b_C_init 5 = .ok (.sipush 21092, 3) := by decide +kernel
theorem d_C_init_8 : decode b_C_init 8 = .ok (.newarray .int, 2) := by decide +kernel
theorem d_C_init_10 : decode b_C_init 10 = .ok (.putfield 11, 3) := by decide +kernel
theorem d_C_init_13 : decode b_C_init 13 = .ok (.aload_n 0, 1) := by decide +kernel
theorem d_C_init_14 : decode b_C_init 14 = .ok (.sipush 21092, 3) := by decide +kernel
theorem d_C_init_17 : decode b_C_init 17 = .ok (.newarray .int, 2) := by decide +kernel
theorem d_C_init_19 : decode b_C_init 19 = .ok (.putfield 15, 3) := by decide +kernel
theorem d_C_init_22 : decode b_C_init 22 = .ok (.aload_n 0, 1) := by decide +kernel
theorem d_C_init_23 : decode b_C_init 23 = .ok (.sipush 21092, 3) := by decide +kernel
theorem d_C_init_26 : decode b_C_init 26 = .ok (.newarray .int, 2) := by decide +kernel
theorem d_C_init_28 : decode b_C_init 28 = .ok (.putfield 18, 3) := by decide +kernel
theorem d_C_init_31 : decode b_C_init 31 = .ok (.aload_n 0, 1) := by decide +kernel
theorem d_C_init_32 : decode b_C_init 32 = .ok (.sipush 21092, 3) := by decide +kernel
theorem d_C_init_35 : decode b_C_init 35 = .ok (.newarray .int, 2) := by decide +kernel
theorem d_C_init_37 : decode b_C_init 37 = .ok (.putfield 21, 3) := by decide +kernel
theorem d_C_init_40 : decode b_C_init 40 = .ok (.aload_n 0, 1) := by decide +kernel
theorem d_C_init_41 : decode b_C_init 41 = .ok (.sipush 21092, 3) := by decide +kernel
theorem d_C_init_44 : decode b_C_init 44 = .ok (.newarray .int, 2) := by decide +kernel
theorem d_C_init_46 : decode b_C_init 46 = .ok (.putfield 24, 3) := by decide +kernel
theorem d_C_init_49 : decode b_C_init 49 = .ok (.return_, 1) := by decide +kernel
set_option maxHeartbeats 4000000 in
set_option maxRecDepth 100000 in
theorem c_C_init (l : Launch) (D : va_G) (cI cJ cB cZ : ClassId) (aC : Nat) : Cv l D (tyl cI cJ cB cZ) y_C_init b_C_init 1 ({ frames := 1, cells := 5, slots := 105460, locals := 20 } : Room) [.ref aC] [(aC, .inr (1, [.null, .null, .null, .null, .null]))] (fun u => ∃ (c0 : Nat) (c1 : Nat) (c2 : Nat) (c3 : Nat) (c4 : Nat), u = [(aC, .inr (1, [.ref c0, .ref c1, .ref c2, .ref c3, .ref c4])), (c0, .inl (cI, 21092, .inl (fun _ => 0))), (c1, .inl (cI, 21092, .inl (fun _ => 0))), (c2, .inl (cI, 21092, .inl (fun _ => 0))), (c3, .inl (cI, 21092, .inl (fun _ => 0))), (c4, .inl (cI, 21092, .inl (fun _ => 0)))]) := by
  refine met_v (own := "ProofReader$Code") (by decide) rfl (Nat.le_of_ble_eq_true rfl) ?_
  intro p e s m args below meth c A Q S hin hA ret ls hl hW
  have hl : lv_has ls 1 [(0, .ref aC)] := hl
  have hW : Wd D (tyl cI cJ cB cZ) A s s.heap s.heap [] [(aC, .inr (1, [.null, .null, .null, .null, .null]))] := hW
  have hin : meth.name = "<init>" := hin
  refine lv_aload_n S.1 S.2.1 d_C_init_0 rfl (lv_at hl 0 rfl) ?_
  refine g_objInit S km_C_3 hl.1 d_C_init_1 (by decide) (Nat.le_of_ble_eq_true rfl) ?_
  refine lv_aload_n S.1 S.2.1 d_C_init_4 rfl (lv_at hl 0 rfl) ?_
  refine lv_sipush (v := (nI 21092)) S.1 S.2.1 d_C_init_5 (by decide) ?_
  refine g_newa (atype := .int) (a0 := (21092, .inl (fun _ => 0))) S hW hA ka_int 0 rfl (fun _ => rfl) (nI_pos (by decide)) (nI_clamp (by decide)) (Nat.le_of_ble_eq_true rfl) (Nat.le_of_ble_eq_true rfl) (Nat.le_of_ble_eq_true rfl) d_C_init_8 (fun q_1 H hW => ?_)
  have hW : Wd D (tyl cI cJ cB cZ) A s s.heap H _ [(aC, .inr (1, [.null, .null, .null, .null, .null])), (q_1, .inl (cI, 21092, .inl (fun _ => 0)))] := hW
  refine g_putF (ws2 := [(aC, .inr (1, [.ref q_1, .null, .null, .null, .null])), (q_1, .inl (cI, 21092, .inl (fun _ => 0)))]) i_C ft_C ft_C_ok n_C S hW 0 rfl rfl 0 (by decide) kf_C_11 rfl hin rfl rfl rfl (Nat.le_of_ble_eq_true rfl) rfl d_C_init_10 (fun H locs hW => ?_)
  refine lv_aload_n S.1 S.2.1 d_C_init_13 rfl (lv_at hl 0 rfl) ?_
  refine lv_sipush (v := (nI 21092)) S.1 S.2.1 d_C_init_14 (by decide) ?_
  refine g_newa (atype := .int) (a0 := (21092, .inl (fun _ => 0))) S hW hA ka_int 0 rfl (fun _ => rfl) (nI_pos (by decide)) (nI_clamp (by decide)) (Nat.le_of_ble_eq_true rfl) (Nat.le_of_ble_eq_true rfl) (Nat.le_of_ble_eq_true rfl) d_C_init_17 (fun q_2 H hW => ?_)
  have hW : Wd D (tyl cI cJ cB cZ) A s s.heap H _ [(aC, .inr (1, [.ref q_1, .null, .null, .null, .null])), (q_1, .inl (cI, 21092, .inl (fun _ => 0))), (q_2, .inl (cI, 21092, .inl (fun _ => 0)))] := hW
  refine g_putF (ws2 := [(aC, .inr (1, [.ref q_1, .ref q_2, .null, .null, .null])), (q_1, .inl (cI, 21092, .inl (fun _ => 0))), (q_2, .inl (cI, 21092, .inl (fun _ => 0)))]) i_C ft_C ft_C_ok n_C S hW 0 rfl rfl 1 (by decide) kf_C_15 rfl hin rfl rfl rfl (Nat.le_of_ble_eq_true rfl) rfl d_C_init_19 (fun H locs hW => ?_)
  refine lv_aload_n S.1 S.2.1 d_C_init_22 rfl (lv_at hl 0 rfl) ?_
  refine lv_sipush (v := (nI 21092)) S.1 S.2.1 d_C_init_23 (by decide) ?_
  refine g_newa (atype := .int) (a0 := (21092, .inl (fun _ => 0))) S hW hA ka_int 0 rfl (fun _ => rfl) (nI_pos (by decide)) (nI_clamp (by decide)) (Nat.le_of_ble_eq_true rfl) (Nat.le_of_ble_eq_true rfl) (Nat.le_of_ble_eq_true rfl) d_C_init_26 (fun q_3 H hW => ?_)
  have hW : Wd D (tyl cI cJ cB cZ) A s s.heap H _ [(aC, .inr (1, [.ref q_1, .ref q_2, .null, .null, .null])), (q_1, .inl (cI, 21092, .inl (fun _ => 0))), (q_2, .inl (cI, 21092, .inl (fun _ => 0))), (q_3, .inl (cI, 21092, .inl (fun _ => 0)))] := hW
  refine g_putF (ws2 := [(aC, .inr (1, [.ref q_1, .ref q_2, .ref q_3, .null, .null])), (q_1, .inl (cI, 21092, .inl (fun _ => 0))), (q_2, .inl (cI, 21092, .inl (fun _ => 0))), (q_3, .inl (cI, 21092, .inl (fun _ => 0)))]) i_C ft_C ft_C_ok n_C S hW 0 rfl rfl 2 (by decide) kf_C_18 rfl hin rfl rfl rfl (Nat.le_of_ble_eq_true rfl) rfl d_C_init_28 (fun H locs hW => ?_)
  refine lv_aload_n S.1 S.2.1 d_C_init_31 rfl (lv_at hl 0 rfl) ?_
  refine lv_sipush (v := (nI 21092)) S.1 S.2.1 d_C_init_32 (by decide) ?_
  refine g_newa (atype := .int) (a0 := (21092, .inl (fun _ => 0))) S hW hA ka_int 0 rfl (fun _ => rfl) (nI_pos (by decide)) (nI_clamp (by decide)) (Nat.le_of_ble_eq_true rfl) (Nat.le_of_ble_eq_true rfl) (Nat.le_of_ble_eq_true rfl) d_C_init_35 (fun q_4 H hW => ?_)
  have hW : Wd D (tyl cI cJ cB cZ) A s s.heap H _ [(aC, .inr (1, [.ref q_1, .ref q_2, .ref q_3, .null, .null])), (q_1, .inl (cI, 21092, .inl (fun _ => 0))), (q_2, .inl (cI, 21092, .inl (fun _ => 0))), (q_3, .inl (cI, 21092, .inl (fun _ => 0))), (q_4, .inl (cI, 21092, .inl (fun _ => 0)))] := hW
  refine g_putF (ws2 := [(aC, .inr (1, [.ref q_1, .ref q_2, .ref q_3, .ref q_4, .null])), (q_1, .inl (cI, 21092, .inl (fun _ => 0))), (q_2, .inl (cI, 21092, .inl (fun _ => 0))), (q_3, .inl (cI, 21092, .inl (fun _ => 0))), (q_4, .inl (cI, 21092, .inl (fun _ => 0)))]) i_C ft_C ft_C_ok n_C S hW 0 rfl rfl 3 (by decide) kf_C_21 rfl hin rfl rfl rfl (Nat.le_of_ble_eq_true rfl) rfl d_C_init_37 (fun H locs hW => ?_)
  refine lv_aload_n S.1 S.2.1 d_C_init_40 rfl (lv_at hl 0 rfl) ?_
  refine lv_sipush (v := (nI 21092)) S.1 S.2.1 d_C_init_41 (by decide) ?_
  refine g_newa (atype := .int) (a0 := (21092, .inl (fun _ => 0))) S hW hA ka_int 0 rfl (fun _ => rfl) (nI_pos (by decide)) (nI_clamp (by decide)) (Nat.le_of_ble_eq_true rfl) (Nat.le_of_ble_eq_true rfl) (Nat.le_of_ble_eq_true rfl) d_C_init_44 (fun q_5 H hW => ?_)
  have hW : Wd D (tyl cI cJ cB cZ) A s s.heap H _ [(aC, .inr (1, [.ref q_1, .ref q_2, .ref q_3, .ref q_4, .null])), (q_1, .inl (cI, 21092, .inl (fun _ => 0))), (q_2, .inl (cI, 21092, .inl (fun _ => 0))), (q_3, .inl (cI, 21092, .inl (fun _ => 0))), (q_4, .inl (cI, 21092, .inl (fun _ => 0))), (q_5, .inl (cI, 21092, .inl (fun _ => 0)))] := hW
  refine g_putF (ws2 := [(aC, .inr (1, [.ref q_1, .ref q_2, .ref q_3, .ref q_4, .ref q_5])), (q_1, .inl (cI, 21092, .inl (fun _ => 0))), (q_2, .inl (cI, 21092, .inl (fun _ => 0))), (q_3, .inl (cI, 21092, .inl (fun _ => 0))), (q_4, .inl (cI, 21092, .inl (fun _ => 0))), (q_5, .inl (cI, 21092, .inl (fun _ => 0)))]) i_C ft_C ft_C_ok n_C S hW 0 rfl rfl 4 (by decide) kf_C_24 rfl hin rfl rfl rfl (Nat.le_of_ble_eq_true rfl) rfl d_C_init_46 (fun H locs hW => ?_)
  exact ret _ _ _ _ _ d_C_init_49 ⟨_, _, _, _, _, rfl⟩ hW
theorem d_P_init_0 : decode b_P_init 0 = .ok (.aload_n 0, 1) := by decide +kernel
theorem d_P_init_1 : decode b_P_init 1 = .ok (.invokespecial 3, 3) := by decide +kernel
theorem d_P_init_4 : decode b_P_init 4 = .ok (.aload_n 0, 1) := by decide +kernel
theorem d_P_init_5 : decode b_P_init 5 = .ok (.sipush 4096, 3) := by decide +kernel
theorem d_P_init_8 : decode b_P_init 8 = .ok (.newarray .byte, 2) := by decide +kernel
theorem d_P_init_10 : decode b_P_init 10 = .ok (.putfield 9, 3) := by decide +kernel
theorem d_P_init_13 : decode b_P_init 13 = .ok (.aload_n 0, 1) := by decide +kernel
theorem d_P_init_14 : decode b_P_init 14 = .ok (.iconst 0, 1) := by decide +kernel
theorem d_P_init_15 : decode b_P_init 15 = .ok (.putfield 15, 3) := by decide +kernel
theorem d_P_init_18 : decode b_P_init 18 = .ok (.aload_n 0, 1) := by decide +kernel
theorem d_P_init_19 : decode b_P_init 19 = .ok (.iconst 0, 1) := by decide +kernel
theorem d_P_init_20 : decode b_P_init 20 = .ok (.putfield 19, 3) := by decide +kernel
theorem d_P_init_23 : decode b_P_init 23 = .ok (.return_, 1) := by decide +kernel
set_option maxHeartbeats 4000000 in
set_option maxRecDepth 100000 in
theorem c_P_init (l : Launch) (D : va_G) (cI cJ cB cZ : ClassId) (aP : Nat) : Cv l D (tyl cI cJ cB cZ) y_P_init b_P_init 1 ({ frames := 1, cells := 1, slots := 4096, locals := 20 } : Room) [.ref aP] [(aP, .inr (2, [.null, .int 0, .int 0]))] (fun u => ∃ (p0 : Nat), u = [(aP, .inr (2, [.ref p0, .int (nI 0), .int (nI 0)])), (p0, .inl (cB, 4096, .inl (fun _ => 0)))]) := by
  refine met_v (own := "ProofReader$Paper") (by decide) rfl (Nat.le_of_ble_eq_true rfl) ?_
  intro p e s m args below meth c A Q S hin hA ret ls hl hW
  have hl : lv_has ls 1 [(0, .ref aP)] := hl
  have hW : Wd D (tyl cI cJ cB cZ) A s s.heap s.heap [] [(aP, .inr (2, [.null, .int 0, .int 0]))] := hW
  have hin : meth.name = "<init>" := hin
  refine lv_aload_n S.1 S.2.1 d_P_init_0 rfl (lv_at hl 0 rfl) ?_
  refine g_objInit S km_P_3 hl.1 d_P_init_1 (by decide) (Nat.le_of_ble_eq_true rfl) ?_
  refine lv_aload_n S.1 S.2.1 d_P_init_4 rfl (lv_at hl 0 rfl) ?_
  refine lv_sipush (v := (nI 4096)) S.1 S.2.1 d_P_init_5 (by decide) ?_
  refine g_newa (atype := .byte) (a0 := (4096, .inl (fun _ => 0))) S hW hA ka_byte 2 rfl (fun _ => rfl) (nI_pos (by decide)) (nI_clamp (by decide)) (Nat.le_of_ble_eq_true rfl) (Nat.le_of_ble_eq_true rfl) (Nat.le_of_ble_eq_true rfl) d_P_init_8 (fun q_1 H hW => ?_)
  have hW : Wd D (tyl cI cJ cB cZ) A s s.heap H _ [(aP, .inr (2, [.null, .int 0, .int 0])), (q_1, .inl (cB, 4096, .inl (fun _ => 0)))] := hW
  refine g_putF (ws2 := [(aP, .inr (2, [.ref q_1, .int 0, .int 0])), (q_1, .inl (cB, 4096, .inl (fun _ => 0)))]) i_P ft_P ft_P_ok n_P S hW 0 rfl rfl 0 (by decide) kf_P_9 rfl hin rfl rfl rfl (Nat.le_of_ble_eq_true rfl) rfl d_P_init_10 (fun H locs hW => ?_)
  refine lv_aload_n S.1 S.2.1 d_P_init_13 rfl (lv_at hl 0 rfl) ?_
  refine lv_iconst (v := (nI 0)) S.1 S.2.1 d_P_init_14 (by decide) ?_
  refine g_put (ws2 := [(aP, .inr (2, [.ref q_1, .int (nI 0), .int 0])), (q_1, .inl (cB, 4096, .inl (fun _ => 0)))]) i_P ft_P ft_P_ok n_P S hW 0 rfl rfl 1 (by decide) kf_P_15 rfl rfl rfl (Nat.le_of_ble_eq_true rfl) rfl d_P_init_15 (fun H locs hW => ?_)
  refine lv_aload_n S.1 S.2.1 d_P_init_18 rfl (lv_at hl 0 rfl) ?_
  refine lv_iconst (v := (nI 0)) S.1 S.2.1 d_P_init_19 (by decide) ?_
  refine g_put (ws2 := [(aP, .inr (2, [.ref q_1, .int (nI 0), .int (nI 0)])), (q_1, .inl (cB, 4096, .inl (fun _ => 0)))]) i_P ft_P ft_P_ok n_P S hW 0 rfl rfl 2 (by decide) kf_P_19 rfl rfl rfl (Nat.le_of_ble_eq_true rfl) rfl d_P_init_20 (fun H locs hW => ?_)
  exact ret _ _ _ _ _ d_P_init_23 ⟨_, rfl⟩ hW
theorem d_T_init_0 : decode b_T_init 0 = .ok (.aload_n 0, 1) := by decide +kernel
theorem d_T_init_1 : decode b_T_init 1 = .ok (.invokespecial 3, 3) := by decide +kernel
theorem d_T_init_4 : decode b_T_init 4 = .ok (.aload_n 0, 1) := by decide +kernel
theorem d_T_init_5 : decode b_T_init 5 = .ok (.sipush 8192, 3) := by decide +kernel
theorem d_T_init_8 : decode b_T_init 8 = .ok (.newarray .byte, 2) := by decide +kernel
theorem d_T_init_10 : decode b_T_init 10 = .ok (.putfield 9, 3) := by decide +kernel
theorem d_T_init_13 : decode b_T_init 13 = .ok (.aload_n 0, 1) := by decide +kernel
theorem d_T_init_14 : decode b_T_init 14 = .ok (.iconst 0, 1) := by decide +kernel
theorem d_T_init_15 : decode b_T_init 15 = .ok (.putfield 15, 3) := by decide +kernel
theorem d_T_init_18 : decode b_T_init 18 = .ok (.aload_n 0, 1) := by decide +kernel
theorem d_T_init_19 : decode b_T_init 19 = .ok (.iconst 0, 1) := by decide +kernel
theorem d_T_init_20 : decode b_T_init 20 = .ok (.putfield 19, 3) := by decide +kernel
theorem d_T_init_23 : decode b_T_init 23 = .ok (.aload_n 0, 1) := by decide +kernel
theorem d_T_init_24 : decode b_T_init 24 = .ok (.iconst 0, 1) := by decide +kernel
theorem d_T_init_25 : decode b_T_init 25 = .ok (.putfield 22, 3) := by decide +kernel
theorem d_T_init_28 : decode b_T_init 28 = .ok (.aload_n 0, 1) := by decide +kernel
theorem d_T_init_29 : decode b_T_init 29 = .ok (.iconst 0, 1) := by decide +kernel
theorem d_T_init_30 : decode b_T_init 30 = .ok (.putfield 25, 3) := by decide +kernel
theorem d_T_init_33 : decode b_T_init 33 = .ok (.aload_n 0, 1) := by decide +kernel
theorem d_T_init_34 : decode b_T_init 34 = .ok (.lconst 0, 1) := by decide +kernel
theorem d_T_init_35 : decode b_T_init 35 = .ok (.putfield 28, 3) := by decide +kernel
theorem d_T_init_38 : decode b_T_init 38 = .ok (.aload_n 0, 1) := by decide +kernel
theorem d_T_init_39 : decode b_T_init 39 = .ok (.lconst 0, 1) := by decide +kernel
theorem d_T_init_40 : decode b_T_init 40 = .ok (.putfield 32, 3) := by decide +kernel
theorem d_T_init_43 : decode b_T_init 43 = .ok (.aload_n 0, 1) := by decide +kernel
theorem d_T_init_44 : decode b_T_init 44 = .ok (.aload_n 1, 1) := by decide +kernel
theorem d_T_init_45 : decode b_T_init 45 = .ok (.putfield 35, 3) := by decide +kernel
theorem d_T_init_48 : decode b_T_init 48 = .ok (.return_, 1) := by decide +kernel
set_option maxHeartbeats 4000000 in
set_option maxRecDepth 100000 in
theorem c_T_init (l : Launch) (D : va_G) (cI cJ cB cZ : ClassId) (aT aF : Nat) : Cv l D (tyl cI cJ cB cZ) y_T_init b_T_init 2 ({ frames := 1, cells := 1, slots := 8192, locals := 20 } : Room) [.ref aT, .ref aF] [(aT, .inr (3, [.null, .null, .int 0, .int 0, .int 0, .int 0, .long 0, .long 0]))] (fun u => ∃ (t0 : Nat), u = [(aT, .inr (3, [.ref aF, .ref t0, .int (nI 0), .int (nI 0), .int (nI 0), .int (nI 0), .long 0, .long 0])), (t0, .inl (cB, 8192, .inl (fun _ => 0)))]) := by
  refine met_v (own := "ProofReader$Tokens") (by decide) rfl (Nat.le_of_ble_eq_true rfl) ?_
  intro p e s m args below meth c A Q S hin hA ret ls hl hW
  have hl : lv_has ls 2 [(0, .ref aT), (1, .ref aF)] := hl
  have hW : Wd D (tyl cI cJ cB cZ) A s s.heap s.heap [] [(aT, .inr (3, [.null, .null, .int 0, .int 0, .int 0, .int 0, .long 0, .long 0]))] := hW
  have hin : meth.name = "<init>" := hin
  refine lv_aload_n S.1 S.2.1 d_T_init_0 rfl (lv_at hl 0 rfl) ?_
  refine g_objInit S km_T_3 hl.1 d_T_init_1 (by decide) (Nat.le_of_ble_eq_true rfl) ?_
  refine lv_aload_n S.1 S.2.1 d_T_init_4 rfl (lv_at hl 0 rfl) ?_
  refine lv_sipush (v := (nI 8192)) S.1 S.2.1 d_T_init_5 (by decide) ?_
  refine g_newa (atype := .byte) (a0 := (8192, .inl (fun _ => 0))) S hW hA ka_byte 2 rfl (fun _ => rfl) (nI_pos (by decide)) (nI_clamp (by decide)) (Nat.le_of_ble_eq_true rfl) (Nat.le_of_ble_eq_true rfl) (Nat.le_of_ble_eq_true rfl) d_T_init_8 (fun q_1 H hW => ?_)
  have hW : Wd D (tyl cI cJ cB cZ) A s s.heap H _ [(aT, .inr (3, [.null, .null, .int 0, .int 0, .int 0, .int 0, .long 0, .long 0])), (q_1, .inl (cB, 8192, .inl (fun _ => 0)))] := hW
  refine g_putF (ws2 := [(aT, .inr (3, [.null, .ref q_1, .int 0, .int 0, .int 0, .int 0, .long 0, .long 0])), (q_1, .inl (cB, 8192, .inl (fun _ => 0)))]) i_T ft_T ft_T_ok n_T S hW 0 rfl rfl 1 (by decide) kf_T_9 rfl hin rfl rfl rfl (Nat.le_of_ble_eq_true rfl) rfl d_T_init_10 (fun H locs hW => ?_)
  refine lv_aload_n S.1 S.2.1 d_T_init_13 rfl (lv_at hl 0 rfl) ?_
  refine lv_iconst (v := (nI 0)) S.1 S.2.1 d_T_init_14 (by decide) ?_
  refine g_put (ws2 := [(aT, .inr (3, [.null, .ref q_1, .int (nI 0), .int 0, .int 0, .int 0, .long 0, .long 0])), (q_1, .inl (cB, 8192, .inl (fun _ => 0)))]) i_T ft_T ft_T_ok n_T S hW 0 rfl rfl 2 (by decide) kf_T_15 rfl rfl rfl (Nat.le_of_ble_eq_true rfl) rfl d_T_init_15 (fun H locs hW => ?_)
  refine lv_aload_n S.1 S.2.1 d_T_init_18 rfl (lv_at hl 0 rfl) ?_
  refine lv_iconst (v := (nI 0)) S.1 S.2.1 d_T_init_19 (by decide) ?_
  refine g_put (ws2 := [(aT, .inr (3, [.null, .ref q_1, .int (nI 0), .int (nI 0), .int 0, .int 0, .long 0, .long 0])), (q_1, .inl (cB, 8192, .inl (fun _ => 0)))]) i_T ft_T ft_T_ok n_T S hW 0 rfl rfl 3 (by decide) kf_T_19 rfl rfl rfl (Nat.le_of_ble_eq_true rfl) rfl d_T_init_20 (fun H locs hW => ?_)
  refine lv_aload_n S.1 S.2.1 d_T_init_23 rfl (lv_at hl 0 rfl) ?_
  refine lv_iconst (v := (nI 0)) S.1 S.2.1 d_T_init_24 (by decide) ?_
  refine g_put (ws2 := [(aT, .inr (3, [.null, .ref q_1, .int (nI 0), .int (nI 0), .int (nI 0), .int 0, .long 0, .long 0])), (q_1, .inl (cB, 8192, .inl (fun _ => 0)))]) i_T ft_T ft_T_ok n_T S hW 0 rfl rfl 4 (by decide) kf_T_22 rfl rfl rfl (Nat.le_of_ble_eq_true rfl) rfl d_T_init_25 (fun H locs hW => ?_)
  refine lv_aload_n S.1 S.2.1 d_T_init_28 rfl (lv_at hl 0 rfl) ?_
  refine lv_iconst (v := (nI 0)) S.1 S.2.1 d_T_init_29 (by decide) ?_
  refine g_put (ws2 := [(aT, .inr (3, [.null, .ref q_1, .int (nI 0), .int (nI 0), .int (nI 0), .int (nI 0), .long 0, .long 0])), (q_1, .inl (cB, 8192, .inl (fun _ => 0)))]) i_T ft_T ft_T_ok n_T S hW 0 rfl rfl 5 (by decide) kf_T_25 rfl rfl rfl (Nat.le_of_ble_eq_true rfl) rfl d_T_init_30 (fun H locs hW => ?_)
  refine lv_aload_n S.1 S.2.1 d_T_init_33 rfl (lv_at hl 0 rfl) ?_
  refine lv_lconst (v := 0) S.1 S.2.1 d_T_init_34 rfl ?_
  refine g_put (ws2 := [(aT, .inr (3, [.null, .ref q_1, .int (nI 0), .int (nI 0), .int (nI 0), .int (nI 0), .long 0, .long 0])), (q_1, .inl (cB, 8192, .inl (fun _ => 0)))]) i_T ft_T ft_T_ok n_T S hW 0 rfl rfl 6 (by decide) kf_T_28 rfl rfl rfl (Nat.le_of_ble_eq_true rfl) rfl d_T_init_35 (fun H locs hW => ?_)
  refine lv_aload_n S.1 S.2.1 d_T_init_38 rfl (lv_at hl 0 rfl) ?_
  refine lv_lconst (v := 0) S.1 S.2.1 d_T_init_39 rfl ?_
  refine g_put (ws2 := [(aT, .inr (3, [.null, .ref q_1, .int (nI 0), .int (nI 0), .int (nI 0), .int (nI 0), .long 0, .long 0])), (q_1, .inl (cB, 8192, .inl (fun _ => 0)))]) i_T ft_T ft_T_ok n_T S hW 0 rfl rfl 7 (by decide) kf_T_32 rfl rfl rfl (Nat.le_of_ble_eq_true rfl) rfl d_T_init_40 (fun H locs hW => ?_)
  refine lv_aload_n S.1 S.2.1 d_T_init_43 rfl (lv_at hl 0 rfl) ?_
  refine lv_aload_n S.1 S.2.1 d_T_init_44 rfl (lv_at hl 1 rfl) ?_
  refine g_putF (ws2 := [(aT, .inr (3, [.ref aF, .ref q_1, .int (nI 0), .int (nI 0), .int (nI 0), .int (nI 0), .long 0, .long 0])), (q_1, .inl (cB, 8192, .inl (fun _ => 0)))]) i_T ft_T ft_T_ok n_T S hW 0 rfl rfl 0 (by decide) kf_T_35 rfl hin rfl rfl rfl (Nat.le_of_ble_eq_true rfl) rfl d_T_init_45 (fun H locs hW => ?_)
  exact ret _ _ _ _ _ d_T_init_48 ⟨_, rfl⟩ hW
theorem d_K_init_0 : decode b_K_init 0 = .ok (.aload_n 0, 1) := by decide +kernel
theorem d_K_init_1 : decode b_K_init 1 = .ok (.invokespecial 3, 3) := by decide +kernel
theorem d_K_init_4 : decode b_K_init 4 = .ok (.aload_n 0, 1) := by decide +kernel
theorem d_K_init_5 : decode b_K_init 5 = .ok (.bipush 48, 2) := by decide +kernel
theorem d_K_init_7 : decode b_K_init 7 = .ok (.newarray .long, 2) := by decide +kernel
theorem d_K_init_9 : decode b_K_init 9 = .ok (.putfield 9, 3) := by decide +kernel
theorem d_K_init_12 : decode b_K_init 12 = .ok (.aload_n 0, 1) := by decide +kernel
theorem d_K_init_13 : decode b_K_init 13 = .ok (.bipush 48, 2) := by decide +kernel
theorem d_K_init_15 : decode b_K_init 15 = .ok (.newarray .long, 2) := by decide +kernel
theorem d_K_init_17 : decode b_K_init 17 = .ok (.putfield 15, 3) := by decide +kernel
theorem d_K_init_20 : decode b_K_init 20 = .ok (.aload_n 0, 1) := by decide +kernel
theorem d_K_init_21 : decode b_K_init 21 = .ok (.bipush 48, 2) := by decide +kernel
theorem d_K_init_23 : decode b_K_init 23 = .ok (.newarray .int, 2) := by decide +kernel
theorem d_K_init_25 : decode b_K_init 25 = .ok (.putfield 18, 3) := by decide +kernel
theorem d_K_init_28 : decode b_K_init 28 = .ok (.aload_n 0, 1) := by decide +kernel
theorem d_K_init_29 : decode b_K_init 29 = .ok (.bipush 48, 2) := by decide +kernel
theorem d_K_init_31 : decode b_K_init 31 = .ok (.newarray .int, 2) := by decide +kernel
theorem d_K_init_33 : decode b_K_init 33 = .ok (.putfield 22, 3) := by decide +kernel
theorem d_K_init_36 : decode b_K_init 36 = .ok (.aload_n 0, 1) := by decide +kernel
theorem d_K_init_37 : decode b_K_init 37 = .ok (.bipush 48, 2) := by decide +kernel
theorem d_K_init_39 : decode b_K_init 39 = .ok (.newarray .boolean, 2) := by decide +kernel
theorem d_K_init_41 : decode b_K_init 41 = .ok (.putfield 25, 3) := by decide +kernel
theorem d_K_init_44 : decode b_K_init 44 = .ok (.aload_n 0, 1) := by decide +kernel
theorem d_K_init_45 : decode b_K_init 45 = .ok (.iconst 0, 1) := by decide +kernel
theorem d_K_init_46 : decode b_K_init 46 = .ok (.putfield 29, 3) := by decide +kernel
theorem d_K_init_49 : decode b_K_init 49 = .ok (.aload_n 0, 1) := by decide +kernel
theorem d_K_init_50 : decode b_K_init 50 = .ok (.iconst 0, 1) := by decide +kernel
theorem d_K_init_51 : decode b_K_init 51 = .ok (.putfield 33, 3) := by decide +kernel
theorem d_K_init_54 : decode b_K_init 54 = .ok (.aload_n 0, 1) := by decide +kernel
theorem d_K_init_55 : decode b_K_init 55 = .ok (.aload_n 1, 1) := by decide +kernel
theorem d_K_init_56 : decode b_K_init 56 = .ok (.putfield 36, 3) := by decide +kernel
theorem d_K_init_59 : decode b_K_init 59 = .ok (.return_, 1) := by decide +kernel
set_option maxHeartbeats 4000000 in
set_option maxRecDepth 100000 in
theorem c_K_init (l : Launch) (D : va_G) (cI cJ cB cZ : ClassId) (aK aC : Nat) : Cv l D (tyl cI cJ cB cZ) y_K_init b_K_init 2 ({ frames := 1, cells := 5, slots := 240, locals := 20 } : Room) [.ref aK, .ref aC] [(aK, .inr (4, [.null, .null, .null, .null, .null, .null, .int 0, .int 0]))] (fun u => ∃ (k0 : Nat) (k1 : Nat) (k2 : Nat) (k3 : Nat) (k4 : Nat), u = [(aK, .inr (4, [.ref aC, .ref k0, .ref k1, .ref k2, .ref k3, .ref k4, .int (nI 0), .int (nI 0)])), (k0, .inl (cJ, 48, .inr (.inl (fun _ => 0)))), (k1, .inl (cJ, 48, .inr (.inl (fun _ => 0)))), (k2, .inl (cI, 48, .inl (fun _ => 0))), (k3, .inl (cI, 48, .inl (fun _ => 0))), (k4, .inl (cZ, 48, .inl (fun _ => 0)))]) := by
  refine met_v (own := "ProofReader$Constants") (by decide) rfl (Nat.le_of_ble_eq_true rfl) ?_
  intro p e s m args below meth c A Q S hin hA ret ls hl hW
  have hl : lv_has ls 2 [(0, .ref aK), (1, .ref aC)] := hl
  have hW : Wd D (tyl cI cJ cB cZ) A s s.heap s.heap [] [(aK, .inr (4, [.null, .null, .null, .null, .null, .null, .int 0, .int 0]))] := hW
  have hin : meth.name = "<init>" := hin
  refine lv_aload_n S.1 S.2.1 d_K_init_0 rfl (lv_at hl 0 rfl) ?_
  refine g_objInit S km_K_3 hl.1 d_K_init_1 (by decide) (Nat.le_of_ble_eq_true rfl) ?_
  refine lv_aload_n S.1 S.2.1 d_K_init_4 rfl (lv_at hl 0 rfl) ?_
  refine lv_bipush (v := (nI 48)) S.1 S.2.1 d_K_init_5 (by decide) ?_
  refine g_newa (atype := .long) (a0 := (48, .inr (.inl (fun _ => 0)))) S hW hA ka_long 1 rfl (fun _ => rfl) (nI_pos (by decide)) (nI_clamp (by decide)) (Nat.le_of_ble_eq_true rfl) (Nat.le_of_ble_eq_true rfl) (Nat.le_of_ble_eq_true rfl) d_K_init_7 (fun q_1 H hW => ?_)
  have hW : Wd D (tyl cI cJ cB cZ) A s s.heap H _ [(aK, .inr (4, [.null, .null, .null, .null, .null, .null, .int 0, .int 0])), (q_1, .inl (cJ, 48, .inr (.inl (fun _ => 0))))] := hW
  refine g_putF (ws2 := [(aK, .inr (4, [.null, .ref q_1, .null, .null, .null, .null, .int 0, .int 0])), (q_1, .inl (cJ, 48, .inr (.inl (fun _ => 0))))]) i_K ft_K ft_K_ok n_K S hW 0 rfl rfl 1 (by decide) kf_K_9 rfl hin rfl rfl rfl (Nat.le_of_ble_eq_true rfl) rfl d_K_init_9 (fun H locs hW => ?_)
  refine lv_aload_n S.1 S.2.1 d_K_init_12 rfl (lv_at hl 0 rfl) ?_
  refine lv_bipush (v := (nI 48)) S.1 S.2.1 d_K_init_13 (by decide) ?_
  refine g_newa (atype := .long) (a0 := (48, .inr (.inl (fun _ => 0)))) S hW hA ka_long 1 rfl (fun _ => rfl) (nI_pos (by decide)) (nI_clamp (by decide)) (Nat.le_of_ble_eq_true rfl) (Nat.le_of_ble_eq_true rfl) (Nat.le_of_ble_eq_true rfl) d_K_init_15 (fun q_2 H hW => ?_)
  have hW : Wd D (tyl cI cJ cB cZ) A s s.heap H _ [(aK, .inr (4, [.null, .ref q_1, .null, .null, .null, .null, .int 0, .int 0])), (q_1, .inl (cJ, 48, .inr (.inl (fun _ => 0)))), (q_2, .inl (cJ, 48, .inr (.inl (fun _ => 0))))] := hW
  refine g_putF (ws2 := [(aK, .inr (4, [.null, .ref q_1, .ref q_2, .null, .null, .null, .int 0, .int 0])), (q_1, .inl (cJ, 48, .inr (.inl (fun _ => 0)))), (q_2, .inl (cJ, 48, .inr (.inl (fun _ => 0))))]) i_K ft_K ft_K_ok n_K S hW 0 rfl rfl 2 (by decide) kf_K_15 rfl hin rfl rfl rfl (Nat.le_of_ble_eq_true rfl) rfl d_K_init_17 (fun H locs hW => ?_)
  refine lv_aload_n S.1 S.2.1 d_K_init_20 rfl (lv_at hl 0 rfl) ?_
  refine lv_bipush (v := (nI 48)) S.1 S.2.1 d_K_init_21 (by decide) ?_
  refine g_newa (atype := .int) (a0 := (48, .inl (fun _ => 0))) S hW hA ka_int 0 rfl (fun _ => rfl) (nI_pos (by decide)) (nI_clamp (by decide)) (Nat.le_of_ble_eq_true rfl) (Nat.le_of_ble_eq_true rfl) (Nat.le_of_ble_eq_true rfl) d_K_init_23 (fun q_3 H hW => ?_)
  have hW : Wd D (tyl cI cJ cB cZ) A s s.heap H _ [(aK, .inr (4, [.null, .ref q_1, .ref q_2, .null, .null, .null, .int 0, .int 0])), (q_1, .inl (cJ, 48, .inr (.inl (fun _ => 0)))), (q_2, .inl (cJ, 48, .inr (.inl (fun _ => 0)))), (q_3, .inl (cI, 48, .inl (fun _ => 0)))] := hW
  refine g_putF (ws2 := [(aK, .inr (4, [.null, .ref q_1, .ref q_2, .ref q_3, .null, .null, .int 0, .int 0])), (q_1, .inl (cJ, 48, .inr (.inl (fun _ => 0)))), (q_2, .inl (cJ, 48, .inr (.inl (fun _ => 0)))), (q_3, .inl (cI, 48, .inl (fun _ => 0)))]) i_K ft_K ft_K_ok n_K S hW 0 rfl rfl 3 (by decide) kf_K_18 rfl hin rfl rfl rfl (Nat.le_of_ble_eq_true rfl) rfl d_K_init_25 (fun H locs hW => ?_)
  refine lv_aload_n S.1 S.2.1 d_K_init_28 rfl (lv_at hl 0 rfl) ?_
  refine lv_bipush (v := (nI 48)) S.1 S.2.1 d_K_init_29 (by decide) ?_
  refine g_newa (atype := .int) (a0 := (48, .inl (fun _ => 0))) S hW hA ka_int 0 rfl (fun _ => rfl) (nI_pos (by decide)) (nI_clamp (by decide)) (Nat.le_of_ble_eq_true rfl) (Nat.le_of_ble_eq_true rfl) (Nat.le_of_ble_eq_true rfl) d_K_init_31 (fun q_4 H hW => ?_)
  have hW : Wd D (tyl cI cJ cB cZ) A s s.heap H _ [(aK, .inr (4, [.null, .ref q_1, .ref q_2, .ref q_3, .null, .null, .int 0, .int 0])), (q_1, .inl (cJ, 48, .inr (.inl (fun _ => 0)))), (q_2, .inl (cJ, 48, .inr (.inl (fun _ => 0)))), (q_3, .inl (cI, 48, .inl (fun _ => 0))), (q_4, .inl (cI, 48, .inl (fun _ => 0)))] := hW
  refine g_putF (ws2 := [(aK, .inr (4, [.null, .ref q_1, .ref q_2, .ref q_3, .ref q_4, .null, .int 0, .int 0])), (q_1, .inl (cJ, 48, .inr (.inl (fun _ => 0)))), (q_2, .inl (cJ, 48, .inr (.inl (fun _ => 0)))), (q_3, .inl (cI, 48, .inl (fun _ => 0))), (q_4, .inl (cI, 48, .inl (fun _ => 0)))]) i_K ft_K ft_K_ok n_K S hW 0 rfl rfl 4 (by decide) kf_K_22 rfl hin rfl rfl rfl (Nat.le_of_ble_eq_true rfl) rfl d_K_init_33 (fun H locs hW => ?_)
  refine lv_aload_n S.1 S.2.1 d_K_init_36 rfl (lv_at hl 0 rfl) ?_
  refine lv_bipush (v := (nI 48)) S.1 S.2.1 d_K_init_37 (by decide) ?_
  refine g_newa (atype := .boolean) (a0 := (48, .inl (fun _ => 0))) S hW hA ka_boolean 3 rfl (fun _ => rfl) (nI_pos (by decide)) (nI_clamp (by decide)) (Nat.le_of_ble_eq_true rfl) (Nat.le_of_ble_eq_true rfl) (Nat.le_of_ble_eq_true rfl) d_K_init_39 (fun q_5 H hW => ?_)
  have hW : Wd D (tyl cI cJ cB cZ) A s s.heap H _ [(aK, .inr (4, [.null, .ref q_1, .ref q_2, .ref q_3, .ref q_4, .null, .int 0, .int 0])), (q_1, .inl (cJ, 48, .inr (.inl (fun _ => 0)))), (q_2, .inl (cJ, 48, .inr (.inl (fun _ => 0)))), (q_3, .inl (cI, 48, .inl (fun _ => 0))), (q_4, .inl (cI, 48, .inl (fun _ => 0))), (q_5, .inl (cZ, 48, .inl (fun _ => 0)))] := hW
  refine g_putF (ws2 := [(aK, .inr (4, [.null, .ref q_1, .ref q_2, .ref q_3, .ref q_4, .ref q_5, .int 0, .int 0])), (q_1, .inl (cJ, 48, .inr (.inl (fun _ => 0)))), (q_2, .inl (cJ, 48, .inr (.inl (fun _ => 0)))), (q_3, .inl (cI, 48, .inl (fun _ => 0))), (q_4, .inl (cI, 48, .inl (fun _ => 0))), (q_5, .inl (cZ, 48, .inl (fun _ => 0)))]) i_K ft_K ft_K_ok n_K S hW 0 rfl rfl 5 (by decide) kf_K_25 rfl hin rfl rfl rfl (Nat.le_of_ble_eq_true rfl) rfl d_K_init_41 (fun H locs hW => ?_)
  refine lv_aload_n S.1 S.2.1 d_K_init_44 rfl (lv_at hl 0 rfl) ?_
  refine lv_iconst (v := (nI 0)) S.1 S.2.1 d_K_init_45 (by decide) ?_
  refine g_put (ws2 := [(aK, .inr (4, [.null, .ref q_1, .ref q_2, .ref q_3, .ref q_4, .ref q_5, .int (nI 0), .int 0])), (q_1, .inl (cJ, 48, .inr (.inl (fun _ => 0)))), (q_2, .inl (cJ, 48, .inr (.inl (fun _ => 0)))), (q_3, .inl (cI, 48, .inl (fun _ => 0))), (q_4, .inl (cI, 48, .inl (fun _ => 0))), (q_5, .inl (cZ, 48, .inl (fun _ => 0)))]) i_K ft_K ft_K_ok n_K S hW 0 rfl rfl 6 (by decide) kf_K_29 rfl rfl rfl (Nat.le_of_ble_eq_true rfl) rfl d_K_init_46 (fun H locs hW => ?_)
  refine lv_aload_n S.1 S.2.1 d_K_init_49 rfl (lv_at hl 0 rfl) ?_
  refine lv_iconst (v := (nI 0)) S.1 S.2.1 d_K_init_50 (by decide) ?_
  refine g_put (ws2 := [(aK, .inr (4, [.null, .ref q_1, .ref q_2, .ref q_3, .ref q_4, .ref q_5, .int (nI 0), .int (nI 0)])), (q_1, .inl (cJ, 48, .inr (.inl (fun _ => 0)))), (q_2, .inl (cJ, 48, .inr (.inl (fun _ => 0)))), (q_3, .inl (cI, 48, .inl (fun _ => 0))), (q_4, .inl (cI, 48, .inl (fun _ => 0))), (q_5, .inl (cZ, 48, .inl (fun _ => 0)))]) i_K ft_K ft_K_ok n_K S hW 0 rfl rfl 7 (by decide) kf_K_33 rfl rfl rfl (Nat.le_of_ble_eq_true rfl) rfl d_K_init_51 (fun H locs hW => ?_)
  refine lv_aload_n S.1 S.2.1 d_K_init_54 rfl (lv_at hl 0 rfl) ?_
  refine lv_aload_n S.1 S.2.1 d_K_init_55 rfl (lv_at hl 1 rfl) ?_
  refine g_putF (ws2 := [(aK, .inr (4, [.ref aC, .ref q_1, .ref q_2, .ref q_3, .ref q_4, .ref q_5, .int (nI 0), .int (nI 0)])), (q_1, .inl (cJ, 48, .inr (.inl (fun _ => 0)))), (q_2, .inl (cJ, 48, .inr (.inl (fun _ => 0)))), (q_3, .inl (cI, 48, .inl (fun _ => 0))), (q_4, .inl (cI, 48, .inl (fun _ => 0))), (q_5, .inl (cZ, 48, .inl (fun _ => 0)))]) i_K ft_K ft_K_ok n_K S hW 0 rfl rfl 0 (by decide) kf_K_36 rfl hin rfl rfl rfl (Nat.le_of_ble_eq_true rfl) rfl d_K_init_56 (fun H locs hW => ?_)
  exact ret _ _ _ _ _ d_K_init_59 ⟨_, _, _, _, _, rfl⟩ hW
theorem d_R_init_0 : decode b_R_init 0 = .ok (.aload_n 0, 1) := by decide +kernel
theorem d_R_init_1 : decode b_R_init 1 = .ok (.invokespecial 3, 3) := by decide +kernel
theorem d_R_init_4 : decode b_R_init 4 = .ok (.aload_n 0, 1) := by decide +kernel
theorem d_R_init_5 : decode b_R_init 5 = .ok (.bipush 40, 2) := by decide +kernel
theorem d_R_init_7 : decode b_R_init 7 = .ok (.newarray .long, 2) := by decide +kernel
theorem d_R_init_9 : decode b_R_init 9 = .ok (.putfield 9, 3) := by decide +kernel
theorem d_R_init_12 : decode b_R_init 12 = .ok (.aload_n 0, 1) := by decide +kernel
theorem d_R_init_13 : decode b_R_init 13 = .ok (.bipush 40, 2) := by decide +kernel
theorem d_R_init_15 : decode b_R_init 15 = .ok (.newarray .long, 2) := by decide +kernel
theorem d_R_init_17 : decode b_R_init 17 = .ok (.putfield 15, 3) := by decide +kernel
theorem d_R_init_20 : decode b_R_init 20 = .ok (.aload_n 0, 1) := by decide +kernel
theorem d_R_init_21 : decode b_R_init 21 = .ok (.iconst 0, 1) := by decide +kernel
theorem d_R_init_22 : decode b_R_init 22 = .ok (.putfield 18, 3) := by decide +kernel
theorem d_R_init_25 : decode b_R_init 25 = .ok (.aload_n 0, 1) := by decide +kernel
theorem d_R_init_26 : decode b_R_init 26 = .ok (.iconst 0, 1) := by decide +kernel
theorem d_R_init_27 : decode b_R_init 27 = .ok (.putfield 22, 3) := by decide +kernel
theorem d_R_init_30 : decode b_R_init 30 = .ok (.aload_n 0, 1) := by decide +kernel
theorem d_R_init_31 : decode b_R_init 31 = .ok (.iconst 0, 1) := by decide +kernel
theorem d_R_init_32 : decode b_R_init 32 = .ok (.putfield 25, 3) := by decide +kernel
theorem d_R_init_35 : decode b_R_init 35 = .ok (.aload_n 0, 1) := by decide +kernel
theorem d_R_init_36 : decode b_R_init 36 = .ok (.iconst 0, 1) := by decide +kernel
theorem d_R_init_37 : decode b_R_init 37 = .ok (.putfield 28, 3) := by decide +kernel
theorem d_R_init_40 : decode b_R_init 40 = .ok (.aload_n 0, 1) := by decide +kernel
theorem d_R_init_41 : decode b_R_init 41 = .ok (.iconst 0, 1) := by decide +kernel
theorem d_R_init_42 : decode b_R_init 42 = .ok (.putfield 31, 3) := by decide +kernel
theorem d_R_init_45 : decode b_R_init 45 = .ok (.aload_n 0, 1) := by decide +kernel
theorem d_R_init_46 : decode b_R_init 46 = .ok (.iconst 0, 1) := by decide +kernel
theorem d_R_init_47 : decode b_R_init 47 = .ok (.putfield 34, 3) := by decide +kernel
theorem d_R_init_50 : decode b_R_init 50 = .ok (.aload_n 0, 1) := by decide +kernel
theorem d_R_init_51 : decode b_R_init 51 = .ok (.iconst 0, 1) := by decide +kernel
theorem d_R_init_52 : decode b_R_init 52 = .ok (.putfield 38, 3) := by decide +kernel
theorem d_R_init_55 : decode b_R_init 55 = .ok (.aload_n 0, 1) := by decide +kernel
theorem d_R_init_56 : decode b_R_init 56 = .ok (.lconst 0, 1) := by decide +kernel
theorem d_R_init_57 : decode b_R_init 57 = .ok (.putfield 41, 3) := by decide +kernel
theorem d_R_init_60 : decode b_R_init 60 = .ok (.aload_n 0, 1) := by decide +kernel
theorem d_R_init_61 : decode b_R_init 61 = .ok (.lconst 0, 1) := by decide +kernel
theorem d_R_init_62 : decode b_R_init 62 = .ok (.putfield 45, 3) := by decide +kernel
theorem d_R_init_65 : decode b_R_init 65 = .ok (.aload_n 0, 1) := by decide +kernel
theorem d_R_init_66 : decode b_R_init 66 = .ok (.iconst 0, 1) := by decide +kernel
theorem d_R_init_67 : decode b_R_init 67 = .ok (.putfield 48, 3) := by decide +kernel
theorem d_R_init_70 : decode b_R_init 70 = .ok (.aload_n 0, 1) := by decide +kernel
theorem d_R_init_71 : decode b_R_init 71 = .ok (.iconst 0, 1) := by decide +kernel
theorem d_R_init_72 : decode b_R_init 72 = .ok (.putfield 51, 3) := by decide +kernel
theorem d_R_init_75 : decode b_R_init 75 = .ok (.aload_n 0, 1) := by decide +kernel
theorem d_R_init_76 : decode b_R_init 76 = .ok (.aload_n 1, 1) := by decide +kernel
theorem d_R_init_77 : decode b_R_init 77 = .ok (.putfield 54, 3) := by decide +kernel
theorem d_R_init_80 : decode b_R_init 80 = .ok (.aload_n 0, 1) := by decide +kernel
theorem d_R_init_81 : decode b_R_init 81 = .ok (.aload_n 2, 1) := by decide +kernel
theorem d_R_init_82 : decode b_R_init 82 = .ok (.putfield 58, 3) := by decide +kernel
theorem d_R_init_85 : decode b_R_init 85 = .ok (.aload_n 0, 1) := by decide +kernel
theorem d_R_init_86 : decode b_R_init 86 = .ok (.aload_n 3, 1) := by decide +kernel
theorem d_R_init_87 : decode b_R_init 87 = .ok (.putfield 62, 3) := by decide +kernel
theorem d_R_init_90 : decode b_R_init 90 = .ok (.aload_n 0, 1) := by decide +kernel
theorem d_R_init_91 : decode b_R_init 91 = .ok (.aload 4, 2) := by decide +kernel
theorem d_R_init_93 : decode b_R_init 93 = .ok (.putfield 66, 3) := by decide +kernel
theorem d_R_init_96 : decode b_R_init 96 = .ok (.return_, 1) := by decide +kernel
set_option maxHeartbeats 4000000 in
set_option maxRecDepth 100000 in
theorem c_R_init (l : Launch) (D : va_G) (cI cJ cB cZ : ClassId) (aR aT aC aK aF : Nat) : Cv l D (tyl cI cJ cB cZ) y_R_init b_R_init 5 ({ frames := 1, cells := 2, slots := 80, locals := 20 } : Room) [.ref aR, .ref aT, .ref aC, .ref aK, .ref aF] [(aR, .inr (5, [.null, .null, .null, .null, .null, .null, .int 0, .int 0, .int 0, .int 0, .int 0, .int 0, .int 0, .long 0, .long 0, .int 0, .int 0]))] (fun u => ∃ (r0 : Nat) (r1 : Nat), u = [(aR, .inr (5, [.ref aT, .ref aC, .ref aK, .ref aF, .ref r0, .ref r1, .int (nI 0), .int (nI 0), .int (nI 0), .int (nI 0), .int (nI 0), .int (nI 0), .int (nI 0), .long 0, .long 0, .int (nI 0), .int (nI 0)])), (r0, .inl (cJ, 40, .inr (.inl (fun _ => 0)))), (r1, .inl (cJ, 40, .inr (.inl (fun _ => 0))))]) := by
  refine met_v (own := "ProofReader$Parser") (by decide) rfl (Nat.le_of_ble_eq_true rfl) ?_
  intro p e s m args below meth c A Q S hin hA ret ls hl hW
  have hl : lv_has ls 5 [(0, .ref aR), (1, .ref aT), (2, .ref aC), (3, .ref aK), (4, .ref aF)] := hl
  have hW : Wd D (tyl cI cJ cB cZ) A s s.heap s.heap [] [(aR, .inr (5, [.null, .null, .null, .null, .null, .null, .int 0, .int 0, .int 0, .int 0, .int 0, .int 0, .int 0, .long 0, .long 0, .int 0, .int 0]))] := hW
  have hin : meth.name = "<init>" := hin
  refine lv_aload_n S.1 S.2.1 d_R_init_0 rfl (lv_at hl 0 rfl) ?_
  refine g_objInit S km_R_3 hl.1 d_R_init_1 (by decide) (Nat.le_of_ble_eq_true rfl) ?_
  refine lv_aload_n S.1 S.2.1 d_R_init_4 rfl (lv_at hl 0 rfl) ?_
  refine lv_bipush (v := (nI 40)) S.1 S.2.1 d_R_init_5 (by decide) ?_
  refine g_newa (atype := .long) (a0 := (40, .inr (.inl (fun _ => 0)))) S hW hA ka_long 1 rfl (fun _ => rfl) (nI_pos (by decide)) (nI_clamp (by decide)) (Nat.le_of_ble_eq_true rfl) (Nat.le_of_ble_eq_true rfl) (Nat.le_of_ble_eq_true rfl) d_R_init_7 (fun q_1 H hW => ?_)
  have hW : Wd D (tyl cI cJ cB cZ) A s s.heap H _ [(aR, .inr (5, [.null, .null, .null, .null, .null, .null, .int 0, .int 0, .int 0, .int 0, .int 0, .int 0, .int 0, .long 0, .long 0, .int 0, .int 0])), (q_1, .inl (cJ, 40, .inr (.inl (fun _ => 0))))] := hW
  refine g_putF (ws2 := [(aR, .inr (5, [.null, .null, .null, .null, .ref q_1, .null, .int 0, .int 0, .int 0, .int 0, .int 0, .int 0, .int 0, .long 0, .long 0, .int 0, .int 0])), (q_1, .inl (cJ, 40, .inr (.inl (fun _ => 0))))]) i_R ft_R ft_R_ok n_R S hW 0 rfl rfl 4 (by decide) kf_R_9 rfl hin rfl rfl rfl (Nat.le_of_ble_eq_true rfl) rfl d_R_init_9 (fun H locs hW => ?_)
  refine lv_aload_n S.1 S.2.1 d_R_init_12 rfl (lv_at hl 0 rfl) ?_
  refine lv_bipush (v := (nI 40)) S.1 S.2.1 d_R_init_13 (by decide) ?_
  refine g_newa (atype := .long) (a0 := (40, .inr (.inl (fun _ => 0)))) S hW hA ka_long 1 rfl (fun _ => rfl) (nI_pos (by decide)) (nI_clamp (by decide)) (Nat.le_of_ble_eq_true rfl) (Nat.le_of_ble_eq_true rfl) (Nat.le_of_ble_eq_true rfl) d_R_init_15 (fun q_2 H hW => ?_)
  have hW : Wd D (tyl cI cJ cB cZ) A s s.heap H _ [(aR, .inr (5, [.null, .null, .null, .null, .ref q_1, .null, .int 0, .int 0, .int 0, .int 0, .int 0, .int 0, .int 0, .long 0, .long 0, .int 0, .int 0])), (q_1, .inl (cJ, 40, .inr (.inl (fun _ => 0)))), (q_2, .inl (cJ, 40, .inr (.inl (fun _ => 0))))] := hW
  refine g_putF (ws2 := [(aR, .inr (5, [.null, .null, .null, .null, .ref q_1, .ref q_2, .int 0, .int 0, .int 0, .int 0, .int 0, .int 0, .int 0, .long 0, .long 0, .int 0, .int 0])), (q_1, .inl (cJ, 40, .inr (.inl (fun _ => 0)))), (q_2, .inl (cJ, 40, .inr (.inl (fun _ => 0))))]) i_R ft_R ft_R_ok n_R S hW 0 rfl rfl 5 (by decide) kf_R_15 rfl hin rfl rfl rfl (Nat.le_of_ble_eq_true rfl) rfl d_R_init_17 (fun H locs hW => ?_)
  refine lv_aload_n S.1 S.2.1 d_R_init_20 rfl (lv_at hl 0 rfl) ?_
  refine lv_iconst (v := (nI 0)) S.1 S.2.1 d_R_init_21 (by decide) ?_
  refine g_put (ws2 := [(aR, .inr (5, [.null, .null, .null, .null, .ref q_1, .ref q_2, .int (nI 0), .int 0, .int 0, .int 0, .int 0, .int 0, .int 0, .long 0, .long 0, .int 0, .int 0])), (q_1, .inl (cJ, 40, .inr (.inl (fun _ => 0)))), (q_2, .inl (cJ, 40, .inr (.inl (fun _ => 0))))]) i_R ft_R ft_R_ok n_R S hW 0 rfl rfl 6 (by decide) kf_R_18 rfl rfl rfl (Nat.le_of_ble_eq_true rfl) rfl d_R_init_22 (fun H locs hW => ?_)
  refine lv_aload_n S.1 S.2.1 d_R_init_25 rfl (lv_at hl 0 rfl) ?_
  refine lv_iconst (v := (nI 0)) S.1 S.2.1 d_R_init_26 (by decide) ?_
  refine g_put (ws2 := [(aR, .inr (5, [.null, .null, .null, .null, .ref q_1, .ref q_2, .int (nI 0), .int (nI 0), .int 0, .int 0, .int 0, .int 0, .int 0, .long 0, .long 0, .int 0, .int 0])), (q_1, .inl (cJ, 40, .inr (.inl (fun _ => 0)))), (q_2, .inl (cJ, 40, .inr (.inl (fun _ => 0))))]) i_R ft_R ft_R_ok n_R S hW 0 rfl rfl 7 (by decide) kf_R_22 rfl rfl rfl (Nat.le_of_ble_eq_true rfl) rfl d_R_init_27 (fun H locs hW => ?_)
  refine lv_aload_n S.1 S.2.1 d_R_init_30 rfl (lv_at hl 0 rfl) ?_
  refine lv_iconst (v := (nI 0)) S.1 S.2.1 d_R_init_31 (by decide) ?_
  refine g_put (ws2 := [(aR, .inr (5, [.null, .null, .null, .null, .ref q_1, .ref q_2, .int (nI 0), .int (nI 0), .int (nI 0), .int 0, .int 0, .int 0, .int 0, .long 0, .long 0, .int 0, .int 0])), (q_1, .inl (cJ, 40, .inr (.inl (fun _ => 0)))), (q_2, .inl (cJ, 40, .inr (.inl (fun _ => 0))))]) i_R ft_R ft_R_ok n_R S hW 0 rfl rfl 8 (by decide) kf_R_25 rfl rfl rfl (Nat.le_of_ble_eq_true rfl) rfl d_R_init_32 (fun H locs hW => ?_)
  refine lv_aload_n S.1 S.2.1 d_R_init_35 rfl (lv_at hl 0 rfl) ?_
  refine lv_iconst (v := (nI 0)) S.1 S.2.1 d_R_init_36 (by decide) ?_
  refine g_put (ws2 := [(aR, .inr (5, [.null, .null, .null, .null, .ref q_1, .ref q_2, .int (nI 0), .int (nI 0), .int (nI 0), .int (nI 0), .int 0, .int 0, .int 0, .long 0, .long 0, .int 0, .int 0])), (q_1, .inl (cJ, 40, .inr (.inl (fun _ => 0)))), (q_2, .inl (cJ, 40, .inr (.inl (fun _ => 0))))]) i_R ft_R ft_R_ok n_R S hW 0 rfl rfl 9 (by decide) kf_R_28 rfl rfl rfl (Nat.le_of_ble_eq_true rfl) rfl d_R_init_37 (fun H locs hW => ?_)
  refine lv_aload_n S.1 S.2.1 d_R_init_40 rfl (lv_at hl 0 rfl) ?_
  refine lv_iconst (v := (nI 0)) S.1 S.2.1 d_R_init_41 (by decide) ?_
  refine g_put (ws2 := [(aR, .inr (5, [.null, .null, .null, .null, .ref q_1, .ref q_2, .int (nI 0), .int (nI 0), .int (nI 0), .int (nI 0), .int (nI 0), .int 0, .int 0, .long 0, .long 0, .int 0, .int 0])), (q_1, .inl (cJ, 40, .inr (.inl (fun _ => 0)))), (q_2, .inl (cJ, 40, .inr (.inl (fun _ => 0))))]) i_R ft_R ft_R_ok n_R S hW 0 rfl rfl 10 (by decide) kf_R_31 rfl rfl rfl (Nat.le_of_ble_eq_true rfl) rfl d_R_init_42 (fun H locs hW => ?_)
  refine lv_aload_n S.1 S.2.1 d_R_init_45 rfl (lv_at hl 0 rfl) ?_
  refine lv_iconst (v := (nI 0)) S.1 S.2.1 d_R_init_46 (by decide) ?_
  refine g_put (ws2 := [(aR, .inr (5, [.null, .null, .null, .null, .ref q_1, .ref q_2, .int (nI 0), .int (nI 0), .int (nI 0), .int (nI 0), .int (nI 0), .int (nI 0), .int 0, .long 0, .long 0, .int 0, .int 0])), (q_1, .inl (cJ, 40, .inr (.inl (fun _ => 0)))), (q_2, .inl (cJ, 40, .inr (.inl (fun _ => 0))))]) i_R ft_R ft_R_ok n_R S hW 0 rfl rfl 11 (by decide) kf_R_34 rfl rfl rfl (Nat.le_of_ble_eq_true rfl) rfl d_R_init_47 (fun H locs hW => ?_)
  refine lv_aload_n S.1 S.2.1 d_R_init_50 rfl (lv_at hl 0 rfl) ?_
  refine lv_iconst (v := (nI 0)) S.1 S.2.1 d_R_init_51 (by decide) ?_
  refine g_put (ws2 := [(aR, .inr (5, [.null, .null, .null, .null, .ref q_1, .ref q_2, .int (nI 0), .int (nI 0), .int (nI 0), .int (nI 0), .int (nI 0), .int (nI 0), .int (nI 0), .long 0, .long 0, .int 0, .int 0])), (q_1, .inl (cJ, 40, .inr (.inl (fun _ => 0)))), (q_2, .inl (cJ, 40, .inr (.inl (fun _ => 0))))]) i_R ft_R ft_R_ok n_R S hW 0 rfl rfl 12 (by decide) kf_R_38 rfl rfl rfl (Nat.le_of_ble_eq_true rfl) rfl d_R_init_52 (fun H locs hW => ?_)
  refine lv_aload_n S.1 S.2.1 d_R_init_55 rfl (lv_at hl 0 rfl) ?_
  refine lv_lconst (v := 0) S.1 S.2.1 d_R_init_56 rfl ?_
  refine g_put (ws2 := [(aR, .inr (5, [.null, .null, .null, .null, .ref q_1, .ref q_2, .int (nI 0), .int (nI 0), .int (nI 0), .int (nI 0), .int (nI 0), .int (nI 0), .int (nI 0), .long 0, .long 0, .int 0, .int 0])), (q_1, .inl (cJ, 40, .inr (.inl (fun _ => 0)))), (q_2, .inl (cJ, 40, .inr (.inl (fun _ => 0))))]) i_R ft_R ft_R_ok n_R S hW 0 rfl rfl 13 (by decide) kf_R_41 rfl rfl rfl (Nat.le_of_ble_eq_true rfl) rfl d_R_init_57 (fun H locs hW => ?_)
  refine lv_aload_n S.1 S.2.1 d_R_init_60 rfl (lv_at hl 0 rfl) ?_
  refine lv_lconst (v := 0) S.1 S.2.1 d_R_init_61 rfl ?_
  refine g_put (ws2 := [(aR, .inr (5, [.null, .null, .null, .null, .ref q_1, .ref q_2, .int (nI 0), .int (nI 0), .int (nI 0), .int (nI 0), .int (nI 0), .int (nI 0), .int (nI 0), .long 0, .long 0, .int 0, .int 0])), (q_1, .inl (cJ, 40, .inr (.inl (fun _ => 0)))), (q_2, .inl (cJ, 40, .inr (.inl (fun _ => 0))))]) i_R ft_R ft_R_ok n_R S hW 0 rfl rfl 14 (by decide) kf_R_45 rfl rfl rfl (Nat.le_of_ble_eq_true rfl) rfl d_R_init_62 (fun H locs hW => ?_)
  refine lv_aload_n S.1 S.2.1 d_R_init_65 rfl (lv_at hl 0 rfl) ?_
  refine lv_iconst (v := (nI 0)) S.1 S.2.1 d_R_init_66 (by decide) ?_
  refine g_put (ws2 := [(aR, .inr (5, [.null, .null, .null, .null, .ref q_1, .ref q_2, .int (nI 0), .int (nI 0), .int (nI 0), .int (nI 0), .int (nI 0), .int (nI 0), .int (nI 0), .long 0, .long 0, .int (nI 0), .int 0])), (q_1, .inl (cJ, 40, .inr (.inl (fun _ => 0)))), (q_2, .inl (cJ, 40, .inr (.inl (fun _ => 0))))]) i_R ft_R ft_R_ok n_R S hW 0 rfl rfl 15 (by decide) kf_R_48 rfl rfl rfl (Nat.le_of_ble_eq_true rfl) rfl d_R_init_67 (fun H locs hW => ?_)
  refine lv_aload_n S.1 S.2.1 d_R_init_70 rfl (lv_at hl 0 rfl) ?_
  refine lv_iconst (v := (nI 0)) S.1 S.2.1 d_R_init_71 (by decide) ?_
  refine g_put (ws2 := [(aR, .inr (5, [.null, .null, .null, .null, .ref q_1, .ref q_2, .int (nI 0), .int (nI 0), .int (nI 0), .int (nI 0), .int (nI 0), .int (nI 0), .int (nI 0), .long 0, .long 0, .int (nI 0), .int (nI 0)])), (q_1, .inl (cJ, 40, .inr (.inl (fun _ => 0)))), (q_2, .inl (cJ, 40, .inr (.inl (fun _ => 0))))]) i_R ft_R ft_R_ok n_R S hW 0 rfl rfl 16 (by decide) kf_R_51 rfl rfl rfl (Nat.le_of_ble_eq_true rfl) rfl d_R_init_72 (fun H locs hW => ?_)
  refine lv_aload_n S.1 S.2.1 d_R_init_75 rfl (lv_at hl 0 rfl) ?_
  refine lv_aload_n S.1 S.2.1 d_R_init_76 rfl (lv_at hl 1 rfl) ?_
  refine g_putF (ws2 := [(aR, .inr (5, [.ref aT, .null, .null, .null, .ref q_1, .ref q_2, .int (nI 0), .int (nI 0), .int (nI 0), .int (nI 0), .int (nI 0), .int (nI 0), .int (nI 0), .long 0, .long 0, .int (nI 0), .int (nI 0)])), (q_1, .inl (cJ, 40, .inr (.inl (fun _ => 0)))), (q_2, .inl (cJ, 40, .inr (.inl (fun _ => 0))))]) i_R ft_R ft_R_ok n_R S hW 0 rfl rfl 0 (by decide) kf_R_54 rfl hin rfl rfl rfl (Nat.le_of_ble_eq_true rfl) rfl d_R_init_77 (fun H locs hW => ?_)
  refine lv_aload_n S.1 S.2.1 d_R_init_80 rfl (lv_at hl 0 rfl) ?_
  refine lv_aload_n S.1 S.2.1 d_R_init_81 rfl (lv_at hl 2 rfl) ?_
  refine g_putF (ws2 := [(aR, .inr (5, [.ref aT, .ref aC, .null, .null, .ref q_1, .ref q_2, .int (nI 0), .int (nI 0), .int (nI 0), .int (nI 0), .int (nI 0), .int (nI 0), .int (nI 0), .long 0, .long 0, .int (nI 0), .int (nI 0)])), (q_1, .inl (cJ, 40, .inr (.inl (fun _ => 0)))), (q_2, .inl (cJ, 40, .inr (.inl (fun _ => 0))))]) i_R ft_R ft_R_ok n_R S hW 0 rfl rfl 1 (by decide) kf_R_58 rfl hin rfl rfl rfl (Nat.le_of_ble_eq_true rfl) rfl d_R_init_82 (fun H locs hW => ?_)
  refine lv_aload_n S.1 S.2.1 d_R_init_85 rfl (lv_at hl 0 rfl) ?_
  refine lv_aload_n S.1 S.2.1 d_R_init_86 rfl (lv_at hl 3 rfl) ?_
  refine g_putF (ws2 := [(aR, .inr (5, [.ref aT, .ref aC, .ref aK, .null, .ref q_1, .ref q_2, .int (nI 0), .int (nI 0), .int (nI 0), .int (nI 0), .int (nI 0), .int (nI 0), .int (nI 0), .long 0, .long 0, .int (nI 0), .int (nI 0)])), (q_1, .inl (cJ, 40, .inr (.inl (fun _ => 0)))), (q_2, .inl (cJ, 40, .inr (.inl (fun _ => 0))))]) i_R ft_R ft_R_ok n_R S hW 0 rfl rfl 2 (by decide) kf_R_62 rfl hin rfl rfl rfl (Nat.le_of_ble_eq_true rfl) rfl d_R_init_87 (fun H locs hW => ?_)
  refine lv_aload_n S.1 S.2.1 d_R_init_90 rfl (lv_at hl 0 rfl) ?_
  refine lv_aload S.1 S.2.1 d_R_init_91 (lv_at hl 4 rfl) ?_
  refine g_putF (ws2 := [(aR, .inr (5, [.ref aT, .ref aC, .ref aK, .ref aF, .ref q_1, .ref q_2, .int (nI 0), .int (nI 0), .int (nI 0), .int (nI 0), .int (nI 0), .int (nI 0), .int (nI 0), .long 0, .long 0, .int (nI 0), .int (nI 0)])), (q_1, .inl (cJ, 40, .inr (.inl (fun _ => 0)))), (q_2, .inl (cJ, 40, .inr (.inl (fun _ => 0))))]) i_R ft_R ft_R_ok n_R S hW 0 rfl rfl 3 (by decide) kf_R_66 rfl hin rfl rfl rfl (Nat.le_of_ble_eq_true rfl) rfl d_R_init_93 (fun H locs hW => ?_)
  exact ret _ _ _ _ _ d_R_init_96 ⟨_, _, rfl⟩ hW
theorem d_U_init_0 : decode b_U_init 0 = .ok (.aload_n 0, 1) := by decide +kernel
theorem d_U_init_1 : decode b_U_init 1 = .ok (.invokespecial 3, 3) := by decide +kernel
theorem d_U_init_4 : decode b_U_init 4 = .ok (.aload_n 0, 1) := by decide +kernel
theorem d_U_init_5 : decode b_U_init 5 = .ok (.sipush 602, 3) := by decide +kernel
theorem d_U_init_8 : decode b_U_init 8 = .ok (.newarray .int, 2) := by decide +kernel
theorem d_U_init_10 : decode b_U_init 10 = .ok (.putfield 11, 3) := by decide +kernel
theorem d_U_init_13 : decode b_U_init 13 = .ok (.aload_n 0, 1) := by decide +kernel
theorem d_U_init_14 : decode b_U_init 14 = .ok (.sipush 602, 3) := by decide +kernel
theorem d_U_init_17 : decode b_U_init 17 = .ok (.newarray .int, 2) := by decide +kernel
theorem d_U_init_19 : decode b_U_init 19 = .ok (.putfield 15, 3) := by decide +kernel
theorem d_U_init_22 : decode b_U_init 22 = .ok (.aload_n 0, 1) := by decide +kernel
theorem d_U_init_23 : decode b_U_init 23 = .ok (.sipush 602, 3) := by decide +kernel
theorem d_U_init_26 : decode b_U_init 26 = .ok (.newarray .int, 2) := by decide +kernel
theorem d_U_init_28 : decode b_U_init 28 = .ok (.putfield 18, 3) := by decide +kernel
theorem d_U_init_31 : decode b_U_init 31 = .ok (.aload_n 0, 1) := by decide +kernel
theorem d_U_init_32 : decode b_U_init 32 = .ok (.sipush 602, 3) := by decide +kernel
theorem d_U_init_35 : decode b_U_init 35 = .ok (.newarray .int, 2) := by decide +kernel
theorem d_U_init_37 : decode b_U_init 37 = .ok (.putfield 21, 3) := by decide +kernel
theorem d_U_init_40 : decode b_U_init 40 = .ok (.aload_n 0, 1) := by decide +kernel
theorem d_U_init_41 : decode b_U_init 41 = .ok (.sipush 602, 3) := by decide +kernel
theorem d_U_init_44 : decode b_U_init 44 = .ok (.newarray .int, 2) := by decide +kernel
theorem d_U_init_46 : decode b_U_init 46 = .ok (.putfield 24, 3) := by decide +kernel
theorem d_U_init_49 : decode b_U_init 49 = .ok (.aload_n 0, 1) := by decide +kernel
theorem d_U_init_50 : decode b_U_init 50 = .ok (.iconst (-1), 1) := by decide +kernel
theorem d_U_init_51 : decode b_U_init 51 = .ok (.putfield 27, 3) := by decide +kernel
theorem d_U_init_54 : decode b_U_init 54 = .ok (.aload_n 0, 1) := by decide +kernel
theorem d_U_init_55 : decode b_U_init 55 = .ok (.iconst 0, 1) := by decide +kernel
theorem d_U_init_56 : decode b_U_init 56 = .ok (.putfield 31, 3) := by decide +kernel
theorem d_U_init_59 : decode b_U_init 59 = .ok (.aload_n 0, 1) := by decide +kernel
theorem d_U_init_60 : decode b_U_init 60 = .ok (.iconst 0, 1) := by decide +kernel
theorem d_U_init_61 : decode b_U_init 61 = .ok (.putfield 34, 3) := by decide +kernel
theorem d_U_init_64 : decode b_U_init 64 = .ok (.aload_n 0, 1) := by decide +kernel
theorem d_U_init_65 : decode b_U_init 65 = .ok (.iconst 0, 1) := by decide +kernel
theorem d_U_init_66 : decode b_U_init 66 = .ok (.putfield 37, 3) := by decide +kernel
theorem d_U_init_69 : decode b_U_init 69 = .ok (.aload_n 0, 1) := by decide +kernel
theorem d_U_init_70 : decode b_U_init 70 = .ok (.iconst 0, 1) := by decide +kernel
theorem d_U_init_71 : decode b_U_init 71 = .ok (.putfield 40, 3) := by decide +kernel
theorem d_U_init_74 : decode b_U_init 74 = .ok (.aload_n 0, 1) := by decide +kernel
theorem d_U_init_75 : decode b_U_init 75 = .ok (.aload_n 1, 1) := by decide +kernel
theorem d_U_init_76 : decode b_U_init 76 = .ok (.putfield 43, 3) := by decide +kernel
theorem d_U_init_79 : decode b_U_init 79 = .ok (.return_, 1) := by decide +kernel
set_option maxHeartbeats 4000000 in
set_option maxRecDepth 100000 in
theorem c_U_init (l : Launch) (D : va_G) (cI cJ cB cZ : ClassId) (aU aC : Nat) : Cv l D (tyl cI cJ cB cZ) y_U_init b_U_init 2 ({ frames := 1, cells := 5, slots := 3010, locals := 20 } : Room) [.ref aU, .ref aC] [(aU, .inr (6, [.null, .null, .null, .null, .null, .null, .int 0, .int 0, .int 0, .int 0, .int 0]))] (fun u => ∃ (u0 : Nat) (u1 : Nat) (u2 : Nat) (u3 : Nat) (u4 : Nat), u = [(aU, .inr (6, [.ref aC, .ref u0, .ref u1, .ref u2, .ref u3, .ref u4, .int (-1), .int (nI 0), .int (nI 0), .int (nI 0), .int (nI 0)])), (u0, .inl (cI, 602, .inl (fun _ => 0))), (u1, .inl (cI, 602, .inl (fun _ => 0))), (u2, .inl (cI, 602, .inl (fun _ => 0))), (u3, .inl (cI, 602, .inl (fun _ => 0))), (u4, .inl (cI, 602, .inl (fun _ => 0)))]) := by
  refine met_v (own := "ProofReader$Putter") (by decide) rfl (Nat.le_of_ble_eq_true rfl) ?_
  intro p e s m args below meth c A Q S hin hA ret ls hl hW
  have hl : lv_has ls 2 [(0, .ref aU), (1, .ref aC)] := hl
  have hW : Wd D (tyl cI cJ cB cZ) A s s.heap s.heap [] [(aU, .inr (6, [.null, .null, .null, .null, .null, .null, .int 0, .int 0, .int 0, .int 0, .int 0]))] := hW
  have hin : meth.name = "<init>" := hin
  refine lv_aload_n S.1 S.2.1 d_U_init_0 rfl (lv_at hl 0 rfl) ?_
  refine g_objInit S km_U_3 hl.1 d_U_init_1 (by decide) (Nat.le_of_ble_eq_true rfl) ?_
  refine lv_aload_n S.1 S.2.1 d_U_init_4 rfl (lv_at hl 0 rfl) ?_
  refine lv_sipush (v := (nI 602)) S.1 S.2.1 d_U_init_5 (by decide) ?_
  refine g_newa (atype := .int) (a0 := (602, .inl (fun _ => 0))) S hW hA ka_int 0 rfl (fun _ => rfl) (nI_pos (by decide)) (nI_clamp (by decide)) (Nat.le_of_ble_eq_true rfl) (Nat.le_of_ble_eq_true rfl) (Nat.le_of_ble_eq_true rfl) d_U_init_8 (fun q_1 H hW => ?_)
  have hW : Wd D (tyl cI cJ cB cZ) A s s.heap H _ [(aU, .inr (6, [.null, .null, .null, .null, .null, .null, .int 0, .int 0, .int 0, .int 0, .int 0])), (q_1, .inl (cI, 602, .inl (fun _ => 0)))] := hW
  refine g_putF (ws2 := [(aU, .inr (6, [.null, .ref q_1, .null, .null, .null, .null, .int 0, .int 0, .int 0, .int 0, .int 0])), (q_1, .inl (cI, 602, .inl (fun _ => 0)))]) i_U ft_U ft_U_ok n_U S hW 0 rfl rfl 1 (by decide) kf_U_11 rfl hin rfl rfl rfl (Nat.le_of_ble_eq_true rfl) rfl d_U_init_10 (fun H locs hW => ?_)
  refine lv_aload_n S.1 S.2.1 d_U_init_13 rfl (lv_at hl 0 rfl) ?_
  refine lv_sipush (v := (nI 602)) S.1 S.2.1 d_U_init_14 (by decide) ?_
  refine g_newa (atype := .int) (a0 := (602, .inl (fun _ => 0))) S hW hA ka_int 0 rfl (fun _ => rfl) (nI_pos (by decide)) (nI_clamp (by decide)) (Nat.le_of_ble_eq_true rfl) (Nat.le_of_ble_eq_true rfl) (Nat.le_of_ble_eq_true rfl) d_U_init_17 (fun q_2 H hW => ?_)
  have hW : Wd D (tyl cI cJ cB cZ) A s s.heap H _ [(aU, .inr (6, [.null, .ref q_1, .null, .null, .null, .null, .int 0, .int 0, .int 0, .int 0, .int 0])), (q_1, .inl (cI, 602, .inl (fun _ => 0))), (q_2, .inl (cI, 602, .inl (fun _ => 0)))] := hW
  refine g_putF (ws2 := [(aU, .inr (6, [.null, .ref q_1, .ref q_2, .null, .null, .null, .int 0, .int 0, .int 0, .int 0, .int 0])), (q_1, .inl (cI, 602, .inl (fun _ => 0))), (q_2, .inl (cI, 602, .inl (fun _ => 0)))]) i_U ft_U ft_U_ok n_U S hW 0 rfl rfl 2 (by decide) kf_U_15 rfl hin rfl rfl rfl (Nat.le_of_ble_eq_true rfl) rfl d_U_init_19 (fun H locs hW => ?_)
  refine lv_aload_n S.1 S.2.1 d_U_init_22 rfl (lv_at hl 0 rfl) ?_
  refine lv_sipush (v := (nI 602)) S.1 S.2.1 d_U_init_23 (by decide) ?_
  refine g_newa (atype := .int) (a0 := (602, .inl (fun _ => 0))) S hW hA ka_int 0 rfl (fun _ => rfl) (nI_pos (by decide)) (nI_clamp (by decide)) (Nat.le_of_ble_eq_true rfl) (Nat.le_of_ble_eq_true rfl) (Nat.le_of_ble_eq_true rfl) d_U_init_26 (fun q_3 H hW => ?_)
  have hW : Wd D (tyl cI cJ cB cZ) A s s.heap H _ [(aU, .inr (6, [.null, .ref q_1, .ref q_2, .null, .null, .null, .int 0, .int 0, .int 0, .int 0, .int 0])), (q_1, .inl (cI, 602, .inl (fun _ => 0))), (q_2, .inl (cI, 602, .inl (fun _ => 0))), (q_3, .inl (cI, 602, .inl (fun _ => 0)))] := hW
  refine g_putF (ws2 := [(aU, .inr (6, [.null, .ref q_1, .ref q_2, .ref q_3, .null, .null, .int 0, .int 0, .int 0, .int 0, .int 0])), (q_1, .inl (cI, 602, .inl (fun _ => 0))), (q_2, .inl (cI, 602, .inl (fun _ => 0))), (q_3, .inl (cI, 602, .inl (fun _ => 0)))]) i_U ft_U ft_U_ok n_U S hW 0 rfl rfl 3 (by decide) kf_U_18 rfl hin rfl rfl rfl (Nat.le_of_ble_eq_true rfl) rfl d_U_init_28 (fun H locs hW => ?_)
  refine lv_aload_n S.1 S.2.1 d_U_init_31 rfl (lv_at hl 0 rfl) ?_
  refine lv_sipush (v := (nI 602)) S.1 S.2.1 d_U_init_32 (by decide) ?_
  refine g_newa (atype := .int) (a0 := (602, .inl (fun _ => 0))) S hW hA ka_int 0 rfl (fun _ => rfl) (nI_pos (by decide)) (nI_clamp (by decide)) (Nat.le_of_ble_eq_true rfl) (Nat.le_of_ble_eq_true rfl) (Nat.le_of_ble_eq_true rfl) d_U_init_35 (fun q_4 H hW => ?_)
  have hW : Wd D (tyl cI cJ cB cZ) A s s.heap H _ [(aU, .inr (6, [.null, .ref q_1, .ref q_2, .ref q_3, .null, .null, .int 0, .int 0, .int 0, .int 0, .int 0])), (q_1, .inl (cI, 602, .inl (fun _ => 0))), (q_2, .inl (cI, 602, .inl (fun _ => 0))), (q_3, .inl (cI, 602, .inl (fun _ => 0))), (q_4, .inl (cI, 602, .inl (fun _ => 0)))] := hW
  refine g_putF (ws2 := [(aU, .inr (6, [.null, .ref q_1, .ref q_2, .ref q_3, .ref q_4, .null, .int 0, .int 0, .int 0, .int 0, .int 0])), (q_1, .inl (cI, 602, .inl (fun _ => 0))), (q_2, .inl (cI, 602, .inl (fun _ => 0))), (q_3, .inl (cI, 602, .inl (fun _ => 0))), (q_4, .inl (cI, 602, .inl (fun _ => 0)))]) i_U ft_U ft_U_ok n_U S hW 0 rfl rfl 4 (by decide) kf_U_21 rfl hin rfl rfl rfl (Nat.le_of_ble_eq_true rfl) rfl d_U_init_37 (fun H locs hW => ?_)
  refine lv_aload_n S.1 S.2.1 d_U_init_40 rfl (lv_at hl 0 rfl) ?_
  refine lv_sipush (v := (nI 602)) S.1 S.2.1 d_U_init_41 (by decide) ?_
  refine g_newa (atype := .int) (a0 := (602, .inl (fun _ => 0))) S hW hA ka_int 0 rfl (fun _ => rfl) (nI_pos (by decide)) (nI_clamp (by decide)) (Nat.le_of_ble_eq_true rfl) (Nat.le_of_ble_eq_true rfl) (Nat.le_of_ble_eq_true rfl) d_U_init_44 (fun q_5 H hW => ?_)
  have hW : Wd D (tyl cI cJ cB cZ) A s s.heap H _ [(aU, .inr (6, [.null, .ref q_1, .ref q_2, .ref q_3, .ref q_4, .null, .int 0, .int 0, .int 0, .int 0, .int 0])), (q_1, .inl (cI, 602, .inl (fun _ => 0))), (q_2, .inl (cI, 602, .inl (fun _ => 0))), (q_3, .inl (cI, 602, .inl (fun _ => 0))), (q_4, .inl (cI, 602, .inl (fun _ => 0))), (q_5, .inl (cI, 602, .inl (fun _ => 0)))] := hW
  refine g_putF (ws2 := [(aU, .inr (6, [.null, .ref q_1, .ref q_2, .ref q_3, .ref q_4, .ref q_5, .int 0, .int 0, .int 0, .int 0, .int 0])), (q_1, .inl (cI, 602, .inl (fun _ => 0))), (q_2, .inl (cI, 602, .inl (fun _ => 0))), (q_3, .inl (cI, 602, .inl (fun _ => 0))), (q_4, .inl (cI, 602, .inl (fun _ => 0))), (q_5, .inl (cI, 602, .inl (fun _ => 0)))]) i_U ft_U ft_U_ok n_U S hW 0 rfl rfl 5 (by decide) kf_U_24 rfl hin rfl rfl rfl (Nat.le_of_ble_eq_true rfl) rfl d_U_init_46 (fun H locs hW => ?_)
  refine lv_aload_n S.1 S.2.1 d_U_init_49 rfl (lv_at hl 0 rfl) ?_
  refine lv_iconst (v := (-1)) S.1 S.2.1 d_U_init_50 (by decide) ?_
  refine g_put (ws2 := [(aU, .inr (6, [.null, .ref q_1, .ref q_2, .ref q_3, .ref q_4, .ref q_5, .int (-1), .int 0, .int 0, .int 0, .int 0])), (q_1, .inl (cI, 602, .inl (fun _ => 0))), (q_2, .inl (cI, 602, .inl (fun _ => 0))), (q_3, .inl (cI, 602, .inl (fun _ => 0))), (q_4, .inl (cI, 602, .inl (fun _ => 0))), (q_5, .inl (cI, 602, .inl (fun _ => 0)))]) i_U ft_U ft_U_ok n_U S hW 0 rfl rfl 6 (by decide) kf_U_27 rfl rfl rfl (Nat.le_of_ble_eq_true rfl) rfl d_U_init_51 (fun H locs hW => ?_)
  refine lv_aload_n S.1 S.2.1 d_U_init_54 rfl (lv_at hl 0 rfl) ?_
  refine lv_iconst (v := (nI 0)) S.1 S.2.1 d_U_init_55 (by decide) ?_
  refine g_put (ws2 := [(aU, .inr (6, [.null, .ref q_1, .ref q_2, .ref q_3, .ref q_4, .ref q_5, .int (-1), .int (nI 0), .int 0, .int 0, .int 0])), (q_1, .inl (cI, 602, .inl (fun _ => 0))), (q_2, .inl (cI, 602, .inl (fun _ => 0))), (q_3, .inl (cI, 602, .inl (fun _ => 0))), (q_4, .inl (cI, 602, .inl (fun _ => 0))), (q_5, .inl (cI, 602, .inl (fun _ => 0)))]) i_U ft_U ft_U_ok n_U S hW 0 rfl rfl 7 (by decide) kf_U_31 rfl rfl rfl (Nat.le_of_ble_eq_true rfl) rfl d_U_init_56 (fun H locs hW => ?_)
  refine lv_aload_n S.1 S.2.1 d_U_init_59 rfl (lv_at hl 0 rfl) ?_
  refine lv_iconst (v := (nI 0)) S.1 S.2.1 d_U_init_60 (by decide) ?_
  refine g_put (ws2 := [(aU, .inr (6, [.null, .ref q_1, .ref q_2, .ref q_3, .ref q_4, .ref q_5, .int (-1), .int (nI 0), .int (nI 0), .int 0, .int 0])), (q_1, .inl (cI, 602, .inl (fun _ => 0))), (q_2, .inl (cI, 602, .inl (fun _ => 0))), (q_3, .inl (cI, 602, .inl (fun _ => 0))), (q_4, .inl (cI, 602, .inl (fun _ => 0))), (q_5, .inl (cI, 602, .inl (fun _ => 0)))]) i_U ft_U ft_U_ok n_U S hW 0 rfl rfl 8 (by decide) kf_U_34 rfl rfl rfl (Nat.le_of_ble_eq_true rfl) rfl d_U_init_61 (fun H locs hW => ?_)
  refine lv_aload_n S.1 S.2.1 d_U_init_64 rfl (lv_at hl 0 rfl) ?_
  refine lv_iconst (v := (nI 0)) S.1 S.2.1 d_U_init_65 (by decide) ?_
  refine g_put (ws2 := [(aU, .inr (6, [.null, .ref q_1, .ref q_2, .ref q_3, .ref q_4, .ref q_5, .int (-1), .int (nI 0), .int (nI 0), .int (nI 0), .int 0])), (q_1, .inl (cI, 602, .inl (fun _ => 0))), (q_2, .inl (cI, 602, .inl (fun _ => 0))), (q_3, .inl (cI, 602, .inl (fun _ => 0))), (q_4, .inl (cI, 602, .inl (fun _ => 0))), (q_5, .inl (cI, 602, .inl (fun _ => 0)))]) i_U ft_U ft_U_ok n_U S hW 0 rfl rfl 9 (by decide) kf_U_37 rfl rfl rfl (Nat.le_of_ble_eq_true rfl) rfl d_U_init_66 (fun H locs hW => ?_)
  refine lv_aload_n S.1 S.2.1 d_U_init_69 rfl (lv_at hl 0 rfl) ?_
  refine lv_iconst (v := (nI 0)) S.1 S.2.1 d_U_init_70 (by decide) ?_
  refine g_put (ws2 := [(aU, .inr (6, [.null, .ref q_1, .ref q_2, .ref q_3, .ref q_4, .ref q_5, .int (-1), .int (nI 0), .int (nI 0), .int (nI 0), .int (nI 0)])), (q_1, .inl (cI, 602, .inl (fun _ => 0))), (q_2, .inl (cI, 602, .inl (fun _ => 0))), (q_3, .inl (cI, 602, .inl (fun _ => 0))), (q_4, .inl (cI, 602, .inl (fun _ => 0))), (q_5, .inl (cI, 602, .inl (fun _ => 0)))]) i_U ft_U ft_U_ok n_U S hW 0 rfl rfl 10 (by decide) kf_U_40 rfl rfl rfl (Nat.le_of_ble_eq_true rfl) rfl d_U_init_71 (fun H locs hW => ?_)
  refine lv_aload_n S.1 S.2.1 d_U_init_74 rfl (lv_at hl 0 rfl) ?_
  refine lv_aload_n S.1 S.2.1 d_U_init_75 rfl (lv_at hl 1 rfl) ?_
  refine g_putF (ws2 := [(aU, .inr (6, [.ref aC, .ref q_1, .ref q_2, .ref q_3, .ref q_4, .ref q_5, .int (-1), .int (nI 0), .int (nI 0), .int (nI 0), .int (nI 0)])), (q_1, .inl (cI, 602, .inl (fun _ => 0))), (q_2, .inl (cI, 602, .inl (fun _ => 0))), (q_3, .inl (cI, 602, .inl (fun _ => 0))), (q_4, .inl (cI, 602, .inl (fun _ => 0))), (q_5, .inl (cI, 602, .inl (fun _ => 0)))]) i_U ft_U ft_U_ok n_U S hW 0 rfl rfl 0 (by decide) kf_U_43 rfl hin rfl rfl rfl (Nat.le_of_ble_eq_true rfl) rfl d_U_init_76 (fun H locs hW => ?_)
  exact ret _ _ _ _ _ d_U_init_79 ⟨_, _, _, _, _, rfl⟩ hW
theorem d_I_init_0 : decode b_I_init 0 = .ok (.aload_n 0, 1) := by decide +kernel
theorem d_I_init_1 : decode b_I_init 1 = .ok (.invokespecial 3, 3) := by decide +kernel
theorem d_I_init_4 : decode b_I_init 4 = .ok (.aload_n 0, 1) := by decide +kernel
theorem d_I_init_5 : decode b_I_init 5 = .ok (.sipush 300, 3) := by decide +kernel
theorem d_I_init_8 : decode b_I_init 8 = .ok (.newarray .boolean, 2) := by decide +kernel
theorem d_I_init_10 : decode b_I_init 10 = .ok (.putfield 9, 3) := by decide +kernel
theorem d_I_init_13 : decode b_I_init 13 = .ok (.aload_n 0, 1) := by decide +kernel
theorem d_I_init_14 : decode b_I_init 14 = .ok (.sipush 600, 3) := by decide +kernel
theorem d_I_init_17 : decode b_I_init 17 = .ok (.newarray .int, 2) := by decide +kernel
theorem d_I_init_19 : decode b_I_init 19 = .ok (.putfield 15, 3) := by decide +kernel
theorem d_I_init_22 : decode b_I_init 22 = .ok (.aload_n 0, 1) := by decide +kernel
theorem d_I_init_23 : decode b_I_init 23 = .ok (.sipush 600, 3) := by decide +kernel
theorem d_I_init_26 : decode b_I_init 26 = .ok (.newarray .int, 2) := by decide +kernel
theorem d_I_init_28 : decode b_I_init 28 = .ok (.putfield 19, 3) := by decide +kernel
theorem d_I_init_31 : decode b_I_init 31 = .ok (.aload_n 0, 1) := by decide +kernel
theorem d_I_init_32 : decode b_I_init 32 = .ok (.iconst 0, 1) := by decide +kernel
theorem d_I_init_33 : decode b_I_init 33 = .ok (.putfield 22, 3) := by decide +kernel
theorem d_I_init_36 : decode b_I_init 36 = .ok (.aload_n 0, 1) := by decide +kernel
theorem d_I_init_37 : decode b_I_init 37 = .ok (.iconst 0, 1) := by decide +kernel
theorem d_I_init_38 : decode b_I_init 38 = .ok (.putfield 26, 3) := by decide +kernel
theorem d_I_init_41 : decode b_I_init 41 = .ok (.aload_n 0, 1) := by decide +kernel
theorem d_I_init_42 : decode b_I_init 42 = .ok (.aload_n 1, 1) := by decide +kernel
theorem d_I_init_43 : decode b_I_init 43 = .ok (.putfield 29, 3) := by decide +kernel
theorem d_I_init_46 : decode b_I_init 46 = .ok (.aload_n 0, 1) := by decide +kernel
theorem d_I_init_47 : decode b_I_init 47 = .ok (.aload_n 2, 1) := by decide +kernel
theorem d_I_init_48 : decode b_I_init 48 = .ok (.putfield 33, 3) := by decide +kernel
theorem d_I_init_51 : decode b_I_init 51 = .ok (.aload_n 0, 1) := by decide +kernel
theorem d_I_init_52 : decode b_I_init 52 = .ok (.aload_n 3, 1) := by decide +kernel
theorem d_I_init_53 : decode b_I_init 53 = .ok (.putfield 37, 3) := by decide +kernel
theorem d_I_init_56 : decode b_I_init 56 = .ok (.return_, 1) := by decide +kernel
set_option maxHeartbeats 4000000 in
set_option maxRecDepth 100000 in
theorem c_I_init (l : Launch) (D : va_G) (cI cJ cB cZ : ClassId) (aI aC aK aP : Nat) : Cv l D (tyl cI cJ cB cZ) y_I_init b_I_init 4 ({ frames := 1, cells := 3, slots := 1500, locals := 20 } : Room) [.ref aI, .ref aC, .ref aK, .ref aP] [(aI, .inr (8, [.null, .null, .null, .null, .null, .null, .int 0, .int 0]))] (fun u => ∃ (i0 : Nat) (i1 : Nat) (i2 : Nat), u = [(aI, .inr (8, [.ref aC, .ref aK, .ref aP, .ref i0, .ref i1, .ref i2, .int (nI 0), .int (nI 0)])), (i0, .inl (cZ, 300, .inl (fun _ => 0))), (i1, .inl (cI, 600, .inl (fun _ => 0))), (i2, .inl (cI, 600, .inl (fun _ => 0)))]) := by
  refine met_v (own := "ProofReader$Printer") (by decide) rfl (Nat.le_of_ble_eq_true rfl) ?_
  intro p e s m args below meth c A Q S hin hA ret ls hl hW
  have hl : lv_has ls 4 [(0, .ref aI), (1, .ref aC), (2, .ref aK), (3, .ref aP)] := hl
  have hW : Wd D (tyl cI cJ cB cZ) A s s.heap s.heap [] [(aI, .inr (8, [.null, .null, .null, .null, .null, .null, .int 0, .int 0]))] := hW
  have hin : meth.name = "<init>" := hin
  refine lv_aload_n S.1 S.2.1 d_I_init_0 rfl (lv_at hl 0 rfl) ?_
  refine g_objInit S km_I_3 hl.1 d_I_init_1 (by decide) (Nat.le_of_ble_eq_true rfl) ?_
  refine lv_aload_n S.1 S.2.1 d_I_init_4 rfl (lv_at hl 0 rfl) ?_
  refine lv_sipush (v := (nI 300)) S.1 S.2.1 d_I_init_5 (by decide) ?_
  refine g_newa (atype := .boolean) (a0 := (300, .inl (fun _ => 0))) S hW hA ka_boolean 3 rfl (fun _ => rfl) (nI_pos (by decide)) (nI_clamp (by decide)) (Nat.le_of_ble_eq_true rfl) (Nat.le_of_ble_eq_true rfl) (Nat.le_of_ble_eq_true rfl) d_I_init_8 (fun q_1 H hW => ?_)
  have hW : Wd D (tyl cI cJ cB cZ) A s s.heap H _ [(aI, .inr (8, [.null, .null, .null, .null, .null, .null, .int 0, .int 0])), (q_1, .inl (cZ, 300, .inl (fun _ => 0)))] := hW
  refine g_putF (ws2 := [(aI, .inr (8, [.null, .null, .null, .ref q_1, .null, .null, .int 0, .int 0])), (q_1, .inl (cZ, 300, .inl (fun _ => 0)))]) i_I ft_I ft_I_ok n_I S hW 0 rfl rfl 3 (by decide) kf_I_9 rfl hin rfl rfl rfl (Nat.le_of_ble_eq_true rfl) rfl d_I_init_10 (fun H locs hW => ?_)
  refine lv_aload_n S.1 S.2.1 d_I_init_13 rfl (lv_at hl 0 rfl) ?_
  refine lv_sipush (v := (nI 600)) S.1 S.2.1 d_I_init_14 (by decide) ?_
  refine g_newa (atype := .int) (a0 := (600, .inl (fun _ => 0))) S hW hA ka_int 0 rfl (fun _ => rfl) (nI_pos (by decide)) (nI_clamp (by decide)) (Nat.le_of_ble_eq_true rfl) (Nat.le_of_ble_eq_true rfl) (Nat.le_of_ble_eq_true rfl) d_I_init_17 (fun q_2 H hW => ?_)
  have hW : Wd D (tyl cI cJ cB cZ) A s s.heap H _ [(aI, .inr (8, [.null, .null, .null, .ref q_1, .null, .null, .int 0, .int 0])), (q_1, .inl (cZ, 300, .inl (fun _ => 0))), (q_2, .inl (cI, 600, .inl (fun _ => 0)))] := hW
  refine g_putF (ws2 := [(aI, .inr (8, [.null, .null, .null, .ref q_1, .ref q_2, .null, .int 0, .int 0])), (q_1, .inl (cZ, 300, .inl (fun _ => 0))), (q_2, .inl (cI, 600, .inl (fun _ => 0)))]) i_I ft_I ft_I_ok n_I S hW 0 rfl rfl 4 (by decide) kf_I_15 rfl hin rfl rfl rfl (Nat.le_of_ble_eq_true rfl) rfl d_I_init_19 (fun H locs hW => ?_)
  refine lv_aload_n S.1 S.2.1 d_I_init_22 rfl (lv_at hl 0 rfl) ?_
  refine lv_sipush (v := (nI 600)) S.1 S.2.1 d_I_init_23 (by decide) ?_
  refine g_newa (atype := .int) (a0 := (600, .inl (fun _ => 0))) S hW hA ka_int 0 rfl (fun _ => rfl) (nI_pos (by decide)) (nI_clamp (by decide)) (Nat.le_of_ble_eq_true rfl) (Nat.le_of_ble_eq_true rfl) (Nat.le_of_ble_eq_true rfl) d_I_init_26 (fun q_3 H hW => ?_)
  have hW : Wd D (tyl cI cJ cB cZ) A s s.heap H _ [(aI, .inr (8, [.null, .null, .null, .ref q_1, .ref q_2, .null, .int 0, .int 0])), (q_1, .inl (cZ, 300, .inl (fun _ => 0))), (q_2, .inl (cI, 600, .inl (fun _ => 0))), (q_3, .inl (cI, 600, .inl (fun _ => 0)))] := hW
  refine g_putF (ws2 := [(aI, .inr (8, [.null, .null, .null, .ref q_1, .ref q_2, .ref q_3, .int 0, .int 0])), (q_1, .inl (cZ, 300, .inl (fun _ => 0))), (q_2, .inl (cI, 600, .inl (fun _ => 0))), (q_3, .inl (cI, 600, .inl (fun _ => 0)))]) i_I ft_I ft_I_ok n_I S hW 0 rfl rfl 5 (by decide) kf_I_19 rfl hin rfl rfl rfl (Nat.le_of_ble_eq_true rfl) rfl d_I_init_28 (fun H locs hW => ?_)
  refine lv_aload_n S.1 S.2.1 d_I_init_31 rfl (lv_at hl 0 rfl) ?_
  refine lv_iconst (v := (nI 0)) S.1 S.2.1 d_I_init_32 (by decide) ?_
  refine g_put (ws2 := [(aI, .inr (8, [.null, .null, .null, .ref q_1, .ref q_2, .ref q_3, .int (nI 0), .int 0])), (q_1, .inl (cZ, 300, .inl (fun _ => 0))), (q_2, .inl (cI, 600, .inl (fun _ => 0))), (q_3, .inl (cI, 600, .inl (fun _ => 0)))]) i_I ft_I ft_I_ok n_I S hW 0 rfl rfl 6 (by decide) kf_I_22 rfl rfl rfl (Nat.le_of_ble_eq_true rfl) rfl d_I_init_33 (fun H locs hW => ?_)
  refine lv_aload_n S.1 S.2.1 d_I_init_36 rfl (lv_at hl 0 rfl) ?_
  refine lv_iconst (v := (nI 0)) S.1 S.2.1 d_I_init_37 (by decide) ?_
  refine g_put (ws2 := [(aI, .inr (8, [.null, .null, .null, .ref q_1, .ref q_2, .ref q_3, .int (nI 0), .int (nI 0)])), (q_1, .inl (cZ, 300, .inl (fun _ => 0))), (q_2, .inl (cI, 600, .inl (fun _ => 0))), (q_3, .inl (cI, 600, .inl (fun _ => 0)))]) i_I ft_I ft_I_ok n_I S hW 0 rfl rfl 7 (by decide) kf_I_26 rfl rfl rfl (Nat.le_of_ble_eq_true rfl) rfl d_I_init_38 (fun H locs hW => ?_)
  refine lv_aload_n S.1 S.2.1 d_I_init_41 rfl (lv_at hl 0 rfl) ?_
  refine lv_aload_n S.1 S.2.1 d_I_init_42 rfl (lv_at hl 1 rfl) ?_
  refine g_putF (ws2 := [(aI, .inr (8, [.ref aC, .null, .null, .ref q_1, .ref q_2, .ref q_3, .int (nI 0), .int (nI 0)])), (q_1, .inl (cZ, 300, .inl (fun _ => 0))), (q_2, .inl (cI, 600, .inl (fun _ => 0))), (q_3, .inl (cI, 600, .inl (fun _ => 0)))]) i_I ft_I ft_I_ok n_I S hW 0 rfl rfl 0 (by decide) kf_I_29 rfl hin rfl rfl rfl (Nat.le_of_ble_eq_true rfl) rfl d_I_init_43 (fun H locs hW => ?_)
  refine lv_aload_n S.1 S.2.1 d_I_init_46 rfl (lv_at hl 0 rfl) ?_
  refine lv_aload_n S.1 S.2.1 d_I_init_47 rfl (lv_at hl 2 rfl) ?_
  refine g_putF (ws2 := [(aI, .inr (8, [.ref aC, .ref aK, .null, .ref q_1, .ref q_2, .ref q_3, .int (nI 0), .int (nI 0)])), (q_1, .inl (cZ, 300, .inl (fun _ => 0))), (q_2, .inl (cI, 600, .inl (fun _ => 0))), (q_3, .inl (cI, 600, .inl (fun _ => 0)))]) i_I ft_I ft_I_ok n_I S hW 0 rfl rfl 1 (by decide) kf_I_33 rfl hin rfl rfl rfl (Nat.le_of_ble_eq_true rfl) rfl d_I_init_48 (fun H locs hW => ?_)
  refine lv_aload_n S.1 S.2.1 d_I_init_51 rfl (lv_at hl 0 rfl) ?_
  refine lv_aload_n S.1 S.2.1 d_I_init_52 rfl (lv_at hl 3 rfl) ?_
  refine g_putF (ws2 := [(aI, .inr (8, [.ref aC, .ref aK, .ref aP, .ref q_1, .ref q_2, .ref q_3, .int (nI 0), .int (nI 0)])), (q_1, .inl (cZ, 300, .inl (fun _ => 0))), (q_2, .inl (cI, 600, .inl (fun _ => 0))), (q_3, .inl (cI, 600, .inl (fun _ => 0)))]) i_I ft_I ft_I_ok n_I S hW 0 rfl rfl 2 (by decide) kf_I_37 rfl hin rfl rfl rfl (Nat.le_of_ble_eq_true rfl) rfl d_I_init_53 (fun H locs hW => ?_)
  exact ret _ _ _ _ _ d_I_init_56 ⟨_, _, _, rfl⟩ hW
