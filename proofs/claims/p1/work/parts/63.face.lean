theorem z_shl (x : Int64) : (0 : Int64) ||| (0 : Int64) <<< x = 0 := by simp
theorem d_K_forget_0 : decode b_K_forget 0 = .ok (.aload_n 0, 1) := by decide +kernel
theorem d_K_forget_1 : decode b_K_forget 1 = .ok (.iconst 0, 1) := by decide +kernel
theorem d_K_forget_2 : decode b_K_forget 2 = .ok (.putfield 29, 3) := by decide +kernel
theorem d_K_forget_5 : decode b_K_forget 5 = .ok (.aload_n 0, 1) := by decide +kernel
theorem d_K_forget_6 : decode b_K_forget 6 = .ok (.iconst 0, 1) := by decide +kernel
theorem d_K_forget_7 : decode b_K_forget 7 = .ok (.putfield 33, 3) := by decide +kernel
theorem d_K_forget_10 : decode b_K_forget 10 = .ok (.return_, 1) := by decide +kernel
set_option maxHeartbeats 4000000 in
set_option maxRecDepth 100000 in
theorem c_K_forget (l : Launch) (D : va_G) (cI cJ cB cZ : ClassId) (aK aC aK0 aK1 aK2 aK3 aK4 : Nat) (cn ce : Int32) : Cv l D (tyl cI cJ cB cZ) y_K_forget b_K_forget 1 ({ frames := 0, cells := 0, slots := 0, locals := 0 } : Room) [.ref aK] [(aK, .inr (4, [.ref aC, .ref aK0, .ref aK1, .ref aK2, .ref aK3, .ref aK4, .int cn, .int ce]))] (fun u => u = [(aK, .inr (4, [.ref aC, .ref aK0, .ref aK1, .ref aK2, .ref aK3, .ref aK4, .int (nI 0), .int (nI 0)]))]) := by
  refine met_v (own := "ProofReader$Constants") (by decide) rfl (Nat.le_of_ble_eq_true rfl) ?_
  intro p e s m args below meth c A Q S hin hA ret ls hl hW
  have hl : lv_has ls 1 [(0, .ref aK)] := hl
  have hW : Wd D (tyl cI cJ cB cZ) A s s.heap s.heap [] [(aK, .inr (4, [.ref aC, .ref aK0, .ref aK1, .ref aK2, .ref aK3, .ref aK4, .int cn, .int ce]))] := hW
  refine lv_aload_n S.1 S.2.1 d_K_forget_0 rfl (lv_at hl 0 rfl) ?_
  refine lv_iconst (v := (nI 0)) S.1 S.2.1 d_K_forget_1 (by decide) ?_
  refine g_put (ws2 := [(aK, .inr (4, [.ref aC, .ref aK0, .ref aK1, .ref aK2, .ref aK3, .ref aK4, .int (nI 0), .int ce]))]) i_K ft_K ft_K_ok n_K S hW 0 rfl rfl 6 (by decide) kf_K_29 rfl rfl rfl (Nat.le_of_ble_eq_true rfl) rfl d_K_forget_2 (fun H locs hW => ?_)
  refine lv_aload_n S.1 S.2.1 d_K_forget_5 rfl (lv_at hl 0 rfl) ?_
  refine lv_iconst (v := (nI 0)) S.1 S.2.1 d_K_forget_6 (by decide) ?_
  refine g_put (ws2 := [(aK, .inr (4, [.ref aC, .ref aK0, .ref aK1, .ref aK2, .ref aK3, .ref aK4, .int (nI 0), .int (nI 0)]))]) i_K ft_K ft_K_ok n_K S hW 0 rfl rfl 7 (by decide) kf_K_33 rfl rfl rfl (Nat.le_of_ble_eq_true rfl) rfl d_K_forget_7 (fun H locs hW => ?_)
  exact ret _ _ _ _ _ d_K_forget_10 rfl hW
theorem d_T_append_0 : decode b_T_append 0 = .ok (.aload_n 0, 1) := by decide +kernel
theorem d_T_append_1 : decode b_T_append 1 = .ok (.getfield 19, 3) := by decide +kernel
theorem d_T_append_4 : decode b_T_append 4 = .ok (.sipush 8192, 3) := by decide +kernel
theorem d_T_append_7 : decode b_T_append 7 = .ok (.if_icmp .ge 23, 3) := by decide +kernel
theorem d_T_append_10 : decode b_T_append 10 = .ok (.aload_n 0, 1) := by decide +kernel
theorem d_T_append_11 : decode b_T_append 11 = .ok (.getfield 9, 3) := by decide +kernel
theorem d_T_append_14 : decode b_T_append 14 = .ok (.aload_n 0, 1) := by decide +kernel
theorem d_T_append_15 : decode b_T_append 15 = .ok (.getfield 19, 3) := by decide +kernel
theorem d_T_append_18 : decode b_T_append 18 = .ok (.iload_n 1, 1) := by decide +kernel
theorem d_T_append_19 : decode b_T_append 19 = .ok (.bastore, 1) := by decide +kernel
theorem d_T_append_20 : decode b_T_append 20 = .ok (.aload_n 0, 1) := by decide +kernel
theorem d_T_append_21 : decode b_T_append 21 = .ok (.dup, 1) := by decide +kernel
theorem d_T_append_22 : decode b_T_append 22 = .ok (.getfield 19, 3) := by decide +kernel
theorem d_T_append_25 : decode b_T_append 25 = .ok (.iconst 1, 1) := by decide +kernel
theorem d_T_append_26 : decode b_T_append 26 = .ok (.iadd, 1) := by decide +kernel
theorem d_T_append_27 : decode b_T_append 27 = .ok (.putfield 19, 3) := by decide +kernel
theorem d_T_append_30 : decode b_T_append 30 = .ok (.return_, 1) := by decide +kernel
set_option maxHeartbeats 4000000 in
set_option maxRecDepth 100000 in
theorem c_T_append (l : Launch) (D : va_G) (cI cJ cB cZ : ClassId) (aT aF aTb : Nat) (f : Nat → Int32) (ln : Nat) (x nx kd st : Int32) (fr bk : Int64) (hln : ln < 8192) : Cv l D (tyl cI cJ cB cZ) y_T_append b_T_append 2 ({ frames := 0, cells := 0, slots := 0, locals := 0 } : Room) [.ref aT, .int x] [(aT, .inr (3, [.ref aF, .ref aTb, .int nx, .int (nI ln), .int kd, .int st, .long fr, .long bk])), (aTb, .inl (cB, 8192, .inl f))] (fun u => u = [(aT, .inr (3, [.ref aF, .ref aTb, .int nx, .int (nI (ln + 1)), .int kd, .int st, .long fr, .long bk])), (aTb, .inl (cB, 8192, .inl (upd f ln x.toInt8.toInt32)))]) := by
  refine met_v (own := "ProofReader$Tokens") (by decide) rfl (Nat.le_of_ble_eq_true rfl) ?_
  intro p e s m args below meth c A Q S hin hA ret ls hl hW
  have hl : lv_has ls 2 [(0, .ref aT), (1, .int x)] := hl
  have hW : Wd D (tyl cI cJ cB cZ) A s s.heap s.heap [] [(aT, .inr (3, [.ref aF, .ref aTb, .int nx, .int (nI ln), .int kd, .int st, .long fr, .long bk])), (aTb, .inl (cB, 8192, .inl f))] := hW
  refine lv_aload_n S.1 S.2.1 d_T_append_0 rfl (lv_at hl 0 rfl) ?_
  refine g_get i_T S hW 0 rfl rfl 3 (by decide) kf_T_19 rfl d_T_append_1 ?_
  refine lv_sipush (v := (nI 8192)) S.1 S.2.1 d_T_append_4 (by decide) ?_
  refine n_icmp_ge (tgt := 30) S (by omega) (by omega) d_T_append_7 (by decide) (fun c_7 => absurd c_7 (by omega)) (fun c_7 => ?_)
  refine lv_aload_n S.1 S.2.1 d_T_append_10 rfl (lv_at hl 0 rfl) ?_
  refine g_get i_T S hW 0 rfl rfl 1 (by decide) kf_T_9 rfl d_T_append_11 ?_
  refine lv_aload_n S.1 S.2.1 d_T_append_14 rfl (lv_at hl 0 rfl) ?_
  refine g_get i_T S hW 0 rfl rfl 3 (by decide) kf_T_19 rfl d_T_append_15 ?_
  refine lv_iload_n S.1 S.2.1 d_T_append_18 rfl (lv_at hl 1 rfl) ?_
  refine n_bast (ws2 := [(aT, .inr (3, [.ref aF, .ref aTb, .int nx, .int (nI ln), .int kd, .int st, .long fr, .long bk])), (aTb, .inl (cB, 8192, .inl (upd f ln x.toInt8.toInt32)))]) S hW 1 2 rfl rfl (by decide) (by omega) rfl d_T_append_19 (fun H locs hW => ?_)
  refine lv_aload_n S.1 S.2.1 d_T_append_20 rfl (lv_at hl 0 rfl) ?_
  refine lv_dup S.1 S.2.1 d_T_append_21 rfl ?_
  refine g_get i_T S hW 0 rfl rfl 3 (by decide) kf_T_19 rfl d_T_append_22 ?_
  refine lv_iconst (v := (nI 1)) S.1 S.2.1 d_T_append_25 (by decide) ?_
  refine n_iadd S d_T_append_26 ?_
  refine g_put (ws2 := [(aT, .inr (3, [.ref aF, .ref aTb, .int nx, .int (nI (ln + 1)), .int kd, .int st, .long fr, .long bk])), (aTb, .inl (cB, 8192, .inl (upd f ln x.toInt8.toInt32)))]) i_T ft_T ft_T_ok n_T S hW 0 rfl rfl 3 (by decide) kf_T_19 rfl rfl rfl (Nat.le_of_ble_eq_true rfl) rfl d_T_append_27 (fun H locs hW => ?_)
  exact ret _ _ _ _ _ d_T_append_30 rfl hW
theorem d_T_advance_0 : decode b_T_advance 0 = .ok (.aload_n 0, 1) := by decide +kernel
theorem d_T_advance_1 : decode b_T_advance 1 = .ok (.getfield 15, 3) := by decide +kernel
theorem d_T_advance_4 : decode b_T_advance 4 = .ok (.aload_n 0, 1) := by decide +kernel
theorem d_T_advance_5 : decode b_T_advance 5 = .ok (.getfield 19, 3) := by decide +kernel
theorem d_T_advance_8 : decode b_T_advance 8 = .ok (.if_icmp .ge 29, 3) := by decide +kernel
theorem d_T_advance_11 : decode b_T_advance 11 = .ok (.aload_n 0, 1) := by decide +kernel
theorem d_T_advance_12 : decode b_T_advance 12 = .ok (.aload_n 0, 1) := by decide +kernel
theorem d_T_advance_13 : decode b_T_advance 13 = .ok (.getfield 15, 3) := by decide +kernel
theorem d_T_advance_16 : decode b_T_advance 16 = .ok (.invokevirtual 39, 3) := by decide +kernel
theorem d_T_advance_19 : decode b_T_advance 19 = .ok (.bipush 32, 2) := by decide +kernel
theorem d_T_advance_21 : decode b_T_advance 21 = .ok (.if_icmp .gt 16, 3) := by decide +kernel
theorem d_T_advance_24 : decode b_T_advance 24 = .ok (.aload_n 0, 1) := by decide +kernel
theorem d_T_advance_25 : decode b_T_advance 25 = .ok (.dup, 1) := by decide +kernel
theorem d_T_advance_26 : decode b_T_advance 26 = .ok (.getfield 15, 3) := by decide +kernel
theorem d_T_advance_29 : decode b_T_advance 29 = .ok (.iconst 1, 1) := by decide +kernel
theorem d_T_advance_30 : decode b_T_advance 30 = .ok (.iadd, 1) := by decide +kernel
theorem d_T_advance_31 : decode b_T_advance 31 = .ok (.putfield 15, 3) := by decide +kernel
theorem d_T_advance_34 : decode b_T_advance 34 = .ok (.goto (-34), 3) := by decide +kernel
theorem d_T_advance_37 : decode b_T_advance 37 = .ok (.aload_n 0, 1) := by decide +kernel
theorem d_T_advance_38 : decode b_T_advance 38 = .ok (.aload_n 0, 1) := by decide +kernel
theorem d_T_advance_39 : decode b_T_advance 39 = .ok (.getfield 15, 3) := by decide +kernel
theorem d_T_advance_42 : decode b_T_advance 42 = .ok (.putfield 25, 3) := by decide +kernel
theorem d_T_advance_45 : decode b_T_advance 45 = .ok (.aload_n 0, 1) := by decide +kernel
theorem d_T_advance_46 : decode b_T_advance 46 = .ok (.getfield 15, 3) := by decide +kernel
theorem d_T_advance_49 : decode b_T_advance 49 = .ok (.aload_n 0, 1) := by decide +kernel
theorem d_T_advance_50 : decode b_T_advance 50 = .ok (.getfield 19, 3) := by decide +kernel
theorem d_T_advance_53 : decode b_T_advance 53 = .ok (.if_icmp .lt 10, 3) := by decide +kernel
theorem d_T_advance_56 : decode b_T_advance 56 = .ok (.aload_n 0, 1) := by decide +kernel
theorem d_T_advance_57 : decode b_T_advance 57 = .ok (.iconst 0, 1) := by decide +kernel
theorem d_T_advance_58 : decode b_T_advance 58 = .ok (.putfield 22, 3) := by decide +kernel
theorem d_T_advance_61 : decode b_T_advance 61 = .ok (.iconst 1, 1) := by decide +kernel
theorem d_T_advance_62 : decode b_T_advance 62 = .ok (.ireturn, 1) := by decide +kernel
theorem d_T_advance_63 : decode b_T_advance 63 = .ok (.aload_n 0, 1) := by decide +kernel
theorem d_T_advance_64 : decode b_T_advance 64 = .ok (.aload_n 0, 1) := by decide +kernel
theorem d_T_advance_65 : decode b_T_advance 65 = .ok (.getfield 15, 3) := by decide +kernel
theorem d_T_advance_68 : decode b_T_advance 68 = .ok (.invokevirtual 39, 3) := by decide +kernel
theorem d_T_advance_71 : decode b_T_advance 71 = .ok (.istore_n 1, 1) := by decide +kernel
theorem d_T_advance_72 : decode b_T_advance 72 = .ok (.iload_n 1, 1) := by decide +kernel
theorem d_T_advance_73 : decode b_T_advance 73 = .ok (.invokestatic 43, 3) := by decide +kernel
theorem d_T_advance_76 : decode b_T_advance 76 = .ok (.ifCond .eq 8, 3) := by decide +kernel
theorem d_T_advance_79 : decode b_T_advance 79 = .ok (.aload_n 0, 1) := by decide +kernel
theorem d_T_advance_80 : decode b_T_advance 80 = .ok (.invokevirtual 47, 3) := by decide +kernel
theorem d_T_advance_83 : decode b_T_advance 83 = .ok (.ireturn, 1) := by decide +kernel
theorem d_T_advance_84 : decode b_T_advance 84 = .ok (.iload_n 1, 1) := by decide +kernel
theorem d_T_advance_85 : decode b_T_advance 85 = .ok (.bipush 45, 2) := by decide +kernel
theorem d_T_advance_87 : decode b_T_advance 87 = .ok (.if_icmp .ne 8, 3) := by decide +kernel
theorem d_T_advance_90 : decode b_T_advance 90 = .ok (.aload_n 0, 1) := by decide +kernel
theorem d_T_advance_91 : decode b_T_advance 91 = .ok (.invokevirtual 51, 3) := by decide +kernel
theorem d_T_advance_94 : decode b_T_advance 94 = .ok (.ireturn, 1) := by decide +kernel
theorem d_T_advance_95 : decode b_T_advance 95 = .ok (.aload_n 0, 1) := by decide +kernel
theorem d_T_advance_96 : decode b_T_advance 96 = .ok (.iload_n 1, 1) := by decide +kernel
theorem d_T_advance_97 : decode b_T_advance 97 = .ok (.putfield 22, 3) := by decide +kernel
theorem d_T_advance_100 : decode b_T_advance 100 = .ok (.aload_n 0, 1) := by decide +kernel
theorem d_T_advance_101 : decode b_T_advance 101 = .ok (.dup, 1) := by decide +kernel
theorem d_T_advance_102 : decode b_T_advance 102 = .ok (.getfield 15, 3) := by decide +kernel
theorem d_T_advance_105 : decode b_T_advance 105 = .ok (.iconst 1, 1) := by decide +kernel
theorem d_T_advance_106 : decode b_T_advance 106 = .ok (.iadd, 1) := by decide +kernel
theorem d_T_advance_107 : decode b_T_advance 107 = .ok (.putfield 15, 3) := by decide +kernel
theorem d_T_advance_110 : decode b_T_advance 110 = .ok (.iload_n 1, 1) := by decide +kernel
theorem d_T_advance_111 : decode b_T_advance 111 = .ok (.invokestatic 54, 3) := by decide +kernel
theorem d_T_advance_114 : decode b_T_advance 114 = .ok (.ifCond .ne 18, 3) := by decide +kernel
theorem d_T_advance_117 : decode b_T_advance 117 = .ok (.aload_n 0, 1) := by decide +kernel
theorem d_T_advance_118 : decode b_T_advance 118 = .ok (.getfield 35, 3) := by decide +kernel
theorem d_T_advance_121 : decode b_T_advance 121 = .ok (.iconst 1, 1) := by decide +kernel
theorem d_T_advance_122 : decode b_T_advance 122 = .ok (.aload_n 0, 1) := by decide +kernel
theorem d_T_advance_123 : decode b_T_advance 123 = .ok (.getfield 25, 3) := by decide +kernel
theorem d_T_advance_126 : decode b_T_advance 126 = .ok (.invokevirtual 57, 3) := by decide +kernel
theorem d_T_advance_129 : decode b_T_advance 129 = .ok (.ifCond .eq 7, 3) := by decide +kernel
theorem d_T_advance_132 : decode b_T_advance 132 = .ok (.iconst 1, 1) := by decide +kernel
theorem d_T_advance_133 : decode b_T_advance 133 = .ok (.goto 4, 3) := by decide +kernel
theorem d_T_advance_136 : decode b_T_advance 136 = .ok (.iconst 0, 1) := by decide +kernel
theorem d_T_advance_137 : decode b_T_advance 137 = .ok (.ireturn, 1) := by decide +kernel
set_option maxHeartbeats 4000000 in
set_option maxRecDepth 100000 in
theorem c_T_advance (l : Launch) (D : va_G) (cI cJ cB cZ : ClassId) (aT aF aTb : Nat) : Ci l D (tyl cI cJ cB cZ) y_T_advance b_T_advance 2 (some .boolean) ({ frames := 0, cells := 0, slots := 0, locals := 0 } : Room) [.ref aT] [(aT, .inr (3, [.ref aF, .ref aTb, .int (nI 0), .int (nI 0), .int (nI 0), .int (nI 0), .long 0, .long 0]))] (fun r u => r = (nI 1) ∧ u = [(aT, .inr (3, [.ref aF, .ref aTb, .int (nI 0), .int (nI 0), .int (nI 0), .int (nI 0), .long 0, .long 0]))]) := by
  refine met_i (own := "ProofReader$Tokens") (by decide) rfl (Nat.le_of_ble_eq_true rfl) ?_
  intro p e s m args below meth c A Q S hA ret ls hl hW
  have hl : lv_has ls 2 [(0, .ref aT)] := hl
  have hW : Wd D (tyl cI cJ cB cZ) A s s.heap s.heap [] [(aT, .inr (3, [.ref aF, .ref aTb, .int (nI 0), .int (nI 0), .int (nI 0), .int (nI 0), .long 0, .long 0]))] := hW
  refine lv_aload_n S.1 S.2.1 d_T_advance_0 rfl (lv_at hl 0 rfl) ?_
  refine g_get i_T S hW 0 rfl rfl 2 (by decide) kf_T_15 rfl d_T_advance_1 ?_
  refine lv_aload_n S.1 S.2.1 d_T_advance_4 rfl (lv_at hl 0 rfl) ?_
  refine g_get i_T S hW 0 rfl rfl 3 (by decide) kf_T_19 rfl d_T_advance_5 ?_
  refine lv_icmp_ge (tgt := 37) S.1 S.2.1 d_T_advance_8 (by decide) (fun _ => ?_) (fun h => absurd h (by decide))
  refine lv_aload_n S.1 S.2.1 d_T_advance_37 rfl (lv_at hl 0 rfl) ?_
  refine lv_aload_n S.1 S.2.1 d_T_advance_38 rfl (lv_at hl 0 rfl) ?_
  refine g_get i_T S hW 0 rfl rfl 2 (by decide) kf_T_15 rfl d_T_advance_39 ?_
  refine g_put (ws2 := [(aT, .inr (3, [.ref aF, .ref aTb, .int (nI 0), .int (nI 0), .int (nI 0), .int (nI 0), .long 0, .long 0]))]) i_T ft_T ft_T_ok n_T S hW 0 rfl rfl 5 (by decide) kf_T_25 rfl rfl rfl (Nat.le_of_ble_eq_true rfl) rfl d_T_advance_42 (fun H locs hW => ?_)
  refine lv_aload_n S.1 S.2.1 d_T_advance_45 rfl (lv_at hl 0 rfl) ?_
  refine g_get i_T S hW 0 rfl rfl 2 (by decide) kf_T_15 rfl d_T_advance_46 ?_
  refine lv_aload_n S.1 S.2.1 d_T_advance_49 rfl (lv_at hl 0 rfl) ?_
  refine g_get i_T S hW 0 rfl rfl 3 (by decide) kf_T_19 rfl d_T_advance_50 ?_
  refine lv_icmp_lt (tgt := 63) S.1 S.2.1 d_T_advance_53 (by decide) (fun h => absurd h (by decide)) (fun _ => ?_)
  refine lv_aload_n S.1 S.2.1 d_T_advance_56 rfl (lv_at hl 0 rfl) ?_
  refine lv_iconst (v := (nI 0)) S.1 S.2.1 d_T_advance_57 (by decide) ?_
  refine g_put (ws2 := [(aT, .inr (3, [.ref aF, .ref aTb, .int (nI 0), .int (nI 0), .int (nI 0), .int (nI 0), .long 0, .long 0]))]) i_T ft_T ft_T_ok n_T S hW 0 rfl rfl 4 (by decide) kf_T_22 rfl rfl rfl (Nat.le_of_ble_eq_true rfl) rfl d_T_advance_58 (fun H locs hW => ?_)
  refine lv_iconst (v := (nI 1)) S.1 S.2.1 d_T_advance_61 (by decide) ?_
  exact ret _ _ _ _ _ _ d_T_advance_62 rfl ⟨rfl, rfl⟩ hW
theorem d_X_fault_0 : decode b_X_fault 0 = .ok (.aload_n 0, 1) := by decide +kernel
theorem d_X_fault_1 : decode b_X_fault 1 = .ok (.getfield 10, 3) := by decide +kernel
theorem d_X_fault_4 : decode b_X_fault 4 = .ok (.getfield 115, 3) := by decide +kernel
theorem d_X_fault_7 : decode b_X_fault 7 = .ok (.ireturn, 1) := by decide +kernel
set_option maxHeartbeats 4000000 in
set_option maxRecDepth 100000 in
theorem c_X_fault (l : Launch) (D : va_G) (cI cJ cB cZ : ClassId) (aX aF aC aP aT aK aR aH aI : Nat) (fn fw fd : Int32) : Ci l D (tyl cI cJ cB cZ) y_X_fault b_X_fault 1 (some .int) ({ frames := 0, cells := 0, slots := 0, locals := 0 } : Room) [.ref aX] [(aX, .inr (9, [.ref aF, .ref aC, .ref aP, .ref aT, .ref aK, .ref aR, .ref aH, .ref aI, .int fd])), (aF, .inr (0, [.int fn, .int fw]))] (fun r u => r = fn ∧ u = [(aX, .inr (9, [.ref aF, .ref aC, .ref aP, .ref aT, .ref aK, .ref aR, .ref aH, .ref aI, .int fd])), (aF, .inr (0, [.int fn, .int fw]))]) := by
  refine met_i (own := "ProofReader") (by decide) rfl (Nat.le_of_ble_eq_true rfl) ?_
  intro p e s m args below meth c A Q S hA ret ls hl hW
  have hl : lv_has ls 1 [(0, .ref aX)] := hl
  have hW : Wd D (tyl cI cJ cB cZ) A s s.heap s.heap [] [(aX, .inr (9, [.ref aF, .ref aC, .ref aP, .ref aT, .ref aK, .ref aR, .ref aH, .ref aI, .int fd])), (aF, .inr (0, [.int fn, .int fw]))] := hW
  refine lv_aload_n S.1 S.2.1 d_X_fault_0 rfl (lv_at hl 0 rfl) ?_
  refine g_get i_X S hW 0 rfl rfl 0 (by decide) kf_X_10 rfl d_X_fault_1 ?_
  refine g_get i_F S hW 1 rfl rfl 0 (by decide) kf_X_115 rfl d_X_fault_4 ?_
  exact ret _ _ _ _ _ _ d_X_fault_7 rfl ⟨rfl, rfl⟩ hW
theorem d_X_place_0 : decode b_X_place 0 = .ok (.aload_n 0, 1) := by decide +kernel
theorem d_X_place_1 : decode b_X_place 1 = .ok (.getfield 10, 3) := by decide +kernel
theorem d_X_place_4 : decode b_X_place 4 = .ok (.getfield 118, 3) := by decide +kernel
theorem d_X_place_7 : decode b_X_place 7 = .ok (.ireturn, 1) := by decide +kernel
set_option maxHeartbeats 4000000 in
set_option maxRecDepth 100000 in
theorem c_X_place (l : Launch) (D : va_G) (cI cJ cB cZ : ClassId) (aX aF aC aP aT aK aR aH aI : Nat) (fn fw fd : Int32) : Ci l D (tyl cI cJ cB cZ) y_X_place b_X_place 1 (some .int) ({ frames := 0, cells := 0, slots := 0, locals := 0 } : Room) [.ref aX] [(aX, .inr (9, [.ref aF, .ref aC, .ref aP, .ref aT, .ref aK, .ref aR, .ref aH, .ref aI, .int fd])), (aF, .inr (0, [.int fn, .int fw]))] (fun r u => r = fw ∧ u = [(aX, .inr (9, [.ref aF, .ref aC, .ref aP, .ref aT, .ref aK, .ref aR, .ref aH, .ref aI, .int fd])), (aF, .inr (0, [.int fn, .int fw]))]) := by
  refine met_i (own := "ProofReader") (by decide) rfl (Nat.le_of_ble_eq_true rfl) ?_
  intro p e s m args below meth c A Q S hA ret ls hl hW
  have hl : lv_has ls 1 [(0, .ref aX)] := hl
  have hW : Wd D (tyl cI cJ cB cZ) A s s.heap s.heap [] [(aX, .inr (9, [.ref aF, .ref aC, .ref aP, .ref aT, .ref aK, .ref aR, .ref aH, .ref aI, .int fd])), (aF, .inr (0, [.int fn, .int fw]))] := hW
  refine lv_aload_n S.1 S.2.1 d_X_place_0 rfl (lv_at hl 0 rfl) ?_
  refine g_get i_X S hW 0 rfl rfl 0 (by decide) kf_X_10 rfl d_X_place_1 ?_
  refine g_get i_F S hW 1 rfl rfl 1 (by decide) kf_X_118 rfl d_X_place_4 ?_
  exact ret _ _ _ _ _ _ d_X_place_7 rfl ⟨rfl, rfl⟩ hW
theorem d_X_constants_0 : decode b_X_constants 0 = .ok (.aload_n 0, 1) := by decide +kernel
theorem d_X_constants_1 : decode b_X_constants 1 = .ok (.getfield 44, 3) := by decide +kernel
theorem d_X_constants_4 : decode b_X_constants 4 = .ok (.getfield 121, 3) := by decide +kernel
theorem d_X_constants_7 : decode b_X_constants 7 = .ok (.ireturn, 1) := by decide +kernel
set_option maxHeartbeats 4000000 in
set_option maxRecDepth 100000 in
theorem c_X_constants (l : Launch) (D : va_G) (cI cJ cB cZ : ClassId) (aX aF aC aP aT aK aR aH aI : Nat) (aK0 aK1 aK2 aK3 aK4 : Nat) (cn ce fd : Int32) : Ci l D (tyl cI cJ cB cZ) y_X_constants b_X_constants 1 (some .int) ({ frames := 0, cells := 0, slots := 0, locals := 0 } : Room) [.ref aX] [(aX, .inr (9, [.ref aF, .ref aC, .ref aP, .ref aT, .ref aK, .ref aR, .ref aH, .ref aI, .int fd])), (aK, .inr (4, [.ref aC, .ref aK0, .ref aK1, .ref aK2, .ref aK3, .ref aK4, .int cn, .int ce]))] (fun r u => r = cn ∧ u = [(aX, .inr (9, [.ref aF, .ref aC, .ref aP, .ref aT, .ref aK, .ref aR, .ref aH, .ref aI, .int fd])), (aK, .inr (4, [.ref aC, .ref aK0, .ref aK1, .ref aK2, .ref aK3, .ref aK4, .int cn, .int ce]))]) := by
  refine met_i (own := "ProofReader") (by decide) rfl (Nat.le_of_ble_eq_true rfl) ?_
  intro p e s m args below meth c A Q S hA ret ls hl hW
  have hl : lv_has ls 1 [(0, .ref aX)] := hl
  have hW : Wd D (tyl cI cJ cB cZ) A s s.heap s.heap [] [(aX, .inr (9, [.ref aF, .ref aC, .ref aP, .ref aT, .ref aK, .ref aR, .ref aH, .ref aI, .int fd])), (aK, .inr (4, [.ref aC, .ref aK0, .ref aK1, .ref aK2, .ref aK3, .ref aK4, .int cn, .int ce]))] := hW
  refine lv_aload_n S.1 S.2.1 d_X_constants_0 rfl (lv_at hl 0 rfl) ?_
  refine g_get i_X S hW 0 rfl rfl 4 (by decide) kf_X_44 rfl d_X_constants_1 ?_
  refine g_get i_K S hW 1 rfl rfl 6 (by decide) kf_X_121 rfl d_X_constants_4 ?_
  exact ret _ _ _ _ _ _ d_X_constants_7 rfl ⟨rfl, rfl⟩ hW
theorem d_X_printed_0 : decode b_X_printed 0 = .ok (.aload_n 0, 1) := by decide +kernel
theorem d_X_printed_1 : decode b_X_printed 1 = .ok (.getfield 26, 3) := by decide +kernel
theorem d_X_printed_4 : decode b_X_printed 4 = .ok (.getfield 125, 3) := by decide +kernel
theorem d_X_printed_7 : decode b_X_printed 7 = .ok (.ireturn, 1) := by decide +kernel
set_option maxHeartbeats 4000000 in
set_option maxRecDepth 100000 in
theorem c_X_printed (l : Launch) (D : va_G) (cI cJ cB cZ : ClassId) (aX aF aC aP aT aK aR aH aI : Nat) (aPb : Nat) (ln ov fd : Int32) : Ci l D (tyl cI cJ cB cZ) y_X_printed b_X_printed 1 (some .int) ({ frames := 0, cells := 0, slots := 0, locals := 0 } : Room) [.ref aX] [(aX, .inr (9, [.ref aF, .ref aC, .ref aP, .ref aT, .ref aK, .ref aR, .ref aH, .ref aI, .int fd])), (aP, .inr (2, [.ref aPb, .int ln, .int ov]))] (fun r u => r = ln ∧ u = [(aX, .inr (9, [.ref aF, .ref aC, .ref aP, .ref aT, .ref aK, .ref aR, .ref aH, .ref aI, .int fd])), (aP, .inr (2, [.ref aPb, .int ln, .int ov]))]) := by
  refine met_i (own := "ProofReader") (by decide) rfl (Nat.le_of_ble_eq_true rfl) ?_
  intro p e s m args below meth c A Q S hA ret ls hl hW
  have hl : lv_has ls 1 [(0, .ref aX)] := hl
  have hW : Wd D (tyl cI cJ cB cZ) A s s.heap s.heap [] [(aX, .inr (9, [.ref aF, .ref aC, .ref aP, .ref aT, .ref aK, .ref aR, .ref aH, .ref aI, .int fd])), (aP, .inr (2, [.ref aPb, .int ln, .int ov]))] := hW
  refine lv_aload_n S.1 S.2.1 d_X_printed_0 rfl (lv_at hl 0 rfl) ?_
  refine g_get i_X S hW 0 rfl rfl 2 (by decide) kf_X_26 rfl d_X_printed_1 ?_
  refine g_get i_P S hW 1 rfl rfl 1 (by decide) kf_X_125 rfl d_X_printed_4 ?_
  exact ret _ _ _ _ _ _ d_X_printed_7 rfl ⟨rfl, rfl⟩ hW
theorem d_X_wipe_0 : decode b_X_wipe 0 = .ok (.aload_n 0, 1) := by decide +kernel
theorem d_X_wipe_1 : decode b_X_wipe 1 = .ok (.getfield 26, 3) := by decide +kernel
theorem d_X_wipe_4 : decode b_X_wipe 4 = .ok (.getfield 125, 3) := by decide +kernel
theorem d_X_wipe_7 : decode b_X_wipe 7 = .ok (.istore_n 1, 1) := by decide +kernel
theorem d_X_wipe_8 : decode b_X_wipe 8 = .ok (.aload_n 0, 1) := by decide +kernel
theorem d_X_wipe_9 : decode b_X_wipe 9 = .ok (.getfield 26, 3) := by decide +kernel
theorem d_X_wipe_12 : decode b_X_wipe 12 = .ok (.iconst 0, 1) := by decide +kernel
theorem d_X_wipe_13 : decode b_X_wipe 13 = .ok (.putfield 125, 3) := by decide +kernel
theorem d_X_wipe_16 : decode b_X_wipe 16 = .ok (.iload_n 1, 1) := by decide +kernel
theorem d_X_wipe_17 : decode b_X_wipe 17 = .ok (.ireturn, 1) := by decide +kernel
set_option maxHeartbeats 4000000 in
set_option maxRecDepth 100000 in
theorem c_X_wipe (l : Launch) (D : va_G) (cI cJ cB cZ : ClassId) (aX aF aC aP aT aK aR aH aI : Nat) (aPb : Nat) (ln ov fd : Int32) : Ci l D (tyl cI cJ cB cZ) y_X_wipe b_X_wipe 2 (some .int) ({ frames := 0, cells := 0, slots := 0, locals := 0 } : Room) [.ref aX] [(aX, .inr (9, [.ref aF, .ref aC, .ref aP, .ref aT, .ref aK, .ref aR, .ref aH, .ref aI, .int fd])), (aP, .inr (2, [.ref aPb, .int ln, .int ov]))] (fun r u => r = ln ∧ u = [(aX, .inr (9, [.ref aF, .ref aC, .ref aP, .ref aT, .ref aK, .ref aR, .ref aH, .ref aI, .int fd])), (aP, .inr (2, [.ref aPb, .int (nI 0), .int ov]))]) := by
  refine met_i (own := "ProofReader") (by decide) rfl (Nat.le_of_ble_eq_true rfl) ?_
  intro p e s m args below meth c A Q S hA ret ls hl hW
  have hl : lv_has ls 2 [(0, .ref aX)] := hl
  have hW : Wd D (tyl cI cJ cB cZ) A s s.heap s.heap [] [(aX, .inr (9, [.ref aF, .ref aC, .ref aP, .ref aT, .ref aK, .ref aR, .ref aH, .ref aI, .int fd])), (aP, .inr (2, [.ref aPb, .int ln, .int ov]))] := hW
  refine lv_aload_n S.1 S.2.1 d_X_wipe_0 rfl (lv_at hl 0 rfl) ?_
  refine g_get i_X S hW 0 rfl rfl 2 (by decide) kf_X_26 rfl d_X_wipe_1 ?_
  refine g_get i_P S hW 1 rfl rfl 1 (by decide) kf_X_125 rfl d_X_wipe_4 ?_
  refine lv_istore_n (lv' := [(1, .int ln), (0, .ref aX)]) S.1 S.2.1 d_X_wipe_7 rfl hl (by decide) rfl (fun ls hl => ?_)
  refine lv_aload_n S.1 S.2.1 d_X_wipe_8 rfl (lv_at hl 1 rfl) ?_
  refine g_get i_X S hW 0 rfl rfl 2 (by decide) kf_X_26 rfl d_X_wipe_9 ?_
  refine lv_iconst (v := (nI 0)) S.1 S.2.1 d_X_wipe_12 (by decide) ?_
  refine g_put (ws2 := [(aX, .inr (9, [.ref aF, .ref aC, .ref aP, .ref aT, .ref aK, .ref aR, .ref aH, .ref aI, .int fd])), (aP, .inr (2, [.ref aPb, .int (nI 0), .int ov]))]) i_P ft_P ft_P_ok n_P S hW 1 rfl rfl 1 (by decide) kf_X_125 rfl rfl rfl (Nat.le_of_ble_eq_true rfl) rfl d_X_wipe_13 (fun H locs hW => ?_)
  refine lv_iload_n S.1 S.2.1 d_X_wipe_16 rfl (lv_at hl 0 rfl) ?_
  exact ret _ _ _ _ _ _ d_X_wipe_17 rfl ⟨rfl, rfl⟩ hW
theorem d_X_clear_0 : decode b_X_clear 0 = .ok (.aload_n 0, 1) := by decide +kernel
theorem d_X_clear_1 : decode b_X_clear 1 = .ok (.getfield 44, 3) := by decide +kernel
theorem d_X_clear_4 : decode b_X_clear 4 = .ok (.getfield 121, 3) := by decide +kernel
theorem d_X_clear_7 : decode b_X_clear 7 = .ok (.istore_n 1, 1) := by decide +kernel
theorem d_X_clear_8 : decode b_X_clear 8 = .ok (.aload_n 0, 1) := by decide +kernel
theorem d_X_clear_9 : decode b_X_clear 9 = .ok (.getfield 44, 3) := by decide +kernel
theorem d_X_clear_12 : decode b_X_clear 12 = .ok (.invokevirtual 124, 3) := by decide +kernel
theorem d_X_clear_15 : decode b_X_clear 15 = .ok (.aload_n 0, 1) := by decide +kernel
theorem d_X_clear_16 : decode b_X_clear 16 = .ok (.getfield 35, 3) := by decide +kernel
theorem d_X_clear_19 : decode b_X_clear 19 = .ok (.invokevirtual 112, 3) := by decide +kernel
theorem d_X_clear_22 : decode b_X_clear 22 = .ok (.aload_n 0, 1) := by decide +kernel
theorem d_X_clear_23 : decode b_X_clear 23 = .ok (.getfield 26, 3) := by decide +kernel
theorem d_X_clear_26 : decode b_X_clear 26 = .ok (.iconst 0, 1) := by decide +kernel
theorem d_X_clear_27 : decode b_X_clear 27 = .ok (.putfield 125, 3) := by decide +kernel
theorem d_X_clear_30 : decode b_X_clear 30 = .ok (.aload_n 0, 1) := by decide +kernel
theorem d_X_clear_31 : decode b_X_clear 31 = .ok (.iconst 0, 1) := by decide +kernel
theorem d_X_clear_32 : decode b_X_clear 32 = .ok (.putfield 75, 3) := by decide +kernel
theorem d_X_clear_35 : decode b_X_clear 35 = .ok (.iload_n 1, 1) := by decide +kernel
theorem d_X_clear_36 : decode b_X_clear 36 = .ok (.ireturn, 1) := by decide +kernel
set_option maxHeartbeats 4000000 in
set_option maxRecDepth 100000 in
theorem c_X_clear (l : Launch) (D : va_G) (cI cJ cB cZ : ClassId) (aX aF aC aP aT aK aR aH aI : Nat) (aK0 aK1 aK2 aK3 aK4 aTb aPb : Nat) (cn ce nx ln kd st pl ov fd : Int32) (fr bk : Int64) : Ci l D (tyl cI cJ cB cZ) y_X_clear b_X_clear 2 (some .int) ({ frames := 1, cells := 0, slots := 0, locals := 20 } : Room) [.ref aX] [(aX, .inr (9, [.ref aF, .ref aC, .ref aP, .ref aT, .ref aK, .ref aR, .ref aH, .ref aI, .int fd])), (aK, .inr (4, [.ref aC, .ref aK0, .ref aK1, .ref aK2, .ref aK3, .ref aK4, .int cn, .int ce])), (aT, .inr (3, [.ref aF, .ref aTb, .int nx, .int ln, .int kd, .int st, .long fr, .long bk])), (aP, .inr (2, [.ref aPb, .int pl, .int ov]))] (fun r u => r = cn ∧ u = [(aX, .inr (9, [.ref aF, .ref aC, .ref aP, .ref aT, .ref aK, .ref aR, .ref aH, .ref aI, .int (nI 0)])), (aK, .inr (4, [.ref aC, .ref aK0, .ref aK1, .ref aK2, .ref aK3, .ref aK4, .int (nI 0), .int (nI 0)])), (aT, .inr (3, [.ref aF, .ref aTb, .int nx, .int (nI 0), .int kd, .int st, .long fr, .long bk])), (aP, .inr (2, [.ref aPb, .int (nI 0), .int ov]))]) := by
  refine met_i (own := "ProofReader") (by decide) rfl (Nat.le_of_ble_eq_true rfl) ?_
  intro p e s m args below meth c A Q S hA ret ls hl hW
  have hl : lv_has ls 2 [(0, .ref aX)] := hl
  have hW : Wd D (tyl cI cJ cB cZ) A s s.heap s.heap [] [(aX, .inr (9, [.ref aF, .ref aC, .ref aP, .ref aT, .ref aK, .ref aR, .ref aH, .ref aI, .int fd])), (aK, .inr (4, [.ref aC, .ref aK0, .ref aK1, .ref aK2, .ref aK3, .ref aK4, .int cn, .int ce])), (aT, .inr (3, [.ref aF, .ref aTb, .int nx, .int ln, .int kd, .int st, .long fr, .long bk])), (aP, .inr (2, [.ref aPb, .int pl, .int ov]))] := hW
  refine lv_aload_n S.1 S.2.1 d_X_clear_0 rfl (lv_at hl 0 rfl) ?_
  refine g_get i_X S hW 0 rfl rfl 4 (by decide) kf_X_44 rfl d_X_clear_1 ?_
  refine g_get i_K S hW 1 rfl rfl 6 (by decide) kf_X_121 rfl d_X_clear_4 ?_
  refine lv_istore_n (lv' := [(1, .int cn), (0, .ref aX)]) S.1 S.2.1 d_X_clear_7 rfl hl (by decide) rfl (fun ls hl => ?_)
  refine lv_aload_n S.1 S.2.1 d_X_clear_8 rfl (lv_at hl 1 rfl) ?_
  refine g_get i_X S hW 0 rfl rfl 4 (by decide) kf_X_44 rfl d_X_clear_9 ?_
  refine callV_v (wr := [(aX, .inr (9, [.ref aF, .ref aC, .ref aP, .ref aT, .ref aK, .ref aR, .ref aH, .ref aI, .int fd])), (aT, .inr (3, [.ref aF, .ref aTb, .int nx, .int ln, .int kd, .int st, .long fr, .long bk])), (aP, .inr (2, [.ref aPb, .int pl, .int ov]))]) (wc := [(aK, .inr (4, [.ref aC, .ref aK0, .ref aK1, .ref aK2, .ref aK3, .ref aK4, .int cn, .int ce]))]) (np := 0) (As := []) (rest := []) (c_K_forget l D cI cJ cB cZ aK aC aK0 aK1 aK2 aK3 aK4 cn ce ) km_X_124 ki_K_forget kv_K_forget kz_K kk_K_forget (by decide +kernel) S hW hA ⟨Nat.le_of_ble_eq_true rfl, Nat.le_of_ble_eq_true rfl⟩ ⟨Nat.le_of_ble_eq_true rfl, Nat.le_of_ble_eq_true rfl⟩ rfl 0 rfl [1] [0, 2, 3] rfl (by decide) rfl (by decide) (by decide) rfl hl.1 rfl (Nat.le_of_ble_eq_true rfl) d_X_clear_12 (fun u H locs hp hW => ?_)
  obtain rfl := hp
  have hW : Wd D (tyl cI cJ cB cZ) A s s.heap H locs [(aX, .inr (9, [.ref aF, .ref aC, .ref aP, .ref aT, .ref aK, .ref aR, .ref aH, .ref aI, .int fd])), (aK, .inr (4, [.ref aC, .ref aK0, .ref aK1, .ref aK2, .ref aK3, .ref aK4, .int (nI 0), .int (nI 0)])), (aT, .inr (3, [.ref aF, .ref aTb, .int nx, .int ln, .int kd, .int st, .long fr, .long bk])), (aP, .inr (2, [.ref aPb, .int pl, .int ov]))] := hW.sub [0, 3, 1, 2] (by decide) rfl
  refine lv_aload_n S.1 S.2.1 d_X_clear_15 rfl (lv_at hl 1 rfl) ?_
  refine g_get i_X S hW 0 rfl rfl 3 (by decide) kf_X_35 rfl d_X_clear_16 ?_
  refine callV_v (wr := [(aX, .inr (9, [.ref aF, .ref aC, .ref aP, .ref aT, .ref aK, .ref aR, .ref aH, .ref aI, .int fd])), (aK, .inr (4, [.ref aC, .ref aK0, .ref aK1, .ref aK2, .ref aK3, .ref aK4, .int (nI 0), .int (nI 0)])), (aP, .inr (2, [.ref aPb, .int pl, .int ov]))]) (wc := [(aT, .inr (3, [.ref aF, .ref aTb, .int nx, .int ln, .int kd, .int st, .long fr, .long bk]))]) (np := 0) (As := []) (rest := []) (c_T_drop l D cI cJ cB cZ aT aF aTb nx ln kd st fr bk ) km_X_112 ki_T_drop kv_T_drop kz_T kk_T_drop (by decide +kernel) S hW hA ⟨Nat.le_of_ble_eq_true rfl, Nat.le_of_ble_eq_true rfl⟩ ⟨Nat.le_of_ble_eq_true rfl, Nat.le_of_ble_eq_true rfl⟩ rfl 0 rfl [2] [0, 1, 3] rfl (by decide) rfl (by decide) (by decide) rfl hl.1 rfl (Nat.le_of_ble_eq_true rfl) d_X_clear_19 (fun u H locs hp hW => ?_)
  obtain rfl := hp
  have hW : Wd D (tyl cI cJ cB cZ) A s s.heap H locs [(aX, .inr (9, [.ref aF, .ref aC, .ref aP, .ref aT, .ref aK, .ref aR, .ref aH, .ref aI, .int fd])), (aK, .inr (4, [.ref aC, .ref aK0, .ref aK1, .ref aK2, .ref aK3, .ref aK4, .int (nI 0), .int (nI 0)])), (aT, .inr (3, [.ref aF, .ref aTb, .int nx, .int (nI 0), .int kd, .int st, .long fr, .long bk])), (aP, .inr (2, [.ref aPb, .int pl, .int ov]))] := hW.sub [0, 1, 3, 2] (by decide) rfl
  refine lv_aload_n S.1 S.2.1 d_X_clear_22 rfl (lv_at hl 1 rfl) ?_
  refine g_get i_X S hW 0 rfl rfl 2 (by decide) kf_X_26 rfl d_X_clear_23 ?_
  refine lv_iconst (v := (nI 0)) S.1 S.2.1 d_X_clear_26 (by decide) ?_
  refine g_put (ws2 := [(aX, .inr (9, [.ref aF, .ref aC, .ref aP, .ref aT, .ref aK, .ref aR, .ref aH, .ref aI, .int fd])), (aK, .inr (4, [.ref aC, .ref aK0, .ref aK1, .ref aK2, .ref aK3, .ref aK4, .int (nI 0), .int (nI 0)])), (aT, .inr (3, [.ref aF, .ref aTb, .int nx, .int (nI 0), .int kd, .int st, .long fr, .long bk])), (aP, .inr (2, [.ref aPb, .int (nI 0), .int ov]))]) i_P ft_P ft_P_ok n_P S hW 3 rfl rfl 1 (by decide) kf_X_125 rfl rfl rfl (Nat.le_of_ble_eq_true rfl) rfl d_X_clear_27 (fun H locs hW => ?_)
  refine lv_aload_n S.1 S.2.1 d_X_clear_30 rfl (lv_at hl 1 rfl) ?_
  refine lv_iconst (v := (nI 0)) S.1 S.2.1 d_X_clear_31 (by decide) ?_
  refine g_put (ws2 := [(aX, .inr (9, [.ref aF, .ref aC, .ref aP, .ref aT, .ref aK, .ref aR, .ref aH, .ref aI, .int (nI 0)])), (aK, .inr (4, [.ref aC, .ref aK0, .ref aK1, .ref aK2, .ref aK3, .ref aK4, .int (nI 0), .int (nI 0)])), (aT, .inr (3, [.ref aF, .ref aTb, .int nx, .int (nI 0), .int kd, .int st, .long fr, .long bk])), (aP, .inr (2, [.ref aPb, .int (nI 0), .int ov]))]) i_X ft_X ft_X_ok n_X S hW 0 rfl rfl 8 (by decide) kf_X_75 rfl rfl rfl (Nat.le_of_ble_eq_true rfl) rfl d_X_clear_32 (fun H locs hW => ?_)
  refine lv_iload_n S.1 S.2.1 d_X_clear_35 rfl (lv_at hl 0 rfl) ?_
  exact ret _ _ _ _ _ _ d_X_clear_36 rfl ⟨rfl, rfl⟩ hW
theorem d_P_at_0 : decode b_P_at 0 = .ok (.lload_n 1, 1) := by decide +kernel
theorem d_P_at_1 : decode b_P_at 1 = .ok (.lconst 0, 1) := by decide +kernel
theorem d_P_at_2 : decode b_P_at 2 = .ok (.lcmp, 1) := by decide +kernel
theorem d_P_at_3 : decode b_P_at 3 = .ok (.ifCond .lt 13, 3) := by decide +kernel
theorem d_P_at_6 : decode b_P_at 6 = .ok (.lload_n 1, 1) := by decide +kernel
theorem d_P_at_7 : decode b_P_at 7 = .ok (.aload_n 0, 1) := by decide +kernel
theorem d_P_at_8 : decode b_P_at 8 = .ok (.getfield 15, 3) := by decide +kernel
theorem d_P_at_11 : decode b_P_at 11 = .ok (.i2l, 1) := by decide +kernel
theorem d_P_at_12 : decode b_P_at 12 = .ok (.lcmp, 1) := by decide +kernel
theorem d_P_at_13 : decode b_P_at 13 = .ok (.ifCond .lt 7, 3) := by decide +kernel
theorem d_P_at_16 : decode b_P_at 16 = .ok (.lconst 0, 1) := by decide +kernel
theorem d_P_at_17 : decode b_P_at 17 = .ok (.goto 15, 3) := by decide +kernel
theorem d_P_at_20 : decode b_P_at 20 = .ok (.aload_n 0, 1) := by decide +kernel
theorem d_P_at_21 : decode b_P_at 21 = .ok (.getfield 9, 3) := by decide +kernel
theorem d_P_at_24 : decode b_P_at 24 = .ok (.lload_n 1, 1) := by decide +kernel
theorem d_P_at_25 : decode b_P_at 25 = .ok (.l2i, 1) := by decide +kernel
theorem d_P_at_26 : decode b_P_at 26 = .ok (.baload, 1) := by decide +kernel
theorem d_P_at_27 : decode b_P_at 27 = .ok (.sipush 255, 3) := by decide +kernel
theorem d_P_at_30 : decode b_P_at 30 = .ok (.iand, 1) := by decide +kernel
theorem d_P_at_31 : decode b_P_at 31 = .ok (.i2l, 1) := by decide +kernel
theorem d_P_at_32 : decode b_P_at 32 = .ok (.lreturn, 1) := by decide +kernel
set_option maxHeartbeats 4000000 in
set_option maxRecDepth 100000 in
theorem c_P_at (l : Launch) (D : va_G) (cI cJ cB cZ : ClassId) (aP aPb : Nat) (x : Int64) (ov : Int32) : Cl l D (tyl cI cJ cB cZ) y_P_at b_P_at 3 (some .long) ({ frames := 0, cells := 0, slots := 0, locals := 0 } : Room) [.ref aP, .long x] [(aP, .inr (2, [.ref aPb, .int (nI 0), .int ov]))] (fun r u => r = 0 ∧ u = [(aP, .inr (2, [.ref aPb, .int (nI 0), .int ov]))]) := by
  refine met_l (own := "ProofReader$Paper") (by decide) rfl (Nat.le_of_ble_eq_true rfl) ?_
  intro p e s m args below meth c A Q S hA ret ls hl hW
  have hl : lv_has ls 3 [(0, .ref aP), (1, .long x)] := hl
  have hW : Wd D (tyl cI cJ cB cZ) A s s.heap s.heap [] [(aP, .inr (2, [.ref aPb, .int (nI 0), .int ov]))] := hW
  refine lv_lload_n S.1 S.2.1 d_P_at_0 rfl (lv_at hl 1 rfl) ?_
  refine lv_lconst (v := 0) S.1 S.2.1 d_P_at_1 rfl ?_
  refine W.lcmp S.1 S.2.1 d_P_at_2 ?_
  refine lv_if_lt (tgt := 16) S.1 S.2.1 d_P_at_3 (by decide) (fun c_3 => ?_) (fun c_3 => ?_)
  · refine lv_lconst (v := 0) S.1 S.2.1 d_P_at_16 rfl ?_
    refine lv_goto (tgt := 32) S.1 S.2.1 d_P_at_17 (by decide) ?_
    exact ret _ _ _ _ _ _ d_P_at_32 ⟨rfl, rfl⟩ hW
  · refine lv_lload_n S.1 S.2.1 d_P_at_6 rfl (lv_at hl 1 rfl) ?_
    refine lv_aload_n S.1 S.2.1 d_P_at_7 rfl (lv_at hl 0 rfl) ?_
    refine g_get i_P S hW 0 rfl rfl 1 (by decide) kf_P_15 rfl d_P_at_8 ?_
    refine lv_i2l (v := (nI 0).toInt64) S.1 S.2.1 d_P_at_11 rfl ?_
    refine W.lcmp S.1 S.2.1 d_P_at_12 ?_
    refine lv_if_lt (tgt := 20) S.1 S.2.1 d_P_at_13 (by decide) (fun c_13 => absurd c_13 (by rw [(show (nI 0).toInt64 = 0 by decide)]; exact c_3)) (fun c_13 => ?_)
    refine lv_lconst (v := 0) S.1 S.2.1 d_P_at_16 rfl ?_
    refine lv_goto (tgt := 32) S.1 S.2.1 d_P_at_17 (by decide) ?_
    exact ret _ _ _ _ _ _ d_P_at_32 ⟨rfl, rfl⟩ hW
theorem d_X_paper_0 : decode b_X_paper 0 = .ok (.lconst 0, 1) := by decide +kernel
theorem d_X_paper_1 : decode b_X_paper 1 = .ok (.lstore_n 2, 1) := by decide +kernel
theorem d_X_paper_2 : decode b_X_paper 2 = .ok (.iconst 0, 1) := by decide +kernel
theorem d_X_paper_3 : decode b_X_paper 3 = .ok (.istore 4, 2) := by decide +kernel
theorem d_X_paper_5 : decode b_X_paper 5 = .ok (.iload 4, 2) := by decide +kernel
theorem d_X_paper_7 : decode b_X_paper 7 = .ok (.bipush 8, 2) := by decide +kernel
theorem d_X_paper_9 : decode b_X_paper 9 = .ok (.if_icmp .ge 31, 3) := by decide +kernel
theorem d_X_paper_12 : decode b_X_paper 12 = .ok (.lload_n 2, 1) := by decide +kernel
theorem d_X_paper_13 : decode b_X_paper 13 = .ok (.aload_n 0, 1) := by decide +kernel
theorem d_X_paper_14 : decode b_X_paper 14 = .ok (.getfield 26, 3) := by decide +kernel
theorem d_X_paper_17 : decode b_X_paper 17 = .ok (.iload_n 1, 1) := by decide +kernel
theorem d_X_paper_18 : decode b_X_paper 18 = .ok (.i2l, 1) := by decide +kernel
theorem d_X_paper_19 : decode b_X_paper 19 = .ok (.iload 4, 2) := by decide +kernel
theorem d_X_paper_21 : decode b_X_paper 21 = .ok (.i2l, 1) := by decide +kernel
theorem d_X_paper_22 : decode b_X_paper 22 = .ok (.ladd, 1) := by decide +kernel
theorem d_X_paper_23 : decode b_X_paper 23 = .ok (.invokevirtual 158, 3) := by decide +kernel
theorem d_X_paper_26 : decode b_X_paper 26 = .ok (.bipush 8, 2) := by decide +kernel
theorem d_X_paper_28 : decode b_X_paper 28 = .ok (.iload 4, 2) := by decide +kernel
theorem d_X_paper_30 : decode b_X_paper 30 = .ok (.imul, 1) := by decide +kernel
theorem d_X_paper_31 : decode b_X_paper 31 = .ok (.lshl, 1) := by decide +kernel
theorem d_X_paper_32 : decode b_X_paper 32 = .ok (.lor, 1) := by decide +kernel
theorem d_X_paper_33 : decode b_X_paper 33 = .ok (.lstore_n 2, 1) := by decide +kernel
theorem d_X_paper_34 : decode b_X_paper 34 = .ok (.iinc 4 1, 3) := by decide +kernel
theorem d_X_paper_37 : decode b_X_paper 37 = .ok (.goto (-32), 3) := by decide +kernel
theorem d_X_paper_40 : decode b_X_paper 40 = .ok (.lload_n 2, 1) := by decide +kernel
theorem d_X_paper_41 : decode b_X_paper 41 = .ok (.lreturn, 1) := by decide +kernel
set_option maxHeartbeats 4000000 in
set_option maxRecDepth 100000 in
theorem c_X_paper (l : Launch) (D : va_G) (cI cJ cB cZ : ClassId) (aX aF aC aP aT aK aR aH aI : Nat) (aPb : Nat) (i ov fd : Int32) : Cl l D (tyl cI cJ cB cZ) y_X_paper b_X_paper 5 (some .long) ({ frames := 1, cells := 0, slots := 0, locals := 22 } : Room) [.ref aX, .int i] [(aX, .inr (9, [.ref aF, .ref aC, .ref aP, .ref aT, .ref aK, .ref aR, .ref aH, .ref aI, .int fd])), (aP, .inr (2, [.ref aPb, .int (nI 0), .int ov]))] (fun r u => r = 0 ∧ u = [(aX, .inr (9, [.ref aF, .ref aC, .ref aP, .ref aT, .ref aK, .ref aR, .ref aH, .ref aI, .int fd])), (aP, .inr (2, [.ref aPb, .int (nI 0), .int ov]))]) := by
  refine met_l (own := "ProofReader") (by decide) rfl (Nat.le_of_ble_eq_true rfl) ?_
  intro p e s m args below meth c A Q S hA ret ls hl hW
  have hl : lv_has ls 5 [(0, .ref aX), (1, .int i)] := hl
  have hW : Wd D (tyl cI cJ cB cZ) A s s.heap s.heap [] [(aX, .inr (9, [.ref aF, .ref aC, .ref aP, .ref aT, .ref aK, .ref aR, .ref aH, .ref aI, .int fd])), (aP, .inr (2, [.ref aPb, .int (nI 0), .int ov]))] := hW
  refine lv_lconst (v := 0) S.1 S.2.1 d_X_paper_0 rfl ?_
  refine lv_lstore_n (lv' := [(2, .long 0), (0, .ref aX), (1, .int i)]) S.1 S.2.1 d_X_paper_1 rfl hl (by decide) rfl (fun ls hl => ?_)
  refine lv_iconst (v := (nI 0)) S.1 S.2.1 d_X_paper_2 (by decide) ?_
  refine lv_istore (lv' := [(4, .int (nI 0)), (2, .long 0), (0, .ref aX), (1, .int i)]) S.1 S.2.1 d_X_paper_3 hl (by decide) rfl (fun ls hl => ?_)
  have loop_5 : ∀ (nf : Nat) (n : Nat), 8 - n < nf → (n ≤ 8) → ∀ (H : Heap) (locs : List Loc), Wd D (tyl cI cJ cB cZ) A s s.heap H locs [(aX, .inr (9, [.ref aF, .ref aC, .ref aP, .ref aT, .ref aK, .ref aR, .ref aH, .ref aI, .int fd])), (aP, .inr (2, [.ref aPb, .int (nI 0), .int ov]))] → ∀ (ls : Array Slot), lv_has ls 5 [(4, .int (nI n)), (2, .long 0), (0, .ref aX), (1, .int i)] → W p l e ({ frames := 1, cells := 0, slots := 0, locals := 22 } : Room) s m args below meth c H locs 0 0 Q (F0 m 5 ls []) := by
    intro nf
    induction nf with
    | zero =>
      intros
      omega
    | succ nf ih =>
      intro n hnf hn H locs hW ls hl
      refine lv_iload S.1 S.2.1 d_X_paper_5 (lv_at hl 0 rfl) ?_
      refine lv_bipush (v := (nI 8)) S.1 S.2.1 d_X_paper_7 (by decide) ?_
      refine n_icmp_ge (tgt := 40) S (by omega) (by omega) d_X_paper_9 (by decide) (fun c_9 => ?_) (fun c_9 => ?_)
      · refine lv_lload_n S.1 S.2.1 d_X_paper_40 rfl (lv_at hl 1 rfl) ?_
        exact ret _ _ _ _ _ _ d_X_paper_41 ⟨rfl, rfl⟩ hW
      · refine lv_lload_n S.1 S.2.1 d_X_paper_12 rfl (lv_at hl 1 rfl) ?_
        refine lv_aload_n S.1 S.2.1 d_X_paper_13 rfl (lv_at hl 2 rfl) ?_
        refine g_get i_X S hW 0 rfl rfl 2 (by decide) kf_X_26 rfl d_X_paper_14 ?_
        refine lv_iload_n S.1 S.2.1 d_X_paper_17 rfl (lv_at hl 3 rfl) ?_
        refine lv_i2l (v := i.toInt64) S.1 S.2.1 d_X_paper_18 rfl ?_
        refine lv_iload S.1 S.2.1 d_X_paper_19 (lv_at hl 0 rfl) ?_
        refine lv_i2l (v := (nI n).toInt64) S.1 S.2.1 d_X_paper_21 rfl ?_
        refine lv_ladd S.1 S.2.1 d_X_paper_22 ?_
        refine callV_l (wr := [(aX, .inr (9, [.ref aF, .ref aC, .ref aP, .ref aT, .ref aK, .ref aR, .ref aH, .ref aI, .int fd]))]) (wc := [(aP, .inr (2, [.ref aPb, .int (nI 0), .int ov]))]) (np := 1) (As := [.long (i.toInt64 + ((nI n).toInt64))]) (rest := [.long 0]) (c_P_at l D cI cJ cB cZ aP aPb (i.toInt64 + ((nI n).toInt64)) ov ) km_X_158 ki_P_at kv_P_at kz_P kk_P_at (by decide +kernel) S hW hA ⟨Nat.le_of_ble_eq_true rfl, Nat.le_of_ble_eq_true rfl⟩ ⟨Nat.le_of_ble_eq_true rfl, Nat.le_of_ble_eq_true rfl⟩ rfl 0 rfl [1] [0] rfl (by decide) rfl (by decide) (by decide) rfl hl.1 rfl (Nat.le_of_ble_eq_true rfl) d_X_paper_23 (fun r u H locs hp hW => ?_)
        obtain ⟨rfl, rfl⟩ := hp
        have hW : Wd D (tyl cI cJ cB cZ) A s s.heap H locs [(aX, .inr (9, [.ref aF, .ref aC, .ref aP, .ref aT, .ref aK, .ref aR, .ref aH, .ref aI, .int fd])), (aP, .inr (2, [.ref aPb, .int (nI 0), .int ov]))] := hW
        refine lv_bipush (v := (nI 8)) S.1 S.2.1 d_X_paper_26 (by decide) ?_
        refine lv_iload S.1 S.2.1 d_X_paper_28 (lv_at hl 0 rfl) ?_
        refine n_imul S d_X_paper_30 ?_
        refine lv_lshl (v := 0 <<< ((nI (8 * n)).toInt64 &&& 63)) S.1 S.2.1 d_X_paper_31 rfl ?_
        refine lv_lor S.1 S.2.1 d_X_paper_32 ?_
        refine topl_eq (y := 0) (z_shl _) ?_
        refine lv_lstore_n (lv' := [(2, .long 0), (4, .int (nI n)), (0, .ref aX), (1, .int i)]) S.1 S.2.1 d_X_paper_33 rfl hl (by decide) rfl (fun ls hl => ?_)
        refine lv_iinc (v := (nI (n + 1))) (lv' := [(4, .int (nI (n + 1))), (2, .long 0), (0, .ref aX), (1, .int i)]) S.1 S.2.1 d_X_paper_34 hl (k := 1) rfl (inc_eq _ 1 _ (by decide)) (by decide) rfl (fun ls hl => ?_)
        refine lv_goto (tgt := 5) S.1 S.2.1 d_X_paper_37 (by decide) ?_
        exact ih (n + 1) (by omega) (by omega) _ _ hW _ (lv_sub hl [0, 1, 2, 3] rfl)
  exact loop_5 (8 - 0 + 1) 0 (Nat.lt_succ_self _) (by omega) _ _ hW _ (lv_sub hl [0, 1, 2, 3] rfl)
theorem d_X_read_0 : decode b_X_read 0 = .ok (.iconst 0, 1) := by decide +kernel
theorem d_X_read_1 : decode b_X_read 1 = .ok (.istore_n 1, 1) := by decide +kernel
theorem d_X_read_2 : decode b_X_read 2 = .ok (.aload_n 0, 1) := by decide +kernel
theorem d_X_read_3 : decode b_X_read 3 = .ok (.getfield 10, 3) := by decide +kernel
theorem d_X_read_6 : decode b_X_read 6 = .ok (.invokevirtual 93, 3) := by decide +kernel
theorem d_X_read_9 : decode b_X_read 9 = .ok (.aload_n 0, 1) := by decide +kernel
theorem d_X_read_10 : decode b_X_read 10 = .ok (.getfield 35, 3) := by decide +kernel
theorem d_X_read_13 : decode b_X_read 13 = .ok (.invokevirtual 96, 3) := by decide +kernel
theorem d_X_read_16 : decode b_X_read 16 = .ok (.iload_n 1, 1) := by decide +kernel
theorem d_X_read_17 : decode b_X_read 17 = .ok (.sipush 8192, 3) := by decide +kernel
theorem d_X_read_20 : decode b_X_read 20 = .ok (.if_icmp .ge 49, 3) := by decide +kernel
theorem d_X_read_23 : decode b_X_read 23 = .ok (.aload_n 0, 1) := by decide +kernel
theorem d_X_read_24 : decode b_X_read 24 = .ok (.getfield 35, 3) := by decide +kernel
theorem d_X_read_27 : decode b_X_read 27 = .ok (.invokevirtual 99, 3) := by decide +kernel
theorem d_X_read_30 : decode b_X_read 30 = .ok (.ifCond .eq 39, 3) := by decide +kernel
theorem d_X_read_33 : decode b_X_read 33 = .ok (.aload_n 0, 1) := by decide +kernel
theorem d_X_read_34 : decode b_X_read 34 = .ok (.getfield 35, 3) := by decide +kernel
theorem d_X_read_37 : decode b_X_read 37 = .ok (.getfield 103, 3) := by decide +kernel
theorem d_X_read_40 : decode b_X_read 40 = .ok (.ifCond .eq 29, 3) := by decide +kernel
theorem d_X_read_43 : decode b_X_read 43 = .ok (.aload_n 0, 1) := by decide +kernel
theorem d_X_read_44 : decode b_X_read 44 = .ok (.getfield 53, 3) := by decide +kernel
theorem d_X_read_47 : decode b_X_read 47 = .ok (.invokevirtual 106, 3) := by decide +kernel
theorem d_X_read_50 : decode b_X_read 50 = .ok (.ifCond .eq 19, 3) := by decide +kernel
theorem d_X_read_53 : decode b_X_read 53 = .ok (.aload_n 0, 1) := by decide +kernel
theorem d_X_read_54 : decode b_X_read 54 = .ok (.invokevirtual 109, 3) := by decide +kernel
theorem d_X_read_57 : decode b_X_read 57 = .ok (.ifCond .ne 6, 3) := by decide +kernel
theorem d_X_read_60 : decode b_X_read 60 = .ok (.goto 9, 3) := by decide +kernel
theorem d_X_read_63 : decode b_X_read 63 = .ok (.iinc 1 1, 3) := by decide +kernel
theorem d_X_read_66 : decode b_X_read 66 = .ok (.goto (-50), 3) := by decide +kernel
theorem d_X_read_69 : decode b_X_read 69 = .ok (.aload_n 0, 1) := by decide +kernel
theorem d_X_read_70 : decode b_X_read 70 = .ok (.getfield 35, 3) := by decide +kernel
theorem d_X_read_73 : decode b_X_read 73 = .ok (.invokevirtual 112, 3) := by decide +kernel
theorem d_X_read_76 : decode b_X_read 76 = .ok (.aload_n 0, 1) := by decide +kernel
theorem d_X_read_77 : decode b_X_read 77 = .ok (.getfield 10, 3) := by decide +kernel
theorem d_X_read_80 : decode b_X_read 80 = .ok (.getfield 115, 3) := by decide +kernel
theorem d_X_read_83 : decode b_X_read 83 = .ok (.ifCond .ne 7, 3) := by decide +kernel
theorem d_X_read_86 : decode b_X_read 86 = .ok (.iload_n 1, 1) := by decide +kernel
theorem d_X_read_87 : decode b_X_read 87 = .ok (.goto 4, 3) := by decide +kernel
theorem d_X_read_90 : decode b_X_read 90 = .ok (.iconst (-1), 1) := by decide +kernel
theorem d_X_read_91 : decode b_X_read 91 = .ok (.ireturn, 1) := by decide +kernel
set_option maxHeartbeats 4000000 in
set_option maxRecDepth 100000 in
theorem c_X_read (l : Launch) (D : va_G) (cI cJ cB cZ : ClassId) (aX aF aC aP aT aK aR aH aI : Nat) (aTb : Nat) (fn fw fd : Int32) : Ci l D (tyl cI cJ cB cZ) y_X_read b_X_read 2 (some .int) ({ frames := 1, cells := 0, slots := 0, locals := 21 } : Room) [.ref aX] [(aX, .inr (9, [.ref aF, .ref aC, .ref aP, .ref aT, .ref aK, .ref aR, .ref aH, .ref aI, .int fd])), (aF, .inr (0, [.int fn, .int fw])), (aT, .inr (3, [.ref aF, .ref aTb, .int (nI 0), .int (nI 0), .int (nI 0), .int (nI 0), .long 0, .long 0]))] (fun r u => r = (nI 0) ∧ u = [(aX, .inr (9, [.ref aF, .ref aC, .ref aP, .ref aT, .ref aK, .ref aR, .ref aH, .ref aI, .int fd])), (aF, .inr (0, [.int (nI 0), .int (-1)])), (aT, .inr (3, [.ref aF, .ref aTb, .int (nI 0), .int (nI 0), .int (nI 0), .int (nI 0), .long 0, .long 0]))]) := by
  refine met_i (own := "ProofReader") (by decide) rfl (Nat.le_of_ble_eq_true rfl) ?_
  intro p e s m args below meth c A Q S hA ret ls hl hW
  have hl : lv_has ls 2 [(0, .ref aX)] := hl
  have hW : Wd D (tyl cI cJ cB cZ) A s s.heap s.heap [] [(aX, .inr (9, [.ref aF, .ref aC, .ref aP, .ref aT, .ref aK, .ref aR, .ref aH, .ref aI, .int fd])), (aF, .inr (0, [.int fn, .int fw])), (aT, .inr (3, [.ref aF, .ref aTb, .int (nI 0), .int (nI 0), .int (nI 0), .int (nI 0), .long 0, .long 0]))] := hW
  refine lv_iconst (v := (nI 0)) S.1 S.2.1 d_X_read_0 (by decide) ?_
  refine lv_istore_n (lv' := [(1, .int (nI 0)), (0, .ref aX)]) S.1 S.2.1 d_X_read_1 rfl hl (by decide) rfl (fun ls hl => ?_)
  refine lv_aload_n S.1 S.2.1 d_X_read_2 rfl (lv_at hl 1 rfl) ?_
  refine g_get i_X S hW 0 rfl rfl 0 (by decide) kf_X_10 rfl d_X_read_3 ?_
  refine callV_v (wr := [(aX, .inr (9, [.ref aF, .ref aC, .ref aP, .ref aT, .ref aK, .ref aR, .ref aH, .ref aI, .int fd])), (aT, .inr (3, [.ref aF, .ref aTb, .int (nI 0), .int (nI 0), .int (nI 0), .int (nI 0), .long 0, .long 0]))]) (wc := [(aF, .inr (0, [.int fn, .int fw]))]) (np := 0) (As := []) (rest := []) (c_F_forget l D cI cJ cB cZ aF fn fw ) km_X_93 ki_F_forget kv_F_forget kz_F kk_F_forget (by decide +kernel) S hW hA ⟨Nat.le_of_ble_eq_true rfl, Nat.le_of_ble_eq_true rfl⟩ ⟨Nat.le_of_ble_eq_true rfl, Nat.le_of_ble_eq_true rfl⟩ rfl 0 rfl [1] [0, 2] rfl (by decide) rfl (by decide) (by decide) rfl hl.1 rfl (Nat.le_of_ble_eq_true rfl) d_X_read_6 (fun u H locs hp hW => ?_)
  obtain rfl := hp
  have hW : Wd D (tyl cI cJ cB cZ) A s s.heap H locs [(aX, .inr (9, [.ref aF, .ref aC, .ref aP, .ref aT, .ref aK, .ref aR, .ref aH, .ref aI, .int fd])), (aF, .inr (0, [.int (nI 0), .int (-1)])), (aT, .inr (3, [.ref aF, .ref aTb, .int (nI 0), .int (nI 0), .int (nI 0), .int (nI 0), .long 0, .long 0]))] := hW.sub [0, 2, 1] (by decide) rfl
  refine lv_aload_n S.1 S.2.1 d_X_read_9 rfl (lv_at hl 1 rfl) ?_
  refine g_get i_X S hW 0 rfl rfl 3 (by decide) kf_X_35 rfl d_X_read_10 ?_
  refine callV_v (wr := [(aX, .inr (9, [.ref aF, .ref aC, .ref aP, .ref aT, .ref aK, .ref aR, .ref aH, .ref aI, .int fd])), (aF, .inr (0, [.int (nI 0), .int (-1)]))]) (wc := [(aT, .inr (3, [.ref aF, .ref aTb, .int (nI 0), .int (nI 0), .int (nI 0), .int (nI 0), .long 0, .long 0]))]) (np := 0) (As := []) (rest := []) (c_T_restart l D cI cJ cB cZ aT aF aTb (nI 0) (nI 0) (nI 0) (nI 0) 0 0 ) km_X_96 ki_T_restart kv_T_restart kz_T kk_T_restart (by decide +kernel) S hW hA ⟨Nat.le_of_ble_eq_true rfl, Nat.le_of_ble_eq_true rfl⟩ ⟨Nat.le_of_ble_eq_true rfl, Nat.le_of_ble_eq_true rfl⟩ rfl 0 rfl [2] [0, 1] rfl (by decide) rfl (by decide) (by decide) rfl hl.1 rfl (Nat.le_of_ble_eq_true rfl) d_X_read_13 (fun u H locs hp hW => ?_)
  obtain rfl := hp
  have hW : Wd D (tyl cI cJ cB cZ) A s s.heap H locs [(aX, .inr (9, [.ref aF, .ref aC, .ref aP, .ref aT, .ref aK, .ref aR, .ref aH, .ref aI, .int fd])), (aF, .inr (0, [.int (nI 0), .int (-1)])), (aT, .inr (3, [.ref aF, .ref aTb, .int (nI 0), .int (nI 0), .int (nI 0), .int (nI 0), .long 0, .long 0]))] := hW
  refine lv_iload_n S.1 S.2.1 d_X_read_16 rfl (lv_at hl 0 rfl) ?_
  refine lv_sipush (v := (nI 8192)) S.1 S.2.1 d_X_read_17 (by decide) ?_
  refine lv_icmp_ge (tgt := 69) S.1 S.2.1 d_X_read_20 (by decide) (fun h => absurd h (by decide)) (fun _ => ?_)
  refine lv_aload_n S.1 S.2.1 d_X_read_23 rfl (lv_at hl 1 rfl) ?_
  refine g_get i_X S hW 0 rfl rfl 3 (by decide) kf_X_35 rfl d_X_read_24 ?_
  refine callV_i (wr := [(aX, .inr (9, [.ref aF, .ref aC, .ref aP, .ref aT, .ref aK, .ref aR, .ref aH, .ref aI, .int fd])), (aF, .inr (0, [.int (nI 0), .int (-1)]))]) (wc := [(aT, .inr (3, [.ref aF, .ref aTb, .int (nI 0), .int (nI 0), .int (nI 0), .int (nI 0), .long 0, .long 0]))]) (np := 0) (As := []) (rest := []) (c_T_advance l D cI cJ cB cZ aT aF aTb ) km_X_99 ki_T_advance kv_T_advance kz_T kk_T_advance (by decide +kernel) S hW hA ⟨Nat.le_of_ble_eq_true rfl, Nat.le_of_ble_eq_true rfl⟩ ⟨Nat.le_of_ble_eq_true rfl, Nat.le_of_ble_eq_true rfl⟩ rfl 0 rfl [2] [0, 1] rfl (by decide) rfl (by decide) (by decide) rfl hl.1 rfl (Nat.le_of_ble_eq_true rfl) d_X_read_27 (fun r u H locs hp hW => ?_)
  obtain ⟨rfl, rfl⟩ := hp
  have hW : Wd D (tyl cI cJ cB cZ) A s s.heap H locs [(aX, .inr (9, [.ref aF, .ref aC, .ref aP, .ref aT, .ref aK, .ref aR, .ref aH, .ref aI, .int fd])), (aF, .inr (0, [.int (nI 0), .int (-1)])), (aT, .inr (3, [.ref aF, .ref aTb, .int (nI 0), .int (nI 0), .int (nI 0), .int (nI 0), .long 0, .long 0]))] := hW
  refine lv_if_eq (tgt := 69) S.1 S.2.1 d_X_read_30 (by decide) (fun h => absurd h (by decide)) (fun _ => ?_)
  refine lv_aload_n S.1 S.2.1 d_X_read_33 rfl (lv_at hl 1 rfl) ?_
  refine g_get i_X S hW 0 rfl rfl 3 (by decide) kf_X_35 rfl d_X_read_34 ?_
  refine g_get i_T S hW 2 rfl rfl 4 (by decide) kf_X_103 rfl d_X_read_37 ?_
  refine lv_if_eq (tgt := 69) S.1 S.2.1 d_X_read_40 (by decide) (fun _ => ?_) (fun h => absurd h (by decide))
  refine lv_aload_n S.1 S.2.1 d_X_read_69 rfl (lv_at hl 1 rfl) ?_
  refine g_get i_X S hW 0 rfl rfl 3 (by decide) kf_X_35 rfl d_X_read_70 ?_
  refine callV_v (wr := [(aX, .inr (9, [.ref aF, .ref aC, .ref aP, .ref aT, .ref aK, .ref aR, .ref aH, .ref aI, .int fd])), (aF, .inr (0, [.int (nI 0), .int (-1)]))]) (wc := [(aT, .inr (3, [.ref aF, .ref aTb, .int (nI 0), .int (nI 0), .int (nI 0), .int (nI 0), .long 0, .long 0]))]) (np := 0) (As := []) (rest := []) (c_T_drop l D cI cJ cB cZ aT aF aTb (nI 0) (nI 0) (nI 0) (nI 0) 0 0 ) km_X_112 ki_T_drop kv_T_drop kz_T kk_T_drop (by decide +kernel) S hW hA ⟨Nat.le_of_ble_eq_true rfl, Nat.le_of_ble_eq_true rfl⟩ ⟨Nat.le_of_ble_eq_true rfl, Nat.le_of_ble_eq_true rfl⟩ rfl 0 rfl [2] [0, 1] rfl (by decide) rfl (by decide) (by decide) rfl hl.1 rfl (Nat.le_of_ble_eq_true rfl) d_X_read_73 (fun u H locs hp hW => ?_)
  obtain rfl := hp
  have hW : Wd D (tyl cI cJ cB cZ) A s s.heap H locs [(aX, .inr (9, [.ref aF, .ref aC, .ref aP, .ref aT, .ref aK, .ref aR, .ref aH, .ref aI, .int fd])), (aF, .inr (0, [.int (nI 0), .int (-1)])), (aT, .inr (3, [.ref aF, .ref aTb, .int (nI 0), .int (nI 0), .int (nI 0), .int (nI 0), .long 0, .long 0]))] := hW
  refine lv_aload_n S.1 S.2.1 d_X_read_76 rfl (lv_at hl 1 rfl) ?_
  refine g_get i_X S hW 0 rfl rfl 0 (by decide) kf_X_10 rfl d_X_read_77 ?_
  refine g_get i_F S hW 1 rfl rfl 0 (by decide) kf_X_115 rfl d_X_read_80 ?_
  refine lv_if_ne (tgt := 90) S.1 S.2.1 d_X_read_83 (by decide) (fun h => absurd h (by decide)) (fun _ => ?_)
  refine lv_iload_n S.1 S.2.1 d_X_read_86 rfl (lv_at hl 0 rfl) ?_
  refine lv_goto (tgt := 91) S.1 S.2.1 d_X_read_87 (by decide) ?_
  exact ret _ _ _ _ _ _ d_X_read_91 rfl ⟨rfl, rfl⟩ hW
theorem d_X_feed_0 : decode b_X_feed 0 = .ok (.iload_n 1, 1) := by decide +kernel
theorem d_X_feed_1 : decode b_X_feed 1 = .ok (.iconst 1, 1) := by decide +kernel
theorem d_X_feed_2 : decode b_X_feed 2 = .ok (.if_icmp .lt 9, 3) := by decide +kernel
theorem d_X_feed_5 : decode b_X_feed 5 = .ok (.iload_n 1, 1) := by decide +kernel
theorem d_X_feed_6 : decode b_X_feed 6 = .ok (.bipush 8, 2) := by decide +kernel
theorem d_X_feed_8 : decode b_X_feed 8 = .ok (.if_icmp .le 13, 3) := by decide +kernel
theorem d_X_feed_11 : decode b_X_feed 11 = .ok (.new 79, 3) := by decide +kernel
theorem d_X_feed_14 : decode b_X_feed 14 = .ok (.dup, 1) := by decide +kernel
theorem d_X_feed_15 : decode b_X_feed 15 = .ok (.ldc 81, 2) := by decide +kernel
theorem d_X_feed_17 : decode b_X_feed 17 = .ok (.invokespecial 83, 3) := by decide +kernel
theorem d_X_feed_20 : decode b_X_feed 20 = .ok (.athrow, 1) := by decide +kernel
theorem d_X_feed_21 : decode b_X_feed 21 = .ok (.iload_n 1, 1) := by decide +kernel
theorem d_X_feed_22 : decode b_X_feed 22 = .ok (.sipush 8192, 3) := by decide +kernel
theorem d_X_feed_25 : decode b_X_feed 25 = .ok (.aload_n 0, 1) := by decide +kernel
theorem d_X_feed_26 : decode b_X_feed 26 = .ok (.getfield 75, 3) := by decide +kernel
theorem d_X_feed_29 : decode b_X_feed 29 = .ok (.isub, 1) := by decide +kernel
theorem d_X_feed_30 : decode b_X_feed 30 = .ok (.if_icmp .le 5, 3) := by decide +kernel
theorem d_X_feed_33 : decode b_X_feed 33 = .ok (.iconst (-1), 1) := by decide +kernel
theorem d_X_feed_34 : decode b_X_feed 34 = .ok (.ireturn, 1) := by decide +kernel
theorem d_X_feed_35 : decode b_X_feed 35 = .ok (.iconst 0, 1) := by decide +kernel
theorem d_X_feed_36 : decode b_X_feed 36 = .ok (.istore 4, 2) := by decide +kernel
theorem d_X_feed_38 : decode b_X_feed 38 = .ok (.iload 4, 2) := by decide +kernel
theorem d_X_feed_40 : decode b_X_feed 40 = .ok (.iload_n 1, 1) := by decide +kernel
theorem d_X_feed_41 : decode b_X_feed 41 = .ok (.if_icmp .ge 25, 3) := by decide +kernel
theorem d_X_feed_44 : decode b_X_feed 44 = .ok (.aload_n 0, 1) := by decide +kernel
theorem d_X_feed_45 : decode b_X_feed 45 = .ok (.getfield 35, 3) := by decide +kernel
theorem d_X_feed_48 : decode b_X_feed 48 = .ok (.lload_n 2, 1) := by decide +kernel
theorem d_X_feed_49 : decode b_X_feed 49 = .ok (.bipush 8, 2) := by decide +kernel
theorem d_X_feed_51 : decode b_X_feed 51 = .ok (.iload 4, 2) := by decide +kernel
theorem d_X_feed_53 : decode b_X_feed 53 = .ok (.imul, 1) := by decide +kernel
theorem d_X_feed_54 : decode b_X_feed 54 = .ok (.lushr, 1) := by decide +kernel
theorem d_X_feed_55 : decode b_X_feed 55 = .ok (.l2i, 1) := by decide +kernel
theorem d_X_feed_56 : decode b_X_feed 56 = .ok (.i2b, 1) := by decide +kernel
theorem d_X_feed_57 : decode b_X_feed 57 = .ok (.invokevirtual 86, 3) := by decide +kernel
theorem d_X_feed_60 : decode b_X_feed 60 = .ok (.iinc 4 1, 3) := by decide +kernel
theorem d_X_feed_63 : decode b_X_feed 63 = .ok (.goto (-25), 3) := by decide +kernel
theorem d_X_feed_66 : decode b_X_feed 66 = .ok (.aload_n 0, 1) := by decide +kernel
theorem d_X_feed_67 : decode b_X_feed 67 = .ok (.dup, 1) := by decide +kernel
theorem d_X_feed_68 : decode b_X_feed 68 = .ok (.getfield 75, 3) := by decide +kernel
theorem d_X_feed_71 : decode b_X_feed 71 = .ok (.iload_n 1, 1) := by decide +kernel
theorem d_X_feed_72 : decode b_X_feed 72 = .ok (.iadd, 1) := by decide +kernel
theorem d_X_feed_73 : decode b_X_feed 73 = .ok (.putfield 75, 3) := by decide +kernel
theorem d_X_feed_76 : decode b_X_feed 76 = .ok (.aload_n 0, 1) := by decide +kernel
theorem d_X_feed_77 : decode b_X_feed 77 = .ok (.getfield 35, 3) := by decide +kernel
theorem d_X_feed_80 : decode b_X_feed 80 = .ok (.getfield 90, 3) := by decide +kernel
theorem d_X_feed_83 : decode b_X_feed 83 = .ok (.ireturn, 1) := by decide +kernel
set_option maxHeartbeats 4000000 in
set_option maxRecDepth 100000 in
theorem c_X_feed (l : Launch) (D : va_G) (cI cJ cB cZ : ClassId) (aX aF aC aP aT aK aR aH aI : Nat) (aTb : Nat) (f : Nat → Int32) (k : Nat) (v : Int64) (h1 : 1 ≤ k) (h8 : k ≤ 8) : Ci l D (tyl cI cJ cB cZ) y_X_feed b_X_feed 5 (some .int) ({ frames := 1, cells := 0, slots := 0, locals := 21 } : Room) [.ref aX, .int (nI k), .long v] [(aX, .inr (9, [.ref aF, .ref aC, .ref aP, .ref aT, .ref aK, .ref aR, .ref aH, .ref aI, .int (nI 0)])), (aT, .inr (3, [.ref aF, .ref aTb, .int (nI 0), .int (nI 0), .int (nI 0), .int (nI 0), .long 0, .long 0])), (aTb, .inl (cB, 8192, .inl f))] (fun r u => ∃ (f2 : Nat → Int32), r = (nI k) ∧ u = [(aX, .inr (9, [.ref aF, .ref aC, .ref aP, .ref aT, .ref aK, .ref aR, .ref aH, .ref aI, .int (nI (0 + k))])), (aT, .inr (3, [.ref aF, .ref aTb, .int (nI 0), .int (nI k), .int (nI 0), .int (nI 0), .long 0, .long 0])), (aTb, .inl (cB, 8192, .inl f2))]) := by
  refine met_i (own := "ProofReader") (by decide) rfl (Nat.le_of_ble_eq_true rfl) ?_
  intro p e s m args below meth c A Q S hA ret ls hl hW
  have hl : lv_has ls 5 [(0, .ref aX), (1, .int (nI k)), (2, .long v)] := hl
  have hW : Wd D (tyl cI cJ cB cZ) A s s.heap s.heap [] [(aX, .inr (9, [.ref aF, .ref aC, .ref aP, .ref aT, .ref aK, .ref aR, .ref aH, .ref aI, .int (nI 0)])), (aT, .inr (3, [.ref aF, .ref aTb, .int (nI 0), .int (nI 0), .int (nI 0), .int (nI 0), .long 0, .long 0])), (aTb, .inl (cB, 8192, .inl f))] := hW
  refine lv_iload_n S.1 S.2.1 d_X_feed_0 rfl (lv_at hl 1 rfl) ?_
  refine lv_iconst (v := (nI 1)) S.1 S.2.1 d_X_feed_1 (by decide) ?_
  refine n_icmp_lt (tgt := 11) S (by omega) (by omega) d_X_feed_2 (by decide) (fun c_2 => absurd c_2 (by omega)) (fun c_2 => ?_)
  refine lv_iload_n S.1 S.2.1 d_X_feed_5 rfl (lv_at hl 1 rfl) ?_
  refine lv_bipush (v := (nI 8)) S.1 S.2.1 d_X_feed_6 (by decide) ?_
  refine n_icmp_le (tgt := 21) S (by omega) (by omega) d_X_feed_8 (by decide) (fun c_8 => ?_) (fun c_8 => absurd c_8 (by omega))
  refine lv_iload_n S.1 S.2.1 d_X_feed_21 rfl (lv_at hl 1 rfl) ?_
  refine lv_sipush (v := (nI 8192)) S.1 S.2.1 d_X_feed_22 (by decide) ?_
  refine lv_aload_n S.1 S.2.1 d_X_feed_25 rfl (lv_at hl 0 rfl) ?_
  refine g_get i_X S hW 0 rfl rfl 8 (by decide) kf_X_75 rfl d_X_feed_26 ?_
  refine n_isub S (by omega) d_X_feed_29 ?_
  refine n_icmp_le (tgt := 35) S (by omega) (by omega) d_X_feed_30 (by decide) (fun c_30 => ?_) (fun c_30 => absurd c_30 (by omega))
  refine lv_iconst (v := (nI 0)) S.1 S.2.1 d_X_feed_35 (by decide) ?_
  refine lv_istore (lv' := [(4, .int (nI 0)), (0, .ref aX), (1, .int (nI k)), (2, .long v)]) S.1 S.2.1 d_X_feed_36 hl (by decide) rfl (fun ls hl => ?_)
  have loop_38 : ∀ (nf : Nat) (i : Nat) (f1 : Nat → Int32), k - i < nf → (i ≤ k) → ∀ (H : Heap) (locs : List Loc), Wd D (tyl cI cJ cB cZ) A s s.heap H locs [(aX, .inr (9, [.ref aF, .ref aC, .ref aP, .ref aT, .ref aK, .ref aR, .ref aH, .ref aI, .int (nI 0)])), (aT, .inr (3, [.ref aF, .ref aTb, .int (nI 0), .int (nI i), .int (nI 0), .int (nI 0), .long 0, .long 0])), (aTb, .inl (cB, 8192, .inl f1))] → ∀ (ls : Array Slot), lv_has ls 5 [(4, .int (nI i)), (0, .ref aX), (1, .int (nI k)), (2, .long v)] → W p l e ({ frames := 1, cells := 0, slots := 0, locals := 21 } : Room) s m args below meth c H locs 0 0 Q (F0 m 38 ls []) := by
    intro nf
    induction nf with
    | zero =>
      intros
      omega
    | succ nf ih =>
      intro i f1 hnf hi H locs hW ls hl
      refine lv_iload S.1 S.2.1 d_X_feed_38 (lv_at hl 0 rfl) ?_
      refine lv_iload_n S.1 S.2.1 d_X_feed_40 rfl (lv_at hl 2 rfl) ?_
      refine n_icmp_ge (tgt := 66) S (by omega) (by omega) d_X_feed_41 (by decide) (fun c_41 => ?_) (fun c_41 => ?_)
      · refine lv_aload_n S.1 S.2.1 d_X_feed_66 rfl (lv_at hl 1 rfl) ?_
        refine lv_dup S.1 S.2.1 d_X_feed_67 rfl ?_
        refine g_get i_X S hW 0 rfl rfl 8 (by decide) kf_X_75 rfl d_X_feed_68 ?_
        refine lv_iload_n S.1 S.2.1 d_X_feed_71 rfl (lv_at hl 2 rfl) ?_
        refine n_iadd S d_X_feed_72 ?_
        refine g_put (ws2 := [(aX, .inr (9, [.ref aF, .ref aC, .ref aP, .ref aT, .ref aK, .ref aR, .ref aH, .ref aI, .int (nI (0 + k))])), (aT, .inr (3, [.ref aF, .ref aTb, .int (nI 0), .int (nI i), .int (nI 0), .int (nI 0), .long 0, .long 0])), (aTb, .inl (cB, 8192, .inl f1))]) i_X ft_X ft_X_ok n_X S hW 0 rfl rfl 8 (by decide) kf_X_75 rfl rfl rfl (Nat.le_of_ble_eq_true rfl) rfl d_X_feed_73 (fun H locs hW => ?_)
        refine lv_aload_n S.1 S.2.1 d_X_feed_76 rfl (lv_at hl 1 rfl) ?_
        refine g_get i_X S hW 0 rfl rfl 3 (by decide) kf_X_35 rfl d_X_feed_77 ?_
        refine g_get i_T S hW 1 rfl rfl 3 (by decide) kf_X_90 rfl d_X_feed_80 ?_
        exact ret _ _ _ _ _ _ d_X_feed_83 rfl ⟨f1, (by rw [show i = k by omega]), (by rw [show i = k by omega])⟩ hW
      · refine lv_aload_n S.1 S.2.1 d_X_feed_44 rfl (lv_at hl 1 rfl) ?_
        refine g_get i_X S hW 0 rfl rfl 3 (by decide) kf_X_35 rfl d_X_feed_45 ?_
        refine lv_lload_n S.1 S.2.1 d_X_feed_48 rfl (lv_at hl 3 rfl) ?_
        refine lv_bipush (v := (nI 8)) S.1 S.2.1 d_X_feed_49 (by decide) ?_
        refine lv_iload S.1 S.2.1 d_X_feed_51 (lv_at hl 0 rfl) ?_
        refine n_imul S d_X_feed_53 ?_
        refine lv_lushr (v := (v.toUInt64 >>> ((nI (8 * i)).toInt64.toUInt64 &&& Int64.toUInt64 63)).toInt64) S.1 S.2.1 d_X_feed_54 rfl ?_
        refine lv_l2i (v := ((v.toUInt64 >>> ((nI (8 * i)).toInt64.toUInt64 &&& Int64.toUInt64 63)).toInt64).toInt32) S.1 S.2.1 d_X_feed_55 rfl ?_
        refine lv_i2b (v := (((v.toUInt64 >>> ((nI (8 * i)).toInt64.toUInt64 &&& Int64.toUInt64 63)).toInt64).toInt32).toInt8.toInt32) S.1 S.2.1 d_X_feed_56 rfl ?_
        refine callV_v (wr := [(aX, .inr (9, [.ref aF, .ref aC, .ref aP, .ref aT, .ref aK, .ref aR, .ref aH, .ref aI, .int (nI 0)]))]) (wc := [(aT, .inr (3, [.ref aF, .ref aTb, .int (nI 0), .int (nI i), .int (nI 0), .int (nI 0), .long 0, .long 0])), (aTb, .inl (cB, 8192, .inl f1))]) (np := 1) (As := [.int ((((v.toUInt64 >>> ((nI (8 * i)).toInt64.toUInt64 &&& Int64.toUInt64 63)).toInt64).toInt32).toInt8.toInt32)]) (rest := []) (c_T_append l D cI cJ cB cZ aT aF aTb f1 i ((((v.toUInt64 >>> ((nI (8 * i)).toInt64.toUInt64 &&& Int64.toUInt64 63)).toInt64).toInt32).toInt8.toInt32) (nI 0) (nI 0) (nI 0) 0 0 (by first | omega | assumption | simp_all)) km_X_86 ki_T_append kv_T_append kz_T kk_T_append (by decide +kernel) S hW hA ⟨Nat.le_of_ble_eq_true rfl, Nat.le_of_ble_eq_true rfl⟩ ⟨Nat.le_of_ble_eq_true rfl, Nat.le_of_ble_eq_true rfl⟩ rfl 0 rfl [1, 2] [0] rfl (by decide) rfl (by decide) (by decide) rfl hl.1 rfl (Nat.le_of_ble_eq_true rfl) d_X_feed_57 (fun u H locs hp hW => ?_)
        obtain rfl := hp
        have hW : Wd D (tyl cI cJ cB cZ) A s s.heap H locs [(aX, .inr (9, [.ref aF, .ref aC, .ref aP, .ref aT, .ref aK, .ref aR, .ref aH, .ref aI, .int (nI 0)])), (aT, .inr (3, [.ref aF, .ref aTb, .int (nI 0), .int (nI (i + 1)), .int (nI 0), .int (nI 0), .long 0, .long 0])), (aTb, .inl (cB, 8192, .inl (upd f1 i ((((v.toUInt64 >>> ((nI (8 * i)).toInt64.toUInt64 &&& Int64.toUInt64 63)).toInt64).toInt32).toInt8.toInt32).toInt8.toInt32)))] := hW
        refine lv_iinc (v := (nI (i + 1))) (lv' := [(4, .int (nI (i + 1))), (0, .ref aX), (1, .int (nI k)), (2, .long v)]) S.1 S.2.1 d_X_feed_60 hl (k := 0) rfl (inc_eq _ 1 _ (by decide)) (by decide) rfl (fun ls hl => ?_)
        refine lv_goto (tgt := 38) S.1 S.2.1 d_X_feed_63 (by decide) ?_
        exact ih (i + 1) (upd f1 i ((((v.toUInt64 >>> ((nI (8 * i)).toInt64.toUInt64 &&& Int64.toUInt64 63)).toInt64).toInt32).toInt8.toInt32).toInt8.toInt32) (by omega) (by omega) _ _ hW _ (lv_sub hl [0, 1, 2, 3] rfl)
  exact loop_38 (k - 0 + 1) 0 f (Nat.lt_succ_self _) (by omega) _ _ hW _ (lv_sub hl [0, 1, 2, 3] rfl)
set_option maxHeartbeats 4000000 in
set_option maxRecDepth 100000 in
theorem t_X_feed (l : Launch) (D : va_G) (cI cJ cB cZ : ClassId) (aX aF aC aP aT aK aR aH aI : Nat) (fd n : Int32) (v : Int64) (htr : l.stackTraces = false) (hb : ¬ (¬ n < nI 1 ∧ n ≤ nI 8)) : Ct l D (tyl cI cJ cB cZ) y_X_feed b_X_feed 5 (some .int) ({ frames := 6, cells := 1, slots := 6, locals := 100 } : Room) [.ref aX, .int n, .long v] [(aX, .inr (9, [.ref aF, .ref aC, .ref aP, .ref aT, .ref aK, .ref aR, .ref aH, .ref aI, .int fd]))] "java/lang/IllegalArgumentException" := by
  refine ct_of (own := "ProofReader") (by decide) rfl (Nat.le_of_ble_eq_true rfl) ?_
  intro p e s m args below meth c A S hlk hnt hTw ls hl hW
  have hl : lv_has ls 5 [(0, .ref aX), (1, .int n), (2, .long v)] := hl
  have hW : Wd D (tyl cI cJ cB cZ) A s s.heap s.heap [] [(aX, .inr (9, [.ref aF, .ref aC, .ref aP, .ref aT, .ref aK, .ref aR, .ref aH, .ref aI, .int fd]))] := hW
  refine lv_iload_n S.1 S.2.1 d_X_feed_0 rfl (lv_at hl 1 rfl) ?_
  refine lv_iconst (v := (nI 1)) S.1 S.2.1 d_X_feed_1 (by decide) ?_
  refine lv_icmp_lt (tgt := 11) S.1 S.2.1 d_X_feed_2 (by decide) (fun c_2 => ?_) (fun c_2 => ?_)
  · exact tk_throw S htr hlk hnt kc_X_79 kn_IllegalArgumentException kz_IllegalArgumentException hTw.2.1.1 hTw.use1 (by decide +kernel) hl.1 d_X_feed_11 d_X_feed_14 d_X_feed_15 d_X_feed_17 d_X_feed_20 ⟨Nat.le_of_ble_eq_true rfl, Nat.le_of_ble_eq_true rfl, Nat.le_of_ble_eq_true rfl, Nat.le_of_ble_eq_true rfl⟩
  · refine lv_iload_n S.1 S.2.1 d_X_feed_5 rfl (lv_at hl 1 rfl) ?_
    refine lv_bipush (v := (nI 8)) S.1 S.2.1 d_X_feed_6 (by decide) ?_
    refine lv_icmp_le (tgt := 21) S.1 S.2.1 d_X_feed_8 (by decide) (fun c_8 => absurd c_8 (fun z => hb ⟨c_2, z⟩)) (fun c_8 => ?_)
    exact tk_throw S htr hlk hnt kc_X_79 kn_IllegalArgumentException kz_IllegalArgumentException hTw.2.1.1 hTw.use1 (by decide +kernel) hl.1 d_X_feed_11 d_X_feed_14 d_X_feed_15 d_X_feed_17 d_X_feed_20 ⟨Nat.le_of_ble_eq_true rfl, Nat.le_of_ble_eq_true rfl, Nat.le_of_ble_eq_true rfl, Nat.le_of_ble_eq_true rfl⟩
theorem d_X_constant_0 : decode b_X_constant 0 = .ok (.iload_n 2, 1) := by decide +kernel
theorem d_X_constant_1 : decode b_X_constant 1 = .ok (.ifCond .lt 8, 3) := by decide +kernel
theorem d_X_constant_4 : decode b_X_constant 4 = .ok (.iload_n 2, 1) := by decide +kernel
theorem d_X_constant_5 : decode b_X_constant 5 = .ok (.iconst 5, 1) := by decide +kernel
theorem d_X_constant_6 : decode b_X_constant 6 = .ok (.if_icmp .le 13, 3) := by decide +kernel
theorem d_X_constant_9 : decode b_X_constant 9 = .ok (.new 79, 3) := by decide +kernel
theorem d_X_constant_12 : decode b_X_constant 12 = .ok (.dup, 1) := by decide +kernel
theorem d_X_constant_13 : decode b_X_constant 13 = .ok (.ldc 126, 2) := by decide +kernel
theorem d_X_constant_15 : decode b_X_constant 15 = .ok (.invokespecial 83, 3) := by decide +kernel
theorem d_X_constant_18 : decode b_X_constant 18 = .ok (.athrow, 1) := by decide +kernel
theorem d_X_constant_19 : decode b_X_constant 19 = .ok (.iload_n 1, 1) := by decide +kernel
theorem d_X_constant_20 : decode b_X_constant 20 = .ok (.ifCond .lt 14, 3) := by decide +kernel
theorem d_X_constant_23 : decode b_X_constant 23 = .ok (.iload_n 1, 1) := by decide +kernel
theorem d_X_constant_24 : decode b_X_constant 24 = .ok (.aload_n 0, 1) := by decide +kernel
theorem d_X_constant_25 : decode b_X_constant 25 = .ok (.getfield 44, 3) := by decide +kernel
theorem d_X_constant_28 : decode b_X_constant 28 = .ok (.getfield 121, 3) := by decide +kernel
theorem d_X_constant_31 : decode b_X_constant 31 = .ok (.if_icmp .lt 13, 3) := by decide +kernel
theorem d_X_constant_34 : decode b_X_constant 34 = .ok (.new 128, 3) := by decide +kernel
theorem d_X_constant_37 : decode b_X_constant 37 = .ok (.dup, 1) := by decide +kernel
theorem d_X_constant_38 : decode b_X_constant 38 = .ok (.ldc 130, 2) := by decide +kernel
theorem d_X_constant_40 : decode b_X_constant 40 = .ok (.invokespecial 132, 3) := by decide +kernel
theorem d_X_constant_43 : decode b_X_constant 43 = .ok (.athrow, 1) := by decide +kernel
theorem d_X_constant_44 : decode b_X_constant 44 = .ok (.iload_n 2, 1) := by decide +kernel
theorem d_X_constant_45 : decode b_X_constant 45 = .ok (.tableswitch 122 0 4 #[35, 52, 69, 87, 104], 35) := by decide +kernel
theorem d_X_constant_80 : decode b_X_constant 80 = .ok (.aload_n 0, 1) := by decide +kernel
theorem d_X_constant_81 : decode b_X_constant 81 = .ok (.getfield 44, 3) := by decide +kernel
theorem d_X_constant_84 : decode b_X_constant 84 = .ok (.iload_n 1, 1) := by decide +kernel
theorem d_X_constant_85 : decode b_X_constant 85 = .ok (.invokevirtual 133, 3) := by decide +kernel
theorem d_X_constant_88 : decode b_X_constant 88 = .ok (.ifCond .eq 7, 3) := by decide +kernel
theorem d_X_constant_91 : decode b_X_constant 91 = .ok (.iconst 1, 1) := by decide +kernel
theorem d_X_constant_92 : decode b_X_constant 92 = .ok (.goto 4, 3) := by decide +kernel
theorem d_X_constant_95 : decode b_X_constant 95 = .ok (.iconst 0, 1) := by decide +kernel
theorem d_X_constant_96 : decode b_X_constant 96 = .ok (.ireturn, 1) := by decide +kernel
theorem d_X_constant_97 : decode b_X_constant 97 = .ok (.aload_n 0, 1) := by decide +kernel
theorem d_X_constant_98 : decode b_X_constant 98 = .ok (.getfield 19, 3) := by decide +kernel
theorem d_X_constant_101 : decode b_X_constant 101 = .ok (.aload_n 0, 1) := by decide +kernel
theorem d_X_constant_102 : decode b_X_constant 102 = .ok (.getfield 44, 3) := by decide +kernel
theorem d_X_constant_105 : decode b_X_constant 105 = .ok (.getfield 137, 3) := by decide +kernel
theorem d_X_constant_108 : decode b_X_constant 108 = .ok (.iload_n 1, 1) := by decide +kernel
theorem d_X_constant_109 : decode b_X_constant 109 = .ok (.iaload, 1) := by decide +kernel
theorem d_X_constant_110 : decode b_X_constant 110 = .ok (.invokevirtual 141, 3) := by decide +kernel
theorem d_X_constant_113 : decode b_X_constant 113 = .ok (.ireturn, 1) := by decide +kernel
theorem d_X_constant_114 : decode b_X_constant 114 = .ok (.aload_n 0, 1) := by decide +kernel
theorem d_X_constant_115 : decode b_X_constant 115 = .ok (.getfield 19, 3) := by decide +kernel
theorem d_X_constant_118 : decode b_X_constant 118 = .ok (.getfield 145, 3) := by decide +kernel
theorem d_X_constant_121 : decode b_X_constant 121 = .ok (.aload_n 0, 1) := by decide +kernel
theorem d_X_constant_122 : decode b_X_constant 122 = .ok (.getfield 44, 3) := by decide +kernel
theorem d_X_constant_125 : decode b_X_constant 125 = .ok (.getfield 137, 3) := by decide +kernel
theorem d_X_constant_128 : decode b_X_constant 128 = .ok (.iload_n 1, 1) := by decide +kernel
theorem d_X_constant_129 : decode b_X_constant 129 = .ok (.iaload, 1) := by decide +kernel
theorem d_X_constant_130 : decode b_X_constant 130 = .ok (.iaload, 1) := by decide +kernel
theorem d_X_constant_131 : decode b_X_constant 131 = .ok (.ireturn, 1) := by decide +kernel
theorem d_X_constant_132 : decode b_X_constant 132 = .ok (.aload_n 0, 1) := by decide +kernel
theorem d_X_constant_133 : decode b_X_constant 133 = .ok (.getfield 19, 3) := by decide +kernel
theorem d_X_constant_136 : decode b_X_constant 136 = .ok (.aload_n 0, 1) := by decide +kernel
theorem d_X_constant_137 : decode b_X_constant 137 = .ok (.getfield 44, 3) := by decide +kernel
theorem d_X_constant_140 : decode b_X_constant 140 = .ok (.getfield 137, 3) := by decide +kernel
theorem d_X_constant_143 : decode b_X_constant 143 = .ok (.iload_n 1, 1) := by decide +kernel
theorem d_X_constant_144 : decode b_X_constant 144 = .ok (.iaload, 1) := by decide +kernel
theorem d_X_constant_145 : decode b_X_constant 145 = .ok (.invokevirtual 148, 3) := by decide +kernel
theorem d_X_constant_148 : decode b_X_constant 148 = .ok (.ireturn, 1) := by decide +kernel
theorem d_X_constant_149 : decode b_X_constant 149 = .ok (.aload_n 0, 1) := by decide +kernel
theorem d_X_constant_150 : decode b_X_constant 150 = .ok (.getfield 44, 3) := by decide +kernel
theorem d_X_constant_153 : decode b_X_constant 153 = .ok (.getfield 151, 3) := by decide +kernel
theorem d_X_constant_156 : decode b_X_constant 156 = .ok (.iload_n 1, 1) := by decide +kernel
theorem d_X_constant_157 : decode b_X_constant 157 = .ok (.baload, 1) := by decide +kernel
theorem d_X_constant_158 : decode b_X_constant 158 = .ok (.ifCond .eq 7, 3) := by decide +kernel
theorem d_X_constant_161 : decode b_X_constant 161 = .ok (.iconst 1, 1) := by decide +kernel
theorem d_X_constant_162 : decode b_X_constant 162 = .ok (.goto 4, 3) := by decide +kernel
theorem d_X_constant_165 : decode b_X_constant 165 = .ok (.iconst 0, 1) := by decide +kernel
theorem d_X_constant_166 : decode b_X_constant 166 = .ok (.ireturn, 1) := by decide +kernel
theorem d_X_constant_167 : decode b_X_constant 167 = .ok (.aload_n 0, 1) := by decide +kernel
theorem d_X_constant_168 : decode b_X_constant 168 = .ok (.getfield 44, 3) := by decide +kernel
theorem d_X_constant_171 : decode b_X_constant 171 = .ok (.iload_n 1, 1) := by decide +kernel
theorem d_X_constant_172 : decode b_X_constant 172 = .ok (.invokevirtual 133, 3) := by decide +kernel
theorem d_X_constant_175 : decode b_X_constant 175 = .ok (.ifCond .eq 7, 3) := by decide +kernel
theorem d_X_constant_178 : decode b_X_constant 178 = .ok (.iconst (-1), 1) := by decide +kernel
theorem d_X_constant_179 : decode b_X_constant 179 = .ok (.goto 12, 3) := by decide +kernel
theorem d_X_constant_182 : decode b_X_constant 182 = .ok (.aload_n 0, 1) := by decide +kernel
theorem d_X_constant_183 : decode b_X_constant 183 = .ok (.getfield 44, 3) := by decide +kernel
theorem d_X_constant_186 : decode b_X_constant 186 = .ok (.getfield 155, 3) := by decide +kernel
theorem d_X_constant_189 : decode b_X_constant 189 = .ok (.iload_n 1, 1) := by decide +kernel
theorem d_X_constant_190 : decode b_X_constant 190 = .ok (.iaload, 1) := by decide +kernel
theorem d_X_constant_191 : decode b_X_constant 191 = .ok (.ireturn, 1) := by decide +kernel
set_option maxHeartbeats 4000000 in
set_option maxRecDepth 100000 in
theorem t_X_constantA (l : Launch) (D : va_G) (cI cJ cB cZ : ClassId) (aX aF aC aP aT aK aR aH aI : Nat) (fd k w : Int32) (htr : l.stackTraces = false) (hb : ¬ (¬ w < 0 ∧ w ≤ nI 5)) : Ct l D (tyl cI cJ cB cZ) y_X_constant b_X_constant 3 (some .int) ({ frames := 6, cells := 1, slots := 6, locals := 100 } : Room) [.ref aX, .int k, .int w] [(aX, .inr (9, [.ref aF, .ref aC, .ref aP, .ref aT, .ref aK, .ref aR, .ref aH, .ref aI, .int fd]))] "java/lang/IllegalArgumentException" := by
  refine ct_of (own := "ProofReader") (by decide) rfl (Nat.le_of_ble_eq_true rfl) ?_
  intro p e s m args below meth c A S hlk hnt hTw ls hl hW
  have hl : lv_has ls 3 [(0, .ref aX), (1, .int k), (2, .int w)] := hl
  have hW : Wd D (tyl cI cJ cB cZ) A s s.heap s.heap [] [(aX, .inr (9, [.ref aF, .ref aC, .ref aP, .ref aT, .ref aK, .ref aR, .ref aH, .ref aI, .int fd]))] := hW
  refine lv_iload_n S.1 S.2.1 d_X_constant_0 rfl (lv_at hl 2 rfl) ?_
  refine lv_if_lt (tgt := 9) S.1 S.2.1 d_X_constant_1 (by decide) (fun c_1 => ?_) (fun c_1 => ?_)
  · exact tk_throw S htr hlk hnt kc_X_79 kn_IllegalArgumentException kz_IllegalArgumentException hTw.2.1.2.1 hTw.use1 (by decide +kernel) hl.1 d_X_constant_9 d_X_constant_12 d_X_constant_13 d_X_constant_15 d_X_constant_18 ⟨Nat.le_of_ble_eq_true rfl, Nat.le_of_ble_eq_true rfl, Nat.le_of_ble_eq_true rfl, Nat.le_of_ble_eq_true rfl⟩
  · refine lv_iload_n S.1 S.2.1 d_X_constant_4 rfl (lv_at hl 2 rfl) ?_
    refine lv_iconst (v := (nI 5)) S.1 S.2.1 d_X_constant_5 (by decide) ?_
    refine lv_icmp_le (tgt := 19) S.1 S.2.1 d_X_constant_6 (by decide) (fun c_6 => absurd c_6 (fun z => hb ⟨c_1, z⟩)) (fun c_6 => ?_)
    exact tk_throw S htr hlk hnt kc_X_79 kn_IllegalArgumentException kz_IllegalArgumentException hTw.2.1.2.1 hTw.use1 (by decide +kernel) hl.1 d_X_constant_9 d_X_constant_12 d_X_constant_13 d_X_constant_15 d_X_constant_18 ⟨Nat.le_of_ble_eq_true rfl, Nat.le_of_ble_eq_true rfl, Nat.le_of_ble_eq_true rfl, Nat.le_of_ble_eq_true rfl⟩
set_option maxHeartbeats 4000000 in
set_option maxRecDepth 100000 in
theorem t_X_constantB (l : Launch) (D : va_G) (cI cJ cB cZ : ClassId) (aX aF aC aP aT aK aR aH aI : Nat) (aK0 aK1 aK2 aK3 aK4 : Nat) (fd k w ce : Int32) (htr : l.stackTraces = false) (hb : ¬ w < 0 ∧ w ≤ nI 5) : Ct l D (tyl cI cJ cB cZ) y_X_constant b_X_constant 3 (some .int) ({ frames := 6, cells := 1, slots := 6, locals := 100 } : Room) [.ref aX, .int k, .int w] [(aX, .inr (9, [.ref aF, .ref aC, .ref aP, .ref aT, .ref aK, .ref aR, .ref aH, .ref aI, .int fd])), (aK, .inr (4, [.ref aC, .ref aK0, .ref aK1, .ref aK2, .ref aK3, .ref aK4, .int (nI 0), .int ce]))] "java/lang/IndexOutOfBoundsException" := by
  refine ct_of (own := "ProofReader") (by decide) rfl (Nat.le_of_ble_eq_true rfl) ?_
  intro p e s m args below meth c A S hlk hnt hTw ls hl hW
  have hl : lv_has ls 3 [(0, .ref aX), (1, .int k), (2, .int w)] := hl
  have hW : Wd D (tyl cI cJ cB cZ) A s s.heap s.heap [] [(aX, .inr (9, [.ref aF, .ref aC, .ref aP, .ref aT, .ref aK, .ref aR, .ref aH, .ref aI, .int fd])), (aK, .inr (4, [.ref aC, .ref aK0, .ref aK1, .ref aK2, .ref aK3, .ref aK4, .int (nI 0), .int ce]))] := hW
  refine lv_iload_n S.1 S.2.1 d_X_constant_0 rfl (lv_at hl 2 rfl) ?_
  refine lv_if_lt (tgt := 9) S.1 S.2.1 d_X_constant_1 (by decide) (fun c_1 => absurd c_1 hb.1) (fun c_1 => ?_)
  refine lv_iload_n S.1 S.2.1 d_X_constant_4 rfl (lv_at hl 2 rfl) ?_
  refine lv_iconst (v := (nI 5)) S.1 S.2.1 d_X_constant_5 (by decide) ?_
  refine lv_icmp_le (tgt := 19) S.1 S.2.1 d_X_constant_6 (by decide) (fun c_6 => ?_) (fun c_6 => absurd c_6 (fun z => z hb.2))
  refine lv_iload_n S.1 S.2.1 d_X_constant_19 rfl (lv_at hl 1 rfl) ?_
  refine lv_if_lt (tgt := 34) S.1 S.2.1 d_X_constant_20 (by decide) (fun c_20 => ?_) (fun c_20 => ?_)
  · exact tk_throw S htr hlk hnt kc_X_128 kn_IndexOutOfBoundsException kz_IndexOutOfBoundsException hTw.2.1.2.2 hTw.use2 (by decide +kernel) hl.1 d_X_constant_34 d_X_constant_37 d_X_constant_38 d_X_constant_40 d_X_constant_43 ⟨Nat.le_of_ble_eq_true rfl, Nat.le_of_ble_eq_true rfl, Nat.le_of_ble_eq_true rfl, Nat.le_of_ble_eq_true rfl⟩
  · refine lv_iload_n S.1 S.2.1 d_X_constant_23 rfl (lv_at hl 1 rfl) ?_
    refine lv_aload_n S.1 S.2.1 d_X_constant_24 rfl (lv_at hl 0 rfl) ?_
    refine g_get i_X S hW 0 rfl rfl 4 (by decide) kf_X_44 rfl d_X_constant_25 ?_
    refine g_get i_K S hW 1 rfl rfl 6 (by decide) kf_X_121 rfl d_X_constant_28 ?_
    refine lv_icmp_lt (tgt := 44) S.1 S.2.1 d_X_constant_31 (by decide) (fun c_31 => absurd c_31 c_20) (fun c_31 => ?_)
    exact tk_throw S htr hlk hnt kc_X_128 kn_IndexOutOfBoundsException kz_IndexOutOfBoundsException hTw.2.1.2.2 hTw.use2 (by decide +kernel) hl.1 d_X_constant_34 d_X_constant_37 d_X_constant_38 d_X_constant_40 d_X_constant_43 ⟨Nat.le_of_ble_eq_true rfl, Nat.le_of_ble_eq_true rfl, Nat.le_of_ble_eq_true rfl, Nat.le_of_ble_eq_true rfl⟩
