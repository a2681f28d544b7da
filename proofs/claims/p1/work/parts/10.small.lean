theorem inc_eq (E k : Nat) (n : Int) (h : Int32.ofInt n = nI k) : nI E + Int32.ofInt n = nI (E + k) := by rw [h, nI_add]
theorem dec_eq {E : Nat} (h : 0 < E) : nI E + Int32.ofInt (-1) = nI (E - 1) := sb_m1 h
theorem d_F_met_0 : decode b_F_met 0 = .ok (.aload_n 0, 1) := by decide +kernel
theorem d_F_met_1 : decode b_F_met 1 = .ok (.iload_n 1, 1) := by decide +kernel
theorem d_F_met_2 : decode b_F_met 2 = .ok (.putfield 9, 3) := by decide +kernel
theorem d_F_met_5 : decode b_F_met 5 = .ok (.aload_n 0, 1) := by decide +kernel
theorem d_F_met_6 : decode b_F_met 6 = .ok (.iload_n 2, 1) := by decide +kernel
theorem d_F_met_7 : decode b_F_met 7 = .ok (.putfield 15, 3) := by decide +kernel
theorem d_F_met_10 : decode b_F_met 10 = .ok (.iconst 0, 1) := by decide +kernel
theorem d_F_met_11 : decode b_F_met 11 = .ok (.ireturn, 1) := by decide +kernel
set_option maxHeartbeats 4000000 in
set_option maxRecDepth 100000 in
/-- Fault.met: the fault and its place are kept; the answer is false -/
theorem c_F_met (l : Launch) (D : va_G) (cI cJ cB cZ : ClassId) (aF : Nat) (fn fw k t : Int32) : Ci l D (tyl cI cJ cB cZ) y_F_met b_F_met 3 (some .boolean) ({ frames := 0, cells := 0, slots := 0, locals := 0 } : Room) [.ref aF, .int k, .int t] [(aF, .inr (0, [.int fn, .int fw]))] (fun r u => r = (nI 0) ∧ u = [(aF, .inr (0, [.int k, .int t]))]) := by
  refine met_i (own := "ProofReader$Fault") (by decide) rfl (Nat.le_of_ble_eq_true rfl) ?_
  intro p e s m args below meth c A Q S hA ret ls hl hW
  have hl : lv_has ls 3 [(0, .ref aF), (1, .int k), (2, .int t)] := hl
  have hW : Wd D (tyl cI cJ cB cZ) A s s.heap s.heap [] [(aF, .inr (0, [.int fn, .int fw]))] := hW
  refine lv_aload_n S.1 S.2.1 d_F_met_0 rfl (lv_at hl 0 rfl) ?_
  refine lv_iload_n S.1 S.2.1 d_F_met_1 rfl (lv_at hl 1 rfl) ?_
  refine g_put (ws2 := [(aF, .inr (0, [.int k, .int fw]))]) i_F ft_F ft_F_ok n_F S hW 0 rfl rfl 0 (by decide) kf_F_9 rfl rfl rfl (Nat.le_of_ble_eq_true rfl) rfl d_F_met_2 (fun H locs hW => ?_)
  refine lv_aload_n S.1 S.2.1 d_F_met_5 rfl (lv_at hl 0 rfl) ?_
  refine lv_iload_n S.1 S.2.1 d_F_met_6 rfl (lv_at hl 2 rfl) ?_
  refine g_put (ws2 := [(aF, .inr (0, [.int k, .int t]))]) i_F ft_F ft_F_ok n_F S hW 0 rfl rfl 1 (by decide) kf_F_15 rfl rfl rfl (Nat.le_of_ble_eq_true rfl) rfl d_F_met_7 (fun H locs hW => ?_)
  refine lv_iconst (v := (nI 0)) S.1 S.2.1 d_F_met_10 (by decide) ?_
  exact ret _ _ _ _ _ _ d_F_met_11 rfl ⟨rfl, rfl⟩ hW
theorem d_F_forget_0 : decode b_F_forget 0 = .ok (.aload_n 0, 1) := by decide +kernel
theorem d_F_forget_1 : decode b_F_forget 1 = .ok (.iconst 0, 1) := by decide +kernel
theorem d_F_forget_2 : decode b_F_forget 2 = .ok (.putfield 9, 3) := by decide +kernel
theorem d_F_forget_5 : decode b_F_forget 5 = .ok (.aload_n 0, 1) := by decide +kernel
theorem d_F_forget_6 : decode b_F_forget 6 = .ok (.iconst (-1), 1) := by decide +kernel
theorem d_F_forget_7 : decode b_F_forget 7 = .ok (.putfield 15, 3) := by decide +kernel
theorem d_F_forget_10 : decode b_F_forget 10 = .ok (.return_, 1) := by decide +kernel
set_option maxHeartbeats 4000000 in
set_option maxRecDepth 100000 in
theorem c_F_forget (l : Launch) (D : va_G) (cI cJ cB cZ : ClassId) (aF : Nat) (fn fw : Int32) : Cv l D (tyl cI cJ cB cZ) y_F_forget b_F_forget 1 ({ frames := 0, cells := 0, slots := 0, locals := 0 } : Room) [.ref aF] [(aF, .inr (0, [.int fn, .int fw]))] (fun u => u = [(aF, .inr (0, [.int (nI 0), .int (-1)]))]) := by
  refine met_v (own := "ProofReader$Fault") (by decide) rfl (Nat.le_of_ble_eq_true rfl) ?_
  intro p e s m args below meth c A Q S hin hA ret ls hl hW
  have hl : lv_has ls 1 [(0, .ref aF)] := hl
  have hW : Wd D (tyl cI cJ cB cZ) A s s.heap s.heap [] [(aF, .inr (0, [.int fn, .int fw]))] := hW
  refine lv_aload_n S.1 S.2.1 d_F_forget_0 rfl (lv_at hl 0 rfl) ?_
  refine lv_iconst (v := (nI 0)) S.1 S.2.1 d_F_forget_1 (by decide) ?_
  refine g_put (ws2 := [(aF, .inr (0, [.int (nI 0), .int fw]))]) i_F ft_F ft_F_ok n_F S hW 0 rfl rfl 0 (by decide) kf_F_9 rfl rfl rfl (Nat.le_of_ble_eq_true rfl) rfl d_F_forget_2 (fun H locs hW => ?_)
  refine lv_aload_n S.1 S.2.1 d_F_forget_5 rfl (lv_at hl 0 rfl) ?_
  refine lv_iconst (v := (-1)) S.1 S.2.1 d_F_forget_6 (by decide) ?_
  refine g_put (ws2 := [(aF, .inr (0, [.int (nI 0), .int (-1)]))]) i_F ft_F ft_F_ok n_F S hW 0 rfl rfl 1 (by decide) kf_F_15 rfl rfl rfl (Nat.le_of_ble_eq_true rfl) rfl d_F_forget_7 (fun H locs hW => ?_)
  exact ret _ _ _ _ _ d_F_forget_10 rfl hW
theorem d_T_drop_0 : decode b_T_drop 0 = .ok (.aload_n 0, 1) := by decide +kernel
theorem d_T_drop_1 : decode b_T_drop 1 = .ok (.iconst 0, 1) := by decide +kernel
theorem d_T_drop_2 : decode b_T_drop 2 = .ok (.putfield 19, 3) := by decide +kernel
theorem d_T_drop_5 : decode b_T_drop 5 = .ok (.return_, 1) := by decide +kernel
set_option maxHeartbeats 4000000 in
set_option maxRecDepth 100000 in
theorem c_T_drop (l : Launch) (D : va_G) (cI cJ cB cZ : ClassId) (aT aF aTb : Nat) (nx ln kd st : Int32) (fr bk : Int64) : Cv l D (tyl cI cJ cB cZ) y_T_drop b_T_drop 1 ({ frames := 0, cells := 0, slots := 0, locals := 0 } : Room) [.ref aT] [(aT, .inr (3, [.ref aF, .ref aTb, .int nx, .int ln, .int kd, .int st, .long fr, .long bk]))] (fun u => u = [(aT, .inr (3, [.ref aF, .ref aTb, .int nx, .int (nI 0), .int kd, .int st, .long fr, .long bk]))]) := by
  refine met_v (own := "ProofReader$Tokens") (by decide) rfl (Nat.le_of_ble_eq_true rfl) ?_
  intro p e s m args below meth c A Q S hin hA ret ls hl hW
  have hl : lv_has ls 1 [(0, .ref aT)] := hl
  have hW : Wd D (tyl cI cJ cB cZ) A s s.heap s.heap [] [(aT, .inr (3, [.ref aF, .ref aTb, .int nx, .int ln, .int kd, .int st, .long fr, .long bk]))] := hW
  refine lv_aload_n S.1 S.2.1 d_T_drop_0 rfl (lv_at hl 0 rfl) ?_
  refine lv_iconst (v := (nI 0)) S.1 S.2.1 d_T_drop_1 (by decide) ?_
  refine g_put (ws2 := [(aT, .inr (3, [.ref aF, .ref aTb, .int nx, .int (nI 0), .int kd, .int st, .long fr, .long bk]))]) i_T ft_T ft_T_ok n_T S hW 0 rfl rfl 3 (by decide) kf_T_19 rfl rfl rfl (Nat.le_of_ble_eq_true rfl) rfl d_T_drop_2 (fun H locs hW => ?_)
  exact ret _ _ _ _ _ d_T_drop_5 rfl hW
theorem d_T_restart_0 : decode b_T_restart 0 = .ok (.aload_n 0, 1) := by decide +kernel
theorem d_T_restart_1 : decode b_T_restart 1 = .ok (.iconst 0, 1) := by decide +kernel
theorem d_T_restart_2 : decode b_T_restart 2 = .ok (.putfield 15, 3) := by decide +kernel
theorem d_T_restart_5 : decode b_T_restart 5 = .ok (.return_, 1) := by decide +kernel
set_option maxHeartbeats 4000000 in
set_option maxRecDepth 100000 in
theorem c_T_restart (l : Launch) (D : va_G) (cI cJ cB cZ : ClassId) (aT aF aTb : Nat) (nx ln kd st : Int32) (fr bk : Int64) : Cv l D (tyl cI cJ cB cZ) y_T_restart b_T_restart 1 ({ frames := 0, cells := 0, slots := 0, locals := 0 } : Room) [.ref aT] [(aT, .inr (3, [.ref aF, .ref aTb, .int nx, .int ln, .int kd, .int st, .long fr, .long bk]))] (fun u => u = [(aT, .inr (3, [.ref aF, .ref aTb, .int (nI 0), .int ln, .int kd, .int st, .long fr, .long bk]))]) := by
  refine met_v (own := "ProofReader$Tokens") (by decide) rfl (Nat.le_of_ble_eq_true rfl) ?_
  intro p e s m args below meth c A Q S hin hA ret ls hl hW
  have hl : lv_has ls 1 [(0, .ref aT)] := hl
  have hW : Wd D (tyl cI cJ cB cZ) A s s.heap s.heap [] [(aT, .inr (3, [.ref aF, .ref aTb, .int nx, .int ln, .int kd, .int st, .long fr, .long bk]))] := hW
  refine lv_aload_n S.1 S.2.1 d_T_restart_0 rfl (lv_at hl 0 rfl) ?_
  refine lv_iconst (v := (nI 0)) S.1 S.2.1 d_T_restart_1 (by decide) ?_
  refine g_put (ws2 := [(aT, .inr (3, [.ref aF, .ref aTb, .int (nI 0), .int ln, .int kd, .int st, .long fr, .long bk]))]) i_T ft_T ft_T_ok n_T S hW 0 rfl rfl 2 (by decide) kf_T_15 rfl rfl rfl (Nat.le_of_ble_eq_true rfl) rfl d_T_restart_2 (fun H locs hW => ?_)
  exact ret _ _ _ _ _ d_T_restart_5 rfl hW
