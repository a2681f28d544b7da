/-- the byte of the paper at a place, 0 for those that it has not -/
def pv (b : Nat → Nat) (ln : Nat) (x : Int64) : Int64 := if 0 ≤ x.toInt ∧ x.toInt < (ln : Int) then lN (b x.toInt.toNat) else 0
theorem pv_k {ln : Nat} (hln : ln ≤ 4096) {x : Int64} (h0 : ¬ lg_cmp x 0 < 0) (h1 : lg_cmp x (nI ln).toInt64 < 0) : ∃ k : Nat, k < ln ∧ x = lN k := by
  have a0 : ¬ x < 0 := fun h => h0 ((lg_cmp_lt _ _).mpr h)
  have a1 := (lg_cmp_lt _ _).mp h1
  obtain ⟨k, hk, rfl⟩ := pk_lOf a0
  rw [nI_l (by omega)] at a1
  exact ⟨k, (pk_lLT hk (by omega)).mp a1, rfl⟩
theorem pv_in {b : Nat → Nat} {ln k : Nat} (hln : ln ≤ 4096) (hk : k < ln) : pv b ln (lN k) = lN (b k) := by
  have e : (lN k).toInt = (k : Int) := lN_toInt (by omega)
  unfold pv
  rw [e, if_pos ⟨by omega, by omega⟩]
  simp
theorem pv_lo {b : Nat → Nat} {ln : Nat} {x : Int64} (h0 : lg_cmp x 0 < 0) : pv b ln x = 0 := by
  have a0 : x < 0 := (lg_cmp_lt _ _).mp h0
  have a1 := Int64.lt_iff_toInt_lt.mp a0
  unfold pv
  rw [if_neg]
  rintro ⟨h, -⟩
  have : (0 : Int64).toInt = 0 := by decide
  omega
theorem pv_hi {b : Nat → Nat} {ln : Nat} (hln : ln ≤ 4096) {x : Int64} (h1 : ¬ lg_cmp x (nI ln).toInt64 < 0) : pv b ln x = 0 := by
  have a0 : ¬ x < (nI ln).toInt64 := fun h => h1 ((lg_cmp_lt _ _).mpr h)
  rw [nI_l (by omega)] at a0
  have a1 : ¬ x.toInt < (lN ln).toInt := fun h => a0 (Int64.lt_iff_toInt_lt.mpr h)
  rw [lN_toInt (by omega)] at a1
  unfold pv
  rw [if_neg]
  rintro ⟨-, h⟩
  omega
/-- eight bytes of the paper, the first n of them -/
def pap (b : Nat → Nat) (ln : Nat) (i : Int32) : Nat → Int64
  | 0 => 0
  | n + 1 => pap b ln i n ||| pv b ln (i.toInt64 + (nI n).toInt64) <<< ((nI (8 * n)).toInt64 &&& 63)
theorem d_K_forget_0 : decode b_K_forget 0 = .ok (.aload_n 0, 1) := by decide +kernel
theorem d_K_forget_1 : decode b_K_forget 1 = .ok (.iconst 0, 1) := by decide +kernel
theorem d_K_forget_2 : decode b_K_forget 2 = .ok (.putfield 29, 3) := by decide +kernel
theorem d_K_forget_5 : decode b_K_forget 5 = .ok (.aload_n 0, 1) := by decide +kernel
theorem d_K_forget_6 : decode b_K_forget 6 = .ok (.iconst 0, 1) := by decide +kernel
theorem d_K_forget_7 : decode b_K_forget 7 = .ok (.putfield 33, 3) := by decide +kernel
theorem d_K_forget_10 : decode b_K_forget 10 = .ok (.return_, 1) := by decide +kernel
set_option maxHeartbeats 4000000 in
set_option maxRecDepth 100000 in
theorem c_K_forget (l : Launch) (D : va_G) (cI cJ cB cZ : ClassId) (aK aC aK0 aK1 aK2 aK3 aK4 : Nat) (cn ce : Int32) : Cv l D (tyl cI cJ cB cZ) y_K_forget b_K_forget 1 ({ frames := 0, cells := 0, slots := 0, locals := 0 } : Room) [.ref aK] [(aK, .inr (4, [.ref aC, .ref aK0, .ref aK1, .ref aK2, .ref aK3, .ref aK4, .int cn, .int ce]))] (fun u => u = [(aK, .inr (4, [.ref aC, .ref aK0, .ref aK1, .ref aK2, .ref aK3, .ref aK4, .int (nI 0), .int (nI 0)]))]) := by
  refine met_v (own := "ProofReader$Constants") (by decide) rfl (Nat.le_of_ble_eq_true rfl) ?_
  intro p e s m args below meth c A Q S hin hA ret ls hl hW
  have hl : lv_has ls 1 [(0, .ref aK)] := hl
  have hW : Wd D (tyl cI cJ cB cZ) A s s.heap s.heap [] [(aK, .inr (4, [.ref aC, .ref aK0, .ref aK1, .ref aK2, .ref aK3, .ref aK4, .int cn, .int ce]))] := hW
  refine lv_aload_n S.1 S.2.1 d_K_forget_0 rfl (lv_at hl 0 rfl) ?_
  refine lv_iconst (v := (nI 0)) S.1 S.2.1 d_K_forget_1 (by decide) ?_
  refine g_put (ws2 := [(aK, .inr (4, [.ref aC, .ref aK0, .ref aK1, .ref aK2, .ref aK3, .ref aK4, .int (nI 0), .int ce]))]) i_K ft_K ft_K_ok n_K S hW 0 rfl rfl 6 (by decide) kf_K_29 rfl rfl rfl (Nat.le_of_ble_eq_true rfl) rfl d_K_forget_2 (fun H locs hW => ?_)
  refine lv_aload_n S.1 S.2.1 d_K_forget_5 rfl (lv_at hl 0 rfl) ?_
  refine lv_iconst (v := (nI 0)) S.1 S.2.1 d_K_forget_6 (by decide) ?_
  refine g_put (ws2 := [(aK, .inr (4, [.ref aC, .ref aK0, .ref aK1, .ref aK2, .ref aK3, .ref aK4, .int (nI 0), .int (nI 0)]))]) i_K ft_K ft_K_ok n_K S hW 0 rfl rfl 7 (by decide) kf_K_33 rfl rfl rfl (Nat.le_of_ble_eq_true rfl) rfl d_K_forget_7 (fun H locs hW => ?_)
  exact ret _ _ _ _ _ d_K_forget_10 rfl hW
theorem d_K_isFull_0 : decode b_K_isFull 0 = .ok (.aload_n 0, 1) := by decide +kernel
theorem d_K_isFull_1 : decode b_K_isFull 1 = .ok (.getfield 29, 3) := by decide +kernel
theorem d_K_isFull_4 : decode b_K_isFull 4 = .ok (.bipush 48, 2) := by decide +kernel
theorem d_K_isFull_6 : decode b_K_isFull 6 = .ok (.if_icmp .lt 7, 3) := by decide +kernel
theorem d_K_isFull_9 : decode b_K_isFull 9 = .ok (.iconst 1, 1) := by decide +kernel
theorem d_K_isFull_10 : decode b_K_isFull 10 = .ok (.goto 4, 3) := by decide +kernel
theorem d_K_isFull_13 : decode b_K_isFull 13 = .ok (.iconst 0, 1) := by decide +kernel
theorem d_K_isFull_14 : decode b_K_isFull 14 = .ok (.ireturn, 1) := by decide +kernel
set_option maxHeartbeats 4000000 in
set_option maxRecDepth 100000 in
theorem c_K_isFull (l : Launch) (D : va_G) (cI cJ cB cZ : ClassId) (aK aC aK0 aK1 aK2 aK3 aK4 : Nat) (cn : Nat) (ce : Int32) (hcn : cn ≤ 48) : Ci l D (tyl cI cJ cB cZ) y_K_isFull b_K_isFull 1 (some .boolean) ({ frames := 0, cells := 0, slots := 0, locals := 0 } : Room) [.ref aK] [(aK, .inr (4, [.ref aC, .ref aK0, .ref aK1, .ref aK2, .ref aK3, .ref aK4, .int (nI cn), .int ce]))] (fun r u => ((cn = 48) ∧ r = (nI 1) ∧ u = [(aK, .inr (4, [.ref aC, .ref aK0, .ref aK1, .ref aK2, .ref aK3, .ref aK4, .int (nI cn), .int ce]))]) ∨ ((cn < 48) ∧ r = (nI 0) ∧ u = [(aK, .inr (4, [.ref aC, .ref aK0, .ref aK1, .ref aK2, .ref aK3, .ref aK4, .int (nI cn), .int ce]))])) := by
  refine met_i (own := "ProofReader$Constants") (by decide) rfl (Nat.le_of_ble_eq_true rfl) ?_
  intro p e s m args below meth c A Q S hA ret ls hl hW
  have hl : lv_has ls 1 [(0, .ref aK)] := hl
  have hW : Wd D (tyl cI cJ cB cZ) A s s.heap s.heap [] [(aK, .inr (4, [.ref aC, .ref aK0, .ref aK1, .ref aK2, .ref aK3, .ref aK4, .int (nI cn), .int ce]))] := hW
  refine lv_aload_n S.1 S.2.1 d_K_isFull_0 rfl (lv_at hl 0 rfl) ?_
  refine g_get i_K S hW 0 rfl rfl 6 (by decide) kf_K_29 rfl d_K_isFull_1 ?_
  refine lv_bipush (v := (nI 48)) S.1 S.2.1 d_K_isFull_4 (by decide) ?_
  refine n_icmp_lt (tgt := 13) S (by omega) (by omega) d_K_isFull_6 (by decide) (fun c_6 => ?_) (fun c_6 => ?_)
  · refine lv_iconst (v := (nI 0)) S.1 S.2.1 d_K_isFull_13 (by decide) ?_
    exact ret _ _ _ _ _ _ d_K_isFull_14 rfl (by first | exact (Or.inl ⟨(by first | omega | assumption | simp_all), rfl, rfl⟩) | exact (Or.inr ⟨(by first | omega | assumption | simp_all), rfl, rfl⟩)) hW
  · refine lv_iconst (v := (nI 1)) S.1 S.2.1 d_K_isFull_9 (by decide) ?_
    refine lv_goto (tgt := 14) S.1 S.2.1 d_K_isFull_10 (by decide) ?_
    exact ret _ _ _ _ _ _ d_K_isFull_14 rfl (by first | exact (Or.inl ⟨(by first | omega | assumption | simp_all), rfl, rfl⟩) | exact (Or.inr ⟨(by first | omega | assumption | simp_all), rfl, rfl⟩)) hW
theorem d_K_isFamily_0 : decode b_K_isFamily 0 = .ok (.aload_n 0, 1) := by decide +kernel
theorem d_K_isFamily_1 : decode b_K_isFamily 1 = .ok (.getfield 22, 3) := by decide +kernel
theorem d_K_isFamily_4 : decode b_K_isFamily 4 = .ok (.iload_n 1, 1) := by decide +kernel
theorem d_K_isFamily_5 : decode b_K_isFamily 5 = .ok (.iaload, 1) := by decide +kernel
theorem d_K_isFamily_6 : decode b_K_isFamily 6 = .ok (.bipush (-2), 2) := by decide +kernel
theorem d_K_isFamily_8 : decode b_K_isFamily 8 = .ok (.if_icmp .ne 7, 3) := by decide +kernel
theorem d_K_isFamily_11 : decode b_K_isFamily 11 = .ok (.iconst 1, 1) := by decide +kernel
theorem d_K_isFamily_12 : decode b_K_isFamily 12 = .ok (.goto 4, 3) := by decide +kernel
theorem d_K_isFamily_15 : decode b_K_isFamily 15 = .ok (.iconst 0, 1) := by decide +kernel
theorem d_K_isFamily_16 : decode b_K_isFamily 16 = .ok (.ireturn, 1) := by decide +kernel
set_option maxHeartbeats 4000000 in
set_option maxRecDepth 100000 in
theorem c_K_isFamily (l : Launch) (D : va_G) (cI cJ cB cZ : ClassId) (aK aC aK0 aK1 aK2 aK3 aK4 : Nat) (tg : Nat → Int32) (k : Nat) (cn ce : Int32) (hk : k < 48) : Ci l D (tyl cI cJ cB cZ) y_K_isFamily b_K_isFamily 2 (some .boolean) ({ frames := 0, cells := 0, slots := 0, locals := 0 } : Room) [.ref aK, .int (nI k)] [(aK, .inr (4, [.ref aC, .ref aK0, .ref aK1, .ref aK2, .ref aK3, .ref aK4, .int cn, .int ce])), (aK3, .inl (cI, 48, .inl tg))] (fun r u => ((tg k = -2) ∧ r = (nI 1) ∧ u = [(aK, .inr (4, [.ref aC, .ref aK0, .ref aK1, .ref aK2, .ref aK3, .ref aK4, .int cn, .int ce])), (aK3, .inl (cI, 48, .inl tg))]) ∨ ((¬ tg k = -2) ∧ r = (nI 0) ∧ u = [(aK, .inr (4, [.ref aC, .ref aK0, .ref aK1, .ref aK2, .ref aK3, .ref aK4, .int cn, .int ce])), (aK3, .inl (cI, 48, .inl tg))])) := by
  refine met_i (own := "ProofReader$Constants") (by decide) rfl (Nat.le_of_ble_eq_true rfl) ?_
  intro p e s m args below meth c A Q S hA ret ls hl hW
  have hl : lv_has ls 2 [(0, .ref aK), (1, .int (nI k))] := hl
  have hW : Wd D (tyl cI cJ cB cZ) A s s.heap s.heap [] [(aK, .inr (4, [.ref aC, .ref aK0, .ref aK1, .ref aK2, .ref aK3, .ref aK4, .int cn, .int ce])), (aK3, .inl (cI, 48, .inl tg))] := hW
  refine lv_aload_n S.1 S.2.1 d_K_isFamily_0 rfl (lv_at hl 0 rfl) ?_
  refine g_get i_K S hW 0 rfl rfl 4 (by decide) kf_K_22 rfl d_K_isFamily_1 ?_
  refine lv_iload_n S.1 S.2.1 d_K_isFamily_4 rfl (lv_at hl 1 rfl) ?_
  refine n_iald S hW 1 0 rfl rfl (by decide) (by omega) d_K_isFamily_5 ?_
  refine lv_bipush (v := (-2)) S.1 S.2.1 d_K_isFamily_6 (by decide) ?_
  refine lv_icmp_ne (tgt := 15) S.1 S.2.1 d_K_isFamily_8 (by decide) (fun c_8 => ?_) (fun c_8 => ?_)
  · refine lv_iconst (v := (nI 0)) S.1 S.2.1 d_K_isFamily_15 (by decide) ?_
    exact ret _ _ _ _ _ _ d_K_isFamily_16 rfl (by first | exact (Or.inl ⟨(by first | omega | assumption | simp_all), rfl, rfl⟩) | exact (Or.inr ⟨(by first | omega | assumption | simp_all), rfl, rfl⟩)) hW
  · refine lv_iconst (v := (nI 1)) S.1 S.2.1 d_K_isFamily_11 (by decide) ?_
    refine lv_goto (tgt := 16) S.1 S.2.1 d_K_isFamily_12 (by decide) ?_
    exact ret _ _ _ _ _ _ d_K_isFamily_16 rfl (by first | exact (Or.inl ⟨(by first | omega | assumption | simp_all), rfl, rfl⟩) | exact (Or.inr ⟨(by first | omega | assumption | simp_all), rfl, rfl⟩)) hW
theorem d_K_find_0 : decode b_K_find 0 = .ok (.iconst 0, 1) := by decide +kernel
theorem d_K_find_1 : decode b_K_find 1 = .ok (.istore 5, 2) := by decide +kernel
theorem d_K_find_3 : decode b_K_find 3 = .ok (.iload 5, 2) := by decide +kernel
theorem d_K_find_5 : decode b_K_find 5 = .ok (.aload_n 0, 1) := by decide +kernel
theorem d_K_find_6 : decode b_K_find 6 = .ok (.getfield 29, 3) := by decide +kernel
theorem d_K_find_9 : decode b_K_find 9 = .ok (.if_icmp .ge 36, 3) := by decide +kernel
theorem d_K_find_12 : decode b_K_find 12 = .ok (.aload_n 0, 1) := by decide +kernel
theorem d_K_find_13 : decode b_K_find 13 = .ok (.getfield 9, 3) := by decide +kernel
theorem d_K_find_16 : decode b_K_find 16 = .ok (.iload 5, 2) := by decide +kernel
theorem d_K_find_18 : decode b_K_find 18 = .ok (.laload, 1) := by decide +kernel
theorem d_K_find_19 : decode b_K_find 19 = .ok (.lload_n 1, 1) := by decide +kernel
theorem d_K_find_20 : decode b_K_find 20 = .ok (.lcmp, 1) := by decide +kernel
theorem d_K_find_21 : decode b_K_find 21 = .ok (.ifCond .ne 18, 3) := by decide +kernel
theorem d_K_find_24 : decode b_K_find 24 = .ok (.aload_n 0, 1) := by decide +kernel
theorem d_K_find_25 : decode b_K_find 25 = .ok (.getfield 15, 3) := by decide +kernel
theorem d_K_find_28 : decode b_K_find 28 = .ok (.iload 5, 2) := by decide +kernel
theorem d_K_find_30 : decode b_K_find 30 = .ok (.laload, 1) := by decide +kernel
theorem d_K_find_31 : decode b_K_find 31 = .ok (.lload_n 3, 1) := by decide +kernel
theorem d_K_find_32 : decode b_K_find 32 = .ok (.lcmp, 1) := by decide +kernel
theorem d_K_find_33 : decode b_K_find 33 = .ok (.ifCond .ne 6, 3) := by decide +kernel
theorem d_K_find_36 : decode b_K_find 36 = .ok (.iload 5, 2) := by decide +kernel
theorem d_K_find_38 : decode b_K_find 38 = .ok (.ireturn, 1) := by decide +kernel
theorem d_K_find_39 : decode b_K_find 39 = .ok (.iinc 5 1, 3) := by decide +kernel
theorem d_K_find_42 : decode b_K_find 42 = .ok (.goto (-39), 3) := by decide +kernel
theorem d_K_find_45 : decode b_K_find 45 = .ok (.iconst (-1), 1) := by decide +kernel
theorem d_K_find_46 : decode b_K_find 46 = .ok (.ireturn, 1) := by decide +kernel
set_option maxHeartbeats 4000000 in
set_option maxRecDepth 100000 in
theorem c_K_find (l : Launch) (D : va_G) (cI cJ cB cZ : ClassId) (aK aC aK0 aK1 aK2 aK3 aK4 : Nat) (fr bk : Nat → Int64) (cn : Nat) (x y : Int64) (ce : Int32) (hcn : cn ≤ 48) : Ci l D (tyl cI cJ cB cZ) y_K_find b_K_find 6 (some .int) ({ frames := 0, cells := 0, slots := 0, locals := 0 } : Room) [.ref aK, .long x, .long y] [(aK, .inr (4, [.ref aC, .ref aK0, .ref aK1, .ref aK2, .ref aK3, .ref aK4, .int (nI cn), .int ce])), (aK0, .inl (cJ, 48, .inr (.inl fr))), (aK1, .inl (cJ, 48, .inr (.inl bk)))] (fun r u => (∃ (k : Nat), (k < cn) ∧ (fr k = x) ∧ (bk k = y) ∧ (∀ j, j < k → ¬ (fr j = x ∧ bk j = y)) ∧ r = (nI k) ∧ u = [(aK, .inr (4, [.ref aC, .ref aK0, .ref aK1, .ref aK2, .ref aK3, .ref aK4, .int (nI cn), .int ce])), (aK0, .inl (cJ, 48, .inr (.inl fr))), (aK1, .inl (cJ, 48, .inr (.inl bk)))]) ∨ ((∀ j, j < cn → ¬ (fr j = x ∧ bk j = y)) ∧ r = (-1) ∧ u = [(aK, .inr (4, [.ref aC, .ref aK0, .ref aK1, .ref aK2, .ref aK3, .ref aK4, .int (nI cn), .int ce])), (aK0, .inl (cJ, 48, .inr (.inl fr))), (aK1, .inl (cJ, 48, .inr (.inl bk)))])) := by
  refine met_i (own := "ProofReader$Constants") (by decide) rfl (Nat.le_of_ble_eq_true rfl) ?_
  intro p e s m args below meth c A Q S hA ret ls hl hW
  have hl : lv_has ls 6 [(0, .ref aK), (1, .long x), (3, .long y)] := hl
  have hW : Wd D (tyl cI cJ cB cZ) A s s.heap s.heap [] [(aK, .inr (4, [.ref aC, .ref aK0, .ref aK1, .ref aK2, .ref aK3, .ref aK4, .int (nI cn), .int ce])), (aK0, .inl (cJ, 48, .inr (.inl fr))), (aK1, .inl (cJ, 48, .inr (.inl bk)))] := hW
  refine lv_iconst (v := (nI 0)) S.1 S.2.1 d_K_find_0 (by decide) ?_
  refine lv_istore (lv' := [(5, .int (nI 0)), (0, .ref aK), (1, .long x), (3, .long y)]) S.1 S.2.1 d_K_find_1 hl (by decide) rfl (fun ls hl => ?_)
  have loop_3 : ∀ (nf : Nat) (k : Nat), cn - k < nf → (k ≤ cn) → (∀ j, j < k → ¬ (fr j = x ∧ bk j = y)) → ∀ (H : Heap) (locs : List Loc), Wd D (tyl cI cJ cB cZ) A s s.heap H locs [(aK, .inr (4, [.ref aC, .ref aK0, .ref aK1, .ref aK2, .ref aK3, .ref aK4, .int (nI cn), .int ce])), (aK0, .inl (cJ, 48, .inr (.inl fr))), (aK1, .inl (cJ, 48, .inr (.inl bk)))] → ∀ (ls : Array Slot), lv_has ls 6 [(5, .int (nI k)), (0, .ref aK), (1, .long x), (3, .long y)] → W p l e ({ frames := 0, cells := 0, slots := 0, locals := 0 } : Room) s m args below meth c H locs 0 0 Q (F0 m 3 ls []) := by
    intro nf
    induction nf with
    | zero =>
      intros
      omega
    | succ nf ih =>
      intro k hnf hk hj H locs hW ls hl
      refine lv_iload S.1 S.2.1 d_K_find_3 (lv_at hl 0 rfl) ?_
      refine lv_aload_n S.1 S.2.1 d_K_find_5 rfl (lv_at hl 1 rfl) ?_
      refine g_get i_K S hW 0 rfl rfl 6 (by decide) kf_K_29 rfl d_K_find_6 ?_
      refine n_icmp_ge (tgt := 45) S (by omega) (by omega) d_K_find_9 (by decide) (fun c_9 => ?_) (fun c_9 => ?_)
      · refine lv_iconst (v := (-1)) S.1 S.2.1 d_K_find_45 (by decide) ?_
        exact ret _ _ _ _ _ _ d_K_find_46 rfl (Or.inr ⟨(fun j h => hj j (by omega)), rfl, rfl⟩) hW
      · refine lv_aload_n S.1 S.2.1 d_K_find_12 rfl (lv_at hl 1 rfl) ?_
        refine g_get i_K S hW 0 rfl rfl 1 (by decide) kf_K_9 rfl d_K_find_13 ?_
        refine lv_iload S.1 S.2.1 d_K_find_16 (lv_at hl 0 rfl) ?_
        refine n_lald S hW 1 1 rfl rfl (by decide) (by omega) d_K_find_18 ?_
        refine lv_lload_n S.1 S.2.1 d_K_find_19 rfl (lv_at hl 2 rfl) ?_
        refine W.lcmp S.1 S.2.1 d_K_find_20 ?_
        refine lv_if_ne (tgt := 39) S.1 S.2.1 d_K_find_21 (by decide) (fun c_21 => ?_) (fun c_21 => ?_)
        · refine lv_iinc (v := (nI (k + 1))) (lv' := [(5, .int (nI (k + 1))), (0, .ref aK), (1, .long x), (3, .long y)]) S.1 S.2.1 d_K_find_39 hl (k := 0) rfl (inc_eq _ 1 _ (by decide)) (by decide) rfl (fun ls hl => ?_)
          refine lv_goto (tgt := 3) S.1 S.2.1 d_K_find_42 (by decide) ?_
          exact ih (k + 1) (by omega) (by omega) (fun j h => by rcases Nat.lt_or_ge j k with z | z; exact hj j z; rw [show j = k by omega]; first | exact (fun q => c_21 ((lg_cmp_eq _ _).mpr q.1)) | exact (fun q => c_33 ((lg_cmp_eq _ _).mpr q.2))) _ _ hW _ (lv_sub hl [0, 1, 2, 3] rfl)
        · refine lv_aload_n S.1 S.2.1 d_K_find_24 rfl (lv_at hl 1 rfl) ?_
          refine g_get i_K S hW 0 rfl rfl 2 (by decide) kf_K_15 rfl d_K_find_25 ?_
          refine lv_iload S.1 S.2.1 d_K_find_28 (lv_at hl 0 rfl) ?_
          refine n_lald S hW 2 1 rfl rfl (by decide) (by omega) d_K_find_30 ?_
          refine lv_lload_n S.1 S.2.1 d_K_find_31 rfl (lv_at hl 3 rfl) ?_
          refine W.lcmp S.1 S.2.1 d_K_find_32 ?_
          refine lv_if_ne (tgt := 39) S.1 S.2.1 d_K_find_33 (by decide) (fun c_33 => ?_) (fun c_33 => ?_)
          · refine lv_iinc (v := (nI (k + 1))) (lv' := [(5, .int (nI (k + 1))), (0, .ref aK), (1, .long x), (3, .long y)]) S.1 S.2.1 d_K_find_39 hl (k := 0) rfl (inc_eq _ 1 _ (by decide)) (by decide) rfl (fun ls hl => ?_)
            refine lv_goto (tgt := 3) S.1 S.2.1 d_K_find_42 (by decide) ?_
            exact ih (k + 1) (by omega) (by omega) (fun j h => by rcases Nat.lt_or_ge j k with z | z; exact hj j z; rw [show j = k by omega]; first | exact (fun q => c_21 ((lg_cmp_eq _ _).mpr q.1)) | exact (fun q => c_33 ((lg_cmp_eq _ _).mpr q.2))) _ _ hW _ (lv_sub hl [0, 1, 2, 3] rfl)
          · refine lv_iload S.1 S.2.1 d_K_find_36 (lv_at hl 0 rfl) ?_
            exact ret _ _ _ _ _ _ d_K_find_38 rfl (Or.inl ⟨_, c_9, (lg_cmp_eq _ _).mp c_21, (lg_cmp_eq _ _).mp c_33, hj, rfl, rfl⟩) hW
  exact loop_3 (cn - 0 + 1) 0 (Nat.lt_succ_self _) (Nat.zero_le _) (fun j h => absurd h (Nat.not_lt_zero j)) _ _ hW _ (lv_sub hl [0, 1, 2, 3] rfl)
theorem d_P_at_0 : decode b_P_at 0 = .ok (.lload_n 1, 1) := by decide +kernel
theorem d_P_at_1 : decode b_P_at 1 = .ok (.lconst 0, 1) := by decide +kernel
theorem d_P_at_2 : decode b_P_at 2 = .ok (.lcmp, 1) := by decide +kernel
theorem d_P_at_3 : decode b_P_at 3 = .ok (.ifCond .lt 13, 3) := by decide +kernel
theorem d_P_at_6 : decode b_P_at 6 = .ok (.lload_n 1, 1) := by decide +kernel
theorem d_P_at_7 : decode b_P_at 7 = .ok (.aload_n 0, 1) := by decide +kernel
theorem d_P_at_8 : decode b_P_at 8 = .ok (.getfield 15, 3) := by decide +kernel
theorem d_P_at_11 : decode b_P_at 11 = .ok (.i2l, 1) := by decide +kernel
theorem d_P_at_12 : decode b_P_at 12 = .ok (.lcmp, 1) := by decide +kernel
theorem d_P_at_13 : decode b_P_at 13 = .ok (.ifCond .lt 7, 3) := by decide +kernel
theorem d_P_at_16 : decode b_P_at 16 = .ok (.lconst 0, 1) := by decide +kernel
theorem d_P_at_17 : decode b_P_at 17 = .ok (.goto 15, 3) := by decide +kernel
theorem d_P_at_20 : decode b_P_at 20 = .ok (.aload_n 0, 1) := by decide +kernel
theorem d_P_at_21 : decode b_P_at 21 = .ok (.getfield 9, 3) := by decide +kernel
theorem d_P_at_24 : decode b_P_at 24 = .ok (.lload_n 1, 1) := by decide +kernel
theorem d_P_at_25 : decode b_P_at 25 = .ok (.l2i, 1) := by decide +kernel
theorem d_P_at_26 : decode b_P_at 26 = .ok (.baload, 1) := by decide +kernel
theorem d_P_at_27 : decode b_P_at 27 = .ok (.sipush 255, 3) := by decide +kernel
theorem d_P_at_30 : decode b_P_at 30 = .ok (.iand, 1) := by decide +kernel
theorem d_P_at_31 : decode b_P_at 31 = .ok (.i2l, 1) := by decide +kernel
theorem d_P_at_32 : decode b_P_at 32 = .ok (.lreturn, 1) := by decide +kernel
set_option maxHeartbeats 4000000 in
set_option maxRecDepth 100000 in
theorem c_P_at (l : Launch) (D : va_G) (cI cJ cB cZ : ClassId) (aP aPb : Nat) (b : Nat → Nat) (ln : Nat) (x : Int64) (ov : Int32) (hb : ∀ j, b j < 256) (hln : ln ≤ 4096) : Cl l D (tyl cI cJ cB cZ) y_P_at b_P_at 3 (some .long) ({ frames := 0, cells := 0, slots := 0, locals := 0 } : Room) [.ref aP, .long x] [(aP, .inr (2, [.ref aPb, .int (nI ln), .int ov])), (aPb, .inl (cB, 4096, .inl (sby b)))] (fun r u => r = pv b ln x ∧ u = [(aP, .inr (2, [.ref aPb, .int (nI ln), .int ov])), (aPb, .inl (cB, 4096, .inl (sby b)))]) := by
  refine met_l (own := "ProofReader$Paper") (by decide) rfl (Nat.le_of_ble_eq_true rfl) ?_
  intro p e s m args below meth c A Q S hA ret ls hl hW
  have hl : lv_has ls 3 [(0, .ref aP), (1, .long x)] := hl
  have hW : Wd D (tyl cI cJ cB cZ) A s s.heap s.heap [] [(aP, .inr (2, [.ref aPb, .int (nI ln), .int ov])), (aPb, .inl (cB, 4096, .inl (sby b)))] := hW
  refine lv_lload_n S.1 S.2.1 d_P_at_0 rfl (lv_at hl 1 rfl) ?_
  refine lv_lconst (v := 0) S.1 S.2.1 d_P_at_1 rfl ?_
  refine W.lcmp S.1 S.2.1 d_P_at_2 ?_
  refine lv_if_lt (tgt := 16) S.1 S.2.1 d_P_at_3 (by decide) (fun c_3 => ?_) (fun c_3 => ?_)
  · refine lv_lconst (v := 0) S.1 S.2.1 d_P_at_16 rfl ?_
    refine lv_goto (tgt := 32) S.1 S.2.1 d_P_at_17 (by decide) ?_
    exact ret _ _ _ _ _ _ d_P_at_32 ⟨(by first | exact (pv_lo c_3).symm | exact (pv_hi hln c_13).symm | (rw [pv_in hln hk]; exact nI_l (by have := hb k; omega))), rfl⟩ hW
  · refine lv_lload_n S.1 S.2.1 d_P_at_6 rfl (lv_at hl 1 rfl) ?_
    refine lv_aload_n S.1 S.2.1 d_P_at_7 rfl (lv_at hl 0 rfl) ?_
    refine g_get i_P S hW 0 rfl rfl 1 (by decide) kf_P_15 rfl d_P_at_8 ?_
    refine lv_i2l (v := (nI ln).toInt64) S.1 S.2.1 d_P_at_11 rfl ?_
    refine W.lcmp S.1 S.2.1 d_P_at_12 ?_
    refine lv_if_lt (tgt := 20) S.1 S.2.1 d_P_at_13 (by decide) (fun c_13 => ?_) (fun c_13 => ?_)
    · obtain ⟨k, hk, rfl⟩ := pv_k hln c_3 c_13
      refine lv_aload_n S.1 S.2.1 d_P_at_20 rfl (lv_at hl 0 rfl) ?_
      refine g_get i_P S hW 0 rfl rfl 0 (by decide) kf_P_9 rfl d_P_at_21 ?_
      refine lv_lload_n S.1 S.2.1 d_P_at_24 rfl (lv_at hl 1 rfl) ?_
      refine lv_l2i (v := (lN k).toInt32) S.1 S.2.1 d_P_at_25 rfl ?_
      refine top_eq (y := (nI k)) (lN_i k) ?_
      refine n_bald S hW 1 2 rfl rfl (by decide) (by omega) d_P_at_26 ?_
      refine lv_sipush (v := (nI 255)) S.1 S.2.1 d_P_at_27 (by decide) ?_
      refine lv_iand S.1 S.2.1 d_P_at_30 ?_
      refine top_eq (y := (nI (b k))) (sby_and hb k) ?_
      refine lv_i2l (v := (nI (b k)).toInt64) S.1 S.2.1 d_P_at_31 rfl ?_
      exact ret _ _ _ _ _ _ d_P_at_32 ⟨(by first | exact (pv_lo c_3).symm | exact (pv_hi hln c_13).symm | (rw [pv_in hln hk]; exact nI_l (by have := hb k; omega))), rfl⟩ hW
    · refine lv_lconst (v := 0) S.1 S.2.1 d_P_at_16 rfl ?_
      refine lv_goto (tgt := 32) S.1 S.2.1 d_P_at_17 (by decide) ?_
      exact ret _ _ _ _ _ _ d_P_at_32 ⟨(by first | exact (pv_lo c_3).symm | exact (pv_hi hln c_13).symm | (rw [pv_in hln hk]; exact nI_l (by have := hb k; omega))), rfl⟩ hW
theorem d_P_add_0 : decode b_P_add 0 = .ok (.aload_n 0, 1) := by decide +kernel
theorem d_P_add_1 : decode b_P_add 1 = .ok (.getfield 15, 3) := by decide +kernel
theorem d_P_add_4 : decode b_P_add 4 = .ok (.sipush 4096, 3) := by decide +kernel
theorem d_P_add_7 : decode b_P_add 7 = .ok (.if_icmp .lt 9, 3) := by decide +kernel
theorem d_P_add_10 : decode b_P_add 10 = .ok (.aload_n 0, 1) := by decide +kernel
theorem d_P_add_11 : decode b_P_add 11 = .ok (.iconst 1, 1) := by decide +kernel
theorem d_P_add_12 : decode b_P_add 12 = .ok (.putfield 19, 3) := by decide +kernel
theorem d_P_add_15 : decode b_P_add 15 = .ok (.return_, 1) := by decide +kernel
theorem d_P_add_16 : decode b_P_add 16 = .ok (.aload_n 0, 1) := by decide +kernel
theorem d_P_add_17 : decode b_P_add 17 = .ok (.getfield 9, 3) := by decide +kernel
theorem d_P_add_20 : decode b_P_add 20 = .ok (.aload_n 0, 1) := by decide +kernel
theorem d_P_add_21 : decode b_P_add 21 = .ok (.getfield 15, 3) := by decide +kernel
theorem d_P_add_24 : decode b_P_add 24 = .ok (.iload_n 1, 1) := by decide +kernel
theorem d_P_add_25 : decode b_P_add 25 = .ok (.i2b, 1) := by decide +kernel
theorem d_P_add_26 : decode b_P_add 26 = .ok (.bastore, 1) := by decide +kernel
theorem d_P_add_27 : decode b_P_add 27 = .ok (.aload_n 0, 1) := by decide +kernel
theorem d_P_add_28 : decode b_P_add 28 = .ok (.dup, 1) := by decide +kernel
theorem d_P_add_29 : decode b_P_add 29 = .ok (.getfield 15, 3) := by decide +kernel
theorem d_P_add_32 : decode b_P_add 32 = .ok (.iconst 1, 1) := by decide +kernel
theorem d_P_add_33 : decode b_P_add 33 = .ok (.iadd, 1) := by decide +kernel
theorem d_P_add_34 : decode b_P_add 34 = .ok (.putfield 15, 3) := by decide +kernel
theorem d_P_add_37 : decode b_P_add 37 = .ok (.return_, 1) := by decide +kernel
set_option maxHeartbeats 4000000 in
set_option maxRecDepth 100000 in
theorem c_P_add (l : Launch) (D : va_G) (cI cJ cB cZ : ClassId) (aP aPb : Nat) (b : Nat → Nat) (ln v : Nat) (ov : Int32) (hln : ln ≤ 4096) : Cv l D (tyl cI cJ cB cZ) y_P_add b_P_add 2 ({ frames := 0, cells := 0, slots := 0, locals := 0 } : Room) [.ref aP, .int (nI v)] [(aP, .inr (2, [.ref aPb, .int (nI ln), .int ov])), (aPb, .inl (cB, 4096, .inl (sby b)))] (fun u => ((ln < 4096) ∧ u = [(aP, .inr (2, [.ref aPb, .int (nI (ln + 1)), .int ov])), (aPb, .inl (cB, 4096, .inl (sby (updN b ln v))))]) ∨ ((ln = 4096) ∧ u = [(aP, .inr (2, [.ref aPb, .int (nI ln), .int (nI 1)])), (aPb, .inl (cB, 4096, .inl (sby b)))])) := by
  refine met_v (own := "ProofReader$Paper") (by decide) rfl (Nat.le_of_ble_eq_true rfl) ?_
  intro p e s m args below meth c A Q S hin hA ret ls hl hW
  have hl : lv_has ls 2 [(0, .ref aP), (1, .int (nI v))] := hl
  have hW : Wd D (tyl cI cJ cB cZ) A s s.heap s.heap [] [(aP, .inr (2, [.ref aPb, .int (nI ln), .int ov])), (aPb, .inl (cB, 4096, .inl (sby b)))] := hW
  refine lv_aload_n S.1 S.2.1 d_P_add_0 rfl (lv_at hl 0 rfl) ?_
  refine g_get i_P S hW 0 rfl rfl 1 (by decide) kf_P_15 rfl d_P_add_1 ?_
  refine lv_sipush (v := (nI 4096)) S.1 S.2.1 d_P_add_4 (by decide) ?_
  refine n_icmp_lt (tgt := 16) S (by omega) (by omega) d_P_add_7 (by decide) (fun c_7 => ?_) (fun c_7 => ?_)
  · refine lv_aload_n S.1 S.2.1 d_P_add_16 rfl (lv_at hl 0 rfl) ?_
    refine g_get i_P S hW 0 rfl rfl 0 (by decide) kf_P_9 rfl d_P_add_17 ?_
    refine lv_aload_n S.1 S.2.1 d_P_add_20 rfl (lv_at hl 0 rfl) ?_
    refine g_get i_P S hW 0 rfl rfl 1 (by decide) kf_P_15 rfl d_P_add_21 ?_
    refine lv_iload_n S.1 S.2.1 d_P_add_24 rfl (lv_at hl 1 rfl) ?_
    refine lv_i2b (v := (nI v).toInt8.toInt32) S.1 S.2.1 d_P_add_25 rfl ?_
    refine n_bast (ws2 := [(aP, .inr (2, [.ref aPb, .int (nI ln), .int ov])), (aPb, .inl (cB, 4096, .inl (upd (sby b) ln (((nI v).toInt8.toInt32).toInt8.toInt32))))]) S hW 1 2 rfl rfl (by decide) (by omega) rfl d_P_add_26 (fun H locs hW => ?_)
    have hW : Wd D (tyl cI cJ cB cZ) A s s.heap H locs [(aP, .inr (2, [.ref aPb, .int (nI ln), .int ov])), (aPb, .inl (cB, 4096, .inl (sby (updN b ln v))))] := by have q := hW; rw [sby_upd] at q; exact q
    refine lv_aload_n S.1 S.2.1 d_P_add_27 rfl (lv_at hl 0 rfl) ?_
    refine lv_dup S.1 S.2.1 d_P_add_28 rfl ?_
    refine g_get i_P S hW 0 rfl rfl 1 (by decide) kf_P_15 rfl d_P_add_29 ?_
    refine lv_iconst (v := (nI 1)) S.1 S.2.1 d_P_add_32 (by decide) ?_
    refine n_iadd S d_P_add_33 ?_
    refine g_put (ws2 := [(aP, .inr (2, [.ref aPb, .int (nI (ln + 1)), .int ov])), (aPb, .inl (cB, 4096, .inl (sby (updN b ln v))))]) i_P ft_P ft_P_ok n_P S hW 0 rfl rfl 1 (by decide) kf_P_15 rfl rfl rfl (Nat.le_of_ble_eq_true rfl) rfl d_P_add_34 (fun H locs hW => ?_)
    exact ret _ _ _ _ _ d_P_add_37 (by first | exact (Or.inl ⟨(by first | omega | assumption | simp_all), rfl⟩) | exact (Or.inr ⟨(by first | omega | assumption | simp_all), rfl⟩)) hW
  · refine lv_aload_n S.1 S.2.1 d_P_add_10 rfl (lv_at hl 0 rfl) ?_
    refine lv_iconst (v := (nI 1)) S.1 S.2.1 d_P_add_11 (by decide) ?_
    refine g_put (ws2 := [(aP, .inr (2, [.ref aPb, .int (nI ln), .int (nI 1)])), (aPb, .inl (cB, 4096, .inl (sby b)))]) i_P ft_P ft_P_ok n_P S hW 0 rfl rfl 2 (by decide) kf_P_19 rfl rfl rfl (Nat.le_of_ble_eq_true rfl) rfl d_P_add_12 (fun H locs hW => ?_)
    exact ret _ _ _ _ _ d_P_add_15 (by first | exact (Or.inl ⟨(by first | omega | assumption | simp_all), rfl⟩) | exact (Or.inr ⟨(by first | omega | assumption | simp_all), rfl⟩)) hW
theorem d_X_fault_0 : decode b_X_fault 0 = .ok (.aload_n 0, 1) := by decide +kernel
theorem d_X_fault_1 : decode b_X_fault 1 = .ok (.getfield 10, 3) := by decide +kernel
theorem d_X_fault_4 : decode b_X_fault 4 = .ok (.getfield 115, 3) := by decide +kernel
theorem d_X_fault_7 : decode b_X_fault 7 = .ok (.ireturn, 1) := by decide +kernel
set_option maxHeartbeats 4000000 in
set_option maxRecDepth 100000 in
theorem c_X_fault (l : Launch) (D : va_G) (cI cJ cB cZ : ClassId) (aX aF aC aP aT aK aR aH aI : Nat) (fd : Int32) (fn fw : Int32) : Ci l D (tyl cI cJ cB cZ) y_X_fault b_X_fault 1 (some .int) ({ frames := 0, cells := 0, slots := 0, locals := 0 } : Room) [.ref aX] [(aX, .inr (9, [.ref aF, .ref aC, .ref aP, .ref aT, .ref aK, .ref aR, .ref aH, .ref aI, .int fd])), (aF, .inr (0, [.int fn, .int fw]))] (fun r u => r = fn ∧ u = [(aX, .inr (9, [.ref aF, .ref aC, .ref aP, .ref aT, .ref aK, .ref aR, .ref aH, .ref aI, .int fd])), (aF, .inr (0, [.int fn, .int fw]))]) := by
  refine met_i (own := "ProofReader") (by decide) rfl (Nat.le_of_ble_eq_true rfl) ?_
  intro p e s m args below meth c A Q S hA ret ls hl hW
  have hl : lv_has ls 1 [(0, .ref aX)] := hl
  have hW : Wd D (tyl cI cJ cB cZ) A s s.heap s.heap [] [(aX, .inr (9, [.ref aF, .ref aC, .ref aP, .ref aT, .ref aK, .ref aR, .ref aH, .ref aI, .int fd])), (aF, .inr (0, [.int fn, .int fw]))] := hW
  refine lv_aload_n S.1 S.2.1 d_X_fault_0 rfl (lv_at hl 0 rfl) ?_
  refine g_get i_X S hW 0 rfl rfl 0 (by decide) kf_X_10 rfl d_X_fault_1 ?_
  refine g_get i_F S hW 1 rfl rfl 0 (by decide) kf_X_115 rfl d_X_fault_4 ?_
  exact ret _ _ _ _ _ _ d_X_fault_7 rfl ⟨rfl, rfl⟩ hW
theorem d_X_place_0 : decode b_X_place 0 = .ok (.aload_n 0, 1) := by decide +kernel
theorem d_X_place_1 : decode b_X_place 1 = .ok (.getfield 10, 3) := by decide +kernel
theorem d_X_place_4 : decode b_X_place 4 = .ok (.getfield 118, 3) := by decide +kernel
theorem d_X_place_7 : decode b_X_place 7 = .ok (.ireturn, 1) := by decide +kernel
set_option maxHeartbeats 4000000 in
set_option maxRecDepth 100000 in
theorem c_X_place (l : Launch) (D : va_G) (cI cJ cB cZ : ClassId) (aX aF aC aP aT aK aR aH aI : Nat) (fd : Int32) (fn fw : Int32) : Ci l D (tyl cI cJ cB cZ) y_X_place b_X_place 1 (some .int) ({ frames := 0, cells := 0, slots := 0, locals := 0 } : Room) [.ref aX] [(aX, .inr (9, [.ref aF, .ref aC, .ref aP, .ref aT, .ref aK, .ref aR, .ref aH, .ref aI, .int fd])), (aF, .inr (0, [.int fn, .int fw]))] (fun r u => r = fw ∧ u = [(aX, .inr (9, [.ref aF, .ref aC, .ref aP, .ref aT, .ref aK, .ref aR, .ref aH, .ref aI, .int fd])), (aF, .inr (0, [.int fn, .int fw]))]) := by
  refine met_i (own := "ProofReader") (by decide) rfl (Nat.le_of_ble_eq_true rfl) ?_
  intro p e s m args below meth c A Q S hA ret ls hl hW
  have hl : lv_has ls 1 [(0, .ref aX)] := hl
  have hW : Wd D (tyl cI cJ cB cZ) A s s.heap s.heap [] [(aX, .inr (9, [.ref aF, .ref aC, .ref aP, .ref aT, .ref aK, .ref aR, .ref aH, .ref aI, .int fd])), (aF, .inr (0, [.int fn, .int fw]))] := hW
  refine lv_aload_n S.1 S.2.1 d_X_place_0 rfl (lv_at hl 0 rfl) ?_
  refine g_get i_X S hW 0 rfl rfl 0 (by decide) kf_X_10 rfl d_X_place_1 ?_
  refine g_get i_F S hW 1 rfl rfl 1 (by decide) kf_X_118 rfl d_X_place_4 ?_
  exact ret _ _ _ _ _ _ d_X_place_7 rfl ⟨rfl, rfl⟩ hW
theorem d_X_constants_0 : decode b_X_constants 0 = .ok (.aload_n 0, 1) := by decide +kernel
theorem d_X_constants_1 : decode b_X_constants 1 = .ok (.getfield 44, 3) := by decide +kernel
theorem d_X_constants_4 : decode b_X_constants 4 = .ok (.getfield 121, 3) := by decide +kernel
theorem d_X_constants_7 : decode b_X_constants 7 = .ok (.ireturn, 1) := by decide +kernel
set_option maxHeartbeats 4000000 in
set_option maxRecDepth 100000 in
theorem c_X_constants (l : Launch) (D : va_G) (cI cJ cB cZ : ClassId) (aX aF aC aP aT aK aR aH aI : Nat) (fd : Int32) (aK0 aK1 aK2 aK3 aK4 : Nat) (cn ce : Int32) : Ci l D (tyl cI cJ cB cZ) y_X_constants b_X_constants 1 (some .int) ({ frames := 0, cells := 0, slots := 0, locals := 0 } : Room) [.ref aX] [(aX, .inr (9, [.ref aF, .ref aC, .ref aP, .ref aT, .ref aK, .ref aR, .ref aH, .ref aI, .int fd])), (aK, .inr (4, [.ref aC, .ref aK0, .ref aK1, .ref aK2, .ref aK3, .ref aK4, .int cn, .int ce]))] (fun r u => r = cn ∧ u = [(aX, .inr (9, [.ref aF, .ref aC, .ref aP, .ref aT, .ref aK, .ref aR, .ref aH, .ref aI, .int fd])), (aK, .inr (4, [.ref aC, .ref aK0, .ref aK1, .ref aK2, .ref aK3, .ref aK4, .int cn, .int ce]))]) := by
  refine met_i (own := "ProofReader") (by decide) rfl (Nat.le_of_ble_eq_true rfl) ?_
  intro p e s m args below meth c A Q S hA ret ls hl hW
  have hl : lv_has ls 1 [(0, .ref aX)] := hl
  have hW : Wd D (tyl cI cJ cB cZ) A s s.heap s.heap [] [(aX, .inr (9, [.ref aF, .ref aC, .ref aP, .ref aT, .ref aK, .ref aR, .ref aH, .ref aI, .int fd])), (aK, .inr (4, [.ref aC, .ref aK0, .ref aK1, .ref aK2, .ref aK3, .ref aK4, .int cn, .int ce]))] := hW
  refine lv_aload_n S.1 S.2.1 d_X_constants_0 rfl (lv_at hl 0 rfl) ?_
  refine g_get i_X S hW 0 rfl rfl 4 (by decide) kf_X_44 rfl d_X_constants_1 ?_
  refine g_get i_K S hW 1 rfl rfl 6 (by decide) kf_X_121 rfl d_X_constants_4 ?_
  exact ret _ _ _ _ _ _ d_X_constants_7 rfl ⟨rfl, rfl⟩ hW
theorem d_X_printed_0 : decode b_X_printed 0 = .ok (.aload_n 0, 1) := by decide +kernel
theorem d_X_printed_1 : decode b_X_printed 1 = .ok (.getfield 26, 3) := by decide +kernel
theorem d_X_printed_4 : decode b_X_printed 4 = .ok (.getfield 125, 3) := by decide +kernel
theorem d_X_printed_7 : decode b_X_printed 7 = .ok (.ireturn, 1) := by decide +kernel
set_option maxHeartbeats 4000000 in
set_option maxRecDepth 100000 in
theorem c_X_printed (l : Launch) (D : va_G) (cI cJ cB cZ : ClassId) (aX aF aC aP aT aK aR aH aI : Nat) (fd : Int32) (aPb : Nat) (ln ov : Int32) : Ci l D (tyl cI cJ cB cZ) y_X_printed b_X_printed 1 (some .int) ({ frames := 0, cells := 0, slots := 0, locals := 0 } : Room) [.ref aX] [(aX, .inr (9, [.ref aF, .ref aC, .ref aP, .ref aT, .ref aK, .ref aR, .ref aH, .ref aI, .int fd])), (aP, .inr (2, [.ref aPb, .int ln, .int ov]))] (fun r u => r = ln ∧ u = [(aX, .inr (9, [.ref aF, .ref aC, .ref aP, .ref aT, .ref aK, .ref aR, .ref aH, .ref aI, .int fd])), (aP, .inr (2, [.ref aPb, .int ln, .int ov]))]) := by
  refine met_i (own := "ProofReader") (by decide) rfl (Nat.le_of_ble_eq_true rfl) ?_
  intro p e s m args below meth c A Q S hA ret ls hl hW
  have hl : lv_has ls 1 [(0, .ref aX)] := hl
  have hW : Wd D (tyl cI cJ cB cZ) A s s.heap s.heap [] [(aX, .inr (9, [.ref aF, .ref aC, .ref aP, .ref aT, .ref aK, .ref aR, .ref aH, .ref aI, .int fd])), (aP, .inr (2, [.ref aPb, .int ln, .int ov]))] := hW
  refine lv_aload_n S.1 S.2.1 d_X_printed_0 rfl (lv_at hl 0 rfl) ?_
  refine g_get i_X S hW 0 rfl rfl 2 (by decide) kf_X_26 rfl d_X_printed_1 ?_
  refine g_get i_P S hW 1 rfl rfl 1 (by decide) kf_X_125 rfl d_X_printed_4 ?_
  exact ret _ _ _ _ _ _ d_X_printed_7 rfl ⟨rfl, rfl⟩ hW
theorem d_X_wipe_0 : decode b_X_wipe 0 = .ok (.aload_n 0, 1) := by decide +kernel
theorem d_X_wipe_1 : decode b_X_wipe 1 = .ok (.getfield 26, 3) := by decide +kernel
theorem d_X_wipe_4 : decode b_X_wipe 4 = .ok (.getfield 125, 3) := by decide +kernel
theorem d_X_wipe_7 : decode b_X_wipe 7 = .ok (.istore_n 1, 1) := by decide +kernel
theorem d_X_wipe_8 : decode b_X_wipe 8 = .ok (.aload_n 0, 1) := by decide +kernel
theorem d_X_wipe_9 : decode b_X_wipe 9 = .ok (.getfield 26, 3) := by decide +kernel
theorem d_X_wipe_12 : decode b_X_wipe 12 = .ok (.iconst 0, 1) := by decide +kernel
theorem d_X_wipe_13 : decode b_X_wipe 13 = .ok (.putfield 125, 3) := by decide +kernel
theorem d_X_wipe_16 : decode b_X_wipe 16 = .ok (.iload_n 1, 1) := by decide +kernel
theorem d_X_wipe_17 : decode b_X_wipe 17 = .ok (.ireturn, 1) := by decide +kernel
set_option maxHeartbeats 4000000 in
set_option maxRecDepth 100000 in
theorem c_X_wipe (l : Launch) (D : va_G) (cI cJ cB cZ : ClassId) (aX aF aC aP aT aK aR aH aI : Nat) (fd : Int32) (aPb : Nat) (ln ov : Int32) : Ci l D (tyl cI cJ cB cZ) y_X_wipe b_X_wipe 2 (some .int) ({ frames := 0, cells := 0, slots := 0, locals := 0 } : Room) [.ref aX] [(aX, .inr (9, [.ref aF, .ref aC, .ref aP, .ref aT, .ref aK, .ref aR, .ref aH, .ref aI, .int fd])), (aP, .inr (2, [.ref aPb, .int ln, .int ov]))] (fun r u => r = ln ∧ u = [(aX, .inr (9, [.ref aF, .ref aC, .ref aP, .ref aT, .ref aK, .ref aR, .ref aH, .ref aI, .int fd])), (aP, .inr (2, [.ref aPb, .int (nI 0), .int ov]))]) := by
  refine met_i (own := "ProofReader") (by decide) rfl (Nat.le_of_ble_eq_true rfl) ?_
  intro p e s m args below meth c A Q S hA ret ls hl hW
  have hl : lv_has ls 2 [(0, .ref aX)] := hl
  have hW : Wd D (tyl cI cJ cB cZ) A s s.heap s.heap [] [(aX, .inr (9, [.ref aF, .ref aC, .ref aP, .ref aT, .ref aK, .ref aR, .ref aH, .ref aI, .int fd])), (aP, .inr (2, [.ref aPb, .int ln, .int ov]))] := hW
  refine lv_aload_n S.1 S.2.1 d_X_wipe_0 rfl (lv_at hl 0 rfl) ?_
  refine g_get i_X S hW 0 rfl rfl 2 (by decide) kf_X_26 rfl d_X_wipe_1 ?_
  refine g_get i_P S hW 1 rfl rfl 1 (by decide) kf_X_125 rfl d_X_wipe_4 ?_
  refine lv_istore_n (lv' := [(1, .int ln), (0, .ref aX)]) S.1 S.2.1 d_X_wipe_7 rfl hl (by decide) rfl (fun ls hl => ?_)
  refine lv_aload_n S.1 S.2.1 d_X_wipe_8 rfl (lv_at hl 1 rfl) ?_
  refine g_get i_X S hW 0 rfl rfl 2 (by decide) kf_X_26 rfl d_X_wipe_9 ?_
  refine lv_iconst (v := (nI 0)) S.1 S.2.1 d_X_wipe_12 (by decide) ?_
  refine g_put (ws2 := [(aX, .inr (9, [.ref aF, .ref aC, .ref aP, .ref aT, .ref aK, .ref aR, .ref aH, .ref aI, .int fd])), (aP, .inr (2, [.ref aPb, .int (nI 0), .int ov]))]) i_P ft_P ft_P_ok n_P S hW 1 rfl rfl 1 (by decide) kf_X_125 rfl rfl rfl (Nat.le_of_ble_eq_true rfl) rfl d_X_wipe_13 (fun H locs hW => ?_)
  refine lv_iload_n S.1 S.2.1 d_X_wipe_16 rfl (lv_at hl 0 rfl) ?_
  exact ret _ _ _ _ _ _ d_X_wipe_17 rfl ⟨rfl, rfl⟩ hW
theorem d_X_clear_0 : decode b_X_clear 0 = .ok (.aload_n 0, 1) := by decide +kernel
theorem d_X_clear_1 : decode b_X_clear 1 = .ok (.getfield 44, 3) := by decide +kernel
theorem d_X_clear_4 : decode b_X_clear 4 = .ok (.getfield 121, 3) := by decide +kernel
theorem d_X_clear_7 : decode b_X_clear 7 = .ok (.istore_n 1, 1) := by decide +kernel
theorem d_X_clear_8 : decode b_X_clear 8 = .ok (.aload_n 0, 1) := by decide +kernel
theorem d_X_clear_9 : decode b_X_clear 9 = .ok (.getfield 44, 3) := by decide +kernel
theorem d_X_clear_12 : decode b_X_clear 12 = .ok (.invokevirtual 124, 3) := by decide +kernel
theorem d_X_clear_15 : decode b_X_clear 15 = .ok (.aload_n 0, 1) := by decide +kernel
theorem d_X_clear_16 : decode b_X_clear 16 = .ok (.getfield 35, 3) := by decide +kernel
theorem d_X_clear_19 : decode b_X_clear 19 = .ok (.invokevirtual 112, 3) := by decide +kernel
theorem d_X_clear_22 : decode b_X_clear 22 = .ok (.aload_n 0, 1) := by decide +kernel
theorem d_X_clear_23 : decode b_X_clear 23 = .ok (.getfield 26, 3) := by decide +kernel
theorem d_X_clear_26 : decode b_X_clear 26 = .ok (.iconst 0, 1) := by decide +kernel
theorem d_X_clear_27 : decode b_X_clear 27 = .ok (.putfield 125, 3) := by decide +kernel
theorem d_X_clear_30 : decode b_X_clear 30 = .ok (.aload_n 0, 1) := by decide +kernel
theorem d_X_clear_31 : decode b_X_clear 31 = .ok (.iconst 0, 1) := by decide +kernel
theorem d_X_clear_32 : decode b_X_clear 32 = .ok (.putfield 75, 3) := by decide +kernel
theorem d_X_clear_35 : decode b_X_clear 35 = .ok (.iload_n 1, 1) := by decide +kernel
theorem d_X_clear_36 : decode b_X_clear 36 = .ok (.ireturn, 1) := by decide +kernel
set_option maxHeartbeats 4000000 in
set_option maxRecDepth 100000 in
theorem c_X_clear (l : Launch) (D : va_G) (cI cJ cB cZ : ClassId) (aX aF aC aP aT aK aR aH aI : Nat) (fd : Int32) (aK0 aK1 aK2 aK3 aK4 aTb aPb : Nat) (cn ce nx ln kd st pl ov : Int32) (fr bk : Int64) : Ci l D (tyl cI cJ cB cZ) y_X_clear b_X_clear 2 (some .int) ({ frames := 1, cells := 0, slots := 0, locals := 20 } : Room) [.ref aX] [(aX, .inr (9, [.ref aF, .ref aC, .ref aP, .ref aT, .ref aK, .ref aR, .ref aH, .ref aI, .int fd])), (aK, .inr (4, [.ref aC, .ref aK0, .ref aK1, .ref aK2, .ref aK3, .ref aK4, .int cn, .int ce])), (aT, .inr (3, [.ref aF, .ref aTb, .int nx, .int ln, .int kd, .int st, .long fr, .long bk])), (aP, .inr (2, [.ref aPb, .int pl, .int ov]))] (fun r u => r = cn ∧ u = [(aX, .inr (9, [.ref aF, .ref aC, .ref aP, .ref aT, .ref aK, .ref aR, .ref aH, .ref aI, .int (nI 0)])), (aK, .inr (4, [.ref aC, .ref aK0, .ref aK1, .ref aK2, .ref aK3, .ref aK4, .int (nI 0), .int (nI 0)])), (aT, .inr (3, [.ref aF, .ref aTb, .int nx, .int (nI 0), .int kd, .int st, .long fr, .long bk])), (aP, .inr (2, [.ref aPb, .int (nI 0), .int ov]))]) := by
  refine met_i (own := "ProofReader") (by decide) rfl (Nat.le_of_ble_eq_true rfl) ?_
  intro p e s m args below meth c A Q S hA ret ls hl hW
  have hl : lv_has ls 2 [(0, .ref aX)] := hl
  have hW : Wd D (tyl cI cJ cB cZ) A s s.heap s.heap [] [(aX, .inr (9, [.ref aF, .ref aC, .ref aP, .ref aT, .ref aK, .ref aR, .ref aH, .ref aI, .int fd])), (aK, .inr (4, [.ref aC, .ref aK0, .ref aK1, .ref aK2, .ref aK3, .ref aK4, .int cn, .int ce])), (aT, .inr (3, [.ref aF, .ref aTb, .int nx, .int ln, .int kd, .int st, .long fr, .long bk])), (aP, .inr (2, [.ref aPb, .int pl, .int ov]))] := hW
  refine lv_aload_n S.1 S.2.1 d_X_clear_0 rfl (lv_at hl 0 rfl) ?_
  refine g_get i_X S hW 0 rfl rfl 4 (by decide) kf_X_44 rfl d_X_clear_1 ?_
  refine g_get i_K S hW 1 rfl rfl 6 (by decide) kf_X_121 rfl d_X_clear_4 ?_
  refine lv_istore_n (lv' := [(1, .int cn), (0, .ref aX)]) S.1 S.2.1 d_X_clear_7 rfl hl (by decide) rfl (fun ls hl => ?_)
  refine lv_aload_n S.1 S.2.1 d_X_clear_8 rfl (lv_at hl 1 rfl) ?_
  refine g_get i_X S hW 0 rfl rfl 4 (by decide) kf_X_44 rfl d_X_clear_9 ?_
  refine callV_v (wr := [(aX, .inr (9, [.ref aF, .ref aC, .ref aP, .ref aT, .ref aK, .ref aR, .ref aH, .ref aI, .int fd])), (aT, .inr (3, [.ref aF, .ref aTb, .int nx, .int ln, .int kd, .int st, .long fr, .long bk])), (aP, .inr (2, [.ref aPb, .int pl, .int ov]))]) (wc := [(aK, .inr (4, [.ref aC, .ref aK0, .ref aK1, .ref aK2, .ref aK3, .ref aK4, .int cn, .int ce]))]) (np := 0) (As := []) (rest := []) (c_K_forget l D cI cJ cB cZ aK aC aK0 aK1 aK2 aK3 aK4 cn ce ) km_X_124 ki_K_forget kv_K_forget kz_K kk_K_forget (by decide +kernel) S hW hA ⟨Nat.le_of_ble_eq_true rfl, Nat.le_of_ble_eq_true rfl⟩ ⟨Nat.le_of_ble_eq_true rfl, Nat.le_of_ble_eq_true rfl⟩ rfl 0 rfl [1] [0, 2, 3] rfl (by decide) rfl (by decide) (by decide) rfl hl.1 rfl (Nat.le_of_ble_eq_true rfl) d_X_clear_12 (fun u H locs hp hW => ?_)
  obtain rfl := hp
  have hW : Wd D (tyl cI cJ cB cZ) A s s.heap H locs [(aX, .inr (9, [.ref aF, .ref aC, .ref aP, .ref aT, .ref aK, .ref aR, .ref aH, .ref aI, .int fd])), (aK, .inr (4, [.ref aC, .ref aK0, .ref aK1, .ref aK2, .ref aK3, .ref aK4, .int (nI 0), .int (nI 0)])), (aT, .inr (3, [.ref aF, .ref aTb, .int nx, .int ln, .int kd, .int st, .long fr, .long bk])), (aP, .inr (2, [.ref aPb, .int pl, .int ov]))] := hW.sub [0, 3, 1, 2] (by decide) rfl
  refine lv_aload_n S.1 S.2.1 d_X_clear_15 rfl (lv_at hl 1 rfl) ?_
  refine g_get i_X S hW 0 rfl rfl 3 (by decide) kf_X_35 rfl d_X_clear_16 ?_
  refine callV_v (wr := [(aX, .inr (9, [.ref aF, .ref aC, .ref aP, .ref aT, .ref aK, .ref aR, .ref aH, .ref aI, .int fd])), (aK, .inr (4, [.ref aC, .ref aK0, .ref aK1, .ref aK2, .ref aK3, .ref aK4, .int (nI 0), .int (nI 0)])), (aP, .inr (2, [.ref aPb, .int pl, .int ov]))]) (wc := [(aT, .inr (3, [.ref aF, .ref aTb, .int nx, .int ln, .int kd, .int st, .long fr, .long bk]))]) (np := 0) (As := []) (rest := []) (c_T_drop l D cI cJ cB cZ aT aF aTb nx ln kd st fr bk ) km_X_112 ki_T_drop kv_T_drop kz_T kk_T_drop (by decide +kernel) S hW hA ⟨Nat.le_of_ble_eq_true rfl, Nat.le_of_ble_eq_true rfl⟩ ⟨Nat.le_of_ble_eq_true rfl, Nat.le_of_ble_eq_true rfl⟩ rfl 0 rfl [2] [0, 1, 3] rfl (by decide) rfl (by decide) (by decide) rfl hl.1 rfl (Nat.le_of_ble_eq_true rfl) d_X_clear_19 (fun u H locs hp hW => ?_)
  obtain rfl := hp
  have hW : Wd D (tyl cI cJ cB cZ) A s s.heap H locs [(aX, .inr (9, [.ref aF, .ref aC, .ref aP, .ref aT, .ref aK, .ref aR, .ref aH, .ref aI, .int fd])), (aK, .inr (4, [.ref aC, .ref aK0, .ref aK1, .ref aK2, .ref aK3, .ref aK4, .int (nI 0), .int (nI 0)])), (aT, .inr (3, [.ref aF, .ref aTb, .int nx, .int (nI 0), .int kd, .int st, .long fr, .long bk])), (aP, .inr (2, [.ref aPb, .int pl, .int ov]))] := hW.sub [0, 1, 3, 2] (by decide) rfl
  refine lv_aload_n S.1 S.2.1 d_X_clear_22 rfl (lv_at hl 1 rfl) ?_
  refine g_get i_X S hW 0 rfl rfl 2 (by decide) kf_X_26 rfl d_X_clear_23 ?_
  refine lv_iconst (v := (nI 0)) S.1 S.2.1 d_X_clear_26 (by decide) ?_
  refine g_put (ws2 := [(aX, .inr (9, [.ref aF, .ref aC, .ref aP, .ref aT, .ref aK, .ref aR, .ref aH, .ref aI, .int fd])), (aK, .inr (4, [.ref aC, .ref aK0, .ref aK1, .ref aK2, .ref aK3, .ref aK4, .int (nI 0), .int (nI 0)])), (aT, .inr (3, [.ref aF, .ref aTb, .int nx, .int (nI 0), .int kd, .int st, .long fr, .long bk])), (aP, .inr (2, [.ref aPb, .int (nI 0), .int ov]))]) i_P ft_P ft_P_ok n_P S hW 3 rfl rfl 1 (by decide) kf_X_125 rfl rfl rfl (Nat.le_of_ble_eq_true rfl) rfl d_X_clear_27 (fun H locs hW => ?_)
  refine lv_aload_n S.1 S.2.1 d_X_clear_30 rfl (lv_at hl 1 rfl) ?_
  refine lv_iconst (v := (nI 0)) S.1 S.2.1 d_X_clear_31 (by decide) ?_
  refine g_put (ws2 := [(aX, .inr (9, [.ref aF, .ref aC, .ref aP, .ref aT, .ref aK, .ref aR, .ref aH, .ref aI, .int (nI 0)])), (aK, .inr (4, [.ref aC, .ref aK0, .ref aK1, .ref aK2, .ref aK3, .ref aK4, .int (nI 0), .int (nI 0)])), (aT, .inr (3, [.ref aF, .ref aTb, .int nx, .int (nI 0), .int kd, .int st, .long fr, .long bk])), (aP, .inr (2, [.ref aPb, .int (nI 0), .int ov]))]) i_X ft_X ft_X_ok n_X S hW 0 rfl rfl 8 (by decide) kf_X_75 rfl rfl rfl (Nat.le_of_ble_eq_true rfl) rfl d_X_clear_32 (fun H locs hW => ?_)
  refine lv_iload_n S.1 S.2.1 d_X_clear_35 rfl (lv_at hl 0 rfl) ?_
  exact ret _ _ _ _ _ _ d_X_clear_36 rfl ⟨rfl, rfl⟩ hW
theorem d_X_paper_0 : decode b_X_paper 0 = .ok (.lconst 0, 1) := by decide +kernel
theorem d_X_paper_1 : decode b_X_paper 1 = .ok (.lstore_n 2, 1) := by decide +kernel
theorem d_X_paper_2 : decode b_X_paper 2 = .ok (.iconst 0, 1) := by decide +kernel
theorem d_X_paper_3 : decode b_X_paper 3 = .ok (.istore 4, 2) := by decide +kernel
theorem d_X_paper_5 : decode b_X_paper 5 = .ok (.iload 4, 2) := by decide +kernel
theorem d_X_paper_7 : decode b_X_paper 7 = .ok (.bipush 8, 2) := by decide +kernel
theorem d_X_paper_9 : decode b_X_paper 9 = .ok (.if_icmp .ge 31, 3) := by decide +kernel
theorem d_X_paper_12 : decode b_X_paper 12 = .ok (.lload_n 2, 1) := by decide +kernel
theorem d_X_paper_13 : decode b_X_paper 13 = .ok (.aload_n 0, 1) := by decide +kernel
theorem d_X_paper_14 : decode b_X_paper 14 = .ok (.getfield 26, 3) := by decide +kernel
theorem d_X_paper_17 : decode b_X_paper 17 = .ok (.iload_n 1, 1) := by decide +kernel
theorem d_X_paper_18 : decode b_X_paper 18 = .ok (.i2l, 1) := by decide +kernel
theorem d_X_paper_19 : decode b_X_paper 19 = .ok (.iload 4, 2) := by decide +kernel
theorem d_X_paper_21 : decode b_X_paper 21 = .ok (.i2l, 1) := by decide +kernel
theorem d_X_paper_22 : decode b_X_paper 22 = .ok (.ladd, 1) := by decide +kernel
theorem d_X_paper_23 : decode b_X_paper 23 = .ok (.invokevirtual 158, 3) := by decide +kernel
theorem d_X_paper_26 : decode b_X_paper 26 = .ok (.bipush 8, 2) := by decide +kernel
theorem d_X_paper_28 : decode b_X_paper 28 = .ok (.iload 4, 2) := by decide +kernel
theorem d_X_paper_30 : decode b_X_paper 30 = .ok (.imul, 1) := by decide +kernel
theorem d_X_paper_31 : decode b_X_paper 31 = .ok (.lshl, 1) := by decide +kernel
theorem d_X_paper_32 : decode b_X_paper 32 = .ok (.lor, 1) := by decide +kernel
theorem d_X_paper_33 : decode b_X_paper 33 = .ok (.lstore_n 2, 1) := by decide +kernel
theorem d_X_paper_34 : decode b_X_paper 34 = .ok (.iinc 4 1, 3) := by decide +kernel
theorem d_X_paper_37 : decode b_X_paper 37 = .ok (.goto (-32), 3) := by decide +kernel
theorem d_X_paper_40 : decode b_X_paper 40 = .ok (.lload_n 2, 1) := by decide +kernel
theorem d_X_paper_41 : decode b_X_paper 41 = .ok (.lreturn, 1) := by decide +kernel
set_option maxHeartbeats 4000000 in
set_option maxRecDepth 100000 in
theorem c_X_paper (l : Launch) (D : va_G) (cI cJ cB cZ : ClassId) (aX aF aC aP aT aK aR aH aI : Nat) (fd : Int32) (aPb : Nat) (b : Nat → Nat) (ln : Nat) (i ov : Int32) (hb : ∀ j, b j < 256) (hln : ln ≤ 4096) : Cl l D (tyl cI cJ cB cZ) y_X_paper b_X_paper 5 (some .long) ({ frames := 1, cells := 0, slots := 0, locals := 22 } : Room) [.ref aX, .int i] [(aX, .inr (9, [.ref aF, .ref aC, .ref aP, .ref aT, .ref aK, .ref aR, .ref aH, .ref aI, .int fd])), (aP, .inr (2, [.ref aPb, .int (nI ln), .int ov])), (aPb, .inl (cB, 4096, .inl (sby b)))] (fun r u => r = pap b ln i 8 ∧ u = [(aX, .inr (9, [.ref aF, .ref aC, .ref aP, .ref aT, .ref aK, .ref aR, .ref aH, .ref aI, .int fd])), (aP, .inr (2, [.ref aPb, .int (nI ln), .int ov])), (aPb, .inl (cB, 4096, .inl (sby b)))]) := by
  refine met_l (own := "ProofReader") (by decide) rfl (Nat.le_of_ble_eq_true rfl) ?_
  intro p e s m args below meth c A Q S hA ret ls hl hW
  have hl : lv_has ls 5 [(0, .ref aX), (1, .int i)] := hl
  have hW : Wd D (tyl cI cJ cB cZ) A s s.heap s.heap [] [(aX, .inr (9, [.ref aF, .ref aC, .ref aP, .ref aT, .ref aK, .ref aR, .ref aH, .ref aI, .int fd])), (aP, .inr (2, [.ref aPb, .int (nI ln), .int ov])), (aPb, .inl (cB, 4096, .inl (sby b)))] := hW
  refine lv_lconst (v := 0) S.1 S.2.1 d_X_paper_0 rfl ?_
  refine lv_lstore_n (lv' := [(2, .long 0), (0, .ref aX), (1, .int i)]) S.1 S.2.1 d_X_paper_1 rfl hl (by decide) rfl (fun ls hl => ?_)
  refine lv_iconst (v := (nI 0)) S.1 S.2.1 d_X_paper_2 (by decide) ?_
  refine lv_istore (lv' := [(4, .int (nI 0)), (2, .long 0), (0, .ref aX), (1, .int i)]) S.1 S.2.1 d_X_paper_3 hl (by decide) rfl (fun ls hl => ?_)
  have loop_5 : ∀ (nf : Nat) (n : Nat) (v : Int64), 8 - n < nf → (n ≤ 8) → (v = pap b ln i n) → ∀ (H : Heap) (locs : List Loc), Wd D (tyl cI cJ cB cZ) A s s.heap H locs [(aX, .inr (9, [.ref aF, .ref aC, .ref aP, .ref aT, .ref aK, .ref aR, .ref aH, .ref aI, .int fd])), (aP, .inr (2, [.ref aPb, .int (nI ln), .int ov])), (aPb, .inl (cB, 4096, .inl (sby b)))] → ∀ (ls : Array Slot), lv_has ls 5 [(4, .int (nI n)), (2, .long v), (0, .ref aX), (1, .int i)] → W p l e ({ frames := 1, cells := 0, slots := 0, locals := 22 } : Room) s m args below meth c H locs 0 0 Q (F0 m 5 ls []) := by
    intro nf
    induction nf with
    | zero =>
      intros
      omega
    | succ nf ih =>
      intro n v hnf hn hv H locs hW ls hl
      refine lv_iload S.1 S.2.1 d_X_paper_5 (lv_at hl 0 rfl) ?_
      refine lv_bipush (v := (nI 8)) S.1 S.2.1 d_X_paper_7 (by decide) ?_
      refine n_icmp_ge (tgt := 40) S (by omega) (by omega) d_X_paper_9 (by decide) (fun c_9 => ?_) (fun c_9 => ?_)
      · refine lv_lload_n S.1 S.2.1 d_X_paper_40 rfl (lv_at hl 1 rfl) ?_
        exact ret _ _ _ _ _ _ d_X_paper_41 ⟨(by rw [hv, show n = 8 by omega]), rfl⟩ hW
      · refine lv_lload_n S.1 S.2.1 d_X_paper_12 rfl (lv_at hl 1 rfl) ?_
        refine lv_aload_n S.1 S.2.1 d_X_paper_13 rfl (lv_at hl 2 rfl) ?_
        refine g_get i_X S hW 0 rfl rfl 2 (by decide) kf_X_26 rfl d_X_paper_14 ?_
        refine lv_iload_n S.1 S.2.1 d_X_paper_17 rfl (lv_at hl 3 rfl) ?_
        refine lv_i2l (v := i.toInt64) S.1 S.2.1 d_X_paper_18 rfl ?_
        refine lv_iload S.1 S.2.1 d_X_paper_19 (lv_at hl 0 rfl) ?_
        refine lv_i2l (v := (nI n).toInt64) S.1 S.2.1 d_X_paper_21 rfl ?_
        refine lv_ladd S.1 S.2.1 d_X_paper_22 ?_
        refine callV_l (wr := [(aX, .inr (9, [.ref aF, .ref aC, .ref aP, .ref aT, .ref aK, .ref aR, .ref aH, .ref aI, .int fd]))]) (wc := [(aP, .inr (2, [.ref aPb, .int (nI ln), .int ov])), (aPb, .inl (cB, 4096, .inl (sby b)))]) (np := 1) (As := [.long (i.toInt64 + ((nI n).toInt64))]) (rest := [.long v]) (c_P_at l D cI cJ cB cZ aP aPb b ln (i.toInt64 + ((nI n).toInt64)) ov (by first | omega | assumption | simp_all) (by first | omega | assumption | simp_all)) km_X_158 ki_P_at kv_P_at kz_P kk_P_at (by decide +kernel) S hW hA ⟨Nat.le_of_ble_eq_true rfl, Nat.le_of_ble_eq_true rfl⟩ ⟨Nat.le_of_ble_eq_true rfl, Nat.le_of_ble_eq_true rfl⟩ rfl 0 rfl [1, 2] [0] rfl (by decide) rfl (by decide) (by decide) rfl hl.1 rfl (Nat.le_of_ble_eq_true rfl) d_X_paper_23 (fun r u H locs hp hW => ?_)
        obtain ⟨rfl, rfl⟩ := hp
        have hW : Wd D (tyl cI cJ cB cZ) A s s.heap H locs [(aX, .inr (9, [.ref aF, .ref aC, .ref aP, .ref aT, .ref aK, .ref aR, .ref aH, .ref aI, .int fd])), (aP, .inr (2, [.ref aPb, .int (nI ln), .int ov])), (aPb, .inl (cB, 4096, .inl (sby b)))] := hW
        refine lv_bipush (v := (nI 8)) S.1 S.2.1 d_X_paper_26 (by decide) ?_
        refine lv_iload S.1 S.2.1 d_X_paper_28 (lv_at hl 0 rfl) ?_
        refine n_imul S d_X_paper_30 ?_
        refine lv_lshl (v := (pv b ln (i.toInt64 + ((nI n).toInt64))) <<< ((nI (8 * n)).toInt64 &&& 63)) S.1 S.2.1 d_X_paper_31 rfl ?_
        refine lv_lor S.1 S.2.1 d_X_paper_32 ?_
        refine lv_lstore_n (lv' := [(2, .long (v ||| ((pv b ln (i.toInt64 + ((nI n).toInt64))) <<< ((nI (8 * n)).toInt64 &&& 63)))), (4, .int (nI n)), (0, .ref aX), (1, .int i)]) S.1 S.2.1 d_X_paper_33 rfl hl (by decide) rfl (fun ls hl => ?_)
        refine lv_iinc (v := (nI (n + 1))) (lv' := [(4, .int (nI (n + 1))), (2, .long (v ||| ((pv b ln (i.toInt64 + ((nI n).toInt64))) <<< ((nI (8 * n)).toInt64 &&& 63)))), (0, .ref aX), (1, .int i)]) S.1 S.2.1 d_X_paper_34 hl (k := 1) rfl (inc_eq _ 1 _ (by decide)) (by decide) rfl (fun ls hl => ?_)
        refine lv_goto (tgt := 5) S.1 S.2.1 d_X_paper_37 (by decide) ?_
        exact ih (n + 1) (v ||| ((pv b ln (i.toInt64 + ((nI n).toInt64))) <<< ((nI (8 * n)).toInt64 &&& 63))) (by omega) (by omega) (by rw [hv]; rfl) _ _ hW _ (lv_sub hl [0, 1, 2, 3] rfl)
  exact loop_5 (8 - 0 + 1) 0 0 (Nat.lt_succ_self _) (by omega) rfl _ _ hW _ (lv_sub hl [0, 1, 2, 3] rfl)
