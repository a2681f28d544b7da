theorem sub1_lt {j : Nat} (h : j < 2 ^ 31) : nI j - nI 1 < 0 ↔ j = 0 := by
  cases j with
  | zero => exact ⟨fun _ => rfl, fun _ => by decide⟩
  | succ k =>
    rw [pk_sub (by omega), show k + 1 - 1 = k by omega]
    exact ⟨fun q => absurd q (nI_pos (by omega)), fun q => by omega⟩
theorem dec_sub (x : Nat) : nI x + Int32.ofInt (-1) = nI x - nI 1 := by
  rw [Int32.sub_eq_add_neg]
  congr 1
theorem mean_var {sc cs : List Key} {sF sB : Nat → Int64} (h : KeyR sc sF sB) {x y : Int64} {i : Nat} (hi : i < sc.length) (h1 : sF i = x) (h2 : sB i = y) (h3 : ∀ j, i < j → j < sc.length → ¬ (sF j = x ∧ sB j = y)) : mean sc cs (x, y) = some (48 + i) := by
  unfold mean
  rw [lk_some h sc.length (Nat.le_refl _) hi h1 h2 h3]
theorem mean_con {sc cs : List Key} {sF sB fr bk : Nat → Int64} (h : KeyR sc sF sB) (hc : KeyR cs fr bk) {x y : Int64} {k : Nat} (h0 : ∀ j, j < sc.length → ¬ (sF j = x ∧ sB j = y)) (hk : k < cs.length) (h1 : fr k = x) (h2 : bk k = y) (h3 : ∀ j, j < k → ¬ (fr j = x ∧ bk j = y)) : mean sc cs (x, y) = some k := by
  unfold mean
  rw [lk_none h sc.length (Nat.le_refl _) h0]
  exact fk_some hc cs.length (Nat.le_refl _) hk h1 h2 h3
theorem mean_no {sc cs : List Key} {sF sB fr bk : Nat → Int64} (h : KeyR sc sF sB) (hc : KeyR cs fr bk) {x y : Int64} (h0 : ∀ j, j < sc.length → ¬ (sF j = x ∧ sB j = y)) (h3 : ∀ j, j < cs.length → ¬ (fr j = x ∧ bk j = y)) : mean sc cs (x, y) = none := by
  unfold mean
  rw [lk_none h sc.length (Nat.le_refl _) h0]
  exact fk_none hc cs.length (Nat.le_refl _) h3
theorem d_R_isNext_0 : decode b_R_isNext 0 = .ok (.aload_n 0, 1) := by decide +kernel
theorem d_R_isNext_1 : decode b_R_isNext 1 = .ok (.getfield 54, 3) := by decide +kernel
theorem d_R_isNext_4 : decode b_R_isNext 4 = .ok (.invokevirtual 108, 3) := by decide +kernel
theorem d_R_isNext_7 : decode b_R_isNext 7 = .ok (.ifCond .eq 15, 3) := by decide +kernel
theorem d_R_isNext_10 : decode b_R_isNext 10 = .ok (.aload_n 0, 1) := by decide +kernel
theorem d_R_isNext_11 : decode b_R_isNext 11 = .ok (.iload_n 1, 1) := by decide +kernel
theorem d_R_isNext_12 : decode b_R_isNext 12 = .ok (.invokevirtual 86, 3) := by decide +kernel
theorem d_R_isNext_15 : decode b_R_isNext 15 = .ok (.ifCond .eq 7, 3) := by decide +kernel
theorem d_R_isNext_18 : decode b_R_isNext 18 = .ok (.iconst 1, 1) := by decide +kernel
theorem d_R_isNext_19 : decode b_R_isNext 19 = .ok (.goto 4, 3) := by decide +kernel
theorem d_R_isNext_22 : decode b_R_isNext 22 = .ok (.iconst 0, 1) := by decide +kernel
theorem d_R_isNext_23 : decode b_R_isNext 23 = .ok (.ireturn, 1) := by decide +kernel
set_option maxHeartbeats 4000000 in
set_option maxRecDepth 100000 in
theorem c_R_isNext (l : Launch) (D : va_G) (cI cJ cB cZ : ClassId) (aR aT aC aK aF aR0 aR1 aTb : Nat) (b : Nat → Nat) (rs0 rq0 rp0 r10 r20 : Int32) (rf0 rb0 : Int64) (lv0 op0 nd0 en0 fn fw kd st : Int32) (nx ln w : Nat) (f0 g0 : Int64) (hb : ∀ j, b j < 256) (hnx : nx ≤ ln) (hln : ln ≤ 8192) (hw : w < 256) (hw4 : w ≠ 4) : Ci l D (tyl cI cJ cB cZ) y_R_isNext b_R_isNext 2 (some .boolean) ({ frames := 3, cells := 0, slots := 0, locals := 64 } : Room) [.ref aR, .int (nI w)] [(aR, .inr (5, [.ref aT, .ref aC, .ref aK, .ref aF, .ref aR0, .ref aR1, .int lv0, .int op0, .int nd0, .int en0, .int rs0, .int rq0, .int rp0, .long rf0, .long rb0, .int r10, .int r20])), (aT, .inr (3, [.ref aF, .ref aTb, .int (nI nx), .int (nI ln), .int kd, .int st, .long f0, .long g0])), (aTb, .inl (cB, 8192, .inl (sby b))), (aF, .inr (0, [.int fn, .int fw]))] (fun r u => (∃ (st1 : Nat) (nx1 : Nat) (f1 : Int64) (g1 : Int64), (nxt b ln nx = (w, st1, nx1)) ∧ (Cur b ln w st1 nx1 f1 g1) ∧ (nx ≤ st1) ∧ r = (nI 1) ∧ u = [(aR, .inr (5, [.ref aT, .ref aC, .ref aK, .ref aF, .ref aR0, .ref aR1, .int lv0, .int op0, .int nd0, .int en0, .int rs0, .int rq0, .int rp0, .long rf0, .long rb0, .int r10, .int r20])), (aT, .inr (3, [.ref aF, .ref aTb, .int (nI nx1), .int (nI ln), .int (nI w), .int (nI st1), .long f1, .long g1])), (aTb, .inl (cB, 8192, .inl (sby b))), (aF, .inr (0, [.int fn, .int fw]))]) ∨ (∃ (st1 : Nat) (nx1 : Nat) (k1 : Nat) (k2 : Nat) (ft : Nat) (f1 : Int64) (g1 : Int64), (nxt b ln nx = (k2, st1, nx1)) ∧ ((k2 = 4 ∧ ft = 1 ∨ k2 ≠ 4 ∧ k2 ≠ w ∧ ft = 2)) ∧ r = (nI 0) ∧ u = [(aR, .inr (5, [.ref aT, .ref aC, .ref aK, .ref aF, .ref aR0, .ref aR1, .int lv0, .int op0, .int nd0, .int en0, .int rs0, .int rq0, .int rp0, .long rf0, .long rb0, .int r10, .int r20])), (aT, .inr (3, [.ref aF, .ref aTb, .int (nI nx1), .int (nI ln), .int (nI k1), .int (nI st1), .long f1, .long g1])), (aTb, .inl (cB, 8192, .inl (sby b))), (aF, .inr (0, [.int (nI ft), .int (nI st1)]))])) := by
  refine met_i (own := "ProofReader$Parser") (by decide) rfl (Nat.le_of_ble_eq_true rfl) ?_
  intro p e s m args below meth c A Q S hA ret ls hl hW
  have hl : lv_has ls 2 [(0, .ref aR), (1, .int (nI w))] := hl
  have hW : Wd D (tyl cI cJ cB cZ) A s s.heap s.heap [] [(aR, .inr (5, [.ref aT, .ref aC, .ref aK, .ref aF, .ref aR0, .ref aR1, .int lv0, .int op0, .int nd0, .int en0, .int rs0, .int rq0, .int rp0, .long rf0, .long rb0, .int r10, .int r20])), (aT, .inr (3, [.ref aF, .ref aTb, .int (nI nx), .int (nI ln), .int kd, .int st, .long f0, .long g0])), (aTb, .inl (cB, 8192, .inl (sby b))), (aF, .inr (0, [.int fn, .int fw]))] := hW
  refine lv_aload_n S.1 S.2.1 d_R_isNext_0 rfl (lv_at hl 0 rfl) ?_
  refine g_get i_R S hW 0 rfl rfl 0 (by decide) kf_R_54 rfl d_R_isNext_1 ?_
  refine callV_i (wr := [(aR, .inr (5, [.ref aT, .ref aC, .ref aK, .ref aF, .ref aR0, .ref aR1, .int lv0, .int op0, .int nd0, .int en0, .int rs0, .int rq0, .int rp0, .long rf0, .long rb0, .int r10, .int r20]))]) (wc := [(aT, .inr (3, [.ref aF, .ref aTb, .int (nI nx), .int (nI ln), .int kd, .int st, .long f0, .long g0])), (aTb, .inl (cB, 8192, .inl (sby b))), (aF, .inr (0, [.int fn, .int fw]))]) (np := 0) (As := []) (rest := []) (c_T_advance l D cI cJ cB cZ aT aF aTb b nx ln kd st fn fw f0 g0 (by first | omega | assumption | simp_all) (by first | omega | assumption | simp_all) (by first | omega | assumption | simp_all)) km_R_108 ki_T_advance kv_T_advance kz_T kk_T_advance (by decide +kernel) S hW hA ⟨Nat.le_of_ble_eq_true rfl, Nat.le_of_ble_eq_true rfl⟩ ⟨Nat.le_of_ble_eq_true rfl, Nat.le_of_ble_eq_true rfl⟩ rfl 0 rfl [1, 2, 3] [0] rfl (by decide) rfl (by decide) (by decide) rfl hl.1 rfl (Nat.le_of_ble_eq_true rfl) d_R_isNext_4 (fun r u H locs hp hW => ?_)
  rcases hp with ⟨st1_1, nx1_2, k1_3, f1_4, g1_5, h_6, rfl, rfl⟩ | ⟨st1_7, nx1_8, k1_9, f1_10, g1_11, h_12, rfl, rfl⟩
  · have hW : Wd D (tyl cI cJ cB cZ) A s s.heap H locs [(aR, .inr (5, [.ref aT, .ref aC, .ref aK, .ref aF, .ref aR0, .ref aR1, .int lv0, .int op0, .int nd0, .int en0, .int rs0, .int rq0, .int rp0, .long rf0, .long rb0, .int r10, .int r20])), (aT, .inr (3, [.ref aF, .ref aTb, .int (nI nx1_2), .int (nI ln), .int (nI k1_3), .int (nI st1_1), .long f1_4, .long g1_5])), (aTb, .inl (cB, 8192, .inl (sby b))), (aF, .inr (0, [.int fn, .int fw]))] := hW
    refine lv_if_eq (tgt := 22) S.1 S.2.1 d_R_isNext_7 (by decide) (fun h => absurd h (by decide)) (fun _ => ?_)
    obtain ⟨hcur, hle, hnx⟩ := Adv.cur hb h_6
    have hk1 := hcur.2.2.2.1
    refine lv_aload_n S.1 S.2.1 d_R_isNext_10 rfl (lv_at hl 0 rfl) ?_
    refine lv_iload_n S.1 S.2.1 d_R_isNext_11 rfl (lv_at hl 1 rfl) ?_
    refine callV_i (wr := [(aTb, .inl (cB, 8192, .inl (sby b)))]) (wc := [(aR, .inr (5, [.ref aT, .ref aC, .ref aK, .ref aF, .ref aR0, .ref aR1, .int lv0, .int op0, .int nd0, .int en0, .int rs0, .int rq0, .int rp0, .long rf0, .long rb0, .int r10, .int r20])), (aT, .inr (3, [.ref aF, .ref aTb, .int (nI nx1_2), .int (nI ln), .int (nI k1_3), .int (nI st1_1), .long f1_4, .long g1_5])), (aF, .inr (0, [.int fn, .int fw]))]) (np := 1) (As := [.int (nI w)]) (rest := []) (c_R_isNow l D cI cJ cB cZ aR aT aC aK aF aR0 aR1 aTb rs0 rq0 rp0 r10 r20 rf0 rb0 lv0 op0 nd0 en0 fn fw nx1_2 ln k1_3 st1_1 w f1_4 g1_5 hk1 hw) km_R_86 ki_R_isNow kv_R_isNow kz_R kk_R_isNow (by decide +kernel) S hW hA ⟨Nat.le_of_ble_eq_true rfl, Nat.le_of_ble_eq_true rfl⟩ ⟨Nat.le_of_ble_eq_true rfl, Nat.le_of_ble_eq_true rfl⟩ rfl 0 rfl [0, 1, 3] [2] rfl (by decide) rfl (by decide) (by decide) rfl hl.1 rfl (Nat.le_of_ble_eq_true rfl) d_R_isNext_12 (fun r u H locs hp hW => ?_)
    rcases hp with ⟨h_13, rfl, rfl⟩ | ⟨h_14, rfl, rfl⟩
    · have hW : Wd D (tyl cI cJ cB cZ) A s s.heap H locs [(aR, .inr (5, [.ref aT, .ref aC, .ref aK, .ref aF, .ref aR0, .ref aR1, .int lv0, .int op0, .int nd0, .int en0, .int rs0, .int rq0, .int rp0, .long rf0, .long rb0, .int r10, .int r20])), (aT, .inr (3, [.ref aF, .ref aTb, .int (nI nx1_2), .int (nI ln), .int (nI k1_3), .int (nI st1_1), .long f1_4, .long g1_5])), (aTb, .inl (cB, 8192, .inl (sby b))), (aF, .inr (0, [.int fn, .int fw]))] := hW.sub [1, 2, 0, 3] (by decide) rfl
      refine lv_if_eq (tgt := 22) S.1 S.2.1 d_R_isNext_15 (by decide) (fun h => absurd h (by decide)) (fun _ => ?_)
      subst h_13
      refine lv_iconst (v := (nI 1)) S.1 S.2.1 d_R_isNext_18 (by decide) ?_
      refine lv_goto (tgt := 23) S.1 S.2.1 d_R_isNext_19 (by decide) ?_
      exact ret _ _ _ _ _ _ d_R_isNext_23 rfl (Or.inl ⟨_, _, _, _, hnx, hcur, hle, rfl, rfl⟩) hW
    · have hW : Wd D (tyl cI cJ cB cZ) A s s.heap H locs [(aR, .inr (5, [.ref aT, .ref aC, .ref aK, .ref aF, .ref aR0, .ref aR1, .int lv0, .int op0, .int nd0, .int en0, .int rs0, .int rq0, .int rp0, .long rf0, .long rb0, .int r10, .int r20])), (aT, .inr (3, [.ref aF, .ref aTb, .int (nI nx1_2), .int (nI ln), .int (nI k1_3), .int (nI st1_1), .long f1_4, .long g1_5])), (aTb, .inl (cB, 8192, .inl (sby b))), (aF, .inr (0, [.int (nI 2), .int (nI st1_1)]))] := hW.sub [1, 2, 0, 3] (by decide) rfl
      refine lv_if_eq (tgt := 22) S.1 S.2.1 d_R_isNext_15 (by decide) (fun _ => ?_) (fun h => absurd h (by decide))
      refine lv_iconst (v := (nI 0)) S.1 S.2.1 d_R_isNext_22 (by decide) ?_
      exact ret _ _ _ _ _ _ d_R_isNext_23 rfl (Or.inr ⟨_, _, _, _, _, _, _, hnx, Or.inr ⟨hcur.2.2.2.2.1, h_14, rfl⟩, rfl, rfl⟩) hW
  · have hW : Wd D (tyl cI cJ cB cZ) A s s.heap H locs [(aR, .inr (5, [.ref aT, .ref aC, .ref aK, .ref aF, .ref aR0, .ref aR1, .int lv0, .int op0, .int nd0, .int en0, .int rs0, .int rq0, .int rp0, .long rf0, .long rb0, .int r10, .int r20])), (aT, .inr (3, [.ref aF, .ref aTb, .int (nI nx1_8), .int (nI ln), .int (nI k1_9), .int (nI st1_7), .long f1_10, .long g1_11])), (aTb, .inl (cB, 8192, .inl (sby b))), (aF, .inr (0, [.int (nI 1), .int (nI st1_7)]))] := hW
    refine lv_if_eq (tgt := 22) S.1 S.2.1 d_R_isNext_7 (by decide) (fun _ => ?_) (fun h => absurd h (by decide))
    refine lv_iconst (v := (nI 0)) S.1 S.2.1 d_R_isNext_22 (by decide) ?_
    exact ret _ _ _ _ _ _ d_R_isNext_23 rfl (Or.inr ⟨_, _, _, _, _, _, _, nxt_eq h_12, Or.inl ⟨rfl, rfl⟩, rfl, rfl⟩) hW
theorem d_R_meaning_0 : decode b_R_meaning 0 = .ok (.aload_n 0, 1) := by decide +kernel
theorem d_R_meaning_1 : decode b_R_meaning 1 = .ok (.getfield 18, 3) := by decide +kernel
theorem d_R_meaning_4 : decode b_R_meaning 4 = .ok (.iconst 1, 1) := by decide +kernel
theorem d_R_meaning_5 : decode b_R_meaning 5 = .ok (.isub, 1) := by decide +kernel
theorem d_R_meaning_6 : decode b_R_meaning 6 = .ok (.istore_n 1, 1) := by decide +kernel
theorem d_R_meaning_7 : decode b_R_meaning 7 = .ok (.iload_n 1, 1) := by decide +kernel
theorem d_R_meaning_8 : decode b_R_meaning 8 = .ok (.ifCond .lt 48, 3) := by decide +kernel
theorem d_R_meaning_11 : decode b_R_meaning 11 = .ok (.aload_n 0, 1) := by decide +kernel
theorem d_R_meaning_12 : decode b_R_meaning 12 = .ok (.getfield 9, 3) := by decide +kernel
theorem d_R_meaning_15 : decode b_R_meaning 15 = .ok (.iload_n 1, 1) := by decide +kernel
theorem d_R_meaning_16 : decode b_R_meaning 16 = .ok (.laload, 1) := by decide +kernel
theorem d_R_meaning_17 : decode b_R_meaning 17 = .ok (.aload_n 0, 1) := by decide +kernel
theorem d_R_meaning_18 : decode b_R_meaning 18 = .ok (.getfield 54, 3) := by decide +kernel
theorem d_R_meaning_21 : decode b_R_meaning 21 = .ok (.getfield 90, 3) := by decide +kernel
theorem d_R_meaning_24 : decode b_R_meaning 24 = .ok (.lcmp, 1) := by decide +kernel
theorem d_R_meaning_25 : decode b_R_meaning 25 = .ok (.ifCond .ne 25, 3) := by decide +kernel
theorem d_R_meaning_28 : decode b_R_meaning 28 = .ok (.aload_n 0, 1) := by decide +kernel
theorem d_R_meaning_29 : decode b_R_meaning 29 = .ok (.getfield 15, 3) := by decide +kernel
theorem d_R_meaning_32 : decode b_R_meaning 32 = .ok (.iload_n 1, 1) := by decide +kernel
theorem d_R_meaning_33 : decode b_R_meaning 33 = .ok (.laload, 1) := by decide +kernel
theorem d_R_meaning_34 : decode b_R_meaning 34 = .ok (.aload_n 0, 1) := by decide +kernel
theorem d_R_meaning_35 : decode b_R_meaning 35 = .ok (.getfield 54, 3) := by decide +kernel
theorem d_R_meaning_38 : decode b_R_meaning 38 = .ok (.getfield 91, 3) := by decide +kernel
theorem d_R_meaning_41 : decode b_R_meaning 41 = .ok (.lcmp, 1) := by decide +kernel
theorem d_R_meaning_42 : decode b_R_meaning 42 = .ok (.ifCond .ne 8, 3) := by decide +kernel
theorem d_R_meaning_45 : decode b_R_meaning 45 = .ok (.bipush 48, 2) := by decide +kernel
theorem d_R_meaning_47 : decode b_R_meaning 47 = .ok (.iload_n 1, 1) := by decide +kernel
theorem d_R_meaning_48 : decode b_R_meaning 48 = .ok (.iadd, 1) := by decide +kernel
theorem d_R_meaning_49 : decode b_R_meaning 49 = .ok (.ireturn, 1) := by decide +kernel
theorem d_R_meaning_50 : decode b_R_meaning 50 = .ok (.iinc 1 (-1), 3) := by decide +kernel
theorem d_R_meaning_53 : decode b_R_meaning 53 = .ok (.goto (-46), 3) := by decide +kernel
theorem d_R_meaning_56 : decode b_R_meaning 56 = .ok (.aload_n 0, 1) := by decide +kernel
theorem d_R_meaning_57 : decode b_R_meaning 57 = .ok (.getfield 62, 3) := by decide +kernel
theorem d_R_meaning_60 : decode b_R_meaning 60 = .ok (.aload_n 0, 1) := by decide +kernel
theorem d_R_meaning_61 : decode b_R_meaning 61 = .ok (.getfield 54, 3) := by decide +kernel
theorem d_R_meaning_64 : decode b_R_meaning 64 = .ok (.getfield 90, 3) := by decide +kernel
theorem d_R_meaning_67 : decode b_R_meaning 67 = .ok (.aload_n 0, 1) := by decide +kernel
theorem d_R_meaning_68 : decode b_R_meaning 68 = .ok (.getfield 54, 3) := by decide +kernel
theorem d_R_meaning_71 : decode b_R_meaning 71 = .ok (.getfield 91, 3) := by decide +kernel
theorem d_R_meaning_74 : decode b_R_meaning 74 = .ok (.invokevirtual 95, 3) := by decide +kernel
theorem d_R_meaning_77 : decode b_R_meaning 77 = .ok (.ireturn, 1) := by decide +kernel
set_option maxHeartbeats 4000000 in
set_option maxRecDepth 100000 in
theorem c_R_meaning (l : Launch) (D : va_G) (cI cJ cB cZ : ClassId) (aR aT aC aK aF aR0 aR1 aTb : Nat) (aK0 aK1 aK2 aK3 aK4 : Nat) (sc cs : List Key) (sF sB fr bk : Nat → Int64) (rs0 rq0 rp0 r10 r20 : Int32) (rf0 rb0 : Int64) (op0 nd0 en0 ce nx1 ln1 k1 st1 : Int32) (f0 g0 : Int64) (hs : KeyR sc sF sB) (hL : sc.length ≤ 40) (hc : KeyR cs fr bk) (hcn : cs.length ≤ 48) : Ci l D (tyl cI cJ cB cZ) y_R_meaning b_R_meaning 2 (some .int) ({ frames := 1, cells := 0, slots := 0, locals := 25 } : Room) [.ref aR] [(aR, .inr (5, [.ref aT, .ref aC, .ref aK, .ref aF, .ref aR0, .ref aR1, .int (nI sc.length), .int op0, .int nd0, .int en0, .int rs0, .int rq0, .int rp0, .long rf0, .long rb0, .int r10, .int r20])), (aT, .inr (3, [.ref aF, .ref aTb, .int nx1, .int ln1, .int k1, .int st1, .long f0, .long g0])), (aR0, .inl (cJ, 40, .inr (.inl sF))), (aR1, .inl (cJ, 40, .inr (.inl sB))), (aK, .inr (4, [.ref aC, .ref aK0, .ref aK1, .ref aK2, .ref aK3, .ref aK4, .int (nI cs.length), .int ce])), (aK0, .inl (cJ, 48, .inr (.inl fr))), (aK1, .inl (cJ, 48, .inr (.inl bk)))] (fun r u => (∃ (h : Nat), (mean sc cs (f0, g0) = some h) ∧ (h < 88) ∧ r = (nI h) ∧ u = [(aR, .inr (5, [.ref aT, .ref aC, .ref aK, .ref aF, .ref aR0, .ref aR1, .int (nI sc.length), .int op0, .int nd0, .int en0, .int rs0, .int rq0, .int rp0, .long rf0, .long rb0, .int r10, .int r20])), (aT, .inr (3, [.ref aF, .ref aTb, .int nx1, .int ln1, .int k1, .int st1, .long f0, .long g0])), (aR0, .inl (cJ, 40, .inr (.inl sF))), (aR1, .inl (cJ, 40, .inr (.inl sB))), (aK, .inr (4, [.ref aC, .ref aK0, .ref aK1, .ref aK2, .ref aK3, .ref aK4, .int (nI cs.length), .int ce])), (aK0, .inl (cJ, 48, .inr (.inl fr))), (aK1, .inl (cJ, 48, .inr (.inl bk)))]) ∨ ((mean sc cs (f0, g0) = none) ∧ r = (-1) ∧ u = [(aR, .inr (5, [.ref aT, .ref aC, .ref aK, .ref aF, .ref aR0, .ref aR1, .int (nI sc.length), .int op0, .int nd0, .int en0, .int rs0, .int rq0, .int rp0, .long rf0, .long rb0, .int r10, .int r20])), (aT, .inr (3, [.ref aF, .ref aTb, .int nx1, .int ln1, .int k1, .int st1, .long f0, .long g0])), (aR0, .inl (cJ, 40, .inr (.inl sF))), (aR1, .inl (cJ, 40, .inr (.inl sB))), (aK, .inr (4, [.ref aC, .ref aK0, .ref aK1, .ref aK2, .ref aK3, .ref aK4, .int (nI cs.length), .int ce])), (aK0, .inl (cJ, 48, .inr (.inl fr))), (aK1, .inl (cJ, 48, .inr (.inl bk)))])) := by
  refine met_i (own := "ProofReader$Parser") (by decide) rfl (Nat.le_of_ble_eq_true rfl) ?_
  intro p e s m args below meth c A Q S hA ret ls hl hW
  have hl : lv_has ls 2 [(0, .ref aR)] := hl
  have hW : Wd D (tyl cI cJ cB cZ) A s s.heap s.heap [] [(aR, .inr (5, [.ref aT, .ref aC, .ref aK, .ref aF, .ref aR0, .ref aR1, .int (nI sc.length), .int op0, .int nd0, .int en0, .int rs0, .int rq0, .int rp0, .long rf0, .long rb0, .int r10, .int r20])), (aT, .inr (3, [.ref aF, .ref aTb, .int nx1, .int ln1, .int k1, .int st1, .long f0, .long g0])), (aR0, .inl (cJ, 40, .inr (.inl sF))), (aR1, .inl (cJ, 40, .inr (.inl sB))), (aK, .inr (4, [.ref aC, .ref aK0, .ref aK1, .ref aK2, .ref aK3, .ref aK4, .int (nI cs.length), .int ce])), (aK0, .inl (cJ, 48, .inr (.inl fr))), (aK1, .inl (cJ, 48, .inr (.inl bk)))] := hW
  refine lv_aload_n S.1 S.2.1 d_R_meaning_0 rfl (lv_at hl 0 rfl) ?_
  refine g_get i_R S hW 0 rfl rfl 6 (by decide) kf_R_18 rfl d_R_meaning_1 ?_
  refine lv_iconst (v := (nI 1)) S.1 S.2.1 d_R_meaning_4 (by decide) ?_
  refine lv_isub S.1 S.2.1 d_R_meaning_5 ?_
  refine lv_istore_n (lv' := [(1, .int ((nI sc.length) - (nI 1))), (0, .ref aR)]) S.1 S.2.1 d_R_meaning_6 rfl hl (by decide) rfl (fun ls hl => ?_)
  have loop_7 : ∀ (nf : Nat) (j : Nat), j < nf → (j ≤ sc.length) → (∀ i, j ≤ i → i < sc.length → ¬ (sF i = f0 ∧ sB i = g0)) → ∀ (H : Heap) (locs : List Loc), Wd D (tyl cI cJ cB cZ) A s s.heap H locs [(aR, .inr (5, [.ref aT, .ref aC, .ref aK, .ref aF, .ref aR0, .ref aR1, .int (nI sc.length), .int op0, .int nd0, .int en0, .int rs0, .int rq0, .int rp0, .long rf0, .long rb0, .int r10, .int r20])), (aT, .inr (3, [.ref aF, .ref aTb, .int nx1, .int ln1, .int k1, .int st1, .long f0, .long g0])), (aR0, .inl (cJ, 40, .inr (.inl sF))), (aR1, .inl (cJ, 40, .inr (.inl sB))), (aK, .inr (4, [.ref aC, .ref aK0, .ref aK1, .ref aK2, .ref aK3, .ref aK4, .int (nI cs.length), .int ce])), (aK0, .inl (cJ, 48, .inr (.inl fr))), (aK1, .inl (cJ, 48, .inr (.inl bk)))] → ∀ (ls : Array Slot), lv_has ls 2 [(1, .int (nI j - nI 1)), (0, .ref aR)] → W p l e ({ frames := 1, cells := 0, slots := 0, locals := 25 } : Room) s m args below meth c H locs 0 0 Q (F0 m 7 ls []) := by
    intro nf
    induction nf with
    | zero =>
      intros
      omega
    | succ nf ih =>
      intro j hnf hj h3 H locs hW ls hl
      refine lv_iload_n S.1 S.2.1 d_R_meaning_7 rfl (lv_at hl 0 rfl) ?_
      refine lv_if_lt (tgt := 56) S.1 S.2.1 d_R_meaning_8 (by decide) (fun c_8 => ?_) (fun c_8 => ?_)
      · have hj0 : j = 0 := (sub1_lt (by omega)).mp c_8
        refine lv_aload_n S.1 S.2.1 d_R_meaning_56 rfl (lv_at hl 1 rfl) ?_
        refine g_get i_R S hW 0 rfl rfl 2 (by decide) kf_R_62 rfl d_R_meaning_57 ?_
        refine lv_aload_n S.1 S.2.1 d_R_meaning_60 rfl (lv_at hl 1 rfl) ?_
        refine g_get i_R S hW 0 rfl rfl 0 (by decide) kf_R_54 rfl d_R_meaning_61 ?_
        refine g_get i_T S hW 1 rfl rfl 6 (by decide) kf_R_90 rfl d_R_meaning_64 ?_
        refine lv_aload_n S.1 S.2.1 d_R_meaning_67 rfl (lv_at hl 1 rfl) ?_
        refine g_get i_R S hW 0 rfl rfl 0 (by decide) kf_R_54 rfl d_R_meaning_68 ?_
        refine g_get i_T S hW 1 rfl rfl 7 (by decide) kf_R_91 rfl d_R_meaning_71 ?_
        refine callV_i (wr := [(aR, .inr (5, [.ref aT, .ref aC, .ref aK, .ref aF, .ref aR0, .ref aR1, .int (nI sc.length), .int op0, .int nd0, .int en0, .int rs0, .int rq0, .int rp0, .long rf0, .long rb0, .int r10, .int r20])), (aT, .inr (3, [.ref aF, .ref aTb, .int nx1, .int ln1, .int k1, .int st1, .long f0, .long g0])), (aR0, .inl (cJ, 40, .inr (.inl sF))), (aR1, .inl (cJ, 40, .inr (.inl sB)))]) (wc := [(aK, .inr (4, [.ref aC, .ref aK0, .ref aK1, .ref aK2, .ref aK3, .ref aK4, .int (nI cs.length), .int ce])), (aK0, .inl (cJ, 48, .inr (.inl fr))), (aK1, .inl (cJ, 48, .inr (.inl bk)))]) (np := 2) (As := [.long f0, .long g0]) (rest := []) (c_K_find l D cI cJ cB cZ aK aC aK0 aK1 aK2 aK3 aK4 fr bk cs.length f0 g0 ce hcn) km_R_95 ki_K_find kv_K_find kz_K kk_K_find (by decide +kernel) S hW hA ⟨Nat.le_of_ble_eq_true rfl, Nat.le_of_ble_eq_true rfl⟩ ⟨Nat.le_of_ble_eq_true rfl, Nat.le_of_ble_eq_true rfl⟩ rfl 0 rfl [4, 5, 6] [0, 1, 2, 3] rfl (by decide) rfl (by decide) (by decide) rfl hl.1 rfl (Nat.le_of_ble_eq_true rfl) d_R_meaning_74 (fun r u H locs hp hW => ?_)
        rcases hp with ⟨k_1, h_2, h_3, h_4, h_5, rfl, rfl⟩ | ⟨h_6, rfl, rfl⟩
        · have hW : Wd D (tyl cI cJ cB cZ) A s s.heap H locs [(aR, .inr (5, [.ref aT, .ref aC, .ref aK, .ref aF, .ref aR0, .ref aR1, .int (nI sc.length), .int op0, .int nd0, .int en0, .int rs0, .int rq0, .int rp0, .long rf0, .long rb0, .int r10, .int r20])), (aT, .inr (3, [.ref aF, .ref aTb, .int nx1, .int ln1, .int k1, .int st1, .long f0, .long g0])), (aR0, .inl (cJ, 40, .inr (.inl sF))), (aR1, .inl (cJ, 40, .inr (.inl sB))), (aK, .inr (4, [.ref aC, .ref aK0, .ref aK1, .ref aK2, .ref aK3, .ref aK4, .int (nI cs.length), .int ce])), (aK0, .inl (cJ, 48, .inr (.inl fr))), (aK1, .inl (cJ, 48, .inr (.inl bk)))] := hW
          exact ret _ _ _ _ _ _ d_R_meaning_77 rfl (Or.inl ⟨_, mean_con hs hc (fun i hi => h3 i (by omega) hi) h_2 h_3 h_4 h_5, by omega, rfl, rfl⟩) hW
        · have hW : Wd D (tyl cI cJ cB cZ) A s s.heap H locs [(aR, .inr (5, [.ref aT, .ref aC, .ref aK, .ref aF, .ref aR0, .ref aR1, .int (nI sc.length), .int op0, .int nd0, .int en0, .int rs0, .int rq0, .int rp0, .long rf0, .long rb0, .int r10, .int r20])), (aT, .inr (3, [.ref aF, .ref aTb, .int nx1, .int ln1, .int k1, .int st1, .long f0, .long g0])), (aR0, .inl (cJ, 40, .inr (.inl sF))), (aR1, .inl (cJ, 40, .inr (.inl sB))), (aK, .inr (4, [.ref aC, .ref aK0, .ref aK1, .ref aK2, .ref aK3, .ref aK4, .int (nI cs.length), .int ce])), (aK0, .inl (cJ, 48, .inr (.inl fr))), (aK1, .inl (cJ, 48, .inr (.inl bk)))] := hW
          exact ret _ _ _ _ _ _ d_R_meaning_77 rfl (Or.inr ⟨mean_no hs hc (fun i hi => h3 i (by omega) hi) h_6, rfl, rfl⟩) hW
      · have hj0 : 0 < j := by rcases Nat.eq_zero_or_pos j with y | y; exact absurd ((sub1_lt (by omega)).mpr y) c_8; exact y
        have ej : nI j - nI 1 = nI (j - 1) := pk_sub (by omega)
        rw [ej] at hl
        refine lv_aload_n S.1 S.2.1 d_R_meaning_11 rfl (lv_at hl 1 rfl) ?_
        refine g_get i_R S hW 0 rfl rfl 4 (by decide) kf_R_9 rfl d_R_meaning_12 ?_
        refine lv_iload_n S.1 S.2.1 d_R_meaning_15 rfl (lv_at hl 0 rfl) ?_
        refine n_lald S hW 2 1 rfl rfl (by decide) (by omega) d_R_meaning_16 ?_
        refine lv_aload_n S.1 S.2.1 d_R_meaning_17 rfl (lv_at hl 1 rfl) ?_
        refine g_get i_R S hW 0 rfl rfl 0 (by decide) kf_R_54 rfl d_R_meaning_18 ?_
        refine g_get i_T S hW 1 rfl rfl 6 (by decide) kf_R_90 rfl d_R_meaning_21 ?_
        refine W.lcmp S.1 S.2.1 d_R_meaning_24 ?_
        refine lv_if_ne (tgt := 50) S.1 S.2.1 d_R_meaning_25 (by decide) (fun c_25 => ?_) (fun c_25 => ?_)
        · refine lv_iinc (v := (nI (j - 1) - nI 1)) (lv' := [(1, .int (nI (j - 1) - nI 1)), (0, .ref aR)]) S.1 S.2.1 d_R_meaning_50 hl (k := 0) rfl (dec_sub _) (by decide) rfl (fun ls hl => ?_)
          refine lv_goto (tgt := 7) S.1 S.2.1 d_R_meaning_53 (by decide) ?_
          exact ih (j - 1) (by omega) (by omega) (fun i a1 a2 => by rcases Nat.lt_or_ge (j - 1) i with y | y; exact h3 i (by omega) a2; rw [show i = j - 1 by omega]; first | exact (fun q => c_25 ((lg_cmp_eq _ _).mpr q.1)) | exact (fun q => c_42 ((lg_cmp_eq _ _).mpr q.2))) _ _ hW _ (lv_sub hl [0, 1] rfl)
        · refine lv_aload_n S.1 S.2.1 d_R_meaning_28 rfl (lv_at hl 1 rfl) ?_
          refine g_get i_R S hW 0 rfl rfl 5 (by decide) kf_R_15 rfl d_R_meaning_29 ?_
          refine lv_iload_n S.1 S.2.1 d_R_meaning_32 rfl (lv_at hl 0 rfl) ?_
          refine n_lald S hW 3 1 rfl rfl (by decide) (by omega) d_R_meaning_33 ?_
          refine lv_aload_n S.1 S.2.1 d_R_meaning_34 rfl (lv_at hl 1 rfl) ?_
          refine g_get i_R S hW 0 rfl rfl 0 (by decide) kf_R_54 rfl d_R_meaning_35 ?_
          refine g_get i_T S hW 1 rfl rfl 7 (by decide) kf_R_91 rfl d_R_meaning_38 ?_
          refine W.lcmp S.1 S.2.1 d_R_meaning_41 ?_
          refine lv_if_ne (tgt := 50) S.1 S.2.1 d_R_meaning_42 (by decide) (fun c_42 => ?_) (fun c_42 => ?_)
          · refine lv_iinc (v := (nI (j - 1) - nI 1)) (lv' := [(1, .int (nI (j - 1) - nI 1)), (0, .ref aR)]) S.1 S.2.1 d_R_meaning_50 hl (k := 0) rfl (dec_sub _) (by decide) rfl (fun ls hl => ?_)
            refine lv_goto (tgt := 7) S.1 S.2.1 d_R_meaning_53 (by decide) ?_
            exact ih (j - 1) (by omega) (by omega) (fun i a1 a2 => by rcases Nat.lt_or_ge (j - 1) i with y | y; exact h3 i (by omega) a2; rw [show i = j - 1 by omega]; first | exact (fun q => c_25 ((lg_cmp_eq _ _).mpr q.1)) | exact (fun q => c_42 ((lg_cmp_eq _ _).mpr q.2))) _ _ hW _ (lv_sub hl [0, 1] rfl)
          · refine lv_bipush (v := (nI 48)) S.1 S.2.1 d_R_meaning_45 (by decide) ?_
            refine lv_iload_n S.1 S.2.1 d_R_meaning_47 rfl (lv_at hl 0 rfl) ?_
            refine n_iadd S d_R_meaning_48 ?_
            exact ret _ _ _ _ _ _ d_R_meaning_49 rfl (Or.inl ⟨_, mean_var hs (by omega) ((lg_cmp_eq _ _).mp c_25) ((lg_cmp_eq _ _).mp c_42) (fun i a1 a2 => h3 i (by omega) a2), by omega, rfl, rfl⟩) hW
  exact loop_7 (sc.length + 1) sc.length (Nat.lt_succ_self _) (Nat.le_refl _) (fun i a1 a2 => absurd a2 (by omega)) _ _ hW _ (lv_sub hl [0, 1] rfl)
