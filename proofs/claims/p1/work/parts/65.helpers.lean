theorem tk_tab1 {L : List ExceptionTableEntry} {a b c d : Nat} (h : L.map (fun h => (h.startPc, h.endPc, h.handlerPc, h.catchType)) = [(a, b, c, d)]) : ∃ x0 : ExceptionTableEntry, L = [x0] ∧ x0.startPc = a ∧ x0.endPc = b ∧ x0.handlerPc = c ∧ x0.catchType = d := by
  match L, h with
  | [x0], h => simp at h; exact ⟨x0, rfl, h.1, h.2.1, h.2.2.1, h.2.2.2⟩
  | [], h => simp at h
  | _ :: _ :: _, h => simp at h
theorem tk_tab2 {L : List ExceptionTableEntry} {a b c d a' b' c' d' : Nat} (h : L.map (fun h => (h.startPc, h.endPc, h.handlerPc, h.catchType)) = [(a, b, c, d), (a', b', c', d')]) : ∃ x0 x1 : ExceptionTableEntry, L = [x0, x1] ∧ x0.startPc = a ∧ x0.endPc = b ∧ x0.handlerPc = c ∧ x0.catchType = d ∧ x1.startPc = a' ∧ x1.endPc = b' ∧ x1.handlerPc = c' ∧ x1.catchType = d' := by
  match L, h with
  | [x0, x1], h =>
    simp at h
    obtain ⟨⟨q1, q2, q3, q4⟩, q5, q6, q7, q8⟩ := h
    exact ⟨x0, x1, rfl, q1, q2, q3, q4, q5, q6, q7, q8⟩
  | [], h => simp at h
  | [_], h => simp at h
  | _ :: _ :: _ :: _, h => simp at h
theorem Wd.grow {D : va_G} {tys : Tys} {A : Nat → Prop} {s : State} {H0 H H1 : Heap} {locs : List Loc} {ws : va_W} (h : Wd D tys A s H0 H locs ws) (hz : H.size ≤ H1.size) (hk : ∀ q, q < H.size → H1[q]? = H[q]?) : Wd D tys A s H0 H1 locs ws :=
  ⟨h.1, fun k q hq => (h.2.1 k q hq).kept (hk q.1 (h.2.1 k q hq).lt), h.2.2.1, Nat.le_trans h.2.2.2.1 hz, fun q g1 g2 => (hk q (Nat.lt_of_lt_of_le g1 h.2.2.2.1)).trans (h.2.2.2.2.1 q g1 g2), h.2.2.2.2.2⟩
theorem nI_range {n : Int32} (h : ¬ n < nI 1 ∧ n ≤ nI 8) : ∃ k : Nat, 1 ≤ k ∧ k ≤ 8 ∧ n = nI k := by
  have a1 : ¬ n.toInt < (nI 1).toInt := fun q => h.1 (Int32.lt_iff_toInt_lt.mpr q)
  have a2 := Int32.le_iff_toInt_le.mp h.2
  rw [nI_toInt (by decide)] at a1 a2
  refine ⟨n.toInt.toNat, by omega, by omega, Int32.toInt_inj.mp ?_⟩
  rw [nI_toInt (by omega)]
  omega
theorem d_L_feed_0 : decode b_L_feed 0 = .ok (.aload 4, 2) := by decide +kernel
theorem d_L_feed_2 : decode b_L_feed 2 = .ok (.iconst 0, 1) := by decide +kernel
theorem d_L_feed_3 : decode b_L_feed 3 = .ok (.aload_n 0, 1) := by decide +kernel
theorem d_L_feed_4 : decode b_L_feed 4 = .ok (.iload_n 1, 1) := by decide +kernel
theorem d_L_feed_5 : decode b_L_feed 5 = .ok (.lload_n 2, 1) := by decide +kernel
theorem d_L_feed_6 : decode b_L_feed 6 = .ok (.invokevirtual 7, 3) := by decide +kernel
theorem d_L_feed_9 : decode b_L_feed 9 = .ok (.i2l, 1) := by decide +kernel
theorem d_L_feed_10 : decode b_L_feed 10 = .ok (.lastore, 1) := by decide +kernel
theorem d_L_feed_11 : decode b_L_feed 11 = .ok (.goto 7, 3) := by decide +kernel
theorem d_L_feed_14 : decode b_L_feed 14 = .ok (.astore 5, 2) := by decide +kernel
theorem d_L_feed_16 : decode b_L_feed 16 = .ok (.iconst 1, 1) := by decide +kernel
theorem d_L_feed_17 : decode b_L_feed 17 = .ok (.ireturn, 1) := by decide +kernel
theorem d_L_feed_18 : decode b_L_feed 18 = .ok (.iconst 0, 1) := by decide +kernel
theorem d_L_feed_19 : decode b_L_feed 19 = .ok (.ireturn, 1) := by decide +kernel
set_option maxHeartbeats 4000000 in
set_option maxRecDepth 100000 in
theorem c_L_feed (l : Launch) (D : va_G) (cI cJ cB cZ : ClassId) (htr : l.stackTraces = false) (aX aF aC aP aT aK aR aH aI aTb aO : Nat) (f : Nat → Int32) (g : Nat → Int64) (n : Int32) (v : Int64) : CiW l D (tyl cI cJ cB cZ) y_L_feed b_L_feed 6 (some .int) [(0, 11, 14, 13)] ({ frames := 8, cells := 1, slots := 6, locals := 200 } : Room) [.ref aX, .int n, .long v, .ref aO] [(aX, .inr (9, [.ref aF, .ref aC, .ref aP, .ref aT, .ref aK, .ref aR, .ref aH, .ref aI, .int (nI 0)])), (aT, .inr (3, [.ref aF, .ref aTb, .int (nI 0), .int (nI 0), .int (nI 0), .int (nI 0), .long 0, .long 0])), (aTb, .inl (cB, 8192, .inl f)), (aO, .inl (cJ, 1, .inr (.inl g)))] (fun r u => (∃ (k : Nat) (f2 : Nat → Int32), (1 ≤ k) ∧ (k ≤ 8) ∧ (n = nI k) ∧ r = (nI 0) ∧ u = [(aX, .inr (9, [.ref aF, .ref aC, .ref aP, .ref aT, .ref aK, .ref aR, .ref aH, .ref aI, .int (nI (0 + k))])), (aT, .inr (3, [.ref aF, .ref aTb, .int (nI 0), .int (nI k), .int (nI 0), .int (nI 0), .long 0, .long 0])), (aTb, .inl (cB, 8192, .inl f2)), (aO, .inl (cJ, 1, .inr (.inl (vp_updL g 0 (nI k).toInt64))))]) ∨ ((¬ (¬ n < nI 1 ∧ n ≤ nI 8)) ∧ r = (nI 1) ∧ u = [(aX, .inr (9, [.ref aF, .ref aC, .ref aP, .ref aT, .ref aK, .ref aR, .ref aH, .ref aI, .int (nI 0)])), (aT, .inr (3, [.ref aF, .ref aTb, .int (nI 0), .int (nI 0), .int (nI 0), .int (nI 0), .long 0, .long 0])), (aTb, .inl (cB, 8192, .inl f)), (aO, .inl (cJ, 1, .inr (.inl g)))])) := by
  refine met_iW (own := "ProofReaderLaw") (by decide) rfl (Nat.le_of_ble_eq_true rfl) ?_
  intro p e s m args below meth c A Q S hTw htb hA ret ls hl hW
  have hl : lv_has ls 6 [(0, .ref aX), (1, .int n), (2, .long v), (4, .ref aO)] := hl
  have hW : Wd D (tyl cI cJ cB cZ) A s s.heap s.heap [] [(aX, .inr (9, [.ref aF, .ref aC, .ref aP, .ref aT, .ref aK, .ref aR, .ref aH, .ref aI, .int (nI 0)])), (aT, .inr (3, [.ref aF, .ref aTb, .int (nI 0), .int (nI 0), .int (nI 0), .int (nI 0), .long 0, .long 0])), (aTb, .inl (cB, 8192, .inl f)), (aO, .inl (cJ, 1, .inr (.inl g)))] := hW
  by_cases hb : ¬ n < nI 1 ∧ n ≤ nI 8
  · obtain ⟨k, h1, h8, rfl⟩ := nI_range hb
    refine lv_aload S.1 S.2.1 d_L_feed_0 (lv_at hl 3 rfl) ?_
    refine lv_iconst (v := (nI 0)) S.1 S.2.1 d_L_feed_2 (by decide) ?_
    refine lv_aload_n S.1 S.2.1 d_L_feed_3 rfl (lv_at hl 0 rfl) ?_
    refine lv_iload_n S.1 S.2.1 d_L_feed_4 rfl (lv_at hl 1 rfl) ?_
    refine lv_lload_n S.1 S.2.1 d_L_feed_5 rfl (lv_at hl 2 rfl) ?_
    refine callV_i (wr := [(aO, .inl (cJ, 1, .inr (.inl g)))]) (wc := [(aX, .inr (9, [.ref aF, .ref aC, .ref aP, .ref aT, .ref aK, .ref aR, .ref aH, .ref aI, .int (nI 0)])), (aT, .inr (3, [.ref aF, .ref aTb, .int (nI 0), .int (nI 0), .int (nI 0), .int (nI 0), .long 0, .long 0])), (aTb, .inl (cB, 8192, .inl f))]) (np := 2) (As := [.int (nI k), .long v]) (rest := [.int (nI 0), .ref aO]) (c_X_feed l D cI cJ cB cZ aX aF aC aP aT aK aR aH aI aTb f k v (by first | omega | assumption | simp_all) (by first | omega | assumption | simp_all)) km_L_7 ki_X_feed kv_X_feed kz_X kk_X_feed (by decide +kernel) S hW hA ⟨Nat.le_of_ble_eq_true rfl, Nat.le_of_ble_eq_true rfl⟩ ⟨Nat.le_of_ble_eq_true rfl, Nat.le_of_ble_eq_true rfl⟩ rfl 0 rfl [0, 1, 2] [3] rfl (by decide) rfl (by decide) (by decide) rfl hl.1 rfl (Nat.le_of_ble_eq_true rfl) d_L_feed_6 (fun r u H locs hp hW => ?_)
    obtain ⟨f2_1, rfl, rfl⟩ := hp
    have hW : Wd D (tyl cI cJ cB cZ) A s s.heap H locs [(aX, .inr (9, [.ref aF, .ref aC, .ref aP, .ref aT, .ref aK, .ref aR, .ref aH, .ref aI, .int (nI (0 + k))])), (aT, .inr (3, [.ref aF, .ref aTb, .int (nI 0), .int (nI k), .int (nI 0), .int (nI 0), .long 0, .long 0])), (aTb, .inl (cB, 8192, .inl f2_1)), (aO, .inl (cJ, 1, .inr (.inl g)))] := hW.sub [1, 2, 3, 0] (by decide) rfl
    refine lv_i2l (v := (nI k).toInt64) S.1 S.2.1 d_L_feed_9 rfl ?_
    refine n_last (ws2 := [(aX, .inr (9, [.ref aF, .ref aC, .ref aP, .ref aT, .ref aK, .ref aR, .ref aH, .ref aI, .int (nI (0 + k))])), (aT, .inr (3, [.ref aF, .ref aTb, .int (nI 0), .int (nI k), .int (nI 0), .int (nI 0), .long 0, .long 0])), (aTb, .inl (cB, 8192, .inl f2_1)), (aO, .inl (cJ, 1, .inr (.inl (vp_updL g 0 ((nI k).toInt64)))))]) S hW 3 1 rfl rfl (by decide) (by omega) rfl d_L_feed_10 (fun H locs hW => ?_)
    refine lv_goto (tgt := 18) S.1 S.2.1 d_L_feed_11 (by decide) ?_
    refine lv_iconst (v := (nI 0)) S.1 S.2.1 d_L_feed_18 (by decide) ?_
    refine W.widen (k := 1) (n := 6) (Nat.le_of_ble_eq_true rfl) (Nat.le_of_ble_eq_true rfl) ?_
    exact ret _ _ _ _ _ _ d_L_feed_19 rfl (Or.inl ⟨k, f2_1, h1, h8, rfl, rfl, rfl⟩) hW
  · refine lv_aload S.1 S.2.1 d_L_feed_0 (lv_at hl 3 rfl) ?_
    refine lv_iconst (v := (nI 0)) S.1 S.2.1 d_L_feed_2 (by decide) ?_
    refine lv_aload_n S.1 S.2.1 d_L_feed_3 rfl (lv_at hl 0 rfl) ?_
    refine lv_iload_n S.1 S.2.1 d_L_feed_4 rfl (lv_at hl 1 rfl) ?_
    refine lv_lload_n S.1 S.2.1 d_L_feed_5 rfl (lv_at hl 2 rfl) ?_
    refine callV_t (wc := [(aX, .inr (9, [.ref aF, .ref aC, .ref aP, .ref aT, .ref aK, .ref aR, .ref aH, .ref aI, .int (nI 0)]))]) (np := 2) (As := [.int n, .long v]) (rest := [.int (nI 0), .ref aO]) (t_X_feed l D cI cJ cB cZ aX aF aC aP aT aK aR aH aI (nI 0) n v htr hb) km_L_7 ki_X_feed kv_X_feed kz_X kk_X_feed (by decide +kernel) S hW (fun U hU hw => Tw.move hw (fun q _ => by rw [hU]) hTw) ⟨Nat.le_of_ble_eq_true rfl, Nat.le_of_ble_eq_true rfl⟩ ⟨Nat.le_of_ble_eq_true rfl, Nat.le_of_ble_eq_true rfl⟩ rfl 0 rfl [0] rfl (by decide) rfl hl.1 rfl (Nat.le_of_ble_eq_true rfl) d_L_feed_6 (fun x ce T1 XX hz hk hce hcl hob => ?_)
    obtain ⟨x0, hx0, e1, e2, e3, e4⟩ := tk_tab1 htb
    refine tk_catch1 (n := "java/lang/IllegalArgumentException") XX S hx0 (by simp [covers, e1, e2]) (by rw [e4]; decide) (by rw [e4]; exact kc_L_13) hce hob hcl (hTw.1 (.castable "java/lang/IllegalArgumentException" "java/lang/IllegalArgumentException") (by decide +kernel)) ?_
    rw [e3]
    have hW : Wd D (tyl cI cJ cB cZ) A s s.heap T1.heap [] [(aX, .inr (9, [.ref aF, .ref aC, .ref aP, .ref aT, .ref aK, .ref aR, .ref aH, .ref aI, .int (nI 0)])), (aT, .inr (3, [.ref aF, .ref aTb, .int (nI 0), .int (nI 0), .int (nI 0), .int (nI 0), .long 0, .long 0])), (aTb, .inl (cB, 8192, .inl f)), (aO, .inl (cJ, 1, .inr (.inl g)))] := hW.grow hz hk
    refine lv_astore (lv' := [(5, .ref x), (0, .ref aX), (1, .int n), (2, .long v), (4, .ref aO)]) S.1 S.2.1 d_L_feed_14 hl (by decide) rfl (fun ls hl => ?_)
    refine lv_iconst (v := (nI 1)) S.1 S.2.1 d_L_feed_16 (by decide) ?_
    exact ret _ _ _ _ _ _ d_L_feed_17 rfl (Or.inr ⟨hb, rfl, rfl⟩) hW
theorem d_L_constant_0 : decode b_L_constant 0 = .ok (.aload_n 3, 1) := by decide +kernel
theorem d_L_constant_1 : decode b_L_constant 1 = .ok (.iconst 0, 1) := by decide +kernel
theorem d_L_constant_2 : decode b_L_constant 2 = .ok (.aload_n 0, 1) := by decide +kernel
theorem d_L_constant_3 : decode b_L_constant 3 = .ok (.iload_n 1, 1) := by decide +kernel
theorem d_L_constant_4 : decode b_L_constant 4 = .ok (.iload_n 2, 1) := by decide +kernel
theorem d_L_constant_5 : decode b_L_constant 5 = .ok (.invokevirtual 15, 3) := by decide +kernel
theorem d_L_constant_8 : decode b_L_constant 8 = .ok (.i2l, 1) := by decide +kernel
theorem d_L_constant_9 : decode b_L_constant 9 = .ok (.lastore, 1) := by decide +kernel
theorem d_L_constant_10 : decode b_L_constant 10 = .ok (.goto 11, 3) := by decide +kernel
theorem d_L_constant_13 : decode b_L_constant 13 = .ok (.astore 4, 2) := by decide +kernel
theorem d_L_constant_15 : decode b_L_constant 15 = .ok (.iconst 1, 1) := by decide +kernel
theorem d_L_constant_16 : decode b_L_constant 16 = .ok (.ireturn, 1) := by decide +kernel
theorem d_L_constant_17 : decode b_L_constant 17 = .ok (.astore 4, 2) := by decide +kernel
theorem d_L_constant_19 : decode b_L_constant 19 = .ok (.iconst 2, 1) := by decide +kernel
theorem d_L_constant_20 : decode b_L_constant 20 = .ok (.ireturn, 1) := by decide +kernel
theorem d_L_constant_21 : decode b_L_constant 21 = .ok (.iconst 0, 1) := by decide +kernel
theorem d_L_constant_22 : decode b_L_constant 22 = .ok (.ireturn, 1) := by decide +kernel
set_option maxHeartbeats 4000000 in
set_option maxRecDepth 100000 in
theorem c_L_constant (l : Launch) (D : va_G) (cI cJ cB cZ : ClassId) (htr : l.stackTraces = false) (aX aF aC aP aT aK aR aH aI aK0 aK1 aK2 aK3 aK4 aO : Nat) (k w : Int32) : CiW l D (tyl cI cJ cB cZ) y_L_constant b_L_constant 5 (some .int) [(0, 10, 13, 13), (0, 10, 17, 19)] ({ frames := 8, cells := 1, slots := 6, locals := 200 } : Room) [.ref aX, .int k, .int w, .ref aO] [(aX, .inr (9, [.ref aF, .ref aC, .ref aP, .ref aT, .ref aK, .ref aR, .ref aH, .ref aI, .int (nI 0)])), (aK, .inr (4, [.ref aC, .ref aK0, .ref aK1, .ref aK2, .ref aK3, .ref aK4, .int (nI 0), .int (nI 0)]))] (fun r u => ((¬ (¬ w < 0 ∧ w ≤ nI 5)) ∧ r = (nI 1) ∧ u = [(aX, .inr (9, [.ref aF, .ref aC, .ref aP, .ref aT, .ref aK, .ref aR, .ref aH, .ref aI, .int (nI 0)])), (aK, .inr (4, [.ref aC, .ref aK0, .ref aK1, .ref aK2, .ref aK3, .ref aK4, .int (nI 0), .int (nI 0)]))]) ∨ ((¬ w < 0 ∧ w ≤ nI 5) ∧ r = (nI 2) ∧ u = [(aX, .inr (9, [.ref aF, .ref aC, .ref aP, .ref aT, .ref aK, .ref aR, .ref aH, .ref aI, .int (nI 0)])), (aK, .inr (4, [.ref aC, .ref aK0, .ref aK1, .ref aK2, .ref aK3, .ref aK4, .int (nI 0), .int (nI 0)]))])) := by
  refine met_iW (own := "ProofReaderLaw") (by decide) rfl (Nat.le_of_ble_eq_true rfl) ?_
  intro p e s m args below meth c A Q S hTw htb hA ret ls hl hW
  have hl : lv_has ls 5 [(0, .ref aX), (1, .int k), (2, .int w), (3, .ref aO)] := hl
  have hW : Wd D (tyl cI cJ cB cZ) A s s.heap s.heap [] [(aX, .inr (9, [.ref aF, .ref aC, .ref aP, .ref aT, .ref aK, .ref aR, .ref aH, .ref aI, .int (nI 0)])), (aK, .inr (4, [.ref aC, .ref aK0, .ref aK1, .ref aK2, .ref aK3, .ref aK4, .int (nI 0), .int (nI 0)]))] := hW
  by_cases hb : ¬ w < 0 ∧ w ≤ nI 5
  · refine lv_aload_n S.1 S.2.1 d_L_constant_0 rfl (lv_at hl 3 rfl) ?_
    refine lv_iconst (v := (nI 0)) S.1 S.2.1 d_L_constant_1 (by decide) ?_
    refine lv_aload_n S.1 S.2.1 d_L_constant_2 rfl (lv_at hl 0 rfl) ?_
    refine lv_iload_n S.1 S.2.1 d_L_constant_3 rfl (lv_at hl 1 rfl) ?_
    refine lv_iload_n S.1 S.2.1 d_L_constant_4 rfl (lv_at hl 2 rfl) ?_
    refine callV_t (wc := [(aX, .inr (9, [.ref aF, .ref aC, .ref aP, .ref aT, .ref aK, .ref aR, .ref aH, .ref aI, .int (nI 0)])), (aK, .inr (4, [.ref aC, .ref aK0, .ref aK1, .ref aK2, .ref aK3, .ref aK4, .int (nI 0), .int (nI 0)]))]) (np := 2) (As := [.int k, .int w]) (rest := [.int (nI 0), .ref aO]) (t_X_constantB l D cI cJ cB cZ aX aF aC aP aT aK aR aH aI aK0 aK1 aK2 aK3 aK4 (nI 0) k w (nI 0) htr hb) km_L_15 ki_X_constant kv_X_constant kz_X kk_X_constant (by decide +kernel) S hW (fun U hU hw => Tw.move hw (fun q _ => by rw [hU]) hTw) ⟨Nat.le_of_ble_eq_true rfl, Nat.le_of_ble_eq_true rfl⟩ ⟨Nat.le_of_ble_eq_true rfl, Nat.le_of_ble_eq_true rfl⟩ rfl 0 rfl [0, 1] rfl (by decide) rfl hl.1 rfl (Nat.le_of_ble_eq_true rfl) d_L_constant_5 (fun x ce T1 XX hz hk hce hcl hob => ?_)
    obtain ⟨x0, x1, hx0, e1, e2, e3, e4, g1, g2, g3, g4⟩ := tk_tab2 htb
    refine tk_catch2 (n := "java/lang/IllegalArgumentException") (n1 := "java/lang/IndexOutOfBoundsException") XX S hx0 (by simp [covers, e1, e2]) (by simp [covers, g1, g2]) (by rw [e4]; decide) (by rw [g4]; decide) (by rw [e4]; exact kc_L_13) (by rw [g4]; exact kc_L_19) hce hob hcl (hTw.1 (.castable "java/lang/IndexOutOfBoundsException" "java/lang/IndexOutOfBoundsException") (by decide +kernel)) hTw.2.2 ?_
    rw [g3]
    have hW : Wd D (tyl cI cJ cB cZ) A s s.heap T1.heap [] [(aX, .inr (9, [.ref aF, .ref aC, .ref aP, .ref aT, .ref aK, .ref aR, .ref aH, .ref aI, .int (nI 0)])), (aK, .inr (4, [.ref aC, .ref aK0, .ref aK1, .ref aK2, .ref aK3, .ref aK4, .int (nI 0), .int (nI 0)]))] := hW.grow hz hk
    refine lv_astore (lv' := [(4, .ref x), (0, .ref aX), (1, .int k), (2, .int w), (3, .ref aO)]) S.1 S.2.1 d_L_constant_17 hl (by decide) rfl (fun ls hl => ?_)
    refine lv_iconst (v := (nI 2)) S.1 S.2.1 d_L_constant_19 (by decide) ?_
    exact ret _ _ _ _ _ _ d_L_constant_20 rfl (Or.inr ⟨hb, rfl, rfl⟩) hW
  · refine lv_aload_n S.1 S.2.1 d_L_constant_0 rfl (lv_at hl 3 rfl) ?_
    refine lv_iconst (v := (nI 0)) S.1 S.2.1 d_L_constant_1 (by decide) ?_
    refine lv_aload_n S.1 S.2.1 d_L_constant_2 rfl (lv_at hl 0 rfl) ?_
    refine lv_iload_n S.1 S.2.1 d_L_constant_3 rfl (lv_at hl 1 rfl) ?_
    refine lv_iload_n S.1 S.2.1 d_L_constant_4 rfl (lv_at hl 2 rfl) ?_
    refine callV_t (wc := [(aX, .inr (9, [.ref aF, .ref aC, .ref aP, .ref aT, .ref aK, .ref aR, .ref aH, .ref aI, .int (nI 0)]))]) (np := 2) (As := [.int k, .int w]) (rest := [.int (nI 0), .ref aO]) (t_X_constantA l D cI cJ cB cZ aX aF aC aP aT aK aR aH aI (nI 0) k w htr hb) km_L_15 ki_X_constant kv_X_constant kz_X kk_X_constant (by decide +kernel) S hW (fun U hU hw => Tw.move hw (fun q _ => by rw [hU]) hTw) ⟨Nat.le_of_ble_eq_true rfl, Nat.le_of_ble_eq_true rfl⟩ ⟨Nat.le_of_ble_eq_true rfl, Nat.le_of_ble_eq_true rfl⟩ rfl 0 rfl [0] rfl (by decide) rfl hl.1 rfl (Nat.le_of_ble_eq_true rfl) d_L_constant_5 (fun x ce T1 XX hz hk hce hcl hob => ?_)
    obtain ⟨x0, x1, hx0, e1, e2, e3, e4, g1, g2, g3, g4⟩ := tk_tab2 htb
    refine tk_catch1 (n := "java/lang/IllegalArgumentException") XX S hx0 (by simp [covers, e1, e2]) (by rw [e4]; decide) (by rw [e4]; exact kc_L_13) hce hob hcl (hTw.1 (.castable "java/lang/IllegalArgumentException" "java/lang/IllegalArgumentException") (by decide +kernel)) ?_
    rw [e3]
    have hW : Wd D (tyl cI cJ cB cZ) A s s.heap T1.heap [] [(aX, .inr (9, [.ref aF, .ref aC, .ref aP, .ref aT, .ref aK, .ref aR, .ref aH, .ref aI, .int (nI 0)])), (aK, .inr (4, [.ref aC, .ref aK0, .ref aK1, .ref aK2, .ref aK3, .ref aK4, .int (nI 0), .int (nI 0)]))] := hW.grow hz hk
    refine lv_astore (lv' := [(4, .ref x), (0, .ref aX), (1, .int k), (2, .int w), (3, .ref aO)]) S.1 S.2.1 d_L_constant_13 hl (by decide) rfl (fun ls hl => ?_)
    refine lv_iconst (v := (nI 1)) S.1 S.2.1 d_L_constant_15 (by decide) ?_
    exact ret _ _ _ _ _ _ d_L_constant_16 rfl (Or.inl ⟨hb, rfl, rfl⟩) hW
