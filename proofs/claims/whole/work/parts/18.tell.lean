theorem mul_of {hd : Nat → Int32} {ar sz lv : Nat → Nat} {e : Ex} (hw : wf true e) (hh : hds (2 ^ 31) e) {z L : Nat} (h : Rows hd ar sz lv e z L) (c : hd z = -3) : ∃ a b, e = .mul a b ∧ wf true a ∧ wf true b ∧ hds (2 ^ 31) a ∧ hds (2 ^ 31) b ∧ sz (z + 1) = nsz a ∧ 0 < nsz a ∧ Rows hd ar sz lv a (z + 1) L ∧ Rows hd ar sz lv b (z + 1 + sz (z + 1)) (L + 1) := by
  have hm := (Rows.mul_iff hw hh h).mp c
  cases e with
  | mul a b =>
    obtain ⟨-, -, -, -, h5, h6⟩ := h
    have hs := (Rows.size hw.1 h5).1
    exact ⟨a, b, rfl, hw.1, hw.2, hh.1, hh.2, hs, nsz_pos hw.1, h5, by rw [hs]; exact h6⟩
  | _ => simp [isMul] at hm
theorem no_mul {hd : Nat → Int32} {ar sz lv : Nat → Nat} {e : Ex} (hw : wf true e) (hh : hds (2 ^ 31) e) {z L : Nat} (h : Rows hd ar sz lv e z L) (c : ¬ hd z = -3) : prods e = 0 ∧ endO e = 0 ∧ endE e = e ∧ ordE e = 0 := by
  have hm : ¬ isMul e = true := fun q => c ((Rows.mul_iff hw hh h).mpr q)
  cases e <;> simp_all [isMul, prods, endO, endE, ordE]
theorem mmaxN {x y : Nat} (hx : x < 2 ^ 31) (hy : y < 2 ^ 31) : (if nI x < nI y then nI y else nI x) = nI (max x y) := by
  by_cases h : x < y
  · rw [if_pos ((nI_ltI hx hy).mpr h), Nat.max_eq_right (by omega)]
  · rw [if_neg (fun q => h ((nI_ltI hx hy).mp q)), Nat.max_eq_left (by omega)]
theorem ordE_le (e : Ex) : ordE e ≤ 2 := by
  induction e with
  | mul a b _ ih => simp only [ordE]; split <;> omega
  | _ => simp [ordE]
theorem prods_le (e : Ex) : prods e ≤ nsz e := by
  induction e with
  | mul a b _ ih => simp only [prods, nsz]; omega
  | _ => simp [prods, nsz]
theorem endO_0 {e : Ex} (h : prods e = 0) : endO e = 0 := by
  cases e <;> simp_all [prods, endO]
theorem ordE_0 {e : Ex} (h : prods e = 0) : ordE e = 0 := by
  cases e <;> simp_all [prods, ordE]
theorem endO_lt {e : Ex} : wf true e → endO e < nsz e := by
  induction e with
  | mul a b _ ih => intro h; have := ih h.2; simp only [endO, nsz]; omega
  | num k => intro _; simp [endO, nsz]
  | neg a _ => intro _; simp only [endO, nsz]; omega
  | pow a k _ => intro _; simp only [endO, nsz]; omega
  | _ => intro h; simp [wf] at h
theorem d_C_products_0 : decode b_C_products 0 = .ok (.iconst 0, 1) := by decide +kernel
theorem d_C_products_1 : decode b_C_products 1 = .ok (.istore_n 2, 1) := by decide +kernel
theorem d_C_products_2 : decode b_C_products 2 = .ok (.iload_n 1, 1) := by decide +kernel
theorem d_C_products_3 : decode b_C_products 3 = .ok (.istore_n 3, 1) := by decide +kernel
theorem d_C_products_4 : decode b_C_products 4 = .ok (.iload_n 2, 1) := by decide +kernel
theorem d_C_products_5 : decode b_C_products 5 = .ok (.bipush 40, 2) := by decide +kernel
theorem d_C_products_7 : decode b_C_products 7 = .ok (.if_icmp .ge 26, 3) := by decide +kernel
theorem d_C_products_10 : decode b_C_products 10 = .ok (.aload_n 0, 1) := by decide +kernel
theorem d_C_products_11 : decode b_C_products 11 = .ok (.getfield 11, 3) := by decide +kernel
theorem d_C_products_14 : decode b_C_products 14 = .ok (.iload_n 3, 1) := by decide +kernel
theorem d_C_products_15 : decode b_C_products 15 = .ok (.iaload, 1) := by decide +kernel
theorem d_C_products_16 : decode b_C_products 16 = .ok (.bipush (-3), 2) := by decide +kernel
theorem d_C_products_18 : decode b_C_products 18 = .ok (.if_icmp .ne 15, 3) := by decide +kernel
theorem d_C_products_21 : decode b_C_products 21 = .ok (.iinc 2 1, 3) := by decide +kernel
theorem d_C_products_24 : decode b_C_products 24 = .ok (.aload_n 0, 1) := by decide +kernel
theorem d_C_products_25 : decode b_C_products 25 = .ok (.iload_n 3, 1) := by decide +kernel
theorem d_C_products_26 : decode b_C_products 26 = .ok (.invokevirtual 41, 3) := by decide +kernel
theorem d_C_products_29 : decode b_C_products 29 = .ok (.istore_n 3, 1) := by decide +kernel
theorem d_C_products_30 : decode b_C_products 30 = .ok (.goto (-26), 3) := by decide +kernel
theorem d_C_products_33 : decode b_C_products 33 = .ok (.iload_n 2, 1) := by decide +kernel
theorem d_C_products_34 : decode b_C_products 34 = .ok (.ireturn, 1) := by decide +kernel
set_option maxHeartbeats 4000000 in
set_option maxRecDepth 100000 in
theorem c_C_products (l : Launch) (D : va_G) (cI cJ cB cZ : ClassId) (aC aC0 aC1 aC2 aC3 aC4 : Nat) (hd : Nat → Int32) (ar sz lv wh : Nat → Nat) (z L0 : Nat) (e0 : Ex) (hr : Rows hd ar sz lv e0 z L0) (hw : wf true e0) (hh : hds (2 ^ 31) e0) (hz : z + nsz e0 ≤ 21092) (hp : prods e0 ≤ 40) : Ci l D (tyl cI cJ cB cZ) y_C_products b_C_products 4 (some .int) ({ frames := 1, cells := 0, slots := 0, locals := 21 } : Room) [.ref aC, .int (nI z)] [(aC, .inr (1, [.ref aC0, .ref aC1, .ref aC2, .ref aC3, .ref aC4])), (aC0, .inl (cI, 21092, .inl hd)), (aC1, .inl (cI, 21092, .inl (fun j => nI (ar j)))), (aC2, .inl (cI, 21092, .inl (fun j => nI (sz j)))), (aC3, .inl (cI, 21092, .inl (fun j => nI (lv j)))), (aC4, .inl (cI, 21092, .inl (fun j => nI (wh j))))] (fun r u => r = (nI (prods e0)) ∧ u = [(aC, .inr (1, [.ref aC0, .ref aC1, .ref aC2, .ref aC3, .ref aC4])), (aC0, .inl (cI, 21092, .inl hd)), (aC1, .inl (cI, 21092, .inl (fun j => nI (ar j)))), (aC2, .inl (cI, 21092, .inl (fun j => nI (sz j)))), (aC3, .inl (cI, 21092, .inl (fun j => nI (lv j)))), (aC4, .inl (cI, 21092, .inl (fun j => nI (wh j))))]) := by
  refine met_i (own := "ProofReader$Code") (by decide) rfl (Nat.le_of_ble_eq_true rfl) ?_
  intro p e s m args below meth c A Q S hA ret ls hl hW
  have hl : lv_has ls 4 [(0, .ref aC), (1, .int (nI z))] := hl
  have hW : Wd D (tyl cI cJ cB cZ) A s s.heap s.heap [] [(aC, .inr (1, [.ref aC0, .ref aC1, .ref aC2, .ref aC3, .ref aC4])), (aC0, .inl (cI, 21092, .inl hd)), (aC1, .inl (cI, 21092, .inl (fun j => nI (ar j)))), (aC2, .inl (cI, 21092, .inl (fun j => nI (sz j)))), (aC3, .inl (cI, 21092, .inl (fun j => nI (lv j)))), (aC4, .inl (cI, 21092, .inl (fun j => nI (wh j))))] := hW
  refine lv_iconst (v := (nI 0)) S.1 S.2.1 d_C_products_0 (by decide) ?_
  refine lv_istore_n (lv' := [(2, .int (nI 0)), (0, .ref aC), (1, .int (nI z))]) S.1 S.2.1 d_C_products_1 rfl hl (by decide) rfl (fun ls hl => ?_)
  refine lv_iload_n S.1 S.2.1 d_C_products_2 rfl (lv_at hl 2 rfl) ?_
  refine lv_istore_n (lv' := [(3, .int (nI z)), (2, .int (nI 0)), (0, .ref aC), (1, .int (nI z))]) S.1 S.2.1 d_C_products_3 rfl hl (by decide) rfl (fun ls hl => ?_)
  have loop_4 : ∀ (nf : Nat) (k : Nat) (q : Nat) (e1 : Ex) (L1 : Nat), prods e1 < nf → (Rows hd ar sz lv e1 q L1) → (wf true e1) → (hds (2 ^ 31) e1) → (q + nsz e1 ≤ 21092) → (k + prods e1 = prods e0) → ∀ (H : Heap) (locs : List Loc), Wd D (tyl cI cJ cB cZ) A s s.heap H locs [(aC, .inr (1, [.ref aC0, .ref aC1, .ref aC2, .ref aC3, .ref aC4])), (aC0, .inl (cI, 21092, .inl hd)), (aC1, .inl (cI, 21092, .inl (fun j => nI (ar j)))), (aC2, .inl (cI, 21092, .inl (fun j => nI (sz j)))), (aC3, .inl (cI, 21092, .inl (fun j => nI (lv j)))), (aC4, .inl (cI, 21092, .inl (fun j => nI (wh j))))] → ∀ (ls : Array Slot), lv_has ls 4 [(2, .int (nI k)), (3, .int (nI q)), (0, .ref aC)] → W p l e ({ frames := 1, cells := 0, slots := 0, locals := 21 } : Room) s m args below meth c H locs 0 0 Q (F0 m 4 ls []) := by
    intro nf
    induction nf with
    | zero =>
      intros
      omega
    | succ nf ih =>
      intro k q e1 L1 hnf hr1 hw1 hh1 hq hk H locs hW ls hl
      refine lv_iload_n S.1 S.2.1 d_C_products_4 rfl (lv_at hl 0 rfl) ?_
      refine lv_bipush (v := (nI 40)) S.1 S.2.1 d_C_products_5 (by decide) ?_
      refine n_icmp_ge (tgt := 33) S (by omega) (by omega) d_C_products_7 (by decide) (fun c_7 => ?_) (fun c_7 => ?_)
      · refine lv_iload_n S.1 S.2.1 d_C_products_33 rfl (lv_at hl 0 rfl) ?_
        exact ret _ _ _ _ _ _ d_C_products_34 rfl ⟨congrArg nI (by first | omega | (have := (no_mul hw1 hh1 hr1 c_18).1; omega)), rfl⟩ hW
      · refine lv_aload_n S.1 S.2.1 d_C_products_10 rfl (lv_at hl 2 rfl) ?_
        refine g_get i_C S hW 0 rfl rfl 0 (by decide) kf_C_11 rfl d_C_products_11 ?_
        refine lv_iload_n S.1 S.2.1 d_C_products_14 rfl (lv_at hl 1 rfl) ?_
        refine n_iald S hW 1 0 rfl rfl (by decide) (by have := nsz_pos hw1; omega) d_C_products_15 ?_
        refine lv_bipush (v := (-3)) S.1 S.2.1 d_C_products_16 (by decide) ?_
        refine lv_icmp_ne (tgt := 33) S.1 S.2.1 d_C_products_18 (by decide) (fun c_18 => ?_) (fun c_18 => ?_)
        · refine lv_iload_n S.1 S.2.1 d_C_products_33 rfl (lv_at hl 0 rfl) ?_
          exact ret _ _ _ _ _ _ d_C_products_34 rfl ⟨congrArg nI (by first | omega | (have := (no_mul hw1 hh1 hr1 c_18).1; omega)), rfl⟩ hW
        · obtain ⟨a, b, rfl, wa, wb, ha, hb, hs, hpa, hra, hrb⟩ := mul_of hw1 hh1 hr1 c_18
          simp only [prods, nsz] at hk hq hnf
          refine lv_iinc (v := (nI (k + 1))) (lv' := [(2, .int (nI (k + 1))), (3, .int (nI q)), (0, .ref aC)]) S.1 S.2.1 d_C_products_21 hl (k := 0) rfl (inc_eq _ 1 _ (by decide)) (by decide) rfl (fun ls hl => ?_)
          refine lv_aload_n S.1 S.2.1 d_C_products_24 rfl (lv_at hl 2 rfl) ?_
          refine lv_iload_n S.1 S.2.1 d_C_products_25 rfl (lv_at hl 1 rfl) ?_
          refine callV_i (wr := []) (wc := [(aC, .inr (1, [.ref aC0, .ref aC1, .ref aC2, .ref aC3, .ref aC4])), (aC0, .inl (cI, 21092, .inl hd)), (aC1, .inl (cI, 21092, .inl (fun j => nI (ar j)))), (aC2, .inl (cI, 21092, .inl (fun j => nI (sz j)))), (aC3, .inl (cI, 21092, .inl (fun j => nI (lv j)))), (aC4, .inl (cI, 21092, .inl (fun j => nI (wh j))))]) (np := 1) (As := [.int (nI q)]) (rest := []) (c_C_second l D cI cJ cB cZ aC aC0 aC1 aC2 aC3 aC4 hd ar sz lv wh q (by first | omega | assumption | simp_all)) km_C_41 ki_C_second kv_C_second kz_C kk_C_second (by decide +kernel) S hW hA ⟨Nat.le_of_ble_eq_true rfl, Nat.le_of_ble_eq_true rfl⟩ ⟨Nat.le_of_ble_eq_true rfl, Nat.le_of_ble_eq_true rfl⟩ rfl 0 rfl [0, 1, 2, 3, 4, 5] [] rfl (by decide) rfl (by decide) (by decide) rfl hl.1 rfl (Nat.le_of_ble_eq_true rfl) d_C_products_26 (fun r u H locs hp hW => ?_)
          obtain ⟨rfl, rfl⟩ := hp
          have hW : Wd D (tyl cI cJ cB cZ) A s s.heap H locs [(aC, .inr (1, [.ref aC0, .ref aC1, .ref aC2, .ref aC3, .ref aC4])), (aC0, .inl (cI, 21092, .inl hd)), (aC1, .inl (cI, 21092, .inl (fun j => nI (ar j)))), (aC2, .inl (cI, 21092, .inl (fun j => nI (sz j)))), (aC3, .inl (cI, 21092, .inl (fun j => nI (lv j)))), (aC4, .inl (cI, 21092, .inl (fun j => nI (wh j))))] := hW
          refine lv_istore_n (lv' := [(3, .int (nI (q + 1 + sz (q + 1)))), (2, .int (nI (k + 1))), (0, .ref aC)]) S.1 S.2.1 d_C_products_29 rfl hl (by decide) rfl (fun ls hl => ?_)
          refine lv_goto (tgt := 4) S.1 S.2.1 d_C_products_30 (by decide) ?_
          exact ih (k + 1) (q + 1 + sz (q + 1)) b (L1 + 1) (by omega) hrb wb hb (by omega) (by omega) _ _ hW _ (lv_sub hl [1, 0, 2] rfl)
  exact loop_4 (prods e0 + 1) 0 z e0 L0 (Nat.lt_succ_self _) hr hw hh hz (Nat.zero_add _) _ _ hW _ (lv_sub hl [1, 0, 2] rfl)
theorem d_C_ending_0 : decode b_C_ending 0 = .ok (.iload_n 1, 1) := by decide +kernel
theorem d_C_ending_1 : decode b_C_ending 1 = .ok (.istore_n 2, 1) := by decide +kernel
theorem d_C_ending_2 : decode b_C_ending 2 = .ok (.iconst 0, 1) := by decide +kernel
theorem d_C_ending_3 : decode b_C_ending 3 = .ok (.istore_n 3, 1) := by decide +kernel
theorem d_C_ending_4 : decode b_C_ending 4 = .ok (.iload_n 3, 1) := by decide +kernel
theorem d_C_ending_5 : decode b_C_ending 5 = .ok (.bipush 40, 2) := by decide +kernel
theorem d_C_ending_7 : decode b_C_ending 7 = .ok (.if_icmp .ge 26, 3) := by decide +kernel
theorem d_C_ending_10 : decode b_C_ending 10 = .ok (.aload_n 0, 1) := by decide +kernel
theorem d_C_ending_11 : decode b_C_ending 11 = .ok (.getfield 11, 3) := by decide +kernel
theorem d_C_ending_14 : decode b_C_ending 14 = .ok (.iload_n 2, 1) := by decide +kernel
theorem d_C_ending_15 : decode b_C_ending 15 = .ok (.iaload, 1) := by decide +kernel
theorem d_C_ending_16 : decode b_C_ending 16 = .ok (.bipush (-3), 2) := by decide +kernel
theorem d_C_ending_18 : decode b_C_ending 18 = .ok (.if_icmp .ne 15, 3) := by decide +kernel
theorem d_C_ending_21 : decode b_C_ending 21 = .ok (.aload_n 0, 1) := by decide +kernel
theorem d_C_ending_22 : decode b_C_ending 22 = .ok (.iload_n 2, 1) := by decide +kernel
theorem d_C_ending_23 : decode b_C_ending 23 = .ok (.invokevirtual 41, 3) := by decide +kernel
theorem d_C_ending_26 : decode b_C_ending 26 = .ok (.istore_n 2, 1) := by decide +kernel
theorem d_C_ending_27 : decode b_C_ending 27 = .ok (.iinc 3 1, 3) := by decide +kernel
theorem d_C_ending_30 : decode b_C_ending 30 = .ok (.goto (-26), 3) := by decide +kernel
theorem d_C_ending_33 : decode b_C_ending 33 = .ok (.iload_n 2, 1) := by decide +kernel
theorem d_C_ending_34 : decode b_C_ending 34 = .ok (.ireturn, 1) := by decide +kernel
set_option maxHeartbeats 4000000 in
set_option maxRecDepth 100000 in
theorem c_C_ending (l : Launch) (D : va_G) (cI cJ cB cZ : ClassId) (aC aC0 aC1 aC2 aC3 aC4 : Nat) (hd : Nat → Int32) (ar sz lv wh : Nat → Nat) (z L0 : Nat) (e0 : Ex) (hr : Rows hd ar sz lv e0 z L0) (hw : wf true e0) (hh : hds (2 ^ 31) e0) (hz : z + nsz e0 ≤ 21092) (hp : prods e0 ≤ 40) : Ci l D (tyl cI cJ cB cZ) y_C_ending b_C_ending 4 (some .int) ({ frames := 1, cells := 0, slots := 0, locals := 21 } : Room) [.ref aC, .int (nI z)] [(aC, .inr (1, [.ref aC0, .ref aC1, .ref aC2, .ref aC3, .ref aC4])), (aC0, .inl (cI, 21092, .inl hd)), (aC1, .inl (cI, 21092, .inl (fun j => nI (ar j)))), (aC2, .inl (cI, 21092, .inl (fun j => nI (sz j)))), (aC3, .inl (cI, 21092, .inl (fun j => nI (lv j)))), (aC4, .inl (cI, 21092, .inl (fun j => nI (wh j))))] (fun r u => r = (nI (z + endO e0)) ∧ u = [(aC, .inr (1, [.ref aC0, .ref aC1, .ref aC2, .ref aC3, .ref aC4])), (aC0, .inl (cI, 21092, .inl hd)), (aC1, .inl (cI, 21092, .inl (fun j => nI (ar j)))), (aC2, .inl (cI, 21092, .inl (fun j => nI (sz j)))), (aC3, .inl (cI, 21092, .inl (fun j => nI (lv j)))), (aC4, .inl (cI, 21092, .inl (fun j => nI (wh j))))]) := by
  refine met_i (own := "ProofReader$Code") (by decide) rfl (Nat.le_of_ble_eq_true rfl) ?_
  intro p e s m args below meth c A Q S hA ret ls hl hW
  have hl : lv_has ls 4 [(0, .ref aC), (1, .int (nI z))] := hl
  have hW : Wd D (tyl cI cJ cB cZ) A s s.heap s.heap [] [(aC, .inr (1, [.ref aC0, .ref aC1, .ref aC2, .ref aC3, .ref aC4])), (aC0, .inl (cI, 21092, .inl hd)), (aC1, .inl (cI, 21092, .inl (fun j => nI (ar j)))), (aC2, .inl (cI, 21092, .inl (fun j => nI (sz j)))), (aC3, .inl (cI, 21092, .inl (fun j => nI (lv j)))), (aC4, .inl (cI, 21092, .inl (fun j => nI (wh j))))] := hW
  refine lv_iload_n S.1 S.2.1 d_C_ending_0 rfl (lv_at hl 1 rfl) ?_
  refine lv_istore_n (lv' := [(2, .int (nI z)), (0, .ref aC), (1, .int (nI z))]) S.1 S.2.1 d_C_ending_1 rfl hl (by decide) rfl (fun ls hl => ?_)
  refine lv_iconst (v := (nI 0)) S.1 S.2.1 d_C_ending_2 (by decide) ?_
  refine lv_istore_n (lv' := [(3, .int (nI 0)), (2, .int (nI z)), (0, .ref aC), (1, .int (nI z))]) S.1 S.2.1 d_C_ending_3 rfl hl (by decide) rfl (fun ls hl => ?_)
  have loop_4 : ∀ (nf : Nat) (k : Nat) (q : Nat) (e1 : Ex) (L1 : Nat), prods e1 < nf → (Rows hd ar sz lv e1 q L1) → (wf true e1) → (hds (2 ^ 31) e1) → (q + nsz e1 ≤ 21092) → (k + prods e1 = prods e0) → (q + endO e1 = z + endO e0) → ∀ (H : Heap) (locs : List Loc), Wd D (tyl cI cJ cB cZ) A s s.heap H locs [(aC, .inr (1, [.ref aC0, .ref aC1, .ref aC2, .ref aC3, .ref aC4])), (aC0, .inl (cI, 21092, .inl hd)), (aC1, .inl (cI, 21092, .inl (fun j => nI (ar j)))), (aC2, .inl (cI, 21092, .inl (fun j => nI (sz j)))), (aC3, .inl (cI, 21092, .inl (fun j => nI (lv j)))), (aC4, .inl (cI, 21092, .inl (fun j => nI (wh j))))] → ∀ (ls : Array Slot), lv_has ls 4 [(3, .int (nI k)), (2, .int (nI q)), (0, .ref aC)] → W p l e ({ frames := 1, cells := 0, slots := 0, locals := 21 } : Room) s m args below meth c H locs 0 0 Q (F0 m 4 ls []) := by
    intro nf
    induction nf with
    | zero =>
      intros
      omega
    | succ nf ih =>
      intro k q e1 L1 hnf hr1 hw1 hh1 hq hk hx H locs hW ls hl
      refine lv_iload_n S.1 S.2.1 d_C_ending_4 rfl (lv_at hl 0 rfl) ?_
      refine lv_bipush (v := (nI 40)) S.1 S.2.1 d_C_ending_5 (by decide) ?_
      refine n_icmp_ge (tgt := 33) S (by omega) (by omega) d_C_ending_7 (by decide) (fun c_7 => ?_) (fun c_7 => ?_)
      · refine lv_iload_n S.1 S.2.1 d_C_ending_33 rfl (lv_at hl 1 rfl) ?_
        exact ret _ _ _ _ _ _ d_C_ending_34 rfl ⟨congrArg nI (by first | (have := endO_0 (show prods e1 = 0 by omega); omega) | (have := (no_mul hw1 hh1 hr1 c_18).2.1; omega)), rfl⟩ hW
      · refine lv_aload_n S.1 S.2.1 d_C_ending_10 rfl (lv_at hl 2 rfl) ?_
        refine g_get i_C S hW 0 rfl rfl 0 (by decide) kf_C_11 rfl d_C_ending_11 ?_
        refine lv_iload_n S.1 S.2.1 d_C_ending_14 rfl (lv_at hl 1 rfl) ?_
        refine n_iald S hW 1 0 rfl rfl (by decide) (by have := nsz_pos hw1; omega) d_C_ending_15 ?_
        refine lv_bipush (v := (-3)) S.1 S.2.1 d_C_ending_16 (by decide) ?_
        refine lv_icmp_ne (tgt := 33) S.1 S.2.1 d_C_ending_18 (by decide) (fun c_18 => ?_) (fun c_18 => ?_)
        · refine lv_iload_n S.1 S.2.1 d_C_ending_33 rfl (lv_at hl 1 rfl) ?_
          exact ret _ _ _ _ _ _ d_C_ending_34 rfl ⟨congrArg nI (by first | (have := endO_0 (show prods e1 = 0 by omega); omega) | (have := (no_mul hw1 hh1 hr1 c_18).2.1; omega)), rfl⟩ hW
        · obtain ⟨a, b, rfl, wa, wb, ha, hb, hs, hpa, hra, hrb⟩ := mul_of hw1 hh1 hr1 c_18
          simp only [prods, nsz, endO] at hk hq hnf hx
          refine lv_aload_n S.1 S.2.1 d_C_ending_21 rfl (lv_at hl 2 rfl) ?_
          refine lv_iload_n S.1 S.2.1 d_C_ending_22 rfl (lv_at hl 1 rfl) ?_
          refine callV_i (wr := []) (wc := [(aC, .inr (1, [.ref aC0, .ref aC1, .ref aC2, .ref aC3, .ref aC4])), (aC0, .inl (cI, 21092, .inl hd)), (aC1, .inl (cI, 21092, .inl (fun j => nI (ar j)))), (aC2, .inl (cI, 21092, .inl (fun j => nI (sz j)))), (aC3, .inl (cI, 21092, .inl (fun j => nI (lv j)))), (aC4, .inl (cI, 21092, .inl (fun j => nI (wh j))))]) (np := 1) (As := [.int (nI q)]) (rest := []) (c_C_second l D cI cJ cB cZ aC aC0 aC1 aC2 aC3 aC4 hd ar sz lv wh q (by first | omega | assumption | simp_all)) km_C_41 ki_C_second kv_C_second kz_C kk_C_second (by decide +kernel) S hW hA ⟨Nat.le_of_ble_eq_true rfl, Nat.le_of_ble_eq_true rfl⟩ ⟨Nat.le_of_ble_eq_true rfl, Nat.le_of_ble_eq_true rfl⟩ rfl 0 rfl [0, 1, 2, 3, 4, 5] [] rfl (by decide) rfl (by decide) (by decide) rfl hl.1 rfl (Nat.le_of_ble_eq_true rfl) d_C_ending_23 (fun r u H locs hp hW => ?_)
          obtain ⟨rfl, rfl⟩ := hp
          have hW : Wd D (tyl cI cJ cB cZ) A s s.heap H locs [(aC, .inr (1, [.ref aC0, .ref aC1, .ref aC2, .ref aC3, .ref aC4])), (aC0, .inl (cI, 21092, .inl hd)), (aC1, .inl (cI, 21092, .inl (fun j => nI (ar j)))), (aC2, .inl (cI, 21092, .inl (fun j => nI (sz j)))), (aC3, .inl (cI, 21092, .inl (fun j => nI (lv j)))), (aC4, .inl (cI, 21092, .inl (fun j => nI (wh j))))] := hW
          refine lv_istore_n (lv' := [(2, .int (nI (q + 1 + sz (q + 1)))), (3, .int (nI k)), (0, .ref aC)]) S.1 S.2.1 d_C_ending_26 rfl hl (by decide) rfl (fun ls hl => ?_)
          refine lv_iinc (v := (nI (k + 1))) (lv' := [(3, .int (nI (k + 1))), (2, .int (nI (q + 1 + sz (q + 1)))), (0, .ref aC)]) S.1 S.2.1 d_C_ending_27 hl (k := 1) rfl (inc_eq _ 1 _ (by decide)) (by decide) rfl (fun ls hl => ?_)
          refine lv_goto (tgt := 4) S.1 S.2.1 d_C_ending_30 (by decide) ?_
          exact ih (k + 1) (q + 1 + sz (q + 1)) b (L1 + 1) (by omega) hrb wb hb (by omega) (by omega) (by omega) _ _ hW _ (lv_sub hl [0, 1, 2] rfl)
  exact loop_4 (prods e0 + 1) 0 z e0 L0 (Nat.lt_succ_self _) hr hw hh hz (Nat.zero_add _) rfl _ _ hW _ (lv_sub hl [0, 1, 2] rfl)
theorem d_C_order_0 : decode b_C_order 0 = .ok (.iconst 0, 1) := by decide +kernel
theorem d_C_order_1 : decode b_C_order 1 = .ok (.istore_n 2, 1) := by decide +kernel
theorem d_C_order_2 : decode b_C_order 2 = .ok (.iload_n 1, 1) := by decide +kernel
theorem d_C_order_3 : decode b_C_order 3 = .ok (.istore_n 3, 1) := by decide +kernel
theorem d_C_order_4 : decode b_C_order 4 = .ok (.iconst 0, 1) := by decide +kernel
theorem d_C_order_5 : decode b_C_order 5 = .ok (.istore 4, 2) := by decide +kernel
theorem d_C_order_7 : decode b_C_order 7 = .ok (.iload 4, 2) := by decide +kernel
theorem d_C_order_9 : decode b_C_order 9 = .ok (.bipush 40, 2) := by decide +kernel
theorem d_C_order_11 : decode b_C_order 11 = .ok (.if_icmp .ge 49, 3) := by decide +kernel
theorem d_C_order_14 : decode b_C_order 14 = .ok (.aload_n 0, 1) := by decide +kernel
theorem d_C_order_15 : decode b_C_order 15 = .ok (.getfield 11, 3) := by decide +kernel
theorem d_C_order_18 : decode b_C_order 18 = .ok (.iload_n 3, 1) := by decide +kernel
theorem d_C_order_19 : decode b_C_order 19 = .ok (.iaload, 1) := by decide +kernel
theorem d_C_order_20 : decode b_C_order 20 = .ok (.bipush (-3), 2) := by decide +kernel
theorem d_C_order_22 : decode b_C_order 22 = .ok (.if_icmp .ne 38, 3) := by decide +kernel
theorem d_C_order_25 : decode b_C_order 25 = .ok (.iload_n 2, 1) := by decide +kernel
theorem d_C_order_26 : decode b_C_order 26 = .ok (.aload_n 0, 1) := by decide +kernel
theorem d_C_order_27 : decode b_C_order 27 = .ok (.getfield 11, 3) := by decide +kernel
theorem d_C_order_30 : decode b_C_order 30 = .ok (.iload_n 3, 1) := by decide +kernel
theorem d_C_order_31 : decode b_C_order 31 = .ok (.iconst 1, 1) := by decide +kernel
theorem d_C_order_32 : decode b_C_order 32 = .ok (.iadd, 1) := by decide +kernel
theorem d_C_order_33 : decode b_C_order 33 = .ok (.iaload, 1) := by decide +kernel
theorem d_C_order_34 : decode b_C_order 34 = .ok (.bipush (-3), 2) := by decide +kernel
theorem d_C_order_36 : decode b_C_order 36 = .ok (.if_icmp .ne 7, 3) := by decide +kernel
theorem d_C_order_39 : decode b_C_order 39 = .ok (.iconst 2, 1) := by decide +kernel
theorem d_C_order_40 : decode b_C_order 40 = .ok (.goto 4, 3) := by decide +kernel
theorem d_C_order_43 : decode b_C_order 43 = .ok (.iconst 1, 1) := by decide +kernel
theorem d_C_order_44 : decode b_C_order 44 = .ok (.invokestatic 45, 3) := by decide +kernel
theorem d_C_order_47 : decode b_C_order 47 = .ok (.istore_n 2, 1) := by decide +kernel
theorem d_C_order_48 : decode b_C_order 48 = .ok (.aload_n 0, 1) := by decide +kernel
theorem d_C_order_49 : decode b_C_order 49 = .ok (.iload_n 3, 1) := by decide +kernel
theorem d_C_order_50 : decode b_C_order 50 = .ok (.invokevirtual 41, 3) := by decide +kernel
theorem d_C_order_53 : decode b_C_order 53 = .ok (.istore_n 3, 1) := by decide +kernel
theorem d_C_order_54 : decode b_C_order 54 = .ok (.iinc 4 1, 3) := by decide +kernel
theorem d_C_order_57 : decode b_C_order 57 = .ok (.goto (-50), 3) := by decide +kernel
theorem d_C_order_60 : decode b_C_order 60 = .ok (.iload_n 2, 1) := by decide +kernel
theorem d_C_order_61 : decode b_C_order 61 = .ok (.ireturn, 1) := by decide +kernel
set_option maxHeartbeats 4000000 in
set_option maxRecDepth 100000 in
theorem c_C_order (l : Launch) (D : va_G) (cI cJ cB cZ : ClassId) (aC aC0 aC1 aC2 aC3 aC4 : Nat) (hd : Nat → Int32) (ar sz lv wh : Nat → Nat) (z L0 : Nat) (e0 : Ex) (hr : Rows hd ar sz lv e0 z L0) (hw : wf true e0) (hh : hds (2 ^ 31) e0) (hz : z + nsz e0 ≤ 21092) (hp : prods e0 ≤ 40) : Ci l D (tyl cI cJ cB cZ) y_C_order b_C_order 5 (some .int) ({ frames := 1, cells := 0, slots := 0, locals := 21 } : Room) [.ref aC, .int (nI z)] [(aC, .inr (1, [.ref aC0, .ref aC1, .ref aC2, .ref aC3, .ref aC4])), (aC0, .inl (cI, 21092, .inl hd)), (aC1, .inl (cI, 21092, .inl (fun j => nI (ar j)))), (aC2, .inl (cI, 21092, .inl (fun j => nI (sz j)))), (aC3, .inl (cI, 21092, .inl (fun j => nI (lv j)))), (aC4, .inl (cI, 21092, .inl (fun j => nI (wh j))))] (fun r u => r = (nI (ordE e0)) ∧ u = [(aC, .inr (1, [.ref aC0, .ref aC1, .ref aC2, .ref aC3, .ref aC4])), (aC0, .inl (cI, 21092, .inl hd)), (aC1, .inl (cI, 21092, .inl (fun j => nI (ar j)))), (aC2, .inl (cI, 21092, .inl (fun j => nI (sz j)))), (aC3, .inl (cI, 21092, .inl (fun j => nI (lv j)))), (aC4, .inl (cI, 21092, .inl (fun j => nI (wh j))))]) := by
  refine met_i (own := "ProofReader$Code") (by decide) rfl (Nat.le_of_ble_eq_true rfl) ?_
  intro p e s m args below meth c A Q S hA ret ls hl hW
  have hl : lv_has ls 5 [(0, .ref aC), (1, .int (nI z))] := hl
  have hW : Wd D (tyl cI cJ cB cZ) A s s.heap s.heap [] [(aC, .inr (1, [.ref aC0, .ref aC1, .ref aC2, .ref aC3, .ref aC4])), (aC0, .inl (cI, 21092, .inl hd)), (aC1, .inl (cI, 21092, .inl (fun j => nI (ar j)))), (aC2, .inl (cI, 21092, .inl (fun j => nI (sz j)))), (aC3, .inl (cI, 21092, .inl (fun j => nI (lv j)))), (aC4, .inl (cI, 21092, .inl (fun j => nI (wh j))))] := hW
  refine lv_iconst (v := (nI 0)) S.1 S.2.1 d_C_order_0 (by decide) ?_
  refine lv_istore_n (lv' := [(2, .int (nI 0)), (0, .ref aC), (1, .int (nI z))]) S.1 S.2.1 d_C_order_1 rfl hl (by decide) rfl (fun ls hl => ?_)
  refine lv_iload_n S.1 S.2.1 d_C_order_2 rfl (lv_at hl 2 rfl) ?_
  refine lv_istore_n (lv' := [(3, .int (nI z)), (2, .int (nI 0)), (0, .ref aC), (1, .int (nI z))]) S.1 S.2.1 d_C_order_3 rfl hl (by decide) rfl (fun ls hl => ?_)
  refine lv_iconst (v := (nI 0)) S.1 S.2.1 d_C_order_4 (by decide) ?_
  refine lv_istore (lv' := [(4, .int (nI 0)), (3, .int (nI z)), (2, .int (nI 0)), (0, .ref aC), (1, .int (nI z))]) S.1 S.2.1 d_C_order_5 hl (by decide) rfl (fun ls hl => ?_)
  have loop_7 : ∀ (nf : Nat) (k : Nat) (q : Nat) (d : Nat) (e1 : Ex) (L1 : Nat), prods e1 < nf → (Rows hd ar sz lv e1 q L1) → (wf true e1) → (hds (2 ^ 31) e1) → (q + nsz e1 ≤ 21092) → (k + prods e1 = prods e0) → (max d (ordE e1) = ordE e0) → (d ≤ 2) → ∀ (H : Heap) (locs : List Loc), Wd D (tyl cI cJ cB cZ) A s s.heap H locs [(aC, .inr (1, [.ref aC0, .ref aC1, .ref aC2, .ref aC3, .ref aC4])), (aC0, .inl (cI, 21092, .inl hd)), (aC1, .inl (cI, 21092, .inl (fun j => nI (ar j)))), (aC2, .inl (cI, 21092, .inl (fun j => nI (sz j)))), (aC3, .inl (cI, 21092, .inl (fun j => nI (lv j)))), (aC4, .inl (cI, 21092, .inl (fun j => nI (wh j))))] → ∀ (ls : Array Slot), lv_has ls 5 [(4, .int (nI k)), (3, .int (nI q)), (2, .int (nI d)), (0, .ref aC)] → W p l e ({ frames := 1, cells := 0, slots := 0, locals := 21 } : Room) s m args below meth c H locs 0 0 Q (F0 m 7 ls []) := by
    intro nf
    induction nf with
    | zero =>
      intros
      omega
    | succ nf ih =>
      intro k q d e1 L1 hnf hr1 hw1 hh1 hq hk hx hd2 H locs hW ls hl
      refine lv_iload S.1 S.2.1 d_C_order_7 (lv_at hl 0 rfl) ?_
      refine lv_bipush (v := (nI 40)) S.1 S.2.1 d_C_order_9 (by decide) ?_
      refine n_icmp_ge (tgt := 60) S (by omega) (by omega) d_C_order_11 (by decide) (fun c_11 => ?_) (fun c_11 => ?_)
      · refine lv_iload_n S.1 S.2.1 d_C_order_60 rfl (lv_at hl 2 rfl) ?_
        exact ret _ _ _ _ _ _ d_C_order_61 rfl ⟨congrArg nI (by first | (have := ordE_0 (show prods e1 = 0 by omega); omega) | (have := (no_mul hw1 hh1 hr1 c_22).2.2.2; omega)), rfl⟩ hW
      · refine lv_aload_n S.1 S.2.1 d_C_order_14 rfl (lv_at hl 3 rfl) ?_
        refine g_get i_C S hW 0 rfl rfl 0 (by decide) kf_C_11 rfl d_C_order_15 ?_
        refine lv_iload_n S.1 S.2.1 d_C_order_18 rfl (lv_at hl 1 rfl) ?_
        refine n_iald S hW 1 0 rfl rfl (by decide) (by have := nsz_pos hw1; omega) d_C_order_19 ?_
        refine lv_bipush (v := (-3)) S.1 S.2.1 d_C_order_20 (by decide) ?_
        refine lv_icmp_ne (tgt := 60) S.1 S.2.1 d_C_order_22 (by decide) (fun c_22 => ?_) (fun c_22 => ?_)
        · refine lv_iload_n S.1 S.2.1 d_C_order_60 rfl (lv_at hl 2 rfl) ?_
          exact ret _ _ _ _ _ _ d_C_order_61 rfl ⟨congrArg nI (by first | (have := ordE_0 (show prods e1 = 0 by omega); omega) | (have := (no_mul hw1 hh1 hr1 c_22).2.2.2; omega)), rfl⟩ hW
        · obtain ⟨a, b, rfl, wa, wb, ha, hb, hs, hpa, hra, hrb⟩ := mul_of hw1 hh1 hr1 c_22
          simp only [prods, nsz] at hk hq hnf
          refine lv_iload_n S.1 S.2.1 d_C_order_25 rfl (lv_at hl 2 rfl) ?_
          refine lv_aload_n S.1 S.2.1 d_C_order_26 rfl (lv_at hl 3 rfl) ?_
          refine g_get i_C S hW 0 rfl rfl 0 (by decide) kf_C_11 rfl d_C_order_27 ?_
          refine lv_iload_n S.1 S.2.1 d_C_order_30 rfl (lv_at hl 1 rfl) ?_
          refine lv_iconst (v := (nI 1)) S.1 S.2.1 d_C_order_31 (by decide) ?_
          refine n_iadd S d_C_order_32 ?_
          refine n_iald S hW 1 0 rfl rfl (by decide) (by omega) d_C_order_33 ?_
          refine lv_bipush (v := (-3)) S.1 S.2.1 d_C_order_34 (by decide) ?_
          refine lv_icmp_ne (tgt := 43) S.1 S.2.1 d_C_order_36 (by decide) (fun c_36 => ?_) (fun c_36 => ?_)
          · refine lv_iconst (v := (nI 1)) S.1 S.2.1 d_C_order_43 (by decide) ?_
            refine va_mmax S.1 S.2.1 (S.2.2.1.trans hl.1.symm) S.2.2.2.1 (S.2.2.2.2 _ km_C_45) (S.2.2.2.2 _ ks_max) (S.2.2.2.2 _ kz_Math) (S.2.2.2.2 _ kk_max) (by decide) (by decide) (by decide) (by decide) d_C_order_44 ?_
            refine top_eq (y := (nI (max d 1))) (mmaxN (by omega) (by omega)) ?_
            refine lv_istore_n (lv' := [(2, .int (nI (max d 1))), (4, .int (nI k)), (3, .int (nI q)), (0, .ref aC)]) S.1 S.2.1 d_C_order_47 rfl hl (by decide) rfl (fun ls hl => ?_)
            refine lv_aload_n S.1 S.2.1 d_C_order_48 rfl (lv_at hl 3 rfl) ?_
            refine lv_iload_n S.1 S.2.1 d_C_order_49 rfl (lv_at hl 2 rfl) ?_
            refine callV_i (wr := []) (wc := [(aC, .inr (1, [.ref aC0, .ref aC1, .ref aC2, .ref aC3, .ref aC4])), (aC0, .inl (cI, 21092, .inl hd)), (aC1, .inl (cI, 21092, .inl (fun j => nI (ar j)))), (aC2, .inl (cI, 21092, .inl (fun j => nI (sz j)))), (aC3, .inl (cI, 21092, .inl (fun j => nI (lv j)))), (aC4, .inl (cI, 21092, .inl (fun j => nI (wh j))))]) (np := 1) (As := [.int (nI q)]) (rest := []) (c_C_second l D cI cJ cB cZ aC aC0 aC1 aC2 aC3 aC4 hd ar sz lv wh q (by first | omega | assumption | simp_all)) km_C_41 ki_C_second kv_C_second kz_C kk_C_second (by decide +kernel) S hW hA ⟨Nat.le_of_ble_eq_true rfl, Nat.le_of_ble_eq_true rfl⟩ ⟨Nat.le_of_ble_eq_true rfl, Nat.le_of_ble_eq_true rfl⟩ rfl 0 rfl [0, 1, 2, 3, 4, 5] [] rfl (by decide) rfl (by decide) (by decide) rfl hl.1 rfl (Nat.le_of_ble_eq_true rfl) d_C_order_50 (fun r u H locs hp hW => ?_)
            obtain ⟨rfl, rfl⟩ := hp
            have hW : Wd D (tyl cI cJ cB cZ) A s s.heap H locs [(aC, .inr (1, [.ref aC0, .ref aC1, .ref aC2, .ref aC3, .ref aC4])), (aC0, .inl (cI, 21092, .inl hd)), (aC1, .inl (cI, 21092, .inl (fun j => nI (ar j)))), (aC2, .inl (cI, 21092, .inl (fun j => nI (sz j)))), (aC3, .inl (cI, 21092, .inl (fun j => nI (lv j)))), (aC4, .inl (cI, 21092, .inl (fun j => nI (wh j))))] := hW
            refine lv_istore_n (lv' := [(3, .int (nI (q + 1 + sz (q + 1)))), (2, .int (nI (max d 1))), (4, .int (nI k)), (0, .ref aC)]) S.1 S.2.1 d_C_order_53 rfl hl (by decide) rfl (fun ls hl => ?_)
            refine lv_iinc (v := (nI (k + 1))) (lv' := [(4, .int (nI (k + 1))), (3, .int (nI (q + 1 + sz (q + 1)))), (2, .int (nI (max d 1))), (0, .ref aC)]) S.1 S.2.1 d_C_order_54 hl (k := 2) rfl (inc_eq _ 1 _ (by decide)) (by decide) rfl (fun ls hl => ?_)
            refine lv_goto (tgt := 7) S.1 S.2.1 d_C_order_57 (by decide) ?_
            exact ih (k + 1) (q + 1 + sz (q + 1)) (max d 1) b (L1 + 1) (by omega) hrb wb hb (by omega) (by omega) (by rw [← hx]; simp only [ordE]; first | (rw [if_pos ((Rows.mul_iff wa ha hra).mp c_36)]; omega) | (rw [if_neg (fun h => c_36 ((Rows.mul_iff wa ha hra).mpr h))]; omega)) (by omega) _ _ hW _ (lv_sub hl [0, 1, 2, 3] rfl)
          · refine lv_iconst (v := (nI 2)) S.1 S.2.1 d_C_order_39 (by decide) ?_
            refine lv_goto (tgt := 44) S.1 S.2.1 d_C_order_40 (by decide) ?_
            refine va_mmax S.1 S.2.1 (S.2.2.1.trans hl.1.symm) S.2.2.2.1 (S.2.2.2.2 _ km_C_45) (S.2.2.2.2 _ ks_max) (S.2.2.2.2 _ kz_Math) (S.2.2.2.2 _ kk_max) (by decide) (by decide) (by decide) (by decide) d_C_order_44 ?_
            refine top_eq (y := (nI (max d 2))) (mmaxN (by omega) (by omega)) ?_
            refine lv_istore_n (lv' := [(2, .int (nI (max d 2))), (4, .int (nI k)), (3, .int (nI q)), (0, .ref aC)]) S.1 S.2.1 d_C_order_47 rfl hl (by decide) rfl (fun ls hl => ?_)
            refine lv_aload_n S.1 S.2.1 d_C_order_48 rfl (lv_at hl 3 rfl) ?_
            refine lv_iload_n S.1 S.2.1 d_C_order_49 rfl (lv_at hl 2 rfl) ?_
            refine callV_i (wr := []) (wc := [(aC, .inr (1, [.ref aC0, .ref aC1, .ref aC2, .ref aC3, .ref aC4])), (aC0, .inl (cI, 21092, .inl hd)), (aC1, .inl (cI, 21092, .inl (fun j => nI (ar j)))), (aC2, .inl (cI, 21092, .inl (fun j => nI (sz j)))), (aC3, .inl (cI, 21092, .inl (fun j => nI (lv j)))), (aC4, .inl (cI, 21092, .inl (fun j => nI (wh j))))]) (np := 1) (As := [.int (nI q)]) (rest := []) (c_C_second l D cI cJ cB cZ aC aC0 aC1 aC2 aC3 aC4 hd ar sz lv wh q (by first | omega | assumption | simp_all)) km_C_41 ki_C_second kv_C_second kz_C kk_C_second (by decide +kernel) S hW hA ⟨Nat.le_of_ble_eq_true rfl, Nat.le_of_ble_eq_true rfl⟩ ⟨Nat.le_of_ble_eq_true rfl, Nat.le_of_ble_eq_true rfl⟩ rfl 0 rfl [0, 1, 2, 3, 4, 5] [] rfl (by decide) rfl (by decide) (by decide) rfl hl.1 rfl (Nat.le_of_ble_eq_true rfl) d_C_order_50 (fun r u H locs hp hW => ?_)
            obtain ⟨rfl, rfl⟩ := hp
            have hW : Wd D (tyl cI cJ cB cZ) A s s.heap H locs [(aC, .inr (1, [.ref aC0, .ref aC1, .ref aC2, .ref aC3, .ref aC4])), (aC0, .inl (cI, 21092, .inl hd)), (aC1, .inl (cI, 21092, .inl (fun j => nI (ar j)))), (aC2, .inl (cI, 21092, .inl (fun j => nI (sz j)))), (aC3, .inl (cI, 21092, .inl (fun j => nI (lv j)))), (aC4, .inl (cI, 21092, .inl (fun j => nI (wh j))))] := hW
            refine lv_istore_n (lv' := [(3, .int (nI (q + 1 + sz (q + 1)))), (2, .int (nI (max d 2))), (4, .int (nI k)), (0, .ref aC)]) S.1 S.2.1 d_C_order_53 rfl hl (by decide) rfl (fun ls hl => ?_)
            refine lv_iinc (v := (nI (k + 1))) (lv' := [(4, .int (nI (k + 1))), (3, .int (nI (q + 1 + sz (q + 1)))), (2, .int (nI (max d 2))), (0, .ref aC)]) S.1 S.2.1 d_C_order_54 hl (k := 2) rfl (inc_eq _ 1 _ (by decide)) (by decide) rfl (fun ls hl => ?_)
            refine lv_goto (tgt := 7) S.1 S.2.1 d_C_order_57 (by decide) ?_
            exact ih (k + 1) (q + 1 + sz (q + 1)) (max d 2) b (L1 + 1) (by omega) hrb wb hb (by omega) (by omega) (by rw [← hx]; simp only [ordE]; first | (rw [if_pos ((Rows.mul_iff wa ha hra).mp c_36)]; omega) | (rw [if_neg (fun h => c_36 ((Rows.mul_iff wa ha hra).mpr h))]; omega)) (by omega) _ _ hW _ (lv_sub hl [0, 1, 2, 3] rfl)
  exact loop_7 (prods e0 + 1) 0 z 0 e0 L0 (Nat.lt_succ_self _) hr hw hh hz (Nat.zero_add _) (Nat.zero_max _) (by omega) _ _ hW _ (lv_sub hl [0, 1, 2, 3] rfl)
theorem d_K_tell_0 : decode b_K_tell 0 = .ok (.aload_n 0, 1) := by decide +kernel
theorem d_K_tell_1 : decode b_K_tell 1 = .ok (.invokevirtual 42, 3) := by decide +kernel
theorem d_K_tell_4 : decode b_K_tell 4 = .ok (.ifCond .eq 4, 3) := by decide +kernel
theorem d_K_tell_7 : decode b_K_tell 7 = .ok (.return_, 1) := by decide +kernel
theorem d_K_tell_8 : decode b_K_tell 8 = .ok (.aload_n 0, 1) := by decide +kernel
theorem d_K_tell_9 : decode b_K_tell 9 = .ok (.getfield 9, 3) := by decide +kernel
theorem d_K_tell_12 : decode b_K_tell 12 = .ok (.aload_n 0, 1) := by decide +kernel
theorem d_K_tell_13 : decode b_K_tell 13 = .ok (.getfield 29, 3) := by decide +kernel
theorem d_K_tell_16 : decode b_K_tell 16 = .ok (.lload_n 1, 1) := by decide +kernel
theorem d_K_tell_17 : decode b_K_tell 17 = .ok (.lastore, 1) := by decide +kernel
theorem d_K_tell_18 : decode b_K_tell 18 = .ok (.aload_n 0, 1) := by decide +kernel
theorem d_K_tell_19 : decode b_K_tell 19 = .ok (.getfield 15, 3) := by decide +kernel
theorem d_K_tell_22 : decode b_K_tell 22 = .ok (.aload_n 0, 1) := by decide +kernel
theorem d_K_tell_23 : decode b_K_tell 23 = .ok (.getfield 29, 3) := by decide +kernel
theorem d_K_tell_26 : decode b_K_tell 26 = .ok (.lload_n 3, 1) := by decide +kernel
theorem d_K_tell_27 : decode b_K_tell 27 = .ok (.lastore, 1) := by decide +kernel
theorem d_K_tell_28 : decode b_K_tell 28 = .ok (.aload_n 0, 1) := by decide +kernel
theorem d_K_tell_29 : decode b_K_tell 29 = .ok (.getfield 18, 3) := by decide +kernel
theorem d_K_tell_32 : decode b_K_tell 32 = .ok (.aload_n 0, 1) := by decide +kernel
theorem d_K_tell_33 : decode b_K_tell 33 = .ok (.getfield 29, 3) := by decide +kernel
theorem d_K_tell_36 : decode b_K_tell 36 = .ok (.aload_n 0, 1) := by decide +kernel
theorem d_K_tell_37 : decode b_K_tell 37 = .ok (.getfield 33, 3) := by decide +kernel
theorem d_K_tell_40 : decode b_K_tell 40 = .ok (.iastore, 1) := by decide +kernel
theorem d_K_tell_41 : decode b_K_tell 41 = .ok (.aload_n 0, 1) := by decide +kernel
theorem d_K_tell_42 : decode b_K_tell 42 = .ok (.getfield 22, 3) := by decide +kernel
theorem d_K_tell_45 : decode b_K_tell 45 = .ok (.aload_n 0, 1) := by decide +kernel
theorem d_K_tell_46 : decode b_K_tell 46 = .ok (.getfield 29, 3) := by decide +kernel
theorem d_K_tell_49 : decode b_K_tell 49 = .ok (.aload_n 0, 1) := by decide +kernel
theorem d_K_tell_50 : decode b_K_tell 50 = .ok (.getfield 36, 3) := by decide +kernel
theorem d_K_tell_53 : decode b_K_tell 53 = .ok (.getfield 46, 3) := by decide +kernel
theorem d_K_tell_56 : decode b_K_tell 56 = .ok (.aload_n 0, 1) := by decide +kernel
theorem d_K_tell_57 : decode b_K_tell 57 = .ok (.getfield 36, 3) := by decide +kernel
theorem d_K_tell_60 : decode b_K_tell 60 = .ok (.aload_n 0, 1) := by decide +kernel
theorem d_K_tell_61 : decode b_K_tell 61 = .ok (.getfield 33, 3) := by decide +kernel
theorem d_K_tell_64 : decode b_K_tell 64 = .ok (.invokevirtual 49, 3) := by decide +kernel
theorem d_K_tell_67 : decode b_K_tell 67 = .ok (.iaload, 1) := by decide +kernel
theorem d_K_tell_68 : decode b_K_tell 68 = .ok (.iastore, 1) := by decide +kernel
theorem d_K_tell_69 : decode b_K_tell 69 = .ok (.aload_n 0, 1) := by decide +kernel
theorem d_K_tell_70 : decode b_K_tell 70 = .ok (.getfield 25, 3) := by decide +kernel
theorem d_K_tell_73 : decode b_K_tell 73 = .ok (.aload_n 0, 1) := by decide +kernel
theorem d_K_tell_74 : decode b_K_tell 74 = .ok (.getfield 29, 3) := by decide +kernel
theorem d_K_tell_77 : decode b_K_tell 77 = .ok (.iload 5, 2) := by decide +kernel
theorem d_K_tell_79 : decode b_K_tell 79 = .ok (.bastore, 1) := by decide +kernel
theorem d_K_tell_80 : decode b_K_tell 80 = .ok (.aload_n 0, 1) := by decide +kernel
theorem d_K_tell_81 : decode b_K_tell 81 = .ok (.dup, 1) := by decide +kernel
theorem d_K_tell_82 : decode b_K_tell 82 = .ok (.getfield 33, 3) := by decide +kernel
theorem d_K_tell_85 : decode b_K_tell 85 = .ok (.aload_n 0, 1) := by decide +kernel
theorem d_K_tell_86 : decode b_K_tell 86 = .ok (.getfield 36, 3) := by decide +kernel
theorem d_K_tell_89 : decode b_K_tell 89 = .ok (.getfield 53, 3) := by decide +kernel
theorem d_K_tell_92 : decode b_K_tell 92 = .ok (.aload_n 0, 1) := by decide +kernel
theorem d_K_tell_93 : decode b_K_tell 93 = .ok (.getfield 33, 3) := by decide +kernel
theorem d_K_tell_96 : decode b_K_tell 96 = .ok (.iaload, 1) := by decide +kernel
theorem d_K_tell_97 : decode b_K_tell 97 = .ok (.iadd, 1) := by decide +kernel
theorem d_K_tell_98 : decode b_K_tell 98 = .ok (.putfield 33, 3) := by decide +kernel
theorem d_K_tell_101 : decode b_K_tell 101 = .ok (.aload_n 0, 1) := by decide +kernel
theorem d_K_tell_102 : decode b_K_tell 102 = .ok (.dup, 1) := by decide +kernel
theorem d_K_tell_103 : decode b_K_tell 103 = .ok (.getfield 29, 3) := by decide +kernel
theorem d_K_tell_106 : decode b_K_tell 106 = .ok (.iconst 1, 1) := by decide +kernel
theorem d_K_tell_107 : decode b_K_tell 107 = .ok (.iadd, 1) := by decide +kernel
theorem d_K_tell_108 : decode b_K_tell 108 = .ok (.putfield 29, 3) := by decide +kernel
theorem d_K_tell_111 : decode b_K_tell 111 = .ok (.return_, 1) := by decide +kernel
set_option maxHeartbeats 4000000 in
set_option maxRecDepth 100000 in
theorem c_K_tell (l : Launch) (D : va_G) (cI cJ cB cZ : ClassId) (aK aK0 aK1 aK2 aK3 aK4 : Nat) (aC aC0 aC1 aC2 aC3 aC4 : Nat) (hd : Nat → Int32) (ar sz lv wh : Nat → Nat) (fr bk : Nat → Int64) (rt : Nat → Nat) (tg pr : Nat → Int32) (cn ce L0 : Nat) (e0 : Ex) (x y : Int64) (b1 : Int32) (hr : Rows hd ar sz lv e0 ce L0) (hw : wf true e0) (hh : hds (2 ^ 31) e0) (hz : ce + nsz e0 ≤ 21092) (hp : prods e0 ≤ 40) (hcn : cn < 48) (hb1 : vp_nar .boolean b1 = b1) : Cv l D (tyl cI cJ cB cZ) y_K_tell b_K_tell 6 ({ frames := 2, cells := 0, slots := 0, locals := 44 } : Room) [.ref aK, .long x, .long y, .int b1] [(aK, .inr (4, [.ref aC, .ref aK0, .ref aK1, .ref aK2, .ref aK3, .ref aK4, .int (nI cn), .int (nI ce)])), (aK0, .inl (cJ, 48, .inr (.inl fr))), (aK1, .inl (cJ, 48, .inr (.inl bk))), (aK2, .inl (cI, 48, .inl (fun j => nI (rt j)))), (aK3, .inl (cI, 48, .inl tg)), (aK4, .inl (cZ, 48, .inl pr)), (aC, .inr (1, [.ref aC0, .ref aC1, .ref aC2, .ref aC3, .ref aC4])), (aC0, .inl (cI, 21092, .inl hd)), (aC1, .inl (cI, 21092, .inl (fun j => nI (ar j)))), (aC2, .inl (cI, 21092, .inl (fun j => nI (sz j)))), (aC3, .inl (cI, 21092, .inl (fun j => nI (lv j)))), (aC4, .inl (cI, 21092, .inl (fun j => nI (wh j))))] (fun u => u = [(aK, .inr (4, [.ref aC, .ref aK0, .ref aK1, .ref aK2, .ref aK3, .ref aK4, .int (nI (cn + 1)), .int (nI (ce + nsz e0))])), (aK0, .inl (cJ, 48, .inr (.inl (vp_updL fr cn x)))), (aK1, .inl (cJ, 48, .inr (.inl (vp_updL bk cn y)))), (aK2, .inl (cI, 48, .inl (fun j => nI ((updN rt cn ce) j)))), (aK3, .inl (cI, 48, .inl (upd tg cn (hd (ce + endO e0))))), (aK4, .inl (cZ, 48, .inl (upd pr cn b1))), (aC, .inr (1, [.ref aC0, .ref aC1, .ref aC2, .ref aC3, .ref aC4])), (aC0, .inl (cI, 21092, .inl hd)), (aC1, .inl (cI, 21092, .inl (fun j => nI (ar j)))), (aC2, .inl (cI, 21092, .inl (fun j => nI (sz j)))), (aC3, .inl (cI, 21092, .inl (fun j => nI (lv j)))), (aC4, .inl (cI, 21092, .inl (fun j => nI (wh j))))]) := by
  refine met_v (own := "ProofReader$Constants") (by decide) rfl (Nat.le_of_ble_eq_true rfl) ?_
  intro p e s m args below meth c A Q S hin hA ret ls hl hW
  have hl : lv_has ls 6 [(0, .ref aK), (1, .long x), (3, .long y), (5, .int b1)] := hl
  have hW : Wd D (tyl cI cJ cB cZ) A s s.heap s.heap [] [(aK, .inr (4, [.ref aC, .ref aK0, .ref aK1, .ref aK2, .ref aK3, .ref aK4, .int (nI cn), .int (nI ce)])), (aK0, .inl (cJ, 48, .inr (.inl fr))), (aK1, .inl (cJ, 48, .inr (.inl bk))), (aK2, .inl (cI, 48, .inl (fun j => nI (rt j)))), (aK3, .inl (cI, 48, .inl tg)), (aK4, .inl (cZ, 48, .inl pr)), (aC, .inr (1, [.ref aC0, .ref aC1, .ref aC2, .ref aC3, .ref aC4])), (aC0, .inl (cI, 21092, .inl hd)), (aC1, .inl (cI, 21092, .inl (fun j => nI (ar j)))), (aC2, .inl (cI, 21092, .inl (fun j => nI (sz j)))), (aC3, .inl (cI, 21092, .inl (fun j => nI (lv j)))), (aC4, .inl (cI, 21092, .inl (fun j => nI (wh j))))] := hW
  refine lv_aload_n S.1 S.2.1 d_K_tell_0 rfl (lv_at hl 0 rfl) ?_
  refine callV_i (wr := [(aK0, .inl (cJ, 48, .inr (.inl fr))), (aK1, .inl (cJ, 48, .inr (.inl bk))), (aK2, .inl (cI, 48, .inl (fun j => nI (rt j)))), (aK3, .inl (cI, 48, .inl tg)), (aK4, .inl (cZ, 48, .inl pr)), (aC, .inr (1, [.ref aC0, .ref aC1, .ref aC2, .ref aC3, .ref aC4])), (aC0, .inl (cI, 21092, .inl hd)), (aC1, .inl (cI, 21092, .inl (fun j => nI (ar j)))), (aC2, .inl (cI, 21092, .inl (fun j => nI (sz j)))), (aC3, .inl (cI, 21092, .inl (fun j => nI (lv j)))), (aC4, .inl (cI, 21092, .inl (fun j => nI (wh j))))]) (wc := [(aK, .inr (4, [.ref aC, .ref aK0, .ref aK1, .ref aK2, .ref aK3, .ref aK4, .int (nI cn), .int (nI ce)]))]) (np := 0) (As := []) (rest := []) (c_K_isFull l D cI cJ cB cZ aK aC aK0 aK1 aK2 aK3 aK4 cn (nI ce) (by omega)) km_K_42 ki_K_isFull kv_K_isFull kz_K kk_K_isFull (by decide +kernel) S hW hA ⟨Nat.le_of_ble_eq_true rfl, Nat.le_of_ble_eq_true rfl⟩ ⟨Nat.le_of_ble_eq_true rfl, Nat.le_of_ble_eq_true rfl⟩ rfl 0 rfl [0] [1, 2, 3, 4, 5, 6, 7, 8, 9, 10, 11] rfl (by decide) rfl (by decide) (by decide) rfl hl.1 rfl (Nat.le_of_ble_eq_true rfl) d_K_tell_1 (fun r u H locs hp hW => ?_)
  rcases hp with ⟨h_1, rfl, rfl⟩ | ⟨h_2, rfl, rfl⟩
  · have hW : Wd D (tyl cI cJ cB cZ) A s s.heap H locs [(aK, .inr (4, [.ref aC, .ref aK0, .ref aK1, .ref aK2, .ref aK3, .ref aK4, .int (nI cn), .int (nI ce)])), (aK0, .inl (cJ, 48, .inr (.inl fr))), (aK1, .inl (cJ, 48, .inr (.inl bk))), (aK2, .inl (cI, 48, .inl (fun j => nI (rt j)))), (aK3, .inl (cI, 48, .inl tg)), (aK4, .inl (cZ, 48, .inl pr)), (aC, .inr (1, [.ref aC0, .ref aC1, .ref aC2, .ref aC3, .ref aC4])), (aC0, .inl (cI, 21092, .inl hd)), (aC1, .inl (cI, 21092, .inl (fun j => nI (ar j)))), (aC2, .inl (cI, 21092, .inl (fun j => nI (sz j)))), (aC3, .inl (cI, 21092, .inl (fun j => nI (lv j)))), (aC4, .inl (cI, 21092, .inl (fun j => nI (wh j))))] := hW.sub [11, 0, 1, 2, 3, 4, 5, 6, 7, 8, 9, 10] (by decide) rfl
    refine lv_if_eq (tgt := 8) S.1 S.2.1 d_K_tell_4 (by decide) (fun h => absurd h (by decide)) (fun _ => ?_)
    exact ret _ _ _ _ _ d_K_tell_7 (absurd hcn (by omega)) hW
  · have hW : Wd D (tyl cI cJ cB cZ) A s s.heap H locs [(aK, .inr (4, [.ref aC, .ref aK0, .ref aK1, .ref aK2, .ref aK3, .ref aK4, .int (nI cn), .int (nI ce)])), (aK0, .inl (cJ, 48, .inr (.inl fr))), (aK1, .inl (cJ, 48, .inr (.inl bk))), (aK2, .inl (cI, 48, .inl (fun j => nI (rt j)))), (aK3, .inl (cI, 48, .inl tg)), (aK4, .inl (cZ, 48, .inl pr)), (aC, .inr (1, [.ref aC0, .ref aC1, .ref aC2, .ref aC3, .ref aC4])), (aC0, .inl (cI, 21092, .inl hd)), (aC1, .inl (cI, 21092, .inl (fun j => nI (ar j)))), (aC2, .inl (cI, 21092, .inl (fun j => nI (sz j)))), (aC3, .inl (cI, 21092, .inl (fun j => nI (lv j)))), (aC4, .inl (cI, 21092, .inl (fun j => nI (wh j))))] := hW.sub [11, 0, 1, 2, 3, 4, 5, 6, 7, 8, 9, 10] (by decide) rfl
    refine lv_if_eq (tgt := 8) S.1 S.2.1 d_K_tell_4 (by decide) (fun _ => ?_) (fun h => absurd h (by decide))
    refine lv_aload_n S.1 S.2.1 d_K_tell_8 rfl (lv_at hl 0 rfl) ?_
    refine g_get i_K S hW 0 rfl rfl 1 (by decide) kf_K_9 rfl d_K_tell_9 ?_
    refine lv_aload_n S.1 S.2.1 d_K_tell_12 rfl (lv_at hl 0 rfl) ?_
    refine g_get i_K S hW 0 rfl rfl 6 (by decide) kf_K_29 rfl d_K_tell_13 ?_
    refine lv_lload_n S.1 S.2.1 d_K_tell_16 rfl (lv_at hl 1 rfl) ?_
    refine n_last (ws2 := [(aK, .inr (4, [.ref aC, .ref aK0, .ref aK1, .ref aK2, .ref aK3, .ref aK4, .int (nI cn), .int (nI ce)])), (aK0, .inl (cJ, 48, .inr (.inl (vp_updL fr cn x)))), (aK1, .inl (cJ, 48, .inr (.inl bk))), (aK2, .inl (cI, 48, .inl (fun j => nI (rt j)))), (aK3, .inl (cI, 48, .inl tg)), (aK4, .inl (cZ, 48, .inl pr)), (aC, .inr (1, [.ref aC0, .ref aC1, .ref aC2, .ref aC3, .ref aC4])), (aC0, .inl (cI, 21092, .inl hd)), (aC1, .inl (cI, 21092, .inl (fun j => nI (ar j)))), (aC2, .inl (cI, 21092, .inl (fun j => nI (sz j)))), (aC3, .inl (cI, 21092, .inl (fun j => nI (lv j)))), (aC4, .inl (cI, 21092, .inl (fun j => nI (wh j))))]) S hW 1 1 rfl rfl (by decide) (by omega) rfl d_K_tell_17 (fun H locs hW => ?_)
    refine lv_aload_n S.1 S.2.1 d_K_tell_18 rfl (lv_at hl 0 rfl) ?_
    refine g_get i_K S hW 0 rfl rfl 2 (by decide) kf_K_15 rfl d_K_tell_19 ?_
    refine lv_aload_n S.1 S.2.1 d_K_tell_22 rfl (lv_at hl 0 rfl) ?_
    refine g_get i_K S hW 0 rfl rfl 6 (by decide) kf_K_29 rfl d_K_tell_23 ?_
    refine lv_lload_n S.1 S.2.1 d_K_tell_26 rfl (lv_at hl 2 rfl) ?_
    refine n_last (ws2 := [(aK, .inr (4, [.ref aC, .ref aK0, .ref aK1, .ref aK2, .ref aK3, .ref aK4, .int (nI cn), .int (nI ce)])), (aK0, .inl (cJ, 48, .inr (.inl (vp_updL fr cn x)))), (aK1, .inl (cJ, 48, .inr (.inl (vp_updL bk cn y)))), (aK2, .inl (cI, 48, .inl (fun j => nI (rt j)))), (aK3, .inl (cI, 48, .inl tg)), (aK4, .inl (cZ, 48, .inl pr)), (aC, .inr (1, [.ref aC0, .ref aC1, .ref aC2, .ref aC3, .ref aC4])), (aC0, .inl (cI, 21092, .inl hd)), (aC1, .inl (cI, 21092, .inl (fun j => nI (ar j)))), (aC2, .inl (cI, 21092, .inl (fun j => nI (sz j)))), (aC3, .inl (cI, 21092, .inl (fun j => nI (lv j)))), (aC4, .inl (cI, 21092, .inl (fun j => nI (wh j))))]) S hW 2 1 rfl rfl (by decide) (by omega) rfl d_K_tell_27 (fun H locs hW => ?_)
    refine lv_aload_n S.1 S.2.1 d_K_tell_28 rfl (lv_at hl 0 rfl) ?_
    refine g_get i_K S hW 0 rfl rfl 3 (by decide) kf_K_18 rfl d_K_tell_29 ?_
    refine lv_aload_n S.1 S.2.1 d_K_tell_32 rfl (lv_at hl 0 rfl) ?_
    refine g_get i_K S hW 0 rfl rfl 6 (by decide) kf_K_29 rfl d_K_tell_33 ?_
    refine lv_aload_n S.1 S.2.1 d_K_tell_36 rfl (lv_at hl 0 rfl) ?_
    refine g_get i_K S hW 0 rfl rfl 7 (by decide) kf_K_33 rfl d_K_tell_37 ?_
    refine n_iast (ws2 := [(aK, .inr (4, [.ref aC, .ref aK0, .ref aK1, .ref aK2, .ref aK3, .ref aK4, .int (nI cn), .int (nI ce)])), (aK0, .inl (cJ, 48, .inr (.inl (vp_updL fr cn x)))), (aK1, .inl (cJ, 48, .inr (.inl (vp_updL bk cn y)))), (aK2, .inl (cI, 48, .inl (upd (fun j => nI (rt j)) cn (nI ce)))), (aK3, .inl (cI, 48, .inl tg)), (aK4, .inl (cZ, 48, .inl pr)), (aC, .inr (1, [.ref aC0, .ref aC1, .ref aC2, .ref aC3, .ref aC4])), (aC0, .inl (cI, 21092, .inl hd)), (aC1, .inl (cI, 21092, .inl (fun j => nI (ar j)))), (aC2, .inl (cI, 21092, .inl (fun j => nI (sz j)))), (aC3, .inl (cI, 21092, .inl (fun j => nI (lv j)))), (aC4, .inl (cI, 21092, .inl (fun j => nI (wh j))))]) S hW 3 0 rfl rfl (by decide) (by omega) rfl d_K_tell_40 (fun H locs hW => ?_)
    have hW : Wd D (tyl cI cJ cB cZ) A s s.heap H locs [(aK, .inr (4, [.ref aC, .ref aK0, .ref aK1, .ref aK2, .ref aK3, .ref aK4, .int (nI cn), .int (nI ce)])), (aK0, .inl (cJ, 48, .inr (.inl (vp_updL fr cn x)))), (aK1, .inl (cJ, 48, .inr (.inl (vp_updL bk cn y)))), (aK2, .inl (cI, 48, .inl (fun j => nI (updN rt cn ce j)))), (aK3, .inl (cI, 48, .inl tg)), (aK4, .inl (cZ, 48, .inl pr)), (aC, .inr (1, [.ref aC0, .ref aC1, .ref aC2, .ref aC3, .ref aC4])), (aC0, .inl (cI, 21092, .inl hd)), (aC1, .inl (cI, 21092, .inl (fun j => nI (ar j)))), (aC2, .inl (cI, 21092, .inl (fun j => nI (sz j)))), (aC3, .inl (cI, 21092, .inl (fun j => nI (lv j)))), (aC4, .inl (cI, 21092, .inl (fun j => nI (wh j))))] := by have q := hW; rw [nI_upd] at q; exact q
    refine lv_aload_n S.1 S.2.1 d_K_tell_41 rfl (lv_at hl 0 rfl) ?_
    refine g_get i_K S hW 0 rfl rfl 4 (by decide) kf_K_22 rfl d_K_tell_42 ?_
    refine lv_aload_n S.1 S.2.1 d_K_tell_45 rfl (lv_at hl 0 rfl) ?_
    refine g_get i_K S hW 0 rfl rfl 6 (by decide) kf_K_29 rfl d_K_tell_46 ?_
    refine lv_aload_n S.1 S.2.1 d_K_tell_49 rfl (lv_at hl 0 rfl) ?_
    refine g_get i_K S hW 0 rfl rfl 0 (by decide) kf_K_36 rfl d_K_tell_50 ?_
    refine g_get i_C S hW 6 rfl rfl 0 (by decide) kf_K_46 rfl d_K_tell_53 ?_
    refine lv_aload_n S.1 S.2.1 d_K_tell_56 rfl (lv_at hl 0 rfl) ?_
    refine g_get i_K S hW 0 rfl rfl 0 (by decide) kf_K_36 rfl d_K_tell_57 ?_
    refine lv_aload_n S.1 S.2.1 d_K_tell_60 rfl (lv_at hl 0 rfl) ?_
    refine g_get i_K S hW 0 rfl rfl 7 (by decide) kf_K_33 rfl d_K_tell_61 ?_
    refine callV_i (wr := [(aK, .inr (4, [.ref aC, .ref aK0, .ref aK1, .ref aK2, .ref aK3, .ref aK4, .int (nI cn), .int (nI ce)])), (aK0, .inl (cJ, 48, .inr (.inl (vp_updL fr cn x)))), (aK1, .inl (cJ, 48, .inr (.inl (vp_updL bk cn y)))), (aK2, .inl (cI, 48, .inl (fun j => nI (updN rt cn ce j)))), (aK3, .inl (cI, 48, .inl tg)), (aK4, .inl (cZ, 48, .inl pr))]) (wc := [(aC, .inr (1, [.ref aC0, .ref aC1, .ref aC2, .ref aC3, .ref aC4])), (aC0, .inl (cI, 21092, .inl hd)), (aC1, .inl (cI, 21092, .inl (fun j => nI (ar j)))), (aC2, .inl (cI, 21092, .inl (fun j => nI (sz j)))), (aC3, .inl (cI, 21092, .inl (fun j => nI (lv j)))), (aC4, .inl (cI, 21092, .inl (fun j => nI (wh j))))]) (np := 1) (As := [.int (nI ce)]) (rest := [.ref aC0, .int (nI cn), .ref aK3]) (c_C_ending l D cI cJ cB cZ aC aC0 aC1 aC2 aC3 aC4 hd ar sz lv wh ce L0 e0 hr hw hh hz hp) km_K_49 ki_C_ending kv_C_ending kz_C kk_C_ending (by decide +kernel) S hW hA ⟨Nat.le_of_ble_eq_true rfl, Nat.le_of_ble_eq_true rfl⟩ ⟨Nat.le_of_ble_eq_true rfl, Nat.le_of_ble_eq_true rfl⟩ rfl 0 rfl [6, 7, 8, 9, 10, 11] [0, 1, 2, 3, 4, 5] rfl (by decide) rfl (by decide) (by decide) rfl hl.1 rfl (Nat.le_of_ble_eq_true rfl) d_K_tell_64 (fun r u H locs hp hW => ?_)
    obtain ⟨rfl, rfl⟩ := hp
    have hW : Wd D (tyl cI cJ cB cZ) A s s.heap H locs [(aK, .inr (4, [.ref aC, .ref aK0, .ref aK1, .ref aK2, .ref aK3, .ref aK4, .int (nI cn), .int (nI ce)])), (aK0, .inl (cJ, 48, .inr (.inl (vp_updL fr cn x)))), (aK1, .inl (cJ, 48, .inr (.inl (vp_updL bk cn y)))), (aK2, .inl (cI, 48, .inl (fun j => nI (updN rt cn ce j)))), (aK3, .inl (cI, 48, .inl tg)), (aK4, .inl (cZ, 48, .inl pr)), (aC, .inr (1, [.ref aC0, .ref aC1, .ref aC2, .ref aC3, .ref aC4])), (aC0, .inl (cI, 21092, .inl hd)), (aC1, .inl (cI, 21092, .inl (fun j => nI (ar j)))), (aC2, .inl (cI, 21092, .inl (fun j => nI (sz j)))), (aC3, .inl (cI, 21092, .inl (fun j => nI (lv j)))), (aC4, .inl (cI, 21092, .inl (fun j => nI (wh j))))] := hW
    refine n_iald S hW 7 0 rfl rfl (by decide) (by have := endO_lt hw; omega) d_K_tell_67 ?_
    refine n_iast (ws2 := [(aK, .inr (4, [.ref aC, .ref aK0, .ref aK1, .ref aK2, .ref aK3, .ref aK4, .int (nI cn), .int (nI ce)])), (aK0, .inl (cJ, 48, .inr (.inl (vp_updL fr cn x)))), (aK1, .inl (cJ, 48, .inr (.inl (vp_updL bk cn y)))), (aK2, .inl (cI, 48, .inl (fun j => nI (updN rt cn ce j)))), (aK3, .inl (cI, 48, .inl (upd tg cn (hd (ce + endO e0))))), (aK4, .inl (cZ, 48, .inl pr)), (aC, .inr (1, [.ref aC0, .ref aC1, .ref aC2, .ref aC3, .ref aC4])), (aC0, .inl (cI, 21092, .inl hd)), (aC1, .inl (cI, 21092, .inl (fun j => nI (ar j)))), (aC2, .inl (cI, 21092, .inl (fun j => nI (sz j)))), (aC3, .inl (cI, 21092, .inl (fun j => nI (lv j)))), (aC4, .inl (cI, 21092, .inl (fun j => nI (wh j))))]) S hW 4 0 rfl rfl (by decide) (by omega) rfl d_K_tell_68 (fun H locs hW => ?_)
    refine lv_aload_n S.1 S.2.1 d_K_tell_69 rfl (lv_at hl 0 rfl) ?_
    refine g_get i_K S hW 0 rfl rfl 5 (by decide) kf_K_25 rfl d_K_tell_70 ?_
    refine lv_aload_n S.1 S.2.1 d_K_tell_73 rfl (lv_at hl 0 rfl) ?_
    refine g_get i_K S hW 0 rfl rfl 6 (by decide) kf_K_29 rfl d_K_tell_74 ?_
    refine lv_iload S.1 S.2.1 d_K_tell_77 (lv_at hl 3 rfl) ?_
    refine n_zast (ws2 := [(aK, .inr (4, [.ref aC, .ref aK0, .ref aK1, .ref aK2, .ref aK3, .ref aK4, .int (nI cn), .int (nI ce)])), (aK0, .inl (cJ, 48, .inr (.inl (vp_updL fr cn x)))), (aK1, .inl (cJ, 48, .inr (.inl (vp_updL bk cn y)))), (aK2, .inl (cI, 48, .inl (fun j => nI (updN rt cn ce j)))), (aK3, .inl (cI, 48, .inl (upd tg cn (hd (ce + endO e0))))), (aK4, .inl (cZ, 48, .inl (upd pr cn b1))), (aC, .inr (1, [.ref aC0, .ref aC1, .ref aC2, .ref aC3, .ref aC4])), (aC0, .inl (cI, 21092, .inl hd)), (aC1, .inl (cI, 21092, .inl (fun j => nI (ar j)))), (aC2, .inl (cI, 21092, .inl (fun j => nI (sz j)))), (aC3, .inl (cI, 21092, .inl (fun j => nI (lv j)))), (aC4, .inl (cI, 21092, .inl (fun j => nI (wh j))))]) S hW 5 3 rfl rfl hb1 (by decide) (by omega) rfl d_K_tell_79 (fun H locs hW => ?_)
    refine lv_aload_n S.1 S.2.1 d_K_tell_80 rfl (lv_at hl 0 rfl) ?_
    refine lv_dup S.1 S.2.1 d_K_tell_81 rfl ?_
    refine g_get i_K S hW 0 rfl rfl 7 (by decide) kf_K_33 rfl d_K_tell_82 ?_
    refine lv_aload_n S.1 S.2.1 d_K_tell_85 rfl (lv_at hl 0 rfl) ?_
    refine g_get i_K S hW 0 rfl rfl 0 (by decide) kf_K_36 rfl d_K_tell_86 ?_
    refine g_get i_C S hW 6 rfl rfl 2 (by decide) kf_K_53 rfl d_K_tell_89 ?_
    refine lv_aload_n S.1 S.2.1 d_K_tell_92 rfl (lv_at hl 0 rfl) ?_
    refine g_get i_K S hW 0 rfl rfl 7 (by decide) kf_K_33 rfl d_K_tell_93 ?_
    refine n_iald S hW 9 0 rfl rfl (by decide) (by have := nsz_pos hw; omega) d_K_tell_96 ?_
    refine top_eq (y := nI (sz ce)) rfl ?_
    refine top_eq (y := (nI (nsz e0))) (congrArg nI (Rows.size hw hr).1) ?_
    refine n_iadd S d_K_tell_97 ?_
    refine g_put (ws2 := [(aK, .inr (4, [.ref aC, .ref aK0, .ref aK1, .ref aK2, .ref aK3, .ref aK4, .int (nI cn), .int (nI (ce + (nsz e0)))])), (aK0, .inl (cJ, 48, .inr (.inl (vp_updL fr cn x)))), (aK1, .inl (cJ, 48, .inr (.inl (vp_updL bk cn y)))), (aK2, .inl (cI, 48, .inl (fun j => nI (updN rt cn ce j)))), (aK3, .inl (cI, 48, .inl (upd tg cn (hd (ce + endO e0))))), (aK4, .inl (cZ, 48, .inl (upd pr cn b1))), (aC, .inr (1, [.ref aC0, .ref aC1, .ref aC2, .ref aC3, .ref aC4])), (aC0, .inl (cI, 21092, .inl hd)), (aC1, .inl (cI, 21092, .inl (fun j => nI (ar j)))), (aC2, .inl (cI, 21092, .inl (fun j => nI (sz j)))), (aC3, .inl (cI, 21092, .inl (fun j => nI (lv j)))), (aC4, .inl (cI, 21092, .inl (fun j => nI (wh j))))]) i_K ft_K ft_K_ok n_K S hW 0 rfl rfl 7 (by decide) kf_K_33 rfl rfl rfl (Nat.le_of_ble_eq_true rfl) rfl d_K_tell_98 (fun H locs hW => ?_)
    refine lv_aload_n S.1 S.2.1 d_K_tell_101 rfl (lv_at hl 0 rfl) ?_
    refine lv_dup S.1 S.2.1 d_K_tell_102 rfl ?_
    refine g_get i_K S hW 0 rfl rfl 6 (by decide) kf_K_29 rfl d_K_tell_103 ?_
    refine lv_iconst (v := (nI 1)) S.1 S.2.1 d_K_tell_106 (by decide) ?_
    refine n_iadd S d_K_tell_107 ?_
    refine g_put (ws2 := [(aK, .inr (4, [.ref aC, .ref aK0, .ref aK1, .ref aK2, .ref aK3, .ref aK4, .int (nI (cn + 1)), .int (nI (ce + (nsz e0)))])), (aK0, .inl (cJ, 48, .inr (.inl (vp_updL fr cn x)))), (aK1, .inl (cJ, 48, .inr (.inl (vp_updL bk cn y)))), (aK2, .inl (cI, 48, .inl (fun j => nI (updN rt cn ce j)))), (aK3, .inl (cI, 48, .inl (upd tg cn (hd (ce + endO e0))))), (aK4, .inl (cZ, 48, .inl (upd pr cn b1))), (aC, .inr (1, [.ref aC0, .ref aC1, .ref aC2, .ref aC3, .ref aC4])), (aC0, .inl (cI, 21092, .inl hd)), (aC1, .inl (cI, 21092, .inl (fun j => nI (ar j)))), (aC2, .inl (cI, 21092, .inl (fun j => nI (sz j)))), (aC3, .inl (cI, 21092, .inl (fun j => nI (lv j)))), (aC4, .inl (cI, 21092, .inl (fun j => nI (wh j))))]) i_K ft_K ft_K_ok n_K S hW 0 rfl rfl 6 (by decide) kf_K_29 rfl rfl rfl (Nat.le_of_ble_eq_true rfl) rfl d_K_tell_108 (fun H locs hW => ?_)
    exact ret _ _ _ _ _ d_K_tell_111 rfl hW
