/-- the frame that walks over a variable's product or function -/
def sfr (bs : Nat → Nat) (v : Nat) : Nat → Nat
  | 0 => 0
  | 1 => 1
  | f + 2 => if v < bs (f + 2) then sfr bs v f else f + 2
theorem sfr_lt {bs : Nat → Nat} {v f : Nat} (h : f < 2) : sfr bs v f = f := by
  match f, h with
  | 0, _ => rfl
  | 1, _ => rfl
theorem sfr_go {bs : Nat → Nat} {v f : Nat} (h : 2 ≤ f) (hv : v < bs f) : sfr bs v f = sfr bs v (f - 2) := by
  obtain ⟨g, rfl⟩ : ∃ g, f = g + 2 := ⟨f - 2, by omega⟩
  rw [sfr, if_pos hv]
  rfl
theorem sfr_no {bs : Nat → Nat} {v f : Nat} (h : 2 ≤ f) (hv : bs f ≤ v) : sfr bs v f = f := by
  obtain ⟨g, rfl⟩ : ∃ g, f = g + 2 := ⟨f - 2, by omega⟩
  rw [sfr, if_neg (by omega)]
theorem dec2_eq {E : Nat} (h : 2 ≤ E) : nI E + Int32.ofInt (-2) = nI (E - 2) := by
  have e : Int32.ofInt (-2) = -(nI 2) := by decide
  rw [e, ← Int32.sub_eq_add_neg, pk_sub h]
theorem fx_lt {h : Int32} {x : Nat} (hf : h - nI 48 < 0) (hx : x < 2 ^ 31) : h - nI 48 < nI x := by
  rw [Int32.lt_iff_toInt_lt] at hf ⊢
  rw [nI_toInt hx]
  have : (0 : Int32).toInt = 0 := by decide
  omega
theorem fx_ne {h : Int32} {x : Nat} (hf : h - nI 48 < 0) (hx : x < 2 ^ 31) : ¬ h - nI 48 = nI x := by
  intro q
  rw [q] at hf
  exact nI_pos hx hf
theorem fx_ge {h : Int32} {x : Nat} (hf : h - nI 48 < 0) (hx : x < 2 ^ 31) : ¬ nI x ≤ h - nI 48 := by
  have q := fx_lt hf hx
  rw [Int32.lt_iff_toInt_lt] at q
  rw [Int32.le_iff_toInt_le]
  omega
theorem d_U_push_0 : decode b_U_push 0 = .ok (.aload_n 0, 1) := by decide +kernel
theorem d_U_push_1 : decode b_U_push 1 = .ok (.dup, 1) := by decide +kernel
theorem d_U_push_2 : decode b_U_push 2 = .ok (.getfield 27, 3) := by decide +kernel
theorem d_U_push_5 : decode b_U_push 5 = .ok (.iconst 1, 1) := by decide +kernel
theorem d_U_push_6 : decode b_U_push 6 = .ok (.iadd, 1) := by decide +kernel
theorem d_U_push_7 : decode b_U_push 7 = .ok (.putfield 27, 3) := by decide +kernel
theorem d_U_push_10 : decode b_U_push 10 = .ok (.aload_n 0, 1) := by decide +kernel
theorem d_U_push_11 : decode b_U_push 11 = .ok (.getfield 11, 3) := by decide +kernel
theorem d_U_push_14 : decode b_U_push 14 = .ok (.aload_n 0, 1) := by decide +kernel
theorem d_U_push_15 : decode b_U_push 15 = .ok (.getfield 27, 3) := by decide +kernel
theorem d_U_push_18 : decode b_U_push 18 = .ok (.iload_n 1, 1) := by decide +kernel
theorem d_U_push_19 : decode b_U_push 19 = .ok (.iastore, 1) := by decide +kernel
theorem d_U_push_20 : decode b_U_push 20 = .ok (.aload_n 0, 1) := by decide +kernel
theorem d_U_push_21 : decode b_U_push 21 = .ok (.getfield 15, 3) := by decide +kernel
theorem d_U_push_24 : decode b_U_push 24 = .ok (.aload_n 0, 1) := by decide +kernel
theorem d_U_push_25 : decode b_U_push 25 = .ok (.getfield 27, 3) := by decide +kernel
theorem d_U_push_28 : decode b_U_push 28 = .ok (.iload_n 1, 1) := by decide +kernel
theorem d_U_push_29 : decode b_U_push 29 = .ok (.aload_n 0, 1) := by decide +kernel
theorem d_U_push_30 : decode b_U_push 30 = .ok (.getfield 43, 3) := by decide +kernel
theorem d_U_push_33 : decode b_U_push 33 = .ok (.getfield 52, 3) := by decide +kernel
theorem d_U_push_36 : decode b_U_push 36 = .ok (.iload_n 1, 1) := by decide +kernel
theorem d_U_push_37 : decode b_U_push 37 = .ok (.iaload, 1) := by decide +kernel
theorem d_U_push_38 : decode b_U_push 38 = .ok (.iadd, 1) := by decide +kernel
theorem d_U_push_39 : decode b_U_push 39 = .ok (.iastore, 1) := by decide +kernel
theorem d_U_push_40 : decode b_U_push 40 = .ok (.aload_n 0, 1) := by decide +kernel
theorem d_U_push_41 : decode b_U_push 41 = .ok (.getfield 18, 3) := by decide +kernel
theorem d_U_push_44 : decode b_U_push 44 = .ok (.aload_n 0, 1) := by decide +kernel
theorem d_U_push_45 : decode b_U_push 45 = .ok (.getfield 27, 3) := by decide +kernel
theorem d_U_push_48 : decode b_U_push 48 = .ok (.aload_n 0, 1) := by decide +kernel
theorem d_U_push_49 : decode b_U_push 49 = .ok (.getfield 43, 3) := by decide +kernel
theorem d_U_push_52 : decode b_U_push 52 = .ok (.getfield 47, 3) := by decide +kernel
theorem d_U_push_55 : decode b_U_push 55 = .ok (.iload_n 1, 1) := by decide +kernel
theorem d_U_push_56 : decode b_U_push 56 = .ok (.iaload, 1) := by decide +kernel
theorem d_U_push_57 : decode b_U_push 57 = .ok (.iastore, 1) := by decide +kernel
theorem d_U_push_58 : decode b_U_push 58 = .ok (.aload_n 0, 1) := by decide +kernel
theorem d_U_push_59 : decode b_U_push 59 = .ok (.getfield 21, 3) := by decide +kernel
theorem d_U_push_62 : decode b_U_push 62 = .ok (.aload_n 0, 1) := by decide +kernel
theorem d_U_push_63 : decode b_U_push 63 = .ok (.getfield 27, 3) := by decide +kernel
theorem d_U_push_66 : decode b_U_push 66 = .ok (.iload_n 2, 1) := by decide +kernel
theorem d_U_push_67 : decode b_U_push 67 = .ok (.aload_n 0, 1) := by decide +kernel
theorem d_U_push_68 : decode b_U_push 68 = .ok (.getfield 43, 3) := by decide +kernel
theorem d_U_push_71 : decode b_U_push 71 = .ok (.getfield 47, 3) := by decide +kernel
theorem d_U_push_74 : decode b_U_push 74 = .ok (.iload_n 1, 1) := by decide +kernel
theorem d_U_push_75 : decode b_U_push 75 = .ok (.iaload, 1) := by decide +kernel
theorem d_U_push_76 : decode b_U_push 76 = .ok (.isub, 1) := by decide +kernel
theorem d_U_push_77 : decode b_U_push 77 = .ok (.iastore, 1) := by decide +kernel
theorem d_U_push_78 : decode b_U_push 78 = .ok (.return_, 1) := by decide +kernel
set_option maxHeartbeats 4000000 in
set_option maxRecDepth 100000 in
theorem c_U_push (l : Launch) (D : va_G) (cI cJ cB cZ : ClassId) (aU aU0 aU1 aU2 aU3 aU4 aC aC0 aC1 aC2 aC3 aC4 : Nat) (hd : Nat → Int32) (ar sz lv wh : Nat → Nat) (at0 sp0 bs0 cl0 : Nat → Nat) (sh0 : Nat → Int32) (tp vr mr fr0 ed : Int32) (q z l1 : Nat) (ht : tp + nI 1 = nI q) (hq : q < 602) (hz : z < 21092) : Cv l D (tyl cI cJ cB cZ) y_U_push b_U_push 3 ({ frames := 0, cells := 0, slots := 0, locals := 0 } : Room) [.ref aU, .int (nI z), .int (nI l1)] [(aU, .inr (6, [.ref aC, .ref aU0, .ref aU1, .ref aU2, .ref aU3, .ref aU4, .int tp, .int vr, .int mr, .int fr0, .int ed])), (aU0, .inl (cI, 602, .inl (fun j => nI (at0 j)))), (aU1, .inl (cI, 602, .inl (fun j => nI (sp0 j)))), (aU2, .inl (cI, 602, .inl (fun j => nI (bs0 j)))), (aU3, .inl (cI, 602, .inl sh0)), (aU4, .inl (cI, 602, .inl (fun j => nI (cl0 j)))), (aC, .inr (1, [.ref aC0, .ref aC1, .ref aC2, .ref aC3, .ref aC4])), (aC0, .inl (cI, 21092, .inl hd)), (aC1, .inl (cI, 21092, .inl (fun j => nI (ar j)))), (aC2, .inl (cI, 21092, .inl (fun j => nI (sz j)))), (aC3, .inl (cI, 21092, .inl (fun j => nI (lv j)))), (aC4, .inl (cI, 21092, .inl (fun j => nI (wh j))))] (fun u => u = [(aU, .inr (6, [.ref aC, .ref aU0, .ref aU1, .ref aU2, .ref aU3, .ref aU4, .int (nI q), .int vr, .int mr, .int fr0, .int ed])), (aU0, .inl (cI, 602, .inl (fun j => nI ((updN at0 q z) j)))), (aU1, .inl (cI, 602, .inl (fun j => nI ((updN sp0 q (z + sz z)) j)))), (aU2, .inl (cI, 602, .inl (fun j => nI ((updN bs0 q (lv z)) j)))), (aU3, .inl (cI, 602, .inl (upd sh0 q (nI l1 - nI (lv z))))), (aU4, .inl (cI, 602, .inl (fun j => nI (cl0 j)))), (aC, .inr (1, [.ref aC0, .ref aC1, .ref aC2, .ref aC3, .ref aC4])), (aC0, .inl (cI, 21092, .inl hd)), (aC1, .inl (cI, 21092, .inl (fun j => nI (ar j)))), (aC2, .inl (cI, 21092, .inl (fun j => nI (sz j)))), (aC3, .inl (cI, 21092, .inl (fun j => nI (lv j)))), (aC4, .inl (cI, 21092, .inl (fun j => nI (wh j))))]) := by
  refine met_v (own := "ProofReader$Putter") (by decide) rfl (Nat.le_of_ble_eq_true rfl) ?_
  intro p e s m args below meth c A Q S hin hA ret ls hl hW
  have hl : lv_has ls 3 [(0, .ref aU), (1, .int (nI z)), (2, .int (nI l1))] := hl
  have hW : Wd D (tyl cI cJ cB cZ) A s s.heap s.heap [] [(aU, .inr (6, [.ref aC, .ref aU0, .ref aU1, .ref aU2, .ref aU3, .ref aU4, .int tp, .int vr, .int mr, .int fr0, .int ed])), (aU0, .inl (cI, 602, .inl (fun j => nI (at0 j)))), (aU1, .inl (cI, 602, .inl (fun j => nI (sp0 j)))), (aU2, .inl (cI, 602, .inl (fun j => nI (bs0 j)))), (aU3, .inl (cI, 602, .inl sh0)), (aU4, .inl (cI, 602, .inl (fun j => nI (cl0 j)))), (aC, .inr (1, [.ref aC0, .ref aC1, .ref aC2, .ref aC3, .ref aC4])), (aC0, .inl (cI, 21092, .inl hd)), (aC1, .inl (cI, 21092, .inl (fun j => nI (ar j)))), (aC2, .inl (cI, 21092, .inl (fun j => nI (sz j)))), (aC3, .inl (cI, 21092, .inl (fun j => nI (lv j)))), (aC4, .inl (cI, 21092, .inl (fun j => nI (wh j))))] := hW
  refine lv_aload_n S.1 S.2.1 d_U_push_0 rfl (lv_at hl 0 rfl) ?_
  refine lv_dup S.1 S.2.1 d_U_push_1 rfl ?_
  refine g_get i_U S hW 0 rfl rfl 6 (by decide) kf_U_27 rfl d_U_push_2 ?_
  refine lv_iconst (v := (nI 1)) S.1 S.2.1 d_U_push_5 (by decide) ?_
  refine lv_iadd S.1 S.2.1 d_U_push_6 ?_
  refine top_eq (y := (nI q)) ht ?_
  refine g_put (ws2 := [(aU, .inr (6, [.ref aC, .ref aU0, .ref aU1, .ref aU2, .ref aU3, .ref aU4, .int (nI q), .int vr, .int mr, .int fr0, .int ed])), (aU0, .inl (cI, 602, .inl (fun j => nI (at0 j)))), (aU1, .inl (cI, 602, .inl (fun j => nI (sp0 j)))), (aU2, .inl (cI, 602, .inl (fun j => nI (bs0 j)))), (aU3, .inl (cI, 602, .inl sh0)), (aU4, .inl (cI, 602, .inl (fun j => nI (cl0 j)))), (aC, .inr (1, [.ref aC0, .ref aC1, .ref aC2, .ref aC3, .ref aC4])), (aC0, .inl (cI, 21092, .inl hd)), (aC1, .inl (cI, 21092, .inl (fun j => nI (ar j)))), (aC2, .inl (cI, 21092, .inl (fun j => nI (sz j)))), (aC3, .inl (cI, 21092, .inl (fun j => nI (lv j)))), (aC4, .inl (cI, 21092, .inl (fun j => nI (wh j))))]) i_U ft_U ft_U_ok n_U S hW 0 rfl rfl 6 (by decide) kf_U_27 rfl rfl rfl (Nat.le_of_ble_eq_true rfl) rfl d_U_push_7 (fun H locs hW => ?_)
  refine lv_aload_n S.1 S.2.1 d_U_push_10 rfl (lv_at hl 0 rfl) ?_
  refine g_get i_U S hW 0 rfl rfl 1 (by decide) kf_U_11 rfl d_U_push_11 ?_
  refine lv_aload_n S.1 S.2.1 d_U_push_14 rfl (lv_at hl 0 rfl) ?_
  refine g_get i_U S hW 0 rfl rfl 6 (by decide) kf_U_27 rfl d_U_push_15 ?_
  refine lv_iload_n S.1 S.2.1 d_U_push_18 rfl (lv_at hl 1 rfl) ?_
  refine n_iast (ws2 := [(aU, .inr (6, [.ref aC, .ref aU0, .ref aU1, .ref aU2, .ref aU3, .ref aU4, .int (nI q), .int vr, .int mr, .int fr0, .int ed])), (aU0, .inl (cI, 602, .inl (upd (fun j => nI (at0 j)) q (nI z)))), (aU1, .inl (cI, 602, .inl (fun j => nI (sp0 j)))), (aU2, .inl (cI, 602, .inl (fun j => nI (bs0 j)))), (aU3, .inl (cI, 602, .inl sh0)), (aU4, .inl (cI, 602, .inl (fun j => nI (cl0 j)))), (aC, .inr (1, [.ref aC0, .ref aC1, .ref aC2, .ref aC3, .ref aC4])), (aC0, .inl (cI, 21092, .inl hd)), (aC1, .inl (cI, 21092, .inl (fun j => nI (ar j)))), (aC2, .inl (cI, 21092, .inl (fun j => nI (sz j)))), (aC3, .inl (cI, 21092, .inl (fun j => nI (lv j)))), (aC4, .inl (cI, 21092, .inl (fun j => nI (wh j))))]) S hW 1 0 rfl rfl (by decide) (by omega) rfl d_U_push_19 (fun H locs hW => ?_)
  have hW : Wd D (tyl cI cJ cB cZ) A s s.heap H locs [(aU, .inr (6, [.ref aC, .ref aU0, .ref aU1, .ref aU2, .ref aU3, .ref aU4, .int (nI q), .int vr, .int mr, .int fr0, .int ed])), (aU0, .inl (cI, 602, .inl (fun j => nI (updN at0 q z j)))), (aU1, .inl (cI, 602, .inl (fun j => nI (sp0 j)))), (aU2, .inl (cI, 602, .inl (fun j => nI (bs0 j)))), (aU3, .inl (cI, 602, .inl sh0)), (aU4, .inl (cI, 602, .inl (fun j => nI (cl0 j)))), (aC, .inr (1, [.ref aC0, .ref aC1, .ref aC2, .ref aC3, .ref aC4])), (aC0, .inl (cI, 21092, .inl hd)), (aC1, .inl (cI, 21092, .inl (fun j => nI (ar j)))), (aC2, .inl (cI, 21092, .inl (fun j => nI (sz j)))), (aC3, .inl (cI, 21092, .inl (fun j => nI (lv j)))), (aC4, .inl (cI, 21092, .inl (fun j => nI (wh j))))] := by have q := hW; rw [nI_upd] at q; exact q
  refine lv_aload_n S.1 S.2.1 d_U_push_20 rfl (lv_at hl 0 rfl) ?_
  refine g_get i_U S hW 0 rfl rfl 2 (by decide) kf_U_15 rfl d_U_push_21 ?_
  refine lv_aload_n S.1 S.2.1 d_U_push_24 rfl (lv_at hl 0 rfl) ?_
  refine g_get i_U S hW 0 rfl rfl 6 (by decide) kf_U_27 rfl d_U_push_25 ?_
  refine lv_iload_n S.1 S.2.1 d_U_push_28 rfl (lv_at hl 1 rfl) ?_
  refine lv_aload_n S.1 S.2.1 d_U_push_29 rfl (lv_at hl 0 rfl) ?_
  refine g_get i_U S hW 0 rfl rfl 0 (by decide) kf_U_43 rfl d_U_push_30 ?_
  refine g_get i_C S hW 6 rfl rfl 2 (by decide) kf_U_52 rfl d_U_push_33 ?_
  refine lv_iload_n S.1 S.2.1 d_U_push_36 rfl (lv_at hl 1 rfl) ?_
  refine n_iald S hW 9 0 rfl rfl (by decide) (by omega) d_U_push_37 ?_
  refine top_eq (y := nI (sz z)) rfl ?_
  refine n_iadd S d_U_push_38 ?_
  refine n_iast (ws2 := [(aU, .inr (6, [.ref aC, .ref aU0, .ref aU1, .ref aU2, .ref aU3, .ref aU4, .int (nI q), .int vr, .int mr, .int fr0, .int ed])), (aU0, .inl (cI, 602, .inl (fun j => nI (updN at0 q z j)))), (aU1, .inl (cI, 602, .inl (upd (fun j => nI (sp0 j)) q (nI (z + (sz z)))))), (aU2, .inl (cI, 602, .inl (fun j => nI (bs0 j)))), (aU3, .inl (cI, 602, .inl sh0)), (aU4, .inl (cI, 602, .inl (fun j => nI (cl0 j)))), (aC, .inr (1, [.ref aC0, .ref aC1, .ref aC2, .ref aC3, .ref aC4])), (aC0, .inl (cI, 21092, .inl hd)), (aC1, .inl (cI, 21092, .inl (fun j => nI (ar j)))), (aC2, .inl (cI, 21092, .inl (fun j => nI (sz j)))), (aC3, .inl (cI, 21092, .inl (fun j => nI (lv j)))), (aC4, .inl (cI, 21092, .inl (fun j => nI (wh j))))]) S hW 2 0 rfl rfl (by decide) (by omega) rfl d_U_push_39 (fun H locs hW => ?_)
  have hW : Wd D (tyl cI cJ cB cZ) A s s.heap H locs [(aU, .inr (6, [.ref aC, .ref aU0, .ref aU1, .ref aU2, .ref aU3, .ref aU4, .int (nI q), .int vr, .int mr, .int fr0, .int ed])), (aU0, .inl (cI, 602, .inl (fun j => nI (updN at0 q z j)))), (aU1, .inl (cI, 602, .inl (fun j => nI (updN sp0 q (z + (sz z)) j)))), (aU2, .inl (cI, 602, .inl (fun j => nI (bs0 j)))), (aU3, .inl (cI, 602, .inl sh0)), (aU4, .inl (cI, 602, .inl (fun j => nI (cl0 j)))), (aC, .inr (1, [.ref aC0, .ref aC1, .ref aC2, .ref aC3, .ref aC4])), (aC0, .inl (cI, 21092, .inl hd)), (aC1, .inl (cI, 21092, .inl (fun j => nI (ar j)))), (aC2, .inl (cI, 21092, .inl (fun j => nI (sz j)))), (aC3, .inl (cI, 21092, .inl (fun j => nI (lv j)))), (aC4, .inl (cI, 21092, .inl (fun j => nI (wh j))))] := by have q := hW; rw [nI_upd] at q; exact q
  refine lv_aload_n S.1 S.2.1 d_U_push_40 rfl (lv_at hl 0 rfl) ?_
  refine g_get i_U S hW 0 rfl rfl 3 (by decide) kf_U_18 rfl d_U_push_41 ?_
  refine lv_aload_n S.1 S.2.1 d_U_push_44 rfl (lv_at hl 0 rfl) ?_
  refine g_get i_U S hW 0 rfl rfl 6 (by decide) kf_U_27 rfl d_U_push_45 ?_
  refine lv_aload_n S.1 S.2.1 d_U_push_48 rfl (lv_at hl 0 rfl) ?_
  refine g_get i_U S hW 0 rfl rfl 0 (by decide) kf_U_43 rfl d_U_push_49 ?_
  refine g_get i_C S hW 6 rfl rfl 3 (by decide) kf_U_47 rfl d_U_push_52 ?_
  refine lv_iload_n S.1 S.2.1 d_U_push_55 rfl (lv_at hl 1 rfl) ?_
  refine n_iald S hW 10 0 rfl rfl (by decide) (by omega) d_U_push_56 ?_
  refine top_eq (y := nI (lv z)) rfl ?_
  refine n_iast (ws2 := [(aU, .inr (6, [.ref aC, .ref aU0, .ref aU1, .ref aU2, .ref aU3, .ref aU4, .int (nI q), .int vr, .int mr, .int fr0, .int ed])), (aU0, .inl (cI, 602, .inl (fun j => nI (updN at0 q z j)))), (aU1, .inl (cI, 602, .inl (fun j => nI (updN sp0 q (z + (sz z)) j)))), (aU2, .inl (cI, 602, .inl (upd (fun j => nI (bs0 j)) q (nI (lv z))))), (aU3, .inl (cI, 602, .inl sh0)), (aU4, .inl (cI, 602, .inl (fun j => nI (cl0 j)))), (aC, .inr (1, [.ref aC0, .ref aC1, .ref aC2, .ref aC3, .ref aC4])), (aC0, .inl (cI, 21092, .inl hd)), (aC1, .inl (cI, 21092, .inl (fun j => nI (ar j)))), (aC2, .inl (cI, 21092, .inl (fun j => nI (sz j)))), (aC3, .inl (cI, 21092, .inl (fun j => nI (lv j)))), (aC4, .inl (cI, 21092, .inl (fun j => nI (wh j))))]) S hW 3 0 rfl rfl (by decide) (by omega) rfl d_U_push_57 (fun H locs hW => ?_)
  have hW : Wd D (tyl cI cJ cB cZ) A s s.heap H locs [(aU, .inr (6, [.ref aC, .ref aU0, .ref aU1, .ref aU2, .ref aU3, .ref aU4, .int (nI q), .int vr, .int mr, .int fr0, .int ed])), (aU0, .inl (cI, 602, .inl (fun j => nI (updN at0 q z j)))), (aU1, .inl (cI, 602, .inl (fun j => nI (updN sp0 q (z + (sz z)) j)))), (aU2, .inl (cI, 602, .inl (fun j => nI (updN bs0 q (lv z) j)))), (aU3, .inl (cI, 602, .inl sh0)), (aU4, .inl (cI, 602, .inl (fun j => nI (cl0 j)))), (aC, .inr (1, [.ref aC0, .ref aC1, .ref aC2, .ref aC3, .ref aC4])), (aC0, .inl (cI, 21092, .inl hd)), (aC1, .inl (cI, 21092, .inl (fun j => nI (ar j)))), (aC2, .inl (cI, 21092, .inl (fun j => nI (sz j)))), (aC3, .inl (cI, 21092, .inl (fun j => nI (lv j)))), (aC4, .inl (cI, 21092, .inl (fun j => nI (wh j))))] := by have q := hW; rw [nI_upd] at q; exact q
  refine lv_aload_n S.1 S.2.1 d_U_push_58 rfl (lv_at hl 0 rfl) ?_
  refine g_get i_U S hW 0 rfl rfl 4 (by decide) kf_U_21 rfl d_U_push_59 ?_
  refine lv_aload_n S.1 S.2.1 d_U_push_62 rfl (lv_at hl 0 rfl) ?_
  refine g_get i_U S hW 0 rfl rfl 6 (by decide) kf_U_27 rfl d_U_push_63 ?_
  refine lv_iload_n S.1 S.2.1 d_U_push_66 rfl (lv_at hl 2 rfl) ?_
  refine lv_aload_n S.1 S.2.1 d_U_push_67 rfl (lv_at hl 0 rfl) ?_
  refine g_get i_U S hW 0 rfl rfl 0 (by decide) kf_U_43 rfl d_U_push_68 ?_
  refine g_get i_C S hW 6 rfl rfl 3 (by decide) kf_U_47 rfl d_U_push_71 ?_
  refine lv_iload_n S.1 S.2.1 d_U_push_74 rfl (lv_at hl 1 rfl) ?_
  refine n_iald S hW 10 0 rfl rfl (by decide) (by omega) d_U_push_75 ?_
  refine top_eq (y := nI (lv z)) rfl ?_
  refine lv_isub S.1 S.2.1 d_U_push_76 ?_
  refine n_iast (ws2 := [(aU, .inr (6, [.ref aC, .ref aU0, .ref aU1, .ref aU2, .ref aU3, .ref aU4, .int (nI q), .int vr, .int mr, .int fr0, .int ed])), (aU0, .inl (cI, 602, .inl (fun j => nI (updN at0 q z j)))), (aU1, .inl (cI, 602, .inl (fun j => nI (updN sp0 q (z + (sz z)) j)))), (aU2, .inl (cI, 602, .inl (fun j => nI (updN bs0 q (lv z) j)))), (aU3, .inl (cI, 602, .inl (upd sh0 q ((nI l1) - (nI (lv z)))))), (aU4, .inl (cI, 602, .inl (fun j => nI (cl0 j)))), (aC, .inr (1, [.ref aC0, .ref aC1, .ref aC2, .ref aC3, .ref aC4])), (aC0, .inl (cI, 21092, .inl hd)), (aC1, .inl (cI, 21092, .inl (fun j => nI (ar j)))), (aC2, .inl (cI, 21092, .inl (fun j => nI (sz j)))), (aC3, .inl (cI, 21092, .inl (fun j => nI (lv j)))), (aC4, .inl (cI, 21092, .inl (fun j => nI (wh j))))]) S hW 4 0 rfl rfl (by decide) (by omega) rfl d_U_push_77 (fun H locs hW => ?_)
  exact ret _ _ _ _ _ d_U_push_78 rfl hW
theorem d_U_shiftOf_0 : decode b_U_shiftOf 0 = .ok (.aload_n 0, 1) := by decide +kernel
theorem d_U_shiftOf_1 : decode b_U_shiftOf 1 = .ok (.getfield 27, 3) := by decide +kernel
theorem d_U_shiftOf_4 : decode b_U_shiftOf 4 = .ok (.istore_n 2, 1) := by decide +kernel
theorem d_U_shiftOf_5 : decode b_U_shiftOf 5 = .ok (.iload_n 2, 1) := by decide +kernel
theorem d_U_shiftOf_6 : decode b_U_shiftOf 6 = .ok (.iconst 2, 1) := by decide +kernel
theorem d_U_shiftOf_7 : decode b_U_shiftOf 7 = .ok (.if_icmp .lt 19, 3) := by decide +kernel
theorem d_U_shiftOf_10 : decode b_U_shiftOf 10 = .ok (.iload_n 1, 1) := by decide +kernel
theorem d_U_shiftOf_11 : decode b_U_shiftOf 11 = .ok (.aload_n 0, 1) := by decide +kernel
theorem d_U_shiftOf_12 : decode b_U_shiftOf 12 = .ok (.getfield 18, 3) := by decide +kernel
theorem d_U_shiftOf_15 : decode b_U_shiftOf 15 = .ok (.iload_n 2, 1) := by decide +kernel
theorem d_U_shiftOf_16 : decode b_U_shiftOf 16 = .ok (.iaload, 1) := by decide +kernel
theorem d_U_shiftOf_17 : decode b_U_shiftOf 17 = .ok (.if_icmp .ge 9, 3) := by decide +kernel
theorem d_U_shiftOf_20 : decode b_U_shiftOf 20 = .ok (.iinc 2 (-2), 3) := by decide +kernel
theorem d_U_shiftOf_23 : decode b_U_shiftOf 23 = .ok (.goto (-18), 3) := by decide +kernel
theorem d_U_shiftOf_26 : decode b_U_shiftOf 26 = .ok (.aload_n 0, 1) := by decide +kernel
theorem d_U_shiftOf_27 : decode b_U_shiftOf 27 = .ok (.getfield 21, 3) := by decide +kernel
theorem d_U_shiftOf_30 : decode b_U_shiftOf 30 = .ok (.iload_n 2, 1) := by decide +kernel
theorem d_U_shiftOf_31 : decode b_U_shiftOf 31 = .ok (.iaload, 1) := by decide +kernel
theorem d_U_shiftOf_32 : decode b_U_shiftOf 32 = .ok (.ireturn, 1) := by decide +kernel
set_option maxHeartbeats 4000000 in
set_option maxRecDepth 100000 in
theorem c_U_shiftOf (l : Launch) (D : va_G) (cI cJ cB cZ : ClassId) (aU aU0 aU1 aU2 aU3 aU4 aC : Nat) (bs0 : Nat → Nat) (sh0 : Nat → Int32) (vr mr fr0 ed : Int32) (q v : Nat) (hq : q < 602) (hv : v < 2 ^ 31) (hb : ∀ j, bs0 j < 2 ^ 31) : Ci l D (tyl cI cJ cB cZ) y_U_shiftOf b_U_shiftOf 3 (some .int) ({ frames := 0, cells := 0, slots := 0, locals := 0 } : Room) [.ref aU, .int (nI v)] [(aU, .inr (6, [.ref aC, .ref aU0, .ref aU1, .ref aU2, .ref aU3, .ref aU4, .int (nI q), .int vr, .int mr, .int fr0, .int ed])), (aU2, .inl (cI, 602, .inl (fun j => nI (bs0 j)))), (aU3, .inl (cI, 602, .inl sh0))] (fun r u => r = (sh0 (sfr bs0 v q)) ∧ u = [(aU, .inr (6, [.ref aC, .ref aU0, .ref aU1, .ref aU2, .ref aU3, .ref aU4, .int (nI q), .int vr, .int mr, .int fr0, .int ed])), (aU2, .inl (cI, 602, .inl (fun j => nI (bs0 j)))), (aU3, .inl (cI, 602, .inl sh0))]) := by
  refine met_i (own := "ProofReader$Putter") (by decide) rfl (Nat.le_of_ble_eq_true rfl) ?_
  intro p e s m args below meth c A Q S hA ret ls hl hW
  have hl : lv_has ls 3 [(0, .ref aU), (1, .int (nI v))] := hl
  have hW : Wd D (tyl cI cJ cB cZ) A s s.heap s.heap [] [(aU, .inr (6, [.ref aC, .ref aU0, .ref aU1, .ref aU2, .ref aU3, .ref aU4, .int (nI q), .int vr, .int mr, .int fr0, .int ed])), (aU2, .inl (cI, 602, .inl (fun j => nI (bs0 j)))), (aU3, .inl (cI, 602, .inl sh0))] := hW
  refine lv_aload_n S.1 S.2.1 d_U_shiftOf_0 rfl (lv_at hl 0 rfl) ?_
  refine g_get i_U S hW 0 rfl rfl 6 (by decide) kf_U_27 rfl d_U_shiftOf_1 ?_
  refine lv_istore_n (lv' := [(2, .int (nI q)), (0, .ref aU), (1, .int (nI v))]) S.1 S.2.1 d_U_shiftOf_4 rfl hl (by decide) rfl (fun ls hl => ?_)
  have loop_5 : ∀ (nf : Nat) (f : Nat), f < nf → (f ≤ q) → (sfr bs0 v q = sfr bs0 v f) → ∀ (H : Heap) (locs : List Loc), Wd D (tyl cI cJ cB cZ) A s s.heap H locs [(aU, .inr (6, [.ref aC, .ref aU0, .ref aU1, .ref aU2, .ref aU3, .ref aU4, .int (nI q), .int vr, .int mr, .int fr0, .int ed])), (aU2, .inl (cI, 602, .inl (fun j => nI (bs0 j)))), (aU3, .inl (cI, 602, .inl sh0))] → ∀ (ls : Array Slot), lv_has ls 3 [(2, .int (nI f)), (0, .ref aU), (1, .int (nI v))] → W p l e ({ frames := 0, cells := 0, slots := 0, locals := 0 } : Room) s m args below meth c H locs 0 0 Q (F0 m 5 ls []) := by
    intro nf
    induction nf with
    | zero =>
      intros
      omega
    | succ nf ih =>
      intro f hnf hf he H locs hW ls hl
      refine lv_iload_n S.1 S.2.1 d_U_shiftOf_5 rfl (lv_at hl 0 rfl) ?_
      refine lv_iconst (v := (nI 2)) S.1 S.2.1 d_U_shiftOf_6 (by decide) ?_
      refine n_icmp_lt (tgt := 26) S (by omega) (by omega) d_U_shiftOf_7 (by decide) (fun c_7 => ?_) (fun c_7 => ?_)
      · refine lv_aload_n S.1 S.2.1 d_U_shiftOf_26 rfl (lv_at hl 1 rfl) ?_
        refine g_get i_U S hW 0 rfl rfl 4 (by decide) kf_U_21 rfl d_U_shiftOf_27 ?_
        refine lv_iload_n S.1 S.2.1 d_U_shiftOf_30 rfl (lv_at hl 0 rfl) ?_
        refine n_iald S hW 2 0 rfl rfl (by decide) (by omega) d_U_shiftOf_31 ?_
        exact ret _ _ _ _ _ _ d_U_shiftOf_32 rfl ⟨(by rw [he]; first | rw [sfr_lt c_7] | rw [sfr_no c_7 c_17]), rfl⟩ hW
      · refine lv_iload_n S.1 S.2.1 d_U_shiftOf_10 rfl (lv_at hl 2 rfl) ?_
        refine lv_aload_n S.1 S.2.1 d_U_shiftOf_11 rfl (lv_at hl 1 rfl) ?_
        refine g_get i_U S hW 0 rfl rfl 3 (by decide) kf_U_18 rfl d_U_shiftOf_12 ?_
        refine lv_iload_n S.1 S.2.1 d_U_shiftOf_15 rfl (lv_at hl 0 rfl) ?_
        refine n_iald S hW 1 0 rfl rfl (by decide) (by omega) d_U_shiftOf_16 ?_
        refine top_eq (y := nI (bs0 f)) rfl ?_
        refine n_icmp_ge (tgt := 26) S (by omega) (hb _) d_U_shiftOf_17 (by decide) (fun c_17 => ?_) (fun c_17 => ?_)
        · refine lv_aload_n S.1 S.2.1 d_U_shiftOf_26 rfl (lv_at hl 1 rfl) ?_
          refine g_get i_U S hW 0 rfl rfl 4 (by decide) kf_U_21 rfl d_U_shiftOf_27 ?_
          refine lv_iload_n S.1 S.2.1 d_U_shiftOf_30 rfl (lv_at hl 0 rfl) ?_
          refine n_iald S hW 2 0 rfl rfl (by decide) (by omega) d_U_shiftOf_31 ?_
          exact ret _ _ _ _ _ _ d_U_shiftOf_32 rfl ⟨(by rw [he]; first | rw [sfr_lt c_7] | rw [sfr_no c_7 c_17]), rfl⟩ hW
        · refine lv_iinc (v := (nI (f - 2))) (lv' := [(2, .int (nI (f - 2))), (0, .ref aU), (1, .int (nI v))]) S.1 S.2.1 d_U_shiftOf_20 hl (k := 0) rfl (dec2_eq c_7) (by decide) rfl (fun ls hl => ?_)
          refine lv_goto (tgt := 5) S.1 S.2.1 d_U_shiftOf_23 (by decide) ?_
          exact ih (f - 2) (by omega) (by omega) (he.trans (sfr_go c_7 c_17)) _ _ hW _ (lv_sub hl [0, 1, 2] rfl)
  exact loop_5 (q + 1) q (Nat.lt_succ_self _) (Nat.le_refl _) rfl _ _ hW _ (lv_sub hl [0, 1, 2] rfl)
theorem d_U_step_0 : decode b_U_step 0 = .ok (.aload_n 0, 1) := by decide +kernel
theorem d_U_step_1 : decode b_U_step 1 = .ok (.getfield 43, 3) := by decide +kernel
theorem d_U_step_4 : decode b_U_step 4 = .ok (.getfield 75, 3) := by decide +kernel
theorem d_U_step_7 : decode b_U_step 7 = .ok (.iload_n 1, 1) := by decide +kernel
theorem d_U_step_8 : decode b_U_step 8 = .ok (.iaload, 1) := by decide +kernel
theorem d_U_step_9 : decode b_U_step 9 = .ok (.bipush 48, 2) := by decide +kernel
theorem d_U_step_11 : decode b_U_step 11 = .ok (.isub, 1) := by decide +kernel
theorem d_U_step_12 : decode b_U_step 12 = .ok (.istore_n 2, 1) := by decide +kernel
theorem d_U_step_13 : decode b_U_step 13 = .ok (.aload_n 0, 1) := by decide +kernel
theorem d_U_step_14 : decode b_U_step 14 = .ok (.getfield 43, 3) := by decide +kernel
theorem d_U_step_17 : decode b_U_step 17 = .ok (.getfield 47, 3) := by decide +kernel
theorem d_U_step_20 : decode b_U_step 20 = .ok (.iload_n 1, 1) := by decide +kernel
theorem d_U_step_21 : decode b_U_step 21 = .ok (.iaload, 1) := by decide +kernel
theorem d_U_step_22 : decode b_U_step 22 = .ok (.aload_n 0, 1) := by decide +kernel
theorem d_U_step_23 : decode b_U_step 23 = .ok (.getfield 21, 3) := by decide +kernel
theorem d_U_step_26 : decode b_U_step 26 = .ok (.aload_n 0, 1) := by decide +kernel
theorem d_U_step_27 : decode b_U_step 27 = .ok (.getfield 27, 3) := by decide +kernel
theorem d_U_step_30 : decode b_U_step 30 = .ok (.iaload, 1) := by decide +kernel
theorem d_U_step_31 : decode b_U_step 31 = .ok (.iadd, 1) := by decide +kernel
theorem d_U_step_32 : decode b_U_step 32 = .ok (.istore_n 3, 1) := by decide +kernel
theorem d_U_step_33 : decode b_U_step 33 = .ok (.aload_n 0, 1) := by decide +kernel
theorem d_U_step_34 : decode b_U_step 34 = .ok (.getfield 27, 3) := by decide +kernel
theorem d_U_step_37 : decode b_U_step 37 = .ok (.iconst 2, 1) := by decide +kernel
theorem d_U_step_38 : decode b_U_step 38 = .ok (.irem, 1) := by decide +kernel
theorem d_U_step_39 : decode b_U_step 39 = .ok (.ifCond .ne 7, 3) := by decide +kernel
theorem d_U_step_42 : decode b_U_step 42 = .ok (.iconst 1, 1) := by decide +kernel
theorem d_U_step_43 : decode b_U_step 43 = .ok (.goto 4, 3) := by decide +kernel
theorem d_U_step_46 : decode b_U_step 46 = .ok (.iconst 0, 1) := by decide +kernel
theorem d_U_step_47 : decode b_U_step 47 = .ok (.istore 4, 2) := by decide +kernel
theorem d_U_step_49 : decode b_U_step 49 = .ok (.iload 4, 2) := by decide +kernel
theorem d_U_step_51 : decode b_U_step 51 = .ok (.ifCond .eq 19, 3) := by decide +kernel
theorem d_U_step_54 : decode b_U_step 54 = .ok (.iload_n 2, 1) := by decide +kernel
theorem d_U_step_55 : decode b_U_step 55 = .ok (.aload_n 0, 1) := by decide +kernel
theorem d_U_step_56 : decode b_U_step 56 = .ok (.getfield 31, 3) := by decide +kernel
theorem d_U_step_59 : decode b_U_step 59 = .ok (.if_icmp .ne 7, 3) := by decide +kernel
theorem d_U_step_62 : decode b_U_step 62 = .ok (.iconst 1, 1) := by decide +kernel
theorem d_U_step_63 : decode b_U_step 63 = .ok (.goto 33, 3) := by decide +kernel
theorem d_U_step_66 : decode b_U_step 66 = .ok (.iconst 0, 1) := by decide +kernel
theorem d_U_step_67 : decode b_U_step 67 = .ok (.goto 29, 3) := by decide +kernel
theorem d_U_step_70 : decode b_U_step 70 = .ok (.iload_n 2, 1) := by decide +kernel
theorem d_U_step_71 : decode b_U_step 71 = .ok (.aload_n 0, 1) := by decide +kernel
theorem d_U_step_72 : decode b_U_step 72 = .ok (.getfield 31, 3) := by decide +kernel
theorem d_U_step_75 : decode b_U_step 75 = .ok (.if_icmp .lt 20, 3) := by decide +kernel
theorem d_U_step_78 : decode b_U_step 78 = .ok (.iload_n 2, 1) := by decide +kernel
theorem d_U_step_79 : decode b_U_step 79 = .ok (.aload_n 0, 1) := by decide +kernel
theorem d_U_step_80 : decode b_U_step 80 = .ok (.getfield 18, 3) := by decide +kernel
theorem d_U_step_83 : decode b_U_step 83 = .ok (.aload_n 0, 1) := by decide +kernel
theorem d_U_step_84 : decode b_U_step 84 = .ok (.getfield 27, 3) := by decide +kernel
theorem d_U_step_87 : decode b_U_step 87 = .ok (.iaload, 1) := by decide +kernel
theorem d_U_step_88 : decode b_U_step 88 = .ok (.if_icmp .ge 7, 3) := by decide +kernel
theorem d_U_step_91 : decode b_U_step 91 = .ok (.iconst 1, 1) := by decide +kernel
theorem d_U_step_92 : decode b_U_step 92 = .ok (.goto 4, 3) := by decide +kernel
theorem d_U_step_95 : decode b_U_step 95 = .ok (.iconst 0, 1) := by decide +kernel
theorem d_U_step_96 : decode b_U_step 96 = .ok (.istore 5, 2) := by decide +kernel
theorem d_U_step_98 : decode b_U_step 98 = .ok (.iload 5, 2) := by decide +kernel
theorem d_U_step_100 : decode b_U_step 100 = .ok (.ifCond .eq 18, 3) := by decide +kernel
theorem d_U_step_103 : decode b_U_step 103 = .ok (.aload_n 0, 1) := by decide +kernel
theorem d_U_step_104 : decode b_U_step 104 = .ok (.getfield 27, 3) := by decide +kernel
theorem d_U_step_107 : decode b_U_step 107 = .ok (.iconst 1, 1) := by decide +kernel
theorem d_U_step_108 : decode b_U_step 108 = .ok (.iadd, 1) := by decide +kernel
theorem d_U_step_109 : decode b_U_step 109 = .ok (.sipush 602, 3) := by decide +kernel
theorem d_U_step_112 : decode b_U_step 112 = .ok (.if_icmp .lt 23, 3) := by decide +kernel
theorem d_U_step_115 : decode b_U_step 115 = .ok (.goto 18, 3) := by decide +kernel
theorem d_U_step_118 : decode b_U_step 118 = .ok (.aload_n 0, 1) := by decide +kernel
theorem d_U_step_119 : decode b_U_step 119 = .ok (.getfield 40, 3) := by decide +kernel
theorem d_U_step_122 : decode b_U_step 122 = .ok (.aload_n 0, 1) := by decide +kernel
theorem d_U_step_123 : decode b_U_step 123 = .ok (.getfield 37, 3) := by decide +kernel
theorem d_U_step_126 : decode b_U_step 126 = .ok (.isub, 1) := by decide +kernel
theorem d_U_step_127 : decode b_U_step 127 = .ok (.sipush 300, 3) := by decide +kernel
theorem d_U_step_130 : decode b_U_step 130 = .ok (.if_icmp .lt 5, 3) := by decide +kernel
theorem d_U_step_133 : decode b_U_step 133 = .ok (.iconst 0, 1) := by decide +kernel
theorem d_U_step_134 : decode b_U_step 134 = .ok (.ireturn, 1) := by decide +kernel
theorem d_U_step_135 : decode b_U_step 135 = .ok (.iload 5, 2) := by decide +kernel
theorem d_U_step_137 : decode b_U_step 137 = .ok (.ifCond .ne 88, 3) := by decide +kernel
theorem d_U_step_140 : decode b_U_step 140 = .ok (.iload_n 2, 1) := by decide +kernel
theorem d_U_step_141 : decode b_U_step 141 = .ok (.aload_n 0, 1) := by decide +kernel
theorem d_U_step_142 : decode b_U_step 142 = .ok (.getfield 31, 3) := by decide +kernel
theorem d_U_step_145 : decode b_U_step 145 = .ok (.if_icmp .ge 15, 3) := by decide +kernel
theorem d_U_step_148 : decode b_U_step 148 = .ok (.aload_n 0, 1) := by decide +kernel
theorem d_U_step_149 : decode b_U_step 149 = .ok (.getfield 43, 3) := by decide +kernel
theorem d_U_step_152 : decode b_U_step 152 = .ok (.getfield 75, 3) := by decide +kernel
theorem d_U_step_155 : decode b_U_step 155 = .ok (.iload_n 1, 1) := by decide +kernel
theorem d_U_step_156 : decode b_U_step 156 = .ok (.iaload, 1) := by decide +kernel
theorem d_U_step_157 : decode b_U_step 157 = .ok (.goto 18, 3) := by decide +kernel
theorem d_U_step_160 : decode b_U_step 160 = .ok (.aload_n 0, 1) := by decide +kernel
theorem d_U_step_161 : decode b_U_step 161 = .ok (.getfield 43, 3) := by decide +kernel
theorem d_U_step_164 : decode b_U_step 164 = .ok (.getfield 75, 3) := by decide +kernel
theorem d_U_step_167 : decode b_U_step 167 = .ok (.iload_n 1, 1) := by decide +kernel
theorem d_U_step_168 : decode b_U_step 168 = .ok (.iaload, 1) := by decide +kernel
theorem d_U_step_169 : decode b_U_step 169 = .ok (.aload_n 0, 1) := by decide +kernel
theorem d_U_step_170 : decode b_U_step 170 = .ok (.iload_n 2, 1) := by decide +kernel
theorem d_U_step_171 : decode b_U_step 171 = .ok (.invokevirtual 78, 3) := by decide +kernel
theorem d_U_step_174 : decode b_U_step 174 = .ok (.iadd, 1) := by decide +kernel
theorem d_U_step_175 : decode b_U_step 175 = .ok (.istore 6, 2) := by decide +kernel
theorem d_U_step_177 : decode b_U_step 177 = .ok (.aload_n 0, 1) := by decide +kernel
theorem d_U_step_178 : decode b_U_step 178 = .ok (.getfield 43, 3) := by decide +kernel
theorem d_U_step_181 : decode b_U_step 181 = .ok (.aload_n 0, 1) := by decide +kernel
theorem d_U_step_182 : decode b_U_step 182 = .ok (.getfield 40, 3) := by decide +kernel
theorem d_U_step_185 : decode b_U_step 185 = .ok (.iload 6, 2) := by decide +kernel
theorem d_U_step_187 : decode b_U_step 187 = .ok (.aload_n 0, 1) := by decide +kernel
theorem d_U_step_188 : decode b_U_step 188 = .ok (.getfield 43, 3) := by decide +kernel
theorem d_U_step_191 : decode b_U_step 191 = .ok (.getfield 81, 3) := by decide +kernel
theorem d_U_step_194 : decode b_U_step 194 = .ok (.iload_n 1, 1) := by decide +kernel
theorem d_U_step_195 : decode b_U_step 195 = .ok (.iaload, 1) := by decide +kernel
theorem d_U_step_196 : decode b_U_step 196 = .ok (.iload_n 3, 1) := by decide +kernel
theorem d_U_step_197 : decode b_U_step 197 = .ok (.invokevirtual 84, 3) := by decide +kernel
theorem d_U_step_200 : decode b_U_step 200 = .ok (.aload_n 0, 1) := by decide +kernel
theorem d_U_step_201 : decode b_U_step 201 = .ok (.dup, 1) := by decide +kernel
theorem d_U_step_202 : decode b_U_step 202 = .ok (.getfield 40, 3) := by decide +kernel
theorem d_U_step_205 : decode b_U_step 205 = .ok (.iconst 1, 1) := by decide +kernel
theorem d_U_step_206 : decode b_U_step 206 = .ok (.iadd, 1) := by decide +kernel
theorem d_U_step_207 : decode b_U_step 207 = .ok (.putfield 40, 3) := by decide +kernel
theorem d_U_step_210 : decode b_U_step 210 = .ok (.aload_n 0, 1) := by decide +kernel
theorem d_U_step_211 : decode b_U_step 211 = .ok (.getfield 11, 3) := by decide +kernel
theorem d_U_step_214 : decode b_U_step 214 = .ok (.aload_n 0, 1) := by decide +kernel
theorem d_U_step_215 : decode b_U_step 215 = .ok (.getfield 27, 3) := by decide +kernel
theorem d_U_step_218 : decode b_U_step 218 = .ok (.dup2, 1) := by decide +kernel
theorem d_U_step_219 : decode b_U_step 219 = .ok (.iaload, 1) := by decide +kernel
theorem d_U_step_220 : decode b_U_step 220 = .ok (.iconst 1, 1) := by decide +kernel
theorem d_U_step_221 : decode b_U_step 221 = .ok (.iadd, 1) := by decide +kernel
theorem d_U_step_222 : decode b_U_step 222 = .ok (.iastore, 1) := by decide +kernel
theorem d_U_step_223 : decode b_U_step 223 = .ok (.iconst 1, 1) := by decide +kernel
theorem d_U_step_224 : decode b_U_step 224 = .ok (.ireturn, 1) := by decide +kernel
theorem d_U_step_225 : decode b_U_step 225 = .ok (.aload_n 0, 1) := by decide +kernel
theorem d_U_step_226 : decode b_U_step 226 = .ok (.getfield 11, 3) := by decide +kernel
theorem d_U_step_229 : decode b_U_step 229 = .ok (.aload_n 0, 1) := by decide +kernel
theorem d_U_step_230 : decode b_U_step 230 = .ok (.getfield 27, 3) := by decide +kernel
theorem d_U_step_233 : decode b_U_step 233 = .ok (.dup2, 1) := by decide +kernel
theorem d_U_step_234 : decode b_U_step 234 = .ok (.iaload, 1) := by decide +kernel
theorem d_U_step_235 : decode b_U_step 235 = .ok (.aload_n 0, 1) := by decide +kernel
theorem d_U_step_236 : decode b_U_step 236 = .ok (.getfield 43, 3) := by decide +kernel
theorem d_U_step_239 : decode b_U_step 239 = .ok (.getfield 52, 3) := by decide +kernel
theorem d_U_step_242 : decode b_U_step 242 = .ok (.iload_n 1, 1) := by decide +kernel
theorem d_U_step_243 : decode b_U_step 243 = .ok (.iaload, 1) := by decide +kernel
theorem d_U_step_244 : decode b_U_step 244 = .ok (.iadd, 1) := by decide +kernel
theorem d_U_step_245 : decode b_U_step 245 = .ok (.iastore, 1) := by decide +kernel
theorem d_U_step_246 : decode b_U_step 246 = .ok (.iload 4, 2) := by decide +kernel
theorem d_U_step_248 : decode b_U_step 248 = .ok (.ifCond .eq 35, 3) := by decide +kernel
theorem d_U_step_251 : decode b_U_step 251 = .ok (.aload_n 0, 1) := by decide +kernel
theorem d_U_step_252 : decode b_U_step 252 = .ok (.aload_n 0, 1) := by decide +kernel
theorem d_U_step_253 : decode b_U_step 253 = .ok (.getfield 34, 3) := by decide +kernel
theorem d_U_step_256 : decode b_U_step 256 = .ok (.aload_n 0, 1) := by decide +kernel
theorem d_U_step_257 : decode b_U_step 257 = .ok (.getfield 43, 3) := by decide +kernel
theorem d_U_step_260 : decode b_U_step 260 = .ok (.getfield 81, 3) := by decide +kernel
theorem d_U_step_263 : decode b_U_step 263 = .ok (.iload_n 1, 1) := by decide +kernel
theorem d_U_step_264 : decode b_U_step 264 = .ok (.iaload, 1) := by decide +kernel
theorem d_U_step_265 : decode b_U_step 265 = .ok (.iadd, 1) := by decide +kernel
theorem d_U_step_266 : decode b_U_step 266 = .ok (.iload_n 3, 1) := by decide +kernel
theorem d_U_step_267 : decode b_U_step 267 = .ok (.invokevirtual 59, 3) := by decide +kernel
theorem d_U_step_270 : decode b_U_step 270 = .ok (.aload_n 0, 1) := by decide +kernel
theorem d_U_step_271 : decode b_U_step 271 = .ok (.getfield 24, 3) := by decide +kernel
theorem d_U_step_274 : decode b_U_step 274 = .ok (.aload_n 0, 1) := by decide +kernel
theorem d_U_step_275 : decode b_U_step 275 = .ok (.getfield 27, 3) := by decide +kernel
theorem d_U_step_278 : decode b_U_step 278 = .ok (.iload_n 1, 1) := by decide +kernel
theorem d_U_step_279 : decode b_U_step 279 = .ok (.iastore, 1) := by decide +kernel
theorem d_U_step_280 : decode b_U_step 280 = .ok (.goto 30, 3) := by decide +kernel
theorem d_U_step_283 : decode b_U_step 283 = .ok (.aload_n 0, 1) := by decide +kernel
theorem d_U_step_284 : decode b_U_step 284 = .ok (.aload_n 0, 1) := by decide +kernel
theorem d_U_step_285 : decode b_U_step 285 = .ok (.getfield 43, 3) := by decide +kernel
theorem d_U_step_288 : decode b_U_step 288 = .ok (.aload_n 0, 1) := by decide +kernel
theorem d_U_step_289 : decode b_U_step 289 = .ok (.getfield 24, 3) := by decide +kernel
theorem d_U_step_292 : decode b_U_step 292 = .ok (.aload_n 0, 1) := by decide +kernel
theorem d_U_step_293 : decode b_U_step 293 = .ok (.getfield 27, 3) := by decide +kernel
theorem d_U_step_296 : decode b_U_step 296 = .ok (.iaload, 1) := by decide +kernel
theorem d_U_step_297 : decode b_U_step 297 = .ok (.iload_n 2, 1) := by decide +kernel
theorem d_U_step_298 : decode b_U_step 298 = .ok (.aload_n 0, 1) := by decide +kernel
theorem d_U_step_299 : decode b_U_step 299 = .ok (.getfield 31, 3) := by decide +kernel
theorem d_U_step_302 : decode b_U_step 302 = .ok (.isub, 1) := by decide +kernel
theorem d_U_step_303 : decode b_U_step 303 = .ok (.invokevirtual 88, 3) := by decide +kernel
theorem d_U_step_306 : decode b_U_step 306 = .ok (.iload_n 3, 1) := by decide +kernel
theorem d_U_step_307 : decode b_U_step 307 = .ok (.invokevirtual 59, 3) := by decide +kernel
theorem d_U_step_310 : decode b_U_step 310 = .ok (.iconst 1, 1) := by decide +kernel
theorem d_U_step_311 : decode b_U_step 311 = .ok (.ireturn, 1) := by decide +kernel
set_option maxHeartbeats 4000000 in
set_option maxRecDepth 100000 in
theorem c_U_step_v (l : Launch) (D : va_G) (cI cJ cB cZ : ClassId) (aU aU0 aU1 aU2 aU3 aU4 aC aC0 aC1 aC2 aC3 aC4 : Nat) (hd : Nat → Int32) (ar sz lv wh : Nat → Nat) (at0 sp0 bs0 cl0 : Nat → Nat) (sh0 : Nat → Int32) (z w q x ma fr0 ed l1 : Nat) (hz : z < 21092) (hh : hd z = nI (48 + w)) (hl1 : nI (lv z) + sh0 q = nI l1) (hq : q < 602) (hed : ed < 21092) (hfe : fr0 ≤ ed) (hw : w < 1000000) (hx : x < 1000000) (hb : ∀ j, bs0 j < 2 ^ 31) (hev : q % 2 = 0 → w = x → ma + ar z < 21092) (hod : q % 2 = 1 → x ≤ w → w < bs0 q → ∀ j, j ≤ w - x → argp sz (cl0 q) j < 21092) : Ci l D (tyl cI cJ cB cZ) y_U_step b_U_step 7 (some .boolean) ({ frames := 1, cells := 0, slots := 0, locals := 24 } : Room) [.ref aU, .int (nI z)] [(aU, .inr (6, [.ref aC, .ref aU0, .ref aU1, .ref aU2, .ref aU3, .ref aU4, .int (nI q), .int (nI x), .int (nI ma), .int (nI fr0), .int (nI ed)])), (aU0, .inl (cI, 602, .inl (fun j => nI (at0 j)))), (aU1, .inl (cI, 602, .inl (fun j => nI (sp0 j)))), (aU2, .inl (cI, 602, .inl (fun j => nI (bs0 j)))), (aU3, .inl (cI, 602, .inl sh0)), (aU4, .inl (cI, 602, .inl (fun j => nI (cl0 j)))), (aC, .inr (1, [.ref aC0, .ref aC1, .ref aC2, .ref aC3, .ref aC4])), (aC0, .inl (cI, 21092, .inl hd)), (aC1, .inl (cI, 21092, .inl (fun j => nI (ar j)))), (aC2, .inl (cI, 21092, .inl (fun j => nI (sz j)))), (aC3, .inl (cI, 21092, .inl (fun j => nI (lv j)))), (aC4, .inl (cI, 21092, .inl (fun j => nI (wh j))))] (fun r u => ((w < x) ∧ (ed - fr0 < 300) ∧ r = (nI 1) ∧ u = [(aU, .inr (6, [.ref aC, .ref aU0, .ref aU1, .ref aU2, .ref aU3, .ref aU4, .int (nI q), .int (nI x), .int (nI ma), .int (nI fr0), .int (nI (ed + 1))])), (aU0, .inl (cI, 602, .inl (fun j => nI ((updN at0 q (at0 q + 1)) j)))), (aU1, .inl (cI, 602, .inl (fun j => nI (sp0 j)))), (aU2, .inl (cI, 602, .inl (fun j => nI (bs0 j)))), (aU3, .inl (cI, 602, .inl sh0)), (aU4, .inl (cI, 602, .inl (fun j => nI (cl0 j)))), (aC, .inr (1, [.ref aC0, .ref aC1, .ref aC2, .ref aC3, .ref aC4])), (aC0, .inl (cI, 21092, .inl (upd hd ed (hd z)))), (aC1, .inl (cI, 21092, .inl (fun j => nI ((updN ar ed (ar z)) j)))), (aC2, .inl (cI, 21092, .inl (fun j => nI ((updN sz ed 1) j)))), (aC3, .inl (cI, 21092, .inl (fun j => nI ((updN lv ed l1) j)))), (aC4, .inl (cI, 21092, .inl (fun j => nI (wh j))))]) ∨ ((x ≤ w) ∧ (¬ (q % 2 = 0 ∧ w = x ∨ q % 2 = 1 ∧ x ≤ w ∧ w < bs0 q)) ∧ (ed - fr0 < 300) ∧ r = (nI 1) ∧ u = [(aU, .inr (6, [.ref aC, .ref aU0, .ref aU1, .ref aU2, .ref aU3, .ref aU4, .int (nI q), .int (nI x), .int (nI ma), .int (nI fr0), .int (nI (ed + 1))])), (aU0, .inl (cI, 602, .inl (fun j => nI ((updN at0 q (at0 q + 1)) j)))), (aU1, .inl (cI, 602, .inl (fun j => nI (sp0 j)))), (aU2, .inl (cI, 602, .inl (fun j => nI (bs0 j)))), (aU3, .inl (cI, 602, .inl sh0)), (aU4, .inl (cI, 602, .inl (fun j => nI (cl0 j)))), (aC, .inr (1, [.ref aC0, .ref aC1, .ref aC2, .ref aC3, .ref aC4])), (aC0, .inl (cI, 21092, .inl (upd hd ed (hd z + sh0 (sfr bs0 w q))))), (aC1, .inl (cI, 21092, .inl (fun j => nI ((updN ar ed (ar z)) j)))), (aC2, .inl (cI, 21092, .inl (fun j => nI ((updN sz ed 1) j)))), (aC3, .inl (cI, 21092, .inl (fun j => nI ((updN lv ed l1) j)))), (aC4, .inl (cI, 21092, .inl (fun j => nI (wh j))))]) ∨ ((¬ (q % 2 = 0 ∧ w = x ∨ q % 2 = 1 ∧ x ≤ w ∧ w < bs0 q)) ∧ (300 ≤ ed - fr0) ∧ r = (nI 0) ∧ u = [(aU, .inr (6, [.ref aC, .ref aU0, .ref aU1, .ref aU2, .ref aU3, .ref aU4, .int (nI q), .int (nI x), .int (nI ma), .int (nI fr0), .int (nI ed)])), (aU0, .inl (cI, 602, .inl (fun j => nI (at0 j)))), (aU1, .inl (cI, 602, .inl (fun j => nI (sp0 j)))), (aU2, .inl (cI, 602, .inl (fun j => nI (bs0 j)))), (aU3, .inl (cI, 602, .inl sh0)), (aU4, .inl (cI, 602, .inl (fun j => nI (cl0 j)))), (aC, .inr (1, [.ref aC0, .ref aC1, .ref aC2, .ref aC3, .ref aC4])), (aC0, .inl (cI, 21092, .inl hd)), (aC1, .inl (cI, 21092, .inl (fun j => nI (ar j)))), (aC2, .inl (cI, 21092, .inl (fun j => nI (sz j)))), (aC3, .inl (cI, 21092, .inl (fun j => nI (lv j)))), (aC4, .inl (cI, 21092, .inl (fun j => nI (wh j))))]) ∨ ((q = 601) ∧ r = (nI 0) ∧ u = [(aU, .inr (6, [.ref aC, .ref aU0, .ref aU1, .ref aU2, .ref aU3, .ref aU4, .int (nI q), .int (nI x), .int (nI ma), .int (nI fr0), .int (nI ed)])), (aU0, .inl (cI, 602, .inl (fun j => nI (at0 j)))), (aU1, .inl (cI, 602, .inl (fun j => nI (sp0 j)))), (aU2, .inl (cI, 602, .inl (fun j => nI (bs0 j)))), (aU3, .inl (cI, 602, .inl sh0)), (aU4, .inl (cI, 602, .inl (fun j => nI (cl0 j)))), (aC, .inr (1, [.ref aC0, .ref aC1, .ref aC2, .ref aC3, .ref aC4])), (aC0, .inl (cI, 21092, .inl hd)), (aC1, .inl (cI, 21092, .inl (fun j => nI (ar j)))), (aC2, .inl (cI, 21092, .inl (fun j => nI (sz j)))), (aC3, .inl (cI, 21092, .inl (fun j => nI (lv j)))), (aC4, .inl (cI, 21092, .inl (fun j => nI (wh j))))]) ∨ ((q % 2 = 0) ∧ (w = x) ∧ (q < 601) ∧ r = (nI 1) ∧ u = [(aU, .inr (6, [.ref aC, .ref aU0, .ref aU1, .ref aU2, .ref aU3, .ref aU4, .int (nI (q + 1)), .int (nI x), .int (nI ma), .int (nI fr0), .int (nI ed)])), (aU0, .inl (cI, 602, .inl (fun j => nI ((updN (updN at0 q (at0 q + sz z)) (q + 1) (ma + ar z)) j)))), (aU1, .inl (cI, 602, .inl (fun j => nI ((updN sp0 (q + 1) ((ma + ar z) + sz (ma + ar z))) j)))), (aU2, .inl (cI, 602, .inl (fun j => nI ((updN bs0 (q + 1) (lv (ma + ar z))) j)))), (aU3, .inl (cI, 602, .inl (upd sh0 (q + 1) (nI l1 - nI (lv (ma + ar z)))))), (aU4, .inl (cI, 602, .inl (fun j => nI ((updN cl0 (q + 1) z) j)))), (aC, .inr (1, [.ref aC0, .ref aC1, .ref aC2, .ref aC3, .ref aC4])), (aC0, .inl (cI, 21092, .inl hd)), (aC1, .inl (cI, 21092, .inl (fun j => nI (ar j)))), (aC2, .inl (cI, 21092, .inl (fun j => nI (sz j)))), (aC3, .inl (cI, 21092, .inl (fun j => nI (lv j)))), (aC4, .inl (cI, 21092, .inl (fun j => nI (wh j))))]) ∨ ((q % 2 = 1) ∧ (x ≤ w) ∧ (w < bs0 q) ∧ (q < 601) ∧ r = (nI 1) ∧ u = [(aU, .inr (6, [.ref aC, .ref aU0, .ref aU1, .ref aU2, .ref aU3, .ref aU4, .int (nI (q + 1)), .int (nI x), .int (nI ma), .int (nI fr0), .int (nI ed)])), (aU0, .inl (cI, 602, .inl (fun j => nI ((updN (updN at0 q (at0 q + sz z)) (q + 1) (argp sz (cl0 q) (w - x))) j)))), (aU1, .inl (cI, 602, .inl (fun j => nI ((updN sp0 (q + 1) ((argp sz (cl0 q) (w - x)) + sz (argp sz (cl0 q) (w - x)))) j)))), (aU2, .inl (cI, 602, .inl (fun j => nI ((updN bs0 (q + 1) (lv (argp sz (cl0 q) (w - x)))) j)))), (aU3, .inl (cI, 602, .inl (upd sh0 (q + 1) (nI l1 - nI (lv (argp sz (cl0 q) (w - x))))))), (aU4, .inl (cI, 602, .inl (fun j => nI (cl0 j)))), (aC, .inr (1, [.ref aC0, .ref aC1, .ref aC2, .ref aC3, .ref aC4])), (aC0, .inl (cI, 21092, .inl hd)), (aC1, .inl (cI, 21092, .inl (fun j => nI (ar j)))), (aC2, .inl (cI, 21092, .inl (fun j => nI (sz j)))), (aC3, .inl (cI, 21092, .inl (fun j => nI (lv j)))), (aC4, .inl (cI, 21092, .inl (fun j => nI (wh j))))])) := by
  refine met_i (own := "ProofReader$Putter") (by decide) rfl (Nat.le_of_ble_eq_true rfl) ?_
  intro p e s m args below meth c A Q S hA ret ls hl hW
  have hl : lv_has ls 7 [(0, .ref aU), (1, .int (nI z))] := hl
  have hW : Wd D (tyl cI cJ cB cZ) A s s.heap s.heap [] [(aU, .inr (6, [.ref aC, .ref aU0, .ref aU1, .ref aU2, .ref aU3, .ref aU4, .int (nI q), .int (nI x), .int (nI ma), .int (nI fr0), .int (nI ed)])), (aU0, .inl (cI, 602, .inl (fun j => nI (at0 j)))), (aU1, .inl (cI, 602, .inl (fun j => nI (sp0 j)))), (aU2, .inl (cI, 602, .inl (fun j => nI (bs0 j)))), (aU3, .inl (cI, 602, .inl sh0)), (aU4, .inl (cI, 602, .inl (fun j => nI (cl0 j)))), (aC, .inr (1, [.ref aC0, .ref aC1, .ref aC2, .ref aC3, .ref aC4])), (aC0, .inl (cI, 21092, .inl hd)), (aC1, .inl (cI, 21092, .inl (fun j => nI (ar j)))), (aC2, .inl (cI, 21092, .inl (fun j => nI (sz j)))), (aC3, .inl (cI, 21092, .inl (fun j => nI (lv j)))), (aC4, .inl (cI, 21092, .inl (fun j => nI (wh j))))] := hW
  refine lv_aload_n S.1 S.2.1 d_U_step_0 rfl (lv_at hl 0 rfl) ?_
  refine g_get i_U S hW 0 rfl rfl 0 (by decide) kf_U_43 rfl d_U_step_1 ?_
  refine g_get i_C S hW 6 rfl rfl 0 (by decide) kf_U_75 rfl d_U_step_4 ?_
  refine lv_iload_n S.1 S.2.1 d_U_step_7 rfl (lv_at hl 1 rfl) ?_
  refine n_iald S hW 7 0 rfl rfl (by decide) (by omega) d_U_step_8 ?_
  refine top_eq (y := (nI (48 + w))) hh ?_
  refine lv_bipush (v := (nI 48)) S.1 S.2.1 d_U_step_9 (by decide) ?_
  refine n_isub S (by omega) d_U_step_11 ?_
  refine top_eq (y := (nI w)) (congrArg nI (by omega)) ?_
  refine lv_istore_n (lv' := [(2, .int (nI w)), (0, .ref aU), (1, .int (nI z))]) S.1 S.2.1 d_U_step_12 rfl hl (by decide) rfl (fun ls hl => ?_)
  refine lv_aload_n S.1 S.2.1 d_U_step_13 rfl (lv_at hl 1 rfl) ?_
  refine g_get i_U S hW 0 rfl rfl 0 (by decide) kf_U_43 rfl d_U_step_14 ?_
  refine g_get i_C S hW 6 rfl rfl 3 (by decide) kf_U_47 rfl d_U_step_17 ?_
  refine lv_iload_n S.1 S.2.1 d_U_step_20 rfl (lv_at hl 2 rfl) ?_
  refine n_iald S hW 10 0 rfl rfl (by decide) (by omega) d_U_step_21 ?_
  refine top_eq (y := nI (lv z)) rfl ?_
  refine lv_aload_n S.1 S.2.1 d_U_step_22 rfl (lv_at hl 1 rfl) ?_
  refine g_get i_U S hW 0 rfl rfl 4 (by decide) kf_U_21 rfl d_U_step_23 ?_
  refine lv_aload_n S.1 S.2.1 d_U_step_26 rfl (lv_at hl 1 rfl) ?_
  refine g_get i_U S hW 0 rfl rfl 6 (by decide) kf_U_27 rfl d_U_step_27 ?_
  refine n_iald S hW 4 0 rfl rfl (by decide) (by omega) d_U_step_30 ?_
  refine lv_iadd S.1 S.2.1 d_U_step_31 ?_
  refine top_eq (y := (nI l1)) hl1 ?_
  refine lv_istore_n (lv' := [(3, .int (nI l1)), (2, .int (nI w)), (0, .ref aU), (1, .int (nI z))]) S.1 S.2.1 d_U_step_32 rfl hl (by decide) rfl (fun ls hl => ?_)
  refine lv_aload_n S.1 S.2.1 d_U_step_33 rfl (lv_at hl 2 rfl) ?_
  refine g_get i_U S hW 0 rfl rfl 6 (by decide) kf_U_27 rfl d_U_step_34 ?_
  refine lv_iconst (v := (nI 2)) S.1 S.2.1 d_U_step_37 (by decide) ?_
  refine lv_irem S.1 S.2.1 d_U_step_38 (by decide) ?_
  refine top_eq (y := (nI (q % 2))) (pk_rem (by omega) (by omega) (by omega)) ?_
  refine n_if_ne (tgt := 46) S (by omega) d_U_step_39 (by decide) (fun c_39 => ?_) (fun c_39 => ?_)
  · refine lv_iconst (v := (nI 0)) S.1 S.2.1 d_U_step_46 (by decide) ?_
    refine lv_istore (lv' := [(4, .int (nI 0)), (3, .int (nI l1)), (2, .int (nI w)), (0, .ref aU), (1, .int (nI z))]) S.1 S.2.1 d_U_step_47 hl (by decide) rfl (fun ls hl => ?_)
    refine lv_iload S.1 S.2.1 d_U_step_49 (lv_at hl 0 rfl) ?_
    refine lv_if_eq (tgt := 70) S.1 S.2.1 d_U_step_51 (by decide) (fun _ => ?_) (fun h => absurd h (by decide))
    refine lv_iload_n S.1 S.2.1 d_U_step_70 rfl (lv_at hl 2 rfl) ?_
    refine lv_aload_n S.1 S.2.1 d_U_step_71 rfl (lv_at hl 3 rfl) ?_
    refine g_get i_U S hW 0 rfl rfl 7 (by decide) kf_U_31 rfl d_U_step_72 ?_
    refine n_icmp_lt (tgt := 95) S (by omega) (by omega) d_U_step_75 (by decide) (fun c_75 => ?_) (fun c_75 => ?_)
    · refine lv_iconst (v := (nI 0)) S.1 S.2.1 d_U_step_95 (by decide) ?_
      refine lv_istore (lv' := [(5, .int (nI 0)), (4, .int (nI 0)), (3, .int (nI l1)), (2, .int (nI w)), (0, .ref aU), (1, .int (nI z))]) S.1 S.2.1 d_U_step_96 hl (by decide) rfl (fun ls hl => ?_)
      refine lv_iload S.1 S.2.1 d_U_step_98 (lv_at hl 0 rfl) ?_
      refine lv_if_eq (tgt := 118) S.1 S.2.1 d_U_step_100 (by decide) (fun _ => ?_) (fun h => absurd h (by decide))
      refine lv_aload_n S.1 S.2.1 d_U_step_118 rfl (lv_at hl 4 rfl) ?_
      refine g_get i_U S hW 0 rfl rfl 10 (by decide) kf_U_40 rfl d_U_step_119 ?_
      refine lv_aload_n S.1 S.2.1 d_U_step_122 rfl (lv_at hl 4 rfl) ?_
      refine g_get i_U S hW 0 rfl rfl 9 (by decide) kf_U_37 rfl d_U_step_123 ?_
      refine n_isub S (by omega) d_U_step_126 ?_
      refine lv_sipush (v := (nI 300)) S.1 S.2.1 d_U_step_127 (by decide) ?_
      refine n_icmp_lt (tgt := 135) S (by omega) (by omega) d_U_step_130 (by decide) (fun c_130 => ?_) (fun c_130 => ?_)
      · refine lv_iload S.1 S.2.1 d_U_step_135 (lv_at hl 0 rfl) ?_
        refine lv_if_ne (tgt := 225) S.1 S.2.1 d_U_step_137 (by decide) (fun h => absurd h (by decide)) (fun _ => ?_)
        refine lv_iload_n S.1 S.2.1 d_U_step_140 rfl (lv_at hl 3 rfl) ?_
        refine lv_aload_n S.1 S.2.1 d_U_step_141 rfl (lv_at hl 4 rfl) ?_
        refine g_get i_U S hW 0 rfl rfl 7 (by decide) kf_U_31 rfl d_U_step_142 ?_
        refine n_icmp_ge (tgt := 160) S (by omega) (by omega) d_U_step_145 (by decide) (fun c_145 => ?_) (fun c_145 => ?_)
        · refine lv_aload_n S.1 S.2.1 d_U_step_160 rfl (lv_at hl 4 rfl) ?_
          refine g_get i_U S hW 0 rfl rfl 0 (by decide) kf_U_43 rfl d_U_step_161 ?_
          refine g_get i_C S hW 6 rfl rfl 0 (by decide) kf_U_75 rfl d_U_step_164 ?_
          refine lv_iload_n S.1 S.2.1 d_U_step_167 rfl (lv_at hl 5 rfl) ?_
          refine n_iald S hW 7 0 rfl rfl (by decide) (by omega) d_U_step_168 ?_
          refine lv_aload_n S.1 S.2.1 d_U_step_169 rfl (lv_at hl 4 rfl) ?_
          refine lv_iload_n S.1 S.2.1 d_U_step_170 rfl (lv_at hl 3 rfl) ?_
          refine callV_i (wr := [(aU0, .inl (cI, 602, .inl (fun j => nI (at0 j)))), (aU1, .inl (cI, 602, .inl (fun j => nI (sp0 j)))), (aU4, .inl (cI, 602, .inl (fun j => nI (cl0 j)))), (aC, .inr (1, [.ref aC0, .ref aC1, .ref aC2, .ref aC3, .ref aC4])), (aC0, .inl (cI, 21092, .inl hd)), (aC1, .inl (cI, 21092, .inl (fun j => nI (ar j)))), (aC2, .inl (cI, 21092, .inl (fun j => nI (sz j)))), (aC3, .inl (cI, 21092, .inl (fun j => nI (lv j)))), (aC4, .inl (cI, 21092, .inl (fun j => nI (wh j))))]) (wc := [(aU, .inr (6, [.ref aC, .ref aU0, .ref aU1, .ref aU2, .ref aU3, .ref aU4, .int (nI q), .int (nI x), .int (nI ma), .int (nI fr0), .int (nI ed)])), (aU2, .inl (cI, 602, .inl (fun j => nI (bs0 j)))), (aU3, .inl (cI, 602, .inl sh0))]) (np := 1) (As := [.int (nI w)]) (rest := [.int (hd z)]) (c_U_shiftOf l D cI cJ cB cZ aU aU0 aU1 aU2 aU3 aU4 aC bs0 sh0 (nI x) (nI ma) (nI fr0) (nI ed) q w hq (by omega) hb) km_U_78 ki_U_shiftOf kv_U_shiftOf kz_U kk_U_shiftOf (by decide +kernel) S hW hA ⟨Nat.le_of_ble_eq_true rfl, Nat.le_of_ble_eq_true rfl⟩ ⟨Nat.le_of_ble_eq_true rfl, Nat.le_of_ble_eq_true rfl⟩ rfl 0 rfl [0, 3, 4] [1, 2, 5, 6, 7, 8, 9, 10, 11] rfl (by decide) rfl (by decide) (by decide) rfl hl.1 rfl (Nat.le_of_ble_eq_true rfl) d_U_step_171 (fun r u H locs hp hW => ?_)
          obtain ⟨rfl, rfl⟩ := hp
          have hW : Wd D (tyl cI cJ cB cZ) A s s.heap H locs [(aU, .inr (6, [.ref aC, .ref aU0, .ref aU1, .ref aU2, .ref aU3, .ref aU4, .int (nI q), .int (nI x), .int (nI ma), .int (nI fr0), .int (nI ed)])), (aU0, .inl (cI, 602, .inl (fun j => nI (at0 j)))), (aU1, .inl (cI, 602, .inl (fun j => nI (sp0 j)))), (aU2, .inl (cI, 602, .inl (fun j => nI (bs0 j)))), (aU3, .inl (cI, 602, .inl sh0)), (aU4, .inl (cI, 602, .inl (fun j => nI (cl0 j)))), (aC, .inr (1, [.ref aC0, .ref aC1, .ref aC2, .ref aC3, .ref aC4])), (aC0, .inl (cI, 21092, .inl hd)), (aC1, .inl (cI, 21092, .inl (fun j => nI (ar j)))), (aC2, .inl (cI, 21092, .inl (fun j => nI (sz j)))), (aC3, .inl (cI, 21092, .inl (fun j => nI (lv j)))), (aC4, .inl (cI, 21092, .inl (fun j => nI (wh j))))] := hW.sub [9, 0, 1, 10, 11, 2, 3, 4, 5, 6, 7, 8] (by decide) rfl
          refine lv_iadd S.1 S.2.1 d_U_step_174 ?_
          refine lv_istore (lv' := [(6, .int ((hd z) + (sh0 (sfr bs0 w q)))), (5, .int (nI 0)), (4, .int (nI 0)), (3, .int (nI l1)), (2, .int (nI w)), (0, .ref aU), (1, .int (nI z))]) S.1 S.2.1 d_U_step_175 hl (by decide) rfl (fun ls hl => ?_)
          refine lv_aload_n S.1 S.2.1 d_U_step_177 rfl (lv_at hl 5 rfl) ?_
          refine g_get i_U S hW 0 rfl rfl 0 (by decide) kf_U_43 rfl d_U_step_178 ?_
          refine lv_aload_n S.1 S.2.1 d_U_step_181 rfl (lv_at hl 5 rfl) ?_
          refine g_get i_U S hW 0 rfl rfl 10 (by decide) kf_U_40 rfl d_U_step_182 ?_
          refine lv_iload S.1 S.2.1 d_U_step_185 (lv_at hl 0 rfl) ?_
          refine lv_aload_n S.1 S.2.1 d_U_step_187 rfl (lv_at hl 5 rfl) ?_
          refine g_get i_U S hW 0 rfl rfl 0 (by decide) kf_U_43 rfl d_U_step_188 ?_
          refine g_get i_C S hW 6 rfl rfl 1 (by decide) kf_U_81 rfl d_U_step_191 ?_
          refine lv_iload_n S.1 S.2.1 d_U_step_194 rfl (lv_at hl 6 rfl) ?_
          refine n_iald S hW 8 0 rfl rfl (by decide) (by omega) d_U_step_195 ?_
          refine top_eq (y := nI (ar z)) rfl ?_
          refine lv_iload_n S.1 S.2.1 d_U_step_196 rfl (lv_at hl 3 rfl) ?_
          refine callV_v (wr := [(aU, .inr (6, [.ref aC, .ref aU0, .ref aU1, .ref aU2, .ref aU3, .ref aU4, .int (nI q), .int (nI x), .int (nI ma), .int (nI fr0), .int (nI ed)])), (aU0, .inl (cI, 602, .inl (fun j => nI (at0 j)))), (aU1, .inl (cI, 602, .inl (fun j => nI (sp0 j)))), (aU2, .inl (cI, 602, .inl (fun j => nI (bs0 j)))), (aU3, .inl (cI, 602, .inl sh0)), (aU4, .inl (cI, 602, .inl (fun j => nI (cl0 j))))]) (wc := [(aC, .inr (1, [.ref aC0, .ref aC1, .ref aC2, .ref aC3, .ref aC4])), (aC0, .inl (cI, 21092, .inl hd)), (aC1, .inl (cI, 21092, .inl (fun j => nI (ar j)))), (aC2, .inl (cI, 21092, .inl (fun j => nI (sz j)))), (aC3, .inl (cI, 21092, .inl (fun j => nI (lv j)))), (aC4, .inl (cI, 21092, .inl (fun j => nI (wh j))))]) (np := 4) (As := [.int (nI ed), .int ((hd z) + (sh0 (sfr bs0 w q))), .int (nI (ar z)), .int (nI l1)]) (rest := []) (c_C_write l D cI cJ cB cZ aC aC0 aC1 aC2 aC3 aC4 hd ar sz lv wh ed (ar z) l1 ((hd z) + (sh0 (sfr bs0 w q))) hed) km_U_84 ki_C_write kv_C_write kz_C kk_C_write (by decide +kernel) S hW hA ⟨Nat.le_of_ble_eq_true rfl, Nat.le_of_ble_eq_true rfl⟩ ⟨Nat.le_of_ble_eq_true rfl, Nat.le_of_ble_eq_true rfl⟩ rfl 0 rfl [6, 7, 8, 9, 10, 11] [0, 1, 2, 3, 4, 5] rfl (by decide) rfl (by decide) (by decide) rfl hl.1 rfl (Nat.le_of_ble_eq_true rfl) d_U_step_197 (fun u H locs hp hW => ?_)
          obtain rfl := hp
          have hW : Wd D (tyl cI cJ cB cZ) A s s.heap H locs [(aU, .inr (6, [.ref aC, .ref aU0, .ref aU1, .ref aU2, .ref aU3, .ref aU4, .int (nI q), .int (nI x), .int (nI ma), .int (nI fr0), .int (nI ed)])), (aU0, .inl (cI, 602, .inl (fun j => nI (at0 j)))), (aU1, .inl (cI, 602, .inl (fun j => nI (sp0 j)))), (aU2, .inl (cI, 602, .inl (fun j => nI (bs0 j)))), (aU3, .inl (cI, 602, .inl sh0)), (aU4, .inl (cI, 602, .inl (fun j => nI (cl0 j)))), (aC, .inr (1, [.ref aC0, .ref aC1, .ref aC2, .ref aC3, .ref aC4])), (aC0, .inl (cI, 21092, .inl (upd hd ed ((hd z) + (sh0 (sfr bs0 w q)))))), (aC1, .inl (cI, 21092, .inl (fun j => nI ((updN ar ed (ar z)) j)))), (aC2, .inl (cI, 21092, .inl (fun j => nI ((updN sz ed 1) j)))), (aC3, .inl (cI, 21092, .inl (fun j => nI ((updN lv ed l1) j)))), (aC4, .inl (cI, 21092, .inl (fun j => nI (wh j))))] := hW
          refine lv_aload_n S.1 S.2.1 d_U_step_200 rfl (lv_at hl 5 rfl) ?_
          refine lv_dup S.1 S.2.1 d_U_step_201 rfl ?_
          refine g_get i_U S hW 0 rfl rfl 10 (by decide) kf_U_40 rfl d_U_step_202 ?_
          refine lv_iconst (v := (nI 1)) S.1 S.2.1 d_U_step_205 (by decide) ?_
          refine n_iadd S d_U_step_206 ?_
          refine g_put (ws2 := [(aU, .inr (6, [.ref aC, .ref aU0, .ref aU1, .ref aU2, .ref aU3, .ref aU4, .int (nI q), .int (nI x), .int (nI ma), .int (nI fr0), .int (nI (ed + 1))])), (aU0, .inl (cI, 602, .inl (fun j => nI (at0 j)))), (aU1, .inl (cI, 602, .inl (fun j => nI (sp0 j)))), (aU2, .inl (cI, 602, .inl (fun j => nI (bs0 j)))), (aU3, .inl (cI, 602, .inl sh0)), (aU4, .inl (cI, 602, .inl (fun j => nI (cl0 j)))), (aC, .inr (1, [.ref aC0, .ref aC1, .ref aC2, .ref aC3, .ref aC4])), (aC0, .inl (cI, 21092, .inl (upd hd ed ((hd z) + (sh0 (sfr bs0 w q)))))), (aC1, .inl (cI, 21092, .inl (fun j => nI ((updN ar ed (ar z)) j)))), (aC2, .inl (cI, 21092, .inl (fun j => nI ((updN sz ed 1) j)))), (aC3, .inl (cI, 21092, .inl (fun j => nI ((updN lv ed l1) j)))), (aC4, .inl (cI, 21092, .inl (fun j => nI (wh j))))]) i_U ft_U ft_U_ok n_U S hW 0 rfl rfl 10 (by decide) kf_U_40 rfl rfl rfl (Nat.le_of_ble_eq_true rfl) rfl d_U_step_207 (fun H locs hW => ?_)
          refine lv_aload_n S.1 S.2.1 d_U_step_210 rfl (lv_at hl 5 rfl) ?_
          refine g_get i_U S hW 0 rfl rfl 1 (by decide) kf_U_11 rfl d_U_step_211 ?_
          refine lv_aload_n S.1 S.2.1 d_U_step_214 rfl (lv_at hl 5 rfl) ?_
          refine g_get i_U S hW 0 rfl rfl 6 (by decide) kf_U_27 rfl d_U_step_215 ?_
          refine lv_dup2_11 S.1 S.2.1 d_U_step_218 rfl rfl ?_
          refine n_iald S hW 1 0 rfl rfl (by decide) (by omega) d_U_step_219 ?_
          refine top_eq (y := nI (at0 q)) rfl ?_
          refine lv_iconst (v := (nI 1)) S.1 S.2.1 d_U_step_220 (by decide) ?_
          refine n_iadd S d_U_step_221 ?_
          refine n_iast (ws2 := [(aU, .inr (6, [.ref aC, .ref aU0, .ref aU1, .ref aU2, .ref aU3, .ref aU4, .int (nI q), .int (nI x), .int (nI ma), .int (nI fr0), .int (nI (ed + 1))])), (aU0, .inl (cI, 602, .inl (upd (fun j => nI (at0 j)) q (nI ((at0 q) + 1))))), (aU1, .inl (cI, 602, .inl (fun j => nI (sp0 j)))), (aU2, .inl (cI, 602, .inl (fun j => nI (bs0 j)))), (aU3, .inl (cI, 602, .inl sh0)), (aU4, .inl (cI, 602, .inl (fun j => nI (cl0 j)))), (aC, .inr (1, [.ref aC0, .ref aC1, .ref aC2, .ref aC3, .ref aC4])), (aC0, .inl (cI, 21092, .inl (upd hd ed ((hd z) + (sh0 (sfr bs0 w q)))))), (aC1, .inl (cI, 21092, .inl (fun j => nI ((updN ar ed (ar z)) j)))), (aC2, .inl (cI, 21092, .inl (fun j => nI ((updN sz ed 1) j)))), (aC3, .inl (cI, 21092, .inl (fun j => nI ((updN lv ed l1) j)))), (aC4, .inl (cI, 21092, .inl (fun j => nI (wh j))))]) S hW 1 0 rfl rfl (by decide) (by omega) rfl d_U_step_222 (fun H locs hW => ?_)
          have hW : Wd D (tyl cI cJ cB cZ) A s s.heap H locs [(aU, .inr (6, [.ref aC, .ref aU0, .ref aU1, .ref aU2, .ref aU3, .ref aU4, .int (nI q), .int (nI x), .int (nI ma), .int (nI fr0), .int (nI (ed + 1))])), (aU0, .inl (cI, 602, .inl (fun j => nI (updN at0 q ((at0 q) + 1) j)))), (aU1, .inl (cI, 602, .inl (fun j => nI (sp0 j)))), (aU2, .inl (cI, 602, .inl (fun j => nI (bs0 j)))), (aU3, .inl (cI, 602, .inl sh0)), (aU4, .inl (cI, 602, .inl (fun j => nI (cl0 j)))), (aC, .inr (1, [.ref aC0, .ref aC1, .ref aC2, .ref aC3, .ref aC4])), (aC0, .inl (cI, 21092, .inl (upd hd ed ((hd z) + (sh0 (sfr bs0 w q)))))), (aC1, .inl (cI, 21092, .inl (fun j => nI ((updN ar ed (ar z)) j)))), (aC2, .inl (cI, 21092, .inl (fun j => nI ((updN sz ed 1) j)))), (aC3, .inl (cI, 21092, .inl (fun j => nI ((updN lv ed l1) j)))), (aC4, .inl (cI, 21092, .inl (fun j => nI (wh j))))] := by have q := hW; rw [nI_upd] at q; exact q
          refine lv_iconst (v := (nI 1)) S.1 S.2.1 d_U_step_223 (by decide) ?_
          exact ret _ _ _ _ _ _ d_U_step_224 rfl (by first | exact (Or.inl ⟨c_145, c_130, rfl, rfl⟩) | exact (Or.inr (Or.inl ⟨c_145, (by omega), c_130, rfl, rfl⟩))) hW
        · refine lv_aload_n S.1 S.2.1 d_U_step_148 rfl (lv_at hl 4 rfl) ?_
          refine g_get i_U S hW 0 rfl rfl 0 (by decide) kf_U_43 rfl d_U_step_149 ?_
          refine g_get i_C S hW 6 rfl rfl 0 (by decide) kf_U_75 rfl d_U_step_152 ?_
          refine lv_iload_n S.1 S.2.1 d_U_step_155 rfl (lv_at hl 5 rfl) ?_
          refine n_iald S hW 7 0 rfl rfl (by decide) (by omega) d_U_step_156 ?_
          refine lv_goto (tgt := 175) S.1 S.2.1 d_U_step_157 (by decide) ?_
          refine lv_istore (lv' := [(6, .int (hd z)), (5, .int (nI 0)), (4, .int (nI 0)), (3, .int (nI l1)), (2, .int (nI w)), (0, .ref aU), (1, .int (nI z))]) S.1 S.2.1 d_U_step_175 hl (by decide) rfl (fun ls hl => ?_)
          refine lv_aload_n S.1 S.2.1 d_U_step_177 rfl (lv_at hl 5 rfl) ?_
          refine g_get i_U S hW 0 rfl rfl 0 (by decide) kf_U_43 rfl d_U_step_178 ?_
          refine lv_aload_n S.1 S.2.1 d_U_step_181 rfl (lv_at hl 5 rfl) ?_
          refine g_get i_U S hW 0 rfl rfl 10 (by decide) kf_U_40 rfl d_U_step_182 ?_
          refine lv_iload S.1 S.2.1 d_U_step_185 (lv_at hl 0 rfl) ?_
          refine lv_aload_n S.1 S.2.1 d_U_step_187 rfl (lv_at hl 5 rfl) ?_
          refine g_get i_U S hW 0 rfl rfl 0 (by decide) kf_U_43 rfl d_U_step_188 ?_
          refine g_get i_C S hW 6 rfl rfl 1 (by decide) kf_U_81 rfl d_U_step_191 ?_
          refine lv_iload_n S.1 S.2.1 d_U_step_194 rfl (lv_at hl 6 rfl) ?_
          refine n_iald S hW 8 0 rfl rfl (by decide) (by omega) d_U_step_195 ?_
          refine top_eq (y := nI (ar z)) rfl ?_
          refine lv_iload_n S.1 S.2.1 d_U_step_196 rfl (lv_at hl 3 rfl) ?_
          refine callV_v (wr := [(aU, .inr (6, [.ref aC, .ref aU0, .ref aU1, .ref aU2, .ref aU3, .ref aU4, .int (nI q), .int (nI x), .int (nI ma), .int (nI fr0), .int (nI ed)])), (aU0, .inl (cI, 602, .inl (fun j => nI (at0 j)))), (aU1, .inl (cI, 602, .inl (fun j => nI (sp0 j)))), (aU2, .inl (cI, 602, .inl (fun j => nI (bs0 j)))), (aU3, .inl (cI, 602, .inl sh0)), (aU4, .inl (cI, 602, .inl (fun j => nI (cl0 j))))]) (wc := [(aC, .inr (1, [.ref aC0, .ref aC1, .ref aC2, .ref aC3, .ref aC4])), (aC0, .inl (cI, 21092, .inl hd)), (aC1, .inl (cI, 21092, .inl (fun j => nI (ar j)))), (aC2, .inl (cI, 21092, .inl (fun j => nI (sz j)))), (aC3, .inl (cI, 21092, .inl (fun j => nI (lv j)))), (aC4, .inl (cI, 21092, .inl (fun j => nI (wh j))))]) (np := 4) (As := [.int (nI ed), .int (hd z), .int (nI (ar z)), .int (nI l1)]) (rest := []) (c_C_write l D cI cJ cB cZ aC aC0 aC1 aC2 aC3 aC4 hd ar sz lv wh ed (ar z) l1 (hd z) hed) km_U_84 ki_C_write kv_C_write kz_C kk_C_write (by decide +kernel) S hW hA ⟨Nat.le_of_ble_eq_true rfl, Nat.le_of_ble_eq_true rfl⟩ ⟨Nat.le_of_ble_eq_true rfl, Nat.le_of_ble_eq_true rfl⟩ rfl 0 rfl [6, 7, 8, 9, 10, 11] [0, 1, 2, 3, 4, 5] rfl (by decide) rfl (by decide) (by decide) rfl hl.1 rfl (Nat.le_of_ble_eq_true rfl) d_U_step_197 (fun u H locs hp hW => ?_)
          obtain rfl := hp
          have hW : Wd D (tyl cI cJ cB cZ) A s s.heap H locs [(aU, .inr (6, [.ref aC, .ref aU0, .ref aU1, .ref aU2, .ref aU3, .ref aU4, .int (nI q), .int (nI x), .int (nI ma), .int (nI fr0), .int (nI ed)])), (aU0, .inl (cI, 602, .inl (fun j => nI (at0 j)))), (aU1, .inl (cI, 602, .inl (fun j => nI (sp0 j)))), (aU2, .inl (cI, 602, .inl (fun j => nI (bs0 j)))), (aU3, .inl (cI, 602, .inl sh0)), (aU4, .inl (cI, 602, .inl (fun j => nI (cl0 j)))), (aC, .inr (1, [.ref aC0, .ref aC1, .ref aC2, .ref aC3, .ref aC4])), (aC0, .inl (cI, 21092, .inl (upd hd ed (hd z)))), (aC1, .inl (cI, 21092, .inl (fun j => nI ((updN ar ed (ar z)) j)))), (aC2, .inl (cI, 21092, .inl (fun j => nI ((updN sz ed 1) j)))), (aC3, .inl (cI, 21092, .inl (fun j => nI ((updN lv ed l1) j)))), (aC4, .inl (cI, 21092, .inl (fun j => nI (wh j))))] := hW
          refine lv_aload_n S.1 S.2.1 d_U_step_200 rfl (lv_at hl 5 rfl) ?_
          refine lv_dup S.1 S.2.1 d_U_step_201 rfl ?_
          refine g_get i_U S hW 0 rfl rfl 10 (by decide) kf_U_40 rfl d_U_step_202 ?_
          refine lv_iconst (v := (nI 1)) S.1 S.2.1 d_U_step_205 (by decide) ?_
          refine n_iadd S d_U_step_206 ?_
          refine g_put (ws2 := [(aU, .inr (6, [.ref aC, .ref aU0, .ref aU1, .ref aU2, .ref aU3, .ref aU4, .int (nI q), .int (nI x), .int (nI ma), .int (nI fr0), .int (nI (ed + 1))])), (aU0, .inl (cI, 602, .inl (fun j => nI (at0 j)))), (aU1, .inl (cI, 602, .inl (fun j => nI (sp0 j)))), (aU2, .inl (cI, 602, .inl (fun j => nI (bs0 j)))), (aU3, .inl (cI, 602, .inl sh0)), (aU4, .inl (cI, 602, .inl (fun j => nI (cl0 j)))), (aC, .inr (1, [.ref aC0, .ref aC1, .ref aC2, .ref aC3, .ref aC4])), (aC0, .inl (cI, 21092, .inl (upd hd ed (hd z)))), (aC1, .inl (cI, 21092, .inl (fun j => nI ((updN ar ed (ar z)) j)))), (aC2, .inl (cI, 21092, .inl (fun j => nI ((updN sz ed 1) j)))), (aC3, .inl (cI, 21092, .inl (fun j => nI ((updN lv ed l1) j)))), (aC4, .inl (cI, 21092, .inl (fun j => nI (wh j))))]) i_U ft_U ft_U_ok n_U S hW 0 rfl rfl 10 (by decide) kf_U_40 rfl rfl rfl (Nat.le_of_ble_eq_true rfl) rfl d_U_step_207 (fun H locs hW => ?_)
          refine lv_aload_n S.1 S.2.1 d_U_step_210 rfl (lv_at hl 5 rfl) ?_
          refine g_get i_U S hW 0 rfl rfl 1 (by decide) kf_U_11 rfl d_U_step_211 ?_
          refine lv_aload_n S.1 S.2.1 d_U_step_214 rfl (lv_at hl 5 rfl) ?_
          refine g_get i_U S hW 0 rfl rfl 6 (by decide) kf_U_27 rfl d_U_step_215 ?_
          refine lv_dup2_11 S.1 S.2.1 d_U_step_218 rfl rfl ?_
          refine n_iald S hW 1 0 rfl rfl (by decide) (by omega) d_U_step_219 ?_
          refine top_eq (y := nI (at0 q)) rfl ?_
          refine lv_iconst (v := (nI 1)) S.1 S.2.1 d_U_step_220 (by decide) ?_
          refine n_iadd S d_U_step_221 ?_
          refine n_iast (ws2 := [(aU, .inr (6, [.ref aC, .ref aU0, .ref aU1, .ref aU2, .ref aU3, .ref aU4, .int (nI q), .int (nI x), .int (nI ma), .int (nI fr0), .int (nI (ed + 1))])), (aU0, .inl (cI, 602, .inl (upd (fun j => nI (at0 j)) q (nI ((at0 q) + 1))))), (aU1, .inl (cI, 602, .inl (fun j => nI (sp0 j)))), (aU2, .inl (cI, 602, .inl (fun j => nI (bs0 j)))), (aU3, .inl (cI, 602, .inl sh0)), (aU4, .inl (cI, 602, .inl (fun j => nI (cl0 j)))), (aC, .inr (1, [.ref aC0, .ref aC1, .ref aC2, .ref aC3, .ref aC4])), (aC0, .inl (cI, 21092, .inl (upd hd ed (hd z)))), (aC1, .inl (cI, 21092, .inl (fun j => nI ((updN ar ed (ar z)) j)))), (aC2, .inl (cI, 21092, .inl (fun j => nI ((updN sz ed 1) j)))), (aC3, .inl (cI, 21092, .inl (fun j => nI ((updN lv ed l1) j)))), (aC4, .inl (cI, 21092, .inl (fun j => nI (wh j))))]) S hW 1 0 rfl rfl (by decide) (by omega) rfl d_U_step_222 (fun H locs hW => ?_)
          have hW : Wd D (tyl cI cJ cB cZ) A s s.heap H locs [(aU, .inr (6, [.ref aC, .ref aU0, .ref aU1, .ref aU2, .ref aU3, .ref aU4, .int (nI q), .int (nI x), .int (nI ma), .int (nI fr0), .int (nI (ed + 1))])), (aU0, .inl (cI, 602, .inl (fun j => nI (updN at0 q ((at0 q) + 1) j)))), (aU1, .inl (cI, 602, .inl (fun j => nI (sp0 j)))), (aU2, .inl (cI, 602, .inl (fun j => nI (bs0 j)))), (aU3, .inl (cI, 602, .inl sh0)), (aU4, .inl (cI, 602, .inl (fun j => nI (cl0 j)))), (aC, .inr (1, [.ref aC0, .ref aC1, .ref aC2, .ref aC3, .ref aC4])), (aC0, .inl (cI, 21092, .inl (upd hd ed (hd z)))), (aC1, .inl (cI, 21092, .inl (fun j => nI ((updN ar ed (ar z)) j)))), (aC2, .inl (cI, 21092, .inl (fun j => nI ((updN sz ed 1) j)))), (aC3, .inl (cI, 21092, .inl (fun j => nI ((updN lv ed l1) j)))), (aC4, .inl (cI, 21092, .inl (fun j => nI (wh j))))] := by have q := hW; rw [nI_upd] at q; exact q
          refine lv_iconst (v := (nI 1)) S.1 S.2.1 d_U_step_223 (by decide) ?_
          exact ret _ _ _ _ _ _ d_U_step_224 rfl (by first | exact (Or.inl ⟨c_145, c_130, rfl, rfl⟩) | exact (Or.inr (Or.inl ⟨c_145, (by omega), c_130, rfl, rfl⟩))) hW
      · refine lv_iconst (v := (nI 0)) S.1 S.2.1 d_U_step_133 (by decide) ?_
        exact ret _ _ _ _ _ _ d_U_step_134 rfl (Or.inr (Or.inr (Or.inl ⟨(by omega), (by omega), rfl, rfl⟩))) hW
    · refine lv_iload_n S.1 S.2.1 d_U_step_78 rfl (lv_at hl 2 rfl) ?_
      refine lv_aload_n S.1 S.2.1 d_U_step_79 rfl (lv_at hl 3 rfl) ?_
      refine g_get i_U S hW 0 rfl rfl 3 (by decide) kf_U_18 rfl d_U_step_80 ?_
      refine lv_aload_n S.1 S.2.1 d_U_step_83 rfl (lv_at hl 3 rfl) ?_
      refine g_get i_U S hW 0 rfl rfl 6 (by decide) kf_U_27 rfl d_U_step_84 ?_
      refine n_iald S hW 3 0 rfl rfl (by decide) (by omega) d_U_step_87 ?_
      refine top_eq (y := nI (bs0 q)) rfl ?_
      refine n_icmp_ge (tgt := 95) S (by omega) (hb _) d_U_step_88 (by decide) (fun c_88 => ?_) (fun c_88 => ?_)
      · refine lv_iconst (v := (nI 0)) S.1 S.2.1 d_U_step_95 (by decide) ?_
        refine lv_istore (lv' := [(5, .int (nI 0)), (4, .int (nI 0)), (3, .int (nI l1)), (2, .int (nI w)), (0, .ref aU), (1, .int (nI z))]) S.1 S.2.1 d_U_step_96 hl (by decide) rfl (fun ls hl => ?_)
        refine lv_iload S.1 S.2.1 d_U_step_98 (lv_at hl 0 rfl) ?_
        refine lv_if_eq (tgt := 118) S.1 S.2.1 d_U_step_100 (by decide) (fun _ => ?_) (fun h => absurd h (by decide))
        refine lv_aload_n S.1 S.2.1 d_U_step_118 rfl (lv_at hl 4 rfl) ?_
        refine g_get i_U S hW 0 rfl rfl 10 (by decide) kf_U_40 rfl d_U_step_119 ?_
        refine lv_aload_n S.1 S.2.1 d_U_step_122 rfl (lv_at hl 4 rfl) ?_
        refine g_get i_U S hW 0 rfl rfl 9 (by decide) kf_U_37 rfl d_U_step_123 ?_
        refine n_isub S (by omega) d_U_step_126 ?_
        refine lv_sipush (v := (nI 300)) S.1 S.2.1 d_U_step_127 (by decide) ?_
        refine n_icmp_lt (tgt := 135) S (by omega) (by omega) d_U_step_130 (by decide) (fun c_130 => ?_) (fun c_130 => ?_)
        · refine lv_iload S.1 S.2.1 d_U_step_135 (lv_at hl 0 rfl) ?_
          refine lv_if_ne (tgt := 225) S.1 S.2.1 d_U_step_137 (by decide) (fun h => absurd h (by decide)) (fun _ => ?_)
          refine lv_iload_n S.1 S.2.1 d_U_step_140 rfl (lv_at hl 3 rfl) ?_
          refine lv_aload_n S.1 S.2.1 d_U_step_141 rfl (lv_at hl 4 rfl) ?_
          refine g_get i_U S hW 0 rfl rfl 7 (by decide) kf_U_31 rfl d_U_step_142 ?_
          refine n_icmp_ge (tgt := 160) S (by omega) (by omega) d_U_step_145 (by decide) (fun c_145 => ?_) (fun c_145 => ?_)
          · refine lv_aload_n S.1 S.2.1 d_U_step_160 rfl (lv_at hl 4 rfl) ?_
            refine g_get i_U S hW 0 rfl rfl 0 (by decide) kf_U_43 rfl d_U_step_161 ?_
            refine g_get i_C S hW 6 rfl rfl 0 (by decide) kf_U_75 rfl d_U_step_164 ?_
            refine lv_iload_n S.1 S.2.1 d_U_step_167 rfl (lv_at hl 5 rfl) ?_
            refine n_iald S hW 7 0 rfl rfl (by decide) (by omega) d_U_step_168 ?_
            refine lv_aload_n S.1 S.2.1 d_U_step_169 rfl (lv_at hl 4 rfl) ?_
            refine lv_iload_n S.1 S.2.1 d_U_step_170 rfl (lv_at hl 3 rfl) ?_
            refine callV_i (wr := [(aU0, .inl (cI, 602, .inl (fun j => nI (at0 j)))), (aU1, .inl (cI, 602, .inl (fun j => nI (sp0 j)))), (aU4, .inl (cI, 602, .inl (fun j => nI (cl0 j)))), (aC, .inr (1, [.ref aC0, .ref aC1, .ref aC2, .ref aC3, .ref aC4])), (aC0, .inl (cI, 21092, .inl hd)), (aC1, .inl (cI, 21092, .inl (fun j => nI (ar j)))), (aC2, .inl (cI, 21092, .inl (fun j => nI (sz j)))), (aC3, .inl (cI, 21092, .inl (fun j => nI (lv j)))), (aC4, .inl (cI, 21092, .inl (fun j => nI (wh j))))]) (wc := [(aU, .inr (6, [.ref aC, .ref aU0, .ref aU1, .ref aU2, .ref aU3, .ref aU4, .int (nI q), .int (nI x), .int (nI ma), .int (nI fr0), .int (nI ed)])), (aU2, .inl (cI, 602, .inl (fun j => nI (bs0 j)))), (aU3, .inl (cI, 602, .inl sh0))]) (np := 1) (As := [.int (nI w)]) (rest := [.int (hd z)]) (c_U_shiftOf l D cI cJ cB cZ aU aU0 aU1 aU2 aU3 aU4 aC bs0 sh0 (nI x) (nI ma) (nI fr0) (nI ed) q w hq (by omega) hb) km_U_78 ki_U_shiftOf kv_U_shiftOf kz_U kk_U_shiftOf (by decide +kernel) S hW hA ⟨Nat.le_of_ble_eq_true rfl, Nat.le_of_ble_eq_true rfl⟩ ⟨Nat.le_of_ble_eq_true rfl, Nat.le_of_ble_eq_true rfl⟩ rfl 0 rfl [0, 3, 4] [1, 2, 5, 6, 7, 8, 9, 10, 11] rfl (by decide) rfl (by decide) (by decide) rfl hl.1 rfl (Nat.le_of_ble_eq_true rfl) d_U_step_171 (fun r u H locs hp hW => ?_)
            obtain ⟨rfl, rfl⟩ := hp
            have hW : Wd D (tyl cI cJ cB cZ) A s s.heap H locs [(aU, .inr (6, [.ref aC, .ref aU0, .ref aU1, .ref aU2, .ref aU3, .ref aU4, .int (nI q), .int (nI x), .int (nI ma), .int (nI fr0), .int (nI ed)])), (aU0, .inl (cI, 602, .inl (fun j => nI (at0 j)))), (aU1, .inl (cI, 602, .inl (fun j => nI (sp0 j)))), (aU2, .inl (cI, 602, .inl (fun j => nI (bs0 j)))), (aU3, .inl (cI, 602, .inl sh0)), (aU4, .inl (cI, 602, .inl (fun j => nI (cl0 j)))), (aC, .inr (1, [.ref aC0, .ref aC1, .ref aC2, .ref aC3, .ref aC4])), (aC0, .inl (cI, 21092, .inl hd)), (aC1, .inl (cI, 21092, .inl (fun j => nI (ar j)))), (aC2, .inl (cI, 21092, .inl (fun j => nI (sz j)))), (aC3, .inl (cI, 21092, .inl (fun j => nI (lv j)))), (aC4, .inl (cI, 21092, .inl (fun j => nI (wh j))))] := hW.sub [9, 0, 1, 10, 11, 2, 3, 4, 5, 6, 7, 8] (by decide) rfl
            refine lv_iadd S.1 S.2.1 d_U_step_174 ?_
            refine lv_istore (lv' := [(6, .int ((hd z) + (sh0 (sfr bs0 w q)))), (5, .int (nI 0)), (4, .int (nI 0)), (3, .int (nI l1)), (2, .int (nI w)), (0, .ref aU), (1, .int (nI z))]) S.1 S.2.1 d_U_step_175 hl (by decide) rfl (fun ls hl => ?_)
            refine lv_aload_n S.1 S.2.1 d_U_step_177 rfl (lv_at hl 5 rfl) ?_
            refine g_get i_U S hW 0 rfl rfl 0 (by decide) kf_U_43 rfl d_U_step_178 ?_
            refine lv_aload_n S.1 S.2.1 d_U_step_181 rfl (lv_at hl 5 rfl) ?_
            refine g_get i_U S hW 0 rfl rfl 10 (by decide) kf_U_40 rfl d_U_step_182 ?_
            refine lv_iload S.1 S.2.1 d_U_step_185 (lv_at hl 0 rfl) ?_
            refine lv_aload_n S.1 S.2.1 d_U_step_187 rfl (lv_at hl 5 rfl) ?_
            refine g_get i_U S hW 0 rfl rfl 0 (by decide) kf_U_43 rfl d_U_step_188 ?_
            refine g_get i_C S hW 6 rfl rfl 1 (by decide) kf_U_81 rfl d_U_step_191 ?_
            refine lv_iload_n S.1 S.2.1 d_U_step_194 rfl (lv_at hl 6 rfl) ?_
            refine n_iald S hW 8 0 rfl rfl (by decide) (by omega) d_U_step_195 ?_
            refine top_eq (y := nI (ar z)) rfl ?_
            refine lv_iload_n S.1 S.2.1 d_U_step_196 rfl (lv_at hl 3 rfl) ?_
            refine callV_v (wr := [(aU, .inr (6, [.ref aC, .ref aU0, .ref aU1, .ref aU2, .ref aU3, .ref aU4, .int (nI q), .int (nI x), .int (nI ma), .int (nI fr0), .int (nI ed)])), (aU0, .inl (cI, 602, .inl (fun j => nI (at0 j)))), (aU1, .inl (cI, 602, .inl (fun j => nI (sp0 j)))), (aU2, .inl (cI, 602, .inl (fun j => nI (bs0 j)))), (aU3, .inl (cI, 602, .inl sh0)), (aU4, .inl (cI, 602, .inl (fun j => nI (cl0 j))))]) (wc := [(aC, .inr (1, [.ref aC0, .ref aC1, .ref aC2, .ref aC3, .ref aC4])), (aC0, .inl (cI, 21092, .inl hd)), (aC1, .inl (cI, 21092, .inl (fun j => nI (ar j)))), (aC2, .inl (cI, 21092, .inl (fun j => nI (sz j)))), (aC3, .inl (cI, 21092, .inl (fun j => nI (lv j)))), (aC4, .inl (cI, 21092, .inl (fun j => nI (wh j))))]) (np := 4) (As := [.int (nI ed), .int ((hd z) + (sh0 (sfr bs0 w q))), .int (nI (ar z)), .int (nI l1)]) (rest := []) (c_C_write l D cI cJ cB cZ aC aC0 aC1 aC2 aC3 aC4 hd ar sz lv wh ed (ar z) l1 ((hd z) + (sh0 (sfr bs0 w q))) hed) km_U_84 ki_C_write kv_C_write kz_C kk_C_write (by decide +kernel) S hW hA ⟨Nat.le_of_ble_eq_true rfl, Nat.le_of_ble_eq_true rfl⟩ ⟨Nat.le_of_ble_eq_true rfl, Nat.le_of_ble_eq_true rfl⟩ rfl 0 rfl [6, 7, 8, 9, 10, 11] [0, 1, 2, 3, 4, 5] rfl (by decide) rfl (by decide) (by decide) rfl hl.1 rfl (Nat.le_of_ble_eq_true rfl) d_U_step_197 (fun u H locs hp hW => ?_)
            obtain rfl := hp
            have hW : Wd D (tyl cI cJ cB cZ) A s s.heap H locs [(aU, .inr (6, [.ref aC, .ref aU0, .ref aU1, .ref aU2, .ref aU3, .ref aU4, .int (nI q), .int (nI x), .int (nI ma), .int (nI fr0), .int (nI ed)])), (aU0, .inl (cI, 602, .inl (fun j => nI (at0 j)))), (aU1, .inl (cI, 602, .inl (fun j => nI (sp0 j)))), (aU2, .inl (cI, 602, .inl (fun j => nI (bs0 j)))), (aU3, .inl (cI, 602, .inl sh0)), (aU4, .inl (cI, 602, .inl (fun j => nI (cl0 j)))), (aC, .inr (1, [.ref aC0, .ref aC1, .ref aC2, .ref aC3, .ref aC4])), (aC0, .inl (cI, 21092, .inl (upd hd ed ((hd z) + (sh0 (sfr bs0 w q)))))), (aC1, .inl (cI, 21092, .inl (fun j => nI ((updN ar ed (ar z)) j)))), (aC2, .inl (cI, 21092, .inl (fun j => nI ((updN sz ed 1) j)))), (aC3, .inl (cI, 21092, .inl (fun j => nI ((updN lv ed l1) j)))), (aC4, .inl (cI, 21092, .inl (fun j => nI (wh j))))] := hW
            refine lv_aload_n S.1 S.2.1 d_U_step_200 rfl (lv_at hl 5 rfl) ?_
            refine lv_dup S.1 S.2.1 d_U_step_201 rfl ?_
            refine g_get i_U S hW 0 rfl rfl 10 (by decide) kf_U_40 rfl d_U_step_202 ?_
            refine lv_iconst (v := (nI 1)) S.1 S.2.1 d_U_step_205 (by decide) ?_
            refine n_iadd S d_U_step_206 ?_
            refine g_put (ws2 := [(aU, .inr (6, [.ref aC, .ref aU0, .ref aU1, .ref aU2, .ref aU3, .ref aU4, .int (nI q), .int (nI x), .int (nI ma), .int (nI fr0), .int (nI (ed + 1))])), (aU0, .inl (cI, 602, .inl (fun j => nI (at0 j)))), (aU1, .inl (cI, 602, .inl (fun j => nI (sp0 j)))), (aU2, .inl (cI, 602, .inl (fun j => nI (bs0 j)))), (aU3, .inl (cI, 602, .inl sh0)), (aU4, .inl (cI, 602, .inl (fun j => nI (cl0 j)))), (aC, .inr (1, [.ref aC0, .ref aC1, .ref aC2, .ref aC3, .ref aC4])), (aC0, .inl (cI, 21092, .inl (upd hd ed ((hd z) + (sh0 (sfr bs0 w q)))))), (aC1, .inl (cI, 21092, .inl (fun j => nI ((updN ar ed (ar z)) j)))), (aC2, .inl (cI, 21092, .inl (fun j => nI ((updN sz ed 1) j)))), (aC3, .inl (cI, 21092, .inl (fun j => nI ((updN lv ed l1) j)))), (aC4, .inl (cI, 21092, .inl (fun j => nI (wh j))))]) i_U ft_U ft_U_ok n_U S hW 0 rfl rfl 10 (by decide) kf_U_40 rfl rfl rfl (Nat.le_of_ble_eq_true rfl) rfl d_U_step_207 (fun H locs hW => ?_)
            refine lv_aload_n S.1 S.2.1 d_U_step_210 rfl (lv_at hl 5 rfl) ?_
            refine g_get i_U S hW 0 rfl rfl 1 (by decide) kf_U_11 rfl d_U_step_211 ?_
            refine lv_aload_n S.1 S.2.1 d_U_step_214 rfl (lv_at hl 5 rfl) ?_
            refine g_get i_U S hW 0 rfl rfl 6 (by decide) kf_U_27 rfl d_U_step_215 ?_
            refine lv_dup2_11 S.1 S.2.1 d_U_step_218 rfl rfl ?_
            refine n_iald S hW 1 0 rfl rfl (by decide) (by omega) d_U_step_219 ?_
            refine top_eq (y := nI (at0 q)) rfl ?_
            refine lv_iconst (v := (nI 1)) S.1 S.2.1 d_U_step_220 (by decide) ?_
            refine n_iadd S d_U_step_221 ?_
            refine n_iast (ws2 := [(aU, .inr (6, [.ref aC, .ref aU0, .ref aU1, .ref aU2, .ref aU3, .ref aU4, .int (nI q), .int (nI x), .int (nI ma), .int (nI fr0), .int (nI (ed + 1))])), (aU0, .inl (cI, 602, .inl (upd (fun j => nI (at0 j)) q (nI ((at0 q) + 1))))), (aU1, .inl (cI, 602, .inl (fun j => nI (sp0 j)))), (aU2, .inl (cI, 602, .inl (fun j => nI (bs0 j)))), (aU3, .inl (cI, 602, .inl sh0)), (aU4, .inl (cI, 602, .inl (fun j => nI (cl0 j)))), (aC, .inr (1, [.ref aC0, .ref aC1, .ref aC2, .ref aC3, .ref aC4])), (aC0, .inl (cI, 21092, .inl (upd hd ed ((hd z) + (sh0 (sfr bs0 w q)))))), (aC1, .inl (cI, 21092, .inl (fun j => nI ((updN ar ed (ar z)) j)))), (aC2, .inl (cI, 21092, .inl (fun j => nI ((updN sz ed 1) j)))), (aC3, .inl (cI, 21092, .inl (fun j => nI ((updN lv ed l1) j)))), (aC4, .inl (cI, 21092, .inl (fun j => nI (wh j))))]) S hW 1 0 rfl rfl (by decide) (by omega) rfl d_U_step_222 (fun H locs hW => ?_)
            have hW : Wd D (tyl cI cJ cB cZ) A s s.heap H locs [(aU, .inr (6, [.ref aC, .ref aU0, .ref aU1, .ref aU2, .ref aU3, .ref aU4, .int (nI q), .int (nI x), .int (nI ma), .int (nI fr0), .int (nI (ed + 1))])), (aU0, .inl (cI, 602, .inl (fun j => nI (updN at0 q ((at0 q) + 1) j)))), (aU1, .inl (cI, 602, .inl (fun j => nI (sp0 j)))), (aU2, .inl (cI, 602, .inl (fun j => nI (bs0 j)))), (aU3, .inl (cI, 602, .inl sh0)), (aU4, .inl (cI, 602, .inl (fun j => nI (cl0 j)))), (aC, .inr (1, [.ref aC0, .ref aC1, .ref aC2, .ref aC3, .ref aC4])), (aC0, .inl (cI, 21092, .inl (upd hd ed ((hd z) + (sh0 (sfr bs0 w q)))))), (aC1, .inl (cI, 21092, .inl (fun j => nI ((updN ar ed (ar z)) j)))), (aC2, .inl (cI, 21092, .inl (fun j => nI ((updN sz ed 1) j)))), (aC3, .inl (cI, 21092, .inl (fun j => nI ((updN lv ed l1) j)))), (aC4, .inl (cI, 21092, .inl (fun j => nI (wh j))))] := by have q := hW; rw [nI_upd] at q; exact q
            refine lv_iconst (v := (nI 1)) S.1 S.2.1 d_U_step_223 (by decide) ?_
            exact ret _ _ _ _ _ _ d_U_step_224 rfl (by first | exact (Or.inl ⟨c_145, c_130, rfl, rfl⟩) | exact (Or.inr (Or.inl ⟨c_145, (by omega), c_130, rfl, rfl⟩))) hW
          · refine lv_aload_n S.1 S.2.1 d_U_step_148 rfl (lv_at hl 4 rfl) ?_
            refine g_get i_U S hW 0 rfl rfl 0 (by decide) kf_U_43 rfl d_U_step_149 ?_
            refine g_get i_C S hW 6 rfl rfl 0 (by decide) kf_U_75 rfl d_U_step_152 ?_
            refine lv_iload_n S.1 S.2.1 d_U_step_155 rfl (lv_at hl 5 rfl) ?_
            refine n_iald S hW 7 0 rfl rfl (by decide) (by omega) d_U_step_156 ?_
            refine lv_goto (tgt := 175) S.1 S.2.1 d_U_step_157 (by decide) ?_
            refine lv_istore (lv' := [(6, .int (hd z)), (5, .int (nI 0)), (4, .int (nI 0)), (3, .int (nI l1)), (2, .int (nI w)), (0, .ref aU), (1, .int (nI z))]) S.1 S.2.1 d_U_step_175 hl (by decide) rfl (fun ls hl => ?_)
            refine lv_aload_n S.1 S.2.1 d_U_step_177 rfl (lv_at hl 5 rfl) ?_
            refine g_get i_U S hW 0 rfl rfl 0 (by decide) kf_U_43 rfl d_U_step_178 ?_
            refine lv_aload_n S.1 S.2.1 d_U_step_181 rfl (lv_at hl 5 rfl) ?_
            refine g_get i_U S hW 0 rfl rfl 10 (by decide) kf_U_40 rfl d_U_step_182 ?_
            refine lv_iload S.1 S.2.1 d_U_step_185 (lv_at hl 0 rfl) ?_
            refine lv_aload_n S.1 S.2.1 d_U_step_187 rfl (lv_at hl 5 rfl) ?_
            refine g_get i_U S hW 0 rfl rfl 0 (by decide) kf_U_43 rfl d_U_step_188 ?_
            refine g_get i_C S hW 6 rfl rfl 1 (by decide) kf_U_81 rfl d_U_step_191 ?_
            refine lv_iload_n S.1 S.2.1 d_U_step_194 rfl (lv_at hl 6 rfl) ?_
            refine n_iald S hW 8 0 rfl rfl (by decide) (by omega) d_U_step_195 ?_
            refine top_eq (y := nI (ar z)) rfl ?_
            refine lv_iload_n S.1 S.2.1 d_U_step_196 rfl (lv_at hl 3 rfl) ?_
            refine callV_v (wr := [(aU, .inr (6, [.ref aC, .ref aU0, .ref aU1, .ref aU2, .ref aU3, .ref aU4, .int (nI q), .int (nI x), .int (nI ma), .int (nI fr0), .int (nI ed)])), (aU0, .inl (cI, 602, .inl (fun j => nI (at0 j)))), (aU1, .inl (cI, 602, .inl (fun j => nI (sp0 j)))), (aU2, .inl (cI, 602, .inl (fun j => nI (bs0 j)))), (aU3, .inl (cI, 602, .inl sh0)), (aU4, .inl (cI, 602, .inl (fun j => nI (cl0 j))))]) (wc := [(aC, .inr (1, [.ref aC0, .ref aC1, .ref aC2, .ref aC3, .ref aC4])), (aC0, .inl (cI, 21092, .inl hd)), (aC1, .inl (cI, 21092, .inl (fun j => nI (ar j)))), (aC2, .inl (cI, 21092, .inl (fun j => nI (sz j)))), (aC3, .inl (cI, 21092, .inl (fun j => nI (lv j)))), (aC4, .inl (cI, 21092, .inl (fun j => nI (wh j))))]) (np := 4) (As := [.int (nI ed), .int (hd z), .int (nI (ar z)), .int (nI l1)]) (rest := []) (c_C_write l D cI cJ cB cZ aC aC0 aC1 aC2 aC3 aC4 hd ar sz lv wh ed (ar z) l1 (hd z) hed) km_U_84 ki_C_write kv_C_write kz_C kk_C_write (by decide +kernel) S hW hA ⟨Nat.le_of_ble_eq_true rfl, Nat.le_of_ble_eq_true rfl⟩ ⟨Nat.le_of_ble_eq_true rfl, Nat.le_of_ble_eq_true rfl⟩ rfl 0 rfl [6, 7, 8, 9, 10, 11] [0, 1, 2, 3, 4, 5] rfl (by decide) rfl (by decide) (by decide) rfl hl.1 rfl (Nat.le_of_ble_eq_true rfl) d_U_step_197 (fun u H locs hp hW => ?_)
            obtain rfl := hp
            have hW : Wd D (tyl cI cJ cB cZ) A s s.heap H locs [(aU, .inr (6, [.ref aC, .ref aU0, .ref aU1, .ref aU2, .ref aU3, .ref aU4, .int (nI q), .int (nI x), .int (nI ma), .int (nI fr0), .int (nI ed)])), (aU0, .inl (cI, 602, .inl (fun j => nI (at0 j)))), (aU1, .inl (cI, 602, .inl (fun j => nI (sp0 j)))), (aU2, .inl (cI, 602, .inl (fun j => nI (bs0 j)))), (aU3, .inl (cI, 602, .inl sh0)), (aU4, .inl (cI, 602, .inl (fun j => nI (cl0 j)))), (aC, .inr (1, [.ref aC0, .ref aC1, .ref aC2, .ref aC3, .ref aC4])), (aC0, .inl (cI, 21092, .inl (upd hd ed (hd z)))), (aC1, .inl (cI, 21092, .inl (fun j => nI ((updN ar ed (ar z)) j)))), (aC2, .inl (cI, 21092, .inl (fun j => nI ((updN sz ed 1) j)))), (aC3, .inl (cI, 21092, .inl (fun j => nI ((updN lv ed l1) j)))), (aC4, .inl (cI, 21092, .inl (fun j => nI (wh j))))] := hW
            refine lv_aload_n S.1 S.2.1 d_U_step_200 rfl (lv_at hl 5 rfl) ?_
            refine lv_dup S.1 S.2.1 d_U_step_201 rfl ?_
            refine g_get i_U S hW 0 rfl rfl 10 (by decide) kf_U_40 rfl d_U_step_202 ?_
            refine lv_iconst (v := (nI 1)) S.1 S.2.1 d_U_step_205 (by decide) ?_
            refine n_iadd S d_U_step_206 ?_
            refine g_put (ws2 := [(aU, .inr (6, [.ref aC, .ref aU0, .ref aU1, .ref aU2, .ref aU3, .ref aU4, .int (nI q), .int (nI x), .int (nI ma), .int (nI fr0), .int (nI (ed + 1))])), (aU0, .inl (cI, 602, .inl (fun j => nI (at0 j)))), (aU1, .inl (cI, 602, .inl (fun j => nI (sp0 j)))), (aU2, .inl (cI, 602, .inl (fun j => nI (bs0 j)))), (aU3, .inl (cI, 602, .inl sh0)), (aU4, .inl (cI, 602, .inl (fun j => nI (cl0 j)))), (aC, .inr (1, [.ref aC0, .ref aC1, .ref aC2, .ref aC3, .ref aC4])), (aC0, .inl (cI, 21092, .inl (upd hd ed (hd z)))), (aC1, .inl (cI, 21092, .inl (fun j => nI ((updN ar ed (ar z)) j)))), (aC2, .inl (cI, 21092, .inl (fun j => nI ((updN sz ed 1) j)))), (aC3, .inl (cI, 21092, .inl (fun j => nI ((updN lv ed l1) j)))), (aC4, .inl (cI, 21092, .inl (fun j => nI (wh j))))]) i_U ft_U ft_U_ok n_U S hW 0 rfl rfl 10 (by decide) kf_U_40 rfl rfl rfl (Nat.le_of_ble_eq_true rfl) rfl d_U_step_207 (fun H locs hW => ?_)
            refine lv_aload_n S.1 S.2.1 d_U_step_210 rfl (lv_at hl 5 rfl) ?_
            refine g_get i_U S hW 0 rfl rfl 1 (by decide) kf_U_11 rfl d_U_step_211 ?_
            refine lv_aload_n S.1 S.2.1 d_U_step_214 rfl (lv_at hl 5 rfl) ?_
            refine g_get i_U S hW 0 rfl rfl 6 (by decide) kf_U_27 rfl d_U_step_215 ?_
            refine lv_dup2_11 S.1 S.2.1 d_U_step_218 rfl rfl ?_
            refine n_iald S hW 1 0 rfl rfl (by decide) (by omega) d_U_step_219 ?_
            refine top_eq (y := nI (at0 q)) rfl ?_
            refine lv_iconst (v := (nI 1)) S.1 S.2.1 d_U_step_220 (by decide) ?_
            refine n_iadd S d_U_step_221 ?_
            refine n_iast (ws2 := [(aU, .inr (6, [.ref aC, .ref aU0, .ref aU1, .ref aU2, .ref aU3, .ref aU4, .int (nI q), .int (nI x), .int (nI ma), .int (nI fr0), .int (nI (ed + 1))])), (aU0, .inl (cI, 602, .inl (upd (fun j => nI (at0 j)) q (nI ((at0 q) + 1))))), (aU1, .inl (cI, 602, .inl (fun j => nI (sp0 j)))), (aU2, .inl (cI, 602, .inl (fun j => nI (bs0 j)))), (aU3, .inl (cI, 602, .inl sh0)), (aU4, .inl (cI, 602, .inl (fun j => nI (cl0 j)))), (aC, .inr (1, [.ref aC0, .ref aC1, .ref aC2, .ref aC3, .ref aC4])), (aC0, .inl (cI, 21092, .inl (upd hd ed (hd z)))), (aC1, .inl (cI, 21092, .inl (fun j => nI ((updN ar ed (ar z)) j)))), (aC2, .inl (cI, 21092, .inl (fun j => nI ((updN sz ed 1) j)))), (aC3, .inl (cI, 21092, .inl (fun j => nI ((updN lv ed l1) j)))), (aC4, .inl (cI, 21092, .inl (fun j => nI (wh j))))]) S hW 1 0 rfl rfl (by decide) (by omega) rfl d_U_step_222 (fun H locs hW => ?_)
            have hW : Wd D (tyl cI cJ cB cZ) A s s.heap H locs [(aU, .inr (6, [.ref aC, .ref aU0, .ref aU1, .ref aU2, .ref aU3, .ref aU4, .int (nI q), .int (nI x), .int (nI ma), .int (nI fr0), .int (nI (ed + 1))])), (aU0, .inl (cI, 602, .inl (fun j => nI (updN at0 q ((at0 q) + 1) j)))), (aU1, .inl (cI, 602, .inl (fun j => nI (sp0 j)))), (aU2, .inl (cI, 602, .inl (fun j => nI (bs0 j)))), (aU3, .inl (cI, 602, .inl sh0)), (aU4, .inl (cI, 602, .inl (fun j => nI (cl0 j)))), (aC, .inr (1, [.ref aC0, .ref aC1, .ref aC2, .ref aC3, .ref aC4])), (aC0, .inl (cI, 21092, .inl (upd hd ed (hd z)))), (aC1, .inl (cI, 21092, .inl (fun j => nI ((updN ar ed (ar z)) j)))), (aC2, .inl (cI, 21092, .inl (fun j => nI ((updN sz ed 1) j)))), (aC3, .inl (cI, 21092, .inl (fun j => nI ((updN lv ed l1) j)))), (aC4, .inl (cI, 21092, .inl (fun j => nI (wh j))))] := by have q := hW; rw [nI_upd] at q; exact q
            refine lv_iconst (v := (nI 1)) S.1 S.2.1 d_U_step_223 (by decide) ?_
            exact ret _ _ _ _ _ _ d_U_step_224 rfl (by first | exact (Or.inl ⟨c_145, c_130, rfl, rfl⟩) | exact (Or.inr (Or.inl ⟨c_145, (by omega), c_130, rfl, rfl⟩))) hW
        · refine lv_iconst (v := (nI 0)) S.1 S.2.1 d_U_step_133 (by decide) ?_
          exact ret _ _ _ _ _ _ d_U_step_134 rfl (Or.inr (Or.inr (Or.inl ⟨(by omega), (by omega), rfl, rfl⟩))) hW
      · refine lv_iconst (v := (nI 1)) S.1 S.2.1 d_U_step_91 (by decide) ?_
        refine lv_goto (tgt := 96) S.1 S.2.1 d_U_step_92 (by decide) ?_
        refine lv_istore (lv' := [(5, .int (nI 1)), (4, .int (nI 0)), (3, .int (nI l1)), (2, .int (nI w)), (0, .ref aU), (1, .int (nI z))]) S.1 S.2.1 d_U_step_96 hl (by decide) rfl (fun ls hl => ?_)
        refine lv_iload S.1 S.2.1 d_U_step_98 (lv_at hl 0 rfl) ?_
        refine lv_if_eq (tgt := 118) S.1 S.2.1 d_U_step_100 (by decide) (fun h => absurd h (by decide)) (fun _ => ?_)
        refine lv_aload_n S.1 S.2.1 d_U_step_103 rfl (lv_at hl 4 rfl) ?_
        refine g_get i_U S hW 0 rfl rfl 6 (by decide) kf_U_27 rfl d_U_step_104 ?_
        refine lv_iconst (v := (nI 1)) S.1 S.2.1 d_U_step_107 (by decide) ?_
        refine n_iadd S d_U_step_108 ?_
        refine lv_sipush (v := (nI 602)) S.1 S.2.1 d_U_step_109 (by decide) ?_
        refine n_icmp_lt (tgt := 135) S (by omega) (by omega) d_U_step_112 (by decide) (fun c_112 => ?_) (fun c_112 => ?_)
        · refine lv_iload S.1 S.2.1 d_U_step_135 (lv_at hl 0 rfl) ?_
          refine lv_if_ne (tgt := 225) S.1 S.2.1 d_U_step_137 (by decide) (fun _ => ?_) (fun h => absurd h (by decide))
          refine lv_aload_n S.1 S.2.1 d_U_step_225 rfl (lv_at hl 4 rfl) ?_
          refine g_get i_U S hW 0 rfl rfl 1 (by decide) kf_U_11 rfl d_U_step_226 ?_
          refine lv_aload_n S.1 S.2.1 d_U_step_229 rfl (lv_at hl 4 rfl) ?_
          refine g_get i_U S hW 0 rfl rfl 6 (by decide) kf_U_27 rfl d_U_step_230 ?_
          refine lv_dup2_11 S.1 S.2.1 d_U_step_233 rfl rfl ?_
          refine n_iald S hW 1 0 rfl rfl (by decide) (by omega) d_U_step_234 ?_
          refine top_eq (y := nI (at0 q)) rfl ?_
          refine lv_aload_n S.1 S.2.1 d_U_step_235 rfl (lv_at hl 4 rfl) ?_
          refine g_get i_U S hW 0 rfl rfl 0 (by decide) kf_U_43 rfl d_U_step_236 ?_
          refine g_get i_C S hW 6 rfl rfl 2 (by decide) kf_U_52 rfl d_U_step_239 ?_
          refine lv_iload_n S.1 S.2.1 d_U_step_242 rfl (lv_at hl 5 rfl) ?_
          refine n_iald S hW 9 0 rfl rfl (by decide) (by omega) d_U_step_243 ?_
          refine top_eq (y := nI (sz z)) rfl ?_
          refine n_iadd S d_U_step_244 ?_
          refine n_iast (ws2 := [(aU, .inr (6, [.ref aC, .ref aU0, .ref aU1, .ref aU2, .ref aU3, .ref aU4, .int (nI q), .int (nI x), .int (nI ma), .int (nI fr0), .int (nI ed)])), (aU0, .inl (cI, 602, .inl (upd (fun j => nI (at0 j)) q (nI ((at0 q) + (sz z)))))), (aU1, .inl (cI, 602, .inl (fun j => nI (sp0 j)))), (aU2, .inl (cI, 602, .inl (fun j => nI (bs0 j)))), (aU3, .inl (cI, 602, .inl sh0)), (aU4, .inl (cI, 602, .inl (fun j => nI (cl0 j)))), (aC, .inr (1, [.ref aC0, .ref aC1, .ref aC2, .ref aC3, .ref aC4])), (aC0, .inl (cI, 21092, .inl hd)), (aC1, .inl (cI, 21092, .inl (fun j => nI (ar j)))), (aC2, .inl (cI, 21092, .inl (fun j => nI (sz j)))), (aC3, .inl (cI, 21092, .inl (fun j => nI (lv j)))), (aC4, .inl (cI, 21092, .inl (fun j => nI (wh j))))]) S hW 1 0 rfl rfl (by decide) (by omega) rfl d_U_step_245 (fun H locs hW => ?_)
          have hW : Wd D (tyl cI cJ cB cZ) A s s.heap H locs [(aU, .inr (6, [.ref aC, .ref aU0, .ref aU1, .ref aU2, .ref aU3, .ref aU4, .int (nI q), .int (nI x), .int (nI ma), .int (nI fr0), .int (nI ed)])), (aU0, .inl (cI, 602, .inl (fun j => nI (updN at0 q ((at0 q) + (sz z)) j)))), (aU1, .inl (cI, 602, .inl (fun j => nI (sp0 j)))), (aU2, .inl (cI, 602, .inl (fun j => nI (bs0 j)))), (aU3, .inl (cI, 602, .inl sh0)), (aU4, .inl (cI, 602, .inl (fun j => nI (cl0 j)))), (aC, .inr (1, [.ref aC0, .ref aC1, .ref aC2, .ref aC3, .ref aC4])), (aC0, .inl (cI, 21092, .inl hd)), (aC1, .inl (cI, 21092, .inl (fun j => nI (ar j)))), (aC2, .inl (cI, 21092, .inl (fun j => nI (sz j)))), (aC3, .inl (cI, 21092, .inl (fun j => nI (lv j)))), (aC4, .inl (cI, 21092, .inl (fun j => nI (wh j))))] := by have q := hW; rw [nI_upd] at q; exact q
          refine lv_iload S.1 S.2.1 d_U_step_246 (lv_at hl 1 rfl) ?_
          refine lv_if_eq (tgt := 283) S.1 S.2.1 d_U_step_248 (by decide) (fun _ => ?_) (fun h => absurd h (by decide))
          refine lv_aload_n S.1 S.2.1 d_U_step_283 rfl (lv_at hl 4 rfl) ?_
          refine lv_aload_n S.1 S.2.1 d_U_step_284 rfl (lv_at hl 4 rfl) ?_
          refine g_get i_U S hW 0 rfl rfl 0 (by decide) kf_U_43 rfl d_U_step_285 ?_
          refine lv_aload_n S.1 S.2.1 d_U_step_288 rfl (lv_at hl 4 rfl) ?_
          refine g_get i_U S hW 0 rfl rfl 5 (by decide) kf_U_24 rfl d_U_step_289 ?_
          refine lv_aload_n S.1 S.2.1 d_U_step_292 rfl (lv_at hl 4 rfl) ?_
          refine g_get i_U S hW 0 rfl rfl 6 (by decide) kf_U_27 rfl d_U_step_293 ?_
          refine n_iald S hW 5 0 rfl rfl (by decide) (by omega) d_U_step_296 ?_
          refine top_eq (y := nI (cl0 q)) rfl ?_
          refine lv_iload_n S.1 S.2.1 d_U_step_297 rfl (lv_at hl 3 rfl) ?_
          refine lv_aload_n S.1 S.2.1 d_U_step_298 rfl (lv_at hl 4 rfl) ?_
          refine g_get i_U S hW 0 rfl rfl 7 (by decide) kf_U_31 rfl d_U_step_299 ?_
          refine n_isub S c_75 d_U_step_302 ?_
          refine callV_i (wr := [(aU, .inr (6, [.ref aC, .ref aU0, .ref aU1, .ref aU2, .ref aU3, .ref aU4, .int (nI q), .int (nI x), .int (nI ma), .int (nI fr0), .int (nI ed)])), (aU0, .inl (cI, 602, .inl (fun j => nI (updN at0 q ((at0 q) + (sz z)) j)))), (aU1, .inl (cI, 602, .inl (fun j => nI (sp0 j)))), (aU2, .inl (cI, 602, .inl (fun j => nI (bs0 j)))), (aU3, .inl (cI, 602, .inl sh0)), (aU4, .inl (cI, 602, .inl (fun j => nI (cl0 j))))]) (wc := [(aC, .inr (1, [.ref aC0, .ref aC1, .ref aC2, .ref aC3, .ref aC4])), (aC0, .inl (cI, 21092, .inl hd)), (aC1, .inl (cI, 21092, .inl (fun j => nI (ar j)))), (aC2, .inl (cI, 21092, .inl (fun j => nI (sz j)))), (aC3, .inl (cI, 21092, .inl (fun j => nI (lv j)))), (aC4, .inl (cI, 21092, .inl (fun j => nI (wh j))))]) (np := 2) (As := [.int (nI (cl0 q)), .int (nI (w - x))]) (rest := [.ref aU]) (c_C_argument l D cI cJ cB cZ aC aC0 aC1 aC2 aC3 aC4 hd ar sz lv wh (cl0 q) (w - x) (fun j hj => hod (by omega) c_75 c_88 j (by omega)) (by omega)) km_U_88 ki_C_argument kv_C_argument kz_C kk_C_argument (by decide +kernel) S hW hA ⟨Nat.le_of_ble_eq_true rfl, Nat.le_of_ble_eq_true rfl⟩ ⟨Nat.le_of_ble_eq_true rfl, Nat.le_of_ble_eq_true rfl⟩ rfl 0 rfl [6, 7, 8, 9, 10, 11] [0, 1, 2, 3, 4, 5] rfl (by decide) rfl (by decide) (by decide) rfl hl.1 rfl (Nat.le_of_ble_eq_true rfl) d_U_step_303 (fun r u H locs hp hW => ?_)
          obtain ⟨rfl, rfl⟩ := hp
          have hW : Wd D (tyl cI cJ cB cZ) A s s.heap H locs [(aU, .inr (6, [.ref aC, .ref aU0, .ref aU1, .ref aU2, .ref aU3, .ref aU4, .int (nI q), .int (nI x), .int (nI ma), .int (nI fr0), .int (nI ed)])), (aU0, .inl (cI, 602, .inl (fun j => nI (updN at0 q ((at0 q) + (sz z)) j)))), (aU1, .inl (cI, 602, .inl (fun j => nI (sp0 j)))), (aU2, .inl (cI, 602, .inl (fun j => nI (bs0 j)))), (aU3, .inl (cI, 602, .inl sh0)), (aU4, .inl (cI, 602, .inl (fun j => nI (cl0 j)))), (aC, .inr (1, [.ref aC0, .ref aC1, .ref aC2, .ref aC3, .ref aC4])), (aC0, .inl (cI, 21092, .inl hd)), (aC1, .inl (cI, 21092, .inl (fun j => nI (ar j)))), (aC2, .inl (cI, 21092, .inl (fun j => nI (sz j)))), (aC3, .inl (cI, 21092, .inl (fun j => nI (lv j)))), (aC4, .inl (cI, 21092, .inl (fun j => nI (wh j))))] := hW
          refine lv_iload_n S.1 S.2.1 d_U_step_306 rfl (lv_at hl 2 rfl) ?_
          refine callV_v (wr := []) (wc := [(aU, .inr (6, [.ref aC, .ref aU0, .ref aU1, .ref aU2, .ref aU3, .ref aU4, .int (nI q), .int (nI x), .int (nI ma), .int (nI fr0), .int (nI ed)])), (aU0, .inl (cI, 602, .inl (fun j => nI ((updN at0 q ((at0 q) + (sz z))) j)))), (aU1, .inl (cI, 602, .inl (fun j => nI (sp0 j)))), (aU2, .inl (cI, 602, .inl (fun j => nI (bs0 j)))), (aU3, .inl (cI, 602, .inl sh0)), (aU4, .inl (cI, 602, .inl (fun j => nI (cl0 j)))), (aC, .inr (1, [.ref aC0, .ref aC1, .ref aC2, .ref aC3, .ref aC4])), (aC0, .inl (cI, 21092, .inl hd)), (aC1, .inl (cI, 21092, .inl (fun j => nI (ar j)))), (aC2, .inl (cI, 21092, .inl (fun j => nI (sz j)))), (aC3, .inl (cI, 21092, .inl (fun j => nI (lv j)))), (aC4, .inl (cI, 21092, .inl (fun j => nI (wh j))))]) (np := 2) (As := [.int (nI (argp sz (cl0 q) (w - x))), .int (nI l1)]) (rest := []) (c_U_push l D cI cJ cB cZ aU aU0 aU1 aU2 aU3 aU4 aC aC0 aC1 aC2 aC3 aC4 hd ar sz lv wh (updN at0 q ((at0 q) + (sz z))) sp0 bs0 cl0 sh0 (nI q) (nI x) (nI ma) (nI fr0) (nI ed) (q + 1) (argp sz (cl0 q) (w - x)) l1 (nI_add _ _) (by omega) (hod (by omega) c_75 c_88 _ (Nat.le_refl _))) km_U_59 ki_U_push kv_U_push kz_U kk_U_push (by decide +kernel) S hW hA ⟨Nat.le_of_ble_eq_true rfl, Nat.le_of_ble_eq_true rfl⟩ ⟨Nat.le_of_ble_eq_true rfl, Nat.le_of_ble_eq_true rfl⟩ rfl 0 rfl [0, 1, 2, 3, 4, 5, 6, 7, 8, 9, 10, 11] [] rfl (by decide) rfl (by decide) (by decide) rfl hl.1 rfl (Nat.le_of_ble_eq_true rfl) d_U_step_307 (fun u H locs hp hW => ?_)
          obtain rfl := hp
          have hW : Wd D (tyl cI cJ cB cZ) A s s.heap H locs [(aU, .inr (6, [.ref aC, .ref aU0, .ref aU1, .ref aU2, .ref aU3, .ref aU4, .int (nI (q + 1)), .int (nI x), .int (nI ma), .int (nI fr0), .int (nI ed)])), (aU0, .inl (cI, 602, .inl (fun j => nI ((updN (updN at0 q ((at0 q) + (sz z))) (q + 1) (argp sz (cl0 q) (w - x))) j)))), (aU1, .inl (cI, 602, .inl (fun j => nI ((updN sp0 (q + 1) ((argp sz (cl0 q) (w - x)) + sz (argp sz (cl0 q) (w - x)))) j)))), (aU2, .inl (cI, 602, .inl (fun j => nI ((updN bs0 (q + 1) (lv (argp sz (cl0 q) (w - x)))) j)))), (aU3, .inl (cI, 602, .inl (upd sh0 (q + 1) (nI l1 - nI (lv (argp sz (cl0 q) (w - x))))))), (aU4, .inl (cI, 602, .inl (fun j => nI (cl0 j)))), (aC, .inr (1, [.ref aC0, .ref aC1, .ref aC2, .ref aC3, .ref aC4])), (aC0, .inl (cI, 21092, .inl hd)), (aC1, .inl (cI, 21092, .inl (fun j => nI (ar j)))), (aC2, .inl (cI, 21092, .inl (fun j => nI (sz j)))), (aC3, .inl (cI, 21092, .inl (fun j => nI (lv j)))), (aC4, .inl (cI, 21092, .inl (fun j => nI (wh j))))] := hW
          refine lv_iconst (v := (nI 1)) S.1 S.2.1 d_U_step_310 (by decide) ?_
          exact ret _ _ _ _ _ _ d_U_step_311 rfl (by first | exact (Or.inr (Or.inr (Or.inr (Or.inr (Or.inl ⟨(by omega), c_59, (by omega), rfl, rfl⟩))))) | exact (Or.inr (Or.inr (Or.inr (Or.inr (Or.inr ⟨(by omega), c_75, c_88, (by omega), rfl, rfl⟩)))))) hW
        · refine lv_goto (tgt := 133) S.1 S.2.1 d_U_step_115 (by decide) ?_
          refine lv_iconst (v := (nI 0)) S.1 S.2.1 d_U_step_133 (by decide) ?_
          exact ret _ _ _ _ _ _ d_U_step_134 rfl (Or.inr (Or.inr (Or.inr (Or.inl ⟨(by omega), rfl, rfl⟩)))) hW
  · refine lv_iconst (v := (nI 1)) S.1 S.2.1 d_U_step_42 (by decide) ?_
    refine lv_goto (tgt := 47) S.1 S.2.1 d_U_step_43 (by decide) ?_
    refine lv_istore (lv' := [(4, .int (nI 1)), (3, .int (nI l1)), (2, .int (nI w)), (0, .ref aU), (1, .int (nI z))]) S.1 S.2.1 d_U_step_47 hl (by decide) rfl (fun ls hl => ?_)
    refine lv_iload S.1 S.2.1 d_U_step_49 (lv_at hl 0 rfl) ?_
    refine lv_if_eq (tgt := 70) S.1 S.2.1 d_U_step_51 (by decide) (fun h => absurd h (by decide)) (fun _ => ?_)
    refine lv_iload_n S.1 S.2.1 d_U_step_54 rfl (lv_at hl 2 rfl) ?_
    refine lv_aload_n S.1 S.2.1 d_U_step_55 rfl (lv_at hl 3 rfl) ?_
    refine g_get i_U S hW 0 rfl rfl 7 (by decide) kf_U_31 rfl d_U_step_56 ?_
    refine n_icmp_ne (tgt := 66) S (by omega) (by omega) d_U_step_59 (by decide) (fun c_59 => ?_) (fun c_59 => ?_)
    · refine lv_iconst (v := (nI 0)) S.1 S.2.1 d_U_step_66 (by decide) ?_
      refine lv_goto (tgt := 96) S.1 S.2.1 d_U_step_67 (by decide) ?_
      refine lv_istore (lv' := [(5, .int (nI 0)), (4, .int (nI 1)), (3, .int (nI l1)), (2, .int (nI w)), (0, .ref aU), (1, .int (nI z))]) S.1 S.2.1 d_U_step_96 hl (by decide) rfl (fun ls hl => ?_)
      refine lv_iload S.1 S.2.1 d_U_step_98 (lv_at hl 0 rfl) ?_
      refine lv_if_eq (tgt := 118) S.1 S.2.1 d_U_step_100 (by decide) (fun _ => ?_) (fun h => absurd h (by decide))
      refine lv_aload_n S.1 S.2.1 d_U_step_118 rfl (lv_at hl 4 rfl) ?_
      refine g_get i_U S hW 0 rfl rfl 10 (by decide) kf_U_40 rfl d_U_step_119 ?_
      refine lv_aload_n S.1 S.2.1 d_U_step_122 rfl (lv_at hl 4 rfl) ?_
      refine g_get i_U S hW 0 rfl rfl 9 (by decide) kf_U_37 rfl d_U_step_123 ?_
      refine n_isub S (by omega) d_U_step_126 ?_
      refine lv_sipush (v := (nI 300)) S.1 S.2.1 d_U_step_127 (by decide) ?_
      refine n_icmp_lt (tgt := 135) S (by omega) (by omega) d_U_step_130 (by decide) (fun c_130 => ?_) (fun c_130 => ?_)
      · refine lv_iload S.1 S.2.1 d_U_step_135 (lv_at hl 0 rfl) ?_
        refine lv_if_ne (tgt := 225) S.1 S.2.1 d_U_step_137 (by decide) (fun h => absurd h (by decide)) (fun _ => ?_)
        refine lv_iload_n S.1 S.2.1 d_U_step_140 rfl (lv_at hl 3 rfl) ?_
        refine lv_aload_n S.1 S.2.1 d_U_step_141 rfl (lv_at hl 4 rfl) ?_
        refine g_get i_U S hW 0 rfl rfl 7 (by decide) kf_U_31 rfl d_U_step_142 ?_
        refine n_icmp_ge (tgt := 160) S (by omega) (by omega) d_U_step_145 (by decide) (fun c_145 => ?_) (fun c_145 => ?_)
        · refine lv_aload_n S.1 S.2.1 d_U_step_160 rfl (lv_at hl 4 rfl) ?_
          refine g_get i_U S hW 0 rfl rfl 0 (by decide) kf_U_43 rfl d_U_step_161 ?_
          refine g_get i_C S hW 6 rfl rfl 0 (by decide) kf_U_75 rfl d_U_step_164 ?_
          refine lv_iload_n S.1 S.2.1 d_U_step_167 rfl (lv_at hl 5 rfl) ?_
          refine n_iald S hW 7 0 rfl rfl (by decide) (by omega) d_U_step_168 ?_
          refine lv_aload_n S.1 S.2.1 d_U_step_169 rfl (lv_at hl 4 rfl) ?_
          refine lv_iload_n S.1 S.2.1 d_U_step_170 rfl (lv_at hl 3 rfl) ?_
          refine callV_i (wr := [(aU0, .inl (cI, 602, .inl (fun j => nI (at0 j)))), (aU1, .inl (cI, 602, .inl (fun j => nI (sp0 j)))), (aU4, .inl (cI, 602, .inl (fun j => nI (cl0 j)))), (aC, .inr (1, [.ref aC0, .ref aC1, .ref aC2, .ref aC3, .ref aC4])), (aC0, .inl (cI, 21092, .inl hd)), (aC1, .inl (cI, 21092, .inl (fun j => nI (ar j)))), (aC2, .inl (cI, 21092, .inl (fun j => nI (sz j)))), (aC3, .inl (cI, 21092, .inl (fun j => nI (lv j)))), (aC4, .inl (cI, 21092, .inl (fun j => nI (wh j))))]) (wc := [(aU, .inr (6, [.ref aC, .ref aU0, .ref aU1, .ref aU2, .ref aU3, .ref aU4, .int (nI q), .int (nI x), .int (nI ma), .int (nI fr0), .int (nI ed)])), (aU2, .inl (cI, 602, .inl (fun j => nI (bs0 j)))), (aU3, .inl (cI, 602, .inl sh0))]) (np := 1) (As := [.int (nI w)]) (rest := [.int (hd z)]) (c_U_shiftOf l D cI cJ cB cZ aU aU0 aU1 aU2 aU3 aU4 aC bs0 sh0 (nI x) (nI ma) (nI fr0) (nI ed) q w hq (by omega) hb) km_U_78 ki_U_shiftOf kv_U_shiftOf kz_U kk_U_shiftOf (by decide +kernel) S hW hA ⟨Nat.le_of_ble_eq_true rfl, Nat.le_of_ble_eq_true rfl⟩ ⟨Nat.le_of_ble_eq_true rfl, Nat.le_of_ble_eq_true rfl⟩ rfl 0 rfl [0, 3, 4] [1, 2, 5, 6, 7, 8, 9, 10, 11] rfl (by decide) rfl (by decide) (by decide) rfl hl.1 rfl (Nat.le_of_ble_eq_true rfl) d_U_step_171 (fun r u H locs hp hW => ?_)
          obtain ⟨rfl, rfl⟩ := hp
          have hW : Wd D (tyl cI cJ cB cZ) A s s.heap H locs [(aU, .inr (6, [.ref aC, .ref aU0, .ref aU1, .ref aU2, .ref aU3, .ref aU4, .int (nI q), .int (nI x), .int (nI ma), .int (nI fr0), .int (nI ed)])), (aU0, .inl (cI, 602, .inl (fun j => nI (at0 j)))), (aU1, .inl (cI, 602, .inl (fun j => nI (sp0 j)))), (aU2, .inl (cI, 602, .inl (fun j => nI (bs0 j)))), (aU3, .inl (cI, 602, .inl sh0)), (aU4, .inl (cI, 602, .inl (fun j => nI (cl0 j)))), (aC, .inr (1, [.ref aC0, .ref aC1, .ref aC2, .ref aC3, .ref aC4])), (aC0, .inl (cI, 21092, .inl hd)), (aC1, .inl (cI, 21092, .inl (fun j => nI (ar j)))), (aC2, .inl (cI, 21092, .inl (fun j => nI (sz j)))), (aC3, .inl (cI, 21092, .inl (fun j => nI (lv j)))), (aC4, .inl (cI, 21092, .inl (fun j => nI (wh j))))] := hW.sub [9, 0, 1, 10, 11, 2, 3, 4, 5, 6, 7, 8] (by decide) rfl
          refine lv_iadd S.1 S.2.1 d_U_step_174 ?_
          refine lv_istore (lv' := [(6, .int ((hd z) + (sh0 (sfr bs0 w q)))), (5, .int (nI 0)), (4, .int (nI 1)), (3, .int (nI l1)), (2, .int (nI w)), (0, .ref aU), (1, .int (nI z))]) S.1 S.2.1 d_U_step_175 hl (by decide) rfl (fun ls hl => ?_)
          refine lv_aload_n S.1 S.2.1 d_U_step_177 rfl (lv_at hl 5 rfl) ?_
          refine g_get i_U S hW 0 rfl rfl 0 (by decide) kf_U_43 rfl d_U_step_178 ?_
          refine lv_aload_n S.1 S.2.1 d_U_step_181 rfl (lv_at hl 5 rfl) ?_
          refine g_get i_U S hW 0 rfl rfl 10 (by decide) kf_U_40 rfl d_U_step_182 ?_
          refine lv_iload S.1 S.2.1 d_U_step_185 (lv_at hl 0 rfl) ?_
          refine lv_aload_n S.1 S.2.1 d_U_step_187 rfl (lv_at hl 5 rfl) ?_
          refine g_get i_U S hW 0 rfl rfl 0 (by decide) kf_U_43 rfl d_U_step_188 ?_
          refine g_get i_C S hW 6 rfl rfl 1 (by decide) kf_U_81 rfl d_U_step_191 ?_
          refine lv_iload_n S.1 S.2.1 d_U_step_194 rfl (lv_at hl 6 rfl) ?_
          refine n_iald S hW 8 0 rfl rfl (by decide) (by omega) d_U_step_195 ?_
          refine top_eq (y := nI (ar z)) rfl ?_
          refine lv_iload_n S.1 S.2.1 d_U_step_196 rfl (lv_at hl 3 rfl) ?_
          refine callV_v (wr := [(aU, .inr (6, [.ref aC, .ref aU0, .ref aU1, .ref aU2, .ref aU3, .ref aU4, .int (nI q), .int (nI x), .int (nI ma), .int (nI fr0), .int (nI ed)])), (aU0, .inl (cI, 602, .inl (fun j => nI (at0 j)))), (aU1, .inl (cI, 602, .inl (fun j => nI (sp0 j)))), (aU2, .inl (cI, 602, .inl (fun j => nI (bs0 j)))), (aU3, .inl (cI, 602, .inl sh0)), (aU4, .inl (cI, 602, .inl (fun j => nI (cl0 j))))]) (wc := [(aC, .inr (1, [.ref aC0, .ref aC1, .ref aC2, .ref aC3, .ref aC4])), (aC0, .inl (cI, 21092, .inl hd)), (aC1, .inl (cI, 21092, .inl (fun j => nI (ar j)))), (aC2, .inl (cI, 21092, .inl (fun j => nI (sz j)))), (aC3, .inl (cI, 21092, .inl (fun j => nI (lv j)))), (aC4, .inl (cI, 21092, .inl (fun j => nI (wh j))))]) (np := 4) (As := [.int (nI ed), .int ((hd z) + (sh0 (sfr bs0 w q))), .int (nI (ar z)), .int (nI l1)]) (rest := []) (c_C_write l D cI cJ cB cZ aC aC0 aC1 aC2 aC3 aC4 hd ar sz lv wh ed (ar z) l1 ((hd z) + (sh0 (sfr bs0 w q))) hed) km_U_84 ki_C_write kv_C_write kz_C kk_C_write (by decide +kernel) S hW hA ⟨Nat.le_of_ble_eq_true rfl, Nat.le_of_ble_eq_true rfl⟩ ⟨Nat.le_of_ble_eq_true rfl, Nat.le_of_ble_eq_true rfl⟩ rfl 0 rfl [6, 7, 8, 9, 10, 11] [0, 1, 2, 3, 4, 5] rfl (by decide) rfl (by decide) (by decide) rfl hl.1 rfl (Nat.le_of_ble_eq_true rfl) d_U_step_197 (fun u H locs hp hW => ?_)
          obtain rfl := hp
          have hW : Wd D (tyl cI cJ cB cZ) A s s.heap H locs [(aU, .inr (6, [.ref aC, .ref aU0, .ref aU1, .ref aU2, .ref aU3, .ref aU4, .int (nI q), .int (nI x), .int (nI ma), .int (nI fr0), .int (nI ed)])), (aU0, .inl (cI, 602, .inl (fun j => nI (at0 j)))), (aU1, .inl (cI, 602, .inl (fun j => nI (sp0 j)))), (aU2, .inl (cI, 602, .inl (fun j => nI (bs0 j)))), (aU3, .inl (cI, 602, .inl sh0)), (aU4, .inl (cI, 602, .inl (fun j => nI (cl0 j)))), (aC, .inr (1, [.ref aC0, .ref aC1, .ref aC2, .ref aC3, .ref aC4])), (aC0, .inl (cI, 21092, .inl (upd hd ed ((hd z) + (sh0 (sfr bs0 w q)))))), (aC1, .inl (cI, 21092, .inl (fun j => nI ((updN ar ed (ar z)) j)))), (aC2, .inl (cI, 21092, .inl (fun j => nI ((updN sz ed 1) j)))), (aC3, .inl (cI, 21092, .inl (fun j => nI ((updN lv ed l1) j)))), (aC4, .inl (cI, 21092, .inl (fun j => nI (wh j))))] := hW
          refine lv_aload_n S.1 S.2.1 d_U_step_200 rfl (lv_at hl 5 rfl) ?_
          refine lv_dup S.1 S.2.1 d_U_step_201 rfl ?_
          refine g_get i_U S hW 0 rfl rfl 10 (by decide) kf_U_40 rfl d_U_step_202 ?_
          refine lv_iconst (v := (nI 1)) S.1 S.2.1 d_U_step_205 (by decide) ?_
          refine n_iadd S d_U_step_206 ?_
          refine g_put (ws2 := [(aU, .inr (6, [.ref aC, .ref aU0, .ref aU1, .ref aU2, .ref aU3, .ref aU4, .int (nI q), .int (nI x), .int (nI ma), .int (nI fr0), .int (nI (ed + 1))])), (aU0, .inl (cI, 602, .inl (fun j => nI (at0 j)))), (aU1, .inl (cI, 602, .inl (fun j => nI (sp0 j)))), (aU2, .inl (cI, 602, .inl (fun j => nI (bs0 j)))), (aU3, .inl (cI, 602, .inl sh0)), (aU4, .inl (cI, 602, .inl (fun j => nI (cl0 j)))), (aC, .inr (1, [.ref aC0, .ref aC1, .ref aC2, .ref aC3, .ref aC4])), (aC0, .inl (cI, 21092, .inl (upd hd ed ((hd z) + (sh0 (sfr bs0 w q)))))), (aC1, .inl (cI, 21092, .inl (fun j => nI ((updN ar ed (ar z)) j)))), (aC2, .inl (cI, 21092, .inl (fun j => nI ((updN sz ed 1) j)))), (aC3, .inl (cI, 21092, .inl (fun j => nI ((updN lv ed l1) j)))), (aC4, .inl (cI, 21092, .inl (fun j => nI (wh j))))]) i_U ft_U ft_U_ok n_U S hW 0 rfl rfl 10 (by decide) kf_U_40 rfl rfl rfl (Nat.le_of_ble_eq_true rfl) rfl d_U_step_207 (fun H locs hW => ?_)
          refine lv_aload_n S.1 S.2.1 d_U_step_210 rfl (lv_at hl 5 rfl) ?_
          refine g_get i_U S hW 0 rfl rfl 1 (by decide) kf_U_11 rfl d_U_step_211 ?_
          refine lv_aload_n S.1 S.2.1 d_U_step_214 rfl (lv_at hl 5 rfl) ?_
          refine g_get i_U S hW 0 rfl rfl 6 (by decide) kf_U_27 rfl d_U_step_215 ?_
          refine lv_dup2_11 S.1 S.2.1 d_U_step_218 rfl rfl ?_
          refine n_iald S hW 1 0 rfl rfl (by decide) (by omega) d_U_step_219 ?_
          refine top_eq (y := nI (at0 q)) rfl ?_
          refine lv_iconst (v := (nI 1)) S.1 S.2.1 d_U_step_220 (by decide) ?_
          refine n_iadd S d_U_step_221 ?_
          refine n_iast (ws2 := [(aU, .inr (6, [.ref aC, .ref aU0, .ref aU1, .ref aU2, .ref aU3, .ref aU4, .int (nI q), .int (nI x), .int (nI ma), .int (nI fr0), .int (nI (ed + 1))])), (aU0, .inl (cI, 602, .inl (upd (fun j => nI (at0 j)) q (nI ((at0 q) + 1))))), (aU1, .inl (cI, 602, .inl (fun j => nI (sp0 j)))), (aU2, .inl (cI, 602, .inl (fun j => nI (bs0 j)))), (aU3, .inl (cI, 602, .inl sh0)), (aU4, .inl (cI, 602, .inl (fun j => nI (cl0 j)))), (aC, .inr (1, [.ref aC0, .ref aC1, .ref aC2, .ref aC3, .ref aC4])), (aC0, .inl (cI, 21092, .inl (upd hd ed ((hd z) + (sh0 (sfr bs0 w q)))))), (aC1, .inl (cI, 21092, .inl (fun j => nI ((updN ar ed (ar z)) j)))), (aC2, .inl (cI, 21092, .inl (fun j => nI ((updN sz ed 1) j)))), (aC3, .inl (cI, 21092, .inl (fun j => nI ((updN lv ed l1) j)))), (aC4, .inl (cI, 21092, .inl (fun j => nI (wh j))))]) S hW 1 0 rfl rfl (by decide) (by omega) rfl d_U_step_222 (fun H locs hW => ?_)
          have hW : Wd D (tyl cI cJ cB cZ) A s s.heap H locs [(aU, .inr (6, [.ref aC, .ref aU0, .ref aU1, .ref aU2, .ref aU3, .ref aU4, .int (nI q), .int (nI x), .int (nI ma), .int (nI fr0), .int (nI (ed + 1))])), (aU0, .inl (cI, 602, .inl (fun j => nI (updN at0 q ((at0 q) + 1) j)))), (aU1, .inl (cI, 602, .inl (fun j => nI (sp0 j)))), (aU2, .inl (cI, 602, .inl (fun j => nI (bs0 j)))), (aU3, .inl (cI, 602, .inl sh0)), (aU4, .inl (cI, 602, .inl (fun j => nI (cl0 j)))), (aC, .inr (1, [.ref aC0, .ref aC1, .ref aC2, .ref aC3, .ref aC4])), (aC0, .inl (cI, 21092, .inl (upd hd ed ((hd z) + (sh0 (sfr bs0 w q)))))), (aC1, .inl (cI, 21092, .inl (fun j => nI ((updN ar ed (ar z)) j)))), (aC2, .inl (cI, 21092, .inl (fun j => nI ((updN sz ed 1) j)))), (aC3, .inl (cI, 21092, .inl (fun j => nI ((updN lv ed l1) j)))), (aC4, .inl (cI, 21092, .inl (fun j => nI (wh j))))] := by have q := hW; rw [nI_upd] at q; exact q
          refine lv_iconst (v := (nI 1)) S.1 S.2.1 d_U_step_223 (by decide) ?_
          exact ret _ _ _ _ _ _ d_U_step_224 rfl (by first | exact (Or.inl ⟨c_145, c_130, rfl, rfl⟩) | exact (Or.inr (Or.inl ⟨c_145, (by omega), c_130, rfl, rfl⟩))) hW
        · refine lv_aload_n S.1 S.2.1 d_U_step_148 rfl (lv_at hl 4 rfl) ?_
          refine g_get i_U S hW 0 rfl rfl 0 (by decide) kf_U_43 rfl d_U_step_149 ?_
          refine g_get i_C S hW 6 rfl rfl 0 (by decide) kf_U_75 rfl d_U_step_152 ?_
          refine lv_iload_n S.1 S.2.1 d_U_step_155 rfl (lv_at hl 5 rfl) ?_
          refine n_iald S hW 7 0 rfl rfl (by decide) (by omega) d_U_step_156 ?_
          refine lv_goto (tgt := 175) S.1 S.2.1 d_U_step_157 (by decide) ?_
          refine lv_istore (lv' := [(6, .int (hd z)), (5, .int (nI 0)), (4, .int (nI 1)), (3, .int (nI l1)), (2, .int (nI w)), (0, .ref aU), (1, .int (nI z))]) S.1 S.2.1 d_U_step_175 hl (by decide) rfl (fun ls hl => ?_)
          refine lv_aload_n S.1 S.2.1 d_U_step_177 rfl (lv_at hl 5 rfl) ?_
          refine g_get i_U S hW 0 rfl rfl 0 (by decide) kf_U_43 rfl d_U_step_178 ?_
          refine lv_aload_n S.1 S.2.1 d_U_step_181 rfl (lv_at hl 5 rfl) ?_
          refine g_get i_U S hW 0 rfl rfl 10 (by decide) kf_U_40 rfl d_U_step_182 ?_
          refine lv_iload S.1 S.2.1 d_U_step_185 (lv_at hl 0 rfl) ?_
          refine lv_aload_n S.1 S.2.1 d_U_step_187 rfl (lv_at hl 5 rfl) ?_
          refine g_get i_U S hW 0 rfl rfl 0 (by decide) kf_U_43 rfl d_U_step_188 ?_
          refine g_get i_C S hW 6 rfl rfl 1 (by decide) kf_U_81 rfl d_U_step_191 ?_
          refine lv_iload_n S.1 S.2.1 d_U_step_194 rfl (lv_at hl 6 rfl) ?_
          refine n_iald S hW 8 0 rfl rfl (by decide) (by omega) d_U_step_195 ?_
          refine top_eq (y := nI (ar z)) rfl ?_
          refine lv_iload_n S.1 S.2.1 d_U_step_196 rfl (lv_at hl 3 rfl) ?_
          refine callV_v (wr := [(aU, .inr (6, [.ref aC, .ref aU0, .ref aU1, .ref aU2, .ref aU3, .ref aU4, .int (nI q), .int (nI x), .int (nI ma), .int (nI fr0), .int (nI ed)])), (aU0, .inl (cI, 602, .inl (fun j => nI (at0 j)))), (aU1, .inl (cI, 602, .inl (fun j => nI (sp0 j)))), (aU2, .inl (cI, 602, .inl (fun j => nI (bs0 j)))), (aU3, .inl (cI, 602, .inl sh0)), (aU4, .inl (cI, 602, .inl (fun j => nI (cl0 j))))]) (wc := [(aC, .inr (1, [.ref aC0, .ref aC1, .ref aC2, .ref aC3, .ref aC4])), (aC0, .inl (cI, 21092, .inl hd)), (aC1, .inl (cI, 21092, .inl (fun j => nI (ar j)))), (aC2, .inl (cI, 21092, .inl (fun j => nI (sz j)))), (aC3, .inl (cI, 21092, .inl (fun j => nI (lv j)))), (aC4, .inl (cI, 21092, .inl (fun j => nI (wh j))))]) (np := 4) (As := [.int (nI ed), .int (hd z), .int (nI (ar z)), .int (nI l1)]) (rest := []) (c_C_write l D cI cJ cB cZ aC aC0 aC1 aC2 aC3 aC4 hd ar sz lv wh ed (ar z) l1 (hd z) hed) km_U_84 ki_C_write kv_C_write kz_C kk_C_write (by decide +kernel) S hW hA ⟨Nat.le_of_ble_eq_true rfl, Nat.le_of_ble_eq_true rfl⟩ ⟨Nat.le_of_ble_eq_true rfl, Nat.le_of_ble_eq_true rfl⟩ rfl 0 rfl [6, 7, 8, 9, 10, 11] [0, 1, 2, 3, 4, 5] rfl (by decide) rfl (by decide) (by decide) rfl hl.1 rfl (Nat.le_of_ble_eq_true rfl) d_U_step_197 (fun u H locs hp hW => ?_)
          obtain rfl := hp
          have hW : Wd D (tyl cI cJ cB cZ) A s s.heap H locs [(aU, .inr (6, [.ref aC, .ref aU0, .ref aU1, .ref aU2, .ref aU3, .ref aU4, .int (nI q), .int (nI x), .int (nI ma), .int (nI fr0), .int (nI ed)])), (aU0, .inl (cI, 602, .inl (fun j => nI (at0 j)))), (aU1, .inl (cI, 602, .inl (fun j => nI (sp0 j)))), (aU2, .inl (cI, 602, .inl (fun j => nI (bs0 j)))), (aU3, .inl (cI, 602, .inl sh0)), (aU4, .inl (cI, 602, .inl (fun j => nI (cl0 j)))), (aC, .inr (1, [.ref aC0, .ref aC1, .ref aC2, .ref aC3, .ref aC4])), (aC0, .inl (cI, 21092, .inl (upd hd ed (hd z)))), (aC1, .inl (cI, 21092, .inl (fun j => nI ((updN ar ed (ar z)) j)))), (aC2, .inl (cI, 21092, .inl (fun j => nI ((updN sz ed 1) j)))), (aC3, .inl (cI, 21092, .inl (fun j => nI ((updN lv ed l1) j)))), (aC4, .inl (cI, 21092, .inl (fun j => nI (wh j))))] := hW
          refine lv_aload_n S.1 S.2.1 d_U_step_200 rfl (lv_at hl 5 rfl) ?_
          refine lv_dup S.1 S.2.1 d_U_step_201 rfl ?_
          refine g_get i_U S hW 0 rfl rfl 10 (by decide) kf_U_40 rfl d_U_step_202 ?_
          refine lv_iconst (v := (nI 1)) S.1 S.2.1 d_U_step_205 (by decide) ?_
          refine n_iadd S d_U_step_206 ?_
          refine g_put (ws2 := [(aU, .inr (6, [.ref aC, .ref aU0, .ref aU1, .ref aU2, .ref aU3, .ref aU4, .int (nI q), .int (nI x), .int (nI ma), .int (nI fr0), .int (nI (ed + 1))])), (aU0, .inl (cI, 602, .inl (fun j => nI (at0 j)))), (aU1, .inl (cI, 602, .inl (fun j => nI (sp0 j)))), (aU2, .inl (cI, 602, .inl (fun j => nI (bs0 j)))), (aU3, .inl (cI, 602, .inl sh0)), (aU4, .inl (cI, 602, .inl (fun j => nI (cl0 j)))), (aC, .inr (1, [.ref aC0, .ref aC1, .ref aC2, .ref aC3, .ref aC4])), (aC0, .inl (cI, 21092, .inl (upd hd ed (hd z)))), (aC1, .inl (cI, 21092, .inl (fun j => nI ((updN ar ed (ar z)) j)))), (aC2, .inl (cI, 21092, .inl (fun j => nI ((updN sz ed 1) j)))), (aC3, .inl (cI, 21092, .inl (fun j => nI ((updN lv ed l1) j)))), (aC4, .inl (cI, 21092, .inl (fun j => nI (wh j))))]) i_U ft_U ft_U_ok n_U S hW 0 rfl rfl 10 (by decide) kf_U_40 rfl rfl rfl (Nat.le_of_ble_eq_true rfl) rfl d_U_step_207 (fun H locs hW => ?_)
          refine lv_aload_n S.1 S.2.1 d_U_step_210 rfl (lv_at hl 5 rfl) ?_
          refine g_get i_U S hW 0 rfl rfl 1 (by decide) kf_U_11 rfl d_U_step_211 ?_
          refine lv_aload_n S.1 S.2.1 d_U_step_214 rfl (lv_at hl 5 rfl) ?_
          refine g_get i_U S hW 0 rfl rfl 6 (by decide) kf_U_27 rfl d_U_step_215 ?_
          refine lv_dup2_11 S.1 S.2.1 d_U_step_218 rfl rfl ?_
          refine n_iald S hW 1 0 rfl rfl (by decide) (by omega) d_U_step_219 ?_
          refine top_eq (y := nI (at0 q)) rfl ?_
          refine lv_iconst (v := (nI 1)) S.1 S.2.1 d_U_step_220 (by decide) ?_
          refine n_iadd S d_U_step_221 ?_
          refine n_iast (ws2 := [(aU, .inr (6, [.ref aC, .ref aU0, .ref aU1, .ref aU2, .ref aU3, .ref aU4, .int (nI q), .int (nI x), .int (nI ma), .int (nI fr0), .int (nI (ed + 1))])), (aU0, .inl (cI, 602, .inl (upd (fun j => nI (at0 j)) q (nI ((at0 q) + 1))))), (aU1, .inl (cI, 602, .inl (fun j => nI (sp0 j)))), (aU2, .inl (cI, 602, .inl (fun j => nI (bs0 j)))), (aU3, .inl (cI, 602, .inl sh0)), (aU4, .inl (cI, 602, .inl (fun j => nI (cl0 j)))), (aC, .inr (1, [.ref aC0, .ref aC1, .ref aC2, .ref aC3, .ref aC4])), (aC0, .inl (cI, 21092, .inl (upd hd ed (hd z)))), (aC1, .inl (cI, 21092, .inl (fun j => nI ((updN ar ed (ar z)) j)))), (aC2, .inl (cI, 21092, .inl (fun j => nI ((updN sz ed 1) j)))), (aC3, .inl (cI, 21092, .inl (fun j => nI ((updN lv ed l1) j)))), (aC4, .inl (cI, 21092, .inl (fun j => nI (wh j))))]) S hW 1 0 rfl rfl (by decide) (by omega) rfl d_U_step_222 (fun H locs hW => ?_)
          have hW : Wd D (tyl cI cJ cB cZ) A s s.heap H locs [(aU, .inr (6, [.ref aC, .ref aU0, .ref aU1, .ref aU2, .ref aU3, .ref aU4, .int (nI q), .int (nI x), .int (nI ma), .int (nI fr0), .int (nI (ed + 1))])), (aU0, .inl (cI, 602, .inl (fun j => nI (updN at0 q ((at0 q) + 1) j)))), (aU1, .inl (cI, 602, .inl (fun j => nI (sp0 j)))), (aU2, .inl (cI, 602, .inl (fun j => nI (bs0 j)))), (aU3, .inl (cI, 602, .inl sh0)), (aU4, .inl (cI, 602, .inl (fun j => nI (cl0 j)))), (aC, .inr (1, [.ref aC0, .ref aC1, .ref aC2, .ref aC3, .ref aC4])), (aC0, .inl (cI, 21092, .inl (upd hd ed (hd z)))), (aC1, .inl (cI, 21092, .inl (fun j => nI ((updN ar ed (ar z)) j)))), (aC2, .inl (cI, 21092, .inl (fun j => nI ((updN sz ed 1) j)))), (aC3, .inl (cI, 21092, .inl (fun j => nI ((updN lv ed l1) j)))), (aC4, .inl (cI, 21092, .inl (fun j => nI (wh j))))] := by have q := hW; rw [nI_upd] at q; exact q
          refine lv_iconst (v := (nI 1)) S.1 S.2.1 d_U_step_223 (by decide) ?_
          exact ret _ _ _ _ _ _ d_U_step_224 rfl (by first | exact (Or.inl ⟨c_145, c_130, rfl, rfl⟩) | exact (Or.inr (Or.inl ⟨c_145, (by omega), c_130, rfl, rfl⟩))) hW
      · refine lv_iconst (v := (nI 0)) S.1 S.2.1 d_U_step_133 (by decide) ?_
        exact ret _ _ _ _ _ _ d_U_step_134 rfl (Or.inr (Or.inr (Or.inl ⟨(by omega), (by omega), rfl, rfl⟩))) hW
    · refine lv_iconst (v := (nI 1)) S.1 S.2.1 d_U_step_62 (by decide) ?_
      refine lv_goto (tgt := 96) S.1 S.2.1 d_U_step_63 (by decide) ?_
      refine lv_istore (lv' := [(5, .int (nI 1)), (4, .int (nI 1)), (3, .int (nI l1)), (2, .int (nI w)), (0, .ref aU), (1, .int (nI z))]) S.1 S.2.1 d_U_step_96 hl (by decide) rfl (fun ls hl => ?_)
      refine lv_iload S.1 S.2.1 d_U_step_98 (lv_at hl 0 rfl) ?_
      refine lv_if_eq (tgt := 118) S.1 S.2.1 d_U_step_100 (by decide) (fun h => absurd h (by decide)) (fun _ => ?_)
      refine lv_aload_n S.1 S.2.1 d_U_step_103 rfl (lv_at hl 4 rfl) ?_
      refine g_get i_U S hW 0 rfl rfl 6 (by decide) kf_U_27 rfl d_U_step_104 ?_
      refine lv_iconst (v := (nI 1)) S.1 S.2.1 d_U_step_107 (by decide) ?_
      refine n_iadd S d_U_step_108 ?_
      refine lv_sipush (v := (nI 602)) S.1 S.2.1 d_U_step_109 (by decide) ?_
      refine n_icmp_lt (tgt := 135) S (by omega) (by omega) d_U_step_112 (by decide) (fun c_112 => ?_) (fun c_112 => ?_)
      · refine lv_iload S.1 S.2.1 d_U_step_135 (lv_at hl 0 rfl) ?_
        refine lv_if_ne (tgt := 225) S.1 S.2.1 d_U_step_137 (by decide) (fun _ => ?_) (fun h => absurd h (by decide))
        refine lv_aload_n S.1 S.2.1 d_U_step_225 rfl (lv_at hl 4 rfl) ?_
        refine g_get i_U S hW 0 rfl rfl 1 (by decide) kf_U_11 rfl d_U_step_226 ?_
        refine lv_aload_n S.1 S.2.1 d_U_step_229 rfl (lv_at hl 4 rfl) ?_
        refine g_get i_U S hW 0 rfl rfl 6 (by decide) kf_U_27 rfl d_U_step_230 ?_
        refine lv_dup2_11 S.1 S.2.1 d_U_step_233 rfl rfl ?_
        refine n_iald S hW 1 0 rfl rfl (by decide) (by omega) d_U_step_234 ?_
        refine top_eq (y := nI (at0 q)) rfl ?_
        refine lv_aload_n S.1 S.2.1 d_U_step_235 rfl (lv_at hl 4 rfl) ?_
        refine g_get i_U S hW 0 rfl rfl 0 (by decide) kf_U_43 rfl d_U_step_236 ?_
        refine g_get i_C S hW 6 rfl rfl 2 (by decide) kf_U_52 rfl d_U_step_239 ?_
        refine lv_iload_n S.1 S.2.1 d_U_step_242 rfl (lv_at hl 5 rfl) ?_
        refine n_iald S hW 9 0 rfl rfl (by decide) (by omega) d_U_step_243 ?_
        refine top_eq (y := nI (sz z)) rfl ?_
        refine n_iadd S d_U_step_244 ?_
        refine n_iast (ws2 := [(aU, .inr (6, [.ref aC, .ref aU0, .ref aU1, .ref aU2, .ref aU3, .ref aU4, .int (nI q), .int (nI x), .int (nI ma), .int (nI fr0), .int (nI ed)])), (aU0, .inl (cI, 602, .inl (upd (fun j => nI (at0 j)) q (nI ((at0 q) + (sz z)))))), (aU1, .inl (cI, 602, .inl (fun j => nI (sp0 j)))), (aU2, .inl (cI, 602, .inl (fun j => nI (bs0 j)))), (aU3, .inl (cI, 602, .inl sh0)), (aU4, .inl (cI, 602, .inl (fun j => nI (cl0 j)))), (aC, .inr (1, [.ref aC0, .ref aC1, .ref aC2, .ref aC3, .ref aC4])), (aC0, .inl (cI, 21092, .inl hd)), (aC1, .inl (cI, 21092, .inl (fun j => nI (ar j)))), (aC2, .inl (cI, 21092, .inl (fun j => nI (sz j)))), (aC3, .inl (cI, 21092, .inl (fun j => nI (lv j)))), (aC4, .inl (cI, 21092, .inl (fun j => nI (wh j))))]) S hW 1 0 rfl rfl (by decide) (by omega) rfl d_U_step_245 (fun H locs hW => ?_)
        have hW : Wd D (tyl cI cJ cB cZ) A s s.heap H locs [(aU, .inr (6, [.ref aC, .ref aU0, .ref aU1, .ref aU2, .ref aU3, .ref aU4, .int (nI q), .int (nI x), .int (nI ma), .int (nI fr0), .int (nI ed)])), (aU0, .inl (cI, 602, .inl (fun j => nI (updN at0 q ((at0 q) + (sz z)) j)))), (aU1, .inl (cI, 602, .inl (fun j => nI (sp0 j)))), (aU2, .inl (cI, 602, .inl (fun j => nI (bs0 j)))), (aU3, .inl (cI, 602, .inl sh0)), (aU4, .inl (cI, 602, .inl (fun j => nI (cl0 j)))), (aC, .inr (1, [.ref aC0, .ref aC1, .ref aC2, .ref aC3, .ref aC4])), (aC0, .inl (cI, 21092, .inl hd)), (aC1, .inl (cI, 21092, .inl (fun j => nI (ar j)))), (aC2, .inl (cI, 21092, .inl (fun j => nI (sz j)))), (aC3, .inl (cI, 21092, .inl (fun j => nI (lv j)))), (aC4, .inl (cI, 21092, .inl (fun j => nI (wh j))))] := by have q := hW; rw [nI_upd] at q; exact q
        refine lv_iload S.1 S.2.1 d_U_step_246 (lv_at hl 1 rfl) ?_
        refine lv_if_eq (tgt := 283) S.1 S.2.1 d_U_step_248 (by decide) (fun h => absurd h (by decide)) (fun _ => ?_)
        refine lv_aload_n S.1 S.2.1 d_U_step_251 rfl (lv_at hl 4 rfl) ?_
        refine lv_aload_n S.1 S.2.1 d_U_step_252 rfl (lv_at hl 4 rfl) ?_
        refine g_get i_U S hW 0 rfl rfl 8 (by decide) kf_U_34 rfl d_U_step_253 ?_
        refine lv_aload_n S.1 S.2.1 d_U_step_256 rfl (lv_at hl 4 rfl) ?_
        refine g_get i_U S hW 0 rfl rfl 0 (by decide) kf_U_43 rfl d_U_step_257 ?_
        refine g_get i_C S hW 6 rfl rfl 1 (by decide) kf_U_81 rfl d_U_step_260 ?_
        refine lv_iload_n S.1 S.2.1 d_U_step_263 rfl (lv_at hl 5 rfl) ?_
        refine n_iald S hW 8 0 rfl rfl (by decide) (by omega) d_U_step_264 ?_
        refine top_eq (y := nI (ar z)) rfl ?_
        refine n_iadd S d_U_step_265 ?_
        refine lv_iload_n S.1 S.2.1 d_U_step_266 rfl (lv_at hl 2 rfl) ?_
        refine callV_v (wr := []) (wc := [(aU, .inr (6, [.ref aC, .ref aU0, .ref aU1, .ref aU2, .ref aU3, .ref aU4, .int (nI q), .int (nI x), .int (nI ma), .int (nI fr0), .int (nI ed)])), (aU0, .inl (cI, 602, .inl (fun j => nI ((updN at0 q ((at0 q) + (sz z))) j)))), (aU1, .inl (cI, 602, .inl (fun j => nI (sp0 j)))), (aU2, .inl (cI, 602, .inl (fun j => nI (bs0 j)))), (aU3, .inl (cI, 602, .inl sh0)), (aU4, .inl (cI, 602, .inl (fun j => nI (cl0 j)))), (aC, .inr (1, [.ref aC0, .ref aC1, .ref aC2, .ref aC3, .ref aC4])), (aC0, .inl (cI, 21092, .inl hd)), (aC1, .inl (cI, 21092, .inl (fun j => nI (ar j)))), (aC2, .inl (cI, 21092, .inl (fun j => nI (sz j)))), (aC3, .inl (cI, 21092, .inl (fun j => nI (lv j)))), (aC4, .inl (cI, 21092, .inl (fun j => nI (wh j))))]) (np := 2) (As := [.int (nI (ma + (ar z))), .int (nI l1)]) (rest := []) (c_U_push l D cI cJ cB cZ aU aU0 aU1 aU2 aU3 aU4 aC aC0 aC1 aC2 aC3 aC4 hd ar sz lv wh (updN at0 q ((at0 q) + (sz z))) sp0 bs0 cl0 sh0 (nI q) (nI x) (nI ma) (nI fr0) (nI ed) (q + 1) (ma + (ar z)) l1 (nI_add _ _) (by omega) (hev (by omega) c_59)) km_U_59 ki_U_push kv_U_push kz_U kk_U_push (by decide +kernel) S hW hA ⟨Nat.le_of_ble_eq_true rfl, Nat.le_of_ble_eq_true rfl⟩ ⟨Nat.le_of_ble_eq_true rfl, Nat.le_of_ble_eq_true rfl⟩ rfl 0 rfl [0, 1, 2, 3, 4, 5, 6, 7, 8, 9, 10, 11] [] rfl (by decide) rfl (by decide) (by decide) rfl hl.1 rfl (Nat.le_of_ble_eq_true rfl) d_U_step_267 (fun u H locs hp hW => ?_)
        obtain rfl := hp
        have hW : Wd D (tyl cI cJ cB cZ) A s s.heap H locs [(aU, .inr (6, [.ref aC, .ref aU0, .ref aU1, .ref aU2, .ref aU3, .ref aU4, .int (nI (q + 1)), .int (nI x), .int (nI ma), .int (nI fr0), .int (nI ed)])), (aU0, .inl (cI, 602, .inl (fun j => nI ((updN (updN at0 q ((at0 q) + (sz z))) (q + 1) (ma + (ar z))) j)))), (aU1, .inl (cI, 602, .inl (fun j => nI ((updN sp0 (q + 1) ((ma + (ar z)) + sz (ma + (ar z)))) j)))), (aU2, .inl (cI, 602, .inl (fun j => nI ((updN bs0 (q + 1) (lv (ma + (ar z)))) j)))), (aU3, .inl (cI, 602, .inl (upd sh0 (q + 1) (nI l1 - nI (lv (ma + (ar z))))))), (aU4, .inl (cI, 602, .inl (fun j => nI (cl0 j)))), (aC, .inr (1, [.ref aC0, .ref aC1, .ref aC2, .ref aC3, .ref aC4])), (aC0, .inl (cI, 21092, .inl hd)), (aC1, .inl (cI, 21092, .inl (fun j => nI (ar j)))), (aC2, .inl (cI, 21092, .inl (fun j => nI (sz j)))), (aC3, .inl (cI, 21092, .inl (fun j => nI (lv j)))), (aC4, .inl (cI, 21092, .inl (fun j => nI (wh j))))] := hW
        refine lv_aload_n S.1 S.2.1 d_U_step_270 rfl (lv_at hl 4 rfl) ?_
        refine g_get i_U S hW 0 rfl rfl 5 (by decide) kf_U_24 rfl d_U_step_271 ?_
        refine lv_aload_n S.1 S.2.1 d_U_step_274 rfl (lv_at hl 4 rfl) ?_
        refine g_get i_U S hW 0 rfl rfl 6 (by decide) kf_U_27 rfl d_U_step_275 ?_
        refine lv_iload_n S.1 S.2.1 d_U_step_278 rfl (lv_at hl 5 rfl) ?_
        refine n_iast (ws2 := [(aU, .inr (6, [.ref aC, .ref aU0, .ref aU1, .ref aU2, .ref aU3, .ref aU4, .int (nI (q + 1)), .int (nI x), .int (nI ma), .int (nI fr0), .int (nI ed)])), (aU0, .inl (cI, 602, .inl (fun j => nI ((updN (updN at0 q ((at0 q) + (sz z))) (q + 1) (ma + (ar z))) j)))), (aU1, .inl (cI, 602, .inl (fun j => nI ((updN sp0 (q + 1) ((ma + (ar z)) + sz (ma + (ar z)))) j)))), (aU2, .inl (cI, 602, .inl (fun j => nI ((updN bs0 (q + 1) (lv (ma + (ar z)))) j)))), (aU3, .inl (cI, 602, .inl (upd sh0 (q + 1) (nI l1 - nI (lv (ma + (ar z))))))), (aU4, .inl (cI, 602, .inl (upd (fun j => nI (cl0 j)) (q + 1) (nI z)))), (aC, .inr (1, [.ref aC0, .ref aC1, .ref aC2, .ref aC3, .ref aC4])), (aC0, .inl (cI, 21092, .inl hd)), (aC1, .inl (cI, 21092, .inl (fun j => nI (ar j)))), (aC2, .inl (cI, 21092, .inl (fun j => nI (sz j)))), (aC3, .inl (cI, 21092, .inl (fun j => nI (lv j)))), (aC4, .inl (cI, 21092, .inl (fun j => nI (wh j))))]) S hW 5 0 rfl rfl (by decide) (by omega) rfl d_U_step_279 (fun H locs hW => ?_)
        have hW : Wd D (tyl cI cJ cB cZ) A s s.heap H locs [(aU, .inr (6, [.ref aC, .ref aU0, .ref aU1, .ref aU2, .ref aU3, .ref aU4, .int (nI (q + 1)), .int (nI x), .int (nI ma), .int (nI fr0), .int (nI ed)])), (aU0, .inl (cI, 602, .inl (fun j => nI ((updN (updN at0 q ((at0 q) + (sz z))) (q + 1) (ma + (ar z))) j)))), (aU1, .inl (cI, 602, .inl (fun j => nI ((updN sp0 (q + 1) ((ma + (ar z)) + sz (ma + (ar z)))) j)))), (aU2, .inl (cI, 602, .inl (fun j => nI ((updN bs0 (q + 1) (lv (ma + (ar z)))) j)))), (aU3, .inl (cI, 602, .inl (upd sh0 (q + 1) (nI l1 - nI (lv (ma + (ar z))))))), (aU4, .inl (cI, 602, .inl (fun j => nI (updN cl0 (q + 1) z j)))), (aC, .inr (1, [.ref aC0, .ref aC1, .ref aC2, .ref aC3, .ref aC4])), (aC0, .inl (cI, 21092, .inl hd)), (aC1, .inl (cI, 21092, .inl (fun j => nI (ar j)))), (aC2, .inl (cI, 21092, .inl (fun j => nI (sz j)))), (aC3, .inl (cI, 21092, .inl (fun j => nI (lv j)))), (aC4, .inl (cI, 21092, .inl (fun j => nI (wh j))))] := by have q := hW; rw [nI_upd] at q; exact q
        refine lv_goto (tgt := 310) S.1 S.2.1 d_U_step_280 (by decide) ?_
        refine lv_iconst (v := (nI 1)) S.1 S.2.1 d_U_step_310 (by decide) ?_
        exact ret _ _ _ _ _ _ d_U_step_311 rfl (by first | exact (Or.inr (Or.inr (Or.inr (Or.inr (Or.inl ⟨(by omega), c_59, (by omega), rfl, rfl⟩))))) | exact (Or.inr (Or.inr (Or.inr (Or.inr (Or.inr ⟨(by omega), c_75, c_88, (by omega), rfl, rfl⟩)))))) hW
      · refine lv_goto (tgt := 133) S.1 S.2.1 d_U_step_115 (by decide) ?_
        refine lv_iconst (v := (nI 0)) S.1 S.2.1 d_U_step_133 (by decide) ?_
        exact ret _ _ _ _ _ _ d_U_step_134 rfl (Or.inr (Or.inr (Or.inr (Or.inl ⟨(by omega), rfl, rfl⟩)))) hW
set_option maxHeartbeats 4000000 in
set_option maxRecDepth 100000 in
theorem c_U_step_f (l : Launch) (D : va_G) (cI cJ cB cZ : ClassId) (aU aU0 aU1 aU2 aU3 aU4 aC aC0 aC1 aC2 aC3 aC4 : Nat) (hd : Nat → Int32) (ar sz lv wh : Nat → Nat) (at0 sp0 bs0 cl0 : Nat → Nat) (sh0 : Nat → Int32) (z q x ma fr0 ed l1 : Nat) (hz : z < 21092) (hl1 : nI (lv z) + sh0 q = nI l1) (hq : q < 602) (hed : ed < 21092) (hfe : fr0 ≤ ed) (hx : x < 1000000) (hfx : hd z - nI 48 < 0) : Ci l D (tyl cI cJ cB cZ) y_U_step b_U_step 7 (some .boolean) ({ frames := 1, cells := 0, slots := 0, locals := 24 } : Room) [.ref aU, .int (nI z)] [(aU, .inr (6, [.ref aC, .ref aU0, .ref aU1, .ref aU2, .ref aU3, .ref aU4, .int (nI q), .int (nI x), .int (nI ma), .int (nI fr0), .int (nI ed)])), (aU0, .inl (cI, 602, .inl (fun j => nI (at0 j)))), (aU1, .inl (cI, 602, .inl (fun j => nI (sp0 j)))), (aU2, .inl (cI, 602, .inl (fun j => nI (bs0 j)))), (aU3, .inl (cI, 602, .inl sh0)), (aU4, .inl (cI, 602, .inl (fun j => nI (cl0 j)))), (aC, .inr (1, [.ref aC0, .ref aC1, .ref aC2, .ref aC3, .ref aC4])), (aC0, .inl (cI, 21092, .inl hd)), (aC1, .inl (cI, 21092, .inl (fun j => nI (ar j)))), (aC2, .inl (cI, 21092, .inl (fun j => nI (sz j)))), (aC3, .inl (cI, 21092, .inl (fun j => nI (lv j)))), (aC4, .inl (cI, 21092, .inl (fun j => nI (wh j))))] (fun r u => ((ed - fr0 < 300) ∧ r = (nI 1) ∧ u = [(aU, .inr (6, [.ref aC, .ref aU0, .ref aU1, .ref aU2, .ref aU3, .ref aU4, .int (nI q), .int (nI x), .int (nI ma), .int (nI fr0), .int (nI (ed + 1))])), (aU0, .inl (cI, 602, .inl (fun j => nI ((updN at0 q (at0 q + 1)) j)))), (aU1, .inl (cI, 602, .inl (fun j => nI (sp0 j)))), (aU2, .inl (cI, 602, .inl (fun j => nI (bs0 j)))), (aU3, .inl (cI, 602, .inl sh0)), (aU4, .inl (cI, 602, .inl (fun j => nI (cl0 j)))), (aC, .inr (1, [.ref aC0, .ref aC1, .ref aC2, .ref aC3, .ref aC4])), (aC0, .inl (cI, 21092, .inl (upd hd ed (hd z)))), (aC1, .inl (cI, 21092, .inl (fun j => nI ((updN ar ed (ar z)) j)))), (aC2, .inl (cI, 21092, .inl (fun j => nI ((updN sz ed 1) j)))), (aC3, .inl (cI, 21092, .inl (fun j => nI ((updN lv ed l1) j)))), (aC4, .inl (cI, 21092, .inl (fun j => nI (wh j))))]) ∨ ((300 ≤ ed - fr0) ∧ r = (nI 0) ∧ u = [(aU, .inr (6, [.ref aC, .ref aU0, .ref aU1, .ref aU2, .ref aU3, .ref aU4, .int (nI q), .int (nI x), .int (nI ma), .int (nI fr0), .int (nI ed)])), (aU0, .inl (cI, 602, .inl (fun j => nI (at0 j)))), (aU1, .inl (cI, 602, .inl (fun j => nI (sp0 j)))), (aU2, .inl (cI, 602, .inl (fun j => nI (bs0 j)))), (aU3, .inl (cI, 602, .inl sh0)), (aU4, .inl (cI, 602, .inl (fun j => nI (cl0 j)))), (aC, .inr (1, [.ref aC0, .ref aC1, .ref aC2, .ref aC3, .ref aC4])), (aC0, .inl (cI, 21092, .inl hd)), (aC1, .inl (cI, 21092, .inl (fun j => nI (ar j)))), (aC2, .inl (cI, 21092, .inl (fun j => nI (sz j)))), (aC3, .inl (cI, 21092, .inl (fun j => nI (lv j)))), (aC4, .inl (cI, 21092, .inl (fun j => nI (wh j))))])) := by
  refine met_i (own := "ProofReader$Putter") (by decide) rfl (Nat.le_of_ble_eq_true rfl) ?_
  intro p e s m args below meth c A Q S hA ret ls hl hW
  have hl : lv_has ls 7 [(0, .ref aU), (1, .int (nI z))] := hl
  have hW : Wd D (tyl cI cJ cB cZ) A s s.heap s.heap [] [(aU, .inr (6, [.ref aC, .ref aU0, .ref aU1, .ref aU2, .ref aU3, .ref aU4, .int (nI q), .int (nI x), .int (nI ma), .int (nI fr0), .int (nI ed)])), (aU0, .inl (cI, 602, .inl (fun j => nI (at0 j)))), (aU1, .inl (cI, 602, .inl (fun j => nI (sp0 j)))), (aU2, .inl (cI, 602, .inl (fun j => nI (bs0 j)))), (aU3, .inl (cI, 602, .inl sh0)), (aU4, .inl (cI, 602, .inl (fun j => nI (cl0 j)))), (aC, .inr (1, [.ref aC0, .ref aC1, .ref aC2, .ref aC3, .ref aC4])), (aC0, .inl (cI, 21092, .inl hd)), (aC1, .inl (cI, 21092, .inl (fun j => nI (ar j)))), (aC2, .inl (cI, 21092, .inl (fun j => nI (sz j)))), (aC3, .inl (cI, 21092, .inl (fun j => nI (lv j)))), (aC4, .inl (cI, 21092, .inl (fun j => nI (wh j))))] := hW
  refine lv_aload_n S.1 S.2.1 d_U_step_0 rfl (lv_at hl 0 rfl) ?_
  refine g_get i_U S hW 0 rfl rfl 0 (by decide) kf_U_43 rfl d_U_step_1 ?_
  refine g_get i_C S hW 6 rfl rfl 0 (by decide) kf_U_75 rfl d_U_step_4 ?_
  refine lv_iload_n S.1 S.2.1 d_U_step_7 rfl (lv_at hl 1 rfl) ?_
  refine n_iald S hW 7 0 rfl rfl (by decide) (by omega) d_U_step_8 ?_
  refine lv_bipush (v := (nI 48)) S.1 S.2.1 d_U_step_9 (by decide) ?_
  refine lv_isub S.1 S.2.1 d_U_step_11 ?_
  refine lv_istore_n (lv' := [(2, .int ((hd z) - (nI 48))), (0, .ref aU), (1, .int (nI z))]) S.1 S.2.1 d_U_step_12 rfl hl (by decide) rfl (fun ls hl => ?_)
  refine lv_aload_n S.1 S.2.1 d_U_step_13 rfl (lv_at hl 1 rfl) ?_
  refine g_get i_U S hW 0 rfl rfl 0 (by decide) kf_U_43 rfl d_U_step_14 ?_
  refine g_get i_C S hW 6 rfl rfl 3 (by decide) kf_U_47 rfl d_U_step_17 ?_
  refine lv_iload_n S.1 S.2.1 d_U_step_20 rfl (lv_at hl 2 rfl) ?_
  refine n_iald S hW 10 0 rfl rfl (by decide) (by omega) d_U_step_21 ?_
  refine top_eq (y := nI (lv z)) rfl ?_
  refine lv_aload_n S.1 S.2.1 d_U_step_22 rfl (lv_at hl 1 rfl) ?_
  refine g_get i_U S hW 0 rfl rfl 4 (by decide) kf_U_21 rfl d_U_step_23 ?_
  refine lv_aload_n S.1 S.2.1 d_U_step_26 rfl (lv_at hl 1 rfl) ?_
  refine g_get i_U S hW 0 rfl rfl 6 (by decide) kf_U_27 rfl d_U_step_27 ?_
  refine n_iald S hW 4 0 rfl rfl (by decide) (by omega) d_U_step_30 ?_
  refine lv_iadd S.1 S.2.1 d_U_step_31 ?_
  refine top_eq (y := (nI l1)) hl1 ?_
  refine lv_istore_n (lv' := [(3, .int (nI l1)), (2, .int ((hd z) - (nI 48))), (0, .ref aU), (1, .int (nI z))]) S.1 S.2.1 d_U_step_32 rfl hl (by decide) rfl (fun ls hl => ?_)
  refine lv_aload_n S.1 S.2.1 d_U_step_33 rfl (lv_at hl 2 rfl) ?_
  refine g_get i_U S hW 0 rfl rfl 6 (by decide) kf_U_27 rfl d_U_step_34 ?_
  refine lv_iconst (v := (nI 2)) S.1 S.2.1 d_U_step_37 (by decide) ?_
  refine lv_irem S.1 S.2.1 d_U_step_38 (by decide) ?_
  refine top_eq (y := (nI (q % 2))) (pk_rem (by omega) (by omega) (by omega)) ?_
  refine n_if_ne (tgt := 46) S (by omega) d_U_step_39 (by decide) (fun c_39 => ?_) (fun c_39 => ?_)
  · refine lv_iconst (v := (nI 0)) S.1 S.2.1 d_U_step_46 (by decide) ?_
    refine lv_istore (lv' := [(4, .int (nI 0)), (3, .int (nI l1)), (2, .int ((hd z) - (nI 48))), (0, .ref aU), (1, .int (nI z))]) S.1 S.2.1 d_U_step_47 hl (by decide) rfl (fun ls hl => ?_)
    refine lv_iload S.1 S.2.1 d_U_step_49 (lv_at hl 0 rfl) ?_
    refine lv_if_eq (tgt := 70) S.1 S.2.1 d_U_step_51 (by decide) (fun _ => ?_) (fun h => absurd h (by decide))
    refine lv_iload_n S.1 S.2.1 d_U_step_70 rfl (lv_at hl 2 rfl) ?_
    refine lv_aload_n S.1 S.2.1 d_U_step_71 rfl (lv_at hl 3 rfl) ?_
    refine g_get i_U S hW 0 rfl rfl 7 (by decide) kf_U_31 rfl d_U_step_72 ?_
    refine lv_icmp_lt (tgt := 95) S.1 S.2.1 d_U_step_75 (by decide) (fun c_75 => ?_) (fun c_75 => absurd c_75 (fun k => k (fx_lt hfx (by omega))))
    refine lv_iconst (v := (nI 0)) S.1 S.2.1 d_U_step_95 (by decide) ?_
    refine lv_istore (lv' := [(5, .int (nI 0)), (4, .int (nI 0)), (3, .int (nI l1)), (2, .int ((hd z) - (nI 48))), (0, .ref aU), (1, .int (nI z))]) S.1 S.2.1 d_U_step_96 hl (by decide) rfl (fun ls hl => ?_)
    refine lv_iload S.1 S.2.1 d_U_step_98 (lv_at hl 0 rfl) ?_
    refine lv_if_eq (tgt := 118) S.1 S.2.1 d_U_step_100 (by decide) (fun _ => ?_) (fun h => absurd h (by decide))
    refine lv_aload_n S.1 S.2.1 d_U_step_118 rfl (lv_at hl 4 rfl) ?_
    refine g_get i_U S hW 0 rfl rfl 10 (by decide) kf_U_40 rfl d_U_step_119 ?_
    refine lv_aload_n S.1 S.2.1 d_U_step_122 rfl (lv_at hl 4 rfl) ?_
    refine g_get i_U S hW 0 rfl rfl 9 (by decide) kf_U_37 rfl d_U_step_123 ?_
    refine n_isub S (by omega) d_U_step_126 ?_
    refine lv_sipush (v := (nI 300)) S.1 S.2.1 d_U_step_127 (by decide) ?_
    refine n_icmp_lt (tgt := 135) S (by omega) (by omega) d_U_step_130 (by decide) (fun c_130 => ?_) (fun c_130 => ?_)
    · refine lv_iload S.1 S.2.1 d_U_step_135 (lv_at hl 0 rfl) ?_
      refine lv_if_ne (tgt := 225) S.1 S.2.1 d_U_step_137 (by decide) (fun h => absurd h (by decide)) (fun _ => ?_)
      refine lv_iload_n S.1 S.2.1 d_U_step_140 rfl (lv_at hl 3 rfl) ?_
      refine lv_aload_n S.1 S.2.1 d_U_step_141 rfl (lv_at hl 4 rfl) ?_
      refine g_get i_U S hW 0 rfl rfl 7 (by decide) kf_U_31 rfl d_U_step_142 ?_
      refine lv_icmp_ge (tgt := 160) S.1 S.2.1 d_U_step_145 (by decide) (fun c_145 => absurd c_145 (fx_ge hfx (by omega))) (fun c_145 => ?_)
      refine lv_aload_n S.1 S.2.1 d_U_step_148 rfl (lv_at hl 4 rfl) ?_
      refine g_get i_U S hW 0 rfl rfl 0 (by decide) kf_U_43 rfl d_U_step_149 ?_
      refine g_get i_C S hW 6 rfl rfl 0 (by decide) kf_U_75 rfl d_U_step_152 ?_
      refine lv_iload_n S.1 S.2.1 d_U_step_155 rfl (lv_at hl 5 rfl) ?_
      refine n_iald S hW 7 0 rfl rfl (by decide) (by omega) d_U_step_156 ?_
      refine lv_goto (tgt := 175) S.1 S.2.1 d_U_step_157 (by decide) ?_
      refine lv_istore (lv' := [(6, .int (hd z)), (5, .int (nI 0)), (4, .int (nI 0)), (3, .int (nI l1)), (2, .int ((hd z) - (nI 48))), (0, .ref aU), (1, .int (nI z))]) S.1 S.2.1 d_U_step_175 hl (by decide) rfl (fun ls hl => ?_)
      refine lv_aload_n S.1 S.2.1 d_U_step_177 rfl (lv_at hl 5 rfl) ?_
      refine g_get i_U S hW 0 rfl rfl 0 (by decide) kf_U_43 rfl d_U_step_178 ?_
      refine lv_aload_n S.1 S.2.1 d_U_step_181 rfl (lv_at hl 5 rfl) ?_
      refine g_get i_U S hW 0 rfl rfl 10 (by decide) kf_U_40 rfl d_U_step_182 ?_
      refine lv_iload S.1 S.2.1 d_U_step_185 (lv_at hl 0 rfl) ?_
      refine lv_aload_n S.1 S.2.1 d_U_step_187 rfl (lv_at hl 5 rfl) ?_
      refine g_get i_U S hW 0 rfl rfl 0 (by decide) kf_U_43 rfl d_U_step_188 ?_
      refine g_get i_C S hW 6 rfl rfl 1 (by decide) kf_U_81 rfl d_U_step_191 ?_
      refine lv_iload_n S.1 S.2.1 d_U_step_194 rfl (lv_at hl 6 rfl) ?_
      refine n_iald S hW 8 0 rfl rfl (by decide) (by omega) d_U_step_195 ?_
      refine top_eq (y := nI (ar z)) rfl ?_
      refine lv_iload_n S.1 S.2.1 d_U_step_196 rfl (lv_at hl 3 rfl) ?_
      refine callV_v (wr := [(aU, .inr (6, [.ref aC, .ref aU0, .ref aU1, .ref aU2, .ref aU3, .ref aU4, .int (nI q), .int (nI x), .int (nI ma), .int (nI fr0), .int (nI ed)])), (aU0, .inl (cI, 602, .inl (fun j => nI (at0 j)))), (aU1, .inl (cI, 602, .inl (fun j => nI (sp0 j)))), (aU2, .inl (cI, 602, .inl (fun j => nI (bs0 j)))), (aU3, .inl (cI, 602, .inl sh0)), (aU4, .inl (cI, 602, .inl (fun j => nI (cl0 j))))]) (wc := [(aC, .inr (1, [.ref aC0, .ref aC1, .ref aC2, .ref aC3, .ref aC4])), (aC0, .inl (cI, 21092, .inl hd)), (aC1, .inl (cI, 21092, .inl (fun j => nI (ar j)))), (aC2, .inl (cI, 21092, .inl (fun j => nI (sz j)))), (aC3, .inl (cI, 21092, .inl (fun j => nI (lv j)))), (aC4, .inl (cI, 21092, .inl (fun j => nI (wh j))))]) (np := 4) (As := [.int (nI ed), .int (hd z), .int (nI (ar z)), .int (nI l1)]) (rest := []) (c_C_write l D cI cJ cB cZ aC aC0 aC1 aC2 aC3 aC4 hd ar sz lv wh ed (ar z) l1 (hd z) hed) km_U_84 ki_C_write kv_C_write kz_C kk_C_write (by decide +kernel) S hW hA ⟨Nat.le_of_ble_eq_true rfl, Nat.le_of_ble_eq_true rfl⟩ ⟨Nat.le_of_ble_eq_true rfl, Nat.le_of_ble_eq_true rfl⟩ rfl 0 rfl [6, 7, 8, 9, 10, 11] [0, 1, 2, 3, 4, 5] rfl (by decide) rfl (by decide) (by decide) rfl hl.1 rfl (Nat.le_of_ble_eq_true rfl) d_U_step_197 (fun u H locs hp hW => ?_)
      obtain rfl := hp
      have hW : Wd D (tyl cI cJ cB cZ) A s s.heap H locs [(aU, .inr (6, [.ref aC, .ref aU0, .ref aU1, .ref aU2, .ref aU3, .ref aU4, .int (nI q), .int (nI x), .int (nI ma), .int (nI fr0), .int (nI ed)])), (aU0, .inl (cI, 602, .inl (fun j => nI (at0 j)))), (aU1, .inl (cI, 602, .inl (fun j => nI (sp0 j)))), (aU2, .inl (cI, 602, .inl (fun j => nI (bs0 j)))), (aU3, .inl (cI, 602, .inl sh0)), (aU4, .inl (cI, 602, .inl (fun j => nI (cl0 j)))), (aC, .inr (1, [.ref aC0, .ref aC1, .ref aC2, .ref aC3, .ref aC4])), (aC0, .inl (cI, 21092, .inl (upd hd ed (hd z)))), (aC1, .inl (cI, 21092, .inl (fun j => nI ((updN ar ed (ar z)) j)))), (aC2, .inl (cI, 21092, .inl (fun j => nI ((updN sz ed 1) j)))), (aC3, .inl (cI, 21092, .inl (fun j => nI ((updN lv ed l1) j)))), (aC4, .inl (cI, 21092, .inl (fun j => nI (wh j))))] := hW
      refine lv_aload_n S.1 S.2.1 d_U_step_200 rfl (lv_at hl 5 rfl) ?_
      refine lv_dup S.1 S.2.1 d_U_step_201 rfl ?_
      refine g_get i_U S hW 0 rfl rfl 10 (by decide) kf_U_40 rfl d_U_step_202 ?_
      refine lv_iconst (v := (nI 1)) S.1 S.2.1 d_U_step_205 (by decide) ?_
      refine n_iadd S d_U_step_206 ?_
      refine g_put (ws2 := [(aU, .inr (6, [.ref aC, .ref aU0, .ref aU1, .ref aU2, .ref aU3, .ref aU4, .int (nI q), .int (nI x), .int (nI ma), .int (nI fr0), .int (nI (ed + 1))])), (aU0, .inl (cI, 602, .inl (fun j => nI (at0 j)))), (aU1, .inl (cI, 602, .inl (fun j => nI (sp0 j)))), (aU2, .inl (cI, 602, .inl (fun j => nI (bs0 j)))), (aU3, .inl (cI, 602, .inl sh0)), (aU4, .inl (cI, 602, .inl (fun j => nI (cl0 j)))), (aC, .inr (1, [.ref aC0, .ref aC1, .ref aC2, .ref aC3, .ref aC4])), (aC0, .inl (cI, 21092, .inl (upd hd ed (hd z)))), (aC1, .inl (cI, 21092, .inl (fun j => nI ((updN ar ed (ar z)) j)))), (aC2, .inl (cI, 21092, .inl (fun j => nI ((updN sz ed 1) j)))), (aC3, .inl (cI, 21092, .inl (fun j => nI ((updN lv ed l1) j)))), (aC4, .inl (cI, 21092, .inl (fun j => nI (wh j))))]) i_U ft_U ft_U_ok n_U S hW 0 rfl rfl 10 (by decide) kf_U_40 rfl rfl rfl (Nat.le_of_ble_eq_true rfl) rfl d_U_step_207 (fun H locs hW => ?_)
      refine lv_aload_n S.1 S.2.1 d_U_step_210 rfl (lv_at hl 5 rfl) ?_
      refine g_get i_U S hW 0 rfl rfl 1 (by decide) kf_U_11 rfl d_U_step_211 ?_
      refine lv_aload_n S.1 S.2.1 d_U_step_214 rfl (lv_at hl 5 rfl) ?_
      refine g_get i_U S hW 0 rfl rfl 6 (by decide) kf_U_27 rfl d_U_step_215 ?_
      refine lv_dup2_11 S.1 S.2.1 d_U_step_218 rfl rfl ?_
      refine n_iald S hW 1 0 rfl rfl (by decide) (by omega) d_U_step_219 ?_
      refine top_eq (y := nI (at0 q)) rfl ?_
      refine lv_iconst (v := (nI 1)) S.1 S.2.1 d_U_step_220 (by decide) ?_
      refine n_iadd S d_U_step_221 ?_
      refine n_iast (ws2 := [(aU, .inr (6, [.ref aC, .ref aU0, .ref aU1, .ref aU2, .ref aU3, .ref aU4, .int (nI q), .int (nI x), .int (nI ma), .int (nI fr0), .int (nI (ed + 1))])), (aU0, .inl (cI, 602, .inl (upd (fun j => nI (at0 j)) q (nI ((at0 q) + 1))))), (aU1, .inl (cI, 602, .inl (fun j => nI (sp0 j)))), (aU2, .inl (cI, 602, .inl (fun j => nI (bs0 j)))), (aU3, .inl (cI, 602, .inl sh0)), (aU4, .inl (cI, 602, .inl (fun j => nI (cl0 j)))), (aC, .inr (1, [.ref aC0, .ref aC1, .ref aC2, .ref aC3, .ref aC4])), (aC0, .inl (cI, 21092, .inl (upd hd ed (hd z)))), (aC1, .inl (cI, 21092, .inl (fun j => nI ((updN ar ed (ar z)) j)))), (aC2, .inl (cI, 21092, .inl (fun j => nI ((updN sz ed 1) j)))), (aC3, .inl (cI, 21092, .inl (fun j => nI ((updN lv ed l1) j)))), (aC4, .inl (cI, 21092, .inl (fun j => nI (wh j))))]) S hW 1 0 rfl rfl (by decide) (by omega) rfl d_U_step_222 (fun H locs hW => ?_)
      have hW : Wd D (tyl cI cJ cB cZ) A s s.heap H locs [(aU, .inr (6, [.ref aC, .ref aU0, .ref aU1, .ref aU2, .ref aU3, .ref aU4, .int (nI q), .int (nI x), .int (nI ma), .int (nI fr0), .int (nI (ed + 1))])), (aU0, .inl (cI, 602, .inl (fun j => nI (updN at0 q ((at0 q) + 1) j)))), (aU1, .inl (cI, 602, .inl (fun j => nI (sp0 j)))), (aU2, .inl (cI, 602, .inl (fun j => nI (bs0 j)))), (aU3, .inl (cI, 602, .inl sh0)), (aU4, .inl (cI, 602, .inl (fun j => nI (cl0 j)))), (aC, .inr (1, [.ref aC0, .ref aC1, .ref aC2, .ref aC3, .ref aC4])), (aC0, .inl (cI, 21092, .inl (upd hd ed (hd z)))), (aC1, .inl (cI, 21092, .inl (fun j => nI ((updN ar ed (ar z)) j)))), (aC2, .inl (cI, 21092, .inl (fun j => nI ((updN sz ed 1) j)))), (aC3, .inl (cI, 21092, .inl (fun j => nI ((updN lv ed l1) j)))), (aC4, .inl (cI, 21092, .inl (fun j => nI (wh j))))] := by have q := hW; rw [nI_upd] at q; exact q
      refine lv_iconst (v := (nI 1)) S.1 S.2.1 d_U_step_223 (by decide) ?_
      exact ret _ _ _ _ _ _ d_U_step_224 rfl (Or.inl ⟨(by omega), rfl, rfl⟩) hW
    · refine lv_iconst (v := (nI 0)) S.1 S.2.1 d_U_step_133 (by decide) ?_
      exact ret _ _ _ _ _ _ d_U_step_134 rfl (Or.inr ⟨(by omega), rfl, rfl⟩) hW
  · refine lv_iconst (v := (nI 1)) S.1 S.2.1 d_U_step_42 (by decide) ?_
    refine lv_goto (tgt := 47) S.1 S.2.1 d_U_step_43 (by decide) ?_
    refine lv_istore (lv' := [(4, .int (nI 1)), (3, .int (nI l1)), (2, .int ((hd z) - (nI 48))), (0, .ref aU), (1, .int (nI z))]) S.1 S.2.1 d_U_step_47 hl (by decide) rfl (fun ls hl => ?_)
    refine lv_iload S.1 S.2.1 d_U_step_49 (lv_at hl 0 rfl) ?_
    refine lv_if_eq (tgt := 70) S.1 S.2.1 d_U_step_51 (by decide) (fun h => absurd h (by decide)) (fun _ => ?_)
    refine lv_iload_n S.1 S.2.1 d_U_step_54 rfl (lv_at hl 2 rfl) ?_
    refine lv_aload_n S.1 S.2.1 d_U_step_55 rfl (lv_at hl 3 rfl) ?_
    refine g_get i_U S hW 0 rfl rfl 7 (by decide) kf_U_31 rfl d_U_step_56 ?_
    refine lv_icmp_ne (tgt := 66) S.1 S.2.1 d_U_step_59 (by decide) (fun c_59 => ?_) (fun c_59 => absurd c_59 (fx_ne hfx (by omega)))
    refine lv_iconst (v := (nI 0)) S.1 S.2.1 d_U_step_66 (by decide) ?_
    refine lv_goto (tgt := 96) S.1 S.2.1 d_U_step_67 (by decide) ?_
    refine lv_istore (lv' := [(5, .int (nI 0)), (4, .int (nI 1)), (3, .int (nI l1)), (2, .int ((hd z) - (nI 48))), (0, .ref aU), (1, .int (nI z))]) S.1 S.2.1 d_U_step_96 hl (by decide) rfl (fun ls hl => ?_)
    refine lv_iload S.1 S.2.1 d_U_step_98 (lv_at hl 0 rfl) ?_
    refine lv_if_eq (tgt := 118) S.1 S.2.1 d_U_step_100 (by decide) (fun _ => ?_) (fun h => absurd h (by decide))
    refine lv_aload_n S.1 S.2.1 d_U_step_118 rfl (lv_at hl 4 rfl) ?_
    refine g_get i_U S hW 0 rfl rfl 10 (by decide) kf_U_40 rfl d_U_step_119 ?_
    refine lv_aload_n S.1 S.2.1 d_U_step_122 rfl (lv_at hl 4 rfl) ?_
    refine g_get i_U S hW 0 rfl rfl 9 (by decide) kf_U_37 rfl d_U_step_123 ?_
    refine n_isub S (by omega) d_U_step_126 ?_
    refine lv_sipush (v := (nI 300)) S.1 S.2.1 d_U_step_127 (by decide) ?_
    refine n_icmp_lt (tgt := 135) S (by omega) (by omega) d_U_step_130 (by decide) (fun c_130 => ?_) (fun c_130 => ?_)
    · refine lv_iload S.1 S.2.1 d_U_step_135 (lv_at hl 0 rfl) ?_
      refine lv_if_ne (tgt := 225) S.1 S.2.1 d_U_step_137 (by decide) (fun h => absurd h (by decide)) (fun _ => ?_)
      refine lv_iload_n S.1 S.2.1 d_U_step_140 rfl (lv_at hl 3 rfl) ?_
      refine lv_aload_n S.1 S.2.1 d_U_step_141 rfl (lv_at hl 4 rfl) ?_
      refine g_get i_U S hW 0 rfl rfl 7 (by decide) kf_U_31 rfl d_U_step_142 ?_
      refine lv_icmp_ge (tgt := 160) S.1 S.2.1 d_U_step_145 (by decide) (fun c_145 => absurd c_145 (fx_ge hfx (by omega))) (fun c_145 => ?_)
      refine lv_aload_n S.1 S.2.1 d_U_step_148 rfl (lv_at hl 4 rfl) ?_
      refine g_get i_U S hW 0 rfl rfl 0 (by decide) kf_U_43 rfl d_U_step_149 ?_
      refine g_get i_C S hW 6 rfl rfl 0 (by decide) kf_U_75 rfl d_U_step_152 ?_
      refine lv_iload_n S.1 S.2.1 d_U_step_155 rfl (lv_at hl 5 rfl) ?_
      refine n_iald S hW 7 0 rfl rfl (by decide) (by omega) d_U_step_156 ?_
      refine lv_goto (tgt := 175) S.1 S.2.1 d_U_step_157 (by decide) ?_
      refine lv_istore (lv' := [(6, .int (hd z)), (5, .int (nI 0)), (4, .int (nI 1)), (3, .int (nI l1)), (2, .int ((hd z) - (nI 48))), (0, .ref aU), (1, .int (nI z))]) S.1 S.2.1 d_U_step_175 hl (by decide) rfl (fun ls hl => ?_)
      refine lv_aload_n S.1 S.2.1 d_U_step_177 rfl (lv_at hl 5 rfl) ?_
      refine g_get i_U S hW 0 rfl rfl 0 (by decide) kf_U_43 rfl d_U_step_178 ?_
      refine lv_aload_n S.1 S.2.1 d_U_step_181 rfl (lv_at hl 5 rfl) ?_
      refine g_get i_U S hW 0 rfl rfl 10 (by decide) kf_U_40 rfl d_U_step_182 ?_
      refine lv_iload S.1 S.2.1 d_U_step_185 (lv_at hl 0 rfl) ?_
      refine lv_aload_n S.1 S.2.1 d_U_step_187 rfl (lv_at hl 5 rfl) ?_
      refine g_get i_U S hW 0 rfl rfl 0 (by decide) kf_U_43 rfl d_U_step_188 ?_
      refine g_get i_C S hW 6 rfl rfl 1 (by decide) kf_U_81 rfl d_U_step_191 ?_
      refine lv_iload_n S.1 S.2.1 d_U_step_194 rfl (lv_at hl 6 rfl) ?_
      refine n_iald S hW 8 0 rfl rfl (by decide) (by omega) d_U_step_195 ?_
      refine top_eq (y := nI (ar z)) rfl ?_
      refine lv_iload_n S.1 S.2.1 d_U_step_196 rfl (lv_at hl 3 rfl) ?_
      refine callV_v (wr := [(aU, .inr (6, [.ref aC, .ref aU0, .ref aU1, .ref aU2, .ref aU3, .ref aU4, .int (nI q), .int (nI x), .int (nI ma), .int (nI fr0), .int (nI ed)])), (aU0, .inl (cI, 602, .inl (fun j => nI (at0 j)))), (aU1, .inl (cI, 602, .inl (fun j => nI (sp0 j)))), (aU2, .inl (cI, 602, .inl (fun j => nI (bs0 j)))), (aU3, .inl (cI, 602, .inl sh0)), (aU4, .inl (cI, 602, .inl (fun j => nI (cl0 j))))]) (wc := [(aC, .inr (1, [.ref aC0, .ref aC1, .ref aC2, .ref aC3, .ref aC4])), (aC0, .inl (cI, 21092, .inl hd)), (aC1, .inl (cI, 21092, .inl (fun j => nI (ar j)))), (aC2, .inl (cI, 21092, .inl (fun j => nI (sz j)))), (aC3, .inl (cI, 21092, .inl (fun j => nI (lv j)))), (aC4, .inl (cI, 21092, .inl (fun j => nI (wh j))))]) (np := 4) (As := [.int (nI ed), .int (hd z), .int (nI (ar z)), .int (nI l1)]) (rest := []) (c_C_write l D cI cJ cB cZ aC aC0 aC1 aC2 aC3 aC4 hd ar sz lv wh ed (ar z) l1 (hd z) hed) km_U_84 ki_C_write kv_C_write kz_C kk_C_write (by decide +kernel) S hW hA ⟨Nat.le_of_ble_eq_true rfl, Nat.le_of_ble_eq_true rfl⟩ ⟨Nat.le_of_ble_eq_true rfl, Nat.le_of_ble_eq_true rfl⟩ rfl 0 rfl [6, 7, 8, 9, 10, 11] [0, 1, 2, 3, 4, 5] rfl (by decide) rfl (by decide) (by decide) rfl hl.1 rfl (Nat.le_of_ble_eq_true rfl) d_U_step_197 (fun u H locs hp hW => ?_)
      obtain rfl := hp
      have hW : Wd D (tyl cI cJ cB cZ) A s s.heap H locs [(aU, .inr (6, [.ref aC, .ref aU0, .ref aU1, .ref aU2, .ref aU3, .ref aU4, .int (nI q), .int (nI x), .int (nI ma), .int (nI fr0), .int (nI ed)])), (aU0, .inl (cI, 602, .inl (fun j => nI (at0 j)))), (aU1, .inl (cI, 602, .inl (fun j => nI (sp0 j)))), (aU2, .inl (cI, 602, .inl (fun j => nI (bs0 j)))), (aU3, .inl (cI, 602, .inl sh0)), (aU4, .inl (cI, 602, .inl (fun j => nI (cl0 j)))), (aC, .inr (1, [.ref aC0, .ref aC1, .ref aC2, .ref aC3, .ref aC4])), (aC0, .inl (cI, 21092, .inl (upd hd ed (hd z)))), (aC1, .inl (cI, 21092, .inl (fun j => nI ((updN ar ed (ar z)) j)))), (aC2, .inl (cI, 21092, .inl (fun j => nI ((updN sz ed 1) j)))), (aC3, .inl (cI, 21092, .inl (fun j => nI ((updN lv ed l1) j)))), (aC4, .inl (cI, 21092, .inl (fun j => nI (wh j))))] := hW
      refine lv_aload_n S.1 S.2.1 d_U_step_200 rfl (lv_at hl 5 rfl) ?_
      refine lv_dup S.1 S.2.1 d_U_step_201 rfl ?_
      refine g_get i_U S hW 0 rfl rfl 10 (by decide) kf_U_40 rfl d_U_step_202 ?_
      refine lv_iconst (v := (nI 1)) S.1 S.2.1 d_U_step_205 (by decide) ?_
      refine n_iadd S d_U_step_206 ?_
      refine g_put (ws2 := [(aU, .inr (6, [.ref aC, .ref aU0, .ref aU1, .ref aU2, .ref aU3, .ref aU4, .int (nI q), .int (nI x), .int (nI ma), .int (nI fr0), .int (nI (ed + 1))])), (aU0, .inl (cI, 602, .inl (fun j => nI (at0 j)))), (aU1, .inl (cI, 602, .inl (fun j => nI (sp0 j)))), (aU2, .inl (cI, 602, .inl (fun j => nI (bs0 j)))), (aU3, .inl (cI, 602, .inl sh0)), (aU4, .inl (cI, 602, .inl (fun j => nI (cl0 j)))), (aC, .inr (1, [.ref aC0, .ref aC1, .ref aC2, .ref aC3, .ref aC4])), (aC0, .inl (cI, 21092, .inl (upd hd ed (hd z)))), (aC1, .inl (cI, 21092, .inl (fun j => nI ((updN ar ed (ar z)) j)))), (aC2, .inl (cI, 21092, .inl (fun j => nI ((updN sz ed 1) j)))), (aC3, .inl (cI, 21092, .inl (fun j => nI ((updN lv ed l1) j)))), (aC4, .inl (cI, 21092, .inl (fun j => nI (wh j))))]) i_U ft_U ft_U_ok n_U S hW 0 rfl rfl 10 (by decide) kf_U_40 rfl rfl rfl (Nat.le_of_ble_eq_true rfl) rfl d_U_step_207 (fun H locs hW => ?_)
      refine lv_aload_n S.1 S.2.1 d_U_step_210 rfl (lv_at hl 5 rfl) ?_
      refine g_get i_U S hW 0 rfl rfl 1 (by decide) kf_U_11 rfl d_U_step_211 ?_
      refine lv_aload_n S.1 S.2.1 d_U_step_214 rfl (lv_at hl 5 rfl) ?_
      refine g_get i_U S hW 0 rfl rfl 6 (by decide) kf_U_27 rfl d_U_step_215 ?_
      refine lv_dup2_11 S.1 S.2.1 d_U_step_218 rfl rfl ?_
      refine n_iald S hW 1 0 rfl rfl (by decide) (by omega) d_U_step_219 ?_
      refine top_eq (y := nI (at0 q)) rfl ?_
      refine lv_iconst (v := (nI 1)) S.1 S.2.1 d_U_step_220 (by decide) ?_
      refine n_iadd S d_U_step_221 ?_
      refine n_iast (ws2 := [(aU, .inr (6, [.ref aC, .ref aU0, .ref aU1, .ref aU2, .ref aU3, .ref aU4, .int (nI q), .int (nI x), .int (nI ma), .int (nI fr0), .int (nI (ed + 1))])), (aU0, .inl (cI, 602, .inl (upd (fun j => nI (at0 j)) q (nI ((at0 q) + 1))))), (aU1, .inl (cI, 602, .inl (fun j => nI (sp0 j)))), (aU2, .inl (cI, 602, .inl (fun j => nI (bs0 j)))), (aU3, .inl (cI, 602, .inl sh0)), (aU4, .inl (cI, 602, .inl (fun j => nI (cl0 j)))), (aC, .inr (1, [.ref aC0, .ref aC1, .ref aC2, .ref aC3, .ref aC4])), (aC0, .inl (cI, 21092, .inl (upd hd ed (hd z)))), (aC1, .inl (cI, 21092, .inl (fun j => nI ((updN ar ed (ar z)) j)))), (aC2, .inl (cI, 21092, .inl (fun j => nI ((updN sz ed 1) j)))), (aC3, .inl (cI, 21092, .inl (fun j => nI ((updN lv ed l1) j)))), (aC4, .inl (cI, 21092, .inl (fun j => nI (wh j))))]) S hW 1 0 rfl rfl (by decide) (by omega) rfl d_U_step_222 (fun H locs hW => ?_)
      have hW : Wd D (tyl cI cJ cB cZ) A s s.heap H locs [(aU, .inr (6, [.ref aC, .ref aU0, .ref aU1, .ref aU2, .ref aU3, .ref aU4, .int (nI q), .int (nI x), .int (nI ma), .int (nI fr0), .int (nI (ed + 1))])), (aU0, .inl (cI, 602, .inl (fun j => nI (updN at0 q ((at0 q) + 1) j)))), (aU1, .inl (cI, 602, .inl (fun j => nI (sp0 j)))), (aU2, .inl (cI, 602, .inl (fun j => nI (bs0 j)))), (aU3, .inl (cI, 602, .inl sh0)), (aU4, .inl (cI, 602, .inl (fun j => nI (cl0 j)))), (aC, .inr (1, [.ref aC0, .ref aC1, .ref aC2, .ref aC3, .ref aC4])), (aC0, .inl (cI, 21092, .inl (upd hd ed (hd z)))), (aC1, .inl (cI, 21092, .inl (fun j => nI ((updN ar ed (ar z)) j)))), (aC2, .inl (cI, 21092, .inl (fun j => nI ((updN sz ed 1) j)))), (aC3, .inl (cI, 21092, .inl (fun j => nI ((updN lv ed l1) j)))), (aC4, .inl (cI, 21092, .inl (fun j => nI (wh j))))] := by have q := hW; rw [nI_upd] at q; exact q
      refine lv_iconst (v := (nI 1)) S.1 S.2.1 d_U_step_223 (by decide) ?_
      exact ret _ _ _ _ _ _ d_U_step_224 rfl (Or.inl ⟨(by omega), rfl, rfl⟩) hW
    · refine lv_iconst (v := (nI 0)) S.1 S.2.1 d_U_step_133 (by decide) ?_
      exact ret _ _ _ _ _ _ d_U_step_134 rfl (Or.inr ⟨(by omega), rfl, rfl⟩) hW
