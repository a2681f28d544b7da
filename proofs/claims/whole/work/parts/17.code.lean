/-- where the i-th argument of the application at z stands -/
def argp (sz : Nat → Nat) (z : Nat) : Nat → Nat
  | 0 => z + 1
  | i + 1 => argp sz z i + sz (argp sz z i)
theorem cpy_nI (f g : Nat → Nat) (a b n : Nat) : va_cpy (fun j => nI (f j)) (fun j => nI (g j)) a b n = fun j => nI (va_cpy f g a b n j) := by
  funext j
  unfold va_cpy
  split <;> rfl
theorem kw_native : Cond.native arraycopyName ∈ tb := tbm 600 (by decide +kernel) (by decide +kernel)
theorem kk_max : Cond.code Lib.Math.max.name Lib.Math.max.code 2 (some .int) ∈ tb := tbm 944 (by decide +kernel) (by decide +kernel)
section KX
variable {p : Program} {l : Launch} {e : Env} {R : Room} {s : State} {m : MethodId} {args : Array Value} {below : List Frame} {meth : Method} {c : Code} {H : Heap} {locs : List Loc} {cells slots : Nat} {Q : State → Prop}
variable {cc : ByteArray} {nL pc : Nat} {ls : Array Slot} {rest : List Value} {D : va_G} {A : Nat → Prop} {a : Nat} {tys : Tys} {ws : va_W} {H0 : Heap} {own : String}
theorem n_copy {index : Nat} (S : CallFix p m c cc nL s args tb own) (hW : Wd D tys A s H0 H locs ws) (hlink : Cond.methodLink own index arraycopyName ∈ tb) (q0 q1 : Nat) {a0 : Nat} {cI : ClassId} {n0 n1 : Nat} {f g : Nat → Int32} (ha0 : ws[q0]? = some (a0, .inl (cI, n0, .inl f))) (ha1 : ws[q1]? = some (a, .inl (cI, n1, .inl g))) (ht : tys[0]? = some (cI, .int)) (hls : ls.size = nL) (b0 : n0 < 2 ^ 31) (b1 : n1 < 2 ^ 31) {sp dp n : Nat} (h4 : sp + n ≤ n0) (h5 : dp + n ≤ n1) {ws2 : va_W} (h2 : ws.set q1 (a, .inl (cI, n1, .inl (va_cpy f g sp dp n))) = ws2)
    (hframes : 1 ≤ R.frames) (hlocals : 8 + (nativeFrameWords "java/lang/System" "arraycopy" 5 + 11) ≤ R.locals) (hdg : decode cc pc = .ok (.invokestatic index, 3)) (kk : ∀ (H1 : Heap) (locs1 : List Loc), Wd D tys A s H0 H1 locs1 ws2 → W p l e R s m args below meth c H1 locs1 cells slots Q (F0 m (pc + 3) ls [])) : W p l e R s m args below meth c H locs cells slots Q (F0 m pc ls (.int (nI n) :: .int (nI dp) :: .ref a :: .int (nI sp) :: .ref a0 :: [])) := by
  subst h2
  have e1 : (nI sp).toNatClampNeg = sp := nI_clamp (by omega)
  have e2 : (nI dp).toNatClampNeg = dp := nI_clamp (by omega)
  have e3 : (nI n).toNatClampNeg = n := nI_clamp (by omega)
  refine va_copyi S.1 S.2.1 (S.2.2.1.trans hls.symm) S.2.2.2.1 (S.2.2.2.2 _ hlink) (S.2.2.2.2 _ kw_native) (S.2.2.2.2 _ ks_arraycopy) (S.2.2.2.2 _ kz_System) hW.1.1 hW.2.1 hW.2.2.1 hW.2.2.2 q0 q1 0 0 ha0 ha1 ht ht rfl (nI_pos (by omega)) (nI_pos (by omega)) (nI_pos (by omega)) (by rw [e1, e3]; exact h4) (by rw [e2, e3]; exact h5) (fun _ _ => rfl) hframes (Nat.le_trans (by simp) hlocals) hdg (fun H1 locs1 h1 h2 h3 => ?_)
  rw [e1, e2, e3] at h1 h2
  exact kk H1 locs1 ⟨hW.1, h1, h2, h3⟩
end KX
/-- a row of nodes is lifted: levels and own variables grow by d, in the first i nodes from t on -/
def lfH (h : Nat → Int32) (t own d i : Nat) : Nat → Int32 := fun j => if t ≤ j ∧ j < t + i ∧ ¬ h j < nI own then h j + nI d else h j
def lfL (f : Nat → Nat) (t d i : Nat) : Nat → Nat := fun j => if t ≤ j ∧ j < t + i then f j + d else f j
theorem lfH_0 (h : Nat → Int32) (t own d : Nat) : h = lfH h t own d 0 := by
  funext j
  unfold lfH
  rw [if_neg (by omega)]
theorem lfL_0 (f : Nat → Nat) (t d : Nat) : f = lfL f t d 0 := by
  funext j
  unfold lfL
  rw [if_neg (by omega)]
theorem lfH_at (h : Nat → Int32) (t own d i : Nat) : lfH h t own d i (t + i) = h (t + i) := by
  unfold lfH
  rw [if_neg (by omega)]
theorem lfH_up {h h1 : Nat → Int32} {t own d i : Nat} (e : h1 = lfH h t own d i) (c : ¬ h1 (t + i) < nI own) : upd h1 (t + i) (h1 (t + i) + nI d) = lfH h t own d (i + 1) := by
  subst e
  rw [lfH_at] at c ⊢
  funext j
  by_cases q : j = t + i
  · subst q
    simp only [upd, if_true, lfH]
    rw [if_pos ⟨by omega, by omega, c⟩]
  · simp only [upd, if_neg q, lfH]
    by_cases y : t ≤ j ∧ j < t + i ∧ ¬ h j < nI own
    · rw [if_pos y, if_pos ⟨y.1, by omega, y.2.2⟩]
    · rw [if_neg y, if_neg (fun x => y ⟨x.1, by omega, x.2.2⟩)]
theorem lfH_no {h h1 : Nat → Int32} {t own d i : Nat} (e : h1 = lfH h t own d i) (c : h1 (t + i) < nI own) : h1 = lfH h t own d (i + 1) := by
  subst e
  rw [lfH_at] at c
  funext j
  simp only [lfH]
  by_cases q : j = t + i
  · subst q
    rw [if_neg (by omega), if_neg (fun x => x.2.2 c)]
  · by_cases y : t ≤ j ∧ j < t + i ∧ ¬ h j < nI own
    · rw [if_pos y, if_pos ⟨y.1, by omega, y.2.2⟩]
    · rw [if_neg y, if_neg (fun x => y ⟨x.1, by omega, x.2.2⟩)]
theorem lfL_up {f f1 : Nat → Nat} {t d i : Nat} (e : f1 = lfL f t d i) : updN f1 (t + i) (f1 (t + i) + d) = lfL f t d (i + 1) := by
  subst e
  funext j
  by_cases q : j = t + i
  · subst q
    simp only [updN, if_true, lfL]
    rw [if_neg (by omega), if_pos (by omega)]
  · simp only [updN, if_neg q, lfL]
    by_cases y : t ≤ j ∧ j < t + i
    · rw [if_pos y, if_pos ⟨y.1, by omega⟩]
    · rw [if_neg y, if_neg (fun x => y ⟨x.1, by omega⟩)]
/-- two rows of nodes are the same -/
def SameR (hd : Nat → Int32) (ar sz : Nat → Nat) (z q : Nat) : Prop := sz z = sz q ∧ ∀ i, i < sz z → hd (z + i) = hd (q + i) ∧ ar (z + i) = ar (q + i)
theorem d_C_write_0 : decode b_C_write 0 = .ok (.aload_n 0, 1) := by decide +kernel
theorem d_C_write_1 : decode b_C_write 1 = .ok (.getfield 11, 3) := by decide +kernel
theorem d_C_write_4 : decode b_C_write 4 = .ok (.iload_n 1, 1) := by decide +kernel
theorem d_C_write_5 : decode b_C_write 5 = .ok (.iload_n 2, 1) := by decide +kernel
theorem d_C_write_6 : decode b_C_write 6 = .ok (.iastore, 1) := by decide +kernel
theorem d_C_write_7 : decode b_C_write 7 = .ok (.aload_n 0, 1) := by decide +kernel
theorem d_C_write_8 : decode b_C_write 8 = .ok (.getfield 15, 3) := by decide +kernel
theorem d_C_write_11 : decode b_C_write 11 = .ok (.iload_n 1, 1) := by decide +kernel
theorem d_C_write_12 : decode b_C_write 12 = .ok (.iload_n 3, 1) := by decide +kernel
theorem d_C_write_13 : decode b_C_write 13 = .ok (.iastore, 1) := by decide +kernel
theorem d_C_write_14 : decode b_C_write 14 = .ok (.aload_n 0, 1) := by decide +kernel
theorem d_C_write_15 : decode b_C_write 15 = .ok (.getfield 18, 3) := by decide +kernel
theorem d_C_write_18 : decode b_C_write 18 = .ok (.iload_n 1, 1) := by decide +kernel
theorem d_C_write_19 : decode b_C_write 19 = .ok (.iconst 1, 1) := by decide +kernel
theorem d_C_write_20 : decode b_C_write 20 = .ok (.iastore, 1) := by decide +kernel
theorem d_C_write_21 : decode b_C_write 21 = .ok (.aload_n 0, 1) := by decide +kernel
theorem d_C_write_22 : decode b_C_write 22 = .ok (.getfield 21, 3) := by decide +kernel
theorem d_C_write_25 : decode b_C_write 25 = .ok (.iload_n 1, 1) := by decide +kernel
theorem d_C_write_26 : decode b_C_write 26 = .ok (.iload 4, 2) := by decide +kernel
theorem d_C_write_28 : decode b_C_write 28 = .ok (.iastore, 1) := by decide +kernel
theorem d_C_write_29 : decode b_C_write 29 = .ok (.return_, 1) := by decide +kernel
set_option maxHeartbeats 4000000 in
set_option maxRecDepth 100000 in
theorem c_C_write (l : Launch) (D : va_G) (cI cJ cB cZ : ClassId) (aC aC0 aC1 aC2 aC3 aC4 : Nat) (hd : Nat → Int32) (ar sz lv wh : Nat → Nat) (z a1 l1 : Nat) (h1 : Int32) (hz : z < 21092) : Cv l D (tyl cI cJ cB cZ) y_C_write b_C_write 5 ({ frames := 0, cells := 0, slots := 0, locals := 0 } : Room) [.ref aC, .int (nI z), .int h1, .int (nI a1), .int (nI l1)] [(aC, .inr (1, [.ref aC0, .ref aC1, .ref aC2, .ref aC3, .ref aC4])), (aC0, .inl (cI, 21092, .inl hd)), (aC1, .inl (cI, 21092, .inl (fun j => nI (ar j)))), (aC2, .inl (cI, 21092, .inl (fun j => nI (sz j)))), (aC3, .inl (cI, 21092, .inl (fun j => nI (lv j)))), (aC4, .inl (cI, 21092, .inl (fun j => nI (wh j))))] (fun u => u = [(aC, .inr (1, [.ref aC0, .ref aC1, .ref aC2, .ref aC3, .ref aC4])), (aC0, .inl (cI, 21092, .inl (upd hd z h1))), (aC1, .inl (cI, 21092, .inl (fun j => nI ((updN ar z a1) j)))), (aC2, .inl (cI, 21092, .inl (fun j => nI ((updN sz z 1) j)))), (aC3, .inl (cI, 21092, .inl (fun j => nI ((updN lv z l1) j)))), (aC4, .inl (cI, 21092, .inl (fun j => nI (wh j))))]) := by
  refine met_v (own := "ProofReader$Code") (by decide) rfl (Nat.le_of_ble_eq_true rfl) ?_
  intro p e s m args below meth c A Q S hin hA ret ls hl hW
  have hl : lv_has ls 5 [(0, .ref aC), (1, .int (nI z)), (2, .int h1), (3, .int (nI a1)), (4, .int (nI l1))] := hl
  have hW : Wd D (tyl cI cJ cB cZ) A s s.heap s.heap [] [(aC, .inr (1, [.ref aC0, .ref aC1, .ref aC2, .ref aC3, .ref aC4])), (aC0, .inl (cI, 21092, .inl hd)), (aC1, .inl (cI, 21092, .inl (fun j => nI (ar j)))), (aC2, .inl (cI, 21092, .inl (fun j => nI (sz j)))), (aC3, .inl (cI, 21092, .inl (fun j => nI (lv j)))), (aC4, .inl (cI, 21092, .inl (fun j => nI (wh j))))] := hW
  refine lv_aload_n S.1 S.2.1 d_C_write_0 rfl (lv_at hl 0 rfl) ?_
  refine g_get i_C S hW 0 rfl rfl 0 (by decide) kf_C_11 rfl d_C_write_1 ?_
  refine lv_iload_n S.1 S.2.1 d_C_write_4 rfl (lv_at hl 1 rfl) ?_
  refine lv_iload_n S.1 S.2.1 d_C_write_5 rfl (lv_at hl 2 rfl) ?_
  refine n_iast (ws2 := [(aC, .inr (1, [.ref aC0, .ref aC1, .ref aC2, .ref aC3, .ref aC4])), (aC0, .inl (cI, 21092, .inl (upd hd z h1))), (aC1, .inl (cI, 21092, .inl (fun j => nI (ar j)))), (aC2, .inl (cI, 21092, .inl (fun j => nI (sz j)))), (aC3, .inl (cI, 21092, .inl (fun j => nI (lv j)))), (aC4, .inl (cI, 21092, .inl (fun j => nI (wh j))))]) S hW 1 0 rfl rfl (by decide) (by omega) rfl d_C_write_6 (fun H locs hW => ?_)
  refine lv_aload_n S.1 S.2.1 d_C_write_7 rfl (lv_at hl 0 rfl) ?_
  refine g_get i_C S hW 0 rfl rfl 1 (by decide) kf_C_15 rfl d_C_write_8 ?_
  refine lv_iload_n S.1 S.2.1 d_C_write_11 rfl (lv_at hl 1 rfl) ?_
  refine lv_iload_n S.1 S.2.1 d_C_write_12 rfl (lv_at hl 3 rfl) ?_
  refine n_iast (ws2 := [(aC, .inr (1, [.ref aC0, .ref aC1, .ref aC2, .ref aC3, .ref aC4])), (aC0, .inl (cI, 21092, .inl (upd hd z h1))), (aC1, .inl (cI, 21092, .inl (upd (fun j => nI (ar j)) z (nI a1)))), (aC2, .inl (cI, 21092, .inl (fun j => nI (sz j)))), (aC3, .inl (cI, 21092, .inl (fun j => nI (lv j)))), (aC4, .inl (cI, 21092, .inl (fun j => nI (wh j))))]) S hW 2 0 rfl rfl (by decide) (by omega) rfl d_C_write_13 (fun H locs hW => ?_)
  have hW : Wd D (tyl cI cJ cB cZ) A s s.heap H locs [(aC, .inr (1, [.ref aC0, .ref aC1, .ref aC2, .ref aC3, .ref aC4])), (aC0, .inl (cI, 21092, .inl (upd hd z h1))), (aC1, .inl (cI, 21092, .inl (fun j => nI (updN ar z a1 j)))), (aC2, .inl (cI, 21092, .inl (fun j => nI (sz j)))), (aC3, .inl (cI, 21092, .inl (fun j => nI (lv j)))), (aC4, .inl (cI, 21092, .inl (fun j => nI (wh j))))] := by have q := hW; rw [nI_upd] at q; exact q
  refine lv_aload_n S.1 S.2.1 d_C_write_14 rfl (lv_at hl 0 rfl) ?_
  refine g_get i_C S hW 0 rfl rfl 2 (by decide) kf_C_18 rfl d_C_write_15 ?_
  refine lv_iload_n S.1 S.2.1 d_C_write_18 rfl (lv_at hl 1 rfl) ?_
  refine lv_iconst (v := (nI 1)) S.1 S.2.1 d_C_write_19 (by decide) ?_
  refine n_iast (ws2 := [(aC, .inr (1, [.ref aC0, .ref aC1, .ref aC2, .ref aC3, .ref aC4])), (aC0, .inl (cI, 21092, .inl (upd hd z h1))), (aC1, .inl (cI, 21092, .inl (fun j => nI (updN ar z a1 j)))), (aC2, .inl (cI, 21092, .inl (upd (fun j => nI (sz j)) z (nI 1)))), (aC3, .inl (cI, 21092, .inl (fun j => nI (lv j)))), (aC4, .inl (cI, 21092, .inl (fun j => nI (wh j))))]) S hW 3 0 rfl rfl (by decide) (by omega) rfl d_C_write_20 (fun H locs hW => ?_)
  have hW : Wd D (tyl cI cJ cB cZ) A s s.heap H locs [(aC, .inr (1, [.ref aC0, .ref aC1, .ref aC2, .ref aC3, .ref aC4])), (aC0, .inl (cI, 21092, .inl (upd hd z h1))), (aC1, .inl (cI, 21092, .inl (fun j => nI (updN ar z a1 j)))), (aC2, .inl (cI, 21092, .inl (fun j => nI (updN sz z 1 j)))), (aC3, .inl (cI, 21092, .inl (fun j => nI (lv j)))), (aC4, .inl (cI, 21092, .inl (fun j => nI (wh j))))] := by have q := hW; rw [nI_upd] at q; exact q
  refine lv_aload_n S.1 S.2.1 d_C_write_21 rfl (lv_at hl 0 rfl) ?_
  refine g_get i_C S hW 0 rfl rfl 3 (by decide) kf_C_21 rfl d_C_write_22 ?_
  refine lv_iload_n S.1 S.2.1 d_C_write_25 rfl (lv_at hl 1 rfl) ?_
  refine lv_iload S.1 S.2.1 d_C_write_26 (lv_at hl 4 rfl) ?_
  refine n_iast (ws2 := [(aC, .inr (1, [.ref aC0, .ref aC1, .ref aC2, .ref aC3, .ref aC4])), (aC0, .inl (cI, 21092, .inl (upd hd z h1))), (aC1, .inl (cI, 21092, .inl (fun j => nI (updN ar z a1 j)))), (aC2, .inl (cI, 21092, .inl (fun j => nI (updN sz z 1 j)))), (aC3, .inl (cI, 21092, .inl (upd (fun j => nI (lv j)) z (nI l1)))), (aC4, .inl (cI, 21092, .inl (fun j => nI (wh j))))]) S hW 4 0 rfl rfl (by decide) (by omega) rfl d_C_write_28 (fun H locs hW => ?_)
  have hW : Wd D (tyl cI cJ cB cZ) A s s.heap H locs [(aC, .inr (1, [.ref aC0, .ref aC1, .ref aC2, .ref aC3, .ref aC4])), (aC0, .inl (cI, 21092, .inl (upd hd z h1))), (aC1, .inl (cI, 21092, .inl (fun j => nI (updN ar z a1 j)))), (aC2, .inl (cI, 21092, .inl (fun j => nI (updN sz z 1 j)))), (aC3, .inl (cI, 21092, .inl (fun j => nI (updN lv z l1 j)))), (aC4, .inl (cI, 21092, .inl (fun j => nI (wh j))))] := by have q := hW; rw [nI_upd] at q; exact q
  exact ret _ _ _ _ _ d_C_write_29 rfl hW
theorem d_C_second_0 : decode b_C_second 0 = .ok (.iload_n 1, 1) := by decide +kernel
theorem d_C_second_1 : decode b_C_second 1 = .ok (.iconst 1, 1) := by decide +kernel
theorem d_C_second_2 : decode b_C_second 2 = .ok (.iadd, 1) := by decide +kernel
theorem d_C_second_3 : decode b_C_second 3 = .ok (.aload_n 0, 1) := by decide +kernel
theorem d_C_second_4 : decode b_C_second 4 = .ok (.getfield 18, 3) := by decide +kernel
theorem d_C_second_7 : decode b_C_second 7 = .ok (.iload_n 1, 1) := by decide +kernel
theorem d_C_second_8 : decode b_C_second 8 = .ok (.iconst 1, 1) := by decide +kernel
theorem d_C_second_9 : decode b_C_second 9 = .ok (.iadd, 1) := by decide +kernel
theorem d_C_second_10 : decode b_C_second 10 = .ok (.iaload, 1) := by decide +kernel
theorem d_C_second_11 : decode b_C_second 11 = .ok (.iadd, 1) := by decide +kernel
theorem d_C_second_12 : decode b_C_second 12 = .ok (.ireturn, 1) := by decide +kernel
set_option maxHeartbeats 4000000 in
set_option maxRecDepth 100000 in
theorem c_C_second (l : Launch) (D : va_G) (cI cJ cB cZ : ClassId) (aC aC0 aC1 aC2 aC3 aC4 : Nat) (hd : Nat → Int32) (ar sz lv wh : Nat → Nat) (z : Nat) (hz : z + 1 < 21092) : Ci l D (tyl cI cJ cB cZ) y_C_second b_C_second 2 (some .int) ({ frames := 0, cells := 0, slots := 0, locals := 0 } : Room) [.ref aC, .int (nI z)] [(aC, .inr (1, [.ref aC0, .ref aC1, .ref aC2, .ref aC3, .ref aC4])), (aC0, .inl (cI, 21092, .inl hd)), (aC1, .inl (cI, 21092, .inl (fun j => nI (ar j)))), (aC2, .inl (cI, 21092, .inl (fun j => nI (sz j)))), (aC3, .inl (cI, 21092, .inl (fun j => nI (lv j)))), (aC4, .inl (cI, 21092, .inl (fun j => nI (wh j))))] (fun r u => r = (nI (z + 1 + sz (z + 1))) ∧ u = [(aC, .inr (1, [.ref aC0, .ref aC1, .ref aC2, .ref aC3, .ref aC4])), (aC0, .inl (cI, 21092, .inl hd)), (aC1, .inl (cI, 21092, .inl (fun j => nI (ar j)))), (aC2, .inl (cI, 21092, .inl (fun j => nI (sz j)))), (aC3, .inl (cI, 21092, .inl (fun j => nI (lv j)))), (aC4, .inl (cI, 21092, .inl (fun j => nI (wh j))))]) := by
  refine met_i (own := "ProofReader$Code") (by decide) rfl (Nat.le_of_ble_eq_true rfl) ?_
  intro p e s m args below meth c A Q S hA ret ls hl hW
  have hl : lv_has ls 2 [(0, .ref aC), (1, .int (nI z))] := hl
  have hW : Wd D (tyl cI cJ cB cZ) A s s.heap s.heap [] [(aC, .inr (1, [.ref aC0, .ref aC1, .ref aC2, .ref aC3, .ref aC4])), (aC0, .inl (cI, 21092, .inl hd)), (aC1, .inl (cI, 21092, .inl (fun j => nI (ar j)))), (aC2, .inl (cI, 21092, .inl (fun j => nI (sz j)))), (aC3, .inl (cI, 21092, .inl (fun j => nI (lv j)))), (aC4, .inl (cI, 21092, .inl (fun j => nI (wh j))))] := hW
  refine lv_iload_n S.1 S.2.1 d_C_second_0 rfl (lv_at hl 1 rfl) ?_
  refine lv_iconst (v := (nI 1)) S.1 S.2.1 d_C_second_1 (by decide) ?_
  refine n_iadd S d_C_second_2 ?_
  refine lv_aload_n S.1 S.2.1 d_C_second_3 rfl (lv_at hl 0 rfl) ?_
  refine g_get i_C S hW 0 rfl rfl 2 (by decide) kf_C_18 rfl d_C_second_4 ?_
  refine lv_iload_n S.1 S.2.1 d_C_second_7 rfl (lv_at hl 1 rfl) ?_
  refine lv_iconst (v := (nI 1)) S.1 S.2.1 d_C_second_8 (by decide) ?_
  refine n_iadd S d_C_second_9 ?_
  refine n_iald S hW 3 0 rfl rfl (by decide) (by omega) d_C_second_10 ?_
  refine top_eq (y := nI (sz (z + 1))) rfl ?_
  refine n_iadd S d_C_second_11 ?_
  exact ret _ _ _ _ _ _ d_C_second_12 rfl ⟨rfl, rfl⟩ hW
theorem d_C_argument_0 : decode b_C_argument 0 = .ok (.iload_n 1, 1) := by decide +kernel
theorem d_C_argument_1 : decode b_C_argument 1 = .ok (.iconst 1, 1) := by decide +kernel
theorem d_C_argument_2 : decode b_C_argument 2 = .ok (.iadd, 1) := by decide +kernel
theorem d_C_argument_3 : decode b_C_argument 3 = .ok (.istore_n 3, 1) := by decide +kernel
theorem d_C_argument_4 : decode b_C_argument 4 = .ok (.iconst 0, 1) := by decide +kernel
theorem d_C_argument_5 : decode b_C_argument 5 = .ok (.istore 4, 2) := by decide +kernel
theorem d_C_argument_7 : decode b_C_argument 7 = .ok (.iload 4, 2) := by decide +kernel
theorem d_C_argument_9 : decode b_C_argument 9 = .ok (.iload_n 2, 1) := by decide +kernel
theorem d_C_argument_10 : decode b_C_argument 10 = .ok (.if_icmp .ge 18, 3) := by decide +kernel
theorem d_C_argument_13 : decode b_C_argument 13 = .ok (.iload_n 3, 1) := by decide +kernel
theorem d_C_argument_14 : decode b_C_argument 14 = .ok (.aload_n 0, 1) := by decide +kernel
theorem d_C_argument_15 : decode b_C_argument 15 = .ok (.getfield 18, 3) := by decide +kernel
theorem d_C_argument_18 : decode b_C_argument 18 = .ok (.iload_n 3, 1) := by decide +kernel
theorem d_C_argument_19 : decode b_C_argument 19 = .ok (.iaload, 1) := by decide +kernel
theorem d_C_argument_20 : decode b_C_argument 20 = .ok (.iadd, 1) := by decide +kernel
theorem d_C_argument_21 : decode b_C_argument 21 = .ok (.istore_n 3, 1) := by decide +kernel
theorem d_C_argument_22 : decode b_C_argument 22 = .ok (.iinc 4 1, 3) := by decide +kernel
theorem d_C_argument_25 : decode b_C_argument 25 = .ok (.goto (-18), 3) := by decide +kernel
theorem d_C_argument_28 : decode b_C_argument 28 = .ok (.iload_n 3, 1) := by decide +kernel
theorem d_C_argument_29 : decode b_C_argument 29 = .ok (.ireturn, 1) := by decide +kernel
set_option maxHeartbeats 4000000 in
set_option maxRecDepth 100000 in
theorem c_C_argument (l : Launch) (D : va_G) (cI cJ cB cZ : ClassId) (aC aC0 aC1 aC2 aC3 aC4 : Nat) (hd : Nat → Int32) (ar sz lv wh : Nat → Nat) (z i : Nat) (hi : ∀ j, j < i → argp sz z j < 21092) (hi2 : i < 2 ^ 31) : Ci l D (tyl cI cJ cB cZ) y_C_argument b_C_argument 5 (some .int) ({ frames := 0, cells := 0, slots := 0, locals := 0 } : Room) [.ref aC, .int (nI z), .int (nI i)] [(aC, .inr (1, [.ref aC0, .ref aC1, .ref aC2, .ref aC3, .ref aC4])), (aC0, .inl (cI, 21092, .inl hd)), (aC1, .inl (cI, 21092, .inl (fun j => nI (ar j)))), (aC2, .inl (cI, 21092, .inl (fun j => nI (sz j)))), (aC3, .inl (cI, 21092, .inl (fun j => nI (lv j)))), (aC4, .inl (cI, 21092, .inl (fun j => nI (wh j))))] (fun r u => r = (nI (argp sz z i)) ∧ u = [(aC, .inr (1, [.ref aC0, .ref aC1, .ref aC2, .ref aC3, .ref aC4])), (aC0, .inl (cI, 21092, .inl hd)), (aC1, .inl (cI, 21092, .inl (fun j => nI (ar j)))), (aC2, .inl (cI, 21092, .inl (fun j => nI (sz j)))), (aC3, .inl (cI, 21092, .inl (fun j => nI (lv j)))), (aC4, .inl (cI, 21092, .inl (fun j => nI (wh j))))]) := by
  refine met_i (own := "ProofReader$Code") (by decide) rfl (Nat.le_of_ble_eq_true rfl) ?_
  intro p e s m args below meth c A Q S hA ret ls hl hW
  have hl : lv_has ls 5 [(0, .ref aC), (1, .int (nI z)), (2, .int (nI i))] := hl
  have hW : Wd D (tyl cI cJ cB cZ) A s s.heap s.heap [] [(aC, .inr (1, [.ref aC0, .ref aC1, .ref aC2, .ref aC3, .ref aC4])), (aC0, .inl (cI, 21092, .inl hd)), (aC1, .inl (cI, 21092, .inl (fun j => nI (ar j)))), (aC2, .inl (cI, 21092, .inl (fun j => nI (sz j)))), (aC3, .inl (cI, 21092, .inl (fun j => nI (lv j)))), (aC4, .inl (cI, 21092, .inl (fun j => nI (wh j))))] := hW
  refine lv_iload_n S.1 S.2.1 d_C_argument_0 rfl (lv_at hl 1 rfl) ?_
  refine lv_iconst (v := (nI 1)) S.1 S.2.1 d_C_argument_1 (by decide) ?_
  refine n_iadd S d_C_argument_2 ?_
  refine lv_istore_n (lv' := [(3, .int (nI (z + 1))), (0, .ref aC), (1, .int (nI z)), (2, .int (nI i))]) S.1 S.2.1 d_C_argument_3 rfl hl (by decide) rfl (fun ls hl => ?_)
  refine lv_iconst (v := (nI 0)) S.1 S.2.1 d_C_argument_4 (by decide) ?_
  refine lv_istore (lv' := [(4, .int (nI 0)), (3, .int (nI (z + 1))), (0, .ref aC), (1, .int (nI z)), (2, .int (nI i))]) S.1 S.2.1 d_C_argument_5 hl (by decide) rfl (fun ls hl => ?_)
  have loop_7 : ∀ (nf : Nat) (j : Nat), i - j < nf → (j ≤ i) → ∀ (H : Heap) (locs : List Loc), Wd D (tyl cI cJ cB cZ) A s s.heap H locs [(aC, .inr (1, [.ref aC0, .ref aC1, .ref aC2, .ref aC3, .ref aC4])), (aC0, .inl (cI, 21092, .inl hd)), (aC1, .inl (cI, 21092, .inl (fun j => nI (ar j)))), (aC2, .inl (cI, 21092, .inl (fun j => nI (sz j)))), (aC3, .inl (cI, 21092, .inl (fun j => nI (lv j)))), (aC4, .inl (cI, 21092, .inl (fun j => nI (wh j))))] → ∀ (ls : Array Slot), lv_has ls 5 [(4, .int (nI j)), (3, .int (nI (argp sz z j))), (0, .ref aC), (2, .int (nI i))] → W p l e ({ frames := 0, cells := 0, slots := 0, locals := 0 } : Room) s m args below meth c H locs 0 0 Q (F0 m 7 ls []) := by
    intro nf
    induction nf with
    | zero =>
      intros
      omega
    | succ nf ih =>
      intro j hnf hj H locs hW ls hl
      refine lv_iload S.1 S.2.1 d_C_argument_7 (lv_at hl 0 rfl) ?_
      refine lv_iload_n S.1 S.2.1 d_C_argument_9 rfl (lv_at hl 3 rfl) ?_
      refine n_icmp_ge (tgt := 28) S (by omega) (by omega) d_C_argument_10 (by decide) (fun c_10 => ?_) (fun c_10 => ?_)
      · refine lv_iload_n S.1 S.2.1 d_C_argument_28 rfl (lv_at hl 1 rfl) ?_
        exact ret _ _ _ _ _ _ d_C_argument_29 rfl ⟨by rw [show j = i by omega], rfl⟩ hW
      · refine lv_iload_n S.1 S.2.1 d_C_argument_13 rfl (lv_at hl 1 rfl) ?_
        refine lv_aload_n S.1 S.2.1 d_C_argument_14 rfl (lv_at hl 2 rfl) ?_
        refine g_get i_C S hW 0 rfl rfl 2 (by decide) kf_C_18 rfl d_C_argument_15 ?_
        refine lv_iload_n S.1 S.2.1 d_C_argument_18 rfl (lv_at hl 1 rfl) ?_
        refine n_iald S hW 3 0 rfl rfl (by decide) (hi j c_10) d_C_argument_19 ?_
        refine top_eq (y := nI (sz (argp sz z j))) rfl ?_
        refine n_iadd S d_C_argument_20 ?_
        refine lv_istore_n (lv' := [(3, .int (nI ((argp sz z j) + (sz (argp sz z j))))), (4, .int (nI j)), (0, .ref aC), (2, .int (nI i))]) S.1 S.2.1 d_C_argument_21 rfl hl (by decide) rfl (fun ls hl => ?_)
        refine lv_iinc (v := (nI (j + 1))) (lv' := [(4, .int (nI (j + 1))), (3, .int (nI ((argp sz z j) + (sz (argp sz z j))))), (0, .ref aC), (2, .int (nI i))]) S.1 S.2.1 d_C_argument_22 hl (k := 1) rfl (inc_eq _ 1 _ (by decide)) (by decide) rfl (fun ls hl => ?_)
        refine lv_goto (tgt := 7) S.1 S.2.1 d_C_argument_25 (by decide) ?_
        exact ih (j + 1) (by omega) (by omega) _ _ hW _ (lv_sub hl [0, 1, 2, 3] rfl)
  exact loop_7 (i - 0 + 1) 0 (Nat.lt_succ_self _) (Nat.zero_le _) _ _ hW _ (lv_sub hl [0, 1, 2, 4] rfl)
theorem d_C_same_0 : decode b_C_same 0 = .ok (.aload_n 0, 1) := by decide +kernel
theorem d_C_same_1 : decode b_C_same 1 = .ok (.getfield 18, 3) := by decide +kernel
theorem d_C_same_4 : decode b_C_same 4 = .ok (.iload_n 1, 1) := by decide +kernel
theorem d_C_same_5 : decode b_C_same 5 = .ok (.iaload, 1) := by decide +kernel
theorem d_C_same_6 : decode b_C_same 6 = .ok (.aload_n 0, 1) := by decide +kernel
theorem d_C_same_7 : decode b_C_same 7 = .ok (.getfield 18, 3) := by decide +kernel
theorem d_C_same_10 : decode b_C_same 10 = .ok (.iload_n 2, 1) := by decide +kernel
theorem d_C_same_11 : decode b_C_same 11 = .ok (.iaload, 1) := by decide +kernel
theorem d_C_same_12 : decode b_C_same 12 = .ok (.if_icmp .eq 5, 3) := by decide +kernel
theorem d_C_same_15 : decode b_C_same 15 = .ok (.iconst 0, 1) := by decide +kernel
theorem d_C_same_16 : decode b_C_same 16 = .ok (.ireturn, 1) := by decide +kernel
theorem d_C_same_17 : decode b_C_same 17 = .ok (.iconst 0, 1) := by decide +kernel
theorem d_C_same_18 : decode b_C_same 18 = .ok (.istore_n 3, 1) := by decide +kernel
theorem d_C_same_19 : decode b_C_same 19 = .ok (.iload_n 3, 1) := by decide +kernel
theorem d_C_same_20 : decode b_C_same 20 = .ok (.aload_n 0, 1) := by decide +kernel
theorem d_C_same_21 : decode b_C_same 21 = .ok (.getfield 18, 3) := by decide +kernel
theorem d_C_same_24 : decode b_C_same 24 = .ok (.iload_n 1, 1) := by decide +kernel
theorem d_C_same_25 : decode b_C_same 25 = .ok (.iaload, 1) := by decide +kernel
theorem d_C_same_26 : decode b_C_same 26 = .ok (.if_icmp .ge 49, 3) := by decide +kernel
theorem d_C_same_29 : decode b_C_same 29 = .ok (.aload_n 0, 1) := by decide +kernel
theorem d_C_same_30 : decode b_C_same 30 = .ok (.getfield 11, 3) := by decide +kernel
theorem d_C_same_33 : decode b_C_same 33 = .ok (.iload_n 1, 1) := by decide +kernel
theorem d_C_same_34 : decode b_C_same 34 = .ok (.iload_n 3, 1) := by decide +kernel
theorem d_C_same_35 : decode b_C_same 35 = .ok (.iadd, 1) := by decide +kernel
theorem d_C_same_36 : decode b_C_same 36 = .ok (.iaload, 1) := by decide +kernel
theorem d_C_same_37 : decode b_C_same 37 = .ok (.aload_n 0, 1) := by decide +kernel
theorem d_C_same_38 : decode b_C_same 38 = .ok (.getfield 11, 3) := by decide +kernel
theorem d_C_same_41 : decode b_C_same 41 = .ok (.iload_n 2, 1) := by decide +kernel
theorem d_C_same_42 : decode b_C_same 42 = .ok (.iload_n 3, 1) := by decide +kernel
theorem d_C_same_43 : decode b_C_same 43 = .ok (.iadd, 1) := by decide +kernel
theorem d_C_same_44 : decode b_C_same 44 = .ok (.iaload, 1) := by decide +kernel
theorem d_C_same_45 : decode b_C_same 45 = .ok (.if_icmp .ne 22, 3) := by decide +kernel
theorem d_C_same_48 : decode b_C_same 48 = .ok (.aload_n 0, 1) := by decide +kernel
theorem d_C_same_49 : decode b_C_same 49 = .ok (.getfield 15, 3) := by decide +kernel
theorem d_C_same_52 : decode b_C_same 52 = .ok (.iload_n 1, 1) := by decide +kernel
theorem d_C_same_53 : decode b_C_same 53 = .ok (.iload_n 3, 1) := by decide +kernel
theorem d_C_same_54 : decode b_C_same 54 = .ok (.iadd, 1) := by decide +kernel
theorem d_C_same_55 : decode b_C_same 55 = .ok (.iaload, 1) := by decide +kernel
theorem d_C_same_56 : decode b_C_same 56 = .ok (.aload_n 0, 1) := by decide +kernel
theorem d_C_same_57 : decode b_C_same 57 = .ok (.getfield 15, 3) := by decide +kernel
theorem d_C_same_60 : decode b_C_same 60 = .ok (.iload_n 2, 1) := by decide +kernel
theorem d_C_same_61 : decode b_C_same 61 = .ok (.iload_n 3, 1) := by decide +kernel
theorem d_C_same_62 : decode b_C_same 62 = .ok (.iadd, 1) := by decide +kernel
theorem d_C_same_63 : decode b_C_same 63 = .ok (.iaload, 1) := by decide +kernel
theorem d_C_same_64 : decode b_C_same 64 = .ok (.if_icmp .eq 5, 3) := by decide +kernel
theorem d_C_same_67 : decode b_C_same 67 = .ok (.iconst 0, 1) := by decide +kernel
theorem d_C_same_68 : decode b_C_same 68 = .ok (.ireturn, 1) := by decide +kernel
theorem d_C_same_69 : decode b_C_same 69 = .ok (.iinc 3 1, 3) := by decide +kernel
theorem d_C_same_72 : decode b_C_same 72 = .ok (.goto (-53), 3) := by decide +kernel
theorem d_C_same_75 : decode b_C_same 75 = .ok (.iconst 1, 1) := by decide +kernel
theorem d_C_same_76 : decode b_C_same 76 = .ok (.ireturn, 1) := by decide +kernel
set_option maxHeartbeats 4000000 in
set_option maxRecDepth 100000 in
theorem c_C_same (l : Launch) (D : va_G) (cI cJ cB cZ : ClassId) (aC aC0 aC1 aC2 aC3 aC4 : Nat) (hd : Nat → Int32) (ar sz lv wh : Nat → Nat) (z q : Nat) (hz : z + sz z ≤ 21092) (hq : q + sz q ≤ 21092) (hz1 : z < 21092) (hq1 : q < 21092) (har : ∀ j, ar j < 2 ^ 31) : Ci l D (tyl cI cJ cB cZ) y_C_same b_C_same 4 (some .boolean) ({ frames := 0, cells := 0, slots := 0, locals := 0 } : Room) [.ref aC, .int (nI z), .int (nI q)] [(aC, .inr (1, [.ref aC0, .ref aC1, .ref aC2, .ref aC3, .ref aC4])), (aC0, .inl (cI, 21092, .inl hd)), (aC1, .inl (cI, 21092, .inl (fun j => nI (ar j)))), (aC2, .inl (cI, 21092, .inl (fun j => nI (sz j)))), (aC3, .inl (cI, 21092, .inl (fun j => nI (lv j)))), (aC4, .inl (cI, 21092, .inl (fun j => nI (wh j))))] (fun r u => ((SameR hd ar sz z q) ∧ r = (nI 1) ∧ u = [(aC, .inr (1, [.ref aC0, .ref aC1, .ref aC2, .ref aC3, .ref aC4])), (aC0, .inl (cI, 21092, .inl hd)), (aC1, .inl (cI, 21092, .inl (fun j => nI (ar j)))), (aC2, .inl (cI, 21092, .inl (fun j => nI (sz j)))), (aC3, .inl (cI, 21092, .inl (fun j => nI (lv j)))), (aC4, .inl (cI, 21092, .inl (fun j => nI (wh j))))]) ∨ ((¬ SameR hd ar sz z q) ∧ r = (nI 0) ∧ u = [(aC, .inr (1, [.ref aC0, .ref aC1, .ref aC2, .ref aC3, .ref aC4])), (aC0, .inl (cI, 21092, .inl hd)), (aC1, .inl (cI, 21092, .inl (fun j => nI (ar j)))), (aC2, .inl (cI, 21092, .inl (fun j => nI (sz j)))), (aC3, .inl (cI, 21092, .inl (fun j => nI (lv j)))), (aC4, .inl (cI, 21092, .inl (fun j => nI (wh j))))])) := by
  refine met_i (own := "ProofReader$Code") (by decide) rfl (Nat.le_of_ble_eq_true rfl) ?_
  intro p e s m args below meth c A Q S hA ret ls hl hW
  have hl : lv_has ls 4 [(0, .ref aC), (1, .int (nI z)), (2, .int (nI q))] := hl
  have hW : Wd D (tyl cI cJ cB cZ) A s s.heap s.heap [] [(aC, .inr (1, [.ref aC0, .ref aC1, .ref aC2, .ref aC3, .ref aC4])), (aC0, .inl (cI, 21092, .inl hd)), (aC1, .inl (cI, 21092, .inl (fun j => nI (ar j)))), (aC2, .inl (cI, 21092, .inl (fun j => nI (sz j)))), (aC3, .inl (cI, 21092, .inl (fun j => nI (lv j)))), (aC4, .inl (cI, 21092, .inl (fun j => nI (wh j))))] := hW
  refine lv_aload_n S.1 S.2.1 d_C_same_0 rfl (lv_at hl 0 rfl) ?_
  refine g_get i_C S hW 0 rfl rfl 2 (by decide) kf_C_18 rfl d_C_same_1 ?_
  refine lv_iload_n S.1 S.2.1 d_C_same_4 rfl (lv_at hl 1 rfl) ?_
  refine n_iald S hW 3 0 rfl rfl (by decide) (by omega) d_C_same_5 ?_
  refine top_eq (y := nI (sz z)) rfl ?_
  refine lv_aload_n S.1 S.2.1 d_C_same_6 rfl (lv_at hl 0 rfl) ?_
  refine g_get i_C S hW 0 rfl rfl 2 (by decide) kf_C_18 rfl d_C_same_7 ?_
  refine lv_iload_n S.1 S.2.1 d_C_same_10 rfl (lv_at hl 2 rfl) ?_
  refine n_iald S hW 3 0 rfl rfl (by decide) (by omega) d_C_same_11 ?_
  refine top_eq (y := nI (sz q)) rfl ?_
  refine n_icmp_eq (tgt := 17) S (by omega) (by omega) d_C_same_12 (by decide) (fun c_12 => ?_) (fun c_12 => ?_)
  · refine lv_iconst (v := (nI 0)) S.1 S.2.1 d_C_same_17 (by decide) ?_
    refine lv_istore_n (lv' := [(3, .int (nI 0)), (0, .ref aC), (1, .int (nI z)), (2, .int (nI q))]) S.1 S.2.1 d_C_same_18 rfl hl (by decide) rfl (fun ls hl => ?_)
    have loop_19 : ∀ (nf : Nat) (i : Nat), sz z - i < nf → (i ≤ sz z) → (∀ j, j < i → hd (z + j) = hd (q + j) ∧ ar (z + j) = ar (q + j)) → ∀ (H : Heap) (locs : List Loc), Wd D (tyl cI cJ cB cZ) A s s.heap H locs [(aC, .inr (1, [.ref aC0, .ref aC1, .ref aC2, .ref aC3, .ref aC4])), (aC0, .inl (cI, 21092, .inl hd)), (aC1, .inl (cI, 21092, .inl (fun j => nI (ar j)))), (aC2, .inl (cI, 21092, .inl (fun j => nI (sz j)))), (aC3, .inl (cI, 21092, .inl (fun j => nI (lv j)))), (aC4, .inl (cI, 21092, .inl (fun j => nI (wh j))))] → ∀ (ls : Array Slot), lv_has ls 4 [(3, .int (nI i)), (0, .ref aC), (1, .int (nI z)), (2, .int (nI q))] → W p l e ({ frames := 0, cells := 0, slots := 0, locals := 0 } : Room) s m args below meth c H locs 0 0 Q (F0 m 19 ls []) := by
      intro nf
      induction nf with
      | zero =>
        intros
        omega
      | succ nf ih =>
        intro i hnf hi hs H locs hW ls hl
        refine lv_iload_n S.1 S.2.1 d_C_same_19 rfl (lv_at hl 0 rfl) ?_
        refine lv_aload_n S.1 S.2.1 d_C_same_20 rfl (lv_at hl 1 rfl) ?_
        refine g_get i_C S hW 0 rfl rfl 2 (by decide) kf_C_18 rfl d_C_same_21 ?_
        refine lv_iload_n S.1 S.2.1 d_C_same_24 rfl (lv_at hl 2 rfl) ?_
        refine n_iald S hW 3 0 rfl rfl (by decide) (by omega) d_C_same_25 ?_
        refine top_eq (y := nI (sz z)) rfl ?_
        refine n_icmp_ge (tgt := 75) S (by omega) (by omega) d_C_same_26 (by decide) (fun c_26 => ?_) (fun c_26 => ?_)
        · refine lv_iconst (v := (nI 1)) S.1 S.2.1 d_C_same_75 (by decide) ?_
          exact ret _ _ _ _ _ _ d_C_same_76 rfl (Or.inl ⟨⟨c_12, fun j h => hs j (by omega)⟩, rfl, rfl⟩) hW
        · refine lv_aload_n S.1 S.2.1 d_C_same_29 rfl (lv_at hl 1 rfl) ?_
          refine g_get i_C S hW 0 rfl rfl 0 (by decide) kf_C_11 rfl d_C_same_30 ?_
          refine lv_iload_n S.1 S.2.1 d_C_same_33 rfl (lv_at hl 2 rfl) ?_
          refine lv_iload_n S.1 S.2.1 d_C_same_34 rfl (lv_at hl 0 rfl) ?_
          refine n_iadd S d_C_same_35 ?_
          refine n_iald S hW 1 0 rfl rfl (by decide) (by omega) d_C_same_36 ?_
          refine lv_aload_n S.1 S.2.1 d_C_same_37 rfl (lv_at hl 1 rfl) ?_
          refine g_get i_C S hW 0 rfl rfl 0 (by decide) kf_C_11 rfl d_C_same_38 ?_
          refine lv_iload_n S.1 S.2.1 d_C_same_41 rfl (lv_at hl 3 rfl) ?_
          refine lv_iload_n S.1 S.2.1 d_C_same_42 rfl (lv_at hl 0 rfl) ?_
          refine n_iadd S d_C_same_43 ?_
          refine n_iald S hW 1 0 rfl rfl (by decide) (by omega) d_C_same_44 ?_
          refine lv_icmp_ne (tgt := 67) S.1 S.2.1 d_C_same_45 (by decide) (fun c_45 => ?_) (fun c_45 => ?_)
          · refine lv_iconst (v := (nI 0)) S.1 S.2.1 d_C_same_67 (by decide) ?_
            exact ret _ _ _ _ _ _ d_C_same_68 rfl (by first | exact Or.inr ⟨(fun h => c_45 (h.2 i c_26).1), rfl, rfl⟩ | exact Or.inr ⟨(fun h => c_64 (h.2 i c_26).2), rfl, rfl⟩) hW
          · refine lv_aload_n S.1 S.2.1 d_C_same_48 rfl (lv_at hl 1 rfl) ?_
            refine g_get i_C S hW 0 rfl rfl 1 (by decide) kf_C_15 rfl d_C_same_49 ?_
            refine lv_iload_n S.1 S.2.1 d_C_same_52 rfl (lv_at hl 2 rfl) ?_
            refine lv_iload_n S.1 S.2.1 d_C_same_53 rfl (lv_at hl 0 rfl) ?_
            refine n_iadd S d_C_same_54 ?_
            refine n_iald S hW 2 0 rfl rfl (by decide) (by omega) d_C_same_55 ?_
            refine top_eq (y := nI (ar (z + i))) rfl ?_
            refine lv_aload_n S.1 S.2.1 d_C_same_56 rfl (lv_at hl 1 rfl) ?_
            refine g_get i_C S hW 0 rfl rfl 1 (by decide) kf_C_15 rfl d_C_same_57 ?_
            refine lv_iload_n S.1 S.2.1 d_C_same_60 rfl (lv_at hl 3 rfl) ?_
            refine lv_iload_n S.1 S.2.1 d_C_same_61 rfl (lv_at hl 0 rfl) ?_
            refine n_iadd S d_C_same_62 ?_
            refine n_iald S hW 2 0 rfl rfl (by decide) (by omega) d_C_same_63 ?_
            refine top_eq (y := nI (ar (q + i))) rfl ?_
            refine n_icmp_eq (tgt := 69) S (har _) (har _) d_C_same_64 (by decide) (fun c_64 => ?_) (fun c_64 => ?_)
            · refine lv_iinc (v := (nI (i + 1))) (lv' := [(3, .int (nI (i + 1))), (0, .ref aC), (1, .int (nI z)), (2, .int (nI q))]) S.1 S.2.1 d_C_same_69 hl (k := 0) rfl (inc_eq _ 1 _ (by decide)) (by decide) rfl (fun ls hl => ?_)
              refine lv_goto (tgt := 19) S.1 S.2.1 d_C_same_72 (by decide) ?_
              exact ih (i + 1) (by omega) (by omega) (fun j h => by rcases Nat.lt_or_ge j i with y | y; exact hs j y; rw [show j = i by omega]; exact ⟨c_45, c_64⟩) _ _ hW _ (lv_sub hl [0, 1, 2, 3] rfl)
            · refine lv_iconst (v := (nI 0)) S.1 S.2.1 d_C_same_67 (by decide) ?_
              exact ret _ _ _ _ _ _ d_C_same_68 rfl (by first | exact Or.inr ⟨(fun h => c_45 (h.2 i c_26).1), rfl, rfl⟩ | exact Or.inr ⟨(fun h => c_64 (h.2 i c_26).2), rfl, rfl⟩) hW
    exact loop_19 (sz z - 0 + 1) 0 (Nat.lt_succ_self _) (Nat.zero_le _) (fun j h => absurd h (Nat.not_lt_zero j)) _ _ hW _ (lv_sub hl [0, 1, 2, 3] rfl)
  · refine lv_iconst (v := (nI 0)) S.1 S.2.1 d_C_same_15 (by decide) ?_
    exact ret _ _ _ _ _ _ d_C_same_16 rfl (Or.inr ⟨(fun h => c_12 h.1), rfl, rfl⟩) hW
theorem d_C_move_0 : decode b_C_move 0 = .ok (.aload_n 0, 1) := by decide +kernel
theorem d_C_move_1 : decode b_C_move 1 = .ok (.getfield 11, 3) := by decide +kernel
theorem d_C_move_4 : decode b_C_move 4 = .ok (.iload_n 1, 1) := by decide +kernel
theorem d_C_move_5 : decode b_C_move 5 = .ok (.aload_n 0, 1) := by decide +kernel
theorem d_C_move_6 : decode b_C_move 6 = .ok (.getfield 11, 3) := by decide +kernel
theorem d_C_move_9 : decode b_C_move 9 = .ok (.iload_n 2, 1) := by decide +kernel
theorem d_C_move_10 : decode b_C_move 10 = .ok (.iload_n 3, 1) := by decide +kernel
theorem d_C_move_11 : decode b_C_move 11 = .ok (.invokestatic 31, 3) := by decide +kernel
theorem d_C_move_14 : decode b_C_move 14 = .ok (.aload_n 0, 1) := by decide +kernel
theorem d_C_move_15 : decode b_C_move 15 = .ok (.getfield 15, 3) := by decide +kernel
theorem d_C_move_18 : decode b_C_move 18 = .ok (.iload_n 1, 1) := by decide +kernel
theorem d_C_move_19 : decode b_C_move 19 = .ok (.aload_n 0, 1) := by decide +kernel
theorem d_C_move_20 : decode b_C_move 20 = .ok (.getfield 15, 3) := by decide +kernel
theorem d_C_move_23 : decode b_C_move 23 = .ok (.iload_n 2, 1) := by decide +kernel
theorem d_C_move_24 : decode b_C_move 24 = .ok (.iload_n 3, 1) := by decide +kernel
theorem d_C_move_25 : decode b_C_move 25 = .ok (.invokestatic 31, 3) := by decide +kernel
theorem d_C_move_28 : decode b_C_move 28 = .ok (.aload_n 0, 1) := by decide +kernel
theorem d_C_move_29 : decode b_C_move 29 = .ok (.getfield 18, 3) := by decide +kernel
theorem d_C_move_32 : decode b_C_move 32 = .ok (.iload_n 1, 1) := by decide +kernel
theorem d_C_move_33 : decode b_C_move 33 = .ok (.aload_n 0, 1) := by decide +kernel
theorem d_C_move_34 : decode b_C_move 34 = .ok (.getfield 18, 3) := by decide +kernel
theorem d_C_move_37 : decode b_C_move 37 = .ok (.iload_n 2, 1) := by decide +kernel
theorem d_C_move_38 : decode b_C_move 38 = .ok (.iload_n 3, 1) := by decide +kernel
theorem d_C_move_39 : decode b_C_move 39 = .ok (.invokestatic 31, 3) := by decide +kernel
theorem d_C_move_42 : decode b_C_move 42 = .ok (.aload_n 0, 1) := by decide +kernel
theorem d_C_move_43 : decode b_C_move 43 = .ok (.getfield 21, 3) := by decide +kernel
theorem d_C_move_46 : decode b_C_move 46 = .ok (.iload_n 1, 1) := by decide +kernel
theorem d_C_move_47 : decode b_C_move 47 = .ok (.aload_n 0, 1) := by decide +kernel
theorem d_C_move_48 : decode b_C_move 48 = .ok (.getfield 21, 3) := by decide +kernel
theorem d_C_move_51 : decode b_C_move 51 = .ok (.iload_n 2, 1) := by decide +kernel
theorem d_C_move_52 : decode b_C_move 52 = .ok (.iload_n 3, 1) := by decide +kernel
theorem d_C_move_53 : decode b_C_move 53 = .ok (.invokestatic 31, 3) := by decide +kernel
theorem d_C_move_56 : decode b_C_move 56 = .ok (.return_, 1) := by decide +kernel
set_option maxHeartbeats 4000000 in
set_option maxRecDepth 100000 in
theorem c_C_move (l : Launch) (D : va_G) (cI cJ cB cZ : ClassId) (aC aC0 aC1 aC2 aC3 aC4 : Nat) (hd : Nat → Int32) (ar sz lv wh : Nat → Nat) (z t n : Nat) (h1 : z + n ≤ 21092) (h2 : t + n ≤ 21092) : Cv l D (tyl cI cJ cB cZ) y_C_move b_C_move 4 ({ frames := 1, cells := 0, slots := 0, locals := 80 } : Room) [.ref aC, .int (nI z), .int (nI t), .int (nI n)] [(aC, .inr (1, [.ref aC0, .ref aC1, .ref aC2, .ref aC3, .ref aC4])), (aC0, .inl (cI, 21092, .inl hd)), (aC1, .inl (cI, 21092, .inl (fun j => nI (ar j)))), (aC2, .inl (cI, 21092, .inl (fun j => nI (sz j)))), (aC3, .inl (cI, 21092, .inl (fun j => nI (lv j)))), (aC4, .inl (cI, 21092, .inl (fun j => nI (wh j))))] (fun u => u = [(aC, .inr (1, [.ref aC0, .ref aC1, .ref aC2, .ref aC3, .ref aC4])), (aC0, .inl (cI, 21092, .inl (va_cpy hd hd z t n))), (aC1, .inl (cI, 21092, .inl (fun j => nI ((va_cpy ar ar z t n) j)))), (aC2, .inl (cI, 21092, .inl (fun j => nI ((va_cpy sz sz z t n) j)))), (aC3, .inl (cI, 21092, .inl (fun j => nI ((va_cpy lv lv z t n) j)))), (aC4, .inl (cI, 21092, .inl (fun j => nI (wh j))))]) := by
  refine met_v (own := "ProofReader$Code") (by decide) rfl (Nat.le_of_ble_eq_true rfl) ?_
  intro p e s m args below meth c A Q S hin hA ret ls hl hW
  have hl : lv_has ls 4 [(0, .ref aC), (1, .int (nI z)), (2, .int (nI t)), (3, .int (nI n))] := hl
  have hW : Wd D (tyl cI cJ cB cZ) A s s.heap s.heap [] [(aC, .inr (1, [.ref aC0, .ref aC1, .ref aC2, .ref aC3, .ref aC4])), (aC0, .inl (cI, 21092, .inl hd)), (aC1, .inl (cI, 21092, .inl (fun j => nI (ar j)))), (aC2, .inl (cI, 21092, .inl (fun j => nI (sz j)))), (aC3, .inl (cI, 21092, .inl (fun j => nI (lv j)))), (aC4, .inl (cI, 21092, .inl (fun j => nI (wh j))))] := hW
  refine lv_aload_n S.1 S.2.1 d_C_move_0 rfl (lv_at hl 0 rfl) ?_
  refine g_get i_C S hW 0 rfl rfl 0 (by decide) kf_C_11 rfl d_C_move_1 ?_
  refine lv_iload_n S.1 S.2.1 d_C_move_4 rfl (lv_at hl 1 rfl) ?_
  refine lv_aload_n S.1 S.2.1 d_C_move_5 rfl (lv_at hl 0 rfl) ?_
  refine g_get i_C S hW 0 rfl rfl 0 (by decide) kf_C_11 rfl d_C_move_6 ?_
  refine lv_iload_n S.1 S.2.1 d_C_move_9 rfl (lv_at hl 2 rfl) ?_
  refine lv_iload_n S.1 S.2.1 d_C_move_10 rfl (lv_at hl 3 rfl) ?_
  refine n_copy (ws2 := [(aC, .inr (1, [.ref aC0, .ref aC1, .ref aC2, .ref aC3, .ref aC4])), (aC0, .inl (cI, 21092, .inl (va_cpy hd hd z t n))), (aC1, .inl (cI, 21092, .inl (fun j => nI (ar j)))), (aC2, .inl (cI, 21092, .inl (fun j => nI (sz j)))), (aC3, .inl (cI, 21092, .inl (fun j => nI (lv j)))), (aC4, .inl (cI, 21092, .inl (fun j => nI (wh j))))]) S hW km_C_31 1 1 rfl rfl rfl hl.1 (by decide) (by decide) (by omega) (by omega) rfl (by decide) (by decide) d_C_move_11 (fun H locs hW => ?_)
  refine lv_aload_n S.1 S.2.1 d_C_move_14 rfl (lv_at hl 0 rfl) ?_
  refine g_get i_C S hW 0 rfl rfl 1 (by decide) kf_C_15 rfl d_C_move_15 ?_
  refine lv_iload_n S.1 S.2.1 d_C_move_18 rfl (lv_at hl 1 rfl) ?_
  refine lv_aload_n S.1 S.2.1 d_C_move_19 rfl (lv_at hl 0 rfl) ?_
  refine g_get i_C S hW 0 rfl rfl 1 (by decide) kf_C_15 rfl d_C_move_20 ?_
  refine lv_iload_n S.1 S.2.1 d_C_move_23 rfl (lv_at hl 2 rfl) ?_
  refine lv_iload_n S.1 S.2.1 d_C_move_24 rfl (lv_at hl 3 rfl) ?_
  refine n_copy (ws2 := [(aC, .inr (1, [.ref aC0, .ref aC1, .ref aC2, .ref aC3, .ref aC4])), (aC0, .inl (cI, 21092, .inl (va_cpy hd hd z t n))), (aC1, .inl (cI, 21092, .inl (va_cpy (fun j => nI (ar j)) (fun j => nI (ar j)) z t n))), (aC2, .inl (cI, 21092, .inl (fun j => nI (sz j)))), (aC3, .inl (cI, 21092, .inl (fun j => nI (lv j)))), (aC4, .inl (cI, 21092, .inl (fun j => nI (wh j))))]) S hW km_C_31 2 2 rfl rfl rfl hl.1 (by decide) (by decide) (by omega) (by omega) rfl (by decide) (by decide) d_C_move_25 (fun H locs hW => ?_)
  have hW : Wd D (tyl cI cJ cB cZ) A s s.heap H locs [(aC, .inr (1, [.ref aC0, .ref aC1, .ref aC2, .ref aC3, .ref aC4])), (aC0, .inl (cI, 21092, .inl (va_cpy hd hd z t n))), (aC1, .inl (cI, 21092, .inl (fun j => nI (va_cpy ar ar z t n j)))), (aC2, .inl (cI, 21092, .inl (fun j => nI (sz j)))), (aC3, .inl (cI, 21092, .inl (fun j => nI (lv j)))), (aC4, .inl (cI, 21092, .inl (fun j => nI (wh j))))] := by have q := hW; rw [cpy_nI] at q; exact q
  refine lv_aload_n S.1 S.2.1 d_C_move_28 rfl (lv_at hl 0 rfl) ?_
  refine g_get i_C S hW 0 rfl rfl 2 (by decide) kf_C_18 rfl d_C_move_29 ?_
  refine lv_iload_n S.1 S.2.1 d_C_move_32 rfl (lv_at hl 1 rfl) ?_
  refine lv_aload_n S.1 S.2.1 d_C_move_33 rfl (lv_at hl 0 rfl) ?_
  refine g_get i_C S hW 0 rfl rfl 2 (by decide) kf_C_18 rfl d_C_move_34 ?_
  refine lv_iload_n S.1 S.2.1 d_C_move_37 rfl (lv_at hl 2 rfl) ?_
  refine lv_iload_n S.1 S.2.1 d_C_move_38 rfl (lv_at hl 3 rfl) ?_
  refine n_copy (ws2 := [(aC, .inr (1, [.ref aC0, .ref aC1, .ref aC2, .ref aC3, .ref aC4])), (aC0, .inl (cI, 21092, .inl (va_cpy hd hd z t n))), (aC1, .inl (cI, 21092, .inl (fun j => nI (va_cpy ar ar z t n j)))), (aC2, .inl (cI, 21092, .inl (va_cpy (fun j => nI (sz j)) (fun j => nI (sz j)) z t n))), (aC3, .inl (cI, 21092, .inl (fun j => nI (lv j)))), (aC4, .inl (cI, 21092, .inl (fun j => nI (wh j))))]) S hW km_C_31 3 3 rfl rfl rfl hl.1 (by decide) (by decide) (by omega) (by omega) rfl (by decide) (by decide) d_C_move_39 (fun H locs hW => ?_)
  have hW : Wd D (tyl cI cJ cB cZ) A s s.heap H locs [(aC, .inr (1, [.ref aC0, .ref aC1, .ref aC2, .ref aC3, .ref aC4])), (aC0, .inl (cI, 21092, .inl (va_cpy hd hd z t n))), (aC1, .inl (cI, 21092, .inl (fun j => nI (va_cpy ar ar z t n j)))), (aC2, .inl (cI, 21092, .inl (fun j => nI (va_cpy sz sz z t n j)))), (aC3, .inl (cI, 21092, .inl (fun j => nI (lv j)))), (aC4, .inl (cI, 21092, .inl (fun j => nI (wh j))))] := by have q := hW; rw [cpy_nI] at q; exact q
  refine lv_aload_n S.1 S.2.1 d_C_move_42 rfl (lv_at hl 0 rfl) ?_
  refine g_get i_C S hW 0 rfl rfl 3 (by decide) kf_C_21 rfl d_C_move_43 ?_
  refine lv_iload_n S.1 S.2.1 d_C_move_46 rfl (lv_at hl 1 rfl) ?_
  refine lv_aload_n S.1 S.2.1 d_C_move_47 rfl (lv_at hl 0 rfl) ?_
  refine g_get i_C S hW 0 rfl rfl 3 (by decide) kf_C_21 rfl d_C_move_48 ?_
  refine lv_iload_n S.1 S.2.1 d_C_move_51 rfl (lv_at hl 2 rfl) ?_
  refine lv_iload_n S.1 S.2.1 d_C_move_52 rfl (lv_at hl 3 rfl) ?_
  refine n_copy (ws2 := [(aC, .inr (1, [.ref aC0, .ref aC1, .ref aC2, .ref aC3, .ref aC4])), (aC0, .inl (cI, 21092, .inl (va_cpy hd hd z t n))), (aC1, .inl (cI, 21092, .inl (fun j => nI (va_cpy ar ar z t n j)))), (aC2, .inl (cI, 21092, .inl (fun j => nI (va_cpy sz sz z t n j)))), (aC3, .inl (cI, 21092, .inl (va_cpy (fun j => nI (lv j)) (fun j => nI (lv j)) z t n))), (aC4, .inl (cI, 21092, .inl (fun j => nI (wh j))))]) S hW km_C_31 4 4 rfl rfl rfl hl.1 (by decide) (by decide) (by omega) (by omega) rfl (by decide) (by decide) d_C_move_53 (fun H locs hW => ?_)
  have hW : Wd D (tyl cI cJ cB cZ) A s s.heap H locs [(aC, .inr (1, [.ref aC0, .ref aC1, .ref aC2, .ref aC3, .ref aC4])), (aC0, .inl (cI, 21092, .inl (va_cpy hd hd z t n))), (aC1, .inl (cI, 21092, .inl (fun j => nI (va_cpy ar ar z t n j)))), (aC2, .inl (cI, 21092, .inl (fun j => nI (va_cpy sz sz z t n j)))), (aC3, .inl (cI, 21092, .inl (fun j => nI (va_cpy lv lv z t n j)))), (aC4, .inl (cI, 21092, .inl (fun j => nI (wh j))))] := by have q := hW; rw [cpy_nI] at q; exact q
  exact ret _ _ _ _ _ d_C_move_56 rfl hW
theorem d_C_makeRoom_0 : decode b_C_makeRoom 0 = .ok (.aload_n 0, 1) := by decide +kernel
theorem d_C_makeRoom_1 : decode b_C_makeRoom 1 = .ok (.iload_n 1, 1) := by decide +kernel
theorem d_C_makeRoom_2 : decode b_C_makeRoom 2 = .ok (.iload_n 1, 1) := by decide +kernel
theorem d_C_makeRoom_3 : decode b_C_makeRoom 3 = .ok (.iconst 1, 1) := by decide +kernel
theorem d_C_makeRoom_4 : decode b_C_makeRoom 4 = .ok (.iadd, 1) := by decide +kernel
theorem d_C_makeRoom_5 : decode b_C_makeRoom 5 = .ok (.iload_n 2, 1) := by decide +kernel
theorem d_C_makeRoom_6 : decode b_C_makeRoom 6 = .ok (.invokevirtual 37, 3) := by decide +kernel
theorem d_C_makeRoom_9 : decode b_C_makeRoom 9 = .ok (.aload_n 0, 1) := by decide +kernel
theorem d_C_makeRoom_10 : decode b_C_makeRoom 10 = .ok (.getfield 24, 3) := by decide +kernel
theorem d_C_makeRoom_13 : decode b_C_makeRoom 13 = .ok (.iload_n 1, 1) := by decide +kernel
theorem d_C_makeRoom_14 : decode b_C_makeRoom 14 = .ok (.aload_n 0, 1) := by decide +kernel
theorem d_C_makeRoom_15 : decode b_C_makeRoom 15 = .ok (.getfield 24, 3) := by decide +kernel
theorem d_C_makeRoom_18 : decode b_C_makeRoom 18 = .ok (.iload_n 1, 1) := by decide +kernel
theorem d_C_makeRoom_19 : decode b_C_makeRoom 19 = .ok (.iconst 1, 1) := by decide +kernel
theorem d_C_makeRoom_20 : decode b_C_makeRoom 20 = .ok (.iadd, 1) := by decide +kernel
theorem d_C_makeRoom_21 : decode b_C_makeRoom 21 = .ok (.iload_n 2, 1) := by decide +kernel
theorem d_C_makeRoom_22 : decode b_C_makeRoom 22 = .ok (.invokestatic 31, 3) := by decide +kernel
theorem d_C_makeRoom_25 : decode b_C_makeRoom 25 = .ok (.return_, 1) := by decide +kernel
set_option maxHeartbeats 4000000 in
set_option maxRecDepth 100000 in
theorem c_C_makeRoom (l : Launch) (D : va_G) (cI cJ cB cZ : ClassId) (aC aC0 aC1 aC2 aC3 aC4 : Nat) (hd : Nat → Int32) (ar sz lv wh : Nat → Nat) (z n : Nat) (h1 : z + 1 + n ≤ 21092) : Cv l D (tyl cI cJ cB cZ) y_C_makeRoom b_C_makeRoom 3 ({ frames := 2, cells := 0, slots := 0, locals := 103 } : Room) [.ref aC, .int (nI z), .int (nI n)] [(aC, .inr (1, [.ref aC0, .ref aC1, .ref aC2, .ref aC3, .ref aC4])), (aC0, .inl (cI, 21092, .inl hd)), (aC1, .inl (cI, 21092, .inl (fun j => nI (ar j)))), (aC2, .inl (cI, 21092, .inl (fun j => nI (sz j)))), (aC3, .inl (cI, 21092, .inl (fun j => nI (lv j)))), (aC4, .inl (cI, 21092, .inl (fun j => nI (wh j))))] (fun u => u = [(aC, .inr (1, [.ref aC0, .ref aC1, .ref aC2, .ref aC3, .ref aC4])), (aC0, .inl (cI, 21092, .inl (va_cpy hd hd z (z + 1) n))), (aC1, .inl (cI, 21092, .inl (fun j => nI ((va_cpy ar ar z (z + 1) n) j)))), (aC2, .inl (cI, 21092, .inl (fun j => nI ((va_cpy sz sz z (z + 1) n) j)))), (aC3, .inl (cI, 21092, .inl (fun j => nI ((va_cpy lv lv z (z + 1) n) j)))), (aC4, .inl (cI, 21092, .inl (fun j => nI ((va_cpy wh wh z (z + 1) n) j))))]) := by
  refine met_v (own := "ProofReader$Code") (by decide) rfl (Nat.le_of_ble_eq_true rfl) ?_
  intro p e s m args below meth c A Q S hin hA ret ls hl hW
  have hl : lv_has ls 3 [(0, .ref aC), (1, .int (nI z)), (2, .int (nI n))] := hl
  have hW : Wd D (tyl cI cJ cB cZ) A s s.heap s.heap [] [(aC, .inr (1, [.ref aC0, .ref aC1, .ref aC2, .ref aC3, .ref aC4])), (aC0, .inl (cI, 21092, .inl hd)), (aC1, .inl (cI, 21092, .inl (fun j => nI (ar j)))), (aC2, .inl (cI, 21092, .inl (fun j => nI (sz j)))), (aC3, .inl (cI, 21092, .inl (fun j => nI (lv j)))), (aC4, .inl (cI, 21092, .inl (fun j => nI (wh j))))] := hW
  refine lv_aload_n S.1 S.2.1 d_C_makeRoom_0 rfl (lv_at hl 0 rfl) ?_
  refine lv_iload_n S.1 S.2.1 d_C_makeRoom_1 rfl (lv_at hl 1 rfl) ?_
  refine lv_iload_n S.1 S.2.1 d_C_makeRoom_2 rfl (lv_at hl 1 rfl) ?_
  refine lv_iconst (v := (nI 1)) S.1 S.2.1 d_C_makeRoom_3 (by decide) ?_
  refine n_iadd S d_C_makeRoom_4 ?_
  refine lv_iload_n S.1 S.2.1 d_C_makeRoom_5 rfl (lv_at hl 2 rfl) ?_
  refine callV_v (wr := []) (wc := [(aC, .inr (1, [.ref aC0, .ref aC1, .ref aC2, .ref aC3, .ref aC4])), (aC0, .inl (cI, 21092, .inl hd)), (aC1, .inl (cI, 21092, .inl (fun j => nI (ar j)))), (aC2, .inl (cI, 21092, .inl (fun j => nI (sz j)))), (aC3, .inl (cI, 21092, .inl (fun j => nI (lv j)))), (aC4, .inl (cI, 21092, .inl (fun j => nI (wh j))))]) (np := 3) (As := [.int (nI z), .int (nI (z + 1)), .int (nI n)]) (rest := []) (c_C_move l D cI cJ cB cZ aC aC0 aC1 aC2 aC3 aC4 hd ar sz lv wh z (z + 1) n (by first | omega | assumption | simp_all) (by first | omega | assumption | simp_all)) km_C_37 ki_C_move kv_C_move kz_C kk_C_move (by decide +kernel) S hW hA ⟨Nat.le_of_ble_eq_true rfl, Nat.le_of_ble_eq_true rfl⟩ ⟨Nat.le_of_ble_eq_true rfl, Nat.le_of_ble_eq_true rfl⟩ rfl 0 rfl [0, 1, 2, 3, 4, 5] [] rfl (by decide) rfl (by decide) (by decide) rfl hl.1 rfl (Nat.le_of_ble_eq_true rfl) d_C_makeRoom_6 (fun u H locs hp hW => ?_)
  obtain rfl := hp
  have hW : Wd D (tyl cI cJ cB cZ) A s s.heap H locs [(aC, .inr (1, [.ref aC0, .ref aC1, .ref aC2, .ref aC3, .ref aC4])), (aC0, .inl (cI, 21092, .inl (va_cpy hd hd z (z + 1) n))), (aC1, .inl (cI, 21092, .inl (fun j => nI ((va_cpy ar ar z (z + 1) n) j)))), (aC2, .inl (cI, 21092, .inl (fun j => nI ((va_cpy sz sz z (z + 1) n) j)))), (aC3, .inl (cI, 21092, .inl (fun j => nI ((va_cpy lv lv z (z + 1) n) j)))), (aC4, .inl (cI, 21092, .inl (fun j => nI (wh j))))] := hW
  refine lv_aload_n S.1 S.2.1 d_C_makeRoom_9 rfl (lv_at hl 0 rfl) ?_
  refine g_get i_C S hW 0 rfl rfl 4 (by decide) kf_C_24 rfl d_C_makeRoom_10 ?_
  refine lv_iload_n S.1 S.2.1 d_C_makeRoom_13 rfl (lv_at hl 1 rfl) ?_
  refine lv_aload_n S.1 S.2.1 d_C_makeRoom_14 rfl (lv_at hl 0 rfl) ?_
  refine g_get i_C S hW 0 rfl rfl 4 (by decide) kf_C_24 rfl d_C_makeRoom_15 ?_
  refine lv_iload_n S.1 S.2.1 d_C_makeRoom_18 rfl (lv_at hl 1 rfl) ?_
  refine lv_iconst (v := (nI 1)) S.1 S.2.1 d_C_makeRoom_19 (by decide) ?_
  refine n_iadd S d_C_makeRoom_20 ?_
  refine lv_iload_n S.1 S.2.1 d_C_makeRoom_21 rfl (lv_at hl 2 rfl) ?_
  refine n_copy (ws2 := [(aC, .inr (1, [.ref aC0, .ref aC1, .ref aC2, .ref aC3, .ref aC4])), (aC0, .inl (cI, 21092, .inl (va_cpy hd hd z (z + 1) n))), (aC1, .inl (cI, 21092, .inl (fun j => nI ((va_cpy ar ar z (z + 1) n) j)))), (aC2, .inl (cI, 21092, .inl (fun j => nI ((va_cpy sz sz z (z + 1) n) j)))), (aC3, .inl (cI, 21092, .inl (fun j => nI ((va_cpy lv lv z (z + 1) n) j)))), (aC4, .inl (cI, 21092, .inl (va_cpy (fun j => nI (wh j)) (fun j => nI (wh j)) z (z + 1) n)))]) S hW km_C_31 5 5 rfl rfl rfl hl.1 (by decide) (by decide) (by omega) (by omega) rfl (by decide) (by decide) d_C_makeRoom_22 (fun H locs hW => ?_)
  have hW : Wd D (tyl cI cJ cB cZ) A s s.heap H locs [(aC, .inr (1, [.ref aC0, .ref aC1, .ref aC2, .ref aC3, .ref aC4])), (aC0, .inl (cI, 21092, .inl (va_cpy hd hd z (z + 1) n))), (aC1, .inl (cI, 21092, .inl (fun j => nI ((va_cpy ar ar z (z + 1) n) j)))), (aC2, .inl (cI, 21092, .inl (fun j => nI ((va_cpy sz sz z (z + 1) n) j)))), (aC3, .inl (cI, 21092, .inl (fun j => nI ((va_cpy lv lv z (z + 1) n) j)))), (aC4, .inl (cI, 21092, .inl (fun j => nI (va_cpy wh wh z (z + 1) n j))))] := by have q := hW; rw [cpy_nI] at q; exact q
  exact ret _ _ _ _ _ d_C_makeRoom_25 rfl hW
theorem d_C_lift_0 : decode b_C_lift 0 = .ok (.aload_n 0, 1) := by decide +kernel
theorem d_C_lift_1 : decode b_C_lift 1 = .ok (.getfield 18, 3) := by decide +kernel
theorem d_C_lift_4 : decode b_C_lift 4 = .ok (.iload_n 1, 1) := by decide +kernel
theorem d_C_lift_5 : decode b_C_lift 5 = .ok (.iaload, 1) := by decide +kernel
theorem d_C_lift_6 : decode b_C_lift 6 = .ok (.istore 4, 2) := by decide +kernel
theorem d_C_lift_8 : decode b_C_lift 8 = .ok (.bipush 48, 2) := by decide +kernel
theorem d_C_lift_10 : decode b_C_lift 10 = .ok (.aload_n 0, 1) := by decide +kernel
theorem d_C_lift_11 : decode b_C_lift 11 = .ok (.getfield 21, 3) := by decide +kernel
theorem d_C_lift_14 : decode b_C_lift 14 = .ok (.iload_n 1, 1) := by decide +kernel
theorem d_C_lift_15 : decode b_C_lift 15 = .ok (.iaload, 1) := by decide +kernel
theorem d_C_lift_16 : decode b_C_lift 16 = .ok (.iadd, 1) := by decide +kernel
theorem d_C_lift_17 : decode b_C_lift 17 = .ok (.istore 5, 2) := by decide +kernel
theorem d_C_lift_19 : decode b_C_lift 19 = .ok (.iload_n 3, 1) := by decide +kernel
theorem d_C_lift_20 : decode b_C_lift 20 = .ok (.aload_n 0, 1) := by decide +kernel
theorem d_C_lift_21 : decode b_C_lift 21 = .ok (.getfield 21, 3) := by decide +kernel
theorem d_C_lift_24 : decode b_C_lift 24 = .ok (.iload_n 1, 1) := by decide +kernel
theorem d_C_lift_25 : decode b_C_lift 25 = .ok (.iaload, 1) := by decide +kernel
theorem d_C_lift_26 : decode b_C_lift 26 = .ok (.isub, 1) := by decide +kernel
theorem d_C_lift_27 : decode b_C_lift 27 = .ok (.istore 6, 2) := by decide +kernel
theorem d_C_lift_29 : decode b_C_lift 29 = .ok (.aload_n 0, 1) := by decide +kernel
theorem d_C_lift_30 : decode b_C_lift 30 = .ok (.iload_n 1, 1) := by decide +kernel
theorem d_C_lift_31 : decode b_C_lift 31 = .ok (.iload_n 2, 1) := by decide +kernel
theorem d_C_lift_32 : decode b_C_lift 32 = .ok (.iload 4, 2) := by decide +kernel
theorem d_C_lift_34 : decode b_C_lift 34 = .ok (.invokevirtual 37, 3) := by decide +kernel
theorem d_C_lift_37 : decode b_C_lift 37 = .ok (.iload_n 2, 1) := by decide +kernel
theorem d_C_lift_38 : decode b_C_lift 38 = .ok (.istore 7, 2) := by decide +kernel
theorem d_C_lift_40 : decode b_C_lift 40 = .ok (.iload 7, 2) := by decide +kernel
theorem d_C_lift_42 : decode b_C_lift 42 = .ok (.iload_n 2, 1) := by decide +kernel
theorem d_C_lift_43 : decode b_C_lift 43 = .ok (.iload 4, 2) := by decide +kernel
theorem d_C_lift_45 : decode b_C_lift 45 = .ok (.iadd, 1) := by decide +kernel
theorem d_C_lift_46 : decode b_C_lift 46 = .ok (.if_icmp .ge 45, 3) := by decide +kernel
theorem d_C_lift_49 : decode b_C_lift 49 = .ok (.aload_n 0, 1) := by decide +kernel
theorem d_C_lift_50 : decode b_C_lift 50 = .ok (.getfield 21, 3) := by decide +kernel
theorem d_C_lift_53 : decode b_C_lift 53 = .ok (.iload 7, 2) := by decide +kernel
theorem d_C_lift_55 : decode b_C_lift 55 = .ok (.dup2, 1) := by decide +kernel
theorem d_C_lift_56 : decode b_C_lift 56 = .ok (.iaload, 1) := by decide +kernel
theorem d_C_lift_57 : decode b_C_lift 57 = .ok (.iload 6, 2) := by decide +kernel
theorem d_C_lift_59 : decode b_C_lift 59 = .ok (.iadd, 1) := by decide +kernel
theorem d_C_lift_60 : decode b_C_lift 60 = .ok (.iastore, 1) := by decide +kernel
theorem d_C_lift_61 : decode b_C_lift 61 = .ok (.aload_n 0, 1) := by decide +kernel
theorem d_C_lift_62 : decode b_C_lift 62 = .ok (.getfield 11, 3) := by decide +kernel
theorem d_C_lift_65 : decode b_C_lift 65 = .ok (.iload 7, 2) := by decide +kernel
theorem d_C_lift_67 : decode b_C_lift 67 = .ok (.iaload, 1) := by decide +kernel
theorem d_C_lift_68 : decode b_C_lift 68 = .ok (.iload 5, 2) := by decide +kernel
theorem d_C_lift_70 : decode b_C_lift 70 = .ok (.if_icmp .lt 15, 3) := by decide +kernel
theorem d_C_lift_73 : decode b_C_lift 73 = .ok (.aload_n 0, 1) := by decide +kernel
theorem d_C_lift_74 : decode b_C_lift 74 = .ok (.getfield 11, 3) := by decide +kernel
theorem d_C_lift_77 : decode b_C_lift 77 = .ok (.iload 7, 2) := by decide +kernel
theorem d_C_lift_79 : decode b_C_lift 79 = .ok (.dup2, 1) := by decide +kernel
theorem d_C_lift_80 : decode b_C_lift 80 = .ok (.iaload, 1) := by decide +kernel
theorem d_C_lift_81 : decode b_C_lift 81 = .ok (.iload 6, 2) := by decide +kernel
theorem d_C_lift_83 : decode b_C_lift 83 = .ok (.iadd, 1) := by decide +kernel
theorem d_C_lift_84 : decode b_C_lift 84 = .ok (.iastore, 1) := by decide +kernel
theorem d_C_lift_85 : decode b_C_lift 85 = .ok (.iinc 7 1, 3) := by decide +kernel
theorem d_C_lift_88 : decode b_C_lift 88 = .ok (.goto (-48), 3) := by decide +kernel
theorem d_C_lift_91 : decode b_C_lift 91 = .ok (.return_, 1) := by decide +kernel
set_option maxHeartbeats 4000000 in
set_option maxRecDepth 100000 in
theorem c_C_lift (l : Launch) (D : va_G) (cI cJ cB cZ : ClassId) (aC aC0 aC1 aC2 aC3 aC4 : Nat) (hd : Nat → Int32) (ar sz lv wh : Nat → Nat) (z t nl : Nat) (hz : z < 21092) (h1 : z + sz z ≤ 21092) (h2 : t + sz z ≤ 21092) (h3 : lv z ≤ nl) : Cv l D (tyl cI cJ cB cZ) y_C_lift b_C_lift 8 ({ frames := 2, cells := 0, slots := 0, locals := 103 } : Room) [.ref aC, .int (nI z), .int (nI t), .int (nI nl)] [(aC, .inr (1, [.ref aC0, .ref aC1, .ref aC2, .ref aC3, .ref aC4])), (aC0, .inl (cI, 21092, .inl hd)), (aC1, .inl (cI, 21092, .inl (fun j => nI (ar j)))), (aC2, .inl (cI, 21092, .inl (fun j => nI (sz j)))), (aC3, .inl (cI, 21092, .inl (fun j => nI (lv j)))), (aC4, .inl (cI, 21092, .inl (fun j => nI (wh j))))] (fun u => u = [(aC, .inr (1, [.ref aC0, .ref aC1, .ref aC2, .ref aC3, .ref aC4])), (aC0, .inl (cI, 21092, .inl (lfH (va_cpy hd hd z t (sz z)) t (48 + lv z) (nl - lv z) (sz z)))), (aC1, .inl (cI, 21092, .inl (fun j => nI ((va_cpy ar ar z t (sz z)) j)))), (aC2, .inl (cI, 21092, .inl (fun j => nI ((va_cpy sz sz z t (sz z)) j)))), (aC3, .inl (cI, 21092, .inl (fun j => nI ((lfL (va_cpy lv lv z t (sz z)) t (nl - lv z) (sz z)) j)))), (aC4, .inl (cI, 21092, .inl (fun j => nI (wh j))))]) := by
  refine met_v (own := "ProofReader$Code") (by decide) rfl (Nat.le_of_ble_eq_true rfl) ?_
  intro p e s m args below meth c A Q S hin hA ret ls hl hW
  have hl : lv_has ls 8 [(0, .ref aC), (1, .int (nI z)), (2, .int (nI t)), (3, .int (nI nl))] := hl
  have hW : Wd D (tyl cI cJ cB cZ) A s s.heap s.heap [] [(aC, .inr (1, [.ref aC0, .ref aC1, .ref aC2, .ref aC3, .ref aC4])), (aC0, .inl (cI, 21092, .inl hd)), (aC1, .inl (cI, 21092, .inl (fun j => nI (ar j)))), (aC2, .inl (cI, 21092, .inl (fun j => nI (sz j)))), (aC3, .inl (cI, 21092, .inl (fun j => nI (lv j)))), (aC4, .inl (cI, 21092, .inl (fun j => nI (wh j))))] := hW
  refine lv_aload_n S.1 S.2.1 d_C_lift_0 rfl (lv_at hl 0 rfl) ?_
  refine g_get i_C S hW 0 rfl rfl 2 (by decide) kf_C_18 rfl d_C_lift_1 ?_
  refine lv_iload_n S.1 S.2.1 d_C_lift_4 rfl (lv_at hl 1 rfl) ?_
  refine n_iald S hW 3 0 rfl rfl (by decide) (by omega) d_C_lift_5 ?_
  refine top_eq (y := nI (sz z)) rfl ?_
  refine lv_istore (lv' := [(4, .int (nI (sz z))), (0, .ref aC), (1, .int (nI z)), (2, .int (nI t)), (3, .int (nI nl))]) S.1 S.2.1 d_C_lift_6 hl (by decide) rfl (fun ls hl => ?_)
  refine lv_bipush (v := (nI 48)) S.1 S.2.1 d_C_lift_8 (by decide) ?_
  refine lv_aload_n S.1 S.2.1 d_C_lift_10 rfl (lv_at hl 1 rfl) ?_
  refine g_get i_C S hW 0 rfl rfl 3 (by decide) kf_C_21 rfl d_C_lift_11 ?_
  refine lv_iload_n S.1 S.2.1 d_C_lift_14 rfl (lv_at hl 2 rfl) ?_
  refine n_iald S hW 4 0 rfl rfl (by decide) (by omega) d_C_lift_15 ?_
  refine top_eq (y := nI (lv z)) rfl ?_
  refine n_iadd S d_C_lift_16 ?_
  refine lv_istore (lv' := [(5, .int (nI (48 + (lv z)))), (4, .int (nI (sz z))), (0, .ref aC), (1, .int (nI z)), (2, .int (nI t)), (3, .int (nI nl))]) S.1 S.2.1 d_C_lift_17 hl (by decide) rfl (fun ls hl => ?_)
  refine lv_iload_n S.1 S.2.1 d_C_lift_19 rfl (lv_at hl 5 rfl) ?_
  refine lv_aload_n S.1 S.2.1 d_C_lift_20 rfl (lv_at hl 2 rfl) ?_
  refine g_get i_C S hW 0 rfl rfl 3 (by decide) kf_C_21 rfl d_C_lift_21 ?_
  refine lv_iload_n S.1 S.2.1 d_C_lift_24 rfl (lv_at hl 3 rfl) ?_
  refine n_iald S hW 4 0 rfl rfl (by decide) (by omega) d_C_lift_25 ?_
  refine top_eq (y := nI (lv z)) rfl ?_
  refine n_isub S (by omega) d_C_lift_26 ?_
  refine lv_istore (lv' := [(6, .int (nI (nl - (lv z)))), (5, .int (nI (48 + (lv z)))), (4, .int (nI (sz z))), (0, .ref aC), (1, .int (nI z)), (2, .int (nI t)), (3, .int (nI nl))]) S.1 S.2.1 d_C_lift_27 hl (by decide) rfl (fun ls hl => ?_)
  refine lv_aload_n S.1 S.2.1 d_C_lift_29 rfl (lv_at hl 3 rfl) ?_
  refine lv_iload_n S.1 S.2.1 d_C_lift_30 rfl (lv_at hl 4 rfl) ?_
  refine lv_iload_n S.1 S.2.1 d_C_lift_31 rfl (lv_at hl 5 rfl) ?_
  refine lv_iload S.1 S.2.1 d_C_lift_32 (lv_at hl 2 rfl) ?_
  refine callV_v (wr := []) (wc := [(aC, .inr (1, [.ref aC0, .ref aC1, .ref aC2, .ref aC3, .ref aC4])), (aC0, .inl (cI, 21092, .inl hd)), (aC1, .inl (cI, 21092, .inl (fun j => nI (ar j)))), (aC2, .inl (cI, 21092, .inl (fun j => nI (sz j)))), (aC3, .inl (cI, 21092, .inl (fun j => nI (lv j)))), (aC4, .inl (cI, 21092, .inl (fun j => nI (wh j))))]) (np := 3) (As := [.int (nI z), .int (nI t), .int (nI (sz z))]) (rest := []) (c_C_move l D cI cJ cB cZ aC aC0 aC1 aC2 aC3 aC4 hd ar sz lv wh z t (sz z) (by first | omega | assumption | simp_all) (by first | omega | assumption | simp_all)) km_C_37 ki_C_move kv_C_move kz_C kk_C_move (by decide +kernel) S hW hA ⟨Nat.le_of_ble_eq_true rfl, Nat.le_of_ble_eq_true rfl⟩ ⟨Nat.le_of_ble_eq_true rfl, Nat.le_of_ble_eq_true rfl⟩ rfl 0 rfl [0, 1, 2, 3, 4, 5] [] rfl (by decide) rfl (by decide) (by decide) rfl hl.1 rfl (Nat.le_of_ble_eq_true rfl) d_C_lift_34 (fun u H locs hp hW => ?_)
  obtain rfl := hp
  have hW : Wd D (tyl cI cJ cB cZ) A s s.heap H locs [(aC, .inr (1, [.ref aC0, .ref aC1, .ref aC2, .ref aC3, .ref aC4])), (aC0, .inl (cI, 21092, .inl (va_cpy hd hd z t (sz z)))), (aC1, .inl (cI, 21092, .inl (fun j => nI ((va_cpy ar ar z t (sz z)) j)))), (aC2, .inl (cI, 21092, .inl (fun j => nI ((va_cpy sz sz z t (sz z)) j)))), (aC3, .inl (cI, 21092, .inl (fun j => nI ((va_cpy lv lv z t (sz z)) j)))), (aC4, .inl (cI, 21092, .inl (fun j => nI (wh j))))] := hW
  refine lv_iload_n S.1 S.2.1 d_C_lift_37 rfl (lv_at hl 5 rfl) ?_
  refine lv_istore (lv' := [(7, .int (nI t)), (6, .int (nI (nl - (lv z)))), (5, .int (nI (48 + (lv z)))), (4, .int (nI (sz z))), (0, .ref aC), (1, .int (nI z)), (2, .int (nI t)), (3, .int (nI nl))]) S.1 S.2.1 d_C_lift_38 hl (by decide) rfl (fun ls hl => ?_)
  have loop_40 : ∀ (nf : Nat) (i : Nat) (h1 : Nat → Int32) (l1 : Nat → Nat), sz z - i < nf → (i ≤ sz z) → (h1 = lfH (va_cpy hd hd z t (sz z)) t (48 + lv z) (nl - lv z) i) → (l1 = lfL (va_cpy lv lv z t (sz z)) t (nl - lv z) i) → ∀ (H : Heap) (locs : List Loc), Wd D (tyl cI cJ cB cZ) A s s.heap H locs [(aC, .inr (1, [.ref aC0, .ref aC1, .ref aC2, .ref aC3, .ref aC4])), (aC0, .inl (cI, 21092, .inl h1)), (aC1, .inl (cI, 21092, .inl (fun j => nI ((va_cpy ar ar z t (sz z)) j)))), (aC2, .inl (cI, 21092, .inl (fun j => nI ((va_cpy sz sz z t (sz z)) j)))), (aC3, .inl (cI, 21092, .inl (fun j => nI (l1 j)))), (aC4, .inl (cI, 21092, .inl (fun j => nI (wh j))))] → ∀ (ls : Array Slot), lv_has ls 8 [(7, .int (nI (t + i))), (0, .ref aC), (2, .int (nI t)), (4, .int (nI (sz z))), (5, .int (nI (48 + (lv z)))), (6, .int (nI (nl - (lv z))))] → W p l e ({ frames := 2, cells := 0, slots := 0, locals := 103 } : Room) s m args below meth c H locs 0 0 Q (F0 m 40 ls []) := by
    intro nf
    induction nf with
    | zero =>
      intros
      omega
    | succ nf ih =>
      intro i h1 l1 hnf hi e1 e2 H locs hW ls hl
      refine lv_iload S.1 S.2.1 d_C_lift_40 (lv_at hl 0 rfl) ?_
      refine lv_iload_n S.1 S.2.1 d_C_lift_42 rfl (lv_at hl 2 rfl) ?_
      refine lv_iload S.1 S.2.1 d_C_lift_43 (lv_at hl 3 rfl) ?_
      refine n_iadd S d_C_lift_45 ?_
      refine n_icmp_ge (tgt := 91) S (by omega) (by omega) d_C_lift_46 (by decide) (fun c_46 => ?_) (fun c_46 => ?_)
      · exact ret _ _ _ _ _ d_C_lift_91 (by rw [e1, e2, show i = sz z by omega]) hW
      · refine lv_aload_n S.1 S.2.1 d_C_lift_49 rfl (lv_at hl 1 rfl) ?_
        refine g_get i_C S hW 0 rfl rfl 3 (by decide) kf_C_21 rfl d_C_lift_50 ?_
        refine lv_iload S.1 S.2.1 d_C_lift_53 (lv_at hl 0 rfl) ?_
        refine lv_dup2_11 S.1 S.2.1 d_C_lift_55 rfl rfl ?_
        refine n_iald S hW 4 0 rfl rfl (by decide) (by omega) d_C_lift_56 ?_
        refine top_eq (y := nI (l1 (t + i))) rfl ?_
        refine lv_iload S.1 S.2.1 d_C_lift_57 (lv_at hl 5 rfl) ?_
        refine n_iadd S d_C_lift_59 ?_
        refine n_iast (ws2 := [(aC, .inr (1, [.ref aC0, .ref aC1, .ref aC2, .ref aC3, .ref aC4])), (aC0, .inl (cI, 21092, .inl h1)), (aC1, .inl (cI, 21092, .inl (fun j => nI ((va_cpy ar ar z t (sz z)) j)))), (aC2, .inl (cI, 21092, .inl (fun j => nI ((va_cpy sz sz z t (sz z)) j)))), (aC3, .inl (cI, 21092, .inl (upd (fun j => nI (l1 j)) (t + i) (nI ((l1 (t + i)) + (nl - (lv z))))))), (aC4, .inl (cI, 21092, .inl (fun j => nI (wh j))))]) S hW 4 0 rfl rfl (by decide) (by omega) rfl d_C_lift_60 (fun H locs hW => ?_)
        have hW : Wd D (tyl cI cJ cB cZ) A s s.heap H locs [(aC, .inr (1, [.ref aC0, .ref aC1, .ref aC2, .ref aC3, .ref aC4])), (aC0, .inl (cI, 21092, .inl h1)), (aC1, .inl (cI, 21092, .inl (fun j => nI ((va_cpy ar ar z t (sz z)) j)))), (aC2, .inl (cI, 21092, .inl (fun j => nI ((va_cpy sz sz z t (sz z)) j)))), (aC3, .inl (cI, 21092, .inl (fun j => nI (updN l1 (t + i) ((l1 (t + i)) + (nl - (lv z))) j)))), (aC4, .inl (cI, 21092, .inl (fun j => nI (wh j))))] := by have q := hW; rw [nI_upd] at q; exact q
        refine lv_aload_n S.1 S.2.1 d_C_lift_61 rfl (lv_at hl 1 rfl) ?_
        refine g_get i_C S hW 0 rfl rfl 0 (by decide) kf_C_11 rfl d_C_lift_62 ?_
        refine lv_iload S.1 S.2.1 d_C_lift_65 (lv_at hl 0 rfl) ?_
        refine n_iald S hW 1 0 rfl rfl (by decide) (by omega) d_C_lift_67 ?_
        refine lv_iload S.1 S.2.1 d_C_lift_68 (lv_at hl 4 rfl) ?_
        refine lv_icmp_lt (tgt := 85) S.1 S.2.1 d_C_lift_70 (by decide) (fun c_70 => ?_) (fun c_70 => ?_)
        · refine lv_iinc (v := (nI ((t + i) + 1))) (lv' := [(7, .int (nI ((t + i) + 1))), (0, .ref aC), (2, .int (nI t)), (4, .int (nI (sz z))), (5, .int (nI (48 + (lv z)))), (6, .int (nI (nl - (lv z))))]) S.1 S.2.1 d_C_lift_85 hl (k := 0) rfl (inc_eq _ 1 _ (by decide)) (by decide) rfl (fun ls hl => ?_)
          refine lv_goto (tgt := 40) S.1 S.2.1 d_C_lift_88 (by decide) ?_
          exact ih (i + 1) h1 (updN l1 (t + i) ((l1 (t + i)) + (nl - (lv z)))) (by omega) (by omega) (by first | exact lfH_no e1 c_70 | exact lfH_up e1 c_70) (lfL_up e2) _ _ hW _ (lv_sub hl [0, 1, 2, 3, 4, 5] rfl)
        · refine lv_aload_n S.1 S.2.1 d_C_lift_73 rfl (lv_at hl 1 rfl) ?_
          refine g_get i_C S hW 0 rfl rfl 0 (by decide) kf_C_11 rfl d_C_lift_74 ?_
          refine lv_iload S.1 S.2.1 d_C_lift_77 (lv_at hl 0 rfl) ?_
          refine lv_dup2_11 S.1 S.2.1 d_C_lift_79 rfl rfl ?_
          refine n_iald S hW 1 0 rfl rfl (by decide) (by omega) d_C_lift_80 ?_
          refine lv_iload S.1 S.2.1 d_C_lift_81 (lv_at hl 5 rfl) ?_
          refine lv_iadd S.1 S.2.1 d_C_lift_83 ?_
          refine n_iast (ws2 := [(aC, .inr (1, [.ref aC0, .ref aC1, .ref aC2, .ref aC3, .ref aC4])), (aC0, .inl (cI, 21092, .inl (upd h1 (t + i) ((h1 (t + i)) + (nI (nl - (lv z))))))), (aC1, .inl (cI, 21092, .inl (fun j => nI ((va_cpy ar ar z t (sz z)) j)))), (aC2, .inl (cI, 21092, .inl (fun j => nI ((va_cpy sz sz z t (sz z)) j)))), (aC3, .inl (cI, 21092, .inl (fun j => nI (updN l1 (t + i) ((l1 (t + i)) + (nl - (lv z))) j)))), (aC4, .inl (cI, 21092, .inl (fun j => nI (wh j))))]) S hW 1 0 rfl rfl (by decide) (by omega) rfl d_C_lift_84 (fun H locs hW => ?_)
          refine lv_iinc (v := (nI ((t + i) + 1))) (lv' := [(7, .int (nI ((t + i) + 1))), (0, .ref aC), (2, .int (nI t)), (4, .int (nI (sz z))), (5, .int (nI (48 + (lv z)))), (6, .int (nI (nl - (lv z))))]) S.1 S.2.1 d_C_lift_85 hl (k := 0) rfl (inc_eq _ 1 _ (by decide)) (by decide) rfl (fun ls hl => ?_)
          refine lv_goto (tgt := 40) S.1 S.2.1 d_C_lift_88 (by decide) ?_
          exact ih (i + 1) (upd h1 (t + i) ((h1 (t + i)) + (nI (nl - (lv z))))) (updN l1 (t + i) ((l1 (t + i)) + (nl - (lv z)))) (by omega) (by omega) (by first | exact lfH_no e1 c_70 | exact lfH_up e1 c_70) (lfL_up e2) _ _ hW _ (lv_sub hl [0, 1, 2, 3, 4, 5] rfl)
  exact loop_40 (sz z - 0 + 1) 0 (va_cpy hd hd z t (sz z)) (va_cpy lv lv z t (sz z)) (Nat.lt_succ_self _) (Nat.zero_le _) (lfH_0 _ _ _ _) (lfL_0 _ _ _) _ _ hW _ (lv_sub hl [0, 4, 6, 3, 2, 1] rfl)
