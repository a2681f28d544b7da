/-- two rows of arguments, one behind the other -/
def appE : Ex → Ex → Ex
  | .add a r, y => .add a (appE r y)
  | _, y => y
theorem appE_sz {x : Ex} (hw : wf false x) (y : Ex) : nsz (appE x y) = nsz x + nsz y ∧ nar (appE x y) = nar x + nar y := by
  induction x with
  | add a r _ ih => obtain ⟨h1, h2⟩ := ih hw.2; simp only [appE, nsz, nar]; omega
  | var i => simp [appE, nsz, nar]
  | _ => simp [wf] at hw
theorem appE_wf {x y : Ex} (hw : wf false x) (hy : wf false y) : wf false (appE x y) := by
  induction x with
  | add a r _ ih => exact ⟨hw.1, ih hw.2⟩
  | var i => exact hy
  | _ => simp [wf] at hw
theorem appE_hds {M : Nat} {x y : Ex} (hw : wf false x) (hx : hds M x) (hy : hds M y) : hds M (appE x y) := by
  induction x with
  | add a r _ ih => exact ⟨hx.1, ih hw.2 hx.2⟩
  | var i => exact hy
  | _ => simp [wf] at hw
theorem appE_rows {hd : Nat → Int32} {ar sz lv : Nat → Nat} {y : Ex} : ∀ {x : Ex} {z L : Nat}, wf false x → Rows hd ar sz lv x z L → Rows hd ar sz lv y (z + nsz x) L → Rows hd ar sz lv (appE x y) z L := by
  intro x
  induction x with
  | add a r _ ih =>
    intro z L hw hx hy
    refine ⟨hx.1, ih hw.2 hx.2 ?_⟩
    rw [show z + nsz a + nsz r = z + nsz (.add a r) by simp only [nsz]; omega]
    exact hy
  | var i => intro z L _ _ hy; exact hy
  | _ => intro z L hw; simp [wf] at hw
theorem appE_as {x : Ex} (hw : wf false x) (y z : Ex) : appE (appE x y) z = appE x (appE y z) := by
  induction x with
  | add a r _ ih => simp only [appE]; rw [ih hw.2]
  | var i => rfl
  | _ => simp [wf] at hw
theorem appE_nil {x : Ex} (hw : wf false x) : appE x (.var 0) = x := by
  induction x with
  | add a r _ ih => simp only [appE]; rw [ih hw.2]
  | var i => simp only [wf] at hw; subst hw; rfl
  | _ => simp [wf] at hw
theorem nar_le {x : Ex} : ∀ {t : Bool}, wf t x → t = false → nar x ≤ nsz x := by
  induction x with
  | add a r _ ih =>
    intro t hw ht
    subst ht
    have := ih hw.2 rfl
    have := nsz_pos hw.1
    simp only [nar, nsz]; omega
  | _ => intro t hw ht; simp [nar]
def finS (h st : Nat) (as : Ex) (pas : List Nat) : PRes → PRes
  | .inl x => .inl x
  | .inr (y, py, t2, n2) => .inr (.pow (appE as y) h, st :: (pas ++ py), t2, n2)
/-- in the middle of an application's arguments -/
def SIv (b : Nat → Nat) (ln : Nat) (cs sc : List Key) (op nd k st nx z h : Nat) (as : Ex) (pas : List Nat) (k1 st1 nx1 n1 : Nat) (f1 g1 : Int64) (hd1 : Nat → Int32) (ar1 sz1 lv1 wh1 : Nat → Nat) : Prop :=
  (∀ r, PRel b ln cs 4 sc op n1 (k1, st1, nx1) r → PRel b ln cs 1 sc op nd (k, st, nx) (finS h st as pas r)) ∧ wf false as ∧ hds 88 as ∧ Rows hd1 ar1 sz1 lv1 as (z + 1) sc.length ∧ Plc wh1 (z + 1) pas ∧ pas.length = nsz as ∧ n1 = nd + 1 + nsz as ∧ n1 ≤ 300 ∧ z + 1 + nsz as + (ln - st1) ≤ 8192 ∧ Cur b ln k1 st1 nx1 f1 g1 ∧ hd1 z = nI h ∧ ar1 z = nar as ∧ lv1 z = sc.length ∧ wh1 z = st ∧ h < 88
theorem atom_inv {b : Nat → Nat} {ln : Nat} {cs sc : List Key} {o n k st nx n1 : Nat} {e : Ex} {pl : List Nat} {t1 : PT} (hk : k = 1) (h : PRel b ln cs 2 sc o n (k, st, nx) (.inr (e, pl, t1, n1))) : ∃ x, e = .pow (.var 0) x ∧ pl = [st] := by
  obtain ⟨f, hf⟩ := h
  cases f with
  | zero => simp [pexp] at hf
  | succ f =>
    subst hk
    rw [pexp] at hf
    simp only [show ¬ (2 : Nat) = 0 by decide, show ¬ (2 : Nat) = 1 by decide, if_false, if_true] at hf
    cases hm : mean sc cs (keyOf b (1, st, nx)) with
    | none => rw [hm] at hf; simp [bad] at hf
    | some x =>
      rw [hm] at hf
      simp only at hf
      split at hf
      · simp [bad] at hf
      · unfold advK at hf
        split at hf
        · simp [bad] at hf
        · simp only [Option.some.injEq, Sum.inr.injEq, Prod.mk.injEq] at hf
          exact ⟨x, hf.1.symm, hf.2.1.symm⟩
theorem siv_0 {b : Nat → Nat} {ln : Nat} {cs sc : List Key} {op nd k st nx z x n1 k1 st1 nx1 : Nat} {f1 g1 : Int64} {hd1 : Nat → Int32} {ar1 sz1 lv1 wh1 : Nat → Nat} (hk : k = 1) (h : PRel b ln cs 2 sc op nd (k, st, nx) (.inr (.pow (.var 0) x, [st], (k1, st1, nx1), n1))) (ho : POk b ln sc.length z nd (.pow (.var 0) x) [st] k1 st1 nx1 n1 f1 g1 hd1 ar1 sz1 lv1 wh1) : SIv b ln cs sc op nd k st nx z x (.var 0) [] k1 st1 nx1 n1 f1 g1 hd1 ar1 sz1 lv1 wh1 := by
  obtain ⟨a1, a2, a3, a4, a5, a6, a7, a8, a9⟩ := ho
  simp only [nsz] at a7 a9
  refine ⟨fun r hr => ?_, rfl, trivial, trivial, trivial, rfl, by simp only [nsz]; omega, a8, by simp only [nsz]; omega, a1, a4.1, a4.2.1, a4.2.2.2.1, a5.1, a3.1⟩
  cases r with
  | inl y => exact p1_arg hk h hr
  | inr y => obtain ⟨y, py, t2, n2⟩ := y; exact p1_ok hk h hr
theorem siv_s {b : Nat → Nat} {ln : Nat} {cs sc : List Key} {op nd k st nx z x k1 st1 nx1 n1 : Nat} {as : Ex} {pas : List Nat} {f1 g1 : Int64} {hd1 : Nat → Int32} {ar1 sz1 lv1 wh1 : Nat → Nat} {a : Ex} {pa : List Nat} {k2 st2 nx2 n2 : Nat} {f2 g2 : Int64} {hd2 : Nat → Int32} {ar2 sz2 lv2 wh2 : Nat → Nat}
    (h : SIv b ln cs sc op nd k st nx z x as pas k1 st1 nx1 n1 f1 g1 hd1 ar1 sz1 lv1 wh1) (hk : k1 = 1 ∨ k1 = 2 ∨ k1 = 40) (hp : PRel b ln cs 2 sc op n1 (k1, st1, nx1) (.inr (a, pa, (k2, st2, nx2), n2))) (ho : POk b ln sc.length (z + 1 + nsz as) n1 a pa k2 st2 nx2 n2 f2 g2 hd2 ar2 sz2 lv2 wh2) (hg : Agr (z + 1 + nsz as) hd1 hd2 ar1 ar2 sz1 sz2 lv1 lv2 wh1 wh2) :
    SIv b ln cs sc op nd k st nx z x (appE as (.add a (.var 0))) (pas ++ pa) k2 st2 nx2 n2 f2 g2 hd2 (updN ar2 z (nar as + 1)) sz2 lv2 wh2 := by
  obtain ⟨b1, b2, b3, b4, b5, b6, b7, b8, b9, b10, b11, b12, b13, b14, b15⟩ := h
  obtain ⟨a1, a2, a3, a4, a5, a6, a7, a8, a9⟩ := ho
  obtain ⟨g1, g2, g3, g4, g5⟩ := hg z (by omega)
  obtain ⟨s1, s2⟩ := appE_sz b2 (.add a (.var 0))
  have e1 : nsz (.add a (.var 0)) = nsz a := by simp [nsz]
  have e2 : nar (.add a (.var 0)) = 1 := by simp [nar]
  have up : ∀ j, z < j → updN ar2 z (nar as + 1) j = ar2 j := fun j h => updN_ne (by omega)
  refine ⟨fun r hr => ?_, appE_wf b2 ⟨a2, rfl⟩, appE_hds b2 b3 ⟨a3, trivial⟩, ?_, ?_, ?_, ?_, a8, ?_, a1, g1.trans b11, ?_, g4.trans b13, g5.trans b14, b15⟩
  · have q := b1 _ (p4_cons hk hp hr)
    cases r with
    | inl y => exact q
    | inr y =>
      obtain ⟨y, py, t2, m2⟩ := y
      simp only [finS] at q ⊢
      rw [appE_as b2, List.append_assoc]
      exact q
  · refine appE_rows b2 ?_ ?_
    · exact Rows.congr as _ _ (fun j h1 h2 => ⟨rfl, up j (by omega), rfl, rfl⟩) (Rows.agr hg (by omega) b4)
    · exact ⟨Rows.congr a _ _ (fun j h1 h2 => ⟨rfl, up j (by omega), rfl, rfl⟩) a4, trivial⟩
  · exact Plc.app (Plc.agr hg (by omega) b5) (by rw [b6]; exact a5)
  · rw [s1, e1, List.length_append]; omega
  · rw [s1, e1]; omega
  · rw [s1, e1]; omega
  · rw [s2, e2, updN_same]
theorem siv_e {b : Nat → Nat} {ln : Nat} {cs sc : List Key} {op nd k st nx z x k1 st1 nx1 n1 : Nat} {as : Ex} {pas : List Nat} {f1 g1 : Int64} {hd1 : Nat → Int32} {ar1 sz1 lv1 wh1 : Nat → Nat} (h : SIv b ln cs sc op nd k st nx z x as pas k1 st1 nx1 n1 f1 g1 hd1 ar1 sz1 lv1 wh1) (hk : ¬ (k1 = 1 ∨ k1 = 2 ∨ k1 = 40)) :
    PRel b ln cs 1 sc op nd (k, st, nx) (.inr (.pow as x, st :: pas, (k1, st1, nx1), n1)) ∧ POk b ln sc.length z nd (.pow as x) (st :: pas) k1 st1 nx1 n1 f1 g1 hd1 ar1 (updN sz1 z (z + 1 + nsz as - z)) lv1 wh1 := by
  obtain ⟨b1, b2, b3, b4, b5, b6, b7, b8, b9, b10, b11, b12, b13, b14, b15⟩ := h
  have q := b1 _ (p4_nil hk)
  simp only [finS, List.append_nil] at q
  rw [appE_nil b2] at q
  have up : ∀ j, z < j → updN sz1 z (z + 1 + nsz as - z) j = sz1 j := fun j h => updN_ne (by omega)
  refine ⟨q, b10, b2, ⟨b15, b3⟩, ⟨b11, b12, ?_, b13, ?_⟩, ⟨b14, b5⟩, ?_, ?_, b8, ?_⟩
  · rw [updN_same]; omega
  · exact Rows.congr as _ _ (fun j h1 h2 => ⟨rfl, rfl, up j (by omega), rfl⟩) b4
  · simp only [List.length_cons, nsz]; omega
  · simp only [nsz]; omega
  · simp only [nsz]; omega
theorem d_R_simple_0 : decode b_R_simple 0 = .ok (.aload_n 0, 1) := by decide +kernel
theorem d_R_simple_1 : decode b_R_simple 1 = .ok (.getfield 28, 3) := by decide +kernel
theorem d_R_simple_4 : decode b_R_simple 4 = .ok (.istore_n 1, 1) := by decide +kernel
theorem d_R_simple_5 : decode b_R_simple 5 = .ok (.aload_n 0, 1) := by decide +kernel
theorem d_R_simple_6 : decode b_R_simple 6 = .ok (.getfield 54, 3) := by decide +kernel
theorem d_R_simple_9 : decode b_R_simple 9 = .ok (.getfield 73, 3) := by decide +kernel
theorem d_R_simple_12 : decode b_R_simple 12 = .ok (.iconst 1, 1) := by decide +kernel
theorem d_R_simple_13 : decode b_R_simple 13 = .ok (.if_icmp .ne 7, 3) := by decide +kernel
theorem d_R_simple_16 : decode b_R_simple 16 = .ok (.iconst 1, 1) := by decide +kernel
theorem d_R_simple_17 : decode b_R_simple 17 = .ok (.goto 4, 3) := by decide +kernel
theorem d_R_simple_20 : decode b_R_simple 20 = .ok (.iconst 0, 1) := by decide +kernel
theorem d_R_simple_21 : decode b_R_simple 21 = .ok (.istore_n 2, 1) := by decide +kernel
theorem d_R_simple_22 : decode b_R_simple 22 = .ok (.aload_n 0, 1) := by decide +kernel
theorem d_R_simple_23 : decode b_R_simple 23 = .ok (.invokevirtual 156, 3) := by decide +kernel
theorem d_R_simple_26 : decode b_R_simple 26 = .ok (.ifCond .ne 5, 3) := by decide +kernel
theorem d_R_simple_29 : decode b_R_simple 29 = .ok (.iconst 0, 1) := by decide +kernel
theorem d_R_simple_30 : decode b_R_simple 30 = .ok (.ireturn, 1) := by decide +kernel
theorem d_R_simple_31 : decode b_R_simple 31 = .ok (.iload_n 2, 1) := by decide +kernel
theorem d_R_simple_32 : decode b_R_simple 32 = .ok (.ifCond .ne 5, 3) := by decide +kernel
theorem d_R_simple_35 : decode b_R_simple 35 = .ok (.iconst 1, 1) := by decide +kernel
theorem d_R_simple_36 : decode b_R_simple 36 = .ok (.ireturn, 1) := by decide +kernel
theorem d_R_simple_37 : decode b_R_simple 37 = .ok (.iconst 1, 1) := by decide +kernel
theorem d_R_simple_38 : decode b_R_simple 38 = .ok (.istore_n 3, 1) := by decide +kernel
theorem d_R_simple_39 : decode b_R_simple 39 = .ok (.iload_n 3, 1) := by decide +kernel
theorem d_R_simple_40 : decode b_R_simple 40 = .ok (.sipush 300, 3) := by decide +kernel
theorem d_R_simple_43 : decode b_R_simple 43 = .ok (.if_icmp .gt 35, 3) := by decide +kernel
theorem d_R_simple_46 : decode b_R_simple 46 = .ok (.aload_n 0, 1) := by decide +kernel
theorem d_R_simple_47 : decode b_R_simple 47 = .ok (.invokevirtual 159, 3) := by decide +kernel
theorem d_R_simple_50 : decode b_R_simple 50 = .ok (.ifCond .eq 28, 3) := by decide +kernel
theorem d_R_simple_53 : decode b_R_simple 53 = .ok (.aload_n 0, 1) := by decide +kernel
theorem d_R_simple_54 : decode b_R_simple 54 = .ok (.invokevirtual 156, 3) := by decide +kernel
theorem d_R_simple_57 : decode b_R_simple 57 = .ok (.ifCond .ne 5, 3) := by decide +kernel
theorem d_R_simple_60 : decode b_R_simple 60 = .ok (.iconst 0, 1) := by decide +kernel
theorem d_R_simple_61 : decode b_R_simple 61 = .ok (.ireturn, 1) := by decide +kernel
theorem d_R_simple_62 : decode b_R_simple 62 = .ok (.aload_n 0, 1) := by decide +kernel
theorem d_R_simple_63 : decode b_R_simple 63 = .ok (.getfield 58, 3) := by decide +kernel
theorem d_R_simple_66 : decode b_R_simple 66 = .ok (.getfield 162, 3) := by decide +kernel
theorem d_R_simple_69 : decode b_R_simple 69 = .ok (.iload_n 1, 1) := by decide +kernel
theorem d_R_simple_70 : decode b_R_simple 70 = .ok (.iload_n 3, 1) := by decide +kernel
theorem d_R_simple_71 : decode b_R_simple 71 = .ok (.iastore, 1) := by decide +kernel
theorem d_R_simple_72 : decode b_R_simple 72 = .ok (.iinc 3 1, 3) := by decide +kernel
theorem d_R_simple_75 : decode b_R_simple 75 = .ok (.goto (-36), 3) := by decide +kernel
theorem d_R_simple_78 : decode b_R_simple 78 = .ok (.aload_n 0, 1) := by decide +kernel
theorem d_R_simple_79 : decode b_R_simple 79 = .ok (.getfield 58, 3) := by decide +kernel
theorem d_R_simple_82 : decode b_R_simple 82 = .ok (.getfield 153, 3) := by decide +kernel
theorem d_R_simple_85 : decode b_R_simple 85 = .ok (.iload_n 1, 1) := by decide +kernel
theorem d_R_simple_86 : decode b_R_simple 86 = .ok (.aload_n 0, 1) := by decide +kernel
theorem d_R_simple_87 : decode b_R_simple 87 = .ok (.getfield 28, 3) := by decide +kernel
theorem d_R_simple_90 : decode b_R_simple 90 = .ok (.iload_n 1, 1) := by decide +kernel
theorem d_R_simple_91 : decode b_R_simple 91 = .ok (.isub, 1) := by decide +kernel
theorem d_R_simple_92 : decode b_R_simple 92 = .ok (.iastore, 1) := by decide +kernel
theorem d_R_simple_93 : decode b_R_simple 93 = .ok (.iconst 1, 1) := by decide +kernel
theorem d_R_simple_94 : decode b_R_simple 94 = .ok (.ireturn, 1) := by decide +kernel
set_option maxHeartbeats 1500000 in
set_option maxRecDepth 100000 in
theorem s_R_simple (l : Launch) (D : va_G) (cI cJ cB cZ : ClassId) (d : Nat) (i_R_atom : Fm_R_atom l D cI cJ cB cZ d) : Fm_R_simple l D cI cJ cB cZ (d + 1) := by
  intro aR aT aC aK aF aR0 aR1 aTb aC0 aC1 aC2 aC3 aC4 aK0 aK1 aK2 aK3 aK4 b ln sc cs sF sB fr bk hd ar sz lv wh rs0 rq0 rp0 r10 r20 rf0 rb0 fn fw ce k st nx op nd en f0 g0 hb hln hcur hs hc hcn hn hE hL ho hdp
  refine met_i (own := "ProofReader$Parser") (by decide) rfl (Nat.le_of_ble_eq_true rfl) ?_
  intro p e s m args below meth c A Q S hA ret ls hl hW
  have hl : lv_has ls 4 [(0, .ref aR)] := hl
  have hW : Wd D (tyl cI cJ cB cZ) A s s.heap s.heap [] [(aR, .inr (5, [.ref aT, .ref aC, .ref aK, .ref aF, .ref aR0, .ref aR1, .int (nI sc.length), .int (nI op), .int (nI nd), .int (nI en), .int rs0, .int rq0, .int rp0, .long rf0, .long rb0, .int r10, .int r20])), (aR0, .inl (cJ, 40, .inr (.inl sF))), (aR1, .inl (cJ, 40, .inr (.inl sB))), (aT, .inr (3, [.ref aF, .ref aTb, .int (nI nx), .int (nI ln), .int (nI k), .int (nI st), .long f0, .long g0])), (aTb, .inl (cB, 8192, .inl (sby b))), (aF, .inr (0, [.int fn, .int fw])), (aC, .inr (1, [.ref aC0, .ref aC1, .ref aC2, .ref aC3, .ref aC4])), (aC0, .inl (cI, 21092, .inl hd)), (aC1, .inl (cI, 21092, .inl (fun j => nI (ar j)))), (aC2, .inl (cI, 21092, .inl (fun j => nI (sz j)))), (aC3, .inl (cI, 21092, .inl (fun j => nI (lv j)))), (aC4, .inl (cI, 21092, .inl (fun j => nI (wh j)))), (aK, .inr (4, [.ref aC, .ref aK0, .ref aK1, .ref aK2, .ref aK3, .ref aK4, .int (nI cs.length), .int ce])), (aK0, .inl (cJ, 48, .inr (.inl fr))), (aK1, .inl (cJ, 48, .inr (.inl bk)))] := hW
  have ck := hcur.2.2.2.1
  have cx := hcur.1
  have cy := hcur.2.1
  refine lv_aload_n S.1 S.2.1 d_R_simple_0 rfl (lv_at hl 0 rfl) ?_
  refine g_get i_R S hW 0 rfl rfl 9 (by decide) kf_R_28 rfl d_R_simple_1 ?_
  refine lv_istore_n (lv' := [(1, .int (nI en)), (0, .ref aR)]) S.1 S.2.1 d_R_simple_4 rfl hl (by decide) rfl (fun ls hl => ?_)
  refine lv_aload_n S.1 S.2.1 d_R_simple_5 rfl (lv_at hl 1 rfl) ?_
  refine g_get i_R S hW 0 rfl rfl 0 (by decide) kf_R_54 rfl d_R_simple_6 ?_
  refine g_get i_T S hW 3 rfl rfl 4 (by decide) kf_R_73 rfl d_R_simple_9 ?_
  refine lv_iconst (v := (nI 1)) S.1 S.2.1 d_R_simple_12 (by decide) ?_
  refine n_icmp_ne (tgt := 20) S (by omega) (by omega) d_R_simple_13 (by decide) (fun c_13 => ?_) (fun c_13 => ?_)
  · refine lv_iconst (v := (nI 0)) S.1 S.2.1 d_R_simple_20 (by decide) ?_
    refine lv_istore_n (lv' := [(2, .int (nI 0)), (1, .int (nI en)), (0, .ref aR)]) S.1 S.2.1 d_R_simple_21 rfl hl (by decide) rfl (fun ls hl => ?_)
    refine lv_aload_n S.1 S.2.1 d_R_simple_22 rfl (lv_at hl 2 rfl) ?_
    refine callV_i (wr := []) (wc := [(aR, .inr (5, [.ref aT, .ref aC, .ref aK, .ref aF, .ref aR0, .ref aR1, .int (nI sc.length), .int (nI op), .int (nI nd), .int (nI en), .int rs0, .int rq0, .int rp0, .long rf0, .long rb0, .int r10, .int r20])), (aR0, .inl (cJ, 40, .inr (.inl sF))), (aR1, .inl (cJ, 40, .inr (.inl sB))), (aT, .inr (3, [.ref aF, .ref aTb, .int (nI nx), .int (nI ln), .int (nI k), .int (nI st), .long f0, .long g0])), (aTb, .inl (cB, 8192, .inl (sby b))), (aF, .inr (0, [.int fn, .int fw])), (aC, .inr (1, [.ref aC0, .ref aC1, .ref aC2, .ref aC3, .ref aC4])), (aC0, .inl (cI, 21092, .inl hd)), (aC1, .inl (cI, 21092, .inl (fun j => nI (ar j)))), (aC2, .inl (cI, 21092, .inl (fun j => nI (sz j)))), (aC3, .inl (cI, 21092, .inl (fun j => nI (lv j)))), (aC4, .inl (cI, 21092, .inl (fun j => nI (wh j)))), (aK, .inr (4, [.ref aC, .ref aK0, .ref aK1, .ref aK2, .ref aK3, .ref aK4, .int (nI cs.length), .int ce])), (aK0, .inl (cJ, 48, .inr (.inl fr))), (aK1, .inl (cJ, 48, .inr (.inl bk)))]) (np := 0) (As := []) (rest := []) (i_R_atom aR aT aC aK aF aR0 aR1 aTb aC0 aC1 aC2 aC3 aC4 aK0 aK1 aK2 aK3 aK4 b ln sc cs sF sB fr bk hd ar sz lv wh rs0 rq0 rp0 r10 r20 rf0 rb0 fn fw ce k st nx op nd en f0 g0 hb hln hcur hs hc hcn hn hE (by omega) (by omega) (by omega)) km_R_156 ki_R_atom kv_R_atom kz_R kk_R_atom (by decide +kernel) S hW hA ⟨by simp only [rmP]; omega, by simp only [rmP]; omega⟩ ⟨Nat.le_of_ble_eq_true rfl, Nat.le_of_ble_eq_true rfl⟩ rfl 0 rfl [0, 1, 2, 3, 4, 5, 6, 7, 8, 9, 10, 11, 12, 13, 14] [] rfl (by decide) rfl (by decide) (by decide) rfl hl.1 rfl (Nat.le_of_ble_eq_true rfl) d_R_simple_23 (fun r u H locs hp hW => ?_)
    rcases hp with ⟨e0_1, pl_2, k1_3, st1_4, nx1_5, n1_6, f1_7, g1_8, hd1_9, ar1_10, sz1_11, lv1_12, wh1_13, sF1_14, sB1_15, en1_16, h_17, h_18, h_19, h_20, rfl, rfl, rfl⟩ | ⟨ff_21, fp_22, x1_23, x2_24, x3_25, x4_26, y1_27, y2_28, y3_29, f1_30, g1_31, hd1_32, ar1_33, sz1_34, lv1_35, wh1_36, sF1_37, sB1_38, h_39, h_40, rfl, rfl⟩
    · have hW : Wd D (tyl cI cJ cB cZ) A s s.heap H locs [(aR, .inr (5, [.ref aT, .ref aC, .ref aK, .ref aF, .ref aR0, .ref aR1, .int (nI sc.length), .int (nI op), .int (nI n1_6), .int (nI (en + nsz e0_1)), .int rs0, .int rq0, .int rp0, .long rf0, .long rb0, .int r10, .int r20])), (aR0, .inl (cJ, 40, .inr (.inl sF1_14))), (aR1, .inl (cJ, 40, .inr (.inl sB1_15))), (aT, .inr (3, [.ref aF, .ref aTb, .int (nI nx1_5), .int (nI ln), .int (nI k1_3), .int (nI st1_4), .long f1_7, .long g1_8])), (aTb, .inl (cB, 8192, .inl (sby b))), (aF, .inr (0, [.int fn, .int fw])), (aC, .inr (1, [.ref aC0, .ref aC1, .ref aC2, .ref aC3, .ref aC4])), (aC0, .inl (cI, 21092, .inl hd1_9)), (aC1, .inl (cI, 21092, .inl (fun j => nI (ar1_10 j)))), (aC2, .inl (cI, 21092, .inl (fun j => nI (sz1_11 j)))), (aC3, .inl (cI, 21092, .inl (fun j => nI (lv1_12 j)))), (aC4, .inl (cI, 21092, .inl (fun j => nI (wh1_13 j)))), (aK, .inr (4, [.ref aC, .ref aK0, .ref aK1, .ref aK2, .ref aK3, .ref aK4, .int (nI cs.length), .int ce])), (aK0, .inl (cJ, 48, .inr (.inl fr))), (aK1, .inl (cJ, 48, .inr (.inl bk)))] := hW
      refine lv_if_ne (tgt := 31) S.1 S.2.1 d_R_simple_26 (by decide) (fun _ => ?_) (fun h => absurd h (by decide))
      refine lv_iload_n S.1 S.2.1 d_R_simple_31 rfl (lv_at hl 0 rfl) ?_
      refine lv_if_ne (tgt := 37) S.1 S.2.1 d_R_simple_32 (by decide) (fun h => absurd h (by decide)) (fun _ => ?_)
      refine lv_iconst (v := (nI 1)) S.1 S.2.1 d_R_simple_35 (by decide) ?_
      exact ret _ _ _ _ _ _ d_R_simple_36 rfl (Or.inl ⟨_, _, _, _, _, _, _, _, _, _, _, _, _, _, _, _, p1_other c_13 h_17, h_18, h_19, h_20, rfl, rfl, rfl⟩) hW
    · have hW : Wd D (tyl cI cJ cB cZ) A s s.heap H locs [(aR, .inr (5, [.ref aT, .ref aC, .ref aK, .ref aF, .ref aR0, .ref aR1, .int x1_23, .int x2_24, .int x3_25, .int x4_26, .int rs0, .int rq0, .int rp0, .long rf0, .long rb0, .int r10, .int r20])), (aR0, .inl (cJ, 40, .inr (.inl sF1_37))), (aR1, .inl (cJ, 40, .inr (.inl sB1_38))), (aT, .inr (3, [.ref aF, .ref aTb, .int y1_27, .int (nI ln), .int y2_28, .int y3_29, .long f1_30, .long g1_31])), (aTb, .inl (cB, 8192, .inl (sby b))), (aF, .inr (0, [.int (nI ff_21), .int (nI fp_22)])), (aC, .inr (1, [.ref aC0, .ref aC1, .ref aC2, .ref aC3, .ref aC4])), (aC0, .inl (cI, 21092, .inl hd1_32)), (aC1, .inl (cI, 21092, .inl (fun j => nI (ar1_33 j)))), (aC2, .inl (cI, 21092, .inl (fun j => nI (sz1_34 j)))), (aC3, .inl (cI, 21092, .inl (fun j => nI (lv1_35 j)))), (aC4, .inl (cI, 21092, .inl (fun j => nI (wh1_36 j)))), (aK, .inr (4, [.ref aC, .ref aK0, .ref aK1, .ref aK2, .ref aK3, .ref aK4, .int (nI cs.length), .int ce])), (aK0, .inl (cJ, 48, .inr (.inl fr))), (aK1, .inl (cJ, 48, .inr (.inl bk)))] := hW
      refine lv_if_ne (tgt := 31) S.1 S.2.1 d_R_simple_26 (by decide) (fun h => absurd h (by decide)) (fun _ => ?_)
      refine lv_iconst (v := (nI 0)) S.1 S.2.1 d_R_simple_29 (by decide) ?_
      exact ret _ _ _ _ _ _ d_R_simple_30 rfl (Or.inr ⟨_, _, _, _, _, _, _, _, _, _, _, _, _, _, _, _, _, _, (by first | exact p1_bad c_13 h_39 | exact p1_other c_13 h_39), h_40, rfl, rfl⟩) hW
  · refine lv_iconst (v := (nI 1)) S.1 S.2.1 d_R_simple_16 (by decide) ?_
    refine lv_goto (tgt := 21) S.1 S.2.1 d_R_simple_17 (by decide) ?_
    refine lv_istore_n (lv' := [(2, .int (nI 1)), (1, .int (nI en)), (0, .ref aR)]) S.1 S.2.1 d_R_simple_21 rfl hl (by decide) rfl (fun ls hl => ?_)
    refine lv_aload_n S.1 S.2.1 d_R_simple_22 rfl (lv_at hl 2 rfl) ?_
    refine callV_i (wr := []) (wc := [(aR, .inr (5, [.ref aT, .ref aC, .ref aK, .ref aF, .ref aR0, .ref aR1, .int (nI sc.length), .int (nI op), .int (nI nd), .int (nI en), .int rs0, .int rq0, .int rp0, .long rf0, .long rb0, .int r10, .int r20])), (aR0, .inl (cJ, 40, .inr (.inl sF))), (aR1, .inl (cJ, 40, .inr (.inl sB))), (aT, .inr (3, [.ref aF, .ref aTb, .int (nI nx), .int (nI ln), .int (nI k), .int (nI st), .long f0, .long g0])), (aTb, .inl (cB, 8192, .inl (sby b))), (aF, .inr (0, [.int fn, .int fw])), (aC, .inr (1, [.ref aC0, .ref aC1, .ref aC2, .ref aC3, .ref aC4])), (aC0, .inl (cI, 21092, .inl hd)), (aC1, .inl (cI, 21092, .inl (fun j => nI (ar j)))), (aC2, .inl (cI, 21092, .inl (fun j => nI (sz j)))), (aC3, .inl (cI, 21092, .inl (fun j => nI (lv j)))), (aC4, .inl (cI, 21092, .inl (fun j => nI (wh j)))), (aK, .inr (4, [.ref aC, .ref aK0, .ref aK1, .ref aK2, .ref aK3, .ref aK4, .int (nI cs.length), .int ce])), (aK0, .inl (cJ, 48, .inr (.inl fr))), (aK1, .inl (cJ, 48, .inr (.inl bk)))]) (np := 0) (As := []) (rest := []) (i_R_atom aR aT aC aK aF aR0 aR1 aTb aC0 aC1 aC2 aC3 aC4 aK0 aK1 aK2 aK3 aK4 b ln sc cs sF sB fr bk hd ar sz lv wh rs0 rq0 rp0 r10 r20 rf0 rb0 fn fw ce k st nx op nd en f0 g0 hb hln hcur hs hc hcn hn hE (by omega) (by omega) (by omega)) km_R_156 ki_R_atom kv_R_atom kz_R kk_R_atom (by decide +kernel) S hW hA ⟨by simp only [rmP]; omega, by simp only [rmP]; omega⟩ ⟨Nat.le_of_ble_eq_true rfl, Nat.le_of_ble_eq_true rfl⟩ rfl 0 rfl [0, 1, 2, 3, 4, 5, 6, 7, 8, 9, 10, 11, 12, 13, 14] [] rfl (by decide) rfl (by decide) (by decide) rfl hl.1 rfl (Nat.le_of_ble_eq_true rfl) d_R_simple_23 (fun r u H locs hp hW => ?_)
    rcases hp with ⟨e0_41, pl_42, k1_43, st1_44, nx1_45, n1_46, f1_47, g1_48, hd1_49, ar1_50, sz1_51, lv1_52, wh1_53, sF1_54, sB1_55, en1_56, h_57, h_58, h_59, h_60, rfl, rfl, rfl⟩ | ⟨ff_61, fp_62, x1_63, x2_64, x3_65, x4_66, y1_67, y2_68, y3_69, f1_70, g1_71, hd1_72, ar1_73, sz1_74, lv1_75, wh1_76, sF1_77, sB1_78, h_79, h_80, rfl, rfl⟩
    · have hW : Wd D (tyl cI cJ cB cZ) A s s.heap H locs [(aR, .inr (5, [.ref aT, .ref aC, .ref aK, .ref aF, .ref aR0, .ref aR1, .int (nI sc.length), .int (nI op), .int (nI n1_46), .int (nI (en + nsz e0_41)), .int rs0, .int rq0, .int rp0, .long rf0, .long rb0, .int r10, .int r20])), (aR0, .inl (cJ, 40, .inr (.inl sF1_54))), (aR1, .inl (cJ, 40, .inr (.inl sB1_55))), (aT, .inr (3, [.ref aF, .ref aTb, .int (nI nx1_45), .int (nI ln), .int (nI k1_43), .int (nI st1_44), .long f1_47, .long g1_48])), (aTb, .inl (cB, 8192, .inl (sby b))), (aF, .inr (0, [.int fn, .int fw])), (aC, .inr (1, [.ref aC0, .ref aC1, .ref aC2, .ref aC3, .ref aC4])), (aC0, .inl (cI, 21092, .inl hd1_49)), (aC1, .inl (cI, 21092, .inl (fun j => nI (ar1_50 j)))), (aC2, .inl (cI, 21092, .inl (fun j => nI (sz1_51 j)))), (aC3, .inl (cI, 21092, .inl (fun j => nI (lv1_52 j)))), (aC4, .inl (cI, 21092, .inl (fun j => nI (wh1_53 j)))), (aK, .inr (4, [.ref aC, .ref aK0, .ref aK1, .ref aK2, .ref aK3, .ref aK4, .int (nI cs.length), .int ce])), (aK0, .inl (cJ, 48, .inr (.inl fr))), (aK1, .inl (cJ, 48, .inr (.inl bk)))] := hW
      refine lv_if_ne (tgt := 31) S.1 S.2.1 d_R_simple_26 (by decide) (fun _ => ?_) (fun h => absurd h (by decide))
      refine lv_iload_n S.1 S.2.1 d_R_simple_31 rfl (lv_at hl 0 rfl) ?_
      refine lv_if_ne (tgt := 37) S.1 S.2.1 d_R_simple_32 (by decide) (fun _ => ?_) (fun h => absurd h (by decide))
      obtain ⟨xh, hxe, hxp⟩ := atom_inv c_13 h_57
      subst hxe; subst hxp
      refine lv_iconst (v := (nI 1)) S.1 S.2.1 d_R_simple_37 (by decide) ?_
      refine lv_istore_n (lv' := [(3, .int (nI 1)), (2, .int (nI 1)), (1, .int (nI en)), (0, .ref aR)]) S.1 S.2.1 d_R_simple_38 rfl hl (by decide) rfl (fun ls hl => ?_)
      have loop_39 : ∀ (nf : Nat) (ee : Nat) (cn1 : Nat) (as : Ex) (pas : List Nat) (kk : Nat) (sst : Nat) (nnx : Nat) (nn : Nat) (ff1 : Int64) (gg1 : Int64) (hd3 : Nat → Int32) (ar3 : Nat → Nat) (sz3 : Nat → Nat) (lv3 : Nat → Nat) (wh3 : Nat → Nat) (sF3 : Nat → Int64) (sB3 : Nat → Int64), 300 - (nsz as) < nf → (SIv b ln cs sc op nd k st nx en xh as pas kk sst nnx nn ff1 gg1 hd3 ar3 sz3 lv3 wh3) → (Agr en hd hd3 ar ar3 sz sz3 lv lv3 wh wh3) → (KeyR sc sF3 sB3) → (cn1 = nar as + 1) → (ee = en + 1 + nsz as) → ∀ (H : Heap) (locs : List Loc), Wd D (tyl cI cJ cB cZ) A s s.heap H locs [(aR, .inr (5, [.ref aT, .ref aC, .ref aK, .ref aF, .ref aR0, .ref aR1, .int (nI sc.length), .int (nI op), .int (nI nn), .int (nI ee), .int rs0, .int rq0, .int rp0, .long rf0, .long rb0, .int r10, .int r20])), (aR0, .inl (cJ, 40, .inr (.inl sF3))), (aR1, .inl (cJ, 40, .inr (.inl sB3))), (aT, .inr (3, [.ref aF, .ref aTb, .int (nI nnx), .int (nI ln), .int (nI kk), .int (nI sst), .long ff1, .long gg1])), (aTb, .inl (cB, 8192, .inl (sby b))), (aF, .inr (0, [.int fn, .int fw])), (aC, .inr (1, [.ref aC0, .ref aC1, .ref aC2, .ref aC3, .ref aC4])), (aC0, .inl (cI, 21092, .inl hd3)), (aC1, .inl (cI, 21092, .inl (fun j => nI (ar3 j)))), (aC2, .inl (cI, 21092, .inl (fun j => nI (sz3 j)))), (aC3, .inl (cI, 21092, .inl (fun j => nI (lv3 j)))), (aC4, .inl (cI, 21092, .inl (fun j => nI (wh3 j)))), (aK, .inr (4, [.ref aC, .ref aK0, .ref aK1, .ref aK2, .ref aK3, .ref aK4, .int (nI cs.length), .int ce])), (aK0, .inl (cJ, 48, .inr (.inl fr))), (aK1, .inl (cJ, 48, .inr (.inl bk)))] → ∀ (ls : Array Slot), lv_has ls 4 [(3, .int (nI cn1)), (1, .int (nI en)), (0, .ref aR)] → W p l e (rmP (d + 1)) s m args below meth c H locs 0 0 Q (F0 m 39 ls []) := by
        intro nf
        induction nf with
        | zero =>
          intros
          omega
        | succ nf ih =>
          intro ee cn1 as pas kk sst nnx nn ff1 gg1 hd3 ar3 sz3 lv3 wh3 sF3 sB3 hnf hv hg hs3 hcn1 hee H locs hW ls hl
          subst hee
          have hvc := hv.2.2.2.2.2.2.2.2.2.1.2.2.2.1
          have hvn := hv.2.2.2.2.2.2.2.1
          have hvE := hv.2.2.2.2.2.2.2.2.1
          have hva := nar_le hv.2.1 rfl
          have hvs := hv.2.2.2.2.2.2.1
          refine lv_iload_n S.1 S.2.1 d_R_simple_39 rfl (lv_at hl 0 rfl) ?_
          refine lv_sipush (v := (nI 300)) S.1 S.2.1 d_R_simple_40 (by decide) ?_
          refine n_icmp_gt (tgt := 78) S (by omega) (by omega) d_R_simple_43 (by decide) (fun c_43 => absurd c_43 (by omega)) (fun c_43 => ?_)
          refine lv_aload_n S.1 S.2.1 d_R_simple_46 rfl (lv_at hl 2 rfl) ?_
          refine callV_i (wr := [(aR0, .inl (cJ, 40, .inr (.inl sF3))), (aR1, .inl (cJ, 40, .inr (.inl sB3))), (aTb, .inl (cB, 8192, .inl (sby b))), (aF, .inr (0, [.int fn, .int fw])), (aC, .inr (1, [.ref aC0, .ref aC1, .ref aC2, .ref aC3, .ref aC4])), (aC0, .inl (cI, 21092, .inl hd3)), (aC1, .inl (cI, 21092, .inl (fun j => nI (ar3 j)))), (aC2, .inl (cI, 21092, .inl (fun j => nI (sz3 j)))), (aC3, .inl (cI, 21092, .inl (fun j => nI (lv3 j)))), (aC4, .inl (cI, 21092, .inl (fun j => nI (wh3 j)))), (aK, .inr (4, [.ref aC, .ref aK0, .ref aK1, .ref aK2, .ref aK3, .ref aK4, .int (nI cs.length), .int ce])), (aK0, .inl (cJ, 48, .inr (.inl fr))), (aK1, .inl (cJ, 48, .inr (.inl bk)))]) (wc := [(aR, .inr (5, [.ref aT, .ref aC, .ref aK, .ref aF, .ref aR0, .ref aR1, .int (nI sc.length), .int (nI op), .int (nI nn), .int (nI ((en + 1) + (nsz as))), .int rs0, .int rq0, .int rp0, .long rf0, .long rb0, .int r10, .int r20])), (aT, .inr (3, [.ref aF, .ref aTb, .int (nI nnx), .int (nI ln), .int (nI kk), .int (nI sst), .long ff1, .long gg1]))]) (np := 0) (As := []) (rest := []) (c_R_atomBegins l D cI cJ cB cZ aR aT aC aK aF aR0 aR1 aTb rs0 rq0 rp0 r10 r20 rf0 rb0 (nI sc.length) (nI op) (nI nn) (nI ((en + 1) + (nsz as))) (nI nnx) (nI ln) (nI sst) kk ff1 gg1 hvc) km_R_159 ki_R_atomBegins kv_R_atomBegins kz_R kk_R_atomBegins (by decide +kernel) S hW hA ⟨by simp only [rmP]; omega, by simp only [rmP]; omega⟩ ⟨Nat.le_of_ble_eq_true rfl, Nat.le_of_ble_eq_true rfl⟩ rfl 0 rfl [0, 3] [1, 2, 4, 5, 6, 7, 8, 9, 10, 11, 12, 13, 14] rfl (by decide) rfl (by decide) (by decide) rfl hl.1 rfl (Nat.le_of_ble_eq_true rfl) d_R_simple_47 (fun r u H locs hp hW => ?_)
          rcases hp with ⟨h_81, rfl, rfl⟩ | ⟨h_82, rfl, rfl⟩
          · have hW : Wd D (tyl cI cJ cB cZ) A s s.heap H locs [(aR, .inr (5, [.ref aT, .ref aC, .ref aK, .ref aF, .ref aR0, .ref aR1, .int (nI sc.length), .int (nI op), .int (nI nn), .int (nI ((en + 1) + (nsz as))), .int rs0, .int rq0, .int rp0, .long rf0, .long rb0, .int r10, .int r20])), (aR0, .inl (cJ, 40, .inr (.inl sF3))), (aR1, .inl (cJ, 40, .inr (.inl sB3))), (aT, .inr (3, [.ref aF, .ref aTb, .int (nI nnx), .int (nI ln), .int (nI kk), .int (nI sst), .long ff1, .long gg1])), (aTb, .inl (cB, 8192, .inl (sby b))), (aF, .inr (0, [.int fn, .int fw])), (aC, .inr (1, [.ref aC0, .ref aC1, .ref aC2, .ref aC3, .ref aC4])), (aC0, .inl (cI, 21092, .inl hd3)), (aC1, .inl (cI, 21092, .inl (fun j => nI (ar3 j)))), (aC2, .inl (cI, 21092, .inl (fun j => nI (sz3 j)))), (aC3, .inl (cI, 21092, .inl (fun j => nI (lv3 j)))), (aC4, .inl (cI, 21092, .inl (fun j => nI (wh3 j)))), (aK, .inr (4, [.ref aC, .ref aK0, .ref aK1, .ref aK2, .ref aK3, .ref aK4, .int (nI cs.length), .int ce])), (aK0, .inl (cJ, 48, .inr (.inl fr))), (aK1, .inl (cJ, 48, .inr (.inl bk)))] := hW.sub [13, 0, 1, 14, 2, 3, 4, 5, 6, 7, 8, 9, 10, 11, 12] (by decide) rfl
            refine lv_if_eq (tgt := 78) S.1 S.2.1 d_R_simple_50 (by decide) (fun h => absurd h (by decide)) (fun _ => ?_)
            refine lv_aload_n S.1 S.2.1 d_R_simple_53 rfl (lv_at hl 2 rfl) ?_
            refine callV_i (wr := []) (wc := [(aR, .inr (5, [.ref aT, .ref aC, .ref aK, .ref aF, .ref aR0, .ref aR1, .int (nI sc.length), .int (nI op), .int (nI nn), .int (nI ((en + 1) + (nsz as))), .int rs0, .int rq0, .int rp0, .long rf0, .long rb0, .int r10, .int r20])), (aR0, .inl (cJ, 40, .inr (.inl sF3))), (aR1, .inl (cJ, 40, .inr (.inl sB3))), (aT, .inr (3, [.ref aF, .ref aTb, .int (nI nnx), .int (nI ln), .int (nI kk), .int (nI sst), .long ff1, .long gg1])), (aTb, .inl (cB, 8192, .inl (sby b))), (aF, .inr (0, [.int fn, .int fw])), (aC, .inr (1, [.ref aC0, .ref aC1, .ref aC2, .ref aC3, .ref aC4])), (aC0, .inl (cI, 21092, .inl hd3)), (aC1, .inl (cI, 21092, .inl (fun j => nI (ar3 j)))), (aC2, .inl (cI, 21092, .inl (fun j => nI (sz3 j)))), (aC3, .inl (cI, 21092, .inl (fun j => nI (lv3 j)))), (aC4, .inl (cI, 21092, .inl (fun j => nI (wh3 j)))), (aK, .inr (4, [.ref aC, .ref aK0, .ref aK1, .ref aK2, .ref aK3, .ref aK4, .int (nI cs.length), .int ce])), (aK0, .inl (cJ, 48, .inr (.inl fr))), (aK1, .inl (cJ, 48, .inr (.inl bk)))]) (np := 0) (As := []) (rest := []) (i_R_atom aR aT aC aK aF aR0 aR1 aTb aC0 aC1 aC2 aC3 aC4 aK0 aK1 aK2 aK3 aK4 b ln sc cs sF3 sB3 fr bk hd3 ar3 sz3 lv3 wh3 rs0 rq0 rp0 r10 r20 rf0 rb0 fn fw ce kk sst nnx op nn ((en + 1) + (nsz as)) ff1 gg1 hb hln hv.2.2.2.2.2.2.2.2.2.1 hs3 hc hcn hvn hvE (by omega) (by omega) (by omega)) km_R_156 ki_R_atom kv_R_atom kz_R kk_R_atom (by decide +kernel) S hW hA ⟨by simp only [rmP]; omega, by simp only [rmP]; omega⟩ ⟨Nat.le_of_ble_eq_true rfl, Nat.le_of_ble_eq_true rfl⟩ rfl 0 rfl [0, 1, 2, 3, 4, 5, 6, 7, 8, 9, 10, 11, 12, 13, 14] [] rfl (by decide) rfl (by decide) (by decide) rfl hl.1 rfl (Nat.le_of_ble_eq_true rfl) d_R_simple_54 (fun r u H locs hp hW => ?_)
            rcases hp with ⟨e0_83, pl_84, k1_85, st1_86, nx1_87, n1_88, f1_89, g1_90, hd1_91, ar1_92, sz1_93, lv1_94, wh1_95, sF1_96, sB1_97, en1_98, h_99, h_100, h_101, h_102, rfl, rfl, rfl⟩ | ⟨ff_103, fp_104, x1_105, x2_106, x3_107, x4_108, y1_109, y2_110, y3_111, f1_112, g1_113, hd1_114, ar1_115, sz1_116, lv1_117, wh1_118, sF1_119, sB1_120, h_121, h_122, rfl, rfl⟩
            · have hW : Wd D (tyl cI cJ cB cZ) A s s.heap H locs [(aR, .inr (5, [.ref aT, .ref aC, .ref aK, .ref aF, .ref aR0, .ref aR1, .int (nI sc.length), .int (nI op), .int (nI n1_88), .int (nI (((en + 1) + (nsz as)) + nsz e0_83)), .int rs0, .int rq0, .int rp0, .long rf0, .long rb0, .int r10, .int r20])), (aR0, .inl (cJ, 40, .inr (.inl sF1_96))), (aR1, .inl (cJ, 40, .inr (.inl sB1_97))), (aT, .inr (3, [.ref aF, .ref aTb, .int (nI nx1_87), .int (nI ln), .int (nI k1_85), .int (nI st1_86), .long f1_89, .long g1_90])), (aTb, .inl (cB, 8192, .inl (sby b))), (aF, .inr (0, [.int fn, .int fw])), (aC, .inr (1, [.ref aC0, .ref aC1, .ref aC2, .ref aC3, .ref aC4])), (aC0, .inl (cI, 21092, .inl hd1_91)), (aC1, .inl (cI, 21092, .inl (fun j => nI (ar1_92 j)))), (aC2, .inl (cI, 21092, .inl (fun j => nI (sz1_93 j)))), (aC3, .inl (cI, 21092, .inl (fun j => nI (lv1_94 j)))), (aC4, .inl (cI, 21092, .inl (fun j => nI (wh1_95 j)))), (aK, .inr (4, [.ref aC, .ref aK0, .ref aK1, .ref aK2, .ref aK3, .ref aK4, .int (nI cs.length), .int ce])), (aK0, .inl (cJ, 48, .inr (.inl fr))), (aK1, .inl (cJ, 48, .inr (.inl bk)))] := hW
              refine lv_if_ne (tgt := 62) S.1 S.2.1 d_R_simple_57 (by decide) (fun _ => ?_) (fun h => absurd h (by decide))
              refine lv_aload_n S.1 S.2.1 d_R_simple_62 rfl (lv_at hl 2 rfl) ?_
              refine g_get i_R S hW 0 rfl rfl 1 (by decide) kf_R_58 rfl d_R_simple_63 ?_
              refine g_get i_C S hW 6 rfl rfl 1 (by decide) kf_R_162 rfl d_R_simple_66 ?_
              refine lv_iload_n S.1 S.2.1 d_R_simple_69 rfl (lv_at hl 1 rfl) ?_
              refine lv_iload_n S.1 S.2.1 d_R_simple_70 rfl (lv_at hl 0 rfl) ?_
              refine n_iast (ws2 := [(aR, .inr (5, [.ref aT, .ref aC, .ref aK, .ref aF, .ref aR0, .ref aR1, .int (nI sc.length), .int (nI op), .int (nI n1_88), .int (nI (((en + 1) + (nsz as)) + nsz e0_83)), .int rs0, .int rq0, .int rp0, .long rf0, .long rb0, .int r10, .int r20])), (aR0, .inl (cJ, 40, .inr (.inl sF1_96))), (aR1, .inl (cJ, 40, .inr (.inl sB1_97))), (aT, .inr (3, [.ref aF, .ref aTb, .int (nI nx1_87), .int (nI ln), .int (nI k1_85), .int (nI st1_86), .long f1_89, .long g1_90])), (aTb, .inl (cB, 8192, .inl (sby b))), (aF, .inr (0, [.int fn, .int fw])), (aC, .inr (1, [.ref aC0, .ref aC1, .ref aC2, .ref aC3, .ref aC4])), (aC0, .inl (cI, 21092, .inl hd1_91)), (aC1, .inl (cI, 21092, .inl (upd (fun j => nI (ar1_92 j)) en (nI cn1)))), (aC2, .inl (cI, 21092, .inl (fun j => nI (sz1_93 j)))), (aC3, .inl (cI, 21092, .inl (fun j => nI (lv1_94 j)))), (aC4, .inl (cI, 21092, .inl (fun j => nI (wh1_95 j)))), (aK, .inr (4, [.ref aC, .ref aK0, .ref aK1, .ref aK2, .ref aK3, .ref aK4, .int (nI cs.length), .int ce])), (aK0, .inl (cJ, 48, .inr (.inl fr))), (aK1, .inl (cJ, 48, .inr (.inl bk)))]) S hW 8 0 rfl rfl (by decide) (by omega) rfl d_R_simple_71 (fun H locs hW => ?_)
              have hW : Wd D (tyl cI cJ cB cZ) A s s.heap H locs [(aR, .inr (5, [.ref aT, .ref aC, .ref aK, .ref aF, .ref aR0, .ref aR1, .int (nI sc.length), .int (nI op), .int (nI n1_88), .int (nI (((en + 1) + (nsz as)) + nsz e0_83)), .int rs0, .int rq0, .int rp0, .long rf0, .long rb0, .int r10, .int r20])), (aR0, .inl (cJ, 40, .inr (.inl sF1_96))), (aR1, .inl (cJ, 40, .inr (.inl sB1_97))), (aT, .inr (3, [.ref aF, .ref aTb, .int (nI nx1_87), .int (nI ln), .int (nI k1_85), .int (nI st1_86), .long f1_89, .long g1_90])), (aTb, .inl (cB, 8192, .inl (sby b))), (aF, .inr (0, [.int fn, .int fw])), (aC, .inr (1, [.ref aC0, .ref aC1, .ref aC2, .ref aC3, .ref aC4])), (aC0, .inl (cI, 21092, .inl hd1_91)), (aC1, .inl (cI, 21092, .inl (fun j => nI (updN ar1_92 en cn1 j)))), (aC2, .inl (cI, 21092, .inl (fun j => nI (sz1_93 j)))), (aC3, .inl (cI, 21092, .inl (fun j => nI (lv1_94 j)))), (aC4, .inl (cI, 21092, .inl (fun j => nI (wh1_95 j)))), (aK, .inr (4, [.ref aC, .ref aK0, .ref aK1, .ref aK2, .ref aK3, .ref aK4, .int (nI cs.length), .int ce])), (aK0, .inl (cJ, 48, .inr (.inl fr))), (aK1, .inl (cJ, 48, .inr (.inl bk)))] := by have q := hW; rw [nI_upd] at q; exact q
              refine lv_iinc (v := (nI (cn1 + 1))) (lv' := [(3, .int (nI (cn1 + 1))), (1, .int (nI en)), (0, .ref aR)]) S.1 S.2.1 d_R_simple_72 hl (k := 0) rfl (inc_eq _ 1 _ (by decide)) (by decide) rfl (fun ls hl => ?_)
              refine lv_goto (tgt := 39) S.1 S.2.1 d_R_simple_75 (by decide) ?_
              have hz1 := (appE_sz hv.2.1 (.add e0_83 (.var 0))).1
              have hz2 := nsz_pos h_100.2.1
              have hz3 : nsz (.add e0_83 (.var 0)) = nsz e0_83 := by simp [nsz]
              have hz4 := h_100.2.2.2.2.2.2.1
              have hz5 := h_100.2.2.2.2.2.2.2.1
              exact ih (((en + 1) + (nsz as)) + nsz e0_83) (cn1 + 1) (appE as (.add e0_83 (.var 0))) (pas ++ pl_84) k1_85 st1_86 nx1_87 n1_88 f1_89 g1_90 hd1_91 (updN ar1_92 en cn1) sz1_93 lv1_94 wh1_95 sF1_96 sB1_97 (by omega) (by have q := siv_s hv h_81 h_99 h_100 h_101; rw [← hcn1] at q; exact q) ((hg.tr h_101 (by omega)).ar (Nat.le_refl _)) h_102 (by rw [(appE_sz hv.2.1 _).2, hcn1]; rfl) (by omega) _ _ hW _ (lv_sub hl [0, 1, 2] rfl)
            · have hW : Wd D (tyl cI cJ cB cZ) A s s.heap H locs [(aR, .inr (5, [.ref aT, .ref aC, .ref aK, .ref aF, .ref aR0, .ref aR1, .int x1_105, .int x2_106, .int x3_107, .int x4_108, .int rs0, .int rq0, .int rp0, .long rf0, .long rb0, .int r10, .int r20])), (aR0, .inl (cJ, 40, .inr (.inl sF1_119))), (aR1, .inl (cJ, 40, .inr (.inl sB1_120))), (aT, .inr (3, [.ref aF, .ref aTb, .int y1_109, .int (nI ln), .int y2_110, .int y3_111, .long f1_112, .long g1_113])), (aTb, .inl (cB, 8192, .inl (sby b))), (aF, .inr (0, [.int (nI ff_103), .int (nI fp_104)])), (aC, .inr (1, [.ref aC0, .ref aC1, .ref aC2, .ref aC3, .ref aC4])), (aC0, .inl (cI, 21092, .inl hd1_114)), (aC1, .inl (cI, 21092, .inl (fun j => nI (ar1_115 j)))), (aC2, .inl (cI, 21092, .inl (fun j => nI (sz1_116 j)))), (aC3, .inl (cI, 21092, .inl (fun j => nI (lv1_117 j)))), (aC4, .inl (cI, 21092, .inl (fun j => nI (wh1_118 j)))), (aK, .inr (4, [.ref aC, .ref aK0, .ref aK1, .ref aK2, .ref aK3, .ref aK4, .int (nI cs.length), .int ce])), (aK0, .inl (cJ, 48, .inr (.inl fr))), (aK1, .inl (cJ, 48, .inr (.inl bk)))] := hW
              refine lv_if_ne (tgt := 62) S.1 S.2.1 d_R_simple_57 (by decide) (fun h => absurd h (by decide)) (fun _ => ?_)
              refine lv_iconst (v := (nI 0)) S.1 S.2.1 d_R_simple_60 (by decide) ?_
              exact ret _ _ _ _ _ _ d_R_simple_61 rfl (Or.inr ⟨_, _, _, _, _, _, _, _, _, _, _, _, _, _, _, _, _, _, hv.1 _ (p4_bad h_81 h_121), hg.tr h_122 (by omega), rfl, rfl⟩) hW
          · have hW : Wd D (tyl cI cJ cB cZ) A s s.heap H locs [(aR, .inr (5, [.ref aT, .ref aC, .ref aK, .ref aF, .ref aR0, .ref aR1, .int (nI sc.length), .int (nI op), .int (nI nn), .int (nI ((en + 1) + (nsz as))), .int rs0, .int rq0, .int rp0, .long rf0, .long rb0, .int r10, .int r20])), (aR0, .inl (cJ, 40, .inr (.inl sF3))), (aR1, .inl (cJ, 40, .inr (.inl sB3))), (aT, .inr (3, [.ref aF, .ref aTb, .int (nI nnx), .int (nI ln), .int (nI kk), .int (nI sst), .long ff1, .long gg1])), (aTb, .inl (cB, 8192, .inl (sby b))), (aF, .inr (0, [.int fn, .int fw])), (aC, .inr (1, [.ref aC0, .ref aC1, .ref aC2, .ref aC3, .ref aC4])), (aC0, .inl (cI, 21092, .inl hd3)), (aC1, .inl (cI, 21092, .inl (fun j => nI (ar3 j)))), (aC2, .inl (cI, 21092, .inl (fun j => nI (sz3 j)))), (aC3, .inl (cI, 21092, .inl (fun j => nI (lv3 j)))), (aC4, .inl (cI, 21092, .inl (fun j => nI (wh3 j)))), (aK, .inr (4, [.ref aC, .ref aK0, .ref aK1, .ref aK2, .ref aK3, .ref aK4, .int (nI cs.length), .int ce])), (aK0, .inl (cJ, 48, .inr (.inl fr))), (aK1, .inl (cJ, 48, .inr (.inl bk)))] := hW.sub [13, 0, 1, 14, 2, 3, 4, 5, 6, 7, 8, 9, 10, 11, 12] (by decide) rfl
            refine lv_if_eq (tgt := 78) S.1 S.2.1 d_R_simple_50 (by decide) (fun _ => ?_) (fun h => absurd h (by decide))
            have hnb := h_82
            refine lv_aload_n S.1 S.2.1 d_R_simple_78 rfl (lv_at hl 2 rfl) ?_
            refine g_get i_R S hW 0 rfl rfl 1 (by decide) kf_R_58 rfl d_R_simple_79 ?_
            refine g_get i_C S hW 6 rfl rfl 2 (by decide) kf_R_153 rfl d_R_simple_82 ?_
            refine lv_iload_n S.1 S.2.1 d_R_simple_85 rfl (lv_at hl 1 rfl) ?_
            refine lv_aload_n S.1 S.2.1 d_R_simple_86 rfl (lv_at hl 2 rfl) ?_
            refine g_get i_R S hW 0 rfl rfl 9 (by decide) kf_R_28 rfl d_R_simple_87 ?_
            refine lv_iload_n S.1 S.2.1 d_R_simple_90 rfl (lv_at hl 1 rfl) ?_
            refine n_isub S (by omega) d_R_simple_91 ?_
            refine n_iast (ws2 := [(aR, .inr (5, [.ref aT, .ref aC, .ref aK, .ref aF, .ref aR0, .ref aR1, .int (nI sc.length), .int (nI op), .int (nI nn), .int (nI ((en + 1) + (nsz as))), .int rs0, .int rq0, .int rp0, .long rf0, .long rb0, .int r10, .int r20])), (aR0, .inl (cJ, 40, .inr (.inl sF3))), (aR1, .inl (cJ, 40, .inr (.inl sB3))), (aT, .inr (3, [.ref aF, .ref aTb, .int (nI nnx), .int (nI ln), .int (nI kk), .int (nI sst), .long ff1, .long gg1])), (aTb, .inl (cB, 8192, .inl (sby b))), (aF, .inr (0, [.int fn, .int fw])), (aC, .inr (1, [.ref aC0, .ref aC1, .ref aC2, .ref aC3, .ref aC4])), (aC0, .inl (cI, 21092, .inl hd3)), (aC1, .inl (cI, 21092, .inl (fun j => nI (ar3 j)))), (aC2, .inl (cI, 21092, .inl (upd (fun j => nI (sz3 j)) en (nI (((en + 1) + (nsz as)) - en))))), (aC3, .inl (cI, 21092, .inl (fun j => nI (lv3 j)))), (aC4, .inl (cI, 21092, .inl (fun j => nI (wh3 j)))), (aK, .inr (4, [.ref aC, .ref aK0, .ref aK1, .ref aK2, .ref aK3, .ref aK4, .int (nI cs.length), .int ce])), (aK0, .inl (cJ, 48, .inr (.inl fr))), (aK1, .inl (cJ, 48, .inr (.inl bk)))]) S hW 9 0 rfl rfl (by decide) (by omega) rfl d_R_simple_92 (fun H locs hW => ?_)
            have hW : Wd D (tyl cI cJ cB cZ) A s s.heap H locs [(aR, .inr (5, [.ref aT, .ref aC, .ref aK, .ref aF, .ref aR0, .ref aR1, .int (nI sc.length), .int (nI op), .int (nI nn), .int (nI ((en + 1) + (nsz as))), .int rs0, .int rq0, .int rp0, .long rf0, .long rb0, .int r10, .int r20])), (aR0, .inl (cJ, 40, .inr (.inl sF3))), (aR1, .inl (cJ, 40, .inr (.inl sB3))), (aT, .inr (3, [.ref aF, .ref aTb, .int (nI nnx), .int (nI ln), .int (nI kk), .int (nI sst), .long ff1, .long gg1])), (aTb, .inl (cB, 8192, .inl (sby b))), (aF, .inr (0, [.int fn, .int fw])), (aC, .inr (1, [.ref aC0, .ref aC1, .ref aC2, .ref aC3, .ref aC4])), (aC0, .inl (cI, 21092, .inl hd3)), (aC1, .inl (cI, 21092, .inl (fun j => nI (ar3 j)))), (aC2, .inl (cI, 21092, .inl (fun j => nI (updN sz3 en (((en + 1) + (nsz as)) - en) j)))), (aC3, .inl (cI, 21092, .inl (fun j => nI (lv3 j)))), (aC4, .inl (cI, 21092, .inl (fun j => nI (wh3 j)))), (aK, .inr (4, [.ref aC, .ref aK0, .ref aK1, .ref aK2, .ref aK3, .ref aK4, .int (nI cs.length), .int ce])), (aK0, .inl (cJ, 48, .inr (.inl fr))), (aK1, .inl (cJ, 48, .inr (.inl bk)))] := by have q := hW; rw [nI_upd] at q; exact q
            refine lv_iconst (v := (nI 1)) S.1 S.2.1 d_R_simple_93 (by decide) ?_
            exact ret _ _ _ _ _ _ d_R_simple_94 rfl (Or.inl ⟨_, _, _, _, _, _, _, _, _, _, _, _, _, _, _, _, (siv_e hv hnb).1, (siv_e hv hnb).2, hg.sz (Nat.le_refl _), hs3, (by simp only [nsz]; omega), rfl, rfl⟩) hW
      exact loop_39 (300 - (nsz (.var 0)) + 1) (en + nsz (.pow (.var 0) xh)) 1 (.var 0) ([]) k1_43 st1_44 nx1_45 n1_46 f1_47 g1_48 hd1_49 ar1_50 sz1_51 lv1_52 wh1_53 sF1_54 sB1_55 (Nat.lt_succ_self _) (siv_0 c_13 h_57 h_58) h_59 h_60 rfl (by simp [nsz]) _ _ hW _ (lv_sub hl [0, 2, 3] rfl)
    · have hW : Wd D (tyl cI cJ cB cZ) A s s.heap H locs [(aR, .inr (5, [.ref aT, .ref aC, .ref aK, .ref aF, .ref aR0, .ref aR1, .int x1_63, .int x2_64, .int x3_65, .int x4_66, .int rs0, .int rq0, .int rp0, .long rf0, .long rb0, .int r10, .int r20])), (aR0, .inl (cJ, 40, .inr (.inl sF1_77))), (aR1, .inl (cJ, 40, .inr (.inl sB1_78))), (aT, .inr (3, [.ref aF, .ref aTb, .int y1_67, .int (nI ln), .int y2_68, .int y3_69, .long f1_70, .long g1_71])), (aTb, .inl (cB, 8192, .inl (sby b))), (aF, .inr (0, [.int (nI ff_61), .int (nI fp_62)])), (aC, .inr (1, [.ref aC0, .ref aC1, .ref aC2, .ref aC3, .ref aC4])), (aC0, .inl (cI, 21092, .inl hd1_72)), (aC1, .inl (cI, 21092, .inl (fun j => nI (ar1_73 j)))), (aC2, .inl (cI, 21092, .inl (fun j => nI (sz1_74 j)))), (aC3, .inl (cI, 21092, .inl (fun j => nI (lv1_75 j)))), (aC4, .inl (cI, 21092, .inl (fun j => nI (wh1_76 j)))), (aK, .inr (4, [.ref aC, .ref aK0, .ref aK1, .ref aK2, .ref aK3, .ref aK4, .int (nI cs.length), .int ce])), (aK0, .inl (cJ, 48, .inr (.inl fr))), (aK1, .inl (cJ, 48, .inr (.inl bk)))] := hW
      refine lv_if_ne (tgt := 31) S.1 S.2.1 d_R_simple_26 (by decide) (fun h => absurd h (by decide)) (fun _ => ?_)
      refine lv_iconst (v := (nI 0)) S.1 S.2.1 d_R_simple_29 (by decide) ?_
      exact ret _ _ _ _ _ _ d_R_simple_30 rfl (Or.inr ⟨_, _, _, _, _, _, _, _, _, _, _, _, _, _, _, _, _, _, (by first | exact p1_bad c_13 h_79 | exact p1_other c_13 h_79), h_80, rfl, rfl⟩) hW
theorem pfam_all (l : Launch) (D : va_G) (cI cJ cB cZ : ClassId) : ∀ d, Fm_R_expression l D cI cJ cB cZ d ∧ Fm_R_product l D cI cJ cB cZ d ∧ Fm_R_function l D cI cJ cB cZ d ∧ Fm_R_simple l D cI cJ cB cZ d ∧ Fm_R_atom l D cI cJ cB cZ d ∧ Fm_R_scope l D cI cJ cB cZ d ∧ Fm_R_arrow l D cI cJ cB cZ d := by
  intro d
  induction d with
  | zero =>
    refine ⟨?_, ?_, ?_, ?_, ?_, ?_, ?_⟩
    · unfold Fm_R_expression; intros; omega
    · unfold Fm_R_product; intros; omega
    · unfold Fm_R_function; intros; omega
    · unfold Fm_R_simple; intros; omega
    · unfold Fm_R_atom; intros; omega
    · unfold Fm_R_scope; intros; omega
    · unfold Fm_R_arrow; intros; omega
  | succ d ih =>
    obtain ⟨a1, a2, a3, a4, a5, a6, a7⟩ := ih
    exact ⟨s_R_expression l D cI cJ cB cZ d a2 a3 a4 a7, s_R_product l D cI cJ cB cZ d a1 a6, s_R_function l D cI cJ cB cZ d a6, s_R_simple l D cI cJ cB cZ d a5, s_R_atom l D cI cJ cB cZ d a1, s_R_scope l D cI cJ cB cZ d a1, s_R_arrow l D cI cJ cB cZ d a6⟩
