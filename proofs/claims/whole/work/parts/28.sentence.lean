/-- a sentence: 0 a question, 1 a constant, 2 a proved one; its name, its expressions with their places, its last token -/
abbrev SRes : Type := (Nat × Nat) ⊕ (Nat × Key × (Ex × List Nat) × (Ex × List Nat) × PT)
def sbad (k st : Nat) : Option SRes := some (.inl (k, st))
def bindS (x : Option PRes) (k : Ex → List Nat → PT → Option SRes) : Option SRes := match x with
  | none => none
  | some (.inl y) => some (.inl y)
  | some (.inr (e, pl, t, _)) => k e pl t
noncomputable def psent (b : Nat → Nat) (ln : Nat) (cs : List Key) (f : Nat) (t : PT) : Option SRes :=
  if t.1 = 63 then bindS (pexp b ln cs f 3 [] 0 0 t) fun e pl t1 => if t1.1 ≠ 46 then sbad 2 t1.2.1 else some (.inr (0, (0, 0), (e, pl), (e, pl), t1))
  else if t.1 ≠ 1 then sbad 2 t.2.1
  else if 48 ≤ cs.length ∨ fkN cs (keyOf b t) cs.length ≠ none then sbad 4 t.2.1
  else if (nxt b ln t.2.2).1 = 4 then sbad 1 (nxt b ln t.2.2).2.1
  else if (nxt b ln t.2.2).1 ≠ 58 then sbad 2 (nxt b ln t.2.2).2.1
  else bindS (pexp b ln cs f 3 [] 0 0 (nxt b ln t.2.2)) fun e pl t2 =>
    if t2.1 = 61 then bindS (pexp b ln cs f 3 [] 0 0 t2) fun e2 pl2 t3 => if t3.1 ≠ 46 then sbad 2 t3.2.1 else some (.inr (2, keyOf b t, (e, pl), (e2, pl2), t3))
    else if t2.1 ≠ 46 then sbad 2 t2.2.1 else some (.inr (1, keyOf b t, (e, pl), (e, pl), t2))
def SRel (b : Nat → Nat) (ln : Nat) (cs : List Key) (t : PT) (r : SRes) : Prop := ∃ f, psent b ln cs f t = some r
theorem bindS_mono {x y : Option PRes} {k k' : Ex → List Nat → PT → Option SRes} {r : SRes} (h : ∀ r, x = some r → y = some r) (hk : ∀ e pl t, k e pl t = some r → k' e pl t = some r) (q : bindS x k = some r) : bindS y k' = some r := by
  cases x with
  | none => simp [bindS] at q
  | some z =>
    rw [h z rfl]
    cases z with
    | inl w => exact q
    | inr w => exact hk _ _ _ q
theorem psent_le {b : Nat → Nat} {ln : Nat} {cs : List Key} {f g : Nat} (hfg : f ≤ g) {t : PT} {r : SRes} (h : psent b ln cs f t = some r) : psent b ln cs g t = some r := by
  unfold psent at h ⊢
  by_cases a1 : t.1 = 63
  · rw [if_pos a1] at h ⊢
    exact bindS_mono (fun r h => pexp_le hfg h) (fun _ _ _ h => h) h
  · rw [if_neg a1] at h ⊢
    by_cases a2 : t.1 ≠ 1
    · rw [if_pos a2] at h ⊢; exact h
    · rw [if_neg a2] at h ⊢
      by_cases a3 : 48 ≤ cs.length ∨ fkN cs (keyOf b t) cs.length ≠ none
      · rw [if_pos a3] at h ⊢; exact h
      · rw [if_neg a3] at h ⊢
        by_cases a4 : (nxt b ln t.2.2).1 = 4
        · rw [if_pos a4] at h ⊢; exact h
        · rw [if_neg a4] at h ⊢
          by_cases a5 : (nxt b ln t.2.2).1 ≠ 58
          · rw [if_pos a5] at h ⊢; exact h
          · rw [if_neg a5] at h ⊢
            refine bindS_mono (fun r h => pexp_le hfg h) (fun e pl t2 h => ?_) h
            by_cases a6 : t2.1 = 61
            · rw [if_pos a6] at h ⊢
              exact bindS_mono (fun r h => pexp_le hfg h) (fun _ _ _ h => h) h
            · rw [if_neg a6] at h ⊢; exact h
theorem SRel.uniq {b : Nat → Nat} {ln : Nat} {cs : List Key} {t : PT} {r r' : SRes} (h : SRel b ln cs t r) (h' : SRel b ln cs t r') : r = r' := by
  obtain ⟨f, h⟩ := h
  obtain ⟨g, h'⟩ := h'
  exact Option.some.inj ((psent_le (Nat.le_max_left f g) h).symm.trans (psent_le (Nat.le_max_right f g) h'))
/-- of a sentence that begins with a name: what is known behind its : -/
def NC (b : Nat → Nat) (ln : Nat) (cs : List Key) (k st nx st1 nx1 : Nat) : Prop := k = 1 ∧ cs.length < 48 ∧ fkN cs (frn b st nx, bkn b st nx) cs.length = none ∧ nxt b ln nx = (58, st1, nx1)
section PS
variable {b : Nat → Nat} {ln : Nat} {cs : List Key} {k st nx st1 nx1 : Nat}
theorem ss_2 (h1 : k ≠ 63) (h2 : k ≠ 1) : SRel b ln cs (k, st, nx) (.inl (2, st)) := ⟨0, by simp [psent, h1, h2, sbad]⟩
theorem ss_4 (h1 : k = 1) (h2 : cs.length = 48 ∨ fkN cs (frn b st nx, bkn b st nx) cs.length ≠ none) : SRel b ln cs (k, st, nx) (.inl (4, st)) := ⟨0, by
  subst h1; unfold psent; rw [if_neg (by simp), if_neg (by simp), if_pos (show 48 ≤ cs.length ∨ fkN cs (keyOf b (1, st, nx)) cs.length ≠ none from h2.imp (fun h => by omega) id)]; rfl⟩
theorem ss_n {k2 st2 nx2 ft : Nat} (h1 : k = 1) (h2 : cs.length < 48) (h3 : fkN cs (frn b st nx, bkn b st nx) cs.length = none) (h4 : nxt b ln nx = (k2, st2, nx2)) (hf : k2 = 4 ∧ ft = 1 ∨ k2 ≠ 4 ∧ k2 ≠ 58 ∧ ft = 2) : SRel b ln cs (k, st, nx) (.inl (ft, st2)) := ⟨0, by
  subst h1; unfold psent; rw [if_neg (by simp), if_neg (by simp), if_neg (by intro q; rcases q with q | q; omega; exact q h3)]
  rcases hf with ⟨rfl, rfl⟩ | ⟨a, c, rfl⟩
  · simp [h4, sbad]
  · simp [h4, sbad, a, c]⟩
theorem NC.un (h : NC b ln cs k st nx st1 nx1) (f : Nat) : psent b ln cs f (k, st, nx) = bindS (pexp b ln cs f 3 [] 0 0 (58, st1, nx1)) fun e pl t2 =>
    if t2.1 = 61 then bindS (pexp b ln cs f 3 [] 0 0 t2) fun e2 pl2 t3 => if t3.1 ≠ 46 then sbad 2 t3.2.1 else some (.inr (2, (frn b st nx, bkn b st nx), (e, pl), (e2, pl2), t3))
    else if t2.1 ≠ 46 then sbad 2 t2.2.1 else some (.inr (1, (frn b st nx, bkn b st nx), (e, pl), (e, pl), t2)) := by
  obtain ⟨rfl, h2, h3, h4⟩ := h
  unfold psent
  rw [if_neg (by simp), if_neg (by simp), if_neg (by intro q; rcases q with q | q; omega; exact q h3)]
  simp only [h4]
  rw [if_neg (by simp), if_neg (by simp)]
  rfl
theorem ss_q0 {x : Nat × Nat} (hk : k = 63) (h : PRel b ln cs 3 [] 0 0 (k, st, nx) (.inl x)) : SRel b ln cs (k, st, nx) (.inl x) := by
  obtain ⟨f, hf⟩ := h
  exact ⟨f, by subst hk; unfold psent; rw [if_pos rfl, hf]; rfl⟩
theorem ss_q {e : Ex} {pl : List Nat} {k1 n1 : Nat} (hk : k = 63) (h : PRel b ln cs 3 [] 0 0 (k, st, nx) (.inr (e, pl, (k1, st1, nx1), n1))) : SRel b ln cs (k, st, nx) (if k1 ≠ 46 then .inl (2, st1) else .inr (0, (0, 0), (e, pl), (e, pl), (k1, st1, nx1))) := by
  obtain ⟨f, hf⟩ := h
  exact ⟨f, by subst hk; unfold psent; rw [if_pos rfl, hf]; simp only [bindS, sbad]; split <;> rfl⟩
theorem ss_t0 {x : Nat × Nat} (hN : NC b ln cs k st nx st1 nx1) (h : PRel b ln cs 3 [] 0 0 (58, st1, nx1) (.inl x)) : SRel b ln cs (k, st, nx) (.inl x) := by
  obtain ⟨f, hf⟩ := h
  exact ⟨f, by rw [hN.un, hf]; rfl⟩
theorem ss_t {e : Ex} {pl : List Nat} {k2 st2 nx2 n2 : Nat} (hN : NC b ln cs k st nx st1 nx1) (h : PRel b ln cs 3 [] 0 0 (58, st1, nx1) (.inr (e, pl, (k2, st2, nx2), n2))) (h61 : k2 ≠ 61) : SRel b ln cs (k, st, nx) (if k2 ≠ 46 then .inl (2, st2) else .inr (1, (frn b st nx, bkn b st nx), (e, pl), (e, pl), (k2, st2, nx2))) := by
  obtain ⟨f, hf⟩ := h
  exact ⟨f, by rw [hN.un, hf]; simp only [bindS, sbad]; rw [if_neg h61]; split <;> rfl⟩
theorem ss_p0 {e : Ex} {pl : List Nat} {st2 nx2 n2 : Nat} {x : Nat × Nat} (hN : NC b ln cs k st nx st1 nx1) (h : PRel b ln cs 3 [] 0 0 (58, st1, nx1) (.inr (e, pl, (61, st2, nx2), n2))) (h5 : PRel b ln cs 3 [] 0 0 (61, st2, nx2) (.inl x)) : SRel b ln cs (k, st, nx) (.inl x) := by
  obtain ⟨f, hf⟩ := h
  obtain ⟨g, hg⟩ := h5
  have a := pexp_le (Nat.le_max_left f g) hf
  have c := pexp_le (Nat.le_max_right f g) hg
  exact ⟨max f g, by rw [hN.un, a]; simp only [bindS, sbad, if_true, c]⟩
theorem ss_p {e e2 : Ex} {pl pl2 : List Nat} {st2 nx2 n2 k3 st3 nx3 n3 : Nat} (hN : NC b ln cs k st nx st1 nx1) (h : PRel b ln cs 3 [] 0 0 (58, st1, nx1) (.inr (e, pl, (61, st2, nx2), n2))) (h5 : PRel b ln cs 3 [] 0 0 (61, st2, nx2) (.inr (e2, pl2, (k3, st3, nx3), n3))) : SRel b ln cs (k, st, nx) (if k3 ≠ 46 then .inl (2, st3) else .inr (2, (frn b st nx, bkn b st nx), (e, pl), (e2, pl2), (k3, st3, nx3))) := by
  obtain ⟨f, hf⟩ := h
  obtain ⟨g, hg⟩ := h5
  have a := pexp_le (Nat.le_max_left f g) hf
  have c := pexp_le (Nat.le_max_right f g) hg
  exact ⟨max f g, by rw [hN.un, a]; simp only [bindS, sbad, if_true, c]; split <;> rfl⟩
end PS
theorem xE (l : Launch) (D : va_G) (cI cJ cB cZ : ClassId) : Fm_R_expression l D cI cJ cB cZ 123 := (pfam_all l D cI cJ cB cZ 123).1
theorem d_R_wholeExpression_0 : decode b_R_wholeExpression 0 = .ok (.aload_n 0, 1) := by decide +kernel
theorem d_R_wholeExpression_1 : decode b_R_wholeExpression 1 = .ok (.iconst 0, 1) := by decide +kernel
theorem d_R_wholeExpression_2 : decode b_R_wholeExpression 2 = .ok (.putfield 18, 3) := by decide +kernel
theorem d_R_wholeExpression_5 : decode b_R_wholeExpression 5 = .ok (.aload_n 0, 1) := by decide +kernel
theorem d_R_wholeExpression_6 : decode b_R_wholeExpression 6 = .ok (.iconst 0, 1) := by decide +kernel
theorem d_R_wholeExpression_7 : decode b_R_wholeExpression 7 = .ok (.putfield 22, 3) := by decide +kernel
theorem d_R_wholeExpression_10 : decode b_R_wholeExpression 10 = .ok (.aload_n 0, 1) := by decide +kernel
theorem d_R_wholeExpression_11 : decode b_R_wholeExpression 11 = .ok (.iconst 0, 1) := by decide +kernel
theorem d_R_wholeExpression_12 : decode b_R_wholeExpression 12 = .ok (.putfield 25, 3) := by decide +kernel
theorem d_R_wholeExpression_15 : decode b_R_wholeExpression 15 = .ok (.aload_n 0, 1) := by decide +kernel
theorem d_R_wholeExpression_16 : decode b_R_wholeExpression 16 = .ok (.getfield 54, 3) := by decide +kernel
theorem d_R_wholeExpression_19 : decode b_R_wholeExpression 19 = .ok (.invokevirtual 108, 3) := by decide +kernel
theorem d_R_wholeExpression_22 : decode b_R_wholeExpression 22 = .ok (.ifCond .eq 14, 3) := by decide +kernel
theorem d_R_wholeExpression_25 : decode b_R_wholeExpression 25 = .ok (.aload_n 0, 1) := by decide +kernel
theorem d_R_wholeExpression_26 : decode b_R_wholeExpression 26 = .ok (.invokevirtual 111, 3) := by decide +kernel
theorem d_R_wholeExpression_29 : decode b_R_wholeExpression 29 = .ok (.ifCond .eq 7, 3) := by decide +kernel
theorem d_R_wholeExpression_32 : decode b_R_wholeExpression 32 = .ok (.iconst 1, 1) := by decide +kernel
theorem d_R_wholeExpression_33 : decode b_R_wholeExpression 33 = .ok (.goto 4, 3) := by decide +kernel
theorem d_R_wholeExpression_36 : decode b_R_wholeExpression 36 = .ok (.iconst 0, 1) := by decide +kernel
theorem d_R_wholeExpression_37 : decode b_R_wholeExpression 37 = .ok (.ireturn, 1) := by decide +kernel
set_option maxHeartbeats 4000000 in
set_option maxRecDepth 100000 in
theorem c_R_wholeExpression (l : Launch) (D : va_G) (cI cJ cB cZ : ClassId) (aR aT aC aK aF aR0 aR1 aTb : Nat) (aC0 aC1 aC2 aC3 aC4 aK0 aK1 aK2 aK3 aK4 : Nat) (b : Nat → Nat) (ln : Nat) (cs : List Key) (sF sB fr bk : Nat → Int64) (hd : Nat → Int32) (ar sz lv wh : Nat → Nat) (rs0 rq0 rp0 r10 r20 : Int32) (rf0 rb0 : Int64) (fn fw ce lv0 op0 nd0 : Int32) (k st nx en : Nat) (f0 g0 : Int64) (hb : ∀ j, b j < 256) (hln : ln ≤ 8192) (hcur : Cur b ln k st nx f0 g0) (hc : KeyR cs fr bk) (hcn : cs.length ≤ 48) (hE : en + (ln - nx) ≤ 8192) : Ci l D (tyl cI cJ cB cZ) y_R_wholeExpression b_R_wholeExpression 1 (some .boolean) ({ frames := 132, cells := 0, slots := 0, locals := 5341 } : Room) [.ref aR] [(aR, .inr (5, [.ref aT, .ref aC, .ref aK, .ref aF, .ref aR0, .ref aR1, .int lv0, .int op0, .int nd0, .int (nI en), .int rs0, .int rq0, .int rp0, .long rf0, .long rb0, .int r10, .int r20])), (aR0, .inl (cJ, 40, .inr (.inl sF))), (aR1, .inl (cJ, 40, .inr (.inl sB))), (aT, .inr (3, [.ref aF, .ref aTb, .int (nI nx), .int (nI ln), .int (nI k), .int (nI st), .long f0, .long g0])), (aTb, .inl (cB, 8192, .inl (sby b))), (aF, .inr (0, [.int fn, .int fw])), (aC, .inr (1, [.ref aC0, .ref aC1, .ref aC2, .ref aC3, .ref aC4])), (aC0, .inl (cI, 21092, .inl hd)), (aC1, .inl (cI, 21092, .inl (fun j => nI (ar j)))), (aC2, .inl (cI, 21092, .inl (fun j => nI (sz j)))), (aC3, .inl (cI, 21092, .inl (fun j => nI (lv j)))), (aC4, .inl (cI, 21092, .inl (fun j => nI (wh j)))), (aK, .inr (4, [.ref aC, .ref aK0, .ref aK1, .ref aK2, .ref aK3, .ref aK4, .int (nI cs.length), .int ce])), (aK0, .inl (cJ, 48, .inr (.inl fr))), (aK1, .inl (cJ, 48, .inr (.inl bk)))] (fun r u => (∃ (e0 : Ex) (pl : List Nat) (k1 : Nat) (st1 : Nat) (nx1 : Nat) (n1 : Nat) (f1 : Int64) (g1 : Int64) (hd1 : Nat → Int32) (ar1 : Nat → Nat) (sz1 : Nat → Nat) (lv1 : Nat → Nat) (wh1 : Nat → Nat) (sF1 : Nat → Int64) (sB1 : Nat → Int64) (en1 : Nat), (PRel b ln cs 3 ([] : List Key) 0 0 (k, st, nx) (.inr (e0, pl, (k1, st1, nx1), n1))) ∧ (POk b ln 0 en 0 e0 pl k1 st1 nx1 n1 f1 g1 hd1 ar1 sz1 lv1 wh1) ∧ (Agr en hd hd1 ar ar1 sz sz1 lv lv1 wh wh1) ∧ en1 = en + nsz e0 ∧ r = (nI 1) ∧ u = [(aR, .inr (5, [.ref aT, .ref aC, .ref aK, .ref aF, .ref aR0, .ref aR1, .int (nI 0), .int (nI 0), .int (nI n1), .int (nI en1), .int rs0, .int rq0, .int rp0, .long rf0, .long rb0, .int r10, .int r20])), (aR0, .inl (cJ, 40, .inr (.inl sF1))), (aR1, .inl (cJ, 40, .inr (.inl sB1))), (aT, .inr (3, [.ref aF, .ref aTb, .int (nI nx1), .int (nI ln), .int (nI k1), .int (nI st1), .long f1, .long g1])), (aTb, .inl (cB, 8192, .inl (sby b))), (aF, .inr (0, [.int fn, .int fw])), (aC, .inr (1, [.ref aC0, .ref aC1, .ref aC2, .ref aC3, .ref aC4])), (aC0, .inl (cI, 21092, .inl hd1)), (aC1, .inl (cI, 21092, .inl (fun j => nI (ar1 j)))), (aC2, .inl (cI, 21092, .inl (fun j => nI (sz1 j)))), (aC3, .inl (cI, 21092, .inl (fun j => nI (lv1 j)))), (aC4, .inl (cI, 21092, .inl (fun j => nI (wh1 j)))), (aK, .inr (4, [.ref aC, .ref aK0, .ref aK1, .ref aK2, .ref aK3, .ref aK4, .int (nI cs.length), .int ce])), (aK0, .inl (cJ, 48, .inr (.inl fr))), (aK1, .inl (cJ, 48, .inr (.inl bk)))]) ∨ (∃ (ff : Nat) (fp : Nat) (x1 : Int32) (x2 : Int32) (x3 : Int32) (x4 : Int32) (y1 : Int32) (y2 : Int32) (y3 : Int32) (f1 : Int64) (g1 : Int64) (hd1 : Nat → Int32) (ar1 : Nat → Nat) (sz1 : Nat → Nat) (lv1 : Nat → Nat) (wh1 : Nat → Nat) (sF1 : Nat → Int64) (sB1 : Nat → Int64), (PRel b ln cs 3 ([] : List Key) 0 0 (k, st, nx) (.inl (ff, fp))) ∧ (Agr en hd hd1 ar ar1 sz sz1 lv lv1 wh wh1) ∧ r = (nI 0) ∧ u = [(aR, .inr (5, [.ref aT, .ref aC, .ref aK, .ref aF, .ref aR0, .ref aR1, .int x1, .int x2, .int x3, .int x4, .int rs0, .int rq0, .int rp0, .long rf0, .long rb0, .int r10, .int r20])), (aR0, .inl (cJ, 40, .inr (.inl sF1))), (aR1, .inl (cJ, 40, .inr (.inl sB1))), (aT, .inr (3, [.ref aF, .ref aTb, .int y1, .int (nI ln), .int y2, .int y3, .long f1, .long g1])), (aTb, .inl (cB, 8192, .inl (sby b))), (aF, .inr (0, [.int (nI ff), .int (nI fp)])), (aC, .inr (1, [.ref aC0, .ref aC1, .ref aC2, .ref aC3, .ref aC4])), (aC0, .inl (cI, 21092, .inl hd1)), (aC1, .inl (cI, 21092, .inl (fun j => nI (ar1 j)))), (aC2, .inl (cI, 21092, .inl (fun j => nI (sz1 j)))), (aC3, .inl (cI, 21092, .inl (fun j => nI (lv1 j)))), (aC4, .inl (cI, 21092, .inl (fun j => nI (wh1 j)))), (aK, .inr (4, [.ref aC, .ref aK0, .ref aK1, .ref aK2, .ref aK3, .ref aK4, .int (nI cs.length), .int ce])), (aK0, .inl (cJ, 48, .inr (.inl fr))), (aK1, .inl (cJ, 48, .inr (.inl bk)))])) := by
  refine met_i (own := "ProofReader$Parser") (by decide) rfl (Nat.le_of_ble_eq_true rfl) ?_
  intro p e s m args below meth c A Q S hA ret ls hl hW
  have hl : lv_has ls 1 [(0, .ref aR)] := hl
  have hW : Wd D (tyl cI cJ cB cZ) A s s.heap s.heap [] [(aR, .inr (5, [.ref aT, .ref aC, .ref aK, .ref aF, .ref aR0, .ref aR1, .int lv0, .int op0, .int nd0, .int (nI en), .int rs0, .int rq0, .int rp0, .long rf0, .long rb0, .int r10, .int r20])), (aR0, .inl (cJ, 40, .inr (.inl sF))), (aR1, .inl (cJ, 40, .inr (.inl sB))), (aT, .inr (3, [.ref aF, .ref aTb, .int (nI nx), .int (nI ln), .int (nI k), .int (nI st), .long f0, .long g0])), (aTb, .inl (cB, 8192, .inl (sby b))), (aF, .inr (0, [.int fn, .int fw])), (aC, .inr (1, [.ref aC0, .ref aC1, .ref aC2, .ref aC3, .ref aC4])), (aC0, .inl (cI, 21092, .inl hd)), (aC1, .inl (cI, 21092, .inl (fun j => nI (ar j)))), (aC2, .inl (cI, 21092, .inl (fun j => nI (sz j)))), (aC3, .inl (cI, 21092, .inl (fun j => nI (lv j)))), (aC4, .inl (cI, 21092, .inl (fun j => nI (wh j)))), (aK, .inr (4, [.ref aC, .ref aK0, .ref aK1, .ref aK2, .ref aK3, .ref aK4, .int (nI cs.length), .int ce])), (aK0, .inl (cJ, 48, .inr (.inl fr))), (aK1, .inl (cJ, 48, .inr (.inl bk)))] := hW
  have ck := hcur.2.2.2.1
  have cx := hcur.1
  have cy := hcur.2.1
  refine lv_aload_n S.1 S.2.1 d_R_wholeExpression_0 rfl (lv_at hl 0 rfl) ?_
  refine lv_iconst (v := (nI 0)) S.1 S.2.1 d_R_wholeExpression_1 (by decide) ?_
  refine g_put (ws2 := [(aR, .inr (5, [.ref aT, .ref aC, .ref aK, .ref aF, .ref aR0, .ref aR1, .int (nI 0), .int op0, .int nd0, .int (nI en), .int rs0, .int rq0, .int rp0, .long rf0, .long rb0, .int r10, .int r20])), (aR0, .inl (cJ, 40, .inr (.inl sF))), (aR1, .inl (cJ, 40, .inr (.inl sB))), (aT, .inr (3, [.ref aF, .ref aTb, .int (nI nx), .int (nI ln), .int (nI k), .int (nI st), .long f0, .long g0])), (aTb, .inl (cB, 8192, .inl (sby b))), (aF, .inr (0, [.int fn, .int fw])), (aC, .inr (1, [.ref aC0, .ref aC1, .ref aC2, .ref aC3, .ref aC4])), (aC0, .inl (cI, 21092, .inl hd)), (aC1, .inl (cI, 21092, .inl (fun j => nI (ar j)))), (aC2, .inl (cI, 21092, .inl (fun j => nI (sz j)))), (aC3, .inl (cI, 21092, .inl (fun j => nI (lv j)))), (aC4, .inl (cI, 21092, .inl (fun j => nI (wh j)))), (aK, .inr (4, [.ref aC, .ref aK0, .ref aK1, .ref aK2, .ref aK3, .ref aK4, .int (nI cs.length), .int ce])), (aK0, .inl (cJ, 48, .inr (.inl fr))), (aK1, .inl (cJ, 48, .inr (.inl bk)))]) i_R ft_R ft_R_ok n_R S hW 0 rfl rfl 6 (by decide) kf_R_18 rfl rfl rfl (Nat.le_of_ble_eq_true rfl) rfl d_R_wholeExpression_2 (fun H locs hW => ?_)
  refine lv_aload_n S.1 S.2.1 d_R_wholeExpression_5 rfl (lv_at hl 0 rfl) ?_
  refine lv_iconst (v := (nI 0)) S.1 S.2.1 d_R_wholeExpression_6 (by decide) ?_
  refine g_put (ws2 := [(aR, .inr (5, [.ref aT, .ref aC, .ref aK, .ref aF, .ref aR0, .ref aR1, .int (nI 0), .int (nI 0), .int nd0, .int (nI en), .int rs0, .int rq0, .int rp0, .long rf0, .long rb0, .int r10, .int r20])), (aR0, .inl (cJ, 40, .inr (.inl sF))), (aR1, .inl (cJ, 40, .inr (.inl sB))), (aT, .inr (3, [.ref aF, .ref aTb, .int (nI nx), .int (nI ln), .int (nI k), .int (nI st), .long f0, .long g0])), (aTb, .inl (cB, 8192, .inl (sby b))), (aF, .inr (0, [.int fn, .int fw])), (aC, .inr (1, [.ref aC0, .ref aC1, .ref aC2, .ref aC3, .ref aC4])), (aC0, .inl (cI, 21092, .inl hd)), (aC1, .inl (cI, 21092, .inl (fun j => nI (ar j)))), (aC2, .inl (cI, 21092, .inl (fun j => nI (sz j)))), (aC3, .inl (cI, 21092, .inl (fun j => nI (lv j)))), (aC4, .inl (cI, 21092, .inl (fun j => nI (wh j)))), (aK, .inr (4, [.ref aC, .ref aK0, .ref aK1, .ref aK2, .ref aK3, .ref aK4, .int (nI cs.length), .int ce])), (aK0, .inl (cJ, 48, .inr (.inl fr))), (aK1, .inl (cJ, 48, .inr (.inl bk)))]) i_R ft_R ft_R_ok n_R S hW 0 rfl rfl 7 (by decide) kf_R_22 rfl rfl rfl (Nat.le_of_ble_eq_true rfl) rfl d_R_wholeExpression_7 (fun H locs hW => ?_)
  refine lv_aload_n S.1 S.2.1 d_R_wholeExpression_10 rfl (lv_at hl 0 rfl) ?_
  refine lv_iconst (v := (nI 0)) S.1 S.2.1 d_R_wholeExpression_11 (by decide) ?_
  refine g_put (ws2 := [(aR, .inr (5, [.ref aT, .ref aC, .ref aK, .ref aF, .ref aR0, .ref aR1, .int (nI 0), .int (nI 0), .int (nI 0), .int (nI en), .int rs0, .int rq0, .int rp0, .long rf0, .long rb0, .int r10, .int r20])), (aR0, .inl (cJ, 40, .inr (.inl sF))), (aR1, .inl (cJ, 40, .inr (.inl sB))), (aT, .inr (3, [.ref aF, .ref aTb, .int (nI nx), .int (nI ln), .int (nI k), .int (nI st), .long f0, .long g0])), (aTb, .inl (cB, 8192, .inl (sby b))), (aF, .inr (0, [.int fn, .int fw])), (aC, .inr (1, [.ref aC0, .ref aC1, .ref aC2, .ref aC3, .ref aC4])), (aC0, .inl (cI, 21092, .inl hd)), (aC1, .inl (cI, 21092, .inl (fun j => nI (ar j)))), (aC2, .inl (cI, 21092, .inl (fun j => nI (sz j)))), (aC3, .inl (cI, 21092, .inl (fun j => nI (lv j)))), (aC4, .inl (cI, 21092, .inl (fun j => nI (wh j)))), (aK, .inr (4, [.ref aC, .ref aK0, .ref aK1, .ref aK2, .ref aK3, .ref aK4, .int (nI cs.length), .int ce])), (aK0, .inl (cJ, 48, .inr (.inl fr))), (aK1, .inl (cJ, 48, .inr (.inl bk)))]) i_R ft_R ft_R_ok n_R S hW 0 rfl rfl 8 (by decide) kf_R_25 rfl rfl rfl (Nat.le_of_ble_eq_true rfl) rfl d_R_wholeExpression_12 (fun H locs hW => ?_)
  refine lv_aload_n S.1 S.2.1 d_R_wholeExpression_15 rfl (lv_at hl 0 rfl) ?_
  refine g_get i_R S hW 0 rfl rfl 0 (by decide) kf_R_54 rfl d_R_wholeExpression_16 ?_
  refine callV_i (wr := [(aR, .inr (5, [.ref aT, .ref aC, .ref aK, .ref aF, .ref aR0, .ref aR1, .int (nI 0), .int (nI 0), .int (nI 0), .int (nI en), .int rs0, .int rq0, .int rp0, .long rf0, .long rb0, .int r10, .int r20])), (aR0, .inl (cJ, 40, .inr (.inl sF))), (aR1, .inl (cJ, 40, .inr (.inl sB))), (aC, .inr (1, [.ref aC0, .ref aC1, .ref aC2, .ref aC3, .ref aC4])), (aC0, .inl (cI, 21092, .inl hd)), (aC1, .inl (cI, 21092, .inl (fun j => nI (ar j)))), (aC2, .inl (cI, 21092, .inl (fun j => nI (sz j)))), (aC3, .inl (cI, 21092, .inl (fun j => nI (lv j)))), (aC4, .inl (cI, 21092, .inl (fun j => nI (wh j)))), (aK, .inr (4, [.ref aC, .ref aK0, .ref aK1, .ref aK2, .ref aK3, .ref aK4, .int (nI cs.length), .int ce])), (aK0, .inl (cJ, 48, .inr (.inl fr))), (aK1, .inl (cJ, 48, .inr (.inl bk)))]) (wc := [(aT, .inr (3, [.ref aF, .ref aTb, .int (nI nx), .int (nI ln), .int (nI k), .int (nI st), .long f0, .long g0])), (aTb, .inl (cB, 8192, .inl (sby b))), (aF, .inr (0, [.int fn, .int fw]))]) (np := 0) (As := []) (rest := []) (c_T_advance l D cI cJ cB cZ aT aF aTb b nx ln (nI k) (nI st) fn fw f0 g0 hb (by omega) hln) km_R_108 ki_T_advance kv_T_advance kz_T kk_T_advance (by decide +kernel) S hW hA ⟨Nat.le_of_ble_eq_true rfl, Nat.le_of_ble_eq_true rfl⟩ ⟨Nat.le_of_ble_eq_true rfl, Nat.le_of_ble_eq_true rfl⟩ rfl 0 rfl [3, 4, 5] [0, 1, 2, 6, 7, 8, 9, 10, 11, 12, 13, 14] rfl (by decide) rfl (by decide) (by decide) rfl hl.1 rfl (Nat.le_of_ble_eq_true rfl) d_R_wholeExpression_19 (fun r u H locs hp hW => ?_)
  rcases hp with ⟨st1_1, nx1_2, k1_3, f1_4, g1_5, h_6, rfl, rfl⟩ | ⟨st1_7, nx1_8, k1_9, f1_10, g1_11, h_12, rfl, rfl⟩
  · have hW : Wd D (tyl cI cJ cB cZ) A s s.heap H locs [(aR, .inr (5, [.ref aT, .ref aC, .ref aK, .ref aF, .ref aR0, .ref aR1, .int (nI 0), .int (nI 0), .int (nI 0), .int (nI en), .int rs0, .int rq0, .int rp0, .long rf0, .long rb0, .int r10, .int r20])), (aR0, .inl (cJ, 40, .inr (.inl sF))), (aR1, .inl (cJ, 40, .inr (.inl sB))), (aT, .inr (3, [.ref aF, .ref aTb, .int (nI nx1_2), .int (nI ln), .int (nI k1_3), .int (nI st1_1), .long f1_4, .long g1_5])), (aTb, .inl (cB, 8192, .inl (sby b))), (aF, .inr (0, [.int fn, .int fw])), (aC, .inr (1, [.ref aC0, .ref aC1, .ref aC2, .ref aC3, .ref aC4])), (aC0, .inl (cI, 21092, .inl hd)), (aC1, .inl (cI, 21092, .inl (fun j => nI (ar j)))), (aC2, .inl (cI, 21092, .inl (fun j => nI (sz j)))), (aC3, .inl (cI, 21092, .inl (fun j => nI (lv j)))), (aC4, .inl (cI, 21092, .inl (fun j => nI (wh j)))), (aK, .inr (4, [.ref aC, .ref aK0, .ref aK1, .ref aK2, .ref aK3, .ref aK4, .int (nI cs.length), .int ce])), (aK0, .inl (cJ, 48, .inr (.inl fr))), (aK1, .inl (cJ, 48, .inr (.inl bk)))] := hW.sub [0, 1, 2, 12, 13, 14, 3, 4, 5, 6, 7, 8, 9, 10, 11] (by decide) rfl
    refine lv_if_eq (tgt := 36) S.1 S.2.1 d_R_wholeExpression_22 (by decide) (fun h => absurd h (by decide)) (fun _ => ?_)
    obtain ⟨t1c, t1l, t1n⟩ := Adv.cur hb h_6
    have t1k := t1c.2.2.2.1
    have t14 := t1c.2.2.2.2.1
    have t1x := t1c.1
    have t1y := t1c.2.1
    refine lv_aload_n S.1 S.2.1 d_R_wholeExpression_25 rfl (lv_at hl 0 rfl) ?_
    refine callV_i (wr := []) (wc := [(aR, .inr (5, [.ref aT, .ref aC, .ref aK, .ref aF, .ref aR0, .ref aR1, .int (nI (([] : List Key).length)), .int (nI 0), .int (nI 0), .int (nI en), .int rs0, .int rq0, .int rp0, .long rf0, .long rb0, .int r10, .int r20])), (aR0, .inl (cJ, 40, .inr (.inl sF))), (aR1, .inl (cJ, 40, .inr (.inl sB))), (aT, .inr (3, [.ref aF, .ref aTb, .int (nI nx1_2), .int (nI ln), .int (nI k1_3), .int (nI st1_1), .long f1_4, .long g1_5])), (aTb, .inl (cB, 8192, .inl (sby b))), (aF, .inr (0, [.int fn, .int fw])), (aC, .inr (1, [.ref aC0, .ref aC1, .ref aC2, .ref aC3, .ref aC4])), (aC0, .inl (cI, 21092, .inl hd)), (aC1, .inl (cI, 21092, .inl (fun j => nI (ar j)))), (aC2, .inl (cI, 21092, .inl (fun j => nI (sz j)))), (aC3, .inl (cI, 21092, .inl (fun j => nI (lv j)))), (aC4, .inl (cI, 21092, .inl (fun j => nI (wh j)))), (aK, .inr (4, [.ref aC, .ref aK0, .ref aK1, .ref aK2, .ref aK3, .ref aK4, .int (nI cs.length), .int ce])), (aK0, .inl (cJ, 48, .inr (.inl fr))), (aK1, .inl (cJ, 48, .inr (.inl bk)))]) (np := 0) (As := []) (rest := []) (xE l D cI cJ cB cZ aR aT aC aK aF aR0 aR1 aTb aC0 aC1 aC2 aC3 aC4 aK0 aK1 aK2 aK3 aK4 b ln ([] : List Key) cs sF sB fr bk hd ar sz lv wh rs0 rq0 rp0 r10 r20 rf0 rb0 fn fw ce k1_3 st1_1 nx1_2 0 0 en f1_4 g1_5 hb hln t1c (fun i h => absurd h (Nat.not_lt_zero i)) hc hcn (by omega) (by omega) (by simp) (by omega) (by omega)) km_R_111 ki_R_expression kv_R_expression kz_R kk_R_expression (by decide +kernel) S hW hA ⟨Nat.le_of_ble_eq_true rfl, Nat.le_of_ble_eq_true rfl⟩ ⟨Nat.le_of_ble_eq_true rfl, Nat.le_of_ble_eq_true rfl⟩ rfl 0 rfl [0, 1, 2, 3, 4, 5, 6, 7, 8, 9, 10, 11, 12, 13, 14] [] rfl (by decide) rfl (by decide) (by decide) rfl hl.1 rfl (Nat.le_of_ble_eq_true rfl) d_R_wholeExpression_26 (fun r u H locs hp hW => ?_)
    rcases hp with ⟨e0_13, pl_14, k1_15, st1_16, nx1_17, n1_18, f1_19, g1_20, hd1_21, ar1_22, sz1_23, lv1_24, wh1_25, sF1_26, sB1_27, en1_28, h_29, h_30, h_31, h_32, rfl, rfl, rfl⟩ | ⟨ff_33, fp_34, x1_35, x2_36, x3_37, x4_38, y1_39, y2_40, y3_41, f1_42, g1_43, hd1_44, ar1_45, sz1_46, lv1_47, wh1_48, sF1_49, sB1_50, h_51, h_52, rfl, rfl⟩
    · have hW : Wd D (tyl cI cJ cB cZ) A s s.heap H locs [(aR, .inr (5, [.ref aT, .ref aC, .ref aK, .ref aF, .ref aR0, .ref aR1, .int (nI (([] : List Key).length)), .int (nI 0), .int (nI n1_18), .int (nI (en + nsz e0_13)), .int rs0, .int rq0, .int rp0, .long rf0, .long rb0, .int r10, .int r20])), (aR0, .inl (cJ, 40, .inr (.inl sF1_26))), (aR1, .inl (cJ, 40, .inr (.inl sB1_27))), (aT, .inr (3, [.ref aF, .ref aTb, .int (nI nx1_17), .int (nI ln), .int (nI k1_15), .int (nI st1_16), .long f1_19, .long g1_20])), (aTb, .inl (cB, 8192, .inl (sby b))), (aF, .inr (0, [.int fn, .int fw])), (aC, .inr (1, [.ref aC0, .ref aC1, .ref aC2, .ref aC3, .ref aC4])), (aC0, .inl (cI, 21092, .inl hd1_21)), (aC1, .inl (cI, 21092, .inl (fun j => nI (ar1_22 j)))), (aC2, .inl (cI, 21092, .inl (fun j => nI (sz1_23 j)))), (aC3, .inl (cI, 21092, .inl (fun j => nI (lv1_24 j)))), (aC4, .inl (cI, 21092, .inl (fun j => nI (wh1_25 j)))), (aK, .inr (4, [.ref aC, .ref aK0, .ref aK1, .ref aK2, .ref aK3, .ref aK4, .int (nI cs.length), .int ce])), (aK0, .inl (cJ, 48, .inr (.inl fr))), (aK1, .inl (cJ, 48, .inr (.inl bk)))] := hW
      refine lv_if_eq (tgt := 36) S.1 S.2.1 d_R_wholeExpression_29 (by decide) (fun h => absurd h (by decide)) (fun _ => ?_)
      refine lv_iconst (v := (nI 1)) S.1 S.2.1 d_R_wholeExpression_32 (by decide) ?_
      refine lv_goto (tgt := 37) S.1 S.2.1 d_R_wholeExpression_33 (by decide) ?_
      exact ret _ _ _ _ _ _ d_R_wholeExpression_37 rfl (Or.inl ⟨_, _, _, _, _, _, _, _, _, _, _, _, _, _, _, _, p3_ok t1n t14 h_29, h_30, h_31, rfl, rfl, rfl⟩) hW
    · have hW : Wd D (tyl cI cJ cB cZ) A s s.heap H locs [(aR, .inr (5, [.ref aT, .ref aC, .ref aK, .ref aF, .ref aR0, .ref aR1, .int x1_35, .int x2_36, .int x3_37, .int x4_38, .int rs0, .int rq0, .int rp0, .long rf0, .long rb0, .int r10, .int r20])), (aR0, .inl (cJ, 40, .inr (.inl sF1_49))), (aR1, .inl (cJ, 40, .inr (.inl sB1_50))), (aT, .inr (3, [.ref aF, .ref aTb, .int y1_39, .int (nI ln), .int y2_40, .int y3_41, .long f1_42, .long g1_43])), (aTb, .inl (cB, 8192, .inl (sby b))), (aF, .inr (0, [.int (nI ff_33), .int (nI fp_34)])), (aC, .inr (1, [.ref aC0, .ref aC1, .ref aC2, .ref aC3, .ref aC4])), (aC0, .inl (cI, 21092, .inl hd1_44)), (aC1, .inl (cI, 21092, .inl (fun j => nI (ar1_45 j)))), (aC2, .inl (cI, 21092, .inl (fun j => nI (sz1_46 j)))), (aC3, .inl (cI, 21092, .inl (fun j => nI (lv1_47 j)))), (aC4, .inl (cI, 21092, .inl (fun j => nI (wh1_48 j)))), (aK, .inr (4, [.ref aC, .ref aK0, .ref aK1, .ref aK2, .ref aK3, .ref aK4, .int (nI cs.length), .int ce])), (aK0, .inl (cJ, 48, .inr (.inl fr))), (aK1, .inl (cJ, 48, .inr (.inl bk)))] := hW
      refine lv_if_eq (tgt := 36) S.1 S.2.1 d_R_wholeExpression_29 (by decide) (fun _ => ?_) (fun h => absurd h (by decide))
      refine lv_iconst (v := (nI 0)) S.1 S.2.1 d_R_wholeExpression_36 (by decide) ?_
      exact ret _ _ _ _ _ _ d_R_wholeExpression_37 rfl (Or.inr ⟨_, _, _, _, _, _, _, _, _, _, _, _, _, _, _, _, _, _, p3_ok t1n t14 h_51, h_52, rfl, rfl⟩) hW
  · have hW : Wd D (tyl cI cJ cB cZ) A s s.heap H locs [(aR, .inr (5, [.ref aT, .ref aC, .ref aK, .ref aF, .ref aR0, .ref aR1, .int (nI 0), .int (nI 0), .int (nI 0), .int (nI en), .int rs0, .int rq0, .int rp0, .long rf0, .long rb0, .int r10, .int r20])), (aR0, .inl (cJ, 40, .inr (.inl sF))), (aR1, .inl (cJ, 40, .inr (.inl sB))), (aT, .inr (3, [.ref aF, .ref aTb, .int (nI nx1_8), .int (nI ln), .int (nI k1_9), .int (nI st1_7), .long f1_10, .long g1_11])), (aTb, .inl (cB, 8192, .inl (sby b))), (aF, .inr (0, [.int (nI 1), .int (nI st1_7)])), (aC, .inr (1, [.ref aC0, .ref aC1, .ref aC2, .ref aC3, .ref aC4])), (aC0, .inl (cI, 21092, .inl hd)), (aC1, .inl (cI, 21092, .inl (fun j => nI (ar j)))), (aC2, .inl (cI, 21092, .inl (fun j => nI (sz j)))), (aC3, .inl (cI, 21092, .inl (fun j => nI (lv j)))), (aC4, .inl (cI, 21092, .inl (fun j => nI (wh j)))), (aK, .inr (4, [.ref aC, .ref aK0, .ref aK1, .ref aK2, .ref aK3, .ref aK4, .int (nI cs.length), .int ce])), (aK0, .inl (cJ, 48, .inr (.inl fr))), (aK1, .inl (cJ, 48, .inr (.inl bk)))] := hW.sub [0, 1, 2, 12, 13, 14, 3, 4, 5, 6, 7, 8, 9, 10, 11] (by decide) rfl
    refine lv_if_eq (tgt := 36) S.1 S.2.1 d_R_wholeExpression_22 (by decide) (fun _ => ?_) (fun h => absurd h (by decide))
    refine lv_iconst (v := (nI 0)) S.1 S.2.1 d_R_wholeExpression_36 (by decide) ?_
    exact ret _ _ _ _ _ _ d_R_wholeExpression_37 rfl (Or.inr ⟨_, _, _, _, _, _, _, _, _, _, _, _, _, _, _, _, _, _, p3_adv (nxt_eq h_12), Agr.rfl', rfl, rfl⟩) hW
theorem d_R_nameAndColon_0 : decode b_R_nameAndColon 0 = .ok (.aload_n 0, 1) := by decide +kernel
theorem d_R_nameAndColon_1 : decode b_R_nameAndColon 1 = .ok (.iconst 1, 1) := by decide +kernel
theorem d_R_nameAndColon_2 : decode b_R_nameAndColon 2 = .ok (.invokevirtual 86, 3) := by decide +kernel
theorem d_R_nameAndColon_5 : decode b_R_nameAndColon 5 = .ok (.ifCond .ne 5, 3) := by decide +kernel
theorem d_R_nameAndColon_8 : decode b_R_nameAndColon 8 = .ok (.iconst 0, 1) := by decide +kernel
theorem d_R_nameAndColon_9 : decode b_R_nameAndColon 9 = .ok (.ireturn, 1) := by decide +kernel
theorem d_R_nameAndColon_10 : decode b_R_nameAndColon 10 = .ok (.aload_n 0, 1) := by decide +kernel
theorem d_R_nameAndColon_11 : decode b_R_nameAndColon 11 = .ok (.aload_n 0, 1) := by decide +kernel
theorem d_R_nameAndColon_12 : decode b_R_nameAndColon 12 = .ok (.getfield 54, 3) := by decide +kernel
theorem d_R_nameAndColon_15 : decode b_R_nameAndColon 15 = .ok (.getfield 90, 3) := by decide +kernel
theorem d_R_nameAndColon_18 : decode b_R_nameAndColon 18 = .ok (.putfield 41, 3) := by decide +kernel
theorem d_R_nameAndColon_21 : decode b_R_nameAndColon 21 = .ok (.aload_n 0, 1) := by decide +kernel
theorem d_R_nameAndColon_22 : decode b_R_nameAndColon 22 = .ok (.aload_n 0, 1) := by decide +kernel
theorem d_R_nameAndColon_23 : decode b_R_nameAndColon 23 = .ok (.getfield 54, 3) := by decide +kernel
theorem d_R_nameAndColon_26 : decode b_R_nameAndColon 26 = .ok (.getfield 91, 3) := by decide +kernel
theorem d_R_nameAndColon_29 : decode b_R_nameAndColon 29 = .ok (.putfield 45, 3) := by decide +kernel
theorem d_R_nameAndColon_32 : decode b_R_nameAndColon 32 = .ok (.aload_n 0, 1) := by decide +kernel
theorem d_R_nameAndColon_33 : decode b_R_nameAndColon 33 = .ok (.getfield 62, 3) := by decide +kernel
theorem d_R_nameAndColon_36 : decode b_R_nameAndColon 36 = .ok (.invokevirtual 92, 3) := by decide +kernel
theorem d_R_nameAndColon_39 : decode b_R_nameAndColon 39 = .ok (.ifCond .ne 22, 3) := by decide +kernel
theorem d_R_nameAndColon_42 : decode b_R_nameAndColon 42 = .ok (.aload_n 0, 1) := by decide +kernel
theorem d_R_nameAndColon_43 : decode b_R_nameAndColon 43 = .ok (.getfield 62, 3) := by decide +kernel
theorem d_R_nameAndColon_46 : decode b_R_nameAndColon 46 = .ok (.aload_n 0, 1) := by decide +kernel
theorem d_R_nameAndColon_47 : decode b_R_nameAndColon 47 = .ok (.getfield 41, 3) := by decide +kernel
theorem d_R_nameAndColon_50 : decode b_R_nameAndColon 50 = .ok (.aload_n 0, 1) := by decide +kernel
theorem d_R_nameAndColon_51 : decode b_R_nameAndColon 51 = .ok (.getfield 45, 3) := by decide +kernel
theorem d_R_nameAndColon_54 : decode b_R_nameAndColon 54 = .ok (.invokevirtual 95, 3) := by decide +kernel
theorem d_R_nameAndColon_57 : decode b_R_nameAndColon 57 = .ok (.iconst (-1), 1) := by decide +kernel
theorem d_R_nameAndColon_58 : decode b_R_nameAndColon 58 = .ok (.if_icmp .eq 19, 3) := by decide +kernel
theorem d_R_nameAndColon_61 : decode b_R_nameAndColon 61 = .ok (.aload_n 0, 1) := by decide +kernel
theorem d_R_nameAndColon_62 : decode b_R_nameAndColon 62 = .ok (.getfield 66, 3) := by decide +kernel
theorem d_R_nameAndColon_65 : decode b_R_nameAndColon 65 = .ok (.iconst 4, 1) := by decide +kernel
theorem d_R_nameAndColon_66 : decode b_R_nameAndColon 66 = .ok (.aload_n 0, 1) := by decide +kernel
theorem d_R_nameAndColon_67 : decode b_R_nameAndColon 67 = .ok (.getfield 54, 3) := by decide +kernel
theorem d_R_nameAndColon_70 : decode b_R_nameAndColon 70 = .ok (.getfield 70, 3) := by decide +kernel
theorem d_R_nameAndColon_73 : decode b_R_nameAndColon 73 = .ok (.invokevirtual 99, 3) := by decide +kernel
theorem d_R_nameAndColon_76 : decode b_R_nameAndColon 76 = .ok (.ireturn, 1) := by decide +kernel
theorem d_R_nameAndColon_77 : decode b_R_nameAndColon 77 = .ok (.aload_n 0, 1) := by decide +kernel
theorem d_R_nameAndColon_78 : decode b_R_nameAndColon 78 = .ok (.bipush 58, 2) := by decide +kernel
theorem d_R_nameAndColon_80 : decode b_R_nameAndColon 80 = .ok (.invokevirtual 105, 3) := by decide +kernel
theorem d_R_nameAndColon_83 : decode b_R_nameAndColon 83 = .ok (.ireturn, 1) := by decide +kernel
set_option maxHeartbeats 4000000 in
set_option maxRecDepth 100000 in
theorem c_R_nameAndColon (l : Launch) (D : va_G) (cI cJ cB cZ : ClassId) (aR aT aC aK aF aR0 aR1 aTb : Nat) (aK0 aK1 aK2 aK3 aK4 : Nat) (b : Nat → Nat) (ln : Nat) (cs : List Key) (fr bk : Nat → Int64) (rs0 rq0 rp0 r10 r20 : Int32) (rf0 rb0 : Int64) (fn fw ce lv0 op0 nd0 en0 : Int32) (k st nx : Nat) (f0 g0 : Int64) (hb : ∀ j, b j < 256) (hln : ln ≤ 8192) (hcur : Cur b ln k st nx f0 g0) (hc : KeyR cs fr bk) (hcn : cs.length ≤ 48) : Ci l D (tyl cI cJ cB cZ) y_R_nameAndColon b_R_nameAndColon 1 (some .boolean) ({ frames := 4, cells := 0, slots := 0, locals := 85 } : Room) [.ref aR] [(aR, .inr (5, [.ref aT, .ref aC, .ref aK, .ref aF, .ref aR0, .ref aR1, .int lv0, .int op0, .int nd0, .int en0, .int rs0, .int rq0, .int rp0, .long rf0, .long rb0, .int r10, .int r20])), (aT, .inr (3, [.ref aF, .ref aTb, .int (nI nx), .int (nI ln), .int (nI k), .int (nI st), .long f0, .long g0])), (aTb, .inl (cB, 8192, .inl (sby b))), (aF, .inr (0, [.int fn, .int fw])), (aK, .inr (4, [.ref aC, .ref aK0, .ref aK1, .ref aK2, .ref aK3, .ref aK4, .int (nI cs.length), .int ce])), (aK0, .inl (cJ, 48, .inr (.inl fr))), (aK1, .inl (cJ, 48, .inr (.inl bk)))] (fun r u => (∃ (st1 : Nat) (nx1 : Nat) (f1 : Int64) (g1 : Int64), (NC b ln cs k st nx st1 nx1) ∧ (Cur b ln 58 st1 nx1 f1 g1) ∧ (nx ≤ st1) ∧ r = (nI 1) ∧ u = [(aR, .inr (5, [.ref aT, .ref aC, .ref aK, .ref aF, .ref aR0, .ref aR1, .int lv0, .int op0, .int nd0, .int en0, .int rs0, .int rq0, .int rp0, .long (frn b st nx), .long (bkn b st nx), .int r10, .int r20])), (aT, .inr (3, [.ref aF, .ref aTb, .int (nI nx1), .int (nI ln), .int (nI 58), .int (nI st1), .long f1, .long g1])), (aTb, .inl (cB, 8192, .inl (sby b))), (aF, .inr (0, [.int fn, .int fw])), (aK, .inr (4, [.ref aC, .ref aK0, .ref aK1, .ref aK2, .ref aK3, .ref aK4, .int (nI cs.length), .int ce])), (aK0, .inl (cJ, 48, .inr (.inl fr))), (aK1, .inl (cJ, 48, .inr (.inl bk)))]) ∨ (∃ (ff : Nat) (fp : Nat) (y1 : Int32) (y2 : Int32) (y3 : Int32) (f1 : Int64) (g1 : Int64) (rf1 : Int64) (rb1 : Int64), ((k ≠ 63 → SRel b ln cs (k, st, nx) (.inl (ff, fp)))) ∧ r = (nI 0) ∧ u = [(aR, .inr (5, [.ref aT, .ref aC, .ref aK, .ref aF, .ref aR0, .ref aR1, .int lv0, .int op0, .int nd0, .int en0, .int rs0, .int rq0, .int rp0, .long rf1, .long rb1, .int r10, .int r20])), (aT, .inr (3, [.ref aF, .ref aTb, .int y1, .int (nI ln), .int y2, .int y3, .long f1, .long g1])), (aTb, .inl (cB, 8192, .inl (sby b))), (aF, .inr (0, [.int (nI ff), .int (nI fp)])), (aK, .inr (4, [.ref aC, .ref aK0, .ref aK1, .ref aK2, .ref aK3, .ref aK4, .int (nI cs.length), .int ce])), (aK0, .inl (cJ, 48, .inr (.inl fr))), (aK1, .inl (cJ, 48, .inr (.inl bk)))])) := by
  refine met_i (own := "ProofReader$Parser") (by decide) rfl (Nat.le_of_ble_eq_true rfl) ?_
  intro p e s m args below meth c A Q S hA ret ls hl hW
  have hl : lv_has ls 1 [(0, .ref aR)] := hl
  have hW : Wd D (tyl cI cJ cB cZ) A s s.heap s.heap [] [(aR, .inr (5, [.ref aT, .ref aC, .ref aK, .ref aF, .ref aR0, .ref aR1, .int lv0, .int op0, .int nd0, .int en0, .int rs0, .int rq0, .int rp0, .long rf0, .long rb0, .int r10, .int r20])), (aT, .inr (3, [.ref aF, .ref aTb, .int (nI nx), .int (nI ln), .int (nI k), .int (nI st), .long f0, .long g0])), (aTb, .inl (cB, 8192, .inl (sby b))), (aF, .inr (0, [.int fn, .int fw])), (aK, .inr (4, [.ref aC, .ref aK0, .ref aK1, .ref aK2, .ref aK3, .ref aK4, .int (nI cs.length), .int ce])), (aK0, .inl (cJ, 48, .inr (.inl fr))), (aK1, .inl (cJ, 48, .inr (.inl bk)))] := hW
  have ck := hcur.2.2.2.1
  have cx := hcur.1
  have cy := hcur.2.1
  refine lv_aload_n S.1 S.2.1 d_R_nameAndColon_0 rfl (lv_at hl 0 rfl) ?_
  refine lv_iconst (v := (nI 1)) S.1 S.2.1 d_R_nameAndColon_1 (by decide) ?_
  refine callV_i (wr := [(aTb, .inl (cB, 8192, .inl (sby b))), (aK, .inr (4, [.ref aC, .ref aK0, .ref aK1, .ref aK2, .ref aK3, .ref aK4, .int (nI cs.length), .int ce])), (aK0, .inl (cJ, 48, .inr (.inl fr))), (aK1, .inl (cJ, 48, .inr (.inl bk)))]) (wc := [(aR, .inr (5, [.ref aT, .ref aC, .ref aK, .ref aF, .ref aR0, .ref aR1, .int lv0, .int op0, .int nd0, .int en0, .int rs0, .int rq0, .int rp0, .long rf0, .long rb0, .int r10, .int r20])), (aT, .inr (3, [.ref aF, .ref aTb, .int (nI nx), .int (nI ln), .int (nI k), .int (nI st), .long f0, .long g0])), (aF, .inr (0, [.int fn, .int fw]))]) (np := 1) (As := [.int (nI 1)]) (rest := []) (c_R_isNow l D cI cJ cB cZ aR aT aC aK aF aR0 aR1 aTb rs0 rq0 rp0 r10 r20 rf0 rb0 lv0 op0 nd0 en0 fn fw nx ln k st 1 f0 g0 ck (by omega)) km_R_86 ki_R_isNow kv_R_isNow kz_R kk_R_isNow (by decide +kernel) S hW hA ⟨Nat.le_of_ble_eq_true rfl, Nat.le_of_ble_eq_true rfl⟩ ⟨Nat.le_of_ble_eq_true rfl, Nat.le_of_ble_eq_true rfl⟩ rfl 0 rfl [0, 1, 3] [2, 4, 5, 6] rfl (by decide) rfl (by decide) (by decide) rfl hl.1 rfl (Nat.le_of_ble_eq_true rfl) d_R_nameAndColon_2 (fun r u H locs hp hW => ?_)
  rcases hp with ⟨h_1, rfl, rfl⟩ | ⟨h_2, rfl, rfl⟩
  · have hW : Wd D (tyl cI cJ cB cZ) A s s.heap H locs [(aR, .inr (5, [.ref aT, .ref aC, .ref aK, .ref aF, .ref aR0, .ref aR1, .int lv0, .int op0, .int nd0, .int en0, .int rs0, .int rq0, .int rp0, .long rf0, .long rb0, .int r10, .int r20])), (aT, .inr (3, [.ref aF, .ref aTb, .int (nI nx), .int (nI ln), .int (nI k), .int (nI st), .long f0, .long g0])), (aTb, .inl (cB, 8192, .inl (sby b))), (aF, .inr (0, [.int fn, .int fw])), (aK, .inr (4, [.ref aC, .ref aK0, .ref aK1, .ref aK2, .ref aK3, .ref aK4, .int (nI cs.length), .int ce])), (aK0, .inl (cJ, 48, .inr (.inl fr))), (aK1, .inl (cJ, 48, .inr (.inl bk)))] := hW.sub [4, 5, 0, 6, 1, 2, 3] (by decide) rfl
    refine lv_if_ne (tgt := 10) S.1 S.2.1 d_R_nameAndColon_5 (by decide) (fun _ => ?_) (fun h => absurd h (by decide))
    have hk1 : k = 1 := h_1
    obtain ⟨hkf, hkg⟩ := hcur.2.2.2.2.2 hk1
    have hlt := hcur.2.2.1 (by omega)
    subst hkf; subst hkg
    refine lv_aload_n S.1 S.2.1 d_R_nameAndColon_10 rfl (lv_at hl 0 rfl) ?_
    refine lv_aload_n S.1 S.2.1 d_R_nameAndColon_11 rfl (lv_at hl 0 rfl) ?_
    refine g_get i_R S hW 0 rfl rfl 0 (by decide) kf_R_54 rfl d_R_nameAndColon_12 ?_
    refine g_get i_T S hW 1 rfl rfl 6 (by decide) kf_R_90 rfl d_R_nameAndColon_15 ?_
    refine g_put (ws2 := [(aR, .inr (5, [.ref aT, .ref aC, .ref aK, .ref aF, .ref aR0, .ref aR1, .int lv0, .int op0, .int nd0, .int en0, .int rs0, .int rq0, .int rp0, .long (frn b st nx), .long rb0, .int r10, .int r20])), (aT, .inr (3, [.ref aF, .ref aTb, .int (nI nx), .int (nI ln), .int (nI k), .int (nI st), .long (frn b st nx), .long (bkn b st nx)])), (aTb, .inl (cB, 8192, .inl (sby b))), (aF, .inr (0, [.int fn, .int fw])), (aK, .inr (4, [.ref aC, .ref aK0, .ref aK1, .ref aK2, .ref aK3, .ref aK4, .int (nI cs.length), .int ce])), (aK0, .inl (cJ, 48, .inr (.inl fr))), (aK1, .inl (cJ, 48, .inr (.inl bk)))]) i_R ft_R ft_R_ok n_R S hW 0 rfl rfl 13 (by decide) kf_R_41 rfl rfl rfl (Nat.le_of_ble_eq_true rfl) rfl d_R_nameAndColon_18 (fun H locs hW => ?_)
    refine lv_aload_n S.1 S.2.1 d_R_nameAndColon_21 rfl (lv_at hl 0 rfl) ?_
    refine lv_aload_n S.1 S.2.1 d_R_nameAndColon_22 rfl (lv_at hl 0 rfl) ?_
    refine g_get i_R S hW 0 rfl rfl 0 (by decide) kf_R_54 rfl d_R_nameAndColon_23 ?_
    refine g_get i_T S hW 1 rfl rfl 7 (by decide) kf_R_91 rfl d_R_nameAndColon_26 ?_
    refine g_put (ws2 := [(aR, .inr (5, [.ref aT, .ref aC, .ref aK, .ref aF, .ref aR0, .ref aR1, .int lv0, .int op0, .int nd0, .int en0, .int rs0, .int rq0, .int rp0, .long (frn b st nx), .long (bkn b st nx), .int r10, .int r20])), (aT, .inr (3, [.ref aF, .ref aTb, .int (nI nx), .int (nI ln), .int (nI k), .int (nI st), .long (frn b st nx), .long (bkn b st nx)])), (aTb, .inl (cB, 8192, .inl (sby b))), (aF, .inr (0, [.int fn, .int fw])), (aK, .inr (4, [.ref aC, .ref aK0, .ref aK1, .ref aK2, .ref aK3, .ref aK4, .int (nI cs.length), .int ce])), (aK0, .inl (cJ, 48, .inr (.inl fr))), (aK1, .inl (cJ, 48, .inr (.inl bk)))]) i_R ft_R ft_R_ok n_R S hW 0 rfl rfl 14 (by decide) kf_R_45 rfl rfl rfl (Nat.le_of_ble_eq_true rfl) rfl d_R_nameAndColon_29 (fun H locs hW => ?_)
    refine lv_aload_n S.1 S.2.1 d_R_nameAndColon_32 rfl (lv_at hl 0 rfl) ?_
    refine g_get i_R S hW 0 rfl rfl 2 (by decide) kf_R_62 rfl d_R_nameAndColon_33 ?_
    refine callV_i (wr := [(aR, .inr (5, [.ref aT, .ref aC, .ref aK, .ref aF, .ref aR0, .ref aR1, .int lv0, .int op0, .int nd0, .int en0, .int rs0, .int rq0, .int rp0, .long (frn b st nx), .long (bkn b st nx), .int r10, .int r20])), (aT, .inr (3, [.ref aF, .ref aTb, .int (nI nx), .int (nI ln), .int (nI k), .int (nI st), .long (frn b st nx), .long (bkn b st nx)])), (aTb, .inl (cB, 8192, .inl (sby b))), (aF, .inr (0, [.int fn, .int fw])), (aK0, .inl (cJ, 48, .inr (.inl fr))), (aK1, .inl (cJ, 48, .inr (.inl bk)))]) (wc := [(aK, .inr (4, [.ref aC, .ref aK0, .ref aK1, .ref aK2, .ref aK3, .ref aK4, .int (nI cs.length), .int ce]))]) (np := 0) (As := []) (rest := []) (c_K_isFull l D cI cJ cB cZ aK aC aK0 aK1 aK2 aK3 aK4 cs.length ce hcn) km_R_92 ki_K_isFull kv_K_isFull kz_K kk_K_isFull (by decide +kernel) S hW hA ⟨Nat.le_of_ble_eq_true rfl, Nat.le_of_ble_eq_true rfl⟩ ⟨Nat.le_of_ble_eq_true rfl, Nat.le_of_ble_eq_true rfl⟩ rfl 0 rfl [4] [0, 1, 2, 3, 5, 6] rfl (by decide) rfl (by decide) (by decide) rfl hl.1 rfl (Nat.le_of_ble_eq_true rfl) d_R_nameAndColon_36 (fun r u H locs hp hW => ?_)
    rcases hp with ⟨h_3, rfl, rfl⟩ | ⟨h_4, rfl, rfl⟩
    · have hW : Wd D (tyl cI cJ cB cZ) A s s.heap H locs [(aR, .inr (5, [.ref aT, .ref aC, .ref aK, .ref aF, .ref aR0, .ref aR1, .int lv0, .int op0, .int nd0, .int en0, .int rs0, .int rq0, .int rp0, .long (frn b st nx), .long (bkn b st nx), .int r10, .int r20])), (aT, .inr (3, [.ref aF, .ref aTb, .int (nI nx), .int (nI ln), .int (nI k), .int (nI st), .long (frn b st nx), .long (bkn b st nx)])), (aTb, .inl (cB, 8192, .inl (sby b))), (aF, .inr (0, [.int fn, .int fw])), (aK, .inr (4, [.ref aC, .ref aK0, .ref aK1, .ref aK2, .ref aK3, .ref aK4, .int (nI cs.length), .int ce])), (aK0, .inl (cJ, 48, .inr (.inl fr))), (aK1, .inl (cJ, 48, .inr (.inl bk)))] := hW.sub [0, 1, 2, 3, 6, 4, 5] (by decide) rfl
      refine lv_if_ne (tgt := 61) S.1 S.2.1 d_R_nameAndColon_39 (by decide) (fun _ => ?_) (fun h => absurd h (by decide))
      refine lv_aload_n S.1 S.2.1 d_R_nameAndColon_61 rfl (lv_at hl 0 rfl) ?_
      refine g_get i_R S hW 0 rfl rfl 3 (by decide) kf_R_66 rfl d_R_nameAndColon_62 ?_
      refine lv_iconst (v := (nI 4)) S.1 S.2.1 d_R_nameAndColon_65 (by decide) ?_
      refine lv_aload_n S.1 S.2.1 d_R_nameAndColon_66 rfl (lv_at hl 0 rfl) ?_
      refine g_get i_R S hW 0 rfl rfl 0 (by decide) kf_R_54 rfl d_R_nameAndColon_67 ?_
      refine g_get i_T S hW 1 rfl rfl 5 (by decide) kf_R_70 rfl d_R_nameAndColon_70 ?_
      refine callV_i (wr := [(aR, .inr (5, [.ref aT, .ref aC, .ref aK, .ref aF, .ref aR0, .ref aR1, .int lv0, .int op0, .int nd0, .int en0, .int rs0, .int rq0, .int rp0, .long (frn b st nx), .long (bkn b st nx), .int r10, .int r20])), (aT, .inr (3, [.ref aF, .ref aTb, .int (nI nx), .int (nI ln), .int (nI k), .int (nI st), .long (frn b st nx), .long (bkn b st nx)])), (aTb, .inl (cB, 8192, .inl (sby b))), (aK, .inr (4, [.ref aC, .ref aK0, .ref aK1, .ref aK2, .ref aK3, .ref aK4, .int (nI cs.length), .int ce])), (aK0, .inl (cJ, 48, .inr (.inl fr))), (aK1, .inl (cJ, 48, .inr (.inl bk)))]) (wc := [(aF, .inr (0, [.int fn, .int fw]))]) (np := 2) (As := [.int (nI 4), .int (nI st)]) (rest := []) (c_F_met l D cI cJ cB cZ aF fn fw (nI 4) (nI st) ) km_R_99 ki_F_met kv_F_met kz_F kk_F_met (by decide +kernel) S hW hA ⟨Nat.le_of_ble_eq_true rfl, Nat.le_of_ble_eq_true rfl⟩ ⟨Nat.le_of_ble_eq_true rfl, Nat.le_of_ble_eq_true rfl⟩ rfl 0 rfl [3] [0, 1, 2, 4, 5, 6] rfl (by decide) rfl (by decide) (by decide) rfl hl.1 rfl (Nat.le_of_ble_eq_true rfl) d_R_nameAndColon_73 (fun r u H locs hp hW => ?_)
      obtain ⟨rfl, rfl⟩ := hp
      have hW : Wd D (tyl cI cJ cB cZ) A s s.heap H locs [(aR, .inr (5, [.ref aT, .ref aC, .ref aK, .ref aF, .ref aR0, .ref aR1, .int lv0, .int op0, .int nd0, .int en0, .int rs0, .int rq0, .int rp0, .long (frn b st nx), .long (bkn b st nx), .int r10, .int r20])), (aT, .inr (3, [.ref aF, .ref aTb, .int (nI nx), .int (nI ln), .int (nI k), .int (nI st), .long (frn b st nx), .long (bkn b st nx)])), (aTb, .inl (cB, 8192, .inl (sby b))), (aF, .inr (0, [.int (nI 4), .int (nI st)])), (aK, .inr (4, [.ref aC, .ref aK0, .ref aK1, .ref aK2, .ref aK3, .ref aK4, .int (nI cs.length), .int ce])), (aK0, .inl (cJ, 48, .inr (.inl fr))), (aK1, .inl (cJ, 48, .inr (.inl bk)))] := hW.sub [0, 1, 2, 6, 3, 4, 5] (by decide) rfl
      exact ret _ _ _ _ _ _ d_R_nameAndColon_76 rfl (Or.inr ⟨_, _, _, _, _, _, _, _, _, (fun _ => ss_4 hk1 (Or.inl h_3)), rfl, rfl⟩) hW
    · have hW : Wd D (tyl cI cJ cB cZ) A s s.heap H locs [(aR, .inr (5, [.ref aT, .ref aC, .ref aK, .ref aF, .ref aR0, .ref aR1, .int lv0, .int op0, .int nd0, .int en0, .int rs0, .int rq0, .int rp0, .long (frn b st nx), .long (bkn b st nx), .int r10, .int r20])), (aT, .inr (3, [.ref aF, .ref aTb, .int (nI nx), .int (nI ln), .int (nI k), .int (nI st), .long (frn b st nx), .long (bkn b st nx)])), (aTb, .inl (cB, 8192, .inl (sby b))), (aF, .inr (0, [.int fn, .int fw])), (aK, .inr (4, [.ref aC, .ref aK0, .ref aK1, .ref aK2, .ref aK3, .ref aK4, .int (nI cs.length), .int ce])), (aK0, .inl (cJ, 48, .inr (.inl fr))), (aK1, .inl (cJ, 48, .inr (.inl bk)))] := hW.sub [0, 1, 2, 3, 6, 4, 5] (by decide) rfl
      refine lv_if_ne (tgt := 61) S.1 S.2.1 d_R_nameAndColon_39 (by decide) (fun h => absurd h (by decide)) (fun _ => ?_)
      refine lv_aload_n S.1 S.2.1 d_R_nameAndColon_42 rfl (lv_at hl 0 rfl) ?_
      refine g_get i_R S hW 0 rfl rfl 2 (by decide) kf_R_62 rfl d_R_nameAndColon_43 ?_
      refine lv_aload_n S.1 S.2.1 d_R_nameAndColon_46 rfl (lv_at hl 0 rfl) ?_
      refine g_get i_R S hW 0 rfl rfl 13 (by decide) kf_R_41 rfl d_R_nameAndColon_47 ?_
      refine lv_aload_n S.1 S.2.1 d_R_nameAndColon_50 rfl (lv_at hl 0 rfl) ?_
      refine g_get i_R S hW 0 rfl rfl 14 (by decide) kf_R_45 rfl d_R_nameAndColon_51 ?_
      refine callV_i (wr := [(aR, .inr (5, [.ref aT, .ref aC, .ref aK, .ref aF, .ref aR0, .ref aR1, .int lv0, .int op0, .int nd0, .int en0, .int rs0, .int rq0, .int rp0, .long (frn b st nx), .long (bkn b st nx), .int r10, .int r20])), (aT, .inr (3, [.ref aF, .ref aTb, .int (nI nx), .int (nI ln), .int (nI k), .int (nI st), .long (frn b st nx), .long (bkn b st nx)])), (aTb, .inl (cB, 8192, .inl (sby b))), (aF, .inr (0, [.int fn, .int fw]))]) (wc := [(aK, .inr (4, [.ref aC, .ref aK0, .ref aK1, .ref aK2, .ref aK3, .ref aK4, .int (nI cs.length), .int ce])), (aK0, .inl (cJ, 48, .inr (.inl fr))), (aK1, .inl (cJ, 48, .inr (.inl bk)))]) (np := 2) (As := [.long (frn b st nx), .long (bkn b st nx)]) (rest := []) (c_K_find l D cI cJ cB cZ aK aC aK0 aK1 aK2 aK3 aK4 fr bk cs.length (frn b st nx) (bkn b st nx) ce hcn) km_R_95 ki_K_find kv_K_find kz_K kk_K_find (by decide +kernel) S hW hA ⟨Nat.le_of_ble_eq_true rfl, Nat.le_of_ble_eq_true rfl⟩ ⟨Nat.le_of_ble_eq_true rfl, Nat.le_of_ble_eq_true rfl⟩ rfl 0 rfl [4, 5, 6] [0, 1, 2, 3] rfl (by decide) rfl (by decide) (by decide) rfl hl.1 rfl (Nat.le_of_ble_eq_true rfl) d_R_nameAndColon_54 (fun r u H locs hp hW => ?_)
      rcases hp with ⟨k_5, h_6, h_7, h_8, h_9, rfl, rfl⟩ | ⟨h_10, rfl, rfl⟩
      · have hW : Wd D (tyl cI cJ cB cZ) A s s.heap H locs [(aR, .inr (5, [.ref aT, .ref aC, .ref aK, .ref aF, .ref aR0, .ref aR1, .int lv0, .int op0, .int nd0, .int en0, .int rs0, .int rq0, .int rp0, .long (frn b st nx), .long (bkn b st nx), .int r10, .int r20])), (aT, .inr (3, [.ref aF, .ref aTb, .int (nI nx), .int (nI ln), .int (nI k), .int (nI st), .long (frn b st nx), .long (bkn b st nx)])), (aTb, .inl (cB, 8192, .inl (sby b))), (aF, .inr (0, [.int fn, .int fw])), (aK, .inr (4, [.ref aC, .ref aK0, .ref aK1, .ref aK2, .ref aK3, .ref aK4, .int (nI cs.length), .int ce])), (aK0, .inl (cJ, 48, .inr (.inl fr))), (aK1, .inl (cJ, 48, .inr (.inl bk)))] := hW
        refine lv_iconst (v := (-1)) S.1 S.2.1 d_R_nameAndColon_57 (by decide) ?_
        refine lv_icmp_eq (tgt := 77) S.1 S.2.1 d_R_nameAndColon_58 (by decide) (fun c_58 => absurd c_58 (nI_m1 (by omega))) (fun c_58 => ?_)
        refine lv_aload_n S.1 S.2.1 d_R_nameAndColon_61 rfl (lv_at hl 0 rfl) ?_
        refine g_get i_R S hW 0 rfl rfl 3 (by decide) kf_R_66 rfl d_R_nameAndColon_62 ?_
        refine lv_iconst (v := (nI 4)) S.1 S.2.1 d_R_nameAndColon_65 (by decide) ?_
        refine lv_aload_n S.1 S.2.1 d_R_nameAndColon_66 rfl (lv_at hl 0 rfl) ?_
        refine g_get i_R S hW 0 rfl rfl 0 (by decide) kf_R_54 rfl d_R_nameAndColon_67 ?_
        refine g_get i_T S hW 1 rfl rfl 5 (by decide) kf_R_70 rfl d_R_nameAndColon_70 ?_
        refine callV_i (wr := [(aR, .inr (5, [.ref aT, .ref aC, .ref aK, .ref aF, .ref aR0, .ref aR1, .int lv0, .int op0, .int nd0, .int en0, .int rs0, .int rq0, .int rp0, .long (frn b st nx), .long (bkn b st nx), .int r10, .int r20])), (aT, .inr (3, [.ref aF, .ref aTb, .int (nI nx), .int (nI ln), .int (nI k), .int (nI st), .long (frn b st nx), .long (bkn b st nx)])), (aTb, .inl (cB, 8192, .inl (sby b))), (aK, .inr (4, [.ref aC, .ref aK0, .ref aK1, .ref aK2, .ref aK3, .ref aK4, .int (nI cs.length), .int ce])), (aK0, .inl (cJ, 48, .inr (.inl fr))), (aK1, .inl (cJ, 48, .inr (.inl bk)))]) (wc := [(aF, .inr (0, [.int fn, .int fw]))]) (np := 2) (As := [.int (nI 4), .int (nI st)]) (rest := []) (c_F_met l D cI cJ cB cZ aF fn fw (nI 4) (nI st) ) km_R_99 ki_F_met kv_F_met kz_F kk_F_met (by decide +kernel) S hW hA ⟨Nat.le_of_ble_eq_true rfl, Nat.le_of_ble_eq_true rfl⟩ ⟨Nat.le_of_ble_eq_true rfl, Nat.le_of_ble_eq_true rfl⟩ rfl 0 rfl [3] [0, 1, 2, 4, 5, 6] rfl (by decide) rfl (by decide) (by decide) rfl hl.1 rfl (Nat.le_of_ble_eq_true rfl) d_R_nameAndColon_73 (fun r u H locs hp hW => ?_)
        obtain ⟨rfl, rfl⟩ := hp
        have hW : Wd D (tyl cI cJ cB cZ) A s s.heap H locs [(aR, .inr (5, [.ref aT, .ref aC, .ref aK, .ref aF, .ref aR0, .ref aR1, .int lv0, .int op0, .int nd0, .int en0, .int rs0, .int rq0, .int rp0, .long (frn b st nx), .long (bkn b st nx), .int r10, .int r20])), (aT, .inr (3, [.ref aF, .ref aTb, .int (nI nx), .int (nI ln), .int (nI k), .int (nI st), .long (frn b st nx), .long (bkn b st nx)])), (aTb, .inl (cB, 8192, .inl (sby b))), (aF, .inr (0, [.int (nI 4), .int (nI st)])), (aK, .inr (4, [.ref aC, .ref aK0, .ref aK1, .ref aK2, .ref aK3, .ref aK4, .int (nI cs.length), .int ce])), (aK0, .inl (cJ, 48, .inr (.inl fr))), (aK1, .inl (cJ, 48, .inr (.inl bk)))] := hW.sub [0, 1, 2, 6, 3, 4, 5] (by decide) rfl
        exact ret _ _ _ _ _ _ d_R_nameAndColon_76 rfl (Or.inr ⟨_, _, _, _, _, _, _, _, _, (fun _ => ss_4 hk1 (Or.inr (by rw [fk_some hc cs.length (Nat.le_refl _) h_6 h_7 h_8 h_9]; simp))), rfl, rfl⟩) hW
      · have hW : Wd D (tyl cI cJ cB cZ) A s s.heap H locs [(aR, .inr (5, [.ref aT, .ref aC, .ref aK, .ref aF, .ref aR0, .ref aR1, .int lv0, .int op0, .int nd0, .int en0, .int rs0, .int rq0, .int rp0, .long (frn b st nx), .long (bkn b st nx), .int r10, .int r20])), (aT, .inr (3, [.ref aF, .ref aTb, .int (nI nx), .int (nI ln), .int (nI k), .int (nI st), .long (frn b st nx), .long (bkn b st nx)])), (aTb, .inl (cB, 8192, .inl (sby b))), (aF, .inr (0, [.int fn, .int fw])), (aK, .inr (4, [.ref aC, .ref aK0, .ref aK1, .ref aK2, .ref aK3, .ref aK4, .int (nI cs.length), .int ce])), (aK0, .inl (cJ, 48, .inr (.inl fr))), (aK1, .inl (cJ, 48, .inr (.inl bk)))] := hW
        refine lv_iconst (v := (-1)) S.1 S.2.1 d_R_nameAndColon_57 (by decide) ?_
        refine lv_icmp_eq (tgt := 77) S.1 S.2.1 d_R_nameAndColon_58 (by decide) (fun _ => ?_) (fun h => absurd h (by decide))
        refine lv_aload_n S.1 S.2.1 d_R_nameAndColon_77 rfl (lv_at hl 0 rfl) ?_
        refine lv_bipush (v := (nI 58)) S.1 S.2.1 d_R_nameAndColon_78 (by decide) ?_
        refine callV_i (wr := [(aK, .inr (4, [.ref aC, .ref aK0, .ref aK1, .ref aK2, .ref aK3, .ref aK4, .int (nI cs.length), .int ce])), (aK0, .inl (cJ, 48, .inr (.inl fr))), (aK1, .inl (cJ, 48, .inr (.inl bk)))]) (wc := [(aR, .inr (5, [.ref aT, .ref aC, .ref aK, .ref aF, .ref aR0, .ref aR1, .int lv0, .int op0, .int nd0, .int en0, .int rs0, .int rq0, .int rp0, .long (frn b st nx), .long (bkn b st nx), .int r10, .int r20])), (aT, .inr (3, [.ref aF, .ref aTb, .int (nI nx), .int (nI ln), .int (nI k), .int (nI st), .long (frn b st nx), .long (bkn b st nx)])), (aTb, .inl (cB, 8192, .inl (sby b))), (aF, .inr (0, [.int fn, .int fw]))]) (np := 1) (As := [.int (nI 58)]) (rest := []) (c_R_isNext l D cI cJ cB cZ aR aT aC aK aF aR0 aR1 aTb b rs0 rq0 rp0 r10 r20 (frn b st nx) (bkn b st nx) lv0 op0 nd0 en0 fn fw (nI k) (nI st) nx ln 58 (frn b st nx) (bkn b st nx) hb (by omega) hln (by omega) (by omega)) km_R_105 ki_R_isNext kv_R_isNext kz_R kk_R_isNext (by decide +kernel) S hW hA ⟨Nat.le_of_ble_eq_true rfl, Nat.le_of_ble_eq_true rfl⟩ ⟨Nat.le_of_ble_eq_true rfl, Nat.le_of_ble_eq_true rfl⟩ rfl 0 rfl [0, 1, 2, 3] [4, 5, 6] rfl (by decide) rfl (by decide) (by decide) rfl hl.1 rfl (Nat.le_of_ble_eq_true rfl) d_R_nameAndColon_80 (fun r u H locs hp hW => ?_)
        rcases hp with ⟨st1_11, nx1_12, f1_13, g1_14, h_15, h_16, h_17, rfl, rfl⟩ | ⟨st1_18, nx1_19, k1_20, k2_21, ft_22, f1_23, g1_24, h_25, h_26, rfl, rfl⟩
        · have hW : Wd D (tyl cI cJ cB cZ) A s s.heap H locs [(aR, .inr (5, [.ref aT, .ref aC, .ref aK, .ref aF, .ref aR0, .ref aR1, .int lv0, .int op0, .int nd0, .int en0, .int rs0, .int rq0, .int rp0, .long (frn b st nx), .long (bkn b st nx), .int r10, .int r20])), (aT, .inr (3, [.ref aF, .ref aTb, .int (nI nx1_12), .int (nI ln), .int (nI 58), .int (nI st1_11), .long f1_13, .long g1_14])), (aTb, .inl (cB, 8192, .inl (sby b))), (aF, .inr (0, [.int fn, .int fw])), (aK, .inr (4, [.ref aC, .ref aK0, .ref aK1, .ref aK2, .ref aK3, .ref aK4, .int (nI cs.length), .int ce])), (aK0, .inl (cJ, 48, .inr (.inl fr))), (aK1, .inl (cJ, 48, .inr (.inl bk)))] := hW.sub [3, 4, 5, 6, 0, 1, 2] (by decide) rfl
          exact ret _ _ _ _ _ _ d_R_nameAndColon_83 rfl (Or.inl ⟨_, _, _, _, ⟨hk1, h_4, fk_none hc cs.length (Nat.le_refl _) h_10, h_15⟩, h_16, h_17, rfl, rfl⟩) hW
        · have hW : Wd D (tyl cI cJ cB cZ) A s s.heap H locs [(aR, .inr (5, [.ref aT, .ref aC, .ref aK, .ref aF, .ref aR0, .ref aR1, .int lv0, .int op0, .int nd0, .int en0, .int rs0, .int rq0, .int rp0, .long (frn b st nx), .long (bkn b st nx), .int r10, .int r20])), (aT, .inr (3, [.ref aF, .ref aTb, .int (nI nx1_19), .int (nI ln), .int (nI k1_20), .int (nI st1_18), .long f1_23, .long g1_24])), (aTb, .inl (cB, 8192, .inl (sby b))), (aF, .inr (0, [.int (nI ft_22), .int (nI st1_18)])), (aK, .inr (4, [.ref aC, .ref aK0, .ref aK1, .ref aK2, .ref aK3, .ref aK4, .int (nI cs.length), .int ce])), (aK0, .inl (cJ, 48, .inr (.inl fr))), (aK1, .inl (cJ, 48, .inr (.inl bk)))] := hW.sub [3, 4, 5, 6, 0, 1, 2] (by decide) rfl
          exact ret _ _ _ _ _ _ d_R_nameAndColon_83 rfl (Or.inr ⟨_, _, _, _, _, _, _, _, _, (fun _ => ss_n hk1 h_4 (fk_none hc cs.length (Nat.le_refl _) h_10) h_25 h_26), rfl, rfl⟩) hW
  · have hW : Wd D (tyl cI cJ cB cZ) A s s.heap H locs [(aR, .inr (5, [.ref aT, .ref aC, .ref aK, .ref aF, .ref aR0, .ref aR1, .int lv0, .int op0, .int nd0, .int en0, .int rs0, .int rq0, .int rp0, .long rf0, .long rb0, .int r10, .int r20])), (aT, .inr (3, [.ref aF, .ref aTb, .int (nI nx), .int (nI ln), .int (nI k), .int (nI st), .long f0, .long g0])), (aTb, .inl (cB, 8192, .inl (sby b))), (aF, .inr (0, [.int (nI 2), .int (nI st)])), (aK, .inr (4, [.ref aC, .ref aK0, .ref aK1, .ref aK2, .ref aK3, .ref aK4, .int (nI cs.length), .int ce])), (aK0, .inl (cJ, 48, .inr (.inl fr))), (aK1, .inl (cJ, 48, .inr (.inl bk)))] := hW.sub [4, 5, 0, 6, 1, 2, 3] (by decide) rfl
    refine lv_if_ne (tgt := 10) S.1 S.2.1 d_R_nameAndColon_5 (by decide) (fun h => absurd h (by decide)) (fun _ => ?_)
    refine lv_iconst (v := (nI 0)) S.1 S.2.1 d_R_nameAndColon_8 (by decide) ?_
    exact ret _ _ _ _ _ _ d_R_nameAndColon_9 rfl (Or.inr ⟨_, _, _, _, _, _, _, _, _, (fun h => ss_2 h h_2), rfl, rfl⟩) hW
