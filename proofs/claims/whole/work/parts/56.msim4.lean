section SQ
variable {b : Nat → Nat} {ln : Nat} {cs rcs : List Key} {mp : Nat} {Fn : PT → PSt → Prop} {Bd : Nat → Nat → Prop}
/-- two tokens that must come, and what is behind them -/
theorem two_in {nx1 w : Nat} {r : PRes} {K : PT → PT → Option PRes} {X : Nat → Nat → Nat → Prop} (hw : w ≠ 4) (h : advK b ln (0, 0, nx1) (fun t1 => if t1.1 ≠ 1 then bad 2 t1.2.1 else advK b ln t1 fun t2 => if t2.1 ≠ w then bad 2 t2.2.1 else K t1 t2) = some r) (hbad : ∀ x, r = .inl x → Bd x.1 x.2)
    (hok : ∀ st1 n1 st2 n2, nxt b ln nx1 = (1, st1, n1) → nxt b ln n1 = (w, st2, n2) → K (1, st1, n1) (w, st2, n2) = some r → X st1 n1 n2) : tak b ln nx1 1 Bd fun st1 n1 => tak b ln n1 w Bd fun _ n2 => X st1 n1 n2 := by
  rcases advK_inv h with ⟨c4, rfl⟩ | ⟨c4, h⟩
  · have c4 : (nxt b ln nx1).1 = 4 := c4
    unfold tak
    rw [if_neg (by rw [c4]; decide), if_pos c4]
    exact hbad _ rfl
  · obtain ⟨k1, st1, n1, e1⟩ : ∃ k1 st1 n1, nxt b ln nx1 = (k1, st1, n1) := ⟨_, _, _, rfl⟩
    simp only [e1] at h c4
    by_cases c1 : k1 = 1
    · rw [if_neg (by simp [c1])] at h
      subst c1
      have g : ∀ {P : Nat → Nat → Prop}, P st1 n1 → tak b ln nx1 1 Bd P := fun hP => by unfold tak; rw [e1]; rw [if_pos rfl]; exact hP
      refine g ?_
      rcases advK_inv h with ⟨d4, rfl⟩ | ⟨d4, g2⟩
      · have d4 : (nxt b ln n1).1 = 4 := d4
        unfold tak
        rw [if_neg (by rw [d4]; exact fun q => hw q.symm), if_pos d4]
        exact hbad _ rfl
      · obtain ⟨k2, st2, n2, e2⟩ : ∃ k2 st2 n2, nxt b ln n1 = (k2, st2, n2) := ⟨_, _, _, rfl⟩
        simp only [e2] at g2 d4
        by_cases c2 : k2 = w
        · rw [if_neg (by simp [c2])] at g2
          subst c2
          unfold tak
          rw [e2, if_pos rfl]
          exact hok st1 n1 st2 n2 e1 e2 g2
        · rw [if_pos c2] at g2
          unfold tak
          rw [e2, if_neg c2, if_neg d4]
          exact hbad _ (Option.some.inj g2).symm
    · rw [if_pos c1] at h
      unfold tak
      rw [e1, if_neg c1, if_neg c4]
      exact hbad _ (Option.some.inj h).symm
theorem se_s (hb : ∀ j, b j < 256) {f : Nat} (h3 : S3 b ln cs rcs mp Fn Bd f) (h1 : S1 b ln cs rcs mp Fn Bd f) : SE b ln cs rcs mp Fn Bd (f + 1) := by
  intro env o n t r wr pc en idn lo sa ap fs nx he hx ht t4 h hk
  obtain ⟨k, st, nx1⟩ := t
  simp only at t4
  have hx1 := nxt_le hb hx ht t4
  rw [pexp] at h
  simp only [if_true] at h
  by_cases c1 : k = 123
  · rw [if_pos c1] at h
    by_cases cl : 40 ≤ o ∨ 300 ≤ n
    · rw [if_pos cl] at h
      exact ub_prod5 ht c1 cl (hk.1 _ (Option.some.inj h).symm)
    · rw [if_neg cl] at h
      refine ub_prod ht c1 cl ?_
      have h : advK b ln (0, 0, nx1) (fun t1 => if t1.1 ≠ 1 then bad 2 t1.2.1 else advK b ln t1 fun t2 => if t2.1 ≠ 58 then bad 2 t2.2.1 else bindP (pexp b ln cs f 3 (scOf env) (o + 1) (n + 1) t2) fun x px t4 n4 => if t4.1 ≠ 125 then bad 2 t4.2.1 else bindP (pexp b ln cs f 3 (scOf env ++ [keyOf b t1]) (o + 1) n4 t4) fun y py t6 n6 => some (.inr (.mul x y, st :: (px ++ py), t6, n6))) = some r := h
      have key : (∃ st1 n1 st2 n2, nxt b ln nx1 = (1, st1, n1) ∧ nxt b ln n1 = (58, st2, n2)) ∨ ¬ (∃ st1 n1 st2 n2, nxt b ln nx1 = (1, st1, n1) ∧ nxt b ln n1 = (58, st2, n2)) := Classical.em _
      have main : ∀ st1 n1 st2 n2, nxt b ln nx1 = (1, st1, n1) → nxt b ln n1 = (58, st2, n2) → (bindP (pexp b ln cs f 3 (scOf env) (o + 1) (n + 1) (58, st2, n2)) fun x px t4 n4 => if t4.1 ≠ 125 then bad 2 t4.2.1 else bindP (pexp b ln cs f 3 (scOf env ++ [keyOf b (1, st1, n1)]) (o + 1) n4 t4) fun y py t6 n6 => some (.inr (.mul x y, st :: (px ++ py), t6, n6))) = some r → Sf b ln rcs mp Fn Bd (n2, put2 wr en 1 idn, put2 pc en st st, en + 2, idn + 1, n + 1, o + 1, 0, en, none, 0, (3, en, none, lo + 1, ssOf env, idn, frR b st1 n1, bkR b st1 n1) :: fs, ssOf env) := by
        intro st1 n1 st2 n2 e1 e2 h
        have hn1 := nxt_le hb hx1 e1 (by decide)
        have hn2 := nxt_le hb hn1 e2 (by decide)
        have hkey := nxt_key hb hx1 e1
        obtain ⟨p1, p2, p3, p4⟩ := put2_at (f := wr) (en := en) (x := 1) (y := idn)
        obtain ⟨q1, q2, q3, q4⟩ := put2_at (f := pc) (en := en) (x := st) (y := st)
        rcases bindP_inv h with ⟨y, hy, rfl⟩ | ⟨x, px, t4', n4, hy, h⟩
        · exact h3 env (o + 1) (n + 1) 58 st2 n2 _ _ _ (en + 2) (idn + 1) 0 en none _ he hn2 hy ⟨hk.1, fun e pl t1 n1 q => (by cases q)⟩
        · refine h3 env (o + 1) (n + 1) 58 st2 n2 _ _ _ (en + 2) (idn + 1) 0 en none _ he hn2 hy ⟨fun x q => (by cases q), ?_⟩
          intro e' pl' t1' n1' q nx' wr' pc' idn' δ sa' ap' ss' hx' ht' h3' ho
          cases q
          obtain ⟨k4, st4, nx4⟩ := t4'
          obtain ⟨o1, o2, o3, o4⟩ := ho
          simp only at h h3' o1 o2
          by_cases c : k4 = 125
          · rw [if_neg (by simp [c])] at h
            refine ug_bra ht' c ?_
            rw [show o + 1 + δ - (0 + δ) = o + 1 by omega]
            have hx4 := nxt_le hb hx' ht' o1
            have hne : keyOf b (1, st1, n1) ≠ (0, 0) := hkey.ne
            have es : (frR b st1 n1, bkR b st1 n1, idn) :: ssOf env = ssOf ((keyOf b (1, st1, n1), (frR b st1 n1, bkR b st1 n1), idn) :: env) := by
              simp only [ssOf]; rw [if_neg hne]
            rw [es]
            have he' : EnvOk ((keyOf b (1, st1, n1), (frR b st1 n1, bkR b st1 n1), idn) :: env) := by
              intro z hz
              rcases List.mem_cons.mp hz with rfl | hz
              · exact Or.inr hkey
              · exact he z hz
            rcases bindP_inv h with ⟨y, hy2, rfl⟩ | ⟨y, py, t6, n6, hy2, h⟩
            · exact h3 _ (o + 1) n4 k4 st4 nx4 _ wr' pc' (en + 2 + rsz x) idn' (lo + 1) en none fs he' hx4 hy2 ⟨hk.1, fun e pl t1 n1 q => (by cases q)⟩
            · refine h3 _ (o + 1) n4 k4 st4 nx4 _ wr' pc' (en + 2 + rsz x) idn' (lo + 1) en none fs he' hx4 hy2 ⟨fun x q => (by cases q), ?_⟩
              intro e' pl' t6' n6' q nx6 wr6 pc6 idn6 δ6 sa6 ap6 ss6 hx6 ht6 h36 hO
              cases q
              obtain ⟨w1, w2, w3, w4⟩ := hO
              have hr := Option.some.inj h
              have := hk.2 (.mul x y) _ t6 n6 hr.symm nx6 wr6 pc6 idn6 (1 + δ6) sa6 ap6 ss6 hx6 ht6 h36 ⟨w1, w2, fun j hj => ⟨by rw [(w3 j (by omega)).1, (o3 j (by omega)).1, p3 j hj], by rw [(w3 j (by omega)).2, (o3 j (by omega)).2, q3 j hj]⟩, by
                have z := ROk.prod (g := wr6) (pc := pc6) (z := en) (i := idn) (by rw [(w3 en (by omega)).1, (o3 en (by omega)).1, p1]) (by rw [(w3 _ (by omega)).1, (o3 _ (by omega)).1, p2]) (o4.shift (fun j hj => (w3 _ (by omega)).1) (fun j hj => (w3 _ (by omega)).2)) w4
                rwa [show pc6 en = st by rw [(w3 en (by omega)).2, (o3 en (by omega)).2, q1]] at z⟩
              simp only [rsz] at this
              rwa [show en + (2 + rsz x + rsz y) = en + 2 + rsz x + rsz y by omega, show o + (1 + δ6) = o + 1 + δ6 by omega, show lo + (1 + δ6) = lo + 1 + δ6 by omega] at this
          · rw [if_pos c] at h
            exact ug_stuck ht' (fun q => by cases q.1) h3' o1 o2 (fun _ => Or.inr rfl) (fun q => absurd q c) (hk.1 _ (Option.some.inj h).symm)
      rcases key with ⟨st1, n1, st2, n2, e1, e2⟩ | key
      · obtain ⟨m, hm⟩ := main st1 n1 st2 n2 e1 e2 (by
          have h2 := h
          unfold advK at h2
          simp only [e1, e2] at h2
          exact h2)
        refine ⟨m, two_in (by decide) h hk.1 (fun a1 a2 a3 a4 u1 u2 u3 => ?_)⟩
        rw [e1] at u1
        cases u1
        rw [e2] at u2
        cases u2
        exact hm
      · exact ⟨0, two_in (by decide) h hk.1 (fun a1 a2 a3 a4 u1 u2 u3 => absurd ⟨a1, a2, a3, a4, u1, u2⟩ key)⟩
  · rw [if_neg c1] at h
    by_cases c2 : k = 91
    · rw [if_pos c2] at h
      by_cases cl : 40 ≤ o ∨ 300 ≤ n
      · rw [if_pos cl] at h
        exact ub_fun5 ht c2 cl (hk.1 _ (Option.some.inj h).symm)
      · rw [if_neg cl] at h
        refine ub_fun ht c2 cl ?_
        have h : advK b ln (0, 0, nx1) (fun t1 => if t1.1 ≠ 1 then bad 2 t1.2.1 else advK b ln t1 fun t2 => if t2.1 ≠ 93 then bad 2 t2.2.1 else bindP (pexp b ln cs f 3 (scOf env ++ [keyOf b t1]) (o + 1) (n + 1) t2) fun y py t6 n6 => some (.inr (.neg y, st :: py, t6, n6))) = some r := h
        have main : ∀ st1 n1 st2 n2, nxt b ln nx1 = (1, st1, n1) → nxt b ln n1 = (93, st2, n2) → (bindP (pexp b ln cs f 3 (scOf env ++ [keyOf b (1, st1, n1)]) (o + 1) (n + 1) (93, st2, n2)) fun y py t6 n6 => some (.inr (.neg y, st :: py, t6, n6))) = some r → Sf b ln rcs mp Fn Bd (n2, put2 wr en 2 idn, put2 pc en st st, en + 2, idn + 1, n + 1, o + 1, lo + 1, en, none, 0, fs, (frR b st1 n1, bkR b st1 n1, idn) :: ssOf env) := by
          intro st1 n1 st2 n2 e1 e2 h
          have hn1 := nxt_le hb hx1 e1 (by decide)
          have hn2 := nxt_le hb hn1 e2 (by decide)
          have hkey := nxt_key hb hx1 e1
          obtain ⟨p1, p2, p3, p4⟩ := put2_at (f := wr) (en := en) (x := 2) (y := idn)
          obtain ⟨q1, q2, q3, q4⟩ := put2_at (f := pc) (en := en) (x := st) (y := st)
          have hne : keyOf b (1, st1, n1) ≠ (0, 0) := hkey.ne
          have es : (frR b st1 n1, bkR b st1 n1, idn) :: ssOf env = ssOf ((keyOf b (1, st1, n1), (frR b st1 n1, bkR b st1 n1), idn) :: env) := by
            simp only [ssOf]; rw [if_neg hne]
          rw [es]
          have he' : EnvOk ((keyOf b (1, st1, n1), (frR b st1 n1, bkR b st1 n1), idn) :: env) := by
            intro z hz
            rcases List.mem_cons.mp hz with rfl | hz
            · exact Or.inr hkey
            · exact he z hz
          rcases bindP_inv h with ⟨y, hy2, rfl⟩ | ⟨y, py, t6, n6, hy2, h⟩
          · exact h3 _ (o + 1) (n + 1) 93 st2 n2 _ _ _ (en + 2) (idn + 1) (lo + 1) en none fs he' hn2 hy2 ⟨hk.1, fun e pl t1 n1 q => (by cases q)⟩
          · refine h3 _ (o + 1) (n + 1) 93 st2 n2 _ _ _ (en + 2) (idn + 1) (lo + 1) en none fs he' hn2 hy2 ⟨fun x q => (by cases q), ?_⟩
            intro e' pl' t6' n6' q nx6 wr6 pc6 idn6 δ6 sa6 ap6 ss6 hx6 ht6 h36 hO
            cases q
            obtain ⟨w1, w2, w3, w4⟩ := hO
            have hr := Option.some.inj h
            have := hk.2 (.neg y) _ t6 n6 hr.symm nx6 wr6 pc6 idn6 (1 + δ6) sa6 ap6 ss6 hx6 ht6 h36 ⟨w1, w2, fun j hj => ⟨by rw [(w3 j (by omega)).1, p3 j hj], by rw [(w3 j (by omega)).2, q3 j hj]⟩, by
              have z := ROk.func (g := wr6) (pc := pc6) (z := en) (i := idn) (by rw [(w3 en (by omega)).1, p1]) (by rw [(w3 _ (by omega)).1, p2]) w4
              rwa [show pc6 en = st by rw [(w3 en (by omega)).2, q1]] at z⟩
            simp only [rsz] at this
            rwa [show en + (2 + rsz y) = en + 2 + rsz y by omega, show o + (1 + δ6) = o + 1 + δ6 by omega, show lo + (1 + δ6) = lo + 1 + δ6 by omega] at this
        rcases Classical.em (∃ st1 n1 st2 n2, nxt b ln nx1 = (1, st1, n1) ∧ nxt b ln n1 = (93, st2, n2)) with ⟨st1, n1, st2, n2, e1, e2⟩ | key
        · obtain ⟨m, hm⟩ := main st1 n1 st2 n2 e1 e2 (by
            have h2 := h
            unfold advK at h2
            simp only [e1, e2] at h2
            exact h2)
          refine ⟨m, two_in (by decide) h hk.1 (fun a1 a2 a3 a4 u1 u2 u3 => ?_)⟩
          rw [e1] at u1
          cases u1
          rw [e2] at u2
          cases u2
          exact hm
        · exact ⟨0, two_in (by decide) h hk.1 (fun a1 a2 a3 a4 u1 u2 u3 => absurd ⟨a1, a2, a3, a4, u1, u2⟩ key)⟩
    · rw [if_neg c2] at h
      rcases bindP_inv h with ⟨y, hy, rfl⟩ | ⟨x, px, t1, n1, hy, h⟩
      · exact h1 env o n _ _ wr pc en idn lo sa ap fs nx he hx ht t4 c1 c2 hy ⟨hk.1, fun e pl t1 n1 q => (by cases q)⟩
      · refine h1 env o n _ _ wr pc en idn lo sa ap fs nx he hx ht t4 c1 c2 hy ⟨fun x q => (by cases q), ?_⟩
        intro e' pl' t1' n1' q nx' wr' pc' idn' ap' hx' ht' ho
        cases q
        obtain ⟨k1, st1, nx1'⟩ := t1
        simp only at h
        by_cases c3 : k1 = 3
        · rw [if_neg (by simp [c3])] at h
          obtain ⟨o1, o2, o3, o4⟩ := ho
          have hxp := rsz_pos o4.1
          by_cases cl : 40 ≤ o ∨ 300 ≤ n1
          · rw [if_pos cl] at h
            exact ug_arr5 ht' c3 cl (hk.1 _ (Option.some.inj h).symm)
          · rw [if_neg cl] at h
            refine ug_arr ht' c3 cl ?_
            have hx2 := nxt_le hb hx' ht' o1
            have es : ssOf env = ssOf (((0, 0), (0, 0), idn') :: env) := by simp [ssOf]
            have he' : EnvOk (((0, 0), (0, 0), idn') :: env) := by
              intro z hz
              rcases List.mem_cons.mp hz with rfl | hz
              · exact Or.inl rfl
              · exact he z hz
            have hpl := o4.2.2.1
            have hhd := plR_head (pc := pc') (z := en) o4.1
            rw [hpl] at hhd
            obtain ⟨p1, p2, p3, p4⟩ := put2_at (f := shf wr' en (en + rsz x)) (en := en) (x := 1) (y := idn')
            have sh1 : ∀ (g : Nat → Nat) j, j < en + 2 → shf g en (en + rsz x) j = g j := fun g j hj => by unfold shf; rw [if_neg (by omega)]
            have sh2 : ∀ (g : Nat → Nat) j, j < rsz x → shf g en (en + rsz x) (en + 2 + j) = g (en + j) := fun g j hj => by unfold shf; rw [if_pos (by omega)]; congr 1; omega
            rw [es]
            rcases bindP_inv h with ⟨y, hy2, rfl⟩ | ⟨y, py, t6, n6, hy2, h⟩
            · exact h3 _ (o + 1) (n1 + 1) k1 st1 nx1' _ _ _ (en + rsz x + 2) (idn' + 1) (lo + 1) en ap' fs he' hx2 hy2 ⟨hk.1, fun e pl t1 n1 q => (by cases q)⟩
            · refine h3 _ (o + 1) (n1 + 1) k1 st1 nx1' _ _ _ (en + rsz x + 2) (idn' + 1) (lo + 1) en ap' fs he' hx2 hy2 ⟨fun x q => (by cases q), ?_⟩
              intro e' pl' t6' n6' q nx6 wr6 pc6 idn6 δ6 sa6 ap6 ss6 hx6 ht6 h36 hO
              cases q
              obtain ⟨w1, w2, w3, w4⟩ := hO
              have hr := Option.some.inj h
              have := hk.2 (.mul x y) _ t6 n6 hr.symm nx6 wr6 pc6 idn6 (1 + δ6) sa6 ap6 ss6 hx6 ht6 h36 ⟨w1, w2, fun j hj => ⟨by rw [(w3 j (by omega)).1, p3 j hj, sh1 _ j (by omega), (o3 j hj).1], by rw [(w3 j (by omega)).2, sh1 _ j (by omega), (o3 j hj).2]⟩, by
                have z := ROk.arrow (g := wr6) (pc := pc6) (z := en) (i := idn) (j := idn') (c := y) (by rw [(w3 en (by omega)).1, p1]) (by rw [(w3 _ (by omega)).1, p2]) (o4.shift (fun j hj => by rw [(w3 _ (by omega)).1, p4 _ (by omega), sh2 _ j hj]) (fun j hj => by rw [(w3 _ (by omega)).2, sh2 _ j hj])) (by rw [show en + 2 + rsz x = en + rsz x + 2 by omega]; exact w4)
                rwa [show pc6 en = px.headD 0 by rw [(w3 en (by omega)).2, sh1 _ en (by omega), hhd]] at z⟩
              simp only [rsz] at this
              rwa [show en + (2 + rsz x + rsz y) = en + rsz x + 2 + rsz y by omega, show o + (1 + δ6) = o + 1 + δ6 by omega, show lo + (1 + δ6) = lo + 1 + δ6 by omega] at this
        · rw [if_pos c3] at h
          have hr := Option.some.inj h
          exact hk.2 x px _ n1 hr.symm nx' wr' pc' idn' 0 en ap' (ssOf env) hx' ht' c3 ho
theorem sim_all (hb : ∀ j, b j < 256) (hc : ConOk cs rcs) : ∀ f, SE b ln cs rcs mp Fn Bd f ∧ S3 b ln cs rcs mp Fn Bd f ∧ S1 b ln cs rcs mp Fn Bd f ∧ SA b ln cs rcs mp Fn Bd f ∧ SB b ln cs rcs mp Fn Bd f ∧ S4 b ln cs rcs mp Fn Bd f := by
  intro f
  induction f with
  | zero =>
    refine ⟨?_, ?_, ?_, ?_, ?_, ?_⟩
    · intro env o n t r wr pc en idn lo sa ap fs nx _ _ _ _ h; simp [pexp] at h
    · intro env o n k st nx r wr pc en idn lo sa ap fs _ _ h; simp [pexp] at h
    · intro env o n t r wr pc en idn lo sa ap fs nx _ _ _ _ _ _ h; simp [pexp] at h
    · intro env o n t r wr pc en idn lo sa ap fs nx _ _ _ _ _ _ _ h; simp [pexp] at h
    · intro env o n t r wr pc en idn lo sa hp fs nx _ _ _ _ _ _ h; simp [pexp] at h
    · intro env o n t r wr pc en idn lo sa hp fs nx _ _ _ _ _ h; simp [pexp] at h
  | succ f ih =>
    obtain ⟨i1, i2, i3, i4, i5, i6⟩ := ih
    exact ⟨se_s hb i2 i3, s3_s i1, s1_s hb hc i4 i6, sa_s hb i2, sb_s hb hc i2, s4_s i5 i6⟩
end SQ
