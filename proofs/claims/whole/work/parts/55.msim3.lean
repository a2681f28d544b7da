section SP
variable {b : Nat → Nat} {ln : Nat} {cs rcs : List Key} {mp : Nat} {Fn : PT → PSt → Prop} {Bd : Nat → Nat → Prop}
theorem putH_at {f : Nat → Nat} {en h : Nat} : putH f en h en = 3 ∧ putH f en h (en + 1) = h ∧ putH f en h (en + 2) = 0 ∧ ∀ j, j < en → putH f en h j = f j := by
  refine ⟨?_, ?_, ?_, fun j hj => ?_⟩
  · unfold putH; rw [updN_ne (by omega), updN_ne (by omega), updN_same]
  · unfold putH; rw [updN_ne (by omega), updN_same]
  · unfold putH; rw [updN_same]
  · unfold putH; rw [updN_ne (by omega), updN_ne (by omega), updN_ne (by omega)]
theorem putP_at {f : Nat → Nat} {en s : Nat} : putP f en s en = s ∧ ∀ j, j < en → putP f en s j = f j := by
  refine ⟨?_, fun j hj => ?_⟩
  · unfold putP; rw [updN_ne (by omega), updN_ne (by omega), updN_same]
  · unfold putP; rw [updN_ne (by omega), updN_ne (by omega), updN_ne (by omega)]
theorem put2_at {f : Nat → Nat} {en x y : Nat} : put2 f en x y en = x ∧ put2 f en x y (en + 1) = y ∧ (∀ j, j < en → put2 f en x y j = f j) ∧ ∀ j, en + 2 ≤ j → put2 f en x y j = f j := by
  refine ⟨?_, ?_, fun j hj => ?_, fun j hj => ?_⟩
  · unfold put2; rw [updN_ne (by omega), updN_same]
  · unfold put2; rw [updN_same]
  · unfold put2; rw [updN_ne (by omega), updN_ne (by omega)]
  · unfold put2; rw [updN_ne (by omega), updN_ne (by omega)]
theorem incA_at {f : Nat → Nat} {hp : Nat} : incA f hp (hp + 2) = f (hp + 2) + 1 ∧ ∀ j, j ≠ hp + 2 → incA f hp j = f j := ⟨updN_same, fun j hj => updN_ne hj⟩
theorem p2_name {f : Nat} {sc : List Key} {o n st nx1 : Nat} {r : PRes} (h : pexp b ln cs f 2 sc o n (1, st, nx1) = some r) : (mean sc cs (frn b st nx1, bkn b st nx1) = none ∧ r = .inl (3, st)) ∨ ∃ x, mean sc cs (frn b st nx1, bkn b st nx1) = some x ∧ ((300 ≤ n ∧ r = .inl (5, st)) ∨ (¬ 300 ≤ n ∧ (((nxt b ln nx1).1 = 4 ∧ r = .inl (1, (nxt b ln nx1).2.1)) ∨ ((nxt b ln nx1).1 ≠ 4 ∧ r = .inr (.pow (.var 0) x, [st], nxt b ln nx1, n + 1))))) := by
  cases f with
  | zero => simp [pexp] at h
  | succ f =>
    rw [pexp] at h
    simp only [show ¬ (2 : Nat) = 0 by decide, show ¬ (2 : Nat) = 1 by decide, if_false, if_true] at h
    cases hm : mean sc cs (keyOf b (1, st, nx1)) with
    | none => rw [hm] at h; exact Or.inl ⟨hm, (Option.some.inj h).symm⟩
    | some x =>
      rw [hm] at h
      refine Or.inr ⟨x, hm, ?_⟩
      simp only at h
      by_cases c : 300 ≤ n
      · rw [if_pos c] at h; exact Or.inl ⟨c, (Option.some.inj h).symm⟩
      · rw [if_neg c] at h
        refine Or.inr ⟨c, ?_⟩
        rcases advK_inv h with ⟨c4, rfl⟩ | ⟨c4, h⟩
        · exact Or.inl ⟨c4, rfl⟩
        · exact Or.inr ⟨c4, (Option.some.inj h).symm⟩
theorem sb_s (hb : ∀ j, b j < 256) (hc : ConOk cs rcs) {f : Nat} (h3 : S3 b ln cs rcs mp Fn Bd f) : SB b ln cs rcs mp Fn Bd (f + 1) := by
  intro env o n t r wr pc en idn lo sa hp fs nx he hx ht t4 tk hhp h hk
  obtain ⟨k, st, nx1⟩ := t
  simp only at t4 tk
  have hx1 := nxt_le hb hx ht t4
  by_cases c1 : k = 1
  · subst c1
    have hkey := nxt_key hb hx ht
    obtain ⟨m1, m2⟩ := mean_env he hc hkey
    rcases p2_name h with ⟨hm, rfl⟩ | ⟨x, hm, hr⟩
    · exact ug_name3 ht rfl (m1 hm) (hk.1 _ rfl)
    · obtain ⟨e1, e2⟩ := m2 x hm
      rcases hr with ⟨c3, rfl⟩ | ⟨c3, hr⟩
      · exact ug_name5 ht rfl e1 c3 (hk.1 _ rfl)
      · refine ug_name ht rfl e1 c3 ?_
        rcases hr with ⟨c4, rfl⟩ | ⟨c4, rfl⟩
        · exact ug_bad4 (k := (nxt b ln nx1).1) (st := (nxt b ln nx1).2.1) (nx1 := (nxt b ln nx1).2.2) rfl c4 (hk.1 _ rfl)
        · obtain ⟨p1, p2, p3, p4⟩ := putH_at (f := wr) (en := en) (h := hdR (rhoOf env) x)
          obtain ⟨q1, q2⟩ := incA_at (f := putH wr en (hdR (rhoOf env) x)) (hp := hp)
          obtain ⟨w1, w2⟩ := putP_at (f := pc) (en := en) (s := st)
          refine hk.2 (.pow (.var 0) x) _ _ _ rfl nx1 _ _ idn hx1 rfl ⟨c4, fun j hj hne => by rw [q2 j hne, p4 j hj], by rw [q1, p4 _ hhp], w2, ?_⟩
          have := ROk.app (g := incA (putH wr en (hdR (rhoOf env) x)) hp) (pc := putP pc en st) (z := en) (h := x) (ρ := rhoOf env) (a := .var 0) (pl := []) (i := idn) (i' := idn) ROk.nil (by rw [q2 _ (by omega)]; exact p1) (by rw [q2 _ (by omega)]; exact p2) (by rw [q2 _ (by omega)]; exact p3)
          rwa [w1] at this
  · rw [pexp] at h
    simp only [show ¬ (2 : Nat) = 0 by decide, show ¬ (2 : Nat) = 1 by decide, if_false, if_true] at h
    rw [if_neg c1] at h
    by_cases c2 : k = 2
    · rw [if_pos c2] at h
      by_cases c3 : 300 ≤ n
      · rw [if_pos c3] at h
        exact ug_type5 ht c2 c3 (hk.1 _ (Option.some.inj h).symm)
      · rw [if_neg c3] at h
        refine ug_type ht c2 c3 ?_
        rcases advK_inv h with ⟨c4, rfl⟩ | ⟨c4, h⟩
        · exact ug_bad4 (k := (nxt b ln nx1).1) (st := (nxt b ln nx1).2.1) (nx1 := (nxt b ln nx1).2.2) rfl c4 (hk.1 _ rfl)
        · have h := Option.some.inj h
          obtain ⟨q1, q2⟩ := incA_at (f := updN wr en 0) (hp := hp)
          refine hk.2 (.num 0) _ _ _ h.symm nx1 _ _ idn hx1 rfl ⟨c4, fun j hj hne => by rw [q2 j hne, updN_ne (by omega)], by rw [q1, updN_ne (by omega)], fun j hj => updN_ne (by omega), ?_⟩
          have := ROk.num (g := incA (updN wr en 0) hp) (pc := updN pc en st) (z := en) (ρ := rhoOf env) (i := idn) (by rw [q2 _ (by omega)]; exact updN_same)
          rwa [show updN pc en st en = st from updN_same] at this
    · have c40 : k = 40 := by omega
      rw [if_neg c2, if_neg (by simp [c40])] at h
      by_cases co : 40 ≤ o
      · rw [if_pos co] at h
        exact ug_par5 ht c40 co (hk.1 _ (Option.some.inj h).symm)
      · rw [if_neg co] at h
        refine ug_par ht c40 co ?_
        obtain ⟨q1, q2⟩ := incA_at (f := wr) (hp := hp)
        refine paren_in h3 he hx1 (by decide) (by decide) hb h hk.1 ?_
        intro e pl t1 n1 hr nx' wr' pc' idn' hx' ht' t14 hag hro
        exact hk.2 e pl t1 n1 hr nx' wr' pc' idn' hx' ht' ⟨t14, fun j hj hne => by rw [(hag j hj).1, q2 j hne], by rw [(hag _ hhp).1, q1], fun j hj => (hag j hj).2, hro⟩
theorem s4_s {f : Nat} (hB : SB b ln cs rcs mp Fn Bd f) (h4 : S4 b ln cs rcs mp Fn Bd f) : S4 b ln cs rcs mp Fn Bd (f + 1) := by
  intro env o n t r wr pc en idn lo sa hp fs nx he hx ht t4 hhp h hk
  rw [pexp] at h
  simp only [show ¬ (4 : Nat) = 0 by decide, show ¬ (4 : Nat) = 1 by decide, show ¬ (4 : Nat) = 2 by decide, show ¬ (4 : Nat) = 3 by decide, if_false] at h
  by_cases c : t.1 = 1 ∨ t.1 = 2 ∨ t.1 = 40
  · rw [if_pos c] at h
    rcases bindP_inv h with ⟨y, hy, rfl⟩ | ⟨x, px, t1, n1, hy, h⟩
    · exact hB env o n t _ wr pc en idn lo sa hp fs nx he hx ht t4 c hhp hy ⟨hk.1, fun e pl t1 n1 q => (by cases q)⟩
    · refine hB env o n t _ wr pc en idn lo sa hp fs nx he hx ht t4 c hhp hy ⟨fun x q => (by cases q), ?_⟩
      intro e' pl' t1' n1' q nx' wr' pc' idn' hx' ht' ho
      cases q
      obtain ⟨o1, o2, o3, o4, o5⟩ := ho
      rcases bindP_inv h with ⟨y, hy2, rfl⟩ | ⟨y, py, t2, n2, hy2, h⟩
      · exact h4 env o n1 t1 _ wr' pc' (en + rsz x) idn' lo sa hp fs nx' he hx' ht' o1 (by omega) hy2 ⟨hk.1, fun e pl t1 n1 q => (by cases q)⟩
      · refine h4 env o n1 t1 _ wr' pc' (en + rsz x) idn' lo sa hp fs nx' he hx' ht' o1 (by omega) hy2 ⟨fun x q => (by cases q), ?_⟩
        intro e' pl' t2' n2' q nx2 wr2 pc2 idn2 hx2 ht2 hno hO
        cases q
        obtain ⟨w1, w2, w3, w4, w5⟩ := hO
        have hr := Option.some.inj h
        have := hk.2 (.add x y) (px ++ py) t2 n2 hr.symm nx2 wr2 pc2 idn2 hx2 ht2 hno ⟨w1, fun j hj hne => by rw [w2 j (by omega) hne, o2 j hj hne], by rw [w3, o3]; simp only [nar]; omega, fun j hj => by rw [w4 j (by omega), o4 j hj], ROk.cons (o5.shift (fun j hj => w2 _ (by omega) (by omega)) (fun j hj => w4 _ (by omega))) w5⟩
        simp only [rsz] at this
        rwa [← Nat.add_assoc] at this
  · rw [if_neg c] at h
    have hr := Option.some.inj h
    exact hk.2 (.var 0) [] t n hr.symm nx wr pc idn hx ht c ⟨t4, fun j _ _ => rfl, rfl, fun _ _ => rfl, ROk.nil⟩
theorem s1_s (hb : ∀ j, b j < 256) (hc : ConOk cs rcs) {f : Nat} (hA : SA b ln cs rcs mp Fn Bd f) (h4 : S4 b ln cs rcs mp Fn Bd f) : S1 b ln cs rcs mp Fn Bd (f + 1) := by
  intro env o n t r wr pc en idn lo sa ap fs nx he hx ht t4 t123 t91 h hk
  obtain ⟨k, st, nx1⟩ := t
  simp only at t4 t123 t91
  rw [pexp] at h
  simp only [show ¬ (1 : Nat) = 0 by decide, if_false, if_true] at h
  have hx1 := nxt_le hb hx ht t4
  by_cases c1 : k = 1
  · rw [if_pos c1] at h
    subst c1
    have hkey := nxt_key hb hx ht
    obtain ⟨m1, m2⟩ := mean_env he hc hkey
    rcases bindP_inv h with ⟨y, hy, rfl⟩ | ⟨e, pl, t1, n1, hy, h⟩
    · rcases p2_name hy with ⟨hm, hr⟩ | ⟨x, hm, hr⟩
      · cases hr; exact ub_name3 ht rfl (m1 hm) (hk.1 _ rfl)
      · obtain ⟨e1, e2⟩ := m2 x hm
        rcases hr with ⟨c3, hr⟩ | ⟨c3, ⟨c4, hr⟩ | ⟨c4, hr⟩⟩
        · cases hr; exact ub_name5 ht rfl e1 c3 (hk.1 _ rfl)
        · cases hr
          refine ub_name ht rfl e1 c3 ?_
          exact ug_bad4 (k := (nxt b ln nx1).1) (st := (nxt b ln nx1).2.1) (nx1 := (nxt b ln nx1).2.2) rfl c4 (hk.1 _ rfl)
        · cases hr
    · rcases p2_name hy with ⟨hm, hr⟩ | ⟨x, hm, hr⟩
      · cases hr
      · obtain ⟨e1, e2⟩ := m2 x hm
        rcases hr with ⟨c3, hr⟩ | ⟨c3, ⟨c4, hr⟩ | ⟨c4, hr⟩⟩
        · cases hr
        · cases hr
        · cases hr
          refine ub_name ht rfl e1 c3 ?_
          rcases bindP_inv h with ⟨y, hy2, rfl⟩ | ⟨y, py, t2, n2, hy2, h⟩
          · exact h4 env o (n + 1) _ _ _ _ (en + 3) idn lo en en fs nx1 he hx1 rfl c4 (by omega) hy2 ⟨hk.1, fun e pl t1 n1 q => (by cases q)⟩
          · refine h4 env o (n + 1) _ _ _ _ (en + 3) idn lo en en fs nx1 he hx1 rfl c4 (by omega) hy2 ⟨fun x q => (by cases q), ?_⟩
            intro e' pl' t2' n2' q nx2 wr2 pc2 idn2 hx2 ht2 hno hO
            cases q
            obtain ⟨w1, w2, w3, w4, w5⟩ := hO
            obtain ⟨p1, p2, p3, p4⟩ := putH_at (f := wr) (en := en) (h := hdR (rhoOf env) x)
            obtain ⟨z1, z2⟩ := putP_at (f := pc) (en := en) (s := st)
            have hr := Option.some.inj h
            have := hk.2 (.pow y x) (st :: py) t2 n2 hr.symm nx2 wr2 pc2 idn2 (some en) hx2 ht2 ⟨w1, fun hp _ => hno, fun j hj => ⟨by rw [w2 j (by omega) (by omega), p4 j hj], by rw [w4 j (by omega), z2 j hj]⟩, by
              have q := ROk.app (h := x) (z := en) w5 (by rw [w2 _ (by omega) (by omega)]; exact p1) (by rw [w2 _ (by omega) (by omega)]; exact p2) (by rw [w3, p3]; omega)
              rwa [show pc2 en = st by rw [w4 _ (by omega)]; exact z1] at q⟩
            simp only [rsz] at this
            rwa [← Nat.add_assoc] at this
  · rw [if_neg c1] at h
    exact hA env o n _ r wr pc en idn lo sa ap fs nx he hx ht t4 t123 t91 c1 h hk
end SP
