section SM
variable (b : Nat → Nat) (ln : Nat) (cs rcs : List Key) (mp : Nat) (Fn : PT → PSt → Prop) (Bd : Nat → Nat → Prop)
/-- the token behind an expression, and the rows where it was written -/
def EOut (t1 : PT) (ap : Option Nat) (wr wr' pc pc' : Nat → Nat) (en : Nat) (e : Ex) (pl ρ : List Nat) (i i' : Nat) : Prop := t1.1 ≠ 4 ∧ (∀ hp, ap = some hp → ¬ (t1.1 = 1 ∨ t1.1 = 2 ∨ t1.1 = 40)) ∧ (∀ j, j < en → wr' j = wr j ∧ pc' j = pc j) ∧ ROk wr' pc' true e en pl ρ i i'
/-- an expression is read, and the reference goes on -/
def KE (r : PRes) (env : List En) (wr pc : Nat → Nat) (en idn o lo : Nat) (fs : List Fr) : Prop := (∀ x, r = .inl x → Bd x.1 x.2) ∧ ∀ e pl t1 n1, r = .inr (e, pl, t1, n1) → ∀ nx' wr' pc' idn' δ sa' ap' ss', nx' ≤ ln → nxt b ln nx' = t1 → t1.1 ≠ 3 → EOut t1 ap' wr wr' pc pc' en e pl (rhoOf env) idn idn' → Sf b ln rcs mp Fn Bd (nx', wr', pc', en + rsz e, idn', n1, o + δ, lo + δ, sa', ap', 1, fs, ss')
/-- the same of S: nothing more is open, and start is where it begins -/
def KS (r : PRes) (env : List En) (wr pc : Nat → Nat) (en idn o lo : Nat) (fs : List Fr) : Prop := (∀ x, r = .inl x → Bd x.1 x.2) ∧ ∀ e pl t1 n1, r = .inr (e, pl, t1, n1) → ∀ nx' wr' pc' idn' ap', nx' ≤ ln → nxt b ln nx' = t1 → EOut t1 ap' wr wr' pc pc' en e pl (rhoOf env) idn idn' → Sf b ln rcs mp Fn Bd (nx', wr', pc', en + rsz e, idn', n1, o, lo, en, ap', 1, fs, ssOf env)
/-- the rows behind arguments: the count of the application is raised -/
def AOut (t1 : PT) (hp m : Nat) (wr wr' pc pc' : Nat → Nat) (en : Nat) (tb : Bool) (e : Ex) (pl ρ : List Nat) (i i' : Nat) : Prop := t1.1 ≠ 4 ∧ (∀ j, j < en → j ≠ hp + 2 → wr' j = wr j) ∧ wr' (hp + 2) = wr (hp + 2) + m ∧ (∀ j, j < en → pc' j = pc j) ∧ ROk wr' pc' tb e en pl ρ i i'
def KB (r : PRes) (env : List En) (wr pc : Nat → Nat) (en idn o lo sa hp : Nat) (fs : List Fr) : Prop := (∀ x, r = .inl x → Bd x.1 x.2) ∧ ∀ e pl t1 n1, r = .inr (e, pl, t1, n1) → ∀ nx' wr' pc' idn', nx' ≤ ln → nxt b ln nx' = t1 → AOut t1 hp 1 wr wr' pc pc' en true e pl (rhoOf env) idn idn' → Sf b ln rcs mp Fn Bd (nx', wr', pc', en + rsz e, idn', n1, o, lo, sa, some hp, 1, fs, ssOf env)
def K4 (r : PRes) (env : List En) (wr pc : Nat → Nat) (en idn o lo sa hp : Nat) (fs : List Fr) : Prop := (∀ x, r = .inl x → Bd x.1 x.2) ∧ ∀ e pl t1 n1, r = .inr (e, pl, t1, n1) → ∀ nx' wr' pc' idn', nx' ≤ ln → nxt b ln nx' = t1 → ¬ (t1.1 = 1 ∨ t1.1 = 2 ∨ t1.1 = 40) → AOut t1 hp (nar e) wr wr' pc pc' en false e pl (rhoOf env) idn idn' → Sf b ln rcs mp Fn Bd (nx', wr', pc', en + rsz e, idn', n1, o, lo, sa, some hp, 1, fs, ssOf env)
def SE (f : Nat) : Prop := ∀ env o n t r wr pc en idn lo sa ap fs nx, EnvOk env → nx ≤ ln → nxt b ln nx = t → t.1 ≠ 4 → pexp b ln cs f 0 (scOf env) o n t = some r → KE b ln rcs mp Fn Bd r env wr pc en idn o lo fs → Sf b ln rcs mp Fn Bd (nx, wr, pc, en, idn, n, o, lo, sa, ap, 0, fs, ssOf env)
def S3 (f : Nat) : Prop := ∀ env o n k st nx r wr pc en idn lo sa ap fs, EnvOk env → nx ≤ ln → pexp b ln cs f 3 (scOf env) o n (k, st, nx) = some r → KE b ln rcs mp Fn Bd r env wr pc en idn o lo fs → Sf b ln rcs mp Fn Bd (nx, wr, pc, en, idn, n, o, lo, sa, ap, 0, fs, ssOf env)
def S1 (f : Nat) : Prop := ∀ env o n t r wr pc en idn lo sa ap fs nx, EnvOk env → nx ≤ ln → nxt b ln nx = t → t.1 ≠ 4 → t.1 ≠ 123 → t.1 ≠ 91 → pexp b ln cs f 1 (scOf env) o n t = some r → KS b ln rcs mp Fn Bd r env wr pc en idn o lo fs → Sf b ln rcs mp Fn Bd (nx, wr, pc, en, idn, n, o, lo, sa, ap, 0, fs, ssOf env)
def SA (f : Nat) : Prop := ∀ env o n t r wr pc en idn lo sa ap fs nx, EnvOk env → nx ≤ ln → nxt b ln nx = t → t.1 ≠ 4 → t.1 ≠ 123 → t.1 ≠ 91 → t.1 ≠ 1 → pexp b ln cs f 2 (scOf env) o n t = some r → KS b ln rcs mp Fn Bd r env wr pc en idn o lo fs → Sf b ln rcs mp Fn Bd (nx, wr, pc, en, idn, n, o, lo, sa, ap, 0, fs, ssOf env)
def SB (f : Nat) : Prop := ∀ env o n t r wr pc en idn lo sa hp fs nx, EnvOk env → nx ≤ ln → nxt b ln nx = t → t.1 ≠ 4 → (t.1 = 1 ∨ t.1 = 2 ∨ t.1 = 40) → hp + 2 < en → pexp b ln cs f 2 (scOf env) o n t = some r → KB b ln rcs mp Fn Bd r env wr pc en idn o lo sa hp fs → Sf b ln rcs mp Fn Bd (nx, wr, pc, en, idn, n, o, lo, sa, some hp, 1, fs, ssOf env)
def S4 (f : Nat) : Prop := ∀ env o n t r wr pc en idn lo sa hp fs nx, EnvOk env → nx ≤ ln → nxt b ln nx = t → t.1 ≠ 4 → hp + 2 < en → pexp b ln cs f 4 (scOf env) o n t = some r → K4 b ln rcs mp Fn Bd r env wr pc en idn o lo sa hp fs → Sf b ln rcs mp Fn Bd (nx, wr, pc, en, idn, n, o, lo, sa, some hp, 1, fs, ssOf env)
end SM
section SN
variable {b : Nat → Nat} {ln : Nat} {cs rcs : List Key} {mp : Nat} {Fn : PT → PSt → Prop} {Bd : Nat → Nat → Prop}
theorem bindP_inv {x : Option PRes} {k : Ex → List Nat → PT → Nat → Option PRes} {r : PRes} (h : bindP x k = some r) : (∃ y, x = some (.inl y) ∧ r = .inl y) ∨ ∃ e pl t n, x = some (.inr (e, pl, t, n)) ∧ k e pl t n = some r := by
  cases x with
  | none => simp [bindP] at h
  | some z =>
    cases z with
    | inl y => simp only [bindP, Option.some.injEq] at h; exact Or.inl ⟨y, rfl, h.symm⟩
    | inr y => obtain ⟨e, pl, t, n⟩ := y; exact Or.inr ⟨e, pl, t, n, rfl, h⟩
theorem advK_inv {t : PT} {k : PT → Option PRes} {r : PRes} (h : advK b ln t k = some r) : ((nxt b ln t.2.2).1 = 4 ∧ r = .inl (1, (nxt b ln t.2.2).2.1)) ∨ ((nxt b ln t.2.2).1 ≠ 4 ∧ k (nxt b ln t.2.2) = some r) := by
  unfold advK at h
  split at h
  · rename_i c; unfold bad at h; exact Or.inl ⟨c, (Option.some.inj h).symm⟩
  · rename_i c; exact Or.inr ⟨c, h⟩
theorem s3_s {f : Nat} (hE : SE b ln cs rcs mp Fn Bd f) : S3 b ln cs rcs mp Fn Bd (f + 1) := by
  intro env o n k st nx r wr pc en idn lo sa ap fs he hx h hk
  rw [pexp] at h
  simp only [show ¬ (3 : Nat) = 0 by decide, show ¬ (3 : Nat) = 1 by decide, show ¬ (3 : Nat) = 2 by decide, if_false, if_true] at h
  rcases advK_inv h with ⟨c, rfl⟩ | ⟨c, h⟩
  · have := hk.1 _ rfl
    refine ub_bad (k := (nxt b ln nx).1) (st := (nxt b ln nx).2.1) (nx1 := (nxt b ln nx).2.2) rfl (by have c : (nxt b ln nx).1 = 4 := c; omega) ?_
    rw [if_pos c]
    exact this
  · exact hE env o n _ r wr pc en idn lo sa ap fs nx he hx rfl c h hk
/-- what stands in ( ) -/
theorem paren_in {f : Nat} (h3 : S3 b ln cs rcs mp Fn Bd f) {env : List En} {o n k st nx1 : Nat} {r : PRes} {wr pc : Nat → Nat} {en idn lo kd s0 sa : Nat} {a0 ap : Option Nat} {fs : List Fr} (he : EnvOk env) (hx : nx1 ≤ ln) (hkd : kd ≠ 3) (hkd0 : kd ≠ 0) (hb : ∀ j, b j < 256)
    (h : bindP (pexp b ln cs f 3 (scOf env) (o + 1) n (k, st, nx1)) (fun x px t2 n2 => if t2.1 ≠ 41 then bad 2 t2.2.1 else advK b ln t2 fun t3 => some (.inr (x, px, t3, n2))) = some r)
    (hbad : ∀ x, r = .inl x → Bd x.1 x.2)
    (hok : ∀ e pl t1 n1, r = .inr (e, pl, t1, n1) → ∀ nx' wr' pc' idn', nx' ≤ ln → nxt b ln nx' = t1 → t1.1 ≠ 4 → (∀ j, j < en → wr' j = wr j ∧ pc' j = pc j) → ROk wr' pc' true e en pl (rhoOf env) idn idn' → Sf b ln rcs mp Fn Bd (nx', wr', pc', en + rsz e, idn', n1, o, lo, s0, if kd = 1 then none else a0, 1, fs, ssOf env)) :
    Sf b ln rcs mp Fn Bd (nx1, wr, pc, en, idn, n, o + 1, 0, sa, ap, 0, (kd, s0, a0, lo, ssOf env, 0, 0, 0) :: fs, ssOf env) := by
  rcases bindP_inv h with ⟨y, hy, rfl⟩ | ⟨e, pl, t2, n2, hy, hr⟩
  · exact h3 env (o + 1) n k st nx1 _ wr pc en idn 0 sa ap _ he hx hy ⟨fun x q => hbad x q, fun e pl t1 n1 q => by cases q⟩
  · refine h3 env (o + 1) n k st nx1 _ wr pc en idn 0 sa ap _ he hx hy ⟨fun x q => (by cases q), ?_⟩
    intro e' pl' t1' n1' q nx' wr' pc' idn' δ sa' ap' ss' hx' ht' h3' ho
    cases q
    obtain ⟨k2, st2, nx2⟩ := t2
    obtain ⟨o1, o2, o3, o4⟩ := ho
    simp only at hr h3' o1 o2
    by_cases c : k2 = 41
    · rw [if_neg (by simp [c])] at hr
      refine ug_clo ht' c hkd ?_
      rw [show o + 1 + δ - (0 + δ) - 1 = o by omega]
      have hx2 := nxt_le hb hx' ht' o1
      rcases advK_inv hr with ⟨c4, rfl⟩ | ⟨c4, hr⟩
      · exact ug_bad4 (k := (nxt b ln nx2).1) (st := (nxt b ln nx2).2.1) (nx1 := (nxt b ln nx2).2.2) rfl c4 (hbad _ rfl)
      · have hr := Option.some.inj hr
        exact hok e pl _ n2 hr.symm nx2 wr' pc' idn' hx2 rfl c4 o3 o4
    · rw [if_pos c] at hr
      have hr := Option.some.inj hr
      refine ug_stuck ht' (fun q => by cases q.1) h3' o1 o2 (fun q => absurd q c) (fun _ => hkd) (hbad _ hr.symm)
theorem sa_s (hb : ∀ j, b j < 256) {f : Nat} (h3 : S3 b ln cs rcs mp Fn Bd f) : SA b ln cs rcs mp Fn Bd (f + 1) := by
  intro env o n t r wr pc en idn lo sa ap fs nx he hx ht t4 t123 t91 t1 h hk
  obtain ⟨k, st, nx1⟩ := t
  simp only at t4 t123 t91 t1
  rw [pexp] at h
  simp only [show ¬ (2 : Nat) = 0 by decide, show ¬ (2 : Nat) = 1 by decide, if_false, if_true] at h
  rw [if_neg t1] at h
  have hx1 := nxt_le hb hx ht t4
  by_cases c2 : k = 2
  · rw [if_pos c2] at h
    by_cases c3 : 300 ≤ n
    · rw [if_pos c3] at h
      exact ub_type5 ht c2 c3 (hk.1 _ (Option.some.inj h).symm)
    · rw [if_neg c3] at h
      refine ub_type ht c2 c3 ?_
      rcases advK_inv h with ⟨c4, rfl⟩ | ⟨c4, h⟩
      · exact ug_bad4 (k := (nxt b ln nx1).1) (st := (nxt b ln nx1).2.1) (nx1 := (nxt b ln nx1).2.2) rfl c4 (hk.1 _ rfl)
      · have h := Option.some.inj h
        refine hk.2 (.num 0) _ _ _ h.symm nx1 _ _ idn none hx1 rfl ⟨c4, fun hp q => (by cases q), fun j hj => ⟨updN_ne (by omega), updN_ne (by omega)⟩, ?_⟩
        have := ROk.num (g := updN wr en 0) (pc := updN pc en st) (z := en) (ρ := rhoOf env) (i := idn) updN_same
        rwa [show updN pc en st en = st from updN_same] at this
  · rw [if_neg c2] at h
    by_cases c40 : k = 40
    · rw [if_neg (by simp [c40])] at h
      by_cases co : 40 ≤ o
      · rw [if_pos co] at h
        exact ub_par5 ht c40 co (hk.1 _ (Option.some.inj h).symm)
      · rw [if_neg co] at h
        refine ub_par ht c40 co ?_
        refine paren_in h3 he hx1 (by decide) (by decide) hb h hk.1 ?_
        intro e pl t1 n1 hr nx' wr' pc' idn' hx' ht' t14 hag hro
        exact hk.2 e pl t1 n1 hr nx' wr' pc' idn' none hx' ht' ⟨t14, fun hp q => (by cases q), hag, hro⟩
    · rw [if_pos c40] at h
      refine ub_bad ht (by omega) ?_
      rw [if_neg t4]
      exact hk.1 _ (Option.some.inj h).symm
end SN
