/-! what an expression's tokens say: a function with a number of steps that it may take; none: too few -/
abbrev PT : Type := Nat × Nat × Nat
/-- a fault and its place; or a tree, the places of its nodes, the token behind it, the nodes so far -/
abbrev PRes : Type := (Nat × Nat) ⊕ (Ex × List Nat × PT × Nat)
def bad (k st : Nat) : Option PRes := some (.inl (k, st))
noncomputable def advK (b : Nat → Nat) (ln : Nat) (t : PT) (k : PT → Option PRes) : Option PRes := if (nxt b ln t.2.2).1 = 4 then bad 1 (nxt b ln t.2.2).2.1 else k (nxt b ln t.2.2)
def bindP (x : Option PRes) (k : Ex → List Nat → PT → Nat → Option PRes) : Option PRes := match x with
  | none => none
  | some (.inl y) => some (.inl y)
  | some (.inr (e, pl, t, n)) => k e pl t n
def setA : Ex → Ex → Ex
  | .pow _ k, a => .pow a k
  | e, _ => e
noncomputable def keyOf (b : Nat → Nat) (t : PT) : Key := (frn b t.2.1 t.2.2, bkn b t.2.1 t.2.2)
/-- modes: 0 an expression, 1 S, 2 an argument or a head alone, 3 what is behind this token, 4 arguments -/
noncomputable def pexp (b : Nat → Nat) (ln : Nat) (cs : List Key) : Nat → Nat → List Key → Nat → Nat → PT → Option PRes
  | 0, _, _, _, _, _ => none
  | f + 1, mode, sc, o, n, t =>
    if mode = 0 then
      if t.1 = 123 then
        if 40 ≤ o ∨ 300 ≤ n then bad 5 t.2.1
        else advK b ln t fun t1 => if t1.1 ≠ 1 then bad 2 t1.2.1 else advK b ln t1 fun t2 => if t2.1 ≠ 58 then bad 2 t2.2.1 else
          bindP (pexp b ln cs f 3 sc (o + 1) (n + 1) t2) fun x px t4 n4 => if t4.1 ≠ 125 then bad 2 t4.2.1 else
          bindP (pexp b ln cs f 3 (sc ++ [keyOf b t1]) (o + 1) n4 t4) fun y py t6 n6 => some (.inr (.mul x y, t.2.1 :: (px ++ py), t6, n6))
      else if t.1 = 91 then
        if 40 ≤ o ∨ 300 ≤ n then bad 5 t.2.1
        else advK b ln t fun t1 => if t1.1 ≠ 1 then bad 2 t1.2.1 else advK b ln t1 fun t2 => if t2.1 ≠ 93 then bad 2 t2.2.1 else
          bindP (pexp b ln cs f 3 (sc ++ [keyOf b t1]) (o + 1) (n + 1) t2) fun y py t6 n6 => some (.inr (.neg y, t.2.1 :: py, t6, n6))
      else
        bindP (pexp b ln cs f 1 sc o n t) fun x px t1 n1 => if t1.1 ≠ 3 then some (.inr (x, px, t1, n1)) else
          if 40 ≤ o ∨ 300 ≤ n1 then bad 5 t1.2.1 else
          bindP (pexp b ln cs f 3 (sc ++ [(0, 0)]) (o + 1) (n1 + 1) t1) fun y py t2 n2 => some (.inr (.mul x y, px.headD 0 :: (px ++ py), t2, n2))
    else if mode = 1 then
      if t.1 = 1 then bindP (pexp b ln cs f 2 sc o n t) fun x px t1 n1 => bindP (pexp b ln cs f 4 sc o n1 t1) fun y py t2 n2 => some (.inr (setA x y, px ++ py, t2, n2))
      else pexp b ln cs f 2 sc o n t
    else if mode = 2 then
      if t.1 = 1 then
        match mean sc cs (keyOf b t) with
        | none => bad 3 t.2.1
        | some h => if 300 ≤ n then bad 5 t.2.1 else advK b ln t fun t1 => some (.inr (.pow (.var 0) h, [t.2.1], t1, n + 1))
      else if t.1 = 2 then
        if 300 ≤ n then bad 5 t.2.1 else advK b ln t fun t1 => some (.inr (.num 0, [t.2.1], t1, n + 1))
      else if t.1 ≠ 40 then bad 2 t.2.1
      else if 40 ≤ o then bad 5 t.2.1
      else bindP (pexp b ln cs f 3 sc (o + 1) n t) fun x px t2 n2 => if t2.1 ≠ 41 then bad 2 t2.2.1 else advK b ln t2 fun t3 => some (.inr (x, px, t3, n2))
    else if mode = 3 then advK b ln t fun t1 => pexp b ln cs f 0 sc o n t1
    else
      if t.1 = 1 ∨ t.1 = 2 ∨ t.1 = 40 then bindP (pexp b ln cs f 2 sc o n t) fun x px t1 n1 => bindP (pexp b ln cs f 4 sc o n1 t1) fun y py t2 n2 => some (.inr (.add x y, px ++ py, t2, n2))
      else some (.inr (.var 0, [], t, n))
theorem bindP_mono {x y : Option PRes} {k k' : Ex → List Nat → PT → Nat → Option PRes} {r : PRes} (h : ∀ r, x = some r → y = some r) (hk : ∀ e pl t n, k e pl t n = some r → k' e pl t n = some r) (q : bindP x k = some r) : bindP y k' = some r := by
  cases x with
  | none => simp [bindP] at q
  | some z =>
    rw [h z rfl]
    cases z with
    | inl w => exact q
    | inr w => exact hk _ _ _ _ q
theorem advK_mono {b : Nat → Nat} {ln : Nat} {t : PT} {k k' : PT → Option PRes} {r : PRes} (hk : ∀ t, k t = some r → k' t = some r) (q : advK b ln t k = some r) : advK b ln t k' = some r := by
  unfold advK at q ⊢
  split at q
  · rename_i h; rw [if_pos h]; exact q
  · rename_i h; rw [if_neg h]; exact hk _ q
theorem pexp_mono {b : Nat → Nat} {ln : Nat} {cs : List Key} : ∀ (f mode : Nat) (sc : List Key) (o n : Nat) (t : PT) (r : PRes), pexp b ln cs f mode sc o n t = some r → pexp b ln cs (f + 1) mode sc o n t = some r := by
  intro f
  induction f with
  | zero => intro mode sc o n t r h; simp [pexp] at h
  | succ f ih =>
    intro mode sc o n t r h
    rw [pexp] at h ⊢
    by_cases m0 : mode = 0
    · rw [if_pos m0] at h ⊢
      by_cases k1 : t.1 = 123
      · rw [if_pos k1] at h ⊢
        by_cases g : 40 ≤ o ∨ 300 ≤ n
        · rw [if_pos g] at h ⊢; exact h
        · rw [if_neg g] at h ⊢
          refine advK_mono (fun t1 h => ?_) h
          by_cases g1 : t1.1 ≠ 1
          · rw [if_pos g1] at h ⊢; exact h
          · rw [if_neg g1] at h ⊢
            refine advK_mono (fun t2 h => ?_) h
            by_cases g2 : t2.1 ≠ 58
            · rw [if_pos g2] at h ⊢; exact h
            · rw [if_neg g2] at h ⊢
              refine bindP_mono (fun r h => ih _ _ _ _ _ _ h) (fun e pl t4 n4 h => ?_) h
              by_cases g3 : t4.1 ≠ 125
              · rw [if_pos g3] at h ⊢; exact h
              · rw [if_neg g3] at h ⊢
                exact bindP_mono (fun r h => ih _ _ _ _ _ _ h) (fun _ _ _ _ h => h) h
      · rw [if_neg k1] at h ⊢
        by_cases k2 : t.1 = 91
        · rw [if_pos k2] at h ⊢
          by_cases g : 40 ≤ o ∨ 300 ≤ n
          · rw [if_pos g] at h ⊢; exact h
          · rw [if_neg g] at h ⊢
            refine advK_mono (fun t1 h => ?_) h
            by_cases g1 : t1.1 ≠ 1
            · rw [if_pos g1] at h ⊢; exact h
            · rw [if_neg g1] at h ⊢
              refine advK_mono (fun t2 h => ?_) h
              by_cases g2 : t2.1 ≠ 93
              · rw [if_pos g2] at h ⊢; exact h
              · rw [if_neg g2] at h ⊢
                exact bindP_mono (fun r h => ih _ _ _ _ _ _ h) (fun _ _ _ _ h => h) h
        · rw [if_neg k2] at h ⊢
          refine bindP_mono (fun r h => ih _ _ _ _ _ _ h) (fun e pl t1 n1 h => ?_) h
          by_cases g1 : t1.1 ≠ 3
          · rw [if_pos g1] at h ⊢; exact h
          · rw [if_neg g1] at h ⊢
            by_cases g : 40 ≤ o ∨ 300 ≤ n1
            · rw [if_pos g] at h ⊢; exact h
            · rw [if_neg g] at h ⊢
              exact bindP_mono (fun r h => ih _ _ _ _ _ _ h) (fun _ _ _ _ h => h) h
    · rw [if_neg m0] at h ⊢
      by_cases m1 : mode = 1
      · rw [if_pos m1] at h ⊢
        by_cases k1 : t.1 = 1
        · rw [if_pos k1] at h ⊢
          exact bindP_mono (fun r h => ih _ _ _ _ _ _ h) (fun e pl t1 n1 h => bindP_mono (fun r h => ih _ _ _ _ _ _ h) (fun _ _ _ _ h => h) h) h
        · rw [if_neg k1] at h ⊢
          exact ih _ _ _ _ _ _ h
      · rw [if_neg m1] at h ⊢
        by_cases m2 : mode = 2
        · rw [if_pos m2] at h ⊢
          by_cases k1 : t.1 = 1
          · rw [if_pos k1] at h ⊢; exact h
          · rw [if_neg k1] at h ⊢
            by_cases k2 : t.1 = 2
            · rw [if_pos k2] at h ⊢; exact h
            · rw [if_neg k2] at h ⊢
              by_cases k3 : t.1 ≠ 40
              · rw [if_pos k3] at h ⊢; exact h
              · rw [if_neg k3] at h ⊢
                by_cases g : 40 ≤ o
                · rw [if_pos g] at h ⊢; exact h
                · rw [if_neg g] at h ⊢
                  exact bindP_mono (fun r h => ih _ _ _ _ _ _ h) (fun _ _ _ _ h => h) h
        · rw [if_neg m2] at h ⊢
          by_cases m3 : mode = 3
          · rw [if_pos m3] at h ⊢
            exact advK_mono (fun t1 h => ih _ _ _ _ _ _ h) h
          · rw [if_neg m3] at h ⊢
            by_cases k1 : t.1 = 1 ∨ t.1 = 2 ∨ t.1 = 40
            · rw [if_pos k1] at h ⊢
              exact bindP_mono (fun r h => ih _ _ _ _ _ _ h) (fun e pl t1 n1 h => bindP_mono (fun r h => ih _ _ _ _ _ _ h) (fun _ _ _ _ h => h) h) h
            · rw [if_neg k1] at h ⊢; exact h
theorem pexp_le {b : Nat → Nat} {ln : Nat} {cs : List Key} {f g mode : Nat} {sc : List Key} {o n : Nat} {t : PT} {r : PRes} (hfg : f ≤ g) (h : pexp b ln cs f mode sc o n t = some r) : pexp b ln cs g mode sc o n t = some r := by
  induction hfg with
  | refl => exact h
  | step _ ih => exact pexp_mono _ _ _ _ _ _ _ ih
/-- the tokens from t on say r -/
def PRel (b : Nat → Nat) (ln : Nat) (cs : List Key) (mode : Nat) (sc : List Key) (o n : Nat) (t : PT) (r : PRes) : Prop := ∃ f, pexp b ln cs f mode sc o n t = some r
theorem PRel.uniq {b : Nat → Nat} {ln : Nat} {cs : List Key} {mode : Nat} {sc : List Key} {o n : Nat} {t : PT} {r r' : PRes} (h : PRel b ln cs mode sc o n t r) (h' : PRel b ln cs mode sc o n t r') : r = r' := by
  obtain ⟨f, h⟩ := h
  obtain ⟨g, h'⟩ := h'
  have a := pexp_le (Nat.le_max_left f g) h
  have c := pexp_le (Nat.le_max_right f g) h'
  exact Option.some.inj (a.symm.trans c)
section PI
variable {b : Nat → Nat} {ln : Nat} {cs sc : List Key} {o n k st nx : Nat}
-- mode 2
theorem pa_none (hk : k = 1) (hm : mean sc cs (frn b st nx, bkn b st nx) = none) : PRel b ln cs 2 sc o n (k, st, nx) (.inl (3, st)) := ⟨1, by simp [pexp, hk, keyOf, hm, bad]⟩
theorem pa_full {h : Nat} (hk : k = 1) (hm : mean sc cs (frn b st nx, bkn b st nx) = some h) (hn : n = 300) : PRel b ln cs 2 sc o n (k, st, nx) (.inl (5, st)) := ⟨1, by simp [pexp, hk, keyOf, hm, bad, hn]⟩
theorem pa_adv {h st1 nx1 : Nat} (hk : k = 1) (hm : mean sc cs (frn b st nx, bkn b st nx) = some h) (hn : n < 300) (ht : nxt b ln nx = (4, st1, nx1)) : PRel b ln cs 2 sc o n (k, st, nx) (.inl (1, st1)) := ⟨1, by simp [pexp, hk, keyOf, hm, bad, advK, ht]; omega⟩
theorem pa_ok {h k1 st1 nx1 : Nat} (hk : k = 1) (hm : mean sc cs (frn b st nx, bkn b st nx) = some h) (hn : n < 300) (ht : nxt b ln nx = (k1, st1, nx1)) (h4 : k1 ≠ 4) : PRel b ln cs 2 sc o n (k, st, nx) (.inr (.pow (.var 0) h, [st], (k1, st1, nx1), n + 1)) := ⟨1, by simp [pexp, hk, keyOf, hm, bad, advK, ht, h4]; omega⟩
theorem pt_full (hk : k = 2) (hn : n = 300) : PRel b ln cs 2 sc o n (k, st, nx) (.inl (5, st)) := ⟨1, by simp [pexp, hk, bad, hn]⟩
theorem pt_adv {st1 nx1 : Nat} (hk : k = 2) (hn : n < 300) (ht : nxt b ln nx = (4, st1, nx1)) : PRel b ln cs 2 sc o n (k, st, nx) (.inl (1, st1)) := ⟨1, by simp [pexp, hk, bad, advK, ht]; omega⟩
theorem pt_ok {k1 st1 nx1 : Nat} (hk : k = 2) (hn : n < 300) (ht : nxt b ln nx = (k1, st1, nx1)) (h4 : k1 ≠ 4) : PRel b ln cs 2 sc o n (k, st, nx) (.inr (.num 0, [st], (k1, st1, nx1), n + 1)) := ⟨1, by simp [pexp, hk, bad, advK, ht, h4]; omega⟩
theorem pp_no (h1 : k ≠ 1) (h2 : k ≠ 2) (h3 : k ≠ 40) : PRel b ln cs 2 sc o n (k, st, nx) (.inl (2, st)) := ⟨1, by simp [pexp, h1, h2, h3, bad]⟩
theorem pp_open (hk : k = 40) (ho : o = 40) : PRel b ln cs 2 sc o n (k, st, nx) (.inl (5, st)) := ⟨1, by simp [pexp, hk, bad, ho]⟩
theorem pp_in {x : Nat × Nat} (hk : k = 40) (ho : o < 40) (h : PRel b ln cs 3 sc (o + 1) n (k, st, nx) (.inl x)) : PRel b ln cs 2 sc o n (k, st, nx) (.inl x) := by
  obtain ⟨f, hf⟩ := h
  exact ⟨f + 1, by subst hk; simp [pexp, hf, bindP]; omega⟩
theorem pp_clo {e : Ex} {pl : List Nat} {k1 st1 nx1 n1 : Nat} (hk : k = 40) (ho : o < 40) (h : PRel b ln cs 3 sc (o + 1) n (k, st, nx) (.inr (e, pl, (k1, st1, nx1), n1))) (h1 : k1 ≠ 41) : PRel b ln cs 2 sc o n (k, st, nx) (.inl (2, st1)) := by
  obtain ⟨f, hf⟩ := h
  exact ⟨f + 1, by subst hk; simp [pexp, hf, bindP, h1, bad]; omega⟩
theorem pp_adv {e : Ex} {pl : List Nat} {k1 st1 nx1 n1 st2 nx2 : Nat} (hk : k = 40) (ho : o < 40) (h : PRel b ln cs 3 sc (o + 1) n (k, st, nx) (.inr (e, pl, (k1, st1, nx1), n1))) (h1 : k1 = 41) (ht : nxt b ln nx1 = (4, st2, nx2)) : PRel b ln cs 2 sc o n (k, st, nx) (.inl (1, st2)) := by
  obtain ⟨f, hf⟩ := h
  exact ⟨f + 1, by subst hk; simp [pexp, hf, bindP, h1, bad, advK, ht]; omega⟩
theorem pp_ok {e : Ex} {pl : List Nat} {k1 st1 nx1 n1 k2 st2 nx2 : Nat} (hk : k = 40) (ho : o < 40) (h : PRel b ln cs 3 sc (o + 1) n (k, st, nx) (.inr (e, pl, (k1, st1, nx1), n1))) (h1 : k1 = 41) (ht : nxt b ln nx1 = (k2, st2, nx2)) (h4 : k2 ≠ 4) : PRel b ln cs 2 sc o n (k, st, nx) (.inr (e, pl, (k2, st2, nx2), n1)) := by
  obtain ⟨f, hf⟩ := h
  exact ⟨f + 1, by subst hk; simp [pexp, hf, bindP, h1, bad, advK, ht, h4]; omega⟩
-- mode 3
theorem p3_adv {st1 nx1 : Nat} (ht : nxt b ln nx = (4, st1, nx1)) : PRel b ln cs 3 sc o n (k, st, nx) (.inl (1, st1)) := ⟨1, by simp [pexp, advK, ht, bad]⟩
theorem p3_ok {k1 st1 nx1 : Nat} {r : PRes} (ht : nxt b ln nx = (k1, st1, nx1)) (h4 : k1 ≠ 4) (h : PRel b ln cs 0 sc o n (k1, st1, nx1) r) : PRel b ln cs 3 sc o n (k, st, nx) r := by
  obtain ⟨f, hf⟩ := h
  exact ⟨f + 1, by simp [pexp, advK, ht, h4, hf]⟩
-- mode 1
theorem p1_other {r : PRes} (hk : k ≠ 1) (h : PRel b ln cs 2 sc o n (k, st, nx) r) : PRel b ln cs 1 sc o n (k, st, nx) r := by
  obtain ⟨f, hf⟩ := h
  exact ⟨f + 1, by simp [pexp, hk, hf]⟩
theorem p1_bad {x : Nat × Nat} (hk : k = 1) (h : PRel b ln cs 2 sc o n (k, st, nx) (.inl x)) : PRel b ln cs 1 sc o n (k, st, nx) (.inl x) := by
  obtain ⟨f, hf⟩ := h
  exact ⟨f + 1, by subst hk; simp [pexp, hf, bindP]⟩
theorem p1_arg {e : Ex} {pl : List Nat} {t1 : PT} {n1 : Nat} {x : Nat × Nat} (hk : k = 1) (h : PRel b ln cs 2 sc o n (k, st, nx) (.inr (e, pl, t1, n1))) (h2 : PRel b ln cs 4 sc o n1 t1 (.inl x)) : PRel b ln cs 1 sc o n (k, st, nx) (.inl x) := by
  obtain ⟨f, hf⟩ := h
  obtain ⟨g, hg⟩ := h2
  have a := pexp_le (Nat.le_max_left f g) hf
  have c := pexp_le (Nat.le_max_right f g) hg
  exact ⟨max f g + 1, by subst hk; simp [pexp, a, c, bindP]⟩
theorem p1_ok {e y : Ex} {pl py : List Nat} {t1 t2 : PT} {n1 n2 : Nat} (hk : k = 1) (h : PRel b ln cs 2 sc o n (k, st, nx) (.inr (e, pl, t1, n1))) (h2 : PRel b ln cs 4 sc o n1 t1 (.inr (y, py, t2, n2))) : PRel b ln cs 1 sc o n (k, st, nx) (.inr (setA e y, pl ++ py, t2, n2)) := by
  obtain ⟨f, hf⟩ := h
  obtain ⟨g, hg⟩ := h2
  have a := pexp_le (Nat.le_max_left f g) hf
  have c := pexp_le (Nat.le_max_right f g) hg
  exact ⟨max f g + 1, by subst hk; simp [pexp, a, c, bindP]⟩
-- mode 4
theorem p4_nil (hk : ¬ (k = 1 ∨ k = 2 ∨ k = 40)) : PRel b ln cs 4 sc o n (k, st, nx) (.inr (.var 0, [], (k, st, nx), n)) := ⟨1, by simp only [not_or] at hk; simp [pexp, hk.1, hk.2.1, hk.2.2]⟩
theorem p4_bad {x : Nat × Nat} (hk : k = 1 ∨ k = 2 ∨ k = 40) (h : PRel b ln cs 2 sc o n (k, st, nx) (.inl x)) : PRel b ln cs 4 sc o n (k, st, nx) (.inl x) := by
  obtain ⟨f, hf⟩ := h
  exact ⟨f + 1, by rw [pexp]; simp only [show ¬ (4 : Nat) = 0 by decide, show ¬ (4 : Nat) = 1 by decide, show ¬ (4 : Nat) = 2 by decide, show ¬ (4 : Nat) = 3 by decide, if_false]; rw [if_pos hk, hf]; rfl⟩
theorem p4_cons {e : Ex} {pl : List Nat} {t1 : PT} {n1 : Nat} (hk : k = 1 ∨ k = 2 ∨ k = 40) (h : PRel b ln cs 2 sc o n (k, st, nx) (.inr (e, pl, t1, n1))) {r : PRes} (h2 : PRel b ln cs 4 sc o n1 t1 r) : PRel b ln cs 4 sc o n (k, st, nx) (match r with | .inl x => .inl x | .inr (y, py, t2, n2) => .inr (.add e y, pl ++ py, t2, n2)) := by
  obtain ⟨f, hf⟩ := h
  obtain ⟨g, hg⟩ := h2
  have a := pexp_le (Nat.le_max_left f g) hf
  have c := pexp_le (Nat.le_max_right f g) hg
  refine ⟨max f g + 1, ?_⟩
  rw [pexp]
  simp only [show ¬ (4 : Nat) = 0 by decide, show ¬ (4 : Nat) = 1 by decide, show ¬ (4 : Nat) = 2 by decide, show ¬ (4 : Nat) = 3 by decide, if_false]
  rw [if_pos hk, a]
  simp only [bindP, c]
  cases r <;> rfl
end PI
