/-! names by the class's keys and by the reference's: the same names have the same keys -/
theorem leN_shift (b : Nat → Nat) (st : Nat) : ∀ m, leN b st (m + 1) = b st + 256 * leN b (st + 1) m := by
  intro m
  induction m with
  | zero => simp [leN]
  | succ m ih =>
    have e : leN b st (m + 1 + 1) = leN b st (m + 1) + b (st + (m + 1)) * 256 ^ (m + 1) := rfl
    have e2 : leN b (st + 1) (m + 1) = leN b (st + 1) m + b (st + 1 + m) * 256 ^ m := rfl
    rw [e, e2, ih, show st + (m + 1) = st + 1 + m by omega, Nat.pow_succ, Nat.mul_add, Nat.add_assoc, ← Nat.mul_assoc, Nat.mul_comm (b (st + 1 + m) * 256 ^ m) 256]
theorem le_inj {b b' : Nat → Nat} (hb : ∀ j, b j < 256) (hb' : ∀ j, b' j < 256) : ∀ (m m' st st' : Nat), (∀ i, i < m → 0 < b (st + i)) → (∀ i, i < m' → 0 < b' (st' + i)) → leN b st m = leN b' st' m' → m = m' ∧ ∀ i, i < m → b (st + i) = b' (st' + i) := by
  intro m
  induction m with
  | zero =>
    intro m' st st' h1 h2 h
    cases m' with
    | zero => exact ⟨rfl, fun i hi => absurd hi (Nat.not_lt_zero _)⟩
    | succ m' =>
      rw [leN_shift] at h
      have := h2 0 (by omega)
      rw [Nat.add_zero] at this
      simp [leN] at h
      omega
  | succ m ih =>
    intro m' st st' h1 h2 h
    cases m' with
    | zero =>
      rw [leN_shift] at h
      have := h1 0 (by omega)
      rw [Nat.add_zero] at this
      simp [leN] at h
      omega
    | succ m' =>
      rw [leN_shift, leN_shift] at h
      have q1 := hb st
      have q2 := hb' st'
      have e1 : b st = b' st' := by omega
      have e2 : leN b (st + 1) m = leN b' (st' + 1) m' := by omega
      obtain ⟨a1, a2⟩ := ih m' (st + 1) (st' + 1) (fun i hi => by have := h1 (i + 1) (by omega); rwa [show st + (i + 1) = st + 1 + i by omega] at this) (fun i hi => by have := h2 (i + 1) (by omega); rwa [show st' + (i + 1) = st' + 1 + i by omega] at this) e2
      refine ⟨by omega, fun i hi => ?_⟩
      cases i with
      | zero => exact e1
      | succ i => have := a2 i (by omega); rwa [show st + (i + 1) = st + 1 + i by omega, show st' + (i + 1) = st' + 1 + i by omega]
theorem le_eq {b b' : Nat → Nat} : ∀ (m st st' : Nat), (∀ i, i < m → b (st + i) = b' (st' + i)) → leN b st m = leN b' st' m := by
  intro m
  induction m with
  | zero => intros; rfl
  | succ m ih =>
    intro st st' h
    show leN b st m + b (st + m) * 256 ^ m = leN b' st' m + b' (st' + m) * 256 ^ m
    rw [ih st st' (fun i hi => h i (by omega)), h m (by omega)]
theorem be_inj {b b' : Nat → Nat} (hb : ∀ j, b j < 256) (hb' : ∀ j, b' j < 256) : ∀ (m m' st st' : Nat), (∀ i, i < m → 0 < b (st + i)) → (∀ i, i < m' → 0 < b' (st' + i)) → beN b st m = beN b' st' m' → m = m' ∧ ∀ i, i < m → b (st + i) = b' (st' + i) := by
  intro m
  induction m with
  | zero =>
    intro m' st st' h1 h2 h
    cases m' with
    | zero => exact ⟨rfl, fun i hi => absurd hi (Nat.not_lt_zero _)⟩
    | succ m' =>
      have := h2 m' (by omega)
      simp [beN] at h
      omega
  | succ m ih =>
    intro m' st st' h1 h2 h
    cases m' with
    | zero =>
      have := h1 m (by omega)
      simp [beN] at h
      omega
    | succ m' =>
      have h : beN b st m * 256 + b (st + m) = beN b' st' m' * 256 + b' (st' + m') := h
      have q1 := hb (st + m)
      have q2 := hb' (st' + m')
      have e1 : b (st + m) = b' (st' + m') := by omega
      have e2 : beN b st m = beN b' st' m' := by omega
      obtain ⟨a1, a2⟩ := ih m' st st' (fun i hi => h1 i (by omega)) (fun i hi => h2 i (by omega)) e2
      subst a1
      refine ⟨rfl, fun i hi => ?_⟩
      rcases Nat.lt_or_ge i m with z | z
      · exact a2 i z
      · rw [show i = m by omega]; exact e1
theorem be_eq {b b' : Nat → Nat} : ∀ (m st st' : Nat), (∀ i, i < m → b (st + i) = b' (st' + i)) → beN b st m = beN b' st' m := by
  intro m
  induction m with
  | zero => intros; rfl
  | succ m ih =>
    intro st st' h
    show beN b st m * 256 + b (st + m) = beN b' st' m * 256 + b' (st' + m)
    rw [ih st st' (fun i hi => h i (by omega)), h m (by omega)]
/-- a name's bytes lie from st to nx -/
def NmB (b : Nat → Nat) (st nx : Nat) : Prop := (∀ j, b j < 256) ∧ st < nx ∧ nx ≤ st + 12 ∧ ∀ i, i < nx - st → 0 < b (st + i)
def SameN (b : Nat → Nat) (st nx : Nat) (b' : Nat → Nat) (st' nx' : Nat) : Prop := nx - st = nx' - st' ∧ ∀ i, i < nx - st → b (st + i) = b' (st' + i)
theorem leb {b : Nat → Nat} (hb : ∀ j, b j < 256) (st : Nat) {m : Nat} (h : m ≤ 8) : leN b st m < 2 ^ 64 := Nat.lt_of_lt_of_le (leN_lt hb st m) (Nat.le_trans (Nat.pow_le_pow_right (by decide) h) (by decide))
theorem beb {b : Nat → Nat} (hb : ∀ j, b j < 256) (st : Nat) {m : Nat} (h : m ≤ 8) : beN b st m < 2 ^ 64 := Nat.lt_of_lt_of_le (beN_lt hb st m) (Nat.le_trans (Nat.pow_le_pow_right (by decide) h) (by decide))
theorem ck_iff {b b' : Nat → Nat} {st nx st' nx' : Nat} (h : NmB b st nx) (h' : NmB b' st' nx') : (frn b st nx = frn b' st' nx' ∧ bkn b st nx = bkn b' st' nx') ↔ SameN b st nx b' st' nx' := by
  obtain ⟨a1, a2, a3, a4⟩ := h
  obtain ⟨c1, c2, c3, c4⟩ := h'
  constructor
  · rintro ⟨h1, h2⟩
    have e1 := lN_inj (leb a1 st (show min (nx - st) 8 ≤ 8 by omega)) (leb c1 st' (show min (nx' - st') 8 ≤ 8 by omega)) h1
    have e2 := lN_inj (leb a1 (st + 8) (show min (nx - st - 8) 4 ≤ 8 by omega)) (leb c1 (st' + 8) (show min (nx' - st' - 8) 4 ≤ 8 by omega)) h2
    obtain ⟨d1, d2⟩ := le_inj a1 c1 _ _ _ _ (fun i hi => a4 i (by omega)) (fun i hi => c4 i (by omega)) e1
    obtain ⟨d3, d4⟩ := le_inj a1 c1 _ _ _ _ (fun i hi => by have := a4 (8 + i) (by omega); rwa [show st + (8 + i) = st + 8 + i by omega] at this) (fun i hi => by have := c4 (8 + i) (by omega); rwa [show st' + (8 + i) = st' + 8 + i by omega] at this) e2
    refine ⟨by omega, fun i hi => ?_⟩
    rcases Nat.lt_or_ge i 8 with z | z
    · exact d2 i (by omega)
    · have := d4 (i - 8) (by omega)
      rwa [show st + 8 + (i - 8) = st + i by omega, show st' + 8 + (i - 8) = st' + i by omega] at this
  · rintro ⟨h1, h2⟩
    constructor
    · unfold frn; rw [← h1]; congr 1; exact le_eq _ _ _ (fun i hi => h2 i (by omega))
    · unfold bkn; rw [← h1]; congr 1; refine le_eq _ _ _ (fun i hi => ?_)
      have := h2 (8 + i) (by omega)
      rwa [show st + (8 + i) = st + 8 + i by omega, show st' + (8 + i) = st' + 8 + i by omega] at this
theorem rk_iff {b b' : Nat → Nat} {st nx st' nx' : Nat} (h : NmB b st nx) (h' : NmB b' st' nx') : (frR b st nx = frR b' st' nx' ∧ bkR b st nx = bkR b' st' nx') ↔ SameN b st nx b' st' nx' := by
  obtain ⟨a1, a2, a3, a4⟩ := h
  obtain ⟨c1, c2, c3, c4⟩ := h'
  constructor
  · rintro ⟨h1, h2⟩
    have e1 := lN_inj (beb a1 st (show min (nx - st) 6 ≤ 8 by omega)) (beb c1 st' (show min (nx' - st') 6 ≤ 8 by omega)) h1
    have e2 := lN_inj (beb a1 (st + 6) (show min (nx - st - 6) 6 ≤ 8 by omega)) (beb c1 (st' + 6) (show min (nx' - st' - 6) 6 ≤ 8 by omega)) h2
    obtain ⟨d1, d2⟩ := be_inj a1 c1 _ _ _ _ (fun i hi => a4 i (by omega)) (fun i hi => c4 i (by omega)) e1
    obtain ⟨d3, d4⟩ := be_inj a1 c1 _ _ _ _ (fun i hi => by have := a4 (6 + i) (by omega); rwa [show st + (6 + i) = st + 6 + i by omega] at this) (fun i hi => by have := c4 (6 + i) (by omega); rwa [show st' + (6 + i) = st' + 6 + i by omega] at this) e2
    refine ⟨by omega, fun i hi => ?_⟩
    rcases Nat.lt_or_ge i 6 with z | z
    · exact d2 i (by omega)
    · have := d4 (i - 6) (by omega)
      rwa [show st + 6 + (i - 6) = st + i by omega, show st' + 6 + (i - 6) = st' + i by omega] at this
  · rintro ⟨h1, h2⟩
    constructor
    · unfold frR; rw [← h1]; congr 1; exact be_eq _ _ _ (fun i hi => h2 i (by omega))
    · unfold bkR; rw [← h1]; congr 1; refine be_eq _ _ _ (fun i hi => ?_)
      have := h2 (6 + i) (by omega)
      rwa [show st + (6 + i) = st + 6 + i by omega, show st' + (6 + i) = st' + 6 + i by omega] at this
/-- the class's key and the reference's of one name -/
def KPair (ck rk : Key) : Prop := ∃ b st nx, NmB b st nx ∧ ck = (frn b st nx, bkn b st nx) ∧ rk = (frR b st nx, bkR b st nx)
theorem KPair.iff {ck rk ck' rk' : Key} (h : KPair ck rk) (h' : KPair ck' rk') : ck = ck' ↔ rk = rk' := by
  obtain ⟨b, st, nx, h1, rfl, rfl⟩ := h
  obtain ⟨b', st', nx', h2, rfl, rfl⟩ := h'
  rw [Prod.mk.injEq, Prod.mk.injEq, ck_iff h1 h2, rk_iff h1 h2]
theorem KPair.ne {ck rk : Key} (h : KPair ck rk) : ck ≠ (0, 0) := by
  obtain ⟨b, st, nx, ⟨a1, a2, a3, a4⟩, rfl, rfl⟩ := h
  intro q
  have q1 : frn b st nx = 0 := congrArg Prod.fst q
  have e := lN_inj (leb a1 st (show min (nx - st) 8 ≤ 8 by omega)) (y := 0) (by decide) q1
  obtain ⟨m, hm⟩ : ∃ m, min (nx - st) 8 = m + 1 := ⟨min (nx - st) 8 - 1, by omega⟩
  rw [hm, leN_shift] at e
  have := a4 0 (by omega)
  simp at this
  omega
theorem isNm_pos {b : Nat} (h : isNm b) : 0 < b := by unfold isNm at h; omega
theorem tok_nm {b : Nat → Nat} (hb : ∀ j, b j < 256) {ln z st nx : Nat} (h : Tok b ln z 1 st nx) : NmB b st nx := by
  obtain ⟨s1, c1⟩ := h
  rcases c1 with ⟨a, a1, a2⟩ | ⟨a, a1, a2, a3⟩ | ⟨a, a1, a2, a3⟩ | ⟨a, a1, a2, a3, a4⟩
  · cases a1
  · refine ⟨hb, a2.lt a a1, by omega, fun i hi => isNm_pos (a2.2.2.1 _ (by omega) (by omega))⟩
  · omega
  · rcases a4 with ⟨q1, q2⟩ | ⟨q1, q2⟩
    · unfold isSg at q1; omega
    · omega
/-- there is a token everywhere -/
theorem skp_ex (b : Nat → Nat) (ln : Nat) : ∀ d z, z + d = ln → ∃ q, Skp b ln z q := by
  intro d
  induction d with
  | zero => intro z h; exact ⟨z, Nat.le_refl _, by omega, fun j a c => by omega, fun h => by omega⟩
  | succ d ih =>
    intro z h
    by_cases c : b z ≤ 32
    · obtain ⟨q, q1, q2, q3, q4⟩ := ih (z + 1) (by omega)
      refine ⟨q, by omega, q2, fun j a e => ?_, q4⟩
      rcases Nat.lt_or_ge z j with y | y
      · exact q3 j (by omega) e
      · rw [show j = z by omega]; exact c
    · exact ⟨z, Nat.le_refl _, by omega, fun j a e => by omega, fun _ => by omega⟩
theorem nme_ex (b : Nat → Nat) (ln : Nat) : ∀ d z, z + d = ln → ∃ q, NmE b ln z q := by
  intro d
  induction d with
  | zero => intro z h; exact ⟨z, Nat.le_refl _, by omega, fun j a c => by omega, fun h => by omega⟩
  | succ d ih =>
    intro z h
    by_cases c : isNm (b z)
    · obtain ⟨q, q1, q2, q3, q4⟩ := ih (z + 1) (by omega)
      refine ⟨q, by omega, q2, fun j a e => ?_, q4⟩
      rcases Nat.lt_or_ge z j with y | y
      · exact q3 j (by omega) e
      · rw [show j = z by omega]; exact c
    · exact ⟨z, Nat.le_refl _, by omega, fun j a e => by omega, fun _ => c⟩
theorem tok_ex (b : Nat → Nat) {ln z : Nat} (h : z ≤ ln) : ∃ k st nx, Tok b ln z k st nx := by
  obtain ⟨st, hs⟩ := skp_ex b ln (ln - z) z (by omega)
  rcases Nat.lt_or_ge st ln with c | c
  · by_cases n1 : isNm (b st)
    · obtain ⟨nx, hn⟩ := nme_ex b ln (ln - st) st (by omega)
      rcases Nat.lt_or_ge (st + 12) nx with c2 | c2
      · exact ⟨4, st, nx, hs, Or.inr (Or.inl ⟨c, n1, hn, Or.inl ⟨c2, rfl⟩⟩)⟩
      · by_cases ty : isTy b st nx
        · exact ⟨2, st, nx, hs, Or.inr (Or.inl ⟨c, n1, hn, Or.inr (Or.inl ⟨c2, ty, rfl⟩)⟩)⟩
        · exact ⟨1, st, nx, hs, Or.inr (Or.inl ⟨c, n1, hn, Or.inr (Or.inr ⟨c2, ty, rfl⟩)⟩)⟩
    · by_cases a : b st = 45
      · by_cases a2 : st + 1 < ln ∧ b (st + 1) = 62
        · exact ⟨3, st, st + 2, hs, Or.inr (Or.inr (Or.inl ⟨c, a, rfl, Or.inl ⟨a2.1, a2.2, rfl⟩⟩))⟩
        · exact ⟨4, st, st + 2, hs, Or.inr (Or.inr (Or.inl ⟨c, a, rfl, Or.inr ⟨a2, rfl⟩⟩))⟩
      · by_cases g : isSg (b st)
        · exact ⟨b st, st, st + 1, hs, Or.inr (Or.inr (Or.inr ⟨c, n1, a, rfl, Or.inl ⟨g, rfl⟩⟩))⟩
        · exact ⟨4, st, st + 1, hs, Or.inr (Or.inr (Or.inr ⟨c, n1, a, rfl, Or.inr ⟨g, rfl⟩⟩))⟩
  · have := hs.2.1
    exact ⟨0, st, ln, hs, Or.inl ⟨by omega, rfl, rfl⟩⟩
theorem nxt_tok {b : Nat → Nat} {ln z k st nx : Nat} (h : z ≤ ln) (e : nxt b ln z = (k, st, nx)) : Tok b ln z k st nx := by
  obtain ⟨k', st', nx', ht⟩ := tok_ex b h
  rw [nxt_eq ht] at e
  cases e
  exact ht
theorem nxt_key {b : Nat → Nat} (hb : ∀ j, b j < 256) {ln z st nx : Nat} (h : z ≤ ln) (e : nxt b ln z = (1, st, nx)) : KPair (frn b st nx, bkn b st nx) (frR b st nx, bkR b st nx) := ⟨b, st, nx, tok_nm hb (nxt_tok h e), rfl, rfl⟩
theorem nxt_le {b : Nat → Nat} (hb : ∀ j, b j < 256) {ln z k st nx : Nat} (h : z ≤ ln) (e : nxt b ln z = (k, st, nx)) (h4 : k ≠ 4) : nx ≤ ln := tok_le hb (nxt_tok h e) h4
/-! the variables at hand: (the class's key, the reference's key, the reference's id), the innermost first; the key of a product without a name is (0, 0) -/
abbrev En : Type := Key × Key × Nat
def EnvOk (env : List En) : Prop := ∀ q, q ∈ env → q.1 = (0, 0) ∨ KPair q.1 q.2.1
def scOf : List En → List Key
  | [] => []
  | q :: r => scOf r ++ [q.1]
def rhoOf : List En → List Nat
  | [] => []
  | q :: r => rhoOf r ++ [q.2.2]
def ssOf : List En → List Sc
  | [] => []
  | q :: r => if q.1 = (0, 0) then ssOf r else (q.2.1.1, q.2.1.2, q.2.2) :: ssOf r
theorem scOf_len : ∀ env : List En, (scOf env).length = env.length := by
  intro env
  induction env with
  | nil => rfl
  | cons q r ih => simp [scOf, ih]
theorem rhoOf_len : ∀ env : List En, (rhoOf env).length = env.length := by
  intro env
  induction env with
  | nil => rfl
  | cons q r ih => simp [rhoOf, ih]
theorem lkN_app {xs ys : List Key} {key : Key} : ∀ n, n ≤ xs.length → lkN (xs ++ ys) key n = lkN xs key n := by
  intro n
  induction n with
  | zero => intro _; rfl
  | succ n ih =>
    intro h
    simp only [lkN]
    rw [List.getElem?_append_left (by omega), ih (by omega)]
/-- the reference's head for the class's -/
def hdR (ρ : List Nat) (h : Nat) : Nat := if h < 48 then h else 100 + ρ.getD (h - 48) 0
theorem env_lk {env : List En} (he : EnvOk env) {key rkey : Key} (hk : KPair key rkey) : (lkN (scOf env) key (scOf env).length = none → lkS rkey (ssOf env) = none) ∧ (∀ i, lkN (scOf env) key (scOf env).length = some i → lkS rkey (ssOf env) = some ((rhoOf env).getD i 0) ∧ i < env.length) := by
  induction env with
  | nil => exact ⟨fun _ => rfl, fun i h => by simp [scOf, lkN] at h⟩
  | cons q r ih =>
    obtain ⟨ih1, ih2⟩ := ih (fun z hz => he z (List.mem_cons_of_mem _ hz))
    have e1 : lkN (scOf (q :: r)) key (scOf (q :: r)).length = if q.1 = key then some r.length else lkN (scOf r) key (scOf r).length := by
      simp only [scOf, List.length_append, List.length_cons, List.length_nil, lkN]
      rw [lkN_app _ (by simp), List.getElem?_append_right (by simp)]
      simp [scOf_len]
    have hq := he q (List.mem_cons_self)
    rw [e1]
    by_cases e : q.1 = key
    · rw [if_pos e]
      refine ⟨fun h => (by cases h), fun i h => ?_⟩
      have hi : r.length = i := Option.some.inj h
      have hne : q.1 ≠ (0, 0) := by rw [e]; exact hk.ne
      have hp : KPair q.1 q.2.1 := hq.resolve_left hne
      have e2 : q.2.1 = rkey := (hp.iff hk).mp e
      refine ⟨?_, by simp; omega⟩
      simp only [ssOf]
      rw [if_neg hne]
      simp only [lkS]
      rw [if_pos e2, ← hi]
      simp [rhoOf, List.getD, rhoOf_len]
    · rw [if_neg e]
      have e2 : lkS rkey (ssOf (q :: r)) = lkS rkey (ssOf r) := by
        simp only [ssOf]
        by_cases z : q.1 = (0, 0)
        · rw [if_pos z]
        · rw [if_neg z]
          have hp : KPair q.1 q.2.1 := hq.resolve_left z
          simp only [lkS]
          rw [if_neg (fun w => e ((hp.iff hk).mpr w))]
      rw [e2]
      refine ⟨ih1, fun i h => ?_⟩
      obtain ⟨a1, a2⟩ := ih2 i h
      refine ⟨?_, by simp; omega⟩
      rw [a1]
      simp only [rhoOf, List.getD]
      rw [List.getElem?_append_left (by rw [rhoOf_len]; exact a2)]
/-- the constants' names on both sides -/
def ConOk (cs rcs : List Key) : Prop := cs.length = rcs.length ∧ cs.length ≤ 48 ∧ ∀ (i : Nat) (x y : Key), cs[i]? = some x → rcs[i]? = some y → KPair x y
theorem fk_con {cs rcs : List Key} (h : ConOk cs rcs) {key rkey : Key} (hk : KPair key rkey) : ∀ n, n ≤ cs.length → fkN cs key n = fkN rcs rkey n := by
  intro n
  induction n with
  | zero => intro _; rfl
  | succ n ih =>
    intro hn
    simp only [fkN]
    rw [ih (by omega)]
    have h1 : cs[n]? = some cs[n] := List.getElem?_eq_getElem (by omega)
    have h2 : rcs[n]? = some (rcs[n]'(by have := h.1; omega)) := List.getElem?_eq_getElem (by have := h.1; omega)
    have hp := h.2.2 n _ _ h1 h2
    rw [h1, h2]
    cases fkN rcs rkey n with
    | some k => rfl
    | none =>
      simp only [Option.some.injEq]
      by_cases e : cs[n] = key
      · rw [if_pos e, if_pos ((hp.iff hk).mp e)]
      · rw [if_neg e, if_neg (fun q => e ((hp.iff hk).mpr q))]
theorem fk_lt {cs : List Key} {key : Key} : ∀ n k, fkN cs key n = some k → k < n := by
  intro n
  induction n with
  | zero => intro k h; simp [fkN] at h
  | succ n ih =>
    intro k h
    simp only [fkN] at h
    cases e : fkN cs key n with
    | some z => rw [e] at h; simp only [Option.some.injEq] at h; have := ih z e; omega
    | none =>
      rw [e] at h
      simp only at h
      split at h
      · simp only [Option.some.injEq] at h; omega
      · cases h
theorem mean_env {env : List En} {cs rcs : List Key} (he : EnvOk env) (hc : ConOk cs rcs) {key rkey : Key} (hk : KPair key rkey) : (mean (scOf env) cs key = none → rmean rcs (ssOf env) rkey = none) ∧ (∀ h, mean (scOf env) cs key = some h → rmean rcs (ssOf env) rkey = some (hdR (rhoOf env) h) ∧ h < 48 + env.length) := by
  obtain ⟨e1, e2⟩ := env_lk he hk
  unfold mean rmean
  cases e : lkN (scOf env) key (scOf env).length with
  | some i =>
    obtain ⟨a1, a2⟩ := e2 i e
    refine ⟨fun h => (by simp at h), fun h q => ?_⟩
    simp only [Option.some.injEq] at q
    subst q
    rw [a1]
    refine ⟨?_, by omega⟩
    simp only [hdR]
    rw [if_neg (by omega), show 48 + i - 48 = i by omega]
  | none =>
    rw [e1 e]
    simp only
    rw [fk_con hc hk cs.length (Nat.le_refl _), hc.1]
    refine ⟨id, fun h q => ⟨?_, ?_⟩⟩
    · rw [q, hdR, if_pos (by have := fk_lt _ _ q; have := hc.1; have := hc.2.1; omega)]
    · have := fk_lt _ _ q; have := hc.1; have := hc.2.1; omega
