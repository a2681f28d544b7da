/-! the reference's rows: heads and ids told -/
def RR (g : Nat → Nat) : Ex → Nat → List Nat → Prop
  | .num _, z, _ => g z = 0
  | .mul a b, z, ρ => g z = 1 ∧ RR g a (z + 2) ρ ∧ RR g b (z + 2 + rsz a) (ρ ++ [g (z + 1)])
  | .neg a, z, ρ => g z = 2 ∧ RR g a (z + 2) (ρ ++ [g (z + 1)])
  | .pow a k, z, ρ => g z = 3 ∧ g (z + 1) = hdR ρ k ∧ g (z + 2) = nar a ∧ RR g a (z + 3) ρ
  | .add a b, z, ρ => RR g a z ρ ∧ RR g b (z + rsz a) ρ
  | _, _, _ => True
/-- the places of its nodes -/
def plR (pc : Nat → Nat) : Ex → Nat → List Nat
  | .num _, z => [pc z]
  | .mul a b, z => pc z :: (plR pc a (z + 2) ++ plR pc b (z + 2 + rsz a))
  | .neg a, z => pc z :: plR pc a (z + 2)
  | .pow a _, z => pc z :: plR pc a (z + 3)
  | .add a b, z => plR pc a z ++ plR pc b (z + rsz a)
  | _, _ => []
/-- the ids of its products and functions -/
def Idl (g : Nat → Nat) : Ex → Nat → List Nat
  | .mul a b, z => g (z + 1) :: (Idl g a (z + 2) ++ Idl g b (z + 2 + rsz a))
  | .neg a, z => g (z + 1) :: Idl g a (z + 2)
  | .pow a _, z => Idl g a (z + 3)
  | .add a b, z => Idl g a z ++ Idl g b (z + rsz a)
  | _, _ => []
theorem sh_in {α : Type} {g g' : Nat → α} {z z' N a n : Nat} (h : ∀ j, j < N → g' (z' + j) = g (z + j)) (hn : a + n ≤ N) : ∀ j, j < n → g' (z' + a + j) = g (z + a + j) := fun j hj => by
  have := h (a + j) (by omega)
  rwa [show z' + (a + j) = z' + a + j by omega, show z + (a + j) = z + a + j by omega] at this
theorem RR.shift {g g' : Nat → Nat} : ∀ (e : Ex) (z z' : Nat) (ρ : List Nat), (∀ j, j < rsz e → g' (z' + j) = g (z + j)) → RR g e z ρ → RR g' e z' ρ := by
  intro e
  induction e with
  | num k => intro z z' ρ h q; have := h 0 (by simp [rsz]); exact this.trans q
  | natCast k => intros; trivial
  | intCast k => intros; trivial
  | var i => intros; trivial
  | sub a b => intros; trivial
  | neg a ih =>
    intro z z' ρ h ⟨h1, h2⟩
    simp only [rsz] at h
    have e0 := h 0 (by omega)
    have e1 := h 1 (by omega)
    refine ⟨e0.trans h1, ?_⟩
    rw [e1]
    exact ih _ _ _ (sh_in h (by omega)) h2
  | pow a k ih =>
    intro z z' ρ h ⟨h1, h2, h3, h4⟩
    simp only [rsz] at h
    exact ⟨(h 0 (by omega)).trans h1, (h 1 (by omega)).trans h2, (h 2 (by omega)).trans h3, ih _ _ _ (sh_in h (by omega)) h4⟩
  | mul a b iha ihb =>
    intro z z' ρ h ⟨h1, h2, h3⟩
    simp only [rsz] at h
    have e1 := h 1 (by omega)
    refine ⟨(h 0 (by omega)).trans h1, iha _ _ _ (sh_in h (by omega)) h2, ?_⟩
    rw [e1]
    have := sh_in (a := 2 + rsz a) (n := rsz b) h (by omega)
    rw [show z' + (2 + rsz a) = z' + 2 + rsz a by omega, show z + (2 + rsz a) = z + 2 + rsz a by omega] at this
    exact ihb _ _ _ this h3
  | add a b iha ihb =>
    intro z z' ρ h ⟨h1, h2⟩
    simp only [rsz] at h
    exact ⟨iha _ _ _ (fun j hj => h j (by omega)) h1, ihb _ _ _ (sh_in h (by omega)) h2⟩
theorem plR.shift {pc pc' : Nat → Nat} : ∀ (e : Ex) (z z' : Nat), (∀ j, j < rsz e → pc' (z' + j) = pc (z + j)) → plR pc' e z' = plR pc e z := by
  intro e
  induction e with
  | num k => intro z z' h; have := h 0 (by simp [rsz]); simp only [plR]; rw [show pc' z' = pc z from this]
  | natCast k => intros; rfl
  | intCast k => intros; rfl
  | var i => intros; rfl
  | sub a b => intros; rfl
  | neg a ih =>
    intro z z' h
    simp only [rsz] at h
    simp only [plR]
    rw [show pc' z' = pc z from h 0 (by omega), ih _ _ (sh_in h (by omega))]
  | pow a k ih =>
    intro z z' h
    simp only [rsz] at h
    simp only [plR]
    rw [show pc' z' = pc z from h 0 (by omega), ih _ _ (sh_in h (by omega))]
  | mul a b iha ihb =>
    intro z z' h
    simp only [rsz] at h
    simp only [plR]
    have := sh_in (a := 2 + rsz a) (n := rsz b) h (by omega)
    rw [show z' + (2 + rsz a) = z' + 2 + rsz a by omega, show z + (2 + rsz a) = z + 2 + rsz a by omega] at this
    rw [show pc' z' = pc z from h 0 (by omega), iha _ _ (sh_in h (by omega)), ihb _ _ this]
  | add a b iha ihb =>
    intro z z' h
    simp only [rsz] at h
    simp only [plR]
    rw [iha _ _ (fun j hj => h j (by omega)), ihb _ _ (sh_in h (by omega))]
theorem Idl.shift {g g' : Nat → Nat} : ∀ (e : Ex) (z z' : Nat), (∀ j, j < rsz e → g' (z' + j) = g (z + j)) → Idl g' e z' = Idl g e z := by
  intro e
  induction e with
  | num k => intros; rfl
  | natCast k => intros; rfl
  | intCast k => intros; rfl
  | var i => intros; rfl
  | sub a b => intros; rfl
  | neg a ih =>
    intro z z' h
    simp only [rsz] at h
    simp only [Idl]
    rw [show g' (z' + 1) = g (z + 1) from h 1 (by omega), ih _ _ (sh_in h (by omega))]
  | pow a k ih =>
    intro z z' h
    simp only [rsz] at h
    simp only [Idl]
    rw [ih _ _ (sh_in h (by omega))]
  | mul a b iha ihb =>
    intro z z' h
    simp only [rsz] at h
    simp only [Idl]
    have := sh_in (a := 2 + rsz a) (n := rsz b) h (by omega)
    rw [show z' + (2 + rsz a) = z' + 2 + rsz a by omega, show z + (2 + rsz a) = z + 2 + rsz a by omega] at this
    rw [show g' (z' + 1) = g (z + 1) from h 1 (by omega), iha _ _ (sh_in h (by omega)), ihb _ _ this]
  | add a b iha ihb =>
    intro z z' h
    simp only [rsz] at h
    simp only [Idl]
    rw [iha _ _ (fun j hj => h j (by omega)), ihb _ _ (sh_in h (by omega))]
/-- e lies at z in the reference's rows, its nodes' places are pl, its ids are from i to i' -/
def ROk (g pc : Nat → Nat) (tb : Bool) (e : Ex) (z : Nat) (pl ρ : List Nat) (i i' : Nat) : Prop := wf tb e ∧ RR g e z ρ ∧ plR pc e z = pl ∧ i ≤ i' ∧ (∀ x, x ∈ Idl g e z → i ≤ x ∧ x < i') ∧ (Idl g e z).Nodup
theorem ROk.shift {g g' pc pc' : Nat → Nat} {tb : Bool} {e : Ex} {z z' : Nat} {pl ρ : List Nat} {i i' : Nat} (h : ROk g pc tb e z pl ρ i i') (hg : ∀ j, j < rsz e → g' (z' + j) = g (z + j)) (hp : ∀ j, j < rsz e → pc' (z' + j) = pc (z + j)) : ROk g' pc' tb e z' pl ρ i i' := by
  obtain ⟨a1, a2, a3, a4, a5, a6⟩ := h
  have e1 := Idl.shift e z z' hg
  exact ⟨a1, a2.shift _ _ _ _ hg, (plR.shift e z z' hp).trans a3, a4, by rw [e1]; exact a5, by rw [e1]; exact a6⟩
theorem ROk.num {g pc : Nat → Nat} {z : Nat} {ρ : List Nat} {i : Nat} (h : g z = 0) : ROk g pc true (.num 0) z [pc z] ρ i i := ⟨rfl, h, rfl, Nat.le_refl _, fun x hx => (by simp [Idl] at hx), List.nodup_nil⟩
theorem ROk.nil {g pc : Nat → Nat} {z : Nat} {ρ : List Nat} {i : Nat} : ROk g pc false (.var 0) z [] ρ i i := ⟨rfl, trivial, rfl, Nat.le_refl _, fun x hx => (by simp [Idl] at hx), List.nodup_nil⟩
theorem ROk.app {g pc : Nat → Nat} {a : Ex} {z h : Nat} {pl ρ : List Nat} {i i' : Nat} (q : ROk g pc false a (z + 3) pl ρ i i') (h1 : g z = 3) (h2 : g (z + 1) = hdR ρ h) (h3 : g (z + 2) = nar a) : ROk g pc true (.pow a h) z (pc z :: pl) ρ i i' := by
  obtain ⟨a1, a2, a3, a4, a5, a6⟩ := q
  exact ⟨a1, ⟨h1, h2, h3, a2⟩, by simp only [plR]; rw [a3], a4, a5, a6⟩
theorem nodup_app {a b : List Nat} {i j k : Nat} (h1 : ∀ x, x ∈ a → i ≤ x ∧ x < j) (h2 : ∀ x, x ∈ b → j ≤ x ∧ x < k) (n1 : a.Nodup) (n2 : b.Nodup) : (a ++ b).Nodup := by
  rw [List.nodup_append]
  refine ⟨n1, n2, fun x hx y hy e => ?_⟩
  have := h1 x hx
  have := h2 y hy
  omega
theorem ROk.cons {g pc : Nat → Nat} {a r : Ex} {z : Nat} {pl pr ρ : List Nat} {i j k : Nat} (q : ROk g pc true a z pl ρ i j) (q2 : ROk g pc false r (z + rsz a) pr ρ j k) : ROk g pc false (.add a r) z (pl ++ pr) ρ i k := by
  obtain ⟨a1, a2, a3, a4, a5, a6⟩ := q
  obtain ⟨c1, c2, c3, c4, c5, c6⟩ := q2
  refine ⟨⟨a1, c1⟩, ⟨a2, c2⟩, by simp only [plR]; rw [a3, c3], by omega, fun x hx => ?_, nodup_app a5 c5 a6 c6⟩
  rcases List.mem_append.mp hx with y | y
  · have := a5 x y; omega
  · have := c5 x y; omega
theorem ROk.prod {g pc : Nat → Nat} {a c : Ex} {z : Nat} {pl pr ρ : List Nat} {i j k : Nat} (h1 : g z = 1) (h2 : g (z + 1) = i) (q : ROk g pc true a (z + 2) pl ρ (i + 1) j) (q2 : ROk g pc true c (z + 2 + rsz a) pr (ρ ++ [i]) j k) : ROk g pc true (.mul a c) z (pc z :: (pl ++ pr)) ρ i k := by
  obtain ⟨a1, a2, a3, a4, a5, a6⟩ := q
  obtain ⟨c1, c2, c3, c4, c5, c6⟩ := q2
  refine ⟨⟨a1, c1⟩, ⟨h1, a2, by rw [h2]; exact c2⟩, by simp only [plR]; rw [a3, c3], by omega, fun x hx => ?_, ?_⟩
  · simp only [Idl, List.mem_cons, List.mem_append] at hx
    rcases hx with y | y | y
    · omega
    · have := a5 x y; omega
    · have := c5 x y; omega
  · simp only [Idl]
    rw [List.nodup_cons]
    refine ⟨fun hx => ?_, nodup_app a5 c5 a6 c6⟩
    rcases List.mem_append.mp hx with y | y
    · have := a5 _ y; omega
    · have := c5 _ y; omega
theorem ROk.arrow {g pc : Nat → Nat} {a c : Ex} {z : Nat} {pl pr ρ : List Nat} {i j k : Nat} (h1 : g z = 1) (h2 : g (z + 1) = j) (q : ROk g pc true a (z + 2) pl ρ i j) (q2 : ROk g pc true c (z + 2 + rsz a) pr (ρ ++ [j]) (j + 1) k) : ROk g pc true (.mul a c) z (pc z :: (pl ++ pr)) ρ i k := by
  obtain ⟨a1, a2, a3, a4, a5, a6⟩ := q
  obtain ⟨c1, c2, c3, c4, c5, c6⟩ := q2
  refine ⟨⟨a1, c1⟩, ⟨h1, a2, by rw [h2]; exact c2⟩, by simp only [plR]; rw [a3, c3], by omega, fun x hx => ?_, ?_⟩
  · simp only [Idl, List.mem_cons, List.mem_append] at hx
    rcases hx with y | y | y
    · omega
    · have := a5 x y; omega
    · have := c5 x y; omega
  · simp only [Idl]
    rw [List.nodup_cons]
    refine ⟨fun hx => ?_, nodup_app (j := j) (k := k) a5 (fun x hx => by have := c5 x hx; omega) a6 c6⟩
    rcases List.mem_append.mp hx with y | y
    · have := a5 _ y; omega
    · have := c5 _ y; omega
theorem ROk.func {g pc : Nat → Nat} {a : Ex} {z : Nat} {pl ρ : List Nat} {i k : Nat} (h1 : g z = 2) (h2 : g (z + 1) = i) (q : ROk g pc true a (z + 2) pl (ρ ++ [i]) (i + 1) k) : ROk g pc true (.neg a) z (pc z :: pl) ρ i k := by
  obtain ⟨a1, a2, a3, a4, a5, a6⟩ := q
  refine ⟨a1, ⟨h1, by rw [h2]; exact a2⟩, by simp only [plR]; rw [a3], by omega, fun x hx => ?_, ?_⟩
  · simp only [Idl, List.mem_cons] at hx
    rcases hx with y | y
    · omega
    · have := a5 x y; omega
  · simp only [Idl]
    rw [List.nodup_cons]
    exact ⟨fun hx => by have := a5 _ hx; omega, a6⟩
theorem plR_head {pc : Nat → Nat} {e : Ex} {z : Nat} (h : wf true e) : (plR pc e z).headD 0 = pc z := by
  cases e <;> simp_all [wf, plR]
def Sf (b : Nat → Nat) (ln : Nat) (rcs : List Key) (mp : Nat) (Fn : PT → PSt → Prop) (Bd : Nat → Nat → Prop) (q : PSt) : Prop := ∃ n, Safe b ln rcs mp Fn Bd n q
section UB
variable {b : Nat → Nat} {ln : Nat} {rcs : List Key} {mp : Nat} {Fn : PT → PSt → Prop} {Bd : Nat → Nat → Prop} {nx en idn nd op lo sa k st nx1 : Nat} {wr pc : Nat → Nat} {ap : Option Nat} {fs : List Fr} {ss : List Sc}
theorem Sf_b (n : Nat) (ht : nxt b ln nx = (k, st, nx1)) (h : BegS b ln rcs Bd (Safe b ln rcs mp Fn Bd n) (k, st, nx1) wr pc en idn nd op lo fs ss) : Sf b ln rcs mp Fn Bd (nx, wr, pc, en, idn, nd, op, lo, sa, ap, 0, fs, ss) := ⟨n + 1, by simp only [Safe, RStp, if_true, ht]; exact h⟩
theorem Sf_g (n : Nat) (ht : nxt b ln nx = (k, st, nx1)) (hf : ¬ (fs = [] ∧ (k = 46 ∨ k = 61 ∧ mp = 1))) (h : GoS b rcs Bd (Safe b ln rcs mp Fn Bd n) (k, st, nx1) wr pc en idn nd op lo sa ap fs ss) : Sf b ln rcs mp Fn Bd (nx, wr, pc, en, idn, nd, op, lo, sa, ap, 1, fs, ss) := ⟨n + 1, by simp only [Safe, RStp, ht]; rw [if_neg (by decide), if_neg hf]; exact h⟩
theorem Sf_fin (ht : nxt b ln nx = (k, st, nx1)) (hf : k = 46 ∨ k = 61 ∧ mp = 1) (h : Fn (k, st, nx1) (nx, wr, pc, en, idn, nd, op, lo, sa, ap, 1, [], ss)) : Sf b ln rcs mp Fn Bd (nx, wr, pc, en, idn, nd, op, lo, sa, ap, 1, [], ss) := ⟨1, by simp only [Safe, RStp, ht]; rw [if_neg (by decide), if_pos ⟨trivial, hf⟩]; exact h⟩
theorem ub_name {h : Nat} (ht : nxt b ln nx = (k, st, nx1)) (hk : k = 1) (hm : rmean rcs ss (frR b st nx1, bkR b st nx1) = some h) (hn : ¬ 300 ≤ nd) (q : Sf b ln rcs mp Fn Bd (nx1, putH wr en h, putP pc en st, en + 3, idn, nd + 1, op, lo, en, some en, 1, fs, ss)) : Sf b ln rcs mp Fn Bd (nx, wr, pc, en, idn, nd, op, lo, sa, ap, 0, fs, ss) := by
  obtain ⟨n, q⟩ := q
  refine Sf_b n ht ?_
  simp only [BegS, hm]
  rwa [if_pos hk, if_neg hn]
theorem ub_name3 (ht : nxt b ln nx = (k, st, nx1)) (hk : k = 1) (hm : rmean rcs ss (frR b st nx1, bkR b st nx1) = none) (q : Bd 3 st) : Sf b ln rcs mp Fn Bd (nx, wr, pc, en, idn, nd, op, lo, sa, ap, 0, fs, ss) := by
  refine Sf_b 0 ht ?_
  simp only [BegS, hm]
  rwa [if_pos hk]
theorem ub_name5 {h : Nat} (ht : nxt b ln nx = (k, st, nx1)) (hk : k = 1) (hm : rmean rcs ss (frR b st nx1, bkR b st nx1) = some h) (hn : 300 ≤ nd) (q : Bd 5 st) : Sf b ln rcs mp Fn Bd (nx, wr, pc, en, idn, nd, op, lo, sa, ap, 0, fs, ss) := by
  refine Sf_b 0 ht ?_
  simp only [BegS, hm]
  rwa [if_pos hk, if_pos hn]
theorem ub_type (ht : nxt b ln nx = (k, st, nx1)) (hk : k = 2) (hn : ¬ 300 ≤ nd) (q : Sf b ln rcs mp Fn Bd (nx1, updN wr en 0, updN pc en st, en + 1, idn, nd + 1, op, lo, en, none, 1, fs, ss)) : Sf b ln rcs mp Fn Bd (nx, wr, pc, en, idn, nd, op, lo, sa, ap, 0, fs, ss) := by
  obtain ⟨n, q⟩ := q
  refine Sf_b n ht ?_
  simp only [BegS]
  rwa [if_neg (by omega), if_pos hk, if_neg hn]
theorem ub_type5 (ht : nxt b ln nx = (k, st, nx1)) (hk : k = 2) (hn : 300 ≤ nd) (q : Bd 5 st) : Sf b ln rcs mp Fn Bd (nx, wr, pc, en, idn, nd, op, lo, sa, ap, 0, fs, ss) := by
  refine Sf_b 0 ht ?_
  simp only [BegS]
  rwa [if_neg (by omega), if_pos hk, if_pos hn]
theorem ub_par (ht : nxt b ln nx = (k, st, nx1)) (hk : k = 40) (hn : ¬ 40 ≤ op) (q : Sf b ln rcs mp Fn Bd (nx1, wr, pc, en, idn, nd, op + 1, 0, en, none, 0, (1, en, none, lo, ss, 0, 0, 0) :: fs, ss)) : Sf b ln rcs mp Fn Bd (nx, wr, pc, en, idn, nd, op, lo, sa, ap, 0, fs, ss) := by
  obtain ⟨n, q⟩ := q
  refine Sf_b n ht ?_
  simp only [BegS]
  rwa [if_neg (by omega), if_neg (by omega), if_pos hk, if_neg hn]
theorem ub_par5 (ht : nxt b ln nx = (k, st, nx1)) (hk : k = 40) (hn : 40 ≤ op) (q : Bd 5 st) : Sf b ln rcs mp Fn Bd (nx, wr, pc, en, idn, nd, op, lo, sa, ap, 0, fs, ss) := by
  refine Sf_b 0 ht ?_
  simp only [BegS]
  rwa [if_neg (by omega), if_neg (by omega), if_pos hk, if_pos hn]
theorem ub_prod (ht : nxt b ln nx = (k, st, nx1)) (hk : k = 123) (hn : ¬ (40 ≤ op ∨ 300 ≤ nd)) (q : ∃ n, tak b ln nx1 1 Bd fun st1 n1 => tak b ln n1 58 Bd fun _ n2 => Safe b ln rcs mp Fn Bd n (n2, put2 wr en 1 idn, put2 pc en st st, en + 2, idn + 1, nd + 1, op + 1, 0, en, none, 0, (3, en, none, lo + 1, ss, idn, frR b st1 n1, bkR b st1 n1) :: fs, ss)) : Sf b ln rcs mp Fn Bd (nx, wr, pc, en, idn, nd, op, lo, sa, ap, 0, fs, ss) := by
  obtain ⟨n, q⟩ := q
  refine Sf_b n ht ?_
  simp only [BegS]
  rwa [if_neg (by omega), if_neg (by omega), if_neg (by omega), if_pos hk, if_neg (by omega)]
theorem ub_prod5 (ht : nxt b ln nx = (k, st, nx1)) (hk : k = 123) (hn : 40 ≤ op ∨ 300 ≤ nd) (q : Bd 5 st) : Sf b ln rcs mp Fn Bd (nx, wr, pc, en, idn, nd, op, lo, sa, ap, 0, fs, ss) := by
  refine Sf_b 0 ht ?_
  simp only [BegS]
  rwa [if_neg (by omega), if_neg (by omega), if_neg (by omega), if_pos hk, if_pos (by omega)]
theorem ub_fun (ht : nxt b ln nx = (k, st, nx1)) (hk : k = 91) (hn : ¬ (40 ≤ op ∨ 300 ≤ nd)) (q : ∃ n, tak b ln nx1 1 Bd fun st1 n1 => tak b ln n1 93 Bd fun _ n2 => Safe b ln rcs mp Fn Bd n (n2, put2 wr en 2 idn, put2 pc en st st, en + 2, idn + 1, nd + 1, op + 1, lo + 1, en, none, 0, fs, (frR b st1 n1, bkR b st1 n1, idn) :: ss)) : Sf b ln rcs mp Fn Bd (nx, wr, pc, en, idn, nd, op, lo, sa, ap, 0, fs, ss) := by
  obtain ⟨n, q⟩ := q
  refine Sf_b n ht ?_
  simp only [BegS]
  rwa [if_neg (by omega), if_neg (by omega), if_neg (by omega), if_neg (by omega), if_pos hk, if_neg (by omega)]
theorem ub_fun5 (ht : nxt b ln nx = (k, st, nx1)) (hk : k = 91) (hn : 40 ≤ op ∨ 300 ≤ nd) (q : Bd 5 st) : Sf b ln rcs mp Fn Bd (nx, wr, pc, en, idn, nd, op, lo, sa, ap, 0, fs, ss) := by
  refine Sf_b 0 ht ?_
  simp only [BegS]
  rwa [if_neg (by omega), if_neg (by omega), if_neg (by omega), if_neg (by omega), if_pos hk, if_pos (by omega)]
theorem ub_bad (ht : nxt b ln nx = (k, st, nx1)) (hk : k ≠ 1 ∧ k ≠ 2 ∧ k ≠ 40 ∧ k ≠ 123 ∧ k ≠ 91) (q : Bd (if k = 4 then 1 else 2) st) : Sf b ln rcs mp Fn Bd (nx, wr, pc, en, idn, nd, op, lo, sa, ap, 0, fs, ss) := by
  refine Sf_b 0 ht ?_
  simp only [BegS]
  rwa [if_neg (by omega), if_neg (by omega), if_neg (by omega), if_neg (by omega), if_neg (by omega)]
theorem ug_par {hp : Nat} (ht : nxt b ln nx = (k, st, nx1)) (hk : k = 40) (ho : ¬ 40 ≤ op) (q : Sf b ln rcs mp Fn Bd (nx1, incA wr hp, pc, en, idn, nd, op + 1, 0, sa, some hp, 0, (2, sa, some hp, lo, ss, 0, 0, 0) :: fs, ss)) : Sf b ln rcs mp Fn Bd (nx, wr, pc, en, idn, nd, op, lo, sa, some hp, 1, fs, ss) := by
  obtain ⟨n, q⟩ := q
  refine Sf_g n ht (by omega) ?_
  simp only [GoS]
  rwa [if_pos (by omega), if_pos hk, if_neg ho]
theorem ug_par5 {hp : Nat} (ht : nxt b ln nx = (k, st, nx1)) (hk : k = 40) (ho : 40 ≤ op) (q : Bd 5 st) : Sf b ln rcs mp Fn Bd (nx, wr, pc, en, idn, nd, op, lo, sa, some hp, 1, fs, ss) := by
  refine Sf_g 0 ht (by omega) ?_
  simp only [GoS]
  rwa [if_pos (by omega), if_pos hk, if_pos ho]
theorem ug_name {hp h : Nat} (ht : nxt b ln nx = (k, st, nx1)) (hk : k = 1) (hm : rmean rcs ss (frR b st nx1, bkR b st nx1) = some h) (hn : ¬ 300 ≤ nd) (q : Sf b ln rcs mp Fn Bd (nx1, incA (putH wr en h) hp, putP pc en st, en + 3, idn, nd + 1, op, lo, sa, some hp, 1, fs, ss)) : Sf b ln rcs mp Fn Bd (nx, wr, pc, en, idn, nd, op, lo, sa, some hp, 1, fs, ss) := by
  obtain ⟨n, q⟩ := q
  refine Sf_g n ht (by omega) ?_
  simp only [GoS, hm]
  rwa [if_pos (by omega), if_neg (by omega), if_pos hk, if_neg hn]
theorem ug_name3 {hp : Nat} (ht : nxt b ln nx = (k, st, nx1)) (hk : k = 1) (hm : rmean rcs ss (frR b st nx1, bkR b st nx1) = none) (q : Bd 3 st) : Sf b ln rcs mp Fn Bd (nx, wr, pc, en, idn, nd, op, lo, sa, some hp, 1, fs, ss) := by
  refine Sf_g 0 ht (by omega) ?_
  simp only [GoS, hm]
  rwa [if_pos (by omega), if_neg (by omega), if_pos hk]
theorem ug_name5 {hp h : Nat} (ht : nxt b ln nx = (k, st, nx1)) (hk : k = 1) (hm : rmean rcs ss (frR b st nx1, bkR b st nx1) = some h) (hn : 300 ≤ nd) (q : Bd 5 st) : Sf b ln rcs mp Fn Bd (nx, wr, pc, en, idn, nd, op, lo, sa, some hp, 1, fs, ss) := by
  refine Sf_g 0 ht (by omega) ?_
  simp only [GoS, hm]
  rwa [if_pos (by omega), if_neg (by omega), if_pos hk, if_pos hn]
theorem ug_type {hp : Nat} (ht : nxt b ln nx = (k, st, nx1)) (hk : k = 2) (hn : ¬ 300 ≤ nd) (q : Sf b ln rcs mp Fn Bd (nx1, incA (updN wr en 0) hp, updN pc en st, en + 1, idn, nd + 1, op, lo, sa, some hp, 1, fs, ss)) : Sf b ln rcs mp Fn Bd (nx, wr, pc, en, idn, nd, op, lo, sa, some hp, 1, fs, ss) := by
  obtain ⟨n, q⟩ := q
  refine Sf_g n ht (by omega) ?_
  simp only [GoS]
  rwa [if_pos (by omega), if_neg (by omega), if_neg (by omega), if_neg hn]
theorem ug_type5 {hp : Nat} (ht : nxt b ln nx = (k, st, nx1)) (hk : k = 2) (hn : 300 ≤ nd) (q : Bd 5 st) : Sf b ln rcs mp Fn Bd (nx, wr, pc, en, idn, nd, op, lo, sa, some hp, 1, fs, ss) := by
  refine Sf_g 0 ht (by omega) ?_
  simp only [GoS]
  rwa [if_pos (by omega), if_neg (by omega), if_neg (by omega), if_pos hn]
theorem ug_arr (ht : nxt b ln nx = (k, st, nx1)) (hk : k = 3) (hn : ¬ (40 ≤ op ∨ 300 ≤ nd)) (q : Sf b ln rcs mp Fn Bd (nx1, put2 (shf wr sa en) sa 1 idn, shf pc sa en, en + 2, idn + 1, nd + 1, op + 1, lo + 1, sa, ap, 0, fs, ss)) : Sf b ln rcs mp Fn Bd (nx, wr, pc, en, idn, nd, op, lo, sa, ap, 1, fs, ss) := by
  obtain ⟨n, q⟩ := q
  refine Sf_g n ht (by omega) ?_
  simp only [GoS]
  rwa [if_neg (by omega), if_pos hk, if_neg (by omega)]
theorem ug_arr5 (ht : nxt b ln nx = (k, st, nx1)) (hk : k = 3) (hn : 40 ≤ op ∨ 300 ≤ nd) (q : Bd 5 st) : Sf b ln rcs mp Fn Bd (nx, wr, pc, en, idn, nd, op, lo, sa, ap, 1, fs, ss) := by
  refine Sf_g 0 ht (by omega) ?_
  simp only [GoS]
  rwa [if_neg (by omega), if_pos hk, if_pos (by omega)]
theorem ug_clo {kd s0 h0 : Nat} {a0 : Option Nat} {s1 : List Sc} {z : Nat × Int64 × Int64} (ht : nxt b ln nx = (k, st, nx1)) (hk : k = 41) (h3 : kd ≠ 3) (q : Sf b ln rcs mp Fn Bd (nx1, wr, pc, en, idn, nd, op - lo - 1, h0, s0, if kd = 1 then none else a0, 1, fs, s1)) : Sf b ln rcs mp Fn Bd (nx, wr, pc, en, idn, nd, op, lo, sa, ap, 1, (kd, s0, a0, h0, s1, z) :: fs, ss) := by
  obtain ⟨n, q⟩ := q
  refine Sf_g n ht (by omega) ?_
  simp only [GoS]
  rwa [if_neg (by omega), if_neg (by omega), if_pos hk, if_neg h3]
theorem ug_bra {s0 h0 i1 : Nat} {a0 : Option Nat} {s1 : List Sc} {x y : Int64} (ht : nxt b ln nx = (k, st, nx1)) (hk : k = 125) (q : Sf b ln rcs mp Fn Bd (nx1, wr, pc, en, idn, nd, op - lo, h0, s0, a0, 0, fs, (x, y, i1) :: s1)) : Sf b ln rcs mp Fn Bd (nx, wr, pc, en, idn, nd, op, lo, sa, ap, 1, (3, s0, a0, h0, s1, i1, x, y) :: fs, ss) := by
  obtain ⟨n, q⟩ := q
  refine Sf_g n ht (by omega) ?_
  simp only [GoS]
  rwa [if_neg (by omega), if_neg (by omega), if_neg (by omega), if_pos hk, if_neg (by decide)]
theorem ug_bad4 (ht : nxt b ln nx = (k, st, nx1)) (hk : k = 4) (q : Bd 1 st) : Sf b ln rcs mp Fn Bd (nx, wr, pc, en, idn, nd, op, lo, sa, ap, 1, fs, ss) := by
  refine Sf_g 0 ht (by omega) ?_
  simp only [GoS]
  rwa [if_neg (by omega), if_neg (by omega), if_neg (by omega), if_neg (by omega), if_pos hk]
/-- the kind of the level that is open -/
def topK : List Fr → Nat
  | [] => 0
  | f :: _ => f.1
theorem ug_stuck (ht : nxt b ln nx = (k, st, nx1)) (hf : ¬ (fs = [] ∧ (k = 46 ∨ k = 61 ∧ mp = 1))) (h3 : k ≠ 3) (h4 : k ≠ 4) (ha : ∀ hp, ap = some hp → ¬ (k = 1 ∨ k = 2 ∨ k = 40)) (hc : k = 41 → fs = [] ∨ topK fs = 3) (hr : k = 125 → topK fs ≠ 3) (q : Bd 2 st) : Sf b ln rcs mp Fn Bd (nx, wr, pc, en, idn, nd, op, lo, sa, ap, 1, fs, ss) := by
  refine Sf_g 0 ht hf ?_
  simp only [GoS]
  by_cases c1 : k = 1 ∨ k = 2 ∨ k = 40
  · rw [if_pos c1]
    cases ap with
    | none => exact q
    | some hp => exact absurd c1 (ha hp rfl)
  · rw [if_neg c1, if_neg h3]
    by_cases c2 : k = 41
    · rw [if_pos c2]
      cases fs with
      | nil => exact q
      | cons f r =>
        obtain ⟨kd, s0, a0, h0, s1, z⟩ := f
        simp only
        rcases hc c2 with e | e
        · cases e
        · rwa [if_pos (show kd = 3 from e)]
    · rw [if_neg c2]
      by_cases c3 : k = 125
      · rw [if_pos c3]
        cases fs with
        | nil => exact q
        | cons f r =>
          obtain ⟨kd, s0, a0, h0, s1, i1, x, y⟩ := f
          simp only
          rwa [if_pos (show kd ≠ 3 from hr c3)]
      · rw [if_neg c3, if_neg h4]; exact q
end UB
