/-! expressions as trees: TYPE is .num 0; a product of a and b .mul a b; a function with the part a .neg a; an application of the head k (a constant below 48, else 48 and a variable's level) to the arguments a .pow a k; arguments: .add a r (first and rest), .var 0 (none) -/
abbrev Ex : Type := Lean.Grind.CommRing.Expr
/-- nodes -/
def nsz : Ex → Nat
  | .num _ => 1
  | .mul a b => 1 + nsz a + nsz b
  | .neg a => 1 + nsz a
  | .pow a _ => 1 + nsz a
  | .add a b => nsz a + nsz b
  | _ => 0
/-- how many arguments -/
def nar : Ex → Nat
  | .add _ b => 1 + nar b
  | _ => 0
/-- true: an expression, false: arguments -/
def wf : Bool → Ex → Prop
  | true, .num k => k = 0
  | true, .mul a b => wf true a ∧ wf true b
  | true, .neg a => wf true a
  | true, .pow a _ => wf false a
  | false, .add a b => wf true a ∧ wf false b
  | false, .var i => i = 0
  | _, _ => False
/-- the rows of nodes hold e at z, on the level L -/
def Rows (hd : Nat → Int32) (ar sz lv : Nat → Nat) : Ex → Nat → Nat → Prop
  | .num _, z, L => hd z = -2 ∧ ar z = 0 ∧ sz z = 1 ∧ lv z = L
  | .mul a b, z, L => hd z = -3 ∧ ar z = 2 ∧ sz z = 1 + nsz a + nsz b ∧ lv z = L ∧ Rows hd ar sz lv a (z + 1) L ∧ Rows hd ar sz lv b (z + 1 + nsz a) (L + 1)
  | .neg a, z, L => hd z = -4 ∧ ar z = 1 ∧ sz z = 1 + nsz a ∧ lv z = L ∧ Rows hd ar sz lv a (z + 1) (L + 1)
  | .pow a k, z, L => hd z = nI k ∧ ar z = nar a ∧ sz z = 1 + nsz a ∧ lv z = L ∧ Rows hd ar sz lv a (z + 1) L
  | .add a b, z, L => Rows hd ar sz lv a z L ∧ Rows hd ar sz lv b (z + nsz a) L
  | _, _, _ => True
theorem Rows.congr {hd hd' : Nat → Int32} {ar ar' sz sz' lv lv' : Nat → Nat} : ∀ (e : Ex) (z L : Nat), (∀ j, z ≤ j → j < z + nsz e → hd' j = hd j ∧ ar' j = ar j ∧ sz' j = sz j ∧ lv' j = lv j) → Rows hd ar sz lv e z L → Rows hd' ar' sz' lv' e z L := by
  intro e
  induction e with
  | num k => intro z L h ⟨h1, h2, h3, h4⟩; obtain ⟨e1, e2, e3, e4⟩ := h z (Nat.le_refl _) (by simp [nsz]); exact ⟨e1.trans h1, e2.trans h2, e3.trans h3, e4.trans h4⟩
  | natCast k => intros; trivial
  | intCast k => intros; trivial
  | var i => intros; trivial
  | sub a b => intros; trivial
  | neg a ih =>
    intro z L h ⟨h1, h2, h3, h4, h5⟩
    simp only [nsz] at h
    obtain ⟨e1, e2, e3, e4⟩ := h z (Nat.le_refl _) (by omega)
    exact ⟨e1.trans h1, e2.trans h2, e3.trans h3, e4.trans h4, ih _ _ (fun j a b => h j (by omega) (by omega)) h5⟩
  | pow a k ih =>
    intro z L h ⟨h1, h2, h3, h4, h5⟩
    simp only [nsz] at h
    obtain ⟨e1, e2, e3, e4⟩ := h z (Nat.le_refl _) (by omega)
    exact ⟨e1.trans h1, e2.trans h2, e3.trans h3, e4.trans h4, ih _ _ (fun j a b => h j (by omega) (by omega)) h5⟩
  | mul a b iha ihb =>
    intro z L h ⟨h1, h2, h3, h4, h5, h6⟩
    simp only [nsz] at h
    obtain ⟨e1, e2, e3, e4⟩ := h z (Nat.le_refl _) (by omega)
    exact ⟨e1.trans h1, e2.trans h2, e3.trans h3, e4.trans h4, iha _ _ (fun j a b => h j (by omega) (by omega)) h5, ihb _ _ (fun j a b => h j (by omega) (by omega)) h6⟩
  | add a b iha ihb =>
    intro z L h ⟨h5, h6⟩
    simp only [nsz] at h
    exact ⟨iha _ _ (fun j a b => h j (by omega) (by omega)) h5, ihb _ _ (fun j a b => h j (by omega) (by omega)) h6⟩
theorem nsz_pos {e : Ex} (h : wf true e) : 0 < nsz e := by
  cases e <;> simp_all [wf, nsz] <;> omega
theorem Rows.size {hd : Nat → Int32} {ar sz lv : Nat → Nat} {e : Ex} (hw : wf true e) {z L : Nat} (h : Rows hd ar sz lv e z L) : sz z = nsz e ∧ lv z = L := by
  cases e <;> simp_all [wf, Rows, nsz]
/-- the same rows elsewhere -/
theorem Rows.shift {hd hd' : Nat → Int32} {ar ar' sz sz' lv lv' : Nat → Nat} : ∀ (e : Ex) (z z' L : Nat), (∀ j, j < nsz e → hd' (z' + j) = hd (z + j) ∧ ar' (z' + j) = ar (z + j) ∧ sz' (z' + j) = sz (z + j) ∧ lv' (z' + j) = lv (z + j)) → Rows hd ar sz lv e z L → Rows hd' ar' sz' lv' e z' L := by
  intro e
  induction e with
  | num k => intro z z' L h ⟨h1, h2, h3, h4⟩; obtain ⟨e1, e2, e3, e4⟩ := h 0 (by simp [nsz]); exact ⟨e1.trans h1, e2.trans h2, e3.trans h3, e4.trans h4⟩
  | natCast k => intros; trivial
  | intCast k => intros; trivial
  | var i => intros; trivial
  | sub a b => intros; trivial
  | neg a ih =>
    intro z z' L h ⟨h1, h2, h3, h4, h5⟩
    simp only [nsz] at h
    obtain ⟨e1, e2, e3, e4⟩ := h 0 (by omega)
    refine ⟨e1.trans h1, e2.trans h2, e3.trans h3, e4.trans h4, ih (z + 1) (z' + 1) _ (fun j a => ?_) h5⟩
    have := h (1 + j) (by omega)
    rw [show z' + (1 + j) = z' + 1 + j by omega, show z + (1 + j) = z + 1 + j by omega] at this
    exact this
  | pow a k ih =>
    intro z z' L h ⟨h1, h2, h3, h4, h5⟩
    simp only [nsz] at h
    obtain ⟨e1, e2, e3, e4⟩ := h 0 (by omega)
    refine ⟨e1.trans h1, e2.trans h2, e3.trans h3, e4.trans h4, ih (z + 1) (z' + 1) _ (fun j a => ?_) h5⟩
    have := h (1 + j) (by omega)
    rw [show z' + (1 + j) = z' + 1 + j by omega, show z + (1 + j) = z + 1 + j by omega] at this
    exact this
  | mul a b iha ihb =>
    intro z z' L h ⟨h1, h2, h3, h4, h5, h6⟩
    simp only [nsz] at h
    obtain ⟨e1, e2, e3, e4⟩ := h 0 (by omega)
    refine ⟨e1.trans h1, e2.trans h2, e3.trans h3, e4.trans h4, iha (z + 1) (z' + 1) _ (fun j a => ?_) h5, ihb (z + 1 + nsz a) (z' + 1 + nsz a) _ (fun j q => ?_) h6⟩
    · have := h (1 + j) (by omega)
      rw [show z' + (1 + j) = z' + 1 + j by omega, show z + (1 + j) = z + 1 + j by omega] at this
      exact this
    · have := h (1 + nsz a + j) (by omega)
      rw [show z' + (1 + nsz a + j) = z' + 1 + nsz a + j by omega, show z + (1 + nsz a + j) = z + 1 + nsz a + j by omega] at this
      exact this
  | add a b iha ihb =>
    intro z z' L h ⟨h5, h6⟩
    simp only [nsz] at h
    refine ⟨iha z z' _ (fun j a => h j (by omega)) h5, ihb (z + nsz a) (z' + nsz a) _ (fun j q => ?_) h6⟩
    have := h (nsz a + j) (by omega)
    rw [show z' + (nsz a + j) = z' + nsz a + j by omega, show z + (nsz a + j) = z + nsz a + j by omega] at this
    exact this
theorem nI_tag {k : Nat} (h : k < 2 ^ 31) : ¬ nI k = -2 ∧ ¬ nI k = -3 ∧ ¬ nI k = -4 := by
  have e := nI_toInt h
  refine ⟨fun q => ?_, fun q => ?_, fun q => ?_⟩ <;> (rw [q] at e; revert e; first | (show (-2 : Int) = k → False; omega) | (show (-3 : Int) = k → False; omega) | (show (-4 : Int) = k → False; omega))
/-- all heads are small -/
def hds (M : Nat) : Ex → Prop
  | .mul a b => hds M a ∧ hds M b
  | .neg a => hds M a
  | .pow a k => k < M ∧ hds M a
  | .add a b => hds M a ∧ hds M b
  | _ => True
/-- how many products lie one in the other's second part -/
def prods : Ex → Nat
  | .mul _ b => 1 + prods b
  | _ => 0
/-- what stands behind all products -/
def endE : Ex → Ex
  | .mul _ b => endE b
  | e => e
/-- where it stands, from the beginning of e on -/
def endO : Ex → Nat
  | .mul a b => 1 + nsz a + endO b
  | _ => 0
def isMul : Ex → Bool
  | .mul _ _ => true
  | _ => false
/-- the order of a kind or type whose first parts have the order 0 or 1 -/
def ordE : Ex → Nat
  | .mul a b => max (if isMul a then 2 else 1) (ordE b)
  | _ => 0
theorem Rows.mul_iff {hd : Nat → Int32} {ar sz lv : Nat → Nat} {e : Ex} (hw : wf true e) (hh : hds (2 ^ 31) e) {z L : Nat} (h : Rows hd ar sz lv e z L) : hd z = -3 ↔ isMul e = true := by
  cases e with
  | num k => simp [Rows] at h; simp [h.1, isMul]
  | mul a b => simp [Rows] at h; simp [h.1, isMul]
  | neg a => simp [Rows] at h; simp [h.1, isMul]
  | pow a k => simp [Rows] at h; simp [h.1, isMul]; exact (nI_tag hh.1).2.1
  | add a b => exact absurd hw (by simp [wf])
  | _ => exact absurd hw (by simp [wf])
