/-! the reference's parser as steps: a scope entry (name, name, id), a level (kind, start, app, levelOpens, scope, id, name, name) -/
abbrev Sc : Type := Int64 × Int64 × Nat
abbrev Fr : Type := Nat × Nat × Option Nat × Nat × List Sc × Nat × Int64 × Int64
def apI : Option Nat → Int32
  | none => -1
  | some h => nI h
def ScR (sF sS : Nat → Int64) (sid : Nat → Nat) : List Sc → Prop
  | [] => True
  | (x, y, i) :: r => sF r.length = x ∧ sS r.length = y ∧ sid r.length = i ∧ ScR sF sS sid r
def LvR (lk l0 lh lsc lid : Nat → Nat) (la : Nat → Int32) (lF lS : Nat → Int64) : List Fr → List Sc → Prop
  | [], _ => True
  | (kd, s0, a0, h0, s1, i0, x, y) :: r, ss => lk r.length = kd ∧ l0 r.length = s0 ∧ la r.length = apI a0 ∧ lh r.length = h0 ∧ lsc r.length = s1.length ∧ (kd = 3 → lid r.length = i0 ∧ lF r.length = x ∧ lS r.length = y) ∧ s1 <:+ ss ∧ kd ≤ 3 ∧ LvR lk l0 lh lsc lid la lF lS r s1
def sumF : List Fr → Nat
  | [] => 0
  | (kd, _, _, h0, _) :: r => h0 + (if kd = 3 then 0 else 1) + sumF r
def FrI (en : Nat) : List Fr → Prop
  | [] => True
  | (kd, s0, a0, h0, s1, _) :: r => s1.length + (if kd = 3 then 1 else 0) ≤ h0 + sumF r ∧ (∀ hp, a0 = some hp → hp + 2 < en) ∧ s0 ≤ en ∧ (kd = 3 → 0 < h0) ∧ FrI en r
theorem FrI.mono {en en' : Nat} (h : en ≤ en') : ∀ {fs : List Fr}, FrI en fs → FrI en' fs := by
  intro fs
  induction fs with
  | nil => intro _; trivial
  | cons f r ih =>
    obtain ⟨kd, s0, a0, h0, s1, q⟩ := f
    intro ⟨a, b, c, d, e⟩
    exact ⟨a, fun hp hq => Nat.lt_of_lt_of_le (b hp hq) h, Nat.le_trans c h, d, ih e⟩
theorem FrI.le {en : Nat} : ∀ {fs : List Fr}, FrI en fs → fs.length ≤ sumF fs := by
  intro fs
  induction fs with
  | nil => intro _; exact Nat.le_refl _
  | cons f r ih =>
    obtain ⟨kd, s0, a0, h0, s1, q⟩ := f
    intro ⟨a, b, c, d, e⟩
    have := ih e
    simp only [List.length_cons, sumF]
    by_cases k3 : kd = 3
    · have := d k3; rw [if_pos k3]; omega
    · rw [if_neg k3]; omega
theorem ScR.suf {sF sS : Nat → Int64} {sid : Nat → Nat} {s1 ss : List Sc} (h : s1 <:+ ss) (q : ScR sF sS sid ss) : ScR sF sS sid s1 := by
  obtain ⟨t, rfl⟩ := h
  induction t with
  | nil => exact q
  | cons c t ih => exact ih q.2.2.2
theorem ScR.cg {sF sS sF' sS' : Nat → Int64} {sid sid' : Nat → Nat} : ∀ {ss : List Sc}, (∀ j, j < ss.length → sF' j = sF j ∧ sS' j = sS j ∧ sid' j = sid j) → ScR sF sS sid ss → ScR sF' sS' sid' ss := by
  intro ss
  induction ss with
  | nil => intro _ _; trivial
  | cons c r ih =>
    obtain ⟨x, y, i⟩ := c
    intro h ⟨a, b, d, e⟩
    obtain ⟨e1, e2, e3⟩ := h r.length (by simp)
    exact ⟨e1.trans a, e2.trans b, e3.trans d, ih (fun j hj => h j (by simp; omega)) e⟩
theorem ScR.push {sF sS : Nat → Int64} {sid : Nat → Nat} {ss : List Sc} (h : ScR sF sS sid ss) {n : Nat} (hn : n = ss.length) (x y : Int64) (i : Nat) : ScR (vp_updL sF n x) (vp_updL sS n y) (updN sid n i) ((x, y, i) :: ss) := by
  subst hn
  refine ⟨by simp [vp_updL], by simp [vp_updL], by simp [updN], ScR.cg (fun j hj => ?_) h⟩
  have ne : j ≠ ss.length := by omega
  exact ⟨by simp [vp_updL, ne], by simp [vp_updL, ne], updN_ne ne⟩
section LV
variable {lk l0 lh lsc lid lk' l0' lh' lsc' lid' : Nat → Nat} {la la' : Nat → Int32} {lF lS lF' lS' : Nat → Int64}
theorem LvR.cg : ∀ {fs : List Fr} {ss : List Sc}, (∀ j, j < fs.length → lk' j = lk j ∧ l0' j = l0 j ∧ lh' j = lh j ∧ lsc' j = lsc j ∧ lid' j = lid j ∧ la' j = la j ∧ lF' j = lF j ∧ lS' j = lS j) → LvR lk l0 lh lsc lid la lF lS fs ss → LvR lk' l0' lh' lsc' lid' la' lF' lS' fs ss := by
  intro fs
  induction fs with
  | nil => intro _ _ _; trivial
  | cons f r ih =>
    obtain ⟨kd, s0, a0, h0, s1, i0, x, y⟩ := f
    intro ss h ⟨a, b, c, d, e, g, k, m, n⟩
    obtain ⟨e1, e2, e3, e4, e5, e6, e7, e8⟩ := h r.length (by simp)
    exact ⟨e1.trans a, e2.trans b, e6.trans c, e3.trans d, e4.trans e, fun q => ⟨e5.trans (g q).1, e7.trans (g q).2.1, e8.trans (g q).2.2⟩, k, m, ih (fun j hj => h j (by simp; omega)) n⟩
theorem LvR.grow {fs : List Fr} {ss ss' : List Sc} (hs : ss <:+ ss') (h : LvR lk l0 lh lsc lid la lF lS fs ss) : LvR lk l0 lh lsc lid la lF lS fs ss' := by
  cases fs with
  | nil => trivial
  | cons f r =>
    obtain ⟨kd, s0, a0, h0, s1, i0, x, y⟩ := f
    obtain ⟨a, b, c, d, e, g, k, m, n⟩ := h
    exact ⟨a, b, c, d, e, g, k.trans hs, m, n⟩
theorem LvR.push {fs : List Fr} {ss : List Sc} (h : LvR lk l0 lh lsc lid la lF lS fs ss) {n sn : Nat} (hn : n = fs.length) (hs : sn = ss.length) {kd sa lo : Nat} {ap : Int32} {apo : Option Nat} (hk : kd < 3) (ha : ap = apI apo) : LvR (updN lk n kd) (updN l0 n sa) (updN lh n lo) (updN lsc n sn) lid (upd la n ap) lF lS ((kd, sa, apo, lo, ss, 0, 0, 0) :: fs) ss := by
  subst hn hs ha
  refine ⟨by simp [updN], by simp [updN], by simp [upd], by simp [updN], by simp [updN], fun q => by omega, List.suffix_refl _, by omega, LvR.cg (fun j hj => ?_) h⟩
  have ne : j ≠ fs.length := by omega
  exact ⟨updN_ne ne, updN_ne ne, updN_ne ne, updN_ne ne, rfl, by simp [upd, ne], rfl, rfl⟩
theorem LvR.push3 {fs : List Fr} {ss : List Sc} (h : LvR lk l0 lh lsc lid la lF lS fs ss) {n sn : Nat} (hn : n = fs.length) (hs : sn = ss.length) {sa lo i : Nat} {ap : Int32} {apo : Option Nat} (ha : ap = apI apo) (x y : Int64) : LvR (updN lk n 3) (updN l0 n sa) (updN lh n lo) (updN lsc n sn) (updN lid n i) (upd la n ap) (vp_updL lF n x) (vp_updL lS n y) ((3, sa, apo, lo, ss, i, x, y) :: fs) ss := by
  subst hn hs ha
  refine ⟨by simp [updN], by simp [updN], by simp [upd], by simp [updN], by simp [updN], fun _ => ⟨by simp [updN], by simp [vp_updL], by simp [vp_updL]⟩, List.suffix_refl _, by omega, LvR.cg (fun j hj => ?_) h⟩
  have ne : j ≠ fs.length := by omega
  exact ⟨updN_ne ne, updN_ne ne, updN_ne ne, updN_ne ne, updN_ne ne, by simp [upd, ne], by simp [vp_updL, ne], by simp [vp_updL, ne]⟩
end LV
/-- what a name is to the reference -/
def lkS (k : Key) : List Sc → Option Nat
  | [] => none
  | (x, y, i) :: r => if (x, y) = k then some i else lkS k r
def rmean (rcs : List Key) (ss : List Sc) (k : Key) : Option Nat := match lkS k ss with
  | some i => some (100 + i)
  | none => fkN rcs k rcs.length
theorem lkS_some {sF sS : Nat → Int64} {sid : Nat → Nat} {x y : Int64} {i : Nat} : ∀ {ss : List Sc}, ScR sF sS sid ss → i < ss.length → sF i = x → sS i = y → (∀ j, i < j → j < ss.length → ¬ (sF j = x ∧ sS j = y)) → lkS (x, y) ss = some (sid i) := by
  intro ss
  induction ss with
  | nil => intro _ h; exact absurd h (Nat.not_lt_zero _)
  | cons c r ih =>
    obtain ⟨a, b, d⟩ := c
    intro ⟨e1, e2, e3, e4⟩ hi hx hy hn
    rcases Nat.lt_or_ge i r.length with z | z
    · have nm : ¬ ((a, b) = (x, y)) := fun q => hn r.length z (by simp) (by rw [e1, e2]; exact ⟨congrArg Prod.fst q, congrArg Prod.snd q⟩)
      simp only [lkS]
      rw [if_neg nm]
      exact ih e4 z hx hy (fun j h1 h2 => hn j h1 (by simp; omega))
    · have : i = r.length := by simp at hi; omega
      subst this
      simp only [lkS]
      rw [if_pos (by rw [← e1, ← e2, hx, hy]), e3]
theorem lkS_none {sF sS : Nat → Int64} {sid : Nat → Nat} {x y : Int64} : ∀ {ss : List Sc}, ScR sF sS sid ss → (∀ j, j < ss.length → ¬ (sF j = x ∧ sS j = y)) → lkS (x, y) ss = none := by
  intro ss
  induction ss with
  | nil => intro _ _; rfl
  | cons c r ih =>
    obtain ⟨a, b, d⟩ := c
    intro ⟨e1, e2, e3, e4⟩ hn
    have nm : ¬ ((a, b) = (x, y)) := fun q => hn r.length (by simp) (by rw [e1, e2]; exact ⟨congrArg Prod.fst q, congrArg Prod.snd q⟩)
    simp only [lkS]
    rw [if_neg nm]
    exact ih e4 (fun j h => hn j (by simp; omega))
theorem rmean_some {rcs : List Key} {ss : List Sc} {fr bk sF sS : Nat → Int64} {sid : Nat → Nat} {cn sn : Nat} {x y : Int64} {h : Nat} (hs : ScR sF sS sid ss) (hn : sn = ss.length) (hc : KeyR rcs fr bk) (hcn : cn = rcs.length) (hm : RMean fr bk sF sS sid cn sn x y h) : rmean rcs ss (x, y) = some h := by
  subst hn hcn
  rcases hm with ⟨i, h1, h2, h3, h4, rfl⟩ | ⟨h0, h1, h2, h3, h4⟩
  · unfold rmean; rw [lkS_some hs h1 h2 h3 h4]
  · unfold rmean; rw [lkS_none hs h0]; exact fk_some hc _ (Nat.le_refl _) h1 h2 h3 h4
theorem rmean_none {rcs : List Key} {ss : List Sc} {fr bk sF sS : Nat → Int64} {sid : Nat → Nat} {cn sn : Nat} {x y : Int64} (hs : ScR sF sS sid ss) (hn : sn = ss.length) (hc : KeyR rcs fr bk) (hcn : cn = rcs.length) (hm : RNone fr bk sF sS cn sn x y) : rmean rcs ss (x, y) = none := by
  subst hn hcn
  unfold rmean
  rw [lkS_none hs hm.1]
  exact fk_none hc _ (Nat.le_refl _) hm.2
abbrev PSt : Type := Nat × (Nat → Nat) × (Nat → Nat) × Nat × Nat × Nat × Nat × Nat × Nat × Option Nat × Nat × List Fr × List Sc
/-- a token of kind w must come -/
noncomputable def tak (b : Nat → Nat) (ln z w : Nat) (Bd : Nat → Nat → Prop) (K : Nat → Nat → Prop) : Prop :=
  if (nxt b ln z).1 = w then K (nxt b ln z).2.1 (nxt b ln z).2.2 else Bd (if (nxt b ln z).1 = 4 then 1 else 2) (nxt b ln z).2.1
def putH (f : Nat → Nat) (en h : Nat) : Nat → Nat := updN (updN (updN f en 3) (en + 1) h) (en + 2) 0
def putP (f : Nat → Nat) (en st : Nat) : Nat → Nat := updN (updN (updN f en st) (en + 1) st) (en + 2) st
def put2 (f : Nat → Nat) (en c i : Nat) : Nat → Nat := updN (updN f en c) (en + 1) i
def incA (f : Nat → Nat) (hp : Nat) : Nat → Nat := updN f (hp + 2) (f (hp + 2) + 1)
noncomputable def BegS (b : Nat → Nat) (ln : Nat) (rcs : List Key) (Bd : Nat → Nat → Prop) (P : PSt → Prop) (t : PT) (wr pc : Nat → Nat) (en idn nd op lo : Nat) (fs : List Fr) (ss : List Sc) : Prop :=
  if t.1 = 1 then match rmean rcs ss (frR b t.2.1 t.2.2, bkR b t.2.1 t.2.2) with
    | none => Bd 3 t.2.1
    | some h => if 300 ≤ nd then Bd 5 t.2.1 else P (t.2.2, putH wr en h, putP pc en t.2.1, en + 3, idn, nd + 1, op, lo, en, some en, 1, fs, ss)
  else if t.1 = 2 then if 300 ≤ nd then Bd 5 t.2.1 else P (t.2.2, updN wr en 0, updN pc en t.2.1, en + 1, idn, nd + 1, op, lo, en, none, 1, fs, ss)
  else if t.1 = 40 then if 40 ≤ op then Bd 5 t.2.1 else P (t.2.2, wr, pc, en, idn, nd, op + 1, 0, en, none, 0, (1, en, none, lo, ss, 0, 0, 0) :: fs, ss)
  else if t.1 = 123 then if 300 ≤ nd ∨ 40 ≤ op then Bd 5 t.2.1 else tak b ln t.2.2 1 Bd fun st1 n1 => tak b ln n1 58 Bd fun _ n2 =>
    P (n2, put2 wr en 1 idn, put2 pc en t.2.1 t.2.1, en + 2, idn + 1, nd + 1, op + 1, 0, en, none, 0, (3, en, none, lo + 1, ss, idn, frR b st1 n1, bkR b st1 n1) :: fs, ss)
  else if t.1 = 91 then if 300 ≤ nd ∨ 40 ≤ op then Bd 5 t.2.1 else tak b ln t.2.2 1 Bd fun st1 n1 => tak b ln n1 93 Bd fun _ n2 =>
    P (n2, put2 wr en 2 idn, put2 pc en t.2.1 t.2.1, en + 2, idn + 1, nd + 1, op + 1, lo + 1, en, none, 0, fs, (frR b st1 n1, bkR b st1 n1, idn) :: ss)
  else Bd (if t.1 = 4 then 1 else 2) t.2.1
noncomputable def GoS (b : Nat → Nat) (rcs : List Key) (Bd : Nat → Nat → Prop) (P : PSt → Prop) (t : PT) (wr pc : Nat → Nat) (en idn nd op lo sa : Nat) (ap : Option Nat) (fs : List Fr) (ss : List Sc) : Prop :=
  if t.1 = 1 ∨ t.1 = 2 ∨ t.1 = 40 then match ap with
    | none => Bd 2 t.2.1
    | some hp =>
      if t.1 = 40 then if 40 ≤ op then Bd 5 t.2.1 else P (t.2.2, incA wr hp, pc, en, idn, nd, op + 1, 0, sa, some hp, 0, (2, sa, some hp, lo, ss, 0, 0, 0) :: fs, ss)
      else if t.1 = 1 then match rmean rcs ss (frR b t.2.1 t.2.2, bkR b t.2.1 t.2.2) with
        | none => Bd 3 t.2.1
        | some h => if 300 ≤ nd then Bd 5 t.2.1 else P (t.2.2, incA (putH wr en h) hp, putP pc en t.2.1, en + 3, idn, nd + 1, op, lo, sa, some hp, 1, fs, ss)
      else if 300 ≤ nd then Bd 5 t.2.1 else P (t.2.2, incA (updN wr en 0) hp, updN pc en t.2.1, en + 1, idn, nd + 1, op, lo, sa, some hp, 1, fs, ss)
  else if t.1 = 3 then if 300 ≤ nd ∨ 40 ≤ op then Bd 5 t.2.1 else P (t.2.2, put2 (shf wr sa en) sa 1 idn, shf pc sa en, en + 2, idn + 1, nd + 1, op + 1, lo + 1, sa, ap, 0, fs, ss)
  else if t.1 = 41 then match fs with
    | [] => Bd 2 t.2.1
    | (kd, s0, a0, h0, s1, _) :: r => if kd = 3 then Bd 2 t.2.1 else P (t.2.2, wr, pc, en, idn, nd, op - lo - 1, h0, s0, if kd = 1 then none else a0, 1, r, s1)
  else if t.1 = 125 then match fs with
    | [] => Bd 2 t.2.1
    | (kd, s0, a0, h0, s1, i0, x, y) :: r => if kd ≠ 3 then Bd 2 t.2.1 else P (t.2.2, wr, pc, en, idn, nd, op - lo, h0, s0, a0, 0, r, (x, y, i0) :: s1)
  else Bd (if t.1 = 4 then 1 else 2) t.2.1
noncomputable def RStp (b : Nat → Nat) (ln : Nat) (rcs : List Key) (mp : Nat) (Fn : PT → PSt → Prop) (Bd : Nat → Nat → Prop) (P : PSt → Prop) : PSt → Prop
  | (nx, wr, pc, en, idn, nd, op, lo, sa, ap, bh, fs, ss) =>
    if bh = 0 then BegS b ln rcs Bd P (nxt b ln nx) wr pc en idn nd op lo fs ss
    else if fs = [] ∧ ((nxt b ln nx).1 = 46 ∨ (nxt b ln nx).1 = 61 ∧ mp = 1) then Fn (nxt b ln nx) (nx, wr, pc, en, idn, nd, op, lo, sa, ap, bh, fs, ss)
    else GoS b rcs Bd P (nxt b ln nx) wr pc en idn nd op lo sa ap fs ss
noncomputable def Safe (b : Nat → Nat) (ln : Nat) (rcs : List Key) (mp : Nat) (Fn : PT → PSt → Prop) (Bd : Nat → Nat → Prop) : Nat → PSt → Prop
  | 0, _ => False
  | n + 1, q => RStp b ln rcs mp Fn Bd (Safe b ln rcs mp Fn Bd n) q
def Inv (i0 e0 : Nat) : PSt → Prop
  | (_, _, _, en, idn, nd, op, lo, sa, ap, bh, fs, ss) => nd ≤ 300 ∧ op ≤ 40 ∧ en ≤ e0 + 3 * nd ∧ idn ≤ i0 + nd ∧ (bh = 1 → sa ≤ en ∧ ∀ hp, ap = some hp → hp + 2 < en) ∧ op = lo + sumF fs ∧ ss.length ≤ op ∧ FrI en fs ∧ bh ≤ 1
