section IV
variable {i0 e0 nx en idn nd op lo sa nx1 bh : Nat} {wr pc wr1 pc1 : Nat → Nat} {ap : Option Nat} {fs : List Fr} {ss : List Sc}
theorem iv_name (h : Inv i0 e0 (nx, wr, pc, en, idn, nd, op, lo, sa, ap, bh, fs, ss)) (hn : nd < 300) : Inv i0 e0 (nx1, wr1, pc1, en + 3, idn, nd + 1, op, lo, en, some en, 1, fs, ss) := by
  obtain ⟨a1, a2, a3, a4, a5, a6, a7, a8, a9⟩ := h
  exact ⟨by omega, a2, by omega, by omega, fun _ => ⟨by omega, fun hp q => (by cases q; omega)⟩, a6, a7, a8.mono (by omega), by omega⟩
theorem iv_type (h : Inv i0 e0 (nx, wr, pc, en, idn, nd, op, lo, sa, ap, bh, fs, ss)) (hn : nd < 300) : Inv i0 e0 (nx1, wr1, pc1, en + 1, idn, nd + 1, op, lo, en, none, 1, fs, ss) := by
  obtain ⟨a1, a2, a3, a4, a5, a6, a7, a8, a9⟩ := h
  exact ⟨by omega, a2, by omega, by omega, fun _ => ⟨by omega, fun hp q => (by cases q)⟩, a6, a7, a8.mono (by omega), by omega⟩
theorem iv_par (h : Inv i0 e0 (nx, wr, pc, en, idn, nd, op, lo, sa, ap, bh, fs, ss)) (ho : op < 40) : Inv i0 e0 (nx1, wr1, pc1, en, idn, nd, op + 1, 0, en, none, 0, (1, en, none, lo, ss, 0, 0, 0) :: fs, ss) := by
  obtain ⟨a1, a2, a3, a4, a5, a6, a7, a8, a9⟩ := h
  refine ⟨by omega, by omega, by omega, by omega, fun q => (by cases q), ?_, by omega, ⟨?_, fun hp q => (by cases q), by omega, fun q => (by cases q), a8⟩, by omega⟩
  · simp only [sumF]; rw [if_neg (by decide)]; omega
  · rw [if_neg (by decide)]; omega
theorem iv_prod {i : Nat} {x y : Int64} (h : Inv i0 e0 (nx, wr, pc, en, idn, nd, op, lo, sa, ap, bh, fs, ss)) (hn : nd < 300) (ho : op < 40) : Inv i0 e0 (nx1, wr1, pc1, en + 2, idn + 1, nd + 1, op + 1, 0, en, none, 0, (3, en, none, lo + 1, ss, i, x, y) :: fs, ss) := by
  obtain ⟨a1, a2, a3, a4, a5, a6, a7, a8, a9⟩ := h
  refine ⟨by omega, by omega, by omega, by omega, fun q => (by cases q), ?_, by omega, ⟨?_, fun hp q => (by cases q), by omega, fun _ => by omega, a8.mono (by omega)⟩, by omega⟩
  · simp [sumF]; omega
  · rw [if_pos rfl]; omega
theorem iv_fun {x : Sc} (h : Inv i0 e0 (nx, wr, pc, en, idn, nd, op, lo, sa, ap, bh, fs, ss)) (hn : nd < 300) (ho : op < 40) : Inv i0 e0 (nx1, wr1, pc1, en + 2, idn + 1, nd + 1, op + 1, lo + 1, en, none, 0, fs, x :: ss) := by
  obtain ⟨a1, a2, a3, a4, a5, a6, a7, a8, a9⟩ := h
  exact ⟨by omega, by omega, by omega, by omega, fun q => (by cases q), by omega, by simp; omega, a8.mono (by omega), by omega⟩
theorem iv_gpar {hp : Nat} (h : Inv i0 e0 (nx, wr, pc, en, idn, nd, op, lo, sa, some hp, 1, fs, ss)) (ho : op < 40) : Inv i0 e0 (nx1, wr1, pc1, en, idn, nd, op + 1, 0, sa, some hp, 0, (2, sa, some hp, lo, ss, 0, 0, 0) :: fs, ss) := by
  obtain ⟨a1, a2, a3, a4, a5, a6, a7, a8, a9⟩ := h
  refine ⟨by omega, by omega, by omega, by omega, fun q => (by cases q), ?_, by omega, ⟨?_, (a5 rfl).2, (a5 rfl).1, fun q => (by cases q), a8⟩, by omega⟩
  · simp only [sumF]; rw [if_neg (by decide)]; omega
  · rw [if_neg (by decide)]; omega
theorem iv_gname {hp : Nat} (h : Inv i0 e0 (nx, wr, pc, en, idn, nd, op, lo, sa, some hp, 1, fs, ss)) (hn : nd < 300) : Inv i0 e0 (nx1, wr1, pc1, en + 3, idn, nd + 1, op, lo, sa, some hp, 1, fs, ss) := by
  obtain ⟨a1, a2, a3, a4, a5, a6, a7, a8, a9⟩ := h
  exact ⟨by omega, a2, by omega, by omega, fun _ => ⟨by have := (a5 rfl).1; omega, fun z q => by have := (a5 rfl).2 z q; omega⟩, a6, a7, a8.mono (by omega), by omega⟩
theorem iv_gtype {hp : Nat} (h : Inv i0 e0 (nx, wr, pc, en, idn, nd, op, lo, sa, some hp, 1, fs, ss)) (hn : nd < 300) : Inv i0 e0 (nx1, wr1, pc1, en + 1, idn, nd + 1, op, lo, sa, some hp, 1, fs, ss) := by
  obtain ⟨a1, a2, a3, a4, a5, a6, a7, a8, a9⟩ := h
  exact ⟨by omega, a2, by omega, by omega, fun _ => ⟨by have := (a5 rfl).1; omega, fun z q => by have := (a5 rfl).2 z q; omega⟩, a6, a7, a8.mono (by omega), by omega⟩
theorem iv_garr (h : Inv i0 e0 (nx, wr, pc, en, idn, nd, op, lo, sa, ap, 1, fs, ss)) (hn : nd < 300) (ho : op < 40) : Inv i0 e0 (nx1, wr1, pc1, en + 2, idn + 1, nd + 1, op + 1, lo + 1, sa, ap, 0, fs, ss) := by
  obtain ⟨a1, a2, a3, a4, a5, a6, a7, a8, a9⟩ := h
  exact ⟨by omega, by omega, by omega, by omega, fun q => (by cases q), by omega, by omega, a8.mono (by omega), by omega⟩
theorem iv_clo {kd s0 h0 : Nat} {a0 : Option Nat} {s1 : List Sc} {z : Nat × Int64 × Int64} (h : Inv i0 e0 (nx, wr, pc, en, idn, nd, op, lo, sa, ap, 1, (kd, s0, a0, h0, s1, z) :: fs, ss)) (h3 : kd ≠ 3) : Inv i0 e0 (nx1, wr1, pc1, en, idn, nd, op - lo - 1, h0, s0, if kd = 1 then none else a0, 1, fs, s1) := by
  obtain ⟨a1, a2, a3, a4, a5, a6, a7, ⟨c1, c2, c3, c4, c5⟩, a9⟩ := h
  simp only [sumF] at a6
  rw [if_neg h3] at a6 c1
  refine ⟨by omega, by omega, by omega, by omega, fun _ => ⟨c3, fun hp q => ?_⟩, by omega, by omega, c5, by omega⟩
  by_cases e : kd = 1
  · rw [if_pos e] at q; cases q
  · rw [if_neg e] at q; exact c2 hp q
theorem iv_bra {kd s0 h0 i1 : Nat} {a0 : Option Nat} {s1 : List Sc} {x y : Int64} (h : Inv i0 e0 (nx, wr, pc, en, idn, nd, op, lo, sa, ap, 1, (kd, s0, a0, h0, s1, i1, x, y) :: fs, ss)) (h3 : kd = 3) : Inv i0 e0 (nx1, wr1, pc1, en, idn, nd, op - lo, h0, s0, a0, 0, fs, (x, y, i1) :: s1) := by
  obtain ⟨a1, a2, a3, a4, a5, a6, a7, ⟨c1, c2, c3, c4, c5⟩, a9⟩ := h
  simp only [sumF] at a6
  rw [if_pos h3] at a6 c1
  exact ⟨by omega, by omega, by omega, by omega, fun q => (by cases q), by omega, by simp; omega, c5, by omega⟩
end IV
theorem ap_or {ap : Int32} {apo : Option Nat} {en : Nat} (h : ap = apI apo) (h2 : ∀ hp, apo = some hp → hp + 2 < en) (he : en ≤ 2000) : ap = -1 ∨ ∃ hp, ap = nI hp ∧ hp + 2 < 2000 := by
  cases apo with
  | none => exact Or.inl h
  | some z => exact Or.inr ⟨z, h, by have := h2 z rfl; omega⟩
theorem ap_some {ap : Int32} {apo : Option Nat} {en hp : Nat} (h : ap = apI apo) (h2 : ∀ hp, apo = some hp → hp + 2 < en) (he : en ≤ 2000) (hh : hp < 2 ^ 31) (q : ap = nI hp) : apo = some hp := by
  cases apo with
  | none => exact absurd (q.symm.trans h) (nI_m1 hh)
  | some z =>
    have := h2 z rfl
    rw [(nI_eq (by omega) (by omega)).mp (h.symm.trans q)]
section LW
variable {lk l0 lh lsc lid : Nat → Nat} {la : Nat → Int32} {lF lS : Nat → Int64} {fs : List Fr} {ss : List Sc} {le : Nat}
theorem LvR.kd (h : LvR lk l0 lh lsc lid la lF lS fs ss) (hl : le = fs.length) : ∀ l1, le = l1 + 1 → lk l1 < 256 := by
  intro l1 e
  cases fs with
  | nil => simp at hl; omega
  | cons f r =>
    obtain ⟨kd, s0, a0, h0, s1, i1, x, y⟩ := f
    have : l1 = r.length := by simp at hl; omega
    subst this
    have := h.1
    have := h.2.2.2.2.2.2.2.1
    omega
theorem LvR.sc (h : LvR lk l0 lh lsc lid la lF lS fs ss) (hl : le = fs.length) (hs : ss.length ≤ 40) : ∀ l1, le = l1 + 1 → lsc l1 < 50 := by
  intro l1 e
  cases fs with
  | nil => simp at hl; omega
  | cons f r =>
    obtain ⟨kd, s0, a0, h0, s1, i1, x, y⟩ := f
    have : l1 = r.length := by simp at hl; omega
    subst this
    have := h.2.2.2.2.1
    have := h.2.2.2.2.2.2.1.length_le
    omega
theorem LvR.lo {lo op : Nat} (h : LvR lk l0 lh lsc lid la lF lS fs ss) (hl : le = fs.length) (ho : op = lo + sumF fs) : ∀ l1, le = l1 + 1 → lk l1 ≠ 3 → lo + 1 ≤ op := by
  intro l1 e h3
  cases fs with
  | nil => simp at hl; omega
  | cons f r =>
    obtain ⟨kd, s0, a0, h0, s1, i1, x, y⟩ := f
    have : l1 = r.length := by simp at hl; omega
    subst this
    rw [h.1] at h3
    simp only [sumF] at ho
    rw [if_neg h3] at ho
    omega
theorem LvR.top (h : LvR lk l0 lh lsc lid la lF lS fs ss) (hl : le = fs.length) {l1 : Nat} (e : le = l1 + 1) : ∃ a0 s1 i1 x y r, l1 = r.length ∧ fs = (lk l1, l0 l1, a0, lh l1, s1, i1, x, y) :: r ∧ la l1 = apI a0 ∧ lsc l1 = s1.length ∧ (lk l1 = 3 → i1 = lid l1 ∧ x = lF l1 ∧ y = lS l1) ∧ s1 <:+ ss ∧ LvR lk l0 lh lsc lid la lF lS r s1 := by
  cases fs with
  | nil => simp at hl; omega
  | cons f r =>
    obtain ⟨kd, s0, a0, h0, s1, i1, x, y⟩ := f
    have : l1 = r.length := by simp at hl; omega
    subst this
    obtain ⟨a, b, c, d, e, g, k, m, n⟩ := h
    subst a b d
    exact ⟨a0, s1, i1, x, y, r, rfl, rfl, c, e, fun q => ⟨(g q).1.symm, (g q).2.1.symm, (g q).2.2.symm⟩, k, n⟩
end LW
theorem sid_upd {sid : Nat → Nat} {M : Nat} (h : ∀ i, sid i < M) {z v : Nat} (hv : v < M) : ∀ i, updN sid z v i < M := by
  intro i
  by_cases e : i = z
  · subst e; rw [updN_same]; exact hv
  · rw [updN_ne e]; exact h i
theorem ex_nI (x : Int32) : ∃ n, x = nI n := ⟨x.toUInt32.toNat, by apply Int32.toBitVec_inj.mp; apply BitVec.eq_of_toNat_eq; simp [nI]⟩
theorem safe_sa {b : Nat → Nat} {ln : Nat} {rcs : List Key} {mp : Nat} {Fn : PT → PSt → Prop} {Bd : Nat → Nat → Prop} {n nx en idn nd op lo sa sa' : Nat} {wr pc : Nat → Nat} {ap ap' : Option Nat} {fs : List Fr} {ss : List Sc} (h : Safe b ln rcs mp Fn Bd n (nx, wr, pc, en, idn, nd, op, lo, sa, ap, 0, fs, ss)) : Safe b ln rcs mp Fn Bd n (nx, wr, pc, en, idn, nd, op, lo, sa', ap', 0, fs, ss) := by
  cases n with
  | zero => exact h
  | succ n => simp only [Safe, RStp, if_true] at h ⊢; exact h
