section TR
variable {b : Nat → Nat} {ln : Nat} {rcs : List Key} {mp : Nat} {Fn : PT → PSt → Prop} {Bd : Nat → Nat → Prop} {n i0 e0 nx en idn nd op lo sa k st nx1 : Nat} {wr pc : Nat → Nat} {ap : Option Nat} {fs : List Fr} {ss : List Sc}
theorem sb (hS : Safe b ln rcs mp Fn Bd (n + 1) (nx, wr, pc, en, idn, nd, op, lo, sa, ap, 0, fs, ss)) (ht : nxt b ln nx = (k, st, nx1)) : BegS b ln rcs Bd (Safe b ln rcs mp Fn Bd n) (k, st, nx1) wr pc en idn nd op lo fs ss := by
  have q := hS
  simp only [Safe, RStp, if_true, ht] at q
  exact q
theorem sg (hS : Safe b ln rcs mp Fn Bd (n + 1) (nx, wr, pc, en, idn, nd, op, lo, sa, ap, 1, fs, ss)) (ht : nxt b ln nx = (k, st, nx1)) (hf : ¬ (fs = [] ∧ (k = 46 ∨ k = 61 ∧ mp = 1))) : GoS b rcs Bd (Safe b ln rcs mp Fn Bd n) (k, st, nx1) wr pc en idn nd op lo sa ap fs ss := by
  have q := hS
  simp only [Safe, RStp, ht] at q
  rw [if_neg (by decide), if_neg hf] at q
  exact q
theorem sfin (hS : Safe b ln rcs mp Fn Bd (n + 1) (nx, wr, pc, en, idn, nd, op, lo, sa, ap, 1, fs, ss)) (ht : nxt b ln nx = (k, st, nx1)) (hf : fs = [] ∧ (k = 46 ∨ k = 61 ∧ mp = 1)) : Fn (k, st, nx1) (nx, wr, pc, en, idn, nd, op, lo, sa, ap, 1, fs, ss) := by
  have q := hS
  simp only [Safe, RStp, ht] at q
  rw [if_neg (by decide), if_pos hf] at q
  exact q
theorem tb_name {h : Nat} (q : BegS b ln rcs Bd (Safe b ln rcs mp Fn Bd n) (k, st, nx1) wr pc en idn nd op lo fs ss) (hk : k = 1) (hm : rmean rcs ss (frR b st nx1, bkR b st nx1) = some h) (hn : nd < 300) : Safe b ln rcs mp Fn Bd n (nx1, putH wr en h, putP pc en st, en + 3, idn, nd + 1, op, lo, en, some en, 1, fs, ss) := by
  simp only [BegS, hm] at q
  rwa [if_pos hk, if_neg (by omega)] at q
theorem tb_type (q : BegS b ln rcs Bd (Safe b ln rcs mp Fn Bd n) (k, st, nx1) wr pc en idn nd op lo fs ss) (hk : k = 2) (hn : nd < 300) : Safe b ln rcs mp Fn Bd n (nx1, updN wr en 0, updN pc en st, en + 1, idn, nd + 1, op, lo, en, none, 1, fs, ss) := by
  simp only [BegS] at q
  rwa [if_neg (by omega), if_pos hk, if_neg (by omega)] at q
theorem tb_par (q : BegS b ln rcs Bd (Safe b ln rcs mp Fn Bd n) (k, st, nx1) wr pc en idn nd op lo fs ss) (hk : k = 40) (ho : op < 40) : Safe b ln rcs mp Fn Bd n (nx1, wr, pc, en, idn, nd, op + 1, 0, en, none, 0, (1, en, none, lo, ss, 0, 0, 0) :: fs, ss) := by
  simp only [BegS] at q
  rwa [if_neg (by omega), if_neg (by omega), if_pos hk, if_neg (by omega)] at q
theorem tb_prod {st1 n1 st2 n2 : Nat} (q : BegS b ln rcs Bd (Safe b ln rcs mp Fn Bd n) (k, st, nx1) wr pc en idn nd op lo fs ss) (hk : k = 123) (hn : nd < 300) (ho : op < 40) (h1 : nxt b ln nx1 = (1, st1, n1)) (h2 : nxt b ln n1 = (58, st2, n2)) : Safe b ln rcs mp Fn Bd n (n2, put2 wr en 1 idn, put2 pc en st st, en + 2, idn + 1, nd + 1, op + 1, 0, en, none, 0, (3, en, none, lo + 1, ss, idn, frR b st1 n1, bkR b st1 n1) :: fs, ss) := by
  simp only [BegS] at q
  rw [if_neg (by omega), if_neg (by omega), if_neg (by omega), if_pos hk, if_neg (by omega)] at q
  simp only [tak, h1, h2, if_true] at q
  exact q
theorem tb_fun {st1 n1 st2 n2 : Nat} (q : BegS b ln rcs Bd (Safe b ln rcs mp Fn Bd n) (k, st, nx1) wr pc en idn nd op lo fs ss) (hk : k = 91) (hn : nd < 300) (ho : op < 40) (h1 : nxt b ln nx1 = (1, st1, n1)) (h2 : nxt b ln n1 = (93, st2, n2)) : Safe b ln rcs mp Fn Bd n (n2, put2 wr en 2 idn, put2 pc en st st, en + 2, idn + 1, nd + 1, op + 1, lo + 1, en, none, 0, fs, (frR b st1 n1, bkR b st1 n1, idn) :: ss) := by
  simp only [BegS] at q
  rw [if_neg (by omega), if_neg (by omega), if_neg (by omega), if_neg (by omega), if_pos hk, if_neg (by omega)] at q
  simp only [tak, h1, h2, if_true] at q
  exact q
theorem tak_bad {z w ff fp : Nat} {K : Nat → Nat → Prop} {k1 st1 n1 : Nat} (q : tak b ln z w Bd K) (h : nxt b ln z = (k1, st1, n1)) (hc : k1 = 4 ∧ ff = 1 ∨ k1 ≠ 4 ∧ k1 ≠ w ∧ ff = 2) (hw : w ≠ 4) (hp : fp = st1) : Bd ff fp := by
  subst hp
  simp only [tak, h] at q
  rcases hc with ⟨rfl, rfl⟩ | ⟨h1, h2, rfl⟩
  · rw [if_neg (fun e => hw e.symm)] at q; exact q
  · rw [if_neg h2, if_neg h1] at q; exact q
theorem tak_ok {z w : Nat} {K : Nat → Nat → Prop} {st1 n1 : Nat} (q : tak b ln z w Bd K) (h : nxt b ln z = (w, st1, n1)) : K st1 n1 := by
  simp only [tak, h, if_true] at q
  exact q
theorem two_bad {w ff fp : Nat} {K : Nat → Nat → Nat → Nat → Prop} (hw : w ≠ 4) (q : tak b ln nx1 1 Bd fun st1 n1 => tak b ln n1 w Bd (K st1 n1)) (h : TwoBad b ln nx1 w ff fp) : Bd ff fp := by
  rcases h with ⟨k1, st1, n1, h1, h2, h3⟩ | ⟨st1, n1, k2, st2, n2, h1, h2, h3, h4⟩
  · exact tak_bad q h1 h2 (by decide) h3
  · exact tak_bad (tak_ok q h1) h2 h3 hw h4
theorem tb_bad {fr bk sF sS : Nat → Int64} {sid : Nat → Nat} {cn sn ff fp : Nat} {x y : Int64} (q : BegS b ln rcs Bd (Safe b ln rcs mp Fn Bd n) (k, st, nx1) wr pc en idn nd op lo fs ss) (hs : ScR sF sS sid ss) (hsn : sn = ss.length) (hc : KeyR rcs fr bk) (hcn : cn = rcs.length) (hx : k = 1 → x = frR b st nx1 ∧ y = bkR b st nx1) (hb : BegBad b ln nx1 k st fr bk sF sS sid cn sn x y nd op ff fp) : Bd ff fp := by
  simp only [BegS] at q
  rcases hb with ⟨hk, h, rfl⟩ | ⟨hk, h, rfl, rfl⟩ | ⟨hk, h, rfl, rfl⟩ | ⟨hk, h⟩ | ⟨hk, h⟩ | ⟨⟨h1, h2, h3, h4, h5⟩, rfl, h⟩
  · obtain ⟨rfl, rfl⟩ := hx hk
    rw [if_pos hk] at q
    rcases h with ⟨h, rfl⟩ | ⟨⟨h, hh⟩, h2, rfl⟩
    · rw [rmean_none hs hsn hc hcn h] at q; exact q
    · rw [rmean_some hs hsn hc hcn hh] at q
      simp only at q
      rwa [if_pos (by omega)] at q
  · rwa [if_neg (by omega), if_pos hk, if_pos (by omega)] at q
  · rwa [if_neg (by omega), if_neg (by omega), if_pos hk, if_pos (by omega)] at q
  · rw [if_neg (by omega), if_neg (by omega), if_neg (by omega), if_pos hk] at q
    rcases h with ⟨h, rfl, rfl⟩ | ⟨h1, h2, h⟩
    · rwa [if_pos (by omega)] at q
    · rw [if_neg (by omega)] at q; exact two_bad (by decide) q h
  · rw [if_neg (by omega), if_neg (by omega), if_neg (by omega), if_neg (by omega), if_pos hk] at q
    rcases h with ⟨h, rfl, rfl⟩ | ⟨h1, h2, h⟩
    · rwa [if_pos (by omega)] at q
    · rw [if_neg (by omega)] at q; exact two_bad (by decide) q h
  · rw [if_neg h1, if_neg h2, if_neg h3, if_neg h5, if_neg h4] at q
    rcases h with ⟨rfl, rfl⟩ | ⟨h, rfl⟩
    · exact q
    · rwa [if_neg h] at q
theorem tg_par {hp : Nat} (q : GoS b rcs Bd (Safe b ln rcs mp Fn Bd n) (k, st, nx1) wr pc en idn nd op lo sa (some hp) fs ss) (hk : k = 40) (ho : op < 40) : Safe b ln rcs mp Fn Bd n (nx1, incA wr hp, pc, en, idn, nd, op + 1, 0, sa, some hp, 0, (2, sa, some hp, lo, ss, 0, 0, 0) :: fs, ss) := by
  simp only [GoS] at q
  rwa [if_pos (by omega), if_pos hk, if_neg (by omega)] at q
theorem tg_name {hp h : Nat} (q : GoS b rcs Bd (Safe b ln rcs mp Fn Bd n) (k, st, nx1) wr pc en idn nd op lo sa (some hp) fs ss) (hk : k = 1) (hm : rmean rcs ss (frR b st nx1, bkR b st nx1) = some h) (hn : nd < 300) : Safe b ln rcs mp Fn Bd n (nx1, incA (putH wr en h) hp, putP pc en st, en + 3, idn, nd + 1, op, lo, sa, some hp, 1, fs, ss) := by
  simp only [GoS, hm] at q
  rwa [if_pos (by omega), if_neg (by omega), if_pos hk, if_neg (by omega)] at q
theorem tg_type {hp : Nat} (q : GoS b rcs Bd (Safe b ln rcs mp Fn Bd n) (k, st, nx1) wr pc en idn nd op lo sa (some hp) fs ss) (hk : k = 2) (hn : nd < 300) : Safe b ln rcs mp Fn Bd n (nx1, incA (updN wr en 0) hp, updN pc en st, en + 1, idn, nd + 1, op, lo, sa, some hp, 1, fs, ss) := by
  simp only [GoS] at q
  rwa [if_pos (by omega), if_neg (by omega), if_neg (by omega), if_neg (by omega)] at q
theorem tg_arrow (q : GoS b rcs Bd (Safe b ln rcs mp Fn Bd n) (k, st, nx1) wr pc en idn nd op lo sa ap fs ss) (hk : k = 3) (hn : nd < 300) (ho : op < 40) : Safe b ln rcs mp Fn Bd n (nx1, put2 (shf wr sa en) sa 1 idn, shf pc sa en, en + 2, idn + 1, nd + 1, op + 1, lo + 1, sa, ap, 0, fs, ss) := by
  simp only [GoS] at q
  rwa [if_neg (by omega), if_pos hk, if_neg (by omega)] at q
theorem tg_clo {kd s0 h0 : Nat} {a0 : Option Nat} {s1 : List Sc} {z : Nat × Int64 × Int64} (q : GoS b rcs Bd (Safe b ln rcs mp Fn Bd n) (k, st, nx1) wr pc en idn nd op lo sa ap ((kd, s0, a0, h0, s1, z) :: fs) ss) (hk : k = 41) (h3 : kd ≠ 3) : Safe b ln rcs mp Fn Bd n (nx1, wr, pc, en, idn, nd, op - lo - 1, h0, s0, if kd = 1 then none else a0, 1, fs, s1) := by
  simp only [GoS] at q
  rwa [if_neg (by omega), if_neg (by omega), if_pos hk, if_neg h3] at q
theorem tg_bra {kd s0 h0 i1 : Nat} {a0 : Option Nat} {s1 : List Sc} {x y : Int64} (q : GoS b rcs Bd (Safe b ln rcs mp Fn Bd n) (k, st, nx1) wr pc en idn nd op lo sa ap ((kd, s0, a0, h0, s1, i1, x, y) :: fs) ss) (hk : k = 125) (h3 : kd = 3) : Safe b ln rcs mp Fn Bd n (nx1, wr, pc, en, idn, nd, op - lo, h0, s0, a0, 0, fs, (x, y, i1) :: s1) := by
  simp only [GoS] at q
  rwa [if_neg (by omega), if_neg (by omega), if_neg (by omega), if_pos hk, if_neg (by omega)] at q
theorem tg_bad {fr bk sF sS : Nat → Int64} {sid lk l0 lh lsc lid : Nat → Nat} {la : Nat → Int32} {lF lS : Nat → Int64} {cn sn le ff : Nat} {api : Int32} {x y : Int64} (q : GoS b rcs Bd (Safe b ln rcs mp Fn Bd n) (k, st, nx1) wr pc en idn nd op lo sa ap fs ss) (hs : ScR sF sS sid ss) (hsn : sn = ss.length) (hc : KeyR rcs fr bk) (hcn : cn = rcs.length) (hx : k = 1 → x = frR b st nx1 ∧ y = bkR b st nx1) (hv : LvR lk l0 lh lsc lid la lF lS fs ss) (hle : le = fs.length) (hap : api = apI ap) (hap2 : ∀ hp, ap = some hp → hp < 2 ^ 31) (hb : GoBad k st fr bk sF sS sid cn sn x y nd op le lk api ff) : Bd ff st := by
  simp only [GoS] at q
  have nap : api = -1 → ap = none := fun e => by
    cases ap with
    | none => rfl
    | some z => exact absurd (hap.symm.trans e) (nI_m1 (hap2 z rfl))
  rcases hb with ⟨hk, h, rfl⟩ | ⟨hk, h, rfl, hna⟩ | ⟨hk, h, hna⟩ | ⟨hk, h, rfl, hna⟩ | ⟨hk, h, rfl⟩ | ⟨hk, h, rfl⟩ | ⟨hk, h, rfl⟩ | ⟨⟨h1, h2, h3, h4, h5, h6⟩, h⟩
  · rw [if_pos hk, nap h] at q; exact q
  · rw [if_pos (by omega)] at q
    cases ap with
    | none => exact absurd hap hna
    | some hp => simp only at q; rwa [if_pos hk, if_pos (by omega)] at q
  · rw [if_pos (by omega)] at q
    cases ap with
    | none => exact absurd hap hna
    | some hp =>
      simp only at q
      rw [if_neg (by omega), if_pos hk] at q
      obtain ⟨rfl, rfl⟩ := hx hk
      rcases h with ⟨h, rfl⟩ | ⟨⟨h, hh⟩, h2, rfl⟩
      · rw [rmean_none hs hsn hc hcn h] at q; exact q
      · rw [rmean_some hs hsn hc hcn hh] at q
        simp only at q
        rwa [if_pos (by omega)] at q
  · rw [if_pos (by omega)] at q
    cases ap with
    | none => exact absurd hap hna
    | some hp => simp only at q; rwa [if_neg (by omega), if_neg (by omega), if_pos (by omega)] at q
  · rwa [if_neg (by omega), if_pos hk, if_pos (by omega)] at q
  · rw [if_neg (by omega), if_neg (by omega), if_pos hk] at q
    cases fs with
    | nil => exact q
    | cons f r =>
      obtain ⟨kd, s0, a0, h0, s1, i1, x1, y1⟩ := f
      rcases h with h | ⟨l1, h, h2⟩
      · rw [hle] at h; simp at h
      · have e : l1 = r.length := by rw [hle] at h; simpa using h.symm
        subst e
        rw [hv.1] at h2
        simp only at q
        rwa [if_pos h2] at q
  · rw [if_neg (by omega), if_neg (by omega), if_neg (by omega), if_pos hk] at q
    cases fs with
    | nil => exact q
    | cons f r =>
      obtain ⟨kd, s0, a0, h0, s1, i1, x1, y1⟩ := f
      rcases h with h | ⟨l1, h, h2⟩
      · rw [hle] at h; simp at h
      · have e : l1 = r.length := by rw [hle] at h; simpa using h.symm
        subst e
        rw [hv.1] at h2
        simp only at q
        rwa [if_pos h2] at q
  · rw [if_neg (by omega), if_neg h3, if_neg h5, if_neg h6] at q
    rcases h with ⟨rfl, rfl⟩ | ⟨h, rfl⟩
    · exact q
    · rwa [if_neg h] at q
end TR
