/-- what is known of the token that is looked at -/
def Cur (b : Nat → Nat) (ln k st nx : Nat) (f0 g0 : Int64) : Prop := nx ≤ ln ∧ st ≤ nx ∧ (k ≠ 0 → st < nx) ∧ k < 256 ∧ k ≠ 4 ∧ (k = 1 → f0 = frn b st nx ∧ g0 = bkn b st nx)
theorem NmE.lt {b : Nat → Nat} {ln z q : Nat} (hE : NmE b ln z q) (hz : z < ln) (hn : isNm (b z)) : z < q := by
  rcases Nat.lt_or_ge z q with h | h
  · exact h
  · have : q = z := Nat.le_antisymm h hE.1
    subst this; exact absurd hn (hE.2.2.2 hz)
theorem Tok.uniq {b : Nat → Nat} {ln z k st nx k' st' nx' : Nat} (h : Tok b ln z k st nx) (h' : Tok b ln z k' st' nx') : k = k' ∧ st = st' ∧ nx = nx' := by
  obtain ⟨s1, c1⟩ := h
  obtain ⟨s2, c2⟩ := h'
  have := s1.uniq s2
  subst this
  rcases c1 with ⟨a, rfl, rfl⟩ | ⟨a, a1, a2, a3⟩ | ⟨a, a1, a2, a3⟩ | ⟨a, a1, a2, a3, a4⟩
  · rcases c2 with ⟨e, rfl, rfl⟩ | ⟨e, _⟩ | ⟨e, _⟩ | ⟨e, _⟩
    · exact ⟨rfl, rfl, rfl⟩
    all_goals omega
  · rcases c2 with ⟨e, _⟩ | ⟨e, e1, e2, e3⟩ | ⟨e, e1, e2, e3⟩ | ⟨e, e1, e2, e3, e4⟩
    · omega
    · have := a2.uniq e2
      subst this
      refine ⟨?_, rfl, rfl⟩
      rcases a3 with ⟨q1, q2⟩ | ⟨q1, q2, q3⟩ | ⟨q1, q2, q3⟩ <;> rcases e3 with ⟨w1, w2⟩ | ⟨w1, w2, w3⟩ | ⟨w1, w2, w3⟩ <;> first | omega | exact absurd q2 w2 | exact absurd w2 q2
    · unfold isNm at a1; omega
    · exact absurd a1 e1
  · rcases c2 with ⟨e, _⟩ | ⟨e, e1, e2, e3⟩ | ⟨e, e1, e2, e3⟩ | ⟨e, e1, e2, e3, e4⟩
    · omega
    · unfold isNm at e1; omega
    · refine ⟨?_, rfl, by omega⟩
      rcases a3 with ⟨q1, q2, q3⟩ | ⟨q1, q2⟩ <;> rcases e3 with ⟨w1, w2, w3⟩ | ⟨w1, w2⟩ <;> first | omega | exact absurd ⟨q1, q2⟩ w1 | exact absurd ⟨w1, w2⟩ q1
    · exact absurd a1 e2
  · rcases c2 with ⟨e, _⟩ | ⟨e, e1, e2, e3⟩ | ⟨e, e1, e2, e3⟩ | ⟨e, e1, e2, e3, e4⟩
    · omega
    · exact absurd e1 a1
    · exact absurd e1 a2
    · refine ⟨?_, rfl, by omega⟩
      rcases a4 with ⟨q1, q2⟩ | ⟨q1, q2⟩ <;> rcases e4 with ⟨w1, w2⟩ | ⟨w1, w2⟩ <;> first | omega | exact absurd q1 w1 | exact absurd w1 q1
/-- the token from z on: kind, start, next -/
noncomputable def nxt (b : Nat → Nat) (ln z : Nat) : Nat × Nat × Nat := by
  classical
  exact if h : ∃ t : Nat × Nat × Nat, Tok b ln z t.1 t.2.1 t.2.2 then Classical.choose h else (0, 0, 0)
theorem nxt_eq {b : Nat → Nat} {ln z k st nx : Nat} (h : Tok b ln z k st nx) : nxt b ln z = (k, st, nx) := by
  have hx : ∃ t : Nat × Nat × Nat, Tok b ln z t.1 t.2.1 t.2.2 := ⟨(k, st, nx), h⟩
  unfold nxt
  rw [dif_pos hx]
  have h2 := Classical.choose_spec hx
  obtain ⟨e1, e2, e3⟩ := Tok.uniq h2 h
  exact Prod.ext e1 (Prod.ext e2 e3)
theorem Tok.bd {b : Nat → Nat} (hb : ∀ j, b j < 256) {ln z k st nx : Nat} (h : Tok b ln z k st nx) : z ≤ st ∧ st ≤ nx ∧ (k ≠ 0 → st < nx) ∧ k < 256 ∧ st ≤ ln ∧ (k = 0 → nx = ln) := by
  obtain ⟨s1, c1⟩ := h
  have z1 := s1.1
  have z2 := s1.2.1
  have hbs := hb st
  rcases c1 with ⟨a, rfl, rfl⟩ | ⟨a, a1, a2, a3⟩ | ⟨a, a1, a2, a3⟩ | ⟨a, a1, a2, a3, a4⟩
  · exact ⟨z1, by omega, fun h => absurd rfl h, by omega, z2, fun _ => rfl⟩
  · have := a2.lt a a1
    refine ⟨z1, by omega, fun _ => this, ?_, z2, fun h => ?_⟩ <;> omega
  · refine ⟨z1, by omega, fun _ => by omega, ?_, z2, fun h => ?_⟩ <;> omega
  · refine ⟨z1, by omega, fun _ => by omega, ?_, z2, fun h => ?_⟩
    · omega
    · rcases a4 with ⟨q1, q2⟩ | ⟨q1, q2⟩
      · unfold isSg at q1; omega
      · omega
theorem Adv.cur {b : Nat → Nat} (hb : ∀ j, b j < 256) {ln z k st nx : Nat} {f g : Int64} (h : Adv b ln z k st nx f g) : Cur b ln k st nx f g ∧ z ≤ st ∧ nxt b ln z = (k, st, nx) := by
  obtain ⟨h1, h2, h3, h4⟩ := h
  obtain ⟨a1, a2, a3, a4, a5, a6⟩ := h1.bd hb
  exact ⟨⟨h3, a2, a3, a4, h2, h4⟩, a1, nxt_eq h1⟩
abbrev Key : Type := Int64 × Int64
def lkN (sc : List Key) (key : Key) : Nat → Option Nat
  | 0 => none
  | i + 1 => if sc[i]? = some key then some i else lkN sc key i
def fkN (cs : List Key) (key : Key) : Nat → Option Nat
  | 0 => none
  | n + 1 => match fkN cs key n with
    | some k => some k
    | none => if cs[n]? = some key then some n else none
/-- what a name is: 48 and the level of the innermost variable, otherwise the number of the constant -/
def mean (sc cs : List Key) (key : Key) : Option Nat := match lkN sc key sc.length with
  | some i => some (48 + i)
  | none => fkN cs key cs.length
/-- rows that hold keys -/
def KeyR (ks : List Key) (f g : Nat → Int64) : Prop := ∀ i, i < ks.length → ks[i]? = some (f i, g i)
theorem KeyR.iff {ks : List Key} {f g : Nat → Int64} (h : KeyR ks f g) {i : Nat} (hi : i < ks.length) {x y : Int64} : ks[i]? = some (x, y) ↔ f i = x ∧ g i = y := by
  rw [h i hi]
  simp [Prod.ext_iff]
theorem fk_some {cs : List Key} {f g : Nat → Int64} (h : KeyR cs f g) {x y : Int64} {k : Nat} : ∀ n, n ≤ cs.length → k < n → f k = x → g k = y → (∀ j, j < k → ¬ (f j = x ∧ g j = y)) → fkN cs (x, y) n = some k := by
  intro n
  induction n with
  | zero => intro _ h1; omega
  | succ n ih =>
    intro hn hk h1 h2 h3
    rcases Nat.lt_or_ge k n with z | z
    · simp [fkN, ih (by omega) z h1 h2 h3]
    · have : k = n := by omega
      subst this
      have hnone : ∀ m, m ≤ k → fkN cs (x, y) m = none := by
        intro m
        induction m with
        | zero => intro _; rfl
        | succ m ihm =>
          intro hm
          have hx : ¬ cs[m]? = some (x, y) := fun q => h3 m (by omega) ((h.iff (by omega)).mp q)
          simp [fkN, ihm (by omega), hx]
      have hx : cs[k]? = some (x, y) := (h.iff (by omega)).mpr ⟨h1, h2⟩
      simp [fkN, hnone k (Nat.le_refl _), hx]
theorem fk_none {cs : List Key} {f g : Nat → Int64} (h : KeyR cs f g) {x y : Int64} : ∀ n, n ≤ cs.length → (∀ j, j < n → ¬ (f j = x ∧ g j = y)) → fkN cs (x, y) n = none := by
  intro n
  induction n with
  | zero => intro _ _; rfl
  | succ n ih =>
    intro hn h3
    have hx : ¬ cs[n]? = some (x, y) := fun q => h3 n (by omega) ((h.iff (by omega)).mp q)
    simp [fkN, ih (by omega) (fun j hj => h3 j (by omega)), hx]
theorem lk_some {cs : List Key} {f g : Nat → Int64} (h : KeyR cs f g) {x y : Int64} {k : Nat} : ∀ n, n ≤ cs.length → k < n → f k = x → g k = y → (∀ j, k < j → j < n → ¬ (f j = x ∧ g j = y)) → lkN cs (x, y) n = some k := by
  intro n
  induction n with
  | zero => intro _ h1; omega
  | succ n ih =>
    intro hn hk h1 h2 h3
    rcases Nat.lt_or_ge k n with z | z
    · have hx : ¬ cs[n]? = some (x, y) := fun q => h3 n z (by omega) ((h.iff (by omega)).mp q)
      simp [lkN, hx, ih (by omega) z h1 h2 (fun j a c => h3 j a (by omega))]
    · have : k = n := by omega
      subst this
      have hx : cs[k]? = some (x, y) := (h.iff (by omega)).mpr ⟨h1, h2⟩
      simp [lkN, hx]
theorem lk_none {cs : List Key} {f g : Nat → Int64} (h : KeyR cs f g) {x y : Int64} : ∀ n, n ≤ cs.length → (∀ j, j < n → ¬ (f j = x ∧ g j = y)) → lkN cs (x, y) n = none := by
  intro n
  induction n with
  | zero => intro _ _; rfl
  | succ n ih =>
    intro hn h3
    have hx : ¬ cs[n]? = some (x, y) := fun q => h3 n (by omega) ((h.iff (by omega)).mp q)
    simp [lkN, ih (by omega) (fun j hj => h3 j (by omega)), hx]
theorem d_R_isNow_0 : decode b_R_isNow 0 = .ok (.aload_n 0, 1) := by decide +kernel
theorem d_R_isNow_1 : decode b_R_isNow 1 = .ok (.getfield 54, 3) := by decide +kernel
theorem d_R_isNow_4 : decode b_R_isNow 4 = .ok (.getfield 73, 3) := by decide +kernel
theorem d_R_isNow_7 : decode b_R_isNow 7 = .ok (.iload_n 1, 1) := by decide +kernel
theorem d_R_isNow_8 : decode b_R_isNow 8 = .ok (.if_icmp .eq 21, 3) := by decide +kernel
theorem d_R_isNow_11 : decode b_R_isNow 11 = .ok (.aload_n 0, 1) := by decide +kernel
theorem d_R_isNow_12 : decode b_R_isNow 12 = .ok (.getfield 66, 3) := by decide +kernel
theorem d_R_isNow_15 : decode b_R_isNow 15 = .ok (.iconst 2, 1) := by decide +kernel
theorem d_R_isNow_16 : decode b_R_isNow 16 = .ok (.aload_n 0, 1) := by decide +kernel
theorem d_R_isNow_17 : decode b_R_isNow 17 = .ok (.getfield 54, 3) := by decide +kernel
theorem d_R_isNow_20 : decode b_R_isNow 20 = .ok (.getfield 70, 3) := by decide +kernel
theorem d_R_isNow_23 : decode b_R_isNow 23 = .ok (.invokevirtual 99, 3) := by decide +kernel
theorem d_R_isNow_26 : decode b_R_isNow 26 = .ok (.ifCond .eq 7, 3) := by decide +kernel
theorem d_R_isNow_29 : decode b_R_isNow 29 = .ok (.iconst 1, 1) := by decide +kernel
theorem d_R_isNow_30 : decode b_R_isNow 30 = .ok (.goto 4, 3) := by decide +kernel
theorem d_R_isNow_33 : decode b_R_isNow 33 = .ok (.iconst 0, 1) := by decide +kernel
theorem d_R_isNow_34 : decode b_R_isNow 34 = .ok (.ireturn, 1) := by decide +kernel
set_option maxHeartbeats 4000000 in
set_option maxRecDepth 100000 in
theorem c_R_isNow (l : Launch) (D : va_G) (cI cJ cB cZ : ClassId) (aR aT aC aK aF aR0 aR1 aTb : Nat) (rs0 rq0 rp0 r10 r20 : Int32) (rf0 rb0 : Int64) (lv0 op0 nd0 en0 fn fw : Int32) (nx ln k st w : Nat) (f0 g0 : Int64) (hk : k < 256) (hw : w < 256) : Ci l D (tyl cI cJ cB cZ) y_R_isNow b_R_isNow 2 (some .boolean) ({ frames := 1, cells := 0, slots := 0, locals := 22 } : Room) [.ref aR, .int (nI w)] [(aR, .inr (5, [.ref aT, .ref aC, .ref aK, .ref aF, .ref aR0, .ref aR1, .int lv0, .int op0, .int nd0, .int en0, .int rs0, .int rq0, .int rp0, .long rf0, .long rb0, .int r10, .int r20])), (aT, .inr (3, [.ref aF, .ref aTb, .int (nI nx), .int (nI ln), .int (nI k), .int (nI st), .long f0, .long g0])), (aF, .inr (0, [.int fn, .int fw]))] (fun r u => ((k = w) ∧ r = (nI 1) ∧ u = [(aR, .inr (5, [.ref aT, .ref aC, .ref aK, .ref aF, .ref aR0, .ref aR1, .int lv0, .int op0, .int nd0, .int en0, .int rs0, .int rq0, .int rp0, .long rf0, .long rb0, .int r10, .int r20])), (aT, .inr (3, [.ref aF, .ref aTb, .int (nI nx), .int (nI ln), .int (nI k), .int (nI st), .long f0, .long g0])), (aF, .inr (0, [.int fn, .int fw]))]) ∨ ((k ≠ w) ∧ r = (nI 0) ∧ u = [(aR, .inr (5, [.ref aT, .ref aC, .ref aK, .ref aF, .ref aR0, .ref aR1, .int lv0, .int op0, .int nd0, .int en0, .int rs0, .int rq0, .int rp0, .long rf0, .long rb0, .int r10, .int r20])), (aT, .inr (3, [.ref aF, .ref aTb, .int (nI nx), .int (nI ln), .int (nI k), .int (nI st), .long f0, .long g0])), (aF, .inr (0, [.int (nI 2), .int (nI st)]))])) := by
  refine met_i (own := "ProofReader$Parser") (by decide) rfl (Nat.le_of_ble_eq_true rfl) ?_
  intro p e s m args below meth c A Q S hA ret ls hl hW
  have hl : lv_has ls 2 [(0, .ref aR), (1, .int (nI w))] := hl
  have hW : Wd D (tyl cI cJ cB cZ) A s s.heap s.heap [] [(aR, .inr (5, [.ref aT, .ref aC, .ref aK, .ref aF, .ref aR0, .ref aR1, .int lv0, .int op0, .int nd0, .int en0, .int rs0, .int rq0, .int rp0, .long rf0, .long rb0, .int r10, .int r20])), (aT, .inr (3, [.ref aF, .ref aTb, .int (nI nx), .int (nI ln), .int (nI k), .int (nI st), .long f0, .long g0])), (aF, .inr (0, [.int fn, .int fw]))] := hW
  refine lv_aload_n S.1 S.2.1 d_R_isNow_0 rfl (lv_at hl 0 rfl) ?_
  refine g_get i_R S hW 0 rfl rfl 0 (by decide) kf_R_54 rfl d_R_isNow_1 ?_
  refine g_get i_T S hW 1 rfl rfl 4 (by decide) kf_R_73 rfl d_R_isNow_4 ?_
  refine lv_iload_n S.1 S.2.1 d_R_isNow_7 rfl (lv_at hl 1 rfl) ?_
  refine n_icmp_eq (tgt := 29) S (by omega) (by omega) d_R_isNow_8 (by decide) (fun c_8 => ?_) (fun c_8 => ?_)
  · refine lv_iconst (v := (nI 1)) S.1 S.2.1 d_R_isNow_29 (by decide) ?_
    refine lv_goto (tgt := 34) S.1 S.2.1 d_R_isNow_30 (by decide) ?_
    exact ret _ _ _ _ _ _ d_R_isNow_34 rfl (by first | exact (Or.inl ⟨(by first | omega | assumption | simp_all), rfl, rfl⟩) | exact (Or.inr ⟨(by first | omega | assumption | simp_all), rfl, rfl⟩)) hW
  · refine lv_aload_n S.1 S.2.1 d_R_isNow_11 rfl (lv_at hl 0 rfl) ?_
    refine g_get i_R S hW 0 rfl rfl 3 (by decide) kf_R_66 rfl d_R_isNow_12 ?_
    refine lv_iconst (v := (nI 2)) S.1 S.2.1 d_R_isNow_15 (by decide) ?_
    refine lv_aload_n S.1 S.2.1 d_R_isNow_16 rfl (lv_at hl 0 rfl) ?_
    refine g_get i_R S hW 0 rfl rfl 0 (by decide) kf_R_54 rfl d_R_isNow_17 ?_
    refine g_get i_T S hW 1 rfl rfl 5 (by decide) kf_R_70 rfl d_R_isNow_20 ?_
    refine callV_i (wr := [(aR, .inr (5, [.ref aT, .ref aC, .ref aK, .ref aF, .ref aR0, .ref aR1, .int lv0, .int op0, .int nd0, .int en0, .int rs0, .int rq0, .int rp0, .long rf0, .long rb0, .int r10, .int r20])), (aT, .inr (3, [.ref aF, .ref aTb, .int (nI nx), .int (nI ln), .int (nI k), .int (nI st), .long f0, .long g0]))]) (wc := [(aF, .inr (0, [.int fn, .int fw]))]) (np := 2) (As := [.int (nI 2), .int (nI st)]) (rest := []) (c_F_met l D cI cJ cB cZ aF fn fw (nI 2) (nI st) ) km_R_99 ki_F_met kv_F_met kz_F kk_F_met (by decide +kernel) S hW hA ⟨Nat.le_of_ble_eq_true rfl, Nat.le_of_ble_eq_true rfl⟩ ⟨Nat.le_of_ble_eq_true rfl, Nat.le_of_ble_eq_true rfl⟩ rfl 0 rfl [2] [0, 1] rfl (by decide) rfl (by decide) (by decide) rfl hl.1 rfl (Nat.le_of_ble_eq_true rfl) d_R_isNow_23 (fun r u H locs hp hW => ?_)
    obtain ⟨rfl, rfl⟩ := hp
    have hW : Wd D (tyl cI cJ cB cZ) A s s.heap H locs [(aR, .inr (5, [.ref aT, .ref aC, .ref aK, .ref aF, .ref aR0, .ref aR1, .int lv0, .int op0, .int nd0, .int en0, .int rs0, .int rq0, .int rp0, .long rf0, .long rb0, .int r10, .int r20])), (aT, .inr (3, [.ref aF, .ref aTb, .int (nI nx), .int (nI ln), .int (nI k), .int (nI st), .long f0, .long g0])), (aF, .inr (0, [.int (nI 2), .int (nI st)]))] := hW
    refine lv_if_eq (tgt := 33) S.1 S.2.1 d_R_isNow_26 (by decide) (fun _ => ?_) (fun h => absurd h (by decide))
    refine lv_iconst (v := (nI 0)) S.1 S.2.1 d_R_isNow_33 (by decide) ?_
    exact ret _ _ _ _ _ _ d_R_isNow_34 rfl (by first | exact (Or.inl ⟨(by first | omega | assumption | simp_all), rfl, rfl⟩) | exact (Or.inr ⟨(by first | omega | assumption | simp_all), rfl, rfl⟩)) hW
theorem d_R_opens_0 : decode b_R_opens 0 = .ok (.aload_n 0, 1) := by decide +kernel
theorem d_R_opens_1 : decode b_R_opens 1 = .ok (.getfield 22, 3) := by decide +kernel
theorem d_R_opens_4 : decode b_R_opens 4 = .ok (.bipush 40, 2) := by decide +kernel
theorem d_R_opens_6 : decode b_R_opens 6 = .ok (.if_icmp .lt 19, 3) := by decide +kernel
theorem d_R_opens_9 : decode b_R_opens 9 = .ok (.aload_n 0, 1) := by decide +kernel
theorem d_R_opens_10 : decode b_R_opens 10 = .ok (.getfield 66, 3) := by decide +kernel
theorem d_R_opens_13 : decode b_R_opens 13 = .ok (.iconst 5, 1) := by decide +kernel
theorem d_R_opens_14 : decode b_R_opens 14 = .ok (.aload_n 0, 1) := by decide +kernel
theorem d_R_opens_15 : decode b_R_opens 15 = .ok (.getfield 54, 3) := by decide +kernel
theorem d_R_opens_18 : decode b_R_opens 18 = .ok (.getfield 70, 3) := by decide +kernel
theorem d_R_opens_21 : decode b_R_opens 21 = .ok (.invokevirtual 99, 3) := by decide +kernel
theorem d_R_opens_24 : decode b_R_opens 24 = .ok (.ireturn, 1) := by decide +kernel
theorem d_R_opens_25 : decode b_R_opens 25 = .ok (.aload_n 0, 1) := by decide +kernel
theorem d_R_opens_26 : decode b_R_opens 26 = .ok (.dup, 1) := by decide +kernel
theorem d_R_opens_27 : decode b_R_opens 27 = .ok (.getfield 22, 3) := by decide +kernel
theorem d_R_opens_30 : decode b_R_opens 30 = .ok (.iconst 1, 1) := by decide +kernel
theorem d_R_opens_31 : decode b_R_opens 31 = .ok (.iadd, 1) := by decide +kernel
theorem d_R_opens_32 : decode b_R_opens 32 = .ok (.putfield 22, 3) := by decide +kernel
theorem d_R_opens_35 : decode b_R_opens 35 = .ok (.iconst 1, 1) := by decide +kernel
theorem d_R_opens_36 : decode b_R_opens 36 = .ok (.ireturn, 1) := by decide +kernel
set_option maxHeartbeats 4000000 in
set_option maxRecDepth 100000 in
theorem c_R_opens (l : Launch) (D : va_G) (cI cJ cB cZ : ClassId) (aR aT aC aK aF aR0 aR1 aTb : Nat) (rs0 rq0 rp0 r10 r20 : Int32) (rf0 rb0 : Int64) (lv0 nd0 en0 fn fw nx1 ln1 k1 : Int32) (op st : Nat) (f0 g0 : Int64) (ho : op ≤ 40) : Ci l D (tyl cI cJ cB cZ) y_R_opens b_R_opens 1 (some .boolean) ({ frames := 1, cells := 0, slots := 0, locals := 22 } : Room) [.ref aR] [(aR, .inr (5, [.ref aT, .ref aC, .ref aK, .ref aF, .ref aR0, .ref aR1, .int lv0, .int (nI op), .int nd0, .int en0, .int rs0, .int rq0, .int rp0, .long rf0, .long rb0, .int r10, .int r20])), (aT, .inr (3, [.ref aF, .ref aTb, .int nx1, .int ln1, .int k1, .int (nI st), .long f0, .long g0])), (aF, .inr (0, [.int fn, .int fw]))] (fun r u => ((op < 40) ∧ r = (nI 1) ∧ u = [(aR, .inr (5, [.ref aT, .ref aC, .ref aK, .ref aF, .ref aR0, .ref aR1, .int lv0, .int (nI (op + 1)), .int nd0, .int en0, .int rs0, .int rq0, .int rp0, .long rf0, .long rb0, .int r10, .int r20])), (aT, .inr (3, [.ref aF, .ref aTb, .int nx1, .int ln1, .int k1, .int (nI st), .long f0, .long g0])), (aF, .inr (0, [.int fn, .int fw]))]) ∨ ((op = 40) ∧ r = (nI 0) ∧ u = [(aR, .inr (5, [.ref aT, .ref aC, .ref aK, .ref aF, .ref aR0, .ref aR1, .int lv0, .int (nI op), .int nd0, .int en0, .int rs0, .int rq0, .int rp0, .long rf0, .long rb0, .int r10, .int r20])), (aT, .inr (3, [.ref aF, .ref aTb, .int nx1, .int ln1, .int k1, .int (nI st), .long f0, .long g0])), (aF, .inr (0, [.int (nI 5), .int (nI st)]))])) := by
  refine met_i (own := "ProofReader$Parser") (by decide) rfl (Nat.le_of_ble_eq_true rfl) ?_
  intro p e s m args below meth c A Q S hA ret ls hl hW
  have hl : lv_has ls 1 [(0, .ref aR)] := hl
  have hW : Wd D (tyl cI cJ cB cZ) A s s.heap s.heap [] [(aR, .inr (5, [.ref aT, .ref aC, .ref aK, .ref aF, .ref aR0, .ref aR1, .int lv0, .int (nI op), .int nd0, .int en0, .int rs0, .int rq0, .int rp0, .long rf0, .long rb0, .int r10, .int r20])), (aT, .inr (3, [.ref aF, .ref aTb, .int nx1, .int ln1, .int k1, .int (nI st), .long f0, .long g0])), (aF, .inr (0, [.int fn, .int fw]))] := hW
  refine lv_aload_n S.1 S.2.1 d_R_opens_0 rfl (lv_at hl 0 rfl) ?_
  refine g_get i_R S hW 0 rfl rfl 7 (by decide) kf_R_22 rfl d_R_opens_1 ?_
  refine lv_bipush (v := (nI 40)) S.1 S.2.1 d_R_opens_4 (by decide) ?_
  refine n_icmp_lt (tgt := 25) S (by omega) (by omega) d_R_opens_6 (by decide) (fun c_6 => ?_) (fun c_6 => ?_)
  · refine lv_aload_n S.1 S.2.1 d_R_opens_25 rfl (lv_at hl 0 rfl) ?_
    refine lv_dup S.1 S.2.1 d_R_opens_26 rfl ?_
    refine g_get i_R S hW 0 rfl rfl 7 (by decide) kf_R_22 rfl d_R_opens_27 ?_
    refine lv_iconst (v := (nI 1)) S.1 S.2.1 d_R_opens_30 (by decide) ?_
    refine n_iadd S d_R_opens_31 ?_
    refine g_put (ws2 := [(aR, .inr (5, [.ref aT, .ref aC, .ref aK, .ref aF, .ref aR0, .ref aR1, .int lv0, .int (nI (op + 1)), .int nd0, .int en0, .int rs0, .int rq0, .int rp0, .long rf0, .long rb0, .int r10, .int r20])), (aT, .inr (3, [.ref aF, .ref aTb, .int nx1, .int ln1, .int k1, .int (nI st), .long f0, .long g0])), (aF, .inr (0, [.int fn, .int fw]))]) i_R ft_R ft_R_ok n_R S hW 0 rfl rfl 7 (by decide) kf_R_22 rfl rfl rfl (Nat.le_of_ble_eq_true rfl) rfl d_R_opens_32 (fun H locs hW => ?_)
    refine lv_iconst (v := (nI 1)) S.1 S.2.1 d_R_opens_35 (by decide) ?_
    exact ret _ _ _ _ _ _ d_R_opens_36 rfl (by first | exact (Or.inl ⟨(by first | omega | assumption | simp_all), rfl, rfl⟩) | exact (Or.inr ⟨(by first | omega | assumption | simp_all), rfl, rfl⟩)) hW
  · refine lv_aload_n S.1 S.2.1 d_R_opens_9 rfl (lv_at hl 0 rfl) ?_
    refine g_get i_R S hW 0 rfl rfl 3 (by decide) kf_R_66 rfl d_R_opens_10 ?_
    refine lv_iconst (v := (nI 5)) S.1 S.2.1 d_R_opens_13 (by decide) ?_
    refine lv_aload_n S.1 S.2.1 d_R_opens_14 rfl (lv_at hl 0 rfl) ?_
    refine g_get i_R S hW 0 rfl rfl 0 (by decide) kf_R_54 rfl d_R_opens_15 ?_
    refine g_get i_T S hW 1 rfl rfl 5 (by decide) kf_R_70 rfl d_R_opens_18 ?_
    refine callV_i (wr := [(aR, .inr (5, [.ref aT, .ref aC, .ref aK, .ref aF, .ref aR0, .ref aR1, .int lv0, .int (nI op), .int nd0, .int en0, .int rs0, .int rq0, .int rp0, .long rf0, .long rb0, .int r10, .int r20])), (aT, .inr (3, [.ref aF, .ref aTb, .int nx1, .int ln1, .int k1, .int (nI st), .long f0, .long g0]))]) (wc := [(aF, .inr (0, [.int fn, .int fw]))]) (np := 2) (As := [.int (nI 5), .int (nI st)]) (rest := []) (c_F_met l D cI cJ cB cZ aF fn fw (nI 5) (nI st) ) km_R_99 ki_F_met kv_F_met kz_F kk_F_met (by decide +kernel) S hW hA ⟨Nat.le_of_ble_eq_true rfl, Nat.le_of_ble_eq_true rfl⟩ ⟨Nat.le_of_ble_eq_true rfl, Nat.le_of_ble_eq_true rfl⟩ rfl 0 rfl [2] [0, 1] rfl (by decide) rfl (by decide) (by decide) rfl hl.1 rfl (Nat.le_of_ble_eq_true rfl) d_R_opens_21 (fun r u H locs hp hW => ?_)
    obtain ⟨rfl, rfl⟩ := hp
    have hW : Wd D (tyl cI cJ cB cZ) A s s.heap H locs [(aR, .inr (5, [.ref aT, .ref aC, .ref aK, .ref aF, .ref aR0, .ref aR1, .int lv0, .int (nI op), .int nd0, .int en0, .int rs0, .int rq0, .int rp0, .long rf0, .long rb0, .int r10, .int r20])), (aT, .inr (3, [.ref aF, .ref aTb, .int nx1, .int ln1, .int k1, .int (nI st), .long f0, .long g0])), (aF, .inr (0, [.int (nI 5), .int (nI st)]))] := hW
    exact ret _ _ _ _ _ _ d_R_opens_24 rfl (by first | exact (Or.inl ⟨(by first | omega | assumption | simp_all), rfl, rfl⟩) | exact (Or.inr ⟨(by first | omega | assumption | simp_all), rfl, rfl⟩)) hW
theorem d_R_counts_0 : decode b_R_counts 0 = .ok (.aload_n 0, 1) := by decide +kernel
theorem d_R_counts_1 : decode b_R_counts 1 = .ok (.getfield 25, 3) := by decide +kernel
theorem d_R_counts_4 : decode b_R_counts 4 = .ok (.sipush 300, 3) := by decide +kernel
theorem d_R_counts_7 : decode b_R_counts 7 = .ok (.if_icmp .lt 19, 3) := by decide +kernel
theorem d_R_counts_10 : decode b_R_counts 10 = .ok (.aload_n 0, 1) := by decide +kernel
theorem d_R_counts_11 : decode b_R_counts 11 = .ok (.getfield 66, 3) := by decide +kernel
theorem d_R_counts_14 : decode b_R_counts 14 = .ok (.iconst 5, 1) := by decide +kernel
theorem d_R_counts_15 : decode b_R_counts 15 = .ok (.aload_n 0, 1) := by decide +kernel
theorem d_R_counts_16 : decode b_R_counts 16 = .ok (.getfield 54, 3) := by decide +kernel
theorem d_R_counts_19 : decode b_R_counts 19 = .ok (.getfield 70, 3) := by decide +kernel
theorem d_R_counts_22 : decode b_R_counts 22 = .ok (.invokevirtual 99, 3) := by decide +kernel
theorem d_R_counts_25 : decode b_R_counts 25 = .ok (.ireturn, 1) := by decide +kernel
theorem d_R_counts_26 : decode b_R_counts 26 = .ok (.aload_n 0, 1) := by decide +kernel
theorem d_R_counts_27 : decode b_R_counts 27 = .ok (.dup, 1) := by decide +kernel
theorem d_R_counts_28 : decode b_R_counts 28 = .ok (.getfield 25, 3) := by decide +kernel
theorem d_R_counts_31 : decode b_R_counts 31 = .ok (.iconst 1, 1) := by decide +kernel
theorem d_R_counts_32 : decode b_R_counts 32 = .ok (.iadd, 1) := by decide +kernel
theorem d_R_counts_33 : decode b_R_counts 33 = .ok (.putfield 25, 3) := by decide +kernel
theorem d_R_counts_36 : decode b_R_counts 36 = .ok (.iconst 1, 1) := by decide +kernel
theorem d_R_counts_37 : decode b_R_counts 37 = .ok (.ireturn, 1) := by decide +kernel
set_option maxHeartbeats 4000000 in
set_option maxRecDepth 100000 in
theorem c_R_counts (l : Launch) (D : va_G) (cI cJ cB cZ : ClassId) (aR aT aC aK aF aR0 aR1 aTb : Nat) (rs0 rq0 rp0 r10 r20 : Int32) (rf0 rb0 : Int64) (lv0 op0 en0 fn fw nx1 ln1 k1 : Int32) (nd st : Nat) (f0 g0 : Int64) (hn : nd ≤ 300) : Ci l D (tyl cI cJ cB cZ) y_R_counts b_R_counts 1 (some .boolean) ({ frames := 1, cells := 0, slots := 0, locals := 22 } : Room) [.ref aR] [(aR, .inr (5, [.ref aT, .ref aC, .ref aK, .ref aF, .ref aR0, .ref aR1, .int lv0, .int op0, .int (nI nd), .int en0, .int rs0, .int rq0, .int rp0, .long rf0, .long rb0, .int r10, .int r20])), (aT, .inr (3, [.ref aF, .ref aTb, .int nx1, .int ln1, .int k1, .int (nI st), .long f0, .long g0])), (aF, .inr (0, [.int fn, .int fw]))] (fun r u => ((nd < 300) ∧ r = (nI 1) ∧ u = [(aR, .inr (5, [.ref aT, .ref aC, .ref aK, .ref aF, .ref aR0, .ref aR1, .int lv0, .int op0, .int (nI (nd + 1)), .int en0, .int rs0, .int rq0, .int rp0, .long rf0, .long rb0, .int r10, .int r20])), (aT, .inr (3, [.ref aF, .ref aTb, .int nx1, .int ln1, .int k1, .int (nI st), .long f0, .long g0])), (aF, .inr (0, [.int fn, .int fw]))]) ∨ ((nd = 300) ∧ r = (nI 0) ∧ u = [(aR, .inr (5, [.ref aT, .ref aC, .ref aK, .ref aF, .ref aR0, .ref aR1, .int lv0, .int op0, .int (nI nd), .int en0, .int rs0, .int rq0, .int rp0, .long rf0, .long rb0, .int r10, .int r20])), (aT, .inr (3, [.ref aF, .ref aTb, .int nx1, .int ln1, .int k1, .int (nI st), .long f0, .long g0])), (aF, .inr (0, [.int (nI 5), .int (nI st)]))])) := by
  refine met_i (own := "ProofReader$Parser") (by decide) rfl (Nat.le_of_ble_eq_true rfl) ?_
  intro p e s m args below meth c A Q S hA ret ls hl hW
  have hl : lv_has ls 1 [(0, .ref aR)] := hl
  have hW : Wd D (tyl cI cJ cB cZ) A s s.heap s.heap [] [(aR, .inr (5, [.ref aT, .ref aC, .ref aK, .ref aF, .ref aR0, .ref aR1, .int lv0, .int op0, .int (nI nd), .int en0, .int rs0, .int rq0, .int rp0, .long rf0, .long rb0, .int r10, .int r20])), (aT, .inr (3, [.ref aF, .ref aTb, .int nx1, .int ln1, .int k1, .int (nI st), .long f0, .long g0])), (aF, .inr (0, [.int fn, .int fw]))] := hW
  refine lv_aload_n S.1 S.2.1 d_R_counts_0 rfl (lv_at hl 0 rfl) ?_
  refine g_get i_R S hW 0 rfl rfl 8 (by decide) kf_R_25 rfl d_R_counts_1 ?_
  refine lv_sipush (v := (nI 300)) S.1 S.2.1 d_R_counts_4 (by decide) ?_
  refine n_icmp_lt (tgt := 26) S (by omega) (by omega) d_R_counts_7 (by decide) (fun c_7 => ?_) (fun c_7 => ?_)
  · refine lv_aload_n S.1 S.2.1 d_R_counts_26 rfl (lv_at hl 0 rfl) ?_
    refine lv_dup S.1 S.2.1 d_R_counts_27 rfl ?_
    refine g_get i_R S hW 0 rfl rfl 8 (by decide) kf_R_25 rfl d_R_counts_28 ?_
    refine lv_iconst (v := (nI 1)) S.1 S.2.1 d_R_counts_31 (by decide) ?_
    refine n_iadd S d_R_counts_32 ?_
    refine g_put (ws2 := [(aR, .inr (5, [.ref aT, .ref aC, .ref aK, .ref aF, .ref aR0, .ref aR1, .int lv0, .int op0, .int (nI (nd + 1)), .int en0, .int rs0, .int rq0, .int rp0, .long rf0, .long rb0, .int r10, .int r20])), (aT, .inr (3, [.ref aF, .ref aTb, .int nx1, .int ln1, .int k1, .int (nI st), .long f0, .long g0])), (aF, .inr (0, [.int fn, .int fw]))]) i_R ft_R ft_R_ok n_R S hW 0 rfl rfl 8 (by decide) kf_R_25 rfl rfl rfl (Nat.le_of_ble_eq_true rfl) rfl d_R_counts_33 (fun H locs hW => ?_)
    refine lv_iconst (v := (nI 1)) S.1 S.2.1 d_R_counts_36 (by decide) ?_
    exact ret _ _ _ _ _ _ d_R_counts_37 rfl (by first | exact (Or.inl ⟨(by first | omega | assumption | simp_all), rfl, rfl⟩) | exact (Or.inr ⟨(by first | omega | assumption | simp_all), rfl, rfl⟩)) hW
  · refine lv_aload_n S.1 S.2.1 d_R_counts_10 rfl (lv_at hl 0 rfl) ?_
    refine g_get i_R S hW 0 rfl rfl 3 (by decide) kf_R_66 rfl d_R_counts_11 ?_
    refine lv_iconst (v := (nI 5)) S.1 S.2.1 d_R_counts_14 (by decide) ?_
    refine lv_aload_n S.1 S.2.1 d_R_counts_15 rfl (lv_at hl 0 rfl) ?_
    refine g_get i_R S hW 0 rfl rfl 0 (by decide) kf_R_54 rfl d_R_counts_16 ?_
    refine g_get i_T S hW 1 rfl rfl 5 (by decide) kf_R_70 rfl d_R_counts_19 ?_
    refine callV_i (wr := [(aR, .inr (5, [.ref aT, .ref aC, .ref aK, .ref aF, .ref aR0, .ref aR1, .int lv0, .int op0, .int (nI nd), .int en0, .int rs0, .int rq0, .int rp0, .long rf0, .long rb0, .int r10, .int r20])), (aT, .inr (3, [.ref aF, .ref aTb, .int nx1, .int ln1, .int k1, .int (nI st), .long f0, .long g0]))]) (wc := [(aF, .inr (0, [.int fn, .int fw]))]) (np := 2) (As := [.int (nI 5), .int (nI st)]) (rest := []) (c_F_met l D cI cJ cB cZ aF fn fw (nI 5) (nI st) ) km_R_99 ki_F_met kv_F_met kz_F kk_F_met (by decide +kernel) S hW hA ⟨Nat.le_of_ble_eq_true rfl, Nat.le_of_ble_eq_true rfl⟩ ⟨Nat.le_of_ble_eq_true rfl, Nat.le_of_ble_eq_true rfl⟩ rfl 0 rfl [2] [0, 1] rfl (by decide) rfl (by decide) (by decide) rfl hl.1 rfl (Nat.le_of_ble_eq_true rfl) d_R_counts_22 (fun r u H locs hp hW => ?_)
    obtain ⟨rfl, rfl⟩ := hp
    have hW : Wd D (tyl cI cJ cB cZ) A s s.heap H locs [(aR, .inr (5, [.ref aT, .ref aC, .ref aK, .ref aF, .ref aR0, .ref aR1, .int lv0, .int op0, .int (nI nd), .int en0, .int rs0, .int rq0, .int rp0, .long rf0, .long rb0, .int r10, .int r20])), (aT, .inr (3, [.ref aF, .ref aTb, .int nx1, .int ln1, .int k1, .int (nI st), .long f0, .long g0])), (aF, .inr (0, [.int (nI 5), .int (nI st)]))] := hW
    exact ret _ _ _ _ _ _ d_R_counts_25 rfl (by first | exact (Or.inl ⟨(by first | omega | assumption | simp_all), rfl, rfl⟩) | exact (Or.inr ⟨(by first | omega | assumption | simp_all), rfl, rfl⟩)) hW
theorem d_R_node_0 : decode b_R_node 0 = .ok (.aload_n 0, 1) := by decide +kernel
theorem d_R_node_1 : decode b_R_node 1 = .ok (.invokevirtual 114, 3) := by decide +kernel
theorem d_R_node_4 : decode b_R_node 4 = .ok (.ifCond .ne 5, 3) := by decide +kernel
theorem d_R_node_7 : decode b_R_node 7 = .ok (.iconst 0, 1) := by decide +kernel
theorem d_R_node_8 : decode b_R_node 8 = .ok (.ireturn, 1) := by decide +kernel
theorem d_R_node_9 : decode b_R_node 9 = .ok (.aload_n 0, 1) := by decide +kernel
theorem d_R_node_10 : decode b_R_node 10 = .ok (.getfield 58, 3) := by decide +kernel
theorem d_R_node_13 : decode b_R_node 13 = .ok (.aload_n 0, 1) := by decide +kernel
theorem d_R_node_14 : decode b_R_node 14 = .ok (.getfield 28, 3) := by decide +kernel
theorem d_R_node_17 : decode b_R_node 17 = .ok (.iload_n 1, 1) := by decide +kernel
theorem d_R_node_18 : decode b_R_node 18 = .ok (.iload_n 2, 1) := by decide +kernel
theorem d_R_node_19 : decode b_R_node 19 = .ok (.aload_n 0, 1) := by decide +kernel
theorem d_R_node_20 : decode b_R_node 20 = .ok (.getfield 18, 3) := by decide +kernel
theorem d_R_node_23 : decode b_R_node 23 = .ok (.invokevirtual 117, 3) := by decide +kernel
theorem d_R_node_26 : decode b_R_node 26 = .ok (.aload_n 0, 1) := by decide +kernel
theorem d_R_node_27 : decode b_R_node 27 = .ok (.getfield 58, 3) := by decide +kernel
theorem d_R_node_30 : decode b_R_node 30 = .ok (.getfield 123, 3) := by decide +kernel
theorem d_R_node_33 : decode b_R_node 33 = .ok (.aload_n 0, 1) := by decide +kernel
theorem d_R_node_34 : decode b_R_node 34 = .ok (.getfield 28, 3) := by decide +kernel
theorem d_R_node_37 : decode b_R_node 37 = .ok (.aload_n 0, 1) := by decide +kernel
theorem d_R_node_38 : decode b_R_node 38 = .ok (.getfield 54, 3) := by decide +kernel
theorem d_R_node_41 : decode b_R_node 41 = .ok (.getfield 70, 3) := by decide +kernel
theorem d_R_node_44 : decode b_R_node 44 = .ok (.iastore, 1) := by decide +kernel
theorem d_R_node_45 : decode b_R_node 45 = .ok (.aload_n 0, 1) := by decide +kernel
theorem d_R_node_46 : decode b_R_node 46 = .ok (.dup, 1) := by decide +kernel
theorem d_R_node_47 : decode b_R_node 47 = .ok (.getfield 28, 3) := by decide +kernel
theorem d_R_node_50 : decode b_R_node 50 = .ok (.iconst 1, 1) := by decide +kernel
theorem d_R_node_51 : decode b_R_node 51 = .ok (.iadd, 1) := by decide +kernel
theorem d_R_node_52 : decode b_R_node 52 = .ok (.putfield 28, 3) := by decide +kernel
theorem d_R_node_55 : decode b_R_node 55 = .ok (.iconst 1, 1) := by decide +kernel
theorem d_R_node_56 : decode b_R_node 56 = .ok (.ireturn, 1) := by decide +kernel
set_option maxHeartbeats 4000000 in
set_option maxRecDepth 100000 in
theorem c_R_node (l : Launch) (D : va_G) (cI cJ cB cZ : ClassId) (aR aT aC aK aF aR0 aR1 aTb : Nat) (aC0 aC1 aC2 aC3 aC4 : Nat) (hd : Nat → Int32) (ar sz lv wh : Nat → Nat) (rs0 rq0 rp0 r10 r20 : Int32) (rf0 rb0 : Int64) (op0 fn fw nx1 ln1 k1 h1 : Int32) (le nd en st a1 : Nat) (f0 g0 : Int64) (hn : nd ≤ 300) (he : en < 21092) : Ci l D (tyl cI cJ cB cZ) y_R_node b_R_node 3 (some .boolean) ({ frames := 2, cells := 0, slots := 0, locals := 42 } : Room) [.ref aR, .int h1, .int (nI a1)] [(aR, .inr (5, [.ref aT, .ref aC, .ref aK, .ref aF, .ref aR0, .ref aR1, .int (nI le), .int op0, .int (nI nd), .int (nI en), .int rs0, .int rq0, .int rp0, .long rf0, .long rb0, .int r10, .int r20])), (aT, .inr (3, [.ref aF, .ref aTb, .int nx1, .int ln1, .int k1, .int (nI st), .long f0, .long g0])), (aF, .inr (0, [.int fn, .int fw])), (aC, .inr (1, [.ref aC0, .ref aC1, .ref aC2, .ref aC3, .ref aC4])), (aC0, .inl (cI, 21092, .inl hd)), (aC1, .inl (cI, 21092, .inl (fun j => nI (ar j)))), (aC2, .inl (cI, 21092, .inl (fun j => nI (sz j)))), (aC3, .inl (cI, 21092, .inl (fun j => nI (lv j)))), (aC4, .inl (cI, 21092, .inl (fun j => nI (wh j))))] (fun r u => ((nd < 300) ∧ r = (nI 1) ∧ u = [(aR, .inr (5, [.ref aT, .ref aC, .ref aK, .ref aF, .ref aR0, .ref aR1, .int (nI le), .int op0, .int (nI (nd + 1)), .int (nI (en + 1)), .int rs0, .int rq0, .int rp0, .long rf0, .long rb0, .int r10, .int r20])), (aT, .inr (3, [.ref aF, .ref aTb, .int nx1, .int ln1, .int k1, .int (nI st), .long f0, .long g0])), (aF, .inr (0, [.int fn, .int fw])), (aC, .inr (1, [.ref aC0, .ref aC1, .ref aC2, .ref aC3, .ref aC4])), (aC0, .inl (cI, 21092, .inl (upd hd en h1))), (aC1, .inl (cI, 21092, .inl (fun j => nI ((updN ar en a1) j)))), (aC2, .inl (cI, 21092, .inl (fun j => nI ((updN sz en 1) j)))), (aC3, .inl (cI, 21092, .inl (fun j => nI ((updN lv en le) j)))), (aC4, .inl (cI, 21092, .inl (fun j => nI ((updN wh en st) j))))]) ∨ ((nd = 300) ∧ r = (nI 0) ∧ u = [(aR, .inr (5, [.ref aT, .ref aC, .ref aK, .ref aF, .ref aR0, .ref aR1, .int (nI le), .int op0, .int (nI nd), .int (nI en), .int rs0, .int rq0, .int rp0, .long rf0, .long rb0, .int r10, .int r20])), (aT, .inr (3, [.ref aF, .ref aTb, .int nx1, .int ln1, .int k1, .int (nI st), .long f0, .long g0])), (aF, .inr (0, [.int (nI 5), .int (nI st)])), (aC, .inr (1, [.ref aC0, .ref aC1, .ref aC2, .ref aC3, .ref aC4])), (aC0, .inl (cI, 21092, .inl hd)), (aC1, .inl (cI, 21092, .inl (fun j => nI (ar j)))), (aC2, .inl (cI, 21092, .inl (fun j => nI (sz j)))), (aC3, .inl (cI, 21092, .inl (fun j => nI (lv j)))), (aC4, .inl (cI, 21092, .inl (fun j => nI (wh j))))])) := by
  refine met_i (own := "ProofReader$Parser") (by decide) rfl (Nat.le_of_ble_eq_true rfl) ?_
  intro p e s m args below meth c A Q S hA ret ls hl hW
  have hl : lv_has ls 3 [(0, .ref aR), (1, .int h1), (2, .int (nI a1))] := hl
  have hW : Wd D (tyl cI cJ cB cZ) A s s.heap s.heap [] [(aR, .inr (5, [.ref aT, .ref aC, .ref aK, .ref aF, .ref aR0, .ref aR1, .int (nI le), .int op0, .int (nI nd), .int (nI en), .int rs0, .int rq0, .int rp0, .long rf0, .long rb0, .int r10, .int r20])), (aT, .inr (3, [.ref aF, .ref aTb, .int nx1, .int ln1, .int k1, .int (nI st), .long f0, .long g0])), (aF, .inr (0, [.int fn, .int fw])), (aC, .inr (1, [.ref aC0, .ref aC1, .ref aC2, .ref aC3, .ref aC4])), (aC0, .inl (cI, 21092, .inl hd)), (aC1, .inl (cI, 21092, .inl (fun j => nI (ar j)))), (aC2, .inl (cI, 21092, .inl (fun j => nI (sz j)))), (aC3, .inl (cI, 21092, .inl (fun j => nI (lv j)))), (aC4, .inl (cI, 21092, .inl (fun j => nI (wh j))))] := hW
  refine lv_aload_n S.1 S.2.1 d_R_node_0 rfl (lv_at hl 0 rfl) ?_
  refine callV_i (wr := [(aC, .inr (1, [.ref aC0, .ref aC1, .ref aC2, .ref aC3, .ref aC4])), (aC0, .inl (cI, 21092, .inl hd)), (aC1, .inl (cI, 21092, .inl (fun j => nI (ar j)))), (aC2, .inl (cI, 21092, .inl (fun j => nI (sz j)))), (aC3, .inl (cI, 21092, .inl (fun j => nI (lv j)))), (aC4, .inl (cI, 21092, .inl (fun j => nI (wh j))))]) (wc := [(aR, .inr (5, [.ref aT, .ref aC, .ref aK, .ref aF, .ref aR0, .ref aR1, .int (nI le), .int op0, .int (nI nd), .int (nI en), .int rs0, .int rq0, .int rp0, .long rf0, .long rb0, .int r10, .int r20])), (aT, .inr (3, [.ref aF, .ref aTb, .int nx1, .int ln1, .int k1, .int (nI st), .long f0, .long g0])), (aF, .inr (0, [.int fn, .int fw]))]) (np := 0) (As := []) (rest := []) (c_R_counts l D cI cJ cB cZ aR aT aC aK aF aR0 aR1 aTb rs0 rq0 rp0 r10 r20 rf0 rb0 (nI le) op0 (nI en) fn fw nx1 ln1 k1 nd st f0 g0 (by first | omega | assumption | simp_all)) km_R_114 ki_R_counts kv_R_counts kz_R kk_R_counts (by decide +kernel) S hW hA ⟨Nat.le_of_ble_eq_true rfl, Nat.le_of_ble_eq_true rfl⟩ ⟨Nat.le_of_ble_eq_true rfl, Nat.le_of_ble_eq_true rfl⟩ rfl 0 rfl [0, 1, 2] [3, 4, 5, 6, 7, 8] rfl (by decide) rfl (by decide) (by decide) rfl hl.1 rfl (Nat.le_of_ble_eq_true rfl) d_R_node_1 (fun r u H locs hp hW => ?_)
  rcases hp with ⟨h_1, rfl, rfl⟩ | ⟨h_2, rfl, rfl⟩
  · have hW : Wd D (tyl cI cJ cB cZ) A s s.heap H locs [(aR, .inr (5, [.ref aT, .ref aC, .ref aK, .ref aF, .ref aR0, .ref aR1, .int (nI le), .int op0, .int (nI (nd + 1)), .int (nI en), .int rs0, .int rq0, .int rp0, .long rf0, .long rb0, .int r10, .int r20])), (aT, .inr (3, [.ref aF, .ref aTb, .int nx1, .int ln1, .int k1, .int (nI st), .long f0, .long g0])), (aF, .inr (0, [.int fn, .int fw])), (aC, .inr (1, [.ref aC0, .ref aC1, .ref aC2, .ref aC3, .ref aC4])), (aC0, .inl (cI, 21092, .inl hd)), (aC1, .inl (cI, 21092, .inl (fun j => nI (ar j)))), (aC2, .inl (cI, 21092, .inl (fun j => nI (sz j)))), (aC3, .inl (cI, 21092, .inl (fun j => nI (lv j)))), (aC4, .inl (cI, 21092, .inl (fun j => nI (wh j))))] := hW.sub [6, 7, 8, 0, 1, 2, 3, 4, 5] (by decide) rfl
    refine lv_if_ne (tgt := 9) S.1 S.2.1 d_R_node_4 (by decide) (fun _ => ?_) (fun h => absurd h (by decide))
    refine lv_aload_n S.1 S.2.1 d_R_node_9 rfl (lv_at hl 0 rfl) ?_
    refine g_get i_R S hW 0 rfl rfl 1 (by decide) kf_R_58 rfl d_R_node_10 ?_
    refine lv_aload_n S.1 S.2.1 d_R_node_13 rfl (lv_at hl 0 rfl) ?_
    refine g_get i_R S hW 0 rfl rfl 9 (by decide) kf_R_28 rfl d_R_node_14 ?_
    refine lv_iload_n S.1 S.2.1 d_R_node_17 rfl (lv_at hl 1 rfl) ?_
    refine lv_iload_n S.1 S.2.1 d_R_node_18 rfl (lv_at hl 2 rfl) ?_
    refine lv_aload_n S.1 S.2.1 d_R_node_19 rfl (lv_at hl 0 rfl) ?_
    refine g_get i_R S hW 0 rfl rfl 6 (by decide) kf_R_18 rfl d_R_node_20 ?_
    refine callV_v (wr := [(aR, .inr (5, [.ref aT, .ref aC, .ref aK, .ref aF, .ref aR0, .ref aR1, .int (nI le), .int op0, .int (nI (nd + 1)), .int (nI en), .int rs0, .int rq0, .int rp0, .long rf0, .long rb0, .int r10, .int r20])), (aT, .inr (3, [.ref aF, .ref aTb, .int nx1, .int ln1, .int k1, .int (nI st), .long f0, .long g0])), (aF, .inr (0, [.int fn, .int fw]))]) (wc := [(aC, .inr (1, [.ref aC0, .ref aC1, .ref aC2, .ref aC3, .ref aC4])), (aC0, .inl (cI, 21092, .inl hd)), (aC1, .inl (cI, 21092, .inl (fun j => nI (ar j)))), (aC2, .inl (cI, 21092, .inl (fun j => nI (sz j)))), (aC3, .inl (cI, 21092, .inl (fun j => nI (lv j)))), (aC4, .inl (cI, 21092, .inl (fun j => nI (wh j))))]) (np := 4) (As := [.int (nI en), .int h1, .int (nI a1), .int (nI le)]) (rest := []) (c_C_write l D cI cJ cB cZ aC aC0 aC1 aC2 aC3 aC4 hd ar sz lv wh en a1 le h1 (by first | omega | assumption | simp_all)) km_R_117 ki_C_write kv_C_write kz_C kk_C_write (by decide +kernel) S hW hA ⟨Nat.le_of_ble_eq_true rfl, Nat.le_of_ble_eq_true rfl⟩ ⟨Nat.le_of_ble_eq_true rfl, Nat.le_of_ble_eq_true rfl⟩ rfl 0 rfl [3, 4, 5, 6, 7, 8] [0, 1, 2] rfl (by decide) rfl (by decide) (by decide) rfl hl.1 rfl (Nat.le_of_ble_eq_true rfl) d_R_node_23 (fun u H locs hp hW => ?_)
    obtain rfl := hp
    have hW : Wd D (tyl cI cJ cB cZ) A s s.heap H locs [(aR, .inr (5, [.ref aT, .ref aC, .ref aK, .ref aF, .ref aR0, .ref aR1, .int (nI le), .int op0, .int (nI (nd + 1)), .int (nI en), .int rs0, .int rq0, .int rp0, .long rf0, .long rb0, .int r10, .int r20])), (aT, .inr (3, [.ref aF, .ref aTb, .int nx1, .int ln1, .int k1, .int (nI st), .long f0, .long g0])), (aF, .inr (0, [.int fn, .int fw])), (aC, .inr (1, [.ref aC0, .ref aC1, .ref aC2, .ref aC3, .ref aC4])), (aC0, .inl (cI, 21092, .inl (upd hd en h1))), (aC1, .inl (cI, 21092, .inl (fun j => nI ((updN ar en a1) j)))), (aC2, .inl (cI, 21092, .inl (fun j => nI ((updN sz en 1) j)))), (aC3, .inl (cI, 21092, .inl (fun j => nI ((updN lv en le) j)))), (aC4, .inl (cI, 21092, .inl (fun j => nI (wh j))))] := hW
    refine lv_aload_n S.1 S.2.1 d_R_node_26 rfl (lv_at hl 0 rfl) ?_
    refine g_get i_R S hW 0 rfl rfl 1 (by decide) kf_R_58 rfl d_R_node_27 ?_
    refine g_get i_C S hW 3 rfl rfl 4 (by decide) kf_R_123 rfl d_R_node_30 ?_
    refine lv_aload_n S.1 S.2.1 d_R_node_33 rfl (lv_at hl 0 rfl) ?_
    refine g_get i_R S hW 0 rfl rfl 9 (by decide) kf_R_28 rfl d_R_node_34 ?_
    refine lv_aload_n S.1 S.2.1 d_R_node_37 rfl (lv_at hl 0 rfl) ?_
    refine g_get i_R S hW 0 rfl rfl 0 (by decide) kf_R_54 rfl d_R_node_38 ?_
    refine g_get i_T S hW 1 rfl rfl 5 (by decide) kf_R_70 rfl d_R_node_41 ?_
    refine n_iast (ws2 := [(aR, .inr (5, [.ref aT, .ref aC, .ref aK, .ref aF, .ref aR0, .ref aR1, .int (nI le), .int op0, .int (nI (nd + 1)), .int (nI en), .int rs0, .int rq0, .int rp0, .long rf0, .long rb0, .int r10, .int r20])), (aT, .inr (3, [.ref aF, .ref aTb, .int nx1, .int ln1, .int k1, .int (nI st), .long f0, .long g0])), (aF, .inr (0, [.int fn, .int fw])), (aC, .inr (1, [.ref aC0, .ref aC1, .ref aC2, .ref aC3, .ref aC4])), (aC0, .inl (cI, 21092, .inl (upd hd en h1))), (aC1, .inl (cI, 21092, .inl (fun j => nI ((updN ar en a1) j)))), (aC2, .inl (cI, 21092, .inl (fun j => nI ((updN sz en 1) j)))), (aC3, .inl (cI, 21092, .inl (fun j => nI ((updN lv en le) j)))), (aC4, .inl (cI, 21092, .inl (upd (fun j => nI (wh j)) en (nI st))))]) S hW 8 0 rfl rfl (by decide) (by omega) rfl d_R_node_44 (fun H locs hW => ?_)
    have hW : Wd D (tyl cI cJ cB cZ) A s s.heap H locs [(aR, .inr (5, [.ref aT, .ref aC, .ref aK, .ref aF, .ref aR0, .ref aR1, .int (nI le), .int op0, .int (nI (nd + 1)), .int (nI en), .int rs0, .int rq0, .int rp0, .long rf0, .long rb0, .int r10, .int r20])), (aT, .inr (3, [.ref aF, .ref aTb, .int nx1, .int ln1, .int k1, .int (nI st), .long f0, .long g0])), (aF, .inr (0, [.int fn, .int fw])), (aC, .inr (1, [.ref aC0, .ref aC1, .ref aC2, .ref aC3, .ref aC4])), (aC0, .inl (cI, 21092, .inl (upd hd en h1))), (aC1, .inl (cI, 21092, .inl (fun j => nI ((updN ar en a1) j)))), (aC2, .inl (cI, 21092, .inl (fun j => nI ((updN sz en 1) j)))), (aC3, .inl (cI, 21092, .inl (fun j => nI ((updN lv en le) j)))), (aC4, .inl (cI, 21092, .inl (fun j => nI (updN wh en st j))))] := by have q := hW; rw [nI_upd] at q; exact q
    refine lv_aload_n S.1 S.2.1 d_R_node_45 rfl (lv_at hl 0 rfl) ?_
    refine lv_dup S.1 S.2.1 d_R_node_46 rfl ?_
    refine g_get i_R S hW 0 rfl rfl 9 (by decide) kf_R_28 rfl d_R_node_47 ?_
    refine lv_iconst (v := (nI 1)) S.1 S.2.1 d_R_node_50 (by decide) ?_
    refine n_iadd S d_R_node_51 ?_
    refine g_put (ws2 := [(aR, .inr (5, [.ref aT, .ref aC, .ref aK, .ref aF, .ref aR0, .ref aR1, .int (nI le), .int op0, .int (nI (nd + 1)), .int (nI (en + 1)), .int rs0, .int rq0, .int rp0, .long rf0, .long rb0, .int r10, .int r20])), (aT, .inr (3, [.ref aF, .ref aTb, .int nx1, .int ln1, .int k1, .int (nI st), .long f0, .long g0])), (aF, .inr (0, [.int fn, .int fw])), (aC, .inr (1, [.ref aC0, .ref aC1, .ref aC2, .ref aC3, .ref aC4])), (aC0, .inl (cI, 21092, .inl (upd hd en h1))), (aC1, .inl (cI, 21092, .inl (fun j => nI ((updN ar en a1) j)))), (aC2, .inl (cI, 21092, .inl (fun j => nI ((updN sz en 1) j)))), (aC3, .inl (cI, 21092, .inl (fun j => nI ((updN lv en le) j)))), (aC4, .inl (cI, 21092, .inl (fun j => nI (updN wh en st j))))]) i_R ft_R ft_R_ok n_R S hW 0 rfl rfl 9 (by decide) kf_R_28 rfl rfl rfl (Nat.le_of_ble_eq_true rfl) rfl d_R_node_52 (fun H locs hW => ?_)
    refine lv_iconst (v := (nI 1)) S.1 S.2.1 d_R_node_55 (by decide) ?_
    exact ret _ _ _ _ _ _ d_R_node_56 rfl (by first | exact (Or.inl ⟨(by first | omega | assumption | simp_all), rfl, rfl⟩) | exact (Or.inr ⟨(by first | omega | assumption | simp_all), rfl, rfl⟩)) hW
  · have hW : Wd D (tyl cI cJ cB cZ) A s s.heap H locs [(aR, .inr (5, [.ref aT, .ref aC, .ref aK, .ref aF, .ref aR0, .ref aR1, .int (nI le), .int op0, .int (nI nd), .int (nI en), .int rs0, .int rq0, .int rp0, .long rf0, .long rb0, .int r10, .int r20])), (aT, .inr (3, [.ref aF, .ref aTb, .int nx1, .int ln1, .int k1, .int (nI st), .long f0, .long g0])), (aF, .inr (0, [.int (nI 5), .int (nI st)])), (aC, .inr (1, [.ref aC0, .ref aC1, .ref aC2, .ref aC3, .ref aC4])), (aC0, .inl (cI, 21092, .inl hd)), (aC1, .inl (cI, 21092, .inl (fun j => nI (ar j)))), (aC2, .inl (cI, 21092, .inl (fun j => nI (sz j)))), (aC3, .inl (cI, 21092, .inl (fun j => nI (lv j)))), (aC4, .inl (cI, 21092, .inl (fun j => nI (wh j))))] := hW.sub [6, 7, 8, 0, 1, 2, 3, 4, 5] (by decide) rfl
    refine lv_if_ne (tgt := 9) S.1 S.2.1 d_R_node_4 (by decide) (fun h => absurd h (by decide)) (fun _ => ?_)
    refine lv_iconst (v := (nI 0)) S.1 S.2.1 d_R_node_7 (by decide) ?_
    exact ret _ _ _ _ _ _ d_R_node_8 rfl (by first | exact (Or.inl ⟨(by first | omega | assumption | simp_all), rfl, rfl⟩) | exact (Or.inr ⟨(by first | omega | assumption | simp_all), rfl, rfl⟩)) hW
theorem d_R_atomBegins_0 : decode b_R_atomBegins 0 = .ok (.aload_n 0, 1) := by decide +kernel
theorem d_R_atomBegins_1 : decode b_R_atomBegins 1 = .ok (.getfield 54, 3) := by decide +kernel
theorem d_R_atomBegins_4 : decode b_R_atomBegins 4 = .ok (.getfield 73, 3) := by decide +kernel
theorem d_R_atomBegins_7 : decode b_R_atomBegins 7 = .ok (.iconst 1, 1) := by decide +kernel
theorem d_R_atomBegins_8 : decode b_R_atomBegins 8 = .ok (.if_icmp .eq 26, 3) := by decide +kernel
theorem d_R_atomBegins_11 : decode b_R_atomBegins 11 = .ok (.aload_n 0, 1) := by decide +kernel
theorem d_R_atomBegins_12 : decode b_R_atomBegins 12 = .ok (.getfield 54, 3) := by decide +kernel
theorem d_R_atomBegins_15 : decode b_R_atomBegins 15 = .ok (.getfield 73, 3) := by decide +kernel
theorem d_R_atomBegins_18 : decode b_R_atomBegins 18 = .ok (.iconst 2, 1) := by decide +kernel
theorem d_R_atomBegins_19 : decode b_R_atomBegins 19 = .ok (.if_icmp .eq 15, 3) := by decide +kernel
theorem d_R_atomBegins_22 : decode b_R_atomBegins 22 = .ok (.aload_n 0, 1) := by decide +kernel
theorem d_R_atomBegins_23 : decode b_R_atomBegins 23 = .ok (.getfield 54, 3) := by decide +kernel
theorem d_R_atomBegins_26 : decode b_R_atomBegins 26 = .ok (.getfield 73, 3) := by decide +kernel
theorem d_R_atomBegins_29 : decode b_R_atomBegins 29 = .ok (.bipush 40, 2) := by decide +kernel
theorem d_R_atomBegins_31 : decode b_R_atomBegins 31 = .ok (.if_icmp .ne 7, 3) := by decide +kernel
theorem d_R_atomBegins_34 : decode b_R_atomBegins 34 = .ok (.iconst 1, 1) := by decide +kernel
theorem d_R_atomBegins_35 : decode b_R_atomBegins 35 = .ok (.goto 4, 3) := by decide +kernel
theorem d_R_atomBegins_38 : decode b_R_atomBegins 38 = .ok (.iconst 0, 1) := by decide +kernel
theorem d_R_atomBegins_39 : decode b_R_atomBegins 39 = .ok (.ireturn, 1) := by decide +kernel
set_option maxHeartbeats 4000000 in
set_option maxRecDepth 100000 in
theorem c_R_atomBegins (l : Launch) (D : va_G) (cI cJ cB cZ : ClassId) (aR aT aC aK aF aR0 aR1 aTb : Nat) (rs0 rq0 rp0 r10 r20 : Int32) (rf0 rb0 : Int64) (lv0 op0 nd0 en0 nx1 ln1 st1 : Int32) (k : Nat) (f0 g0 : Int64) (hk : k < 256) : Ci l D (tyl cI cJ cB cZ) y_R_atomBegins b_R_atomBegins 1 (some .boolean) ({ frames := 0, cells := 0, slots := 0, locals := 0 } : Room) [.ref aR] [(aR, .inr (5, [.ref aT, .ref aC, .ref aK, .ref aF, .ref aR0, .ref aR1, .int lv0, .int op0, .int nd0, .int en0, .int rs0, .int rq0, .int rp0, .long rf0, .long rb0, .int r10, .int r20])), (aT, .inr (3, [.ref aF, .ref aTb, .int nx1, .int ln1, .int (nI k), .int st1, .long f0, .long g0]))] (fun r u => ((k = 1 ∨ k = 2 ∨ k = 40) ∧ r = (nI 1) ∧ u = [(aR, .inr (5, [.ref aT, .ref aC, .ref aK, .ref aF, .ref aR0, .ref aR1, .int lv0, .int op0, .int nd0, .int en0, .int rs0, .int rq0, .int rp0, .long rf0, .long rb0, .int r10, .int r20])), (aT, .inr (3, [.ref aF, .ref aTb, .int nx1, .int ln1, .int (nI k), .int st1, .long f0, .long g0]))]) ∨ ((¬ (k = 1 ∨ k = 2 ∨ k = 40)) ∧ r = (nI 0) ∧ u = [(aR, .inr (5, [.ref aT, .ref aC, .ref aK, .ref aF, .ref aR0, .ref aR1, .int lv0, .int op0, .int nd0, .int en0, .int rs0, .int rq0, .int rp0, .long rf0, .long rb0, .int r10, .int r20])), (aT, .inr (3, [.ref aF, .ref aTb, .int nx1, .int ln1, .int (nI k), .int st1, .long f0, .long g0]))])) := by
  refine met_i (own := "ProofReader$Parser") (by decide) rfl (Nat.le_of_ble_eq_true rfl) ?_
  intro p e s m args below meth c A Q S hA ret ls hl hW
  have hl : lv_has ls 1 [(0, .ref aR)] := hl
  have hW : Wd D (tyl cI cJ cB cZ) A s s.heap s.heap [] [(aR, .inr (5, [.ref aT, .ref aC, .ref aK, .ref aF, .ref aR0, .ref aR1, .int lv0, .int op0, .int nd0, .int en0, .int rs0, .int rq0, .int rp0, .long rf0, .long rb0, .int r10, .int r20])), (aT, .inr (3, [.ref aF, .ref aTb, .int nx1, .int ln1, .int (nI k), .int st1, .long f0, .long g0]))] := hW
  refine lv_aload_n S.1 S.2.1 d_R_atomBegins_0 rfl (lv_at hl 0 rfl) ?_
  refine g_get i_R S hW 0 rfl rfl 0 (by decide) kf_R_54 rfl d_R_atomBegins_1 ?_
  refine g_get i_T S hW 1 rfl rfl 4 (by decide) kf_R_73 rfl d_R_atomBegins_4 ?_
  refine lv_iconst (v := (nI 1)) S.1 S.2.1 d_R_atomBegins_7 (by decide) ?_
  refine n_icmp_eq (tgt := 34) S (by omega) (by omega) d_R_atomBegins_8 (by decide) (fun c_8 => ?_) (fun c_8 => ?_)
  · refine lv_iconst (v := (nI 1)) S.1 S.2.1 d_R_atomBegins_34 (by decide) ?_
    refine lv_goto (tgt := 39) S.1 S.2.1 d_R_atomBegins_35 (by decide) ?_
    exact ret _ _ _ _ _ _ d_R_atomBegins_39 rfl (by first | exact (Or.inl ⟨(by first | omega | assumption | simp_all), rfl, rfl⟩) | exact (Or.inr ⟨(by first | omega | assumption | simp_all), rfl, rfl⟩)) hW
  · refine lv_aload_n S.1 S.2.1 d_R_atomBegins_11 rfl (lv_at hl 0 rfl) ?_
    refine g_get i_R S hW 0 rfl rfl 0 (by decide) kf_R_54 rfl d_R_atomBegins_12 ?_
    refine g_get i_T S hW 1 rfl rfl 4 (by decide) kf_R_73 rfl d_R_atomBegins_15 ?_
    refine lv_iconst (v := (nI 2)) S.1 S.2.1 d_R_atomBegins_18 (by decide) ?_
    refine n_icmp_eq (tgt := 34) S (by omega) (by omega) d_R_atomBegins_19 (by decide) (fun c_19 => ?_) (fun c_19 => ?_)
    · refine lv_iconst (v := (nI 1)) S.1 S.2.1 d_R_atomBegins_34 (by decide) ?_
      refine lv_goto (tgt := 39) S.1 S.2.1 d_R_atomBegins_35 (by decide) ?_
      exact ret _ _ _ _ _ _ d_R_atomBegins_39 rfl (by first | exact (Or.inl ⟨(by first | omega | assumption | simp_all), rfl, rfl⟩) | exact (Or.inr ⟨(by first | omega | assumption | simp_all), rfl, rfl⟩)) hW
    · refine lv_aload_n S.1 S.2.1 d_R_atomBegins_22 rfl (lv_at hl 0 rfl) ?_
      refine g_get i_R S hW 0 rfl rfl 0 (by decide) kf_R_54 rfl d_R_atomBegins_23 ?_
      refine g_get i_T S hW 1 rfl rfl 4 (by decide) kf_R_73 rfl d_R_atomBegins_26 ?_
      refine lv_bipush (v := (nI 40)) S.1 S.2.1 d_R_atomBegins_29 (by decide) ?_
      refine n_icmp_ne (tgt := 38) S (by omega) (by omega) d_R_atomBegins_31 (by decide) (fun c_31 => ?_) (fun c_31 => ?_)
      · refine lv_iconst (v := (nI 0)) S.1 S.2.1 d_R_atomBegins_38 (by decide) ?_
        exact ret _ _ _ _ _ _ d_R_atomBegins_39 rfl (by first | exact (Or.inl ⟨(by first | omega | assumption | simp_all), rfl, rfl⟩) | exact (Or.inr ⟨(by first | omega | assumption | simp_all), rfl, rfl⟩)) hW
      · refine lv_iconst (v := (nI 1)) S.1 S.2.1 d_R_atomBegins_34 (by decide) ?_
        refine lv_goto (tgt := 39) S.1 S.2.1 d_R_atomBegins_35 (by decide) ?_
        exact ret _ _ _ _ _ _ d_R_atomBegins_39 rfl (by first | exact (Or.inl ⟨(by first | omega | assumption | simp_all), rfl, rfl⟩) | exact (Or.inr ⟨(by first | omega | assumption | simp_all), rfl, rfl⟩)) hW
