/-! what stands in the rows of nodes behind a part of the parser -/
def rmP (d : Nat) : Room := { frames := d + 8, cells := 0, slots := 0, locals := 40 * d + 400 }
def Plc (wh : Nat → Nat) : Nat → List Nat → Prop
  | _, [] => True
  | z, x :: l => wh z = x ∧ Plc wh (z + 1) l
theorem Plc.app {wh : Nat → Nat} : ∀ {l1 l2 : List Nat} {z : Nat}, Plc wh z l1 → Plc wh (z + l1.length) l2 → Plc wh z (l1 ++ l2) := by
  intro l1
  induction l1 with
  | nil => intro l2 z _ h; exact h
  | cons x l ih =>
    intro l2 z h1 h2
    refine ⟨h1.1, ih h1.2 ?_⟩
    rw [show z + 1 + l.length = z + (x :: l).length by simp; omega]
    exact h2
theorem Plc.congr {wh wh' : Nat → Nat} : ∀ {l : List Nat} {z : Nat}, (∀ j, z ≤ j → j < z + l.length → wh' j = wh j) → Plc wh z l → Plc wh' z l := by
  intro l
  induction l with
  | nil => intros; trivial
  | cons x l ih =>
    intro z h hp
    simp only [List.length_cons] at h
    exact ⟨(h z (Nat.le_refl _) (by omega)).trans hp.1, ih (fun j a b => h j (by omega) (by omega)) hp.2⟩
theorem Plc.shift {wh wh' : Nat → Nat} : ∀ {l : List Nat} {z z' : Nat}, (∀ j, j < l.length → wh' (z' + j) = wh (z + j)) → Plc wh z l → Plc wh' z' l := by
  intro l
  induction l with
  | nil => intros; trivial
  | cons x l ih =>
    intro z z' h hp
    simp only [List.length_cons] at h
    refine ⟨(h 0 (by omega)).trans hp.1, ih (fun j a => ?_) hp.2⟩
    have := h (1 + j) (by omega)
    rw [show z' + (1 + j) = z' + 1 + j by omega, show z + (1 + j) = z + 1 + j by omega] at this
    exact this
/-- below z the rows are the same -/
def Agr (z : Nat) (hd hd' : Nat → Int32) (ar ar' sz sz' lv lv' wh wh' : Nat → Nat) : Prop := ∀ j, j < z → hd' j = hd j ∧ ar' j = ar j ∧ sz' j = sz j ∧ lv' j = lv j ∧ wh' j = wh j
theorem Agr.rfl' {z : Nat} {hd : Nat → Int32} {ar sz lv wh : Nat → Nat} : Agr z hd hd ar ar sz sz lv lv wh wh := fun _ _ => ⟨rfl, rfl, rfl, rfl, rfl⟩
theorem Agr.tr {z z' : Nat} {hd hd' hd'' : Nat → Int32} {ar ar' ar'' sz sz' sz'' lv lv' lv'' wh wh' wh'' : Nat → Nat} (h : Agr z hd hd' ar ar' sz sz' lv lv' wh wh') (h' : Agr z' hd' hd'' ar' ar'' sz' sz'' lv' lv'' wh' wh'') (hz : z ≤ z') : Agr z hd hd'' ar ar'' sz sz'' lv lv'' wh wh'' := fun j hj => by
  obtain ⟨a1, a2, a3, a4, a5⟩ := h j hj
  obtain ⟨b1, b2, b3, b4, b5⟩ := h' j (by omega)
  exact ⟨b1.trans a1, b2.trans a2, b3.trans a3, b4.trans a4, b5.trans a5⟩
theorem Agr.node {z : Nat} {hd : Nat → Int32} {ar sz lv wh : Nat → Nat} {h : Int32} {a s l w : Nat} : Agr z hd (upd hd z h) ar (updN ar z a) sz (updN sz z s) lv (updN lv z l) wh (updN wh z w) := fun j hj => by
  have : j ≠ z := by omega
  exact ⟨by simp [upd, this], updN_ne this, updN_ne this, updN_ne this, updN_ne this⟩
theorem Agr.sz {z p0 : Nat} {hd hd' : Nat → Int32} {ar ar' sz sz' lv lv' wh wh' : Nat → Nat} {x : Nat} (h : Agr z hd hd' ar ar' sz sz' lv lv' wh wh') (hp : z ≤ p0) : Agr z hd hd' ar ar' sz (updN sz' p0 x) lv lv' wh wh' := fun j hj => by
  obtain ⟨a1, a2, a3, a4, a5⟩ := h j hj
  exact ⟨a1, a2, (updN_ne (by omega)).trans a3, a4, a5⟩
theorem Agr.ar {z p0 : Nat} {hd hd' : Nat → Int32} {ar ar' sz sz' lv lv' wh wh' : Nat → Nat} {x : Nat} (h : Agr z hd hd' ar ar' sz sz' lv lv' wh wh') (hp : z ≤ p0) : Agr z hd hd' ar (updN ar' p0 x) sz sz' lv lv' wh wh' := fun j hj => by
  obtain ⟨a1, a2, a3, a4, a5⟩ := h j hj
  exact ⟨a1, (updN_ne (by omega)).trans a2, a3, a4, a5⟩
theorem Rows.agr {z0 : Nat} {hd hd' : Nat → Int32} {ar ar' sz sz' lv lv' wh wh' : Nat → Nat} {e : Ex} {z L : Nat} (h : Agr z0 hd hd' ar ar' sz sz' lv lv' wh wh') (hz : z + nsz e ≤ z0) (hr : Rows hd ar sz lv e z L) : Rows hd' ar' sz' lv' e z L := Rows.congr e z L (fun j _ b => by obtain ⟨a1, a2, a3, a4, _⟩ := h j (by omega); exact ⟨a1, a2, a3, a4⟩) hr
theorem Plc.agr {z0 : Nat} {hd hd' : Nat → Int32} {ar ar' sz sz' lv lv' wh wh' : Nat → Nat} {l : List Nat} {z : Nat} (h : Agr z0 hd hd' ar ar' sz sz' lv lv' wh wh') (hz : z + l.length ≤ z0) (hr : Plc wh z l) : Plc wh' z l := Plc.congr (fun j _ b => (h j (by omega)).2.2.2.2) hr
/-- an expression was read: it stands in the rows from z on -/
def POk (b : Nat → Nat) (ln L z nd : Nat) (e : Ex) (pl : List Nat) (k1 st1 nx1 n1 : Nat) (f1 g1 : Int64) (hd1 : Nat → Int32) (ar1 sz1 lv1 wh1 : Nat → Nat) : Prop :=
  Cur b ln k1 st1 nx1 f1 g1 ∧ wf true e ∧ hds 88 e ∧ Rows hd1 ar1 sz1 lv1 e z L ∧ Plc wh1 z pl ∧ pl.length = nsz e ∧ n1 = nd + nsz e ∧ n1 ≤ 300 ∧ z + nsz e + (ln - st1) ≤ 8192
section PO
variable {b : Nat → Nat} {ln L z nd k st nx k1 st1 nx1 : Nat} {f0 g0 f1 g1 : Int64} {hd : Nat → Int32} {ar sz lv wh : Nat → Nat}
theorem pok_app {h : Nat} (h0 : Cur b ln k st nx f0 g0) (hk : k ≠ 0) (hn : nd < 300) (hE : z + (ln - st) ≤ 8192) (hh : h < 88) (h1 : Cur b ln k1 st1 nx1 f1 g1) (hs : nx ≤ st1) : POk b ln L z nd (.pow (.var 0) h) [st] k1 st1 nx1 (nd + 1) f1 g1 (upd hd z (nI h)) (updN ar z 0) (updN sz z 1) (updN lv z L) (updN wh z st) := by
  have a := h0.2.2.1 hk
  have a2 := h0.1
  refine ⟨h1, rfl, ⟨hh, trivial⟩, ⟨by simp [upd], updN_same, updN_same, updN_same, trivial⟩, ⟨updN_same, trivial⟩, rfl, rfl, by omega, ?_⟩
  show z + 1 + _ ≤ _
  omega
theorem pok_type (h0 : Cur b ln k st nx f0 g0) (hk : k ≠ 0) (hn : nd < 300) (hE : z + (ln - st) ≤ 8192) (h1 : Cur b ln k1 st1 nx1 f1 g1) (hs : nx ≤ st1) : POk b ln L z nd (.num 0) [st] k1 st1 nx1 (nd + 1) f1 g1 (upd hd z (-2)) (updN ar z 0) (updN sz z 1) (updN lv z L) (updN wh z st) := by
  have a := h0.2.2.1 hk
  have a2 := h0.1
  refine ⟨h1, rfl, trivial, ⟨by simp [upd], updN_same, updN_same, updN_same⟩, ⟨updN_same, trivial⟩, rfl, rfl, by omega, ?_⟩
  show z + 1 + _ ≤ _
  omega
theorem POk.tok {e : Ex} {pl : List Nat} {n1 k2 st2 nx2 : Nat} {f2 g2 : Int64} (h : POk b ln L z nd e pl k1 st1 nx1 n1 f1 g1 hd ar sz lv wh) (h2 : Cur b ln k2 st2 nx2 f2 g2) (hs : nx1 ≤ st2) : POk b ln L z nd e pl k2 st2 nx2 n1 f2 g2 hd ar sz lv wh := by
  obtain ⟨a1, a2, a3, a4, a5, a6, a7, a8, a9⟩ := h
  have := a1.2.1
  exact ⟨h2, a2, a3, a4, a5, a6, a7, a8, by omega⟩
theorem pok_prod {x y : Ex} {px py : List Nat} {k4 st4 nx4 n4 k6 st6 nx6 n6 : Nat} {f4 g4 f6 g6 : Int64} {hd4 hd6 : Nat → Int32} {ar4 sz4 lv4 wh4 ar6 sz6 lv6 wh6 : Nat → Nat} {s0 : Nat}
    (hA : POk b ln L (z + 1) (nd + 1) x px k4 st4 nx4 n4 f4 g4 hd4 ar4 sz4 lv4 wh4) (gA : Agr (z + 1) (upd hd z (-3)) hd4 (updN ar z 2) ar4 (updN sz z s0) sz4 (updN lv z L) lv4 (updN wh z st) wh4)
    (hB : POk b ln (L + 1) (z + 1 + nsz x) n4 y py k6 st6 nx6 n6 f6 g6 hd6 ar6 sz6 lv6 wh6) (gB : Agr (z + 1 + nsz x) hd4 hd6 ar4 ar6 sz4 sz6 lv4 lv6 wh4 wh6) :
    POk b ln L z nd (.mul x y) (st :: (px ++ py)) k6 st6 nx6 n6 f6 g6 hd6 ar6 (updN sz6 z (z + 1 + nsz x + nsz y - z)) lv6 wh6 ∧ Agr z hd hd6 ar ar6 sz (updN sz6 z (z + 1 + nsz x + nsz y - z)) lv lv6 wh wh6 := by
  obtain ⟨a1, a2, a3, a4, a5, a6, a7, a8, a9⟩ := hA
  obtain ⟨b1, b2, b3, b4, b5, b6, b7, b8, b9⟩ := hB
  obtain ⟨q1, q2, q3, q4, q5⟩ := gA z (by omega)
  obtain ⟨w1, w2, w3, w4, w5⟩ := gB z (by omega)
  have hpx : 0 < nsz x := nsz_pos a2
  have up : ∀ j, z < j → updN sz6 z (z + 1 + nsz x + nsz y - z) j = sz6 j := fun j h => updN_ne (by omega)
  refine ⟨⟨b1, ⟨a2, b2⟩, ⟨a3, b3⟩, ⟨?_, ?_, ?_, ?_, ?_, ?_⟩, ⟨?_, ?_⟩, ?_, ?_, b8, ?_⟩, ?_⟩
  · rw [w1, q1]; simp [upd]
  · rw [w2, q2]; simp [updN]
  · rw [updN_same]; omega
  · rw [w4, q4]; simp [updN]
  · exact Rows.congr x _ _ (fun j h1 h2 => ⟨rfl, rfl, up j (by omega), rfl⟩) (Rows.agr gB (Nat.le_refl _) a4)
  · exact Rows.congr y _ _ (fun j h1 h2 => ⟨rfl, rfl, up j (by omega), rfl⟩) b4
  · rw [w5, q5]; simp [updN]
  · exact Plc.app (Plc.agr gB (by omega) a5) (by rw [a6]; exact b5)
  · simp only [List.length_cons, List.length_append, nsz]; omega
  · simp only [nsz]; omega
  · simp only [nsz]; omega
  · exact ((Agr.node.tr gA (by omega)).tr gB (by omega)).sz (Nat.le_refl _)
theorem pok_fun {y : Ex} {py : List Nat} {k6 st6 nx6 n6 : Nat} {f6 g6 : Int64} {hd6 : Nat → Int32} {ar6 sz6 lv6 wh6 : Nat → Nat} {s0 : Nat}
    (hB : POk b ln (L + 1) (z + 1) (nd + 1) y py k6 st6 nx6 n6 f6 g6 hd6 ar6 sz6 lv6 wh6) (gB : Agr (z + 1) (upd hd z (-4)) hd6 (updN ar z 1) ar6 (updN sz z s0) sz6 (updN lv z L) lv6 (updN wh z st) wh6) :
    POk b ln L z nd (.neg y) (st :: py) k6 st6 nx6 n6 f6 g6 hd6 ar6 (updN sz6 z (z + 1 + nsz y - z)) lv6 wh6 ∧ Agr z hd hd6 ar ar6 sz (updN sz6 z (z + 1 + nsz y - z)) lv lv6 wh wh6 := by
  obtain ⟨b1, b2, b3, b4, b5, b6, b7, b8, b9⟩ := hB
  obtain ⟨w1, w2, w3, w4, w5⟩ := gB z (by omega)
  have up : ∀ j, z < j → updN sz6 z (z + 1 + nsz y - z) j = sz6 j := fun j h => updN_ne (by omega)
  refine ⟨⟨b1, b2, b3, ⟨?_, ?_, ?_, ?_, ?_⟩, ⟨?_, b5⟩, ?_, ?_, b8, ?_⟩, ?_⟩
  · rw [w1]; simp [upd]
  · rw [w2]; simp [updN]
  · rw [updN_same]; omega
  · rw [w4]; simp [updN]
  · exact Rows.congr y _ _ (fun j h1 h2 => ⟨rfl, rfl, up j (by omega), rfl⟩) b4
  · rw [w5]; simp [updN]
  · simp only [List.length_cons, nsz]; omega
  · simp only [nsz]; omega
  · simp only [nsz]; omega
  · exact (Agr.node.tr gB (by omega)).sz (Nat.le_refl _)
/-- S -> F: the rows of S are moved by one, a product's node is put before them -/
theorem pok_arrow {x y : Ex} {px py : List Nat} {n4 k6 st6 nx6 n6 : Nat} {f6 g6 : Int64} {hd6 : Nat → Int32} {ar6 sz6 lv6 wh6 : Nat → Nat} {s0 : Nat}
    (hA : POk b ln L z nd x px k1 st1 nx1 n4 f1 g1 hd ar sz lv wh)
    (hB : POk b ln (L + 1) (z + nsz x + 1) (n4 + 1) y py k6 st6 nx6 n6 f6 g6 hd6 ar6 sz6 lv6 wh6) (gB : Agr (z + nsz x + 1) (upd (va_cpy hd hd z (z + 1) (nsz x)) z (-3)) hd6 (updN (va_cpy ar ar z (z + 1) (nsz x)) z 2) ar6 (updN (va_cpy sz sz z (z + 1) (nsz x)) z s0) sz6 (updN (va_cpy lv lv z (z + 1) (nsz x)) z L) lv6 (va_cpy wh wh z (z + 1) (nsz x)) wh6) :
    POk b ln L z nd (.mul x y) (px.headD 0 :: (px ++ py)) k6 st6 nx6 n6 f6 g6 hd6 ar6 (updN sz6 z (z + nsz x + 1 + nsz y - z)) lv6 wh6 ∧ Agr z hd hd6 ar ar6 sz (updN sz6 z (z + nsz x + 1 + nsz y - z)) lv lv6 wh wh6 := by
  obtain ⟨a1, a2, a3, a4, a5, a6, a7, a8, a9⟩ := hA
  obtain ⟨b1, b2, b3, b4, b5, b6, b7, b8, b9⟩ := hB
  obtain ⟨w1, w2, w3, w4, w5⟩ := gB z (by omega)
  have hpx : 0 < nsz x := nsz_pos a2
  have up : ∀ j, z < j → updN sz6 z (z + nsz x + 1 + nsz y - z) j = sz6 j := fun j h => updN_ne (by omega)
  have mv : ∀ {α : Type} (f : Nat → α) (j : Nat), j < nsz x → va_cpy f f z (z + 1) (nsz x) (z + 1 + j) = f (z + j) := fun f j h => by
    rw [pk_cpy_in (by omega) (by omega)]; congr 1; omega
  have m0 : ∀ {α : Type} (f : Nat → α), va_cpy f f z (z + 1) (nsz x) z = f z := fun f => pk_cpy_out (Or.inl (by omega))
  have hrx : Rows hd6 ar6 sz6 lv6 x (z + 1) L := by
    refine Rows.shift x z (z + 1) L (fun j hj => ?_) a4
    obtain ⟨c1, c2, c3, c4, _⟩ := gB (z + 1 + j) (by omega)
    have ne : z + 1 + j ≠ z := by omega
    refine ⟨?_, ?_, ?_, ?_⟩
    · rw [c1]; simp only [upd, if_neg ne]; exact mv hd j hj
    · rw [c2, updN_ne ne]; exact mv ar j hj
    · rw [c3, updN_ne ne]; exact mv sz j hj
    · rw [c4, updN_ne ne]; exact mv lv j hj
  have hpl : Plc wh6 (z + 1) px := Plc.shift (z := z) (fun j hj => by
    rw [(gB (z + 1 + j) (by omega)).2.2.2.2]; exact mv wh j (by omega)) a5
  have hwh : wh6 z = px.headD 0 := by
    rw [w5, m0]
    cases px with
    | nil => simp at a6; omega
    | cons w l => exact a5.1
  refine ⟨⟨b1, ⟨a2, b2⟩, ⟨a3, b3⟩, ⟨?_, ?_, ?_, ?_, ?_, ?_⟩, ⟨hwh, ?_⟩, ?_, ?_, b8, ?_⟩, fun j hj => ?_⟩
  · rw [w1]; simp [upd]
  · rw [w2]; simp [updN]
  · rw [updN_same]; omega
  · rw [w4]; simp [updN]
  · exact Rows.congr x _ _ (fun j h1 h2 => ⟨rfl, rfl, up j (by omega), rfl⟩) hrx
  · rw [show z + 1 + nsz x = z + nsz x + 1 by omega]
    exact Rows.congr y _ _ (fun j h1 h2 => ⟨rfl, rfl, up j (by omega), rfl⟩) b4
  · exact Plc.app hpl (by rw [a6, show z + 1 + nsz x = z + nsz x + 1 by omega]; exact b5)
  · simp only [List.length_cons, List.length_append, nsz]; omega
  · simp only [nsz]; omega
  · simp only [nsz]; omega
  · obtain ⟨c1, c2, c3, c4, c5⟩ := gB j (by omega)
    have ne : j ≠ z := by omega
    have mo : ∀ {α : Type} (f : Nat → α), va_cpy f f z (z + 1) (nsz x) j = f j := fun f => pk_cpy_out (Or.inl (by omega))
    refine ⟨?_, ?_, ?_, ?_, ?_⟩
    · rw [c1]; simp only [upd, if_neg ne]; exact mo hd
    · rw [c2, updN_ne ne]; exact mo ar
    · rw [updN_ne ne, c3, updN_ne ne]; exact mo sz
    · rw [c4, updN_ne ne]; exact mo lv
    · rw [c5]; exact mo wh
end PO
theorem KeyR.push {sc : List Key} {sF sB : Nat → Int64} (h : KeyR sc sF sB) (x y : Int64) : KeyR (sc ++ [(x, y)]) (vp_updL sF sc.length x) (vp_updL sB sc.length y) := by
  intro i hi
  simp only [List.length_append, List.length_cons, List.length_nil] at hi
  rcases Nat.lt_or_ge i sc.length with q | q
  · rw [List.getElem?_append_left q, h i q]
    simp [vp_updL, show i ≠ sc.length by omega]
  · have : i = sc.length := by omega
    subst this
    rw [List.getElem?_append_right (Nat.le_refl _)]
    simp [vp_updL]
theorem KeyR.pop {sc : List Key} {k : Key} {sF sB : Nat → Int64} (h : KeyR (sc ++ [k]) sF sB) : KeyR sc sF sB := by
  intro i hi
  have := h i (by simp; omega)
  rwa [List.getElem?_append_left hi] at this
section PJ
variable {b : Nat → Nat} {ln : Nat} {cs sc : List Key} {o n k st nx : Nat}
-- mode 0: a product
theorem q_open (hk : k = 123) (h : o = 40 ∨ n = 300) : PRel b ln cs 0 sc o n (k, st, nx) (.inl (5, st)) := ⟨1, by subst hk; rw [pexp]; simp only [if_true]; rw [if_pos (by omega)]; rfl⟩
theorem q_n1 {k1 st1 nx1 ft : Nat} (hk : k = 123) (ho : o < 40) (hn : n < 300) (h1 : nxt b ln nx = (k1, st1, nx1)) (hf : k1 = 4 ∧ ft = 1 ∨ k1 ≠ 4 ∧ k1 ≠ 1 ∧ ft = 2) : PRel b ln cs 0 sc o n (k, st, nx) (.inl (ft, st1)) := ⟨1, by
  subst hk; rw [pexp]; simp only [if_true]; rw [if_neg (by omega)]
  rcases hf with ⟨rfl, rfl⟩ | ⟨a, c, rfl⟩
  · simp [advK, h1, bad]
  · simp [advK, h1, bad, a, c]⟩
theorem q_n2 {st1 nx1 k2 st2 nx2 ft : Nat} (hk : k = 123) (ho : o < 40) (hn : n < 300) (h1 : nxt b ln nx = (1, st1, nx1)) (h2 : nxt b ln nx1 = (k2, st2, nx2)) (hf : k2 = 4 ∧ ft = 1 ∨ k2 ≠ 4 ∧ k2 ≠ 58 ∧ ft = 2) : PRel b ln cs 0 sc o n (k, st, nx) (.inl (ft, st2)) := ⟨1, by
  subst hk; rw [pexp]; simp only [if_true]; rw [if_neg (by omega)]
  rcases hf with ⟨rfl, rfl⟩ | ⟨a, c, rfl⟩
  · simp [advK, h1, h2, bad]
  · simp [advK, h1, h2, bad, a, c]⟩
theorem q_a {st1 nx1 st2 nx2 : Nat} {x : Nat × Nat} (hk : k = 123) (ho : o < 40) (hn : n < 300) (h1 : nxt b ln nx = (1, st1, nx1)) (h2 : nxt b ln nx1 = (58, st2, nx2)) (h3 : PRel b ln cs 3 sc (o + 1) (n + 1) (58, st2, nx2) (.inl x)) : PRel b ln cs 0 sc o n (k, st, nx) (.inl x) := by
  obtain ⟨f, hf⟩ := h3
  exact ⟨f + 1, by subst hk; rw [pexp]; simp only [if_true]; rw [if_neg (by omega)]; simp [advK, h1, h2, hf, bindP]⟩
theorem q_c {st1 nx1 st2 nx2 k4 st4 nx4 n4 : Nat} {x : Ex} {px : List Nat} (hk : k = 123) (ho : o < 40) (hn : n < 300) (h1 : nxt b ln nx = (1, st1, nx1)) (h2 : nxt b ln nx1 = (58, st2, nx2)) (h3 : PRel b ln cs 3 sc (o + 1) (n + 1) (58, st2, nx2) (.inr (x, px, (k4, st4, nx4), n4))) (h4 : k4 ≠ 125) : PRel b ln cs 0 sc o n (k, st, nx) (.inl (2, st4)) := by
  obtain ⟨f, hf⟩ := h3
  exact ⟨f + 1, by subst hk; rw [pexp]; simp only [if_true]; rw [if_neg (by omega)]; simp [advK, h1, h2, hf, bindP, h4, bad]⟩
theorem q_b {st1 nx1 st2 nx2 st4 nx4 n4 : Nat} {x : Ex} {px : List Nat} {r : Nat × Nat} (hk : k = 123) (ho : o < 40) (hn : n < 300) (h1 : nxt b ln nx = (1, st1, nx1)) (h2 : nxt b ln nx1 = (58, st2, nx2)) (h3 : PRel b ln cs 3 sc (o + 1) (n + 1) (58, st2, nx2) (.inr (x, px, (125, st4, nx4), n4))) (h5 : PRel b ln cs 3 (sc ++ [(frn b st1 nx1, bkn b st1 nx1)]) (o + 1) n4 (125, st4, nx4) (.inl r)) : PRel b ln cs 0 sc o n (k, st, nx) (.inl r) := by
  obtain ⟨f, hf⟩ := h3
  obtain ⟨g, hg⟩ := h5
  have a := pexp_le (Nat.le_max_left f g) hf
  have c := pexp_le (Nat.le_max_right f g) hg
  exact ⟨max f g + 1, by subst hk; rw [pexp]; simp only [if_true]; rw [if_neg (by omega)]; simp [advK, h1, h2, a, c, bindP, keyOf]⟩
theorem q_ok {st1 nx1 st2 nx2 st4 nx4 n4 n6 : Nat} {x y : Ex} {px py : List Nat} {t6 : PT} (hk : k = 123) (ho : o < 40) (hn : n < 300) (h1 : nxt b ln nx = (1, st1, nx1)) (h2 : nxt b ln nx1 = (58, st2, nx2)) (h3 : PRel b ln cs 3 sc (o + 1) (n + 1) (58, st2, nx2) (.inr (x, px, (125, st4, nx4), n4))) (h5 : PRel b ln cs 3 (sc ++ [(frn b st1 nx1, bkn b st1 nx1)]) (o + 1) n4 (125, st4, nx4) (.inr (y, py, t6, n6))) : PRel b ln cs 0 sc o n (k, st, nx) (.inr (.mul x y, st :: (px ++ py), t6, n6)) := by
  obtain ⟨f, hf⟩ := h3
  obtain ⟨g, hg⟩ := h5
  have a := pexp_le (Nat.le_max_left f g) hf
  have c := pexp_le (Nat.le_max_right f g) hg
  exact ⟨max f g + 1, by subst hk; rw [pexp]; simp only [if_true]; rw [if_neg (by omega)]; simp [advK, h1, h2, a, c, bindP, keyOf]⟩
-- mode 0: a function
theorem r_open (hk : k = 91) (h : o = 40 ∨ n = 300) : PRel b ln cs 0 sc o n (k, st, nx) (.inl (5, st)) := ⟨1, by subst hk; rw [pexp]; simp only [if_true, show ¬ (91 : Nat) = 123 by decide, if_false]; rw [if_pos (by omega)]; rfl⟩
theorem r_n1 {k1 st1 nx1 ft : Nat} (hk : k = 91) (ho : o < 40) (hn : n < 300) (h1 : nxt b ln nx = (k1, st1, nx1)) (hf : k1 = 4 ∧ ft = 1 ∨ k1 ≠ 4 ∧ k1 ≠ 1 ∧ ft = 2) : PRel b ln cs 0 sc o n (k, st, nx) (.inl (ft, st1)) := ⟨1, by
  subst hk; rw [pexp]; simp only [if_true, show ¬ (91 : Nat) = 123 by decide, if_false]; rw [if_neg (by omega)]
  rcases hf with ⟨rfl, rfl⟩ | ⟨a, c, rfl⟩
  · simp [advK, h1, bad]
  · simp [advK, h1, bad, a, c]⟩
theorem r_n2 {st1 nx1 k2 st2 nx2 ft : Nat} (hk : k = 91) (ho : o < 40) (hn : n < 300) (h1 : nxt b ln nx = (1, st1, nx1)) (h2 : nxt b ln nx1 = (k2, st2, nx2)) (hf : k2 = 4 ∧ ft = 1 ∨ k2 ≠ 4 ∧ k2 ≠ 93 ∧ ft = 2) : PRel b ln cs 0 sc o n (k, st, nx) (.inl (ft, st2)) := ⟨1, by
  subst hk; rw [pexp]; simp only [if_true, show ¬ (91 : Nat) = 123 by decide, if_false]; rw [if_neg (by omega)]
  rcases hf with ⟨rfl, rfl⟩ | ⟨a, c, rfl⟩
  · simp [advK, h1, h2, bad]
  · simp [advK, h1, h2, bad, a, c]⟩
theorem r_b {st1 nx1 st2 nx2 : Nat} {r : Nat × Nat} (hk : k = 91) (ho : o < 40) (hn : n < 300) (h1 : nxt b ln nx = (1, st1, nx1)) (h2 : nxt b ln nx1 = (93, st2, nx2)) (h5 : PRel b ln cs 3 (sc ++ [(frn b st1 nx1, bkn b st1 nx1)]) (o + 1) (n + 1) (93, st2, nx2) (.inl r)) : PRel b ln cs 0 sc o n (k, st, nx) (.inl r) := by
  obtain ⟨f, hf⟩ := h5
  exact ⟨f + 1, by subst hk; rw [pexp]; simp only [if_true, show ¬ (91 : Nat) = 123 by decide, if_false]; rw [if_neg (by omega)]; simp [advK, h1, h2, hf, bindP, keyOf]⟩
theorem r_ok {st1 nx1 st2 nx2 n6 : Nat} {y : Ex} {py : List Nat} {t6 : PT} (hk : k = 91) (ho : o < 40) (hn : n < 300) (h1 : nxt b ln nx = (1, st1, nx1)) (h2 : nxt b ln nx1 = (93, st2, nx2)) (h5 : PRel b ln cs 3 (sc ++ [(frn b st1 nx1, bkn b st1 nx1)]) (o + 1) (n + 1) (93, st2, nx2) (.inr (y, py, t6, n6))) : PRel b ln cs 0 sc o n (k, st, nx) (.inr (.neg y, st :: py, t6, n6)) := by
  obtain ⟨f, hf⟩ := h5
  exact ⟨f + 1, by subst hk; rw [pexp]; simp only [if_true, show ¬ (91 : Nat) = 123 by decide, if_false]; rw [if_neg (by omega)]; simp [advK, h1, h2, hf, bindP, keyOf]⟩
-- mode 0: S, S -> F
theorem w_bad {x : Nat × Nat} (h1 : k ≠ 123) (h2 : k ≠ 91) (h : PRel b ln cs 1 sc o n (k, st, nx) (.inl x)) : PRel b ln cs 0 sc o n (k, st, nx) (.inl x) := by
  obtain ⟨f, hf⟩ := h
  exact ⟨f + 1, by rw [pexp]; simp [h1, h2, hf, bindP]⟩
theorem w_ok {e : Ex} {pl : List Nat} {k1 st1 nx1 n1 : Nat} (h1 : k ≠ 123) (h2 : k ≠ 91) (h : PRel b ln cs 1 sc o n (k, st, nx) (.inr (e, pl, (k1, st1, nx1), n1))) (h3 : k1 ≠ 3) : PRel b ln cs 0 sc o n (k, st, nx) (.inr (e, pl, (k1, st1, nx1), n1)) := by
  obtain ⟨f, hf⟩ := h
  exact ⟨f + 1, by rw [pexp]; simp [h1, h2, hf, bindP, h3]⟩
theorem w_open {e : Ex} {pl : List Nat} {k1 st1 nx1 n1 : Nat} (h1 : k ≠ 123) (h2 : k ≠ 91) (h : PRel b ln cs 1 sc o n (k, st, nx) (.inr (e, pl, (k1, st1, nx1), n1))) (h3 : k1 = 3) (ho : o = 40 ∨ n1 = 300) : PRel b ln cs 0 sc o n (k, st, nx) (.inl (5, st1)) := by
  obtain ⟨f, hf⟩ := h
  exact ⟨f + 1, by rw [pexp]; simp only [if_true, if_neg h1, if_neg h2, hf, bindP, h3]; rw [if_neg (by simp), if_pos (by omega)]; rfl⟩
theorem w_arr {e : Ex} {pl : List Nat} {k1 st1 nx1 n1 : Nat} (h1 : k ≠ 123) (h2 : k ≠ 91) (h : PRel b ln cs 1 sc o n (k, st, nx) (.inr (e, pl, (k1, st1, nx1), n1))) (h3 : k1 = 3) (ho : o < 40) (hn : n1 < 300) {r : PRes} (h5 : PRel b ln cs 3 (sc ++ [(0, 0)]) (o + 1) (n1 + 1) (k1, st1, nx1) r) : PRel b ln cs 0 sc o n (k, st, nx) (match r with | .inl x => .inl x | .inr (y, py, t2, n2) => .inr (.mul e y, pl.headD 0 :: (pl ++ py), t2, n2)) := by
  obtain ⟨f, hf⟩ := h
  obtain ⟨g, hg⟩ := h5
  have a := pexp_le (Nat.le_max_left f g) hf
  have c := pexp_le (Nat.le_max_right f g) hg
  refine ⟨max f g + 1, ?_⟩
  subst h3
  rw [pexp]
  simp only [if_true, if_neg h1, if_neg h2, a, bindP]
  rw [if_neg (by simp), if_neg (by omega)]
  simp only [c]
  cases r <;> rfl
end PJ
