/-! the text: its bytes, tokens and names -/
/-- bytes as a byte array holds them -/
def sby (b : Nat → Nat) : Nat → Int32 := fun j => (nI (b j)).toInt8.toInt32
def updN (f : Nat → Nat) (k x : Nat) : Nat → Nat := fun j => if j = k then x else f j
theorem updN_same {f : Nat → Nat} {k x : Nat} : updN f k x k = x := by simp [updN]
theorem updN_ne {f : Nat → Nat} {k x j : Nat} (h : j ≠ k) : updN f k x j = f j := by simp [updN, h]
theorem i8_idem (x : Int32) : x.toInt8.toInt32.toInt8.toInt32 = x.toInt8.toInt32 := by simp
theorem sby_upd (b : Nat → Nat) (k v : Nat) : upd (sby b) k ((nI v).toInt8.toInt32).toInt8.toInt32 = sby (updN b k v) := by
  funext j
  by_cases h : j = k
  · subst h; simp [upd, sby, updN]
  · simp [upd, sby, updN, h]
theorem sby_and {b : Nat → Nat} (hb : ∀ j, b j < 256) (i : Nat) : sby b i &&& nI 255 = nI (b i) := sc_k8 (b i) (hb i)
theorem nI_upd (f : Nat → Nat) (k v : Nat) : upd (fun j => nI (f j)) k (nI v) = fun j => nI (updN f k v j) := by
  funext j
  by_cases h : j = k
  · subst h; simp [upd, updN]
  · simp [upd, updN, h]
def isNm (b : Nat) : Prop := 97 ≤ b ∧ b ≤ 122 ∨ 65 ≤ b ∧ b ≤ 90 ∨ 48 ≤ b ∧ b ≤ 57 ∨ b = 95 ∨ b = 39
def isSg (b : Nat) : Prop := b = 40 ∨ b = 41 ∨ b = 46 ∨ b = 58 ∨ b = 61 ∨ b = 63 ∨ b = 91 ∨ b = 93 ∨ b = 123 ∨ b = 125
/-- q is where the blanks from p on end -/
def Skp (b : Nat → Nat) (len p q : Nat) : Prop := p ≤ q ∧ q ≤ len ∧ (∀ j, p ≤ j → j < q → b j ≤ 32) ∧ (q < len → 32 < b q)
/-- q is where the letters from p on end -/
def NmE (b : Nat → Nat) (len p q : Nat) : Prop := p ≤ q ∧ q ≤ len ∧ (∀ j, p ≤ j → j < q → isNm (b j)) ∧ (q < len → ¬ isNm (b q))
theorem Skp.uniq {b : Nat → Nat} {len p q q' : Nat} (h : Skp b len p q) (h' : Skp b len p q') : q = q' := by
  obtain ⟨a1, a2, a3, a4⟩ := h
  obtain ⟨c1, c2, c3, c4⟩ := h'
  rcases Nat.lt_trichotomy q q' with h | h | h
  · have := c3 q a1 h; have := a4 (by omega); omega
  · exact h
  · have := a3 q' c1 h; have := c4 (by omega); omega
theorem NmE.uniq {b : Nat → Nat} {len p q q' : Nat} (h : NmE b len p q) (h' : NmE b len p q') : q = q' := by
  obtain ⟨a1, a2, a3, a4⟩ := h
  obtain ⟨c1, c2, c3, c4⟩ := h'
  rcases Nat.lt_trichotomy q q' with h | h | h
  · exact absurd (c3 q a1 h) (a4 (by omega))
  · exact h
  · exact absurd (a3 q' c1 h) (c4 (by omega))
/-- n bytes from st on, the first one the lowest -/
def leN (b : Nat → Nat) (st : Nat) : Nat → Nat
  | 0 => 0
  | n + 1 => leN b st n + b (st + n) * 256 ^ n
theorem leN_lt {b : Nat → Nat} (hb : ∀ j, b j < 256) (st n : Nat) : leN b st n < 256 ^ n := by
  induction n with
  | zero => simp [leN]
  | succ n ih =>
    have h := hb (st + n)
    show leN b st n + b (st + n) * 256 ^ n < 256 ^ (n + 1)
    rw [Nat.pow_succ]
    have : b (st + n) * 256 ^ n ≤ 255 * 256 ^ n := Nat.mul_le_mul_right _ (by omega)
    omega
theorem p256 (n : Nat) : 256 ^ n = 2 ^ (8 * n) := by rw [Nat.pow_mul]
theorem le_or {b : Nat → Nat} (hb : ∀ j, b j < 256) (st : Nat) {n : Nat} (hn : n < 8) : lN (leN b st n) ||| ((nI (b (st + n))).toInt64 <<< ((nI (8 * n)).toInt64 &&& 63)) = lN (leN b st (n + 1)) := by
  have h := hb (st + n)
  rw [nI_l (by omega), wb_shl _ (by omega), ← p256]
  have h1 := leN_lt hb st n
  have h2 := leN_lt hb st (n + 1)
  have h3 : 256 ^ (n + 1) ≤ 256 ^ 8 := Nat.pow_le_pow_right (by decide) (by omega)
  exact g_or' (k := 8 * n) (p256 n).symm h1 (Nat.lt_of_lt_of_le h2 (by simpa using h3))
