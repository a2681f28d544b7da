/-- the letters from p to q are 'type' -/
def isTy (b : Nat → Nat) (z q : Nat) : Prop := q = z + 4 ∧ b z = 116 ∧ b (z + 1) = 121 ∧ b (z + 2) = 112 ∧ b (z + 3) = 101
/-- from p on: a token of kind k (0 the end, 1 a name, 2 TYPE, 3 ->, 4 a bad one, else its byte) from st to nx -/
def Tok (b : Nat → Nat) (len z k st nx : Nat) : Prop := Skp b len z st ∧ ((st = len ∧ k = 0 ∧ nx = len) ∨ (st < len ∧ isNm (b st) ∧ NmE b len st nx ∧ ((st + 12 < nx ∧ k = 4) ∨ (nx ≤ st + 12 ∧ isTy b st nx ∧ k = 2) ∨ (nx ≤ st + 12 ∧ ¬ isTy b st nx ∧ k = 1))) ∨ (st < len ∧ b st = 45 ∧ nx = st + 2 ∧ ((st + 1 < len ∧ b (st + 1) = 62 ∧ k = 3) ∨ (¬ (st + 1 < len ∧ b (st + 1) = 62) ∧ k = 4))) ∨ (st < len ∧ ¬ isNm (b st) ∧ b st ≠ 45 ∧ nx = st + 1 ∧ ((isSg (b st) ∧ k = b st) ∨ (¬ isSg (b st) ∧ k = 4))))
def frn (b : Nat → Nat) (st nx : Nat) : Int64 := lN (leN b st (min (nx - st) 8))
def bkn (b : Nat → Nat) (st nx : Nat) : Int64 := lN (leN b (st + 8) (min (nx - st - 8) 4))
/-- a good token was read: its kind and its place, and a name's bytes -/
def Adv (b : Nat → Nat) (len z k st nx : Nat) (f1 g1 : Int64) : Prop := Tok b len z k st nx ∧ k ≠ 4 ∧ nx ≤ len ∧ (k = 1 → f1 = frn b st nx ∧ g1 = bkn b st nx)
theorem lN_inj {x y : Nat} (hx : x < 2 ^ 64) (hy : y < 2 ^ 64) (h : lN x = lN y) : x = y := by
  have := congrArg (fun z => z.toBitVec.toNat) h
  simpa [wb_tn hx, wb_tn hy] using this
theorem leN_ge {b : Nat → Nat} {st n : Nat} : ∀ m, n < m → b (st + n) * 256 ^ n ≤ leN b st m := by
  intro m
  induction m with
  | zero => intro h; omega
  | succ m ih =>
    intro h
    show _ ≤ leN b st m + b (st + m) * 256 ^ m
    rcases Nat.lt_or_ge n m with z | z
    · have := ih z; omega
    · have : n = m := by omega
      subst this; omega
theorem leN_mono {b : Nat → Nat} {st : Nat} {n m : Nat} (h : n ≤ m) : leN b st n ≤ leN b st m := by
  induction m with
  | zero => have : n = 0 := by omega
            subst this; exact Nat.le_refl _
  | succ m ih =>
    rcases Nat.lt_or_ge n (m + 1) with z | z
    · have := ih (by omega)
      show _ ≤ leN b st m + b (st + m) * 256 ^ m
      omega
    · have : n = m + 1 := by omega
      subst this; exact Nat.le_refl _
theorem isTy_iff {b : Nat → Nat} (hb : ∀ j, b j < 256) {len z q : Nat} (hE : NmE b len z q) (h12 : q ≤ z + 12) (hz : z < q) : (frn b z q = 1701869940 ∧ bkn b z q = 0) ↔ isTy b z q := by
  have hlt8 : leN b z (min (q - z) 8) < 2 ^ 64 := Nat.lt_of_lt_of_le (leN_lt hb z _) (Nat.le_trans (Nat.pow_le_pow_right (by decide) (show min (q - z) 8 ≤ 8 by omega)) (by decide))
  have e4 : leN b z 4 = b z + b (z + 1) * 256 + b (z + 2) * 65536 + b (z + 3) * 16777216 := by simp [leN]
  have d0 := hb z
  have d1 := hb (z + 1)
  have d2 := hb (z + 2)
  have d3 := hb (z + 3)
  constructor
  · rintro ⟨h1, h2⟩
    have h3 : leN b z (min (q - z) 8) = 1701869940 := lN_inj hlt8 (by decide) h1
    have hn : q - z = 4 := by
      rcases Nat.lt_trichotomy (q - z) 4 with h | h | h
      · have a1 : leN b z (min (q - z) 8) ≤ leN b z 3 := leN_mono (by omega)
        have a2 := leN_lt hb z 3
        omega
      · exact h
      · have a1 := leN_ge (b := b) (st := z) (n := 4) (min (q - z) 8) (by omega)
        have a2 := hE.2.2.1 (z + 4) (by omega) (by omega)
        unfold isNm at a2
        have a3 : 39 * 256 ^ 4 ≤ b (z + 4) * 256 ^ 4 := Nat.mul_le_mul_right _ (by omega)
        omega
    rw [hn] at h3
    have h4 : leN b z 4 = 1701869940 := h3
    refine ⟨by omega, ?_, ?_, ?_, ?_⟩ <;> omega
  · rintro ⟨rfl, h1, h2, h3, h4⟩
    have hm : min (z + 4 - z) 8 = 4 := by omega
    have hm2 : min (z + 4 - z - 8) 4 = 0 := by omega
    refine ⟨?_, ?_⟩
    · show lN (leN b z (min (z + 4 - z) 8)) = _
      rw [hm, e4, h1, h2, h3, h4]; rfl
    · show lN (leN b (z + 8) (min (z + 4 - z - 8) 4)) = _
      rw [hm2]; rfl
theorem tk_nm {b : Nat → Nat} (hb : ∀ j, b j < 256) {ln z0 z q k : Nat} {f1 g1 : Int64} (hS : Skp b ln z0 z) (hz : z < ln) (hn : isNm (b z)) (hE : NmE b ln z q) (h12 : q ≤ z + 12) (hf : f1 = lN (leN b z (min (q - z) 8))) (hg : g1 = lN (leN b (z + 8) (min (q - z - 8) 4))) (hk : k = 2 ∧ f1 = 1701869940 ∧ g1 = 0 ∨ k = 1 ∧ ¬ (f1 = 1701869940 ∧ g1 = 0)) : Adv b ln z0 k z q f1 g1 := by
  have hq : z < q := by
    rcases Nat.lt_or_ge z q with h | h
    · exact h
    · have : q = z := Nat.le_antisymm h hE.1
      subst this; exact absurd hn (hE.2.2.2 hz)
  have hi := isTy_iff hb hE h12 hq
  rcases hk with ⟨rfl, a, c⟩ | ⟨rfl, a⟩
  · exact ⟨⟨hS, Or.inr (Or.inl ⟨hz, hn, hE, Or.inr (Or.inl ⟨h12, hi.mp ⟨hf.symm.trans a, hg.symm.trans c⟩, rfl⟩)⟩)⟩, by decide, hE.2.1, fun h => by cases h⟩
  · exact ⟨⟨hS, Or.inr (Or.inl ⟨hz, hn, hE, Or.inr (Or.inr ⟨h12, fun h => a (by have := hi.mpr h; exact ⟨hf.trans this.1, hg.trans this.2⟩), rfl⟩)⟩)⟩, by decide, hE.2.1, fun _ => ⟨hf, hg⟩⟩
theorem d_T_advance_0 : decode b_T_advance 0 = .ok (.aload_n 0, 1) := by decide +kernel
theorem d_T_advance_1 : decode b_T_advance 1 = .ok (.getfield 15, 3) := by decide +kernel
theorem d_T_advance_4 : decode b_T_advance 4 = .ok (.aload_n 0, 1) := by decide +kernel
theorem d_T_advance_5 : decode b_T_advance 5 = .ok (.getfield 19, 3) := by decide +kernel
theorem d_T_advance_8 : decode b_T_advance 8 = .ok (.if_icmp .ge 29, 3) := by decide +kernel
theorem d_T_advance_11 : decode b_T_advance 11 = .ok (.aload_n 0, 1) := by decide +kernel
theorem d_T_advance_12 : decode b_T_advance 12 = .ok (.aload_n 0, 1) := by decide +kernel
theorem d_T_advance_13 : decode b_T_advance 13 = .ok (.getfield 15, 3) := by decide +kernel
theorem d_T_advance_16 : decode b_T_advance 16 = .ok (.invokevirtual 39, 3) := by decide +kernel
theorem d_T_advance_19 : decode b_T_advance 19 = .ok (.bipush 32, 2) := by decide +kernel
theorem d_T_advance_21 : decode b_T_advance 21 = .ok (.if_icmp .gt 16, 3) := by decide +kernel
theorem d_T_advance_24 : decode b_T_advance 24 = .ok (.aload_n 0, 1) := by decide +kernel
theorem d_T_advance_25 : decode b_T_advance 25 = .ok (.dup, 1) := by decide +kernel
theorem d_T_advance_26 : decode b_T_advance 26 = .ok (.getfield 15, 3) := by decide +kernel
theorem d_T_advance_29 : decode b_T_advance 29 = .ok (.iconst 1, 1) := by decide +kernel
theorem d_T_advance_30 : decode b_T_advance 30 = .ok (.iadd, 1) := by decide +kernel
theorem d_T_advance_31 : decode b_T_advance 31 = .ok (.putfield 15, 3) := by decide +kernel
theorem d_T_advance_34 : decode b_T_advance 34 = .ok (.goto (-34), 3) := by decide +kernel
theorem d_T_advance_37 : decode b_T_advance 37 = .ok (.aload_n 0, 1) := by decide +kernel
theorem d_T_advance_38 : decode b_T_advance 38 = .ok (.aload_n 0, 1) := by decide +kernel
theorem d_T_advance_39 : decode b_T_advance 39 = .ok (.getfield 15, 3) := by decide +kernel
theorem d_T_advance_42 : decode b_T_advance 42 = .ok (.putfield 25, 3) := by decide +kernel
theorem d_T_advance_45 : decode b_T_advance 45 = .ok (.aload_n 0, 1) := by decide +kernel
theorem d_T_advance_46 : decode b_T_advance 46 = .ok (.getfield 15, 3) := by decide +kernel
theorem d_T_advance_49 : decode b_T_advance 49 = .ok (.aload_n 0, 1) := by decide +kernel
theorem d_T_advance_50 : decode b_T_advance 50 = .ok (.getfield 19, 3) := by decide +kernel
theorem d_T_advance_53 : decode b_T_advance 53 = .ok (.if_icmp .lt 10, 3) := by decide +kernel
theorem d_T_advance_56 : decode b_T_advance 56 = .ok (.aload_n 0, 1) := by decide +kernel
theorem d_T_advance_57 : decode b_T_advance 57 = .ok (.iconst 0, 1) := by decide +kernel
theorem d_T_advance_58 : decode b_T_advance 58 = .ok (.putfield 22, 3) := by decide +kernel
theorem d_T_advance_61 : decode b_T_advance 61 = .ok (.iconst 1, 1) := by decide +kernel
theorem d_T_advance_62 : decode b_T_advance 62 = .ok (.ireturn, 1) := by decide +kernel
theorem d_T_advance_63 : decode b_T_advance 63 = .ok (.aload_n 0, 1) := by decide +kernel
theorem d_T_advance_64 : decode b_T_advance 64 = .ok (.aload_n 0, 1) := by decide +kernel
theorem d_T_advance_65 : decode b_T_advance 65 = .ok (.getfield 15, 3) := by decide +kernel
theorem d_T_advance_68 : decode b_T_advance 68 = .ok (.invokevirtual 39, 3) := by decide +kernel
theorem d_T_advance_71 : decode b_T_advance 71 = .ok (.istore_n 1, 1) := by decide +kernel
theorem d_T_advance_72 : decode b_T_advance 72 = .ok (.iload_n 1, 1) := by decide +kernel
theorem d_T_advance_73 : decode b_T_advance 73 = .ok (.invokestatic 43, 3) := by decide +kernel
theorem d_T_advance_76 : decode b_T_advance 76 = .ok (.ifCond .eq 8, 3) := by decide +kernel
theorem d_T_advance_79 : decode b_T_advance 79 = .ok (.aload_n 0, 1) := by decide +kernel
theorem d_T_advance_80 : decode b_T_advance 80 = .ok (.invokevirtual 47, 3) := by decide +kernel
theorem d_T_advance_83 : decode b_T_advance 83 = .ok (.ireturn, 1) := by decide +kernel
theorem d_T_advance_84 : decode b_T_advance 84 = .ok (.iload_n 1, 1) := by decide +kernel
theorem d_T_advance_85 : decode b_T_advance 85 = .ok (.bipush 45, 2) := by decide +kernel
theorem d_T_advance_87 : decode b_T_advance 87 = .ok (.if_icmp .ne 8, 3) := by decide +kernel
theorem d_T_advance_90 : decode b_T_advance 90 = .ok (.aload_n 0, 1) := by decide +kernel
theorem d_T_advance_91 : decode b_T_advance 91 = .ok (.invokevirtual 51, 3) := by decide +kernel
theorem d_T_advance_94 : decode b_T_advance 94 = .ok (.ireturn, 1) := by decide +kernel
theorem d_T_advance_95 : decode b_T_advance 95 = .ok (.aload_n 0, 1) := by decide +kernel
theorem d_T_advance_96 : decode b_T_advance 96 = .ok (.iload_n 1, 1) := by decide +kernel
theorem d_T_advance_97 : decode b_T_advance 97 = .ok (.putfield 22, 3) := by decide +kernel
theorem d_T_advance_100 : decode b_T_advance 100 = .ok (.aload_n 0, 1) := by decide +kernel
theorem d_T_advance_101 : decode b_T_advance 101 = .ok (.dup, 1) := by decide +kernel
theorem d_T_advance_102 : decode b_T_advance 102 = .ok (.getfield 15, 3) := by decide +kernel
theorem d_T_advance_105 : decode b_T_advance 105 = .ok (.iconst 1, 1) := by decide +kernel
theorem d_T_advance_106 : decode b_T_advance 106 = .ok (.iadd, 1) := by decide +kernel
theorem d_T_advance_107 : decode b_T_advance 107 = .ok (.putfield 15, 3) := by decide +kernel
theorem d_T_advance_110 : decode b_T_advance 110 = .ok (.iload_n 1, 1) := by decide +kernel
theorem d_T_advance_111 : decode b_T_advance 111 = .ok (.invokestatic 54, 3) := by decide +kernel
theorem d_T_advance_114 : decode b_T_advance 114 = .ok (.ifCond .ne 18, 3) := by decide +kernel
theorem d_T_advance_117 : decode b_T_advance 117 = .ok (.aload_n 0, 1) := by decide +kernel
theorem d_T_advance_118 : decode b_T_advance 118 = .ok (.getfield 35, 3) := by decide +kernel
theorem d_T_advance_121 : decode b_T_advance 121 = .ok (.iconst 1, 1) := by decide +kernel
theorem d_T_advance_122 : decode b_T_advance 122 = .ok (.aload_n 0, 1) := by decide +kernel
theorem d_T_advance_123 : decode b_T_advance 123 = .ok (.getfield 25, 3) := by decide +kernel
theorem d_T_advance_126 : decode b_T_advance 126 = .ok (.invokevirtual 57, 3) := by decide +kernel
theorem d_T_advance_129 : decode b_T_advance 129 = .ok (.ifCond .eq 7, 3) := by decide +kernel
theorem d_T_advance_132 : decode b_T_advance 132 = .ok (.iconst 1, 1) := by decide +kernel
theorem d_T_advance_133 : decode b_T_advance 133 = .ok (.goto 4, 3) := by decide +kernel
theorem d_T_advance_136 : decode b_T_advance 136 = .ok (.iconst 0, 1) := by decide +kernel
theorem d_T_advance_137 : decode b_T_advance 137 = .ok (.ireturn, 1) := by decide +kernel
set_option maxHeartbeats 4000000 in
set_option maxRecDepth 100000 in
theorem c_T_advance (l : Launch) (D : va_G) (cI cJ cB cZ : ClassId) (aT aF aTb : Nat) (b : Nat → Nat) (z0 ln : Nat) (kd st fn fw : Int32) (fr bk : Int64) (hb : ∀ j, b j < 256) (hz : z0 ≤ ln) (hln : ln ≤ 8192) : Ci l D (tyl cI cJ cB cZ) y_T_advance b_T_advance 2 (some .boolean) ({ frames := 2, cells := 0, slots := 0, locals := 43 } : Room) [.ref aT] [(aT, .inr (3, [.ref aF, .ref aTb, .int (nI z0), .int (nI ln), .int kd, .int st, .long fr, .long bk])), (aTb, .inl (cB, 8192, .inl (sby b))), (aF, .inr (0, [.int fn, .int fw]))] (fun r u => (∃ (st1 : Nat) (nx1 : Nat) (k1 : Nat) (f1 : Int64) (g1 : Int64), (Adv b ln z0 k1 st1 nx1 f1 g1) ∧ r = (nI 1) ∧ u = [(aT, .inr (3, [.ref aF, .ref aTb, .int (nI nx1), .int (nI ln), .int (nI k1), .int (nI st1), .long f1, .long g1])), (aTb, .inl (cB, 8192, .inl (sby b))), (aF, .inr (0, [.int fn, .int fw]))]) ∨ (∃ (st1 : Nat) (nx1 : Nat) (k1 : Nat) (f1 : Int64) (g1 : Int64), (Tok b ln z0 4 st1 nx1) ∧ r = (nI 0) ∧ u = [(aT, .inr (3, [.ref aF, .ref aTb, .int (nI nx1), .int (nI ln), .int (nI k1), .int (nI st1), .long f1, .long g1])), (aTb, .inl (cB, 8192, .inl (sby b))), (aF, .inr (0, [.int (nI 1), .int (nI st1)]))])) := by
  refine met_i (own := "ProofReader$Tokens") (by decide) rfl (Nat.le_of_ble_eq_true rfl) ?_
  intro p e s m args below meth c A Q S hA ret ls hl hW
  have hl : lv_has ls 2 [(0, .ref aT)] := hl
  have hW : Wd D (tyl cI cJ cB cZ) A s s.heap s.heap [] [(aT, .inr (3, [.ref aF, .ref aTb, .int (nI z0), .int (nI ln), .int kd, .int st, .long fr, .long bk])), (aTb, .inl (cB, 8192, .inl (sby b))), (aF, .inr (0, [.int fn, .int fw]))] := hW
  have loop_0 : ∀ (nf : Nat) (q : Nat), ln - q < nf → (z0 ≤ q) → (q ≤ ln) → (∀ j, z0 ≤ j → j < q → b j ≤ 32) → ∀ (H : Heap) (locs : List Loc), Wd D (tyl cI cJ cB cZ) A s s.heap H locs [(aT, .inr (3, [.ref aF, .ref aTb, .int (nI q), .int (nI ln), .int kd, .int st, .long fr, .long bk])), (aTb, .inl (cB, 8192, .inl (sby b))), (aF, .inr (0, [.int fn, .int fw]))] → ∀ (ls : Array Slot), lv_has ls 2 [(0, .ref aT)] → W p l e ({ frames := 2, cells := 0, slots := 0, locals := 43 } : Room) s m args below meth c H locs 0 0 Q (F0 m 0 ls []) := by
    intro nf
    induction nf with
    | zero =>
      intros
      omega
    | succ nf ih =>
      intro q hnf hq hq2 hq3 H locs hW ls hl
      refine lv_aload_n S.1 S.2.1 d_T_advance_0 rfl (lv_at hl 0 rfl) ?_
      refine g_get i_T S hW 0 rfl rfl 2 (by decide) kf_T_15 rfl d_T_advance_1 ?_
      refine lv_aload_n S.1 S.2.1 d_T_advance_4 rfl (lv_at hl 0 rfl) ?_
      refine g_get i_T S hW 0 rfl rfl 3 (by decide) kf_T_19 rfl d_T_advance_5 ?_
      refine n_icmp_ge (tgt := 37) S (by omega) (by omega) d_T_advance_8 (by decide) (fun c_8 => ?_) (fun c_8 => ?_)
      · have hS : Skp b ln z0 q := ⟨hq, hq2, hq3, by first | (intro a; omega) | (intro _; assumption)⟩
        refine lv_aload_n S.1 S.2.1 d_T_advance_37 rfl (lv_at hl 0 rfl) ?_
        refine lv_aload_n S.1 S.2.1 d_T_advance_38 rfl (lv_at hl 0 rfl) ?_
        refine g_get i_T S hW 0 rfl rfl 2 (by decide) kf_T_15 rfl d_T_advance_39 ?_
        refine g_put (ws2 := [(aT, .inr (3, [.ref aF, .ref aTb, .int (nI q), .int (nI ln), .int kd, .int (nI q), .long fr, .long bk])), (aTb, .inl (cB, 8192, .inl (sby b))), (aF, .inr (0, [.int fn, .int fw]))]) i_T ft_T ft_T_ok n_T S hW 0 rfl rfl 5 (by decide) kf_T_25 rfl rfl rfl (Nat.le_of_ble_eq_true rfl) rfl d_T_advance_42 (fun H locs hW => ?_)
        refine lv_aload_n S.1 S.2.1 d_T_advance_45 rfl (lv_at hl 0 rfl) ?_
        refine g_get i_T S hW 0 rfl rfl 2 (by decide) kf_T_15 rfl d_T_advance_46 ?_
        refine lv_aload_n S.1 S.2.1 d_T_advance_49 rfl (lv_at hl 0 rfl) ?_
        refine g_get i_T S hW 0 rfl rfl 3 (by decide) kf_T_19 rfl d_T_advance_50 ?_
        refine n_icmp_lt (tgt := 63) S (by omega) (by omega) d_T_advance_53 (by decide) (fun c_53 => ?_) (fun c_53 => ?_)
        · refine lv_aload_n S.1 S.2.1 d_T_advance_63 rfl (lv_at hl 0 rfl) ?_
          refine lv_aload_n S.1 S.2.1 d_T_advance_64 rfl (lv_at hl 0 rfl) ?_
          refine g_get i_T S hW 0 rfl rfl 2 (by decide) kf_T_15 rfl d_T_advance_65 ?_
          refine callV_i (wr := [(aF, .inr (0, [.int fn, .int fw]))]) (wc := [(aT, .inr (3, [.ref aF, .ref aTb, .int (nI q), .int (nI ln), .int kd, .int (nI q), .long fr, .long bk])), (aTb, .inl (cB, 8192, .inl (sby b)))]) (np := 1) (As := [.int (nI q)]) (rest := []) (c_T_at l D cI cJ cB cZ aT aF aTb b q (nI q) (nI ln) kd (nI q) fr bk (by first | omega | assumption | simp_all) (by first | omega | assumption | simp_all)) km_T_39 ki_T_at kv_T_at kz_T kk_T_at (by decide +kernel) S hW hA ⟨Nat.le_of_ble_eq_true rfl, Nat.le_of_ble_eq_true rfl⟩ ⟨Nat.le_of_ble_eq_true rfl, Nat.le_of_ble_eq_true rfl⟩ rfl 0 rfl [0, 1] [2] rfl (by decide) rfl (by decide) (by decide) rfl hl.1 rfl (Nat.le_of_ble_eq_true rfl) d_T_advance_68 (fun r u H locs hp hW => ?_)
          obtain ⟨rfl, rfl⟩ := hp
          have hW : Wd D (tyl cI cJ cB cZ) A s s.heap H locs [(aT, .inr (3, [.ref aF, .ref aTb, .int (nI q), .int (nI ln), .int kd, .int (nI q), .long fr, .long bk])), (aTb, .inl (cB, 8192, .inl (sby b))), (aF, .inr (0, [.int fn, .int fw]))] := hW.sub [1, 2, 0] (by decide) rfl
          have hb2 := hb q
          refine lv_istore_n (lv' := [(1, .int (nI (b q))), (0, .ref aT)]) S.1 S.2.1 d_T_advance_71 rfl hl (by decide) rfl (fun ls hl => ?_)
          refine lv_iload_n S.1 S.2.1 d_T_advance_72 rfl (lv_at hl 0 rfl) ?_
          refine callS_i (wr := [(aT, .inr (3, [.ref aF, .ref aTb, .int (nI q), .int (nI ln), .int kd, .int (nI q), .long fr, .long bk])), (aTb, .inl (cB, 8192, .inl (sby b))), (aF, .inr (0, [.int fn, .int fw]))]) (wc := []) (np := 1) (As := [.int (nI (b q))]) (rest := []) (c_T_isInNames l D cI cJ cB cZ (b q) (by first | omega | assumption | simp_all)) km_T_43 ks_T_isInNames kz_T kk_T_isInNames (by decide +kernel) S hW hA ⟨Nat.le_of_ble_eq_true rfl, Nat.le_of_ble_eq_true rfl⟩ ⟨Nat.le_of_ble_eq_true rfl, Nat.le_of_ble_eq_true rfl⟩ [] [0, 1, 2] rfl (by decide) rfl (by decide) (by decide) rfl hl.1 rfl (Nat.le_of_ble_eq_true rfl) d_T_advance_73 (fun r u H locs hp hW => ?_)
          rcases hp with ⟨h_1, rfl, rfl⟩ | ⟨h_2, rfl, rfl⟩
          · have hW : Wd D (tyl cI cJ cB cZ) A s s.heap H locs [(aT, .inr (3, [.ref aF, .ref aTb, .int (nI q), .int (nI ln), .int kd, .int (nI q), .long fr, .long bk])), (aTb, .inl (cB, 8192, .inl (sby b))), (aF, .inr (0, [.int fn, .int fw]))] := hW
            have hnm := h_1
            refine lv_if_eq (tgt := 84) S.1 S.2.1 d_T_advance_76 (by decide) (fun h => absurd h (by decide)) (fun _ => ?_)
            refine lv_aload_n S.1 S.2.1 d_T_advance_79 rfl (lv_at hl 1 rfl) ?_
            refine callV_i (wr := []) (wc := [(aT, .inr (3, [.ref aF, .ref aTb, .int (nI q), .int (nI ln), .int kd, .int (nI q), .long fr, .long bk])), (aTb, .inl (cB, 8192, .inl (sby b))), (aF, .inr (0, [.int fn, .int fw]))]) (np := 0) (As := []) (rest := []) (c_T_takeName l D cI cJ cB cZ aT aF aTb b q ln kd fn fw fr bk (by first | omega | assumption | simp_all) (by first | omega | assumption | simp_all) (by first | omega | assumption | simp_all)) km_T_47 ki_T_takeName kv_T_takeName kz_T kk_T_takeName (by decide +kernel) S hW hA ⟨Nat.le_of_ble_eq_true rfl, Nat.le_of_ble_eq_true rfl⟩ ⟨Nat.le_of_ble_eq_true rfl, Nat.le_of_ble_eq_true rfl⟩ rfl 0 rfl [0, 1, 2] [] rfl (by decide) rfl (by decide) (by decide) rfl hl.1 rfl (Nat.le_of_ble_eq_true rfl) d_T_advance_80 (fun r u H locs hp hW => ?_)
            rcases hp with ⟨e0_3, k_4, f1_5, g1_6, h_7, h_8, h_9, h_10, h_11, rfl, rfl⟩ | ⟨e0_12, k_13, f1_14, g1_15, h_16, h_17, rfl, rfl⟩
            · have hW : Wd D (tyl cI cJ cB cZ) A s s.heap H locs [(aT, .inr (3, [.ref aF, .ref aTb, .int (nI e0_3), .int (nI ln), .int (nI k_4), .int (nI q), .long f1_5, .long g1_6])), (aTb, .inl (cB, 8192, .inl (sby b))), (aF, .inr (0, [.int fn, .int fw]))] := hW
              exact ret _ _ _ _ _ _ d_T_advance_83 rfl (Or.inl ⟨_, _, _, _, _, tk_nm hb hS c_53 hnm h_7 h_8 h_9 h_10 h_11, rfl, rfl⟩) hW
            · have hW : Wd D (tyl cI cJ cB cZ) A s s.heap H locs [(aT, .inr (3, [.ref aF, .ref aTb, .int (nI e0_12), .int (nI ln), .int (nI k_13), .int (nI q), .long f1_14, .long g1_15])), (aTb, .inl (cB, 8192, .inl (sby b))), (aF, .inr (0, [.int (nI 1), .int (nI q)]))] := hW
              exact ret _ _ _ _ _ _ d_T_advance_83 rfl (Or.inr ⟨_, _, _, _, _, ⟨hS, Or.inr (Or.inl ⟨c_53, hnm, h_16, Or.inl ⟨h_17, rfl⟩⟩)⟩, rfl, rfl⟩) hW
          · have hW : Wd D (tyl cI cJ cB cZ) A s s.heap H locs [(aT, .inr (3, [.ref aF, .ref aTb, .int (nI q), .int (nI ln), .int kd, .int (nI q), .long fr, .long bk])), (aTb, .inl (cB, 8192, .inl (sby b))), (aF, .inr (0, [.int fn, .int fw]))] := hW
            have hnm := h_2
            refine lv_if_eq (tgt := 84) S.1 S.2.1 d_T_advance_76 (by decide) (fun _ => ?_) (fun h => absurd h (by decide))
            refine lv_iload_n S.1 S.2.1 d_T_advance_84 rfl (lv_at hl 0 rfl) ?_
            refine lv_bipush (v := (nI 45)) S.1 S.2.1 d_T_advance_85 (by decide) ?_
            refine n_icmp_ne (tgt := 95) S (by omega) (by omega) d_T_advance_87 (by decide) (fun c_87 => ?_) (fun c_87 => ?_)
            · refine lv_aload_n S.1 S.2.1 d_T_advance_95 rfl (lv_at hl 1 rfl) ?_
              refine lv_iload_n S.1 S.2.1 d_T_advance_96 rfl (lv_at hl 0 rfl) ?_
              refine g_put (ws2 := [(aT, .inr (3, [.ref aF, .ref aTb, .int (nI q), .int (nI ln), .int (nI (b q)), .int (nI q), .long fr, .long bk])), (aTb, .inl (cB, 8192, .inl (sby b))), (aF, .inr (0, [.int fn, .int fw]))]) i_T ft_T ft_T_ok n_T S hW 0 rfl rfl 4 (by decide) kf_T_22 rfl rfl rfl (Nat.le_of_ble_eq_true rfl) rfl d_T_advance_97 (fun H locs hW => ?_)
              refine lv_aload_n S.1 S.2.1 d_T_advance_100 rfl (lv_at hl 1 rfl) ?_
              refine lv_dup S.1 S.2.1 d_T_advance_101 rfl ?_
              refine g_get i_T S hW 0 rfl rfl 2 (by decide) kf_T_15 rfl d_T_advance_102 ?_
              refine lv_iconst (v := (nI 1)) S.1 S.2.1 d_T_advance_105 (by decide) ?_
              refine n_iadd S d_T_advance_106 ?_
              refine g_put (ws2 := [(aT, .inr (3, [.ref aF, .ref aTb, .int (nI (q + 1)), .int (nI ln), .int (nI (b q)), .int (nI q), .long fr, .long bk])), (aTb, .inl (cB, 8192, .inl (sby b))), (aF, .inr (0, [.int fn, .int fw]))]) i_T ft_T ft_T_ok n_T S hW 0 rfl rfl 2 (by decide) kf_T_15 rfl rfl rfl (Nat.le_of_ble_eq_true rfl) rfl d_T_advance_107 (fun H locs hW => ?_)
              refine lv_iload_n S.1 S.2.1 d_T_advance_110 rfl (lv_at hl 0 rfl) ?_
              refine callS_i (wr := [(aT, .inr (3, [.ref aF, .ref aTb, .int (nI (q + 1)), .int (nI ln), .int (nI (b q)), .int (nI q), .long fr, .long bk])), (aTb, .inl (cB, 8192, .inl (sby b))), (aF, .inr (0, [.int fn, .int fw]))]) (wc := []) (np := 1) (As := [.int (nI (b q))]) (rest := []) (c_T_isSingle l D cI cJ cB cZ (b q) (by first | omega | assumption | simp_all)) km_T_54 ks_T_isSingle kz_T kk_T_isSingle (by decide +kernel) S hW hA ⟨Nat.le_of_ble_eq_true rfl, Nat.le_of_ble_eq_true rfl⟩ ⟨Nat.le_of_ble_eq_true rfl, Nat.le_of_ble_eq_true rfl⟩ [] [0, 1, 2] rfl (by decide) rfl (by decide) (by decide) rfl hl.1 rfl (Nat.le_of_ble_eq_true rfl) d_T_advance_111 (fun r u H locs hp hW => ?_)
              rcases hp with ⟨h_18, rfl, rfl⟩ | ⟨h_19, rfl, rfl⟩
              · have hW : Wd D (tyl cI cJ cB cZ) A s s.heap H locs [(aT, .inr (3, [.ref aF, .ref aTb, .int (nI (q + 1)), .int (nI ln), .int (nI (b q)), .int (nI q), .long fr, .long bk])), (aTb, .inl (cB, 8192, .inl (sby b))), (aF, .inr (0, [.int fn, .int fw]))] := hW
                have hsg := h_18
                refine lv_if_ne (tgt := 132) S.1 S.2.1 d_T_advance_114 (by decide) (fun _ => ?_) (fun h => absurd h (by decide))
                refine lv_iconst (v := (nI 1)) S.1 S.2.1 d_T_advance_132 (by decide) ?_
                refine lv_goto (tgt := 137) S.1 S.2.1 d_T_advance_133 (by decide) ?_
                exact ret _ _ _ _ _ _ d_T_advance_137 rfl (Or.inl ⟨_, _, _, _, _, ⟨⟨hS, Or.inr (Or.inr (Or.inr ⟨c_53, hnm, c_87, rfl, Or.inl ⟨hsg, rfl⟩⟩))⟩, (fun h => by rw [h] at hsg; unfold isSg at hsg; omega), by omega, (fun h => by rw [h] at hsg; unfold isSg at hsg; omega)⟩, rfl, rfl⟩) hW
              · have hW : Wd D (tyl cI cJ cB cZ) A s s.heap H locs [(aT, .inr (3, [.ref aF, .ref aTb, .int (nI (q + 1)), .int (nI ln), .int (nI (b q)), .int (nI q), .long fr, .long bk])), (aTb, .inl (cB, 8192, .inl (sby b))), (aF, .inr (0, [.int fn, .int fw]))] := hW
                have hsg := h_19
                refine lv_if_ne (tgt := 132) S.1 S.2.1 d_T_advance_114 (by decide) (fun h => absurd h (by decide)) (fun _ => ?_)
                refine lv_aload_n S.1 S.2.1 d_T_advance_117 rfl (lv_at hl 1 rfl) ?_
                refine g_get i_T S hW 0 rfl rfl 0 (by decide) kf_T_35 rfl d_T_advance_118 ?_
                refine lv_iconst (v := (nI 1)) S.1 S.2.1 d_T_advance_121 (by decide) ?_
                refine lv_aload_n S.1 S.2.1 d_T_advance_122 rfl (lv_at hl 1 rfl) ?_
                refine g_get i_T S hW 0 rfl rfl 5 (by decide) kf_T_25 rfl d_T_advance_123 ?_
                refine callV_i (wr := [(aT, .inr (3, [.ref aF, .ref aTb, .int (nI (q + 1)), .int (nI ln), .int (nI (b q)), .int (nI q), .long fr, .long bk])), (aTb, .inl (cB, 8192, .inl (sby b)))]) (wc := [(aF, .inr (0, [.int fn, .int fw]))]) (np := 2) (As := [.int (nI 1), .int (nI q)]) (rest := []) (c_F_met l D cI cJ cB cZ aF fn fw (nI 1) (nI q) ) km_T_57 ki_F_met kv_F_met kz_F kk_F_met (by decide +kernel) S hW hA ⟨Nat.le_of_ble_eq_true rfl, Nat.le_of_ble_eq_true rfl⟩ ⟨Nat.le_of_ble_eq_true rfl, Nat.le_of_ble_eq_true rfl⟩ rfl 0 rfl [2] [0, 1] rfl (by decide) rfl (by decide) (by decide) rfl hl.1 rfl (Nat.le_of_ble_eq_true rfl) d_T_advance_126 (fun r u H locs hp hW => ?_)
                obtain ⟨rfl, rfl⟩ := hp
                have hW : Wd D (tyl cI cJ cB cZ) A s s.heap H locs [(aT, .inr (3, [.ref aF, .ref aTb, .int (nI (q + 1)), .int (nI ln), .int (nI (b q)), .int (nI q), .long fr, .long bk])), (aTb, .inl (cB, 8192, .inl (sby b))), (aF, .inr (0, [.int (nI 1), .int (nI q)]))] := hW
                refine lv_if_eq (tgt := 136) S.1 S.2.1 d_T_advance_129 (by decide) (fun _ => ?_) (fun h => absurd h (by decide))
                refine lv_iconst (v := (nI 0)) S.1 S.2.1 d_T_advance_136 (by decide) ?_
                exact ret _ _ _ _ _ _ d_T_advance_137 rfl (Or.inr ⟨_, _, _, _, _, ⟨hS, Or.inr (Or.inr (Or.inr ⟨c_53, hnm, c_87, rfl, Or.inr ⟨hsg, rfl⟩⟩))⟩, rfl, rfl⟩) hW
            · refine lv_aload_n S.1 S.2.1 d_T_advance_90 rfl (lv_at hl 1 rfl) ?_
              refine callV_i (wr := []) (wc := [(aT, .inr (3, [.ref aF, .ref aTb, .int (nI q), .int (nI ln), .int kd, .int (nI q), .long fr, .long bk])), (aTb, .inl (cB, 8192, .inl (sby b))), (aF, .inr (0, [.int fn, .int fw]))]) (np := 0) (As := []) (rest := []) (c_T_takeArrow l D cI cJ cB cZ aT aF aTb b q ln kd fn fw fr bk (by first | omega | assumption | simp_all) (by first | omega | assumption | simp_all) (by first | omega | assumption | simp_all)) km_T_51 ki_T_takeArrow kv_T_takeArrow kz_T kk_T_takeArrow (by decide +kernel) S hW hA ⟨Nat.le_of_ble_eq_true rfl, Nat.le_of_ble_eq_true rfl⟩ ⟨Nat.le_of_ble_eq_true rfl, Nat.le_of_ble_eq_true rfl⟩ rfl 0 rfl [0, 1, 2] [] rfl (by decide) rfl (by decide) (by decide) rfl hl.1 rfl (Nat.le_of_ble_eq_true rfl) d_T_advance_91 (fun r u H locs hp hW => ?_)
              rcases hp with ⟨h_20, h_21, rfl, rfl⟩ | ⟨h_22, rfl, rfl⟩
              · have hW : Wd D (tyl cI cJ cB cZ) A s s.heap H locs [(aT, .inr (3, [.ref aF, .ref aTb, .int (nI (q + 2)), .int (nI ln), .int (nI 3), .int (nI q), .long fr, .long bk])), (aTb, .inl (cB, 8192, .inl (sby b))), (aF, .inr (0, [.int fn, .int fw]))] := hW
                exact ret _ _ _ _ _ _ d_T_advance_94 rfl (Or.inl ⟨_, _, _, _, _, ⟨⟨hS, Or.inr (Or.inr (Or.inl ⟨c_53, c_87, rfl, Or.inl ⟨h_20, h_21, rfl⟩⟩))⟩, by decide, by omega, fun h => by cases h⟩, rfl, rfl⟩) hW
              · have hW : Wd D (tyl cI cJ cB cZ) A s s.heap H locs [(aT, .inr (3, [.ref aF, .ref aTb, .int (nI (q + 2)), .int (nI ln), .int (nI 3), .int (nI q), .long fr, .long bk])), (aTb, .inl (cB, 8192, .inl (sby b))), (aF, .inr (0, [.int (nI 1), .int (nI q)]))] := hW
                exact ret _ _ _ _ _ _ d_T_advance_94 rfl (Or.inr ⟨_, _, _, _, _, ⟨hS, Or.inr (Or.inr (Or.inl ⟨c_53, c_87, rfl, Or.inr ⟨h_22, rfl⟩⟩))⟩, rfl, rfl⟩) hW
        · refine lv_aload_n S.1 S.2.1 d_T_advance_56 rfl (lv_at hl 0 rfl) ?_
          refine lv_iconst (v := (nI 0)) S.1 S.2.1 d_T_advance_57 (by decide) ?_
          refine g_put (ws2 := [(aT, .inr (3, [.ref aF, .ref aTb, .int (nI q), .int (nI ln), .int (nI 0), .int (nI q), .long fr, .long bk])), (aTb, .inl (cB, 8192, .inl (sby b))), (aF, .inr (0, [.int fn, .int fw]))]) i_T ft_T ft_T_ok n_T S hW 0 rfl rfl 4 (by decide) kf_T_22 rfl rfl rfl (Nat.le_of_ble_eq_true rfl) rfl d_T_advance_58 (fun H locs hW => ?_)
          refine lv_iconst (v := (nI 1)) S.1 S.2.1 d_T_advance_61 (by decide) ?_
          exact ret _ _ _ _ _ _ d_T_advance_62 rfl (Or.inl ⟨_, _, _, _, _, ⟨⟨hS, Or.inl ⟨by omega, rfl, by omega⟩⟩, by decide, by omega, fun h => by cases h⟩, rfl, rfl⟩) hW
      · refine lv_aload_n S.1 S.2.1 d_T_advance_11 rfl (lv_at hl 0 rfl) ?_
        refine lv_aload_n S.1 S.2.1 d_T_advance_12 rfl (lv_at hl 0 rfl) ?_
        refine g_get i_T S hW 0 rfl rfl 2 (by decide) kf_T_15 rfl d_T_advance_13 ?_
        refine callV_i (wr := [(aF, .inr (0, [.int fn, .int fw]))]) (wc := [(aT, .inr (3, [.ref aF, .ref aTb, .int (nI q), .int (nI ln), .int kd, .int st, .long fr, .long bk])), (aTb, .inl (cB, 8192, .inl (sby b)))]) (np := 1) (As := [.int (nI q)]) (rest := []) (c_T_at l D cI cJ cB cZ aT aF aTb b q (nI q) (nI ln) kd st fr bk (by first | omega | assumption | simp_all) (by first | omega | assumption | simp_all)) km_T_39 ki_T_at kv_T_at kz_T kk_T_at (by decide +kernel) S hW hA ⟨Nat.le_of_ble_eq_true rfl, Nat.le_of_ble_eq_true rfl⟩ ⟨Nat.le_of_ble_eq_true rfl, Nat.le_of_ble_eq_true rfl⟩ rfl 0 rfl [0, 1] [2] rfl (by decide) rfl (by decide) (by decide) rfl hl.1 rfl (Nat.le_of_ble_eq_true rfl) d_T_advance_16 (fun r u H locs hp hW => ?_)
        obtain ⟨rfl, rfl⟩ := hp
        have hW : Wd D (tyl cI cJ cB cZ) A s s.heap H locs [(aT, .inr (3, [.ref aF, .ref aTb, .int (nI q), .int (nI ln), .int kd, .int st, .long fr, .long bk])), (aTb, .inl (cB, 8192, .inl (sby b))), (aF, .inr (0, [.int fn, .int fw]))] := hW.sub [1, 2, 0] (by decide) rfl
        have hb1 := hb q
        refine lv_bipush (v := (nI 32)) S.1 S.2.1 d_T_advance_19 (by decide) ?_
        refine n_icmp_gt (tgt := 37) S (by omega) (by omega) d_T_advance_21 (by decide) (fun c_21 => ?_) (fun c_21 => ?_)
        · have hS : Skp b ln z0 q := ⟨hq, hq2, hq3, by first | (intro a; omega) | (intro _; assumption)⟩
          refine lv_aload_n S.1 S.2.1 d_T_advance_37 rfl (lv_at hl 0 rfl) ?_
          refine lv_aload_n S.1 S.2.1 d_T_advance_38 rfl (lv_at hl 0 rfl) ?_
          refine g_get i_T S hW 0 rfl rfl 2 (by decide) kf_T_15 rfl d_T_advance_39 ?_
          refine g_put (ws2 := [(aT, .inr (3, [.ref aF, .ref aTb, .int (nI q), .int (nI ln), .int kd, .int (nI q), .long fr, .long bk])), (aTb, .inl (cB, 8192, .inl (sby b))), (aF, .inr (0, [.int fn, .int fw]))]) i_T ft_T ft_T_ok n_T S hW 0 rfl rfl 5 (by decide) kf_T_25 rfl rfl rfl (Nat.le_of_ble_eq_true rfl) rfl d_T_advance_42 (fun H locs hW => ?_)
          refine lv_aload_n S.1 S.2.1 d_T_advance_45 rfl (lv_at hl 0 rfl) ?_
          refine g_get i_T S hW 0 rfl rfl 2 (by decide) kf_T_15 rfl d_T_advance_46 ?_
          refine lv_aload_n S.1 S.2.1 d_T_advance_49 rfl (lv_at hl 0 rfl) ?_
          refine g_get i_T S hW 0 rfl rfl 3 (by decide) kf_T_19 rfl d_T_advance_50 ?_
          refine n_icmp_lt (tgt := 63) S (by omega) (by omega) d_T_advance_53 (by decide) (fun c_53 => ?_) (fun c_53 => ?_)
          · refine lv_aload_n S.1 S.2.1 d_T_advance_63 rfl (lv_at hl 0 rfl) ?_
            refine lv_aload_n S.1 S.2.1 d_T_advance_64 rfl (lv_at hl 0 rfl) ?_
            refine g_get i_T S hW 0 rfl rfl 2 (by decide) kf_T_15 rfl d_T_advance_65 ?_
            refine callV_i (wr := [(aF, .inr (0, [.int fn, .int fw]))]) (wc := [(aT, .inr (3, [.ref aF, .ref aTb, .int (nI q), .int (nI ln), .int kd, .int (nI q), .long fr, .long bk])), (aTb, .inl (cB, 8192, .inl (sby b)))]) (np := 1) (As := [.int (nI q)]) (rest := []) (c_T_at l D cI cJ cB cZ aT aF aTb b q (nI q) (nI ln) kd (nI q) fr bk (by first | omega | assumption | simp_all) (by first | omega | assumption | simp_all)) km_T_39 ki_T_at kv_T_at kz_T kk_T_at (by decide +kernel) S hW hA ⟨Nat.le_of_ble_eq_true rfl, Nat.le_of_ble_eq_true rfl⟩ ⟨Nat.le_of_ble_eq_true rfl, Nat.le_of_ble_eq_true rfl⟩ rfl 0 rfl [0, 1] [2] rfl (by decide) rfl (by decide) (by decide) rfl hl.1 rfl (Nat.le_of_ble_eq_true rfl) d_T_advance_68 (fun r u H locs hp hW => ?_)
            obtain ⟨rfl, rfl⟩ := hp
            have hW : Wd D (tyl cI cJ cB cZ) A s s.heap H locs [(aT, .inr (3, [.ref aF, .ref aTb, .int (nI q), .int (nI ln), .int kd, .int (nI q), .long fr, .long bk])), (aTb, .inl (cB, 8192, .inl (sby b))), (aF, .inr (0, [.int fn, .int fw]))] := hW.sub [1, 2, 0] (by decide) rfl
            have hb2 := hb q
            refine lv_istore_n (lv' := [(1, .int (nI (b q))), (0, .ref aT)]) S.1 S.2.1 d_T_advance_71 rfl hl (by decide) rfl (fun ls hl => ?_)
            refine lv_iload_n S.1 S.2.1 d_T_advance_72 rfl (lv_at hl 0 rfl) ?_
            refine callS_i (wr := [(aT, .inr (3, [.ref aF, .ref aTb, .int (nI q), .int (nI ln), .int kd, .int (nI q), .long fr, .long bk])), (aTb, .inl (cB, 8192, .inl (sby b))), (aF, .inr (0, [.int fn, .int fw]))]) (wc := []) (np := 1) (As := [.int (nI (b q))]) (rest := []) (c_T_isInNames l D cI cJ cB cZ (b q) (by first | omega | assumption | simp_all)) km_T_43 ks_T_isInNames kz_T kk_T_isInNames (by decide +kernel) S hW hA ⟨Nat.le_of_ble_eq_true rfl, Nat.le_of_ble_eq_true rfl⟩ ⟨Nat.le_of_ble_eq_true rfl, Nat.le_of_ble_eq_true rfl⟩ [] [0, 1, 2] rfl (by decide) rfl (by decide) (by decide) rfl hl.1 rfl (Nat.le_of_ble_eq_true rfl) d_T_advance_73 (fun r u H locs hp hW => ?_)
            rcases hp with ⟨h_23, rfl, rfl⟩ | ⟨h_24, rfl, rfl⟩
            · have hW : Wd D (tyl cI cJ cB cZ) A s s.heap H locs [(aT, .inr (3, [.ref aF, .ref aTb, .int (nI q), .int (nI ln), .int kd, .int (nI q), .long fr, .long bk])), (aTb, .inl (cB, 8192, .inl (sby b))), (aF, .inr (0, [.int fn, .int fw]))] := hW
              have hnm := h_23
              refine lv_if_eq (tgt := 84) S.1 S.2.1 d_T_advance_76 (by decide) (fun h => absurd h (by decide)) (fun _ => ?_)
              refine lv_aload_n S.1 S.2.1 d_T_advance_79 rfl (lv_at hl 1 rfl) ?_
              refine callV_i (wr := []) (wc := [(aT, .inr (3, [.ref aF, .ref aTb, .int (nI q), .int (nI ln), .int kd, .int (nI q), .long fr, .long bk])), (aTb, .inl (cB, 8192, .inl (sby b))), (aF, .inr (0, [.int fn, .int fw]))]) (np := 0) (As := []) (rest := []) (c_T_takeName l D cI cJ cB cZ aT aF aTb b q ln kd fn fw fr bk (by first | omega | assumption | simp_all) (by first | omega | assumption | simp_all) (by first | omega | assumption | simp_all)) km_T_47 ki_T_takeName kv_T_takeName kz_T kk_T_takeName (by decide +kernel) S hW hA ⟨Nat.le_of_ble_eq_true rfl, Nat.le_of_ble_eq_true rfl⟩ ⟨Nat.le_of_ble_eq_true rfl, Nat.le_of_ble_eq_true rfl⟩ rfl 0 rfl [0, 1, 2] [] rfl (by decide) rfl (by decide) (by decide) rfl hl.1 rfl (Nat.le_of_ble_eq_true rfl) d_T_advance_80 (fun r u H locs hp hW => ?_)
              rcases hp with ⟨e0_25, k_26, f1_27, g1_28, h_29, h_30, h_31, h_32, h_33, rfl, rfl⟩ | ⟨e0_34, k_35, f1_36, g1_37, h_38, h_39, rfl, rfl⟩
              · have hW : Wd D (tyl cI cJ cB cZ) A s s.heap H locs [(aT, .inr (3, [.ref aF, .ref aTb, .int (nI e0_25), .int (nI ln), .int (nI k_26), .int (nI q), .long f1_27, .long g1_28])), (aTb, .inl (cB, 8192, .inl (sby b))), (aF, .inr (0, [.int fn, .int fw]))] := hW
                exact ret _ _ _ _ _ _ d_T_advance_83 rfl (Or.inl ⟨_, _, _, _, _, tk_nm hb hS c_53 hnm h_29 h_30 h_31 h_32 h_33, rfl, rfl⟩) hW
              · have hW : Wd D (tyl cI cJ cB cZ) A s s.heap H locs [(aT, .inr (3, [.ref aF, .ref aTb, .int (nI e0_34), .int (nI ln), .int (nI k_35), .int (nI q), .long f1_36, .long g1_37])), (aTb, .inl (cB, 8192, .inl (sby b))), (aF, .inr (0, [.int (nI 1), .int (nI q)]))] := hW
                exact ret _ _ _ _ _ _ d_T_advance_83 rfl (Or.inr ⟨_, _, _, _, _, ⟨hS, Or.inr (Or.inl ⟨c_53, hnm, h_38, Or.inl ⟨h_39, rfl⟩⟩)⟩, rfl, rfl⟩) hW
            · have hW : Wd D (tyl cI cJ cB cZ) A s s.heap H locs [(aT, .inr (3, [.ref aF, .ref aTb, .int (nI q), .int (nI ln), .int kd, .int (nI q), .long fr, .long bk])), (aTb, .inl (cB, 8192, .inl (sby b))), (aF, .inr (0, [.int fn, .int fw]))] := hW
              have hnm := h_24
              refine lv_if_eq (tgt := 84) S.1 S.2.1 d_T_advance_76 (by decide) (fun _ => ?_) (fun h => absurd h (by decide))
              refine lv_iload_n S.1 S.2.1 d_T_advance_84 rfl (lv_at hl 0 rfl) ?_
              refine lv_bipush (v := (nI 45)) S.1 S.2.1 d_T_advance_85 (by decide) ?_
              refine n_icmp_ne (tgt := 95) S (by omega) (by omega) d_T_advance_87 (by decide) (fun c_87 => ?_) (fun c_87 => ?_)
              · refine lv_aload_n S.1 S.2.1 d_T_advance_95 rfl (lv_at hl 1 rfl) ?_
                refine lv_iload_n S.1 S.2.1 d_T_advance_96 rfl (lv_at hl 0 rfl) ?_
                refine g_put (ws2 := [(aT, .inr (3, [.ref aF, .ref aTb, .int (nI q), .int (nI ln), .int (nI (b q)), .int (nI q), .long fr, .long bk])), (aTb, .inl (cB, 8192, .inl (sby b))), (aF, .inr (0, [.int fn, .int fw]))]) i_T ft_T ft_T_ok n_T S hW 0 rfl rfl 4 (by decide) kf_T_22 rfl rfl rfl (Nat.le_of_ble_eq_true rfl) rfl d_T_advance_97 (fun H locs hW => ?_)
                refine lv_aload_n S.1 S.2.1 d_T_advance_100 rfl (lv_at hl 1 rfl) ?_
                refine lv_dup S.1 S.2.1 d_T_advance_101 rfl ?_
                refine g_get i_T S hW 0 rfl rfl 2 (by decide) kf_T_15 rfl d_T_advance_102 ?_
                refine lv_iconst (v := (nI 1)) S.1 S.2.1 d_T_advance_105 (by decide) ?_
                refine n_iadd S d_T_advance_106 ?_
                refine g_put (ws2 := [(aT, .inr (3, [.ref aF, .ref aTb, .int (nI (q + 1)), .int (nI ln), .int (nI (b q)), .int (nI q), .long fr, .long bk])), (aTb, .inl (cB, 8192, .inl (sby b))), (aF, .inr (0, [.int fn, .int fw]))]) i_T ft_T ft_T_ok n_T S hW 0 rfl rfl 2 (by decide) kf_T_15 rfl rfl rfl (Nat.le_of_ble_eq_true rfl) rfl d_T_advance_107 (fun H locs hW => ?_)
                refine lv_iload_n S.1 S.2.1 d_T_advance_110 rfl (lv_at hl 0 rfl) ?_
                refine callS_i (wr := [(aT, .inr (3, [.ref aF, .ref aTb, .int (nI (q + 1)), .int (nI ln), .int (nI (b q)), .int (nI q), .long fr, .long bk])), (aTb, .inl (cB, 8192, .inl (sby b))), (aF, .inr (0, [.int fn, .int fw]))]) (wc := []) (np := 1) (As := [.int (nI (b q))]) (rest := []) (c_T_isSingle l D cI cJ cB cZ (b q) (by first | omega | assumption | simp_all)) km_T_54 ks_T_isSingle kz_T kk_T_isSingle (by decide +kernel) S hW hA ⟨Nat.le_of_ble_eq_true rfl, Nat.le_of_ble_eq_true rfl⟩ ⟨Nat.le_of_ble_eq_true rfl, Nat.le_of_ble_eq_true rfl⟩ [] [0, 1, 2] rfl (by decide) rfl (by decide) (by decide) rfl hl.1 rfl (Nat.le_of_ble_eq_true rfl) d_T_advance_111 (fun r u H locs hp hW => ?_)
                rcases hp with ⟨h_40, rfl, rfl⟩ | ⟨h_41, rfl, rfl⟩
                · have hW : Wd D (tyl cI cJ cB cZ) A s s.heap H locs [(aT, .inr (3, [.ref aF, .ref aTb, .int (nI (q + 1)), .int (nI ln), .int (nI (b q)), .int (nI q), .long fr, .long bk])), (aTb, .inl (cB, 8192, .inl (sby b))), (aF, .inr (0, [.int fn, .int fw]))] := hW
                  have hsg := h_40
                  refine lv_if_ne (tgt := 132) S.1 S.2.1 d_T_advance_114 (by decide) (fun _ => ?_) (fun h => absurd h (by decide))
                  refine lv_iconst (v := (nI 1)) S.1 S.2.1 d_T_advance_132 (by decide) ?_
                  refine lv_goto (tgt := 137) S.1 S.2.1 d_T_advance_133 (by decide) ?_
                  exact ret _ _ _ _ _ _ d_T_advance_137 rfl (Or.inl ⟨_, _, _, _, _, ⟨⟨hS, Or.inr (Or.inr (Or.inr ⟨c_53, hnm, c_87, rfl, Or.inl ⟨hsg, rfl⟩⟩))⟩, (fun h => by rw [h] at hsg; unfold isSg at hsg; omega), by omega, (fun h => by rw [h] at hsg; unfold isSg at hsg; omega)⟩, rfl, rfl⟩) hW
                · have hW : Wd D (tyl cI cJ cB cZ) A s s.heap H locs [(aT, .inr (3, [.ref aF, .ref aTb, .int (nI (q + 1)), .int (nI ln), .int (nI (b q)), .int (nI q), .long fr, .long bk])), (aTb, .inl (cB, 8192, .inl (sby b))), (aF, .inr (0, [.int fn, .int fw]))] := hW
                  have hsg := h_41
                  refine lv_if_ne (tgt := 132) S.1 S.2.1 d_T_advance_114 (by decide) (fun h => absurd h (by decide)) (fun _ => ?_)
                  refine lv_aload_n S.1 S.2.1 d_T_advance_117 rfl (lv_at hl 1 rfl) ?_
                  refine g_get i_T S hW 0 rfl rfl 0 (by decide) kf_T_35 rfl d_T_advance_118 ?_
                  refine lv_iconst (v := (nI 1)) S.1 S.2.1 d_T_advance_121 (by decide) ?_
                  refine lv_aload_n S.1 S.2.1 d_T_advance_122 rfl (lv_at hl 1 rfl) ?_
                  refine g_get i_T S hW 0 rfl rfl 5 (by decide) kf_T_25 rfl d_T_advance_123 ?_
                  refine callV_i (wr := [(aT, .inr (3, [.ref aF, .ref aTb, .int (nI (q + 1)), .int (nI ln), .int (nI (b q)), .int (nI q), .long fr, .long bk])), (aTb, .inl (cB, 8192, .inl (sby b)))]) (wc := [(aF, .inr (0, [.int fn, .int fw]))]) (np := 2) (As := [.int (nI 1), .int (nI q)]) (rest := []) (c_F_met l D cI cJ cB cZ aF fn fw (nI 1) (nI q) ) km_T_57 ki_F_met kv_F_met kz_F kk_F_met (by decide +kernel) S hW hA ⟨Nat.le_of_ble_eq_true rfl, Nat.le_of_ble_eq_true rfl⟩ ⟨Nat.le_of_ble_eq_true rfl, Nat.le_of_ble_eq_true rfl⟩ rfl 0 rfl [2] [0, 1] rfl (by decide) rfl (by decide) (by decide) rfl hl.1 rfl (Nat.le_of_ble_eq_true rfl) d_T_advance_126 (fun r u H locs hp hW => ?_)
                  obtain ⟨rfl, rfl⟩ := hp
                  have hW : Wd D (tyl cI cJ cB cZ) A s s.heap H locs [(aT, .inr (3, [.ref aF, .ref aTb, .int (nI (q + 1)), .int (nI ln), .int (nI (b q)), .int (nI q), .long fr, .long bk])), (aTb, .inl (cB, 8192, .inl (sby b))), (aF, .inr (0, [.int (nI 1), .int (nI q)]))] := hW
                  refine lv_if_eq (tgt := 136) S.1 S.2.1 d_T_advance_129 (by decide) (fun _ => ?_) (fun h => absurd h (by decide))
                  refine lv_iconst (v := (nI 0)) S.1 S.2.1 d_T_advance_136 (by decide) ?_
                  exact ret _ _ _ _ _ _ d_T_advance_137 rfl (Or.inr ⟨_, _, _, _, _, ⟨hS, Or.inr (Or.inr (Or.inr ⟨c_53, hnm, c_87, rfl, Or.inr ⟨hsg, rfl⟩⟩))⟩, rfl, rfl⟩) hW
              · refine lv_aload_n S.1 S.2.1 d_T_advance_90 rfl (lv_at hl 1 rfl) ?_
                refine callV_i (wr := []) (wc := [(aT, .inr (3, [.ref aF, .ref aTb, .int (nI q), .int (nI ln), .int kd, .int (nI q), .long fr, .long bk])), (aTb, .inl (cB, 8192, .inl (sby b))), (aF, .inr (0, [.int fn, .int fw]))]) (np := 0) (As := []) (rest := []) (c_T_takeArrow l D cI cJ cB cZ aT aF aTb b q ln kd fn fw fr bk (by first | omega | assumption | simp_all) (by first | omega | assumption | simp_all) (by first | omega | assumption | simp_all)) km_T_51 ki_T_takeArrow kv_T_takeArrow kz_T kk_T_takeArrow (by decide +kernel) S hW hA ⟨Nat.le_of_ble_eq_true rfl, Nat.le_of_ble_eq_true rfl⟩ ⟨Nat.le_of_ble_eq_true rfl, Nat.le_of_ble_eq_true rfl⟩ rfl 0 rfl [0, 1, 2] [] rfl (by decide) rfl (by decide) (by decide) rfl hl.1 rfl (Nat.le_of_ble_eq_true rfl) d_T_advance_91 (fun r u H locs hp hW => ?_)
                rcases hp with ⟨h_42, h_43, rfl, rfl⟩ | ⟨h_44, rfl, rfl⟩
                · have hW : Wd D (tyl cI cJ cB cZ) A s s.heap H locs [(aT, .inr (3, [.ref aF, .ref aTb, .int (nI (q + 2)), .int (nI ln), .int (nI 3), .int (nI q), .long fr, .long bk])), (aTb, .inl (cB, 8192, .inl (sby b))), (aF, .inr (0, [.int fn, .int fw]))] := hW
                  exact ret _ _ _ _ _ _ d_T_advance_94 rfl (Or.inl ⟨_, _, _, _, _, ⟨⟨hS, Or.inr (Or.inr (Or.inl ⟨c_53, c_87, rfl, Or.inl ⟨h_42, h_43, rfl⟩⟩))⟩, by decide, by omega, fun h => by cases h⟩, rfl, rfl⟩) hW
                · have hW : Wd D (tyl cI cJ cB cZ) A s s.heap H locs [(aT, .inr (3, [.ref aF, .ref aTb, .int (nI (q + 2)), .int (nI ln), .int (nI 3), .int (nI q), .long fr, .long bk])), (aTb, .inl (cB, 8192, .inl (sby b))), (aF, .inr (0, [.int (nI 1), .int (nI q)]))] := hW
                  exact ret _ _ _ _ _ _ d_T_advance_94 rfl (Or.inr ⟨_, _, _, _, _, ⟨hS, Or.inr (Or.inr (Or.inl ⟨c_53, c_87, rfl, Or.inr ⟨h_44, rfl⟩⟩))⟩, rfl, rfl⟩) hW
          · refine lv_aload_n S.1 S.2.1 d_T_advance_56 rfl (lv_at hl 0 rfl) ?_
            refine lv_iconst (v := (nI 0)) S.1 S.2.1 d_T_advance_57 (by decide) ?_
            refine g_put (ws2 := [(aT, .inr (3, [.ref aF, .ref aTb, .int (nI q), .int (nI ln), .int (nI 0), .int (nI q), .long fr, .long bk])), (aTb, .inl (cB, 8192, .inl (sby b))), (aF, .inr (0, [.int fn, .int fw]))]) i_T ft_T ft_T_ok n_T S hW 0 rfl rfl 4 (by decide) kf_T_22 rfl rfl rfl (Nat.le_of_ble_eq_true rfl) rfl d_T_advance_58 (fun H locs hW => ?_)
            refine lv_iconst (v := (nI 1)) S.1 S.2.1 d_T_advance_61 (by decide) ?_
            exact ret _ _ _ _ _ _ d_T_advance_62 rfl (Or.inl ⟨_, _, _, _, _, ⟨⟨hS, Or.inl ⟨by omega, rfl, by omega⟩⟩, by decide, by omega, fun h => by cases h⟩, rfl, rfl⟩) hW
        · refine lv_aload_n S.1 S.2.1 d_T_advance_24 rfl (lv_at hl 0 rfl) ?_
          refine lv_dup S.1 S.2.1 d_T_advance_25 rfl ?_
          refine g_get i_T S hW 0 rfl rfl 2 (by decide) kf_T_15 rfl d_T_advance_26 ?_
          refine lv_iconst (v := (nI 1)) S.1 S.2.1 d_T_advance_29 (by decide) ?_
          refine n_iadd S d_T_advance_30 ?_
          refine g_put (ws2 := [(aT, .inr (3, [.ref aF, .ref aTb, .int (nI (q + 1)), .int (nI ln), .int kd, .int st, .long fr, .long bk])), (aTb, .inl (cB, 8192, .inl (sby b))), (aF, .inr (0, [.int fn, .int fw]))]) i_T ft_T ft_T_ok n_T S hW 0 rfl rfl 2 (by decide) kf_T_15 rfl rfl rfl (Nat.le_of_ble_eq_true rfl) rfl d_T_advance_31 (fun H locs hW => ?_)
          refine lv_goto (tgt := 0) S.1 S.2.1 d_T_advance_34 (by decide) ?_
          exact ih (q + 1) (by omega) (by omega) (by omega) (fun j a1 a2 => by rcases Nat.lt_or_ge j q with y | y; exact hq3 j a1 y; exact (show j = q by omega) ▸ c_21) _ _ hW _ (lv_sub hl [0] rfl)
  exact loop_0 (ln - z0 + 1) z0 (Nat.lt_succ_self _) (Nat.le_refl _) hz (fun j a1 a2 => absurd a2 (by omega)) _ _ hW _ (lv_sub hl [0] rfl)
