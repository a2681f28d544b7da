/-- n bytes from st on, the first one the highest -/
def beN (b : Nat → Nat) (st : Nat) : Nat → Nat
  | 0 => 0
  | n + 1 => beN b st n * 256 + b (st + n)
theorem beN_lt {b : Nat → Nat} (hb : ∀ j, b j < 256) (st n : Nat) : beN b st n < 256 ^ n := by
  induction n with
  | zero => simp [beN]
  | succ n ih =>
    have h := hb (st + n)
    show beN b st n * 256 + b (st + n) < 256 ^ (n + 1)
    rw [Nat.pow_succ]
    omega
theorem be_or {b : Nat → Nat} (hb : ∀ j, b j < 256) (st : Nat) {n : Nat} (hn : n < 7) : lN (beN b st n) <<< ((nI 8).toInt64 &&& 63) ||| (nI (b (st + n))).toInt64 = lN (beN b st (n + 1)) := by
  have h := hb (st + n)
  rw [wb_shl _ (by omega), nI_l (by omega)]
  have h1 := beN_lt hb st n
  have h3 : 256 ^ n ≤ 256 ^ 6 := Nat.pow_le_pow_right (by decide) (by omega)
  have h4 : 256 ^ 6 = 281474976710656 := by decide
  exact g_or (k := 8) (p := 256) (by decide) h (by omega)
def frR (b : Nat → Nat) (st nx : Nat) : Int64 := lN (beN b st (min (nx - st) 6))
def bkR (b : Nat → Nat) (st nx : Nat) : Int64 := lN (beN b (st + 6) (min (nx - st - 6) 6))
theorem rn_f {b : Nat → Nat} (hb : ∀ j, b j < 256) {z n : Nat} {f1 : Int64} (h4 : f1 = lN (beN b z (min n 6))) (c : n < 6) : f1 <<< ((nI 8).toInt64 &&& 63) ||| (nI (b (z + n))).toInt64 = lN (beN b z (min (n + 1) 6)) := by
  rw [h4, Nat.min_eq_left (by omega), Nat.min_eq_left (by omega)]
  exact be_or hb z (by omega)
theorem rn_f6 {b : Nat → Nat} {z n : Nat} {f1 : Int64} (h4 : f1 = lN (beN b z (min n 6))) (c : 6 ≤ n) : f1 = lN (beN b z (min (n + 1) 6)) := by
  rw [h4, Nat.min_eq_right (by omega), Nat.min_eq_right (by omega)]
theorem rn_g {b : Nat → Nat} {z n : Nat} {g1 : Int64} (h5 : n ≤ 12 → g1 = lN (beN b (z + 6) (n - 6))) (c : n < 6) : n + 1 ≤ 12 → g1 = lN (beN b (z + 6) (n + 1 - 6)) := by
  intro _
  rw [h5 (by omega), show n - 6 = 0 by omega, show n + 1 - 6 = 0 by omega]
theorem rn_g6 {b : Nat → Nat} (hb : ∀ j, b j < 256) {z n : Nat} {g1 : Int64} (h5 : n ≤ 12 → g1 = lN (beN b (z + 6) (n - 6))) (c : 6 ≤ n) : n + 1 ≤ 12 → g1 <<< ((nI 8).toInt64 &&& 63) ||| (nI (b (z + n))).toInt64 = lN (beN b (z + 6) (n + 1 - 6)) := by
  intro h
  rw [h5 (by omega), show n + 1 - 6 = n - 6 + 1 by omega]
  have := be_or hb (z + 6) (n := n - 6) (by omega)
  rw [show z + 6 + (n - 6) = z + n by omega] at this
  exact this
theorem isTy_iffR {b : Nat → Nat} (hb : ∀ j, b j < 256) {z n : Nat} (hn : n = 4) : lN (beN b z (min n 6)) = 1954115685 ↔ isTy b z (z + n) := by
  subst hn
  have e4 : beN b z 4 = b z * 16777216 + b (z + 1) * 65536 + b (z + 2) * 256 + b (z + 3) := by simp [beN]; omega
  have d0 := hb z
  have d1 := hb (z + 1)
  have d2 := hb (z + 2)
  have d3 := hb (z + 3)
  have hm : min 4 6 = 4 := by decide
  rw [hm]
  constructor
  · intro h
    have h3 : beN b z 4 = 1954115685 := lN_inj (by omega) (by decide) h
    refine ⟨rfl, ?_, ?_, ?_, ?_⟩ <;> omega
  · rintro ⟨-, h1, h2, h3, h4⟩
    rw [e4, h1, h2, h3, h4]; rfl
theorem rn_end {b : Nat → Nat} {z n : Nat} {f1 g1 : Int64} (h4 : f1 = lN (beN b z (min n 6))) (h5 : n ≤ 12 → g1 = lN (beN b (z + 6) (n - 6))) (h : n ≤ 12) : f1 = frR b z (z + n) ∧ g1 = bkR b z (z + n) := by
  refine ⟨?_, ?_⟩
  · rw [h4]; unfold frR; rw [show z + n - z = n by omega]
  · rw [h5 h]; unfold bkR; rw [show z + n - z = n by omega, Nat.min_eq_left (by omega)]
theorem d_M_isNamed_0 : decode b_M_isNamed 0 = .ok (.iload_n 0, 1) := by decide +kernel
theorem d_M_isNamed_1 : decode b_M_isNamed 1 = .ok (.bipush 97, 2) := by decide +kernel
theorem d_M_isNamed_3 : decode b_M_isNamed 3 = .ok (.if_icmp .lt 9, 3) := by decide +kernel
theorem d_M_isNamed_6 : decode b_M_isNamed 6 = .ok (.iload_n 0, 1) := by decide +kernel
theorem d_M_isNamed_7 : decode b_M_isNamed 7 = .ok (.bipush 122, 2) := by decide +kernel
theorem d_M_isNamed_9 : decode b_M_isNamed 9 = .ok (.if_icmp .le 39, 3) := by decide +kernel
theorem d_M_isNamed_12 : decode b_M_isNamed 12 = .ok (.iload_n 0, 1) := by decide +kernel
theorem d_M_isNamed_13 : decode b_M_isNamed 13 = .ok (.bipush 65, 2) := by decide +kernel
theorem d_M_isNamed_15 : decode b_M_isNamed 15 = .ok (.if_icmp .lt 9, 3) := by decide +kernel
theorem d_M_isNamed_18 : decode b_M_isNamed 18 = .ok (.iload_n 0, 1) := by decide +kernel
theorem d_M_isNamed_19 : decode b_M_isNamed 19 = .ok (.bipush 90, 2) := by decide +kernel
theorem d_M_isNamed_21 : decode b_M_isNamed 21 = .ok (.if_icmp .le 27, 3) := by decide +kernel
theorem d_M_isNamed_24 : decode b_M_isNamed 24 = .ok (.iload_n 0, 1) := by decide +kernel
theorem d_M_isNamed_25 : decode b_M_isNamed 25 = .ok (.bipush 48, 2) := by decide +kernel
theorem d_M_isNamed_27 : decode b_M_isNamed 27 = .ok (.if_icmp .lt 9, 3) := by decide +kernel
theorem d_M_isNamed_30 : decode b_M_isNamed 30 = .ok (.iload_n 0, 1) := by decide +kernel
theorem d_M_isNamed_31 : decode b_M_isNamed 31 = .ok (.bipush 57, 2) := by decide +kernel
theorem d_M_isNamed_33 : decode b_M_isNamed 33 = .ok (.if_icmp .le 15, 3) := by decide +kernel
theorem d_M_isNamed_36 : decode b_M_isNamed 36 = .ok (.iload_n 0, 1) := by decide +kernel
theorem d_M_isNamed_37 : decode b_M_isNamed 37 = .ok (.bipush 95, 2) := by decide +kernel
theorem d_M_isNamed_39 : decode b_M_isNamed 39 = .ok (.if_icmp .eq 9, 3) := by decide +kernel
theorem d_M_isNamed_42 : decode b_M_isNamed 42 = .ok (.iload_n 0, 1) := by decide +kernel
theorem d_M_isNamed_43 : decode b_M_isNamed 43 = .ok (.bipush 39, 2) := by decide +kernel
theorem d_M_isNamed_45 : decode b_M_isNamed 45 = .ok (.if_icmp .ne 7, 3) := by decide +kernel
theorem d_M_isNamed_48 : decode b_M_isNamed 48 = .ok (.iconst 1, 1) := by decide +kernel
theorem d_M_isNamed_49 : decode b_M_isNamed 49 = .ok (.goto 4, 3) := by decide +kernel
theorem d_M_isNamed_52 : decode b_M_isNamed 52 = .ok (.iconst 0, 1) := by decide +kernel
theorem d_M_isNamed_53 : decode b_M_isNamed 53 = .ok (.ireturn, 1) := by decide +kernel
set_option maxHeartbeats 4000000 in
set_option maxRecDepth 100000 in
theorem c_M_isNamed (l : Launch) (D : va_G) (cI cJ cB cZ : ClassId) (x : Nat) (hx : x < 256) : Ci l D (tyl cI cJ cB cZ) y_M_isNamed b_M_isNamed 1 (some .boolean) ({ frames := 0, cells := 0, slots := 0, locals := 0 } : Room) [.int (nI x)] [] (fun r u => ((isNm x) ∧ r = (nI 1) ∧ u = []) ∨ ((¬ isNm x) ∧ r = (nI 0) ∧ u = [])) := by
  refine met_i (own := "ProofReaderModel") (by decide) rfl (Nat.le_of_ble_eq_true rfl) ?_
  intro p e s m args below meth c A Q S hA ret ls hl hW
  have hl : lv_has ls 1 [(0, .int (nI x))] := hl
  have hW : Wd D (tyl cI cJ cB cZ) A s s.heap s.heap [] [] := hW
  refine lv_iload_n S.1 S.2.1 d_M_isNamed_0 rfl (lv_at hl 0 rfl) ?_
  refine lv_bipush (v := (nI 97)) S.1 S.2.1 d_M_isNamed_1 (by decide) ?_
  refine n_icmp_lt (tgt := 12) S (by omega) (by omega) d_M_isNamed_3 (by decide) (fun c_3 => ?_) (fun c_3 => ?_)
  · refine lv_iload_n S.1 S.2.1 d_M_isNamed_12 rfl (lv_at hl 0 rfl) ?_
    refine lv_bipush (v := (nI 65)) S.1 S.2.1 d_M_isNamed_13 (by decide) ?_
    refine n_icmp_lt (tgt := 24) S (by omega) (by omega) d_M_isNamed_15 (by decide) (fun c_15 => ?_) (fun c_15 => ?_)
    · refine lv_iload_n S.1 S.2.1 d_M_isNamed_24 rfl (lv_at hl 0 rfl) ?_
      refine lv_bipush (v := (nI 48)) S.1 S.2.1 d_M_isNamed_25 (by decide) ?_
      refine n_icmp_lt (tgt := 36) S (by omega) (by omega) d_M_isNamed_27 (by decide) (fun c_27 => ?_) (fun c_27 => ?_)
      · refine lv_iload_n S.1 S.2.1 d_M_isNamed_36 rfl (lv_at hl 0 rfl) ?_
        refine lv_bipush (v := (nI 95)) S.1 S.2.1 d_M_isNamed_37 (by decide) ?_
        refine n_icmp_eq (tgt := 48) S (by omega) (by omega) d_M_isNamed_39 (by decide) (fun c_39 => ?_) (fun c_39 => ?_)
        · refine lv_iconst (v := (nI 1)) S.1 S.2.1 d_M_isNamed_48 (by decide) ?_
          refine lv_goto (tgt := 53) S.1 S.2.1 d_M_isNamed_49 (by decide) ?_
          exact ret _ _ _ _ _ _ d_M_isNamed_53 rfl (by first | exact (Or.inl ⟨(by unfold isNm; omega), rfl, rfl⟩) | exact (Or.inr ⟨(by unfold isNm; omega), rfl, rfl⟩)) hW
        · refine lv_iload_n S.1 S.2.1 d_M_isNamed_42 rfl (lv_at hl 0 rfl) ?_
          refine lv_bipush (v := (nI 39)) S.1 S.2.1 d_M_isNamed_43 (by decide) ?_
          refine n_icmp_ne (tgt := 52) S (by omega) (by omega) d_M_isNamed_45 (by decide) (fun c_45 => ?_) (fun c_45 => ?_)
          · refine lv_iconst (v := (nI 0)) S.1 S.2.1 d_M_isNamed_52 (by decide) ?_
            exact ret _ _ _ _ _ _ d_M_isNamed_53 rfl (by first | exact (Or.inl ⟨(by unfold isNm; omega), rfl, rfl⟩) | exact (Or.inr ⟨(by unfold isNm; omega), rfl, rfl⟩)) hW
          · refine lv_iconst (v := (nI 1)) S.1 S.2.1 d_M_isNamed_48 (by decide) ?_
            refine lv_goto (tgt := 53) S.1 S.2.1 d_M_isNamed_49 (by decide) ?_
            exact ret _ _ _ _ _ _ d_M_isNamed_53 rfl (by first | exact (Or.inl ⟨(by unfold isNm; omega), rfl, rfl⟩) | exact (Or.inr ⟨(by unfold isNm; omega), rfl, rfl⟩)) hW
      · refine lv_iload_n S.1 S.2.1 d_M_isNamed_30 rfl (lv_at hl 0 rfl) ?_
        refine lv_bipush (v := (nI 57)) S.1 S.2.1 d_M_isNamed_31 (by decide) ?_
        refine n_icmp_le (tgt := 48) S (by omega) (by omega) d_M_isNamed_33 (by decide) (fun c_33 => ?_) (fun c_33 => ?_)
        · refine lv_iconst (v := (nI 1)) S.1 S.2.1 d_M_isNamed_48 (by decide) ?_
          refine lv_goto (tgt := 53) S.1 S.2.1 d_M_isNamed_49 (by decide) ?_
          exact ret _ _ _ _ _ _ d_M_isNamed_53 rfl (by first | exact (Or.inl ⟨(by unfold isNm; omega), rfl, rfl⟩) | exact (Or.inr ⟨(by unfold isNm; omega), rfl, rfl⟩)) hW
        · refine lv_iload_n S.1 S.2.1 d_M_isNamed_36 rfl (lv_at hl 0 rfl) ?_
          refine lv_bipush (v := (nI 95)) S.1 S.2.1 d_M_isNamed_37 (by decide) ?_
          refine n_icmp_eq (tgt := 48) S (by omega) (by omega) d_M_isNamed_39 (by decide) (fun c_39 => ?_) (fun c_39 => ?_)
          · refine lv_iconst (v := (nI 1)) S.1 S.2.1 d_M_isNamed_48 (by decide) ?_
            refine lv_goto (tgt := 53) S.1 S.2.1 d_M_isNamed_49 (by decide) ?_
            exact ret _ _ _ _ _ _ d_M_isNamed_53 rfl (by first | exact (Or.inl ⟨(by unfold isNm; omega), rfl, rfl⟩) | exact (Or.inr ⟨(by unfold isNm; omega), rfl, rfl⟩)) hW
          · refine lv_iload_n S.1 S.2.1 d_M_isNamed_42 rfl (lv_at hl 0 rfl) ?_
            refine lv_bipush (v := (nI 39)) S.1 S.2.1 d_M_isNamed_43 (by decide) ?_
            refine n_icmp_ne (tgt := 52) S (by omega) (by omega) d_M_isNamed_45 (by decide) (fun c_45 => ?_) (fun c_45 => ?_)
            · refine lv_iconst (v := (nI 0)) S.1 S.2.1 d_M_isNamed_52 (by decide) ?_
              exact ret _ _ _ _ _ _ d_M_isNamed_53 rfl (by first | exact (Or.inl ⟨(by unfold isNm; omega), rfl, rfl⟩) | exact (Or.inr ⟨(by unfold isNm; omega), rfl, rfl⟩)) hW
            · refine lv_iconst (v := (nI 1)) S.1 S.2.1 d_M_isNamed_48 (by decide) ?_
              refine lv_goto (tgt := 53) S.1 S.2.1 d_M_isNamed_49 (by decide) ?_
              exact ret _ _ _ _ _ _ d_M_isNamed_53 rfl (by first | exact (Or.inl ⟨(by unfold isNm; omega), rfl, rfl⟩) | exact (Or.inr ⟨(by unfold isNm; omega), rfl, rfl⟩)) hW
    · refine lv_iload_n S.1 S.2.1 d_M_isNamed_18 rfl (lv_at hl 0 rfl) ?_
      refine lv_bipush (v := (nI 90)) S.1 S.2.1 d_M_isNamed_19 (by decide) ?_
      refine n_icmp_le (tgt := 48) S (by omega) (by omega) d_M_isNamed_21 (by decide) (fun c_21 => ?_) (fun c_21 => ?_)
      · refine lv_iconst (v := (nI 1)) S.1 S.2.1 d_M_isNamed_48 (by decide) ?_
        refine lv_goto (tgt := 53) S.1 S.2.1 d_M_isNamed_49 (by decide) ?_
        exact ret _ _ _ _ _ _ d_M_isNamed_53 rfl (by first | exact (Or.inl ⟨(by unfold isNm; omega), rfl, rfl⟩) | exact (Or.inr ⟨(by unfold isNm; omega), rfl, rfl⟩)) hW
      · refine lv_iload_n S.1 S.2.1 d_M_isNamed_24 rfl (lv_at hl 0 rfl) ?_
        refine lv_bipush (v := (nI 48)) S.1 S.2.1 d_M_isNamed_25 (by decide) ?_
        refine n_icmp_lt (tgt := 36) S (by omega) (by omega) d_M_isNamed_27 (by decide) (fun c_27 => ?_) (fun c_27 => ?_)
        · refine lv_iload_n S.1 S.2.1 d_M_isNamed_36 rfl (lv_at hl 0 rfl) ?_
          refine lv_bipush (v := (nI 95)) S.1 S.2.1 d_M_isNamed_37 (by decide) ?_
          refine n_icmp_eq (tgt := 48) S (by omega) (by omega) d_M_isNamed_39 (by decide) (fun c_39 => ?_) (fun c_39 => ?_)
          · refine lv_iconst (v := (nI 1)) S.1 S.2.1 d_M_isNamed_48 (by decide) ?_
            refine lv_goto (tgt := 53) S.1 S.2.1 d_M_isNamed_49 (by decide) ?_
            exact ret _ _ _ _ _ _ d_M_isNamed_53 rfl (by first | exact (Or.inl ⟨(by unfold isNm; omega), rfl, rfl⟩) | exact (Or.inr ⟨(by unfold isNm; omega), rfl, rfl⟩)) hW
          · refine lv_iload_n S.1 S.2.1 d_M_isNamed_42 rfl (lv_at hl 0 rfl) ?_
            refine lv_bipush (v := (nI 39)) S.1 S.2.1 d_M_isNamed_43 (by decide) ?_
            refine n_icmp_ne (tgt := 52) S (by omega) (by omega) d_M_isNamed_45 (by decide) (fun c_45 => ?_) (fun c_45 => ?_)
            · refine lv_iconst (v := (nI 0)) S.1 S.2.1 d_M_isNamed_52 (by decide) ?_
              exact ret _ _ _ _ _ _ d_M_isNamed_53 rfl (by first | exact (Or.inl ⟨(by unfold isNm; omega), rfl, rfl⟩) | exact (Or.inr ⟨(by unfold isNm; omega), rfl, rfl⟩)) hW
            · refine lv_iconst (v := (nI 1)) S.1 S.2.1 d_M_isNamed_48 (by decide) ?_
              refine lv_goto (tgt := 53) S.1 S.2.1 d_M_isNamed_49 (by decide) ?_
              exact ret _ _ _ _ _ _ d_M_isNamed_53 rfl (by first | exact (Or.inl ⟨(by unfold isNm; omega), rfl, rfl⟩) | exact (Or.inr ⟨(by unfold isNm; omega), rfl, rfl⟩)) hW
        · refine lv_iload_n S.1 S.2.1 d_M_isNamed_30 rfl (lv_at hl 0 rfl) ?_
          refine lv_bipush (v := (nI 57)) S.1 S.2.1 d_M_isNamed_31 (by decide) ?_
          refine n_icmp_le (tgt := 48) S (by omega) (by omega) d_M_isNamed_33 (by decide) (fun c_33 => ?_) (fun c_33 => ?_)
          · refine lv_iconst (v := (nI 1)) S.1 S.2.1 d_M_isNamed_48 (by decide) ?_
            refine lv_goto (tgt := 53) S.1 S.2.1 d_M_isNamed_49 (by decide) ?_
            exact ret _ _ _ _ _ _ d_M_isNamed_53 rfl (by first | exact (Or.inl ⟨(by unfold isNm; omega), rfl, rfl⟩) | exact (Or.inr ⟨(by unfold isNm; omega), rfl, rfl⟩)) hW
          · refine lv_iload_n S.1 S.2.1 d_M_isNamed_36 rfl (lv_at hl 0 rfl) ?_
            refine lv_bipush (v := (nI 95)) S.1 S.2.1 d_M_isNamed_37 (by decide) ?_
            refine n_icmp_eq (tgt := 48) S (by omega) (by omega) d_M_isNamed_39 (by decide) (fun c_39 => ?_) (fun c_39 => ?_)
            · refine lv_iconst (v := (nI 1)) S.1 S.2.1 d_M_isNamed_48 (by decide) ?_
              refine lv_goto (tgt := 53) S.1 S.2.1 d_M_isNamed_49 (by decide) ?_
              exact ret _ _ _ _ _ _ d_M_isNamed_53 rfl (by first | exact (Or.inl ⟨(by unfold isNm; omega), rfl, rfl⟩) | exact (Or.inr ⟨(by unfold isNm; omega), rfl, rfl⟩)) hW
            · refine lv_iload_n S.1 S.2.1 d_M_isNamed_42 rfl (lv_at hl 0 rfl) ?_
              refine lv_bipush (v := (nI 39)) S.1 S.2.1 d_M_isNamed_43 (by decide) ?_
              refine n_icmp_ne (tgt := 52) S (by omega) (by omega) d_M_isNamed_45 (by decide) (fun c_45 => ?_) (fun c_45 => ?_)
              · refine lv_iconst (v := (nI 0)) S.1 S.2.1 d_M_isNamed_52 (by decide) ?_
                exact ret _ _ _ _ _ _ d_M_isNamed_53 rfl (by first | exact (Or.inl ⟨(by unfold isNm; omega), rfl, rfl⟩) | exact (Or.inr ⟨(by unfold isNm; omega), rfl, rfl⟩)) hW
              · refine lv_iconst (v := (nI 1)) S.1 S.2.1 d_M_isNamed_48 (by decide) ?_
                refine lv_goto (tgt := 53) S.1 S.2.1 d_M_isNamed_49 (by decide) ?_
                exact ret _ _ _ _ _ _ d_M_isNamed_53 rfl (by first | exact (Or.inl ⟨(by unfold isNm; omega), rfl, rfl⟩) | exact (Or.inr ⟨(by unfold isNm; omega), rfl, rfl⟩)) hW
  · refine lv_iload_n S.1 S.2.1 d_M_isNamed_6 rfl (lv_at hl 0 rfl) ?_
    refine lv_bipush (v := (nI 122)) S.1 S.2.1 d_M_isNamed_7 (by decide) ?_
    refine n_icmp_le (tgt := 48) S (by omega) (by omega) d_M_isNamed_9 (by decide) (fun c_9 => ?_) (fun c_9 => ?_)
    · refine lv_iconst (v := (nI 1)) S.1 S.2.1 d_M_isNamed_48 (by decide) ?_
      refine lv_goto (tgt := 53) S.1 S.2.1 d_M_isNamed_49 (by decide) ?_
      exact ret _ _ _ _ _ _ d_M_isNamed_53 rfl (by first | exact (Or.inl ⟨(by unfold isNm; omega), rfl, rfl⟩) | exact (Or.inr ⟨(by unfold isNm; omega), rfl, rfl⟩)) hW
    · refine lv_iload_n S.1 S.2.1 d_M_isNamed_12 rfl (lv_at hl 0 rfl) ?_
      refine lv_bipush (v := (nI 65)) S.1 S.2.1 d_M_isNamed_13 (by decide) ?_
      refine n_icmp_lt (tgt := 24) S (by omega) (by omega) d_M_isNamed_15 (by decide) (fun c_15 => ?_) (fun c_15 => ?_)
      · refine lv_iload_n S.1 S.2.1 d_M_isNamed_24 rfl (lv_at hl 0 rfl) ?_
        refine lv_bipush (v := (nI 48)) S.1 S.2.1 d_M_isNamed_25 (by decide) ?_
        refine n_icmp_lt (tgt := 36) S (by omega) (by omega) d_M_isNamed_27 (by decide) (fun c_27 => ?_) (fun c_27 => ?_)
        · refine lv_iload_n S.1 S.2.1 d_M_isNamed_36 rfl (lv_at hl 0 rfl) ?_
          refine lv_bipush (v := (nI 95)) S.1 S.2.1 d_M_isNamed_37 (by decide) ?_
          refine n_icmp_eq (tgt := 48) S (by omega) (by omega) d_M_isNamed_39 (by decide) (fun c_39 => ?_) (fun c_39 => ?_)
          · refine lv_iconst (v := (nI 1)) S.1 S.2.1 d_M_isNamed_48 (by decide) ?_
            refine lv_goto (tgt := 53) S.1 S.2.1 d_M_isNamed_49 (by decide) ?_
            exact ret _ _ _ _ _ _ d_M_isNamed_53 rfl (by first | exact (Or.inl ⟨(by unfold isNm; omega), rfl, rfl⟩) | exact (Or.inr ⟨(by unfold isNm; omega), rfl, rfl⟩)) hW
          · refine lv_iload_n S.1 S.2.1 d_M_isNamed_42 rfl (lv_at hl 0 rfl) ?_
            refine lv_bipush (v := (nI 39)) S.1 S.2.1 d_M_isNamed_43 (by decide) ?_
            refine n_icmp_ne (tgt := 52) S (by omega) (by omega) d_M_isNamed_45 (by decide) (fun c_45 => ?_) (fun c_45 => ?_)
            · refine lv_iconst (v := (nI 0)) S.1 S.2.1 d_M_isNamed_52 (by decide) ?_
              exact ret _ _ _ _ _ _ d_M_isNamed_53 rfl (by first | exact (Or.inl ⟨(by unfold isNm; omega), rfl, rfl⟩) | exact (Or.inr ⟨(by unfold isNm; omega), rfl, rfl⟩)) hW
            · refine lv_iconst (v := (nI 1)) S.1 S.2.1 d_M_isNamed_48 (by decide) ?_
              refine lv_goto (tgt := 53) S.1 S.2.1 d_M_isNamed_49 (by decide) ?_
              exact ret _ _ _ _ _ _ d_M_isNamed_53 rfl (by first | exact (Or.inl ⟨(by unfold isNm; omega), rfl, rfl⟩) | exact (Or.inr ⟨(by unfold isNm; omega), rfl, rfl⟩)) hW
        · refine lv_iload_n S.1 S.2.1 d_M_isNamed_30 rfl (lv_at hl 0 rfl) ?_
          refine lv_bipush (v := (nI 57)) S.1 S.2.1 d_M_isNamed_31 (by decide) ?_
          refine n_icmp_le (tgt := 48) S (by omega) (by omega) d_M_isNamed_33 (by decide) (fun c_33 => ?_) (fun c_33 => ?_)
          · refine lv_iconst (v := (nI 1)) S.1 S.2.1 d_M_isNamed_48 (by decide) ?_
            refine lv_goto (tgt := 53) S.1 S.2.1 d_M_isNamed_49 (by decide) ?_
            exact ret _ _ _ _ _ _ d_M_isNamed_53 rfl (by first | exact (Or.inl ⟨(by unfold isNm; omega), rfl, rfl⟩) | exact (Or.inr ⟨(by unfold isNm; omega), rfl, rfl⟩)) hW
          · refine lv_iload_n S.1 S.2.1 d_M_isNamed_36 rfl (lv_at hl 0 rfl) ?_
            refine lv_bipush (v := (nI 95)) S.1 S.2.1 d_M_isNamed_37 (by decide) ?_
            refine n_icmp_eq (tgt := 48) S (by omega) (by omega) d_M_isNamed_39 (by decide) (fun c_39 => ?_) (fun c_39 => ?_)
            · refine lv_iconst (v := (nI 1)) S.1 S.2.1 d_M_isNamed_48 (by decide) ?_
              refine lv_goto (tgt := 53) S.1 S.2.1 d_M_isNamed_49 (by decide) ?_
              exact ret _ _ _ _ _ _ d_M_isNamed_53 rfl (by first | exact (Or.inl ⟨(by unfold isNm; omega), rfl, rfl⟩) | exact (Or.inr ⟨(by unfold isNm; omega), rfl, rfl⟩)) hW
            · refine lv_iload_n S.1 S.2.1 d_M_isNamed_42 rfl (lv_at hl 0 rfl) ?_
              refine lv_bipush (v := (nI 39)) S.1 S.2.1 d_M_isNamed_43 (by decide) ?_
              refine n_icmp_ne (tgt := 52) S (by omega) (by omega) d_M_isNamed_45 (by decide) (fun c_45 => ?_) (fun c_45 => ?_)
              · refine lv_iconst (v := (nI 0)) S.1 S.2.1 d_M_isNamed_52 (by decide) ?_
                exact ret _ _ _ _ _ _ d_M_isNamed_53 rfl (by first | exact (Or.inl ⟨(by unfold isNm; omega), rfl, rfl⟩) | exact (Or.inr ⟨(by unfold isNm; omega), rfl, rfl⟩)) hW
              · refine lv_iconst (v := (nI 1)) S.1 S.2.1 d_M_isNamed_48 (by decide) ?_
                refine lv_goto (tgt := 53) S.1 S.2.1 d_M_isNamed_49 (by decide) ?_
                exact ret _ _ _ _ _ _ d_M_isNamed_53 rfl (by first | exact (Or.inl ⟨(by unfold isNm; omega), rfl, rfl⟩) | exact (Or.inr ⟨(by unfold isNm; omega), rfl, rfl⟩)) hW
      · refine lv_iload_n S.1 S.2.1 d_M_isNamed_18 rfl (lv_at hl 0 rfl) ?_
        refine lv_bipush (v := (nI 90)) S.1 S.2.1 d_M_isNamed_19 (by decide) ?_
        refine n_icmp_le (tgt := 48) S (by omega) (by omega) d_M_isNamed_21 (by decide) (fun c_21 => ?_) (fun c_21 => ?_)
        · refine lv_iconst (v := (nI 1)) S.1 S.2.1 d_M_isNamed_48 (by decide) ?_
          refine lv_goto (tgt := 53) S.1 S.2.1 d_M_isNamed_49 (by decide) ?_
          exact ret _ _ _ _ _ _ d_M_isNamed_53 rfl (by first | exact (Or.inl ⟨(by unfold isNm; omega), rfl, rfl⟩) | exact (Or.inr ⟨(by unfold isNm; omega), rfl, rfl⟩)) hW
        · refine lv_iload_n S.1 S.2.1 d_M_isNamed_24 rfl (lv_at hl 0 rfl) ?_
          refine lv_bipush (v := (nI 48)) S.1 S.2.1 d_M_isNamed_25 (by decide) ?_
          refine n_icmp_lt (tgt := 36) S (by omega) (by omega) d_M_isNamed_27 (by decide) (fun c_27 => ?_) (fun c_27 => ?_)
          · refine lv_iload_n S.1 S.2.1 d_M_isNamed_36 rfl (lv_at hl 0 rfl) ?_
            refine lv_bipush (v := (nI 95)) S.1 S.2.1 d_M_isNamed_37 (by decide) ?_
            refine n_icmp_eq (tgt := 48) S (by omega) (by omega) d_M_isNamed_39 (by decide) (fun c_39 => ?_) (fun c_39 => ?_)
            · refine lv_iconst (v := (nI 1)) S.1 S.2.1 d_M_isNamed_48 (by decide) ?_
              refine lv_goto (tgt := 53) S.1 S.2.1 d_M_isNamed_49 (by decide) ?_
              exact ret _ _ _ _ _ _ d_M_isNamed_53 rfl (by first | exact (Or.inl ⟨(by unfold isNm; omega), rfl, rfl⟩) | exact (Or.inr ⟨(by unfold isNm; omega), rfl, rfl⟩)) hW
            · refine lv_iload_n S.1 S.2.1 d_M_isNamed_42 rfl (lv_at hl 0 rfl) ?_
              refine lv_bipush (v := (nI 39)) S.1 S.2.1 d_M_isNamed_43 (by decide) ?_
              refine n_icmp_ne (tgt := 52) S (by omega) (by omega) d_M_isNamed_45 (by decide) (fun c_45 => ?_) (fun c_45 => ?_)
              · refine lv_iconst (v := (nI 0)) S.1 S.2.1 d_M_isNamed_52 (by decide) ?_
                exact ret _ _ _ _ _ _ d_M_isNamed_53 rfl (by first | exact (Or.inl ⟨(by unfold isNm; omega), rfl, rfl⟩) | exact (Or.inr ⟨(by unfold isNm; omega), rfl, rfl⟩)) hW
              · refine lv_iconst (v := (nI 1)) S.1 S.2.1 d_M_isNamed_48 (by decide) ?_
                refine lv_goto (tgt := 53) S.1 S.2.1 d_M_isNamed_49 (by decide) ?_
                exact ret _ _ _ _ _ _ d_M_isNamed_53 rfl (by first | exact (Or.inl ⟨(by unfold isNm; omega), rfl, rfl⟩) | exact (Or.inr ⟨(by unfold isNm; omega), rfl, rfl⟩)) hW
          · refine lv_iload_n S.1 S.2.1 d_M_isNamed_30 rfl (lv_at hl 0 rfl) ?_
            refine lv_bipush (v := (nI 57)) S.1 S.2.1 d_M_isNamed_31 (by decide) ?_
            refine n_icmp_le (tgt := 48) S (by omega) (by omega) d_M_isNamed_33 (by decide) (fun c_33 => ?_) (fun c_33 => ?_)
            · refine lv_iconst (v := (nI 1)) S.1 S.2.1 d_M_isNamed_48 (by decide) ?_
              refine lv_goto (tgt := 53) S.1 S.2.1 d_M_isNamed_49 (by decide) ?_
              exact ret _ _ _ _ _ _ d_M_isNamed_53 rfl (by first | exact (Or.inl ⟨(by unfold isNm; omega), rfl, rfl⟩) | exact (Or.inr ⟨(by unfold isNm; omega), rfl, rfl⟩)) hW
            · refine lv_iload_n S.1 S.2.1 d_M_isNamed_36 rfl (lv_at hl 0 rfl) ?_
              refine lv_bipush (v := (nI 95)) S.1 S.2.1 d_M_isNamed_37 (by decide) ?_
              refine n_icmp_eq (tgt := 48) S (by omega) (by omega) d_M_isNamed_39 (by decide) (fun c_39 => ?_) (fun c_39 => ?_)
              · refine lv_iconst (v := (nI 1)) S.1 S.2.1 d_M_isNamed_48 (by decide) ?_
                refine lv_goto (tgt := 53) S.1 S.2.1 d_M_isNamed_49 (by decide) ?_
                exact ret _ _ _ _ _ _ d_M_isNamed_53 rfl (by first | exact (Or.inl ⟨(by unfold isNm; omega), rfl, rfl⟩) | exact (Or.inr ⟨(by unfold isNm; omega), rfl, rfl⟩)) hW
              · refine lv_iload_n S.1 S.2.1 d_M_isNamed_42 rfl (lv_at hl 0 rfl) ?_
                refine lv_bipush (v := (nI 39)) S.1 S.2.1 d_M_isNamed_43 (by decide) ?_
                refine n_icmp_ne (tgt := 52) S (by omega) (by omega) d_M_isNamed_45 (by decide) (fun c_45 => ?_) (fun c_45 => ?_)
                · refine lv_iconst (v := (nI 0)) S.1 S.2.1 d_M_isNamed_52 (by decide) ?_
                  exact ret _ _ _ _ _ _ d_M_isNamed_53 rfl (by first | exact (Or.inl ⟨(by unfold isNm; omega), rfl, rfl⟩) | exact (Or.inr ⟨(by unfold isNm; omega), rfl, rfl⟩)) hW
                · refine lv_iconst (v := (nI 1)) S.1 S.2.1 d_M_isNamed_48 (by decide) ?_
                  refine lv_goto (tgt := 53) S.1 S.2.1 d_M_isNamed_49 (by decide) ?_
                  exact ret _ _ _ _ _ _ d_M_isNamed_53 rfl (by first | exact (Or.inl ⟨(by unfold isNm; omega), rfl, rfl⟩) | exact (Or.inr ⟨(by unfold isNm; omega), rfl, rfl⟩)) hW
theorem d_M_isSign_0 : decode b_M_isSign 0 = .ok (.iload_n 0, 1) := by decide +kernel
theorem d_M_isSign_1 : decode b_M_isSign 1 = .ok (.bipush 58, 2) := by decide +kernel
theorem d_M_isSign_3 : decode b_M_isSign 3 = .ok (.if_icmp .eq 57, 3) := by decide +kernel
theorem d_M_isSign_6 : decode b_M_isSign 6 = .ok (.iload_n 0, 1) := by decide +kernel
theorem d_M_isSign_7 : decode b_M_isSign 7 = .ok (.bipush 46, 2) := by decide +kernel
theorem d_M_isSign_9 : decode b_M_isSign 9 = .ok (.if_icmp .eq 51, 3) := by decide +kernel
theorem d_M_isSign_12 : decode b_M_isSign 12 = .ok (.iload_n 0, 1) := by decide +kernel
theorem d_M_isSign_13 : decode b_M_isSign 13 = .ok (.bipush 40, 2) := by decide +kernel
theorem d_M_isSign_15 : decode b_M_isSign 15 = .ok (.if_icmp .eq 45, 3) := by decide +kernel
theorem d_M_isSign_18 : decode b_M_isSign 18 = .ok (.iload_n 0, 1) := by decide +kernel
theorem d_M_isSign_19 : decode b_M_isSign 19 = .ok (.bipush 41, 2) := by decide +kernel
theorem d_M_isSign_21 : decode b_M_isSign 21 = .ok (.if_icmp .eq 39, 3) := by decide +kernel
theorem d_M_isSign_24 : decode b_M_isSign 24 = .ok (.iload_n 0, 1) := by decide +kernel
theorem d_M_isSign_25 : decode b_M_isSign 25 = .ok (.bipush 123, 2) := by decide +kernel
theorem d_M_isSign_27 : decode b_M_isSign 27 = .ok (.if_icmp .eq 33, 3) := by decide +kernel
theorem d_M_isSign_30 : decode b_M_isSign 30 = .ok (.iload_n 0, 1) := by decide +kernel
theorem d_M_isSign_31 : decode b_M_isSign 31 = .ok (.bipush 125, 2) := by decide +kernel
theorem d_M_isSign_33 : decode b_M_isSign 33 = .ok (.if_icmp .eq 27, 3) := by decide +kernel
theorem d_M_isSign_36 : decode b_M_isSign 36 = .ok (.iload_n 0, 1) := by decide +kernel
theorem d_M_isSign_37 : decode b_M_isSign 37 = .ok (.bipush 91, 2) := by decide +kernel
theorem d_M_isSign_39 : decode b_M_isSign 39 = .ok (.if_icmp .eq 21, 3) := by decide +kernel
theorem d_M_isSign_42 : decode b_M_isSign 42 = .ok (.iload_n 0, 1) := by decide +kernel
theorem d_M_isSign_43 : decode b_M_isSign 43 = .ok (.bipush 93, 2) := by decide +kernel
theorem d_M_isSign_45 : decode b_M_isSign 45 = .ok (.if_icmp .eq 15, 3) := by decide +kernel
theorem d_M_isSign_48 : decode b_M_isSign 48 = .ok (.iload_n 0, 1) := by decide +kernel
theorem d_M_isSign_49 : decode b_M_isSign 49 = .ok (.bipush 61, 2) := by decide +kernel
theorem d_M_isSign_51 : decode b_M_isSign 51 = .ok (.if_icmp .eq 9, 3) := by decide +kernel
theorem d_M_isSign_54 : decode b_M_isSign 54 = .ok (.iload_n 0, 1) := by decide +kernel
theorem d_M_isSign_55 : decode b_M_isSign 55 = .ok (.bipush 63, 2) := by decide +kernel
theorem d_M_isSign_57 : decode b_M_isSign 57 = .ok (.if_icmp .ne 7, 3) := by decide +kernel
theorem d_M_isSign_60 : decode b_M_isSign 60 = .ok (.iconst 1, 1) := by decide +kernel
theorem d_M_isSign_61 : decode b_M_isSign 61 = .ok (.goto 4, 3) := by decide +kernel
theorem d_M_isSign_64 : decode b_M_isSign 64 = .ok (.iconst 0, 1) := by decide +kernel
theorem d_M_isSign_65 : decode b_M_isSign 65 = .ok (.ireturn, 1) := by decide +kernel
set_option maxHeartbeats 4000000 in
set_option maxRecDepth 100000 in
theorem c_M_isSign (l : Launch) (D : va_G) (cI cJ cB cZ : ClassId) (x : Nat) (hx : x < 256) : Ci l D (tyl cI cJ cB cZ) y_M_isSign b_M_isSign 1 (some .boolean) ({ frames := 0, cells := 0, slots := 0, locals := 0 } : Room) [.int (nI x)] [] (fun r u => ((isSg x) ∧ r = (nI 1) ∧ u = []) ∨ ((¬ isSg x) ∧ r = (nI 0) ∧ u = [])) := by
  refine met_i (own := "ProofReaderModel") (by decide) rfl (Nat.le_of_ble_eq_true rfl) ?_
  intro p e s m args below meth c A Q S hA ret ls hl hW
  have hl : lv_has ls 1 [(0, .int (nI x))] := hl
  have hW : Wd D (tyl cI cJ cB cZ) A s s.heap s.heap [] [] := hW
  refine lv_iload_n S.1 S.2.1 d_M_isSign_0 rfl (lv_at hl 0 rfl) ?_
  refine lv_bipush (v := (nI 58)) S.1 S.2.1 d_M_isSign_1 (by decide) ?_
  refine n_icmp_eq (tgt := 60) S (by omega) (by omega) d_M_isSign_3 (by decide) (fun c_3 => ?_) (fun c_3 => ?_)
  · refine lv_iconst (v := (nI 1)) S.1 S.2.1 d_M_isSign_60 (by decide) ?_
    refine lv_goto (tgt := 65) S.1 S.2.1 d_M_isSign_61 (by decide) ?_
    exact ret _ _ _ _ _ _ d_M_isSign_65 rfl (by first | exact (Or.inl ⟨(by unfold isSg; omega), rfl, rfl⟩) | exact (Or.inr ⟨(by unfold isSg; omega), rfl, rfl⟩)) hW
  · refine lv_iload_n S.1 S.2.1 d_M_isSign_6 rfl (lv_at hl 0 rfl) ?_
    refine lv_bipush (v := (nI 46)) S.1 S.2.1 d_M_isSign_7 (by decide) ?_
    refine n_icmp_eq (tgt := 60) S (by omega) (by omega) d_M_isSign_9 (by decide) (fun c_9 => ?_) (fun c_9 => ?_)
    · refine lv_iconst (v := (nI 1)) S.1 S.2.1 d_M_isSign_60 (by decide) ?_
      refine lv_goto (tgt := 65) S.1 S.2.1 d_M_isSign_61 (by decide) ?_
      exact ret _ _ _ _ _ _ d_M_isSign_65 rfl (by first | exact (Or.inl ⟨(by unfold isSg; omega), rfl, rfl⟩) | exact (Or.inr ⟨(by unfold isSg; omega), rfl, rfl⟩)) hW
    · refine lv_iload_n S.1 S.2.1 d_M_isSign_12 rfl (lv_at hl 0 rfl) ?_
      refine lv_bipush (v := (nI 40)) S.1 S.2.1 d_M_isSign_13 (by decide) ?_
      refine n_icmp_eq (tgt := 60) S (by omega) (by omega) d_M_isSign_15 (by decide) (fun c_15 => ?_) (fun c_15 => ?_)
      · refine lv_iconst (v := (nI 1)) S.1 S.2.1 d_M_isSign_60 (by decide) ?_
        refine lv_goto (tgt := 65) S.1 S.2.1 d_M_isSign_61 (by decide) ?_
        exact ret _ _ _ _ _ _ d_M_isSign_65 rfl (by first | exact (Or.inl ⟨(by unfold isSg; omega), rfl, rfl⟩) | exact (Or.inr ⟨(by unfold isSg; omega), rfl, rfl⟩)) hW
      · refine lv_iload_n S.1 S.2.1 d_M_isSign_18 rfl (lv_at hl 0 rfl) ?_
        refine lv_bipush (v := (nI 41)) S.1 S.2.1 d_M_isSign_19 (by decide) ?_
        refine n_icmp_eq (tgt := 60) S (by omega) (by omega) d_M_isSign_21 (by decide) (fun c_21 => ?_) (fun c_21 => ?_)
        · refine lv_iconst (v := (nI 1)) S.1 S.2.1 d_M_isSign_60 (by decide) ?_
          refine lv_goto (tgt := 65) S.1 S.2.1 d_M_isSign_61 (by decide) ?_
          exact ret _ _ _ _ _ _ d_M_isSign_65 rfl (by first | exact (Or.inl ⟨(by unfold isSg; omega), rfl, rfl⟩) | exact (Or.inr ⟨(by unfold isSg; omega), rfl, rfl⟩)) hW
        · refine lv_iload_n S.1 S.2.1 d_M_isSign_24 rfl (lv_at hl 0 rfl) ?_
          refine lv_bipush (v := (nI 123)) S.1 S.2.1 d_M_isSign_25 (by decide) ?_
          refine n_icmp_eq (tgt := 60) S (by omega) (by omega) d_M_isSign_27 (by decide) (fun c_27 => ?_) (fun c_27 => ?_)
          · refine lv_iconst (v := (nI 1)) S.1 S.2.1 d_M_isSign_60 (by decide) ?_
            refine lv_goto (tgt := 65) S.1 S.2.1 d_M_isSign_61 (by decide) ?_
            exact ret _ _ _ _ _ _ d_M_isSign_65 rfl (by first | exact (Or.inl ⟨(by unfold isSg; omega), rfl, rfl⟩) | exact (Or.inr ⟨(by unfold isSg; omega), rfl, rfl⟩)) hW
          · refine lv_iload_n S.1 S.2.1 d_M_isSign_30 rfl (lv_at hl 0 rfl) ?_
            refine lv_bipush (v := (nI 125)) S.1 S.2.1 d_M_isSign_31 (by decide) ?_
            refine n_icmp_eq (tgt := 60) S (by omega) (by omega) d_M_isSign_33 (by decide) (fun c_33 => ?_) (fun c_33 => ?_)
            · refine lv_iconst (v := (nI 1)) S.1 S.2.1 d_M_isSign_60 (by decide) ?_
              refine lv_goto (tgt := 65) S.1 S.2.1 d_M_isSign_61 (by decide) ?_
              exact ret _ _ _ _ _ _ d_M_isSign_65 rfl (by first | exact (Or.inl ⟨(by unfold isSg; omega), rfl, rfl⟩) | exact (Or.inr ⟨(by unfold isSg; omega), rfl, rfl⟩)) hW
            · refine lv_iload_n S.1 S.2.1 d_M_isSign_36 rfl (lv_at hl 0 rfl) ?_
              refine lv_bipush (v := (nI 91)) S.1 S.2.1 d_M_isSign_37 (by decide) ?_
              refine n_icmp_eq (tgt := 60) S (by omega) (by omega) d_M_isSign_39 (by decide) (fun c_39 => ?_) (fun c_39 => ?_)
              · refine lv_iconst (v := (nI 1)) S.1 S.2.1 d_M_isSign_60 (by decide) ?_
                refine lv_goto (tgt := 65) S.1 S.2.1 d_M_isSign_61 (by decide) ?_
                exact ret _ _ _ _ _ _ d_M_isSign_65 rfl (by first | exact (Or.inl ⟨(by unfold isSg; omega), rfl, rfl⟩) | exact (Or.inr ⟨(by unfold isSg; omega), rfl, rfl⟩)) hW
              · refine lv_iload_n S.1 S.2.1 d_M_isSign_42 rfl (lv_at hl 0 rfl) ?_
                refine lv_bipush (v := (nI 93)) S.1 S.2.1 d_M_isSign_43 (by decide) ?_
                refine n_icmp_eq (tgt := 60) S (by omega) (by omega) d_M_isSign_45 (by decide) (fun c_45 => ?_) (fun c_45 => ?_)
                · refine lv_iconst (v := (nI 1)) S.1 S.2.1 d_M_isSign_60 (by decide) ?_
                  refine lv_goto (tgt := 65) S.1 S.2.1 d_M_isSign_61 (by decide) ?_
                  exact ret _ _ _ _ _ _ d_M_isSign_65 rfl (by first | exact (Or.inl ⟨(by unfold isSg; omega), rfl, rfl⟩) | exact (Or.inr ⟨(by unfold isSg; omega), rfl, rfl⟩)) hW
                · refine lv_iload_n S.1 S.2.1 d_M_isSign_48 rfl (lv_at hl 0 rfl) ?_
                  refine lv_bipush (v := (nI 61)) S.1 S.2.1 d_M_isSign_49 (by decide) ?_
                  refine n_icmp_eq (tgt := 60) S (by omega) (by omega) d_M_isSign_51 (by decide) (fun c_51 => ?_) (fun c_51 => ?_)
                  · refine lv_iconst (v := (nI 1)) S.1 S.2.1 d_M_isSign_60 (by decide) ?_
                    refine lv_goto (tgt := 65) S.1 S.2.1 d_M_isSign_61 (by decide) ?_
                    exact ret _ _ _ _ _ _ d_M_isSign_65 rfl (by first | exact (Or.inl ⟨(by unfold isSg; omega), rfl, rfl⟩) | exact (Or.inr ⟨(by unfold isSg; omega), rfl, rfl⟩)) hW
                  · refine lv_iload_n S.1 S.2.1 d_M_isSign_54 rfl (lv_at hl 0 rfl) ?_
                    refine lv_bipush (v := (nI 63)) S.1 S.2.1 d_M_isSign_55 (by decide) ?_
                    refine n_icmp_ne (tgt := 64) S (by omega) (by omega) d_M_isSign_57 (by decide) (fun c_57 => ?_) (fun c_57 => ?_)
                    · refine lv_iconst (v := (nI 0)) S.1 S.2.1 d_M_isSign_64 (by decide) ?_
                      exact ret _ _ _ _ _ _ d_M_isSign_65 rfl (by first | exact (Or.inl ⟨(by unfold isSg; omega), rfl, rfl⟩) | exact (Or.inr ⟨(by unfold isSg; omega), rfl, rfl⟩)) hW
                    · refine lv_iconst (v := (nI 1)) S.1 S.2.1 d_M_isSign_60 (by decide) ?_
                      refine lv_goto (tgt := 65) S.1 S.2.1 d_M_isSign_61 (by decide) ?_
                      exact ret _ _ _ _ _ _ d_M_isSign_65 rfl (by first | exact (Or.inl ⟨(by unfold isSg; omega), rfl, rfl⟩) | exact (Or.inr ⟨(by unfold isSg; omega), rfl, rfl⟩)) hW
theorem d_M_fails_0 : decode b_M_fails 0 = .ok (.aload_n 0, 1) := by decide +kernel
theorem d_M_fails_1 : decode b_M_fails 1 = .ok (.iload_n 1, 1) := by decide +kernel
theorem d_M_fails_2 : decode b_M_fails 2 = .ok (.putfield 138, 3) := by decide +kernel
theorem d_M_fails_5 : decode b_M_fails 5 = .ok (.aload_n 0, 1) := by decide +kernel
theorem d_M_fails_6 : decode b_M_fails 6 = .ok (.iload_n 2, 1) := by decide +kernel
theorem d_M_fails_7 : decode b_M_fails 7 = .ok (.putfield 13, 3) := by decide +kernel
theorem d_M_fails_10 : decode b_M_fails 10 = .ok (.iconst 0, 1) := by decide +kernel
theorem d_M_fails_11 : decode b_M_fails 11 = .ok (.ireturn, 1) := by decide +kernel
set_option maxHeartbeats 4000000 in
set_option maxRecDepth 100000 in
theorem c_M_fails (l : Launch) (D : va_G) (cI cJ cB cZ : ClassId) (aM m_text m_paper m_firstHalf m_secondHalf m_stored m_proved m_written m_places m_levelKind m_levelStart m_levelApp m_levelHad m_levelScope m_levelId m_levelFirst m_levelSecond m_scopeFirst m_scopeSecond m_scopeId m_made m_typeOf m_tasks m_todo m_renamed m_bound m_markA m_markB m_line : Nat) (v_thrown v_length v_came v_papered v_constants v_at v_token v_tokenAt v_end v_second v_ids v_nodes v_opens v_levelOpens v_start v_app v_behind v_level v_scope v_top v_left v_waits v_fresh v_changed v_changedTo v_out v_counted v_printed v_questionAt : Int32) (v_nameFirst v_nameSecond : Int64) (fn fw k t : Int32) : Ci l D (tyl cI cJ cB cZ) y_M_fails b_M_fails 3 (some .boolean) ({ frames := 0, cells := 0, slots := 0, locals := 0 } : Room) [.ref aM, .int k, .int t] [(aM, .inr (10, [.int v_thrown, .ref m_text, .int v_length, .int v_came, .int fn, .int fw, .ref m_paper, .int v_papered, .int v_constants, .ref m_firstHalf, .ref m_secondHalf, .ref m_stored, .ref m_proved, .int v_at, .int v_token, .int v_tokenAt, .long v_nameFirst, .long v_nameSecond, .ref m_written, .ref m_places, .int v_end, .int v_second, .int v_ids, .int v_nodes, .int v_opens, .int v_levelOpens, .int v_start, .int v_app, .int v_behind, .ref m_levelKind, .ref m_levelStart, .ref m_levelApp, .ref m_levelHad, .ref m_levelScope, .ref m_levelId, .ref m_levelFirst, .ref m_levelSecond, .int v_level, .ref m_scopeFirst, .ref m_scopeSecond, .ref m_scopeId, .int v_scope, .ref m_made, .int v_top, .ref m_typeOf, .ref m_tasks, .int v_left, .ref m_todo, .int v_waits, .ref m_renamed, .ref m_bound, .int v_fresh, .int v_changed, .int v_changedTo, .int v_out, .int v_counted, .ref m_markA, .ref m_markB, .ref m_line, .int v_printed, .int v_questionAt]))] (fun r u => r = (nI 0) ∧ u = [(aM, .inr (10, [.int v_thrown, .ref m_text, .int v_length, .int v_came, .int k, .int t, .ref m_paper, .int v_papered, .int v_constants, .ref m_firstHalf, .ref m_secondHalf, .ref m_stored, .ref m_proved, .int v_at, .int v_token, .int v_tokenAt, .long v_nameFirst, .long v_nameSecond, .ref m_written, .ref m_places, .int v_end, .int v_second, .int v_ids, .int v_nodes, .int v_opens, .int v_levelOpens, .int v_start, .int v_app, .int v_behind, .ref m_levelKind, .ref m_levelStart, .ref m_levelApp, .ref m_levelHad, .ref m_levelScope, .ref m_levelId, .ref m_levelFirst, .ref m_levelSecond, .int v_level, .ref m_scopeFirst, .ref m_scopeSecond, .ref m_scopeId, .int v_scope, .ref m_made, .int v_top, .ref m_typeOf, .ref m_tasks, .int v_left, .ref m_todo, .int v_waits, .ref m_renamed, .ref m_bound, .int v_fresh, .int v_changed, .int v_changedTo, .int v_out, .int v_counted, .ref m_markA, .ref m_markB, .ref m_line, .int v_printed, .int v_questionAt]))]) := by
  refine met_i (own := "ProofReaderModel") (by decide) rfl (Nat.le_of_ble_eq_true rfl) ?_
  intro p e s m args below meth c A Q S hA ret ls hl hW
  have hl : lv_has ls 3 [(0, .ref aM), (1, .int k), (2, .int t)] := hl
  have hW : Wd D (tyl cI cJ cB cZ) A s s.heap s.heap [] [(aM, .inr (10, [.int v_thrown, .ref m_text, .int v_length, .int v_came, .int fn, .int fw, .ref m_paper, .int v_papered, .int v_constants, .ref m_firstHalf, .ref m_secondHalf, .ref m_stored, .ref m_proved, .int v_at, .int v_token, .int v_tokenAt, .long v_nameFirst, .long v_nameSecond, .ref m_written, .ref m_places, .int v_end, .int v_second, .int v_ids, .int v_nodes, .int v_opens, .int v_levelOpens, .int v_start, .int v_app, .int v_behind, .ref m_levelKind, .ref m_levelStart, .ref m_levelApp, .ref m_levelHad, .ref m_levelScope, .ref m_levelId, .ref m_levelFirst, .ref m_levelSecond, .int v_level, .ref m_scopeFirst, .ref m_scopeSecond, .ref m_scopeId, .int v_scope, .ref m_made, .int v_top, .ref m_typeOf, .ref m_tasks, .int v_left, .ref m_todo, .int v_waits, .ref m_renamed, .ref m_bound, .int v_fresh, .int v_changed, .int v_changedTo, .int v_out, .int v_counted, .ref m_markA, .ref m_markB, .ref m_line, .int v_printed, .int v_questionAt]))] := hW
  refine lv_aload_n S.1 S.2.1 d_M_fails_0 rfl (lv_at hl 0 rfl) ?_
  refine lv_iload_n S.1 S.2.1 d_M_fails_1 rfl (lv_at hl 1 rfl) ?_
  refine g_put (ws2 := [(aM, .inr (10, [.int v_thrown, .ref m_text, .int v_length, .int v_came, .int k, .int fw, .ref m_paper, .int v_papered, .int v_constants, .ref m_firstHalf, .ref m_secondHalf, .ref m_stored, .ref m_proved, .int v_at, .int v_token, .int v_tokenAt, .long v_nameFirst, .long v_nameSecond, .ref m_written, .ref m_places, .int v_end, .int v_second, .int v_ids, .int v_nodes, .int v_opens, .int v_levelOpens, .int v_start, .int v_app, .int v_behind, .ref m_levelKind, .ref m_levelStart, .ref m_levelApp, .ref m_levelHad, .ref m_levelScope, .ref m_levelId, .ref m_levelFirst, .ref m_levelSecond, .int v_level, .ref m_scopeFirst, .ref m_scopeSecond, .ref m_scopeId, .int v_scope, .ref m_made, .int v_top, .ref m_typeOf, .ref m_tasks, .int v_left, .ref m_todo, .int v_waits, .ref m_renamed, .ref m_bound, .int v_fresh, .int v_changed, .int v_changedTo, .int v_out, .int v_counted, .ref m_markA, .ref m_markB, .ref m_line, .int v_printed, .int v_questionAt]))]) i_M ft_M ft_M_ok n_M S hW 0 rfl rfl 4 (by decide) kf_M_138 rfl rfl rfl (Nat.le_of_ble_eq_true rfl) rfl d_M_fails_2 (fun H locs hW => ?_)
  refine lv_aload_n S.1 S.2.1 d_M_fails_5 rfl (lv_at hl 0 rfl) ?_
  refine lv_iload_n S.1 S.2.1 d_M_fails_6 rfl (lv_at hl 2 rfl) ?_
  refine g_put (ws2 := [(aM, .inr (10, [.int v_thrown, .ref m_text, .int v_length, .int v_came, .int k, .int t, .ref m_paper, .int v_papered, .int v_constants, .ref m_firstHalf, .ref m_secondHalf, .ref m_stored, .ref m_proved, .int v_at, .int v_token, .int v_tokenAt, .long v_nameFirst, .long v_nameSecond, .ref m_written, .ref m_places, .int v_end, .int v_second, .int v_ids, .int v_nodes, .int v_opens, .int v_levelOpens, .int v_start, .int v_app, .int v_behind, .ref m_levelKind, .ref m_levelStart, .ref m_levelApp, .ref m_levelHad, .ref m_levelScope, .ref m_levelId, .ref m_levelFirst, .ref m_levelSecond, .int v_level, .ref m_scopeFirst, .ref m_scopeSecond, .ref m_scopeId, .int v_scope, .ref m_made, .int v_top, .ref m_typeOf, .ref m_tasks, .int v_left, .ref m_todo, .int v_waits, .ref m_renamed, .ref m_bound, .int v_fresh, .int v_changed, .int v_changedTo, .int v_out, .int v_counted, .ref m_markA, .ref m_markB, .ref m_line, .int v_printed, .int v_questionAt]))]) i_M ft_M ft_M_ok n_M S hW 0 rfl rfl 5 (by decide) kf_M_13 rfl rfl rfl (Nat.le_of_ble_eq_true rfl) rfl d_M_fails_7 (fun H locs hW => ?_)
  refine lv_iconst (v := (nI 0)) S.1 S.2.1 d_M_fails_10 (by decide) ?_
  exact ret _ _ _ _ _ _ d_M_fails_11 rfl ⟨rfl, rfl⟩ hW
theorem d_M_failsToken_0 : decode b_M_failsToken 0 = .ok (.aload_n 0, 1) := by decide +kernel
theorem d_M_failsToken_1 : decode b_M_failsToken 1 = .ok (.aload_n 0, 1) := by decide +kernel
theorem d_M_failsToken_2 : decode b_M_failsToken 2 = .ok (.getfield 126, 3) := by decide +kernel
theorem d_M_failsToken_5 : decode b_M_failsToken 5 = .ok (.iconst 4, 1) := by decide +kernel
theorem d_M_failsToken_6 : decode b_M_failsToken 6 = .ok (.if_icmp .ne 7, 3) := by decide +kernel
theorem d_M_failsToken_9 : decode b_M_failsToken 9 = .ok (.iconst 1, 1) := by decide +kernel
theorem d_M_failsToken_10 : decode b_M_failsToken 10 = .ok (.goto 4, 3) := by decide +kernel
theorem d_M_failsToken_13 : decode b_M_failsToken 13 = .ok (.iconst 2, 1) := by decide +kernel
theorem d_M_failsToken_14 : decode b_M_failsToken 14 = .ok (.aload_n 0, 1) := by decide +kernel
theorem d_M_failsToken_15 : decode b_M_failsToken 15 = .ok (.getfield 129, 3) := by decide +kernel
theorem d_M_failsToken_18 : decode b_M_failsToken 18 = .ok (.invokevirtual 141, 3) := by decide +kernel
theorem d_M_failsToken_21 : decode b_M_failsToken 21 = .ok (.ireturn, 1) := by decide +kernel
set_option maxHeartbeats 4000000 in
set_option maxRecDepth 100000 in
theorem c_M_failsToken (l : Launch) (D : va_G) (cI cJ cB cZ : ClassId) (aM m_text m_paper m_firstHalf m_secondHalf m_stored m_proved m_written m_places m_levelKind m_levelStart m_levelApp m_levelHad m_levelScope m_levelId m_levelFirst m_levelSecond m_scopeFirst m_scopeSecond m_scopeId m_made m_typeOf m_tasks m_todo m_renamed m_bound m_markA m_markB m_line : Nat) (v_thrown v_length v_came v_papered v_constants v_at v_end v_second v_ids v_nodes v_opens v_levelOpens v_start v_app v_behind v_level v_scope v_top v_left v_waits v_fresh v_changed v_changedTo v_out v_counted v_printed v_questionAt : Int32) (v_nameFirst v_nameSecond : Int64) (k st : Nat) (fn fw : Int32) (hk : k < 256) : Ci l D (tyl cI cJ cB cZ) y_M_failsToken b_M_failsToken 1 (some .boolean) ({ frames := 1, cells := 0, slots := 0, locals := 22 } : Room) [.ref aM] [(aM, .inr (10, [.int v_thrown, .ref m_text, .int v_length, .int v_came, .int fn, .int fw, .ref m_paper, .int v_papered, .int v_constants, .ref m_firstHalf, .ref m_secondHalf, .ref m_stored, .ref m_proved, .int v_at, .int (nI k), .int (nI st), .long v_nameFirst, .long v_nameSecond, .ref m_written, .ref m_places, .int v_end, .int v_second, .int v_ids, .int v_nodes, .int v_opens, .int v_levelOpens, .int v_start, .int v_app, .int v_behind, .ref m_levelKind, .ref m_levelStart, .ref m_levelApp, .ref m_levelHad, .ref m_levelScope, .ref m_levelId, .ref m_levelFirst, .ref m_levelSecond, .int v_level, .ref m_scopeFirst, .ref m_scopeSecond, .ref m_scopeId, .int v_scope, .ref m_made, .int v_top, .ref m_typeOf, .ref m_tasks, .int v_left, .ref m_todo, .int v_waits, .ref m_renamed, .ref m_bound, .int v_fresh, .int v_changed, .int v_changedTo, .int v_out, .int v_counted, .ref m_markA, .ref m_markB, .ref m_line, .int v_printed, .int v_questionAt]))] (fun r u => ((k = 4) ∧ r = (nI 0) ∧ u = [(aM, .inr (10, [.int v_thrown, .ref m_text, .int v_length, .int v_came, .int (nI 1), .int (nI st), .ref m_paper, .int v_papered, .int v_constants, .ref m_firstHalf, .ref m_secondHalf, .ref m_stored, .ref m_proved, .int v_at, .int (nI k), .int (nI st), .long v_nameFirst, .long v_nameSecond, .ref m_written, .ref m_places, .int v_end, .int v_second, .int v_ids, .int v_nodes, .int v_opens, .int v_levelOpens, .int v_start, .int v_app, .int v_behind, .ref m_levelKind, .ref m_levelStart, .ref m_levelApp, .ref m_levelHad, .ref m_levelScope, .ref m_levelId, .ref m_levelFirst, .ref m_levelSecond, .int v_level, .ref m_scopeFirst, .ref m_scopeSecond, .ref m_scopeId, .int v_scope, .ref m_made, .int v_top, .ref m_typeOf, .ref m_tasks, .int v_left, .ref m_todo, .int v_waits, .ref m_renamed, .ref m_bound, .int v_fresh, .int v_changed, .int v_changedTo, .int v_out, .int v_counted, .ref m_markA, .ref m_markB, .ref m_line, .int v_printed, .int v_questionAt]))]) ∨ ((k ≠ 4) ∧ r = (nI 0) ∧ u = [(aM, .inr (10, [.int v_thrown, .ref m_text, .int v_length, .int v_came, .int (nI 2), .int (nI st), .ref m_paper, .int v_papered, .int v_constants, .ref m_firstHalf, .ref m_secondHalf, .ref m_stored, .ref m_proved, .int v_at, .int (nI k), .int (nI st), .long v_nameFirst, .long v_nameSecond, .ref m_written, .ref m_places, .int v_end, .int v_second, .int v_ids, .int v_nodes, .int v_opens, .int v_levelOpens, .int v_start, .int v_app, .int v_behind, .ref m_levelKind, .ref m_levelStart, .ref m_levelApp, .ref m_levelHad, .ref m_levelScope, .ref m_levelId, .ref m_levelFirst, .ref m_levelSecond, .int v_level, .ref m_scopeFirst, .ref m_scopeSecond, .ref m_scopeId, .int v_scope, .ref m_made, .int v_top, .ref m_typeOf, .ref m_tasks, .int v_left, .ref m_todo, .int v_waits, .ref m_renamed, .ref m_bound, .int v_fresh, .int v_changed, .int v_changedTo, .int v_out, .int v_counted, .ref m_markA, .ref m_markB, .ref m_line, .int v_printed, .int v_questionAt]))])) := by
  refine met_i (own := "ProofReaderModel") (by decide) rfl (Nat.le_of_ble_eq_true rfl) ?_
  intro p e s m args below meth c A Q S hA ret ls hl hW
  have hl : lv_has ls 1 [(0, .ref aM)] := hl
  have hW : Wd D (tyl cI cJ cB cZ) A s s.heap s.heap [] [(aM, .inr (10, [.int v_thrown, .ref m_text, .int v_length, .int v_came, .int fn, .int fw, .ref m_paper, .int v_papered, .int v_constants, .ref m_firstHalf, .ref m_secondHalf, .ref m_stored, .ref m_proved, .int v_at, .int (nI k), .int (nI st), .long v_nameFirst, .long v_nameSecond, .ref m_written, .ref m_places, .int v_end, .int v_second, .int v_ids, .int v_nodes, .int v_opens, .int v_levelOpens, .int v_start, .int v_app, .int v_behind, .ref m_levelKind, .ref m_levelStart, .ref m_levelApp, .ref m_levelHad, .ref m_levelScope, .ref m_levelId, .ref m_levelFirst, .ref m_levelSecond, .int v_level, .ref m_scopeFirst, .ref m_scopeSecond, .ref m_scopeId, .int v_scope, .ref m_made, .int v_top, .ref m_typeOf, .ref m_tasks, .int v_left, .ref m_todo, .int v_waits, .ref m_renamed, .ref m_bound, .int v_fresh, .int v_changed, .int v_changedTo, .int v_out, .int v_counted, .ref m_markA, .ref m_markB, .ref m_line, .int v_printed, .int v_questionAt]))] := hW
  refine lv_aload_n S.1 S.2.1 d_M_failsToken_0 rfl (lv_at hl 0 rfl) ?_
  refine lv_aload_n S.1 S.2.1 d_M_failsToken_1 rfl (lv_at hl 0 rfl) ?_
  refine g_get i_M S hW 0 rfl rfl 14 (by decide) kf_M_126 rfl d_M_failsToken_2 ?_
  refine lv_iconst (v := (nI 4)) S.1 S.2.1 d_M_failsToken_5 (by decide) ?_
  refine n_icmp_ne (tgt := 13) S (by omega) (by omega) d_M_failsToken_6 (by decide) (fun c_6 => ?_) (fun c_6 => ?_)
  · refine lv_iconst (v := (nI 2)) S.1 S.2.1 d_M_failsToken_13 (by decide) ?_
    refine lv_aload_n S.1 S.2.1 d_M_failsToken_14 rfl (lv_at hl 0 rfl) ?_
    refine g_get i_M S hW 0 rfl rfl 15 (by decide) kf_M_129 rfl d_M_failsToken_15 ?_
    refine callV_i (wr := []) (wc := [(aM, .inr (10, [.int v_thrown, .ref m_text, .int v_length, .int v_came, .int fn, .int fw, .ref m_paper, .int v_papered, .int v_constants, .ref m_firstHalf, .ref m_secondHalf, .ref m_stored, .ref m_proved, .int v_at, .int (nI k), .int (nI st), .long v_nameFirst, .long v_nameSecond, .ref m_written, .ref m_places, .int v_end, .int v_second, .int v_ids, .int v_nodes, .int v_opens, .int v_levelOpens, .int v_start, .int v_app, .int v_behind, .ref m_levelKind, .ref m_levelStart, .ref m_levelApp, .ref m_levelHad, .ref m_levelScope, .ref m_levelId, .ref m_levelFirst, .ref m_levelSecond, .int v_level, .ref m_scopeFirst, .ref m_scopeSecond, .ref m_scopeId, .int v_scope, .ref m_made, .int v_top, .ref m_typeOf, .ref m_tasks, .int v_left, .ref m_todo, .int v_waits, .ref m_renamed, .ref m_bound, .int v_fresh, .int v_changed, .int v_changedTo, .int v_out, .int v_counted, .ref m_markA, .ref m_markB, .ref m_line, .int v_printed, .int v_questionAt]))]) (np := 2) (As := [.int (nI 2), .int (nI st)]) (rest := []) (c_M_fails l D cI cJ cB cZ aM m_text m_paper m_firstHalf m_secondHalf m_stored m_proved m_written m_places m_levelKind m_levelStart m_levelApp m_levelHad m_levelScope m_levelId m_levelFirst m_levelSecond m_scopeFirst m_scopeSecond m_scopeId m_made m_typeOf m_tasks m_todo m_renamed m_bound m_markA m_markB m_line v_thrown v_length v_came v_papered v_constants v_at (nI k) (nI st) v_end v_second v_ids v_nodes v_opens v_levelOpens v_start v_app v_behind v_level v_scope v_top v_left v_waits v_fresh v_changed v_changedTo v_out v_counted v_printed v_questionAt v_nameFirst v_nameSecond fn fw (nI 2) (nI st) ) km_M_141 ki_M_fails kv_M_fails kz_M kk_M_fails (by decide +kernel) S hW hA ⟨Nat.le_of_ble_eq_true rfl, Nat.le_of_ble_eq_true rfl⟩ ⟨Nat.le_of_ble_eq_true rfl, Nat.le_of_ble_eq_true rfl⟩ rfl 0 rfl [0] [] rfl (by decide) rfl (by decide) (by decide) rfl hl.1 rfl (Nat.le_of_ble_eq_true rfl) d_M_failsToken_18 (fun r u H locs hp hW => ?_)
    obtain ⟨rfl, rfl⟩ := hp
    have hW : Wd D (tyl cI cJ cB cZ) A s s.heap H locs [(aM, .inr (10, [.int v_thrown, .ref m_text, .int v_length, .int v_came, .int (nI 2), .int (nI st), .ref m_paper, .int v_papered, .int v_constants, .ref m_firstHalf, .ref m_secondHalf, .ref m_stored, .ref m_proved, .int v_at, .int (nI k), .int (nI st), .long v_nameFirst, .long v_nameSecond, .ref m_written, .ref m_places, .int v_end, .int v_second, .int v_ids, .int v_nodes, .int v_opens, .int v_levelOpens, .int v_start, .int v_app, .int v_behind, .ref m_levelKind, .ref m_levelStart, .ref m_levelApp, .ref m_levelHad, .ref m_levelScope, .ref m_levelId, .ref m_levelFirst, .ref m_levelSecond, .int v_level, .ref m_scopeFirst, .ref m_scopeSecond, .ref m_scopeId, .int v_scope, .ref m_made, .int v_top, .ref m_typeOf, .ref m_tasks, .int v_left, .ref m_todo, .int v_waits, .ref m_renamed, .ref m_bound, .int v_fresh, .int v_changed, .int v_changedTo, .int v_out, .int v_counted, .ref m_markA, .ref m_markB, .ref m_line, .int v_printed, .int v_questionAt]))] := hW
    exact ret _ _ _ _ _ _ d_M_failsToken_21 rfl (by first | exact (Or.inl ⟨(by first | omega | assumption | simp_all), rfl, rfl⟩) | exact (Or.inr ⟨(by first | omega | assumption | simp_all), rfl, rfl⟩)) hW
  · refine lv_iconst (v := (nI 1)) S.1 S.2.1 d_M_failsToken_9 (by decide) ?_
    refine lv_goto (tgt := 14) S.1 S.2.1 d_M_failsToken_10 (by decide) ?_
    refine lv_aload_n S.1 S.2.1 d_M_failsToken_14 rfl (lv_at hl 0 rfl) ?_
    refine g_get i_M S hW 0 rfl rfl 15 (by decide) kf_M_129 rfl d_M_failsToken_15 ?_
    refine callV_i (wr := []) (wc := [(aM, .inr (10, [.int v_thrown, .ref m_text, .int v_length, .int v_came, .int fn, .int fw, .ref m_paper, .int v_papered, .int v_constants, .ref m_firstHalf, .ref m_secondHalf, .ref m_stored, .ref m_proved, .int v_at, .int (nI k), .int (nI st), .long v_nameFirst, .long v_nameSecond, .ref m_written, .ref m_places, .int v_end, .int v_second, .int v_ids, .int v_nodes, .int v_opens, .int v_levelOpens, .int v_start, .int v_app, .int v_behind, .ref m_levelKind, .ref m_levelStart, .ref m_levelApp, .ref m_levelHad, .ref m_levelScope, .ref m_levelId, .ref m_levelFirst, .ref m_levelSecond, .int v_level, .ref m_scopeFirst, .ref m_scopeSecond, .ref m_scopeId, .int v_scope, .ref m_made, .int v_top, .ref m_typeOf, .ref m_tasks, .int v_left, .ref m_todo, .int v_waits, .ref m_renamed, .ref m_bound, .int v_fresh, .int v_changed, .int v_changedTo, .int v_out, .int v_counted, .ref m_markA, .ref m_markB, .ref m_line, .int v_printed, .int v_questionAt]))]) (np := 2) (As := [.int (nI 1), .int (nI st)]) (rest := []) (c_M_fails l D cI cJ cB cZ aM m_text m_paper m_firstHalf m_secondHalf m_stored m_proved m_written m_places m_levelKind m_levelStart m_levelApp m_levelHad m_levelScope m_levelId m_levelFirst m_levelSecond m_scopeFirst m_scopeSecond m_scopeId m_made m_typeOf m_tasks m_todo m_renamed m_bound m_markA m_markB m_line v_thrown v_length v_came v_papered v_constants v_at (nI k) (nI st) v_end v_second v_ids v_nodes v_opens v_levelOpens v_start v_app v_behind v_level v_scope v_top v_left v_waits v_fresh v_changed v_changedTo v_out v_counted v_printed v_questionAt v_nameFirst v_nameSecond fn fw (nI 1) (nI st) ) km_M_141 ki_M_fails kv_M_fails kz_M kk_M_fails (by decide +kernel) S hW hA ⟨Nat.le_of_ble_eq_true rfl, Nat.le_of_ble_eq_true rfl⟩ ⟨Nat.le_of_ble_eq_true rfl, Nat.le_of_ble_eq_true rfl⟩ rfl 0 rfl [0] [] rfl (by decide) rfl (by decide) (by decide) rfl hl.1 rfl (Nat.le_of_ble_eq_true rfl) d_M_failsToken_18 (fun r u H locs hp hW => ?_)
    obtain ⟨rfl, rfl⟩ := hp
    have hW : Wd D (tyl cI cJ cB cZ) A s s.heap H locs [(aM, .inr (10, [.int v_thrown, .ref m_text, .int v_length, .int v_came, .int (nI 1), .int (nI st), .ref m_paper, .int v_papered, .int v_constants, .ref m_firstHalf, .ref m_secondHalf, .ref m_stored, .ref m_proved, .int v_at, .int (nI k), .int (nI st), .long v_nameFirst, .long v_nameSecond, .ref m_written, .ref m_places, .int v_end, .int v_second, .int v_ids, .int v_nodes, .int v_opens, .int v_levelOpens, .int v_start, .int v_app, .int v_behind, .ref m_levelKind, .ref m_levelStart, .ref m_levelApp, .ref m_levelHad, .ref m_levelScope, .ref m_levelId, .ref m_levelFirst, .ref m_levelSecond, .int v_level, .ref m_scopeFirst, .ref m_scopeSecond, .ref m_scopeId, .int v_scope, .ref m_made, .int v_top, .ref m_typeOf, .ref m_tasks, .int v_left, .ref m_todo, .int v_waits, .ref m_renamed, .ref m_bound, .int v_fresh, .int v_changed, .int v_changedTo, .int v_out, .int v_counted, .ref m_markA, .ref m_markB, .ref m_line, .int v_printed, .int v_questionAt]))] := hW
    exact ret _ _ _ _ _ _ d_M_failsToken_21 rfl (by first | exact (Or.inl ⟨(by first | omega | assumption | simp_all), rfl, rfl⟩) | exact (Or.inr ⟨(by first | omega | assumption | simp_all), rfl, rfl⟩)) hW
theorem d_M_readName_0 : decode b_M_readName 0 = .ok (.aload_n 0, 1) := by decide +kernel
theorem d_M_readName_1 : decode b_M_readName 1 = .ok (.lconst 0, 1) := by decide +kernel
theorem d_M_readName_2 : decode b_M_readName 2 = .ok (.putfield 107, 3) := by decide +kernel
theorem d_M_readName_5 : decode b_M_readName 5 = .ok (.aload_n 0, 1) := by decide +kernel
theorem d_M_readName_6 : decode b_M_readName 6 = .ok (.lconst 0, 1) := by decide +kernel
theorem d_M_readName_7 : decode b_M_readName 7 = .ok (.putfield 111, 3) := by decide +kernel
theorem d_M_readName_10 : decode b_M_readName 10 = .ok (.iconst 0, 1) := by decide +kernel
theorem d_M_readName_11 : decode b_M_readName 11 = .ok (.istore_n 1, 1) := by decide +kernel
theorem d_M_readName_12 : decode b_M_readName 12 = .ok (.aload_n 0, 1) := by decide +kernel
theorem d_M_readName_13 : decode b_M_readName 13 = .ok (.getfield 114, 3) := by decide +kernel
theorem d_M_readName_16 : decode b_M_readName 16 = .ok (.aload_n 0, 1) := by decide +kernel
theorem d_M_readName_17 : decode b_M_readName 17 = .ok (.getfield 117, 3) := by decide +kernel
theorem d_M_readName_20 : decode b_M_readName 20 = .ok (.if_icmp .ge 87, 3) := by decide +kernel
theorem d_M_readName_23 : decode b_M_readName 23 = .ok (.aload_n 0, 1) := by decide +kernel
theorem d_M_readName_24 : decode b_M_readName 24 = .ok (.getfield 7, 3) := by decide +kernel
theorem d_M_readName_27 : decode b_M_readName 27 = .ok (.aload_n 0, 1) := by decide +kernel
theorem d_M_readName_28 : decode b_M_readName 28 = .ok (.getfield 114, 3) := by decide +kernel
theorem d_M_readName_31 : decode b_M_readName 31 = .ok (.iaload, 1) := by decide +kernel
theorem d_M_readName_32 : decode b_M_readName 32 = .ok (.invokestatic 120, 3) := by decide +kernel
theorem d_M_readName_35 : decode b_M_readName 35 = .ok (.ifCond .eq 72, 3) := by decide +kernel
theorem d_M_readName_38 : decode b_M_readName 38 = .ok (.iload_n 1, 1) := by decide +kernel
theorem d_M_readName_39 : decode b_M_readName 39 = .ok (.bipush 6, 2) := by decide +kernel
theorem d_M_readName_41 : decode b_M_readName 41 = .ok (.if_icmp .ge 28, 3) := by decide +kernel
theorem d_M_readName_44 : decode b_M_readName 44 = .ok (.aload_n 0, 1) := by decide +kernel
theorem d_M_readName_45 : decode b_M_readName 45 = .ok (.aload_n 0, 1) := by decide +kernel
theorem d_M_readName_46 : decode b_M_readName 46 = .ok (.getfield 107, 3) := by decide +kernel
theorem d_M_readName_49 : decode b_M_readName 49 = .ok (.bipush 8, 2) := by decide +kernel
theorem d_M_readName_51 : decode b_M_readName 51 = .ok (.lshl, 1) := by decide +kernel
theorem d_M_readName_52 : decode b_M_readName 52 = .ok (.aload_n 0, 1) := by decide +kernel
theorem d_M_readName_53 : decode b_M_readName 53 = .ok (.getfield 7, 3) := by decide +kernel
theorem d_M_readName_56 : decode b_M_readName 56 = .ok (.aload_n 0, 1) := by decide +kernel
theorem d_M_readName_57 : decode b_M_readName 57 = .ok (.getfield 114, 3) := by decide +kernel
theorem d_M_readName_60 : decode b_M_readName 60 = .ok (.iaload, 1) := by decide +kernel
theorem d_M_readName_61 : decode b_M_readName 61 = .ok (.i2l, 1) := by decide +kernel
theorem d_M_readName_62 : decode b_M_readName 62 = .ok (.lor, 1) := by decide +kernel
theorem d_M_readName_63 : decode b_M_readName 63 = .ok (.putfield 107, 3) := by decide +kernel
theorem d_M_readName_66 : decode b_M_readName 66 = .ok (.goto 25, 3) := by decide +kernel
theorem d_M_readName_69 : decode b_M_readName 69 = .ok (.aload_n 0, 1) := by decide +kernel
theorem d_M_readName_70 : decode b_M_readName 70 = .ok (.aload_n 0, 1) := by decide +kernel
theorem d_M_readName_71 : decode b_M_readName 71 = .ok (.getfield 111, 3) := by decide +kernel
theorem d_M_readName_74 : decode b_M_readName 74 = .ok (.bipush 8, 2) := by decide +kernel
theorem d_M_readName_76 : decode b_M_readName 76 = .ok (.lshl, 1) := by decide +kernel
theorem d_M_readName_77 : decode b_M_readName 77 = .ok (.aload_n 0, 1) := by decide +kernel
theorem d_M_readName_78 : decode b_M_readName 78 = .ok (.getfield 7, 3) := by decide +kernel
theorem d_M_readName_81 : decode b_M_readName 81 = .ok (.aload_n 0, 1) := by decide +kernel
theorem d_M_readName_82 : decode b_M_readName 82 = .ok (.getfield 114, 3) := by decide +kernel
theorem d_M_readName_85 : decode b_M_readName 85 = .ok (.iaload, 1) := by decide +kernel
theorem d_M_readName_86 : decode b_M_readName 86 = .ok (.i2l, 1) := by decide +kernel
theorem d_M_readName_87 : decode b_M_readName 87 = .ok (.lor, 1) := by decide +kernel
theorem d_M_readName_88 : decode b_M_readName 88 = .ok (.putfield 111, 3) := by decide +kernel
theorem d_M_readName_91 : decode b_M_readName 91 = .ok (.aload_n 0, 1) := by decide +kernel
theorem d_M_readName_92 : decode b_M_readName 92 = .ok (.dup, 1) := by decide +kernel
theorem d_M_readName_93 : decode b_M_readName 93 = .ok (.getfield 114, 3) := by decide +kernel
theorem d_M_readName_96 : decode b_M_readName 96 = .ok (.iconst 1, 1) := by decide +kernel
theorem d_M_readName_97 : decode b_M_readName 97 = .ok (.iadd, 1) := by decide +kernel
theorem d_M_readName_98 : decode b_M_readName 98 = .ok (.putfield 114, 3) := by decide +kernel
theorem d_M_readName_101 : decode b_M_readName 101 = .ok (.iinc 1 1, 3) := by decide +kernel
theorem d_M_readName_104 : decode b_M_readName 104 = .ok (.goto (-92), 3) := by decide +kernel
theorem d_M_readName_107 : decode b_M_readName 107 = .ok (.aload_n 0, 1) := by decide +kernel
theorem d_M_readName_108 : decode b_M_readName 108 = .ok (.iload_n 1, 1) := by decide +kernel
theorem d_M_readName_109 : decode b_M_readName 109 = .ok (.bipush 12, 2) := by decide +kernel
theorem d_M_readName_111 : decode b_M_readName 111 = .ok (.if_icmp .le 7, 3) := by decide +kernel
theorem d_M_readName_114 : decode b_M_readName 114 = .ok (.iconst 4, 1) := by decide +kernel
theorem d_M_readName_115 : decode b_M_readName 115 = .ok (.goto 24, 3) := by decide +kernel
theorem d_M_readName_118 : decode b_M_readName 118 = .ok (.iload_n 1, 1) := by decide +kernel
theorem d_M_readName_119 : decode b_M_readName 119 = .ok (.iconst 4, 1) := by decide +kernel
theorem d_M_readName_120 : decode b_M_readName 120 = .ok (.if_icmp .ne 18, 3) := by decide +kernel
theorem d_M_readName_123 : decode b_M_readName 123 = .ok (.aload_n 0, 1) := by decide +kernel
theorem d_M_readName_124 : decode b_M_readName 124 = .ok (.getfield 107, 3) := by decide +kernel
theorem d_M_readName_127 : decode b_M_readName 127 = .ok (.ldc2_w 124, 3) := by decide +kernel
theorem d_M_readName_130 : decode b_M_readName 130 = .ok (.lcmp, 1) := by decide +kernel
theorem d_M_readName_131 : decode b_M_readName 131 = .ok (.ifCond .ne 7, 3) := by decide +kernel
theorem d_M_readName_134 : decode b_M_readName 134 = .ok (.iconst 2, 1) := by decide +kernel
theorem d_M_readName_135 : decode b_M_readName 135 = .ok (.goto 4, 3) := by decide +kernel
theorem d_M_readName_138 : decode b_M_readName 138 = .ok (.iconst 1, 1) := by decide +kernel
theorem d_M_readName_139 : decode b_M_readName 139 = .ok (.putfield 126, 3) := by decide +kernel
theorem d_M_readName_142 : decode b_M_readName 142 = .ok (.return_, 1) := by decide +kernel
set_option maxHeartbeats 4000000 in
set_option maxRecDepth 100000 in
theorem c_M_readName (l : Launch) (D : va_G) (cI cJ cB cZ : ClassId) (aM m_text m_paper m_firstHalf m_secondHalf m_stored m_proved m_written m_places m_levelKind m_levelStart m_levelApp m_levelHad m_levelScope m_levelId m_levelFirst m_levelSecond m_scopeFirst m_scopeSecond m_scopeId m_made m_typeOf m_tasks m_todo m_renamed m_bound m_markA m_markB m_line : Nat) (v_thrown v_came v_fault v_place v_papered v_constants v_end v_second v_ids v_nodes v_opens v_levelOpens v_start v_app v_behind v_level v_scope v_top v_left v_waits v_fresh v_changed v_changedTo v_out v_counted v_printed v_questionAt : Int32) (b : Nat → Nat) (ln : Nat) (z0 : Nat) (kd ta : Int32) (fr bk : Int64) (hb : ∀ j, b j < 256) (hz : z0 < ln) (hln : ln ≤ 8192) : Cv l D (tyl cI cJ cB cZ) y_M_readName b_M_readName 2 ({ frames := 1, cells := 0, slots := 0, locals := 20 } : Room) [.ref aM] [(aM, .inr (10, [.int v_thrown, .ref m_text, .int (nI ln), .int v_came, .int v_fault, .int v_place, .ref m_paper, .int v_papered, .int v_constants, .ref m_firstHalf, .ref m_secondHalf, .ref m_stored, .ref m_proved, .int (nI z0), .int kd, .int ta, .long fr, .long bk, .ref m_written, .ref m_places, .int v_end, .int v_second, .int v_ids, .int v_nodes, .int v_opens, .int v_levelOpens, .int v_start, .int v_app, .int v_behind, .ref m_levelKind, .ref m_levelStart, .ref m_levelApp, .ref m_levelHad, .ref m_levelScope, .ref m_levelId, .ref m_levelFirst, .ref m_levelSecond, .int v_level, .ref m_scopeFirst, .ref m_scopeSecond, .ref m_scopeId, .int v_scope, .ref m_made, .int v_top, .ref m_typeOf, .ref m_tasks, .int v_left, .ref m_todo, .int v_waits, .ref m_renamed, .ref m_bound, .int v_fresh, .int v_changed, .int v_changedTo, .int v_out, .int v_counted, .ref m_markA, .ref m_markB, .ref m_line, .int v_printed, .int v_questionAt])), (m_text, .inl (cI, 8192, .inl (fun j => nI (b j))))] (fun u => ∃ (e0 : Nat) (k : Nat) (f1 : Int64) (g1 : Int64), (NmE b ln z0 e0) ∧ ((z0 + 12 < e0 ∧ k = 4 ∨ e0 ≤ z0 + 12 ∧ isTy b z0 e0 ∧ k = 2 ∨ e0 ≤ z0 + 12 ∧ ¬ isTy b z0 e0 ∧ k = 1)) ∧ ((k = 1 → f1 = frR b z0 e0 ∧ g1 = bkR b z0 e0)) ∧ u = [(aM, .inr (10, [.int v_thrown, .ref m_text, .int (nI ln), .int v_came, .int v_fault, .int v_place, .ref m_paper, .int v_papered, .int v_constants, .ref m_firstHalf, .ref m_secondHalf, .ref m_stored, .ref m_proved, .int (nI e0), .int (nI k), .int ta, .long f1, .long g1, .ref m_written, .ref m_places, .int v_end, .int v_second, .int v_ids, .int v_nodes, .int v_opens, .int v_levelOpens, .int v_start, .int v_app, .int v_behind, .ref m_levelKind, .ref m_levelStart, .ref m_levelApp, .ref m_levelHad, .ref m_levelScope, .ref m_levelId, .ref m_levelFirst, .ref m_levelSecond, .int v_level, .ref m_scopeFirst, .ref m_scopeSecond, .ref m_scopeId, .int v_scope, .ref m_made, .int v_top, .ref m_typeOf, .ref m_tasks, .int v_left, .ref m_todo, .int v_waits, .ref m_renamed, .ref m_bound, .int v_fresh, .int v_changed, .int v_changedTo, .int v_out, .int v_counted, .ref m_markA, .ref m_markB, .ref m_line, .int v_printed, .int v_questionAt])), (m_text, .inl (cI, 8192, .inl (fun j => nI (b j))))]) := by
  refine met_v (own := "ProofReaderModel") (by decide) rfl (Nat.le_of_ble_eq_true rfl) ?_
  intro p e s m args below meth c A Q S hin hA ret ls hl hW
  have hl : lv_has ls 2 [(0, .ref aM)] := hl
  have hW : Wd D (tyl cI cJ cB cZ) A s s.heap s.heap [] [(aM, .inr (10, [.int v_thrown, .ref m_text, .int (nI ln), .int v_came, .int v_fault, .int v_place, .ref m_paper, .int v_papered, .int v_constants, .ref m_firstHalf, .ref m_secondHalf, .ref m_stored, .ref m_proved, .int (nI z0), .int kd, .int ta, .long fr, .long bk, .ref m_written, .ref m_places, .int v_end, .int v_second, .int v_ids, .int v_nodes, .int v_opens, .int v_levelOpens, .int v_start, .int v_app, .int v_behind, .ref m_levelKind, .ref m_levelStart, .ref m_levelApp, .ref m_levelHad, .ref m_levelScope, .ref m_levelId, .ref m_levelFirst, .ref m_levelSecond, .int v_level, .ref m_scopeFirst, .ref m_scopeSecond, .ref m_scopeId, .int v_scope, .ref m_made, .int v_top, .ref m_typeOf, .ref m_tasks, .int v_left, .ref m_todo, .int v_waits, .ref m_renamed, .ref m_bound, .int v_fresh, .int v_changed, .int v_changedTo, .int v_out, .int v_counted, .ref m_markA, .ref m_markB, .ref m_line, .int v_printed, .int v_questionAt])), (m_text, .inl (cI, 8192, .inl (fun j => nI (b j))))] := hW
  refine lv_aload_n S.1 S.2.1 d_M_readName_0 rfl (lv_at hl 0 rfl) ?_
  refine lv_lconst (v := 0) S.1 S.2.1 d_M_readName_1 rfl ?_
  refine g_put (ws2 := [(aM, .inr (10, [.int v_thrown, .ref m_text, .int (nI ln), .int v_came, .int v_fault, .int v_place, .ref m_paper, .int v_papered, .int v_constants, .ref m_firstHalf, .ref m_secondHalf, .ref m_stored, .ref m_proved, .int (nI z0), .int kd, .int ta, .long 0, .long bk, .ref m_written, .ref m_places, .int v_end, .int v_second, .int v_ids, .int v_nodes, .int v_opens, .int v_levelOpens, .int v_start, .int v_app, .int v_behind, .ref m_levelKind, .ref m_levelStart, .ref m_levelApp, .ref m_levelHad, .ref m_levelScope, .ref m_levelId, .ref m_levelFirst, .ref m_levelSecond, .int v_level, .ref m_scopeFirst, .ref m_scopeSecond, .ref m_scopeId, .int v_scope, .ref m_made, .int v_top, .ref m_typeOf, .ref m_tasks, .int v_left, .ref m_todo, .int v_waits, .ref m_renamed, .ref m_bound, .int v_fresh, .int v_changed, .int v_changedTo, .int v_out, .int v_counted, .ref m_markA, .ref m_markB, .ref m_line, .int v_printed, .int v_questionAt])), (m_text, .inl (cI, 8192, .inl (fun j => nI (b j))))]) i_M ft_M ft_M_ok n_M S hW 0 rfl rfl 16 (by decide) kf_M_107 rfl rfl rfl (Nat.le_of_ble_eq_true rfl) rfl d_M_readName_2 (fun H locs hW => ?_)
  refine lv_aload_n S.1 S.2.1 d_M_readName_5 rfl (lv_at hl 0 rfl) ?_
  refine lv_lconst (v := 0) S.1 S.2.1 d_M_readName_6 rfl ?_
  refine g_put (ws2 := [(aM, .inr (10, [.int v_thrown, .ref m_text, .int (nI ln), .int v_came, .int v_fault, .int v_place, .ref m_paper, .int v_papered, .int v_constants, .ref m_firstHalf, .ref m_secondHalf, .ref m_stored, .ref m_proved, .int (nI z0), .int kd, .int ta, .long 0, .long 0, .ref m_written, .ref m_places, .int v_end, .int v_second, .int v_ids, .int v_nodes, .int v_opens, .int v_levelOpens, .int v_start, .int v_app, .int v_behind, .ref m_levelKind, .ref m_levelStart, .ref m_levelApp, .ref m_levelHad, .ref m_levelScope, .ref m_levelId, .ref m_levelFirst, .ref m_levelSecond, .int v_level, .ref m_scopeFirst, .ref m_scopeSecond, .ref m_scopeId, .int v_scope, .ref m_made, .int v_top, .ref m_typeOf, .ref m_tasks, .int v_left, .ref m_todo, .int v_waits, .ref m_renamed, .ref m_bound, .int v_fresh, .int v_changed, .int v_changedTo, .int v_out, .int v_counted, .ref m_markA, .ref m_markB, .ref m_line, .int v_printed, .int v_questionAt])), (m_text, .inl (cI, 8192, .inl (fun j => nI (b j))))]) i_M ft_M ft_M_ok n_M S hW 0 rfl rfl 17 (by decide) kf_M_111 rfl rfl rfl (Nat.le_of_ble_eq_true rfl) rfl d_M_readName_7 (fun H locs hW => ?_)
  refine lv_iconst (v := (nI 0)) S.1 S.2.1 d_M_readName_10 (by decide) ?_
  refine lv_istore_n (lv' := [(1, .int (nI 0)), (0, .ref aM)]) S.1 S.2.1 d_M_readName_11 rfl hl (by decide) rfl (fun ls hl => ?_)
  have loop_12 : ∀ (nf : Nat) (n : Nat) (f1 : Int64) (g1 : Int64), ln - (z0 + n) < nf → (z0 + n ≤ ln) → (∀ j, z0 ≤ j → j < z0 + n → isNm (b j)) → (f1 = lN (beN b z0 (min n 6))) → (n ≤ 12 → g1 = lN (beN b (z0 + 6) (n - 6))) → ∀ (H : Heap) (locs : List Loc), Wd D (tyl cI cJ cB cZ) A s s.heap H locs [(aM, .inr (10, [.int v_thrown, .ref m_text, .int (nI ln), .int v_came, .int v_fault, .int v_place, .ref m_paper, .int v_papered, .int v_constants, .ref m_firstHalf, .ref m_secondHalf, .ref m_stored, .ref m_proved, .int (nI (z0 + n)), .int kd, .int ta, .long f1, .long g1, .ref m_written, .ref m_places, .int v_end, .int v_second, .int v_ids, .int v_nodes, .int v_opens, .int v_levelOpens, .int v_start, .int v_app, .int v_behind, .ref m_levelKind, .ref m_levelStart, .ref m_levelApp, .ref m_levelHad, .ref m_levelScope, .ref m_levelId, .ref m_levelFirst, .ref m_levelSecond, .int v_level, .ref m_scopeFirst, .ref m_scopeSecond, .ref m_scopeId, .int v_scope, .ref m_made, .int v_top, .ref m_typeOf, .ref m_tasks, .int v_left, .ref m_todo, .int v_waits, .ref m_renamed, .ref m_bound, .int v_fresh, .int v_changed, .int v_changedTo, .int v_out, .int v_counted, .ref m_markA, .ref m_markB, .ref m_line, .int v_printed, .int v_questionAt])), (m_text, .inl (cI, 8192, .inl (fun j => nI (b j))))] → ∀ (ls : Array Slot), lv_has ls 2 [(0, .ref aM), (1, .int (nI n))] → W p l e ({ frames := 1, cells := 0, slots := 0, locals := 20 } : Room) s m args below meth c H locs 0 0 Q (F0 m 12 ls []) := by
    intro nf
    induction nf with
    | zero =>
      intros
      omega
    | succ nf ih =>
      intro n f1 g1 hnf h2 h3 h4 h5 H locs hW ls hl
      refine lv_aload_n S.1 S.2.1 d_M_readName_12 rfl (lv_at hl 0 rfl) ?_
      refine g_get i_M S hW 0 rfl rfl 13 (by decide) kf_M_114 rfl d_M_readName_13 ?_
      refine lv_aload_n S.1 S.2.1 d_M_readName_16 rfl (lv_at hl 0 rfl) ?_
      refine g_get i_M S hW 0 rfl rfl 2 (by decide) kf_M_117 rfl d_M_readName_17 ?_
      refine n_icmp_ge (tgt := 107) S (by omega) (by omega) d_M_readName_20 (by decide) (fun c_20 => ?_) (fun c_20 => ?_)
      · have hE : NmE b ln z0 (z0 + n) := ⟨by omega, h2, h3, by first | (intro a; omega) | (intro _; assumption)⟩
        refine lv_aload_n S.1 S.2.1 d_M_readName_107 rfl (lv_at hl 0 rfl) ?_
        refine lv_iload_n S.1 S.2.1 d_M_readName_108 rfl (lv_at hl 1 rfl) ?_
        refine lv_bipush (v := (nI 12)) S.1 S.2.1 d_M_readName_109 (by decide) ?_
        refine n_icmp_le (tgt := 118) S (by omega) (by omega) d_M_readName_111 (by decide) (fun c_111 => ?_) (fun c_111 => ?_)
        · refine lv_iload_n S.1 S.2.1 d_M_readName_118 rfl (lv_at hl 1 rfl) ?_
          refine lv_iconst (v := (nI 4)) S.1 S.2.1 d_M_readName_119 (by decide) ?_
          refine n_icmp_ne (tgt := 138) S (by omega) (by omega) d_M_readName_120 (by decide) (fun c_120 => ?_) (fun c_120 => ?_)
          · refine lv_iconst (v := (nI 1)) S.1 S.2.1 d_M_readName_138 (by decide) ?_
            refine g_put (ws2 := [(aM, .inr (10, [.int v_thrown, .ref m_text, .int (nI ln), .int v_came, .int v_fault, .int v_place, .ref m_paper, .int v_papered, .int v_constants, .ref m_firstHalf, .ref m_secondHalf, .ref m_stored, .ref m_proved, .int (nI (z0 + n)), .int (nI 1), .int ta, .long f1, .long g1, .ref m_written, .ref m_places, .int v_end, .int v_second, .int v_ids, .int v_nodes, .int v_opens, .int v_levelOpens, .int v_start, .int v_app, .int v_behind, .ref m_levelKind, .ref m_levelStart, .ref m_levelApp, .ref m_levelHad, .ref m_levelScope, .ref m_levelId, .ref m_levelFirst, .ref m_levelSecond, .int v_level, .ref m_scopeFirst, .ref m_scopeSecond, .ref m_scopeId, .int v_scope, .ref m_made, .int v_top, .ref m_typeOf, .ref m_tasks, .int v_left, .ref m_todo, .int v_waits, .ref m_renamed, .ref m_bound, .int v_fresh, .int v_changed, .int v_changedTo, .int v_out, .int v_counted, .ref m_markA, .ref m_markB, .ref m_line, .int v_printed, .int v_questionAt])), (m_text, .inl (cI, 8192, .inl (fun j => nI (b j))))]) i_M ft_M ft_M_ok n_M S hW 0 rfl rfl 14 (by decide) kf_M_126 rfl rfl rfl (Nat.le_of_ble_eq_true rfl) rfl d_M_readName_139 (fun H locs hW => ?_)
            exact ret _ _ _ _ _ d_M_readName_142 ⟨_, _, _, _, hE, Or.inr (Or.inr ⟨by omega, (by first | exact (fun h => c_131 ((lg_cmp_eq _ _).mpr (h4.trans ((isTy_iffR hb c_120).mpr h)))) | exact (fun h => c_120 (by have := h.1; omega))), rfl⟩), (fun _ => rn_end h4 h5 (by omega)), rfl⟩ hW
          · refine lv_aload_n S.1 S.2.1 d_M_readName_123 rfl (lv_at hl 0 rfl) ?_
            refine g_get i_M S hW 0 rfl rfl 16 (by decide) kf_M_107 rfl d_M_readName_124 ?_
            refine lv_ldc2 (v := 1954115685) S.1 S.2.1 S.2.2.2.1 (S.2.2.2.2 _ kq_M_124) d_M_readName_127 ?_
            refine W.lcmp S.1 S.2.1 d_M_readName_130 ?_
            refine lv_if_ne (tgt := 138) S.1 S.2.1 d_M_readName_131 (by decide) (fun c_131 => ?_) (fun c_131 => ?_)
            · refine lv_iconst (v := (nI 1)) S.1 S.2.1 d_M_readName_138 (by decide) ?_
              refine g_put (ws2 := [(aM, .inr (10, [.int v_thrown, .ref m_text, .int (nI ln), .int v_came, .int v_fault, .int v_place, .ref m_paper, .int v_papered, .int v_constants, .ref m_firstHalf, .ref m_secondHalf, .ref m_stored, .ref m_proved, .int (nI (z0 + n)), .int (nI 1), .int ta, .long f1, .long g1, .ref m_written, .ref m_places, .int v_end, .int v_second, .int v_ids, .int v_nodes, .int v_opens, .int v_levelOpens, .int v_start, .int v_app, .int v_behind, .ref m_levelKind, .ref m_levelStart, .ref m_levelApp, .ref m_levelHad, .ref m_levelScope, .ref m_levelId, .ref m_levelFirst, .ref m_levelSecond, .int v_level, .ref m_scopeFirst, .ref m_scopeSecond, .ref m_scopeId, .int v_scope, .ref m_made, .int v_top, .ref m_typeOf, .ref m_tasks, .int v_left, .ref m_todo, .int v_waits, .ref m_renamed, .ref m_bound, .int v_fresh, .int v_changed, .int v_changedTo, .int v_out, .int v_counted, .ref m_markA, .ref m_markB, .ref m_line, .int v_printed, .int v_questionAt])), (m_text, .inl (cI, 8192, .inl (fun j => nI (b j))))]) i_M ft_M ft_M_ok n_M S hW 0 rfl rfl 14 (by decide) kf_M_126 rfl rfl rfl (Nat.le_of_ble_eq_true rfl) rfl d_M_readName_139 (fun H locs hW => ?_)
              exact ret _ _ _ _ _ d_M_readName_142 ⟨_, _, _, _, hE, Or.inr (Or.inr ⟨by omega, (by first | exact (fun h => c_131 ((lg_cmp_eq _ _).mpr (h4.trans ((isTy_iffR hb c_120).mpr h)))) | exact (fun h => c_120 (by have := h.1; omega))), rfl⟩), (fun _ => rn_end h4 h5 (by omega)), rfl⟩ hW
            · refine lv_iconst (v := (nI 2)) S.1 S.2.1 d_M_readName_134 (by decide) ?_
              refine lv_goto (tgt := 139) S.1 S.2.1 d_M_readName_135 (by decide) ?_
              refine g_put (ws2 := [(aM, .inr (10, [.int v_thrown, .ref m_text, .int (nI ln), .int v_came, .int v_fault, .int v_place, .ref m_paper, .int v_papered, .int v_constants, .ref m_firstHalf, .ref m_secondHalf, .ref m_stored, .ref m_proved, .int (nI (z0 + n)), .int (nI 2), .int ta, .long f1, .long g1, .ref m_written, .ref m_places, .int v_end, .int v_second, .int v_ids, .int v_nodes, .int v_opens, .int v_levelOpens, .int v_start, .int v_app, .int v_behind, .ref m_levelKind, .ref m_levelStart, .ref m_levelApp, .ref m_levelHad, .ref m_levelScope, .ref m_levelId, .ref m_levelFirst, .ref m_levelSecond, .int v_level, .ref m_scopeFirst, .ref m_scopeSecond, .ref m_scopeId, .int v_scope, .ref m_made, .int v_top, .ref m_typeOf, .ref m_tasks, .int v_left, .ref m_todo, .int v_waits, .ref m_renamed, .ref m_bound, .int v_fresh, .int v_changed, .int v_changedTo, .int v_out, .int v_counted, .ref m_markA, .ref m_markB, .ref m_line, .int v_printed, .int v_questionAt])), (m_text, .inl (cI, 8192, .inl (fun j => nI (b j))))]) i_M ft_M ft_M_ok n_M S hW 0 rfl rfl 14 (by decide) kf_M_126 rfl rfl rfl (Nat.le_of_ble_eq_true rfl) rfl d_M_readName_139 (fun H locs hW => ?_)
              exact ret _ _ _ _ _ d_M_readName_142 ⟨_, _, _, _, hE, Or.inr (Or.inl ⟨by omega, (isTy_iffR hb c_120).mp (h4.symm.trans ((lg_cmp_eq _ _).mp c_131)), rfl⟩), (fun h => by cases h), rfl⟩ hW
        · refine lv_iconst (v := (nI 4)) S.1 S.2.1 d_M_readName_114 (by decide) ?_
          refine lv_goto (tgt := 139) S.1 S.2.1 d_M_readName_115 (by decide) ?_
          refine g_put (ws2 := [(aM, .inr (10, [.int v_thrown, .ref m_text, .int (nI ln), .int v_came, .int v_fault, .int v_place, .ref m_paper, .int v_papered, .int v_constants, .ref m_firstHalf, .ref m_secondHalf, .ref m_stored, .ref m_proved, .int (nI (z0 + n)), .int (nI 4), .int ta, .long f1, .long g1, .ref m_written, .ref m_places, .int v_end, .int v_second, .int v_ids, .int v_nodes, .int v_opens, .int v_levelOpens, .int v_start, .int v_app, .int v_behind, .ref m_levelKind, .ref m_levelStart, .ref m_levelApp, .ref m_levelHad, .ref m_levelScope, .ref m_levelId, .ref m_levelFirst, .ref m_levelSecond, .int v_level, .ref m_scopeFirst, .ref m_scopeSecond, .ref m_scopeId, .int v_scope, .ref m_made, .int v_top, .ref m_typeOf, .ref m_tasks, .int v_left, .ref m_todo, .int v_waits, .ref m_renamed, .ref m_bound, .int v_fresh, .int v_changed, .int v_changedTo, .int v_out, .int v_counted, .ref m_markA, .ref m_markB, .ref m_line, .int v_printed, .int v_questionAt])), (m_text, .inl (cI, 8192, .inl (fun j => nI (b j))))]) i_M ft_M ft_M_ok n_M S hW 0 rfl rfl 14 (by decide) kf_M_126 rfl rfl rfl (Nat.le_of_ble_eq_true rfl) rfl d_M_readName_139 (fun H locs hW => ?_)
          exact ret _ _ _ _ _ d_M_readName_142 ⟨_, _, _, _, hE, Or.inl ⟨by omega, rfl⟩, (fun h => by cases h), rfl⟩ hW
      · refine lv_aload_n S.1 S.2.1 d_M_readName_23 rfl (lv_at hl 0 rfl) ?_
        refine g_get i_M S hW 0 rfl rfl 1 (by decide) kf_M_7 rfl d_M_readName_24 ?_
        refine lv_aload_n S.1 S.2.1 d_M_readName_27 rfl (lv_at hl 0 rfl) ?_
        refine g_get i_M S hW 0 rfl rfl 13 (by decide) kf_M_114 rfl d_M_readName_28 ?_
        refine n_iald S hW 1 0 rfl rfl (by decide) (by omega) d_M_readName_31 ?_
        refine top_eq (y := nI (b (z0 + n))) rfl ?_
        have hb1 := hb (z0 + n)
        refine callS_i (wr := [(aM, .inr (10, [.int v_thrown, .ref m_text, .int (nI ln), .int v_came, .int v_fault, .int v_place, .ref m_paper, .int v_papered, .int v_constants, .ref m_firstHalf, .ref m_secondHalf, .ref m_stored, .ref m_proved, .int (nI (z0 + n)), .int kd, .int ta, .long f1, .long g1, .ref m_written, .ref m_places, .int v_end, .int v_second, .int v_ids, .int v_nodes, .int v_opens, .int v_levelOpens, .int v_start, .int v_app, .int v_behind, .ref m_levelKind, .ref m_levelStart, .ref m_levelApp, .ref m_levelHad, .ref m_levelScope, .ref m_levelId, .ref m_levelFirst, .ref m_levelSecond, .int v_level, .ref m_scopeFirst, .ref m_scopeSecond, .ref m_scopeId, .int v_scope, .ref m_made, .int v_top, .ref m_typeOf, .ref m_tasks, .int v_left, .ref m_todo, .int v_waits, .ref m_renamed, .ref m_bound, .int v_fresh, .int v_changed, .int v_changedTo, .int v_out, .int v_counted, .ref m_markA, .ref m_markB, .ref m_line, .int v_printed, .int v_questionAt])), (m_text, .inl (cI, 8192, .inl (fun j => nI (b j))))]) (wc := []) (np := 1) (As := [.int (nI (b (z0 + n)))]) (rest := []) (c_M_isNamed l D cI cJ cB cZ (b (z0 + n)) (by first | omega | assumption | simp_all)) km_M_120 ks_M_isNamed kz_M kk_M_isNamed (by decide +kernel) S hW hA ⟨Nat.le_of_ble_eq_true rfl, Nat.le_of_ble_eq_true rfl⟩ ⟨Nat.le_of_ble_eq_true rfl, Nat.le_of_ble_eq_true rfl⟩ [] [0, 1] rfl (by decide) rfl (by decide) (by decide) rfl hl.1 rfl (Nat.le_of_ble_eq_true rfl) d_M_readName_32 (fun r u H locs hp hW => ?_)
        rcases hp with ⟨h_1, rfl, rfl⟩ | ⟨h_2, rfl, rfl⟩
        · have hW : Wd D (tyl cI cJ cB cZ) A s s.heap H locs [(aM, .inr (10, [.int v_thrown, .ref m_text, .int (nI ln), .int v_came, .int v_fault, .int v_place, .ref m_paper, .int v_papered, .int v_constants, .ref m_firstHalf, .ref m_secondHalf, .ref m_stored, .ref m_proved, .int (nI (z0 + n)), .int kd, .int ta, .long f1, .long g1, .ref m_written, .ref m_places, .int v_end, .int v_second, .int v_ids, .int v_nodes, .int v_opens, .int v_levelOpens, .int v_start, .int v_app, .int v_behind, .ref m_levelKind, .ref m_levelStart, .ref m_levelApp, .ref m_levelHad, .ref m_levelScope, .ref m_levelId, .ref m_levelFirst, .ref m_levelSecond, .int v_level, .ref m_scopeFirst, .ref m_scopeSecond, .ref m_scopeId, .int v_scope, .ref m_made, .int v_top, .ref m_typeOf, .ref m_tasks, .int v_left, .ref m_todo, .int v_waits, .ref m_renamed, .ref m_bound, .int v_fresh, .int v_changed, .int v_changedTo, .int v_out, .int v_counted, .ref m_markA, .ref m_markB, .ref m_line, .int v_printed, .int v_questionAt])), (m_text, .inl (cI, 8192, .inl (fun j => nI (b j))))] := hW
          refine lv_if_eq (tgt := 107) S.1 S.2.1 d_M_readName_35 (by decide) (fun h => absurd h (by decide)) (fun _ => ?_)
          have hnm : isNm (b (z0 + n)) := h_1
          refine lv_iload_n S.1 S.2.1 d_M_readName_38 rfl (lv_at hl 1 rfl) ?_
          refine lv_bipush (v := (nI 6)) S.1 S.2.1 d_M_readName_39 (by decide) ?_
          refine n_icmp_ge (tgt := 69) S (by omega) (by omega) d_M_readName_41 (by decide) (fun c_41 => ?_) (fun c_41 => ?_)
          · refine lv_aload_n S.1 S.2.1 d_M_readName_69 rfl (lv_at hl 0 rfl) ?_
            refine lv_aload_n S.1 S.2.1 d_M_readName_70 rfl (lv_at hl 0 rfl) ?_
            refine g_get i_M S hW 0 rfl rfl 17 (by decide) kf_M_111 rfl d_M_readName_71 ?_
            refine lv_bipush (v := (nI 8)) S.1 S.2.1 d_M_readName_74 (by decide) ?_
            refine lv_lshl (v := g1 <<< ((nI 8).toInt64 &&& 63)) S.1 S.2.1 d_M_readName_76 rfl ?_
            refine lv_aload_n S.1 S.2.1 d_M_readName_77 rfl (lv_at hl 0 rfl) ?_
            refine g_get i_M S hW 0 rfl rfl 1 (by decide) kf_M_7 rfl d_M_readName_78 ?_
            refine lv_aload_n S.1 S.2.1 d_M_readName_81 rfl (lv_at hl 0 rfl) ?_
            refine g_get i_M S hW 0 rfl rfl 13 (by decide) kf_M_114 rfl d_M_readName_82 ?_
            refine n_iald S hW 1 0 rfl rfl (by decide) (by omega) d_M_readName_85 ?_
            refine top_eq (y := nI (b (z0 + n))) rfl ?_
            refine lv_i2l (v := (nI (b (z0 + n))).toInt64) S.1 S.2.1 d_M_readName_86 rfl ?_
            refine lv_lor S.1 S.2.1 d_M_readName_87 ?_
            refine g_put (ws2 := [(aM, .inr (10, [.int v_thrown, .ref m_text, .int (nI ln), .int v_came, .int v_fault, .int v_place, .ref m_paper, .int v_papered, .int v_constants, .ref m_firstHalf, .ref m_secondHalf, .ref m_stored, .ref m_proved, .int (nI (z0 + n)), .int kd, .int ta, .long f1, .long ((g1 <<< ((nI 8).toInt64 &&& 63)) ||| ((nI (b (z0 + n))).toInt64)), .ref m_written, .ref m_places, .int v_end, .int v_second, .int v_ids, .int v_nodes, .int v_opens, .int v_levelOpens, .int v_start, .int v_app, .int v_behind, .ref m_levelKind, .ref m_levelStart, .ref m_levelApp, .ref m_levelHad, .ref m_levelScope, .ref m_levelId, .ref m_levelFirst, .ref m_levelSecond, .int v_level, .ref m_scopeFirst, .ref m_scopeSecond, .ref m_scopeId, .int v_scope, .ref m_made, .int v_top, .ref m_typeOf, .ref m_tasks, .int v_left, .ref m_todo, .int v_waits, .ref m_renamed, .ref m_bound, .int v_fresh, .int v_changed, .int v_changedTo, .int v_out, .int v_counted, .ref m_markA, .ref m_markB, .ref m_line, .int v_printed, .int v_questionAt])), (m_text, .inl (cI, 8192, .inl (fun j => nI (b j))))]) i_M ft_M ft_M_ok n_M S hW 0 rfl rfl 17 (by decide) kf_M_111 rfl rfl rfl (Nat.le_of_ble_eq_true rfl) rfl d_M_readName_88 (fun H locs hW => ?_)
            refine lv_aload_n S.1 S.2.1 d_M_readName_91 rfl (lv_at hl 0 rfl) ?_
            refine lv_dup S.1 S.2.1 d_M_readName_92 rfl ?_
            refine g_get i_M S hW 0 rfl rfl 13 (by decide) kf_M_114 rfl d_M_readName_93 ?_
            refine lv_iconst (v := (nI 1)) S.1 S.2.1 d_M_readName_96 (by decide) ?_
            refine n_iadd S d_M_readName_97 ?_
            refine g_put (ws2 := [(aM, .inr (10, [.int v_thrown, .ref m_text, .int (nI ln), .int v_came, .int v_fault, .int v_place, .ref m_paper, .int v_papered, .int v_constants, .ref m_firstHalf, .ref m_secondHalf, .ref m_stored, .ref m_proved, .int (nI ((z0 + n) + 1)), .int kd, .int ta, .long f1, .long ((g1 <<< ((nI 8).toInt64 &&& 63)) ||| ((nI (b (z0 + n))).toInt64)), .ref m_written, .ref m_places, .int v_end, .int v_second, .int v_ids, .int v_nodes, .int v_opens, .int v_levelOpens, .int v_start, .int v_app, .int v_behind, .ref m_levelKind, .ref m_levelStart, .ref m_levelApp, .ref m_levelHad, .ref m_levelScope, .ref m_levelId, .ref m_levelFirst, .ref m_levelSecond, .int v_level, .ref m_scopeFirst, .ref m_scopeSecond, .ref m_scopeId, .int v_scope, .ref m_made, .int v_top, .ref m_typeOf, .ref m_tasks, .int v_left, .ref m_todo, .int v_waits, .ref m_renamed, .ref m_bound, .int v_fresh, .int v_changed, .int v_changedTo, .int v_out, .int v_counted, .ref m_markA, .ref m_markB, .ref m_line, .int v_printed, .int v_questionAt])), (m_text, .inl (cI, 8192, .inl (fun j => nI (b j))))]) i_M ft_M ft_M_ok n_M S hW 0 rfl rfl 13 (by decide) kf_M_114 rfl rfl rfl (Nat.le_of_ble_eq_true rfl) rfl d_M_readName_98 (fun H locs hW => ?_)
            refine lv_iinc (v := (nI (n + 1))) (lv' := [(1, .int (nI (n + 1))), (0, .ref aM)]) S.1 S.2.1 d_M_readName_101 hl (k := 1) rfl (inc_eq _ 1 _ (by decide)) (by decide) rfl (fun ls hl => ?_)
            refine lv_goto (tgt := 12) S.1 S.2.1 d_M_readName_104 (by decide) ?_
            exact ih (n + 1) f1 ((g1 <<< ((nI 8).toInt64 &&& 63)) ||| ((nI (b (z0 + n))).toInt64)) (by omega) (by omega) (fun j a1 a2 => by rcases Nat.lt_or_ge j (z0 + n) with y | y; exact h3 j a1 y; exact (show j = z0 + n by omega) ▸ hnm) (by first | exact rn_f hb h4 c_41 | exact rn_f6 h4 c_41) (by first | exact rn_g h5 c_41 | exact rn_g6 hb h5 c_41) _ _ hW _ (lv_sub hl [1, 0] rfl)
          · refine lv_aload_n S.1 S.2.1 d_M_readName_44 rfl (lv_at hl 0 rfl) ?_
            refine lv_aload_n S.1 S.2.1 d_M_readName_45 rfl (lv_at hl 0 rfl) ?_
            refine g_get i_M S hW 0 rfl rfl 16 (by decide) kf_M_107 rfl d_M_readName_46 ?_
            refine lv_bipush (v := (nI 8)) S.1 S.2.1 d_M_readName_49 (by decide) ?_
            refine lv_lshl (v := f1 <<< ((nI 8).toInt64 &&& 63)) S.1 S.2.1 d_M_readName_51 rfl ?_
            refine lv_aload_n S.1 S.2.1 d_M_readName_52 rfl (lv_at hl 0 rfl) ?_
            refine g_get i_M S hW 0 rfl rfl 1 (by decide) kf_M_7 rfl d_M_readName_53 ?_
            refine lv_aload_n S.1 S.2.1 d_M_readName_56 rfl (lv_at hl 0 rfl) ?_
            refine g_get i_M S hW 0 rfl rfl 13 (by decide) kf_M_114 rfl d_M_readName_57 ?_
            refine n_iald S hW 1 0 rfl rfl (by decide) (by omega) d_M_readName_60 ?_
            refine top_eq (y := nI (b (z0 + n))) rfl ?_
            refine lv_i2l (v := (nI (b (z0 + n))).toInt64) S.1 S.2.1 d_M_readName_61 rfl ?_
            refine lv_lor S.1 S.2.1 d_M_readName_62 ?_
            refine g_put (ws2 := [(aM, .inr (10, [.int v_thrown, .ref m_text, .int (nI ln), .int v_came, .int v_fault, .int v_place, .ref m_paper, .int v_papered, .int v_constants, .ref m_firstHalf, .ref m_secondHalf, .ref m_stored, .ref m_proved, .int (nI (z0 + n)), .int kd, .int ta, .long ((f1 <<< ((nI 8).toInt64 &&& 63)) ||| ((nI (b (z0 + n))).toInt64)), .long g1, .ref m_written, .ref m_places, .int v_end, .int v_second, .int v_ids, .int v_nodes, .int v_opens, .int v_levelOpens, .int v_start, .int v_app, .int v_behind, .ref m_levelKind, .ref m_levelStart, .ref m_levelApp, .ref m_levelHad, .ref m_levelScope, .ref m_levelId, .ref m_levelFirst, .ref m_levelSecond, .int v_level, .ref m_scopeFirst, .ref m_scopeSecond, .ref m_scopeId, .int v_scope, .ref m_made, .int v_top, .ref m_typeOf, .ref m_tasks, .int v_left, .ref m_todo, .int v_waits, .ref m_renamed, .ref m_bound, .int v_fresh, .int v_changed, .int v_changedTo, .int v_out, .int v_counted, .ref m_markA, .ref m_markB, .ref m_line, .int v_printed, .int v_questionAt])), (m_text, .inl (cI, 8192, .inl (fun j => nI (b j))))]) i_M ft_M ft_M_ok n_M S hW 0 rfl rfl 16 (by decide) kf_M_107 rfl rfl rfl (Nat.le_of_ble_eq_true rfl) rfl d_M_readName_63 (fun H locs hW => ?_)
            refine lv_goto (tgt := 91) S.1 S.2.1 d_M_readName_66 (by decide) ?_
            refine lv_aload_n S.1 S.2.1 d_M_readName_91 rfl (lv_at hl 0 rfl) ?_
            refine lv_dup S.1 S.2.1 d_M_readName_92 rfl ?_
            refine g_get i_M S hW 0 rfl rfl 13 (by decide) kf_M_114 rfl d_M_readName_93 ?_
            refine lv_iconst (v := (nI 1)) S.1 S.2.1 d_M_readName_96 (by decide) ?_
            refine n_iadd S d_M_readName_97 ?_
            refine g_put (ws2 := [(aM, .inr (10, [.int v_thrown, .ref m_text, .int (nI ln), .int v_came, .int v_fault, .int v_place, .ref m_paper, .int v_papered, .int v_constants, .ref m_firstHalf, .ref m_secondHalf, .ref m_stored, .ref m_proved, .int (nI ((z0 + n) + 1)), .int kd, .int ta, .long ((f1 <<< ((nI 8).toInt64 &&& 63)) ||| ((nI (b (z0 + n))).toInt64)), .long g1, .ref m_written, .ref m_places, .int v_end, .int v_second, .int v_ids, .int v_nodes, .int v_opens, .int v_levelOpens, .int v_start, .int v_app, .int v_behind, .ref m_levelKind, .ref m_levelStart, .ref m_levelApp, .ref m_levelHad, .ref m_levelScope, .ref m_levelId, .ref m_levelFirst, .ref m_levelSecond, .int v_level, .ref m_scopeFirst, .ref m_scopeSecond, .ref m_scopeId, .int v_scope, .ref m_made, .int v_top, .ref m_typeOf, .ref m_tasks, .int v_left, .ref m_todo, .int v_waits, .ref m_renamed, .ref m_bound, .int v_fresh, .int v_changed, .int v_changedTo, .int v_out, .int v_counted, .ref m_markA, .ref m_markB, .ref m_line, .int v_printed, .int v_questionAt])), (m_text, .inl (cI, 8192, .inl (fun j => nI (b j))))]) i_M ft_M ft_M_ok n_M S hW 0 rfl rfl 13 (by decide) kf_M_114 rfl rfl rfl (Nat.le_of_ble_eq_true rfl) rfl d_M_readName_98 (fun H locs hW => ?_)
            refine lv_iinc (v := (nI (n + 1))) (lv' := [(1, .int (nI (n + 1))), (0, .ref aM)]) S.1 S.2.1 d_M_readName_101 hl (k := 1) rfl (inc_eq _ 1 _ (by decide)) (by decide) rfl (fun ls hl => ?_)
            refine lv_goto (tgt := 12) S.1 S.2.1 d_M_readName_104 (by decide) ?_
            exact ih (n + 1) ((f1 <<< ((nI 8).toInt64 &&& 63)) ||| ((nI (b (z0 + n))).toInt64)) g1 (by omega) (by omega) (fun j a1 a2 => by rcases Nat.lt_or_ge j (z0 + n) with y | y; exact h3 j a1 y; exact (show j = z0 + n by omega) ▸ hnm) (by first | exact rn_f hb h4 c_41 | exact rn_f6 h4 c_41) (by first | exact rn_g h5 c_41 | exact rn_g6 hb h5 c_41) _ _ hW _ (lv_sub hl [1, 0] rfl)
        · have hW : Wd D (tyl cI cJ cB cZ) A s s.heap H locs [(aM, .inr (10, [.int v_thrown, .ref m_text, .int (nI ln), .int v_came, .int v_fault, .int v_place, .ref m_paper, .int v_papered, .int v_constants, .ref m_firstHalf, .ref m_secondHalf, .ref m_stored, .ref m_proved, .int (nI (z0 + n)), .int kd, .int ta, .long f1, .long g1, .ref m_written, .ref m_places, .int v_end, .int v_second, .int v_ids, .int v_nodes, .int v_opens, .int v_levelOpens, .int v_start, .int v_app, .int v_behind, .ref m_levelKind, .ref m_levelStart, .ref m_levelApp, .ref m_levelHad, .ref m_levelScope, .ref m_levelId, .ref m_levelFirst, .ref m_levelSecond, .int v_level, .ref m_scopeFirst, .ref m_scopeSecond, .ref m_scopeId, .int v_scope, .ref m_made, .int v_top, .ref m_typeOf, .ref m_tasks, .int v_left, .ref m_todo, .int v_waits, .ref m_renamed, .ref m_bound, .int v_fresh, .int v_changed, .int v_changedTo, .int v_out, .int v_counted, .ref m_markA, .ref m_markB, .ref m_line, .int v_printed, .int v_questionAt])), (m_text, .inl (cI, 8192, .inl (fun j => nI (b j))))] := hW
          refine lv_if_eq (tgt := 107) S.1 S.2.1 d_M_readName_35 (by decide) (fun _ => ?_) (fun h => absurd h (by decide))
          have hE : NmE b ln z0 (z0 + n) := ⟨by omega, h2, h3, by first | (intro a; omega) | (intro _; assumption)⟩
          refine lv_aload_n S.1 S.2.1 d_M_readName_107 rfl (lv_at hl 0 rfl) ?_
          refine lv_iload_n S.1 S.2.1 d_M_readName_108 rfl (lv_at hl 1 rfl) ?_
          refine lv_bipush (v := (nI 12)) S.1 S.2.1 d_M_readName_109 (by decide) ?_
          refine n_icmp_le (tgt := 118) S (by omega) (by omega) d_M_readName_111 (by decide) (fun c_111 => ?_) (fun c_111 => ?_)
          · refine lv_iload_n S.1 S.2.1 d_M_readName_118 rfl (lv_at hl 1 rfl) ?_
            refine lv_iconst (v := (nI 4)) S.1 S.2.1 d_M_readName_119 (by decide) ?_
            refine n_icmp_ne (tgt := 138) S (by omega) (by omega) d_M_readName_120 (by decide) (fun c_120 => ?_) (fun c_120 => ?_)
            · refine lv_iconst (v := (nI 1)) S.1 S.2.1 d_M_readName_138 (by decide) ?_
              refine g_put (ws2 := [(aM, .inr (10, [.int v_thrown, .ref m_text, .int (nI ln), .int v_came, .int v_fault, .int v_place, .ref m_paper, .int v_papered, .int v_constants, .ref m_firstHalf, .ref m_secondHalf, .ref m_stored, .ref m_proved, .int (nI (z0 + n)), .int (nI 1), .int ta, .long f1, .long g1, .ref m_written, .ref m_places, .int v_end, .int v_second, .int v_ids, .int v_nodes, .int v_opens, .int v_levelOpens, .int v_start, .int v_app, .int v_behind, .ref m_levelKind, .ref m_levelStart, .ref m_levelApp, .ref m_levelHad, .ref m_levelScope, .ref m_levelId, .ref m_levelFirst, .ref m_levelSecond, .int v_level, .ref m_scopeFirst, .ref m_scopeSecond, .ref m_scopeId, .int v_scope, .ref m_made, .int v_top, .ref m_typeOf, .ref m_tasks, .int v_left, .ref m_todo, .int v_waits, .ref m_renamed, .ref m_bound, .int v_fresh, .int v_changed, .int v_changedTo, .int v_out, .int v_counted, .ref m_markA, .ref m_markB, .ref m_line, .int v_printed, .int v_questionAt])), (m_text, .inl (cI, 8192, .inl (fun j => nI (b j))))]) i_M ft_M ft_M_ok n_M S hW 0 rfl rfl 14 (by decide) kf_M_126 rfl rfl rfl (Nat.le_of_ble_eq_true rfl) rfl d_M_readName_139 (fun H locs hW => ?_)
              exact ret _ _ _ _ _ d_M_readName_142 ⟨_, _, _, _, hE, Or.inr (Or.inr ⟨by omega, (by first | exact (fun h => c_131 ((lg_cmp_eq _ _).mpr (h4.trans ((isTy_iffR hb c_120).mpr h)))) | exact (fun h => c_120 (by have := h.1; omega))), rfl⟩), (fun _ => rn_end h4 h5 (by omega)), rfl⟩ hW
            · refine lv_aload_n S.1 S.2.1 d_M_readName_123 rfl (lv_at hl 0 rfl) ?_
              refine g_get i_M S hW 0 rfl rfl 16 (by decide) kf_M_107 rfl d_M_readName_124 ?_
              refine lv_ldc2 (v := 1954115685) S.1 S.2.1 S.2.2.2.1 (S.2.2.2.2 _ kq_M_124) d_M_readName_127 ?_
              refine W.lcmp S.1 S.2.1 d_M_readName_130 ?_
              refine lv_if_ne (tgt := 138) S.1 S.2.1 d_M_readName_131 (by decide) (fun c_131 => ?_) (fun c_131 => ?_)
              · refine lv_iconst (v := (nI 1)) S.1 S.2.1 d_M_readName_138 (by decide) ?_
                refine g_put (ws2 := [(aM, .inr (10, [.int v_thrown, .ref m_text, .int (nI ln), .int v_came, .int v_fault, .int v_place, .ref m_paper, .int v_papered, .int v_constants, .ref m_firstHalf, .ref m_secondHalf, .ref m_stored, .ref m_proved, .int (nI (z0 + n)), .int (nI 1), .int ta, .long f1, .long g1, .ref m_written, .ref m_places, .int v_end, .int v_second, .int v_ids, .int v_nodes, .int v_opens, .int v_levelOpens, .int v_start, .int v_app, .int v_behind, .ref m_levelKind, .ref m_levelStart, .ref m_levelApp, .ref m_levelHad, .ref m_levelScope, .ref m_levelId, .ref m_levelFirst, .ref m_levelSecond, .int v_level, .ref m_scopeFirst, .ref m_scopeSecond, .ref m_scopeId, .int v_scope, .ref m_made, .int v_top, .ref m_typeOf, .ref m_tasks, .int v_left, .ref m_todo, .int v_waits, .ref m_renamed, .ref m_bound, .int v_fresh, .int v_changed, .int v_changedTo, .int v_out, .int v_counted, .ref m_markA, .ref m_markB, .ref m_line, .int v_printed, .int v_questionAt])), (m_text, .inl (cI, 8192, .inl (fun j => nI (b j))))]) i_M ft_M ft_M_ok n_M S hW 0 rfl rfl 14 (by decide) kf_M_126 rfl rfl rfl (Nat.le_of_ble_eq_true rfl) rfl d_M_readName_139 (fun H locs hW => ?_)
                exact ret _ _ _ _ _ d_M_readName_142 ⟨_, _, _, _, hE, Or.inr (Or.inr ⟨by omega, (by first | exact (fun h => c_131 ((lg_cmp_eq _ _).mpr (h4.trans ((isTy_iffR hb c_120).mpr h)))) | exact (fun h => c_120 (by have := h.1; omega))), rfl⟩), (fun _ => rn_end h4 h5 (by omega)), rfl⟩ hW
              · refine lv_iconst (v := (nI 2)) S.1 S.2.1 d_M_readName_134 (by decide) ?_
                refine lv_goto (tgt := 139) S.1 S.2.1 d_M_readName_135 (by decide) ?_
                refine g_put (ws2 := [(aM, .inr (10, [.int v_thrown, .ref m_text, .int (nI ln), .int v_came, .int v_fault, .int v_place, .ref m_paper, .int v_papered, .int v_constants, .ref m_firstHalf, .ref m_secondHalf, .ref m_stored, .ref m_proved, .int (nI (z0 + n)), .int (nI 2), .int ta, .long f1, .long g1, .ref m_written, .ref m_places, .int v_end, .int v_second, .int v_ids, .int v_nodes, .int v_opens, .int v_levelOpens, .int v_start, .int v_app, .int v_behind, .ref m_levelKind, .ref m_levelStart, .ref m_levelApp, .ref m_levelHad, .ref m_levelScope, .ref m_levelId, .ref m_levelFirst, .ref m_levelSecond, .int v_level, .ref m_scopeFirst, .ref m_scopeSecond, .ref m_scopeId, .int v_scope, .ref m_made, .int v_top, .ref m_typeOf, .ref m_tasks, .int v_left, .ref m_todo, .int v_waits, .ref m_renamed, .ref m_bound, .int v_fresh, .int v_changed, .int v_changedTo, .int v_out, .int v_counted, .ref m_markA, .ref m_markB, .ref m_line, .int v_printed, .int v_questionAt])), (m_text, .inl (cI, 8192, .inl (fun j => nI (b j))))]) i_M ft_M ft_M_ok n_M S hW 0 rfl rfl 14 (by decide) kf_M_126 rfl rfl rfl (Nat.le_of_ble_eq_true rfl) rfl d_M_readName_139 (fun H locs hW => ?_)
                exact ret _ _ _ _ _ d_M_readName_142 ⟨_, _, _, _, hE, Or.inr (Or.inl ⟨by omega, (isTy_iffR hb c_120).mp (h4.symm.trans ((lg_cmp_eq _ _).mp c_131)), rfl⟩), (fun h => by cases h), rfl⟩ hW
          · refine lv_iconst (v := (nI 4)) S.1 S.2.1 d_M_readName_114 (by decide) ?_
            refine lv_goto (tgt := 139) S.1 S.2.1 d_M_readName_115 (by decide) ?_
            refine g_put (ws2 := [(aM, .inr (10, [.int v_thrown, .ref m_text, .int (nI ln), .int v_came, .int v_fault, .int v_place, .ref m_paper, .int v_papered, .int v_constants, .ref m_firstHalf, .ref m_secondHalf, .ref m_stored, .ref m_proved, .int (nI (z0 + n)), .int (nI 4), .int ta, .long f1, .long g1, .ref m_written, .ref m_places, .int v_end, .int v_second, .int v_ids, .int v_nodes, .int v_opens, .int v_levelOpens, .int v_start, .int v_app, .int v_behind, .ref m_levelKind, .ref m_levelStart, .ref m_levelApp, .ref m_levelHad, .ref m_levelScope, .ref m_levelId, .ref m_levelFirst, .ref m_levelSecond, .int v_level, .ref m_scopeFirst, .ref m_scopeSecond, .ref m_scopeId, .int v_scope, .ref m_made, .int v_top, .ref m_typeOf, .ref m_tasks, .int v_left, .ref m_todo, .int v_waits, .ref m_renamed, .ref m_bound, .int v_fresh, .int v_changed, .int v_changedTo, .int v_out, .int v_counted, .ref m_markA, .ref m_markB, .ref m_line, .int v_printed, .int v_questionAt])), (m_text, .inl (cI, 8192, .inl (fun j => nI (b j))))]) i_M ft_M ft_M_ok n_M S hW 0 rfl rfl 14 (by decide) kf_M_126 rfl rfl rfl (Nat.le_of_ble_eq_true rfl) rfl d_M_readName_139 (fun H locs hW => ?_)
            exact ret _ _ _ _ _ d_M_readName_142 ⟨_, _, _, _, hE, Or.inl ⟨by omega, rfl⟩, (fun h => by cases h), rfl⟩ hW
  exact loop_12 (ln - (z0 + 0) + 1) 0 0 0 (Nat.lt_succ_self _) (by omega) (fun j a1 a2 => absurd a2 (by omega)) (by simp [beN]; rfl) (fun _ => by simp [beN]; rfl) _ _ hW _ (lv_sub hl [1, 0] rfl)
theorem d_M_readToken_0 : decode b_M_readToken 0 = .ok (.aload_n 0, 1) := by decide +kernel
theorem d_M_readToken_1 : decode b_M_readToken 1 = .ok (.getfield 114, 3) := by decide +kernel
theorem d_M_readToken_4 : decode b_M_readToken 4 = .ok (.aload_n 0, 1) := by decide +kernel
theorem d_M_readToken_5 : decode b_M_readToken 5 = .ok (.getfield 117, 3) := by decide +kernel
theorem d_M_readToken_8 : decode b_M_readToken 8 = .ok (.if_icmp .ge 30, 3) := by decide +kernel
theorem d_M_readToken_11 : decode b_M_readToken 11 = .ok (.aload_n 0, 1) := by decide +kernel
theorem d_M_readToken_12 : decode b_M_readToken 12 = .ok (.getfield 7, 3) := by decide +kernel
theorem d_M_readToken_15 : decode b_M_readToken 15 = .ok (.aload_n 0, 1) := by decide +kernel
theorem d_M_readToken_16 : decode b_M_readToken 16 = .ok (.getfield 114, 3) := by decide +kernel
theorem d_M_readToken_19 : decode b_M_readToken 19 = .ok (.iaload, 1) := by decide +kernel
theorem d_M_readToken_20 : decode b_M_readToken 20 = .ok (.bipush 32, 2) := by decide +kernel
theorem d_M_readToken_22 : decode b_M_readToken 22 = .ok (.if_icmp .gt 16, 3) := by decide +kernel
theorem d_M_readToken_25 : decode b_M_readToken 25 = .ok (.aload_n 0, 1) := by decide +kernel
theorem d_M_readToken_26 : decode b_M_readToken 26 = .ok (.dup, 1) := by decide +kernel
theorem d_M_readToken_27 : decode b_M_readToken 27 = .ok (.getfield 114, 3) := by decide +kernel
theorem d_M_readToken_30 : decode b_M_readToken 30 = .ok (.iconst 1, 1) := by decide +kernel
theorem d_M_readToken_31 : decode b_M_readToken 31 = .ok (.iadd, 1) := by decide +kernel
theorem d_M_readToken_32 : decode b_M_readToken 32 = .ok (.putfield 114, 3) := by decide +kernel
theorem d_M_readToken_35 : decode b_M_readToken 35 = .ok (.goto (-35), 3) := by decide +kernel
theorem d_M_readToken_38 : decode b_M_readToken 38 = .ok (.aload_n 0, 1) := by decide +kernel
theorem d_M_readToken_39 : decode b_M_readToken 39 = .ok (.aload_n 0, 1) := by decide +kernel
theorem d_M_readToken_40 : decode b_M_readToken 40 = .ok (.getfield 114, 3) := by decide +kernel
theorem d_M_readToken_43 : decode b_M_readToken 43 = .ok (.putfield 129, 3) := by decide +kernel
theorem d_M_readToken_46 : decode b_M_readToken 46 = .ok (.aload_n 0, 1) := by decide +kernel
theorem d_M_readToken_47 : decode b_M_readToken 47 = .ok (.getfield 114, 3) := by decide +kernel
theorem d_M_readToken_50 : decode b_M_readToken 50 = .ok (.aload_n 0, 1) := by decide +kernel
theorem d_M_readToken_51 : decode b_M_readToken 51 = .ok (.getfield 117, 3) := by decide +kernel
theorem d_M_readToken_54 : decode b_M_readToken 54 = .ok (.if_icmp .ne 9, 3) := by decide +kernel
theorem d_M_readToken_57 : decode b_M_readToken 57 = .ok (.aload_n 0, 1) := by decide +kernel
theorem d_M_readToken_58 : decode b_M_readToken 58 = .ok (.iconst 0, 1) := by decide +kernel
theorem d_M_readToken_59 : decode b_M_readToken 59 = .ok (.putfield 126, 3) := by decide +kernel
theorem d_M_readToken_62 : decode b_M_readToken 62 = .ok (.return_, 1) := by decide +kernel
theorem d_M_readToken_63 : decode b_M_readToken 63 = .ok (.aload_n 0, 1) := by decide +kernel
theorem d_M_readToken_64 : decode b_M_readToken 64 = .ok (.getfield 7, 3) := by decide +kernel
theorem d_M_readToken_67 : decode b_M_readToken 67 = .ok (.aload_n 0, 1) := by decide +kernel
theorem d_M_readToken_68 : decode b_M_readToken 68 = .ok (.getfield 114, 3) := by decide +kernel
theorem d_M_readToken_71 : decode b_M_readToken 71 = .ok (.iaload, 1) := by decide +kernel
theorem d_M_readToken_72 : decode b_M_readToken 72 = .ok (.istore_n 1, 1) := by decide +kernel
theorem d_M_readToken_73 : decode b_M_readToken 73 = .ok (.iload_n 1, 1) := by decide +kernel
theorem d_M_readToken_74 : decode b_M_readToken 74 = .ok (.invokestatic 120, 3) := by decide +kernel
theorem d_M_readToken_77 : decode b_M_readToken 77 = .ok (.ifCond .eq 10, 3) := by decide +kernel
theorem d_M_readToken_80 : decode b_M_readToken 80 = .ok (.aload_n 0, 1) := by decide +kernel
theorem d_M_readToken_81 : decode b_M_readToken 81 = .ok (.invokevirtual 132, 3) := by decide +kernel
theorem d_M_readToken_84 : decode b_M_readToken 84 = .ok (.goto 86, 3) := by decide +kernel
theorem d_M_readToken_87 : decode b_M_readToken 87 = .ok (.iload_n 1, 1) := by decide +kernel
theorem d_M_readToken_88 : decode b_M_readToken 88 = .ok (.bipush 45, 2) := by decide +kernel
theorem d_M_readToken_90 : decode b_M_readToken 90 = .ok (.if_icmp .ne 54, 3) := by decide +kernel
theorem d_M_readToken_93 : decode b_M_readToken 93 = .ok (.aload_n 0, 1) := by decide +kernel
theorem d_M_readToken_94 : decode b_M_readToken 94 = .ok (.aload_n 0, 1) := by decide +kernel
theorem d_M_readToken_95 : decode b_M_readToken 95 = .ok (.getfield 114, 3) := by decide +kernel
theorem d_M_readToken_98 : decode b_M_readToken 98 = .ok (.iconst 1, 1) := by decide +kernel
theorem d_M_readToken_99 : decode b_M_readToken 99 = .ok (.iadd, 1) := by decide +kernel
theorem d_M_readToken_100 : decode b_M_readToken 100 = .ok (.aload_n 0, 1) := by decide +kernel
theorem d_M_readToken_101 : decode b_M_readToken 101 = .ok (.getfield 117, 3) := by decide +kernel
theorem d_M_readToken_104 : decode b_M_readToken 104 = .ok (.if_icmp .ge 23, 3) := by decide +kernel
theorem d_M_readToken_107 : decode b_M_readToken 107 = .ok (.aload_n 0, 1) := by decide +kernel
theorem d_M_readToken_108 : decode b_M_readToken 108 = .ok (.getfield 7, 3) := by decide +kernel
theorem d_M_readToken_111 : decode b_M_readToken 111 = .ok (.aload_n 0, 1) := by decide +kernel
theorem d_M_readToken_112 : decode b_M_readToken 112 = .ok (.getfield 114, 3) := by decide +kernel
theorem d_M_readToken_115 : decode b_M_readToken 115 = .ok (.iconst 1, 1) := by decide +kernel
theorem d_M_readToken_116 : decode b_M_readToken 116 = .ok (.iadd, 1) := by decide +kernel
theorem d_M_readToken_117 : decode b_M_readToken 117 = .ok (.iaload, 1) := by decide +kernel
theorem d_M_readToken_118 : decode b_M_readToken 118 = .ok (.bipush 62, 2) := by decide +kernel
theorem d_M_readToken_120 : decode b_M_readToken 120 = .ok (.if_icmp .ne 7, 3) := by decide +kernel
theorem d_M_readToken_123 : decode b_M_readToken 123 = .ok (.iconst 3, 1) := by decide +kernel
theorem d_M_readToken_124 : decode b_M_readToken 124 = .ok (.goto 4, 3) := by decide +kernel
theorem d_M_readToken_127 : decode b_M_readToken 127 = .ok (.iconst 4, 1) := by decide +kernel
theorem d_M_readToken_128 : decode b_M_readToken 128 = .ok (.putfield 126, 3) := by decide +kernel
theorem d_M_readToken_131 : decode b_M_readToken 131 = .ok (.aload_n 0, 1) := by decide +kernel
theorem d_M_readToken_132 : decode b_M_readToken 132 = .ok (.aload_n 0, 1) := by decide +kernel
theorem d_M_readToken_133 : decode b_M_readToken 133 = .ok (.getfield 114, 3) := by decide +kernel
theorem d_M_readToken_136 : decode b_M_readToken 136 = .ok (.iconst 2, 1) := by decide +kernel
theorem d_M_readToken_137 : decode b_M_readToken 137 = .ok (.iadd, 1) := by decide +kernel
theorem d_M_readToken_138 : decode b_M_readToken 138 = .ok (.putfield 114, 3) := by decide +kernel
theorem d_M_readToken_141 : decode b_M_readToken 141 = .ok (.goto 29, 3) := by decide +kernel
theorem d_M_readToken_144 : decode b_M_readToken 144 = .ok (.aload_n 0, 1) := by decide +kernel
theorem d_M_readToken_145 : decode b_M_readToken 145 = .ok (.iload_n 1, 1) := by decide +kernel
theorem d_M_readToken_146 : decode b_M_readToken 146 = .ok (.invokestatic 135, 3) := by decide +kernel
theorem d_M_readToken_149 : decode b_M_readToken 149 = .ok (.ifCond .eq 7, 3) := by decide +kernel
theorem d_M_readToken_152 : decode b_M_readToken 152 = .ok (.iload_n 1, 1) := by decide +kernel
theorem d_M_readToken_153 : decode b_M_readToken 153 = .ok (.goto 4, 3) := by decide +kernel
theorem d_M_readToken_156 : decode b_M_readToken 156 = .ok (.iconst 4, 1) := by decide +kernel
theorem d_M_readToken_157 : decode b_M_readToken 157 = .ok (.putfield 126, 3) := by decide +kernel
theorem d_M_readToken_160 : decode b_M_readToken 160 = .ok (.aload_n 0, 1) := by decide +kernel
theorem d_M_readToken_161 : decode b_M_readToken 161 = .ok (.dup, 1) := by decide +kernel
theorem d_M_readToken_162 : decode b_M_readToken 162 = .ok (.getfield 114, 3) := by decide +kernel
theorem d_M_readToken_165 : decode b_M_readToken 165 = .ok (.iconst 1, 1) := by decide +kernel
theorem d_M_readToken_166 : decode b_M_readToken 166 = .ok (.iadd, 1) := by decide +kernel
theorem d_M_readToken_167 : decode b_M_readToken 167 = .ok (.putfield 114, 3) := by decide +kernel
theorem d_M_readToken_170 : decode b_M_readToken 170 = .ok (.return_, 1) := by decide +kernel
set_option maxHeartbeats 4000000 in
set_option maxRecDepth 100000 in
theorem c_M_readToken (l : Launch) (D : va_G) (cI cJ cB cZ : ClassId) (aM m_text m_paper m_firstHalf m_secondHalf m_stored m_proved m_written m_places m_levelKind m_levelStart m_levelApp m_levelHad m_levelScope m_levelId m_levelFirst m_levelSecond m_scopeFirst m_scopeSecond m_scopeId m_made m_typeOf m_tasks m_todo m_renamed m_bound m_markA m_markB m_line : Nat) (v_thrown v_came v_fault v_place v_papered v_constants v_end v_second v_ids v_nodes v_opens v_levelOpens v_start v_app v_behind v_level v_scope v_top v_left v_waits v_fresh v_changed v_changedTo v_out v_counted v_printed v_questionAt : Int32) (b : Nat → Nat) (ln : Nat) (z0 : Nat) (kd ta : Int32) (fr bk : Int64) (hb : ∀ j, b j < 256) (hz : z0 ≤ ln) (hln : ln ≤ 8192) : Cv l D (tyl cI cJ cB cZ) y_M_readToken b_M_readToken 2 ({ frames := 2, cells := 0, slots := 0, locals := 41 } : Room) [.ref aM] [(aM, .inr (10, [.int v_thrown, .ref m_text, .int (nI ln), .int v_came, .int v_fault, .int v_place, .ref m_paper, .int v_papered, .int v_constants, .ref m_firstHalf, .ref m_secondHalf, .ref m_stored, .ref m_proved, .int (nI z0), .int kd, .int ta, .long fr, .long bk, .ref m_written, .ref m_places, .int v_end, .int v_second, .int v_ids, .int v_nodes, .int v_opens, .int v_levelOpens, .int v_start, .int v_app, .int v_behind, .ref m_levelKind, .ref m_levelStart, .ref m_levelApp, .ref m_levelHad, .ref m_levelScope, .ref m_levelId, .ref m_levelFirst, .ref m_levelSecond, .int v_level, .ref m_scopeFirst, .ref m_scopeSecond, .ref m_scopeId, .int v_scope, .ref m_made, .int v_top, .ref m_typeOf, .ref m_tasks, .int v_left, .ref m_todo, .int v_waits, .ref m_renamed, .ref m_bound, .int v_fresh, .int v_changed, .int v_changedTo, .int v_out, .int v_counted, .ref m_markA, .ref m_markB, .ref m_line, .int v_printed, .int v_questionAt])), (m_text, .inl (cI, 8192, .inl (fun j => nI (b j))))] (fun u => ∃ (st1 : Nat) (nx1 : Nat) (k1 : Nat) (f1 : Int64) (g1 : Int64), (Tok b ln z0 k1 st1 nx1) ∧ ((k1 = 1 → f1 = frR b st1 nx1 ∧ g1 = bkR b st1 nx1)) ∧ u = [(aM, .inr (10, [.int v_thrown, .ref m_text, .int (nI ln), .int v_came, .int v_fault, .int v_place, .ref m_paper, .int v_papered, .int v_constants, .ref m_firstHalf, .ref m_secondHalf, .ref m_stored, .ref m_proved, .int (nI nx1), .int (nI k1), .int (nI st1), .long f1, .long g1, .ref m_written, .ref m_places, .int v_end, .int v_second, .int v_ids, .int v_nodes, .int v_opens, .int v_levelOpens, .int v_start, .int v_app, .int v_behind, .ref m_levelKind, .ref m_levelStart, .ref m_levelApp, .ref m_levelHad, .ref m_levelScope, .ref m_levelId, .ref m_levelFirst, .ref m_levelSecond, .int v_level, .ref m_scopeFirst, .ref m_scopeSecond, .ref m_scopeId, .int v_scope, .ref m_made, .int v_top, .ref m_typeOf, .ref m_tasks, .int v_left, .ref m_todo, .int v_waits, .ref m_renamed, .ref m_bound, .int v_fresh, .int v_changed, .int v_changedTo, .int v_out, .int v_counted, .ref m_markA, .ref m_markB, .ref m_line, .int v_printed, .int v_questionAt])), (m_text, .inl (cI, 8192, .inl (fun j => nI (b j))))]) := by
  refine met_v (own := "ProofReaderModel") (by decide) rfl (Nat.le_of_ble_eq_true rfl) ?_
  intro p e s m args below meth c A Q S hin hA ret ls hl hW
  have hl : lv_has ls 2 [(0, .ref aM)] := hl
  have hW : Wd D (tyl cI cJ cB cZ) A s s.heap s.heap [] [(aM, .inr (10, [.int v_thrown, .ref m_text, .int (nI ln), .int v_came, .int v_fault, .int v_place, .ref m_paper, .int v_papered, .int v_constants, .ref m_firstHalf, .ref m_secondHalf, .ref m_stored, .ref m_proved, .int (nI z0), .int kd, .int ta, .long fr, .long bk, .ref m_written, .ref m_places, .int v_end, .int v_second, .int v_ids, .int v_nodes, .int v_opens, .int v_levelOpens, .int v_start, .int v_app, .int v_behind, .ref m_levelKind, .ref m_levelStart, .ref m_levelApp, .ref m_levelHad, .ref m_levelScope, .ref m_levelId, .ref m_levelFirst, .ref m_levelSecond, .int v_level, .ref m_scopeFirst, .ref m_scopeSecond, .ref m_scopeId, .int v_scope, .ref m_made, .int v_top, .ref m_typeOf, .ref m_tasks, .int v_left, .ref m_todo, .int v_waits, .ref m_renamed, .ref m_bound, .int v_fresh, .int v_changed, .int v_changedTo, .int v_out, .int v_counted, .ref m_markA, .ref m_markB, .ref m_line, .int v_printed, .int v_questionAt])), (m_text, .inl (cI, 8192, .inl (fun j => nI (b j))))] := hW
  have loop_0 : ∀ (nf : Nat) (q : Nat), ln - q < nf → (z0 ≤ q) → (q ≤ ln) → (∀ j, z0 ≤ j → j < q → b j ≤ 32) → ∀ (H : Heap) (locs : List Loc), Wd D (tyl cI cJ cB cZ) A s s.heap H locs [(aM, .inr (10, [.int v_thrown, .ref m_text, .int (nI ln), .int v_came, .int v_fault, .int v_place, .ref m_paper, .int v_papered, .int v_constants, .ref m_firstHalf, .ref m_secondHalf, .ref m_stored, .ref m_proved, .int (nI q), .int kd, .int ta, .long fr, .long bk, .ref m_written, .ref m_places, .int v_end, .int v_second, .int v_ids, .int v_nodes, .int v_opens, .int v_levelOpens, .int v_start, .int v_app, .int v_behind, .ref m_levelKind, .ref m_levelStart, .ref m_levelApp, .ref m_levelHad, .ref m_levelScope, .ref m_levelId, .ref m_levelFirst, .ref m_levelSecond, .int v_level, .ref m_scopeFirst, .ref m_scopeSecond, .ref m_scopeId, .int v_scope, .ref m_made, .int v_top, .ref m_typeOf, .ref m_tasks, .int v_left, .ref m_todo, .int v_waits, .ref m_renamed, .ref m_bound, .int v_fresh, .int v_changed, .int v_changedTo, .int v_out, .int v_counted, .ref m_markA, .ref m_markB, .ref m_line, .int v_printed, .int v_questionAt])), (m_text, .inl (cI, 8192, .inl (fun j => nI (b j))))] → ∀ (ls : Array Slot), lv_has ls 2 [(0, .ref aM)] → W p l e ({ frames := 2, cells := 0, slots := 0, locals := 41 } : Room) s m args below meth c H locs 0 0 Q (F0 m 0 ls []) := by
    intro nf
    induction nf with
    | zero =>
      intros
      omega
    | succ nf ih =>
      intro q hnf hq hq2 hq3 H locs hW ls hl
      refine lv_aload_n S.1 S.2.1 d_M_readToken_0 rfl (lv_at hl 0 rfl) ?_
      refine g_get i_M S hW 0 rfl rfl 13 (by decide) kf_M_114 rfl d_M_readToken_1 ?_
      refine lv_aload_n S.1 S.2.1 d_M_readToken_4 rfl (lv_at hl 0 rfl) ?_
      refine g_get i_M S hW 0 rfl rfl 2 (by decide) kf_M_117 rfl d_M_readToken_5 ?_
      refine n_icmp_ge (tgt := 38) S (by omega) (by omega) d_M_readToken_8 (by decide) (fun c_8 => ?_) (fun c_8 => ?_)
      · have hS : Skp b ln z0 q := ⟨hq, hq2, hq3, by first | (intro a; omega) | (intro _; assumption)⟩
        refine lv_aload_n S.1 S.2.1 d_M_readToken_38 rfl (lv_at hl 0 rfl) ?_
        refine lv_aload_n S.1 S.2.1 d_M_readToken_39 rfl (lv_at hl 0 rfl) ?_
        refine g_get i_M S hW 0 rfl rfl 13 (by decide) kf_M_114 rfl d_M_readToken_40 ?_
        refine g_put (ws2 := [(aM, .inr (10, [.int v_thrown, .ref m_text, .int (nI ln), .int v_came, .int v_fault, .int v_place, .ref m_paper, .int v_papered, .int v_constants, .ref m_firstHalf, .ref m_secondHalf, .ref m_stored, .ref m_proved, .int (nI q), .int kd, .int (nI q), .long fr, .long bk, .ref m_written, .ref m_places, .int v_end, .int v_second, .int v_ids, .int v_nodes, .int v_opens, .int v_levelOpens, .int v_start, .int v_app, .int v_behind, .ref m_levelKind, .ref m_levelStart, .ref m_levelApp, .ref m_levelHad, .ref m_levelScope, .ref m_levelId, .ref m_levelFirst, .ref m_levelSecond, .int v_level, .ref m_scopeFirst, .ref m_scopeSecond, .ref m_scopeId, .int v_scope, .ref m_made, .int v_top, .ref m_typeOf, .ref m_tasks, .int v_left, .ref m_todo, .int v_waits, .ref m_renamed, .ref m_bound, .int v_fresh, .int v_changed, .int v_changedTo, .int v_out, .int v_counted, .ref m_markA, .ref m_markB, .ref m_line, .int v_printed, .int v_questionAt])), (m_text, .inl (cI, 8192, .inl (fun j => nI (b j))))]) i_M ft_M ft_M_ok n_M S hW 0 rfl rfl 15 (by decide) kf_M_129 rfl rfl rfl (Nat.le_of_ble_eq_true rfl) rfl d_M_readToken_43 (fun H locs hW => ?_)
        refine lv_aload_n S.1 S.2.1 d_M_readToken_46 rfl (lv_at hl 0 rfl) ?_
        refine g_get i_M S hW 0 rfl rfl 13 (by decide) kf_M_114 rfl d_M_readToken_47 ?_
        refine lv_aload_n S.1 S.2.1 d_M_readToken_50 rfl (lv_at hl 0 rfl) ?_
        refine g_get i_M S hW 0 rfl rfl 2 (by decide) kf_M_117 rfl d_M_readToken_51 ?_
        refine n_icmp_ne (tgt := 63) S (by omega) (by omega) d_M_readToken_54 (by decide) (fun c_54 => ?_) (fun c_54 => ?_)
        · refine lv_aload_n S.1 S.2.1 d_M_readToken_63 rfl (lv_at hl 0 rfl) ?_
          refine g_get i_M S hW 0 rfl rfl 1 (by decide) kf_M_7 rfl d_M_readToken_64 ?_
          refine lv_aload_n S.1 S.2.1 d_M_readToken_67 rfl (lv_at hl 0 rfl) ?_
          refine g_get i_M S hW 0 rfl rfl 13 (by decide) kf_M_114 rfl d_M_readToken_68 ?_
          refine n_iald S hW 1 0 rfl rfl (by decide) (by omega) d_M_readToken_71 ?_
          refine top_eq (y := nI (b q)) rfl ?_
          have hb2 := hb q
          refine lv_istore_n (lv' := [(1, .int (nI (b q))), (0, .ref aM)]) S.1 S.2.1 d_M_readToken_72 rfl hl (by decide) rfl (fun ls hl => ?_)
          refine lv_iload_n S.1 S.2.1 d_M_readToken_73 rfl (lv_at hl 0 rfl) ?_
          refine callS_i (wr := [(aM, .inr (10, [.int v_thrown, .ref m_text, .int (nI ln), .int v_came, .int v_fault, .int v_place, .ref m_paper, .int v_papered, .int v_constants, .ref m_firstHalf, .ref m_secondHalf, .ref m_stored, .ref m_proved, .int (nI q), .int kd, .int (nI q), .long fr, .long bk, .ref m_written, .ref m_places, .int v_end, .int v_second, .int v_ids, .int v_nodes, .int v_opens, .int v_levelOpens, .int v_start, .int v_app, .int v_behind, .ref m_levelKind, .ref m_levelStart, .ref m_levelApp, .ref m_levelHad, .ref m_levelScope, .ref m_levelId, .ref m_levelFirst, .ref m_levelSecond, .int v_level, .ref m_scopeFirst, .ref m_scopeSecond, .ref m_scopeId, .int v_scope, .ref m_made, .int v_top, .ref m_typeOf, .ref m_tasks, .int v_left, .ref m_todo, .int v_waits, .ref m_renamed, .ref m_bound, .int v_fresh, .int v_changed, .int v_changedTo, .int v_out, .int v_counted, .ref m_markA, .ref m_markB, .ref m_line, .int v_printed, .int v_questionAt])), (m_text, .inl (cI, 8192, .inl (fun j => nI (b j))))]) (wc := []) (np := 1) (As := [.int (nI (b q))]) (rest := []) (c_M_isNamed l D cI cJ cB cZ (b q) (by first | omega | assumption | simp_all)) km_M_120 ks_M_isNamed kz_M kk_M_isNamed (by decide +kernel) S hW hA ⟨Nat.le_of_ble_eq_true rfl, Nat.le_of_ble_eq_true rfl⟩ ⟨Nat.le_of_ble_eq_true rfl, Nat.le_of_ble_eq_true rfl⟩ [] [0, 1] rfl (by decide) rfl (by decide) (by decide) rfl hl.1 rfl (Nat.le_of_ble_eq_true rfl) d_M_readToken_74 (fun r u H locs hp hW => ?_)
          rcases hp with ⟨h_1, rfl, rfl⟩ | ⟨h_2, rfl, rfl⟩
          · have hW : Wd D (tyl cI cJ cB cZ) A s s.heap H locs [(aM, .inr (10, [.int v_thrown, .ref m_text, .int (nI ln), .int v_came, .int v_fault, .int v_place, .ref m_paper, .int v_papered, .int v_constants, .ref m_firstHalf, .ref m_secondHalf, .ref m_stored, .ref m_proved, .int (nI q), .int kd, .int (nI q), .long fr, .long bk, .ref m_written, .ref m_places, .int v_end, .int v_second, .int v_ids, .int v_nodes, .int v_opens, .int v_levelOpens, .int v_start, .int v_app, .int v_behind, .ref m_levelKind, .ref m_levelStart, .ref m_levelApp, .ref m_levelHad, .ref m_levelScope, .ref m_levelId, .ref m_levelFirst, .ref m_levelSecond, .int v_level, .ref m_scopeFirst, .ref m_scopeSecond, .ref m_scopeId, .int v_scope, .ref m_made, .int v_top, .ref m_typeOf, .ref m_tasks, .int v_left, .ref m_todo, .int v_waits, .ref m_renamed, .ref m_bound, .int v_fresh, .int v_changed, .int v_changedTo, .int v_out, .int v_counted, .ref m_markA, .ref m_markB, .ref m_line, .int v_printed, .int v_questionAt])), (m_text, .inl (cI, 8192, .inl (fun j => nI (b j))))] := hW
            have hnm := h_1
            refine lv_if_eq (tgt := 87) S.1 S.2.1 d_M_readToken_77 (by decide) (fun h => absurd h (by decide)) (fun _ => ?_)
            refine lv_aload_n S.1 S.2.1 d_M_readToken_80 rfl (lv_at hl 1 rfl) ?_
            refine callV_v (wr := []) (wc := [(aM, .inr (10, [.int v_thrown, .ref m_text, .int (nI ln), .int v_came, .int v_fault, .int v_place, .ref m_paper, .int v_papered, .int v_constants, .ref m_firstHalf, .ref m_secondHalf, .ref m_stored, .ref m_proved, .int (nI q), .int kd, .int (nI q), .long fr, .long bk, .ref m_written, .ref m_places, .int v_end, .int v_second, .int v_ids, .int v_nodes, .int v_opens, .int v_levelOpens, .int v_start, .int v_app, .int v_behind, .ref m_levelKind, .ref m_levelStart, .ref m_levelApp, .ref m_levelHad, .ref m_levelScope, .ref m_levelId, .ref m_levelFirst, .ref m_levelSecond, .int v_level, .ref m_scopeFirst, .ref m_scopeSecond, .ref m_scopeId, .int v_scope, .ref m_made, .int v_top, .ref m_typeOf, .ref m_tasks, .int v_left, .ref m_todo, .int v_waits, .ref m_renamed, .ref m_bound, .int v_fresh, .int v_changed, .int v_changedTo, .int v_out, .int v_counted, .ref m_markA, .ref m_markB, .ref m_line, .int v_printed, .int v_questionAt])), (m_text, .inl (cI, 8192, .inl (fun j => nI (b j))))]) (np := 0) (As := []) (rest := []) (c_M_readName l D cI cJ cB cZ aM m_text m_paper m_firstHalf m_secondHalf m_stored m_proved m_written m_places m_levelKind m_levelStart m_levelApp m_levelHad m_levelScope m_levelId m_levelFirst m_levelSecond m_scopeFirst m_scopeSecond m_scopeId m_made m_typeOf m_tasks m_todo m_renamed m_bound m_markA m_markB m_line v_thrown v_came v_fault v_place v_papered v_constants v_end v_second v_ids v_nodes v_opens v_levelOpens v_start v_app v_behind v_level v_scope v_top v_left v_waits v_fresh v_changed v_changedTo v_out v_counted v_printed v_questionAt b ln q kd (nI q) fr bk (by first | omega | assumption | simp_all) (by first | omega | assumption | simp_all) (by first | omega | assumption | simp_all)) km_M_132 ki_M_readName kv_M_readName kz_M kk_M_readName (by decide +kernel) S hW hA ⟨Nat.le_of_ble_eq_true rfl, Nat.le_of_ble_eq_true rfl⟩ ⟨Nat.le_of_ble_eq_true rfl, Nat.le_of_ble_eq_true rfl⟩ rfl 0 rfl [0, 1] [] rfl (by decide) rfl (by decide) (by decide) rfl hl.1 rfl (Nat.le_of_ble_eq_true rfl) d_M_readToken_81 (fun u H locs hp hW => ?_)
            obtain ⟨e0_3, k_4, f1_5, g1_6, h_7, h_8, h_9, rfl⟩ := hp
            have hW : Wd D (tyl cI cJ cB cZ) A s s.heap H locs [(aM, .inr (10, [.int v_thrown, .ref m_text, .int (nI ln), .int v_came, .int v_fault, .int v_place, .ref m_paper, .int v_papered, .int v_constants, .ref m_firstHalf, .ref m_secondHalf, .ref m_stored, .ref m_proved, .int (nI e0_3), .int (nI k_4), .int (nI q), .long f1_5, .long g1_6, .ref m_written, .ref m_places, .int v_end, .int v_second, .int v_ids, .int v_nodes, .int v_opens, .int v_levelOpens, .int v_start, .int v_app, .int v_behind, .ref m_levelKind, .ref m_levelStart, .ref m_levelApp, .ref m_levelHad, .ref m_levelScope, .ref m_levelId, .ref m_levelFirst, .ref m_levelSecond, .int v_level, .ref m_scopeFirst, .ref m_scopeSecond, .ref m_scopeId, .int v_scope, .ref m_made, .int v_top, .ref m_typeOf, .ref m_tasks, .int v_left, .ref m_todo, .int v_waits, .ref m_renamed, .ref m_bound, .int v_fresh, .int v_changed, .int v_changedTo, .int v_out, .int v_counted, .ref m_markA, .ref m_markB, .ref m_line, .int v_printed, .int v_questionAt])), (m_text, .inl (cI, 8192, .inl (fun j => nI (b j))))] := hW
            refine lv_goto (tgt := 170) S.1 S.2.1 d_M_readToken_84 (by decide) ?_
            exact ret _ _ _ _ _ d_M_readToken_170 ⟨_, _, _, _, _, ⟨hS, Or.inr (Or.inl ⟨by omega, hnm, h_7, h_8⟩)⟩, h_9, rfl⟩ hW
          · have hW : Wd D (tyl cI cJ cB cZ) A s s.heap H locs [(aM, .inr (10, [.int v_thrown, .ref m_text, .int (nI ln), .int v_came, .int v_fault, .int v_place, .ref m_paper, .int v_papered, .int v_constants, .ref m_firstHalf, .ref m_secondHalf, .ref m_stored, .ref m_proved, .int (nI q), .int kd, .int (nI q), .long fr, .long bk, .ref m_written, .ref m_places, .int v_end, .int v_second, .int v_ids, .int v_nodes, .int v_opens, .int v_levelOpens, .int v_start, .int v_app, .int v_behind, .ref m_levelKind, .ref m_levelStart, .ref m_levelApp, .ref m_levelHad, .ref m_levelScope, .ref m_levelId, .ref m_levelFirst, .ref m_levelSecond, .int v_level, .ref m_scopeFirst, .ref m_scopeSecond, .ref m_scopeId, .int v_scope, .ref m_made, .int v_top, .ref m_typeOf, .ref m_tasks, .int v_left, .ref m_todo, .int v_waits, .ref m_renamed, .ref m_bound, .int v_fresh, .int v_changed, .int v_changedTo, .int v_out, .int v_counted, .ref m_markA, .ref m_markB, .ref m_line, .int v_printed, .int v_questionAt])), (m_text, .inl (cI, 8192, .inl (fun j => nI (b j))))] := hW
            have hnm := h_2
            refine lv_if_eq (tgt := 87) S.1 S.2.1 d_M_readToken_77 (by decide) (fun _ => ?_) (fun h => absurd h (by decide))
            refine lv_iload_n S.1 S.2.1 d_M_readToken_87 rfl (lv_at hl 0 rfl) ?_
            refine lv_bipush (v := (nI 45)) S.1 S.2.1 d_M_readToken_88 (by decide) ?_
            refine n_icmp_ne (tgt := 144) S (by omega) (by omega) d_M_readToken_90 (by decide) (fun c_90 => ?_) (fun c_90 => ?_)
            · refine lv_aload_n S.1 S.2.1 d_M_readToken_144 rfl (lv_at hl 1 rfl) ?_
              refine lv_iload_n S.1 S.2.1 d_M_readToken_145 rfl (lv_at hl 0 rfl) ?_
              refine callS_i (wr := [(aM, .inr (10, [.int v_thrown, .ref m_text, .int (nI ln), .int v_came, .int v_fault, .int v_place, .ref m_paper, .int v_papered, .int v_constants, .ref m_firstHalf, .ref m_secondHalf, .ref m_stored, .ref m_proved, .int (nI q), .int kd, .int (nI q), .long fr, .long bk, .ref m_written, .ref m_places, .int v_end, .int v_second, .int v_ids, .int v_nodes, .int v_opens, .int v_levelOpens, .int v_start, .int v_app, .int v_behind, .ref m_levelKind, .ref m_levelStart, .ref m_levelApp, .ref m_levelHad, .ref m_levelScope, .ref m_levelId, .ref m_levelFirst, .ref m_levelSecond, .int v_level, .ref m_scopeFirst, .ref m_scopeSecond, .ref m_scopeId, .int v_scope, .ref m_made, .int v_top, .ref m_typeOf, .ref m_tasks, .int v_left, .ref m_todo, .int v_waits, .ref m_renamed, .ref m_bound, .int v_fresh, .int v_changed, .int v_changedTo, .int v_out, .int v_counted, .ref m_markA, .ref m_markB, .ref m_line, .int v_printed, .int v_questionAt])), (m_text, .inl (cI, 8192, .inl (fun j => nI (b j))))]) (wc := []) (np := 1) (As := [.int (nI (b q))]) (rest := [.ref aM]) (c_M_isSign l D cI cJ cB cZ (b q) (by first | omega | assumption | simp_all)) km_M_135 ks_M_isSign kz_M kk_M_isSign (by decide +kernel) S hW hA ⟨Nat.le_of_ble_eq_true rfl, Nat.le_of_ble_eq_true rfl⟩ ⟨Nat.le_of_ble_eq_true rfl, Nat.le_of_ble_eq_true rfl⟩ [] [0, 1] rfl (by decide) rfl (by decide) (by decide) rfl hl.1 rfl (Nat.le_of_ble_eq_true rfl) d_M_readToken_146 (fun r u H locs hp hW => ?_)
              rcases hp with ⟨h_10, rfl, rfl⟩ | ⟨h_11, rfl, rfl⟩
              · have hW : Wd D (tyl cI cJ cB cZ) A s s.heap H locs [(aM, .inr (10, [.int v_thrown, .ref m_text, .int (nI ln), .int v_came, .int v_fault, .int v_place, .ref m_paper, .int v_papered, .int v_constants, .ref m_firstHalf, .ref m_secondHalf, .ref m_stored, .ref m_proved, .int (nI q), .int kd, .int (nI q), .long fr, .long bk, .ref m_written, .ref m_places, .int v_end, .int v_second, .int v_ids, .int v_nodes, .int v_opens, .int v_levelOpens, .int v_start, .int v_app, .int v_behind, .ref m_levelKind, .ref m_levelStart, .ref m_levelApp, .ref m_levelHad, .ref m_levelScope, .ref m_levelId, .ref m_levelFirst, .ref m_levelSecond, .int v_level, .ref m_scopeFirst, .ref m_scopeSecond, .ref m_scopeId, .int v_scope, .ref m_made, .int v_top, .ref m_typeOf, .ref m_tasks, .int v_left, .ref m_todo, .int v_waits, .ref m_renamed, .ref m_bound, .int v_fresh, .int v_changed, .int v_changedTo, .int v_out, .int v_counted, .ref m_markA, .ref m_markB, .ref m_line, .int v_printed, .int v_questionAt])), (m_text, .inl (cI, 8192, .inl (fun j => nI (b j))))] := hW
                have hsg := h_10
                refine lv_if_eq (tgt := 156) S.1 S.2.1 d_M_readToken_149 (by decide) (fun h => absurd h (by decide)) (fun _ => ?_)
                refine lv_iload_n S.1 S.2.1 d_M_readToken_152 rfl (lv_at hl 0 rfl) ?_
                refine lv_goto (tgt := 157) S.1 S.2.1 d_M_readToken_153 (by decide) ?_
                refine g_put (ws2 := [(aM, .inr (10, [.int v_thrown, .ref m_text, .int (nI ln), .int v_came, .int v_fault, .int v_place, .ref m_paper, .int v_papered, .int v_constants, .ref m_firstHalf, .ref m_secondHalf, .ref m_stored, .ref m_proved, .int (nI q), .int (nI (b q)), .int (nI q), .long fr, .long bk, .ref m_written, .ref m_places, .int v_end, .int v_second, .int v_ids, .int v_nodes, .int v_opens, .int v_levelOpens, .int v_start, .int v_app, .int v_behind, .ref m_levelKind, .ref m_levelStart, .ref m_levelApp, .ref m_levelHad, .ref m_levelScope, .ref m_levelId, .ref m_levelFirst, .ref m_levelSecond, .int v_level, .ref m_scopeFirst, .ref m_scopeSecond, .ref m_scopeId, .int v_scope, .ref m_made, .int v_top, .ref m_typeOf, .ref m_tasks, .int v_left, .ref m_todo, .int v_waits, .ref m_renamed, .ref m_bound, .int v_fresh, .int v_changed, .int v_changedTo, .int v_out, .int v_counted, .ref m_markA, .ref m_markB, .ref m_line, .int v_printed, .int v_questionAt])), (m_text, .inl (cI, 8192, .inl (fun j => nI (b j))))]) i_M ft_M ft_M_ok n_M S hW 0 rfl rfl 14 (by decide) kf_M_126 rfl rfl rfl (Nat.le_of_ble_eq_true rfl) rfl d_M_readToken_157 (fun H locs hW => ?_)
                refine lv_aload_n S.1 S.2.1 d_M_readToken_160 rfl (lv_at hl 1 rfl) ?_
                refine lv_dup S.1 S.2.1 d_M_readToken_161 rfl ?_
                refine g_get i_M S hW 0 rfl rfl 13 (by decide) kf_M_114 rfl d_M_readToken_162 ?_
                refine lv_iconst (v := (nI 1)) S.1 S.2.1 d_M_readToken_165 (by decide) ?_
                refine n_iadd S d_M_readToken_166 ?_
                refine g_put (ws2 := [(aM, .inr (10, [.int v_thrown, .ref m_text, .int (nI ln), .int v_came, .int v_fault, .int v_place, .ref m_paper, .int v_papered, .int v_constants, .ref m_firstHalf, .ref m_secondHalf, .ref m_stored, .ref m_proved, .int (nI (q + 1)), .int (nI (b q)), .int (nI q), .long fr, .long bk, .ref m_written, .ref m_places, .int v_end, .int v_second, .int v_ids, .int v_nodes, .int v_opens, .int v_levelOpens, .int v_start, .int v_app, .int v_behind, .ref m_levelKind, .ref m_levelStart, .ref m_levelApp, .ref m_levelHad, .ref m_levelScope, .ref m_levelId, .ref m_levelFirst, .ref m_levelSecond, .int v_level, .ref m_scopeFirst, .ref m_scopeSecond, .ref m_scopeId, .int v_scope, .ref m_made, .int v_top, .ref m_typeOf, .ref m_tasks, .int v_left, .ref m_todo, .int v_waits, .ref m_renamed, .ref m_bound, .int v_fresh, .int v_changed, .int v_changedTo, .int v_out, .int v_counted, .ref m_markA, .ref m_markB, .ref m_line, .int v_printed, .int v_questionAt])), (m_text, .inl (cI, 8192, .inl (fun j => nI (b j))))]) i_M ft_M ft_M_ok n_M S hW 0 rfl rfl 13 (by decide) kf_M_114 rfl rfl rfl (Nat.le_of_ble_eq_true rfl) rfl d_M_readToken_167 (fun H locs hW => ?_)
                exact ret _ _ _ _ _ d_M_readToken_170 ⟨_, _, _, _, _, ⟨hS, Or.inr (Or.inr (Or.inr ⟨by omega, hnm, c_90, rfl, Or.inl ⟨hsg, rfl⟩⟩))⟩, (fun h => by rw [h] at hsg; unfold isSg at hsg; omega), rfl⟩ hW
              · have hW : Wd D (tyl cI cJ cB cZ) A s s.heap H locs [(aM, .inr (10, [.int v_thrown, .ref m_text, .int (nI ln), .int v_came, .int v_fault, .int v_place, .ref m_paper, .int v_papered, .int v_constants, .ref m_firstHalf, .ref m_secondHalf, .ref m_stored, .ref m_proved, .int (nI q), .int kd, .int (nI q), .long fr, .long bk, .ref m_written, .ref m_places, .int v_end, .int v_second, .int v_ids, .int v_nodes, .int v_opens, .int v_levelOpens, .int v_start, .int v_app, .int v_behind, .ref m_levelKind, .ref m_levelStart, .ref m_levelApp, .ref m_levelHad, .ref m_levelScope, .ref m_levelId, .ref m_levelFirst, .ref m_levelSecond, .int v_level, .ref m_scopeFirst, .ref m_scopeSecond, .ref m_scopeId, .int v_scope, .ref m_made, .int v_top, .ref m_typeOf, .ref m_tasks, .int v_left, .ref m_todo, .int v_waits, .ref m_renamed, .ref m_bound, .int v_fresh, .int v_changed, .int v_changedTo, .int v_out, .int v_counted, .ref m_markA, .ref m_markB, .ref m_line, .int v_printed, .int v_questionAt])), (m_text, .inl (cI, 8192, .inl (fun j => nI (b j))))] := hW
                have hsg := h_11
                refine lv_if_eq (tgt := 156) S.1 S.2.1 d_M_readToken_149 (by decide) (fun _ => ?_) (fun h => absurd h (by decide))
                refine lv_iconst (v := (nI 4)) S.1 S.2.1 d_M_readToken_156 (by decide) ?_
                refine g_put (ws2 := [(aM, .inr (10, [.int v_thrown, .ref m_text, .int (nI ln), .int v_came, .int v_fault, .int v_place, .ref m_paper, .int v_papered, .int v_constants, .ref m_firstHalf, .ref m_secondHalf, .ref m_stored, .ref m_proved, .int (nI q), .int (nI 4), .int (nI q), .long fr, .long bk, .ref m_written, .ref m_places, .int v_end, .int v_second, .int v_ids, .int v_nodes, .int v_opens, .int v_levelOpens, .int v_start, .int v_app, .int v_behind, .ref m_levelKind, .ref m_levelStart, .ref m_levelApp, .ref m_levelHad, .ref m_levelScope, .ref m_levelId, .ref m_levelFirst, .ref m_levelSecond, .int v_level, .ref m_scopeFirst, .ref m_scopeSecond, .ref m_scopeId, .int v_scope, .ref m_made, .int v_top, .ref m_typeOf, .ref m_tasks, .int v_left, .ref m_todo, .int v_waits, .ref m_renamed, .ref m_bound, .int v_fresh, .int v_changed, .int v_changedTo, .int v_out, .int v_counted, .ref m_markA, .ref m_markB, .ref m_line, .int v_printed, .int v_questionAt])), (m_text, .inl (cI, 8192, .inl (fun j => nI (b j))))]) i_M ft_M ft_M_ok n_M S hW 0 rfl rfl 14 (by decide) kf_M_126 rfl rfl rfl (Nat.le_of_ble_eq_true rfl) rfl d_M_readToken_157 (fun H locs hW => ?_)
                refine lv_aload_n S.1 S.2.1 d_M_readToken_160 rfl (lv_at hl 1 rfl) ?_
                refine lv_dup S.1 S.2.1 d_M_readToken_161 rfl ?_
                refine g_get i_M S hW 0 rfl rfl 13 (by decide) kf_M_114 rfl d_M_readToken_162 ?_
                refine lv_iconst (v := (nI 1)) S.1 S.2.1 d_M_readToken_165 (by decide) ?_
                refine n_iadd S d_M_readToken_166 ?_
                refine g_put (ws2 := [(aM, .inr (10, [.int v_thrown, .ref m_text, .int (nI ln), .int v_came, .int v_fault, .int v_place, .ref m_paper, .int v_papered, .int v_constants, .ref m_firstHalf, .ref m_secondHalf, .ref m_stored, .ref m_proved, .int (nI (q + 1)), .int (nI 4), .int (nI q), .long fr, .long bk, .ref m_written, .ref m_places, .int v_end, .int v_second, .int v_ids, .int v_nodes, .int v_opens, .int v_levelOpens, .int v_start, .int v_app, .int v_behind, .ref m_levelKind, .ref m_levelStart, .ref m_levelApp, .ref m_levelHad, .ref m_levelScope, .ref m_levelId, .ref m_levelFirst, .ref m_levelSecond, .int v_level, .ref m_scopeFirst, .ref m_scopeSecond, .ref m_scopeId, .int v_scope, .ref m_made, .int v_top, .ref m_typeOf, .ref m_tasks, .int v_left, .ref m_todo, .int v_waits, .ref m_renamed, .ref m_bound, .int v_fresh, .int v_changed, .int v_changedTo, .int v_out, .int v_counted, .ref m_markA, .ref m_markB, .ref m_line, .int v_printed, .int v_questionAt])), (m_text, .inl (cI, 8192, .inl (fun j => nI (b j))))]) i_M ft_M ft_M_ok n_M S hW 0 rfl rfl 13 (by decide) kf_M_114 rfl rfl rfl (Nat.le_of_ble_eq_true rfl) rfl d_M_readToken_167 (fun H locs hW => ?_)
                exact ret _ _ _ _ _ d_M_readToken_170 ⟨_, _, _, _, _, ⟨hS, Or.inr (Or.inr (Or.inr ⟨by omega, hnm, c_90, rfl, Or.inr ⟨hsg, rfl⟩⟩))⟩, (fun h => by cases h), rfl⟩ hW
            · have hb3 := hb (q + 1)
              refine lv_aload_n S.1 S.2.1 d_M_readToken_93 rfl (lv_at hl 1 rfl) ?_
              refine lv_aload_n S.1 S.2.1 d_M_readToken_94 rfl (lv_at hl 1 rfl) ?_
              refine g_get i_M S hW 0 rfl rfl 13 (by decide) kf_M_114 rfl d_M_readToken_95 ?_
              refine lv_iconst (v := (nI 1)) S.1 S.2.1 d_M_readToken_98 (by decide) ?_
              refine n_iadd S d_M_readToken_99 ?_
              refine lv_aload_n S.1 S.2.1 d_M_readToken_100 rfl (lv_at hl 1 rfl) ?_
              refine g_get i_M S hW 0 rfl rfl 2 (by decide) kf_M_117 rfl d_M_readToken_101 ?_
              refine n_icmp_ge (tgt := 127) S (by omega) (by omega) d_M_readToken_104 (by decide) (fun c_104 => ?_) (fun c_104 => ?_)
              · refine lv_iconst (v := (nI 4)) S.1 S.2.1 d_M_readToken_127 (by decide) ?_
                refine g_put (ws2 := [(aM, .inr (10, [.int v_thrown, .ref m_text, .int (nI ln), .int v_came, .int v_fault, .int v_place, .ref m_paper, .int v_papered, .int v_constants, .ref m_firstHalf, .ref m_secondHalf, .ref m_stored, .ref m_proved, .int (nI q), .int (nI 4), .int (nI q), .long fr, .long bk, .ref m_written, .ref m_places, .int v_end, .int v_second, .int v_ids, .int v_nodes, .int v_opens, .int v_levelOpens, .int v_start, .int v_app, .int v_behind, .ref m_levelKind, .ref m_levelStart, .ref m_levelApp, .ref m_levelHad, .ref m_levelScope, .ref m_levelId, .ref m_levelFirst, .ref m_levelSecond, .int v_level, .ref m_scopeFirst, .ref m_scopeSecond, .ref m_scopeId, .int v_scope, .ref m_made, .int v_top, .ref m_typeOf, .ref m_tasks, .int v_left, .ref m_todo, .int v_waits, .ref m_renamed, .ref m_bound, .int v_fresh, .int v_changed, .int v_changedTo, .int v_out, .int v_counted, .ref m_markA, .ref m_markB, .ref m_line, .int v_printed, .int v_questionAt])), (m_text, .inl (cI, 8192, .inl (fun j => nI (b j))))]) i_M ft_M ft_M_ok n_M S hW 0 rfl rfl 14 (by decide) kf_M_126 rfl rfl rfl (Nat.le_of_ble_eq_true rfl) rfl d_M_readToken_128 (fun H locs hW => ?_)
                refine lv_aload_n S.1 S.2.1 d_M_readToken_131 rfl (lv_at hl 1 rfl) ?_
                refine lv_aload_n S.1 S.2.1 d_M_readToken_132 rfl (lv_at hl 1 rfl) ?_
                refine g_get i_M S hW 0 rfl rfl 13 (by decide) kf_M_114 rfl d_M_readToken_133 ?_
                refine lv_iconst (v := (nI 2)) S.1 S.2.1 d_M_readToken_136 (by decide) ?_
                refine n_iadd S d_M_readToken_137 ?_
                refine g_put (ws2 := [(aM, .inr (10, [.int v_thrown, .ref m_text, .int (nI ln), .int v_came, .int v_fault, .int v_place, .ref m_paper, .int v_papered, .int v_constants, .ref m_firstHalf, .ref m_secondHalf, .ref m_stored, .ref m_proved, .int (nI (q + 2)), .int (nI 4), .int (nI q), .long fr, .long bk, .ref m_written, .ref m_places, .int v_end, .int v_second, .int v_ids, .int v_nodes, .int v_opens, .int v_levelOpens, .int v_start, .int v_app, .int v_behind, .ref m_levelKind, .ref m_levelStart, .ref m_levelApp, .ref m_levelHad, .ref m_levelScope, .ref m_levelId, .ref m_levelFirst, .ref m_levelSecond, .int v_level, .ref m_scopeFirst, .ref m_scopeSecond, .ref m_scopeId, .int v_scope, .ref m_made, .int v_top, .ref m_typeOf, .ref m_tasks, .int v_left, .ref m_todo, .int v_waits, .ref m_renamed, .ref m_bound, .int v_fresh, .int v_changed, .int v_changedTo, .int v_out, .int v_counted, .ref m_markA, .ref m_markB, .ref m_line, .int v_printed, .int v_questionAt])), (m_text, .inl (cI, 8192, .inl (fun j => nI (b j))))]) i_M ft_M ft_M_ok n_M S hW 0 rfl rfl 13 (by decide) kf_M_114 rfl rfl rfl (Nat.le_of_ble_eq_true rfl) rfl d_M_readToken_138 (fun H locs hW => ?_)
                refine lv_goto (tgt := 170) S.1 S.2.1 d_M_readToken_141 (by decide) ?_
                exact ret _ _ _ _ _ d_M_readToken_170 ⟨_, _, _, _, _, ⟨hS, Or.inr (Or.inr (Or.inl ⟨by omega, c_90, rfl, Or.inr ⟨(by first | (rintro ⟨a1, a2⟩; omega) | (rintro ⟨a1, a2⟩; exact c_120 a2)), rfl⟩⟩))⟩, (fun h => by cases h), rfl⟩ hW
              · refine lv_aload_n S.1 S.2.1 d_M_readToken_107 rfl (lv_at hl 1 rfl) ?_
                refine g_get i_M S hW 0 rfl rfl 1 (by decide) kf_M_7 rfl d_M_readToken_108 ?_
                refine lv_aload_n S.1 S.2.1 d_M_readToken_111 rfl (lv_at hl 1 rfl) ?_
                refine g_get i_M S hW 0 rfl rfl 13 (by decide) kf_M_114 rfl d_M_readToken_112 ?_
                refine lv_iconst (v := (nI 1)) S.1 S.2.1 d_M_readToken_115 (by decide) ?_
                refine n_iadd S d_M_readToken_116 ?_
                refine n_iald S hW 1 0 rfl rfl (by decide) (by omega) d_M_readToken_117 ?_
                refine top_eq (y := nI (b (q + 1))) rfl ?_
                refine lv_bipush (v := (nI 62)) S.1 S.2.1 d_M_readToken_118 (by decide) ?_
                refine n_icmp_ne (tgt := 127) S (by omega) (by omega) d_M_readToken_120 (by decide) (fun c_120 => ?_) (fun c_120 => ?_)
                · refine lv_iconst (v := (nI 4)) S.1 S.2.1 d_M_readToken_127 (by decide) ?_
                  refine g_put (ws2 := [(aM, .inr (10, [.int v_thrown, .ref m_text, .int (nI ln), .int v_came, .int v_fault, .int v_place, .ref m_paper, .int v_papered, .int v_constants, .ref m_firstHalf, .ref m_secondHalf, .ref m_stored, .ref m_proved, .int (nI q), .int (nI 4), .int (nI q), .long fr, .long bk, .ref m_written, .ref m_places, .int v_end, .int v_second, .int v_ids, .int v_nodes, .int v_opens, .int v_levelOpens, .int v_start, .int v_app, .int v_behind, .ref m_levelKind, .ref m_levelStart, .ref m_levelApp, .ref m_levelHad, .ref m_levelScope, .ref m_levelId, .ref m_levelFirst, .ref m_levelSecond, .int v_level, .ref m_scopeFirst, .ref m_scopeSecond, .ref m_scopeId, .int v_scope, .ref m_made, .int v_top, .ref m_typeOf, .ref m_tasks, .int v_left, .ref m_todo, .int v_waits, .ref m_renamed, .ref m_bound, .int v_fresh, .int v_changed, .int v_changedTo, .int v_out, .int v_counted, .ref m_markA, .ref m_markB, .ref m_line, .int v_printed, .int v_questionAt])), (m_text, .inl (cI, 8192, .inl (fun j => nI (b j))))]) i_M ft_M ft_M_ok n_M S hW 0 rfl rfl 14 (by decide) kf_M_126 rfl rfl rfl (Nat.le_of_ble_eq_true rfl) rfl d_M_readToken_128 (fun H locs hW => ?_)
                  refine lv_aload_n S.1 S.2.1 d_M_readToken_131 rfl (lv_at hl 1 rfl) ?_
                  refine lv_aload_n S.1 S.2.1 d_M_readToken_132 rfl (lv_at hl 1 rfl) ?_
                  refine g_get i_M S hW 0 rfl rfl 13 (by decide) kf_M_114 rfl d_M_readToken_133 ?_
                  refine lv_iconst (v := (nI 2)) S.1 S.2.1 d_M_readToken_136 (by decide) ?_
                  refine n_iadd S d_M_readToken_137 ?_
                  refine g_put (ws2 := [(aM, .inr (10, [.int v_thrown, .ref m_text, .int (nI ln), .int v_came, .int v_fault, .int v_place, .ref m_paper, .int v_papered, .int v_constants, .ref m_firstHalf, .ref m_secondHalf, .ref m_stored, .ref m_proved, .int (nI (q + 2)), .int (nI 4), .int (nI q), .long fr, .long bk, .ref m_written, .ref m_places, .int v_end, .int v_second, .int v_ids, .int v_nodes, .int v_opens, .int v_levelOpens, .int v_start, .int v_app, .int v_behind, .ref m_levelKind, .ref m_levelStart, .ref m_levelApp, .ref m_levelHad, .ref m_levelScope, .ref m_levelId, .ref m_levelFirst, .ref m_levelSecond, .int v_level, .ref m_scopeFirst, .ref m_scopeSecond, .ref m_scopeId, .int v_scope, .ref m_made, .int v_top, .ref m_typeOf, .ref m_tasks, .int v_left, .ref m_todo, .int v_waits, .ref m_renamed, .ref m_bound, .int v_fresh, .int v_changed, .int v_changedTo, .int v_out, .int v_counted, .ref m_markA, .ref m_markB, .ref m_line, .int v_printed, .int v_questionAt])), (m_text, .inl (cI, 8192, .inl (fun j => nI (b j))))]) i_M ft_M ft_M_ok n_M S hW 0 rfl rfl 13 (by decide) kf_M_114 rfl rfl rfl (Nat.le_of_ble_eq_true rfl) rfl d_M_readToken_138 (fun H locs hW => ?_)
                  refine lv_goto (tgt := 170) S.1 S.2.1 d_M_readToken_141 (by decide) ?_
                  exact ret _ _ _ _ _ d_M_readToken_170 ⟨_, _, _, _, _, ⟨hS, Or.inr (Or.inr (Or.inl ⟨by omega, c_90, rfl, Or.inr ⟨(by first | (rintro ⟨a1, a2⟩; omega) | (rintro ⟨a1, a2⟩; exact c_120 a2)), rfl⟩⟩))⟩, (fun h => by cases h), rfl⟩ hW
                · refine lv_iconst (v := (nI 3)) S.1 S.2.1 d_M_readToken_123 (by decide) ?_
                  refine lv_goto (tgt := 128) S.1 S.2.1 d_M_readToken_124 (by decide) ?_
                  refine g_put (ws2 := [(aM, .inr (10, [.int v_thrown, .ref m_text, .int (nI ln), .int v_came, .int v_fault, .int v_place, .ref m_paper, .int v_papered, .int v_constants, .ref m_firstHalf, .ref m_secondHalf, .ref m_stored, .ref m_proved, .int (nI q), .int (nI 3), .int (nI q), .long fr, .long bk, .ref m_written, .ref m_places, .int v_end, .int v_second, .int v_ids, .int v_nodes, .int v_opens, .int v_levelOpens, .int v_start, .int v_app, .int v_behind, .ref m_levelKind, .ref m_levelStart, .ref m_levelApp, .ref m_levelHad, .ref m_levelScope, .ref m_levelId, .ref m_levelFirst, .ref m_levelSecond, .int v_level, .ref m_scopeFirst, .ref m_scopeSecond, .ref m_scopeId, .int v_scope, .ref m_made, .int v_top, .ref m_typeOf, .ref m_tasks, .int v_left, .ref m_todo, .int v_waits, .ref m_renamed, .ref m_bound, .int v_fresh, .int v_changed, .int v_changedTo, .int v_out, .int v_counted, .ref m_markA, .ref m_markB, .ref m_line, .int v_printed, .int v_questionAt])), (m_text, .inl (cI, 8192, .inl (fun j => nI (b j))))]) i_M ft_M ft_M_ok n_M S hW 0 rfl rfl 14 (by decide) kf_M_126 rfl rfl rfl (Nat.le_of_ble_eq_true rfl) rfl d_M_readToken_128 (fun H locs hW => ?_)
                  refine lv_aload_n S.1 S.2.1 d_M_readToken_131 rfl (lv_at hl 1 rfl) ?_
                  refine lv_aload_n S.1 S.2.1 d_M_readToken_132 rfl (lv_at hl 1 rfl) ?_
                  refine g_get i_M S hW 0 rfl rfl 13 (by decide) kf_M_114 rfl d_M_readToken_133 ?_
                  refine lv_iconst (v := (nI 2)) S.1 S.2.1 d_M_readToken_136 (by decide) ?_
                  refine n_iadd S d_M_readToken_137 ?_
                  refine g_put (ws2 := [(aM, .inr (10, [.int v_thrown, .ref m_text, .int (nI ln), .int v_came, .int v_fault, .int v_place, .ref m_paper, .int v_papered, .int v_constants, .ref m_firstHalf, .ref m_secondHalf, .ref m_stored, .ref m_proved, .int (nI (q + 2)), .int (nI 3), .int (nI q), .long fr, .long bk, .ref m_written, .ref m_places, .int v_end, .int v_second, .int v_ids, .int v_nodes, .int v_opens, .int v_levelOpens, .int v_start, .int v_app, .int v_behind, .ref m_levelKind, .ref m_levelStart, .ref m_levelApp, .ref m_levelHad, .ref m_levelScope, .ref m_levelId, .ref m_levelFirst, .ref m_levelSecond, .int v_level, .ref m_scopeFirst, .ref m_scopeSecond, .ref m_scopeId, .int v_scope, .ref m_made, .int v_top, .ref m_typeOf, .ref m_tasks, .int v_left, .ref m_todo, .int v_waits, .ref m_renamed, .ref m_bound, .int v_fresh, .int v_changed, .int v_changedTo, .int v_out, .int v_counted, .ref m_markA, .ref m_markB, .ref m_line, .int v_printed, .int v_questionAt])), (m_text, .inl (cI, 8192, .inl (fun j => nI (b j))))]) i_M ft_M ft_M_ok n_M S hW 0 rfl rfl 13 (by decide) kf_M_114 rfl rfl rfl (Nat.le_of_ble_eq_true rfl) rfl d_M_readToken_138 (fun H locs hW => ?_)
                  refine lv_goto (tgt := 170) S.1 S.2.1 d_M_readToken_141 (by decide) ?_
                  exact ret _ _ _ _ _ d_M_readToken_170 ⟨_, _, _, _, _, ⟨hS, Or.inr (Or.inr (Or.inl ⟨by omega, c_90, rfl, Or.inl ⟨c_104, c_120, rfl⟩⟩))⟩, (fun h => by cases h), rfl⟩ hW
        · refine lv_aload_n S.1 S.2.1 d_M_readToken_57 rfl (lv_at hl 0 rfl) ?_
          refine lv_iconst (v := (nI 0)) S.1 S.2.1 d_M_readToken_58 (by decide) ?_
          refine g_put (ws2 := [(aM, .inr (10, [.int v_thrown, .ref m_text, .int (nI ln), .int v_came, .int v_fault, .int v_place, .ref m_paper, .int v_papered, .int v_constants, .ref m_firstHalf, .ref m_secondHalf, .ref m_stored, .ref m_proved, .int (nI q), .int (nI 0), .int (nI q), .long fr, .long bk, .ref m_written, .ref m_places, .int v_end, .int v_second, .int v_ids, .int v_nodes, .int v_opens, .int v_levelOpens, .int v_start, .int v_app, .int v_behind, .ref m_levelKind, .ref m_levelStart, .ref m_levelApp, .ref m_levelHad, .ref m_levelScope, .ref m_levelId, .ref m_levelFirst, .ref m_levelSecond, .int v_level, .ref m_scopeFirst, .ref m_scopeSecond, .ref m_scopeId, .int v_scope, .ref m_made, .int v_top, .ref m_typeOf, .ref m_tasks, .int v_left, .ref m_todo, .int v_waits, .ref m_renamed, .ref m_bound, .int v_fresh, .int v_changed, .int v_changedTo, .int v_out, .int v_counted, .ref m_markA, .ref m_markB, .ref m_line, .int v_printed, .int v_questionAt])), (m_text, .inl (cI, 8192, .inl (fun j => nI (b j))))]) i_M ft_M ft_M_ok n_M S hW 0 rfl rfl 14 (by decide) kf_M_126 rfl rfl rfl (Nat.le_of_ble_eq_true rfl) rfl d_M_readToken_59 (fun H locs hW => ?_)
          exact ret _ _ _ _ _ d_M_readToken_62 ⟨_, _, _, _, _, ⟨hS, Or.inl ⟨c_54, rfl, c_54⟩⟩, (fun h => by cases h), rfl⟩ hW
      · refine lv_aload_n S.1 S.2.1 d_M_readToken_11 rfl (lv_at hl 0 rfl) ?_
        refine g_get i_M S hW 0 rfl rfl 1 (by decide) kf_M_7 rfl d_M_readToken_12 ?_
        refine lv_aload_n S.1 S.2.1 d_M_readToken_15 rfl (lv_at hl 0 rfl) ?_
        refine g_get i_M S hW 0 rfl rfl 13 (by decide) kf_M_114 rfl d_M_readToken_16 ?_
        refine n_iald S hW 1 0 rfl rfl (by decide) (by omega) d_M_readToken_19 ?_
        refine top_eq (y := nI (b q)) rfl ?_
        have hb1 := hb q
        refine lv_bipush (v := (nI 32)) S.1 S.2.1 d_M_readToken_20 (by decide) ?_
        refine n_icmp_gt (tgt := 38) S (by omega) (by omega) d_M_readToken_22 (by decide) (fun c_22 => ?_) (fun c_22 => ?_)
        · have hS : Skp b ln z0 q := ⟨hq, hq2, hq3, by first | (intro a; omega) | (intro _; assumption)⟩
          refine lv_aload_n S.1 S.2.1 d_M_readToken_38 rfl (lv_at hl 0 rfl) ?_
          refine lv_aload_n S.1 S.2.1 d_M_readToken_39 rfl (lv_at hl 0 rfl) ?_
          refine g_get i_M S hW 0 rfl rfl 13 (by decide) kf_M_114 rfl d_M_readToken_40 ?_
          refine g_put (ws2 := [(aM, .inr (10, [.int v_thrown, .ref m_text, .int (nI ln), .int v_came, .int v_fault, .int v_place, .ref m_paper, .int v_papered, .int v_constants, .ref m_firstHalf, .ref m_secondHalf, .ref m_stored, .ref m_proved, .int (nI q), .int kd, .int (nI q), .long fr, .long bk, .ref m_written, .ref m_places, .int v_end, .int v_second, .int v_ids, .int v_nodes, .int v_opens, .int v_levelOpens, .int v_start, .int v_app, .int v_behind, .ref m_levelKind, .ref m_levelStart, .ref m_levelApp, .ref m_levelHad, .ref m_levelScope, .ref m_levelId, .ref m_levelFirst, .ref m_levelSecond, .int v_level, .ref m_scopeFirst, .ref m_scopeSecond, .ref m_scopeId, .int v_scope, .ref m_made, .int v_top, .ref m_typeOf, .ref m_tasks, .int v_left, .ref m_todo, .int v_waits, .ref m_renamed, .ref m_bound, .int v_fresh, .int v_changed, .int v_changedTo, .int v_out, .int v_counted, .ref m_markA, .ref m_markB, .ref m_line, .int v_printed, .int v_questionAt])), (m_text, .inl (cI, 8192, .inl (fun j => nI (b j))))]) i_M ft_M ft_M_ok n_M S hW 0 rfl rfl 15 (by decide) kf_M_129 rfl rfl rfl (Nat.le_of_ble_eq_true rfl) rfl d_M_readToken_43 (fun H locs hW => ?_)
          refine lv_aload_n S.1 S.2.1 d_M_readToken_46 rfl (lv_at hl 0 rfl) ?_
          refine g_get i_M S hW 0 rfl rfl 13 (by decide) kf_M_114 rfl d_M_readToken_47 ?_
          refine lv_aload_n S.1 S.2.1 d_M_readToken_50 rfl (lv_at hl 0 rfl) ?_
          refine g_get i_M S hW 0 rfl rfl 2 (by decide) kf_M_117 rfl d_M_readToken_51 ?_
          refine n_icmp_ne (tgt := 63) S (by omega) (by omega) d_M_readToken_54 (by decide) (fun c_54 => ?_) (fun c_54 => ?_)
          · refine lv_aload_n S.1 S.2.1 d_M_readToken_63 rfl (lv_at hl 0 rfl) ?_
            refine g_get i_M S hW 0 rfl rfl 1 (by decide) kf_M_7 rfl d_M_readToken_64 ?_
            refine lv_aload_n S.1 S.2.1 d_M_readToken_67 rfl (lv_at hl 0 rfl) ?_
            refine g_get i_M S hW 0 rfl rfl 13 (by decide) kf_M_114 rfl d_M_readToken_68 ?_
            refine n_iald S hW 1 0 rfl rfl (by decide) (by omega) d_M_readToken_71 ?_
            refine top_eq (y := nI (b q)) rfl ?_
            have hb2 := hb q
            refine lv_istore_n (lv' := [(1, .int (nI (b q))), (0, .ref aM)]) S.1 S.2.1 d_M_readToken_72 rfl hl (by decide) rfl (fun ls hl => ?_)
            refine lv_iload_n S.1 S.2.1 d_M_readToken_73 rfl (lv_at hl 0 rfl) ?_
            refine callS_i (wr := [(aM, .inr (10, [.int v_thrown, .ref m_text, .int (nI ln), .int v_came, .int v_fault, .int v_place, .ref m_paper, .int v_papered, .int v_constants, .ref m_firstHalf, .ref m_secondHalf, .ref m_stored, .ref m_proved, .int (nI q), .int kd, .int (nI q), .long fr, .long bk, .ref m_written, .ref m_places, .int v_end, .int v_second, .int v_ids, .int v_nodes, .int v_opens, .int v_levelOpens, .int v_start, .int v_app, .int v_behind, .ref m_levelKind, .ref m_levelStart, .ref m_levelApp, .ref m_levelHad, .ref m_levelScope, .ref m_levelId, .ref m_levelFirst, .ref m_levelSecond, .int v_level, .ref m_scopeFirst, .ref m_scopeSecond, .ref m_scopeId, .int v_scope, .ref m_made, .int v_top, .ref m_typeOf, .ref m_tasks, .int v_left, .ref m_todo, .int v_waits, .ref m_renamed, .ref m_bound, .int v_fresh, .int v_changed, .int v_changedTo, .int v_out, .int v_counted, .ref m_markA, .ref m_markB, .ref m_line, .int v_printed, .int v_questionAt])), (m_text, .inl (cI, 8192, .inl (fun j => nI (b j))))]) (wc := []) (np := 1) (As := [.int (nI (b q))]) (rest := []) (c_M_isNamed l D cI cJ cB cZ (b q) (by first | omega | assumption | simp_all)) km_M_120 ks_M_isNamed kz_M kk_M_isNamed (by decide +kernel) S hW hA ⟨Nat.le_of_ble_eq_true rfl, Nat.le_of_ble_eq_true rfl⟩ ⟨Nat.le_of_ble_eq_true rfl, Nat.le_of_ble_eq_true rfl⟩ [] [0, 1] rfl (by decide) rfl (by decide) (by decide) rfl hl.1 rfl (Nat.le_of_ble_eq_true rfl) d_M_readToken_74 (fun r u H locs hp hW => ?_)
            rcases hp with ⟨h_12, rfl, rfl⟩ | ⟨h_13, rfl, rfl⟩
            · have hW : Wd D (tyl cI cJ cB cZ) A s s.heap H locs [(aM, .inr (10, [.int v_thrown, .ref m_text, .int (nI ln), .int v_came, .int v_fault, .int v_place, .ref m_paper, .int v_papered, .int v_constants, .ref m_firstHalf, .ref m_secondHalf, .ref m_stored, .ref m_proved, .int (nI q), .int kd, .int (nI q), .long fr, .long bk, .ref m_written, .ref m_places, .int v_end, .int v_second, .int v_ids, .int v_nodes, .int v_opens, .int v_levelOpens, .int v_start, .int v_app, .int v_behind, .ref m_levelKind, .ref m_levelStart, .ref m_levelApp, .ref m_levelHad, .ref m_levelScope, .ref m_levelId, .ref m_levelFirst, .ref m_levelSecond, .int v_level, .ref m_scopeFirst, .ref m_scopeSecond, .ref m_scopeId, .int v_scope, .ref m_made, .int v_top, .ref m_typeOf, .ref m_tasks, .int v_left, .ref m_todo, .int v_waits, .ref m_renamed, .ref m_bound, .int v_fresh, .int v_changed, .int v_changedTo, .int v_out, .int v_counted, .ref m_markA, .ref m_markB, .ref m_line, .int v_printed, .int v_questionAt])), (m_text, .inl (cI, 8192, .inl (fun j => nI (b j))))] := hW
              have hnm := h_12
              refine lv_if_eq (tgt := 87) S.1 S.2.1 d_M_readToken_77 (by decide) (fun h => absurd h (by decide)) (fun _ => ?_)
              refine lv_aload_n S.1 S.2.1 d_M_readToken_80 rfl (lv_at hl 1 rfl) ?_
              refine callV_v (wr := []) (wc := [(aM, .inr (10, [.int v_thrown, .ref m_text, .int (nI ln), .int v_came, .int v_fault, .int v_place, .ref m_paper, .int v_papered, .int v_constants, .ref m_firstHalf, .ref m_secondHalf, .ref m_stored, .ref m_proved, .int (nI q), .int kd, .int (nI q), .long fr, .long bk, .ref m_written, .ref m_places, .int v_end, .int v_second, .int v_ids, .int v_nodes, .int v_opens, .int v_levelOpens, .int v_start, .int v_app, .int v_behind, .ref m_levelKind, .ref m_levelStart, .ref m_levelApp, .ref m_levelHad, .ref m_levelScope, .ref m_levelId, .ref m_levelFirst, .ref m_levelSecond, .int v_level, .ref m_scopeFirst, .ref m_scopeSecond, .ref m_scopeId, .int v_scope, .ref m_made, .int v_top, .ref m_typeOf, .ref m_tasks, .int v_left, .ref m_todo, .int v_waits, .ref m_renamed, .ref m_bound, .int v_fresh, .int v_changed, .int v_changedTo, .int v_out, .int v_counted, .ref m_markA, .ref m_markB, .ref m_line, .int v_printed, .int v_questionAt])), (m_text, .inl (cI, 8192, .inl (fun j => nI (b j))))]) (np := 0) (As := []) (rest := []) (c_M_readName l D cI cJ cB cZ aM m_text m_paper m_firstHalf m_secondHalf m_stored m_proved m_written m_places m_levelKind m_levelStart m_levelApp m_levelHad m_levelScope m_levelId m_levelFirst m_levelSecond m_scopeFirst m_scopeSecond m_scopeId m_made m_typeOf m_tasks m_todo m_renamed m_bound m_markA m_markB m_line v_thrown v_came v_fault v_place v_papered v_constants v_end v_second v_ids v_nodes v_opens v_levelOpens v_start v_app v_behind v_level v_scope v_top v_left v_waits v_fresh v_changed v_changedTo v_out v_counted v_printed v_questionAt b ln q kd (nI q) fr bk (by first | omega | assumption | simp_all) (by first | omega | assumption | simp_all) (by first | omega | assumption | simp_all)) km_M_132 ki_M_readName kv_M_readName kz_M kk_M_readName (by decide +kernel) S hW hA ⟨Nat.le_of_ble_eq_true rfl, Nat.le_of_ble_eq_true rfl⟩ ⟨Nat.le_of_ble_eq_true rfl, Nat.le_of_ble_eq_true rfl⟩ rfl 0 rfl [0, 1] [] rfl (by decide) rfl (by decide) (by decide) rfl hl.1 rfl (Nat.le_of_ble_eq_true rfl) d_M_readToken_81 (fun u H locs hp hW => ?_)
              obtain ⟨e0_14, k_15, f1_16, g1_17, h_18, h_19, h_20, rfl⟩ := hp
              have hW : Wd D (tyl cI cJ cB cZ) A s s.heap H locs [(aM, .inr (10, [.int v_thrown, .ref m_text, .int (nI ln), .int v_came, .int v_fault, .int v_place, .ref m_paper, .int v_papered, .int v_constants, .ref m_firstHalf, .ref m_secondHalf, .ref m_stored, .ref m_proved, .int (nI e0_14), .int (nI k_15), .int (nI q), .long f1_16, .long g1_17, .ref m_written, .ref m_places, .int v_end, .int v_second, .int v_ids, .int v_nodes, .int v_opens, .int v_levelOpens, .int v_start, .int v_app, .int v_behind, .ref m_levelKind, .ref m_levelStart, .ref m_levelApp, .ref m_levelHad, .ref m_levelScope, .ref m_levelId, .ref m_levelFirst, .ref m_levelSecond, .int v_level, .ref m_scopeFirst, .ref m_scopeSecond, .ref m_scopeId, .int v_scope, .ref m_made, .int v_top, .ref m_typeOf, .ref m_tasks, .int v_left, .ref m_todo, .int v_waits, .ref m_renamed, .ref m_bound, .int v_fresh, .int v_changed, .int v_changedTo, .int v_out, .int v_counted, .ref m_markA, .ref m_markB, .ref m_line, .int v_printed, .int v_questionAt])), (m_text, .inl (cI, 8192, .inl (fun j => nI (b j))))] := hW
              refine lv_goto (tgt := 170) S.1 S.2.1 d_M_readToken_84 (by decide) ?_
              exact ret _ _ _ _ _ d_M_readToken_170 ⟨_, _, _, _, _, ⟨hS, Or.inr (Or.inl ⟨by omega, hnm, h_18, h_19⟩)⟩, h_20, rfl⟩ hW
            · have hW : Wd D (tyl cI cJ cB cZ) A s s.heap H locs [(aM, .inr (10, [.int v_thrown, .ref m_text, .int (nI ln), .int v_came, .int v_fault, .int v_place, .ref m_paper, .int v_papered, .int v_constants, .ref m_firstHalf, .ref m_secondHalf, .ref m_stored, .ref m_proved, .int (nI q), .int kd, .int (nI q), .long fr, .long bk, .ref m_written, .ref m_places, .int v_end, .int v_second, .int v_ids, .int v_nodes, .int v_opens, .int v_levelOpens, .int v_start, .int v_app, .int v_behind, .ref m_levelKind, .ref m_levelStart, .ref m_levelApp, .ref m_levelHad, .ref m_levelScope, .ref m_levelId, .ref m_levelFirst, .ref m_levelSecond, .int v_level, .ref m_scopeFirst, .ref m_scopeSecond, .ref m_scopeId, .int v_scope, .ref m_made, .int v_top, .ref m_typeOf, .ref m_tasks, .int v_left, .ref m_todo, .int v_waits, .ref m_renamed, .ref m_bound, .int v_fresh, .int v_changed, .int v_changedTo, .int v_out, .int v_counted, .ref m_markA, .ref m_markB, .ref m_line, .int v_printed, .int v_questionAt])), (m_text, .inl (cI, 8192, .inl (fun j => nI (b j))))] := hW
              have hnm := h_13
              refine lv_if_eq (tgt := 87) S.1 S.2.1 d_M_readToken_77 (by decide) (fun _ => ?_) (fun h => absurd h (by decide))
              refine lv_iload_n S.1 S.2.1 d_M_readToken_87 rfl (lv_at hl 0 rfl) ?_
              refine lv_bipush (v := (nI 45)) S.1 S.2.1 d_M_readToken_88 (by decide) ?_
              refine n_icmp_ne (tgt := 144) S (by omega) (by omega) d_M_readToken_90 (by decide) (fun c_90 => ?_) (fun c_90 => ?_)
              · refine lv_aload_n S.1 S.2.1 d_M_readToken_144 rfl (lv_at hl 1 rfl) ?_
                refine lv_iload_n S.1 S.2.1 d_M_readToken_145 rfl (lv_at hl 0 rfl) ?_
                refine callS_i (wr := [(aM, .inr (10, [.int v_thrown, .ref m_text, .int (nI ln), .int v_came, .int v_fault, .int v_place, .ref m_paper, .int v_papered, .int v_constants, .ref m_firstHalf, .ref m_secondHalf, .ref m_stored, .ref m_proved, .int (nI q), .int kd, .int (nI q), .long fr, .long bk, .ref m_written, .ref m_places, .int v_end, .int v_second, .int v_ids, .int v_nodes, .int v_opens, .int v_levelOpens, .int v_start, .int v_app, .int v_behind, .ref m_levelKind, .ref m_levelStart, .ref m_levelApp, .ref m_levelHad, .ref m_levelScope, .ref m_levelId, .ref m_levelFirst, .ref m_levelSecond, .int v_level, .ref m_scopeFirst, .ref m_scopeSecond, .ref m_scopeId, .int v_scope, .ref m_made, .int v_top, .ref m_typeOf, .ref m_tasks, .int v_left, .ref m_todo, .int v_waits, .ref m_renamed, .ref m_bound, .int v_fresh, .int v_changed, .int v_changedTo, .int v_out, .int v_counted, .ref m_markA, .ref m_markB, .ref m_line, .int v_printed, .int v_questionAt])), (m_text, .inl (cI, 8192, .inl (fun j => nI (b j))))]) (wc := []) (np := 1) (As := [.int (nI (b q))]) (rest := [.ref aM]) (c_M_isSign l D cI cJ cB cZ (b q) (by first | omega | assumption | simp_all)) km_M_135 ks_M_isSign kz_M kk_M_isSign (by decide +kernel) S hW hA ⟨Nat.le_of_ble_eq_true rfl, Nat.le_of_ble_eq_true rfl⟩ ⟨Nat.le_of_ble_eq_true rfl, Nat.le_of_ble_eq_true rfl⟩ [] [0, 1] rfl (by decide) rfl (by decide) (by decide) rfl hl.1 rfl (Nat.le_of_ble_eq_true rfl) d_M_readToken_146 (fun r u H locs hp hW => ?_)
                rcases hp with ⟨h_21, rfl, rfl⟩ | ⟨h_22, rfl, rfl⟩
                · have hW : Wd D (tyl cI cJ cB cZ) A s s.heap H locs [(aM, .inr (10, [.int v_thrown, .ref m_text, .int (nI ln), .int v_came, .int v_fault, .int v_place, .ref m_paper, .int v_papered, .int v_constants, .ref m_firstHalf, .ref m_secondHalf, .ref m_stored, .ref m_proved, .int (nI q), .int kd, .int (nI q), .long fr, .long bk, .ref m_written, .ref m_places, .int v_end, .int v_second, .int v_ids, .int v_nodes, .int v_opens, .int v_levelOpens, .int v_start, .int v_app, .int v_behind, .ref m_levelKind, .ref m_levelStart, .ref m_levelApp, .ref m_levelHad, .ref m_levelScope, .ref m_levelId, .ref m_levelFirst, .ref m_levelSecond, .int v_level, .ref m_scopeFirst, .ref m_scopeSecond, .ref m_scopeId, .int v_scope, .ref m_made, .int v_top, .ref m_typeOf, .ref m_tasks, .int v_left, .ref m_todo, .int v_waits, .ref m_renamed, .ref m_bound, .int v_fresh, .int v_changed, .int v_changedTo, .int v_out, .int v_counted, .ref m_markA, .ref m_markB, .ref m_line, .int v_printed, .int v_questionAt])), (m_text, .inl (cI, 8192, .inl (fun j => nI (b j))))] := hW
                  have hsg := h_21
                  refine lv_if_eq (tgt := 156) S.1 S.2.1 d_M_readToken_149 (by decide) (fun h => absurd h (by decide)) (fun _ => ?_)
                  refine lv_iload_n S.1 S.2.1 d_M_readToken_152 rfl (lv_at hl 0 rfl) ?_
                  refine lv_goto (tgt := 157) S.1 S.2.1 d_M_readToken_153 (by decide) ?_
                  refine g_put (ws2 := [(aM, .inr (10, [.int v_thrown, .ref m_text, .int (nI ln), .int v_came, .int v_fault, .int v_place, .ref m_paper, .int v_papered, .int v_constants, .ref m_firstHalf, .ref m_secondHalf, .ref m_stored, .ref m_proved, .int (nI q), .int (nI (b q)), .int (nI q), .long fr, .long bk, .ref m_written, .ref m_places, .int v_end, .int v_second, .int v_ids, .int v_nodes, .int v_opens, .int v_levelOpens, .int v_start, .int v_app, .int v_behind, .ref m_levelKind, .ref m_levelStart, .ref m_levelApp, .ref m_levelHad, .ref m_levelScope, .ref m_levelId, .ref m_levelFirst, .ref m_levelSecond, .int v_level, .ref m_scopeFirst, .ref m_scopeSecond, .ref m_scopeId, .int v_scope, .ref m_made, .int v_top, .ref m_typeOf, .ref m_tasks, .int v_left, .ref m_todo, .int v_waits, .ref m_renamed, .ref m_bound, .int v_fresh, .int v_changed, .int v_changedTo, .int v_out, .int v_counted, .ref m_markA, .ref m_markB, .ref m_line, .int v_printed, .int v_questionAt])), (m_text, .inl (cI, 8192, .inl (fun j => nI (b j))))]) i_M ft_M ft_M_ok n_M S hW 0 rfl rfl 14 (by decide) kf_M_126 rfl rfl rfl (Nat.le_of_ble_eq_true rfl) rfl d_M_readToken_157 (fun H locs hW => ?_)
                  refine lv_aload_n S.1 S.2.1 d_M_readToken_160 rfl (lv_at hl 1 rfl) ?_
                  refine lv_dup S.1 S.2.1 d_M_readToken_161 rfl ?_
                  refine g_get i_M S hW 0 rfl rfl 13 (by decide) kf_M_114 rfl d_M_readToken_162 ?_
                  refine lv_iconst (v := (nI 1)) S.1 S.2.1 d_M_readToken_165 (by decide) ?_
                  refine n_iadd S d_M_readToken_166 ?_
                  refine g_put (ws2 := [(aM, .inr (10, [.int v_thrown, .ref m_text, .int (nI ln), .int v_came, .int v_fault, .int v_place, .ref m_paper, .int v_papered, .int v_constants, .ref m_firstHalf, .ref m_secondHalf, .ref m_stored, .ref m_proved, .int (nI (q + 1)), .int (nI (b q)), .int (nI q), .long fr, .long bk, .ref m_written, .ref m_places, .int v_end, .int v_second, .int v_ids, .int v_nodes, .int v_opens, .int v_levelOpens, .int v_start, .int v_app, .int v_behind, .ref m_levelKind, .ref m_levelStart, .ref m_levelApp, .ref m_levelHad, .ref m_levelScope, .ref m_levelId, .ref m_levelFirst, .ref m_levelSecond, .int v_level, .ref m_scopeFirst, .ref m_scopeSecond, .ref m_scopeId, .int v_scope, .ref m_made, .int v_top, .ref m_typeOf, .ref m_tasks, .int v_left, .ref m_todo, .int v_waits, .ref m_renamed, .ref m_bound, .int v_fresh, .int v_changed, .int v_changedTo, .int v_out, .int v_counted, .ref m_markA, .ref m_markB, .ref m_line, .int v_printed, .int v_questionAt])), (m_text, .inl (cI, 8192, .inl (fun j => nI (b j))))]) i_M ft_M ft_M_ok n_M S hW 0 rfl rfl 13 (by decide) kf_M_114 rfl rfl rfl (Nat.le_of_ble_eq_true rfl) rfl d_M_readToken_167 (fun H locs hW => ?_)
                  exact ret _ _ _ _ _ d_M_readToken_170 ⟨_, _, _, _, _, ⟨hS, Or.inr (Or.inr (Or.inr ⟨by omega, hnm, c_90, rfl, Or.inl ⟨hsg, rfl⟩⟩))⟩, (fun h => by rw [h] at hsg; unfold isSg at hsg; omega), rfl⟩ hW
                · have hW : Wd D (tyl cI cJ cB cZ) A s s.heap H locs [(aM, .inr (10, [.int v_thrown, .ref m_text, .int (nI ln), .int v_came, .int v_fault, .int v_place, .ref m_paper, .int v_papered, .int v_constants, .ref m_firstHalf, .ref m_secondHalf, .ref m_stored, .ref m_proved, .int (nI q), .int kd, .int (nI q), .long fr, .long bk, .ref m_written, .ref m_places, .int v_end, .int v_second, .int v_ids, .int v_nodes, .int v_opens, .int v_levelOpens, .int v_start, .int v_app, .int v_behind, .ref m_levelKind, .ref m_levelStart, .ref m_levelApp, .ref m_levelHad, .ref m_levelScope, .ref m_levelId, .ref m_levelFirst, .ref m_levelSecond, .int v_level, .ref m_scopeFirst, .ref m_scopeSecond, .ref m_scopeId, .int v_scope, .ref m_made, .int v_top, .ref m_typeOf, .ref m_tasks, .int v_left, .ref m_todo, .int v_waits, .ref m_renamed, .ref m_bound, .int v_fresh, .int v_changed, .int v_changedTo, .int v_out, .int v_counted, .ref m_markA, .ref m_markB, .ref m_line, .int v_printed, .int v_questionAt])), (m_text, .inl (cI, 8192, .inl (fun j => nI (b j))))] := hW
                  have hsg := h_22
                  refine lv_if_eq (tgt := 156) S.1 S.2.1 d_M_readToken_149 (by decide) (fun _ => ?_) (fun h => absurd h (by decide))
                  refine lv_iconst (v := (nI 4)) S.1 S.2.1 d_M_readToken_156 (by decide) ?_
                  refine g_put (ws2 := [(aM, .inr (10, [.int v_thrown, .ref m_text, .int (nI ln), .int v_came, .int v_fault, .int v_place, .ref m_paper, .int v_papered, .int v_constants, .ref m_firstHalf, .ref m_secondHalf, .ref m_stored, .ref m_proved, .int (nI q), .int (nI 4), .int (nI q), .long fr, .long bk, .ref m_written, .ref m_places, .int v_end, .int v_second, .int v_ids, .int v_nodes, .int v_opens, .int v_levelOpens, .int v_start, .int v_app, .int v_behind, .ref m_levelKind, .ref m_levelStart, .ref m_levelApp, .ref m_levelHad, .ref m_levelScope, .ref m_levelId, .ref m_levelFirst, .ref m_levelSecond, .int v_level, .ref m_scopeFirst, .ref m_scopeSecond, .ref m_scopeId, .int v_scope, .ref m_made, .int v_top, .ref m_typeOf, .ref m_tasks, .int v_left, .ref m_todo, .int v_waits, .ref m_renamed, .ref m_bound, .int v_fresh, .int v_changed, .int v_changedTo, .int v_out, .int v_counted, .ref m_markA, .ref m_markB, .ref m_line, .int v_printed, .int v_questionAt])), (m_text, .inl (cI, 8192, .inl (fun j => nI (b j))))]) i_M ft_M ft_M_ok n_M S hW 0 rfl rfl 14 (by decide) kf_M_126 rfl rfl rfl (Nat.le_of_ble_eq_true rfl) rfl d_M_readToken_157 (fun H locs hW => ?_)
                  refine lv_aload_n S.1 S.2.1 d_M_readToken_160 rfl (lv_at hl 1 rfl) ?_
                  refine lv_dup S.1 S.2.1 d_M_readToken_161 rfl ?_
                  refine g_get i_M S hW 0 rfl rfl 13 (by decide) kf_M_114 rfl d_M_readToken_162 ?_
                  refine lv_iconst (v := (nI 1)) S.1 S.2.1 d_M_readToken_165 (by decide) ?_
                  refine n_iadd S d_M_readToken_166 ?_
                  refine g_put (ws2 := [(aM, .inr (10, [.int v_thrown, .ref m_text, .int (nI ln), .int v_came, .int v_fault, .int v_place, .ref m_paper, .int v_papered, .int v_constants, .ref m_firstHalf, .ref m_secondHalf, .ref m_stored, .ref m_proved, .int (nI (q + 1)), .int (nI 4), .int (nI q), .long fr, .long bk, .ref m_written, .ref m_places, .int v_end, .int v_second, .int v_ids, .int v_nodes, .int v_opens, .int v_levelOpens, .int v_start, .int v_app, .int v_behind, .ref m_levelKind, .ref m_levelStart, .ref m_levelApp, .ref m_levelHad, .ref m_levelScope, .ref m_levelId, .ref m_levelFirst, .ref m_levelSecond, .int v_level, .ref m_scopeFirst, .ref m_scopeSecond, .ref m_scopeId, .int v_scope, .ref m_made, .int v_top, .ref m_typeOf, .ref m_tasks, .int v_left, .ref m_todo, .int v_waits, .ref m_renamed, .ref m_bound, .int v_fresh, .int v_changed, .int v_changedTo, .int v_out, .int v_counted, .ref m_markA, .ref m_markB, .ref m_line, .int v_printed, .int v_questionAt])), (m_text, .inl (cI, 8192, .inl (fun j => nI (b j))))]) i_M ft_M ft_M_ok n_M S hW 0 rfl rfl 13 (by decide) kf_M_114 rfl rfl rfl (Nat.le_of_ble_eq_true rfl) rfl d_M_readToken_167 (fun H locs hW => ?_)
                  exact ret _ _ _ _ _ d_M_readToken_170 ⟨_, _, _, _, _, ⟨hS, Or.inr (Or.inr (Or.inr ⟨by omega, hnm, c_90, rfl, Or.inr ⟨hsg, rfl⟩⟩))⟩, (fun h => by cases h), rfl⟩ hW
              · have hb3 := hb (q + 1)
                refine lv_aload_n S.1 S.2.1 d_M_readToken_93 rfl (lv_at hl 1 rfl) ?_
                refine lv_aload_n S.1 S.2.1 d_M_readToken_94 rfl (lv_at hl 1 rfl) ?_
                refine g_get i_M S hW 0 rfl rfl 13 (by decide) kf_M_114 rfl d_M_readToken_95 ?_
                refine lv_iconst (v := (nI 1)) S.1 S.2.1 d_M_readToken_98 (by decide) ?_
                refine n_iadd S d_M_readToken_99 ?_
                refine lv_aload_n S.1 S.2.1 d_M_readToken_100 rfl (lv_at hl 1 rfl) ?_
                refine g_get i_M S hW 0 rfl rfl 2 (by decide) kf_M_117 rfl d_M_readToken_101 ?_
                refine n_icmp_ge (tgt := 127) S (by omega) (by omega) d_M_readToken_104 (by decide) (fun c_104 => ?_) (fun c_104 => ?_)
                · refine lv_iconst (v := (nI 4)) S.1 S.2.1 d_M_readToken_127 (by decide) ?_
                  refine g_put (ws2 := [(aM, .inr (10, [.int v_thrown, .ref m_text, .int (nI ln), .int v_came, .int v_fault, .int v_place, .ref m_paper, .int v_papered, .int v_constants, .ref m_firstHalf, .ref m_secondHalf, .ref m_stored, .ref m_proved, .int (nI q), .int (nI 4), .int (nI q), .long fr, .long bk, .ref m_written, .ref m_places, .int v_end, .int v_second, .int v_ids, .int v_nodes, .int v_opens, .int v_levelOpens, .int v_start, .int v_app, .int v_behind, .ref m_levelKind, .ref m_levelStart, .ref m_levelApp, .ref m_levelHad, .ref m_levelScope, .ref m_levelId, .ref m_levelFirst, .ref m_levelSecond, .int v_level, .ref m_scopeFirst, .ref m_scopeSecond, .ref m_scopeId, .int v_scope, .ref m_made, .int v_top, .ref m_typeOf, .ref m_tasks, .int v_left, .ref m_todo, .int v_waits, .ref m_renamed, .ref m_bound, .int v_fresh, .int v_changed, .int v_changedTo, .int v_out, .int v_counted, .ref m_markA, .ref m_markB, .ref m_line, .int v_printed, .int v_questionAt])), (m_text, .inl (cI, 8192, .inl (fun j => nI (b j))))]) i_M ft_M ft_M_ok n_M S hW 0 rfl rfl 14 (by decide) kf_M_126 rfl rfl rfl (Nat.le_of_ble_eq_true rfl) rfl d_M_readToken_128 (fun H locs hW => ?_)
                  refine lv_aload_n S.1 S.2.1 d_M_readToken_131 rfl (lv_at hl 1 rfl) ?_
                  refine lv_aload_n S.1 S.2.1 d_M_readToken_132 rfl (lv_at hl 1 rfl) ?_
                  refine g_get i_M S hW 0 rfl rfl 13 (by decide) kf_M_114 rfl d_M_readToken_133 ?_
                  refine lv_iconst (v := (nI 2)) S.1 S.2.1 d_M_readToken_136 (by decide) ?_
                  refine n_iadd S d_M_readToken_137 ?_
                  refine g_put (ws2 := [(aM, .inr (10, [.int v_thrown, .ref m_text, .int (nI ln), .int v_came, .int v_fault, .int v_place, .ref m_paper, .int v_papered, .int v_constants, .ref m_firstHalf, .ref m_secondHalf, .ref m_stored, .ref m_proved, .int (nI (q + 2)), .int (nI 4), .int (nI q), .long fr, .long bk, .ref m_written, .ref m_places, .int v_end, .int v_second, .int v_ids, .int v_nodes, .int v_opens, .int v_levelOpens, .int v_start, .int v_app, .int v_behind, .ref m_levelKind, .ref m_levelStart, .ref m_levelApp, .ref m_levelHad, .ref m_levelScope, .ref m_levelId, .ref m_levelFirst, .ref m_levelSecond, .int v_level, .ref m_scopeFirst, .ref m_scopeSecond, .ref m_scopeId, .int v_scope, .ref m_made, .int v_top, .ref m_typeOf, .ref m_tasks, .int v_left, .ref m_todo, .int v_waits, .ref m_renamed, .ref m_bound, .int v_fresh, .int v_changed, .int v_changedTo, .int v_out, .int v_counted, .ref m_markA, .ref m_markB, .ref m_line, .int v_printed, .int v_questionAt])), (m_text, .inl (cI, 8192, .inl (fun j => nI (b j))))]) i_M ft_M ft_M_ok n_M S hW 0 rfl rfl 13 (by decide) kf_M_114 rfl rfl rfl (Nat.le_of_ble_eq_true rfl) rfl d_M_readToken_138 (fun H locs hW => ?_)
                  refine lv_goto (tgt := 170) S.1 S.2.1 d_M_readToken_141 (by decide) ?_
                  exact ret _ _ _ _ _ d_M_readToken_170 ⟨_, _, _, _, _, ⟨hS, Or.inr (Or.inr (Or.inl ⟨by omega, c_90, rfl, Or.inr ⟨(by first | (rintro ⟨a1, a2⟩; omega) | (rintro ⟨a1, a2⟩; exact c_120 a2)), rfl⟩⟩))⟩, (fun h => by cases h), rfl⟩ hW
                · refine lv_aload_n S.1 S.2.1 d_M_readToken_107 rfl (lv_at hl 1 rfl) ?_
                  refine g_get i_M S hW 0 rfl rfl 1 (by decide) kf_M_7 rfl d_M_readToken_108 ?_
                  refine lv_aload_n S.1 S.2.1 d_M_readToken_111 rfl (lv_at hl 1 rfl) ?_
                  refine g_get i_M S hW 0 rfl rfl 13 (by decide) kf_M_114 rfl d_M_readToken_112 ?_
                  refine lv_iconst (v := (nI 1)) S.1 S.2.1 d_M_readToken_115 (by decide) ?_
                  refine n_iadd S d_M_readToken_116 ?_
                  refine n_iald S hW 1 0 rfl rfl (by decide) (by omega) d_M_readToken_117 ?_
                  refine top_eq (y := nI (b (q + 1))) rfl ?_
                  refine lv_bipush (v := (nI 62)) S.1 S.2.1 d_M_readToken_118 (by decide) ?_
                  refine n_icmp_ne (tgt := 127) S (by omega) (by omega) d_M_readToken_120 (by decide) (fun c_120 => ?_) (fun c_120 => ?_)
                  · refine lv_iconst (v := (nI 4)) S.1 S.2.1 d_M_readToken_127 (by decide) ?_
                    refine g_put (ws2 := [(aM, .inr (10, [.int v_thrown, .ref m_text, .int (nI ln), .int v_came, .int v_fault, .int v_place, .ref m_paper, .int v_papered, .int v_constants, .ref m_firstHalf, .ref m_secondHalf, .ref m_stored, .ref m_proved, .int (nI q), .int (nI 4), .int (nI q), .long fr, .long bk, .ref m_written, .ref m_places, .int v_end, .int v_second, .int v_ids, .int v_nodes, .int v_opens, .int v_levelOpens, .int v_start, .int v_app, .int v_behind, .ref m_levelKind, .ref m_levelStart, .ref m_levelApp, .ref m_levelHad, .ref m_levelScope, .ref m_levelId, .ref m_levelFirst, .ref m_levelSecond, .int v_level, .ref m_scopeFirst, .ref m_scopeSecond, .ref m_scopeId, .int v_scope, .ref m_made, .int v_top, .ref m_typeOf, .ref m_tasks, .int v_left, .ref m_todo, .int v_waits, .ref m_renamed, .ref m_bound, .int v_fresh, .int v_changed, .int v_changedTo, .int v_out, .int v_counted, .ref m_markA, .ref m_markB, .ref m_line, .int v_printed, .int v_questionAt])), (m_text, .inl (cI, 8192, .inl (fun j => nI (b j))))]) i_M ft_M ft_M_ok n_M S hW 0 rfl rfl 14 (by decide) kf_M_126 rfl rfl rfl (Nat.le_of_ble_eq_true rfl) rfl d_M_readToken_128 (fun H locs hW => ?_)
                    refine lv_aload_n S.1 S.2.1 d_M_readToken_131 rfl (lv_at hl 1 rfl) ?_
                    refine lv_aload_n S.1 S.2.1 d_M_readToken_132 rfl (lv_at hl 1 rfl) ?_
                    refine g_get i_M S hW 0 rfl rfl 13 (by decide) kf_M_114 rfl d_M_readToken_133 ?_
                    refine lv_iconst (v := (nI 2)) S.1 S.2.1 d_M_readToken_136 (by decide) ?_
                    refine n_iadd S d_M_readToken_137 ?_
                    refine g_put (ws2 := [(aM, .inr (10, [.int v_thrown, .ref m_text, .int (nI ln), .int v_came, .int v_fault, .int v_place, .ref m_paper, .int v_papered, .int v_constants, .ref m_firstHalf, .ref m_secondHalf, .ref m_stored, .ref m_proved, .int (nI (q + 2)), .int (nI 4), .int (nI q), .long fr, .long bk, .ref m_written, .ref m_places, .int v_end, .int v_second, .int v_ids, .int v_nodes, .int v_opens, .int v_levelOpens, .int v_start, .int v_app, .int v_behind, .ref m_levelKind, .ref m_levelStart, .ref m_levelApp, .ref m_levelHad, .ref m_levelScope, .ref m_levelId, .ref m_levelFirst, .ref m_levelSecond, .int v_level, .ref m_scopeFirst, .ref m_scopeSecond, .ref m_scopeId, .int v_scope, .ref m_made, .int v_top, .ref m_typeOf, .ref m_tasks, .int v_left, .ref m_todo, .int v_waits, .ref m_renamed, .ref m_bound, .int v_fresh, .int v_changed, .int v_changedTo, .int v_out, .int v_counted, .ref m_markA, .ref m_markB, .ref m_line, .int v_printed, .int v_questionAt])), (m_text, .inl (cI, 8192, .inl (fun j => nI (b j))))]) i_M ft_M ft_M_ok n_M S hW 0 rfl rfl 13 (by decide) kf_M_114 rfl rfl rfl (Nat.le_of_ble_eq_true rfl) rfl d_M_readToken_138 (fun H locs hW => ?_)
                    refine lv_goto (tgt := 170) S.1 S.2.1 d_M_readToken_141 (by decide) ?_
                    exact ret _ _ _ _ _ d_M_readToken_170 ⟨_, _, _, _, _, ⟨hS, Or.inr (Or.inr (Or.inl ⟨by omega, c_90, rfl, Or.inr ⟨(by first | (rintro ⟨a1, a2⟩; omega) | (rintro ⟨a1, a2⟩; exact c_120 a2)), rfl⟩⟩))⟩, (fun h => by cases h), rfl⟩ hW
                  · refine lv_iconst (v := (nI 3)) S.1 S.2.1 d_M_readToken_123 (by decide) ?_
                    refine lv_goto (tgt := 128) S.1 S.2.1 d_M_readToken_124 (by decide) ?_
                    refine g_put (ws2 := [(aM, .inr (10, [.int v_thrown, .ref m_text, .int (nI ln), .int v_came, .int v_fault, .int v_place, .ref m_paper, .int v_papered, .int v_constants, .ref m_firstHalf, .ref m_secondHalf, .ref m_stored, .ref m_proved, .int (nI q), .int (nI 3), .int (nI q), .long fr, .long bk, .ref m_written, .ref m_places, .int v_end, .int v_second, .int v_ids, .int v_nodes, .int v_opens, .int v_levelOpens, .int v_start, .int v_app, .int v_behind, .ref m_levelKind, .ref m_levelStart, .ref m_levelApp, .ref m_levelHad, .ref m_levelScope, .ref m_levelId, .ref m_levelFirst, .ref m_levelSecond, .int v_level, .ref m_scopeFirst, .ref m_scopeSecond, .ref m_scopeId, .int v_scope, .ref m_made, .int v_top, .ref m_typeOf, .ref m_tasks, .int v_left, .ref m_todo, .int v_waits, .ref m_renamed, .ref m_bound, .int v_fresh, .int v_changed, .int v_changedTo, .int v_out, .int v_counted, .ref m_markA, .ref m_markB, .ref m_line, .int v_printed, .int v_questionAt])), (m_text, .inl (cI, 8192, .inl (fun j => nI (b j))))]) i_M ft_M ft_M_ok n_M S hW 0 rfl rfl 14 (by decide) kf_M_126 rfl rfl rfl (Nat.le_of_ble_eq_true rfl) rfl d_M_readToken_128 (fun H locs hW => ?_)
                    refine lv_aload_n S.1 S.2.1 d_M_readToken_131 rfl (lv_at hl 1 rfl) ?_
                    refine lv_aload_n S.1 S.2.1 d_M_readToken_132 rfl (lv_at hl 1 rfl) ?_
                    refine g_get i_M S hW 0 rfl rfl 13 (by decide) kf_M_114 rfl d_M_readToken_133 ?_
                    refine lv_iconst (v := (nI 2)) S.1 S.2.1 d_M_readToken_136 (by decide) ?_
                    refine n_iadd S d_M_readToken_137 ?_
                    refine g_put (ws2 := [(aM, .inr (10, [.int v_thrown, .ref m_text, .int (nI ln), .int v_came, .int v_fault, .int v_place, .ref m_paper, .int v_papered, .int v_constants, .ref m_firstHalf, .ref m_secondHalf, .ref m_stored, .ref m_proved, .int (nI (q + 2)), .int (nI 3), .int (nI q), .long fr, .long bk, .ref m_written, .ref m_places, .int v_end, .int v_second, .int v_ids, .int v_nodes, .int v_opens, .int v_levelOpens, .int v_start, .int v_app, .int v_behind, .ref m_levelKind, .ref m_levelStart, .ref m_levelApp, .ref m_levelHad, .ref m_levelScope, .ref m_levelId, .ref m_levelFirst, .ref m_levelSecond, .int v_level, .ref m_scopeFirst, .ref m_scopeSecond, .ref m_scopeId, .int v_scope, .ref m_made, .int v_top, .ref m_typeOf, .ref m_tasks, .int v_left, .ref m_todo, .int v_waits, .ref m_renamed, .ref m_bound, .int v_fresh, .int v_changed, .int v_changedTo, .int v_out, .int v_counted, .ref m_markA, .ref m_markB, .ref m_line, .int v_printed, .int v_questionAt])), (m_text, .inl (cI, 8192, .inl (fun j => nI (b j))))]) i_M ft_M ft_M_ok n_M S hW 0 rfl rfl 13 (by decide) kf_M_114 rfl rfl rfl (Nat.le_of_ble_eq_true rfl) rfl d_M_readToken_138 (fun H locs hW => ?_)
                    refine lv_goto (tgt := 170) S.1 S.2.1 d_M_readToken_141 (by decide) ?_
                    exact ret _ _ _ _ _ d_M_readToken_170 ⟨_, _, _, _, _, ⟨hS, Or.inr (Or.inr (Or.inl ⟨by omega, c_90, rfl, Or.inl ⟨c_104, c_120, rfl⟩⟩))⟩, (fun h => by cases h), rfl⟩ hW
          · refine lv_aload_n S.1 S.2.1 d_M_readToken_57 rfl (lv_at hl 0 rfl) ?_
            refine lv_iconst (v := (nI 0)) S.1 S.2.1 d_M_readToken_58 (by decide) ?_
            refine g_put (ws2 := [(aM, .inr (10, [.int v_thrown, .ref m_text, .int (nI ln), .int v_came, .int v_fault, .int v_place, .ref m_paper, .int v_papered, .int v_constants, .ref m_firstHalf, .ref m_secondHalf, .ref m_stored, .ref m_proved, .int (nI q), .int (nI 0), .int (nI q), .long fr, .long bk, .ref m_written, .ref m_places, .int v_end, .int v_second, .int v_ids, .int v_nodes, .int v_opens, .int v_levelOpens, .int v_start, .int v_app, .int v_behind, .ref m_levelKind, .ref m_levelStart, .ref m_levelApp, .ref m_levelHad, .ref m_levelScope, .ref m_levelId, .ref m_levelFirst, .ref m_levelSecond, .int v_level, .ref m_scopeFirst, .ref m_scopeSecond, .ref m_scopeId, .int v_scope, .ref m_made, .int v_top, .ref m_typeOf, .ref m_tasks, .int v_left, .ref m_todo, .int v_waits, .ref m_renamed, .ref m_bound, .int v_fresh, .int v_changed, .int v_changedTo, .int v_out, .int v_counted, .ref m_markA, .ref m_markB, .ref m_line, .int v_printed, .int v_questionAt])), (m_text, .inl (cI, 8192, .inl (fun j => nI (b j))))]) i_M ft_M ft_M_ok n_M S hW 0 rfl rfl 14 (by decide) kf_M_126 rfl rfl rfl (Nat.le_of_ble_eq_true rfl) rfl d_M_readToken_59 (fun H locs hW => ?_)
            exact ret _ _ _ _ _ d_M_readToken_62 ⟨_, _, _, _, _, ⟨hS, Or.inl ⟨c_54, rfl, c_54⟩⟩, (fun h => by cases h), rfl⟩ hW
        · refine lv_aload_n S.1 S.2.1 d_M_readToken_25 rfl (lv_at hl 0 rfl) ?_
          refine lv_dup S.1 S.2.1 d_M_readToken_26 rfl ?_
          refine g_get i_M S hW 0 rfl rfl 13 (by decide) kf_M_114 rfl d_M_readToken_27 ?_
          refine lv_iconst (v := (nI 1)) S.1 S.2.1 d_M_readToken_30 (by decide) ?_
          refine n_iadd S d_M_readToken_31 ?_
          refine g_put (ws2 := [(aM, .inr (10, [.int v_thrown, .ref m_text, .int (nI ln), .int v_came, .int v_fault, .int v_place, .ref m_paper, .int v_papered, .int v_constants, .ref m_firstHalf, .ref m_secondHalf, .ref m_stored, .ref m_proved, .int (nI (q + 1)), .int kd, .int ta, .long fr, .long bk, .ref m_written, .ref m_places, .int v_end, .int v_second, .int v_ids, .int v_nodes, .int v_opens, .int v_levelOpens, .int v_start, .int v_app, .int v_behind, .ref m_levelKind, .ref m_levelStart, .ref m_levelApp, .ref m_levelHad, .ref m_levelScope, .ref m_levelId, .ref m_levelFirst, .ref m_levelSecond, .int v_level, .ref m_scopeFirst, .ref m_scopeSecond, .ref m_scopeId, .int v_scope, .ref m_made, .int v_top, .ref m_typeOf, .ref m_tasks, .int v_left, .ref m_todo, .int v_waits, .ref m_renamed, .ref m_bound, .int v_fresh, .int v_changed, .int v_changedTo, .int v_out, .int v_counted, .ref m_markA, .ref m_markB, .ref m_line, .int v_printed, .int v_questionAt])), (m_text, .inl (cI, 8192, .inl (fun j => nI (b j))))]) i_M ft_M ft_M_ok n_M S hW 0 rfl rfl 13 (by decide) kf_M_114 rfl rfl rfl (Nat.le_of_ble_eq_true rfl) rfl d_M_readToken_32 (fun H locs hW => ?_)
          refine lv_goto (tgt := 0) S.1 S.2.1 d_M_readToken_35 (by decide) ?_
          exact ih (q + 1) (by omega) (by omega) (by omega) (fun j a1 a2 => by rcases Nat.lt_or_ge j q with y | y; exact hq3 j a1 y; exact (show j = q by omega) ▸ c_22) _ _ hW _ (lv_sub hl [0] rfl)
  exact loop_0 (ln - z0 + 1) z0 (Nat.lt_succ_self _) (Nat.le_refl _) hz (fun j a1 a2 => absurd a2 (by omega)) _ _ hW _ (lv_sub hl [0] rfl)
