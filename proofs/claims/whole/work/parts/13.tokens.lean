theorem tn_f8 {b : Nat → Nat} (hb : ∀ j, b j < 256) {p r : Nat} {f1 : Int64} (h1 : p < r ∨ r = p) (h4 : f1 = lN (leN b p (min (r - p) 8))) (c : r - p < 8) : f1 ||| ((nI (b r)).toInt64 <<< ((nI (8 * (r - p))).toInt64 &&& 63)) = lN (leN b p (min (r + 1 - p) 8)) := by
  have e : p + (r - p) = r := by omega
  have h := le_or hb p c
  rw [e] at h
  rw [h4, Nat.min_eq_left (by omega), Nat.min_eq_left (by omega), show r + 1 - p = r - p + 1 by omega]
  exact h
theorem tn_f9 {b : Nat → Nat} {p r : Nat} {f1 : Int64} (h1 : p < r ∨ r = p) (h4 : f1 = lN (leN b p (min (r - p) 8))) (c : 8 ≤ r - p) : f1 = lN (leN b p (min (r + 1 - p) 8)) := by
  rw [h4, Nat.min_eq_right (by omega), Nat.min_eq_right (by omega)]
theorem tn_b8 {b : Nat → Nat} {p r : Nat} {g1 : Int64} (h1 : p < r ∨ r = p) (h5 : g1 = lN (leN b (p + 8) (min (r - p - 8) 4))) (c : r - p < 8) : g1 = lN (leN b (p + 8) (min (r + 1 - p - 8) 4)) := by
  rw [h5, show r - p - 8 = 0 by omega, show r + 1 - p - 8 = 0 by omega]
theorem tn_b12 {b : Nat → Nat} (hb : ∀ j, b j < 256) {p r : Nat} {g1 : Int64} (h1 : p < r ∨ r = p) (h5 : g1 = lN (leN b (p + 8) (min (r - p - 8) 4))) (c : 8 ≤ r - p) (c2 : r - p < 12) : g1 ||| ((nI (b r)).toInt64 <<< ((nI (8 * (r - p - 8))).toInt64 &&& 63)) = lN (leN b (p + 8) (min (r + 1 - p - 8) 4)) := by
  have e : p + 8 + (r - p - 8) = r := by omega
  have h := le_or hb (p + 8) (n := r - p - 8) (by omega)
  rw [e] at h
  rw [h5, Nat.min_eq_left (by omega), Nat.min_eq_left (by omega), show r + 1 - p - 8 = r - p - 8 + 1 by omega]
  exact h
theorem tn_b13 {b : Nat → Nat} {p r : Nat} {g1 : Int64} (h1 : p < r ∨ r = p) (h5 : g1 = lN (leN b (p + 8) (min (r - p - 8) 4))) (c : 12 ≤ r - p) : g1 = lN (leN b (p + 8) (min (r + 1 - p - 8) 4)) := by
  rw [h5, Nat.min_eq_right (by omega), Nat.min_eq_right (by omega)]
theorem d_T_isInNames_0 : decode b_T_isInNames 0 = .ok (.iload_n 0, 1) := by decide +kernel
theorem d_T_isInNames_1 : decode b_T_isInNames 1 = .ok (.bipush 97, 2) := by decide +kernel
theorem d_T_isInNames_3 : decode b_T_isInNames 3 = .ok (.if_icmp .lt 9, 3) := by decide +kernel
theorem d_T_isInNames_6 : decode b_T_isInNames 6 = .ok (.iload_n 0, 1) := by decide +kernel
theorem d_T_isInNames_7 : decode b_T_isInNames 7 = .ok (.bipush 122, 2) := by decide +kernel
theorem d_T_isInNames_9 : decode b_T_isInNames 9 = .ok (.if_icmp .le 39, 3) := by decide +kernel
theorem d_T_isInNames_12 : decode b_T_isInNames 12 = .ok (.iload_n 0, 1) := by decide +kernel
theorem d_T_isInNames_13 : decode b_T_isInNames 13 = .ok (.bipush 65, 2) := by decide +kernel
theorem d_T_isInNames_15 : decode b_T_isInNames 15 = .ok (.if_icmp .lt 9, 3) := by decide +kernel
theorem d_T_isInNames_18 : decode b_T_isInNames 18 = .ok (.iload_n 0, 1) := by decide +kernel
theorem d_T_isInNames_19 : decode b_T_isInNames 19 = .ok (.bipush 90, 2) := by decide +kernel
theorem d_T_isInNames_21 : decode b_T_isInNames 21 = .ok (.if_icmp .le 27, 3) := by decide +kernel
theorem d_T_isInNames_24 : decode b_T_isInNames 24 = .ok (.iload_n 0, 1) := by decide +kernel
theorem d_T_isInNames_25 : decode b_T_isInNames 25 = .ok (.bipush 48, 2) := by decide +kernel
theorem d_T_isInNames_27 : decode b_T_isInNames 27 = .ok (.if_icmp .lt 9, 3) := by decide +kernel
theorem d_T_isInNames_30 : decode b_T_isInNames 30 = .ok (.iload_n 0, 1) := by decide +kernel
theorem d_T_isInNames_31 : decode b_T_isInNames 31 = .ok (.bipush 57, 2) := by decide +kernel
theorem d_T_isInNames_33 : decode b_T_isInNames 33 = .ok (.if_icmp .le 15, 3) := by decide +kernel
theorem d_T_isInNames_36 : decode b_T_isInNames 36 = .ok (.iload_n 0, 1) := by decide +kernel
theorem d_T_isInNames_37 : decode b_T_isInNames 37 = .ok (.bipush 95, 2) := by decide +kernel
theorem d_T_isInNames_39 : decode b_T_isInNames 39 = .ok (.if_icmp .eq 9, 3) := by decide +kernel
theorem d_T_isInNames_42 : decode b_T_isInNames 42 = .ok (.iload_n 0, 1) := by decide +kernel
theorem d_T_isInNames_43 : decode b_T_isInNames 43 = .ok (.bipush 39, 2) := by decide +kernel
theorem d_T_isInNames_45 : decode b_T_isInNames 45 = .ok (.if_icmp .ne 7, 3) := by decide +kernel
theorem d_T_isInNames_48 : decode b_T_isInNames 48 = .ok (.iconst 1, 1) := by decide +kernel
theorem d_T_isInNames_49 : decode b_T_isInNames 49 = .ok (.goto 4, 3) := by decide +kernel
theorem d_T_isInNames_52 : decode b_T_isInNames 52 = .ok (.iconst 0, 1) := by decide +kernel
theorem d_T_isInNames_53 : decode b_T_isInNames 53 = .ok (.ireturn, 1) := by decide +kernel
set_option maxHeartbeats 4000000 in
set_option maxRecDepth 100000 in
theorem c_T_isInNames (l : Launch) (D : va_G) (cI cJ cB cZ : ClassId) (x : Nat) (hx : x < 256) : Ci l D (tyl cI cJ cB cZ) y_T_isInNames b_T_isInNames 1 (some .boolean) ({ frames := 0, cells := 0, slots := 0, locals := 0 } : Room) [.int (nI x)] [] (fun r u => ((isNm x) ∧ r = (nI 1) ∧ u = []) ∨ ((¬ isNm x) ∧ r = (nI 0) ∧ u = [])) := by
  refine met_i (own := "ProofReader$Tokens") (by decide) rfl (Nat.le_of_ble_eq_true rfl) ?_
  intro p e s m args below meth c A Q S hA ret ls hl hW
  have hl : lv_has ls 1 [(0, .int (nI x))] := hl
  have hW : Wd D (tyl cI cJ cB cZ) A s s.heap s.heap [] [] := hW
  refine lv_iload_n S.1 S.2.1 d_T_isInNames_0 rfl (lv_at hl 0 rfl) ?_
  refine lv_bipush (v := (nI 97)) S.1 S.2.1 d_T_isInNames_1 (by decide) ?_
  refine n_icmp_lt (tgt := 12) S (by omega) (by omega) d_T_isInNames_3 (by decide) (fun c_3 => ?_) (fun c_3 => ?_)
  · refine lv_iload_n S.1 S.2.1 d_T_isInNames_12 rfl (lv_at hl 0 rfl) ?_
    refine lv_bipush (v := (nI 65)) S.1 S.2.1 d_T_isInNames_13 (by decide) ?_
    refine n_icmp_lt (tgt := 24) S (by omega) (by omega) d_T_isInNames_15 (by decide) (fun c_15 => ?_) (fun c_15 => ?_)
    · refine lv_iload_n S.1 S.2.1 d_T_isInNames_24 rfl (lv_at hl 0 rfl) ?_
      refine lv_bipush (v := (nI 48)) S.1 S.2.1 d_T_isInNames_25 (by decide) ?_
      refine n_icmp_lt (tgt := 36) S (by omega) (by omega) d_T_isInNames_27 (by decide) (fun c_27 => ?_) (fun c_27 => ?_)
      · refine lv_iload_n S.1 S.2.1 d_T_isInNames_36 rfl (lv_at hl 0 rfl) ?_
        refine lv_bipush (v := (nI 95)) S.1 S.2.1 d_T_isInNames_37 (by decide) ?_
        refine n_icmp_eq (tgt := 48) S (by omega) (by omega) d_T_isInNames_39 (by decide) (fun c_39 => ?_) (fun c_39 => ?_)
        · refine lv_iconst (v := (nI 1)) S.1 S.2.1 d_T_isInNames_48 (by decide) ?_
          refine lv_goto (tgt := 53) S.1 S.2.1 d_T_isInNames_49 (by decide) ?_
          exact ret _ _ _ _ _ _ d_T_isInNames_53 rfl (by first | exact (Or.inl ⟨(by unfold isNm; omega), rfl, rfl⟩) | exact (Or.inr ⟨(by unfold isNm; omega), rfl, rfl⟩)) hW
        · refine lv_iload_n S.1 S.2.1 d_T_isInNames_42 rfl (lv_at hl 0 rfl) ?_
          refine lv_bipush (v := (nI 39)) S.1 S.2.1 d_T_isInNames_43 (by decide) ?_
          refine n_icmp_ne (tgt := 52) S (by omega) (by omega) d_T_isInNames_45 (by decide) (fun c_45 => ?_) (fun c_45 => ?_)
          · refine lv_iconst (v := (nI 0)) S.1 S.2.1 d_T_isInNames_52 (by decide) ?_
            exact ret _ _ _ _ _ _ d_T_isInNames_53 rfl (by first | exact (Or.inl ⟨(by unfold isNm; omega), rfl, rfl⟩) | exact (Or.inr ⟨(by unfold isNm; omega), rfl, rfl⟩)) hW
          · refine lv_iconst (v := (nI 1)) S.1 S.2.1 d_T_isInNames_48 (by decide) ?_
            refine lv_goto (tgt := 53) S.1 S.2.1 d_T_isInNames_49 (by decide) ?_
            exact ret _ _ _ _ _ _ d_T_isInNames_53 rfl (by first | exact (Or.inl ⟨(by unfold isNm; omega), rfl, rfl⟩) | exact (Or.inr ⟨(by unfold isNm; omega), rfl, rfl⟩)) hW
      · refine lv_iload_n S.1 S.2.1 d_T_isInNames_30 rfl (lv_at hl 0 rfl) ?_
        refine lv_bipush (v := (nI 57)) S.1 S.2.1 d_T_isInNames_31 (by decide) ?_
        refine n_icmp_le (tgt := 48) S (by omega) (by omega) d_T_isInNames_33 (by decide) (fun c_33 => ?_) (fun c_33 => ?_)
        · refine lv_iconst (v := (nI 1)) S.1 S.2.1 d_T_isInNames_48 (by decide) ?_
          refine lv_goto (tgt := 53) S.1 S.2.1 d_T_isInNames_49 (by decide) ?_
          exact ret _ _ _ _ _ _ d_T_isInNames_53 rfl (by first | exact (Or.inl ⟨(by unfold isNm; omega), rfl, rfl⟩) | exact (Or.inr ⟨(by unfold isNm; omega), rfl, rfl⟩)) hW
        · refine lv_iload_n S.1 S.2.1 d_T_isInNames_36 rfl (lv_at hl 0 rfl) ?_
          refine lv_bipush (v := (nI 95)) S.1 S.2.1 d_T_isInNames_37 (by decide) ?_
          refine n_icmp_eq (tgt := 48) S (by omega) (by omega) d_T_isInNames_39 (by decide) (fun c_39 => ?_) (fun c_39 => ?_)
          · refine lv_iconst (v := (nI 1)) S.1 S.2.1 d_T_isInNames_48 (by decide) ?_
            refine lv_goto (tgt := 53) S.1 S.2.1 d_T_isInNames_49 (by decide) ?_
            exact ret _ _ _ _ _ _ d_T_isInNames_53 rfl (by first | exact (Or.inl ⟨(by unfold isNm; omega), rfl, rfl⟩) | exact (Or.inr ⟨(by unfold isNm; omega), rfl, rfl⟩)) hW
          · refine lv_iload_n S.1 S.2.1 d_T_isInNames_42 rfl (lv_at hl 0 rfl) ?_
            refine lv_bipush (v := (nI 39)) S.1 S.2.1 d_T_isInNames_43 (by decide) ?_
            refine n_icmp_ne (tgt := 52) S (by omega) (by omega) d_T_isInNames_45 (by decide) (fun c_45 => ?_) (fun c_45 => ?_)
            · refine lv_iconst (v := (nI 0)) S.1 S.2.1 d_T_isInNames_52 (by decide) ?_
              exact ret _ _ _ _ _ _ d_T_isInNames_53 rfl (by first | exact (Or.inl ⟨(by unfold isNm; omega), rfl, rfl⟩) | exact (Or.inr ⟨(by unfold isNm; omega), rfl, rfl⟩)) hW
            · refine lv_iconst (v := (nI 1)) S.1 S.2.1 d_T_isInNames_48 (by decide) ?_
              refine lv_goto (tgt := 53) S.1 S.2.1 d_T_isInNames_49 (by decide) ?_
              exact ret _ _ _ _ _ _ d_T_isInNames_53 rfl (by first | exact (Or.inl ⟨(by unfold isNm; omega), rfl, rfl⟩) | exact (Or.inr ⟨(by unfold isNm; omega), rfl, rfl⟩)) hW
    · refine lv_iload_n S.1 S.2.1 d_T_isInNames_18 rfl (lv_at hl 0 rfl) ?_
      refine lv_bipush (v := (nI 90)) S.1 S.2.1 d_T_isInNames_19 (by decide) ?_
      refine n_icmp_le (tgt := 48) S (by omega) (by omega) d_T_isInNames_21 (by decide) (fun c_21 => ?_) (fun c_21 => ?_)
      · refine lv_iconst (v := (nI 1)) S.1 S.2.1 d_T_isInNames_48 (by decide) ?_
        refine lv_goto (tgt := 53) S.1 S.2.1 d_T_isInNames_49 (by decide) ?_
        exact ret _ _ _ _ _ _ d_T_isInNames_53 rfl (by first | exact (Or.inl ⟨(by unfold isNm; omega), rfl, rfl⟩) | exact (Or.inr ⟨(by unfold isNm; omega), rfl, rfl⟩)) hW
      · refine lv_iload_n S.1 S.2.1 d_T_isInNames_24 rfl (lv_at hl 0 rfl) ?_
        refine lv_bipush (v := (nI 48)) S.1 S.2.1 d_T_isInNames_25 (by decide) ?_
        refine n_icmp_lt (tgt := 36) S (by omega) (by omega) d_T_isInNames_27 (by decide) (fun c_27 => ?_) (fun c_27 => ?_)
        · refine lv_iload_n S.1 S.2.1 d_T_isInNames_36 rfl (lv_at hl 0 rfl) ?_
          refine lv_bipush (v := (nI 95)) S.1 S.2.1 d_T_isInNames_37 (by decide) ?_
          refine n_icmp_eq (tgt := 48) S (by omega) (by omega) d_T_isInNames_39 (by decide) (fun c_39 => ?_) (fun c_39 => ?_)
          · refine lv_iconst (v := (nI 1)) S.1 S.2.1 d_T_isInNames_48 (by decide) ?_
            refine lv_goto (tgt := 53) S.1 S.2.1 d_T_isInNames_49 (by decide) ?_
            exact ret _ _ _ _ _ _ d_T_isInNames_53 rfl (by first | exact (Or.inl ⟨(by unfold isNm; omega), rfl, rfl⟩) | exact (Or.inr ⟨(by unfold isNm; omega), rfl, rfl⟩)) hW
          · refine lv_iload_n S.1 S.2.1 d_T_isInNames_42 rfl (lv_at hl 0 rfl) ?_
            refine lv_bipush (v := (nI 39)) S.1 S.2.1 d_T_isInNames_43 (by decide) ?_
            refine n_icmp_ne (tgt := 52) S (by omega) (by omega) d_T_isInNames_45 (by decide) (fun c_45 => ?_) (fun c_45 => ?_)
            · refine lv_iconst (v := (nI 0)) S.1 S.2.1 d_T_isInNames_52 (by decide) ?_
              exact ret _ _ _ _ _ _ d_T_isInNames_53 rfl (by first | exact (Or.inl ⟨(by unfold isNm; omega), rfl, rfl⟩) | exact (Or.inr ⟨(by unfold isNm; omega), rfl, rfl⟩)) hW
            · refine lv_iconst (v := (nI 1)) S.1 S.2.1 d_T_isInNames_48 (by decide) ?_
              refine lv_goto (tgt := 53) S.1 S.2.1 d_T_isInNames_49 (by decide) ?_
              exact ret _ _ _ _ _ _ d_T_isInNames_53 rfl (by first | exact (Or.inl ⟨(by unfold isNm; omega), rfl, rfl⟩) | exact (Or.inr ⟨(by unfold isNm; omega), rfl, rfl⟩)) hW
        · refine lv_iload_n S.1 S.2.1 d_T_isInNames_30 rfl (lv_at hl 0 rfl) ?_
          refine lv_bipush (v := (nI 57)) S.1 S.2.1 d_T_isInNames_31 (by decide) ?_
          refine n_icmp_le (tgt := 48) S (by omega) (by omega) d_T_isInNames_33 (by decide) (fun c_33 => ?_) (fun c_33 => ?_)
          · refine lv_iconst (v := (nI 1)) S.1 S.2.1 d_T_isInNames_48 (by decide) ?_
            refine lv_goto (tgt := 53) S.1 S.2.1 d_T_isInNames_49 (by decide) ?_
            exact ret _ _ _ _ _ _ d_T_isInNames_53 rfl (by first | exact (Or.inl ⟨(by unfold isNm; omega), rfl, rfl⟩) | exact (Or.inr ⟨(by unfold isNm; omega), rfl, rfl⟩)) hW
          · refine lv_iload_n S.1 S.2.1 d_T_isInNames_36 rfl (lv_at hl 0 rfl) ?_
            refine lv_bipush (v := (nI 95)) S.1 S.2.1 d_T_isInNames_37 (by decide) ?_
            refine n_icmp_eq (tgt := 48) S (by omega) (by omega) d_T_isInNames_39 (by decide) (fun c_39 => ?_) (fun c_39 => ?_)
            · refine lv_iconst (v := (nI 1)) S.1 S.2.1 d_T_isInNames_48 (by decide) ?_
              refine lv_goto (tgt := 53) S.1 S.2.1 d_T_isInNames_49 (by decide) ?_
              exact ret _ _ _ _ _ _ d_T_isInNames_53 rfl (by first | exact (Or.inl ⟨(by unfold isNm; omega), rfl, rfl⟩) | exact (Or.inr ⟨(by unfold isNm; omega), rfl, rfl⟩)) hW
            · refine lv_iload_n S.1 S.2.1 d_T_isInNames_42 rfl (lv_at hl 0 rfl) ?_
              refine lv_bipush (v := (nI 39)) S.1 S.2.1 d_T_isInNames_43 (by decide) ?_
              refine n_icmp_ne (tgt := 52) S (by omega) (by omega) d_T_isInNames_45 (by decide) (fun c_45 => ?_) (fun c_45 => ?_)
              · refine lv_iconst (v := (nI 0)) S.1 S.2.1 d_T_isInNames_52 (by decide) ?_
                exact ret _ _ _ _ _ _ d_T_isInNames_53 rfl (by first | exact (Or.inl ⟨(by unfold isNm; omega), rfl, rfl⟩) | exact (Or.inr ⟨(by unfold isNm; omega), rfl, rfl⟩)) hW
              · refine lv_iconst (v := (nI 1)) S.1 S.2.1 d_T_isInNames_48 (by decide) ?_
                refine lv_goto (tgt := 53) S.1 S.2.1 d_T_isInNames_49 (by decide) ?_
                exact ret _ _ _ _ _ _ d_T_isInNames_53 rfl (by first | exact (Or.inl ⟨(by unfold isNm; omega), rfl, rfl⟩) | exact (Or.inr ⟨(by unfold isNm; omega), rfl, rfl⟩)) hW
  · refine lv_iload_n S.1 S.2.1 d_T_isInNames_6 rfl (lv_at hl 0 rfl) ?_
    refine lv_bipush (v := (nI 122)) S.1 S.2.1 d_T_isInNames_7 (by decide) ?_
    refine n_icmp_le (tgt := 48) S (by omega) (by omega) d_T_isInNames_9 (by decide) (fun c_9 => ?_) (fun c_9 => ?_)
    · refine lv_iconst (v := (nI 1)) S.1 S.2.1 d_T_isInNames_48 (by decide) ?_
      refine lv_goto (tgt := 53) S.1 S.2.1 d_T_isInNames_49 (by decide) ?_
      exact ret _ _ _ _ _ _ d_T_isInNames_53 rfl (by first | exact (Or.inl ⟨(by unfold isNm; omega), rfl, rfl⟩) | exact (Or.inr ⟨(by unfold isNm; omega), rfl, rfl⟩)) hW
    · refine lv_iload_n S.1 S.2.1 d_T_isInNames_12 rfl (lv_at hl 0 rfl) ?_
      refine lv_bipush (v := (nI 65)) S.1 S.2.1 d_T_isInNames_13 (by decide) ?_
      refine n_icmp_lt (tgt := 24) S (by omega) (by omega) d_T_isInNames_15 (by decide) (fun c_15 => ?_) (fun c_15 => ?_)
      · refine lv_iload_n S.1 S.2.1 d_T_isInNames_24 rfl (lv_at hl 0 rfl) ?_
        refine lv_bipush (v := (nI 48)) S.1 S.2.1 d_T_isInNames_25 (by decide) ?_
        refine n_icmp_lt (tgt := 36) S (by omega) (by omega) d_T_isInNames_27 (by decide) (fun c_27 => ?_) (fun c_27 => ?_)
        · refine lv_iload_n S.1 S.2.1 d_T_isInNames_36 rfl (lv_at hl 0 rfl) ?_
          refine lv_bipush (v := (nI 95)) S.1 S.2.1 d_T_isInNames_37 (by decide) ?_
          refine n_icmp_eq (tgt := 48) S (by omega) (by omega) d_T_isInNames_39 (by decide) (fun c_39 => ?_) (fun c_39 => ?_)
          · refine lv_iconst (v := (nI 1)) S.1 S.2.1 d_T_isInNames_48 (by decide) ?_
            refine lv_goto (tgt := 53) S.1 S.2.1 d_T_isInNames_49 (by decide) ?_
            exact ret _ _ _ _ _ _ d_T_isInNames_53 rfl (by first | exact (Or.inl ⟨(by unfold isNm; omega), rfl, rfl⟩) | exact (Or.inr ⟨(by unfold isNm; omega), rfl, rfl⟩)) hW
          · refine lv_iload_n S.1 S.2.1 d_T_isInNames_42 rfl (lv_at hl 0 rfl) ?_
            refine lv_bipush (v := (nI 39)) S.1 S.2.1 d_T_isInNames_43 (by decide) ?_
            refine n_icmp_ne (tgt := 52) S (by omega) (by omega) d_T_isInNames_45 (by decide) (fun c_45 => ?_) (fun c_45 => ?_)
            · refine lv_iconst (v := (nI 0)) S.1 S.2.1 d_T_isInNames_52 (by decide) ?_
              exact ret _ _ _ _ _ _ d_T_isInNames_53 rfl (by first | exact (Or.inl ⟨(by unfold isNm; omega), rfl, rfl⟩) | exact (Or.inr ⟨(by unfold isNm; omega), rfl, rfl⟩)) hW
            · refine lv_iconst (v := (nI 1)) S.1 S.2.1 d_T_isInNames_48 (by decide) ?_
              refine lv_goto (tgt := 53) S.1 S.2.1 d_T_isInNames_49 (by decide) ?_
              exact ret _ _ _ _ _ _ d_T_isInNames_53 rfl (by first | exact (Or.inl ⟨(by unfold isNm; omega), rfl, rfl⟩) | exact (Or.inr ⟨(by unfold isNm; omega), rfl, rfl⟩)) hW
        · refine lv_iload_n S.1 S.2.1 d_T_isInNames_30 rfl (lv_at hl 0 rfl) ?_
          refine lv_bipush (v := (nI 57)) S.1 S.2.1 d_T_isInNames_31 (by decide) ?_
          refine n_icmp_le (tgt := 48) S (by omega) (by omega) d_T_isInNames_33 (by decide) (fun c_33 => ?_) (fun c_33 => ?_)
          · refine lv_iconst (v := (nI 1)) S.1 S.2.1 d_T_isInNames_48 (by decide) ?_
            refine lv_goto (tgt := 53) S.1 S.2.1 d_T_isInNames_49 (by decide) ?_
            exact ret _ _ _ _ _ _ d_T_isInNames_53 rfl (by first | exact (Or.inl ⟨(by unfold isNm; omega), rfl, rfl⟩) | exact (Or.inr ⟨(by unfold isNm; omega), rfl, rfl⟩)) hW
          · refine lv_iload_n S.1 S.2.1 d_T_isInNames_36 rfl (lv_at hl 0 rfl) ?_
            refine lv_bipush (v := (nI 95)) S.1 S.2.1 d_T_isInNames_37 (by decide) ?_
            refine n_icmp_eq (tgt := 48) S (by omega) (by omega) d_T_isInNames_39 (by decide) (fun c_39 => ?_) (fun c_39 => ?_)
            · refine lv_iconst (v := (nI 1)) S.1 S.2.1 d_T_isInNames_48 (by decide) ?_
              refine lv_goto (tgt := 53) S.1 S.2.1 d_T_isInNames_49 (by decide) ?_
              exact ret _ _ _ _ _ _ d_T_isInNames_53 rfl (by first | exact (Or.inl ⟨(by unfold isNm; omega), rfl, rfl⟩) | exact (Or.inr ⟨(by unfold isNm; omega), rfl, rfl⟩)) hW
            · refine lv_iload_n S.1 S.2.1 d_T_isInNames_42 rfl (lv_at hl 0 rfl) ?_
              refine lv_bipush (v := (nI 39)) S.1 S.2.1 d_T_isInNames_43 (by decide) ?_
              refine n_icmp_ne (tgt := 52) S (by omega) (by omega) d_T_isInNames_45 (by decide) (fun c_45 => ?_) (fun c_45 => ?_)
              · refine lv_iconst (v := (nI 0)) S.1 S.2.1 d_T_isInNames_52 (by decide) ?_
                exact ret _ _ _ _ _ _ d_T_isInNames_53 rfl (by first | exact (Or.inl ⟨(by unfold isNm; omega), rfl, rfl⟩) | exact (Or.inr ⟨(by unfold isNm; omega), rfl, rfl⟩)) hW
              · refine lv_iconst (v := (nI 1)) S.1 S.2.1 d_T_isInNames_48 (by decide) ?_
                refine lv_goto (tgt := 53) S.1 S.2.1 d_T_isInNames_49 (by decide) ?_
                exact ret _ _ _ _ _ _ d_T_isInNames_53 rfl (by first | exact (Or.inl ⟨(by unfold isNm; omega), rfl, rfl⟩) | exact (Or.inr ⟨(by unfold isNm; omega), rfl, rfl⟩)) hW
      · refine lv_iload_n S.1 S.2.1 d_T_isInNames_18 rfl (lv_at hl 0 rfl) ?_
        refine lv_bipush (v := (nI 90)) S.1 S.2.1 d_T_isInNames_19 (by decide) ?_
        refine n_icmp_le (tgt := 48) S (by omega) (by omega) d_T_isInNames_21 (by decide) (fun c_21 => ?_) (fun c_21 => ?_)
        · refine lv_iconst (v := (nI 1)) S.1 S.2.1 d_T_isInNames_48 (by decide) ?_
          refine lv_goto (tgt := 53) S.1 S.2.1 d_T_isInNames_49 (by decide) ?_
          exact ret _ _ _ _ _ _ d_T_isInNames_53 rfl (by first | exact (Or.inl ⟨(by unfold isNm; omega), rfl, rfl⟩) | exact (Or.inr ⟨(by unfold isNm; omega), rfl, rfl⟩)) hW
        · refine lv_iload_n S.1 S.2.1 d_T_isInNames_24 rfl (lv_at hl 0 rfl) ?_
          refine lv_bipush (v := (nI 48)) S.1 S.2.1 d_T_isInNames_25 (by decide) ?_
          refine n_icmp_lt (tgt := 36) S (by omega) (by omega) d_T_isInNames_27 (by decide) (fun c_27 => ?_) (fun c_27 => ?_)
          · refine lv_iload_n S.1 S.2.1 d_T_isInNames_36 rfl (lv_at hl 0 rfl) ?_
            refine lv_bipush (v := (nI 95)) S.1 S.2.1 d_T_isInNames_37 (by decide) ?_
            refine n_icmp_eq (tgt := 48) S (by omega) (by omega) d_T_isInNames_39 (by decide) (fun c_39 => ?_) (fun c_39 => ?_)
            · refine lv_iconst (v := (nI 1)) S.1 S.2.1 d_T_isInNames_48 (by decide) ?_
              refine lv_goto (tgt := 53) S.1 S.2.1 d_T_isInNames_49 (by decide) ?_
              exact ret _ _ _ _ _ _ d_T_isInNames_53 rfl (by first | exact (Or.inl ⟨(by unfold isNm; omega), rfl, rfl⟩) | exact (Or.inr ⟨(by unfold isNm; omega), rfl, rfl⟩)) hW
            · refine lv_iload_n S.1 S.2.1 d_T_isInNames_42 rfl (lv_at hl 0 rfl) ?_
              refine lv_bipush (v := (nI 39)) S.1 S.2.1 d_T_isInNames_43 (by decide) ?_
              refine n_icmp_ne (tgt := 52) S (by omega) (by omega) d_T_isInNames_45 (by decide) (fun c_45 => ?_) (fun c_45 => ?_)
              · refine lv_iconst (v := (nI 0)) S.1 S.2.1 d_T_isInNames_52 (by decide) ?_
                exact ret _ _ _ _ _ _ d_T_isInNames_53 rfl (by first | exact (Or.inl ⟨(by unfold isNm; omega), rfl, rfl⟩) | exact (Or.inr ⟨(by unfold isNm; omega), rfl, rfl⟩)) hW
              · refine lv_iconst (v := (nI 1)) S.1 S.2.1 d_T_isInNames_48 (by decide) ?_
                refine lv_goto (tgt := 53) S.1 S.2.1 d_T_isInNames_49 (by decide) ?_
                exact ret _ _ _ _ _ _ d_T_isInNames_53 rfl (by first | exact (Or.inl ⟨(by unfold isNm; omega), rfl, rfl⟩) | exact (Or.inr ⟨(by unfold isNm; omega), rfl, rfl⟩)) hW
          · refine lv_iload_n S.1 S.2.1 d_T_isInNames_30 rfl (lv_at hl 0 rfl) ?_
            refine lv_bipush (v := (nI 57)) S.1 S.2.1 d_T_isInNames_31 (by decide) ?_
            refine n_icmp_le (tgt := 48) S (by omega) (by omega) d_T_isInNames_33 (by decide) (fun c_33 => ?_) (fun c_33 => ?_)
            · refine lv_iconst (v := (nI 1)) S.1 S.2.1 d_T_isInNames_48 (by decide) ?_
              refine lv_goto (tgt := 53) S.1 S.2.1 d_T_isInNames_49 (by decide) ?_
              exact ret _ _ _ _ _ _ d_T_isInNames_53 rfl (by first | exact (Or.inl ⟨(by unfold isNm; omega), rfl, rfl⟩) | exact (Or.inr ⟨(by unfold isNm; omega), rfl, rfl⟩)) hW
            · refine lv_iload_n S.1 S.2.1 d_T_isInNames_36 rfl (lv_at hl 0 rfl) ?_
              refine lv_bipush (v := (nI 95)) S.1 S.2.1 d_T_isInNames_37 (by decide) ?_
              refine n_icmp_eq (tgt := 48) S (by omega) (by omega) d_T_isInNames_39 (by decide) (fun c_39 => ?_) (fun c_39 => ?_)
              · refine lv_iconst (v := (nI 1)) S.1 S.2.1 d_T_isInNames_48 (by decide) ?_
                refine lv_goto (tgt := 53) S.1 S.2.1 d_T_isInNames_49 (by decide) ?_
                exact ret _ _ _ _ _ _ d_T_isInNames_53 rfl (by first | exact (Or.inl ⟨(by unfold isNm; omega), rfl, rfl⟩) | exact (Or.inr ⟨(by unfold isNm; omega), rfl, rfl⟩)) hW
              · refine lv_iload_n S.1 S.2.1 d_T_isInNames_42 rfl (lv_at hl 0 rfl) ?_
                refine lv_bipush (v := (nI 39)) S.1 S.2.1 d_T_isInNames_43 (by decide) ?_
                refine n_icmp_ne (tgt := 52) S (by omega) (by omega) d_T_isInNames_45 (by decide) (fun c_45 => ?_) (fun c_45 => ?_)
                · refine lv_iconst (v := (nI 0)) S.1 S.2.1 d_T_isInNames_52 (by decide) ?_
                  exact ret _ _ _ _ _ _ d_T_isInNames_53 rfl (by first | exact (Or.inl ⟨(by unfold isNm; omega), rfl, rfl⟩) | exact (Or.inr ⟨(by unfold isNm; omega), rfl, rfl⟩)) hW
                · refine lv_iconst (v := (nI 1)) S.1 S.2.1 d_T_isInNames_48 (by decide) ?_
                  refine lv_goto (tgt := 53) S.1 S.2.1 d_T_isInNames_49 (by decide) ?_
                  exact ret _ _ _ _ _ _ d_T_isInNames_53 rfl (by first | exact (Or.inl ⟨(by unfold isNm; omega), rfl, rfl⟩) | exact (Or.inr ⟨(by unfold isNm; omega), rfl, rfl⟩)) hW
theorem d_T_isSingle_0 : decode b_T_isSingle 0 = .ok (.iload_n 0, 1) := by decide +kernel
theorem d_T_isSingle_1 : decode b_T_isSingle 1 = .ok (.lookupswitch 93 #[(40, 91), (41, 91), (46, 91), (58, 91), (61, 91), (63, 91), (91, 91), (93, 91), (123, 91), (125, 91)], 91) := by decide +kernel
theorem d_T_isSingle_92 : decode b_T_isSingle 92 = .ok (.iconst 1, 1) := by decide +kernel
theorem d_T_isSingle_93 : decode b_T_isSingle 93 = .ok (.ireturn, 1) := by decide +kernel
theorem d_T_isSingle_94 : decode b_T_isSingle 94 = .ok (.iconst 0, 1) := by decide +kernel
theorem d_T_isSingle_95 : decode b_T_isSingle 95 = .ok (.ireturn, 1) := by decide +kernel
set_option maxHeartbeats 4000000 in
set_option maxRecDepth 100000 in
theorem c_T_isSingle (l : Launch) (D : va_G) (cI cJ cB cZ : ClassId) (x : Nat) (hx : x < 256) : Ci l D (tyl cI cJ cB cZ) y_T_isSingle b_T_isSingle 1 (some .boolean) ({ frames := 0, cells := 0, slots := 0, locals := 0 } : Room) [.int (nI x)] [] (fun r u => ((isSg x) ∧ r = (nI 1) ∧ u = []) ∨ ((¬ isSg x) ∧ r = (nI 0) ∧ u = [])) := by
  refine met_i (own := "ProofReader$Tokens") (by decide) rfl (Nat.le_of_ble_eq_true rfl) ?_
  intro p e s m args below meth c A Q S hA ret ls hl hW
  have hl : lv_has ls 1 [(0, .int (nI x))] := hl
  have hW : Wd D (tyl cI cJ cB cZ) A s s.heap s.heap [] [] := hW
  refine lv_iload_n S.1 S.2.1 d_T_isSingle_0 rfl (lv_at hl 0 rfl) ?_
  by_cases e_1_40 : x = 40
  · refine top_eq (y := nI 40) (by rw [e_1_40]) ?_
    refine lv_lookup (tgt := 92) (off := 91) S.1 S.2.1 d_T_isSingle_1 (by decide) (by decide) (by decide) ?_
    refine lv_iconst (v := (nI 1)) S.1 S.2.1 d_T_isSingle_92 (by decide) ?_
    exact ret _ _ _ _ _ _ d_T_isSingle_93 rfl (by first | exact (Or.inl ⟨(by unfold isSg; omega), rfl, rfl⟩) | exact (Or.inr ⟨(by unfold isSg; omega), rfl, rfl⟩)) hW
  by_cases e_1_41 : x = 41
  · refine top_eq (y := nI 41) (by rw [e_1_41]) ?_
    refine lv_lookup (tgt := 92) (off := 91) S.1 S.2.1 d_T_isSingle_1 (by decide) (by decide) (by decide) ?_
    refine lv_iconst (v := (nI 1)) S.1 S.2.1 d_T_isSingle_92 (by decide) ?_
    exact ret _ _ _ _ _ _ d_T_isSingle_93 rfl (by first | exact (Or.inl ⟨(by unfold isSg; omega), rfl, rfl⟩) | exact (Or.inr ⟨(by unfold isSg; omega), rfl, rfl⟩)) hW
  by_cases e_1_46 : x = 46
  · refine top_eq (y := nI 46) (by rw [e_1_46]) ?_
    refine lv_lookup (tgt := 92) (off := 91) S.1 S.2.1 d_T_isSingle_1 (by decide) (by decide) (by decide) ?_
    refine lv_iconst (v := (nI 1)) S.1 S.2.1 d_T_isSingle_92 (by decide) ?_
    exact ret _ _ _ _ _ _ d_T_isSingle_93 rfl (by first | exact (Or.inl ⟨(by unfold isSg; omega), rfl, rfl⟩) | exact (Or.inr ⟨(by unfold isSg; omega), rfl, rfl⟩)) hW
  by_cases e_1_58 : x = 58
  · refine top_eq (y := nI 58) (by rw [e_1_58]) ?_
    refine lv_lookup (tgt := 92) (off := 91) S.1 S.2.1 d_T_isSingle_1 (by decide) (by decide) (by decide) ?_
    refine lv_iconst (v := (nI 1)) S.1 S.2.1 d_T_isSingle_92 (by decide) ?_
    exact ret _ _ _ _ _ _ d_T_isSingle_93 rfl (by first | exact (Or.inl ⟨(by unfold isSg; omega), rfl, rfl⟩) | exact (Or.inr ⟨(by unfold isSg; omega), rfl, rfl⟩)) hW
  by_cases e_1_61 : x = 61
  · refine top_eq (y := nI 61) (by rw [e_1_61]) ?_
    refine lv_lookup (tgt := 92) (off := 91) S.1 S.2.1 d_T_isSingle_1 (by decide) (by decide) (by decide) ?_
    refine lv_iconst (v := (nI 1)) S.1 S.2.1 d_T_isSingle_92 (by decide) ?_
    exact ret _ _ _ _ _ _ d_T_isSingle_93 rfl (by first | exact (Or.inl ⟨(by unfold isSg; omega), rfl, rfl⟩) | exact (Or.inr ⟨(by unfold isSg; omega), rfl, rfl⟩)) hW
  by_cases e_1_63 : x = 63
  · refine top_eq (y := nI 63) (by rw [e_1_63]) ?_
    refine lv_lookup (tgt := 92) (off := 91) S.1 S.2.1 d_T_isSingle_1 (by decide) (by decide) (by decide) ?_
    refine lv_iconst (v := (nI 1)) S.1 S.2.1 d_T_isSingle_92 (by decide) ?_
    exact ret _ _ _ _ _ _ d_T_isSingle_93 rfl (by first | exact (Or.inl ⟨(by unfold isSg; omega), rfl, rfl⟩) | exact (Or.inr ⟨(by unfold isSg; omega), rfl, rfl⟩)) hW
  by_cases e_1_91 : x = 91
  · refine top_eq (y := nI 91) (by rw [e_1_91]) ?_
    refine lv_lookup (tgt := 92) (off := 91) S.1 S.2.1 d_T_isSingle_1 (by decide) (by decide) (by decide) ?_
    refine lv_iconst (v := (nI 1)) S.1 S.2.1 d_T_isSingle_92 (by decide) ?_
    exact ret _ _ _ _ _ _ d_T_isSingle_93 rfl (by first | exact (Or.inl ⟨(by unfold isSg; omega), rfl, rfl⟩) | exact (Or.inr ⟨(by unfold isSg; omega), rfl, rfl⟩)) hW
  by_cases e_1_93 : x = 93
  · refine top_eq (y := nI 93) (by rw [e_1_93]) ?_
    refine lv_lookup (tgt := 92) (off := 91) S.1 S.2.1 d_T_isSingle_1 (by decide) (by decide) (by decide) ?_
    refine lv_iconst (v := (nI 1)) S.1 S.2.1 d_T_isSingle_92 (by decide) ?_
    exact ret _ _ _ _ _ _ d_T_isSingle_93 rfl (by first | exact (Or.inl ⟨(by unfold isSg; omega), rfl, rfl⟩) | exact (Or.inr ⟨(by unfold isSg; omega), rfl, rfl⟩)) hW
  by_cases e_1_123 : x = 123
  · refine top_eq (y := nI 123) (by rw [e_1_123]) ?_
    refine lv_lookup (tgt := 92) (off := 91) S.1 S.2.1 d_T_isSingle_1 (by decide) (by decide) (by decide) ?_
    refine lv_iconst (v := (nI 1)) S.1 S.2.1 d_T_isSingle_92 (by decide) ?_
    exact ret _ _ _ _ _ _ d_T_isSingle_93 rfl (by first | exact (Or.inl ⟨(by unfold isSg; omega), rfl, rfl⟩) | exact (Or.inr ⟨(by unfold isSg; omega), rfl, rfl⟩)) hW
  by_cases e_1_125 : x = 125
  · refine top_eq (y := nI 125) (by rw [e_1_125]) ?_
    refine lv_lookup (tgt := 92) (off := 91) S.1 S.2.1 d_T_isSingle_1 (by decide) (by decide) (by decide) ?_
    refine lv_iconst (v := (nI 1)) S.1 S.2.1 d_T_isSingle_92 (by decide) ?_
    exact ret _ _ _ _ _ _ d_T_isSingle_93 rfl (by first | exact (Or.inl ⟨(by unfold isSg; omega), rfl, rfl⟩) | exact (Or.inr ⟨(by unfold isSg; omega), rfl, rfl⟩)) hW
  refine lv_lookup (tgt := 94) (off := 93) S.1 S.2.1 d_T_isSingle_1 (by decide) ((lv_osw (k := nI 40) (fun h => e_1_40 ((nI_eq (by omega) (by decide)).mp h)) (by decide)).trans ((lv_osw (k := nI 41) (fun h => e_1_41 ((nI_eq (by omega) (by decide)).mp h)) (by decide)).trans ((lv_osw (k := nI 46) (fun h => e_1_46 ((nI_eq (by omega) (by decide)).mp h)) (by decide)).trans ((lv_osw (k := nI 58) (fun h => e_1_58 ((nI_eq (by omega) (by decide)).mp h)) (by decide)).trans ((lv_osw (k := nI 61) (fun h => e_1_61 ((nI_eq (by omega) (by decide)).mp h)) (by decide)).trans ((lv_osw (k := nI 63) (fun h => e_1_63 ((nI_eq (by omega) (by decide)).mp h)) (by decide)).trans ((lv_osw (k := nI 91) (fun h => e_1_91 ((nI_eq (by omega) (by decide)).mp h)) (by decide)).trans ((lv_osw (k := nI 93) (fun h => e_1_93 ((nI_eq (by omega) (by decide)).mp h)) (by decide)).trans ((lv_osw (k := nI 123) (fun h => e_1_123 ((nI_eq (by omega) (by decide)).mp h)) (by decide)).trans ((lv_osw (k := nI 125) (fun h => e_1_125 ((nI_eq (by omega) (by decide)).mp h)) (by decide)).trans rfl)))))))))) (by decide) ?_
  refine lv_iconst (v := (nI 0)) S.1 S.2.1 d_T_isSingle_94 (by decide) ?_
  exact ret _ _ _ _ _ _ d_T_isSingle_95 rfl (by first | exact (Or.inl ⟨(by unfold isSg; omega), rfl, rfl⟩) | exact (Or.inr ⟨(by unfold isSg; omega), rfl, rfl⟩)) hW
theorem d_T_at_0 : decode b_T_at 0 = .ok (.aload_n 0, 1) := by decide +kernel
theorem d_T_at_1 : decode b_T_at 1 = .ok (.getfield 9, 3) := by decide +kernel
theorem d_T_at_4 : decode b_T_at 4 = .ok (.iload_n 1, 1) := by decide +kernel
theorem d_T_at_5 : decode b_T_at 5 = .ok (.baload, 1) := by decide +kernel
theorem d_T_at_6 : decode b_T_at 6 = .ok (.sipush 255, 3) := by decide +kernel
theorem d_T_at_9 : decode b_T_at 9 = .ok (.iand, 1) := by decide +kernel
theorem d_T_at_10 : decode b_T_at 10 = .ok (.ireturn, 1) := by decide +kernel
set_option maxHeartbeats 4000000 in
set_option maxRecDepth 100000 in
theorem c_T_at (l : Launch) (D : va_G) (cI cJ cB cZ : ClassId) (aT aF aTb : Nat) (b : Nat → Nat) (i : Nat) (nx ln kd st : Int32) (fr bk : Int64) (hb : ∀ j, b j < 256) (hi : i < 8192) : Ci l D (tyl cI cJ cB cZ) y_T_at b_T_at 2 (some .int) ({ frames := 0, cells := 0, slots := 0, locals := 0 } : Room) [.ref aT, .int (nI i)] [(aT, .inr (3, [.ref aF, .ref aTb, .int nx, .int ln, .int kd, .int st, .long fr, .long bk])), (aTb, .inl (cB, 8192, .inl (sby b)))] (fun r u => r = (nI (b i)) ∧ u = [(aT, .inr (3, [.ref aF, .ref aTb, .int nx, .int ln, .int kd, .int st, .long fr, .long bk])), (aTb, .inl (cB, 8192, .inl (sby b)))]) := by
  refine met_i (own := "ProofReader$Tokens") (by decide) rfl (Nat.le_of_ble_eq_true rfl) ?_
  intro p e s m args below meth c A Q S hA ret ls hl hW
  have hl : lv_has ls 2 [(0, .ref aT), (1, .int (nI i))] := hl
  have hW : Wd D (tyl cI cJ cB cZ) A s s.heap s.heap [] [(aT, .inr (3, [.ref aF, .ref aTb, .int nx, .int ln, .int kd, .int st, .long fr, .long bk])), (aTb, .inl (cB, 8192, .inl (sby b)))] := hW
  refine lv_aload_n S.1 S.2.1 d_T_at_0 rfl (lv_at hl 0 rfl) ?_
  refine g_get i_T S hW 0 rfl rfl 1 (by decide) kf_T_9 rfl d_T_at_1 ?_
  refine lv_iload_n S.1 S.2.1 d_T_at_4 rfl (lv_at hl 1 rfl) ?_
  refine n_bald S hW 1 2 rfl rfl (by decide) (by omega) d_T_at_5 ?_
  refine lv_sipush (v := (nI 255)) S.1 S.2.1 d_T_at_6 (by decide) ?_
  refine lv_iand S.1 S.2.1 d_T_at_9 ?_
  refine top_eq (y := (nI (b i))) (sby_and hb i) ?_
  exact ret _ _ _ _ _ _ d_T_at_10 rfl ⟨rfl, rfl⟩ hW
theorem d_T_append_0 : decode b_T_append 0 = .ok (.aload_n 0, 1) := by decide +kernel
theorem d_T_append_1 : decode b_T_append 1 = .ok (.getfield 19, 3) := by decide +kernel
theorem d_T_append_4 : decode b_T_append 4 = .ok (.sipush 8192, 3) := by decide +kernel
theorem d_T_append_7 : decode b_T_append 7 = .ok (.if_icmp .ge 23, 3) := by decide +kernel
theorem d_T_append_10 : decode b_T_append 10 = .ok (.aload_n 0, 1) := by decide +kernel
theorem d_T_append_11 : decode b_T_append 11 = .ok (.getfield 9, 3) := by decide +kernel
theorem d_T_append_14 : decode b_T_append 14 = .ok (.aload_n 0, 1) := by decide +kernel
theorem d_T_append_15 : decode b_T_append 15 = .ok (.getfield 19, 3) := by decide +kernel
theorem d_T_append_18 : decode b_T_append 18 = .ok (.iload_n 1, 1) := by decide +kernel
theorem d_T_append_19 : decode b_T_append 19 = .ok (.bastore, 1) := by decide +kernel
theorem d_T_append_20 : decode b_T_append 20 = .ok (.aload_n 0, 1) := by decide +kernel
theorem d_T_append_21 : decode b_T_append 21 = .ok (.dup, 1) := by decide +kernel
theorem d_T_append_22 : decode b_T_append 22 = .ok (.getfield 19, 3) := by decide +kernel
theorem d_T_append_25 : decode b_T_append 25 = .ok (.iconst 1, 1) := by decide +kernel
theorem d_T_append_26 : decode b_T_append 26 = .ok (.iadd, 1) := by decide +kernel
theorem d_T_append_27 : decode b_T_append 27 = .ok (.putfield 19, 3) := by decide +kernel
theorem d_T_append_30 : decode b_T_append 30 = .ok (.return_, 1) := by decide +kernel
set_option maxHeartbeats 4000000 in
set_option maxRecDepth 100000 in
theorem c_T_append (l : Launch) (D : va_G) (cI cJ cB cZ : ClassId) (aT aF aTb : Nat) (b : Nat → Nat) (ln v : Nat) (nx kd st : Int32) (fr bk : Int64) (hln : ln < 8192) : Cv l D (tyl cI cJ cB cZ) y_T_append b_T_append 2 ({ frames := 0, cells := 0, slots := 0, locals := 0 } : Room) [.ref aT, .int ((nI v).toInt8.toInt32)] [(aT, .inr (3, [.ref aF, .ref aTb, .int nx, .int (nI ln), .int kd, .int st, .long fr, .long bk])), (aTb, .inl (cB, 8192, .inl (sby b)))] (fun u => u = [(aT, .inr (3, [.ref aF, .ref aTb, .int nx, .int (nI (ln + 1)), .int kd, .int st, .long fr, .long bk])), (aTb, .inl (cB, 8192, .inl (sby (updN b ln v))))]) := by
  refine met_v (own := "ProofReader$Tokens") (by decide) rfl (Nat.le_of_ble_eq_true rfl) ?_
  intro p e s m args below meth c A Q S hin hA ret ls hl hW
  have hl : lv_has ls 2 [(0, .ref aT), (1, .int ((nI v).toInt8.toInt32))] := hl
  have hW : Wd D (tyl cI cJ cB cZ) A s s.heap s.heap [] [(aT, .inr (3, [.ref aF, .ref aTb, .int nx, .int (nI ln), .int kd, .int st, .long fr, .long bk])), (aTb, .inl (cB, 8192, .inl (sby b)))] := hW
  refine lv_aload_n S.1 S.2.1 d_T_append_0 rfl (lv_at hl 0 rfl) ?_
  refine g_get i_T S hW 0 rfl rfl 3 (by decide) kf_T_19 rfl d_T_append_1 ?_
  refine lv_sipush (v := (nI 8192)) S.1 S.2.1 d_T_append_4 (by decide) ?_
  refine n_icmp_ge (tgt := 30) S (by omega) (by omega) d_T_append_7 (by decide) (fun c_7 => absurd c_7 (by omega)) (fun c_7 => ?_)
  refine lv_aload_n S.1 S.2.1 d_T_append_10 rfl (lv_at hl 0 rfl) ?_
  refine g_get i_T S hW 0 rfl rfl 1 (by decide) kf_T_9 rfl d_T_append_11 ?_
  refine lv_aload_n S.1 S.2.1 d_T_append_14 rfl (lv_at hl 0 rfl) ?_
  refine g_get i_T S hW 0 rfl rfl 3 (by decide) kf_T_19 rfl d_T_append_15 ?_
  refine lv_iload_n S.1 S.2.1 d_T_append_18 rfl (lv_at hl 1 rfl) ?_
  refine n_bast (ws2 := [(aT, .inr (3, [.ref aF, .ref aTb, .int nx, .int (nI ln), .int kd, .int st, .long fr, .long bk])), (aTb, .inl (cB, 8192, .inl (upd (sby b) ln (((nI v).toInt8.toInt32).toInt8.toInt32))))]) S hW 1 2 rfl rfl (by decide) (by omega) rfl d_T_append_19 (fun H locs hW => ?_)
  have hW : Wd D (tyl cI cJ cB cZ) A s s.heap H locs [(aT, .inr (3, [.ref aF, .ref aTb, .int nx, .int (nI ln), .int kd, .int st, .long fr, .long bk])), (aTb, .inl (cB, 8192, .inl (sby (updN b ln v))))] := by have q := hW; rw [sby_upd] at q; exact q
  refine lv_aload_n S.1 S.2.1 d_T_append_20 rfl (lv_at hl 0 rfl) ?_
  refine lv_dup S.1 S.2.1 d_T_append_21 rfl ?_
  refine g_get i_T S hW 0 rfl rfl 3 (by decide) kf_T_19 rfl d_T_append_22 ?_
  refine lv_iconst (v := (nI 1)) S.1 S.2.1 d_T_append_25 (by decide) ?_
  refine n_iadd S d_T_append_26 ?_
  refine g_put (ws2 := [(aT, .inr (3, [.ref aF, .ref aTb, .int nx, .int (nI (ln + 1)), .int kd, .int st, .long fr, .long bk])), (aTb, .inl (cB, 8192, .inl (sby (updN b ln v))))]) i_T ft_T ft_T_ok n_T S hW 0 rfl rfl 3 (by decide) kf_T_19 rfl rfl rfl (Nat.le_of_ble_eq_true rfl) rfl d_T_append_27 (fun H locs hW => ?_)
  exact ret _ _ _ _ _ d_T_append_30 rfl hW
theorem d_T_takeArrow_0 : decode b_T_takeArrow 0 = .ok (.aload_n 0, 1) := by decide +kernel
theorem d_T_takeArrow_1 : decode b_T_takeArrow 1 = .ok (.iconst 3, 1) := by decide +kernel
theorem d_T_takeArrow_2 : decode b_T_takeArrow 2 = .ok (.putfield 22, 3) := by decide +kernel
theorem d_T_takeArrow_5 : decode b_T_takeArrow 5 = .ok (.aload_n 0, 1) := by decide +kernel
theorem d_T_takeArrow_6 : decode b_T_takeArrow 6 = .ok (.dup, 1) := by decide +kernel
theorem d_T_takeArrow_7 : decode b_T_takeArrow 7 = .ok (.getfield 15, 3) := by decide +kernel
theorem d_T_takeArrow_10 : decode b_T_takeArrow 10 = .ok (.iconst 2, 1) := by decide +kernel
theorem d_T_takeArrow_11 : decode b_T_takeArrow 11 = .ok (.iadd, 1) := by decide +kernel
theorem d_T_takeArrow_12 : decode b_T_takeArrow 12 = .ok (.putfield 15, 3) := by decide +kernel
theorem d_T_takeArrow_15 : decode b_T_takeArrow 15 = .ok (.aload_n 0, 1) := by decide +kernel
theorem d_T_takeArrow_16 : decode b_T_takeArrow 16 = .ok (.getfield 15, 3) := by decide +kernel
theorem d_T_takeArrow_19 : decode b_T_takeArrow 19 = .ok (.aload_n 0, 1) := by decide +kernel
theorem d_T_takeArrow_20 : decode b_T_takeArrow 20 = .ok (.getfield 19, 3) := by decide +kernel
theorem d_T_takeArrow_23 : decode b_T_takeArrow 23 = .ok (.if_icmp .gt 18, 3) := by decide +kernel
theorem d_T_takeArrow_26 : decode b_T_takeArrow 26 = .ok (.aload_n 0, 1) := by decide +kernel
theorem d_T_takeArrow_27 : decode b_T_takeArrow 27 = .ok (.aload_n 0, 1) := by decide +kernel
theorem d_T_takeArrow_28 : decode b_T_takeArrow 28 = .ok (.getfield 15, 3) := by decide +kernel
theorem d_T_takeArrow_31 : decode b_T_takeArrow 31 = .ok (.iconst 1, 1) := by decide +kernel
theorem d_T_takeArrow_32 : decode b_T_takeArrow 32 = .ok (.isub, 1) := by decide +kernel
theorem d_T_takeArrow_33 : decode b_T_takeArrow 33 = .ok (.invokevirtual 39, 3) := by decide +kernel
theorem d_T_takeArrow_36 : decode b_T_takeArrow 36 = .ok (.bipush 62, 2) := by decide +kernel
theorem d_T_takeArrow_38 : decode b_T_takeArrow 38 = .ok (.if_icmp .eq 18, 3) := by decide +kernel
theorem d_T_takeArrow_41 : decode b_T_takeArrow 41 = .ok (.aload_n 0, 1) := by decide +kernel
theorem d_T_takeArrow_42 : decode b_T_takeArrow 42 = .ok (.getfield 35, 3) := by decide +kernel
theorem d_T_takeArrow_45 : decode b_T_takeArrow 45 = .ok (.iconst 1, 1) := by decide +kernel
theorem d_T_takeArrow_46 : decode b_T_takeArrow 46 = .ok (.aload_n 0, 1) := by decide +kernel
theorem d_T_takeArrow_47 : decode b_T_takeArrow 47 = .ok (.getfield 25, 3) := by decide +kernel
theorem d_T_takeArrow_50 : decode b_T_takeArrow 50 = .ok (.invokevirtual 57, 3) := by decide +kernel
theorem d_T_takeArrow_53 : decode b_T_takeArrow 53 = .ok (.ifCond .eq 7, 3) := by decide +kernel
theorem d_T_takeArrow_56 : decode b_T_takeArrow 56 = .ok (.iconst 1, 1) := by decide +kernel
theorem d_T_takeArrow_57 : decode b_T_takeArrow 57 = .ok (.goto 4, 3) := by decide +kernel
theorem d_T_takeArrow_60 : decode b_T_takeArrow 60 = .ok (.iconst 0, 1) := by decide +kernel
theorem d_T_takeArrow_61 : decode b_T_takeArrow 61 = .ok (.ireturn, 1) := by decide +kernel
set_option maxHeartbeats 4000000 in
set_option maxRecDepth 100000 in
theorem c_T_takeArrow (l : Launch) (D : va_G) (cI cJ cB cZ : ClassId) (aT aF aTb : Nat) (b : Nat → Nat) (q ln : Nat) (kd fn fw : Int32) (fr bk : Int64) (hb : ∀ j, b j < 256) (hq : q < ln) (hln : ln ≤ 8192) : Ci l D (tyl cI cJ cB cZ) y_T_takeArrow b_T_takeArrow 1 (some .boolean) ({ frames := 1, cells := 0, slots := 0, locals := 22 } : Room) [.ref aT] [(aT, .inr (3, [.ref aF, .ref aTb, .int (nI q), .int (nI ln), .int kd, .int (nI q), .long fr, .long bk])), (aTb, .inl (cB, 8192, .inl (sby b))), (aF, .inr (0, [.int fn, .int fw]))] (fun r u => ((q + 1 < ln) ∧ (b (q + 1) = 62) ∧ r = (nI 1) ∧ u = [(aT, .inr (3, [.ref aF, .ref aTb, .int (nI (q + 2)), .int (nI ln), .int (nI 3), .int (nI q), .long fr, .long bk])), (aTb, .inl (cB, 8192, .inl (sby b))), (aF, .inr (0, [.int fn, .int fw]))]) ∨ ((¬ (q + 1 < ln ∧ b (q + 1) = 62)) ∧ r = (nI 0) ∧ u = [(aT, .inr (3, [.ref aF, .ref aTb, .int (nI (q + 2)), .int (nI ln), .int (nI 3), .int (nI q), .long fr, .long bk])), (aTb, .inl (cB, 8192, .inl (sby b))), (aF, .inr (0, [.int (nI 1), .int (nI q)]))])) := by
  refine met_i (own := "ProofReader$Tokens") (by decide) rfl (Nat.le_of_ble_eq_true rfl) ?_
  intro p e s m args below meth c A Q S hA ret ls hl hW
  have hl : lv_has ls 1 [(0, .ref aT)] := hl
  have hW : Wd D (tyl cI cJ cB cZ) A s s.heap s.heap [] [(aT, .inr (3, [.ref aF, .ref aTb, .int (nI q), .int (nI ln), .int kd, .int (nI q), .long fr, .long bk])), (aTb, .inl (cB, 8192, .inl (sby b))), (aF, .inr (0, [.int fn, .int fw]))] := hW
  refine lv_aload_n S.1 S.2.1 d_T_takeArrow_0 rfl (lv_at hl 0 rfl) ?_
  refine lv_iconst (v := (nI 3)) S.1 S.2.1 d_T_takeArrow_1 (by decide) ?_
  refine g_put (ws2 := [(aT, .inr (3, [.ref aF, .ref aTb, .int (nI q), .int (nI ln), .int (nI 3), .int (nI q), .long fr, .long bk])), (aTb, .inl (cB, 8192, .inl (sby b))), (aF, .inr (0, [.int fn, .int fw]))]) i_T ft_T ft_T_ok n_T S hW 0 rfl rfl 4 (by decide) kf_T_22 rfl rfl rfl (Nat.le_of_ble_eq_true rfl) rfl d_T_takeArrow_2 (fun H locs hW => ?_)
  refine lv_aload_n S.1 S.2.1 d_T_takeArrow_5 rfl (lv_at hl 0 rfl) ?_
  refine lv_dup S.1 S.2.1 d_T_takeArrow_6 rfl ?_
  refine g_get i_T S hW 0 rfl rfl 2 (by decide) kf_T_15 rfl d_T_takeArrow_7 ?_
  refine lv_iconst (v := (nI 2)) S.1 S.2.1 d_T_takeArrow_10 (by decide) ?_
  refine n_iadd S d_T_takeArrow_11 ?_
  refine g_put (ws2 := [(aT, .inr (3, [.ref aF, .ref aTb, .int (nI (q + 2)), .int (nI ln), .int (nI 3), .int (nI q), .long fr, .long bk])), (aTb, .inl (cB, 8192, .inl (sby b))), (aF, .inr (0, [.int fn, .int fw]))]) i_T ft_T ft_T_ok n_T S hW 0 rfl rfl 2 (by decide) kf_T_15 rfl rfl rfl (Nat.le_of_ble_eq_true rfl) rfl d_T_takeArrow_12 (fun H locs hW => ?_)
  refine lv_aload_n S.1 S.2.1 d_T_takeArrow_15 rfl (lv_at hl 0 rfl) ?_
  refine g_get i_T S hW 0 rfl rfl 2 (by decide) kf_T_15 rfl d_T_takeArrow_16 ?_
  refine lv_aload_n S.1 S.2.1 d_T_takeArrow_19 rfl (lv_at hl 0 rfl) ?_
  refine g_get i_T S hW 0 rfl rfl 3 (by decide) kf_T_19 rfl d_T_takeArrow_20 ?_
  refine n_icmp_gt (tgt := 41) S (by omega) (by omega) d_T_takeArrow_23 (by decide) (fun c_23 => ?_) (fun c_23 => ?_)
  · refine lv_aload_n S.1 S.2.1 d_T_takeArrow_41 rfl (lv_at hl 0 rfl) ?_
    refine g_get i_T S hW 0 rfl rfl 0 (by decide) kf_T_35 rfl d_T_takeArrow_42 ?_
    refine lv_iconst (v := (nI 1)) S.1 S.2.1 d_T_takeArrow_45 (by decide) ?_
    refine lv_aload_n S.1 S.2.1 d_T_takeArrow_46 rfl (lv_at hl 0 rfl) ?_
    refine g_get i_T S hW 0 rfl rfl 5 (by decide) kf_T_25 rfl d_T_takeArrow_47 ?_
    refine callV_i (wr := [(aT, .inr (3, [.ref aF, .ref aTb, .int (nI (q + 2)), .int (nI ln), .int (nI 3), .int (nI q), .long fr, .long bk])), (aTb, .inl (cB, 8192, .inl (sby b)))]) (wc := [(aF, .inr (0, [.int fn, .int fw]))]) (np := 2) (As := [.int (nI 1), .int (nI q)]) (rest := []) (c_F_met l D cI cJ cB cZ aF fn fw (nI 1) (nI q) ) km_T_57 ki_F_met kv_F_met kz_F kk_F_met (by decide +kernel) S hW hA ⟨Nat.le_of_ble_eq_true rfl, Nat.le_of_ble_eq_true rfl⟩ ⟨Nat.le_of_ble_eq_true rfl, Nat.le_of_ble_eq_true rfl⟩ rfl 0 rfl [2] [0, 1] rfl (by decide) rfl (by decide) (by decide) rfl hl.1 rfl (Nat.le_of_ble_eq_true rfl) d_T_takeArrow_50 (fun r u H locs hp hW => ?_)
    obtain ⟨rfl, rfl⟩ := hp
    have hW : Wd D (tyl cI cJ cB cZ) A s s.heap H locs [(aT, .inr (3, [.ref aF, .ref aTb, .int (nI (q + 2)), .int (nI ln), .int (nI 3), .int (nI q), .long fr, .long bk])), (aTb, .inl (cB, 8192, .inl (sby b))), (aF, .inr (0, [.int (nI 1), .int (nI q)]))] := hW
    refine lv_if_eq (tgt := 60) S.1 S.2.1 d_T_takeArrow_53 (by decide) (fun _ => ?_) (fun h => absurd h (by decide))
    refine lv_iconst (v := (nI 0)) S.1 S.2.1 d_T_takeArrow_60 (by decide) ?_
    exact ret _ _ _ _ _ _ d_T_takeArrow_61 rfl (by first | exact (Or.inl ⟨(by first | omega | assumption | simp_all), (by first | omega | assumption | simp_all), rfl, rfl⟩) | exact (Or.inr ⟨(by first | omega | assumption | simp_all), rfl, rfl⟩)) hW
  · refine lv_aload_n S.1 S.2.1 d_T_takeArrow_26 rfl (lv_at hl 0 rfl) ?_
    refine lv_aload_n S.1 S.2.1 d_T_takeArrow_27 rfl (lv_at hl 0 rfl) ?_
    refine g_get i_T S hW 0 rfl rfl 2 (by decide) kf_T_15 rfl d_T_takeArrow_28 ?_
    refine lv_iconst (v := (nI 1)) S.1 S.2.1 d_T_takeArrow_31 (by decide) ?_
    refine n_isub S (by omega) d_T_takeArrow_32 ?_
    refine callV_i (wr := [(aF, .inr (0, [.int fn, .int fw]))]) (wc := [(aT, .inr (3, [.ref aF, .ref aTb, .int (nI (q + 2)), .int (nI ln), .int (nI 3), .int (nI q), .long fr, .long bk])), (aTb, .inl (cB, 8192, .inl (sby b)))]) (np := 1) (As := [.int (nI ((q + 2) - 1))]) (rest := []) (c_T_at l D cI cJ cB cZ aT aF aTb b ((q + 2) - 1) (nI (q + 2)) (nI ln) (nI 3) (nI q) fr bk (by first | omega | assumption | simp_all) (by first | omega | assumption | simp_all)) km_T_39 ki_T_at kv_T_at kz_T kk_T_at (by decide +kernel) S hW hA ⟨Nat.le_of_ble_eq_true rfl, Nat.le_of_ble_eq_true rfl⟩ ⟨Nat.le_of_ble_eq_true rfl, Nat.le_of_ble_eq_true rfl⟩ rfl 0 rfl [0, 1] [2] rfl (by decide) rfl (by decide) (by decide) rfl hl.1 rfl (Nat.le_of_ble_eq_true rfl) d_T_takeArrow_33 (fun r u H locs hp hW => ?_)
    obtain ⟨rfl, rfl⟩ := hp
    have hW : Wd D (tyl cI cJ cB cZ) A s s.heap H locs [(aT, .inr (3, [.ref aF, .ref aTb, .int (nI (q + 2)), .int (nI ln), .int (nI 3), .int (nI q), .long fr, .long bk])), (aTb, .inl (cB, 8192, .inl (sby b))), (aF, .inr (0, [.int fn, .int fw]))] := hW.sub [1, 2, 0] (by decide) rfl
    have hb1 := hb (q + 2 - 1)
    have e1 : q + 2 - 1 = q + 1 := by omega
    rw [e1] at hb1 ⊢
    refine lv_bipush (v := (nI 62)) S.1 S.2.1 d_T_takeArrow_36 (by decide) ?_
    refine n_icmp_eq (tgt := 56) S (by omega) (by omega) d_T_takeArrow_38 (by decide) (fun c_38 => ?_) (fun c_38 => ?_)
    · refine lv_iconst (v := (nI 1)) S.1 S.2.1 d_T_takeArrow_56 (by decide) ?_
      refine lv_goto (tgt := 61) S.1 S.2.1 d_T_takeArrow_57 (by decide) ?_
      exact ret _ _ _ _ _ _ d_T_takeArrow_61 rfl (by first | exact (Or.inl ⟨(by first | omega | assumption | simp_all), (by first | omega | assumption | simp_all), rfl, rfl⟩) | exact (Or.inr ⟨(by first | omega | assumption | simp_all), rfl, rfl⟩)) hW
    · refine lv_aload_n S.1 S.2.1 d_T_takeArrow_41 rfl (lv_at hl 0 rfl) ?_
      refine g_get i_T S hW 0 rfl rfl 0 (by decide) kf_T_35 rfl d_T_takeArrow_42 ?_
      refine lv_iconst (v := (nI 1)) S.1 S.2.1 d_T_takeArrow_45 (by decide) ?_
      refine lv_aload_n S.1 S.2.1 d_T_takeArrow_46 rfl (lv_at hl 0 rfl) ?_
      refine g_get i_T S hW 0 rfl rfl 5 (by decide) kf_T_25 rfl d_T_takeArrow_47 ?_
      refine callV_i (wr := [(aT, .inr (3, [.ref aF, .ref aTb, .int (nI (q + 2)), .int (nI ln), .int (nI 3), .int (nI q), .long fr, .long bk])), (aTb, .inl (cB, 8192, .inl (sby b)))]) (wc := [(aF, .inr (0, [.int fn, .int fw]))]) (np := 2) (As := [.int (nI 1), .int (nI q)]) (rest := []) (c_F_met l D cI cJ cB cZ aF fn fw (nI 1) (nI q) ) km_T_57 ki_F_met kv_F_met kz_F kk_F_met (by decide +kernel) S hW hA ⟨Nat.le_of_ble_eq_true rfl, Nat.le_of_ble_eq_true rfl⟩ ⟨Nat.le_of_ble_eq_true rfl, Nat.le_of_ble_eq_true rfl⟩ rfl 0 rfl [2] [0, 1] rfl (by decide) rfl (by decide) (by decide) rfl hl.1 rfl (Nat.le_of_ble_eq_true rfl) d_T_takeArrow_50 (fun r u H locs hp hW => ?_)
      obtain ⟨rfl, rfl⟩ := hp
      have hW : Wd D (tyl cI cJ cB cZ) A s s.heap H locs [(aT, .inr (3, [.ref aF, .ref aTb, .int (nI (q + 2)), .int (nI ln), .int (nI 3), .int (nI q), .long fr, .long bk])), (aTb, .inl (cB, 8192, .inl (sby b))), (aF, .inr (0, [.int (nI 1), .int (nI q)]))] := hW
      refine lv_if_eq (tgt := 60) S.1 S.2.1 d_T_takeArrow_53 (by decide) (fun _ => ?_) (fun h => absurd h (by decide))
      refine lv_iconst (v := (nI 0)) S.1 S.2.1 d_T_takeArrow_60 (by decide) ?_
      exact ret _ _ _ _ _ _ d_T_takeArrow_61 rfl (by first | exact (Or.inl ⟨(by first | omega | assumption | simp_all), (by first | omega | assumption | simp_all), rfl, rfl⟩) | exact (Or.inr ⟨(by first | omega | assumption | simp_all), rfl, rfl⟩)) hW
theorem d_T_takeName_0 : decode b_T_takeName 0 = .ok (.aload_n 0, 1) := by decide +kernel
theorem d_T_takeName_1 : decode b_T_takeName 1 = .ok (.lconst 0, 1) := by decide +kernel
theorem d_T_takeName_2 : decode b_T_takeName 2 = .ok (.putfield 28, 3) := by decide +kernel
theorem d_T_takeName_5 : decode b_T_takeName 5 = .ok (.aload_n 0, 1) := by decide +kernel
theorem d_T_takeName_6 : decode b_T_takeName 6 = .ok (.lconst 0, 1) := by decide +kernel
theorem d_T_takeName_7 : decode b_T_takeName 7 = .ok (.putfield 32, 3) := by decide +kernel
theorem d_T_takeName_10 : decode b_T_takeName 10 = .ok (.aload_n 0, 1) := by decide +kernel
theorem d_T_takeName_11 : decode b_T_takeName 11 = .ok (.getfield 15, 3) := by decide +kernel
theorem d_T_takeName_14 : decode b_T_takeName 14 = .ok (.aload_n 0, 1) := by decide +kernel
theorem d_T_takeName_15 : decode b_T_takeName 15 = .ok (.getfield 19, 3) := by decide +kernel
theorem d_T_takeName_18 : decode b_T_takeName 18 = .ok (.if_icmp .ge 104, 3) := by decide +kernel
theorem d_T_takeName_21 : decode b_T_takeName 21 = .ok (.aload_n 0, 1) := by decide +kernel
theorem d_T_takeName_22 : decode b_T_takeName 22 = .ok (.aload_n 0, 1) := by decide +kernel
theorem d_T_takeName_23 : decode b_T_takeName 23 = .ok (.getfield 15, 3) := by decide +kernel
theorem d_T_takeName_26 : decode b_T_takeName 26 = .ok (.invokevirtual 39, 3) := by decide +kernel
theorem d_T_takeName_29 : decode b_T_takeName 29 = .ok (.invokestatic 43, 3) := by decide +kernel
theorem d_T_takeName_32 : decode b_T_takeName 32 = .ok (.ifCond .eq 90, 3) := by decide +kernel
theorem d_T_takeName_35 : decode b_T_takeName 35 = .ok (.aload_n 0, 1) := by decide +kernel
theorem d_T_takeName_36 : decode b_T_takeName 36 = .ok (.getfield 15, 3) := by decide +kernel
theorem d_T_takeName_39 : decode b_T_takeName 39 = .ok (.aload_n 0, 1) := by decide +kernel
theorem d_T_takeName_40 : decode b_T_takeName 40 = .ok (.getfield 25, 3) := by decide +kernel
theorem d_T_takeName_43 : decode b_T_takeName 43 = .ok (.isub, 1) := by decide +kernel
theorem d_T_takeName_44 : decode b_T_takeName 44 = .ok (.istore_n 1, 1) := by decide +kernel
theorem d_T_takeName_45 : decode b_T_takeName 45 = .ok (.iload_n 1, 1) := by decide +kernel
theorem d_T_takeName_46 : decode b_T_takeName 46 = .ok (.bipush 8, 2) := by decide +kernel
theorem d_T_takeName_48 : decode b_T_takeName 48 = .ok (.if_icmp .ge 29, 3) := by decide +kernel
theorem d_T_takeName_51 : decode b_T_takeName 51 = .ok (.aload_n 0, 1) := by decide +kernel
theorem d_T_takeName_52 : decode b_T_takeName 52 = .ok (.dup, 1) := by decide +kernel
theorem d_T_takeName_53 : decode b_T_takeName 53 = .ok (.getfield 28, 3) := by decide +kernel
theorem d_T_takeName_56 : decode b_T_takeName 56 = .ok (.aload_n 0, 1) := by decide +kernel
theorem d_T_takeName_57 : decode b_T_takeName 57 = .ok (.aload_n 0, 1) := by decide +kernel
theorem d_T_takeName_58 : decode b_T_takeName 58 = .ok (.getfield 15, 3) := by decide +kernel
theorem d_T_takeName_61 : decode b_T_takeName 61 = .ok (.invokevirtual 39, 3) := by decide +kernel
theorem d_T_takeName_64 : decode b_T_takeName 64 = .ok (.i2l, 1) := by decide +kernel
theorem d_T_takeName_65 : decode b_T_takeName 65 = .ok (.bipush 8, 2) := by decide +kernel
theorem d_T_takeName_67 : decode b_T_takeName 67 = .ok (.iload_n 1, 1) := by decide +kernel
theorem d_T_takeName_68 : decode b_T_takeName 68 = .ok (.imul, 1) := by decide +kernel
theorem d_T_takeName_69 : decode b_T_takeName 69 = .ok (.lshl, 1) := by decide +kernel
theorem d_T_takeName_70 : decode b_T_takeName 70 = .ok (.lor, 1) := by decide +kernel
theorem d_T_takeName_71 : decode b_T_takeName 71 = .ok (.putfield 28, 3) := by decide +kernel
theorem d_T_takeName_74 : decode b_T_takeName 74 = .ok (.goto 35, 3) := by decide +kernel
theorem d_T_takeName_77 : decode b_T_takeName 77 = .ok (.iload_n 1, 1) := by decide +kernel
theorem d_T_takeName_78 : decode b_T_takeName 78 = .ok (.bipush 12, 2) := by decide +kernel
theorem d_T_takeName_80 : decode b_T_takeName 80 = .ok (.if_icmp .ge 29, 3) := by decide +kernel
theorem d_T_takeName_83 : decode b_T_takeName 83 = .ok (.aload_n 0, 1) := by decide +kernel
theorem d_T_takeName_84 : decode b_T_takeName 84 = .ok (.dup, 1) := by decide +kernel
theorem d_T_takeName_85 : decode b_T_takeName 85 = .ok (.getfield 32, 3) := by decide +kernel
theorem d_T_takeName_88 : decode b_T_takeName 88 = .ok (.aload_n 0, 1) := by decide +kernel
theorem d_T_takeName_89 : decode b_T_takeName 89 = .ok (.aload_n 0, 1) := by decide +kernel
theorem d_T_takeName_90 : decode b_T_takeName 90 = .ok (.getfield 15, 3) := by decide +kernel
theorem d_T_takeName_93 : decode b_T_takeName 93 = .ok (.invokevirtual 39, 3) := by decide +kernel
theorem d_T_takeName_96 : decode b_T_takeName 96 = .ok (.i2l, 1) := by decide +kernel
theorem d_T_takeName_97 : decode b_T_takeName 97 = .ok (.bipush 8, 2) := by decide +kernel
theorem d_T_takeName_99 : decode b_T_takeName 99 = .ok (.iload_n 1, 1) := by decide +kernel
theorem d_T_takeName_100 : decode b_T_takeName 100 = .ok (.bipush 8, 2) := by decide +kernel
theorem d_T_takeName_102 : decode b_T_takeName 102 = .ok (.isub, 1) := by decide +kernel
theorem d_T_takeName_103 : decode b_T_takeName 103 = .ok (.imul, 1) := by decide +kernel
theorem d_T_takeName_104 : decode b_T_takeName 104 = .ok (.lshl, 1) := by decide +kernel
theorem d_T_takeName_105 : decode b_T_takeName 105 = .ok (.lor, 1) := by decide +kernel
theorem d_T_takeName_106 : decode b_T_takeName 106 = .ok (.putfield 32, 3) := by decide +kernel
theorem d_T_takeName_109 : decode b_T_takeName 109 = .ok (.aload_n 0, 1) := by decide +kernel
theorem d_T_takeName_110 : decode b_T_takeName 110 = .ok (.dup, 1) := by decide +kernel
theorem d_T_takeName_111 : decode b_T_takeName 111 = .ok (.getfield 15, 3) := by decide +kernel
theorem d_T_takeName_114 : decode b_T_takeName 114 = .ok (.iconst 1, 1) := by decide +kernel
theorem d_T_takeName_115 : decode b_T_takeName 115 = .ok (.iadd, 1) := by decide +kernel
theorem d_T_takeName_116 : decode b_T_takeName 116 = .ok (.putfield 15, 3) := by decide +kernel
theorem d_T_takeName_119 : decode b_T_takeName 119 = .ok (.goto (-109), 3) := by decide +kernel
theorem d_T_takeName_122 : decode b_T_takeName 122 = .ok (.aload_n 0, 1) := by decide +kernel
theorem d_T_takeName_123 : decode b_T_takeName 123 = .ok (.aload_n 0, 1) := by decide +kernel
theorem d_T_takeName_124 : decode b_T_takeName 124 = .ok (.getfield 28, 3) := by decide +kernel
theorem d_T_takeName_127 : decode b_T_takeName 127 = .ok (.ldc2_w 63, 3) := by decide +kernel
theorem d_T_takeName_130 : decode b_T_takeName 130 = .ok (.lcmp, 1) := by decide +kernel
theorem d_T_takeName_131 : decode b_T_takeName 131 = .ok (.ifCond .ne 16, 3) := by decide +kernel
theorem d_T_takeName_134 : decode b_T_takeName 134 = .ok (.aload_n 0, 1) := by decide +kernel
theorem d_T_takeName_135 : decode b_T_takeName 135 = .ok (.getfield 32, 3) := by decide +kernel
theorem d_T_takeName_138 : decode b_T_takeName 138 = .ok (.lconst 0, 1) := by decide +kernel
theorem d_T_takeName_139 : decode b_T_takeName 139 = .ok (.lcmp, 1) := by decide +kernel
theorem d_T_takeName_140 : decode b_T_takeName 140 = .ok (.ifCond .ne 7, 3) := by decide +kernel
theorem d_T_takeName_143 : decode b_T_takeName 143 = .ok (.iconst 2, 1) := by decide +kernel
theorem d_T_takeName_144 : decode b_T_takeName 144 = .ok (.goto 4, 3) := by decide +kernel
theorem d_T_takeName_147 : decode b_T_takeName 147 = .ok (.iconst 1, 1) := by decide +kernel
theorem d_T_takeName_148 : decode b_T_takeName 148 = .ok (.putfield 22, 3) := by decide +kernel
theorem d_T_takeName_151 : decode b_T_takeName 151 = .ok (.aload_n 0, 1) := by decide +kernel
theorem d_T_takeName_152 : decode b_T_takeName 152 = .ok (.getfield 15, 3) := by decide +kernel
theorem d_T_takeName_155 : decode b_T_takeName 155 = .ok (.aload_n 0, 1) := by decide +kernel
theorem d_T_takeName_156 : decode b_T_takeName 156 = .ok (.getfield 25, 3) := by decide +kernel
theorem d_T_takeName_159 : decode b_T_takeName 159 = .ok (.isub, 1) := by decide +kernel
theorem d_T_takeName_160 : decode b_T_takeName 160 = .ok (.bipush 12, 2) := by decide +kernel
theorem d_T_takeName_162 : decode b_T_takeName 162 = .ok (.if_icmp .le 18, 3) := by decide +kernel
theorem d_T_takeName_165 : decode b_T_takeName 165 = .ok (.aload_n 0, 1) := by decide +kernel
theorem d_T_takeName_166 : decode b_T_takeName 166 = .ok (.getfield 35, 3) := by decide +kernel
theorem d_T_takeName_169 : decode b_T_takeName 169 = .ok (.iconst 1, 1) := by decide +kernel
theorem d_T_takeName_170 : decode b_T_takeName 170 = .ok (.aload_n 0, 1) := by decide +kernel
theorem d_T_takeName_171 : decode b_T_takeName 171 = .ok (.getfield 25, 3) := by decide +kernel
theorem d_T_takeName_174 : decode b_T_takeName 174 = .ok (.invokevirtual 57, 3) := by decide +kernel
theorem d_T_takeName_177 : decode b_T_takeName 177 = .ok (.ifCond .eq 7, 3) := by decide +kernel
theorem d_T_takeName_180 : decode b_T_takeName 180 = .ok (.iconst 1, 1) := by decide +kernel
theorem d_T_takeName_181 : decode b_T_takeName 181 = .ok (.goto 4, 3) := by decide +kernel
theorem d_T_takeName_184 : decode b_T_takeName 184 = .ok (.iconst 0, 1) := by decide +kernel
theorem d_T_takeName_185 : decode b_T_takeName 185 = .ok (.ireturn, 1) := by decide +kernel
set_option maxHeartbeats 4000000 in
set_option maxRecDepth 100000 in
theorem c_T_takeName (l : Launch) (D : va_G) (cI cJ cB cZ : ClassId) (aT aF aTb : Nat) (b : Nat → Nat) (z0 ln : Nat) (kd fn fw : Int32) (fr bk : Int64) (hb : ∀ j, b j < 256) (hp : z0 < ln) (hln : ln ≤ 8192) : Ci l D (tyl cI cJ cB cZ) y_T_takeName b_T_takeName 2 (some .boolean) ({ frames := 1, cells := 0, slots := 0, locals := 22 } : Room) [.ref aT] [(aT, .inr (3, [.ref aF, .ref aTb, .int (nI z0), .int (nI ln), .int kd, .int (nI z0), .long fr, .long bk])), (aTb, .inl (cB, 8192, .inl (sby b))), (aF, .inr (0, [.int fn, .int fw]))] (fun r u => (∃ (e0 : Nat) (k : Nat) (f1 : Int64) (g1 : Int64), (NmE b ln z0 e0) ∧ (e0 ≤ z0 + 12) ∧ (f1 = lN (leN b z0 (min (e0 - z0) 8))) ∧ (g1 = lN (leN b (z0 + 8) (min (e0 - z0 - 8) 4))) ∧ ((k = 2 ∧ f1 = 1701869940 ∧ g1 = 0 ∨ k = 1 ∧ ¬ (f1 = 1701869940 ∧ g1 = 0))) ∧ r = (nI 1) ∧ u = [(aT, .inr (3, [.ref aF, .ref aTb, .int (nI e0), .int (nI ln), .int (nI k), .int (nI z0), .long f1, .long g1])), (aTb, .inl (cB, 8192, .inl (sby b))), (aF, .inr (0, [.int fn, .int fw]))]) ∨ (∃ (e0 : Nat) (k : Nat) (f1 : Int64) (g1 : Int64), (NmE b ln z0 e0) ∧ (z0 + 12 < e0) ∧ r = (nI 0) ∧ u = [(aT, .inr (3, [.ref aF, .ref aTb, .int (nI e0), .int (nI ln), .int (nI k), .int (nI z0), .long f1, .long g1])), (aTb, .inl (cB, 8192, .inl (sby b))), (aF, .inr (0, [.int (nI 1), .int (nI z0)]))])) := by
  refine met_i (own := "ProofReader$Tokens") (by decide) rfl (Nat.le_of_ble_eq_true rfl) ?_
  intro p e s m args below meth c A Q S hA ret ls hl hW
  have hl : lv_has ls 2 [(0, .ref aT)] := hl
  have hW : Wd D (tyl cI cJ cB cZ) A s s.heap s.heap [] [(aT, .inr (3, [.ref aF, .ref aTb, .int (nI z0), .int (nI ln), .int kd, .int (nI z0), .long fr, .long bk])), (aTb, .inl (cB, 8192, .inl (sby b))), (aF, .inr (0, [.int fn, .int fw]))] := hW
  refine lv_aload_n S.1 S.2.1 d_T_takeName_0 rfl (lv_at hl 0 rfl) ?_
  refine lv_lconst (v := 0) S.1 S.2.1 d_T_takeName_1 rfl ?_
  refine g_put (ws2 := [(aT, .inr (3, [.ref aF, .ref aTb, .int (nI z0), .int (nI ln), .int kd, .int (nI z0), .long 0, .long bk])), (aTb, .inl (cB, 8192, .inl (sby b))), (aF, .inr (0, [.int fn, .int fw]))]) i_T ft_T ft_T_ok n_T S hW 0 rfl rfl 6 (by decide) kf_T_28 rfl rfl rfl (Nat.le_of_ble_eq_true rfl) rfl d_T_takeName_2 (fun H locs hW => ?_)
  refine lv_aload_n S.1 S.2.1 d_T_takeName_5 rfl (lv_at hl 0 rfl) ?_
  refine lv_lconst (v := 0) S.1 S.2.1 d_T_takeName_6 rfl ?_
  refine g_put (ws2 := [(aT, .inr (3, [.ref aF, .ref aTb, .int (nI z0), .int (nI ln), .int kd, .int (nI z0), .long 0, .long 0])), (aTb, .inl (cB, 8192, .inl (sby b))), (aF, .inr (0, [.int fn, .int fw]))]) i_T ft_T ft_T_ok n_T S hW 0 rfl rfl 7 (by decide) kf_T_32 rfl rfl rfl (Nat.le_of_ble_eq_true rfl) rfl d_T_takeName_7 (fun H locs hW => ?_)
  have loop_10 : ∀ (nf : Nat) (e0 : Nat) (f1 : Int64) (g1 : Int64), ln - e0 < nf → (z0 < e0 ∨ e0 = z0) → (e0 ≤ ln) → (∀ j, z0 ≤ j → j < e0 → isNm (b j)) → (f1 = lN (leN b z0 (min (e0 - z0) 8))) → (g1 = lN (leN b (z0 + 8) (min (e0 - z0 - 8) 4))) → ∀ (H : Heap) (locs : List Loc), Wd D (tyl cI cJ cB cZ) A s s.heap H locs [(aT, .inr (3, [.ref aF, .ref aTb, .int (nI e0), .int (nI ln), .int kd, .int (nI z0), .long f1, .long g1])), (aTb, .inl (cB, 8192, .inl (sby b))), (aF, .inr (0, [.int fn, .int fw]))] → ∀ (ls : Array Slot), lv_has ls 2 [(0, .ref aT)] → W p l e ({ frames := 1, cells := 0, slots := 0, locals := 22 } : Room) s m args below meth c H locs 0 0 Q (F0 m 10 ls []) := by
    intro nf
    induction nf with
    | zero =>
      intros
      omega
    | succ nf ih =>
      intro e0 f1 g1 hnf h1 h2 h3 h4 h5 H locs hW ls hl
      refine lv_aload_n S.1 S.2.1 d_T_takeName_10 rfl (lv_at hl 0 rfl) ?_
      refine g_get i_T S hW 0 rfl rfl 2 (by decide) kf_T_15 rfl d_T_takeName_11 ?_
      refine lv_aload_n S.1 S.2.1 d_T_takeName_14 rfl (lv_at hl 0 rfl) ?_
      refine g_get i_T S hW 0 rfl rfl 3 (by decide) kf_T_19 rfl d_T_takeName_15 ?_
      refine n_icmp_ge (tgt := 122) S (by omega) (by omega) d_T_takeName_18 (by decide) (fun c_18 => ?_) (fun c_18 => ?_)
      · have hE : NmE b ln z0 e0 := ⟨by omega, h2, h3, by first | (intro a; omega) | (intro _; assumption)⟩
        refine lv_aload_n S.1 S.2.1 d_T_takeName_122 rfl (lv_at hl 0 rfl) ?_
        refine lv_aload_n S.1 S.2.1 d_T_takeName_123 rfl (lv_at hl 0 rfl) ?_
        refine g_get i_T S hW 0 rfl rfl 6 (by decide) kf_T_28 rfl d_T_takeName_124 ?_
        refine lv_ldc2 (v := 1701869940) S.1 S.2.1 S.2.2.2.1 (S.2.2.2.2 _ kq_T_63) d_T_takeName_127 ?_
        refine W.lcmp S.1 S.2.1 d_T_takeName_130 ?_
        refine lv_if_ne (tgt := 147) S.1 S.2.1 d_T_takeName_131 (by decide) (fun c_131 => ?_) (fun c_131 => ?_)
        · refine lv_iconst (v := (nI 1)) S.1 S.2.1 d_T_takeName_147 (by decide) ?_
          refine g_put (ws2 := [(aT, .inr (3, [.ref aF, .ref aTb, .int (nI e0), .int (nI ln), .int (nI 1), .int (nI z0), .long f1, .long g1])), (aTb, .inl (cB, 8192, .inl (sby b))), (aF, .inr (0, [.int fn, .int fw]))]) i_T ft_T ft_T_ok n_T S hW 0 rfl rfl 4 (by decide) kf_T_22 rfl rfl rfl (Nat.le_of_ble_eq_true rfl) rfl d_T_takeName_148 (fun H locs hW => ?_)
          refine lv_aload_n S.1 S.2.1 d_T_takeName_151 rfl (lv_at hl 0 rfl) ?_
          refine g_get i_T S hW 0 rfl rfl 2 (by decide) kf_T_15 rfl d_T_takeName_152 ?_
          refine lv_aload_n S.1 S.2.1 d_T_takeName_155 rfl (lv_at hl 0 rfl) ?_
          refine g_get i_T S hW 0 rfl rfl 5 (by decide) kf_T_25 rfl d_T_takeName_156 ?_
          refine n_isub S (by omega) d_T_takeName_159 ?_
          refine lv_bipush (v := (nI 12)) S.1 S.2.1 d_T_takeName_160 (by decide) ?_
          refine n_icmp_le (tgt := 180) S (by omega) (by omega) d_T_takeName_162 (by decide) (fun c_162 => ?_) (fun c_162 => ?_)
          · refine lv_iconst (v := (nI 1)) S.1 S.2.1 d_T_takeName_180 (by decide) ?_
            refine lv_goto (tgt := 185) S.1 S.2.1 d_T_takeName_181 (by decide) ?_
            exact ret _ _ _ _ _ _ d_T_takeName_185 rfl (by first | exact (Or.inl ⟨_, _, _, _, (by first | omega | assumption | exact Or.inl ⟨rfl, (lg_cmp_eq _ _).mp c_131, (lg_cmp_eq _ _).mp c_140⟩ | exact Or.inr ⟨rfl, fun h => c_131 ((lg_cmp_eq _ _).mpr h.1)⟩ | exact Or.inr ⟨rfl, fun h => c_140 ((lg_cmp_eq _ _).mpr h.2)⟩), (by first | omega | assumption | exact Or.inl ⟨rfl, (lg_cmp_eq _ _).mp c_131, (lg_cmp_eq _ _).mp c_140⟩ | exact Or.inr ⟨rfl, fun h => c_131 ((lg_cmp_eq _ _).mpr h.1)⟩ | exact Or.inr ⟨rfl, fun h => c_140 ((lg_cmp_eq _ _).mpr h.2)⟩), (by first | omega | assumption | exact Or.inl ⟨rfl, (lg_cmp_eq _ _).mp c_131, (lg_cmp_eq _ _).mp c_140⟩ | exact Or.inr ⟨rfl, fun h => c_131 ((lg_cmp_eq _ _).mpr h.1)⟩ | exact Or.inr ⟨rfl, fun h => c_140 ((lg_cmp_eq _ _).mpr h.2)⟩), (by first | omega | assumption | exact Or.inl ⟨rfl, (lg_cmp_eq _ _).mp c_131, (lg_cmp_eq _ _).mp c_140⟩ | exact Or.inr ⟨rfl, fun h => c_131 ((lg_cmp_eq _ _).mpr h.1)⟩ | exact Or.inr ⟨rfl, fun h => c_140 ((lg_cmp_eq _ _).mpr h.2)⟩), (by first | omega | assumption | exact Or.inl ⟨rfl, (lg_cmp_eq _ _).mp c_131, (lg_cmp_eq _ _).mp c_140⟩ | exact Or.inr ⟨rfl, fun h => c_131 ((lg_cmp_eq _ _).mpr h.1)⟩ | exact Or.inr ⟨rfl, fun h => c_140 ((lg_cmp_eq _ _).mpr h.2)⟩), rfl, rfl⟩) | exact (Or.inr ⟨_, _, _, _, (by first | omega | assumption | exact Or.inl ⟨rfl, (lg_cmp_eq _ _).mp c_131, (lg_cmp_eq _ _).mp c_140⟩ | exact Or.inr ⟨rfl, fun h => c_131 ((lg_cmp_eq _ _).mpr h.1)⟩ | exact Or.inr ⟨rfl, fun h => c_140 ((lg_cmp_eq _ _).mpr h.2)⟩), (by first | omega | assumption | exact Or.inl ⟨rfl, (lg_cmp_eq _ _).mp c_131, (lg_cmp_eq _ _).mp c_140⟩ | exact Or.inr ⟨rfl, fun h => c_131 ((lg_cmp_eq _ _).mpr h.1)⟩ | exact Or.inr ⟨rfl, fun h => c_140 ((lg_cmp_eq _ _).mpr h.2)⟩), rfl, rfl⟩)) hW
          · refine lv_aload_n S.1 S.2.1 d_T_takeName_165 rfl (lv_at hl 0 rfl) ?_
            refine g_get i_T S hW 0 rfl rfl 0 (by decide) kf_T_35 rfl d_T_takeName_166 ?_
            refine lv_iconst (v := (nI 1)) S.1 S.2.1 d_T_takeName_169 (by decide) ?_
            refine lv_aload_n S.1 S.2.1 d_T_takeName_170 rfl (lv_at hl 0 rfl) ?_
            refine g_get i_T S hW 0 rfl rfl 5 (by decide) kf_T_25 rfl d_T_takeName_171 ?_
            refine callV_i (wr := [(aT, .inr (3, [.ref aF, .ref aTb, .int (nI e0), .int (nI ln), .int (nI 1), .int (nI z0), .long f1, .long g1])), (aTb, .inl (cB, 8192, .inl (sby b)))]) (wc := [(aF, .inr (0, [.int fn, .int fw]))]) (np := 2) (As := [.int (nI 1), .int (nI z0)]) (rest := []) (c_F_met l D cI cJ cB cZ aF fn fw (nI 1) (nI z0) ) km_T_57 ki_F_met kv_F_met kz_F kk_F_met (by decide +kernel) S hW hA ⟨Nat.le_of_ble_eq_true rfl, Nat.le_of_ble_eq_true rfl⟩ ⟨Nat.le_of_ble_eq_true rfl, Nat.le_of_ble_eq_true rfl⟩ rfl 0 rfl [2] [0, 1] rfl (by decide) rfl (by decide) (by decide) rfl hl.1 rfl (Nat.le_of_ble_eq_true rfl) d_T_takeName_174 (fun r u H locs hp hW => ?_)
            obtain ⟨rfl, rfl⟩ := hp
            have hW : Wd D (tyl cI cJ cB cZ) A s s.heap H locs [(aT, .inr (3, [.ref aF, .ref aTb, .int (nI e0), .int (nI ln), .int (nI 1), .int (nI z0), .long f1, .long g1])), (aTb, .inl (cB, 8192, .inl (sby b))), (aF, .inr (0, [.int (nI 1), .int (nI z0)]))] := hW
            refine lv_if_eq (tgt := 184) S.1 S.2.1 d_T_takeName_177 (by decide) (fun _ => ?_) (fun h => absurd h (by decide))
            refine lv_iconst (v := (nI 0)) S.1 S.2.1 d_T_takeName_184 (by decide) ?_
            exact ret _ _ _ _ _ _ d_T_takeName_185 rfl (by first | exact (Or.inl ⟨_, _, _, _, (by first | omega | assumption | exact Or.inl ⟨rfl, (lg_cmp_eq _ _).mp c_131, (lg_cmp_eq _ _).mp c_140⟩ | exact Or.inr ⟨rfl, fun h => c_131 ((lg_cmp_eq _ _).mpr h.1)⟩ | exact Or.inr ⟨rfl, fun h => c_140 ((lg_cmp_eq _ _).mpr h.2)⟩), (by first | omega | assumption | exact Or.inl ⟨rfl, (lg_cmp_eq _ _).mp c_131, (lg_cmp_eq _ _).mp c_140⟩ | exact Or.inr ⟨rfl, fun h => c_131 ((lg_cmp_eq _ _).mpr h.1)⟩ | exact Or.inr ⟨rfl, fun h => c_140 ((lg_cmp_eq _ _).mpr h.2)⟩), (by first | omega | assumption | exact Or.inl ⟨rfl, (lg_cmp_eq _ _).mp c_131, (lg_cmp_eq _ _).mp c_140⟩ | exact Or.inr ⟨rfl, fun h => c_131 ((lg_cmp_eq _ _).mpr h.1)⟩ | exact Or.inr ⟨rfl, fun h => c_140 ((lg_cmp_eq _ _).mpr h.2)⟩), (by first | omega | assumption | exact Or.inl ⟨rfl, (lg_cmp_eq _ _).mp c_131, (lg_cmp_eq _ _).mp c_140⟩ | exact Or.inr ⟨rfl, fun h => c_131 ((lg_cmp_eq _ _).mpr h.1)⟩ | exact Or.inr ⟨rfl, fun h => c_140 ((lg_cmp_eq _ _).mpr h.2)⟩), (by first | omega | assumption | exact Or.inl ⟨rfl, (lg_cmp_eq _ _).mp c_131, (lg_cmp_eq _ _).mp c_140⟩ | exact Or.inr ⟨rfl, fun h => c_131 ((lg_cmp_eq _ _).mpr h.1)⟩ | exact Or.inr ⟨rfl, fun h => c_140 ((lg_cmp_eq _ _).mpr h.2)⟩), rfl, rfl⟩) | exact (Or.inr ⟨_, _, _, _, (by first | omega | assumption | exact Or.inl ⟨rfl, (lg_cmp_eq _ _).mp c_131, (lg_cmp_eq _ _).mp c_140⟩ | exact Or.inr ⟨rfl, fun h => c_131 ((lg_cmp_eq _ _).mpr h.1)⟩ | exact Or.inr ⟨rfl, fun h => c_140 ((lg_cmp_eq _ _).mpr h.2)⟩), (by first | omega | assumption | exact Or.inl ⟨rfl, (lg_cmp_eq _ _).mp c_131, (lg_cmp_eq _ _).mp c_140⟩ | exact Or.inr ⟨rfl, fun h => c_131 ((lg_cmp_eq _ _).mpr h.1)⟩ | exact Or.inr ⟨rfl, fun h => c_140 ((lg_cmp_eq _ _).mpr h.2)⟩), rfl, rfl⟩)) hW
        · refine lv_aload_n S.1 S.2.1 d_T_takeName_134 rfl (lv_at hl 0 rfl) ?_
          refine g_get i_T S hW 0 rfl rfl 7 (by decide) kf_T_32 rfl d_T_takeName_135 ?_
          refine lv_lconst (v := 0) S.1 S.2.1 d_T_takeName_138 rfl ?_
          refine W.lcmp S.1 S.2.1 d_T_takeName_139 ?_
          refine lv_if_ne (tgt := 147) S.1 S.2.1 d_T_takeName_140 (by decide) (fun c_140 => ?_) (fun c_140 => ?_)
          · refine lv_iconst (v := (nI 1)) S.1 S.2.1 d_T_takeName_147 (by decide) ?_
            refine g_put (ws2 := [(aT, .inr (3, [.ref aF, .ref aTb, .int (nI e0), .int (nI ln), .int (nI 1), .int (nI z0), .long f1, .long g1])), (aTb, .inl (cB, 8192, .inl (sby b))), (aF, .inr (0, [.int fn, .int fw]))]) i_T ft_T ft_T_ok n_T S hW 0 rfl rfl 4 (by decide) kf_T_22 rfl rfl rfl (Nat.le_of_ble_eq_true rfl) rfl d_T_takeName_148 (fun H locs hW => ?_)
            refine lv_aload_n S.1 S.2.1 d_T_takeName_151 rfl (lv_at hl 0 rfl) ?_
            refine g_get i_T S hW 0 rfl rfl 2 (by decide) kf_T_15 rfl d_T_takeName_152 ?_
            refine lv_aload_n S.1 S.2.1 d_T_takeName_155 rfl (lv_at hl 0 rfl) ?_
            refine g_get i_T S hW 0 rfl rfl 5 (by decide) kf_T_25 rfl d_T_takeName_156 ?_
            refine n_isub S (by omega) d_T_takeName_159 ?_
            refine lv_bipush (v := (nI 12)) S.1 S.2.1 d_T_takeName_160 (by decide) ?_
            refine n_icmp_le (tgt := 180) S (by omega) (by omega) d_T_takeName_162 (by decide) (fun c_162 => ?_) (fun c_162 => ?_)
            · refine lv_iconst (v := (nI 1)) S.1 S.2.1 d_T_takeName_180 (by decide) ?_
              refine lv_goto (tgt := 185) S.1 S.2.1 d_T_takeName_181 (by decide) ?_
              exact ret _ _ _ _ _ _ d_T_takeName_185 rfl (by first | exact (Or.inl ⟨_, _, _, _, (by first | omega | assumption | exact Or.inl ⟨rfl, (lg_cmp_eq _ _).mp c_131, (lg_cmp_eq _ _).mp c_140⟩ | exact Or.inr ⟨rfl, fun h => c_131 ((lg_cmp_eq _ _).mpr h.1)⟩ | exact Or.inr ⟨rfl, fun h => c_140 ((lg_cmp_eq _ _).mpr h.2)⟩), (by first | omega | assumption | exact Or.inl ⟨rfl, (lg_cmp_eq _ _).mp c_131, (lg_cmp_eq _ _).mp c_140⟩ | exact Or.inr ⟨rfl, fun h => c_131 ((lg_cmp_eq _ _).mpr h.1)⟩ | exact Or.inr ⟨rfl, fun h => c_140 ((lg_cmp_eq _ _).mpr h.2)⟩), (by first | omega | assumption | exact Or.inl ⟨rfl, (lg_cmp_eq _ _).mp c_131, (lg_cmp_eq _ _).mp c_140⟩ | exact Or.inr ⟨rfl, fun h => c_131 ((lg_cmp_eq _ _).mpr h.1)⟩ | exact Or.inr ⟨rfl, fun h => c_140 ((lg_cmp_eq _ _).mpr h.2)⟩), (by first | omega | assumption | exact Or.inl ⟨rfl, (lg_cmp_eq _ _).mp c_131, (lg_cmp_eq _ _).mp c_140⟩ | exact Or.inr ⟨rfl, fun h => c_131 ((lg_cmp_eq _ _).mpr h.1)⟩ | exact Or.inr ⟨rfl, fun h => c_140 ((lg_cmp_eq _ _).mpr h.2)⟩), (by first | omega | assumption | exact Or.inl ⟨rfl, (lg_cmp_eq _ _).mp c_131, (lg_cmp_eq _ _).mp c_140⟩ | exact Or.inr ⟨rfl, fun h => c_131 ((lg_cmp_eq _ _).mpr h.1)⟩ | exact Or.inr ⟨rfl, fun h => c_140 ((lg_cmp_eq _ _).mpr h.2)⟩), rfl, rfl⟩) | exact (Or.inr ⟨_, _, _, _, (by first | omega | assumption | exact Or.inl ⟨rfl, (lg_cmp_eq _ _).mp c_131, (lg_cmp_eq _ _).mp c_140⟩ | exact Or.inr ⟨rfl, fun h => c_131 ((lg_cmp_eq _ _).mpr h.1)⟩ | exact Or.inr ⟨rfl, fun h => c_140 ((lg_cmp_eq _ _).mpr h.2)⟩), (by first | omega | assumption | exact Or.inl ⟨rfl, (lg_cmp_eq _ _).mp c_131, (lg_cmp_eq _ _).mp c_140⟩ | exact Or.inr ⟨rfl, fun h => c_131 ((lg_cmp_eq _ _).mpr h.1)⟩ | exact Or.inr ⟨rfl, fun h => c_140 ((lg_cmp_eq _ _).mpr h.2)⟩), rfl, rfl⟩)) hW
            · refine lv_aload_n S.1 S.2.1 d_T_takeName_165 rfl (lv_at hl 0 rfl) ?_
              refine g_get i_T S hW 0 rfl rfl 0 (by decide) kf_T_35 rfl d_T_takeName_166 ?_
              refine lv_iconst (v := (nI 1)) S.1 S.2.1 d_T_takeName_169 (by decide) ?_
              refine lv_aload_n S.1 S.2.1 d_T_takeName_170 rfl (lv_at hl 0 rfl) ?_
              refine g_get i_T S hW 0 rfl rfl 5 (by decide) kf_T_25 rfl d_T_takeName_171 ?_
              refine callV_i (wr := [(aT, .inr (3, [.ref aF, .ref aTb, .int (nI e0), .int (nI ln), .int (nI 1), .int (nI z0), .long f1, .long g1])), (aTb, .inl (cB, 8192, .inl (sby b)))]) (wc := [(aF, .inr (0, [.int fn, .int fw]))]) (np := 2) (As := [.int (nI 1), .int (nI z0)]) (rest := []) (c_F_met l D cI cJ cB cZ aF fn fw (nI 1) (nI z0) ) km_T_57 ki_F_met kv_F_met kz_F kk_F_met (by decide +kernel) S hW hA ⟨Nat.le_of_ble_eq_true rfl, Nat.le_of_ble_eq_true rfl⟩ ⟨Nat.le_of_ble_eq_true rfl, Nat.le_of_ble_eq_true rfl⟩ rfl 0 rfl [2] [0, 1] rfl (by decide) rfl (by decide) (by decide) rfl hl.1 rfl (Nat.le_of_ble_eq_true rfl) d_T_takeName_174 (fun r u H locs hp hW => ?_)
              obtain ⟨rfl, rfl⟩ := hp
              have hW : Wd D (tyl cI cJ cB cZ) A s s.heap H locs [(aT, .inr (3, [.ref aF, .ref aTb, .int (nI e0), .int (nI ln), .int (nI 1), .int (nI z0), .long f1, .long g1])), (aTb, .inl (cB, 8192, .inl (sby b))), (aF, .inr (0, [.int (nI 1), .int (nI z0)]))] := hW
              refine lv_if_eq (tgt := 184) S.1 S.2.1 d_T_takeName_177 (by decide) (fun _ => ?_) (fun h => absurd h (by decide))
              refine lv_iconst (v := (nI 0)) S.1 S.2.1 d_T_takeName_184 (by decide) ?_
              exact ret _ _ _ _ _ _ d_T_takeName_185 rfl (by first | exact (Or.inl ⟨_, _, _, _, (by first | omega | assumption | exact Or.inl ⟨rfl, (lg_cmp_eq _ _).mp c_131, (lg_cmp_eq _ _).mp c_140⟩ | exact Or.inr ⟨rfl, fun h => c_131 ((lg_cmp_eq _ _).mpr h.1)⟩ | exact Or.inr ⟨rfl, fun h => c_140 ((lg_cmp_eq _ _).mpr h.2)⟩), (by first | omega | assumption | exact Or.inl ⟨rfl, (lg_cmp_eq _ _).mp c_131, (lg_cmp_eq _ _).mp c_140⟩ | exact Or.inr ⟨rfl, fun h => c_131 ((lg_cmp_eq _ _).mpr h.1)⟩ | exact Or.inr ⟨rfl, fun h => c_140 ((lg_cmp_eq _ _).mpr h.2)⟩), (by first | omega | assumption | exact Or.inl ⟨rfl, (lg_cmp_eq _ _).mp c_131, (lg_cmp_eq _ _).mp c_140⟩ | exact Or.inr ⟨rfl, fun h => c_131 ((lg_cmp_eq _ _).mpr h.1)⟩ | exact Or.inr ⟨rfl, fun h => c_140 ((lg_cmp_eq _ _).mpr h.2)⟩), (by first | omega | assumption | exact Or.inl ⟨rfl, (lg_cmp_eq _ _).mp c_131, (lg_cmp_eq _ _).mp c_140⟩ | exact Or.inr ⟨rfl, fun h => c_131 ((lg_cmp_eq _ _).mpr h.1)⟩ | exact Or.inr ⟨rfl, fun h => c_140 ((lg_cmp_eq _ _).mpr h.2)⟩), (by first | omega | assumption | exact Or.inl ⟨rfl, (lg_cmp_eq _ _).mp c_131, (lg_cmp_eq _ _).mp c_140⟩ | exact Or.inr ⟨rfl, fun h => c_131 ((lg_cmp_eq _ _).mpr h.1)⟩ | exact Or.inr ⟨rfl, fun h => c_140 ((lg_cmp_eq _ _).mpr h.2)⟩), rfl, rfl⟩) | exact (Or.inr ⟨_, _, _, _, (by first | omega | assumption | exact Or.inl ⟨rfl, (lg_cmp_eq _ _).mp c_131, (lg_cmp_eq _ _).mp c_140⟩ | exact Or.inr ⟨rfl, fun h => c_131 ((lg_cmp_eq _ _).mpr h.1)⟩ | exact Or.inr ⟨rfl, fun h => c_140 ((lg_cmp_eq _ _).mpr h.2)⟩), (by first | omega | assumption | exact Or.inl ⟨rfl, (lg_cmp_eq _ _).mp c_131, (lg_cmp_eq _ _).mp c_140⟩ | exact Or.inr ⟨rfl, fun h => c_131 ((lg_cmp_eq _ _).mpr h.1)⟩ | exact Or.inr ⟨rfl, fun h => c_140 ((lg_cmp_eq _ _).mpr h.2)⟩), rfl, rfl⟩)) hW
          · refine lv_iconst (v := (nI 2)) S.1 S.2.1 d_T_takeName_143 (by decide) ?_
            refine lv_goto (tgt := 148) S.1 S.2.1 d_T_takeName_144 (by decide) ?_
            refine g_put (ws2 := [(aT, .inr (3, [.ref aF, .ref aTb, .int (nI e0), .int (nI ln), .int (nI 2), .int (nI z0), .long f1, .long g1])), (aTb, .inl (cB, 8192, .inl (sby b))), (aF, .inr (0, [.int fn, .int fw]))]) i_T ft_T ft_T_ok n_T S hW 0 rfl rfl 4 (by decide) kf_T_22 rfl rfl rfl (Nat.le_of_ble_eq_true rfl) rfl d_T_takeName_148 (fun H locs hW => ?_)
            refine lv_aload_n S.1 S.2.1 d_T_takeName_151 rfl (lv_at hl 0 rfl) ?_
            refine g_get i_T S hW 0 rfl rfl 2 (by decide) kf_T_15 rfl d_T_takeName_152 ?_
            refine lv_aload_n S.1 S.2.1 d_T_takeName_155 rfl (lv_at hl 0 rfl) ?_
            refine g_get i_T S hW 0 rfl rfl 5 (by decide) kf_T_25 rfl d_T_takeName_156 ?_
            refine n_isub S (by omega) d_T_takeName_159 ?_
            refine lv_bipush (v := (nI 12)) S.1 S.2.1 d_T_takeName_160 (by decide) ?_
            refine n_icmp_le (tgt := 180) S (by omega) (by omega) d_T_takeName_162 (by decide) (fun c_162 => ?_) (fun c_162 => ?_)
            · refine lv_iconst (v := (nI 1)) S.1 S.2.1 d_T_takeName_180 (by decide) ?_
              refine lv_goto (tgt := 185) S.1 S.2.1 d_T_takeName_181 (by decide) ?_
              exact ret _ _ _ _ _ _ d_T_takeName_185 rfl (by first | exact (Or.inl ⟨_, _, _, _, (by first | omega | assumption | exact Or.inl ⟨rfl, (lg_cmp_eq _ _).mp c_131, (lg_cmp_eq _ _).mp c_140⟩ | exact Or.inr ⟨rfl, fun h => c_131 ((lg_cmp_eq _ _).mpr h.1)⟩ | exact Or.inr ⟨rfl, fun h => c_140 ((lg_cmp_eq _ _).mpr h.2)⟩), (by first | omega | assumption | exact Or.inl ⟨rfl, (lg_cmp_eq _ _).mp c_131, (lg_cmp_eq _ _).mp c_140⟩ | exact Or.inr ⟨rfl, fun h => c_131 ((lg_cmp_eq _ _).mpr h.1)⟩ | exact Or.inr ⟨rfl, fun h => c_140 ((lg_cmp_eq _ _).mpr h.2)⟩), (by first | omega | assumption | exact Or.inl ⟨rfl, (lg_cmp_eq _ _).mp c_131, (lg_cmp_eq _ _).mp c_140⟩ | exact Or.inr ⟨rfl, fun h => c_131 ((lg_cmp_eq _ _).mpr h.1)⟩ | exact Or.inr ⟨rfl, fun h => c_140 ((lg_cmp_eq _ _).mpr h.2)⟩), (by first | omega | assumption | exact Or.inl ⟨rfl, (lg_cmp_eq _ _).mp c_131, (lg_cmp_eq _ _).mp c_140⟩ | exact Or.inr ⟨rfl, fun h => c_131 ((lg_cmp_eq _ _).mpr h.1)⟩ | exact Or.inr ⟨rfl, fun h => c_140 ((lg_cmp_eq _ _).mpr h.2)⟩), (by first | omega | assumption | exact Or.inl ⟨rfl, (lg_cmp_eq _ _).mp c_131, (lg_cmp_eq _ _).mp c_140⟩ | exact Or.inr ⟨rfl, fun h => c_131 ((lg_cmp_eq _ _).mpr h.1)⟩ | exact Or.inr ⟨rfl, fun h => c_140 ((lg_cmp_eq _ _).mpr h.2)⟩), rfl, rfl⟩) | exact (Or.inr ⟨_, _, _, _, (by first | omega | assumption | exact Or.inl ⟨rfl, (lg_cmp_eq _ _).mp c_131, (lg_cmp_eq _ _).mp c_140⟩ | exact Or.inr ⟨rfl, fun h => c_131 ((lg_cmp_eq _ _).mpr h.1)⟩ | exact Or.inr ⟨rfl, fun h => c_140 ((lg_cmp_eq _ _).mpr h.2)⟩), (by first | omega | assumption | exact Or.inl ⟨rfl, (lg_cmp_eq _ _).mp c_131, (lg_cmp_eq _ _).mp c_140⟩ | exact Or.inr ⟨rfl, fun h => c_131 ((lg_cmp_eq _ _).mpr h.1)⟩ | exact Or.inr ⟨rfl, fun h => c_140 ((lg_cmp_eq _ _).mpr h.2)⟩), rfl, rfl⟩)) hW
            · refine lv_aload_n S.1 S.2.1 d_T_takeName_165 rfl (lv_at hl 0 rfl) ?_
              refine g_get i_T S hW 0 rfl rfl 0 (by decide) kf_T_35 rfl d_T_takeName_166 ?_
              refine lv_iconst (v := (nI 1)) S.1 S.2.1 d_T_takeName_169 (by decide) ?_
              refine lv_aload_n S.1 S.2.1 d_T_takeName_170 rfl (lv_at hl 0 rfl) ?_
              refine g_get i_T S hW 0 rfl rfl 5 (by decide) kf_T_25 rfl d_T_takeName_171 ?_
              refine callV_i (wr := [(aT, .inr (3, [.ref aF, .ref aTb, .int (nI e0), .int (nI ln), .int (nI 2), .int (nI z0), .long f1, .long g1])), (aTb, .inl (cB, 8192, .inl (sby b)))]) (wc := [(aF, .inr (0, [.int fn, .int fw]))]) (np := 2) (As := [.int (nI 1), .int (nI z0)]) (rest := []) (c_F_met l D cI cJ cB cZ aF fn fw (nI 1) (nI z0) ) km_T_57 ki_F_met kv_F_met kz_F kk_F_met (by decide +kernel) S hW hA ⟨Nat.le_of_ble_eq_true rfl, Nat.le_of_ble_eq_true rfl⟩ ⟨Nat.le_of_ble_eq_true rfl, Nat.le_of_ble_eq_true rfl⟩ rfl 0 rfl [2] [0, 1] rfl (by decide) rfl (by decide) (by decide) rfl hl.1 rfl (Nat.le_of_ble_eq_true rfl) d_T_takeName_174 (fun r u H locs hp hW => ?_)
              obtain ⟨rfl, rfl⟩ := hp
              have hW : Wd D (tyl cI cJ cB cZ) A s s.heap H locs [(aT, .inr (3, [.ref aF, .ref aTb, .int (nI e0), .int (nI ln), .int (nI 2), .int (nI z0), .long f1, .long g1])), (aTb, .inl (cB, 8192, .inl (sby b))), (aF, .inr (0, [.int (nI 1), .int (nI z0)]))] := hW
              refine lv_if_eq (tgt := 184) S.1 S.2.1 d_T_takeName_177 (by decide) (fun _ => ?_) (fun h => absurd h (by decide))
              refine lv_iconst (v := (nI 0)) S.1 S.2.1 d_T_takeName_184 (by decide) ?_
              exact ret _ _ _ _ _ _ d_T_takeName_185 rfl (by first | exact (Or.inl ⟨_, _, _, _, (by first | omega | assumption | exact Or.inl ⟨rfl, (lg_cmp_eq _ _).mp c_131, (lg_cmp_eq _ _).mp c_140⟩ | exact Or.inr ⟨rfl, fun h => c_131 ((lg_cmp_eq _ _).mpr h.1)⟩ | exact Or.inr ⟨rfl, fun h => c_140 ((lg_cmp_eq _ _).mpr h.2)⟩), (by first | omega | assumption | exact Or.inl ⟨rfl, (lg_cmp_eq _ _).mp c_131, (lg_cmp_eq _ _).mp c_140⟩ | exact Or.inr ⟨rfl, fun h => c_131 ((lg_cmp_eq _ _).mpr h.1)⟩ | exact Or.inr ⟨rfl, fun h => c_140 ((lg_cmp_eq _ _).mpr h.2)⟩), (by first | omega | assumption | exact Or.inl ⟨rfl, (lg_cmp_eq _ _).mp c_131, (lg_cmp_eq _ _).mp c_140⟩ | exact Or.inr ⟨rfl, fun h => c_131 ((lg_cmp_eq _ _).mpr h.1)⟩ | exact Or.inr ⟨rfl, fun h => c_140 ((lg_cmp_eq _ _).mpr h.2)⟩), (by first | omega | assumption | exact Or.inl ⟨rfl, (lg_cmp_eq _ _).mp c_131, (lg_cmp_eq _ _).mp c_140⟩ | exact Or.inr ⟨rfl, fun h => c_131 ((lg_cmp_eq _ _).mpr h.1)⟩ | exact Or.inr ⟨rfl, fun h => c_140 ((lg_cmp_eq _ _).mpr h.2)⟩), (by first | omega | assumption | exact Or.inl ⟨rfl, (lg_cmp_eq _ _).mp c_131, (lg_cmp_eq _ _).mp c_140⟩ | exact Or.inr ⟨rfl, fun h => c_131 ((lg_cmp_eq _ _).mpr h.1)⟩ | exact Or.inr ⟨rfl, fun h => c_140 ((lg_cmp_eq _ _).mpr h.2)⟩), rfl, rfl⟩) | exact (Or.inr ⟨_, _, _, _, (by first | omega | assumption | exact Or.inl ⟨rfl, (lg_cmp_eq _ _).mp c_131, (lg_cmp_eq _ _).mp c_140⟩ | exact Or.inr ⟨rfl, fun h => c_131 ((lg_cmp_eq _ _).mpr h.1)⟩ | exact Or.inr ⟨rfl, fun h => c_140 ((lg_cmp_eq _ _).mpr h.2)⟩), (by first | omega | assumption | exact Or.inl ⟨rfl, (lg_cmp_eq _ _).mp c_131, (lg_cmp_eq _ _).mp c_140⟩ | exact Or.inr ⟨rfl, fun h => c_131 ((lg_cmp_eq _ _).mpr h.1)⟩ | exact Or.inr ⟨rfl, fun h => c_140 ((lg_cmp_eq _ _).mpr h.2)⟩), rfl, rfl⟩)) hW
      · refine lv_aload_n S.1 S.2.1 d_T_takeName_21 rfl (lv_at hl 0 rfl) ?_
        refine lv_aload_n S.1 S.2.1 d_T_takeName_22 rfl (lv_at hl 0 rfl) ?_
        refine g_get i_T S hW 0 rfl rfl 2 (by decide) kf_T_15 rfl d_T_takeName_23 ?_
        refine callV_i (wr := [(aF, .inr (0, [.int fn, .int fw]))]) (wc := [(aT, .inr (3, [.ref aF, .ref aTb, .int (nI e0), .int (nI ln), .int kd, .int (nI z0), .long f1, .long g1])), (aTb, .inl (cB, 8192, .inl (sby b)))]) (np := 1) (As := [.int (nI e0)]) (rest := []) (c_T_at l D cI cJ cB cZ aT aF aTb b e0 (nI e0) (nI ln) kd (nI z0) f1 g1 (by first | omega | assumption | simp_all) (by first | omega | assumption | simp_all)) km_T_39 ki_T_at kv_T_at kz_T kk_T_at (by decide +kernel) S hW hA ⟨Nat.le_of_ble_eq_true rfl, Nat.le_of_ble_eq_true rfl⟩ ⟨Nat.le_of_ble_eq_true rfl, Nat.le_of_ble_eq_true rfl⟩ rfl 0 rfl [0, 1] [2] rfl (by decide) rfl (by decide) (by decide) rfl hl.1 rfl (Nat.le_of_ble_eq_true rfl) d_T_takeName_26 (fun r u H locs hp hW => ?_)
        obtain ⟨rfl, rfl⟩ := hp
        have hW : Wd D (tyl cI cJ cB cZ) A s s.heap H locs [(aT, .inr (3, [.ref aF, .ref aTb, .int (nI e0), .int (nI ln), .int kd, .int (nI z0), .long f1, .long g1])), (aTb, .inl (cB, 8192, .inl (sby b))), (aF, .inr (0, [.int fn, .int fw]))] := hW.sub [1, 2, 0] (by decide) rfl
        have hb1 := hb e0
        refine callS_i (wr := [(aT, .inr (3, [.ref aF, .ref aTb, .int (nI e0), .int (nI ln), .int kd, .int (nI z0), .long f1, .long g1])), (aTb, .inl (cB, 8192, .inl (sby b))), (aF, .inr (0, [.int fn, .int fw]))]) (wc := []) (np := 1) (As := [.int (nI (b e0))]) (rest := []) (c_T_isInNames l D cI cJ cB cZ (b e0) (by first | omega | assumption | simp_all)) km_T_43 ks_T_isInNames kz_T kk_T_isInNames (by decide +kernel) S hW hA ⟨Nat.le_of_ble_eq_true rfl, Nat.le_of_ble_eq_true rfl⟩ ⟨Nat.le_of_ble_eq_true rfl, Nat.le_of_ble_eq_true rfl⟩ [] [0, 1, 2] rfl (by decide) rfl (by decide) (by decide) rfl hl.1 rfl (Nat.le_of_ble_eq_true rfl) d_T_takeName_29 (fun r u H locs hp hW => ?_)
        rcases hp with ⟨h_1, rfl, rfl⟩ | ⟨h_2, rfl, rfl⟩
        · have hW : Wd D (tyl cI cJ cB cZ) A s s.heap H locs [(aT, .inr (3, [.ref aF, .ref aTb, .int (nI e0), .int (nI ln), .int kd, .int (nI z0), .long f1, .long g1])), (aTb, .inl (cB, 8192, .inl (sby b))), (aF, .inr (0, [.int fn, .int fw]))] := hW
          refine lv_if_eq (tgt := 122) S.1 S.2.1 d_T_takeName_32 (by decide) (fun h => absurd h (by decide)) (fun _ => ?_)
          have hnm : isNm (b e0) := h_1
          refine lv_aload_n S.1 S.2.1 d_T_takeName_35 rfl (lv_at hl 0 rfl) ?_
          refine g_get i_T S hW 0 rfl rfl 2 (by decide) kf_T_15 rfl d_T_takeName_36 ?_
          refine lv_aload_n S.1 S.2.1 d_T_takeName_39 rfl (lv_at hl 0 rfl) ?_
          refine g_get i_T S hW 0 rfl rfl 5 (by decide) kf_T_25 rfl d_T_takeName_40 ?_
          refine n_isub S (by omega) d_T_takeName_43 ?_
          refine lv_istore_n (lv' := [(1, .int (nI (e0 - z0))), (0, .ref aT)]) S.1 S.2.1 d_T_takeName_44 rfl hl (by decide) rfl (fun ls hl => ?_)
          refine lv_iload_n S.1 S.2.1 d_T_takeName_45 rfl (lv_at hl 0 rfl) ?_
          refine lv_bipush (v := (nI 8)) S.1 S.2.1 d_T_takeName_46 (by decide) ?_
          refine n_icmp_ge (tgt := 77) S (by omega) (by omega) d_T_takeName_48 (by decide) (fun c_48 => ?_) (fun c_48 => ?_)
          · refine lv_iload_n S.1 S.2.1 d_T_takeName_77 rfl (lv_at hl 0 rfl) ?_
            refine lv_bipush (v := (nI 12)) S.1 S.2.1 d_T_takeName_78 (by decide) ?_
            refine n_icmp_ge (tgt := 109) S (by omega) (by omega) d_T_takeName_80 (by decide) (fun c_80 => ?_) (fun c_80 => ?_)
            · refine lv_aload_n S.1 S.2.1 d_T_takeName_109 rfl (lv_at hl 1 rfl) ?_
              refine lv_dup S.1 S.2.1 d_T_takeName_110 rfl ?_
              refine g_get i_T S hW 0 rfl rfl 2 (by decide) kf_T_15 rfl d_T_takeName_111 ?_
              refine lv_iconst (v := (nI 1)) S.1 S.2.1 d_T_takeName_114 (by decide) ?_
              refine n_iadd S d_T_takeName_115 ?_
              refine g_put (ws2 := [(aT, .inr (3, [.ref aF, .ref aTb, .int (nI (e0 + 1)), .int (nI ln), .int kd, .int (nI z0), .long f1, .long g1])), (aTb, .inl (cB, 8192, .inl (sby b))), (aF, .inr (0, [.int fn, .int fw]))]) i_T ft_T ft_T_ok n_T S hW 0 rfl rfl 2 (by decide) kf_T_15 rfl rfl rfl (Nat.le_of_ble_eq_true rfl) rfl d_T_takeName_116 (fun H locs hW => ?_)
              refine lv_goto (tgt := 10) S.1 S.2.1 d_T_takeName_119 (by decide) ?_
              exact ih (e0 + 1) f1 g1 (by omega) (Or.inl (by omega)) (by omega) (fun j a1 a2 => by rcases Nat.lt_or_ge j e0 with z | z; exact h3 j a1 z; exact (show j = e0 by omega) ▸ hnm) (by first | exact tn_f8 hb h1 h4 c_48 | exact tn_f9 h1 h4 c_48) (by first | exact tn_b8 h1 h5 c_48 | exact tn_b12 hb h1 h5 c_48 c_80 | exact tn_b13 h1 h5 c_80) _ _ hW _ (lv_sub hl [1] rfl)
            · refine lv_aload_n S.1 S.2.1 d_T_takeName_83 rfl (lv_at hl 1 rfl) ?_
              refine lv_dup S.1 S.2.1 d_T_takeName_84 rfl ?_
              refine g_get i_T S hW 0 rfl rfl 7 (by decide) kf_T_32 rfl d_T_takeName_85 ?_
              refine lv_aload_n S.1 S.2.1 d_T_takeName_88 rfl (lv_at hl 1 rfl) ?_
              refine lv_aload_n S.1 S.2.1 d_T_takeName_89 rfl (lv_at hl 1 rfl) ?_
              refine g_get i_T S hW 0 rfl rfl 2 (by decide) kf_T_15 rfl d_T_takeName_90 ?_
              refine callV_i (wr := [(aF, .inr (0, [.int fn, .int fw]))]) (wc := [(aT, .inr (3, [.ref aF, .ref aTb, .int (nI e0), .int (nI ln), .int kd, .int (nI z0), .long f1, .long g1])), (aTb, .inl (cB, 8192, .inl (sby b)))]) (np := 1) (As := [.int (nI e0)]) (rest := [.long g1, .ref aT]) (c_T_at l D cI cJ cB cZ aT aF aTb b e0 (nI e0) (nI ln) kd (nI z0) f1 g1 (by first | omega | assumption | simp_all) (by first | omega | assumption | simp_all)) km_T_39 ki_T_at kv_T_at kz_T kk_T_at (by decide +kernel) S hW hA ⟨Nat.le_of_ble_eq_true rfl, Nat.le_of_ble_eq_true rfl⟩ ⟨Nat.le_of_ble_eq_true rfl, Nat.le_of_ble_eq_true rfl⟩ rfl 0 rfl [0, 1] [2] rfl (by decide) rfl (by decide) (by decide) rfl hl.1 rfl (Nat.le_of_ble_eq_true rfl) d_T_takeName_93 (fun r u H locs hp hW => ?_)
              obtain ⟨rfl, rfl⟩ := hp
              have hW : Wd D (tyl cI cJ cB cZ) A s s.heap H locs [(aT, .inr (3, [.ref aF, .ref aTb, .int (nI e0), .int (nI ln), .int kd, .int (nI z0), .long f1, .long g1])), (aTb, .inl (cB, 8192, .inl (sby b))), (aF, .inr (0, [.int fn, .int fw]))] := hW.sub [1, 2, 0] (by decide) rfl
              refine lv_i2l (v := (nI (b e0)).toInt64) S.1 S.2.1 d_T_takeName_96 rfl ?_
              refine lv_bipush (v := (nI 8)) S.1 S.2.1 d_T_takeName_97 (by decide) ?_
              refine lv_iload_n S.1 S.2.1 d_T_takeName_99 rfl (lv_at hl 0 rfl) ?_
              refine lv_bipush (v := (nI 8)) S.1 S.2.1 d_T_takeName_100 (by decide) ?_
              refine n_isub S (by omega) d_T_takeName_102 ?_
              refine n_imul S d_T_takeName_103 ?_
              refine lv_lshl (v := ((nI (b e0)).toInt64) <<< ((nI (8 * ((e0 - z0) - 8))).toInt64 &&& 63)) S.1 S.2.1 d_T_takeName_104 rfl ?_
              refine lv_lor S.1 S.2.1 d_T_takeName_105 ?_
              refine g_put (ws2 := [(aT, .inr (3, [.ref aF, .ref aTb, .int (nI e0), .int (nI ln), .int kd, .int (nI z0), .long f1, .long (g1 ||| (((nI (b e0)).toInt64) <<< ((nI (8 * ((e0 - z0) - 8))).toInt64 &&& 63)))])), (aTb, .inl (cB, 8192, .inl (sby b))), (aF, .inr (0, [.int fn, .int fw]))]) i_T ft_T ft_T_ok n_T S hW 0 rfl rfl 7 (by decide) kf_T_32 rfl rfl rfl (Nat.le_of_ble_eq_true rfl) rfl d_T_takeName_106 (fun H locs hW => ?_)
              refine lv_aload_n S.1 S.2.1 d_T_takeName_109 rfl (lv_at hl 1 rfl) ?_
              refine lv_dup S.1 S.2.1 d_T_takeName_110 rfl ?_
              refine g_get i_T S hW 0 rfl rfl 2 (by decide) kf_T_15 rfl d_T_takeName_111 ?_
              refine lv_iconst (v := (nI 1)) S.1 S.2.1 d_T_takeName_114 (by decide) ?_
              refine n_iadd S d_T_takeName_115 ?_
              refine g_put (ws2 := [(aT, .inr (3, [.ref aF, .ref aTb, .int (nI (e0 + 1)), .int (nI ln), .int kd, .int (nI z0), .long f1, .long (g1 ||| (((nI (b e0)).toInt64) <<< ((nI (8 * ((e0 - z0) - 8))).toInt64 &&& 63)))])), (aTb, .inl (cB, 8192, .inl (sby b))), (aF, .inr (0, [.int fn, .int fw]))]) i_T ft_T ft_T_ok n_T S hW 0 rfl rfl 2 (by decide) kf_T_15 rfl rfl rfl (Nat.le_of_ble_eq_true rfl) rfl d_T_takeName_116 (fun H locs hW => ?_)
              refine lv_goto (tgt := 10) S.1 S.2.1 d_T_takeName_119 (by decide) ?_
              exact ih (e0 + 1) f1 (g1 ||| (((nI (b e0)).toInt64) <<< ((nI (8 * ((e0 - z0) - 8))).toInt64 &&& 63))) (by omega) (Or.inl (by omega)) (by omega) (fun j a1 a2 => by rcases Nat.lt_or_ge j e0 with z | z; exact h3 j a1 z; exact (show j = e0 by omega) ▸ hnm) (by first | exact tn_f8 hb h1 h4 c_48 | exact tn_f9 h1 h4 c_48) (by first | exact tn_b8 h1 h5 c_48 | exact tn_b12 hb h1 h5 c_48 c_80 | exact tn_b13 h1 h5 c_80) _ _ hW _ (lv_sub hl [1] rfl)
          · refine lv_aload_n S.1 S.2.1 d_T_takeName_51 rfl (lv_at hl 1 rfl) ?_
            refine lv_dup S.1 S.2.1 d_T_takeName_52 rfl ?_
            refine g_get i_T S hW 0 rfl rfl 6 (by decide) kf_T_28 rfl d_T_takeName_53 ?_
            refine lv_aload_n S.1 S.2.1 d_T_takeName_56 rfl (lv_at hl 1 rfl) ?_
            refine lv_aload_n S.1 S.2.1 d_T_takeName_57 rfl (lv_at hl 1 rfl) ?_
            refine g_get i_T S hW 0 rfl rfl 2 (by decide) kf_T_15 rfl d_T_takeName_58 ?_
            refine callV_i (wr := [(aF, .inr (0, [.int fn, .int fw]))]) (wc := [(aT, .inr (3, [.ref aF, .ref aTb, .int (nI e0), .int (nI ln), .int kd, .int (nI z0), .long f1, .long g1])), (aTb, .inl (cB, 8192, .inl (sby b)))]) (np := 1) (As := [.int (nI e0)]) (rest := [.long f1, .ref aT]) (c_T_at l D cI cJ cB cZ aT aF aTb b e0 (nI e0) (nI ln) kd (nI z0) f1 g1 (by first | omega | assumption | simp_all) (by first | omega | assumption | simp_all)) km_T_39 ki_T_at kv_T_at kz_T kk_T_at (by decide +kernel) S hW hA ⟨Nat.le_of_ble_eq_true rfl, Nat.le_of_ble_eq_true rfl⟩ ⟨Nat.le_of_ble_eq_true rfl, Nat.le_of_ble_eq_true rfl⟩ rfl 0 rfl [0, 1] [2] rfl (by decide) rfl (by decide) (by decide) rfl hl.1 rfl (Nat.le_of_ble_eq_true rfl) d_T_takeName_61 (fun r u H locs hp hW => ?_)
            obtain ⟨rfl, rfl⟩ := hp
            have hW : Wd D (tyl cI cJ cB cZ) A s s.heap H locs [(aT, .inr (3, [.ref aF, .ref aTb, .int (nI e0), .int (nI ln), .int kd, .int (nI z0), .long f1, .long g1])), (aTb, .inl (cB, 8192, .inl (sby b))), (aF, .inr (0, [.int fn, .int fw]))] := hW.sub [1, 2, 0] (by decide) rfl
            refine lv_i2l (v := (nI (b e0)).toInt64) S.1 S.2.1 d_T_takeName_64 rfl ?_
            refine lv_bipush (v := (nI 8)) S.1 S.2.1 d_T_takeName_65 (by decide) ?_
            refine lv_iload_n S.1 S.2.1 d_T_takeName_67 rfl (lv_at hl 0 rfl) ?_
            refine n_imul S d_T_takeName_68 ?_
            refine lv_lshl (v := ((nI (b e0)).toInt64) <<< ((nI (8 * (e0 - z0))).toInt64 &&& 63)) S.1 S.2.1 d_T_takeName_69 rfl ?_
            refine lv_lor S.1 S.2.1 d_T_takeName_70 ?_
            refine g_put (ws2 := [(aT, .inr (3, [.ref aF, .ref aTb, .int (nI e0), .int (nI ln), .int kd, .int (nI z0), .long (f1 ||| (((nI (b e0)).toInt64) <<< ((nI (8 * (e0 - z0))).toInt64 &&& 63))), .long g1])), (aTb, .inl (cB, 8192, .inl (sby b))), (aF, .inr (0, [.int fn, .int fw]))]) i_T ft_T ft_T_ok n_T S hW 0 rfl rfl 6 (by decide) kf_T_28 rfl rfl rfl (Nat.le_of_ble_eq_true rfl) rfl d_T_takeName_71 (fun H locs hW => ?_)
            refine lv_goto (tgt := 109) S.1 S.2.1 d_T_takeName_74 (by decide) ?_
            refine lv_aload_n S.1 S.2.1 d_T_takeName_109 rfl (lv_at hl 1 rfl) ?_
            refine lv_dup S.1 S.2.1 d_T_takeName_110 rfl ?_
            refine g_get i_T S hW 0 rfl rfl 2 (by decide) kf_T_15 rfl d_T_takeName_111 ?_
            refine lv_iconst (v := (nI 1)) S.1 S.2.1 d_T_takeName_114 (by decide) ?_
            refine n_iadd S d_T_takeName_115 ?_
            refine g_put (ws2 := [(aT, .inr (3, [.ref aF, .ref aTb, .int (nI (e0 + 1)), .int (nI ln), .int kd, .int (nI z0), .long (f1 ||| (((nI (b e0)).toInt64) <<< ((nI (8 * (e0 - z0))).toInt64 &&& 63))), .long g1])), (aTb, .inl (cB, 8192, .inl (sby b))), (aF, .inr (0, [.int fn, .int fw]))]) i_T ft_T ft_T_ok n_T S hW 0 rfl rfl 2 (by decide) kf_T_15 rfl rfl rfl (Nat.le_of_ble_eq_true rfl) rfl d_T_takeName_116 (fun H locs hW => ?_)
            refine lv_goto (tgt := 10) S.1 S.2.1 d_T_takeName_119 (by decide) ?_
            exact ih (e0 + 1) (f1 ||| (((nI (b e0)).toInt64) <<< ((nI (8 * (e0 - z0))).toInt64 &&& 63))) g1 (by omega) (Or.inl (by omega)) (by omega) (fun j a1 a2 => by rcases Nat.lt_or_ge j e0 with z | z; exact h3 j a1 z; exact (show j = e0 by omega) ▸ hnm) (by first | exact tn_f8 hb h1 h4 c_48 | exact tn_f9 h1 h4 c_48) (by first | exact tn_b8 h1 h5 c_48 | exact tn_b12 hb h1 h5 c_48 c_80 | exact tn_b13 h1 h5 c_80) _ _ hW _ (lv_sub hl [1] rfl)
        · have hW : Wd D (tyl cI cJ cB cZ) A s s.heap H locs [(aT, .inr (3, [.ref aF, .ref aTb, .int (nI e0), .int (nI ln), .int kd, .int (nI z0), .long f1, .long g1])), (aTb, .inl (cB, 8192, .inl (sby b))), (aF, .inr (0, [.int fn, .int fw]))] := hW
          refine lv_if_eq (tgt := 122) S.1 S.2.1 d_T_takeName_32 (by decide) (fun _ => ?_) (fun h => absurd h (by decide))
          have hE : NmE b ln z0 e0 := ⟨by omega, h2, h3, by first | (intro a; omega) | (intro _; assumption)⟩
          refine lv_aload_n S.1 S.2.1 d_T_takeName_122 rfl (lv_at hl 0 rfl) ?_
          refine lv_aload_n S.1 S.2.1 d_T_takeName_123 rfl (lv_at hl 0 rfl) ?_
          refine g_get i_T S hW 0 rfl rfl 6 (by decide) kf_T_28 rfl d_T_takeName_124 ?_
          refine lv_ldc2 (v := 1701869940) S.1 S.2.1 S.2.2.2.1 (S.2.2.2.2 _ kq_T_63) d_T_takeName_127 ?_
          refine W.lcmp S.1 S.2.1 d_T_takeName_130 ?_
          refine lv_if_ne (tgt := 147) S.1 S.2.1 d_T_takeName_131 (by decide) (fun c_131 => ?_) (fun c_131 => ?_)
          · refine lv_iconst (v := (nI 1)) S.1 S.2.1 d_T_takeName_147 (by decide) ?_
            refine g_put (ws2 := [(aT, .inr (3, [.ref aF, .ref aTb, .int (nI e0), .int (nI ln), .int (nI 1), .int (nI z0), .long f1, .long g1])), (aTb, .inl (cB, 8192, .inl (sby b))), (aF, .inr (0, [.int fn, .int fw]))]) i_T ft_T ft_T_ok n_T S hW 0 rfl rfl 4 (by decide) kf_T_22 rfl rfl rfl (Nat.le_of_ble_eq_true rfl) rfl d_T_takeName_148 (fun H locs hW => ?_)
            refine lv_aload_n S.1 S.2.1 d_T_takeName_151 rfl (lv_at hl 0 rfl) ?_
            refine g_get i_T S hW 0 rfl rfl 2 (by decide) kf_T_15 rfl d_T_takeName_152 ?_
            refine lv_aload_n S.1 S.2.1 d_T_takeName_155 rfl (lv_at hl 0 rfl) ?_
            refine g_get i_T S hW 0 rfl rfl 5 (by decide) kf_T_25 rfl d_T_takeName_156 ?_
            refine n_isub S (by omega) d_T_takeName_159 ?_
            refine lv_bipush (v := (nI 12)) S.1 S.2.1 d_T_takeName_160 (by decide) ?_
            refine n_icmp_le (tgt := 180) S (by omega) (by omega) d_T_takeName_162 (by decide) (fun c_162 => ?_) (fun c_162 => ?_)
            · refine lv_iconst (v := (nI 1)) S.1 S.2.1 d_T_takeName_180 (by decide) ?_
              refine lv_goto (tgt := 185) S.1 S.2.1 d_T_takeName_181 (by decide) ?_
              exact ret _ _ _ _ _ _ d_T_takeName_185 rfl (by first | exact (Or.inl ⟨_, _, _, _, (by first | omega | assumption | exact Or.inl ⟨rfl, (lg_cmp_eq _ _).mp c_131, (lg_cmp_eq _ _).mp c_140⟩ | exact Or.inr ⟨rfl, fun h => c_131 ((lg_cmp_eq _ _).mpr h.1)⟩ | exact Or.inr ⟨rfl, fun h => c_140 ((lg_cmp_eq _ _).mpr h.2)⟩), (by first | omega | assumption | exact Or.inl ⟨rfl, (lg_cmp_eq _ _).mp c_131, (lg_cmp_eq _ _).mp c_140⟩ | exact Or.inr ⟨rfl, fun h => c_131 ((lg_cmp_eq _ _).mpr h.1)⟩ | exact Or.inr ⟨rfl, fun h => c_140 ((lg_cmp_eq _ _).mpr h.2)⟩), (by first | omega | assumption | exact Or.inl ⟨rfl, (lg_cmp_eq _ _).mp c_131, (lg_cmp_eq _ _).mp c_140⟩ | exact Or.inr ⟨rfl, fun h => c_131 ((lg_cmp_eq _ _).mpr h.1)⟩ | exact Or.inr ⟨rfl, fun h => c_140 ((lg_cmp_eq _ _).mpr h.2)⟩), (by first | omega | assumption | exact Or.inl ⟨rfl, (lg_cmp_eq _ _).mp c_131, (lg_cmp_eq _ _).mp c_140⟩ | exact Or.inr ⟨rfl, fun h => c_131 ((lg_cmp_eq _ _).mpr h.1)⟩ | exact Or.inr ⟨rfl, fun h => c_140 ((lg_cmp_eq _ _).mpr h.2)⟩), (by first | omega | assumption | exact Or.inl ⟨rfl, (lg_cmp_eq _ _).mp c_131, (lg_cmp_eq _ _).mp c_140⟩ | exact Or.inr ⟨rfl, fun h => c_131 ((lg_cmp_eq _ _).mpr h.1)⟩ | exact Or.inr ⟨rfl, fun h => c_140 ((lg_cmp_eq _ _).mpr h.2)⟩), rfl, rfl⟩) | exact (Or.inr ⟨_, _, _, _, (by first | omega | assumption | exact Or.inl ⟨rfl, (lg_cmp_eq _ _).mp c_131, (lg_cmp_eq _ _).mp c_140⟩ | exact Or.inr ⟨rfl, fun h => c_131 ((lg_cmp_eq _ _).mpr h.1)⟩ | exact Or.inr ⟨rfl, fun h => c_140 ((lg_cmp_eq _ _).mpr h.2)⟩), (by first | omega | assumption | exact Or.inl ⟨rfl, (lg_cmp_eq _ _).mp c_131, (lg_cmp_eq _ _).mp c_140⟩ | exact Or.inr ⟨rfl, fun h => c_131 ((lg_cmp_eq _ _).mpr h.1)⟩ | exact Or.inr ⟨rfl, fun h => c_140 ((lg_cmp_eq _ _).mpr h.2)⟩), rfl, rfl⟩)) hW
            · refine lv_aload_n S.1 S.2.1 d_T_takeName_165 rfl (lv_at hl 0 rfl) ?_
              refine g_get i_T S hW 0 rfl rfl 0 (by decide) kf_T_35 rfl d_T_takeName_166 ?_
              refine lv_iconst (v := (nI 1)) S.1 S.2.1 d_T_takeName_169 (by decide) ?_
              refine lv_aload_n S.1 S.2.1 d_T_takeName_170 rfl (lv_at hl 0 rfl) ?_
              refine g_get i_T S hW 0 rfl rfl 5 (by decide) kf_T_25 rfl d_T_takeName_171 ?_
              refine callV_i (wr := [(aT, .inr (3, [.ref aF, .ref aTb, .int (nI e0), .int (nI ln), .int (nI 1), .int (nI z0), .long f1, .long g1])), (aTb, .inl (cB, 8192, .inl (sby b)))]) (wc := [(aF, .inr (0, [.int fn, .int fw]))]) (np := 2) (As := [.int (nI 1), .int (nI z0)]) (rest := []) (c_F_met l D cI cJ cB cZ aF fn fw (nI 1) (nI z0) ) km_T_57 ki_F_met kv_F_met kz_F kk_F_met (by decide +kernel) S hW hA ⟨Nat.le_of_ble_eq_true rfl, Nat.le_of_ble_eq_true rfl⟩ ⟨Nat.le_of_ble_eq_true rfl, Nat.le_of_ble_eq_true rfl⟩ rfl 0 rfl [2] [0, 1] rfl (by decide) rfl (by decide) (by decide) rfl hl.1 rfl (Nat.le_of_ble_eq_true rfl) d_T_takeName_174 (fun r u H locs hp hW => ?_)
              obtain ⟨rfl, rfl⟩ := hp
              have hW : Wd D (tyl cI cJ cB cZ) A s s.heap H locs [(aT, .inr (3, [.ref aF, .ref aTb, .int (nI e0), .int (nI ln), .int (nI 1), .int (nI z0), .long f1, .long g1])), (aTb, .inl (cB, 8192, .inl (sby b))), (aF, .inr (0, [.int (nI 1), .int (nI z0)]))] := hW
              refine lv_if_eq (tgt := 184) S.1 S.2.1 d_T_takeName_177 (by decide) (fun _ => ?_) (fun h => absurd h (by decide))
              refine lv_iconst (v := (nI 0)) S.1 S.2.1 d_T_takeName_184 (by decide) ?_
              exact ret _ _ _ _ _ _ d_T_takeName_185 rfl (by first | exact (Or.inl ⟨_, _, _, _, (by first | omega | assumption | exact Or.inl ⟨rfl, (lg_cmp_eq _ _).mp c_131, (lg_cmp_eq _ _).mp c_140⟩ | exact Or.inr ⟨rfl, fun h => c_131 ((lg_cmp_eq _ _).mpr h.1)⟩ | exact Or.inr ⟨rfl, fun h => c_140 ((lg_cmp_eq _ _).mpr h.2)⟩), (by first | omega | assumption | exact Or.inl ⟨rfl, (lg_cmp_eq _ _).mp c_131, (lg_cmp_eq _ _).mp c_140⟩ | exact Or.inr ⟨rfl, fun h => c_131 ((lg_cmp_eq _ _).mpr h.1)⟩ | exact Or.inr ⟨rfl, fun h => c_140 ((lg_cmp_eq _ _).mpr h.2)⟩), (by first | omega | assumption | exact Or.inl ⟨rfl, (lg_cmp_eq _ _).mp c_131, (lg_cmp_eq _ _).mp c_140⟩ | exact Or.inr ⟨rfl, fun h => c_131 ((lg_cmp_eq _ _).mpr h.1)⟩ | exact Or.inr ⟨rfl, fun h => c_140 ((lg_cmp_eq _ _).mpr h.2)⟩), (by first | omega | assumption | exact Or.inl ⟨rfl, (lg_cmp_eq _ _).mp c_131, (lg_cmp_eq _ _).mp c_140⟩ | exact Or.inr ⟨rfl, fun h => c_131 ((lg_cmp_eq _ _).mpr h.1)⟩ | exact Or.inr ⟨rfl, fun h => c_140 ((lg_cmp_eq _ _).mpr h.2)⟩), (by first | omega | assumption | exact Or.inl ⟨rfl, (lg_cmp_eq _ _).mp c_131, (lg_cmp_eq _ _).mp c_140⟩ | exact Or.inr ⟨rfl, fun h => c_131 ((lg_cmp_eq _ _).mpr h.1)⟩ | exact Or.inr ⟨rfl, fun h => c_140 ((lg_cmp_eq _ _).mpr h.2)⟩), rfl, rfl⟩) | exact (Or.inr ⟨_, _, _, _, (by first | omega | assumption | exact Or.inl ⟨rfl, (lg_cmp_eq _ _).mp c_131, (lg_cmp_eq _ _).mp c_140⟩ | exact Or.inr ⟨rfl, fun h => c_131 ((lg_cmp_eq _ _).mpr h.1)⟩ | exact Or.inr ⟨rfl, fun h => c_140 ((lg_cmp_eq _ _).mpr h.2)⟩), (by first | omega | assumption | exact Or.inl ⟨rfl, (lg_cmp_eq _ _).mp c_131, (lg_cmp_eq _ _).mp c_140⟩ | exact Or.inr ⟨rfl, fun h => c_131 ((lg_cmp_eq _ _).mpr h.1)⟩ | exact Or.inr ⟨rfl, fun h => c_140 ((lg_cmp_eq _ _).mpr h.2)⟩), rfl, rfl⟩)) hW
          · refine lv_aload_n S.1 S.2.1 d_T_takeName_134 rfl (lv_at hl 0 rfl) ?_
            refine g_get i_T S hW 0 rfl rfl 7 (by decide) kf_T_32 rfl d_T_takeName_135 ?_
            refine lv_lconst (v := 0) S.1 S.2.1 d_T_takeName_138 rfl ?_
            refine W.lcmp S.1 S.2.1 d_T_takeName_139 ?_
            refine lv_if_ne (tgt := 147) S.1 S.2.1 d_T_takeName_140 (by decide) (fun c_140 => ?_) (fun c_140 => ?_)
            · refine lv_iconst (v := (nI 1)) S.1 S.2.1 d_T_takeName_147 (by decide) ?_
              refine g_put (ws2 := [(aT, .inr (3, [.ref aF, .ref aTb, .int (nI e0), .int (nI ln), .int (nI 1), .int (nI z0), .long f1, .long g1])), (aTb, .inl (cB, 8192, .inl (sby b))), (aF, .inr (0, [.int fn, .int fw]))]) i_T ft_T ft_T_ok n_T S hW 0 rfl rfl 4 (by decide) kf_T_22 rfl rfl rfl (Nat.le_of_ble_eq_true rfl) rfl d_T_takeName_148 (fun H locs hW => ?_)
              refine lv_aload_n S.1 S.2.1 d_T_takeName_151 rfl (lv_at hl 0 rfl) ?_
              refine g_get i_T S hW 0 rfl rfl 2 (by decide) kf_T_15 rfl d_T_takeName_152 ?_
              refine lv_aload_n S.1 S.2.1 d_T_takeName_155 rfl (lv_at hl 0 rfl) ?_
              refine g_get i_T S hW 0 rfl rfl 5 (by decide) kf_T_25 rfl d_T_takeName_156 ?_
              refine n_isub S (by omega) d_T_takeName_159 ?_
              refine lv_bipush (v := (nI 12)) S.1 S.2.1 d_T_takeName_160 (by decide) ?_
              refine n_icmp_le (tgt := 180) S (by omega) (by omega) d_T_takeName_162 (by decide) (fun c_162 => ?_) (fun c_162 => ?_)
              · refine lv_iconst (v := (nI 1)) S.1 S.2.1 d_T_takeName_180 (by decide) ?_
                refine lv_goto (tgt := 185) S.1 S.2.1 d_T_takeName_181 (by decide) ?_
                exact ret _ _ _ _ _ _ d_T_takeName_185 rfl (by first | exact (Or.inl ⟨_, _, _, _, (by first | omega | assumption | exact Or.inl ⟨rfl, (lg_cmp_eq _ _).mp c_131, (lg_cmp_eq _ _).mp c_140⟩ | exact Or.inr ⟨rfl, fun h => c_131 ((lg_cmp_eq _ _).mpr h.1)⟩ | exact Or.inr ⟨rfl, fun h => c_140 ((lg_cmp_eq _ _).mpr h.2)⟩), (by first | omega | assumption | exact Or.inl ⟨rfl, (lg_cmp_eq _ _).mp c_131, (lg_cmp_eq _ _).mp c_140⟩ | exact Or.inr ⟨rfl, fun h => c_131 ((lg_cmp_eq _ _).mpr h.1)⟩ | exact Or.inr ⟨rfl, fun h => c_140 ((lg_cmp_eq _ _).mpr h.2)⟩), (by first | omega | assumption | exact Or.inl ⟨rfl, (lg_cmp_eq _ _).mp c_131, (lg_cmp_eq _ _).mp c_140⟩ | exact Or.inr ⟨rfl, fun h => c_131 ((lg_cmp_eq _ _).mpr h.1)⟩ | exact Or.inr ⟨rfl, fun h => c_140 ((lg_cmp_eq _ _).mpr h.2)⟩), (by first | omega | assumption | exact Or.inl ⟨rfl, (lg_cmp_eq _ _).mp c_131, (lg_cmp_eq _ _).mp c_140⟩ | exact Or.inr ⟨rfl, fun h => c_131 ((lg_cmp_eq _ _).mpr h.1)⟩ | exact Or.inr ⟨rfl, fun h => c_140 ((lg_cmp_eq _ _).mpr h.2)⟩), (by first | omega | assumption | exact Or.inl ⟨rfl, (lg_cmp_eq _ _).mp c_131, (lg_cmp_eq _ _).mp c_140⟩ | exact Or.inr ⟨rfl, fun h => c_131 ((lg_cmp_eq _ _).mpr h.1)⟩ | exact Or.inr ⟨rfl, fun h => c_140 ((lg_cmp_eq _ _).mpr h.2)⟩), rfl, rfl⟩) | exact (Or.inr ⟨_, _, _, _, (by first | omega | assumption | exact Or.inl ⟨rfl, (lg_cmp_eq _ _).mp c_131, (lg_cmp_eq _ _).mp c_140⟩ | exact Or.inr ⟨rfl, fun h => c_131 ((lg_cmp_eq _ _).mpr h.1)⟩ | exact Or.inr ⟨rfl, fun h => c_140 ((lg_cmp_eq _ _).mpr h.2)⟩), (by first | omega | assumption | exact Or.inl ⟨rfl, (lg_cmp_eq _ _).mp c_131, (lg_cmp_eq _ _).mp c_140⟩ | exact Or.inr ⟨rfl, fun h => c_131 ((lg_cmp_eq _ _).mpr h.1)⟩ | exact Or.inr ⟨rfl, fun h => c_140 ((lg_cmp_eq _ _).mpr h.2)⟩), rfl, rfl⟩)) hW
              · refine lv_aload_n S.1 S.2.1 d_T_takeName_165 rfl (lv_at hl 0 rfl) ?_
                refine g_get i_T S hW 0 rfl rfl 0 (by decide) kf_T_35 rfl d_T_takeName_166 ?_
                refine lv_iconst (v := (nI 1)) S.1 S.2.1 d_T_takeName_169 (by decide) ?_
                refine lv_aload_n S.1 S.2.1 d_T_takeName_170 rfl (lv_at hl 0 rfl) ?_
                refine g_get i_T S hW 0 rfl rfl 5 (by decide) kf_T_25 rfl d_T_takeName_171 ?_
                refine callV_i (wr := [(aT, .inr (3, [.ref aF, .ref aTb, .int (nI e0), .int (nI ln), .int (nI 1), .int (nI z0), .long f1, .long g1])), (aTb, .inl (cB, 8192, .inl (sby b)))]) (wc := [(aF, .inr (0, [.int fn, .int fw]))]) (np := 2) (As := [.int (nI 1), .int (nI z0)]) (rest := []) (c_F_met l D cI cJ cB cZ aF fn fw (nI 1) (nI z0) ) km_T_57 ki_F_met kv_F_met kz_F kk_F_met (by decide +kernel) S hW hA ⟨Nat.le_of_ble_eq_true rfl, Nat.le_of_ble_eq_true rfl⟩ ⟨Nat.le_of_ble_eq_true rfl, Nat.le_of_ble_eq_true rfl⟩ rfl 0 rfl [2] [0, 1] rfl (by decide) rfl (by decide) (by decide) rfl hl.1 rfl (Nat.le_of_ble_eq_true rfl) d_T_takeName_174 (fun r u H locs hp hW => ?_)
                obtain ⟨rfl, rfl⟩ := hp
                have hW : Wd D (tyl cI cJ cB cZ) A s s.heap H locs [(aT, .inr (3, [.ref aF, .ref aTb, .int (nI e0), .int (nI ln), .int (nI 1), .int (nI z0), .long f1, .long g1])), (aTb, .inl (cB, 8192, .inl (sby b))), (aF, .inr (0, [.int (nI 1), .int (nI z0)]))] := hW
                refine lv_if_eq (tgt := 184) S.1 S.2.1 d_T_takeName_177 (by decide) (fun _ => ?_) (fun h => absurd h (by decide))
                refine lv_iconst (v := (nI 0)) S.1 S.2.1 d_T_takeName_184 (by decide) ?_
                exact ret _ _ _ _ _ _ d_T_takeName_185 rfl (by first | exact (Or.inl ⟨_, _, _, _, (by first | omega | assumption | exact Or.inl ⟨rfl, (lg_cmp_eq _ _).mp c_131, (lg_cmp_eq _ _).mp c_140⟩ | exact Or.inr ⟨rfl, fun h => c_131 ((lg_cmp_eq _ _).mpr h.1)⟩ | exact Or.inr ⟨rfl, fun h => c_140 ((lg_cmp_eq _ _).mpr h.2)⟩), (by first | omega | assumption | exact Or.inl ⟨rfl, (lg_cmp_eq _ _).mp c_131, (lg_cmp_eq _ _).mp c_140⟩ | exact Or.inr ⟨rfl, fun h => c_131 ((lg_cmp_eq _ _).mpr h.1)⟩ | exact Or.inr ⟨rfl, fun h => c_140 ((lg_cmp_eq _ _).mpr h.2)⟩), (by first | omega | assumption | exact Or.inl ⟨rfl, (lg_cmp_eq _ _).mp c_131, (lg_cmp_eq _ _).mp c_140⟩ | exact Or.inr ⟨rfl, fun h => c_131 ((lg_cmp_eq _ _).mpr h.1)⟩ | exact Or.inr ⟨rfl, fun h => c_140 ((lg_cmp_eq _ _).mpr h.2)⟩), (by first | omega | assumption | exact Or.inl ⟨rfl, (lg_cmp_eq _ _).mp c_131, (lg_cmp_eq _ _).mp c_140⟩ | exact Or.inr ⟨rfl, fun h => c_131 ((lg_cmp_eq _ _).mpr h.1)⟩ | exact Or.inr ⟨rfl, fun h => c_140 ((lg_cmp_eq _ _).mpr h.2)⟩), (by first | omega | assumption | exact Or.inl ⟨rfl, (lg_cmp_eq _ _).mp c_131, (lg_cmp_eq _ _).mp c_140⟩ | exact Or.inr ⟨rfl, fun h => c_131 ((lg_cmp_eq _ _).mpr h.1)⟩ | exact Or.inr ⟨rfl, fun h => c_140 ((lg_cmp_eq _ _).mpr h.2)⟩), rfl, rfl⟩) | exact (Or.inr ⟨_, _, _, _, (by first | omega | assumption | exact Or.inl ⟨rfl, (lg_cmp_eq _ _).mp c_131, (lg_cmp_eq _ _).mp c_140⟩ | exact Or.inr ⟨rfl, fun h => c_131 ((lg_cmp_eq _ _).mpr h.1)⟩ | exact Or.inr ⟨rfl, fun h => c_140 ((lg_cmp_eq _ _).mpr h.2)⟩), (by first | omega | assumption | exact Or.inl ⟨rfl, (lg_cmp_eq _ _).mp c_131, (lg_cmp_eq _ _).mp c_140⟩ | exact Or.inr ⟨rfl, fun h => c_131 ((lg_cmp_eq _ _).mpr h.1)⟩ | exact Or.inr ⟨rfl, fun h => c_140 ((lg_cmp_eq _ _).mpr h.2)⟩), rfl, rfl⟩)) hW
            · refine lv_iconst (v := (nI 2)) S.1 S.2.1 d_T_takeName_143 (by decide) ?_
              refine lv_goto (tgt := 148) S.1 S.2.1 d_T_takeName_144 (by decide) ?_
              refine g_put (ws2 := [(aT, .inr (3, [.ref aF, .ref aTb, .int (nI e0), .int (nI ln), .int (nI 2), .int (nI z0), .long f1, .long g1])), (aTb, .inl (cB, 8192, .inl (sby b))), (aF, .inr (0, [.int fn, .int fw]))]) i_T ft_T ft_T_ok n_T S hW 0 rfl rfl 4 (by decide) kf_T_22 rfl rfl rfl (Nat.le_of_ble_eq_true rfl) rfl d_T_takeName_148 (fun H locs hW => ?_)
              refine lv_aload_n S.1 S.2.1 d_T_takeName_151 rfl (lv_at hl 0 rfl) ?_
              refine g_get i_T S hW 0 rfl rfl 2 (by decide) kf_T_15 rfl d_T_takeName_152 ?_
              refine lv_aload_n S.1 S.2.1 d_T_takeName_155 rfl (lv_at hl 0 rfl) ?_
              refine g_get i_T S hW 0 rfl rfl 5 (by decide) kf_T_25 rfl d_T_takeName_156 ?_
              refine n_isub S (by omega) d_T_takeName_159 ?_
              refine lv_bipush (v := (nI 12)) S.1 S.2.1 d_T_takeName_160 (by decide) ?_
              refine n_icmp_le (tgt := 180) S (by omega) (by omega) d_T_takeName_162 (by decide) (fun c_162 => ?_) (fun c_162 => ?_)
              · refine lv_iconst (v := (nI 1)) S.1 S.2.1 d_T_takeName_180 (by decide) ?_
                refine lv_goto (tgt := 185) S.1 S.2.1 d_T_takeName_181 (by decide) ?_
                exact ret _ _ _ _ _ _ d_T_takeName_185 rfl (by first | exact (Or.inl ⟨_, _, _, _, (by first | omega | assumption | exact Or.inl ⟨rfl, (lg_cmp_eq _ _).mp c_131, (lg_cmp_eq _ _).mp c_140⟩ | exact Or.inr ⟨rfl, fun h => c_131 ((lg_cmp_eq _ _).mpr h.1)⟩ | exact Or.inr ⟨rfl, fun h => c_140 ((lg_cmp_eq _ _).mpr h.2)⟩), (by first | omega | assumption | exact Or.inl ⟨rfl, (lg_cmp_eq _ _).mp c_131, (lg_cmp_eq _ _).mp c_140⟩ | exact Or.inr ⟨rfl, fun h => c_131 ((lg_cmp_eq _ _).mpr h.1)⟩ | exact Or.inr ⟨rfl, fun h => c_140 ((lg_cmp_eq _ _).mpr h.2)⟩), (by first | omega | assumption | exact Or.inl ⟨rfl, (lg_cmp_eq _ _).mp c_131, (lg_cmp_eq _ _).mp c_140⟩ | exact Or.inr ⟨rfl, fun h => c_131 ((lg_cmp_eq _ _).mpr h.1)⟩ | exact Or.inr ⟨rfl, fun h => c_140 ((lg_cmp_eq _ _).mpr h.2)⟩), (by first | omega | assumption | exact Or.inl ⟨rfl, (lg_cmp_eq _ _).mp c_131, (lg_cmp_eq _ _).mp c_140⟩ | exact Or.inr ⟨rfl, fun h => c_131 ((lg_cmp_eq _ _).mpr h.1)⟩ | exact Or.inr ⟨rfl, fun h => c_140 ((lg_cmp_eq _ _).mpr h.2)⟩), (by first | omega | assumption | exact Or.inl ⟨rfl, (lg_cmp_eq _ _).mp c_131, (lg_cmp_eq _ _).mp c_140⟩ | exact Or.inr ⟨rfl, fun h => c_131 ((lg_cmp_eq _ _).mpr h.1)⟩ | exact Or.inr ⟨rfl, fun h => c_140 ((lg_cmp_eq _ _).mpr h.2)⟩), rfl, rfl⟩) | exact (Or.inr ⟨_, _, _, _, (by first | omega | assumption | exact Or.inl ⟨rfl, (lg_cmp_eq _ _).mp c_131, (lg_cmp_eq _ _).mp c_140⟩ | exact Or.inr ⟨rfl, fun h => c_131 ((lg_cmp_eq _ _).mpr h.1)⟩ | exact Or.inr ⟨rfl, fun h => c_140 ((lg_cmp_eq _ _).mpr h.2)⟩), (by first | omega | assumption | exact Or.inl ⟨rfl, (lg_cmp_eq _ _).mp c_131, (lg_cmp_eq _ _).mp c_140⟩ | exact Or.inr ⟨rfl, fun h => c_131 ((lg_cmp_eq _ _).mpr h.1)⟩ | exact Or.inr ⟨rfl, fun h => c_140 ((lg_cmp_eq _ _).mpr h.2)⟩), rfl, rfl⟩)) hW
              · refine lv_aload_n S.1 S.2.1 d_T_takeName_165 rfl (lv_at hl 0 rfl) ?_
                refine g_get i_T S hW 0 rfl rfl 0 (by decide) kf_T_35 rfl d_T_takeName_166 ?_
                refine lv_iconst (v := (nI 1)) S.1 S.2.1 d_T_takeName_169 (by decide) ?_
                refine lv_aload_n S.1 S.2.1 d_T_takeName_170 rfl (lv_at hl 0 rfl) ?_
                refine g_get i_T S hW 0 rfl rfl 5 (by decide) kf_T_25 rfl d_T_takeName_171 ?_
                refine callV_i (wr := [(aT, .inr (3, [.ref aF, .ref aTb, .int (nI e0), .int (nI ln), .int (nI 2), .int (nI z0), .long f1, .long g1])), (aTb, .inl (cB, 8192, .inl (sby b)))]) (wc := [(aF, .inr (0, [.int fn, .int fw]))]) (np := 2) (As := [.int (nI 1), .int (nI z0)]) (rest := []) (c_F_met l D cI cJ cB cZ aF fn fw (nI 1) (nI z0) ) km_T_57 ki_F_met kv_F_met kz_F kk_F_met (by decide +kernel) S hW hA ⟨Nat.le_of_ble_eq_true rfl, Nat.le_of_ble_eq_true rfl⟩ ⟨Nat.le_of_ble_eq_true rfl, Nat.le_of_ble_eq_true rfl⟩ rfl 0 rfl [2] [0, 1] rfl (by decide) rfl (by decide) (by decide) rfl hl.1 rfl (Nat.le_of_ble_eq_true rfl) d_T_takeName_174 (fun r u H locs hp hW => ?_)
                obtain ⟨rfl, rfl⟩ := hp
                have hW : Wd D (tyl cI cJ cB cZ) A s s.heap H locs [(aT, .inr (3, [.ref aF, .ref aTb, .int (nI e0), .int (nI ln), .int (nI 2), .int (nI z0), .long f1, .long g1])), (aTb, .inl (cB, 8192, .inl (sby b))), (aF, .inr (0, [.int (nI 1), .int (nI z0)]))] := hW
                refine lv_if_eq (tgt := 184) S.1 S.2.1 d_T_takeName_177 (by decide) (fun _ => ?_) (fun h => absurd h (by decide))
                refine lv_iconst (v := (nI 0)) S.1 S.2.1 d_T_takeName_184 (by decide) ?_
                exact ret _ _ _ _ _ _ d_T_takeName_185 rfl (by first | exact (Or.inl ⟨_, _, _, _, (by first | omega | assumption | exact Or.inl ⟨rfl, (lg_cmp_eq _ _).mp c_131, (lg_cmp_eq _ _).mp c_140⟩ | exact Or.inr ⟨rfl, fun h => c_131 ((lg_cmp_eq _ _).mpr h.1)⟩ | exact Or.inr ⟨rfl, fun h => c_140 ((lg_cmp_eq _ _).mpr h.2)⟩), (by first | omega | assumption | exact Or.inl ⟨rfl, (lg_cmp_eq _ _).mp c_131, (lg_cmp_eq _ _).mp c_140⟩ | exact Or.inr ⟨rfl, fun h => c_131 ((lg_cmp_eq _ _).mpr h.1)⟩ | exact Or.inr ⟨rfl, fun h => c_140 ((lg_cmp_eq _ _).mpr h.2)⟩), (by first | omega | assumption | exact Or.inl ⟨rfl, (lg_cmp_eq _ _).mp c_131, (lg_cmp_eq _ _).mp c_140⟩ | exact Or.inr ⟨rfl, fun h => c_131 ((lg_cmp_eq _ _).mpr h.1)⟩ | exact Or.inr ⟨rfl, fun h => c_140 ((lg_cmp_eq _ _).mpr h.2)⟩), (by first | omega | assumption | exact Or.inl ⟨rfl, (lg_cmp_eq _ _).mp c_131, (lg_cmp_eq _ _).mp c_140⟩ | exact Or.inr ⟨rfl, fun h => c_131 ((lg_cmp_eq _ _).mpr h.1)⟩ | exact Or.inr ⟨rfl, fun h => c_140 ((lg_cmp_eq _ _).mpr h.2)⟩), (by first | omega | assumption | exact Or.inl ⟨rfl, (lg_cmp_eq _ _).mp c_131, (lg_cmp_eq _ _).mp c_140⟩ | exact Or.inr ⟨rfl, fun h => c_131 ((lg_cmp_eq _ _).mpr h.1)⟩ | exact Or.inr ⟨rfl, fun h => c_140 ((lg_cmp_eq _ _).mpr h.2)⟩), rfl, rfl⟩) | exact (Or.inr ⟨_, _, _, _, (by first | omega | assumption | exact Or.inl ⟨rfl, (lg_cmp_eq _ _).mp c_131, (lg_cmp_eq _ _).mp c_140⟩ | exact Or.inr ⟨rfl, fun h => c_131 ((lg_cmp_eq _ _).mpr h.1)⟩ | exact Or.inr ⟨rfl, fun h => c_140 ((lg_cmp_eq _ _).mpr h.2)⟩), (by first | omega | assumption | exact Or.inl ⟨rfl, (lg_cmp_eq _ _).mp c_131, (lg_cmp_eq _ _).mp c_140⟩ | exact Or.inr ⟨rfl, fun h => c_131 ((lg_cmp_eq _ _).mpr h.1)⟩ | exact Or.inr ⟨rfl, fun h => c_140 ((lg_cmp_eq _ _).mpr h.2)⟩), rfl, rfl⟩)) hW
  exact loop_10 (ln - z0 + 1) z0 0 0 (Nat.lt_succ_self _) (Or.inr rfl) (by omega) (fun j a1 a2 => absurd a2 (by omega)) (by simp [leN]; rfl) (by simp [leN]; rfl) _ _ hW _ (lv_sub hl [0] rfl)
