/-! what each method owes, point by point (by program) -/
theorem sg_L_worked {d : Nat} {p1 p2 p3 : Int} {M : Mem} {r : Res} (h : (if p1 = 33 then (if ¬ p3 = 0 then r = (some (0, 0), M) else r = (some (0, 1), M)) else (if p1 = 37 then (if ¬ p3 = 0 then (¬ p3 = 0) ∧ r = (some (0, w32 (Int.tmod p2 p3)), M) else r = (some (0, 0), M)) else (if p1 = 38 then (if p2 = 0 then r = (some (0, 0), M) else (if p3 = 0 then r = (some (0, 0), M) else r = (some (0, 1), M))) else (if p1 = 42 then r = (some (0, w32 (p2 * p3)), M) else (if p1 = 43 then r = (some (0, w32 (p2 + p3)), M) else (if p1 = 45 then r = (some (0, w32 (p2 - p3)), M) else (if p1 = 47 then (if ¬ p3 = 0 then (¬ p3 = 0) ∧ r = (some (0, w32 (Int.tdiv p2 p3)), M) else r = (some (0, 0), M)) else (if p1 = 60 then (if p3 ≤ p2 then r = (some (0, 0), M) else r = (some (0, 1), M)) else (if p1 = 61 then (if ¬ p2 = p3 then r = (some (0, 0), M) else r = (some (0, 1), M)) else (if p1 = 62 then (if p2 ≤ p3 then r = (some (0, 0), M) else r = (some (0, 1), M)) else (if p1 = 124 then (if ¬ p2 = 0 then r = (some (0, 1), M) else (if p3 = 0 then r = (some (0, 0), M) else r = (some (0, 1), M))) else (if p1 = 126 then r = (some (0, w32 (-p3)), M) else r = (some (0, 0), M)))))))))))))) : Cl (d + 1) m_L_worked [(0, p1), (0, p2), (0, p3)] M r := by
  refine cl_of (c := k_L_worked) (mL := 3) (rz := 1) (rc := 99) (ls := [(0, p1), (0, p2), (0, p3)]) rfl rfl rfl ?_
  refine x_il (pc' := 1) rfl rfl rfl ?_
  by_cases q1 : p1 = 33
  · replace h := ite_t q1 h
    refine x_lsw (t' := 67) rfl (by rw [q1]; rfl) ?_
    refine x_il (pc' := 68) rfl rfl rfl ?_
    refine x_ifne (pc' := 69) (t' := 71) rfl rfl rfl (fun q2 => ?_) (fun q2 => ?_)
    · replace h := ite_t q2 h
      refine x_c (pc' := 72) rfl rfl ?_
      exact x_iret rfl h
    · replace h := ite_f q2 h
      refine x_c (pc' := 70) rfl rfl ?_
      refine x_goto (t' := 72) rfl rfl ?_
      exact x_iret rfl h
  replace h := ite_f q1 h
  by_cases q3 : p1 = 37
  · replace h := ite_t q3 h
    refine x_lsw (t' := 59) rfl (by rw [q3]; rfl) ?_
    refine x_il (pc' := 60) rfl rfl rfl ?_
    refine x_ifne (pc' := 61) (t' := 63) rfl rfl rfl (fun q4 => ?_) (fun q4 => ?_)
    · replace h := ite_t q4 h
      refine x_il (pc' := 64) rfl rfl rfl ?_
      refine x_il (pc' := 65) rfl rfl rfl ?_
      obtain ⟨q5, h⟩ := h
      refine x_ib (pc' := 66) (v := w32 (Int.tmod p2 p3)) rfl (show ibin 4 p2 p3 = some (w32 (Int.tmod p2 p3)) from if_neg q5) rfl ?_
      exact x_iret rfl h
    · replace h := ite_f q4 h
      refine x_c (pc' := 62) rfl rfl ?_
      refine x_goto (t' := 66) rfl rfl ?_
      exact x_iret rfl h
  replace h := ite_f q3 h
  by_cases q6 : p1 = 38
  · replace h := ite_t q6 h
    refine x_lsw (t' := 10) rfl (by rw [q6]; rfl) ?_
    refine x_il (pc' := 11) rfl rfl rfl ?_
    refine x_ifeq (pc' := 12) (t' := 16) rfl rfl rfl (fun q7 => ?_) (fun q7 => ?_)
    · replace h := ite_t q7 h
      refine x_c (pc' := 17) rfl rfl ?_
      exact x_iret rfl h
    · replace h := ite_f q7 h
      refine x_il (pc' := 13) rfl rfl rfl ?_
      refine x_ifeq (pc' := 14) (t' := 16) rfl rfl rfl (fun q8 => ?_) (fun q8 => ?_)
      · replace h := ite_t q8 h
        refine x_c (pc' := 17) rfl rfl ?_
        exact x_iret rfl h
      · replace h := ite_f q8 h
        refine x_c (pc' := 15) rfl rfl ?_
        refine x_goto (t' := 17) rfl rfl ?_
        exact x_iret rfl h
  replace h := ite_f q6 h
  by_cases q9 : p1 = 42
  · replace h := ite_t q9 h
    refine x_lsw (t' := 47) rfl (by rw [q9]; rfl) ?_
    refine x_il (pc' := 48) rfl rfl rfl ?_
    refine x_il (pc' := 49) rfl rfl rfl ?_
    refine x_ib (pc' := 50) (v := w32 (p2 * p3)) rfl rfl rfl ?_
    exact x_iret rfl h
  replace h := ite_f q9 h
  by_cases q10 : p1 = 43
  · replace h := ite_t q10 h
    refine x_lsw (t' := 39) rfl (by rw [q10]; rfl) ?_
    refine x_il (pc' := 40) rfl rfl rfl ?_
    refine x_il (pc' := 41) rfl rfl rfl ?_
    refine x_ib (pc' := 42) (v := w32 (p2 + p3)) rfl rfl rfl ?_
    exact x_iret rfl h
  replace h := ite_f q10 h
  by_cases q11 : p1 = 45
  · replace h := ite_t q11 h
    refine x_lsw (t' := 43) rfl (by rw [q11]; rfl) ?_
    refine x_il (pc' := 44) rfl rfl rfl ?_
    refine x_il (pc' := 45) rfl rfl rfl ?_
    refine x_ib (pc' := 46) (v := w32 (p2 - p3)) rfl rfl rfl ?_
    exact x_iret rfl h
  replace h := ite_f q11 h
  by_cases q12 : p1 = 47
  · replace h := ite_t q12 h
    refine x_lsw (t' := 51) rfl (by rw [q12]; rfl) ?_
    refine x_il (pc' := 52) rfl rfl rfl ?_
    refine x_ifne (pc' := 53) (t' := 55) rfl rfl rfl (fun q13 => ?_) (fun q13 => ?_)
    · replace h := ite_t q13 h
      refine x_il (pc' := 56) rfl rfl rfl ?_
      refine x_il (pc' := 57) rfl rfl rfl ?_
      obtain ⟨q14, h⟩ := h
      refine x_ib (pc' := 58) (v := w32 (Int.tdiv p2 p3)) rfl (show ibin 3 p2 p3 = some (w32 (Int.tdiv p2 p3)) from if_neg q14) rfl ?_
      exact x_iret rfl h
    · replace h := ite_f q13 h
      refine x_c (pc' := 54) rfl rfl ?_
      refine x_goto (t' := 58) rfl rfl ?_
      exact x_iret rfl h
  replace h := ite_f q12 h
  by_cases q15 : p1 = 60
  · replace h := ite_t q15 h
    refine x_lsw (t' := 18) rfl (by rw [q15]; rfl) ?_
    refine x_il (pc' := 19) rfl rfl rfl ?_
    refine x_il (pc' := 20) rfl rfl rfl ?_
    refine x_icge (pc' := 21) (t' := 23) rfl rfl rfl (fun q16 => ?_) (fun q16 => ?_)
    · replace h := ite_t q16 h
      refine x_c (pc' := 24) rfl rfl ?_
      exact x_iret rfl h
    · replace h := ite_f q16 h
      refine x_c (pc' := 22) rfl rfl ?_
      refine x_goto (t' := 24) rfl rfl ?_
      exact x_iret rfl h
  replace h := ite_f q15 h
  by_cases q17 : p1 = 61
  · replace h := ite_t q17 h
    refine x_lsw (t' := 25) rfl (by rw [q17]; rfl) ?_
    refine x_il (pc' := 26) rfl rfl rfl ?_
    refine x_il (pc' := 27) rfl rfl rfl ?_
    refine x_icne (pc' := 28) (t' := 30) rfl rfl rfl (fun q18 => ?_) (fun q18 => ?_)
    · replace h := ite_t q18 h
      refine x_c (pc' := 31) rfl rfl ?_
      exact x_iret rfl h
    · replace h := ite_f q18 h
      refine x_c (pc' := 29) rfl rfl ?_
      refine x_goto (t' := 31) rfl rfl ?_
      exact x_iret rfl h
  replace h := ite_f q17 h
  by_cases q19 : p1 = 62
  · replace h := ite_t q19 h
    refine x_lsw (t' := 32) rfl (by rw [q19]; rfl) ?_
    refine x_il (pc' := 33) rfl rfl rfl ?_
    refine x_il (pc' := 34) rfl rfl rfl ?_
    refine x_icle (pc' := 35) (t' := 37) rfl rfl rfl (fun q20 => ?_) (fun q20 => ?_)
    · replace h := ite_t q20 h
      refine x_c (pc' := 38) rfl rfl ?_
      exact x_iret rfl h
    · replace h := ite_f q20 h
      refine x_c (pc' := 36) rfl rfl ?_
      refine x_goto (t' := 38) rfl rfl ?_
      exact x_iret rfl h
  replace h := ite_f q19 h
  by_cases q21 : p1 = 124
  · replace h := ite_t q21 h
    refine x_lsw (t' := 2) rfl (by rw [q21]; rfl) ?_
    refine x_il (pc' := 3) rfl rfl rfl ?_
    refine x_ifne (pc' := 4) (t' := 6) rfl rfl rfl (fun q22 => ?_) (fun q22 => ?_)
    · replace h := ite_t q22 h
      refine x_c (pc' := 7) rfl rfl ?_
      refine x_goto (t' := 9) rfl rfl ?_
      exact x_iret rfl h
    · replace h := ite_f q22 h
      refine x_il (pc' := 5) rfl rfl rfl ?_
      refine x_ifeq (pc' := 6) (t' := 8) rfl rfl rfl (fun q23 => ?_) (fun q23 => ?_)
      · replace h := ite_t q23 h
        refine x_c (pc' := 9) rfl rfl ?_
        exact x_iret rfl h
      · replace h := ite_f q23 h
        refine x_c (pc' := 7) rfl rfl ?_
        refine x_goto (t' := 9) rfl rfl ?_
        exact x_iret rfl h
  replace h := ite_f q21 h
  by_cases q24 : p1 = 126
  · replace h := ite_t q24 h
    refine x_lsw (t' := 73) rfl (by rw [q24]; rfl) ?_
    refine x_il (pc' := 74) rfl rfl rfl ?_
    refine x_neg (pc' := 75) rfl rfl ?_
    exact x_iret rfl h
  replace h := ite_f q24 h
  refine x_lsw (t' := 76) rfl (by simp only [lswT, q1, q3, q6, q9, q10, q11, q12, q15, q17, q19, q21, q24, if_false]; rfl) ?_
  refine x_c (pc' := 77) rfl rfl ?_
  exact x_iret rfl h
theorem sg_L_push {d : Nat} {p1 : Int} {M : Mem} {r : Res} (h : (if M 31 10 < 0 then r = (none, M) else (if 128 ≤ M 31 10 then r = (none, M) else (0 ≤ M 31 10 ∧ M 31 10 < 128) ∧ r = (none, up (up M 33 (M 31 10) p1) 31 10 (w32 (((up M 33 (M 31 10) p1) 31 10) + 1)))))) : Cl (d + 1) m_L_push [(2, 31), (0, p1)] M r := by
  refine cl_of (c := k_L_push) (mL := 2) (rz := 0) (rc := 2) (ls := [(2, 31), (0, p1)]) rfl rfl rfl ?_
  refine x_al (pc' := 1) rfl rfl (by decide) rfl ?_
  refine x_gf (pc' := 2) (v := M 31 10) rfl rfl rfl rfl rfl ?_
  refine x_iflt (pc' := 3) (t' := 19) rfl rfl rfl (fun q1 => ?_) (fun q1 => ?_)
  · replace h := ite_t q1 h
    exact x_ret rfl h
  · replace h := ite_f q1 h
    refine x_al (pc' := 4) rfl rfl (by decide) rfl ?_
    refine x_gf (pc' := 5) (v := M 31 10) rfl rfl rfl rfl rfl ?_
    refine x_c (pc' := 6) rfl rfl ?_
    refine x_icge (pc' := 7) (t' := 19) rfl rfl rfl (fun q2 => ?_) (fun q2 => ?_)
    · replace h := ite_t q2 h
      exact x_ret rfl h
    · replace h := ite_f q2 h
      refine x_al (pc' := 8) rfl rfl (by decide) rfl ?_
      refine x_gr (pc' := 9) (v := 33) rfl rfl rfl (by decide) rfl ?_
      refine x_al (pc' := 10) rfl rfl (by decide) rfl ?_
      refine x_gf (pc' := 11) (v := M 31 10) rfl rfl rfl rfl rfl ?_
      refine x_il (pc' := 12) rfl rfl rfl ?_
      obtain ⟨q3, h⟩ := h
      refine x_ist (pc' := 13) 128 (M2 := up M 33 (M 31 10) p1) rfl rfl rfl q3.1 q3.2 rfl ?_
      refine x_al (pc' := 14) rfl rfl (by decide) rfl ?_
      refine x_dupa (pc' := 15) rfl rfl ?_
      refine x_gf (pc' := 16) (v := (up M 33 (M 31 10) p1) 31 10) rfl rfl rfl rfl rfl ?_
      refine x_c (pc' := 17) rfl rfl ?_
      refine x_ib (pc' := 18) (v := w32 (((up M 33 (M 31 10) p1) 31 10) + 1)) rfl rfl rfl ?_
      refine x_pf (pc' := 19) (M2 := up (up M 33 (M 31 10) p1) 31 10 (w32 (((up M 33 (M 31 10) p1) 31 10) + 1))) rfl rfl rfl rfl ?_
      exact x_ret rfl h
theorem sg_L_pop {d : Nat} {M : Mem} {r : Res} (h : (if M 31 10 ≤ 0 then r = (some (0, 0), M) else (if M 31 10 ≤ 128 then (0 ≤ (up M 31 10 (w32 ((M 31 10) - 1))) 31 10 ∧ (up M 31 10 (w32 ((M 31 10) - 1))) 31 10 < 128) ∧ r = (some (0, (up M 31 10 (w32 ((M 31 10) - 1))) 33 ((up M 31 10 (w32 ((M 31 10) - 1))) 31 10)), up M 31 10 (w32 ((M 31 10) - 1))) else r = (some (0, 0), M)))) : Cl (d + 1) m_L_pop [(2, 31)] M r := by
  refine cl_of (c := k_L_pop) (mL := 1) (rz := 1) (rc := 2) (ls := [(2, 31)]) rfl rfl rfl ?_
  refine x_al (pc' := 1) rfl rfl (by decide) rfl ?_
  refine x_gf (pc' := 2) (v := M 31 10) rfl rfl rfl rfl rfl ?_
  refine x_ifle (pc' := 3) (t' := 7) rfl rfl rfl (fun q1 => ?_) (fun q1 => ?_)
  · replace h := ite_t q1 h
    refine x_c (pc' := 8) rfl rfl ?_
    exact x_iret rfl h
  · replace h := ite_f q1 h
    refine x_al (pc' := 4) rfl rfl (by decide) rfl ?_
    refine x_gf (pc' := 5) (v := M 31 10) rfl rfl rfl rfl rfl ?_
    refine x_c (pc' := 6) rfl rfl ?_
    refine x_icle (pc' := 7) (t' := 9) rfl rfl rfl (fun q2 => ?_) (fun q2 => ?_)
    · replace h := ite_t q2 h
      refine x_al (pc' := 10) rfl rfl (by decide) rfl ?_
      refine x_dupa (pc' := 11) rfl rfl ?_
      refine x_gf (pc' := 12) (v := M 31 10) rfl rfl rfl rfl rfl ?_
      refine x_c (pc' := 13) rfl rfl ?_
      refine x_ib (pc' := 14) (v := w32 ((M 31 10) - 1)) rfl rfl rfl ?_
      refine x_pf (pc' := 15) (M2 := up M 31 10 (w32 ((M 31 10) - 1))) rfl rfl rfl rfl ?_
      refine x_al (pc' := 16) rfl rfl (by decide) rfl ?_
      refine x_gr (pc' := 17) (v := 33) rfl rfl rfl (by decide) rfl ?_
      refine x_al (pc' := 18) rfl rfl (by decide) rfl ?_
      refine x_gf (pc' := 19) (v := (up M 31 10 (w32 ((M 31 10) - 1))) 31 10) rfl rfl rfl rfl rfl ?_
      obtain ⟨q3, h⟩ := h
      refine x_ia (pc' := 20) 128 (v := (up M 31 10 (w32 ((M 31 10) - 1))) 33 ((up M 31 10 (w32 ((M 31 10) - 1))) 31 10)) rfl rfl rfl q3.1 q3.2 rfl ?_
      exact x_iret rfl h
    · replace h := ite_f q2 h
      refine x_c (pc' := 8) rfl rfl ?_
      exact x_iret rfl h
theorem sg_H_note {d : Nat} {p1 p2 p3 p4 : Int} {M : Mem} {r : Res} (h : (if M 37 4 < 40 then (0 ≤ M 37 4 ∧ M 37 4 < 40) ∧ (0 ≤ (up M 38 (M 37 4) p1) 37 4 ∧ (up M 38 (M 37 4) p1) 37 4 < 40) ∧ (0 ≤ (up (up M 38 (M 37 4) p1) 39 ((up M 38 (M 37 4) p1) 37 4) p2) 37 4 ∧ (up (up M 38 (M 37 4) p1) 39 ((up M 38 (M 37 4) p1) 37 4) p2) 37 4 < 40) ∧ (0 ≤ (up (up (up M 38 (M 37 4) p1) 39 ((up M 38 (M 37 4) p1) 37 4) p2) 40 ((up (up M 38 (M 37 4) p1) 39 ((up M 38 (M 37 4) p1) 37 4) p2) 37 4) p3) 37 4 ∧ (up (up (up M 38 (M 37 4) p1) 39 ((up M 38 (M 37 4) p1) 37 4) p2) 40 ((up (up M 38 (M 37 4) p1) 39 ((up M 38 (M 37 4) p1) 37 4) p2) 37 4) p3) 37 4 < 40) ∧ r = (none, up (up (up (up (up (up M 38 (M 37 4) p1) 39 ((up M 38 (M 37 4) p1) 37 4) p2) 40 ((up (up M 38 (M 37 4) p1) 39 ((up M 38 (M 37 4) p1) 37 4) p2) 37 4) p3) 41 ((up (up (up M 38 (M 37 4) p1) 39 ((up M 38 (M 37 4) p1) 37 4) p2) 40 ((up (up M 38 (M 37 4) p1) 39 ((up M 38 (M 37 4) p1) 37 4) p2) 37 4) p3) 37 4) p4) 37 4 (w32 (((up (up (up (up M 38 (M 37 4) p1) 39 ((up M 38 (M 37 4) p1) 37 4) p2) 40 ((up (up M 38 (M 37 4) p1) 39 ((up M 38 (M 37 4) p1) 37 4) p2) 37 4) p3) 41 ((up (up (up M 38 (M 37 4) p1) 39 ((up M 38 (M 37 4) p1) 37 4) p2) 40 ((up (up M 38 (M 37 4) p1) 39 ((up M 38 (M 37 4) p1) 37 4) p2) 37 4) p3) 37 4) p4) 37 4) + 1))) 37 5 ((up (up (up (up (up M 38 (M 37 4) p1) 39 ((up M 38 (M 37 4) p1) 37 4) p2) 40 ((up (up M 38 (M 37 4) p1) 39 ((up M 38 (M 37 4) p1) 37 4) p2) 37 4) p3) 41 ((up (up (up M 38 (M 37 4) p1) 39 ((up M 38 (M 37 4) p1) 37 4) p2) 40 ((up (up M 38 (M 37 4) p1) 39 ((up M 38 (M 37 4) p1) 37 4) p2) 37 4) p3) 37 4) p4) 37 4 (w32 (((up (up (up (up M 38 (M 37 4) p1) 39 ((up M 38 (M 37 4) p1) 37 4) p2) 40 ((up (up M 38 (M 37 4) p1) 39 ((up M 38 (M 37 4) p1) 37 4) p2) 37 4) p3) 41 ((up (up (up M 38 (M 37 4) p1) 39 ((up M 38 (M 37 4) p1) 37 4) p2) 40 ((up (up M 38 (M 37 4) p1) 39 ((up M 38 (M 37 4) p1) 37 4) p2) 37 4) p3) 37 4) p4) 37 4) + 1))) 37 4)) else ∃ M7, Cl d m_H_forgetOldest [(2, 37)] M (none, M7) ∧ (0 ≤ M7 37 4 ∧ M7 37 4 < 40) ∧ (0 ≤ (up M7 38 (M7 37 4) p1) 37 4 ∧ (up M7 38 (M7 37 4) p1) 37 4 < 40) ∧ (0 ≤ (up (up M7 38 (M7 37 4) p1) 39 ((up M7 38 (M7 37 4) p1) 37 4) p2) 37 4 ∧ (up (up M7 38 (M7 37 4) p1) 39 ((up M7 38 (M7 37 4) p1) 37 4) p2) 37 4 < 40) ∧ (0 ≤ (up (up (up M7 38 (M7 37 4) p1) 39 ((up M7 38 (M7 37 4) p1) 37 4) p2) 40 ((up (up M7 38 (M7 37 4) p1) 39 ((up M7 38 (M7 37 4) p1) 37 4) p2) 37 4) p3) 37 4 ∧ (up (up (up M7 38 (M7 37 4) p1) 39 ((up M7 38 (M7 37 4) p1) 37 4) p2) 40 ((up (up M7 38 (M7 37 4) p1) 39 ((up M7 38 (M7 37 4) p1) 37 4) p2) 37 4) p3) 37 4 < 40) ∧ r = (none, up (up (up (up (up (up M7 38 (M7 37 4) p1) 39 ((up M7 38 (M7 37 4) p1) 37 4) p2) 40 ((up (up M7 38 (M7 37 4) p1) 39 ((up M7 38 (M7 37 4) p1) 37 4) p2) 37 4) p3) 41 ((up (up (up M7 38 (M7 37 4) p1) 39 ((up M7 38 (M7 37 4) p1) 37 4) p2) 40 ((up (up M7 38 (M7 37 4) p1) 39 ((up M7 38 (M7 37 4) p1) 37 4) p2) 37 4) p3) 37 4) p4) 37 4 (w32 (((up (up (up (up M7 38 (M7 37 4) p1) 39 ((up M7 38 (M7 37 4) p1) 37 4) p2) 40 ((up (up M7 38 (M7 37 4) p1) 39 ((up M7 38 (M7 37 4) p1) 37 4) p2) 37 4) p3) 41 ((up (up (up M7 38 (M7 37 4) p1) 39 ((up M7 38 (M7 37 4) p1) 37 4) p2) 40 ((up (up M7 38 (M7 37 4) p1) 39 ((up M7 38 (M7 37 4) p1) 37 4) p2) 37 4) p3) 37 4) p4) 37 4) + 1))) 37 5 ((up (up (up (up (up M7 38 (M7 37 4) p1) 39 ((up M7 38 (M7 37 4) p1) 37 4) p2) 40 ((up (up M7 38 (M7 37 4) p1) 39 ((up M7 38 (M7 37 4) p1) 37 4) p2) 37 4) p3) 41 ((up (up (up M7 38 (M7 37 4) p1) 39 ((up M7 38 (M7 37 4) p1) 37 4) p2) 40 ((up (up M7 38 (M7 37 4) p1) 39 ((up M7 38 (M7 37 4) p1) 37 4) p2) 37 4) p3) 37 4) p4) 37 4 (w32 (((up (up (up (up M7 38 (M7 37 4) p1) 39 ((up M7 38 (M7 37 4) p1) 37 4) p2) 40 ((up (up M7 38 (M7 37 4) p1) 39 ((up M7 38 (M7 37 4) p1) 37 4) p2) 37 4) p3) 41 ((up (up (up M7 38 (M7 37 4) p1) 39 ((up M7 38 (M7 37 4) p1) 37 4) p2) 40 ((up (up M7 38 (M7 37 4) p1) 39 ((up M7 38 (M7 37 4) p1) 37 4) p2) 37 4) p3) 37 4) p4) 37 4) + 1))) 37 4)))) : Cl (d + 1) m_H_note [(2, 37), (0, p1), (0, p2), (0, p3), (0, p4)] M r := by
  refine cl_of (c := k_H_note) (mL := 5) (rz := 0) (rc := 3) (ls := [(2, 37), (0, p1), (0, p2), (0, p3), (0, p4)]) rfl rfl rfl ?_
  refine x_al (pc' := 1) rfl rfl (by decide) rfl ?_
  refine x_gf (pc' := 2) (v := M 37 4) rfl rfl rfl rfl rfl ?_
  refine x_c (pc' := 3) rfl rfl ?_
  refine x_iclt (pc' := 4) (t' := 6) rfl rfl rfl (fun q1 => ?_) (fun q1 => ?_)
  · replace h := ite_t q1 h
    refine x_al (pc' := 7) rfl rfl (by decide) rfl ?_
    refine x_gr (pc' := 8) (v := 38) rfl rfl rfl (by decide) rfl ?_
    refine x_al (pc' := 9) rfl rfl (by decide) rfl ?_
    refine x_gf (pc' := 10) (v := M 37 4) rfl rfl rfl rfl rfl ?_
    refine x_il (pc' := 11) rfl rfl rfl ?_
    obtain ⟨q2, h⟩ := h
    refine x_ist (pc' := 12) 40 (M2 := up M 38 (M 37 4) p1) rfl rfl rfl q2.1 q2.2 rfl ?_
    refine x_al (pc' := 13) rfl rfl (by decide) rfl ?_
    refine x_gr (pc' := 14) (v := 39) rfl rfl rfl (by decide) rfl ?_
    refine x_al (pc' := 15) rfl rfl (by decide) rfl ?_
    refine x_gf (pc' := 16) (v := (up M 38 (M 37 4) p1) 37 4) rfl rfl rfl rfl rfl ?_
    refine x_il (pc' := 17) rfl rfl rfl ?_
    obtain ⟨q3, h⟩ := h
    refine x_ist (pc' := 18) 40 (M2 := up (up M 38 (M 37 4) p1) 39 ((up M 38 (M 37 4) p1) 37 4) p2) rfl rfl rfl q3.1 q3.2 rfl ?_
    refine x_al (pc' := 19) rfl rfl (by decide) rfl ?_
    refine x_gr (pc' := 20) (v := 40) rfl rfl rfl (by decide) rfl ?_
    refine x_al (pc' := 21) rfl rfl (by decide) rfl ?_
    refine x_gf (pc' := 22) (v := (up (up M 38 (M 37 4) p1) 39 ((up M 38 (M 37 4) p1) 37 4) p2) 37 4) rfl rfl rfl rfl rfl ?_
    refine x_il (pc' := 23) rfl rfl rfl ?_
    obtain ⟨q4, h⟩ := h
    refine x_ist (pc' := 24) 40 (M2 := up (up (up M 38 (M 37 4) p1) 39 ((up M 38 (M 37 4) p1) 37 4) p2) 40 ((up (up M 38 (M 37 4) p1) 39 ((up M 38 (M 37 4) p1) 37 4) p2) 37 4) p3) rfl rfl rfl q4.1 q4.2 rfl ?_
    refine x_al (pc' := 25) rfl rfl (by decide) rfl ?_
    refine x_gr (pc' := 26) (v := 41) rfl rfl rfl (by decide) rfl ?_
    refine x_al (pc' := 27) rfl rfl (by decide) rfl ?_
    refine x_gf (pc' := 28) (v := (up (up (up M 38 (M 37 4) p1) 39 ((up M 38 (M 37 4) p1) 37 4) p2) 40 ((up (up M 38 (M 37 4) p1) 39 ((up M 38 (M 37 4) p1) 37 4) p2) 37 4) p3) 37 4) rfl rfl rfl rfl rfl ?_
    refine x_il (pc' := 29) rfl rfl rfl ?_
    obtain ⟨q5, h⟩ := h
    refine x_ist (pc' := 30) 40 (M2 := up (up (up (up M 38 (M 37 4) p1) 39 ((up M 38 (M 37 4) p1) 37 4) p2) 40 ((up (up M 38 (M 37 4) p1) 39 ((up M 38 (M 37 4) p1) 37 4) p2) 37 4) p3) 41 ((up (up (up M 38 (M 37 4) p1) 39 ((up M 38 (M 37 4) p1) 37 4) p2) 40 ((up (up M 38 (M 37 4) p1) 39 ((up M 38 (M 37 4) p1) 37 4) p2) 37 4) p3) 37 4) p4) rfl rfl rfl q5.1 q5.2 rfl ?_
    refine x_al (pc' := 31) rfl rfl (by decide) rfl ?_
    refine x_dupa (pc' := 32) rfl rfl ?_
    refine x_gf (pc' := 33) (v := (up (up (up (up M 38 (M 37 4) p1) 39 ((up M 38 (M 37 4) p1) 37 4) p2) 40 ((up (up M 38 (M 37 4) p1) 39 ((up M 38 (M 37 4) p1) 37 4) p2) 37 4) p3) 41 ((up (up (up M 38 (M 37 4) p1) 39 ((up M 38 (M 37 4) p1) 37 4) p2) 40 ((up (up M 38 (M 37 4) p1) 39 ((up M 38 (M 37 4) p1) 37 4) p2) 37 4) p3) 37 4) p4) 37 4) rfl rfl rfl rfl rfl ?_
    refine x_c (pc' := 34) rfl rfl ?_
    refine x_ib (pc' := 35) (v := w32 (((up (up (up (up M 38 (M 37 4) p1) 39 ((up M 38 (M 37 4) p1) 37 4) p2) 40 ((up (up M 38 (M 37 4) p1) 39 ((up M 38 (M 37 4) p1) 37 4) p2) 37 4) p3) 41 ((up (up (up M 38 (M 37 4) p1) 39 ((up M 38 (M 37 4) p1) 37 4) p2) 40 ((up (up M 38 (M 37 4) p1) 39 ((up M 38 (M 37 4) p1) 37 4) p2) 37 4) p3) 37 4) p4) 37 4) + 1)) rfl rfl rfl ?_
    refine x_pf (pc' := 36) (M2 := up (up (up (up (up M 38 (M 37 4) p1) 39 ((up M 38 (M 37 4) p1) 37 4) p2) 40 ((up (up M 38 (M 37 4) p1) 39 ((up M 38 (M 37 4) p1) 37 4) p2) 37 4) p3) 41 ((up (up (up M 38 (M 37 4) p1) 39 ((up M 38 (M 37 4) p1) 37 4) p2) 40 ((up (up M 38 (M 37 4) p1) 39 ((up M 38 (M 37 4) p1) 37 4) p2) 37 4) p3) 37 4) p4) 37 4 (w32 (((up (up (up (up M 38 (M 37 4) p1) 39 ((up M 38 (M 37 4) p1) 37 4) p2) 40 ((up (up M 38 (M 37 4) p1) 39 ((up M 38 (M 37 4) p1) 37 4) p2) 37 4) p3) 41 ((up (up (up M 38 (M 37 4) p1) 39 ((up M 38 (M 37 4) p1) 37 4) p2) 40 ((up (up M 38 (M 37 4) p1) 39 ((up M 38 (M 37 4) p1) 37 4) p2) 37 4) p3) 37 4) p4) 37 4) + 1))) rfl rfl rfl rfl ?_
    refine x_al (pc' := 37) rfl rfl (by decide) rfl ?_
    refine x_al (pc' := 38) rfl rfl (by decide) rfl ?_
    refine x_gf (pc' := 39) (v := (up (up (up (up (up M 38 (M 37 4) p1) 39 ((up M 38 (M 37 4) p1) 37 4) p2) 40 ((up (up M 38 (M 37 4) p1) 39 ((up M 38 (M 37 4) p1) 37 4) p2) 37 4) p3) 41 ((up (up (up M 38 (M 37 4) p1) 39 ((up M 38 (M 37 4) p1) 37 4) p2) 40 ((up (up M 38 (M 37 4) p1) 39 ((up M 38 (M 37 4) p1) 37 4) p2) 37 4) p3) 37 4) p4) 37 4 (w32 (((up (up (up (up M 38 (M 37 4) p1) 39 ((up M 38 (M 37 4) p1) 37 4) p2) 40 ((up (up M 38 (M 37 4) p1) 39 ((up M 38 (M 37 4) p1) 37 4) p2) 37 4) p3) 41 ((up (up (up M 38 (M 37 4) p1) 39 ((up M 38 (M 37 4) p1) 37 4) p2) 40 ((up (up M 38 (M 37 4) p1) 39 ((up M 38 (M 37 4) p1) 37 4) p2) 37 4) p3) 37 4) p4) 37 4) + 1))) 37 4) rfl rfl rfl rfl rfl ?_
    refine x_pf (pc' := 40) (M2 := up (up (up (up (up (up M 38 (M 37 4) p1) 39 ((up M 38 (M 37 4) p1) 37 4) p2) 40 ((up (up M 38 (M 37 4) p1) 39 ((up M 38 (M 37 4) p1) 37 4) p2) 37 4) p3) 41 ((up (up (up M 38 (M 37 4) p1) 39 ((up M 38 (M 37 4) p1) 37 4) p2) 40 ((up (up M 38 (M 37 4) p1) 39 ((up M 38 (M 37 4) p1) 37 4) p2) 37 4) p3) 37 4) p4) 37 4 (w32 (((up (up (up (up M 38 (M 37 4) p1) 39 ((up M 38 (M 37 4) p1) 37 4) p2) 40 ((up (up M 38 (M 37 4) p1) 39 ((up M 38 (M 37 4) p1) 37 4) p2) 37 4) p3) 41 ((up (up (up M 38 (M 37 4) p1) 39 ((up M 38 (M 37 4) p1) 37 4) p2) 40 ((up (up M 38 (M 37 4) p1) 39 ((up M 38 (M 37 4) p1) 37 4) p2) 37 4) p3) 37 4) p4) 37 4) + 1))) 37 5 ((up (up (up (up (up M 38 (M 37 4) p1) 39 ((up M 38 (M 37 4) p1) 37 4) p2) 40 ((up (up M 38 (M 37 4) p1) 39 ((up M 38 (M 37 4) p1) 37 4) p2) 37 4) p3) 41 ((up (up (up M 38 (M 37 4) p1) 39 ((up M 38 (M 37 4) p1) 37 4) p2) 40 ((up (up M 38 (M 37 4) p1) 39 ((up M 38 (M 37 4) p1) 37 4) p2) 37 4) p3) 37 4) p4) 37 4 (w32 (((up (up (up (up M 38 (M 37 4) p1) 39 ((up M 38 (M 37 4) p1) 37 4) p2) 40 ((up (up M 38 (M 37 4) p1) 39 ((up M 38 (M 37 4) p1) 37 4) p2) 37 4) p3) 41 ((up (up (up M 38 (M 37 4) p1) 39 ((up M 38 (M 37 4) p1) 37 4) p2) 40 ((up (up M 38 (M 37 4) p1) 39 ((up M 38 (M 37 4) p1) 37 4) p2) 37 4) p3) 37 4) p4) 37 4) + 1))) 37 4)) rfl rfl rfl rfl ?_
    exact x_ret rfl h
  · replace h := ite_f q1 h
    refine x_al (pc' := 5) rfl rfl (by decide) rfl ?_
    obtain ⟨M7, q6, h⟩ := h
    refine x_callv (pc' := 6) (as := [(2, 37)]) (rest := []) rfl rfl rfl rfl rfl rfl q6 ?_
    refine x_al (pc' := 7) rfl rfl (by decide) rfl ?_
    refine x_gr (pc' := 8) (v := 38) rfl rfl rfl (by decide) rfl ?_
    refine x_al (pc' := 9) rfl rfl (by decide) rfl ?_
    refine x_gf (pc' := 10) (v := M7 37 4) rfl rfl rfl rfl rfl ?_
    refine x_il (pc' := 11) rfl rfl rfl ?_
    obtain ⟨q8, h⟩ := h
    refine x_ist (pc' := 12) 40 (M2 := up M7 38 (M7 37 4) p1) rfl rfl rfl q8.1 q8.2 rfl ?_
    refine x_al (pc' := 13) rfl rfl (by decide) rfl ?_
    refine x_gr (pc' := 14) (v := 39) rfl rfl rfl (by decide) rfl ?_
    refine x_al (pc' := 15) rfl rfl (by decide) rfl ?_
    refine x_gf (pc' := 16) (v := (up M7 38 (M7 37 4) p1) 37 4) rfl rfl rfl rfl rfl ?_
    refine x_il (pc' := 17) rfl rfl rfl ?_
    obtain ⟨q9, h⟩ := h
    refine x_ist (pc' := 18) 40 (M2 := up (up M7 38 (M7 37 4) p1) 39 ((up M7 38 (M7 37 4) p1) 37 4) p2) rfl rfl rfl q9.1 q9.2 rfl ?_
    refine x_al (pc' := 19) rfl rfl (by decide) rfl ?_
    refine x_gr (pc' := 20) (v := 40) rfl rfl rfl (by decide) rfl ?_
    refine x_al (pc' := 21) rfl rfl (by decide) rfl ?_
    refine x_gf (pc' := 22) (v := (up (up M7 38 (M7 37 4) p1) 39 ((up M7 38 (M7 37 4) p1) 37 4) p2) 37 4) rfl rfl rfl rfl rfl ?_
    refine x_il (pc' := 23) rfl rfl rfl ?_
    obtain ⟨q10, h⟩ := h
    refine x_ist (pc' := 24) 40 (M2 := up (up (up M7 38 (M7 37 4) p1) 39 ((up M7 38 (M7 37 4) p1) 37 4) p2) 40 ((up (up M7 38 (M7 37 4) p1) 39 ((up M7 38 (M7 37 4) p1) 37 4) p2) 37 4) p3) rfl rfl rfl q10.1 q10.2 rfl ?_
    refine x_al (pc' := 25) rfl rfl (by decide) rfl ?_
    refine x_gr (pc' := 26) (v := 41) rfl rfl rfl (by decide) rfl ?_
    refine x_al (pc' := 27) rfl rfl (by decide) rfl ?_
    refine x_gf (pc' := 28) (v := (up (up (up M7 38 (M7 37 4) p1) 39 ((up M7 38 (M7 37 4) p1) 37 4) p2) 40 ((up (up M7 38 (M7 37 4) p1) 39 ((up M7 38 (M7 37 4) p1) 37 4) p2) 37 4) p3) 37 4) rfl rfl rfl rfl rfl ?_
    refine x_il (pc' := 29) rfl rfl rfl ?_
    obtain ⟨q11, h⟩ := h
    refine x_ist (pc' := 30) 40 (M2 := up (up (up (up M7 38 (M7 37 4) p1) 39 ((up M7 38 (M7 37 4) p1) 37 4) p2) 40 ((up (up M7 38 (M7 37 4) p1) 39 ((up M7 38 (M7 37 4) p1) 37 4) p2) 37 4) p3) 41 ((up (up (up M7 38 (M7 37 4) p1) 39 ((up M7 38 (M7 37 4) p1) 37 4) p2) 40 ((up (up M7 38 (M7 37 4) p1) 39 ((up M7 38 (M7 37 4) p1) 37 4) p2) 37 4) p3) 37 4) p4) rfl rfl rfl q11.1 q11.2 rfl ?_
    refine x_al (pc' := 31) rfl rfl (by decide) rfl ?_
    refine x_dupa (pc' := 32) rfl rfl ?_
    refine x_gf (pc' := 33) (v := (up (up (up (up M7 38 (M7 37 4) p1) 39 ((up M7 38 (M7 37 4) p1) 37 4) p2) 40 ((up (up M7 38 (M7 37 4) p1) 39 ((up M7 38 (M7 37 4) p1) 37 4) p2) 37 4) p3) 41 ((up (up (up M7 38 (M7 37 4) p1) 39 ((up M7 38 (M7 37 4) p1) 37 4) p2) 40 ((up (up M7 38 (M7 37 4) p1) 39 ((up M7 38 (M7 37 4) p1) 37 4) p2) 37 4) p3) 37 4) p4) 37 4) rfl rfl rfl rfl rfl ?_
    refine x_c (pc' := 34) rfl rfl ?_
    refine x_ib (pc' := 35) (v := w32 (((up (up (up (up M7 38 (M7 37 4) p1) 39 ((up M7 38 (M7 37 4) p1) 37 4) p2) 40 ((up (up M7 38 (M7 37 4) p1) 39 ((up M7 38 (M7 37 4) p1) 37 4) p2) 37 4) p3) 41 ((up (up (up M7 38 (M7 37 4) p1) 39 ((up M7 38 (M7 37 4) p1) 37 4) p2) 40 ((up (up M7 38 (M7 37 4) p1) 39 ((up M7 38 (M7 37 4) p1) 37 4) p2) 37 4) p3) 37 4) p4) 37 4) + 1)) rfl rfl rfl ?_
    refine x_pf (pc' := 36) (M2 := up (up (up (up (up M7 38 (M7 37 4) p1) 39 ((up M7 38 (M7 37 4) p1) 37 4) p2) 40 ((up (up M7 38 (M7 37 4) p1) 39 ((up M7 38 (M7 37 4) p1) 37 4) p2) 37 4) p3) 41 ((up (up (up M7 38 (M7 37 4) p1) 39 ((up M7 38 (M7 37 4) p1) 37 4) p2) 40 ((up (up M7 38 (M7 37 4) p1) 39 ((up M7 38 (M7 37 4) p1) 37 4) p2) 37 4) p3) 37 4) p4) 37 4 (w32 (((up (up (up (up M7 38 (M7 37 4) p1) 39 ((up M7 38 (M7 37 4) p1) 37 4) p2) 40 ((up (up M7 38 (M7 37 4) p1) 39 ((up M7 38 (M7 37 4) p1) 37 4) p2) 37 4) p3) 41 ((up (up (up M7 38 (M7 37 4) p1) 39 ((up M7 38 (M7 37 4) p1) 37 4) p2) 40 ((up (up M7 38 (M7 37 4) p1) 39 ((up M7 38 (M7 37 4) p1) 37 4) p2) 37 4) p3) 37 4) p4) 37 4) + 1))) rfl rfl rfl rfl ?_
    refine x_al (pc' := 37) rfl rfl (by decide) rfl ?_
    refine x_al (pc' := 38) rfl rfl (by decide) rfl ?_
    refine x_gf (pc' := 39) (v := (up (up (up (up (up M7 38 (M7 37 4) p1) 39 ((up M7 38 (M7 37 4) p1) 37 4) p2) 40 ((up (up M7 38 (M7 37 4) p1) 39 ((up M7 38 (M7 37 4) p1) 37 4) p2) 37 4) p3) 41 ((up (up (up M7 38 (M7 37 4) p1) 39 ((up M7 38 (M7 37 4) p1) 37 4) p2) 40 ((up (up M7 38 (M7 37 4) p1) 39 ((up M7 38 (M7 37 4) p1) 37 4) p2) 37 4) p3) 37 4) p4) 37 4 (w32 (((up (up (up (up M7 38 (M7 37 4) p1) 39 ((up M7 38 (M7 37 4) p1) 37 4) p2) 40 ((up (up M7 38 (M7 37 4) p1) 39 ((up M7 38 (M7 37 4) p1) 37 4) p2) 37 4) p3) 41 ((up (up (up M7 38 (M7 37 4) p1) 39 ((up M7 38 (M7 37 4) p1) 37 4) p2) 40 ((up (up M7 38 (M7 37 4) p1) 39 ((up M7 38 (M7 37 4) p1) 37 4) p2) 37 4) p3) 37 4) p4) 37 4) + 1))) 37 4) rfl rfl rfl rfl rfl ?_
    refine x_pf (pc' := 40) (M2 := up (up (up (up (up (up M7 38 (M7 37 4) p1) 39 ((up M7 38 (M7 37 4) p1) 37 4) p2) 40 ((up (up M7 38 (M7 37 4) p1) 39 ((up M7 38 (M7 37 4) p1) 37 4) p2) 37 4) p3) 41 ((up (up (up M7 38 (M7 37 4) p1) 39 ((up M7 38 (M7 37 4) p1) 37 4) p2) 40 ((up (up M7 38 (M7 37 4) p1) 39 ((up M7 38 (M7 37 4) p1) 37 4) p2) 37 4) p3) 37 4) p4) 37 4 (w32 (((up (up (up (up M7 38 (M7 37 4) p1) 39 ((up M7 38 (M7 37 4) p1) 37 4) p2) 40 ((up (up M7 38 (M7 37 4) p1) 39 ((up M7 38 (M7 37 4) p1) 37 4) p2) 37 4) p3) 41 ((up (up (up M7 38 (M7 37 4) p1) 39 ((up M7 38 (M7 37 4) p1) 37 4) p2) 40 ((up (up M7 38 (M7 37 4) p1) 39 ((up M7 38 (M7 37 4) p1) 37 4) p2) 37 4) p3) 37 4) p4) 37 4) + 1))) 37 5 ((up (up (up (up (up M7 38 (M7 37 4) p1) 39 ((up M7 38 (M7 37 4) p1) 37 4) p2) 40 ((up (up M7 38 (M7 37 4) p1) 39 ((up M7 38 (M7 37 4) p1) 37 4) p2) 37 4) p3) 41 ((up (up (up M7 38 (M7 37 4) p1) 39 ((up M7 38 (M7 37 4) p1) 37 4) p2) 40 ((up (up M7 38 (M7 37 4) p1) 39 ((up M7 38 (M7 37 4) p1) 37 4) p2) 37 4) p3) 37 4) p4) 37 4 (w32 (((up (up (up (up M7 38 (M7 37 4) p1) 39 ((up M7 38 (M7 37 4) p1) 37 4) p2) 40 ((up (up M7 38 (M7 37 4) p1) 39 ((up M7 38 (M7 37 4) p1) 37 4) p2) 37 4) p3) 41 ((up (up (up M7 38 (M7 37 4) p1) 39 ((up M7 38 (M7 37 4) p1) 37 4) p2) 40 ((up (up M7 38 (M7 37 4) p1) 39 ((up M7 38 (M7 37 4) p1) 37 4) p2) 37 4) p3) 37 4) p4) 37 4) + 1))) 37 4)) rfl rfl rfl rfl ?_
    exact x_ret rfl h
theorem sg_H_forgetOldest {d : Nat} {M : Mem} {r : Res} (h : r = (none, up (cpy (cpy (cpy (cpy M 38 38 1 0 39) 39 39 1 0 39) 40 40 1 0 39) 41 41 1 0 39) 37 4 39)) : Cl (d + 1) m_H_forgetOldest [(2, 37)] M r := by
  refine cl_of (c := k_H_forgetOldest) (mL := 1) (rz := 0) (rc := 3) (ls := [(2, 37)]) rfl rfl rfl ?_
  refine x_al (pc' := 1) rfl rfl (by decide) rfl ?_
  refine x_gr (pc' := 2) (v := 38) rfl rfl rfl (by decide) rfl ?_
  refine x_c (pc' := 3) rfl rfl ?_
  refine x_al (pc' := 4) rfl rfl (by decide) rfl ?_
  refine x_gr (pc' := 5) (v := 38) rfl rfl rfl (by decide) rfl ?_
  refine x_c (pc' := 6) rfl rfl ?_
  refine x_c (pc' := 7) rfl rfl ?_
  refine x_cpy (pc' := 8) (ka := 0) (na := 40) (nb := 40) (M2 := cpy M 38 38 1 0 39) rfl rfl rfl rfl (Or.inl rfl) (by decide) (by decide) (by decide) (by decide) (by decide) rfl rfl ?_
  refine x_al (pc' := 9) rfl rfl (by decide) rfl ?_
  refine x_gr (pc' := 10) (v := 39) rfl rfl rfl (by decide) rfl ?_
  refine x_c (pc' := 11) rfl rfl ?_
  refine x_al (pc' := 12) rfl rfl (by decide) rfl ?_
  refine x_gr (pc' := 13) (v := 39) rfl rfl rfl (by decide) rfl ?_
  refine x_c (pc' := 14) rfl rfl ?_
  refine x_c (pc' := 15) rfl rfl ?_
  refine x_cpy (pc' := 16) (ka := 0) (na := 40) (nb := 40) (M2 := cpy (cpy M 38 38 1 0 39) 39 39 1 0 39) rfl rfl rfl rfl (Or.inl rfl) (by decide) (by decide) (by decide) (by decide) (by decide) rfl rfl ?_
  refine x_al (pc' := 17) rfl rfl (by decide) rfl ?_
  refine x_gr (pc' := 18) (v := 40) rfl rfl rfl (by decide) rfl ?_
  refine x_c (pc' := 19) rfl rfl ?_
  refine x_al (pc' := 20) rfl rfl (by decide) rfl ?_
  refine x_gr (pc' := 21) (v := 40) rfl rfl rfl (by decide) rfl ?_
  refine x_c (pc' := 22) rfl rfl ?_
  refine x_c (pc' := 23) rfl rfl ?_
  refine x_cpy (pc' := 24) (ka := 0) (na := 40) (nb := 40) (M2 := cpy (cpy (cpy M 38 38 1 0 39) 39 39 1 0 39) 40 40 1 0 39) rfl rfl rfl rfl (Or.inl rfl) (by decide) (by decide) (by decide) (by decide) (by decide) rfl rfl ?_
  refine x_al (pc' := 25) rfl rfl (by decide) rfl ?_
  refine x_gr (pc' := 26) (v := 41) rfl rfl rfl (by decide) rfl ?_
  refine x_c (pc' := 27) rfl rfl ?_
  refine x_al (pc' := 28) rfl rfl (by decide) rfl ?_
  refine x_gr (pc' := 29) (v := 41) rfl rfl rfl (by decide) rfl ?_
  refine x_c (pc' := 30) rfl rfl ?_
  refine x_c (pc' := 31) rfl rfl ?_
  refine x_cpy (pc' := 32) (ka := 0) (na := 40) (nb := 40) (M2 := cpy (cpy (cpy (cpy M 38 38 1 0 39) 39 39 1 0 39) 40 40 1 0 39) 41 41 1 0 39) rfl rfl rfl rfl (Or.inl rfl) (by decide) (by decide) (by decide) (by decide) (by decide) rfl rfl ?_
  refine x_al (pc' := 33) rfl rfl (by decide) rfl ?_
  refine x_c (pc' := 34) rfl rfl ?_
  refine x_pf (pc' := 35) (M2 := up (cpy (cpy (cpy (cpy M 38 38 1 0 39) 39 39 1 0 39) 40 40 1 0 39) 41 41 1 0 39) 37 4 39) rfl rfl rfl rfl ?_
  exact x_ret rfl h
theorem sg_H_stepBack {d : Nat} {M : Mem} {r : Res} (h : (if 0 < M 37 4 then r = (some (0, (up M 37 4 (w32 ((M 37 4) - 1))) 37 4), up M 37 4 (w32 ((M 37 4) - 1))) else r = (some (0, (-1)), M))) : Cl (d + 1) m_H_stepBack [(2, 37)] M r := by
  refine cl_of (c := k_H_stepBack) (mL := 1) (rz := 1) (rc := 3) (ls := [(2, 37)]) rfl rfl rfl ?_
  refine x_al (pc' := 1) rfl rfl (by decide) rfl ?_
  refine x_gf (pc' := 2) (v := M 37 4) rfl rfl rfl rfl rfl ?_
  refine x_ifgt (pc' := 3) (t' := 5) rfl rfl rfl (fun q1 => ?_) (fun q1 => ?_)
  · replace h := ite_t q1 h
    refine x_al (pc' := 6) rfl rfl (by decide) rfl ?_
    refine x_dupa (pc' := 7) rfl rfl ?_
    refine x_gf (pc' := 8) (v := M 37 4) rfl rfl rfl rfl rfl ?_
    refine x_c (pc' := 9) rfl rfl ?_
    refine x_ib (pc' := 10) (v := w32 ((M 37 4) - 1)) rfl rfl rfl ?_
    refine x_pf (pc' := 11) (M2 := up M 37 4 (w32 ((M 37 4) - 1))) rfl rfl rfl rfl ?_
    refine x_al (pc' := 12) rfl rfl (by decide) rfl ?_
    refine x_gf (pc' := 13) (v := (up M 37 4 (w32 ((M 37 4) - 1))) 37 4) rfl rfl rfl rfl rfl ?_
    exact x_iret rfl h
  · replace h := ite_f q1 h
    refine x_c (pc' := 4) rfl rfl ?_
    exact x_iret rfl h
theorem sg_H_stepOn {d : Nat} {M : Mem} {r : Res} (h : (if M 37 4 < M 37 5 then r = (some (0, w32 (((up M 37 4 (w32 ((M 37 4) + 1))) 37 4) - 1)), up M 37 4 (w32 ((M 37 4) + 1))) else r = (some (0, (-1)), M))) : Cl (d + 1) m_H_stepOn [(2, 37)] M r := by
  refine cl_of (c := k_H_stepOn) (mL := 1) (rz := 1) (rc := 3) (ls := [(2, 37)]) rfl rfl rfl ?_
  refine x_al (pc' := 1) rfl rfl (by decide) rfl ?_
  refine x_gf (pc' := 2) (v := M 37 4) rfl rfl rfl rfl rfl ?_
  refine x_al (pc' := 3) rfl rfl (by decide) rfl ?_
  refine x_gf (pc' := 4) (v := M 37 5) rfl rfl rfl rfl rfl ?_
  refine x_iclt (pc' := 5) (t' := 7) rfl rfl rfl (fun q1 => ?_) (fun q1 => ?_)
  · replace h := ite_t q1 h
    refine x_al (pc' := 8) rfl rfl (by decide) rfl ?_
    refine x_dupa (pc' := 9) rfl rfl ?_
    refine x_gf (pc' := 10) (v := M 37 4) rfl rfl rfl rfl rfl ?_
    refine x_c (pc' := 11) rfl rfl ?_
    refine x_ib (pc' := 12) (v := w32 ((M 37 4) + 1)) rfl rfl rfl ?_
    refine x_pf (pc' := 13) (M2 := up M 37 4 (w32 ((M 37 4) + 1))) rfl rfl rfl rfl ?_
    refine x_al (pc' := 14) rfl rfl (by decide) rfl ?_
    refine x_gf (pc' := 15) (v := (up M 37 4 (w32 ((M 37 4) + 1))) 37 4) rfl rfl rfl rfl rfl ?_
    refine x_c (pc' := 16) rfl rfl ?_
    refine x_ib (pc' := 17) (v := w32 (((up M 37 4 (w32 ((M 37 4) + 1))) 37 4) - 1)) rfl rfl rfl ?_
    exact x_iret rfl h
  · replace h := ite_f q1 h
    refine x_c (pc' := 6) rfl rfl ?_
    exact x_iret rfl h
theorem sg_D_keepImage {d : Nat} {M : Mem} {r : Res} (h : r = (none, up (up (cpy (cpy M 43 44 0 0 5) 30 45 0 0 12) 42 3 ((cpy (cpy M 43 44 0 0 5) 30 45 0 0 12) 1 5)) 42 4 1)) : Cl (d + 1) m_D_keepImage [(2, 42), (2, 1)] M r := by
  refine cl_of (c := k_D_keepImage) (mL := 2) (rz := 0) (rc := 4) (ls := [(2, 42), (2, 1)]) rfl rfl rfl ?_
  refine x_al (pc' := 1) rfl rfl (by decide) rfl ?_
  refine x_gr (pc' := 2) (v := 43) rfl rfl rfl (by decide) rfl ?_
  refine x_c (pc' := 3) rfl rfl ?_
  refine x_al (pc' := 4) rfl rfl (by decide) rfl ?_
  refine x_gr (pc' := 5) (v := 44) rfl rfl rfl (by decide) rfl ?_
  refine x_c (pc' := 6) rfl rfl ?_
  refine x_c (pc' := 7) rfl rfl ?_
  refine x_cpy (pc' := 8) (ka := 0) (na := 5) (nb := 5) (M2 := cpy M 43 44 0 0 5) rfl rfl rfl rfl (Or.inl rfl) (by decide) (by decide) (by decide) (by decide) (by decide) rfl rfl ?_
  refine x_al (pc' := 9) rfl rfl (by decide) rfl ?_
  refine x_gr (pc' := 10) (v := 30) rfl rfl rfl (by decide) rfl ?_
  refine x_c (pc' := 11) rfl rfl ?_
  refine x_al (pc' := 12) rfl rfl (by decide) rfl ?_
  refine x_gr (pc' := 13) (v := 45) rfl rfl rfl (by decide) rfl ?_
  refine x_c (pc' := 14) rfl rfl ?_
  refine x_c (pc' := 15) rfl rfl ?_
  refine x_cpy (pc' := 16) (ka := 0) (na := 12) (nb := 12) (M2 := cpy (cpy M 43 44 0 0 5) 30 45 0 0 12) rfl rfl rfl rfl (Or.inl rfl) (by decide) (by decide) (by decide) (by decide) (by decide) rfl rfl ?_
  refine x_al (pc' := 17) rfl rfl (by decide) rfl ?_
  refine x_al (pc' := 18) rfl rfl (by decide) rfl ?_
  refine x_gf (pc' := 19) (v := (cpy (cpy M 43 44 0 0 5) 30 45 0 0 12) 1 5) rfl rfl rfl rfl rfl ?_
  refine x_pf (pc' := 20) (M2 := up (cpy (cpy M 43 44 0 0 5) 30 45 0 0 12) 42 3 ((cpy (cpy M 43 44 0 0 5) 30 45 0 0 12) 1 5)) rfl rfl rfl rfl ?_
  refine x_al (pc' := 21) rfl rfl (by decide) rfl ?_
  refine x_c (pc' := 22) rfl rfl ?_
  refine x_pz (pc' := 23) (M2 := up (up (cpy (cpy M 43 44 0 0 5) 30 45 0 0 12) 42 3 ((cpy (cpy M 43 44 0 0 5) 30 45 0 0 12) 1 5)) 42 4 1) rfl rfl rfl (by decide) rfl ?_
  exact x_ret rfl h
def at_D_layBack_10 (d : Nat) (l2 : Int) (M : Mem) (r : Res) : Prop := Ex sx0 d k_D_layBack 0 10 [(2, 42), (2, 1), (0, l2)] [] M r
theorem sg_D_layBack {d : Nat} {M : Mem} {r : Res} (h : at_D_layBack_10 d 0 (cpy M 44 43 0 0 5) r) : Cl (d + 1) m_D_layBack [(2, 42), (2, 1)] M r := by
  refine cl_of (c := k_D_layBack) (mL := 3) (rz := 0) (rc := 4) (ls := [(2, 42), (2, 1), (3, 0)]) rfl rfl rfl ?_
  refine x_al (pc' := 1) rfl rfl (by decide) rfl ?_
  refine x_gr (pc' := 2) (v := 44) rfl rfl rfl (by decide) rfl ?_
  refine x_c (pc' := 3) rfl rfl ?_
  refine x_al (pc' := 4) rfl rfl (by decide) rfl ?_
  refine x_gr (pc' := 5) (v := 43) rfl rfl rfl (by decide) rfl ?_
  refine x_c (pc' := 6) rfl rfl ?_
  refine x_c (pc' := 7) rfl rfl ?_
  refine x_cpy (pc' := 8) (ka := 0) (na := 5) (nb := 5) (M2 := cpy M 44 43 0 0 5) rfl rfl rfl rfl (Or.inl rfl) (by decide) (by decide) (by decide) (by decide) (by decide) rfl rfl ?_
  refine x_c (pc' := 9) rfl rfl ?_
  refine x_is (pc' := 10) (ls' := [(2, 42), (2, 1), (0, 0)]) rfl rfl rfl rfl ?_
  exact h
theorem sg_D_layBack_10 {d : Nat} {l2 : Int} {M : Mem} {r : Res} (h : (if 12 ≤ l2 then r = (none, M) else (if M 42 3 ≤ l2 then (0 ≤ l2 ∧ l2 < 12) ∧ at_D_layBack_10 d (w32 (l2 + 1)) (up M 30 l2 (-2000000000)) r else (0 ≤ l2 ∧ l2 < 12) ∧ (0 ≤ l2 ∧ l2 < 12) ∧ at_D_layBack_10 d (w32 (l2 + 1)) (up M 30 l2 (M 45 l2)) r))) : at_D_layBack_10 d l2 M r := by
  unfold at_D_layBack_10
  refine x_il (pc' := 11) rfl rfl rfl ?_
  refine x_c (pc' := 12) rfl rfl ?_
  refine x_icge (pc' := 13) (t' := 29) rfl rfl rfl (fun q1 => ?_) (fun q1 => ?_)
  · replace h := ite_t q1 h
    exact x_ret rfl h
  · replace h := ite_f q1 h
    refine x_al (pc' := 14) rfl rfl (by decide) rfl ?_
    refine x_gr (pc' := 15) (v := 30) rfl rfl rfl (by decide) rfl ?_
    refine x_il (pc' := 16) rfl rfl rfl ?_
    refine x_il (pc' := 17) rfl rfl rfl ?_
    refine x_al (pc' := 18) rfl rfl (by decide) rfl ?_
    refine x_gf (pc' := 19) (v := M 42 3) rfl rfl rfl rfl rfl ?_
    refine x_icge (pc' := 20) (t' := 25) rfl rfl rfl (fun q2 => ?_) (fun q2 => ?_)
    · replace h := ite_t q2 h
      refine x_c (pc' := 26) rfl rfl ?_
      obtain ⟨q3, h⟩ := h
      refine x_ist (pc' := 27) 12 (M2 := up M 30 l2 (-2000000000)) rfl rfl rfl q3.1 q3.2 rfl ?_
      refine x_inc (pc' := 28) (ls' := [(2, 42), (2, 1), (0, w32 (l2 + 1))]) rfl rfl rfl rfl ?_
      refine x_goto (t' := 10) rfl rfl ?_
      exact h
    · replace h := ite_f q2 h
      refine x_al (pc' := 21) rfl rfl (by decide) rfl ?_
      refine x_gr (pc' := 22) (v := 45) rfl rfl rfl (by decide) rfl ?_
      refine x_il (pc' := 23) rfl rfl rfl ?_
      obtain ⟨q4, h⟩ := h
      refine x_ia (pc' := 24) 12 (v := M 45 l2) rfl rfl rfl q4.1 q4.2 rfl ?_
      refine x_goto (t' := 26) rfl rfl ?_
      obtain ⟨q5, h⟩ := h
      refine x_ist (pc' := 27) 12 (M2 := up M 30 l2 (M 45 l2)) rfl rfl rfl q5.1 q5.2 rfl ?_
      refine x_inc (pc' := 28) (ls' := [(2, 42), (2, 1), (0, w32 (l2 + 1))]) rfl rfl rfl rfl ?_
      refine x_goto (t' := 10) rfl rfl ?_
      exact h
theorem sg_P_isKind {d : Nat} {p1 : Int} {M : Mem} {r : Res} (h : (if p1 < 0 then r = (some (0, 0), M) else (if 8 ≤ p1 then r = (some (0, 0), M) else r = (some (0, 1), M)))) : Cl (d + 1) m_P_isKind [(2, 46), (0, p1)] M r := by
  refine cl_of (c := k_P_isKind) (mL := 2) (rz := 3) (rc := 5) (ls := [(2, 46), (0, p1)]) rfl rfl rfl ?_
  refine x_il (pc' := 1) rfl rfl rfl ?_
  refine x_iflt (pc' := 2) (t' := 7) rfl rfl rfl (fun q1 => ?_) (fun q1 => ?_)
  · replace h := ite_t q1 h
    refine x_c (pc' := 8) rfl rfl ?_
    exact x_zret rfl (by decide) h
  · replace h := ite_f q1 h
    refine x_il (pc' := 3) rfl rfl rfl ?_
    refine x_c (pc' := 4) rfl rfl ?_
    refine x_icge (pc' := 5) (t' := 7) rfl rfl rfl (fun q2 => ?_) (fun q2 => ?_)
    · replace h := ite_t q2 h
      refine x_c (pc' := 8) rfl rfl ?_
      exact x_zret rfl (by decide) h
    · replace h := ite_f q2 h
      refine x_c (pc' := 6) rfl rfl ?_
      refine x_goto (t' := 8) rfl rfl ?_
      exact x_zret rfl (by decide) h
theorem sg_P_has {d : Nat} {p1 : Int} {M : Mem} {r : Res} (h : (if p1 < 0 then r = (some (0, 0), M) else (if M 46 2 ≤ p1 then r = (some (0, 0), M) else r = (some (0, 1), M)))) : Cl (d + 1) m_P_has [(2, 46), (0, p1)] M r := by
  refine cl_of (c := k_P_has) (mL := 2) (rz := 3) (rc := 5) (ls := [(2, 46), (0, p1)]) rfl rfl rfl ?_
  refine x_il (pc' := 1) rfl rfl rfl ?_
  refine x_iflt (pc' := 2) (t' := 8) rfl rfl rfl (fun q1 => ?_) (fun q1 => ?_)
  · replace h := ite_t q1 h
    refine x_c (pc' := 9) rfl rfl ?_
    exact x_zret rfl (by decide) h
  · replace h := ite_f q1 h
    refine x_il (pc' := 3) rfl rfl rfl ?_
    refine x_al (pc' := 4) rfl rfl (by decide) rfl ?_
    refine x_gf (pc' := 5) (v := M 46 2) rfl rfl rfl rfl rfl ?_
    refine x_icge (pc' := 6) (t' := 8) rfl rfl rfl (fun q2 => ?_) (fun q2 => ?_)
    · replace h := ite_t q2 h
      refine x_c (pc' := 9) rfl rfl ?_
      exact x_zret rfl (by decide) h
    · replace h := ite_f q2 h
      refine x_c (pc' := 7) rfl rfl ?_
      refine x_goto (t' := 9) rfl rfl ?_
      exact x_zret rfl (by decide) h
theorem sg_P_addBody {d : Nat} {p1 : Int} {M : Mem} {r : Res} (h : (if M 46 2 < 50 then (0 ≤ M 46 2 ∧ M 46 2 < 50) ∧ r = (some (0, w32 (((up (up M 47 (M 46 2) p1) 46 2 (w32 (((up M 47 (M 46 2) p1) 46 2) + 1))) 46 2) - 1)), up (up M 47 (M 46 2) p1) 46 2 (w32 (((up M 47 (M 46 2) p1) 46 2) + 1))) else r = (some (0, (-3)), M))) : Cl (d + 1) m_P_addBody [(2, 46), (0, p1)] M r := by
  refine cl_of (c := k_P_addBody) (mL := 2) (rz := 1) (rc := 5) (ls := [(2, 46), (0, p1)]) rfl rfl rfl ?_
  refine x_al (pc' := 1) rfl rfl (by decide) rfl ?_
  refine x_gf (pc' := 2) (v := M 46 2) rfl rfl rfl rfl rfl ?_
  refine x_c (pc' := 3) rfl rfl ?_
  refine x_iclt (pc' := 4) (t' := 6) rfl rfl rfl (fun q1 => ?_) (fun q1 => ?_)
  · replace h := ite_t q1 h
    refine x_al (pc' := 7) rfl rfl (by decide) rfl ?_
    refine x_gr (pc' := 8) (v := 47) rfl rfl rfl (by decide) rfl ?_
    refine x_al (pc' := 9) rfl rfl (by decide) rfl ?_
    refine x_gf (pc' := 10) (v := M 46 2) rfl rfl rfl rfl rfl ?_
    refine x_il (pc' := 11) rfl rfl rfl ?_
    obtain ⟨q2, h⟩ := h
    refine x_ist (pc' := 12) 50 (M2 := up M 47 (M 46 2) p1) rfl rfl rfl q2.1 q2.2 rfl ?_
    refine x_al (pc' := 13) rfl rfl (by decide) rfl ?_
    refine x_dupa (pc' := 14) rfl rfl ?_
    refine x_gf (pc' := 15) (v := (up M 47 (M 46 2) p1) 46 2) rfl rfl rfl rfl rfl ?_
    refine x_c (pc' := 16) rfl rfl ?_
    refine x_ib (pc' := 17) (v := w32 (((up M 47 (M 46 2) p1) 46 2) + 1)) rfl rfl rfl ?_
    refine x_pf (pc' := 18) (M2 := up (up M 47 (M 46 2) p1) 46 2 (w32 (((up M 47 (M 46 2) p1) 46 2) + 1))) rfl rfl rfl rfl ?_
    refine x_al (pc' := 19) rfl rfl (by decide) rfl ?_
    refine x_gf (pc' := 20) (v := (up (up M 47 (M 46 2) p1) 46 2 (w32 (((up M 47 (M 46 2) p1) 46 2) + 1))) 46 2) rfl rfl rfl rfl rfl ?_
    refine x_c (pc' := 21) rfl rfl ?_
    refine x_ib (pc' := 22) (v := w32 (((up (up M 47 (M 46 2) p1) 46 2 (w32 (((up M 47 (M 46 2) p1) 46 2) + 1))) 46 2) - 1)) rfl rfl rfl ?_
    exact x_iret rfl h
  · replace h := ite_f q1 h
    refine x_c (pc' := 5) rfl rfl ?_
    exact x_iret rfl h
theorem sg_P_kindOf {d : Nat} {p1 : Int} {M : Mem} {r : Res} (h : ∃ v2, Cl d m_P_has [(2, 46), (0, p1)] M (some (0, v2), M) ∧ (if v2 = 0 then r = (some (0, (-1)), M) else (0 ≤ p1 ∧ p1 < 50) ∧ r = (some (0, M 47 p1), M))) : Cl (d + 1) m_P_kindOf [(2, 46), (0, p1)] M r := by
  refine cl_of (c := k_P_kindOf) (mL := 2) (rz := 1) (rc := 5) (ls := [(2, 46), (0, p1)]) rfl rfl rfl ?_
  refine x_al (pc' := 1) rfl rfl (by decide) rfl ?_
  refine x_il (pc' := 2) rfl rfl rfl ?_
  obtain ⟨v2, q1, h⟩ := h
  refine x_call (pc' := 3) (as := [(2, 46), (0, p1)]) (rest := []) rfl rfl rfl rfl rfl rfl q1 ?_
  refine x_ifeq (pc' := 4) (t' := 9) rfl rfl rfl (fun q3 => ?_) (fun q3 => ?_)
  · replace h := ite_t q3 h
    refine x_c (pc' := 10) rfl rfl ?_
    exact x_iret rfl h
  · replace h := ite_f q3 h
    refine x_al (pc' := 5) rfl rfl (by decide) rfl ?_
    refine x_gr (pc' := 6) (v := 47) rfl rfl rfl (by decide) rfl ?_
    refine x_il (pc' := 7) rfl rfl rfl ?_
    obtain ⟨q4, h⟩ := h
    refine x_ia (pc' := 8) 50 (v := M 47 p1) rfl rfl rfl q4.1 q4.2 rfl ?_
    refine x_goto (t' := 10) rfl rfl ?_
    exact x_iret rfl h
def at_P_isUnder_4 (d : Nat) (w1 : AV) (l2 : Int) (l3 : Int) (l4 : Int) (M : Mem) (r : Res) : Prop := Ex sx0 d k_P_isUnder 3 4 [(2, 46), w1, (0, l2), (0, l3), (0, l4)] [] M r
theorem sg_P_isUnder {d : Nat} {p1 p2 : Int} {M : Mem} {r : Res} (h : at_P_isUnder_4 d (0, p1) p2 p1 0 M r) : Cl (d + 1) m_P_isUnder [(2, 46), (0, p1), (0, p2)] M r := by
  refine cl_of (c := k_P_isUnder) (mL := 5) (rz := 3) (rc := 5) (ls := [(2, 46), (0, p1), (0, p2), (3, 0), (3, 0)]) rfl rfl rfl ?_
  refine x_il (pc' := 1) rfl rfl rfl ?_
  refine x_is (pc' := 2) (ls' := [(2, 46), (0, p1), (0, p2), (0, p1), (3, 0)]) rfl rfl rfl rfl ?_
  refine x_c (pc' := 3) rfl rfl ?_
  refine x_is (pc' := 4) (ls' := [(2, 46), (0, p1), (0, p2), (0, p1), (0, 0)]) rfl rfl rfl rfl ?_
  exact h
theorem sg_P_isUnder_4 {d : Nat} {w1 : AV} {l2 : Int} {l3 : Int} {l4 : Int} {M : Mem} {r : Res} (h : (if 8 ≤ l4 then r = (some (0, 0), M) else ∃ v3, Cl d m_P_isKind [(2, 46), (0, l3)] M (some (0, v3), M) ∧ (if v3 = 0 then r = (some (0, 0), M) else (if ¬ l3 = l2 then (0 ≤ l3 ∧ l3 < 8) ∧ at_P_isUnder_4 d w1 l2 (stc 91 l3) (w32 (l4 + 1)) M r else r = (some (0, 1), M))))) : at_P_isUnder_4 d w1 l2 l3 l4 M r := by
  unfold at_P_isUnder_4
  refine x_il (pc' := 5) rfl rfl rfl ?_
  refine x_c (pc' := 6) rfl rfl ?_
  refine x_icge (pc' := 7) (t' := 22) rfl rfl rfl (fun q1 => ?_) (fun q1 => ?_)
  · replace h := ite_t q1 h
    refine x_c (pc' := 23) rfl rfl ?_
    exact x_zret rfl (by decide) h
  · replace h := ite_f q1 h
    refine x_al (pc' := 8) rfl rfl (by decide) rfl ?_
    refine x_il (pc' := 9) rfl rfl rfl ?_
    obtain ⟨v3, q2, h⟩ := h
    refine x_call (pc' := 10) (as := [(2, 46), (0, l3)]) (rest := []) rfl rfl rfl rfl rfl rfl q2 ?_
    refine x_ifeq (pc' := 11) (t' := 22) rfl rfl rfl (fun q4 => ?_) (fun q4 => ?_)
    · replace h := ite_t q4 h
      refine x_c (pc' := 23) rfl rfl ?_
      exact x_zret rfl (by decide) h
    · replace h := ite_f q4 h
      refine x_il (pc' := 12) rfl rfl rfl ?_
      refine x_il (pc' := 13) rfl rfl rfl ?_
      refine x_icne (pc' := 14) (t' := 16) rfl rfl rfl (fun q5 => ?_) (fun q5 => ?_)
      · replace h := ite_t q5 h
        refine x_gs (pc' := 17) rfl rfl rfl ?_
        refine x_il (pc' := 18) rfl rfl rfl ?_
        obtain ⟨q6, h⟩ := h
        refine x_iav (pc' := 19) (v := stc 91 l3) rfl (ld_st 91 8 rfl q6) rfl ?_
        refine x_is (pc' := 20) (ls' := [(2, 46), w1, (0, l2), (0, stc 91 l3), (0, l4)]) rfl rfl rfl rfl ?_
        refine x_inc (pc' := 21) (ls' := [(2, 46), w1, (0, l2), (0, stc 91 l3), (0, w32 (l4 + 1))]) rfl rfl rfl rfl ?_
        refine x_goto (t' := 4) rfl rfl ?_
        exact h
      · replace h := ite_f q5 h
        refine x_c (pc' := 15) rfl rfl ?_
        exact x_zret rfl (by decide) h
theorem sg_P_traced {d : Nat} {M : Mem} {r : Res} (h : r = (some (0, (if 24 < M 46 3 then 24 else M 46 3)), M)) : Cl (d + 1) m_P_traced [(2, 46)] M r := by
  refine cl_of (c := k_P_traced) (mL := 1) (rz := 1) (rc := 5) (ls := [(2, 46)]) rfl rfl rfl ?_
  refine x_al (pc' := 1) rfl rfl (by decide) rfl ?_
  refine x_gf (pc' := 2) (v := M 46 3) rfl rfl rfl rfl rfl ?_
  refine x_c (pc' := 3) rfl rfl ?_
  refine x_min (pc' := 4) rfl rfl rfl ?_
  exact x_iret rfl h
theorem sg_P_play {d : Nat} {p1 p2 p3 : Int} {M : Mem} {r : Res} (h : ∃ v2, Cl d m_P_has [(2, 46), (0, p1)] (up M 46 3 0) (some (0, v2), up M 46 3 0) ∧ (if v2 = 0 then r = (some (0, 0), up M 46 3 0) else (if p2 < 0 then r = (some (0, 0), up M 46 3 0) else (if p2 < 4 then (0 ≤ p1 ∧ p1 < 50) ∧ ∃ v8 M9, Cl d m_P_own [(2, 46), (0, p2), (0, p3), (0, 0)] (up (up (up M 46 3 0) 46 4 p1) 46 5 ((up (up M 46 3 0) 46 4 p1) 47 p1)) (some (0, v8), M9) ∧ r = (some (0, v8), M9) else r = (some (0, 0), up M 46 3 0))))) : Cl (d + 1) m_P_play [(2, 46), (0, p1), (0, p2), (0, p3)] M r := by
  refine cl_of (c := k_P_play) (mL := 4) (rz := 1) (rc := 5) (ls := [(2, 46), (0, p1), (0, p2), (0, p3)]) rfl rfl rfl ?_
  refine x_al (pc' := 1) rfl rfl (by decide) rfl ?_
  refine x_c (pc' := 2) rfl rfl ?_
  refine x_pf (pc' := 3) (M2 := up M 46 3 0) rfl rfl rfl rfl ?_
  refine x_al (pc' := 4) rfl rfl (by decide) rfl ?_
  refine x_il (pc' := 5) rfl rfl rfl ?_
  obtain ⟨v2, q1, h⟩ := h
  refine x_call (pc' := 6) (as := [(2, 46), (0, p1)]) (rest := []) rfl rfl rfl rfl rfl rfl q1 ?_
  refine x_ifeq (pc' := 7) (t' := 12) rfl rfl rfl (fun q3 => ?_) (fun q3 => ?_)
  · replace h := ite_t q3 h
    refine x_c (pc' := 13) rfl rfl ?_
    exact x_iret rfl h
  · replace h := ite_f q3 h
    refine x_il (pc' := 8) rfl rfl rfl ?_
    refine x_iflt (pc' := 9) (t' := 12) rfl rfl rfl (fun q4 => ?_) (fun q4 => ?_)
    · replace h := ite_t q4 h
      refine x_c (pc' := 13) rfl rfl ?_
      exact x_iret rfl h
    · replace h := ite_f q4 h
      refine x_il (pc' := 10) rfl rfl rfl ?_
      refine x_c (pc' := 11) rfl rfl ?_
      refine x_iclt (pc' := 12) (t' := 14) rfl rfl rfl (fun q5 => ?_) (fun q5 => ?_)
      · replace h := ite_t q5 h
        refine x_al (pc' := 15) rfl rfl (by decide) rfl ?_
        refine x_il (pc' := 16) rfl rfl rfl ?_
        refine x_pf (pc' := 17) (M2 := up (up M 46 3 0) 46 4 p1) rfl rfl rfl rfl ?_
        refine x_al (pc' := 18) rfl rfl (by decide) rfl ?_
        refine x_al (pc' := 19) rfl rfl (by decide) rfl ?_
        refine x_gr (pc' := 20) (v := 47) rfl rfl rfl (by decide) rfl ?_
        refine x_il (pc' := 21) rfl rfl rfl ?_
        obtain ⟨q6, h⟩ := h
        refine x_ia (pc' := 22) 50 (v := (up (up M 46 3 0) 46 4 p1) 47 p1) rfl rfl rfl q6.1 q6.2 rfl ?_
        refine x_pf (pc' := 23) (M2 := up (up (up M 46 3 0) 46 4 p1) 46 5 ((up (up M 46 3 0) 46 4 p1) 47 p1)) rfl rfl rfl rfl ?_
        refine x_al (pc' := 24) rfl rfl (by decide) rfl ?_
        refine x_il (pc' := 25) rfl rfl rfl ?_
        refine x_il (pc' := 26) rfl rfl rfl ?_
        refine x_c (pc' := 27) rfl rfl ?_
        obtain ⟨v8, M9, q7, h⟩ := h
        refine x_call (pc' := 28) (as := [(2, 46), (0, p2), (0, p3), (0, 0)]) (rest := []) rfl rfl rfl rfl rfl rfl q7 ?_
        exact x_iret rfl h
      · replace h := ite_f q5 h
        refine x_c (pc' := 13) rfl rfl ?_
        exact x_iret rfl h
theorem sg_P_own {d : Nat} {p1 p2 p3 : Int} {M : Mem} {r : Res} (h : ∃ v2 M3, Cl d m_P_perform [(2, 46), (0, p1), (0, M 46 5), (0, p2), (0, p3)] M (some (0, v2), M3) ∧ r = (some (0, v2), M3)) : Cl (d + 1) m_P_own [(2, 46), (0, p1), (0, p2), (0, p3)] M r := by
  refine cl_of (c := k_P_own) (mL := 4) (rz := 1) (rc := 5) (ls := [(2, 46), (0, p1), (0, p2), (0, p3)]) rfl rfl rfl ?_
  refine x_al (pc' := 1) rfl rfl (by decide) rfl ?_
  refine x_il (pc' := 2) rfl rfl rfl ?_
  refine x_al (pc' := 3) rfl rfl (by decide) rfl ?_
  refine x_gf (pc' := 4) (v := M 46 5) rfl rfl rfl rfl rfl ?_
  refine x_il (pc' := 5) rfl rfl rfl ?_
  refine x_il (pc' := 6) rfl rfl rfl ?_
  obtain ⟨v2, M3, q1, h⟩ := h
  refine x_call (pc' := 7) (as := [(2, 46), (0, p1), (0, M 46 5), (0, p2), (0, p3)]) (rest := []) rfl rfl rfl rfl rfl rfl q1 ?_
  exact x_iret rfl h
theorem sg_P_above {d : Nat} {p1 p2 p3 p4 : Int} {M : Mem} {r : Res} (h : ∃ v2, Cl d m_P_isKind [(2, 46), (0, p2)] M (some (0, v2), M) ∧ (if v2 = 0 then r = (some (0, 0), M) else (0 ≤ p2 ∧ p2 < 8) ∧ ∃ v6 M7, Cl d m_P_perform [(2, 46), (0, p1), (0, stc 91 p2), (0, p3), (0, p4)] M (some (0, v6), M7) ∧ r = (some (0, v6), M7))) : Cl (d + 1) m_P_above [(2, 46), (0, p1), (0, p2), (0, p3), (0, p4)] M r := by
  refine cl_of (c := k_P_above) (mL := 5) (rz := 1) (rc := 5) (ls := [(2, 46), (0, p1), (0, p2), (0, p3), (0, p4)]) rfl rfl rfl ?_
  refine x_al (pc' := 1) rfl rfl (by decide) rfl ?_
  refine x_il (pc' := 2) rfl rfl rfl ?_
  obtain ⟨v2, q1, h⟩ := h
  refine x_call (pc' := 3) (as := [(2, 46), (0, p2)]) (rest := []) rfl rfl rfl rfl rfl rfl q1 ?_
  refine x_ifeq (pc' := 4) (t' := 13) rfl rfl rfl (fun q3 => ?_) (fun q3 => ?_)
  · replace h := ite_t q3 h
    refine x_c (pc' := 14) rfl rfl ?_
    exact x_iret rfl h
  · replace h := ite_f q3 h
    refine x_al (pc' := 5) rfl rfl (by decide) rfl ?_
    refine x_il (pc' := 6) rfl rfl rfl ?_
    refine x_gs (pc' := 7) rfl rfl rfl ?_
    refine x_il (pc' := 8) rfl rfl rfl ?_
    obtain ⟨q4, h⟩ := h
    refine x_iav (pc' := 9) (v := stc 91 p2) rfl (ld_st 91 8 rfl q4) rfl ?_
    refine x_il (pc' := 10) rfl rfl rfl ?_
    refine x_il (pc' := 11) rfl rfl rfl ?_
    obtain ⟨v6, M7, q5, h⟩ := h
    refine x_call (pc' := 12) (as := [(2, 46), (0, p1), (0, stc 91 p2), (0, p3), (0, p4)]) (rest := []) rfl rfl rfl rfl rfl rfl q5 ?_
    refine x_goto (t' := 14) rfl rfl ?_
    exact x_iret rfl h
def at_P_perform_4 (d : Nat) (l1 : Int) (w2 : AV) (l3 : Int) (l4 : Int) (l5 : Int) (l6 : Int) (M : Mem) (r : Res) : Prop := Ex sx0 d k_P_perform 1 4 [(2, 46), (0, l1), w2, (0, l3), (0, l4), (0, l5), (0, l6)] [] M r
theorem sg_P_perform {d : Nat} {p1 p2 p3 p4 : Int} {M : Mem} {r : Res} (h : at_P_perform_4 d p1 (0, p2) p3 p4 p2 0 M r) : Cl (d + 1) m_P_perform [(2, 46), (0, p1), (0, p2), (0, p3), (0, p4)] M r := by
  refine cl_of (c := k_P_perform) (mL := 7) (rz := 1) (rc := 5) (ls := [(2, 46), (0, p1), (0, p2), (0, p3), (0, p4), (3, 0), (3, 0)]) rfl rfl rfl ?_
  refine x_il (pc' := 1) rfl rfl rfl ?_
  refine x_is (pc' := 2) (ls' := [(2, 46), (0, p1), (0, p2), (0, p3), (0, p4), (0, p2), (3, 0)]) rfl rfl rfl rfl ?_
  refine x_c (pc' := 3) rfl rfl ?_
  refine x_is (pc' := 4) (ls' := [(2, 46), (0, p1), (0, p2), (0, p3), (0, p4), (0, p2), (0, 0)]) rfl rfl rfl rfl ?_
  exact h
theorem sg_P_perform_4 {d : Nat} {l1 : Int} {w2 : AV} {l3 : Int} {l4 : Int} {l5 : Int} {l6 : Int} {M : Mem} {r : Res} (h : (if 8 ≤ l6 then ∃ v3, Cl d m_P_isKind [(2, 46), (0, l5)] M (some (0, v3), M) ∧ (if v3 = 0 then r = (some (0, 0), M) else (if l4 ≤ 30 then (0 ≤ w32 ((w32 (8 * l1)) + l5) ∧ w32 ((w32 (8 * l1)) + l5) < 32) ∧ (if 24 ≤ M 46 3 then ∃ v9 M10, Cl d m_P_outcome [(2, 46), (0, stc 92 (w32 ((w32 (8 * l1)) + l5))), (0, l5), (0, l3), (0, w32 (l4 + 1))] (up M 46 3 (w32 ((M 46 3) + 1))) (some (0, v9), M10) ∧ r = (some (0, v9), M10) else (0 ≤ M 46 3 ∧ M 46 3 < 24) ∧ ∃ v13 M14, Cl d m_P_outcome [(2, 46), (0, stc 92 (w32 ((w32 (8 * l1)) + l5))), (0, l5), (0, l3), (0, w32 (l4 + 1))] (up (up M 48 (M 46 3) (stc 92 (w32 ((w32 (8 * l1)) + l5)))) 46 3 (w32 (((up M 48 (M 46 3) (stc 92 (w32 ((w32 (8 * l1)) + l5)))) 46 3) + 1))) (some (0, v13), M14) ∧ r = (some (0, v13), M14)) else r = (some (0, 0), M))) else ∃ v16, Cl d m_P_isKind [(2, 46), (0, l5)] M (some (0, v16), M) ∧ (if v16 = 0 then ∃ v19, Cl d m_P_isKind [(2, 46), (0, l5)] M (some (0, v19), M) ∧ (if v19 = 0 then r = (some (0, 0), M) else (if l4 ≤ 30 then (0 ≤ w32 ((w32 (8 * l1)) + l5) ∧ w32 ((w32 (8 * l1)) + l5) < 32) ∧ (if 24 ≤ M 46 3 then ∃ v25 M26, Cl d m_P_outcome [(2, 46), (0, stc 92 (w32 ((w32 (8 * l1)) + l5))), (0, l5), (0, l3), (0, w32 (l4 + 1))] (up M 46 3 (w32 ((M 46 3) + 1))) (some (0, v25), M26) ∧ r = (some (0, v25), M26) else (0 ≤ M 46 3 ∧ M 46 3 < 24) ∧ ∃ v29 M30, Cl d m_P_outcome [(2, 46), (0, stc 92 (w32 ((w32 (8 * l1)) + l5))), (0, l5), (0, l3), (0, w32 (l4 + 1))] (up (up M 48 (M 46 3) (stc 92 (w32 ((w32 (8 * l1)) + l5)))) 46 3 (w32 (((up M 48 (M 46 3) (stc 92 (w32 ((w32 (8 * l1)) + l5)))) 46 3) + 1))) (some (0, v29), M30) ∧ r = (some (0, v29), M30)) else r = (some (0, 0), M))) else (0 ≤ w32 ((w32 (8 * l1)) + l5) ∧ w32 ((w32 (8 * l1)) + l5) < 32) ∧ (if ¬ stc 92 (w32 ((w32 (8 * l1)) + l5)) = 0 then ∃ v34, Cl d m_P_isKind [(2, 46), (0, l5)] M (some (0, v34), M) ∧ (if v34 = 0 then r = (some (0, 0), M) else (if l4 ≤ 30 then (0 ≤ w32 ((w32 (8 * l1)) + l5) ∧ w32 ((w32 (8 * l1)) + l5) < 32) ∧ (if 24 ≤ M 46 3 then ∃ v40 M41, Cl d m_P_outcome [(2, 46), (0, stc 92 (w32 ((w32 (8 * l1)) + l5))), (0, l5), (0, l3), (0, w32 (l4 + 1))] (up M 46 3 (w32 ((M 46 3) + 1))) (some (0, v40), M41) ∧ r = (some (0, v40), M41) else (0 ≤ M 46 3 ∧ M 46 3 < 24) ∧ ∃ v44 M45, Cl d m_P_outcome [(2, 46), (0, stc 92 (w32 ((w32 (8 * l1)) + l5))), (0, l5), (0, l3), (0, w32 (l4 + 1))] (up (up M 48 (M 46 3) (stc 92 (w32 ((w32 (8 * l1)) + l5)))) 46 3 (w32 (((up M 48 (M 46 3) (stc 92 (w32 ((w32 (8 * l1)) + l5)))) 46 3) + 1))) (some (0, v44), M45) ∧ r = (some (0, v44), M45)) else r = (some (0, 0), M))) else (0 ≤ l5 ∧ l5 < 8) ∧ at_P_perform_4 d l1 w2 l3 l4 (stc 91 l5) (w32 (l6 + 1)) M r)))) : at_P_perform_4 d l1 w2 l3 l4 l5 l6 M r := by
  unfold at_P_perform_4
  refine x_il (pc' := 5) rfl rfl rfl ?_
  refine x_c (pc' := 6) rfl rfl ?_
  refine x_icge (pc' := 7) (t' := 25) rfl rfl rfl (fun q1 => ?_) (fun q1 => ?_)
  · replace h := ite_t q1 h
    refine x_al (pc' := 26) rfl rfl (by decide) rfl ?_
    refine x_il (pc' := 27) rfl rfl rfl ?_
    obtain ⟨v3, q2, h⟩ := h
    refine x_call (pc' := 28) (as := [(2, 46), (0, l5)]) (rest := []) rfl rfl rfl rfl rfl rfl q2 ?_
    refine x_ifeq (pc' := 29) (t' := 32) rfl rfl rfl (fun q4 => ?_) (fun q4 => ?_)
    · replace h := ite_t q4 h
      refine x_c (pc' := 33) rfl rfl ?_
      exact x_iret rfl h
    · replace h := ite_f q4 h
      refine x_il (pc' := 30) rfl rfl rfl ?_
      refine x_c (pc' := 31) rfl rfl ?_
      refine x_icle (pc' := 32) (t' := 34) rfl rfl rfl (fun q5 => ?_) (fun q5 => ?_)
      · replace h := ite_t q5 h
        refine x_gs (pc' := 35) rfl rfl rfl ?_
        refine x_c (pc' := 36) rfl rfl ?_
        refine x_il (pc' := 37) rfl rfl rfl ?_
        refine x_ib (pc' := 38) (v := w32 (8 * l1)) rfl rfl rfl ?_
        refine x_il (pc' := 39) rfl rfl rfl ?_
        refine x_ib (pc' := 40) (v := w32 ((w32 (8 * l1)) + l5)) rfl rfl rfl ?_
        obtain ⟨q6, h⟩ := h
        refine x_iav (pc' := 41) (v := stc 92 (w32 ((w32 (8 * l1)) + l5))) rfl (ld_st 92 32 rfl q6) rfl ?_
        refine x_is (pc' := 42) (ls' := [(2, 46), (0, l1), w2, (0, l3), (0, l4), (0, l5), (0, stc 92 (w32 ((w32 (8 * l1)) + l5)))]) rfl rfl rfl rfl ?_
        refine x_al (pc' := 43) rfl rfl (by decide) rfl ?_
        refine x_gf (pc' := 44) (v := M 46 3) rfl rfl rfl rfl rfl ?_
        refine x_c (pc' := 45) rfl rfl ?_
        refine x_icge (pc' := 46) (t' := 52) rfl rfl rfl (fun q7 => ?_) (fun q7 => ?_)
        · replace h := ite_t q7 h
          refine x_al (pc' := 53) rfl rfl (by decide) rfl ?_
          refine x_dupa (pc' := 54) rfl rfl ?_
          refine x_gf (pc' := 55) (v := M 46 3) rfl rfl rfl rfl rfl ?_
          refine x_c (pc' := 56) rfl rfl ?_
          refine x_ib (pc' := 57) (v := w32 ((M 46 3) + 1)) rfl rfl rfl ?_
          refine x_pf (pc' := 58) (M2 := up M 46 3 (w32 ((M 46 3) + 1))) rfl rfl rfl rfl ?_
          refine x_al (pc' := 59) rfl rfl (by decide) rfl ?_
          refine x_il (pc' := 60) rfl rfl rfl ?_
          refine x_il (pc' := 61) rfl rfl rfl ?_
          refine x_il (pc' := 62) rfl rfl rfl ?_
          refine x_il (pc' := 63) rfl rfl rfl ?_
          refine x_c (pc' := 64) rfl rfl ?_
          refine x_ib (pc' := 65) (v := w32 (l4 + 1)) rfl rfl rfl ?_
          obtain ⟨v9, M10, q8, h⟩ := h
          refine x_call (pc' := 66) (as := [(2, 46), (0, stc 92 (w32 ((w32 (8 * l1)) + l5))), (0, l5), (0, l3), (0, w32 (l4 + 1))]) (rest := []) rfl rfl rfl rfl rfl rfl q8 ?_
          exact x_iret rfl h
        · replace h := ite_f q7 h
          refine x_al (pc' := 47) rfl rfl (by decide) rfl ?_
          refine x_gr (pc' := 48) (v := 48) rfl rfl rfl (by decide) rfl ?_
          refine x_al (pc' := 49) rfl rfl (by decide) rfl ?_
          refine x_gf (pc' := 50) (v := M 46 3) rfl rfl rfl rfl rfl ?_
          refine x_il (pc' := 51) rfl rfl rfl ?_
          obtain ⟨q11, h⟩ := h
          refine x_ist (pc' := 52) 24 (M2 := up M 48 (M 46 3) (stc 92 (w32 ((w32 (8 * l1)) + l5)))) rfl rfl rfl q11.1 q11.2 rfl ?_
          refine x_al (pc' := 53) rfl rfl (by decide) rfl ?_
          refine x_dupa (pc' := 54) rfl rfl ?_
          refine x_gf (pc' := 55) (v := (up M 48 (M 46 3) (stc 92 (w32 ((w32 (8 * l1)) + l5)))) 46 3) rfl rfl rfl rfl rfl ?_
          refine x_c (pc' := 56) rfl rfl ?_
          refine x_ib (pc' := 57) (v := w32 (((up M 48 (M 46 3) (stc 92 (w32 ((w32 (8 * l1)) + l5)))) 46 3) + 1)) rfl rfl rfl ?_
          refine x_pf (pc' := 58) (M2 := up (up M 48 (M 46 3) (stc 92 (w32 ((w32 (8 * l1)) + l5)))) 46 3 (w32 (((up M 48 (M 46 3) (stc 92 (w32 ((w32 (8 * l1)) + l5)))) 46 3) + 1))) rfl rfl rfl rfl ?_
          refine x_al (pc' := 59) rfl rfl (by decide) rfl ?_
          refine x_il (pc' := 60) rfl rfl rfl ?_
          refine x_il (pc' := 61) rfl rfl rfl ?_
          refine x_il (pc' := 62) rfl rfl rfl ?_
          refine x_il (pc' := 63) rfl rfl rfl ?_
          refine x_c (pc' := 64) rfl rfl ?_
          refine x_ib (pc' := 65) (v := w32 (l4 + 1)) rfl rfl rfl ?_
          obtain ⟨v13, M14, q12, h⟩ := h
          refine x_call (pc' := 66) (as := [(2, 46), (0, stc 92 (w32 ((w32 (8 * l1)) + l5))), (0, l5), (0, l3), (0, w32 (l4 + 1))]) (rest := []) rfl rfl rfl rfl rfl rfl q12 ?_
          exact x_iret rfl h
      · replace h := ite_f q5 h
        refine x_c (pc' := 33) rfl rfl ?_
        exact x_iret rfl h
  · replace h := ite_f q1 h
    refine x_al (pc' := 8) rfl rfl (by decide) rfl ?_
    refine x_il (pc' := 9) rfl rfl rfl ?_
    obtain ⟨v16, q15, h⟩ := h
    refine x_call (pc' := 10) (as := [(2, 46), (0, l5)]) (rest := []) rfl rfl rfl rfl rfl rfl q15 ?_
    refine x_ifeq (pc' := 11) (t' := 25) rfl rfl rfl (fun q17 => ?_) (fun q17 => ?_)
    · replace h := ite_t q17 h
      refine x_al (pc' := 26) rfl rfl (by decide) rfl ?_
      refine x_il (pc' := 27) rfl rfl rfl ?_
      obtain ⟨v19, q18, h⟩ := h
      refine x_call (pc' := 28) (as := [(2, 46), (0, l5)]) (rest := []) rfl rfl rfl rfl rfl rfl q18 ?_
      refine x_ifeq (pc' := 29) (t' := 32) rfl rfl rfl (fun q20 => ?_) (fun q20 => ?_)
      · replace h := ite_t q20 h
        refine x_c (pc' := 33) rfl rfl ?_
        exact x_iret rfl h
      · replace h := ite_f q20 h
        refine x_il (pc' := 30) rfl rfl rfl ?_
        refine x_c (pc' := 31) rfl rfl ?_
        refine x_icle (pc' := 32) (t' := 34) rfl rfl rfl (fun q21 => ?_) (fun q21 => ?_)
        · replace h := ite_t q21 h
          refine x_gs (pc' := 35) rfl rfl rfl ?_
          refine x_c (pc' := 36) rfl rfl ?_
          refine x_il (pc' := 37) rfl rfl rfl ?_
          refine x_ib (pc' := 38) (v := w32 (8 * l1)) rfl rfl rfl ?_
          refine x_il (pc' := 39) rfl rfl rfl ?_
          refine x_ib (pc' := 40) (v := w32 ((w32 (8 * l1)) + l5)) rfl rfl rfl ?_
          obtain ⟨q22, h⟩ := h
          refine x_iav (pc' := 41) (v := stc 92 (w32 ((w32 (8 * l1)) + l5))) rfl (ld_st 92 32 rfl q22) rfl ?_
          refine x_is (pc' := 42) (ls' := [(2, 46), (0, l1), w2, (0, l3), (0, l4), (0, l5), (0, stc 92 (w32 ((w32 (8 * l1)) + l5)))]) rfl rfl rfl rfl ?_
          refine x_al (pc' := 43) rfl rfl (by decide) rfl ?_
          refine x_gf (pc' := 44) (v := M 46 3) rfl rfl rfl rfl rfl ?_
          refine x_c (pc' := 45) rfl rfl ?_
          refine x_icge (pc' := 46) (t' := 52) rfl rfl rfl (fun q23 => ?_) (fun q23 => ?_)
          · replace h := ite_t q23 h
            refine x_al (pc' := 53) rfl rfl (by decide) rfl ?_
            refine x_dupa (pc' := 54) rfl rfl ?_
            refine x_gf (pc' := 55) (v := M 46 3) rfl rfl rfl rfl rfl ?_
            refine x_c (pc' := 56) rfl rfl ?_
            refine x_ib (pc' := 57) (v := w32 ((M 46 3) + 1)) rfl rfl rfl ?_
            refine x_pf (pc' := 58) (M2 := up M 46 3 (w32 ((M 46 3) + 1))) rfl rfl rfl rfl ?_
            refine x_al (pc' := 59) rfl rfl (by decide) rfl ?_
            refine x_il (pc' := 60) rfl rfl rfl ?_
            refine x_il (pc' := 61) rfl rfl rfl ?_
            refine x_il (pc' := 62) rfl rfl rfl ?_
            refine x_il (pc' := 63) rfl rfl rfl ?_
            refine x_c (pc' := 64) rfl rfl ?_
            refine x_ib (pc' := 65) (v := w32 (l4 + 1)) rfl rfl rfl ?_
            obtain ⟨v25, M26, q24, h⟩ := h
            refine x_call (pc' := 66) (as := [(2, 46), (0, stc 92 (w32 ((w32 (8 * l1)) + l5))), (0, l5), (0, l3), (0, w32 (l4 + 1))]) (rest := []) rfl rfl rfl rfl rfl rfl q24 ?_
            exact x_iret rfl h
          · replace h := ite_f q23 h
            refine x_al (pc' := 47) rfl rfl (by decide) rfl ?_
            refine x_gr (pc' := 48) (v := 48) rfl rfl rfl (by decide) rfl ?_
            refine x_al (pc' := 49) rfl rfl (by decide) rfl ?_
            refine x_gf (pc' := 50) (v := M 46 3) rfl rfl rfl rfl rfl ?_
            refine x_il (pc' := 51) rfl rfl rfl ?_
            obtain ⟨q27, h⟩ := h
            refine x_ist (pc' := 52) 24 (M2 := up M 48 (M 46 3) (stc 92 (w32 ((w32 (8 * l1)) + l5)))) rfl rfl rfl q27.1 q27.2 rfl ?_
            refine x_al (pc' := 53) rfl rfl (by decide) rfl ?_
            refine x_dupa (pc' := 54) rfl rfl ?_
            refine x_gf (pc' := 55) (v := (up M 48 (M 46 3) (stc 92 (w32 ((w32 (8 * l1)) + l5)))) 46 3) rfl rfl rfl rfl rfl ?_
            refine x_c (pc' := 56) rfl rfl ?_
            refine x_ib (pc' := 57) (v := w32 (((up M 48 (M 46 3) (stc 92 (w32 ((w32 (8 * l1)) + l5)))) 46 3) + 1)) rfl rfl rfl ?_
            refine x_pf (pc' := 58) (M2 := up (up M 48 (M 46 3) (stc 92 (w32 ((w32 (8 * l1)) + l5)))) 46 3 (w32 (((up M 48 (M 46 3) (stc 92 (w32 ((w32 (8 * l1)) + l5)))) 46 3) + 1))) rfl rfl rfl rfl ?_
            refine x_al (pc' := 59) rfl rfl (by decide) rfl ?_
            refine x_il (pc' := 60) rfl rfl rfl ?_
            refine x_il (pc' := 61) rfl rfl rfl ?_
            refine x_il (pc' := 62) rfl rfl rfl ?_
            refine x_il (pc' := 63) rfl rfl rfl ?_
            refine x_c (pc' := 64) rfl rfl ?_
            refine x_ib (pc' := 65) (v := w32 (l4 + 1)) rfl rfl rfl ?_
            obtain ⟨v29, M30, q28, h⟩ := h
            refine x_call (pc' := 66) (as := [(2, 46), (0, stc 92 (w32 ((w32 (8 * l1)) + l5))), (0, l5), (0, l3), (0, w32 (l4 + 1))]) (rest := []) rfl rfl rfl rfl rfl rfl q28 ?_
            exact x_iret rfl h
        · replace h := ite_f q21 h
          refine x_c (pc' := 33) rfl rfl ?_
          exact x_iret rfl h
    · replace h := ite_f q17 h
      refine x_gs (pc' := 12) rfl rfl rfl ?_
      refine x_c (pc' := 13) rfl rfl ?_
      refine x_il (pc' := 14) rfl rfl rfl ?_
      refine x_ib (pc' := 15) (v := w32 (8 * l1)) rfl rfl rfl ?_
      refine x_il (pc' := 16) rfl rfl rfl ?_
      refine x_ib (pc' := 17) (v := w32 ((w32 (8 * l1)) + l5)) rfl rfl rfl ?_
      obtain ⟨q31, h⟩ := h
      refine x_iav (pc' := 18) (v := stc 92 (w32 ((w32 (8 * l1)) + l5))) rfl (ld_st 92 32 rfl q31) rfl ?_
      refine x_ifne (pc' := 19) (t' := 25) rfl rfl rfl (fun q32 => ?_) (fun q32 => ?_)
      · replace h := ite_t q32 h
        refine x_al (pc' := 26) rfl rfl (by decide) rfl ?_
        refine x_il (pc' := 27) rfl rfl rfl ?_
        obtain ⟨v34, q33, h⟩ := h
        refine x_call (pc' := 28) (as := [(2, 46), (0, l5)]) (rest := []) rfl rfl rfl rfl rfl rfl q33 ?_
        refine x_ifeq (pc' := 29) (t' := 32) rfl rfl rfl (fun q35 => ?_) (fun q35 => ?_)
        · replace h := ite_t q35 h
          refine x_c (pc' := 33) rfl rfl ?_
          exact x_iret rfl h
        · replace h := ite_f q35 h
          refine x_il (pc' := 30) rfl rfl rfl ?_
          refine x_c (pc' := 31) rfl rfl ?_
          refine x_icle (pc' := 32) (t' := 34) rfl rfl rfl (fun q36 => ?_) (fun q36 => ?_)
          · replace h := ite_t q36 h
            refine x_gs (pc' := 35) rfl rfl rfl ?_
            refine x_c (pc' := 36) rfl rfl ?_
            refine x_il (pc' := 37) rfl rfl rfl ?_
            refine x_ib (pc' := 38) (v := w32 (8 * l1)) rfl rfl rfl ?_
            refine x_il (pc' := 39) rfl rfl rfl ?_
            refine x_ib (pc' := 40) (v := w32 ((w32 (8 * l1)) + l5)) rfl rfl rfl ?_
            obtain ⟨q37, h⟩ := h
            refine x_iav (pc' := 41) (v := stc 92 (w32 ((w32 (8 * l1)) + l5))) rfl (ld_st 92 32 rfl q37) rfl ?_
            refine x_is (pc' := 42) (ls' := [(2, 46), (0, l1), w2, (0, l3), (0, l4), (0, l5), (0, stc 92 (w32 ((w32 (8 * l1)) + l5)))]) rfl rfl rfl rfl ?_
            refine x_al (pc' := 43) rfl rfl (by decide) rfl ?_
            refine x_gf (pc' := 44) (v := M 46 3) rfl rfl rfl rfl rfl ?_
            refine x_c (pc' := 45) rfl rfl ?_
            refine x_icge (pc' := 46) (t' := 52) rfl rfl rfl (fun q38 => ?_) (fun q38 => ?_)
            · replace h := ite_t q38 h
              refine x_al (pc' := 53) rfl rfl (by decide) rfl ?_
              refine x_dupa (pc' := 54) rfl rfl ?_
              refine x_gf (pc' := 55) (v := M 46 3) rfl rfl rfl rfl rfl ?_
              refine x_c (pc' := 56) rfl rfl ?_
              refine x_ib (pc' := 57) (v := w32 ((M 46 3) + 1)) rfl rfl rfl ?_
              refine x_pf (pc' := 58) (M2 := up M 46 3 (w32 ((M 46 3) + 1))) rfl rfl rfl rfl ?_
              refine x_al (pc' := 59) rfl rfl (by decide) rfl ?_
              refine x_il (pc' := 60) rfl rfl rfl ?_
              refine x_il (pc' := 61) rfl rfl rfl ?_
              refine x_il (pc' := 62) rfl rfl rfl ?_
              refine x_il (pc' := 63) rfl rfl rfl ?_
              refine x_c (pc' := 64) rfl rfl ?_
              refine x_ib (pc' := 65) (v := w32 (l4 + 1)) rfl rfl rfl ?_
              obtain ⟨v40, M41, q39, h⟩ := h
              refine x_call (pc' := 66) (as := [(2, 46), (0, stc 92 (w32 ((w32 (8 * l1)) + l5))), (0, l5), (0, l3), (0, w32 (l4 + 1))]) (rest := []) rfl rfl rfl rfl rfl rfl q39 ?_
              exact x_iret rfl h
            · replace h := ite_f q38 h
              refine x_al (pc' := 47) rfl rfl (by decide) rfl ?_
              refine x_gr (pc' := 48) (v := 48) rfl rfl rfl (by decide) rfl ?_
              refine x_al (pc' := 49) rfl rfl (by decide) rfl ?_
              refine x_gf (pc' := 50) (v := M 46 3) rfl rfl rfl rfl rfl ?_
              refine x_il (pc' := 51) rfl rfl rfl ?_
              obtain ⟨q42, h⟩ := h
              refine x_ist (pc' := 52) 24 (M2 := up M 48 (M 46 3) (stc 92 (w32 ((w32 (8 * l1)) + l5)))) rfl rfl rfl q42.1 q42.2 rfl ?_
              refine x_al (pc' := 53) rfl rfl (by decide) rfl ?_
              refine x_dupa (pc' := 54) rfl rfl ?_
              refine x_gf (pc' := 55) (v := (up M 48 (M 46 3) (stc 92 (w32 ((w32 (8 * l1)) + l5)))) 46 3) rfl rfl rfl rfl rfl ?_
              refine x_c (pc' := 56) rfl rfl ?_
              refine x_ib (pc' := 57) (v := w32 (((up M 48 (M 46 3) (stc 92 (w32 ((w32 (8 * l1)) + l5)))) 46 3) + 1)) rfl rfl rfl ?_
              refine x_pf (pc' := 58) (M2 := up (up M 48 (M 46 3) (stc 92 (w32 ((w32 (8 * l1)) + l5)))) 46 3 (w32 (((up M 48 (M 46 3) (stc 92 (w32 ((w32 (8 * l1)) + l5)))) 46 3) + 1))) rfl rfl rfl rfl ?_
              refine x_al (pc' := 59) rfl rfl (by decide) rfl ?_
              refine x_il (pc' := 60) rfl rfl rfl ?_
              refine x_il (pc' := 61) rfl rfl rfl ?_
              refine x_il (pc' := 62) rfl rfl rfl ?_
              refine x_il (pc' := 63) rfl rfl rfl ?_
              refine x_c (pc' := 64) rfl rfl ?_
              refine x_ib (pc' := 65) (v := w32 (l4 + 1)) rfl rfl rfl ?_
              obtain ⟨v44, M45, q43, h⟩ := h
              refine x_call (pc' := 66) (as := [(2, 46), (0, stc 92 (w32 ((w32 (8 * l1)) + l5))), (0, l5), (0, l3), (0, w32 (l4 + 1))]) (rest := []) rfl rfl rfl rfl rfl rfl q43 ?_
              exact x_iret rfl h
          · replace h := ite_f q36 h
            refine x_c (pc' := 33) rfl rfl ?_
            exact x_iret rfl h
      · replace h := ite_f q32 h
        refine x_gs (pc' := 20) rfl rfl rfl ?_
        refine x_il (pc' := 21) rfl rfl rfl ?_
        obtain ⟨q46, h⟩ := h
        refine x_iav (pc' := 22) (v := stc 91 l5) rfl (ld_st 91 8 rfl q46) rfl ?_
        refine x_is (pc' := 23) (ls' := [(2, 46), (0, l1), w2, (0, l3), (0, l4), (0, stc 91 l5), (0, l6)]) rfl rfl rfl rfl ?_
        refine x_inc (pc' := 24) (ls' := [(2, 46), (0, l1), w2, (0, l3), (0, l4), (0, stc 91 l5), (0, w32 (l6 + 1))]) rfl rfl rfl rfl ?_
        refine x_goto (t' := 4) rfl rfl ?_
        exact h
theorem sg_P_outcome {d : Nat} {p1 p2 p3 p4 : Int} {M : Mem} {r : Res} (h : (if p1 = 1 then r = (some (0, w32 (p3 + (M 46 4))), M) else (if p1 = 2 then ∃ v4 M5, Cl d m_P_own [(2, 46), (0, 1), (0, p3), (0, p4)] M (some (0, v4), M5) ∧ ∃ v7 M8, Cl d m_P_own [(2, 46), (0, 2), (0, 1), (0, p4)] M5 (some (0, v7), M8) ∧ r = (some (0, w32 (v4 - v7)), M8) else (if p1 = 10 then ∃ v11 M12, Cl d m_P_own [(2, 46), (0, 0), (0, p3), (0, p4)] M (some (0, v11), M12) ∧ r = (some (0, w32 (v11 * 2)), M12) else (if p1 = 11 then r = (some (0, ixor p3 (M 46 4)), M) else (if p1 = 20 then ∃ v16 M17, Cl d m_P_above [(2, 46), (0, 0), (0, p2), (0, p3), (0, p4)] M (some (0, v16), M17) ∧ r = (some (0, w32 (v16 + 3)), M17) else (if p1 = 30 then ∃ v20 M21, Cl d m_P_above [(2, 46), (0, 1), (0, p2), (0, p3), (0, p4)] M (some (0, v20), M21) ∧ r = (some (0, w32 (-v20)), M21) else (if p1 = 40 then ∃ v24 M25, Cl d m_P_above [(2, 46), (0, 2), (0, p2), (0, p3), (0, p4)] M (some (0, v24), M25) ∧ r = (some (0, w32 (v24 * 3)), M25) else (if p1 = 41 then ∃ v28 M29, Cl d m_P_above [(2, 46), (0, 1), (0, p2), (0, w32 (p3 + 1)), (0, p4)] M (some (0, v28), M29) ∧ r = (some (0, v28), M29) else (if p1 = 50 then ∃ v32 M33, Cl d m_P_above [(2, 46), (0, 2), (0, p2), (0, p3), (0, p4)] M (some (0, v32), M33) ∧ ∃ v35 M36, Cl d m_P_own [(2, 46), (0, 0), (0, 2), (0, p4)] M33 (some (0, v35), M36) ∧ r = (some (0, w32 (v32 - v35)), M36) else (if p1 = 60 then ∃ v39 M40, Cl d m_P_above [(2, 46), (0, 3), (0, p2), (0, p3), (0, p4)] M (some (0, v39), M40) ∧ r = (some (0, ixor v39 5), M40) else (if p1 = 70 then ∃ v43 M44, Cl d m_P_above [(2, 46), (0, 0), (0, p2), (0, p3), (0, p4)] M (some (0, v43), M44) ∧ r = (some (0, w32 (v43 * 2)), M44) else (if p1 = 80 then ∃ v47 M48, Cl d m_P_above [(2, 46), (0, 1), (0, p2), (0, p3), (0, p4)] M (some (0, v47), M48) ∧ ∃ v50 M51, Cl d m_P_own [(2, 46), (0, 2), (0, 2), (0, p4)] M48 (some (0, v50), M51) ∧ r = (some (0, w32 (v47 + v50)), M51) else (if p1 = 81 then ∃ v54 M55, Cl d m_P_above [(2, 46), (0, 3), (0, p2), (0, p3), (0, p4)] M (some (0, v54), M55) ∧ r = (some (0, w32 (v54 - 1)), M55) else r = (some (0, 0), M))))))))))))))) : Cl (d + 1) m_P_outcome [(2, 46), (0, p1), (0, p2), (0, p3), (0, p4)] M r := by
  refine cl_of (c := k_P_outcome) (mL := 5) (rz := 1) (rc := 5) (ls := [(2, 46), (0, p1), (0, p2), (0, p3), (0, p4)]) rfl rfl rfl ?_
  refine x_il (pc' := 1) rfl rfl rfl ?_
  by_cases q1 : p1 = 1
  · replace h := ite_t q1 h
    refine x_lsw (t' := 2) rfl (by rw [q1]; rfl) ?_
    refine x_il (pc' := 3) rfl rfl rfl ?_
    refine x_al (pc' := 4) rfl rfl (by decide) rfl ?_
    refine x_gf (pc' := 5) (v := M 46 4) rfl rfl rfl rfl rfl ?_
    refine x_ib (pc' := 6) (v := w32 (p3 + (M 46 4))) rfl rfl rfl ?_
    exact x_iret rfl h
  replace h := ite_f q1 h
  by_cases q2 : p1 = 2
  · replace h := ite_t q2 h
    refine x_lsw (t' := 7) rfl (by rw [q2]; rfl) ?_
    refine x_al (pc' := 8) rfl rfl (by decide) rfl ?_
    refine x_c (pc' := 9) rfl rfl ?_
    refine x_il (pc' := 10) rfl rfl rfl ?_
    refine x_il (pc' := 11) rfl rfl rfl ?_
    obtain ⟨v4, M5, q3, h⟩ := h
    refine x_call (pc' := 12) (as := [(2, 46), (0, 1), (0, p3), (0, p4)]) (rest := []) rfl rfl rfl rfl rfl rfl q3 ?_
    refine x_al (pc' := 13) rfl rfl (by decide) rfl ?_
    refine x_c (pc' := 14) rfl rfl ?_
    refine x_c (pc' := 15) rfl rfl ?_
    refine x_il (pc' := 16) rfl rfl rfl ?_
    obtain ⟨v7, M8, q6, h⟩ := h
    refine x_call (pc' := 17) (as := [(2, 46), (0, 2), (0, 1), (0, p4)]) (rest := [(0, v4)]) rfl rfl rfl rfl rfl rfl q6 ?_
    refine x_ib (pc' := 18) (v := w32 (v4 - v7)) rfl rfl rfl ?_
    exact x_iret rfl h
  replace h := ite_f q2 h
  by_cases q9 : p1 = 10
  · replace h := ite_t q9 h
    refine x_lsw (t' := 19) rfl (by rw [q9]; rfl) ?_
    refine x_al (pc' := 20) rfl rfl (by decide) rfl ?_
    refine x_c (pc' := 21) rfl rfl ?_
    refine x_il (pc' := 22) rfl rfl rfl ?_
    refine x_il (pc' := 23) rfl rfl rfl ?_
    obtain ⟨v11, M12, q10, h⟩ := h
    refine x_call (pc' := 24) (as := [(2, 46), (0, 0), (0, p3), (0, p4)]) (rest := []) rfl rfl rfl rfl rfl rfl q10 ?_
    refine x_c (pc' := 25) rfl rfl ?_
    refine x_ib (pc' := 26) (v := w32 (v11 * 2)) rfl rfl rfl ?_
    exact x_iret rfl h
  replace h := ite_f q9 h
  by_cases q13 : p1 = 11
  · replace h := ite_t q13 h
    refine x_lsw (t' := 27) rfl (by rw [q13]; rfl) ?_
    refine x_il (pc' := 28) rfl rfl rfl ?_
    refine x_al (pc' := 29) rfl rfl (by decide) rfl ?_
    refine x_gf (pc' := 30) (v := M 46 4) rfl rfl rfl rfl rfl ?_
    refine x_ib (pc' := 31) (v := ixor p3 (M 46 4)) rfl rfl rfl ?_
    exact x_iret rfl h
  replace h := ite_f q13 h
  by_cases q14 : p1 = 20
  · replace h := ite_t q14 h
    refine x_lsw (t' := 32) rfl (by rw [q14]; rfl) ?_
    refine x_al (pc' := 33) rfl rfl (by decide) rfl ?_
    refine x_c (pc' := 34) rfl rfl ?_
    refine x_il (pc' := 35) rfl rfl rfl ?_
    refine x_il (pc' := 36) rfl rfl rfl ?_
    refine x_il (pc' := 37) rfl rfl rfl ?_
    obtain ⟨v16, M17, q15, h⟩ := h
    refine x_call (pc' := 38) (as := [(2, 46), (0, 0), (0, p2), (0, p3), (0, p4)]) (rest := []) rfl rfl rfl rfl rfl rfl q15 ?_
    refine x_c (pc' := 39) rfl rfl ?_
    refine x_ib (pc' := 40) (v := w32 (v16 + 3)) rfl rfl rfl ?_
    exact x_iret rfl h
  replace h := ite_f q14 h
  by_cases q18 : p1 = 30
  · replace h := ite_t q18 h
    refine x_lsw (t' := 41) rfl (by rw [q18]; rfl) ?_
    refine x_al (pc' := 42) rfl rfl (by decide) rfl ?_
    refine x_c (pc' := 43) rfl rfl ?_
    refine x_il (pc' := 44) rfl rfl rfl ?_
    refine x_il (pc' := 45) rfl rfl rfl ?_
    refine x_il (pc' := 46) rfl rfl rfl ?_
    obtain ⟨v20, M21, q19, h⟩ := h
    refine x_call (pc' := 47) (as := [(2, 46), (0, 1), (0, p2), (0, p3), (0, p4)]) (rest := []) rfl rfl rfl rfl rfl rfl q19 ?_
    refine x_neg (pc' := 48) rfl rfl ?_
    exact x_iret rfl h
  replace h := ite_f q18 h
  by_cases q22 : p1 = 40
  · replace h := ite_t q22 h
    refine x_lsw (t' := 49) rfl (by rw [q22]; rfl) ?_
    refine x_al (pc' := 50) rfl rfl (by decide) rfl ?_
    refine x_c (pc' := 51) rfl rfl ?_
    refine x_il (pc' := 52) rfl rfl rfl ?_
    refine x_il (pc' := 53) rfl rfl rfl ?_
    refine x_il (pc' := 54) rfl rfl rfl ?_
    obtain ⟨v24, M25, q23, h⟩ := h
    refine x_call (pc' := 55) (as := [(2, 46), (0, 2), (0, p2), (0, p3), (0, p4)]) (rest := []) rfl rfl rfl rfl rfl rfl q23 ?_
    refine x_c (pc' := 56) rfl rfl ?_
    refine x_ib (pc' := 57) (v := w32 (v24 * 3)) rfl rfl rfl ?_
    exact x_iret rfl h
  replace h := ite_f q22 h
  by_cases q26 : p1 = 41
  · replace h := ite_t q26 h
    refine x_lsw (t' := 58) rfl (by rw [q26]; rfl) ?_
    refine x_al (pc' := 59) rfl rfl (by decide) rfl ?_
    refine x_c (pc' := 60) rfl rfl ?_
    refine x_il (pc' := 61) rfl rfl rfl ?_
    refine x_il (pc' := 62) rfl rfl rfl ?_
    refine x_c (pc' := 63) rfl rfl ?_
    refine x_ib (pc' := 64) (v := w32 (p3 + 1)) rfl rfl rfl ?_
    refine x_il (pc' := 65) rfl rfl rfl ?_
    obtain ⟨v28, M29, q27, h⟩ := h
    refine x_call (pc' := 66) (as := [(2, 46), (0, 1), (0, p2), (0, w32 (p3 + 1)), (0, p4)]) (rest := []) rfl rfl rfl rfl rfl rfl q27 ?_
    exact x_iret rfl h
  replace h := ite_f q26 h
  by_cases q30 : p1 = 50
  · replace h := ite_t q30 h
    refine x_lsw (t' := 67) rfl (by rw [q30]; rfl) ?_
    refine x_al (pc' := 68) rfl rfl (by decide) rfl ?_
    refine x_c (pc' := 69) rfl rfl ?_
    refine x_il (pc' := 70) rfl rfl rfl ?_
    refine x_il (pc' := 71) rfl rfl rfl ?_
    refine x_il (pc' := 72) rfl rfl rfl ?_
    obtain ⟨v32, M33, q31, h⟩ := h
    refine x_call (pc' := 73) (as := [(2, 46), (0, 2), (0, p2), (0, p3), (0, p4)]) (rest := []) rfl rfl rfl rfl rfl rfl q31 ?_
    refine x_al (pc' := 74) rfl rfl (by decide) rfl ?_
    refine x_c (pc' := 75) rfl rfl ?_
    refine x_c (pc' := 76) rfl rfl ?_
    refine x_il (pc' := 77) rfl rfl rfl ?_
    obtain ⟨v35, M36, q34, h⟩ := h
    refine x_call (pc' := 78) (as := [(2, 46), (0, 0), (0, 2), (0, p4)]) (rest := [(0, v32)]) rfl rfl rfl rfl rfl rfl q34 ?_
    refine x_ib (pc' := 79) (v := w32 (v32 - v35)) rfl rfl rfl ?_
    exact x_iret rfl h
  replace h := ite_f q30 h
  by_cases q37 : p1 = 60
  · replace h := ite_t q37 h
    refine x_lsw (t' := 80) rfl (by rw [q37]; rfl) ?_
    refine x_al (pc' := 81) rfl rfl (by decide) rfl ?_
    refine x_c (pc' := 82) rfl rfl ?_
    refine x_il (pc' := 83) rfl rfl rfl ?_
    refine x_il (pc' := 84) rfl rfl rfl ?_
    refine x_il (pc' := 85) rfl rfl rfl ?_
    obtain ⟨v39, M40, q38, h⟩ := h
    refine x_call (pc' := 86) (as := [(2, 46), (0, 3), (0, p2), (0, p3), (0, p4)]) (rest := []) rfl rfl rfl rfl rfl rfl q38 ?_
    refine x_c (pc' := 87) rfl rfl ?_
    refine x_ib (pc' := 88) (v := ixor v39 5) rfl rfl rfl ?_
    exact x_iret rfl h
  replace h := ite_f q37 h
  by_cases q41 : p1 = 70
  · replace h := ite_t q41 h
    refine x_lsw (t' := 89) rfl (by rw [q41]; rfl) ?_
    refine x_al (pc' := 90) rfl rfl (by decide) rfl ?_
    refine x_c (pc' := 91) rfl rfl ?_
    refine x_il (pc' := 92) rfl rfl rfl ?_
    refine x_il (pc' := 93) rfl rfl rfl ?_
    refine x_il (pc' := 94) rfl rfl rfl ?_
    obtain ⟨v43, M44, q42, h⟩ := h
    refine x_call (pc' := 95) (as := [(2, 46), (0, 0), (0, p2), (0, p3), (0, p4)]) (rest := []) rfl rfl rfl rfl rfl rfl q42 ?_
    refine x_c (pc' := 96) rfl rfl ?_
    refine x_ib (pc' := 97) (v := w32 (v43 * 2)) rfl rfl rfl ?_
    exact x_iret rfl h
  replace h := ite_f q41 h
  by_cases q45 : p1 = 80
  · replace h := ite_t q45 h
    refine x_lsw (t' := 98) rfl (by rw [q45]; rfl) ?_
    refine x_al (pc' := 99) rfl rfl (by decide) rfl ?_
    refine x_c (pc' := 100) rfl rfl ?_
    refine x_il (pc' := 101) rfl rfl rfl ?_
    refine x_il (pc' := 102) rfl rfl rfl ?_
    refine x_il (pc' := 103) rfl rfl rfl ?_
    obtain ⟨v47, M48, q46, h⟩ := h
    refine x_call (pc' := 104) (as := [(2, 46), (0, 1), (0, p2), (0, p3), (0, p4)]) (rest := []) rfl rfl rfl rfl rfl rfl q46 ?_
    refine x_al (pc' := 105) rfl rfl (by decide) rfl ?_
    refine x_c (pc' := 106) rfl rfl ?_
    refine x_c (pc' := 107) rfl rfl ?_
    refine x_il (pc' := 108) rfl rfl rfl ?_
    obtain ⟨v50, M51, q49, h⟩ := h
    refine x_call (pc' := 109) (as := [(2, 46), (0, 2), (0, 2), (0, p4)]) (rest := [(0, v47)]) rfl rfl rfl rfl rfl rfl q49 ?_
    refine x_ib (pc' := 110) (v := w32 (v47 + v50)) rfl rfl rfl ?_
    exact x_iret rfl h
  replace h := ite_f q45 h
  by_cases q52 : p1 = 81
  · replace h := ite_t q52 h
    refine x_lsw (t' := 111) rfl (by rw [q52]; rfl) ?_
    refine x_al (pc' := 112) rfl rfl (by decide) rfl ?_
    refine x_c (pc' := 113) rfl rfl ?_
    refine x_il (pc' := 114) rfl rfl rfl ?_
    refine x_il (pc' := 115) rfl rfl rfl ?_
    refine x_il (pc' := 116) rfl rfl rfl ?_
    obtain ⟨v54, M55, q53, h⟩ := h
    refine x_call (pc' := 117) (as := [(2, 46), (0, 3), (0, p2), (0, p3), (0, p4)]) (rest := []) rfl rfl rfl rfl rfl rfl q53 ?_
    refine x_c (pc' := 118) rfl rfl ?_
    refine x_ib (pc' := 119) (v := w32 (v54 - 1)) rfl rfl rfl ?_
    exact x_iret rfl h
  replace h := ite_f q52 h
  refine x_lsw (t' := 120) rfl (by simp only [lswT, q1, q2, q9, q13, q14, q18, q22, q26, q30, q37, q41, q45, q52, if_false]; rfl) ?_
  refine x_c (pc' := 121) rfl rfl ?_
  exact x_iret rfl h
theorem sg_S_has {d : Nat} {p1 : Int} {M : Mem} {r : Res} (h : (if p1 < 0 then r = (some (0, 0), M) else (if 6 ≤ p1 then r = (some (0, 0), M) else r = (some (0, 1), M)))) : Cl (d + 1) m_S_has [(2, 49), (0, p1)] M r := by
  refine cl_of (c := k_S_has) (mL := 2) (rz := 3) (rc := 6) (ls := [(2, 49), (0, p1)]) rfl rfl rfl ?_
  refine x_il (pc' := 1) rfl rfl rfl ?_
  refine x_iflt (pc' := 2) (t' := 7) rfl rfl rfl (fun q1 => ?_) (fun q1 => ?_)
  · replace h := ite_t q1 h
    refine x_c (pc' := 8) rfl rfl ?_
    exact x_zret rfl (by decide) h
  · replace h := ite_f q1 h
    refine x_il (pc' := 3) rfl rfl rfl ?_
    refine x_c (pc' := 4) rfl rfl ?_
    refine x_icge (pc' := 5) (t' := 7) rfl rfl rfl (fun q2 => ?_) (fun q2 => ?_)
    · replace h := ite_t q2 h
      refine x_c (pc' := 8) rfl rfl ?_
      exact x_zret rfl (by decide) h
    · replace h := ite_f q2 h
      refine x_c (pc' := 6) rfl rfl ?_
      refine x_goto (t' := 8) rfl rfl ?_
      exact x_zret rfl (by decide) h
theorem sg_S_isRowSort {d : Nat} {p1 : Int} {M : Mem} {r : Res} (h : (if p1 < 0 then r = (some (0, 0), M) else (if 5 ≤ p1 then r = (some (0, 0), M) else r = (some (0, 1), M)))) : Cl (d + 1) m_S_isRowSort [(2, 49), (0, p1)] M r := by
  refine cl_of (c := k_S_isRowSort) (mL := 2) (rz := 3) (rc := 6) (ls := [(2, 49), (0, p1)]) rfl rfl rfl ?_
  refine x_il (pc' := 1) rfl rfl rfl ?_
  refine x_iflt (pc' := 2) (t' := 7) rfl rfl rfl (fun q1 => ?_) (fun q1 => ?_)
  · replace h := ite_t q1 h
    refine x_c (pc' := 8) rfl rfl ?_
    exact x_zret rfl (by decide) h
  · replace h := ite_f q1 h
    refine x_il (pc' := 3) rfl rfl rfl ?_
    refine x_c (pc' := 4) rfl rfl ?_
    refine x_icge (pc' := 5) (t' := 7) rfl rfl rfl (fun q2 => ?_) (fun q2 => ?_)
    · replace h := ite_t q2 h
      refine x_c (pc' := 8) rfl rfl ?_
      exact x_zret rfl (by decide) h
    · replace h := ite_f q2 h
      refine x_c (pc' := 6) rfl rfl ?_
      refine x_goto (t' := 8) rfl rfl ?_
      exact x_zret rfl (by decide) h
theorem sg_S_isEmpty {d : Nat} {p1 : Int} {M : Mem} {r : Res} (h : ∃ v2, Cl d m_S_has [(2, 49), (0, p1)] M (some (0, v2), M) ∧ (if v2 = 0 then r = (some (0, 1), M) else (0 ≤ p1 ∧ p1 < 6) ∧ (if ¬ M 50 p1 = 0 then r = (some (0, 0), M) else r = (some (0, 1), M)))) : Cl (d + 1) m_S_isEmpty [(2, 49), (0, p1)] M r := by
  refine cl_of (c := k_S_isEmpty) (mL := 2) (rz := 3) (rc := 6) (ls := [(2, 49), (0, p1)]) rfl rfl rfl ?_
  refine x_al (pc' := 1) rfl rfl (by decide) rfl ?_
  refine x_il (pc' := 2) rfl rfl rfl ?_
  obtain ⟨v2, q1, h⟩ := h
  refine x_call (pc' := 3) (as := [(2, 49), (0, p1)]) (rest := []) rfl rfl rfl rfl rfl rfl q1 ?_
  refine x_ifeq (pc' := 4) (t' := 9) rfl rfl rfl (fun q3 => ?_) (fun q3 => ?_)
  · replace h := ite_t q3 h
    refine x_c (pc' := 10) rfl rfl ?_
    refine x_goto (t' := 12) rfl rfl ?_
    exact x_zret rfl (by decide) h
  · replace h := ite_f q3 h
    refine x_al (pc' := 5) rfl rfl (by decide) rfl ?_
    refine x_gr (pc' := 6) (v := 50) rfl rfl rfl (by decide) rfl ?_
    refine x_il (pc' := 7) rfl rfl rfl ?_
    obtain ⟨q4, h⟩ := h
    refine x_ia (pc' := 8) 6 (v := M 50 p1) rfl rfl rfl q4.1 q4.2 rfl ?_
    refine x_ifne (pc' := 9) (t' := 11) rfl rfl rfl (fun q5 => ?_) (fun q5 => ?_)
    · replace h := ite_t q5 h
      refine x_c (pc' := 12) rfl rfl ?_
      exact x_zret rfl (by decide) h
    · replace h := ite_f q5 h
      refine x_c (pc' := 10) rfl rfl ?_
      refine x_goto (t' := 12) rfl rfl ?_
      exact x_zret rfl (by decide) h
theorem sg_S_rowRefusal {d : Nat} {p1 p2 : Int} {M : Mem} {r : Res} (h : ∃ v2, Cl d m_S_has [(2, 49), (0, p1)] M (some (0, v2), M) ∧ (if ¬ v2 = 0 then (0 ≤ p1 ∧ p1 < 6) ∧ (if ¬ M 50 p1 = 0 then (0 ≤ p1 ∧ p1 < 6) ∧ (if ¬ M 50 p1 = 2 then r = (some (0, (-12)), M) else (if p2 = (-1) then r = (some (0, 0), M) else (0 ≤ p1 ∧ p1 < 6) ∧ (if ¬ M 52 p1 = p2 then r = (some (0, (-12)), M) else r = (some (0, 0), M)))) else r = (some (0, (-11)), M)) else r = (some (0, (-1)), M))) : Cl (d + 1) m_S_rowRefusal [(2, 49), (0, p1), (0, p2)] M r := by
  refine cl_of (c := k_S_rowRefusal) (mL := 4) (rz := 1) (rc := 6) (ls := [(2, 49), (0, p1), (0, p2), (3, 0)]) rfl rfl rfl ?_
  refine x_al (pc' := 1) rfl rfl (by decide) rfl ?_
  refine x_il (pc' := 2) rfl rfl rfl ?_
  obtain ⟨v2, q1, h⟩ := h
  refine x_call (pc' := 3) (as := [(2, 49), (0, p1)]) (rest := []) rfl rfl rfl rfl rfl rfl q1 ?_
  refine x_ifne (pc' := 4) (t' := 6) rfl rfl rfl (fun q3 => ?_) (fun q3 => ?_)
  · replace h := ite_t q3 h
    refine x_al (pc' := 7) rfl rfl (by decide) rfl ?_
    refine x_gr (pc' := 8) (v := 50) rfl rfl rfl (by decide) rfl ?_
    refine x_il (pc' := 9) rfl rfl rfl ?_
    obtain ⟨q4, h⟩ := h
    refine x_ia (pc' := 10) 6 (v := M 50 p1) rfl rfl rfl q4.1 q4.2 rfl ?_
    refine x_ifne (pc' := 11) (t' := 13) rfl rfl rfl (fun q5 => ?_) (fun q5 => ?_)
    · replace h := ite_t q5 h
      refine x_al (pc' := 14) rfl rfl (by decide) rfl ?_
      refine x_gr (pc' := 15) (v := 50) rfl rfl rfl (by decide) rfl ?_
      refine x_il (pc' := 16) rfl rfl rfl ?_
      obtain ⟨q6, h⟩ := h
      refine x_ia (pc' := 17) 6 (v := M 50 p1) rfl rfl rfl q6.1 q6.2 rfl ?_
      refine x_c (pc' := 18) rfl rfl ?_
      refine x_icne (pc' := 19) (t' := 30) rfl rfl rfl (fun q7 => ?_) (fun q7 => ?_)
      · replace h := ite_t q7 h
        refine x_c (pc' := 31) rfl rfl ?_
        refine x_is (pc' := 32) (ls' := [(2, 49), (0, p1), (0, p2), (0, 0)]) rfl rfl rfl rfl ?_
        refine x_il (pc' := 33) rfl rfl rfl ?_
        refine x_ifeq (pc' := 34) (t' := 36) rfl rfl rfl (fun _ => ?_) (fun q => absurd (by decide) q)
        refine x_c (pc' := 37) rfl rfl ?_
        exact x_iret rfl h
      · replace h := ite_f q7 h
        refine x_il (pc' := 20) rfl rfl rfl ?_
        refine x_c (pc' := 21) rfl rfl ?_
        refine x_iceq (pc' := 22) (t' := 28) rfl rfl rfl (fun q8 => ?_) (fun q8 => ?_)
        · replace h := ite_t q8 h
          refine x_c (pc' := 29) rfl rfl ?_
          refine x_goto (t' := 31) rfl rfl ?_
          refine x_is (pc' := 32) (ls' := [(2, 49), (0, p1), (0, p2), (0, 1)]) rfl rfl rfl rfl ?_
          refine x_il (pc' := 33) rfl rfl rfl ?_
          refine x_ifeq (pc' := 34) (t' := 36) rfl rfl rfl (fun q => absurd q (by decide)) (fun _ => ?_)
          refine x_c (pc' := 35) rfl rfl ?_
          refine x_goto (t' := 37) rfl rfl ?_
          exact x_iret rfl h
        · replace h := ite_f q8 h
          refine x_al (pc' := 23) rfl rfl (by decide) rfl ?_
          refine x_gr (pc' := 24) (v := 52) rfl rfl rfl (by decide) rfl ?_
          refine x_il (pc' := 25) rfl rfl rfl ?_
          obtain ⟨q9, h⟩ := h
          refine x_ia (pc' := 26) 6 (v := M 52 p1) rfl rfl rfl q9.1 q9.2 rfl ?_
          refine x_il (pc' := 27) rfl rfl rfl ?_
          refine x_icne (pc' := 28) (t' := 30) rfl rfl rfl (fun q10 => ?_) (fun q10 => ?_)
          · replace h := ite_t q10 h
            refine x_c (pc' := 31) rfl rfl ?_
            refine x_is (pc' := 32) (ls' := [(2, 49), (0, p1), (0, p2), (0, 0)]) rfl rfl rfl rfl ?_
            refine x_il (pc' := 33) rfl rfl rfl ?_
            refine x_ifeq (pc' := 34) (t' := 36) rfl rfl rfl (fun _ => ?_) (fun q => absurd (by decide) q)
            refine x_c (pc' := 37) rfl rfl ?_
            exact x_iret rfl h
          · replace h := ite_f q10 h
            refine x_c (pc' := 29) rfl rfl ?_
            refine x_goto (t' := 31) rfl rfl ?_
            refine x_is (pc' := 32) (ls' := [(2, 49), (0, p1), (0, p2), (0, 1)]) rfl rfl rfl rfl ?_
            refine x_il (pc' := 33) rfl rfl rfl ?_
            refine x_ifeq (pc' := 34) (t' := 36) rfl rfl rfl (fun q => absurd q (by decide)) (fun _ => ?_)
            refine x_c (pc' := 35) rfl rfl ?_
            refine x_goto (t' := 37) rfl rfl ?_
            exact x_iret rfl h
    · replace h := ite_f q5 h
      refine x_c (pc' := 12) rfl rfl ?_
      exact x_iret rfl h
  · replace h := ite_f q3 h
    refine x_c (pc' := 5) rfl rfl ?_
    exact x_iret rfl h
theorem sg_S_keepBody {d : Nat} {p1 p2 : Int} {M : Mem} {r : Res} (h : ∃ v2, Cl d m_S_has [(2, 49), (0, p1)] M (some (0, v2), M) ∧ (if v2 = 0 then r = (none, M) else (if 0 ≤ p2 then (0 ≤ p1 ∧ p1 < 6) ∧ (0 ≤ p1 ∧ p1 < 6) ∧ r = (none, up (up M 50 p1 1) 51 p1 p2) else (0 ≤ p1 ∧ p1 < 6) ∧ (0 ≤ p1 ∧ p1 < 6) ∧ r = (none, up (up M 50 p1 0) 51 p1 p2)))) : Cl (d + 1) m_S_keepBody [(2, 49), (0, p1), (0, p2)] M r := by
  refine cl_of (c := k_S_keepBody) (mL := 3) (rz := 0) (rc := 6) (ls := [(2, 49), (0, p1), (0, p2)]) rfl rfl rfl ?_
  refine x_al (pc' := 1) rfl rfl (by decide) rfl ?_
  refine x_il (pc' := 2) rfl rfl rfl ?_
  obtain ⟨v2, q1, h⟩ := h
  refine x_call (pc' := 3) (as := [(2, 49), (0, p1)]) (rest := []) rfl rfl rfl rfl rfl rfl q1 ?_
  refine x_ifeq (pc' := 4) (t' := 18) rfl rfl rfl (fun q3 => ?_) (fun q3 => ?_)
  · replace h := ite_t q3 h
    exact x_ret rfl h
  · replace h := ite_f q3 h
    refine x_al (pc' := 5) rfl rfl (by decide) rfl ?_
    refine x_gr (pc' := 6) (v := 50) rfl rfl rfl (by decide) rfl ?_
    refine x_il (pc' := 7) rfl rfl rfl ?_
    refine x_il (pc' := 8) rfl rfl rfl ?_
    refine x_ifge (pc' := 9) (t' := 11) rfl rfl rfl (fun q4 => ?_) (fun q4 => ?_)
    · replace h := ite_t q4 h
      refine x_c (pc' := 12) rfl rfl ?_
      obtain ⟨q5, h⟩ := h
      refine x_ist (pc' := 13) 6 (M2 := up M 50 p1 1) rfl rfl rfl q5.1 q5.2 rfl ?_
      refine x_al (pc' := 14) rfl rfl (by decide) rfl ?_
      refine x_gr (pc' := 15) (v := 51) rfl rfl rfl (by decide) rfl ?_
      refine x_il (pc' := 16) rfl rfl rfl ?_
      refine x_il (pc' := 17) rfl rfl rfl ?_
      obtain ⟨q6, h⟩ := h
      refine x_ist (pc' := 18) 6 (M2 := up (up M 50 p1 1) 51 p1 p2) rfl rfl rfl q6.1 q6.2 rfl ?_
      exact x_ret rfl h
    · replace h := ite_f q4 h
      refine x_c (pc' := 10) rfl rfl ?_
      refine x_goto (t' := 12) rfl rfl ?_
      obtain ⟨q7, h⟩ := h
      refine x_ist (pc' := 13) 6 (M2 := up M 50 p1 0) rfl rfl rfl q7.1 q7.2 rfl ?_
      refine x_al (pc' := 14) rfl rfl (by decide) rfl ?_
      refine x_gr (pc' := 15) (v := 51) rfl rfl rfl (by decide) rfl ?_
      refine x_il (pc' := 16) rfl rfl rfl ?_
      refine x_il (pc' := 17) rfl rfl rfl ?_
      obtain ⟨q8, h⟩ := h
      refine x_ist (pc' := 18) 6 (M2 := up (up M 50 p1 0) 51 p1 p2) rfl rfl rfl q8.1 q8.2 rfl ?_
      exact x_ret rfl h
theorem sg_S_bodyOn {d : Nat} {p1 : Int} {M : Mem} {r : Res} (h : ∃ v2, Cl d m_S_has [(2, 49), (0, p1)] M (some (0, v2), M) ∧ (if v2 = 0 then r = (some (0, (-1)), M) else (0 ≤ p1 ∧ p1 < 6) ∧ (if ¬ M 50 p1 = 1 then r = (some (0, (-1)), M) else (0 ≤ p1 ∧ p1 < 6) ∧ r = (some (0, M 51 p1), M)))) : Cl (d + 1) m_S_bodyOn [(2, 49), (0, p1)] M r := by
  refine cl_of (c := k_S_bodyOn) (mL := 2) (rz := 1) (rc := 6) (ls := [(2, 49), (0, p1)]) rfl rfl rfl ?_
  refine x_al (pc' := 1) rfl rfl (by decide) rfl ?_
  refine x_il (pc' := 2) rfl rfl rfl ?_
  obtain ⟨v2, q1, h⟩ := h
  refine x_call (pc' := 3) (as := [(2, 49), (0, p1)]) (rest := []) rfl rfl rfl rfl rfl rfl q1 ?_
  refine x_ifeq (pc' := 4) (t' := 15) rfl rfl rfl (fun q3 => ?_) (fun q3 => ?_)
  · replace h := ite_t q3 h
    refine x_c (pc' := 16) rfl rfl ?_
    exact x_iret rfl h
  · replace h := ite_f q3 h
    refine x_al (pc' := 5) rfl rfl (by decide) rfl ?_
    refine x_gr (pc' := 6) (v := 50) rfl rfl rfl (by decide) rfl ?_
    refine x_il (pc' := 7) rfl rfl rfl ?_
    obtain ⟨q4, h⟩ := h
    refine x_ia (pc' := 8) 6 (v := M 50 p1) rfl rfl rfl q4.1 q4.2 rfl ?_
    refine x_c (pc' := 9) rfl rfl ?_
    refine x_icne (pc' := 10) (t' := 15) rfl rfl rfl (fun q5 => ?_) (fun q5 => ?_)
    · replace h := ite_t q5 h
      refine x_c (pc' := 16) rfl rfl ?_
      exact x_iret rfl h
    · replace h := ite_f q5 h
      refine x_al (pc' := 11) rfl rfl (by decide) rfl ?_
      refine x_gr (pc' := 12) (v := 51) rfl rfl rfl (by decide) rfl ?_
      refine x_il (pc' := 13) rfl rfl rfl ?_
      obtain ⟨q6, h⟩ := h
      refine x_ia (pc' := 14) 6 (v := M 51 p1) rfl rfl rfl q6.1 q6.2 rfl ?_
      refine x_goto (t' := 16) rfl rfl ?_
      exact x_iret rfl h
def at_S_keepRow_22 (d : Nat) (l1 : Int) (w2 : AV) (w3 : AV) (l4 : Int) (M : Mem) (r : Res) : Prop := Ex sx0 d k_S_keepRow 0 22 [(2, 49), (0, l1), w2, w3, (0, l4)] [] M r
theorem sg_S_keepRow {d : Nat} {p1 p2 p3 : Int} {M : Mem} {r : Res} (h : ∃ v2, Cl d m_S_has [(2, 49), (0, p1)] M (some (0, v2), M) ∧ (if ¬ v2 = 0 then (0 ≤ p1 ∧ p1 < 6) ∧ (0 ≤ p1 ∧ p1 < 6) ∧ (0 ≤ p1 ∧ p1 < 6) ∧ at_S_keepRow_22 d p1 (0, p2) (0, p3) 0 (up (up (up M 50 p1 2) 52 p1 p2) 53 p1 p3) r else r = (none, M))) : Cl (d + 1) m_S_keepRow [(2, 49), (0, p1), (0, p2), (0, p3)] M r := by
  refine cl_of (c := k_S_keepRow) (mL := 5) (rz := 0) (rc := 6) (ls := [(2, 49), (0, p1), (0, p2), (0, p3), (3, 0)]) rfl rfl rfl ?_
  refine x_al (pc' := 1) rfl rfl (by decide) rfl ?_
  refine x_il (pc' := 2) rfl rfl rfl ?_
  obtain ⟨v2, q1, h⟩ := h
  refine x_call (pc' := 3) (as := [(2, 49), (0, p1)]) (rest := []) rfl rfl rfl rfl rfl rfl q1 ?_
  refine x_ifne (pc' := 4) (t' := 5) rfl rfl rfl (fun q3 => ?_) (fun q3 => ?_)
  · replace h := ite_t q3 h
    refine x_al (pc' := 6) rfl rfl (by decide) rfl ?_
    refine x_gr (pc' := 7) (v := 50) rfl rfl rfl (by decide) rfl ?_
    refine x_il (pc' := 8) rfl rfl rfl ?_
    refine x_c (pc' := 9) rfl rfl ?_
    obtain ⟨q4, h⟩ := h
    refine x_ist (pc' := 10) 6 (M2 := up M 50 p1 2) rfl rfl rfl q4.1 q4.2 rfl ?_
    refine x_al (pc' := 11) rfl rfl (by decide) rfl ?_
    refine x_gr (pc' := 12) (v := 52) rfl rfl rfl (by decide) rfl ?_
    refine x_il (pc' := 13) rfl rfl rfl ?_
    refine x_il (pc' := 14) rfl rfl rfl ?_
    obtain ⟨q5, h⟩ := h
    refine x_ist (pc' := 15) 6 (M2 := up (up M 50 p1 2) 52 p1 p2) rfl rfl rfl q5.1 q5.2 rfl ?_
    refine x_al (pc' := 16) rfl rfl (by decide) rfl ?_
    refine x_gr (pc' := 17) (v := 53) rfl rfl rfl (by decide) rfl ?_
    refine x_il (pc' := 18) rfl rfl rfl ?_
    refine x_il (pc' := 19) rfl rfl rfl ?_
    obtain ⟨q6, h⟩ := h
    refine x_ist (pc' := 20) 6 (M2 := up (up (up M 50 p1 2) 52 p1 p2) 53 p1 p3) rfl rfl rfl q6.1 q6.2 rfl ?_
    refine x_c (pc' := 21) rfl rfl ?_
    refine x_is (pc' := 22) (ls' := [(2, 49), (0, p1), (0, p2), (0, p3), (0, 0)]) rfl rfl rfl rfl ?_
    exact h
  · replace h := ite_f q3 h
    exact x_ret rfl h
theorem sg_S_keepRow_22 {d : Nat} {l1 : Int} {w2 : AV} {w3 : AV} {l4 : Int} {M : Mem} {r : Res} (hw3 : ¬ w3.1 = 1) (h : (if 60 ≤ l4 then r = (none, M) else (0 ≤ l1 ∧ l1 < 6) ∧ (0 ≤ l4 ∧ l4 < 60) ∧ at_S_keepRow_22 d l1 w2 w3 (w32 (l4 + 1)) (up M ((55 + l1).toNat) l4 0) r)) : at_S_keepRow_22 d l1 w2 w3 l4 M r := by
  unfold at_S_keepRow_22
  refine x_il (pc' := 23) rfl rfl rfl ?_
  refine x_c (pc' := 24) rfl rfl ?_
  refine x_icge (pc' := 25) (t' := 34) rfl rfl rfl (fun q1 => ?_) (fun q1 => ?_)
  · replace h := ite_t q1 h
    exact x_ret rfl h
  · replace h := ite_f q1 h
    refine x_al (pc' := 26) rfl rfl (by decide) rfl ?_
    refine x_gr (pc' := 27) (v := 54) rfl rfl rfl (by decide) rfl ?_
    refine x_il (pc' := 28) rfl rfl rfl ?_
    obtain ⟨q2, h⟩ := h
    refine x_aa (pc' := 29) (v := (55 + l1)) 3 6 rfl rfl (Or.inr rfl) q2.1 q2.2 (show rfc 54 l1 = (55 + l1) from if_pos ⟨q2.1, q2.2⟩) (by have := q2.1; omega) rfl ?_
    refine x_il (pc' := 30) rfl rfl rfl ?_
    refine x_lc (pc' := 31) rfl rfl ?_
    obtain ⟨q3, h⟩ := h
    refine x_lst (pc' := 32) 60 (M2 := up M ((55 + l1).toNat) l4 0) rfl rfl (arK_2l q2.1 q2.2) q3.1 q3.2 rfl ?_
    refine x_inc (pc' := 33) (ls' := [(2, 49), (0, l1), w2, w3, (0, w32 (l4 + 1))]) rfl rfl (setL_nw (i := 3) rfl hw3) rfl ?_
    refine x_goto (t' := 22) rfl rfl ?_
    exact h
theorem sg_S_sortOf {d : Nat} {p1 : Int} {M : Mem} {r : Res} (h : ∃ v2, Cl d m_S_has [(2, 49), (0, p1)] M (some (0, v2), M) ∧ (if v2 = 0 then r = (some (0, (-1)), M) else (0 ≤ p1 ∧ p1 < 6) ∧ r = (some (0, M 52 p1), M))) : Cl (d + 1) m_S_sortOf [(2, 49), (0, p1)] M r := by
  refine cl_of (c := k_S_sortOf) (mL := 2) (rz := 1) (rc := 6) (ls := [(2, 49), (0, p1)]) rfl rfl rfl ?_
  refine x_al (pc' := 1) rfl rfl (by decide) rfl ?_
  refine x_il (pc' := 2) rfl rfl rfl ?_
  obtain ⟨v2, q1, h⟩ := h
  refine x_call (pc' := 3) (as := [(2, 49), (0, p1)]) (rest := []) rfl rfl rfl rfl rfl rfl q1 ?_
  refine x_ifeq (pc' := 4) (t' := 9) rfl rfl rfl (fun q3 => ?_) (fun q3 => ?_)
  · replace h := ite_t q3 h
    refine x_c (pc' := 10) rfl rfl ?_
    exact x_iret rfl h
  · replace h := ite_f q3 h
    refine x_al (pc' := 5) rfl rfl (by decide) rfl ?_
    refine x_gr (pc' := 6) (v := 52) rfl rfl rfl (by decide) rfl ?_
    refine x_il (pc' := 7) rfl rfl rfl ?_
    obtain ⟨q4, h⟩ := h
    refine x_ia (pc' := 8) 6 (v := M 52 p1) rfl rfl rfl q4.1 q4.2 rfl ?_
    refine x_goto (t' := 10) rfl rfl ?_
    exact x_iret rfl h
theorem sg_S_lengthOf {d : Nat} {p1 : Int} {M : Mem} {r : Res} (h : ∃ v2, Cl d m_S_has [(2, 49), (0, p1)] M (some (0, v2), M) ∧ (if v2 = 0 then r = (some (0, 0), M) else (0 ≤ p1 ∧ p1 < 6) ∧ (if ¬ M 50 p1 = 2 then r = (some (0, 0), M) else (0 ≤ p1 ∧ p1 < 6) ∧ r = (some (0, M 53 p1), M)))) : Cl (d + 1) m_S_lengthOf [(2, 49), (0, p1)] M r := by
  refine cl_of (c := k_S_lengthOf) (mL := 2) (rz := 1) (rc := 6) (ls := [(2, 49), (0, p1)]) rfl rfl rfl ?_
  refine x_al (pc' := 1) rfl rfl (by decide) rfl ?_
  refine x_il (pc' := 2) rfl rfl rfl ?_
  obtain ⟨v2, q1, h⟩ := h
  refine x_call (pc' := 3) (as := [(2, 49), (0, p1)]) (rest := []) rfl rfl rfl rfl rfl rfl q1 ?_
  refine x_ifeq (pc' := 4) (t' := 15) rfl rfl rfl (fun q3 => ?_) (fun q3 => ?_)
  · replace h := ite_t q3 h
    refine x_c (pc' := 16) rfl rfl ?_
    exact x_iret rfl h
  · replace h := ite_f q3 h
    refine x_al (pc' := 5) rfl rfl (by decide) rfl ?_
    refine x_gr (pc' := 6) (v := 50) rfl rfl rfl (by decide) rfl ?_
    refine x_il (pc' := 7) rfl rfl rfl ?_
    obtain ⟨q4, h⟩ := h
    refine x_ia (pc' := 8) 6 (v := M 50 p1) rfl rfl rfl q4.1 q4.2 rfl ?_
    refine x_c (pc' := 9) rfl rfl ?_
    refine x_icne (pc' := 10) (t' := 15) rfl rfl rfl (fun q5 => ?_) (fun q5 => ?_)
    · replace h := ite_t q5 h
      refine x_c (pc' := 16) rfl rfl ?_
      exact x_iret rfl h
    · replace h := ite_f q5 h
      refine x_al (pc' := 11) rfl rfl (by decide) rfl ?_
      refine x_gr (pc' := 12) (v := 53) rfl rfl rfl (by decide) rfl ?_
      refine x_il (pc' := 13) rfl rfl rfl ?_
      obtain ⟨q6, h⟩ := h
      refine x_ia (pc' := 14) 6 (v := M 53 p1) rfl rfl rfl q6.1 q6.2 rfl ?_
      refine x_goto (t' := 16) rfl rfl ?_
      exact x_iret rfl h
theorem sg_S_valueAt {d : Nat} {p1 p2 : Int} {M : Mem} {r : Res} (h : (if p2 < 0 then r = (some (1, 0), M) else ∃ v3, Cl d m_S_lengthOf [(2, 49), (0, p1)] M (some (0, v3), M) ∧ (if v3 ≤ p2 then r = (some (1, 0), M) else (0 ≤ p1 ∧ p1 < 6) ∧ (0 ≤ p2 ∧ p2 < 60) ∧ r = (some (1, M ((55 + p1).toNat) p2), M)))) : Cl (d + 1) m_S_valueAt [(2, 49), (0, p1), (0, p2)] M r := by
  refine cl_of (c := k_S_valueAt) (mL := 3) (rz := 2) (rc := 6) (ls := [(2, 49), (0, p1), (0, p2)]) rfl rfl rfl ?_
  refine x_il (pc' := 1) rfl rfl rfl ?_
  refine x_iflt (pc' := 2) (t' := 14) rfl rfl rfl (fun q1 => ?_) (fun q1 => ?_)
  · replace h := ite_t q1 h
    refine x_lc (pc' := 15) rfl rfl ?_
    exact x_lret rfl h
  · replace h := ite_f q1 h
    refine x_il (pc' := 3) rfl rfl rfl ?_
    refine x_al (pc' := 4) rfl rfl (by decide) rfl ?_
    refine x_il (pc' := 5) rfl rfl rfl ?_
    obtain ⟨v3, q2, h⟩ := h
    refine x_call (pc' := 6) (as := [(2, 49), (0, p1)]) (rest := [(0, p2)]) rfl rfl rfl rfl rfl rfl q2 ?_
    refine x_icge (pc' := 7) (t' := 14) rfl rfl rfl (fun q4 => ?_) (fun q4 => ?_)
    · replace h := ite_t q4 h
      refine x_lc (pc' := 15) rfl rfl ?_
      exact x_lret rfl h
    · replace h := ite_f q4 h
      refine x_al (pc' := 8) rfl rfl (by decide) rfl ?_
      refine x_gr (pc' := 9) (v := 54) rfl rfl rfl (by decide) rfl ?_
      refine x_il (pc' := 10) rfl rfl rfl ?_
      obtain ⟨q5, h⟩ := h
      refine x_aa (pc' := 11) (v := (55 + p1)) 3 6 rfl rfl (Or.inr rfl) q5.1 q5.2 (show rfc 54 p1 = (55 + p1) from if_pos ⟨q5.1, q5.2⟩) (by have := q5.1; omega) rfl ?_
      refine x_il (pc' := 12) rfl rfl rfl ?_
      obtain ⟨q6, h⟩ := h
      refine x_la (pc' := 13) 60 (v := M ((55 + p1).toNat) p2) rfl rfl (arK_2l q5.1 q5.2) q6.1 q6.2 rfl ?_
      refine x_goto (t' := 15) rfl rfl ?_
      exact x_lret rfl h
theorem sg_S_putLowest {d : Nat} {p1 p2 p3 : Int} {M : Mem} {r : Res} (h : (if p2 < 0 then r = (none, M) else ∃ v3, Cl d m_S_lengthOf [(2, 49), (0, p1)] M (some (0, v3), M) ∧ (if v3 ≤ p2 then r = (none, M) else (0 ≤ p1 ∧ p1 < 6) ∧ (0 ≤ p1 ∧ p1 < 6) ∧ ∃ v8, Cl d m_S_lowestBits [(0, M 52 p1), (1, p3)] M (some (1, v8), M) ∧ (0 ≤ p2 ∧ p2 < 60) ∧ r = (none, up M ((55 + p1).toNat) p2 v8)))) : Cl (d + 1) m_S_putLowest [(2, 49), (0, p1), (0, p2), (1, p3)] M r := by
  refine cl_of (c := k_S_putLowest) (mL := 5) (rz := 0) (rc := 6) (ls := [(2, 49), (0, p1), (0, p2), (1, p3), (3, 0)]) rfl rfl rfl ?_
  refine x_il (pc' := 1) rfl rfl rfl ?_
  refine x_iflt (pc' := 2) (t' := 19) rfl rfl rfl (fun q1 => ?_) (fun q1 => ?_)
  · replace h := ite_t q1 h
    exact x_ret rfl h
  · replace h := ite_f q1 h
    refine x_il (pc' := 3) rfl rfl rfl ?_
    refine x_al (pc' := 4) rfl rfl (by decide) rfl ?_
    refine x_il (pc' := 5) rfl rfl rfl ?_
    obtain ⟨v3, q2, h⟩ := h
    refine x_call (pc' := 6) (as := [(2, 49), (0, p1)]) (rest := [(0, p2)]) rfl rfl rfl rfl rfl rfl q2 ?_
    refine x_icge (pc' := 7) (t' := 19) rfl rfl rfl (fun q4 => ?_) (fun q4 => ?_)
    · replace h := ite_t q4 h
      exact x_ret rfl h
    · replace h := ite_f q4 h
      refine x_al (pc' := 8) rfl rfl (by decide) rfl ?_
      refine x_gr (pc' := 9) (v := 54) rfl rfl rfl (by decide) rfl ?_
      refine x_il (pc' := 10) rfl rfl rfl ?_
      obtain ⟨q5, h⟩ := h
      refine x_aa (pc' := 11) (v := (55 + p1)) 3 6 rfl rfl (Or.inr rfl) q5.1 q5.2 (show rfc 54 p1 = (55 + p1) from if_pos ⟨q5.1, q5.2⟩) (by have := q5.1; omega) rfl ?_
      refine x_il (pc' := 12) rfl rfl rfl ?_
      refine x_al (pc' := 13) rfl rfl (by decide) rfl ?_
      refine x_gr (pc' := 14) (v := 52) rfl rfl rfl (by decide) rfl ?_
      refine x_il (pc' := 15) rfl rfl rfl ?_
      obtain ⟨q6, h⟩ := h
      refine x_ia (pc' := 16) 6 (v := M 52 p1) rfl rfl rfl q6.1 q6.2 rfl ?_
      refine x_ll (pc' := 17) rfl rfl rfl ?_
      obtain ⟨v8, q7, h⟩ := h
      refine x_call (pc' := 18) (as := [(0, M 52 p1), (1, p3)]) (rest := [(0, p2), (2, (55 + p1))]) rfl rfl rfl rfl rfl rfl q7 ?_
      obtain ⟨q9, h⟩ := h
      refine x_lst (pc' := 19) 60 (M2 := up M ((55 + p1).toNat) p2 v8) rfl rfl (arK_2l q5.1 q5.2) q9.1 q9.2 rfl ?_
      exact x_ret rfl h
theorem sg_S_lowestBits {d : Nat} {p1 p2 : Int} {M : Mem} {r : Res} (h : (if p1 = 0 then r = (some (1, Int.bmod (w32 p2) 256), M) else (if p1 = 1 then r = (some (1, Int.bmod (w32 p2) 65536), M) else (if p1 = 2 then r = (some (1, w32 p2), M) else (if p1 = 3 then r = (some (1, p2), M) else (if lcmpI p2 0 = 0 then ∃ v7, Cl d m_X_truth [(0, 0)] M (some (0, v7), M) ∧ r = (some (1, v7), M) else ∃ v9, Cl d m_X_truth [(0, 1)] M (some (0, v9), M) ∧ r = (some (1, v9), M))))))) : Cl (d + 1) m_S_lowestBits [(0, p1), (1, p2)] M r := by
  refine cl_of (c := k_S_lowestBits) (mL := 3) (rz := 2) (rc := 99) (ls := [(0, p1), (1, p2), (3, 0)]) rfl rfl rfl ?_
  refine x_il (pc' := 1) rfl rfl rfl ?_
  by_cases q1 : p1 = 0
  · replace h := ite_t q1 h
    refine x_tswv (t' := 2) 0 rfl q1 rfl rfl ?_
    refine x_ll (pc' := 3) rfl rfl rfl ?_
    refine x_l2i (pc' := 4) rfl rfl ?_
    refine x_i2b (pc' := 5) rfl rfl ?_
    refine x_i2l (pc' := 6) rfl rfl ?_
    exact x_lret rfl h
  replace h := ite_f q1 h
  by_cases q2 : p1 = 1
  · replace h := ite_t q2 h
    refine x_tswv (t' := 7) 1 rfl q2 rfl rfl ?_
    refine x_ll (pc' := 8) rfl rfl rfl ?_
    refine x_l2i (pc' := 9) rfl rfl ?_
    refine x_i2s (pc' := 10) rfl rfl ?_
    refine x_i2l (pc' := 11) rfl rfl ?_
    exact x_lret rfl h
  replace h := ite_f q2 h
  by_cases q3 : p1 = 2
  · replace h := ite_t q3 h
    refine x_tswv (t' := 12) 2 rfl q3 rfl rfl ?_
    refine x_ll (pc' := 13) rfl rfl rfl ?_
    refine x_l2i (pc' := 14) rfl rfl ?_
    refine x_i2l (pc' := 15) rfl rfl ?_
    exact x_lret rfl h
  replace h := ite_f q3 h
  by_cases q4 : p1 = 3
  · replace h := ite_t q4 h
    refine x_tswv (t' := 16) 3 rfl q4 rfl rfl ?_
    refine x_ll (pc' := 17) rfl rfl rfl ?_
    exact x_lret rfl h
  replace h := ite_f q4 h
  refine x_tswd (t' := 18) rfl (show p1 < 0 ∨ 0 + ((4 : Nat) : Int) ≤ p1 by omega) rfl ?_
  refine x_ll (pc' := 19) rfl rfl rfl ?_
  refine x_lc (pc' := 20) rfl rfl ?_
  refine x_lcmp (pc' := 21) rfl rfl ?_
  refine x_ifeq (pc' := 22) (t' := 24) rfl rfl rfl (fun q5 => ?_) (fun q5 => ?_)
  · replace h := ite_t q5 h
    refine x_c (pc' := 25) rfl rfl ?_
    obtain ⟨v7, q6, h⟩ := h
    refine x_call (pc' := 26) (as := [(0, 0)]) (rest := []) rfl rfl rfl rfl rfl rfl q6 ?_
    refine x_i2l (pc' := 27) rfl rfl ?_
    exact x_lret rfl h
  · replace h := ite_f q5 h
    refine x_c (pc' := 23) rfl rfl ?_
    refine x_goto (t' := 25) rfl rfl ?_
    obtain ⟨v9, q8, h⟩ := h
    refine x_call (pc' := 26) (as := [(0, 1)]) (rest := []) rfl rfl rfl rfl rfl rfl q8 ?_
    refine x_i2l (pc' := 27) rfl rfl ?_
    exact x_lret rfl h
theorem sg_S_isStretch {d : Nat} {p1 p2 p3 : Int} {M : Mem} {r : Res} (h : (if p2 < 0 then r = (some (0, 0), M) else (if p3 < 0 then r = (some (0, 0), M) else ∃ v4, Cl d m_S_lengthOf [(2, 49), (0, p1)] M (some (0, v4), M) ∧ (if w32 (v4 - p3) < p2 then r = (some (0, 0), M) else r = (some (0, 1), M))))) : Cl (d + 1) m_S_isStretch [(2, 49), (0, p1), (0, p2), (0, p3)] M r := by
  refine cl_of (c := k_S_isStretch) (mL := 4) (rz := 3) (rc := 6) (ls := [(2, 49), (0, p1), (0, p2), (0, p3)]) rfl rfl rfl ?_
  refine x_il (pc' := 1) rfl rfl rfl ?_
  refine x_iflt (pc' := 2) (t' := 13) rfl rfl rfl (fun q1 => ?_) (fun q1 => ?_)
  · replace h := ite_t q1 h
    refine x_c (pc' := 14) rfl rfl ?_
    exact x_zret rfl (by decide) h
  · replace h := ite_f q1 h
    refine x_il (pc' := 3) rfl rfl rfl ?_
    refine x_iflt (pc' := 4) (t' := 13) rfl rfl rfl (fun q2 => ?_) (fun q2 => ?_)
    · replace h := ite_t q2 h
      refine x_c (pc' := 14) rfl rfl ?_
      exact x_zret rfl (by decide) h
    · replace h := ite_f q2 h
      refine x_il (pc' := 5) rfl rfl rfl ?_
      refine x_al (pc' := 6) rfl rfl (by decide) rfl ?_
      refine x_il (pc' := 7) rfl rfl rfl ?_
      obtain ⟨v4, q3, h⟩ := h
      refine x_call (pc' := 8) (as := [(2, 49), (0, p1)]) (rest := [(0, p2)]) rfl rfl rfl rfl rfl rfl q3 ?_
      refine x_il (pc' := 9) rfl rfl rfl ?_
      refine x_ib (pc' := 10) (v := w32 (v4 - p3)) rfl rfl rfl ?_
      refine x_icgt (pc' := 11) (t' := 13) rfl rfl rfl (fun q5 => ?_) (fun q5 => ?_)
      · replace h := ite_t q5 h
        refine x_c (pc' := 14) rfl rfl ?_
        exact x_zret rfl (by decide) h
      · replace h := ite_f q5 h
        refine x_c (pc' := 12) rfl rfl ?_
        refine x_goto (t' := 14) rfl rfl ?_
        exact x_zret rfl (by decide) h
theorem sg_M_within {d : Nat} {p1 p2 p3 : Int} {M : Mem} {r : Res} (h : (if p1 < p2 then r = (some (0, 0), M) else (if p3 < p1 then r = (some (0, 0), M) else r = (some (0, 1), M)))) : Cl (d + 1) m_M_within [(0, p1), (0, p2), (0, p3)] M r := by
  refine cl_of (c := k_M_within) (mL := 3) (rz := 3) (rc := 99) (ls := [(0, p1), (0, p2), (0, p3)]) rfl rfl rfl ?_
  refine x_il (pc' := 1) rfl rfl rfl ?_
  refine x_il (pc' := 2) rfl rfl rfl ?_
  refine x_iclt (pc' := 3) (t' := 8) rfl rfl rfl (fun q1 => ?_) (fun q1 => ?_)
  · replace h := ite_t q1 h
    refine x_c (pc' := 9) rfl rfl ?_
    exact x_zret rfl (by decide) h
  · replace h := ite_f q1 h
    refine x_il (pc' := 4) rfl rfl rfl ?_
    refine x_il (pc' := 5) rfl rfl rfl ?_
    refine x_icgt (pc' := 6) (t' := 8) rfl rfl rfl (fun q2 => ?_) (fun q2 => ?_)
    · replace h := ite_t q2 h
      refine x_c (pc' := 9) rfl rfl ?_
      exact x_zret rfl (by decide) h
    · replace h := ite_f q2 h
      refine x_c (pc' := 7) rfl rfl ?_
      refine x_goto (t' := 9) rfl rfl ?_
      exact x_zret rfl (by decide) h
theorem sg_M_isCard {d : Nat} {p1 : Int} {M : Mem} {r : Res} (h : ∃ v2, Cl d m_M_within [(0, p1), (0, 0), (0, w32 ((M 64 0) - 1))] M (some (0, v2), M) ∧ (v2 = 0 ∨ v2 = 1) ∧ r = (some (0, v2), M)) : Cl (d + 1) m_M_isCard [(2, 64), (0, p1)] M r := by
  refine cl_of (c := k_M_isCard) (mL := 2) (rz := 3) (rc := 7) (ls := [(2, 64), (0, p1)]) rfl rfl rfl ?_
  refine x_il (pc' := 1) rfl rfl rfl ?_
  refine x_c (pc' := 2) rfl rfl ?_
  refine x_al (pc' := 3) rfl rfl (by decide) rfl ?_
  refine x_gf (pc' := 4) (v := M 64 0) rfl rfl rfl rfl rfl ?_
  refine x_c (pc' := 5) rfl rfl ?_
  refine x_ib (pc' := 6) (v := w32 ((M 64 0) - 1)) rfl rfl rfl ?_
  obtain ⟨v2, q1, h⟩ := h
  refine x_call (pc' := 7) (as := [(0, p1), (0, 0), (0, w32 ((M 64 0) - 1))]) (rest := []) rfl rfl rfl rfl rfl rfl q1 ?_
  obtain ⟨q3, h⟩ := h
  exact x_zret rfl q3 h
theorem sg_M_isDrawer {d : Nat} {p1 : Int} {M : Mem} {r : Res} (h : ∃ v2, Cl d m_M_within [(0, p1), (0, 0), (0, 1023)] M (some (0, v2), M) ∧ (v2 = 0 ∨ v2 = 1) ∧ r = (some (0, v2), M)) : Cl (d + 1) m_M_isDrawer [(0, p1)] M r := by
  refine cl_of (c := k_M_isDrawer) (mL := 1) (rz := 3) (rc := 99) (ls := [(0, p1)]) rfl rfl rfl ?_
  refine x_il (pc' := 1) rfl rfl rfl ?_
  refine x_c (pc' := 2) rfl rfl ?_
  refine x_c (pc' := 3) rfl rfl ?_
  obtain ⟨v2, q1, h⟩ := h
  refine x_call (pc' := 4) (as := [(0, p1), (0, 0), (0, 1023)]) (rest := []) rfl rfl rfl rfl rfl rfl q1 ?_
  obtain ⟨q3, h⟩ := h
  exact x_zret rfl q3 h
theorem sg_M_isFinger {d : Nat} {p1 : Int} {M : Mem} {r : Res} (h : (if p1 < 0 then r = (some (0, 0), M) else ∃ v3, Cl d m_M_isCard [(2, 64), (0, w32 (Int.tdiv p1 100))] M (some (0, v3), M) ∧ (if v3 = 0 then r = (some (0, 0), M) else (if 10 ≤ w32 (Int.tmod p1 100) then r = (some (0, 0), M) else r = (some (0, 1), M))))) : Cl (d + 1) m_M_isFinger [(2, 64), (0, p1)] M r := by
  refine cl_of (c := k_M_isFinger) (mL := 2) (rz := 3) (rc := 7) (ls := [(2, 64), (0, p1)]) rfl rfl rfl ?_
  refine x_il (pc' := 1) rfl rfl rfl ?_
  refine x_iflt (pc' := 2) (t' := 15) rfl rfl rfl (fun q1 => ?_) (fun q1 => ?_)
  · replace h := ite_t q1 h
    refine x_c (pc' := 16) rfl rfl ?_
    exact x_zret rfl (by decide) h
  · replace h := ite_f q1 h
    refine x_al (pc' := 3) rfl rfl (by decide) rfl ?_
    refine x_il (pc' := 4) rfl rfl rfl ?_
    refine x_c (pc' := 5) rfl rfl ?_
    refine x_ib (pc' := 6) (v := w32 (Int.tdiv p1 100)) rfl rfl rfl ?_
    obtain ⟨v3, q2, h⟩ := h
    refine x_call (pc' := 7) (as := [(2, 64), (0, w32 (Int.tdiv p1 100))]) (rest := []) rfl rfl rfl rfl rfl rfl q2 ?_
    refine x_ifeq (pc' := 8) (t' := 15) rfl rfl rfl (fun q4 => ?_) (fun q4 => ?_)
    · replace h := ite_t q4 h
      refine x_c (pc' := 16) rfl rfl ?_
      exact x_zret rfl (by decide) h
    · replace h := ite_f q4 h
      refine x_il (pc' := 9) rfl rfl rfl ?_
      refine x_c (pc' := 10) rfl rfl ?_
      refine x_ib (pc' := 11) (v := w32 (Int.tmod p1 100)) rfl rfl rfl ?_
      refine x_c (pc' := 12) rfl rfl ?_
      refine x_icge (pc' := 13) (t' := 15) rfl rfl rfl (fun q5 => ?_) (fun q5 => ?_)
      · replace h := ite_t q5 h
        refine x_c (pc' := 16) rfl rfl ?_
        exact x_zret rfl (by decide) h
      · replace h := ite_f q5 h
        refine x_c (pc' := 14) rfl rfl ?_
        refine x_goto (t' := 16) rfl rfl ?_
        exact x_zret rfl (by decide) h
theorem sg_M_areTwo {d : Nat} {p1 : Int} {M : Mem} {r : Res} (h : (if p1 < 0 then r = (some (0, 0), M) else ∃ v3, Cl d m_M_isCard [(2, 64), (0, w32 (Int.tdiv p1 100))] M (some (0, v3), M) ∧ (if v3 = 0 then r = (some (0, 0), M) else ∃ v6, Cl d m_M_isCard [(2, 64), (0, w32 (Int.tmod p1 100))] M (some (0, v6), M) ∧ (if v6 = 0 then r = (some (0, 0), M) else r = (some (0, 1), M))))) : Cl (d + 1) m_M_areTwo [(2, 64), (0, p1)] M r := by
  refine cl_of (c := k_M_areTwo) (mL := 2) (rz := 3) (rc := 7) (ls := [(2, 64), (0, p1)]) rfl rfl rfl ?_
  refine x_il (pc' := 1) rfl rfl rfl ?_
  refine x_iflt (pc' := 2) (t' := 16) rfl rfl rfl (fun q1 => ?_) (fun q1 => ?_)
  · replace h := ite_t q1 h
    refine x_c (pc' := 17) rfl rfl ?_
    exact x_zret rfl (by decide) h
  · replace h := ite_f q1 h
    refine x_al (pc' := 3) rfl rfl (by decide) rfl ?_
    refine x_il (pc' := 4) rfl rfl rfl ?_
    refine x_c (pc' := 5) rfl rfl ?_
    refine x_ib (pc' := 6) (v := w32 (Int.tdiv p1 100)) rfl rfl rfl ?_
    obtain ⟨v3, q2, h⟩ := h
    refine x_call (pc' := 7) (as := [(2, 64), (0, w32 (Int.tdiv p1 100))]) (rest := []) rfl rfl rfl rfl rfl rfl q2 ?_
    refine x_ifeq (pc' := 8) (t' := 16) rfl rfl rfl (fun q4 => ?_) (fun q4 => ?_)
    · replace h := ite_t q4 h
      refine x_c (pc' := 17) rfl rfl ?_
      exact x_zret rfl (by decide) h
    · replace h := ite_f q4 h
      refine x_al (pc' := 9) rfl rfl (by decide) rfl ?_
      refine x_il (pc' := 10) rfl rfl rfl ?_
      refine x_c (pc' := 11) rfl rfl ?_
      refine x_ib (pc' := 12) (v := w32 (Int.tmod p1 100)) rfl rfl rfl ?_
      obtain ⟨v6, q5, h⟩ := h
      refine x_call (pc' := 13) (as := [(2, 64), (0, w32 (Int.tmod p1 100))]) (rest := []) rfl rfl rfl rfl rfl rfl q5 ?_
      refine x_ifeq (pc' := 14) (t' := 16) rfl rfl rfl (fun q7 => ?_) (fun q7 => ?_)
      · replace h := ite_t q7 h
        refine x_c (pc' := 17) rfl rfl ?_
        exact x_zret rfl (by decide) h
      · replace h := ite_f q7 h
        refine x_c (pc' := 15) rfl rfl ?_
        refine x_goto (t' := 17) rfl rfl ?_
        exact x_zret rfl (by decide) h
theorem sg_M_isGlass {d : Nat} {p1 : Int} {M : Mem} {r : Res} (h : (if p1 < 0 then r = (some (0, 0), M) else ∃ v3, Cl d m_M_within [(0, w32 (Int.tdiv p1 100)), (0, 0), (0, 4)] M (some (0, v3), M) ∧ (if v3 = 0 then r = (some (0, 0), M) else (if 31 ≤ w32 (Int.tmod p1 100) then r = (some (0, 0), M) else r = (some (0, 1), M))))) : Cl (d + 1) m_M_isGlass [(0, p1)] M r := by
  refine cl_of (c := k_M_isGlass) (mL := 1) (rz := 3) (rc := 99) (ls := [(0, p1)]) rfl rfl rfl ?_
  refine x_il (pc' := 1) rfl rfl rfl ?_
  refine x_iflt (pc' := 2) (t' := 16) rfl rfl rfl (fun q1 => ?_) (fun q1 => ?_)
  · replace h := ite_t q1 h
    refine x_c (pc' := 17) rfl rfl ?_
    exact x_zret rfl (by decide) h
  · replace h := ite_f q1 h
    refine x_il (pc' := 3) rfl rfl rfl ?_
    refine x_c (pc' := 4) rfl rfl ?_
    refine x_ib (pc' := 5) (v := w32 (Int.tdiv p1 100)) rfl rfl rfl ?_
    refine x_c (pc' := 6) rfl rfl ?_
    refine x_c (pc' := 7) rfl rfl ?_
    obtain ⟨v3, q2, h⟩ := h
    refine x_call (pc' := 8) (as := [(0, w32 (Int.tdiv p1 100)), (0, 0), (0, 4)]) (rest := []) rfl rfl rfl rfl rfl rfl q2 ?_
    refine x_ifeq (pc' := 9) (t' := 16) rfl rfl rfl (fun q4 => ?_) (fun q4 => ?_)
    · replace h := ite_t q4 h
      refine x_c (pc' := 17) rfl rfl ?_
      exact x_zret rfl (by decide) h
    · replace h := ite_f q4 h
      refine x_il (pc' := 10) rfl rfl rfl ?_
      refine x_c (pc' := 11) rfl rfl ?_
      refine x_ib (pc' := 12) (v := w32 (Int.tmod p1 100)) rfl rfl rfl ?_
      refine x_c (pc' := 13) rfl rfl ?_
      refine x_icge (pc' := 14) (t' := 16) rfl rfl rfl (fun q5 => ?_) (fun q5 => ?_)
      · replace h := ite_t q5 h
        refine x_c (pc' := 17) rfl rfl ?_
        exact x_zret rfl (by decide) h
      · replace h := ite_f q5 h
        refine x_c (pc' := 15) rfl rfl ?_
        refine x_goto (t' := 17) rfl rfl ?_
        exact x_zret rfl (by decide) h
theorem sg_M_isShelf {d : Nat} {p1 : Int} {M : Mem} {r : Res} (h : ∃ v2, Cl d m_M_within [(0, p1), (0, 0), (0, 5)] M (some (0, v2), M) ∧ (v2 = 0 ∨ v2 = 1) ∧ r = (some (0, v2), M)) : Cl (d + 1) m_M_isShelf [(0, p1)] M r := by
  refine cl_of (c := k_M_isShelf) (mL := 1) (rz := 3) (rc := 99) (ls := [(0, p1)]) rfl rfl rfl ?_
  refine x_il (pc' := 1) rfl rfl rfl ?_
  refine x_c (pc' := 2) rfl rfl ?_
  refine x_c (pc' := 3) rfl rfl ?_
  obtain ⟨v2, q1, h⟩ := h
  refine x_call (pc' := 4) (as := [(0, p1), (0, 0), (0, 5)]) (rest := []) rfl rfl rfl rfl rfl rfl q1 ?_
  obtain ⟨q3, h⟩ := h
  exact x_zret rfl q3 h
def at_M_newCard_2 (d : Nat) (l1 : Int) (M : Mem) (r : Res) : Prop := Ex sx0 d k_M_newCard 1 2 [(2, 64), (0, l1)] [] M r
theorem sg_M_newCard {d : Nat} {M : Mem} {r : Res} (h : at_M_newCard_2 d 0 M r) : Cl (d + 1) m_M_newCard [(2, 64)] M r := by
  refine cl_of (c := k_M_newCard) (mL := 2) (rz := 1) (rc := 7) (ls := [(2, 64), (3, 0)]) rfl rfl rfl ?_
  refine x_c (pc' := 1) rfl rfl ?_
  refine x_is (pc' := 2) (ls' := [(2, 64), (0, 0)]) rfl rfl rfl rfl ?_
  exact h
theorem sg_M_newCard_2 {d : Nat} {l1 : Int} {M : Mem} {r : Res} (h : (if 10 ≤ l1 then (0 ≤ M 64 0 ∧ M 64 0 < 12) ∧ r = (some (0, (up M 67 (M 64 0) (-2000000000)) 64 0), up (up M 67 (M 64 0) (-2000000000)) 64 0 (w32 (((up M 67 (M 64 0) (-2000000000)) 64 0) + 1))) else (0 ≤ w32 ((w32 (10 * (M 64 0))) + l1) ∧ w32 ((w32 (10 * (M 64 0))) + l1) < 120) ∧ (0 ≤ w32 ((w32 (10 * ((up M 65 (w32 ((w32 (10 * (M 64 0))) + l1)) 1) 64 0))) + l1) ∧ w32 ((w32 (10 * ((up M 65 (w32 ((w32 (10 * (M 64 0))) + l1)) 1) 64 0))) + l1) < 120) ∧ at_M_newCard_2 d (w32 (l1 + 1)) (up (up M 65 (w32 ((w32 (10 * (M 64 0))) + l1)) 1) 66 (w32 ((w32 (10 * ((up M 65 (w32 ((w32 (10 * (M 64 0))) + l1)) 1) 64 0))) + l1)) 10) r)) : at_M_newCard_2 d l1 M r := by
  unfold at_M_newCard_2
  refine x_il (pc' := 3) rfl rfl rfl ?_
  refine x_c (pc' := 4) rfl rfl ?_
  refine x_icge (pc' := 5) (t' := 27) rfl rfl rfl (fun q1 => ?_) (fun q1 => ?_)
  · replace h := ite_t q1 h
    refine x_al (pc' := 28) rfl rfl (by decide) rfl ?_
    refine x_gr (pc' := 29) (v := 67) rfl rfl rfl (by decide) rfl ?_
    refine x_al (pc' := 30) rfl rfl (by decide) rfl ?_
    refine x_gf (pc' := 31) (v := M 64 0) rfl rfl rfl rfl rfl ?_
    refine x_c (pc' := 32) rfl rfl ?_
    obtain ⟨q2, h⟩ := h
    refine x_ist (pc' := 33) 12 (M2 := up M 67 (M 64 0) (-2000000000)) rfl rfl rfl q2.1 q2.2 rfl ?_
    refine x_al (pc' := 34) rfl rfl (by decide) rfl ?_
    refine x_dupa (pc' := 35) rfl rfl ?_
    refine x_gf (pc' := 36) (v := (up M 67 (M 64 0) (-2000000000)) 64 0) rfl rfl rfl rfl rfl ?_
    refine x_dupx1 (pc' := 37) rfl rfl ?_
    refine x_c (pc' := 38) rfl rfl ?_
    refine x_ib (pc' := 39) (v := w32 (((up M 67 (M 64 0) (-2000000000)) 64 0) + 1)) rfl rfl rfl ?_
    refine x_pf (pc' := 40) (M2 := up (up M 67 (M 64 0) (-2000000000)) 64 0 (w32 (((up M 67 (M 64 0) (-2000000000)) 64 0) + 1))) rfl rfl rfl rfl ?_
    exact x_iret rfl h
  · replace h := ite_f q1 h
    refine x_al (pc' := 6) rfl rfl (by decide) rfl ?_
    refine x_gr (pc' := 7) (v := 65) rfl rfl rfl (by decide) rfl ?_
    refine x_c (pc' := 8) rfl rfl ?_
    refine x_al (pc' := 9) rfl rfl (by decide) rfl ?_
    refine x_gf (pc' := 10) (v := M 64 0) rfl rfl rfl rfl rfl ?_
    refine x_ib (pc' := 11) (v := w32 (10 * (M 64 0))) rfl rfl rfl ?_
    refine x_il (pc' := 12) rfl rfl rfl ?_
    refine x_ib (pc' := 13) (v := w32 ((w32 (10 * (M 64 0))) + l1)) rfl rfl rfl ?_
    refine x_c (pc' := 14) rfl rfl ?_
    obtain ⟨q3, h⟩ := h
    refine x_ist (pc' := 15) 120 (M2 := up M 65 (w32 ((w32 (10 * (M 64 0))) + l1)) 1) rfl rfl rfl q3.1 q3.2 rfl ?_
    refine x_al (pc' := 16) rfl rfl (by decide) rfl ?_
    refine x_gr (pc' := 17) (v := 66) rfl rfl rfl (by decide) rfl ?_
    refine x_c (pc' := 18) rfl rfl ?_
    refine x_al (pc' := 19) rfl rfl (by decide) rfl ?_
    refine x_gf (pc' := 20) (v := (up M 65 (w32 ((w32 (10 * (M 64 0))) + l1)) 1) 64 0) rfl rfl rfl rfl rfl ?_
    refine x_ib (pc' := 21) (v := w32 (10 * ((up M 65 (w32 ((w32 (10 * (M 64 0))) + l1)) 1) 64 0))) rfl rfl rfl ?_
    refine x_il (pc' := 22) rfl rfl rfl ?_
    refine x_ib (pc' := 23) (v := w32 ((w32 (10 * ((up M 65 (w32 ((w32 (10 * (M 64 0))) + l1)) 1) 64 0))) + l1)) rfl rfl rfl ?_
    refine x_c (pc' := 24) rfl rfl ?_
    obtain ⟨q4, h⟩ := h
    refine x_ist (pc' := 25) 120 (M2 := up (up M 65 (w32 ((w32 (10 * (M 64 0))) + l1)) 1) 66 (w32 ((w32 (10 * ((up M 65 (w32 ((w32 (10 * (M 64 0))) + l1)) 1) 64 0))) + l1)) 10) rfl rfl rfl q4.1 q4.2 rfl ?_
    refine x_inc (pc' := 26) (ls' := [(2, 64), (0, w32 (l1 + 1))]) rfl rfl rfl rfl ?_
    refine x_goto (t' := 2) rfl rfl ?_
    exact h
theorem sg_M_card {d : Nat} {M : Mem} {r : Res} (h : (if ¬ M 64 0 = 12 then ∃ v3 M4, Cl d m_M_newCard [(2, 64)] M (some (0, v3), M4) ∧ r = (some (0, v3), M4) else r = (some (0, (-3)), M))) : Cl (d + 1) m_M_card [(2, 64)] M r := by
  refine cl_of (c := k_M_card) (mL := 1) (rz := 1) (rc := 7) (ls := [(2, 64)]) rfl rfl rfl ?_
  refine x_al (pc' := 1) rfl rfl (by decide) rfl ?_
  refine x_gf (pc' := 2) (v := M 64 0) rfl rfl rfl rfl rfl ?_
  refine x_c (pc' := 3) rfl rfl ?_
  refine x_icne (pc' := 4) (t' := 6) rfl rfl rfl (fun q1 => ?_) (fun q1 => ?_)
  · replace h := ite_t q1 h
    refine x_al (pc' := 7) rfl rfl (by decide) rfl ?_
    obtain ⟨v3, M4, q2, h⟩ := h
    refine x_call (pc' := 8) (as := [(2, 64)]) (rest := []) rfl rfl rfl rfl rfl rfl q2 ?_
    exact x_iret rfl h
  · replace h := ite_f q1 h
    refine x_c (pc' := 5) rfl rfl ?_
    refine x_goto (t' := 8) rfl rfl ?_
    exact x_iret rfl h
def at_M_cards_29 (d : Nat) (l1 : Int) (l2 : Int) (l3 : Int) (l4 : Int) (l5 : Int) (w6 : AV) (w7 : AV) (w8 : AV) (w9 : AV) (w10 : AV) (M : Mem) (r : Res) : Prop := Ex sx0 d k_M_cards 1 29 [(2, 64), (0, l1), (0, l2), (0, l3), (0, l4), (0, l5), w6, w7, w8, w9, w10] [] M r
def at_M_cards_69 (d : Nat) (l1 : Int) (l2 : Int) (l3 : Int) (l4 : Int) (l5 : Int) (w6 : AV) (w7 : AV) (l8 : Int) (l9 : Int) (w10 : AV) (M : Mem) (r : Res) : Prop := Ex sx0 d k_M_cards 1 69 [(2, 64), (0, l1), (0, l2), (0, l3), (0, l4), (0, l5), w6, w7, (0, l8), (0, l9), w10] [] M r
def at_M_cards_109 (d : Nat) (l1 : Int) (l2 : Int) (l3 : Int) (l4 : Int) (l5 : Int) (w6 : AV) (w7 : AV) (l8 : Int) (l9 : Int) (l10 : Int) (M : Mem) (r : Res) : Prop := Ex sx0 d k_M_cards 1 109 [(2, 64), (0, l1), (0, l2), (0, l3), (0, l4), (0, l5), w6, w7, (0, l8), (0, l9), (0, l10)] [] M r
theorem sg_M_cards {d : Nat} {p1 p2 p3 : Int} {M : Mem} {r : Res} (h : ∃ v2, Cl d m_M_isShelf [(0, p1)] M (some (0, v2), M) ∧ (if v2 = 0 then r = (some (0, (-1)), M) else ∃ v5, Cl d m_M_within [(0, p3), (0, 1), (0, 3)] M (some (0, v5), M) ∧ (if ¬ v5 = 0 then (0 ≤ p1 ∧ p1 < 6) ∧ (if ¬ M 84 p1 = (-1) then (0 ≤ p1 ∧ p1 < 6) ∧ (if M 84 p1 = 0 then at_M_cards_29 d p1 p2 p3 0 0 (3, 0) (3, 0) (3, 0) (3, 0) (3, 0) M r else r = (some (0, (-12)), M)) else r = (some (0, 0), M)) else r = (some (0, (-1)), M)))) : Cl (d + 1) m_M_cards [(2, 64), (0, p1), (0, p2), (0, p3)] M r := by
  refine cl_of (c := k_M_cards) (mL := 11) (rz := 1) (rc := 7) (ls := [(2, 64), (0, p1), (0, p2), (0, p3), (3, 0), (3, 0), (3, 0), (3, 0), (3, 0), (3, 0), (3, 0)]) rfl rfl rfl ?_
  refine x_il (pc' := 1) rfl rfl rfl ?_
  obtain ⟨v2, q1, h⟩ := h
  refine x_call (pc' := 2) (as := [(0, p1)]) (rest := []) rfl rfl rfl rfl rfl rfl q1 ?_
  refine x_ifeq (pc' := 3) (t' := 8) rfl rfl rfl (fun q3 => ?_) (fun q3 => ?_)
  · replace h := ite_t q3 h
    refine x_c (pc' := 9) rfl rfl ?_
    exact x_iret rfl h
  · replace h := ite_f q3 h
    refine x_il (pc' := 4) rfl rfl rfl ?_
    refine x_c (pc' := 5) rfl rfl ?_
    refine x_c (pc' := 6) rfl rfl ?_
    obtain ⟨v5, q4, h⟩ := h
    refine x_call (pc' := 7) (as := [(0, p3), (0, 1), (0, 3)]) (rest := []) rfl rfl rfl rfl rfl rfl q4 ?_
    refine x_ifne (pc' := 8) (t' := 10) rfl rfl rfl (fun q6 => ?_) (fun q6 => ?_)
    · replace h := ite_t q6 h
      refine x_al (pc' := 11) rfl rfl (by decide) rfl ?_
      refine x_gr (pc' := 12) (v := 84) rfl rfl rfl (by decide) rfl ?_
      refine x_il (pc' := 13) rfl rfl rfl ?_
      obtain ⟨q7, h⟩ := h
      refine x_ia (pc' := 14) 6 (v := M 84 p1) rfl rfl rfl q7.1 q7.2 rfl ?_
      refine x_c (pc' := 15) rfl rfl ?_
      refine x_icne (pc' := 16) (t' := 18) rfl rfl rfl (fun q8 => ?_) (fun q8 => ?_)
      · replace h := ite_t q8 h
        refine x_al (pc' := 19) rfl rfl (by decide) rfl ?_
        refine x_gr (pc' := 20) (v := 84) rfl rfl rfl (by decide) rfl ?_
        refine x_il (pc' := 21) rfl rfl rfl ?_
        obtain ⟨q9, h⟩ := h
        refine x_ia (pc' := 22) 6 (v := M 84 p1) rfl rfl rfl q9.1 q9.2 rfl ?_
        refine x_ifeq (pc' := 23) (t' := 25) rfl rfl rfl (fun q10 => ?_) (fun q10 => ?_)
        · replace h := ite_t q10 h
          refine x_c (pc' := 26) rfl rfl ?_
          refine x_is (pc' := 27) (ls' := [(2, 64), (0, p1), (0, p2), (0, p3), (0, 0), (3, 0), (3, 0), (3, 0), (3, 0), (3, 0), (3, 0)]) rfl rfl rfl rfl ?_
          refine x_c (pc' := 28) rfl rfl ?_
          refine x_is (pc' := 29) (ls' := [(2, 64), (0, p1), (0, p2), (0, p3), (0, 0), (0, 0), (3, 0), (3, 0), (3, 0), (3, 0), (3, 0)]) rfl rfl rfl rfl ?_
          exact h
        · replace h := ite_f q10 h
          refine x_c (pc' := 24) rfl rfl ?_
          exact x_iret rfl h
      · replace h := ite_f q8 h
        refine x_c (pc' := 17) rfl rfl ?_
        exact x_iret rfl h
    · replace h := ite_f q6 h
      refine x_c (pc' := 9) rfl rfl ?_
      exact x_iret rfl h
theorem sg_M_cards_29 {d : Nat} {l1 : Int} {l2 : Int} {l3 : Int} {l4 : Int} {l5 : Int} {w6 : AV} {w7 : AV} {w8 : AV} {w9 : AV} {w10 : AV} {M : Mem} {r : Res} (h : (if l3 ≤ l5 then r = (some (0, l4), M) else (if lcmpI (w64 (l2 + (w64 (20 * l5)))) 0 < 0 then r = (some (0, l4), M) else (0 ≤ l1 ∧ l1 < 6) ∧ (if 0 < lcmpI (w64 ((w64 (l2 + (w64 (20 * l5)))) + 20)) (M 85 l1) then r = (some (0, l4), M) else (if ¬ M 64 0 = 12 then at_M_cards_69 d l1 l2 l3 l4 l5 (1, w64 (l2 + (w64 (20 * l5)))) (3, 0) (w32 ((w32 (60 * l1)) + (w32 (w64 (l2 + (w64 (20 * l5))))))) 0 w10 M r else r = (some (0, l4), M)))))) : at_M_cards_29 d l1 l2 l3 l4 l5 w6 w7 w8 w9 w10 M r := by
  unfold at_M_cards_29
  refine x_il (pc' := 30) rfl rfl rfl ?_
  refine x_il (pc' := 31) rfl rfl rfl ?_
  refine x_icge (pc' := 32) (t' := 153) rfl rfl rfl (fun q1 => ?_) (fun q1 => ?_)
  · replace h := ite_t q1 h
    refine x_il (pc' := 154) rfl rfl rfl ?_
    exact x_iret rfl h
  · replace h := ite_f q1 h
    refine x_il (pc' := 33) rfl rfl rfl ?_
    refine x_i2l (pc' := 34) rfl rfl ?_
    refine x_lc (pc' := 35) rfl rfl ?_
    refine x_il (pc' := 36) rfl rfl rfl ?_
    refine x_i2l (pc' := 37) rfl rfl ?_
    refine x_lb (pc' := 38) (v := w64 (20 * l5)) rfl rfl rfl ?_
    refine x_lb (pc' := 39) (v := w64 (l2 + (w64 (20 * l5)))) rfl rfl rfl ?_
    refine x_ls (pc' := 40) (ls' := [(2, 64), (0, l1), (0, l2), (0, l3), (0, l4), (0, l5), (1, w64 (l2 + (w64 (20 * l5)))), (3, 0), w8, w9, w10]) rfl rfl rfl rfl ?_
    refine x_ll (pc' := 41) rfl rfl rfl ?_
    refine x_lc (pc' := 42) rfl rfl ?_
    refine x_lcmp (pc' := 43) rfl rfl ?_
    refine x_iflt (pc' := 44) (t' := 58) rfl rfl rfl (fun q2 => ?_) (fun q2 => ?_)
    · replace h := ite_t q2 h
      refine x_il (pc' := 59) rfl rfl rfl ?_
      exact x_iret rfl h
    · replace h := ite_f q2 h
      refine x_ll (pc' := 45) rfl rfl rfl ?_
      refine x_lc (pc' := 46) rfl rfl ?_
      refine x_lb (pc' := 47) (v := w64 ((w64 (l2 + (w64 (20 * l5)))) + 20)) rfl rfl rfl ?_
      refine x_al (pc' := 48) rfl rfl (by decide) rfl ?_
      refine x_gr (pc' := 49) (v := 85) rfl rfl rfl (by decide) rfl ?_
      refine x_il (pc' := 50) rfl rfl rfl ?_
      obtain ⟨q3, h⟩ := h
      refine x_ia (pc' := 51) 6 (v := M 85 l1) rfl rfl rfl q3.1 q3.2 rfl ?_
      refine x_i2l (pc' := 52) rfl rfl ?_
      refine x_lcmp (pc' := 53) rfl rfl ?_
      refine x_ifgt (pc' := 54) (t' := 58) rfl rfl rfl (fun q4 => ?_) (fun q4 => ?_)
      · replace h := ite_t q4 h
        refine x_il (pc' := 59) rfl rfl rfl ?_
        exact x_iret rfl h
      · replace h := ite_f q4 h
        refine x_al (pc' := 55) rfl rfl (by decide) rfl ?_
        refine x_gf (pc' := 56) (v := M 64 0) rfl rfl rfl rfl rfl ?_
        refine x_c (pc' := 57) rfl rfl ?_
        refine x_icne (pc' := 58) (t' := 60) rfl rfl rfl (fun q5 => ?_) (fun q5 => ?_)
        · replace h := ite_t q5 h
          refine x_c (pc' := 61) rfl rfl ?_
          refine x_il (pc' := 62) rfl rfl rfl ?_
          refine x_ib (pc' := 63) (v := w32 (60 * l1)) rfl rfl rfl ?_
          refine x_ll (pc' := 64) rfl rfl rfl ?_
          refine x_l2i (pc' := 65) rfl rfl ?_
          refine x_ib (pc' := 66) (v := w32 ((w32 (60 * l1)) + (w32 (w64 (l2 + (w64 (20 * l5))))))) rfl rfl rfl ?_
          refine x_is (pc' := 67) (ls' := [(2, 64), (0, l1), (0, l2), (0, l3), (0, l4), (0, l5), (1, w64 (l2 + (w64 (20 * l5)))), (3, 0), (0, w32 ((w32 (60 * l1)) + (w32 (w64 (l2 + (w64 (20 * l5))))))), w9, w10]) rfl rfl rfl rfl ?_
          refine x_c (pc' := 68) rfl rfl ?_
          refine x_is (pc' := 69) (ls' := [(2, 64), (0, l1), (0, l2), (0, l3), (0, l4), (0, l5), (1, w64 (l2 + (w64 (20 * l5)))), (3, 0), (0, w32 ((w32 (60 * l1)) + (w32 (w64 (l2 + (w64 (20 * l5))))))), (0, 0), w10]) rfl rfl rfl rfl ?_
          exact h
        · replace h := ite_f q5 h
          refine x_il (pc' := 59) rfl rfl rfl ?_
          exact x_iret rfl h
theorem sg_M_cards_69 {d : Nat} {l1 : Int} {l2 : Int} {l3 : Int} {l4 : Int} {l5 : Int} {w6 : AV} {w7 : AV} {l8 : Int} {l9 : Int} {w10 : AV} {M : Mem} {r : Res} (h : (if 10 ≤ l9 then ∃ v3 M4, Cl d m_M_newCard [(2, 64)] M (some (0, v3), M4) ∧ at_M_cards_109 d l1 l2 l3 l4 l5 w6 w7 l8 v3 0 M4 r else (0 ≤ w32 (l8 + (w32 (2 * l9))) ∧ w32 (l8 + (w32 (2 * l9))) < 360) ∧ ∃ v7, Cl d m_M_within [(0, w32 (M 86 (w32 (l8 + (w32 (2 * l9)))))), (0, 0), (0, 5)] M (some (0, v7), M) ∧ (if v7 = 0 then r = (some (0, l4), M) else (0 ≤ w32 ((w32 (l8 + (w32 (2 * l9)))) + 1) ∧ w32 ((w32 (l8 + (w32 (2 * l9)))) + 1) < 360) ∧ ∃ v11, Cl d m_M_within [(0, w32 (M 86 (w32 ((w32 (l8 + (w32 (2 * l9)))) + 1)))), (0, 0), (0, 30)] M (some (0, v11), M) ∧ (if ¬ v11 = 0 then at_M_cards_69 d l1 l2 l3 l4 l5 w6 w7 l8 (w32 (l9 + 1)) w10 M r else r = (some (0, l4), M))))) : at_M_cards_69 d l1 l2 l3 l4 l5 w6 w7 l8 l9 w10 M r := by
  unfold at_M_cards_69
  refine x_il (pc' := 70) rfl rfl rfl ?_
  refine x_c (pc' := 71) rfl rfl ?_
  refine x_icge (pc' := 72) (t' := 104) rfl rfl rfl (fun q1 => ?_) (fun q1 => ?_)
  · replace h := ite_t q1 h
    refine x_al (pc' := 105) rfl rfl (by decide) rfl ?_
    obtain ⟨v3, M4, q2, h⟩ := h
    refine x_call (pc' := 106) (as := [(2, 64)]) (rest := []) rfl rfl rfl rfl rfl rfl q2 ?_
    refine x_is (pc' := 107) (ls' := [(2, 64), (0, l1), (0, l2), (0, l3), (0, l4), (0, l5), w6, w7, (0, l8), (0, v3), w10]) rfl rfl rfl rfl ?_
    refine x_c (pc' := 108) rfl rfl ?_
    refine x_is (pc' := 109) (ls' := [(2, 64), (0, l1), (0, l2), (0, l3), (0, l4), (0, l5), w6, w7, (0, l8), (0, v3), (0, 0)]) rfl rfl rfl rfl ?_
    exact h
  · replace h := ite_f q1 h
    refine x_al (pc' := 73) rfl rfl (by decide) rfl ?_
    refine x_gr (pc' := 74) (v := 86) rfl rfl rfl (by decide) rfl ?_
    refine x_il (pc' := 75) rfl rfl rfl ?_
    refine x_c (pc' := 76) rfl rfl ?_
    refine x_il (pc' := 77) rfl rfl rfl ?_
    refine x_ib (pc' := 78) (v := w32 (2 * l9)) rfl rfl rfl ?_
    refine x_ib (pc' := 79) (v := w32 (l8 + (w32 (2 * l9)))) rfl rfl rfl ?_
    obtain ⟨q5, h⟩ := h
    refine x_la (pc' := 80) 360 (v := M 86 (w32 (l8 + (w32 (2 * l9))))) rfl rfl rfl q5.1 q5.2 rfl ?_
    refine x_l2i (pc' := 81) rfl rfl ?_
    refine x_c (pc' := 82) rfl rfl ?_
    refine x_c (pc' := 83) rfl rfl ?_
    obtain ⟨v7, q6, h⟩ := h
    refine x_call (pc' := 84) (as := [(0, w32 (M 86 (w32 (l8 + (w32 (2 * l9)))))), (0, 0), (0, 5)]) (rest := []) rfl rfl rfl rfl rfl rfl q6 ?_
    refine x_ifeq (pc' := 85) (t' := 100) rfl rfl rfl (fun q8 => ?_) (fun q8 => ?_)
    · replace h := ite_t q8 h
      refine x_il (pc' := 101) rfl rfl rfl ?_
      exact x_iret rfl h
    · replace h := ite_f q8 h
      refine x_al (pc' := 86) rfl rfl (by decide) rfl ?_
      refine x_gr (pc' := 87) (v := 86) rfl rfl rfl (by decide) rfl ?_
      refine x_il (pc' := 88) rfl rfl rfl ?_
      refine x_c (pc' := 89) rfl rfl ?_
      refine x_il (pc' := 90) rfl rfl rfl ?_
      refine x_ib (pc' := 91) (v := w32 (2 * l9)) rfl rfl rfl ?_
      refine x_ib (pc' := 92) (v := w32 (l8 + (w32 (2 * l9)))) rfl rfl rfl ?_
      refine x_c (pc' := 93) rfl rfl ?_
      refine x_ib (pc' := 94) (v := w32 ((w32 (l8 + (w32 (2 * l9)))) + 1)) rfl rfl rfl ?_
      obtain ⟨q9, h⟩ := h
      refine x_la (pc' := 95) 360 (v := M 86 (w32 ((w32 (l8 + (w32 (2 * l9)))) + 1))) rfl rfl rfl q9.1 q9.2 rfl ?_
      refine x_l2i (pc' := 96) rfl rfl ?_
      refine x_c (pc' := 97) rfl rfl ?_
      refine x_c (pc' := 98) rfl rfl ?_
      obtain ⟨v11, q10, h⟩ := h
      refine x_call (pc' := 99) (as := [(0, w32 (M 86 (w32 ((w32 (l8 + (w32 (2 * l9)))) + 1)))), (0, 0), (0, 30)]) (rest := []) rfl rfl rfl rfl rfl rfl q10 ?_
      refine x_ifne (pc' := 100) (t' := 102) rfl rfl rfl (fun q12 => ?_) (fun q12 => ?_)
      · replace h := ite_t q12 h
        refine x_inc (pc' := 103) (ls' := [(2, 64), (0, l1), (0, l2), (0, l3), (0, l4), (0, l5), w6, w7, (0, l8), (0, w32 (l9 + 1)), w10]) rfl rfl rfl rfl ?_
        refine x_goto (t' := 69) rfl rfl ?_
        exact h
      · replace h := ite_f q12 h
        refine x_il (pc' := 101) rfl rfl rfl ?_
        exact x_iret rfl h
theorem sg_M_cards_109 {d : Nat} {l1 : Int} {l2 : Int} {l3 : Int} {l4 : Int} {l5 : Int} {w6 : AV} {w7 : AV} {l8 : Int} {l9 : Int} {l10 : Int} {M : Mem} {r : Res} (h : (if 10 ≤ l10 then at_M_cards_29 d l1 l2 l3 (w32 (l4 + 1)) (w32 (l5 + 1)) w6 w7 (0, l8) (0, l9) (0, l10) M r else (0 ≤ w32 (l8 + (w32 (2 * l10))) ∧ w32 (l8 + (w32 (2 * l10))) < 360) ∧ (0 ≤ w32 ((w32 (10 * l9)) + l10) ∧ w32 ((w32 (10 * l9)) + l10) < 120) ∧ (0 ≤ w32 ((w32 (l8 + (w32 (2 * l10)))) + 1) ∧ w32 ((w32 (l8 + (w32 (2 * l10)))) + 1) < 360) ∧ (0 ≤ w32 ((w32 (10 * l9)) + l10) ∧ w32 ((w32 (10 * l9)) + l10) < 120) ∧ at_M_cards_109 d l1 l2 l3 l4 l5 w6 w7 l8 l9 (w32 (l10 + 1)) (up (up M 65 (w32 ((w32 (10 * l9)) + l10)) (w32 (M 86 (w32 (l8 + (w32 (2 * l10))))))) 66 (w32 ((w32 (10 * l9)) + l10)) (w32 ((up M 65 (w32 ((w32 (10 * l9)) + l10)) (w32 (M 86 (w32 (l8 + (w32 (2 * l10))))))) 86 (w32 ((w32 (l8 + (w32 (2 * l10)))) + 1))))) r)) : at_M_cards_109 d l1 l2 l3 l4 l5 w6 w7 l8 l9 l10 M r := by
  unfold at_M_cards_109
  refine x_il (pc' := 110) rfl rfl rfl ?_
  refine x_c (pc' := 111) rfl rfl ?_
  refine x_icge (pc' := 112) (t' := 150) rfl rfl rfl (fun q1 => ?_) (fun q1 => ?_)
  · replace h := ite_t q1 h
    refine x_inc (pc' := 151) (ls' := [(2, 64), (0, l1), (0, l2), (0, l3), (0, w32 (l4 + 1)), (0, l5), w6, w7, (0, l8), (0, l9), (0, l10)]) rfl rfl rfl rfl ?_
    refine x_inc (pc' := 152) (ls' := [(2, 64), (0, l1), (0, l2), (0, l3), (0, w32 (l4 + 1)), (0, w32 (l5 + 1)), w6, w7, (0, l8), (0, l9), (0, l10)]) rfl rfl rfl rfl ?_
    refine x_goto (t' := 29) rfl rfl ?_
    exact h
  · replace h := ite_f q1 h
    refine x_al (pc' := 113) rfl rfl (by decide) rfl ?_
    refine x_gr (pc' := 114) (v := 65) rfl rfl rfl (by decide) rfl ?_
    refine x_c (pc' := 115) rfl rfl ?_
    refine x_il (pc' := 116) rfl rfl rfl ?_
    refine x_ib (pc' := 117) (v := w32 (10 * l9)) rfl rfl rfl ?_
    refine x_il (pc' := 118) rfl rfl rfl ?_
    refine x_ib (pc' := 119) (v := w32 ((w32 (10 * l9)) + l10)) rfl rfl rfl ?_
    refine x_al (pc' := 120) rfl rfl (by decide) rfl ?_
    refine x_gr (pc' := 121) (v := 86) rfl rfl rfl (by decide) rfl ?_
    refine x_il (pc' := 122) rfl rfl rfl ?_
    refine x_c (pc' := 123) rfl rfl ?_
    refine x_il (pc' := 124) rfl rfl rfl ?_
    refine x_ib (pc' := 125) (v := w32 (2 * l10)) rfl rfl rfl ?_
    refine x_ib (pc' := 126) (v := w32 (l8 + (w32 (2 * l10)))) rfl rfl rfl ?_
    obtain ⟨q2, h⟩ := h
    refine x_la (pc' := 127) 360 (v := M 86 (w32 (l8 + (w32 (2 * l10))))) rfl rfl rfl q2.1 q2.2 rfl ?_
    refine x_l2i (pc' := 128) rfl rfl ?_
    obtain ⟨q3, h⟩ := h
    refine x_ist (pc' := 129) 120 (M2 := up M 65 (w32 ((w32 (10 * l9)) + l10)) (w32 (M 86 (w32 (l8 + (w32 (2 * l10))))))) rfl rfl rfl q3.1 q3.2 rfl ?_
    refine x_al (pc' := 130) rfl rfl (by decide) rfl ?_
    refine x_gr (pc' := 131) (v := 66) rfl rfl rfl (by decide) rfl ?_
    refine x_c (pc' := 132) rfl rfl ?_
    refine x_il (pc' := 133) rfl rfl rfl ?_
    refine x_ib (pc' := 134) (v := w32 (10 * l9)) rfl rfl rfl ?_
    refine x_il (pc' := 135) rfl rfl rfl ?_
    refine x_ib (pc' := 136) (v := w32 ((w32 (10 * l9)) + l10)) rfl rfl rfl ?_
    refine x_al (pc' := 137) rfl rfl (by decide) rfl ?_
    refine x_gr (pc' := 138) (v := 86) rfl rfl rfl (by decide) rfl ?_
    refine x_il (pc' := 139) rfl rfl rfl ?_
    refine x_c (pc' := 140) rfl rfl ?_
    refine x_il (pc' := 141) rfl rfl rfl ?_
    refine x_ib (pc' := 142) (v := w32 (2 * l10)) rfl rfl rfl ?_
    refine x_ib (pc' := 143) (v := w32 (l8 + (w32 (2 * l10)))) rfl rfl rfl ?_
    refine x_c (pc' := 144) rfl rfl ?_
    refine x_ib (pc' := 145) (v := w32 ((w32 (l8 + (w32 (2 * l10)))) + 1)) rfl rfl rfl ?_
    obtain ⟨q4, h⟩ := h
    refine x_la (pc' := 146) 360 (v := (up M 65 (w32 ((w32 (10 * l9)) + l10)) (w32 (M 86 (w32 (l8 + (w32 (2 * l10))))))) 86 (w32 ((w32 (l8 + (w32 (2 * l10)))) + 1))) rfl rfl rfl q4.1 q4.2 rfl ?_
    refine x_l2i (pc' := 147) rfl rfl ?_
    obtain ⟨q5, h⟩ := h
    refine x_ist (pc' := 148) 120 (M2 := up (up M 65 (w32 ((w32 (10 * l9)) + l10)) (w32 (M 86 (w32 (l8 + (w32 (2 * l10))))))) 66 (w32 ((w32 (10 * l9)) + l10)) (w32 ((up M 65 (w32 ((w32 (10 * l9)) + l10)) (w32 (M 86 (w32 (l8 + (w32 (2 * l10))))))) 86 (w32 ((w32 (l8 + (w32 (2 * l10)))) + 1))))) rfl rfl rfl q5.1 q5.2 rfl ?_
    refine x_inc (pc' := 149) (ls' := [(2, 64), (0, l1), (0, l2), (0, l3), (0, l4), (0, l5), w6, w7, (0, l8), (0, l9), (0, w32 (l10 + 1))]) rfl rfl rfl rfl ?_
    refine x_goto (t' := 109) rfl rfl ?_
    exact h
theorem sg_M_isOf {d : Nat} {p1 p2 : Int} {M : Mem} {r : Res} (h : ∃ v2, Cl d m_M_within [(0, p2), (0, 0), (0, 1)] M (some (0, v2), M) ∧ (if v2 = 0 then (if ¬ p2 = 2 then r = (some (0, 0), M) else (if ¬ p1 = 0 then r = (some (0, 0), M) else r = (some (0, 1), M))) else ∃ v7, Cl d m_M_isFinger [(2, 64), (0, p1)] M (some (0, v7), M) ∧ (v7 = 0 ∨ v7 = 1) ∧ r = (some (0, v7), M))) : Cl (d + 1) m_M_isOf [(2, 64), (0, p1), (0, p2)] M r := by
  refine cl_of (c := k_M_isOf) (mL := 3) (rz := 3) (rc := 7) (ls := [(2, 64), (0, p1), (0, p2)]) rfl rfl rfl ?_
  refine x_il (pc' := 1) rfl rfl rfl ?_
  refine x_c (pc' := 2) rfl rfl ?_
  refine x_c (pc' := 3) rfl rfl ?_
  obtain ⟨v2, q1, h⟩ := h
  refine x_call (pc' := 4) (as := [(0, p2), (0, 0), (0, 1)]) (rest := []) rfl rfl rfl rfl rfl rfl q1 ?_
  refine x_ifeq (pc' := 5) (t' := 9) rfl rfl rfl (fun q3 => ?_) (fun q3 => ?_)
  · replace h := ite_t q3 h
    refine x_il (pc' := 10) rfl rfl rfl ?_
    refine x_c (pc' := 11) rfl rfl ?_
    refine x_icne (pc' := 12) (t' := 16) rfl rfl rfl (fun q4 => ?_) (fun q4 => ?_)
    · replace h := ite_t q4 h
      refine x_c (pc' := 17) rfl rfl ?_
      exact x_zret rfl (by decide) h
    · replace h := ite_f q4 h
      refine x_il (pc' := 13) rfl rfl rfl ?_
      refine x_ifne (pc' := 14) (t' := 16) rfl rfl rfl (fun q5 => ?_) (fun q5 => ?_)
      · replace h := ite_t q5 h
        refine x_c (pc' := 17) rfl rfl ?_
        exact x_zret rfl (by decide) h
      · replace h := ite_f q5 h
        refine x_c (pc' := 15) rfl rfl ?_
        refine x_goto (t' := 17) rfl rfl ?_
        exact x_zret rfl (by decide) h
  · replace h := ite_f q3 h
    refine x_al (pc' := 6) rfl rfl (by decide) rfl ?_
    refine x_il (pc' := 7) rfl rfl rfl ?_
    obtain ⟨v7, q6, h⟩ := h
    refine x_call (pc' := 8) (as := [(2, 64), (0, p1)]) (rest := []) rfl rfl rfl rfl rfl rfl q6 ?_
    refine x_goto (t' := 17) rfl rfl ?_
    obtain ⟨q8, h⟩ := h
    exact x_zret rfl q8 h
theorem sg_M_placeOf {d : Nat} {p1 : Int} {M : Mem} {r : Res} (h : r = (some (0, w32 ((w32 ((w32 (Int.tdiv p1 100)) * 10)) + (w32 (Int.tmod p1 100)))), M)) : Cl (d + 1) m_M_placeOf [(0, p1)] M r := by
  refine cl_of (c := k_M_placeOf) (mL := 1) (rz := 1) (rc := 99) (ls := [(0, p1)]) rfl rfl rfl ?_
  refine x_il (pc' := 1) rfl rfl rfl ?_
  refine x_c (pc' := 2) rfl rfl ?_
  refine x_ib (pc' := 3) (v := w32 (Int.tdiv p1 100)) rfl rfl rfl ?_
  refine x_c (pc' := 4) rfl rfl ?_
  refine x_ib (pc' := 5) (v := w32 ((w32 (Int.tdiv p1 100)) * 10)) rfl rfl rfl ?_
  refine x_il (pc' := 6) rfl rfl rfl ?_
  refine x_c (pc' := 7) rfl rfl ?_
  refine x_ib (pc' := 8) (v := w32 (Int.tmod p1 100)) rfl rfl rfl ?_
  refine x_ib (pc' := 9) (v := w32 ((w32 ((w32 (Int.tdiv p1 100)) * 10)) + (w32 (Int.tmod p1 100)))) rfl rfl rfl ?_
  exact x_iret rfl h
theorem sg_M_get {d : Nat} {p1 p2 : Int} {M : Mem} {r : Res} (h : (if ¬ p2 = 0 then (if ¬ p2 = 1 then r = (some (0, M 64 4), M) else ∃ v4, Cl d m_M_placeOf [(0, p1)] M (some (0, v4), M) ∧ (0 ≤ v4 ∧ v4 < 120) ∧ r = (some (0, M 66 v4), M)) else ∃ v7, Cl d m_M_placeOf [(0, p1)] M (some (0, v7), M) ∧ (0 ≤ v7 ∧ v7 < 120) ∧ r = (some (0, M 65 v7), M))) : Cl (d + 1) m_M_get [(2, 64), (0, p1), (0, p2)] M r := by
  refine cl_of (c := k_M_get) (mL := 3) (rz := 1) (rc := 7) (ls := [(2, 64), (0, p1), (0, p2)]) rfl rfl rfl ?_
  refine x_il (pc' := 1) rfl rfl rfl ?_
  refine x_ifne (pc' := 2) (t' := 8) rfl rfl rfl (fun q1 => ?_) (fun q1 => ?_)
  · replace h := ite_t q1 h
    refine x_il (pc' := 9) rfl rfl rfl ?_
    refine x_c (pc' := 10) rfl rfl ?_
    refine x_icne (pc' := 11) (t' := 17) rfl rfl rfl (fun q2 => ?_) (fun q2 => ?_)
    · replace h := ite_t q2 h
      refine x_al (pc' := 18) rfl rfl (by decide) rfl ?_
      refine x_gf (pc' := 19) (v := M 64 4) rfl rfl rfl rfl rfl ?_
      exact x_iret rfl h
    · replace h := ite_f q2 h
      refine x_al (pc' := 12) rfl rfl (by decide) rfl ?_
      refine x_gr (pc' := 13) (v := 66) rfl rfl rfl (by decide) rfl ?_
      refine x_il (pc' := 14) rfl rfl rfl ?_
      obtain ⟨v4, q3, h⟩ := h
      refine x_call (pc' := 15) (as := [(0, p1)]) (rest := [(2, 66)]) rfl rfl rfl rfl rfl rfl q3 ?_
      obtain ⟨q5, h⟩ := h
      refine x_ia (pc' := 16) 120 (v := M 66 v4) rfl rfl rfl q5.1 q5.2 rfl ?_
      refine x_goto (t' := 19) rfl rfl ?_
      exact x_iret rfl h
  · replace h := ite_f q1 h
    refine x_al (pc' := 3) rfl rfl (by decide) rfl ?_
    refine x_gr (pc' := 4) (v := 65) rfl rfl rfl (by decide) rfl ?_
    refine x_il (pc' := 5) rfl rfl rfl ?_
    obtain ⟨v7, q6, h⟩ := h
    refine x_call (pc' := 6) (as := [(0, p1)]) (rest := [(2, 65)]) rfl rfl rfl rfl rfl rfl q6 ?_
    obtain ⟨q8, h⟩ := h
    refine x_ia (pc' := 7) 120 (v := M 65 v7) rfl rfl rfl q8.1 q8.2 rfl ?_
    refine x_goto (t' := 19) rfl rfl ?_
    exact x_iret rfl h
theorem sg_M_becomes {d : Nat} {p1 p2 p3 : Int} {M : Mem} {r : Res} (h : (if ¬ p2 = 0 then (if ¬ p2 = 1 then r = (none, up M 64 4 p3) else ∃ v4, Cl d m_M_placeOf [(0, p1)] M (some (0, v4), M) ∧ (0 ≤ v4 ∧ v4 < 120) ∧ r = (none, up M 66 v4 p3)) else ∃ v7, Cl d m_M_placeOf [(0, p1)] M (some (0, v7), M) ∧ (0 ≤ v7 ∧ v7 < 120) ∧ r = (none, up M 65 v7 p3))) : Cl (d + 1) m_M_becomes [(2, 64), (0, p1), (0, p2), (0, p3)] M r := by
  refine cl_of (c := k_M_becomes) (mL := 4) (rz := 0) (rc := 7) (ls := [(2, 64), (0, p1), (0, p2), (0, p3)]) rfl rfl rfl ?_
  refine x_il (pc' := 1) rfl rfl rfl ?_
  refine x_ifne (pc' := 2) (t' := 9) rfl rfl rfl (fun q1 => ?_) (fun q1 => ?_)
  · replace h := ite_t q1 h
    refine x_il (pc' := 10) rfl rfl rfl ?_
    refine x_c (pc' := 11) rfl rfl ?_
    refine x_icne (pc' := 12) (t' := 19) rfl rfl rfl (fun q2 => ?_) (fun q2 => ?_)
    · replace h := ite_t q2 h
      refine x_al (pc' := 20) rfl rfl (by decide) rfl ?_
      refine x_il (pc' := 21) rfl rfl rfl ?_
      refine x_pf (pc' := 22) (M2 := up M 64 4 p3) rfl rfl rfl rfl ?_
      exact x_ret rfl h
    · replace h := ite_f q2 h
      refine x_al (pc' := 13) rfl rfl (by decide) rfl ?_
      refine x_gr (pc' := 14) (v := 66) rfl rfl rfl (by decide) rfl ?_
      refine x_il (pc' := 15) rfl rfl rfl ?_
      obtain ⟨v4, q3, h⟩ := h
      refine x_call (pc' := 16) (as := [(0, p1)]) (rest := [(2, 66)]) rfl rfl rfl rfl rfl rfl q3 ?_
      refine x_il (pc' := 17) rfl rfl rfl ?_
      obtain ⟨q5, h⟩ := h
      refine x_ist (pc' := 18) 120 (M2 := up M 66 v4 p3) rfl rfl rfl q5.1 q5.2 rfl ?_
      refine x_goto (t' := 22) rfl rfl ?_
      exact x_ret rfl h
  · replace h := ite_f q1 h
    refine x_al (pc' := 3) rfl rfl (by decide) rfl ?_
    refine x_gr (pc' := 4) (v := 65) rfl rfl rfl (by decide) rfl ?_
    refine x_il (pc' := 5) rfl rfl rfl ?_
    obtain ⟨v7, q6, h⟩ := h
    refine x_call (pc' := 6) (as := [(0, p1)]) (rest := [(2, 65)]) rfl rfl rfl rfl rfl rfl q6 ?_
    refine x_il (pc' := 7) rfl rfl rfl ?_
    obtain ⟨q8, h⟩ := h
    refine x_ist (pc' := 8) 120 (M2 := up M 65 v7 p3) rfl rfl rfl q8.1 q8.2 rfl ?_
    refine x_goto (t' := 22) rfl rfl ?_
    exact x_ret rfl h
def at_M_mend_42 (d : Nat) (l1 : Int) (l2 : Int) (l3 : Int) (l4 : Int) (l5 : Int) (M : Mem) (r : Res) : Prop := Ex sx0 d k_M_mend 1 42 [(2, 64), (0, l1), (0, l2), (0, l3), (0, l4), (0, l5)] [] M r
theorem sg_M_mend {d : Nat} {p1 p2 p3 : Int} {M : Mem} {r : Res} (h : ∃ v2, Cl d m_M_isOf [(2, 64), (0, p1), (0, p2)] M (some (0, v2), M) ∧ (if v2 = 0 then r = (some (0, (-1)), M) else (if ¬ p2 = 0 then (if ¬ p2 = 1 then ∃ v7, Cl d m_M_within [(0, p3), (0, 0), (0, 9)] M (some (0, v7), M) ∧ (if ¬ v7 = 0 then ∃ v10, Cl d m_M_get [(2, 64), (0, p1), (0, p2)] M (some (0, v10), M) ∧ (if ¬ v10 = p3 then ∃ M13, Cl d m_M_becomes [(2, 64), (0, p1), (0, p2), (0, p3)] M (none, M13) ∧ (if ¬ M13 64 28 = 40 then (0 ≤ w32 (4 * (M13 64 28)) ∧ w32 (4 * (M13 64 28)) < 160) ∧ (0 ≤ w32 ((w32 (4 * ((up M13 81 (w32 (4 * (M13 64 28))) p1) 64 28))) + 1) ∧ w32 ((w32 (4 * ((up M13 81 (w32 (4 * (M13 64 28))) p1) 64 28))) + 1) < 160) ∧ (0 ≤ w32 ((w32 (4 * ((up (up M13 81 (w32 (4 * (M13 64 28))) p1) 81 (w32 ((w32 (4 * ((up M13 81 (w32 (4 * (M13 64 28))) p1) 64 28))) + 1)) p2) 64 28))) + 2) ∧ w32 ((w32 (4 * ((up (up M13 81 (w32 (4 * (M13 64 28))) p1) 81 (w32 ((w32 (4 * ((up M13 81 (w32 (4 * (M13 64 28))) p1) 64 28))) + 1)) p2) 64 28))) + 2) < 160) ∧ (0 ≤ w32 ((w32 (4 * ((up (up (up M13 81 (w32 (4 * (M13 64 28))) p1) 81 (w32 ((w32 (4 * ((up M13 81 (w32 (4 * (M13 64 28))) p1) 64 28))) + 1)) p2) 81 (w32 ((w32 (4 * ((up (up M13 81 (w32 (4 * (M13 64 28))) p1) 81 (w32 ((w32 (4 * ((up M13 81 (w32 (4 * (M13 64 28))) p1) 64 28))) + 1)) p2) 64 28))) + 2)) v10) 64 28))) + 3) ∧ w32 ((w32 (4 * ((up (up (up M13 81 (w32 (4 * (M13 64 28))) p1) 81 (w32 ((w32 (4 * ((up M13 81 (w32 (4 * (M13 64 28))) p1) 64 28))) + 1)) p2) 81 (w32 ((w32 (4 * ((up (up M13 81 (w32 (4 * (M13 64 28))) p1) 81 (w32 ((w32 (4 * ((up M13 81 (w32 (4 * (M13 64 28))) p1) 64 28))) + 1)) p2) 64 28))) + 2)) v10) 64 28))) + 3) < 160) ∧ r = (some (0, v10), up (up (up (up (up (up M13 81 (w32 (4 * (M13 64 28))) p1) 81 (w32 ((w32 (4 * ((up M13 81 (w32 (4 * (M13 64 28))) p1) 64 28))) + 1)) p2) 81 (w32 ((w32 (4 * ((up (up M13 81 (w32 (4 * (M13 64 28))) p1) 81 (w32 ((w32 (4 * ((up M13 81 (w32 (4 * (M13 64 28))) p1) 64 28))) + 1)) p2) 64 28))) + 2)) v10) 81 (w32 ((w32 (4 * ((up (up (up M13 81 (w32 (4 * (M13 64 28))) p1) 81 (w32 ((w32 (4 * ((up M13 81 (w32 (4 * (M13 64 28))) p1) 64 28))) + 1)) p2) 81 (w32 ((w32 (4 * ((up (up M13 81 (w32 (4 * (M13 64 28))) p1) 81 (w32 ((w32 (4 * ((up M13 81 (w32 (4 * (M13 64 28))) p1) 64 28))) + 1)) p2) 64 28))) + 2)) v10) 64 28))) + 3)) p3) 64 28 (w32 (((up (up (up (up M13 81 (w32 (4 * (M13 64 28))) p1) 81 (w32 ((w32 (4 * ((up M13 81 (w32 (4 * (M13 64 28))) p1) 64 28))) + 1)) p2) 81 (w32 ((w32 (4 * ((up (up M13 81 (w32 (4 * (M13 64 28))) p1) 81 (w32 ((w32 (4 * ((up M13 81 (w32 (4 * (M13 64 28))) p1) 64 28))) + 1)) p2) 64 28))) + 2)) v10) 81 (w32 ((w32 (4 * ((up (up (up M13 81 (w32 (4 * (M13 64 28))) p1) 81 (w32 ((w32 (4 * ((up M13 81 (w32 (4 * (M13 64 28))) p1) 64 28))) + 1)) p2) 81 (w32 ((w32 (4 * ((up (up M13 81 (w32 (4 * (M13 64 28))) p1) 81 (w32 ((w32 (4 * ((up M13 81 (w32 (4 * (M13 64 28))) p1) 64 28))) + 1)) p2) 64 28))) + 2)) v10) 64 28))) + 3)) p3) 64 28) + 1))) 64 27 ((up (up (up (up (up M13 81 (w32 (4 * (M13 64 28))) p1) 81 (w32 ((w32 (4 * ((up M13 81 (w32 (4 * (M13 64 28))) p1) 64 28))) + 1)) p2) 81 (w32 ((w32 (4 * ((up (up M13 81 (w32 (4 * (M13 64 28))) p1) 81 (w32 ((w32 (4 * ((up M13 81 (w32 (4 * (M13 64 28))) p1) 64 28))) + 1)) p2) 64 28))) + 2)) v10) 81 (w32 ((w32 (4 * ((up (up (up M13 81 (w32 (4 * (M13 64 28))) p1) 81 (w32 ((w32 (4 * ((up M13 81 (w32 (4 * (M13 64 28))) p1) 64 28))) + 1)) p2) 81 (w32 ((w32 (4 * ((up (up M13 81 (w32 (4 * (M13 64 28))) p1) 81 (w32 ((w32 (4 * ((up M13 81 (w32 (4 * (M13 64 28))) p1) 64 28))) + 1)) p2) 64 28))) + 2)) v10) 64 28))) + 3)) p3) 64 28 (w32 (((up (up (up (up M13 81 (w32 (4 * (M13 64 28))) p1) 81 (w32 ((w32 (4 * ((up M13 81 (w32 (4 * (M13 64 28))) p1) 64 28))) + 1)) p2) 81 (w32 ((w32 (4 * ((up (up M13 81 (w32 (4 * (M13 64 28))) p1) 81 (w32 ((w32 (4 * ((up M13 81 (w32 (4 * (M13 64 28))) p1) 64 28))) + 1)) p2) 64 28))) + 2)) v10) 81 (w32 ((w32 (4 * ((up (up (up M13 81 (w32 (4 * (M13 64 28))) p1) 81 (w32 ((w32 (4 * ((up M13 81 (w32 (4 * (M13 64 28))) p1) 64 28))) + 1)) p2) 81 (w32 ((w32 (4 * ((up (up M13 81 (w32 (4 * (M13 64 28))) p1) 81 (w32 ((w32 (4 * ((up M13 81 (w32 (4 * (M13 64 28))) p1) 64 28))) + 1)) p2) 64 28))) + 2)) v10) 64 28))) + 3)) p3) 64 28) + 1))) 64 28)) else at_M_mend_42 d p1 p2 p3 v10 0 M13 r) else r = (some (0, v10), M)) else r = (some (0, (-1)), M)) else ∃ v20, Cl d m_M_within [(0, p3), (0, 0), (0, 30)] M (some (0, v20), M) ∧ (if ¬ v20 = 0 then ∃ v23, Cl d m_M_get [(2, 64), (0, p1), (0, p2)] M (some (0, v23), M) ∧ (if ¬ v23 = p3 then ∃ M26, Cl d m_M_becomes [(2, 64), (0, p1), (0, p2), (0, p3)] M (none, M26) ∧ (if ¬ M26 64 28 = 40 then (0 ≤ w32 (4 * (M26 64 28)) ∧ w32 (4 * (M26 64 28)) < 160) ∧ (0 ≤ w32 ((w32 (4 * ((up M26 81 (w32 (4 * (M26 64 28))) p1) 64 28))) + 1) ∧ w32 ((w32 (4 * ((up M26 81 (w32 (4 * (M26 64 28))) p1) 64 28))) + 1) < 160) ∧ (0 ≤ w32 ((w32 (4 * ((up (up M26 81 (w32 (4 * (M26 64 28))) p1) 81 (w32 ((w32 (4 * ((up M26 81 (w32 (4 * (M26 64 28))) p1) 64 28))) + 1)) p2) 64 28))) + 2) ∧ w32 ((w32 (4 * ((up (up M26 81 (w32 (4 * (M26 64 28))) p1) 81 (w32 ((w32 (4 * ((up M26 81 (w32 (4 * (M26 64 28))) p1) 64 28))) + 1)) p2) 64 28))) + 2) < 160) ∧ (0 ≤ w32 ((w32 (4 * ((up (up (up M26 81 (w32 (4 * (M26 64 28))) p1) 81 (w32 ((w32 (4 * ((up M26 81 (w32 (4 * (M26 64 28))) p1) 64 28))) + 1)) p2) 81 (w32 ((w32 (4 * ((up (up M26 81 (w32 (4 * (M26 64 28))) p1) 81 (w32 ((w32 (4 * ((up M26 81 (w32 (4 * (M26 64 28))) p1) 64 28))) + 1)) p2) 64 28))) + 2)) v23) 64 28))) + 3) ∧ w32 ((w32 (4 * ((up (up (up M26 81 (w32 (4 * (M26 64 28))) p1) 81 (w32 ((w32 (4 * ((up M26 81 (w32 (4 * (M26 64 28))) p1) 64 28))) + 1)) p2) 81 (w32 ((w32 (4 * ((up (up M26 81 (w32 (4 * (M26 64 28))) p1) 81 (w32 ((w32 (4 * ((up M26 81 (w32 (4 * (M26 64 28))) p1) 64 28))) + 1)) p2) 64 28))) + 2)) v23) 64 28))) + 3) < 160) ∧ r = (some (0, v23), up (up (up (up (up (up M26 81 (w32 (4 * (M26 64 28))) p1) 81 (w32 ((w32 (4 * ((up M26 81 (w32 (4 * (M26 64 28))) p1) 64 28))) + 1)) p2) 81 (w32 ((w32 (4 * ((up (up M26 81 (w32 (4 * (M26 64 28))) p1) 81 (w32 ((w32 (4 * ((up M26 81 (w32 (4 * (M26 64 28))) p1) 64 28))) + 1)) p2) 64 28))) + 2)) v23) 81 (w32 ((w32 (4 * ((up (up (up M26 81 (w32 (4 * (M26 64 28))) p1) 81 (w32 ((w32 (4 * ((up M26 81 (w32 (4 * (M26 64 28))) p1) 64 28))) + 1)) p2) 81 (w32 ((w32 (4 * ((up (up M26 81 (w32 (4 * (M26 64 28))) p1) 81 (w32 ((w32 (4 * ((up M26 81 (w32 (4 * (M26 64 28))) p1) 64 28))) + 1)) p2) 64 28))) + 2)) v23) 64 28))) + 3)) p3) 64 28 (w32 (((up (up (up (up M26 81 (w32 (4 * (M26 64 28))) p1) 81 (w32 ((w32 (4 * ((up M26 81 (w32 (4 * (M26 64 28))) p1) 64 28))) + 1)) p2) 81 (w32 ((w32 (4 * ((up (up M26 81 (w32 (4 * (M26 64 28))) p1) 81 (w32 ((w32 (4 * ((up M26 81 (w32 (4 * (M26 64 28))) p1) 64 28))) + 1)) p2) 64 28))) + 2)) v23) 81 (w32 ((w32 (4 * ((up (up (up M26 81 (w32 (4 * (M26 64 28))) p1) 81 (w32 ((w32 (4 * ((up M26 81 (w32 (4 * (M26 64 28))) p1) 64 28))) + 1)) p2) 81 (w32 ((w32 (4 * ((up (up M26 81 (w32 (4 * (M26 64 28))) p1) 81 (w32 ((w32 (4 * ((up M26 81 (w32 (4 * (M26 64 28))) p1) 64 28))) + 1)) p2) 64 28))) + 2)) v23) 64 28))) + 3)) p3) 64 28) + 1))) 64 27 ((up (up (up (up (up M26 81 (w32 (4 * (M26 64 28))) p1) 81 (w32 ((w32 (4 * ((up M26 81 (w32 (4 * (M26 64 28))) p1) 64 28))) + 1)) p2) 81 (w32 ((w32 (4 * ((up (up M26 81 (w32 (4 * (M26 64 28))) p1) 81 (w32 ((w32 (4 * ((up M26 81 (w32 (4 * (M26 64 28))) p1) 64 28))) + 1)) p2) 64 28))) + 2)) v23) 81 (w32 ((w32 (4 * ((up (up (up M26 81 (w32 (4 * (M26 64 28))) p1) 81 (w32 ((w32 (4 * ((up M26 81 (w32 (4 * (M26 64 28))) p1) 64 28))) + 1)) p2) 81 (w32 ((w32 (4 * ((up (up M26 81 (w32 (4 * (M26 64 28))) p1) 81 (w32 ((w32 (4 * ((up M26 81 (w32 (4 * (M26 64 28))) p1) 64 28))) + 1)) p2) 64 28))) + 2)) v23) 64 28))) + 3)) p3) 64 28 (w32 (((up (up (up (up M26 81 (w32 (4 * (M26 64 28))) p1) 81 (w32 ((w32 (4 * ((up M26 81 (w32 (4 * (M26 64 28))) p1) 64 28))) + 1)) p2) 81 (w32 ((w32 (4 * ((up (up M26 81 (w32 (4 * (M26 64 28))) p1) 81 (w32 ((w32 (4 * ((up M26 81 (w32 (4 * (M26 64 28))) p1) 64 28))) + 1)) p2) 64 28))) + 2)) v23) 81 (w32 ((w32 (4 * ((up (up (up M26 81 (w32 (4 * (M26 64 28))) p1) 81 (w32 ((w32 (4 * ((up M26 81 (w32 (4 * (M26 64 28))) p1) 64 28))) + 1)) p2) 81 (w32 ((w32 (4 * ((up (up M26 81 (w32 (4 * (M26 64 28))) p1) 81 (w32 ((w32 (4 * ((up M26 81 (w32 (4 * (M26 64 28))) p1) 64 28))) + 1)) p2) 64 28))) + 2)) v23) 64 28))) + 3)) p3) 64 28) + 1))) 64 28)) else at_M_mend_42 d p1 p2 p3 v23 0 M26 r) else r = (some (0, v23), M)) else r = (some (0, (-1)), M))) else ∃ v33, Cl d m_M_within [(0, p3), (0, 0), (0, 5)] M (some (0, v33), M) ∧ (if ¬ v33 = 0 then ∃ v36, Cl d m_M_get [(2, 64), (0, p1), (0, p2)] M (some (0, v36), M) ∧ (if ¬ v36 = p3 then ∃ M39, Cl d m_M_becomes [(2, 64), (0, p1), (0, p2), (0, p3)] M (none, M39) ∧ (if ¬ M39 64 28 = 40 then (0 ≤ w32 (4 * (M39 64 28)) ∧ w32 (4 * (M39 64 28)) < 160) ∧ (0 ≤ w32 ((w32 (4 * ((up M39 81 (w32 (4 * (M39 64 28))) p1) 64 28))) + 1) ∧ w32 ((w32 (4 * ((up M39 81 (w32 (4 * (M39 64 28))) p1) 64 28))) + 1) < 160) ∧ (0 ≤ w32 ((w32 (4 * ((up (up M39 81 (w32 (4 * (M39 64 28))) p1) 81 (w32 ((w32 (4 * ((up M39 81 (w32 (4 * (M39 64 28))) p1) 64 28))) + 1)) p2) 64 28))) + 2) ∧ w32 ((w32 (4 * ((up (up M39 81 (w32 (4 * (M39 64 28))) p1) 81 (w32 ((w32 (4 * ((up M39 81 (w32 (4 * (M39 64 28))) p1) 64 28))) + 1)) p2) 64 28))) + 2) < 160) ∧ (0 ≤ w32 ((w32 (4 * ((up (up (up M39 81 (w32 (4 * (M39 64 28))) p1) 81 (w32 ((w32 (4 * ((up M39 81 (w32 (4 * (M39 64 28))) p1) 64 28))) + 1)) p2) 81 (w32 ((w32 (4 * ((up (up M39 81 (w32 (4 * (M39 64 28))) p1) 81 (w32 ((w32 (4 * ((up M39 81 (w32 (4 * (M39 64 28))) p1) 64 28))) + 1)) p2) 64 28))) + 2)) v36) 64 28))) + 3) ∧ w32 ((w32 (4 * ((up (up (up M39 81 (w32 (4 * (M39 64 28))) p1) 81 (w32 ((w32 (4 * ((up M39 81 (w32 (4 * (M39 64 28))) p1) 64 28))) + 1)) p2) 81 (w32 ((w32 (4 * ((up (up M39 81 (w32 (4 * (M39 64 28))) p1) 81 (w32 ((w32 (4 * ((up M39 81 (w32 (4 * (M39 64 28))) p1) 64 28))) + 1)) p2) 64 28))) + 2)) v36) 64 28))) + 3) < 160) ∧ r = (some (0, v36), up (up (up (up (up (up M39 81 (w32 (4 * (M39 64 28))) p1) 81 (w32 ((w32 (4 * ((up M39 81 (w32 (4 * (M39 64 28))) p1) 64 28))) + 1)) p2) 81 (w32 ((w32 (4 * ((up (up M39 81 (w32 (4 * (M39 64 28))) p1) 81 (w32 ((w32 (4 * ((up M39 81 (w32 (4 * (M39 64 28))) p1) 64 28))) + 1)) p2) 64 28))) + 2)) v36) 81 (w32 ((w32 (4 * ((up (up (up M39 81 (w32 (4 * (M39 64 28))) p1) 81 (w32 ((w32 (4 * ((up M39 81 (w32 (4 * (M39 64 28))) p1) 64 28))) + 1)) p2) 81 (w32 ((w32 (4 * ((up (up M39 81 (w32 (4 * (M39 64 28))) p1) 81 (w32 ((w32 (4 * ((up M39 81 (w32 (4 * (M39 64 28))) p1) 64 28))) + 1)) p2) 64 28))) + 2)) v36) 64 28))) + 3)) p3) 64 28 (w32 (((up (up (up (up M39 81 (w32 (4 * (M39 64 28))) p1) 81 (w32 ((w32 (4 * ((up M39 81 (w32 (4 * (M39 64 28))) p1) 64 28))) + 1)) p2) 81 (w32 ((w32 (4 * ((up (up M39 81 (w32 (4 * (M39 64 28))) p1) 81 (w32 ((w32 (4 * ((up M39 81 (w32 (4 * (M39 64 28))) p1) 64 28))) + 1)) p2) 64 28))) + 2)) v36) 81 (w32 ((w32 (4 * ((up (up (up M39 81 (w32 (4 * (M39 64 28))) p1) 81 (w32 ((w32 (4 * ((up M39 81 (w32 (4 * (M39 64 28))) p1) 64 28))) + 1)) p2) 81 (w32 ((w32 (4 * ((up (up M39 81 (w32 (4 * (M39 64 28))) p1) 81 (w32 ((w32 (4 * ((up M39 81 (w32 (4 * (M39 64 28))) p1) 64 28))) + 1)) p2) 64 28))) + 2)) v36) 64 28))) + 3)) p3) 64 28) + 1))) 64 27 ((up (up (up (up (up M39 81 (w32 (4 * (M39 64 28))) p1) 81 (w32 ((w32 (4 * ((up M39 81 (w32 (4 * (M39 64 28))) p1) 64 28))) + 1)) p2) 81 (w32 ((w32 (4 * ((up (up M39 81 (w32 (4 * (M39 64 28))) p1) 81 (w32 ((w32 (4 * ((up M39 81 (w32 (4 * (M39 64 28))) p1) 64 28))) + 1)) p2) 64 28))) + 2)) v36) 81 (w32 ((w32 (4 * ((up (up (up M39 81 (w32 (4 * (M39 64 28))) p1) 81 (w32 ((w32 (4 * ((up M39 81 (w32 (4 * (M39 64 28))) p1) 64 28))) + 1)) p2) 81 (w32 ((w32 (4 * ((up (up M39 81 (w32 (4 * (M39 64 28))) p1) 81 (w32 ((w32 (4 * ((up M39 81 (w32 (4 * (M39 64 28))) p1) 64 28))) + 1)) p2) 64 28))) + 2)) v36) 64 28))) + 3)) p3) 64 28 (w32 (((up (up (up (up M39 81 (w32 (4 * (M39 64 28))) p1) 81 (w32 ((w32 (4 * ((up M39 81 (w32 (4 * (M39 64 28))) p1) 64 28))) + 1)) p2) 81 (w32 ((w32 (4 * ((up (up M39 81 (w32 (4 * (M39 64 28))) p1) 81 (w32 ((w32 (4 * ((up M39 81 (w32 (4 * (M39 64 28))) p1) 64 28))) + 1)) p2) 64 28))) + 2)) v36) 81 (w32 ((w32 (4 * ((up (up (up M39 81 (w32 (4 * (M39 64 28))) p1) 81 (w32 ((w32 (4 * ((up M39 81 (w32 (4 * (M39 64 28))) p1) 64 28))) + 1)) p2) 81 (w32 ((w32 (4 * ((up (up M39 81 (w32 (4 * (M39 64 28))) p1) 81 (w32 ((w32 (4 * ((up M39 81 (w32 (4 * (M39 64 28))) p1) 64 28))) + 1)) p2) 64 28))) + 2)) v36) 64 28))) + 3)) p3) 64 28) + 1))) 64 28)) else at_M_mend_42 d p1 p2 p3 v36 0 M39 r) else r = (some (0, v36), M)) else r = (some (0, (-1)), M))))) : Cl (d + 1) m_M_mend [(2, 64), (0, p1), (0, p2), (0, p3)] M r := by
  refine cl_of (c := k_M_mend) (mL := 6) (rz := 1) (rc := 7) (ls := [(2, 64), (0, p1), (0, p2), (0, p3), (3, 0), (3, 0)]) rfl rfl rfl ?_
  refine x_al (pc' := 1) rfl rfl (by decide) rfl ?_
  refine x_il (pc' := 2) rfl rfl rfl ?_
  refine x_il (pc' := 3) rfl rfl rfl ?_
  obtain ⟨v2, q1, h⟩ := h
  refine x_call (pc' := 4) (as := [(2, 64), (0, p1), (0, p2)]) (rest := []) rfl rfl rfl rfl rfl rfl q1 ?_
  refine x_ifeq (pc' := 5) (t' := 19) rfl rfl rfl (fun q3 => ?_) (fun q3 => ?_)
  · replace h := ite_t q3 h
    refine x_c (pc' := 20) rfl rfl ?_
    exact x_iret rfl h
  · replace h := ite_f q3 h
    refine x_il (pc' := 6) rfl rfl rfl ?_
    refine x_c (pc' := 7) rfl rfl ?_
    refine x_il (pc' := 8) rfl rfl rfl ?_
    refine x_ifne (pc' := 9) (t' := 11) rfl rfl rfl (fun q4 => ?_) (fun q4 => ?_)
    · replace h := ite_t q4 h
      refine x_il (pc' := 12) rfl rfl rfl ?_
      refine x_c (pc' := 13) rfl rfl ?_
      refine x_icne (pc' := 14) (t' := 16) rfl rfl rfl (fun q5 => ?_) (fun q5 => ?_)
      · replace h := ite_t q5 h
        refine x_c (pc' := 17) rfl rfl ?_
        obtain ⟨v7, q6, h⟩ := h
        refine x_call (pc' := 18) (as := [(0, p3), (0, 0), (0, 9)]) (rest := []) rfl rfl rfl rfl rfl rfl q6 ?_
        refine x_ifne (pc' := 19) (t' := 21) rfl rfl rfl (fun q8 => ?_) (fun q8 => ?_)
        · replace h := ite_t q8 h
          refine x_al (pc' := 22) rfl rfl (by decide) rfl ?_
          refine x_il (pc' := 23) rfl rfl rfl ?_
          refine x_il (pc' := 24) rfl rfl rfl ?_
          obtain ⟨v10, q9, h⟩ := h
          refine x_call (pc' := 25) (as := [(2, 64), (0, p1), (0, p2)]) (rest := []) rfl rfl rfl rfl rfl rfl q9 ?_
          refine x_is (pc' := 26) (ls' := [(2, 64), (0, p1), (0, p2), (0, p3), (0, v10), (3, 0)]) rfl rfl rfl rfl ?_
          refine x_il (pc' := 27) rfl rfl rfl ?_
          refine x_il (pc' := 28) rfl rfl rfl ?_
          refine x_icne (pc' := 29) (t' := 31) rfl rfl rfl (fun q11 => ?_) (fun q11 => ?_)
          · replace h := ite_t q11 h
            refine x_al (pc' := 32) rfl rfl (by decide) rfl ?_
            refine x_il (pc' := 33) rfl rfl rfl ?_
            refine x_il (pc' := 34) rfl rfl rfl ?_
            refine x_il (pc' := 35) rfl rfl rfl ?_
            obtain ⟨M13, q12, h⟩ := h
            refine x_callv (pc' := 36) (as := [(2, 64), (0, p1), (0, p2), (0, p3)]) (rest := []) rfl rfl rfl rfl rfl rfl q12 ?_
            refine x_al (pc' := 37) rfl rfl (by decide) rfl ?_
            refine x_gf (pc' := 38) (v := M13 64 28) rfl rfl rfl rfl rfl ?_
            refine x_c (pc' := 39) rfl rfl ?_
            refine x_icne (pc' := 40) (t' := 63) rfl rfl rfl (fun q14 => ?_) (fun q14 => ?_)
            · replace h := ite_t q14 h
              refine x_al (pc' := 64) rfl rfl (by decide) rfl ?_
              refine x_gr (pc' := 65) (v := 81) rfl rfl rfl (by decide) rfl ?_
              refine x_c (pc' := 66) rfl rfl ?_
              refine x_al (pc' := 67) rfl rfl (by decide) rfl ?_
              refine x_gf (pc' := 68) (v := M13 64 28) rfl rfl rfl rfl rfl ?_
              refine x_ib (pc' := 69) (v := w32 (4 * (M13 64 28))) rfl rfl rfl ?_
              refine x_il (pc' := 70) rfl rfl rfl ?_
              obtain ⟨q15, h⟩ := h
              refine x_ist (pc' := 71) 160 (M2 := up M13 81 (w32 (4 * (M13 64 28))) p1) rfl rfl rfl q15.1 q15.2 rfl ?_
              refine x_al (pc' := 72) rfl rfl (by decide) rfl ?_
              refine x_gr (pc' := 73) (v := 81) rfl rfl rfl (by decide) rfl ?_
              refine x_c (pc' := 74) rfl rfl ?_
              refine x_al (pc' := 75) rfl rfl (by decide) rfl ?_
              refine x_gf (pc' := 76) (v := (up M13 81 (w32 (4 * (M13 64 28))) p1) 64 28) rfl rfl rfl rfl rfl ?_
              refine x_ib (pc' := 77) (v := w32 (4 * ((up M13 81 (w32 (4 * (M13 64 28))) p1) 64 28))) rfl rfl rfl ?_
              refine x_c (pc' := 78) rfl rfl ?_
              refine x_ib (pc' := 79) (v := w32 ((w32 (4 * ((up M13 81 (w32 (4 * (M13 64 28))) p1) 64 28))) + 1)) rfl rfl rfl ?_
              refine x_il (pc' := 80) rfl rfl rfl ?_
              obtain ⟨q16, h⟩ := h
              refine x_ist (pc' := 81) 160 (M2 := up (up M13 81 (w32 (4 * (M13 64 28))) p1) 81 (w32 ((w32 (4 * ((up M13 81 (w32 (4 * (M13 64 28))) p1) 64 28))) + 1)) p2) rfl rfl rfl q16.1 q16.2 rfl ?_
              refine x_al (pc' := 82) rfl rfl (by decide) rfl ?_
              refine x_gr (pc' := 83) (v := 81) rfl rfl rfl (by decide) rfl ?_
              refine x_c (pc' := 84) rfl rfl ?_
              refine x_al (pc' := 85) rfl rfl (by decide) rfl ?_
              refine x_gf (pc' := 86) (v := (up (up M13 81 (w32 (4 * (M13 64 28))) p1) 81 (w32 ((w32 (4 * ((up M13 81 (w32 (4 * (M13 64 28))) p1) 64 28))) + 1)) p2) 64 28) rfl rfl rfl rfl rfl ?_
              refine x_ib (pc' := 87) (v := w32 (4 * ((up (up M13 81 (w32 (4 * (M13 64 28))) p1) 81 (w32 ((w32 (4 * ((up M13 81 (w32 (4 * (M13 64 28))) p1) 64 28))) + 1)) p2) 64 28))) rfl rfl rfl ?_
              refine x_c (pc' := 88) rfl rfl ?_
              refine x_ib (pc' := 89) (v := w32 ((w32 (4 * ((up (up M13 81 (w32 (4 * (M13 64 28))) p1) 81 (w32 ((w32 (4 * ((up M13 81 (w32 (4 * (M13 64 28))) p1) 64 28))) + 1)) p2) 64 28))) + 2)) rfl rfl rfl ?_
              refine x_il (pc' := 90) rfl rfl rfl ?_
              obtain ⟨q17, h⟩ := h
              refine x_ist (pc' := 91) 160 (M2 := up (up (up M13 81 (w32 (4 * (M13 64 28))) p1) 81 (w32 ((w32 (4 * ((up M13 81 (w32 (4 * (M13 64 28))) p1) 64 28))) + 1)) p2) 81 (w32 ((w32 (4 * ((up (up M13 81 (w32 (4 * (M13 64 28))) p1) 81 (w32 ((w32 (4 * ((up M13 81 (w32 (4 * (M13 64 28))) p1) 64 28))) + 1)) p2) 64 28))) + 2)) v10) rfl rfl rfl q17.1 q17.2 rfl ?_
              refine x_al (pc' := 92) rfl rfl (by decide) rfl ?_
              refine x_gr (pc' := 93) (v := 81) rfl rfl rfl (by decide) rfl ?_
              refine x_c (pc' := 94) rfl rfl ?_
              refine x_al (pc' := 95) rfl rfl (by decide) rfl ?_
              refine x_gf (pc' := 96) (v := (up (up (up M13 81 (w32 (4 * (M13 64 28))) p1) 81 (w32 ((w32 (4 * ((up M13 81 (w32 (4 * (M13 64 28))) p1) 64 28))) + 1)) p2) 81 (w32 ((w32 (4 * ((up (up M13 81 (w32 (4 * (M13 64 28))) p1) 81 (w32 ((w32 (4 * ((up M13 81 (w32 (4 * (M13 64 28))) p1) 64 28))) + 1)) p2) 64 28))) + 2)) v10) 64 28) rfl rfl rfl rfl rfl ?_
              refine x_ib (pc' := 97) (v := w32 (4 * ((up (up (up M13 81 (w32 (4 * (M13 64 28))) p1) 81 (w32 ((w32 (4 * ((up M13 81 (w32 (4 * (M13 64 28))) p1) 64 28))) + 1)) p2) 81 (w32 ((w32 (4 * ((up (up M13 81 (w32 (4 * (M13 64 28))) p1) 81 (w32 ((w32 (4 * ((up M13 81 (w32 (4 * (M13 64 28))) p1) 64 28))) + 1)) p2) 64 28))) + 2)) v10) 64 28))) rfl rfl rfl ?_
              refine x_c (pc' := 98) rfl rfl ?_
              refine x_ib (pc' := 99) (v := w32 ((w32 (4 * ((up (up (up M13 81 (w32 (4 * (M13 64 28))) p1) 81 (w32 ((w32 (4 * ((up M13 81 (w32 (4 * (M13 64 28))) p1) 64 28))) + 1)) p2) 81 (w32 ((w32 (4 * ((up (up M13 81 (w32 (4 * (M13 64 28))) p1) 81 (w32 ((w32 (4 * ((up M13 81 (w32 (4 * (M13 64 28))) p1) 64 28))) + 1)) p2) 64 28))) + 2)) v10) 64 28))) + 3)) rfl rfl rfl ?_
              refine x_il (pc' := 100) rfl rfl rfl ?_
              obtain ⟨q18, h⟩ := h
              refine x_ist (pc' := 101) 160 (M2 := up (up (up (up M13 81 (w32 (4 * (M13 64 28))) p1) 81 (w32 ((w32 (4 * ((up M13 81 (w32 (4 * (M13 64 28))) p1) 64 28))) + 1)) p2) 81 (w32 ((w32 (4 * ((up (up M13 81 (w32 (4 * (M13 64 28))) p1) 81 (w32 ((w32 (4 * ((up M13 81 (w32 (4 * (M13 64 28))) p1) 64 28))) + 1)) p2) 64 28))) + 2)) v10) 81 (w32 ((w32 (4 * ((up (up (up M13 81 (w32 (4 * (M13 64 28))) p1) 81 (w32 ((w32 (4 * ((up M13 81 (w32 (4 * (M13 64 28))) p1) 64 28))) + 1)) p2) 81 (w32 ((w32 (4 * ((up (up M13 81 (w32 (4 * (M13 64 28))) p1) 81 (w32 ((w32 (4 * ((up M13 81 (w32 (4 * (M13 64 28))) p1) 64 28))) + 1)) p2) 64 28))) + 2)) v10) 64 28))) + 3)) p3) rfl rfl rfl q18.1 q18.2 rfl ?_
              refine x_al (pc' := 102) rfl rfl (by decide) rfl ?_
              refine x_dupa (pc' := 103) rfl rfl ?_
              refine x_gf (pc' := 104) (v := (up (up (up (up M13 81 (w32 (4 * (M13 64 28))) p1) 81 (w32 ((w32 (4 * ((up M13 81 (w32 (4 * (M13 64 28))) p1) 64 28))) + 1)) p2) 81 (w32 ((w32 (4 * ((up (up M13 81 (w32 (4 * (M13 64 28))) p1) 81 (w32 ((w32 (4 * ((up M13 81 (w32 (4 * (M13 64 28))) p1) 64 28))) + 1)) p2) 64 28))) + 2)) v10) 81 (w32 ((w32 (4 * ((up (up (up M13 81 (w32 (4 * (M13 64 28))) p1) 81 (w32 ((w32 (4 * ((up M13 81 (w32 (4 * (M13 64 28))) p1) 64 28))) + 1)) p2) 81 (w32 ((w32 (4 * ((up (up M13 81 (w32 (4 * (M13 64 28))) p1) 81 (w32 ((w32 (4 * ((up M13 81 (w32 (4 * (M13 64 28))) p1) 64 28))) + 1)) p2) 64 28))) + 2)) v10) 64 28))) + 3)) p3) 64 28) rfl rfl rfl rfl rfl ?_
              refine x_c (pc' := 105) rfl rfl ?_
              refine x_ib (pc' := 106) (v := w32 (((up (up (up (up M13 81 (w32 (4 * (M13 64 28))) p1) 81 (w32 ((w32 (4 * ((up M13 81 (w32 (4 * (M13 64 28))) p1) 64 28))) + 1)) p2) 81 (w32 ((w32 (4 * ((up (up M13 81 (w32 (4 * (M13 64 28))) p1) 81 (w32 ((w32 (4 * ((up M13 81 (w32 (4 * (M13 64 28))) p1) 64 28))) + 1)) p2) 64 28))) + 2)) v10) 81 (w32 ((w32 (4 * ((up (up (up M13 81 (w32 (4 * (M13 64 28))) p1) 81 (w32 ((w32 (4 * ((up M13 81 (w32 (4 * (M13 64 28))) p1) 64 28))) + 1)) p2) 81 (w32 ((w32 (4 * ((up (up M13 81 (w32 (4 * (M13 64 28))) p1) 81 (w32 ((w32 (4 * ((up M13 81 (w32 (4 * (M13 64 28))) p1) 64 28))) + 1)) p2) 64 28))) + 2)) v10) 64 28))) + 3)) p3) 64 28) + 1)) rfl rfl rfl ?_
              refine x_pf (pc' := 107) (M2 := up (up (up (up (up M13 81 (w32 (4 * (M13 64 28))) p1) 81 (w32 ((w32 (4 * ((up M13 81 (w32 (4 * (M13 64 28))) p1) 64 28))) + 1)) p2) 81 (w32 ((w32 (4 * ((up (up M13 81 (w32 (4 * (M13 64 28))) p1) 81 (w32 ((w32 (4 * ((up M13 81 (w32 (4 * (M13 64 28))) p1) 64 28))) + 1)) p2) 64 28))) + 2)) v10) 81 (w32 ((w32 (4 * ((up (up (up M13 81 (w32 (4 * (M13 64 28))) p1) 81 (w32 ((w32 (4 * ((up M13 81 (w32 (4 * (M13 64 28))) p1) 64 28))) + 1)) p2) 81 (w32 ((w32 (4 * ((up (up M13 81 (w32 (4 * (M13 64 28))) p1) 81 (w32 ((w32 (4 * ((up M13 81 (w32 (4 * (M13 64 28))) p1) 64 28))) + 1)) p2) 64 28))) + 2)) v10) 64 28))) + 3)) p3) 64 28 (w32 (((up (up (up (up M13 81 (w32 (4 * (M13 64 28))) p1) 81 (w32 ((w32 (4 * ((up M13 81 (w32 (4 * (M13 64 28))) p1) 64 28))) + 1)) p2) 81 (w32 ((w32 (4 * ((up (up M13 81 (w32 (4 * (M13 64 28))) p1) 81 (w32 ((w32 (4 * ((up M13 81 (w32 (4 * (M13 64 28))) p1) 64 28))) + 1)) p2) 64 28))) + 2)) v10) 81 (w32 ((w32 (4 * ((up (up (up M13 81 (w32 (4 * (M13 64 28))) p1) 81 (w32 ((w32 (4 * ((up M13 81 (w32 (4 * (M13 64 28))) p1) 64 28))) + 1)) p2) 81 (w32 ((w32 (4 * ((up (up M13 81 (w32 (4 * (M13 64 28))) p1) 81 (w32 ((w32 (4 * ((up M13 81 (w32 (4 * (M13 64 28))) p1) 64 28))) + 1)) p2) 64 28))) + 2)) v10) 64 28))) + 3)) p3) 64 28) + 1))) rfl rfl rfl rfl ?_
              refine x_al (pc' := 108) rfl rfl (by decide) rfl ?_
              refine x_al (pc' := 109) rfl rfl (by decide) rfl ?_
              refine x_gf (pc' := 110) (v := (up (up (up (up (up M13 81 (w32 (4 * (M13 64 28))) p1) 81 (w32 ((w32 (4 * ((up M13 81 (w32 (4 * (M13 64 28))) p1) 64 28))) + 1)) p2) 81 (w32 ((w32 (4 * ((up (up M13 81 (w32 (4 * (M13 64 28))) p1) 81 (w32 ((w32 (4 * ((up M13 81 (w32 (4 * (M13 64 28))) p1) 64 28))) + 1)) p2) 64 28))) + 2)) v10) 81 (w32 ((w32 (4 * ((up (up (up M13 81 (w32 (4 * (M13 64 28))) p1) 81 (w32 ((w32 (4 * ((up M13 81 (w32 (4 * (M13 64 28))) p1) 64 28))) + 1)) p2) 81 (w32 ((w32 (4 * ((up (up M13 81 (w32 (4 * (M13 64 28))) p1) 81 (w32 ((w32 (4 * ((up M13 81 (w32 (4 * (M13 64 28))) p1) 64 28))) + 1)) p2) 64 28))) + 2)) v10) 64 28))) + 3)) p3) 64 28 (w32 (((up (up (up (up M13 81 (w32 (4 * (M13 64 28))) p1) 81 (w32 ((w32 (4 * ((up M13 81 (w32 (4 * (M13 64 28))) p1) 64 28))) + 1)) p2) 81 (w32 ((w32 (4 * ((up (up M13 81 (w32 (4 * (M13 64 28))) p1) 81 (w32 ((w32 (4 * ((up M13 81 (w32 (4 * (M13 64 28))) p1) 64 28))) + 1)) p2) 64 28))) + 2)) v10) 81 (w32 ((w32 (4 * ((up (up (up M13 81 (w32 (4 * (M13 64 28))) p1) 81 (w32 ((w32 (4 * ((up M13 81 (w32 (4 * (M13 64 28))) p1) 64 28))) + 1)) p2) 81 (w32 ((w32 (4 * ((up (up M13 81 (w32 (4 * (M13 64 28))) p1) 81 (w32 ((w32 (4 * ((up M13 81 (w32 (4 * (M13 64 28))) p1) 64 28))) + 1)) p2) 64 28))) + 2)) v10) 64 28))) + 3)) p3) 64 28) + 1))) 64 28) rfl rfl rfl rfl rfl ?_
              refine x_pf (pc' := 111) (M2 := up (up (up (up (up (up M13 81 (w32 (4 * (M13 64 28))) p1) 81 (w32 ((w32 (4 * ((up M13 81 (w32 (4 * (M13 64 28))) p1) 64 28))) + 1)) p2) 81 (w32 ((w32 (4 * ((up (up M13 81 (w32 (4 * (M13 64 28))) p1) 81 (w32 ((w32 (4 * ((up M13 81 (w32 (4 * (M13 64 28))) p1) 64 28))) + 1)) p2) 64 28))) + 2)) v10) 81 (w32 ((w32 (4 * ((up (up (up M13 81 (w32 (4 * (M13 64 28))) p1) 81 (w32 ((w32 (4 * ((up M13 81 (w32 (4 * (M13 64 28))) p1) 64 28))) + 1)) p2) 81 (w32 ((w32 (4 * ((up (up M13 81 (w32 (4 * (M13 64 28))) p1) 81 (w32 ((w32 (4 * ((up M13 81 (w32 (4 * (M13 64 28))) p1) 64 28))) + 1)) p2) 64 28))) + 2)) v10) 64 28))) + 3)) p3) 64 28 (w32 (((up (up (up (up M13 81 (w32 (4 * (M13 64 28))) p1) 81 (w32 ((w32 (4 * ((up M13 81 (w32 (4 * (M13 64 28))) p1) 64 28))) + 1)) p2) 81 (w32 ((w32 (4 * ((up (up M13 81 (w32 (4 * (M13 64 28))) p1) 81 (w32 ((w32 (4 * ((up M13 81 (w32 (4 * (M13 64 28))) p1) 64 28))) + 1)) p2) 64 28))) + 2)) v10) 81 (w32 ((w32 (4 * ((up (up (up M13 81 (w32 (4 * (M13 64 28))) p1) 81 (w32 ((w32 (4 * ((up M13 81 (w32 (4 * (M13 64 28))) p1) 64 28))) + 1)) p2) 81 (w32 ((w32 (4 * ((up (up M13 81 (w32 (4 * (M13 64 28))) p1) 81 (w32 ((w32 (4 * ((up M13 81 (w32 (4 * (M13 64 28))) p1) 64 28))) + 1)) p2) 64 28))) + 2)) v10) 64 28))) + 3)) p3) 64 28) + 1))) 64 27 ((up (up (up (up (up M13 81 (w32 (4 * (M13 64 28))) p1) 81 (w32 ((w32 (4 * ((up M13 81 (w32 (4 * (M13 64 28))) p1) 64 28))) + 1)) p2) 81 (w32 ((w32 (4 * ((up (up M13 81 (w32 (4 * (M13 64 28))) p1) 81 (w32 ((w32 (4 * ((up M13 81 (w32 (4 * (M13 64 28))) p1) 64 28))) + 1)) p2) 64 28))) + 2)) v10) 81 (w32 ((w32 (4 * ((up (up (up M13 81 (w32 (4 * (M13 64 28))) p1) 81 (w32 ((w32 (4 * ((up M13 81 (w32 (4 * (M13 64 28))) p1) 64 28))) + 1)) p2) 81 (w32 ((w32 (4 * ((up (up M13 81 (w32 (4 * (M13 64 28))) p1) 81 (w32 ((w32 (4 * ((up M13 81 (w32 (4 * (M13 64 28))) p1) 64 28))) + 1)) p2) 64 28))) + 2)) v10) 64 28))) + 3)) p3) 64 28 (w32 (((up (up (up (up M13 81 (w32 (4 * (M13 64 28))) p1) 81 (w32 ((w32 (4 * ((up M13 81 (w32 (4 * (M13 64 28))) p1) 64 28))) + 1)) p2) 81 (w32 ((w32 (4 * ((up (up M13 81 (w32 (4 * (M13 64 28))) p1) 81 (w32 ((w32 (4 * ((up M13 81 (w32 (4 * (M13 64 28))) p1) 64 28))) + 1)) p2) 64 28))) + 2)) v10) 81 (w32 ((w32 (4 * ((up (up (up M13 81 (w32 (4 * (M13 64 28))) p1) 81 (w32 ((w32 (4 * ((up M13 81 (w32 (4 * (M13 64 28))) p1) 64 28))) + 1)) p2) 81 (w32 ((w32 (4 * ((up (up M13 81 (w32 (4 * (M13 64 28))) p1) 81 (w32 ((w32 (4 * ((up M13 81 (w32 (4 * (M13 64 28))) p1) 64 28))) + 1)) p2) 64 28))) + 2)) v10) 64 28))) + 3)) p3) 64 28) + 1))) 64 28)) rfl rfl rfl rfl ?_
              refine x_il (pc' := 112) rfl rfl rfl ?_
              exact x_iret rfl h
            · replace h := ite_f q14 h
              refine x_c (pc' := 41) rfl rfl ?_
              refine x_is (pc' := 42) (ls' := [(2, 64), (0, p1), (0, p2), (0, p3), (0, v10), (0, 0)]) rfl rfl rfl rfl ?_
              exact h
          · replace h := ite_f q11 h
            refine x_il (pc' := 30) rfl rfl rfl ?_
            exact x_iret rfl h
        · replace h := ite_f q8 h
          refine x_c (pc' := 20) rfl rfl ?_
          exact x_iret rfl h
      · replace h := ite_f q5 h
        refine x_c (pc' := 15) rfl rfl ?_
        refine x_goto (t' := 17) rfl rfl ?_
        obtain ⟨v20, q19, h⟩ := h
        refine x_call (pc' := 18) (as := [(0, p3), (0, 0), (0, 30)]) (rest := []) rfl rfl rfl rfl rfl rfl q19 ?_
        refine x_ifne (pc' := 19) (t' := 21) rfl rfl rfl (fun q21 => ?_) (fun q21 => ?_)
        · replace h := ite_t q21 h
          refine x_al (pc' := 22) rfl rfl (by decide) rfl ?_
          refine x_il (pc' := 23) rfl rfl rfl ?_
          refine x_il (pc' := 24) rfl rfl rfl ?_
          obtain ⟨v23, q22, h⟩ := h
          refine x_call (pc' := 25) (as := [(2, 64), (0, p1), (0, p2)]) (rest := []) rfl rfl rfl rfl rfl rfl q22 ?_
          refine x_is (pc' := 26) (ls' := [(2, 64), (0, p1), (0, p2), (0, p3), (0, v23), (3, 0)]) rfl rfl rfl rfl ?_
          refine x_il (pc' := 27) rfl rfl rfl ?_
          refine x_il (pc' := 28) rfl rfl rfl ?_
          refine x_icne (pc' := 29) (t' := 31) rfl rfl rfl (fun q24 => ?_) (fun q24 => ?_)
          · replace h := ite_t q24 h
            refine x_al (pc' := 32) rfl rfl (by decide) rfl ?_
            refine x_il (pc' := 33) rfl rfl rfl ?_
            refine x_il (pc' := 34) rfl rfl rfl ?_
            refine x_il (pc' := 35) rfl rfl rfl ?_
            obtain ⟨M26, q25, h⟩ := h
            refine x_callv (pc' := 36) (as := [(2, 64), (0, p1), (0, p2), (0, p3)]) (rest := []) rfl rfl rfl rfl rfl rfl q25 ?_
            refine x_al (pc' := 37) rfl rfl (by decide) rfl ?_
            refine x_gf (pc' := 38) (v := M26 64 28) rfl rfl rfl rfl rfl ?_
            refine x_c (pc' := 39) rfl rfl ?_
            refine x_icne (pc' := 40) (t' := 63) rfl rfl rfl (fun q27 => ?_) (fun q27 => ?_)
            · replace h := ite_t q27 h
              refine x_al (pc' := 64) rfl rfl (by decide) rfl ?_
              refine x_gr (pc' := 65) (v := 81) rfl rfl rfl (by decide) rfl ?_
              refine x_c (pc' := 66) rfl rfl ?_
              refine x_al (pc' := 67) rfl rfl (by decide) rfl ?_
              refine x_gf (pc' := 68) (v := M26 64 28) rfl rfl rfl rfl rfl ?_
              refine x_ib (pc' := 69) (v := w32 (4 * (M26 64 28))) rfl rfl rfl ?_
              refine x_il (pc' := 70) rfl rfl rfl ?_
              obtain ⟨q28, h⟩ := h
              refine x_ist (pc' := 71) 160 (M2 := up M26 81 (w32 (4 * (M26 64 28))) p1) rfl rfl rfl q28.1 q28.2 rfl ?_
              refine x_al (pc' := 72) rfl rfl (by decide) rfl ?_
              refine x_gr (pc' := 73) (v := 81) rfl rfl rfl (by decide) rfl ?_
              refine x_c (pc' := 74) rfl rfl ?_
              refine x_al (pc' := 75) rfl rfl (by decide) rfl ?_
              refine x_gf (pc' := 76) (v := (up M26 81 (w32 (4 * (M26 64 28))) p1) 64 28) rfl rfl rfl rfl rfl ?_
              refine x_ib (pc' := 77) (v := w32 (4 * ((up M26 81 (w32 (4 * (M26 64 28))) p1) 64 28))) rfl rfl rfl ?_
              refine x_c (pc' := 78) rfl rfl ?_
              refine x_ib (pc' := 79) (v := w32 ((w32 (4 * ((up M26 81 (w32 (4 * (M26 64 28))) p1) 64 28))) + 1)) rfl rfl rfl ?_
              refine x_il (pc' := 80) rfl rfl rfl ?_
              obtain ⟨q29, h⟩ := h
              refine x_ist (pc' := 81) 160 (M2 := up (up M26 81 (w32 (4 * (M26 64 28))) p1) 81 (w32 ((w32 (4 * ((up M26 81 (w32 (4 * (M26 64 28))) p1) 64 28))) + 1)) p2) rfl rfl rfl q29.1 q29.2 rfl ?_
              refine x_al (pc' := 82) rfl rfl (by decide) rfl ?_
              refine x_gr (pc' := 83) (v := 81) rfl rfl rfl (by decide) rfl ?_
              refine x_c (pc' := 84) rfl rfl ?_
              refine x_al (pc' := 85) rfl rfl (by decide) rfl ?_
              refine x_gf (pc' := 86) (v := (up (up M26 81 (w32 (4 * (M26 64 28))) p1) 81 (w32 ((w32 (4 * ((up M26 81 (w32 (4 * (M26 64 28))) p1) 64 28))) + 1)) p2) 64 28) rfl rfl rfl rfl rfl ?_
              refine x_ib (pc' := 87) (v := w32 (4 * ((up (up M26 81 (w32 (4 * (M26 64 28))) p1) 81 (w32 ((w32 (4 * ((up M26 81 (w32 (4 * (M26 64 28))) p1) 64 28))) + 1)) p2) 64 28))) rfl rfl rfl ?_
              refine x_c (pc' := 88) rfl rfl ?_
              refine x_ib (pc' := 89) (v := w32 ((w32 (4 * ((up (up M26 81 (w32 (4 * (M26 64 28))) p1) 81 (w32 ((w32 (4 * ((up M26 81 (w32 (4 * (M26 64 28))) p1) 64 28))) + 1)) p2) 64 28))) + 2)) rfl rfl rfl ?_
              refine x_il (pc' := 90) rfl rfl rfl ?_
              obtain ⟨q30, h⟩ := h
              refine x_ist (pc' := 91) 160 (M2 := up (up (up M26 81 (w32 (4 * (M26 64 28))) p1) 81 (w32 ((w32 (4 * ((up M26 81 (w32 (4 * (M26 64 28))) p1) 64 28))) + 1)) p2) 81 (w32 ((w32 (4 * ((up (up M26 81 (w32 (4 * (M26 64 28))) p1) 81 (w32 ((w32 (4 * ((up M26 81 (w32 (4 * (M26 64 28))) p1) 64 28))) + 1)) p2) 64 28))) + 2)) v23) rfl rfl rfl q30.1 q30.2 rfl ?_
              refine x_al (pc' := 92) rfl rfl (by decide) rfl ?_
              refine x_gr (pc' := 93) (v := 81) rfl rfl rfl (by decide) rfl ?_
              refine x_c (pc' := 94) rfl rfl ?_
              refine x_al (pc' := 95) rfl rfl (by decide) rfl ?_
              refine x_gf (pc' := 96) (v := (up (up (up M26 81 (w32 (4 * (M26 64 28))) p1) 81 (w32 ((w32 (4 * ((up M26 81 (w32 (4 * (M26 64 28))) p1) 64 28))) + 1)) p2) 81 (w32 ((w32 (4 * ((up (up M26 81 (w32 (4 * (M26 64 28))) p1) 81 (w32 ((w32 (4 * ((up M26 81 (w32 (4 * (M26 64 28))) p1) 64 28))) + 1)) p2) 64 28))) + 2)) v23) 64 28) rfl rfl rfl rfl rfl ?_
              refine x_ib (pc' := 97) (v := w32 (4 * ((up (up (up M26 81 (w32 (4 * (M26 64 28))) p1) 81 (w32 ((w32 (4 * ((up M26 81 (w32 (4 * (M26 64 28))) p1) 64 28))) + 1)) p2) 81 (w32 ((w32 (4 * ((up (up M26 81 (w32 (4 * (M26 64 28))) p1) 81 (w32 ((w32 (4 * ((up M26 81 (w32 (4 * (M26 64 28))) p1) 64 28))) + 1)) p2) 64 28))) + 2)) v23) 64 28))) rfl rfl rfl ?_
              refine x_c (pc' := 98) rfl rfl ?_
              refine x_ib (pc' := 99) (v := w32 ((w32 (4 * ((up (up (up M26 81 (w32 (4 * (M26 64 28))) p1) 81 (w32 ((w32 (4 * ((up M26 81 (w32 (4 * (M26 64 28))) p1) 64 28))) + 1)) p2) 81 (w32 ((w32 (4 * ((up (up M26 81 (w32 (4 * (M26 64 28))) p1) 81 (w32 ((w32 (4 * ((up M26 81 (w32 (4 * (M26 64 28))) p1) 64 28))) + 1)) p2) 64 28))) + 2)) v23) 64 28))) + 3)) rfl rfl rfl ?_
              refine x_il (pc' := 100) rfl rfl rfl ?_
              obtain ⟨q31, h⟩ := h
              refine x_ist (pc' := 101) 160 (M2 := up (up (up (up M26 81 (w32 (4 * (M26 64 28))) p1) 81 (w32 ((w32 (4 * ((up M26 81 (w32 (4 * (M26 64 28))) p1) 64 28))) + 1)) p2) 81 (w32 ((w32 (4 * ((up (up M26 81 (w32 (4 * (M26 64 28))) p1) 81 (w32 ((w32 (4 * ((up M26 81 (w32 (4 * (M26 64 28))) p1) 64 28))) + 1)) p2) 64 28))) + 2)) v23) 81 (w32 ((w32 (4 * ((up (up (up M26 81 (w32 (4 * (M26 64 28))) p1) 81 (w32 ((w32 (4 * ((up M26 81 (w32 (4 * (M26 64 28))) p1) 64 28))) + 1)) p2) 81 (w32 ((w32 (4 * ((up (up M26 81 (w32 (4 * (M26 64 28))) p1) 81 (w32 ((w32 (4 * ((up M26 81 (w32 (4 * (M26 64 28))) p1) 64 28))) + 1)) p2) 64 28))) + 2)) v23) 64 28))) + 3)) p3) rfl rfl rfl q31.1 q31.2 rfl ?_
              refine x_al (pc' := 102) rfl rfl (by decide) rfl ?_
              refine x_dupa (pc' := 103) rfl rfl ?_
              refine x_gf (pc' := 104) (v := (up (up (up (up M26 81 (w32 (4 * (M26 64 28))) p1) 81 (w32 ((w32 (4 * ((up M26 81 (w32 (4 * (M26 64 28))) p1) 64 28))) + 1)) p2) 81 (w32 ((w32 (4 * ((up (up M26 81 (w32 (4 * (M26 64 28))) p1) 81 (w32 ((w32 (4 * ((up M26 81 (w32 (4 * (M26 64 28))) p1) 64 28))) + 1)) p2) 64 28))) + 2)) v23) 81 (w32 ((w32 (4 * ((up (up (up M26 81 (w32 (4 * (M26 64 28))) p1) 81 (w32 ((w32 (4 * ((up M26 81 (w32 (4 * (M26 64 28))) p1) 64 28))) + 1)) p2) 81 (w32 ((w32 (4 * ((up (up M26 81 (w32 (4 * (M26 64 28))) p1) 81 (w32 ((w32 (4 * ((up M26 81 (w32 (4 * (M26 64 28))) p1) 64 28))) + 1)) p2) 64 28))) + 2)) v23) 64 28))) + 3)) p3) 64 28) rfl rfl rfl rfl rfl ?_
              refine x_c (pc' := 105) rfl rfl ?_
              refine x_ib (pc' := 106) (v := w32 (((up (up (up (up M26 81 (w32 (4 * (M26 64 28))) p1) 81 (w32 ((w32 (4 * ((up M26 81 (w32 (4 * (M26 64 28))) p1) 64 28))) + 1)) p2) 81 (w32 ((w32 (4 * ((up (up M26 81 (w32 (4 * (M26 64 28))) p1) 81 (w32 ((w32 (4 * ((up M26 81 (w32 (4 * (M26 64 28))) p1) 64 28))) + 1)) p2) 64 28))) + 2)) v23) 81 (w32 ((w32 (4 * ((up (up (up M26 81 (w32 (4 * (M26 64 28))) p1) 81 (w32 ((w32 (4 * ((up M26 81 (w32 (4 * (M26 64 28))) p1) 64 28))) + 1)) p2) 81 (w32 ((w32 (4 * ((up (up M26 81 (w32 (4 * (M26 64 28))) p1) 81 (w32 ((w32 (4 * ((up M26 81 (w32 (4 * (M26 64 28))) p1) 64 28))) + 1)) p2) 64 28))) + 2)) v23) 64 28))) + 3)) p3) 64 28) + 1)) rfl rfl rfl ?_
              refine x_pf (pc' := 107) (M2 := up (up (up (up (up M26 81 (w32 (4 * (M26 64 28))) p1) 81 (w32 ((w32 (4 * ((up M26 81 (w32 (4 * (M26 64 28))) p1) 64 28))) + 1)) p2) 81 (w32 ((w32 (4 * ((up (up M26 81 (w32 (4 * (M26 64 28))) p1) 81 (w32 ((w32 (4 * ((up M26 81 (w32 (4 * (M26 64 28))) p1) 64 28))) + 1)) p2) 64 28))) + 2)) v23) 81 (w32 ((w32 (4 * ((up (up (up M26 81 (w32 (4 * (M26 64 28))) p1) 81 (w32 ((w32 (4 * ((up M26 81 (w32 (4 * (M26 64 28))) p1) 64 28))) + 1)) p2) 81 (w32 ((w32 (4 * ((up (up M26 81 (w32 (4 * (M26 64 28))) p1) 81 (w32 ((w32 (4 * ((up M26 81 (w32 (4 * (M26 64 28))) p1) 64 28))) + 1)) p2) 64 28))) + 2)) v23) 64 28))) + 3)) p3) 64 28 (w32 (((up (up (up (up M26 81 (w32 (4 * (M26 64 28))) p1) 81 (w32 ((w32 (4 * ((up M26 81 (w32 (4 * (M26 64 28))) p1) 64 28))) + 1)) p2) 81 (w32 ((w32 (4 * ((up (up M26 81 (w32 (4 * (M26 64 28))) p1) 81 (w32 ((w32 (4 * ((up M26 81 (w32 (4 * (M26 64 28))) p1) 64 28))) + 1)) p2) 64 28))) + 2)) v23) 81 (w32 ((w32 (4 * ((up (up (up M26 81 (w32 (4 * (M26 64 28))) p1) 81 (w32 ((w32 (4 * ((up M26 81 (w32 (4 * (M26 64 28))) p1) 64 28))) + 1)) p2) 81 (w32 ((w32 (4 * ((up (up M26 81 (w32 (4 * (M26 64 28))) p1) 81 (w32 ((w32 (4 * ((up M26 81 (w32 (4 * (M26 64 28))) p1) 64 28))) + 1)) p2) 64 28))) + 2)) v23) 64 28))) + 3)) p3) 64 28) + 1))) rfl rfl rfl rfl ?_
              refine x_al (pc' := 108) rfl rfl (by decide) rfl ?_
              refine x_al (pc' := 109) rfl rfl (by decide) rfl ?_
              refine x_gf (pc' := 110) (v := (up (up (up (up (up M26 81 (w32 (4 * (M26 64 28))) p1) 81 (w32 ((w32 (4 * ((up M26 81 (w32 (4 * (M26 64 28))) p1) 64 28))) + 1)) p2) 81 (w32 ((w32 (4 * ((up (up M26 81 (w32 (4 * (M26 64 28))) p1) 81 (w32 ((w32 (4 * ((up M26 81 (w32 (4 * (M26 64 28))) p1) 64 28))) + 1)) p2) 64 28))) + 2)) v23) 81 (w32 ((w32 (4 * ((up (up (up M26 81 (w32 (4 * (M26 64 28))) p1) 81 (w32 ((w32 (4 * ((up M26 81 (w32 (4 * (M26 64 28))) p1) 64 28))) + 1)) p2) 81 (w32 ((w32 (4 * ((up (up M26 81 (w32 (4 * (M26 64 28))) p1) 81 (w32 ((w32 (4 * ((up M26 81 (w32 (4 * (M26 64 28))) p1) 64 28))) + 1)) p2) 64 28))) + 2)) v23) 64 28))) + 3)) p3) 64 28 (w32 (((up (up (up (up M26 81 (w32 (4 * (M26 64 28))) p1) 81 (w32 ((w32 (4 * ((up M26 81 (w32 (4 * (M26 64 28))) p1) 64 28))) + 1)) p2) 81 (w32 ((w32 (4 * ((up (up M26 81 (w32 (4 * (M26 64 28))) p1) 81 (w32 ((w32 (4 * ((up M26 81 (w32 (4 * (M26 64 28))) p1) 64 28))) + 1)) p2) 64 28))) + 2)) v23) 81 (w32 ((w32 (4 * ((up (up (up M26 81 (w32 (4 * (M26 64 28))) p1) 81 (w32 ((w32 (4 * ((up M26 81 (w32 (4 * (M26 64 28))) p1) 64 28))) + 1)) p2) 81 (w32 ((w32 (4 * ((up (up M26 81 (w32 (4 * (M26 64 28))) p1) 81 (w32 ((w32 (4 * ((up M26 81 (w32 (4 * (M26 64 28))) p1) 64 28))) + 1)) p2) 64 28))) + 2)) v23) 64 28))) + 3)) p3) 64 28) + 1))) 64 28) rfl rfl rfl rfl rfl ?_
              refine x_pf (pc' := 111) (M2 := up (up (up (up (up (up M26 81 (w32 (4 * (M26 64 28))) p1) 81 (w32 ((w32 (4 * ((up M26 81 (w32 (4 * (M26 64 28))) p1) 64 28))) + 1)) p2) 81 (w32 ((w32 (4 * ((up (up M26 81 (w32 (4 * (M26 64 28))) p1) 81 (w32 ((w32 (4 * ((up M26 81 (w32 (4 * (M26 64 28))) p1) 64 28))) + 1)) p2) 64 28))) + 2)) v23) 81 (w32 ((w32 (4 * ((up (up (up M26 81 (w32 (4 * (M26 64 28))) p1) 81 (w32 ((w32 (4 * ((up M26 81 (w32 (4 * (M26 64 28))) p1) 64 28))) + 1)) p2) 81 (w32 ((w32 (4 * ((up (up M26 81 (w32 (4 * (M26 64 28))) p1) 81 (w32 ((w32 (4 * ((up M26 81 (w32 (4 * (M26 64 28))) p1) 64 28))) + 1)) p2) 64 28))) + 2)) v23) 64 28))) + 3)) p3) 64 28 (w32 (((up (up (up (up M26 81 (w32 (4 * (M26 64 28))) p1) 81 (w32 ((w32 (4 * ((up M26 81 (w32 (4 * (M26 64 28))) p1) 64 28))) + 1)) p2) 81 (w32 ((w32 (4 * ((up (up M26 81 (w32 (4 * (M26 64 28))) p1) 81 (w32 ((w32 (4 * ((up M26 81 (w32 (4 * (M26 64 28))) p1) 64 28))) + 1)) p2) 64 28))) + 2)) v23) 81 (w32 ((w32 (4 * ((up (up (up M26 81 (w32 (4 * (M26 64 28))) p1) 81 (w32 ((w32 (4 * ((up M26 81 (w32 (4 * (M26 64 28))) p1) 64 28))) + 1)) p2) 81 (w32 ((w32 (4 * ((up (up M26 81 (w32 (4 * (M26 64 28))) p1) 81 (w32 ((w32 (4 * ((up M26 81 (w32 (4 * (M26 64 28))) p1) 64 28))) + 1)) p2) 64 28))) + 2)) v23) 64 28))) + 3)) p3) 64 28) + 1))) 64 27 ((up (up (up (up (up M26 81 (w32 (4 * (M26 64 28))) p1) 81 (w32 ((w32 (4 * ((up M26 81 (w32 (4 * (M26 64 28))) p1) 64 28))) + 1)) p2) 81 (w32 ((w32 (4 * ((up (up M26 81 (w32 (4 * (M26 64 28))) p1) 81 (w32 ((w32 (4 * ((up M26 81 (w32 (4 * (M26 64 28))) p1) 64 28))) + 1)) p2) 64 28))) + 2)) v23) 81 (w32 ((w32 (4 * ((up (up (up M26 81 (w32 (4 * (M26 64 28))) p1) 81 (w32 ((w32 (4 * ((up M26 81 (w32 (4 * (M26 64 28))) p1) 64 28))) + 1)) p2) 81 (w32 ((w32 (4 * ((up (up M26 81 (w32 (4 * (M26 64 28))) p1) 81 (w32 ((w32 (4 * ((up M26 81 (w32 (4 * (M26 64 28))) p1) 64 28))) + 1)) p2) 64 28))) + 2)) v23) 64 28))) + 3)) p3) 64 28 (w32 (((up (up (up (up M26 81 (w32 (4 * (M26 64 28))) p1) 81 (w32 ((w32 (4 * ((up M26 81 (w32 (4 * (M26 64 28))) p1) 64 28))) + 1)) p2) 81 (w32 ((w32 (4 * ((up (up M26 81 (w32 (4 * (M26 64 28))) p1) 81 (w32 ((w32 (4 * ((up M26 81 (w32 (4 * (M26 64 28))) p1) 64 28))) + 1)) p2) 64 28))) + 2)) v23) 81 (w32 ((w32 (4 * ((up (up (up M26 81 (w32 (4 * (M26 64 28))) p1) 81 (w32 ((w32 (4 * ((up M26 81 (w32 (4 * (M26 64 28))) p1) 64 28))) + 1)) p2) 81 (w32 ((w32 (4 * ((up (up M26 81 (w32 (4 * (M26 64 28))) p1) 81 (w32 ((w32 (4 * ((up M26 81 (w32 (4 * (M26 64 28))) p1) 64 28))) + 1)) p2) 64 28))) + 2)) v23) 64 28))) + 3)) p3) 64 28) + 1))) 64 28)) rfl rfl rfl rfl ?_
              refine x_il (pc' := 112) rfl rfl rfl ?_
              exact x_iret rfl h
            · replace h := ite_f q27 h
              refine x_c (pc' := 41) rfl rfl ?_
              refine x_is (pc' := 42) (ls' := [(2, 64), (0, p1), (0, p2), (0, p3), (0, v23), (0, 0)]) rfl rfl rfl rfl ?_
              exact h
          · replace h := ite_f q24 h
            refine x_il (pc' := 30) rfl rfl rfl ?_
            exact x_iret rfl h
        · replace h := ite_f q21 h
          refine x_c (pc' := 20) rfl rfl ?_
          exact x_iret rfl h
    · replace h := ite_f q4 h
      refine x_c (pc' := 10) rfl rfl ?_
      refine x_goto (t' := 17) rfl rfl ?_
      obtain ⟨v33, q32, h⟩ := h
      refine x_call (pc' := 18) (as := [(0, p3), (0, 0), (0, 5)]) (rest := []) rfl rfl rfl rfl rfl rfl q32 ?_
      refine x_ifne (pc' := 19) (t' := 21) rfl rfl rfl (fun q34 => ?_) (fun q34 => ?_)
      · replace h := ite_t q34 h
        refine x_al (pc' := 22) rfl rfl (by decide) rfl ?_
        refine x_il (pc' := 23) rfl rfl rfl ?_
        refine x_il (pc' := 24) rfl rfl rfl ?_
        obtain ⟨v36, q35, h⟩ := h
        refine x_call (pc' := 25) (as := [(2, 64), (0, p1), (0, p2)]) (rest := []) rfl rfl rfl rfl rfl rfl q35 ?_
        refine x_is (pc' := 26) (ls' := [(2, 64), (0, p1), (0, p2), (0, p3), (0, v36), (3, 0)]) rfl rfl rfl rfl ?_
        refine x_il (pc' := 27) rfl rfl rfl ?_
        refine x_il (pc' := 28) rfl rfl rfl ?_
        refine x_icne (pc' := 29) (t' := 31) rfl rfl rfl (fun q37 => ?_) (fun q37 => ?_)
        · replace h := ite_t q37 h
          refine x_al (pc' := 32) rfl rfl (by decide) rfl ?_
          refine x_il (pc' := 33) rfl rfl rfl ?_
          refine x_il (pc' := 34) rfl rfl rfl ?_
          refine x_il (pc' := 35) rfl rfl rfl ?_
          obtain ⟨M39, q38, h⟩ := h
          refine x_callv (pc' := 36) (as := [(2, 64), (0, p1), (0, p2), (0, p3)]) (rest := []) rfl rfl rfl rfl rfl rfl q38 ?_
          refine x_al (pc' := 37) rfl rfl (by decide) rfl ?_
          refine x_gf (pc' := 38) (v := M39 64 28) rfl rfl rfl rfl rfl ?_
          refine x_c (pc' := 39) rfl rfl ?_
          refine x_icne (pc' := 40) (t' := 63) rfl rfl rfl (fun q40 => ?_) (fun q40 => ?_)
          · replace h := ite_t q40 h
            refine x_al (pc' := 64) rfl rfl (by decide) rfl ?_
            refine x_gr (pc' := 65) (v := 81) rfl rfl rfl (by decide) rfl ?_
            refine x_c (pc' := 66) rfl rfl ?_
            refine x_al (pc' := 67) rfl rfl (by decide) rfl ?_
            refine x_gf (pc' := 68) (v := M39 64 28) rfl rfl rfl rfl rfl ?_
            refine x_ib (pc' := 69) (v := w32 (4 * (M39 64 28))) rfl rfl rfl ?_
            refine x_il (pc' := 70) rfl rfl rfl ?_
            obtain ⟨q41, h⟩ := h
            refine x_ist (pc' := 71) 160 (M2 := up M39 81 (w32 (4 * (M39 64 28))) p1) rfl rfl rfl q41.1 q41.2 rfl ?_
            refine x_al (pc' := 72) rfl rfl (by decide) rfl ?_
            refine x_gr (pc' := 73) (v := 81) rfl rfl rfl (by decide) rfl ?_
            refine x_c (pc' := 74) rfl rfl ?_
            refine x_al (pc' := 75) rfl rfl (by decide) rfl ?_
            refine x_gf (pc' := 76) (v := (up M39 81 (w32 (4 * (M39 64 28))) p1) 64 28) rfl rfl rfl rfl rfl ?_
            refine x_ib (pc' := 77) (v := w32 (4 * ((up M39 81 (w32 (4 * (M39 64 28))) p1) 64 28))) rfl rfl rfl ?_
            refine x_c (pc' := 78) rfl rfl ?_
            refine x_ib (pc' := 79) (v := w32 ((w32 (4 * ((up M39 81 (w32 (4 * (M39 64 28))) p1) 64 28))) + 1)) rfl rfl rfl ?_
            refine x_il (pc' := 80) rfl rfl rfl ?_
            obtain ⟨q42, h⟩ := h
            refine x_ist (pc' := 81) 160 (M2 := up (up M39 81 (w32 (4 * (M39 64 28))) p1) 81 (w32 ((w32 (4 * ((up M39 81 (w32 (4 * (M39 64 28))) p1) 64 28))) + 1)) p2) rfl rfl rfl q42.1 q42.2 rfl ?_
            refine x_al (pc' := 82) rfl rfl (by decide) rfl ?_
            refine x_gr (pc' := 83) (v := 81) rfl rfl rfl (by decide) rfl ?_
            refine x_c (pc' := 84) rfl rfl ?_
            refine x_al (pc' := 85) rfl rfl (by decide) rfl ?_
            refine x_gf (pc' := 86) (v := (up (up M39 81 (w32 (4 * (M39 64 28))) p1) 81 (w32 ((w32 (4 * ((up M39 81 (w32 (4 * (M39 64 28))) p1) 64 28))) + 1)) p2) 64 28) rfl rfl rfl rfl rfl ?_
            refine x_ib (pc' := 87) (v := w32 (4 * ((up (up M39 81 (w32 (4 * (M39 64 28))) p1) 81 (w32 ((w32 (4 * ((up M39 81 (w32 (4 * (M39 64 28))) p1) 64 28))) + 1)) p2) 64 28))) rfl rfl rfl ?_
            refine x_c (pc' := 88) rfl rfl ?_
            refine x_ib (pc' := 89) (v := w32 ((w32 (4 * ((up (up M39 81 (w32 (4 * (M39 64 28))) p1) 81 (w32 ((w32 (4 * ((up M39 81 (w32 (4 * (M39 64 28))) p1) 64 28))) + 1)) p2) 64 28))) + 2)) rfl rfl rfl ?_
            refine x_il (pc' := 90) rfl rfl rfl ?_
            obtain ⟨q43, h⟩ := h
            refine x_ist (pc' := 91) 160 (M2 := up (up (up M39 81 (w32 (4 * (M39 64 28))) p1) 81 (w32 ((w32 (4 * ((up M39 81 (w32 (4 * (M39 64 28))) p1) 64 28))) + 1)) p2) 81 (w32 ((w32 (4 * ((up (up M39 81 (w32 (4 * (M39 64 28))) p1) 81 (w32 ((w32 (4 * ((up M39 81 (w32 (4 * (M39 64 28))) p1) 64 28))) + 1)) p2) 64 28))) + 2)) v36) rfl rfl rfl q43.1 q43.2 rfl ?_
            refine x_al (pc' := 92) rfl rfl (by decide) rfl ?_
            refine x_gr (pc' := 93) (v := 81) rfl rfl rfl (by decide) rfl ?_
            refine x_c (pc' := 94) rfl rfl ?_
            refine x_al (pc' := 95) rfl rfl (by decide) rfl ?_
            refine x_gf (pc' := 96) (v := (up (up (up M39 81 (w32 (4 * (M39 64 28))) p1) 81 (w32 ((w32 (4 * ((up M39 81 (w32 (4 * (M39 64 28))) p1) 64 28))) + 1)) p2) 81 (w32 ((w32 (4 * ((up (up M39 81 (w32 (4 * (M39 64 28))) p1) 81 (w32 ((w32 (4 * ((up M39 81 (w32 (4 * (M39 64 28))) p1) 64 28))) + 1)) p2) 64 28))) + 2)) v36) 64 28) rfl rfl rfl rfl rfl ?_
            refine x_ib (pc' := 97) (v := w32 (4 * ((up (up (up M39 81 (w32 (4 * (M39 64 28))) p1) 81 (w32 ((w32 (4 * ((up M39 81 (w32 (4 * (M39 64 28))) p1) 64 28))) + 1)) p2) 81 (w32 ((w32 (4 * ((up (up M39 81 (w32 (4 * (M39 64 28))) p1) 81 (w32 ((w32 (4 * ((up M39 81 (w32 (4 * (M39 64 28))) p1) 64 28))) + 1)) p2) 64 28))) + 2)) v36) 64 28))) rfl rfl rfl ?_
            refine x_c (pc' := 98) rfl rfl ?_
            refine x_ib (pc' := 99) (v := w32 ((w32 (4 * ((up (up (up M39 81 (w32 (4 * (M39 64 28))) p1) 81 (w32 ((w32 (4 * ((up M39 81 (w32 (4 * (M39 64 28))) p1) 64 28))) + 1)) p2) 81 (w32 ((w32 (4 * ((up (up M39 81 (w32 (4 * (M39 64 28))) p1) 81 (w32 ((w32 (4 * ((up M39 81 (w32 (4 * (M39 64 28))) p1) 64 28))) + 1)) p2) 64 28))) + 2)) v36) 64 28))) + 3)) rfl rfl rfl ?_
            refine x_il (pc' := 100) rfl rfl rfl ?_
            obtain ⟨q44, h⟩ := h
            refine x_ist (pc' := 101) 160 (M2 := up (up (up (up M39 81 (w32 (4 * (M39 64 28))) p1) 81 (w32 ((w32 (4 * ((up M39 81 (w32 (4 * (M39 64 28))) p1) 64 28))) + 1)) p2) 81 (w32 ((w32 (4 * ((up (up M39 81 (w32 (4 * (M39 64 28))) p1) 81 (w32 ((w32 (4 * ((up M39 81 (w32 (4 * (M39 64 28))) p1) 64 28))) + 1)) p2) 64 28))) + 2)) v36) 81 (w32 ((w32 (4 * ((up (up (up M39 81 (w32 (4 * (M39 64 28))) p1) 81 (w32 ((w32 (4 * ((up M39 81 (w32 (4 * (M39 64 28))) p1) 64 28))) + 1)) p2) 81 (w32 ((w32 (4 * ((up (up M39 81 (w32 (4 * (M39 64 28))) p1) 81 (w32 ((w32 (4 * ((up M39 81 (w32 (4 * (M39 64 28))) p1) 64 28))) + 1)) p2) 64 28))) + 2)) v36) 64 28))) + 3)) p3) rfl rfl rfl q44.1 q44.2 rfl ?_
            refine x_al (pc' := 102) rfl rfl (by decide) rfl ?_
            refine x_dupa (pc' := 103) rfl rfl ?_
            refine x_gf (pc' := 104) (v := (up (up (up (up M39 81 (w32 (4 * (M39 64 28))) p1) 81 (w32 ((w32 (4 * ((up M39 81 (w32 (4 * (M39 64 28))) p1) 64 28))) + 1)) p2) 81 (w32 ((w32 (4 * ((up (up M39 81 (w32 (4 * (M39 64 28))) p1) 81 (w32 ((w32 (4 * ((up M39 81 (w32 (4 * (M39 64 28))) p1) 64 28))) + 1)) p2) 64 28))) + 2)) v36) 81 (w32 ((w32 (4 * ((up (up (up M39 81 (w32 (4 * (M39 64 28))) p1) 81 (w32 ((w32 (4 * ((up M39 81 (w32 (4 * (M39 64 28))) p1) 64 28))) + 1)) p2) 81 (w32 ((w32 (4 * ((up (up M39 81 (w32 (4 * (M39 64 28))) p1) 81 (w32 ((w32 (4 * ((up M39 81 (w32 (4 * (M39 64 28))) p1) 64 28))) + 1)) p2) 64 28))) + 2)) v36) 64 28))) + 3)) p3) 64 28) rfl rfl rfl rfl rfl ?_
            refine x_c (pc' := 105) rfl rfl ?_
            refine x_ib (pc' := 106) (v := w32 (((up (up (up (up M39 81 (w32 (4 * (M39 64 28))) p1) 81 (w32 ((w32 (4 * ((up M39 81 (w32 (4 * (M39 64 28))) p1) 64 28))) + 1)) p2) 81 (w32 ((w32 (4 * ((up (up M39 81 (w32 (4 * (M39 64 28))) p1) 81 (w32 ((w32 (4 * ((up M39 81 (w32 (4 * (M39 64 28))) p1) 64 28))) + 1)) p2) 64 28))) + 2)) v36) 81 (w32 ((w32 (4 * ((up (up (up M39 81 (w32 (4 * (M39 64 28))) p1) 81 (w32 ((w32 (4 * ((up M39 81 (w32 (4 * (M39 64 28))) p1) 64 28))) + 1)) p2) 81 (w32 ((w32 (4 * ((up (up M39 81 (w32 (4 * (M39 64 28))) p1) 81 (w32 ((w32 (4 * ((up M39 81 (w32 (4 * (M39 64 28))) p1) 64 28))) + 1)) p2) 64 28))) + 2)) v36) 64 28))) + 3)) p3) 64 28) + 1)) rfl rfl rfl ?_
            refine x_pf (pc' := 107) (M2 := up (up (up (up (up M39 81 (w32 (4 * (M39 64 28))) p1) 81 (w32 ((w32 (4 * ((up M39 81 (w32 (4 * (M39 64 28))) p1) 64 28))) + 1)) p2) 81 (w32 ((w32 (4 * ((up (up M39 81 (w32 (4 * (M39 64 28))) p1) 81 (w32 ((w32 (4 * ((up M39 81 (w32 (4 * (M39 64 28))) p1) 64 28))) + 1)) p2) 64 28))) + 2)) v36) 81 (w32 ((w32 (4 * ((up (up (up M39 81 (w32 (4 * (M39 64 28))) p1) 81 (w32 ((w32 (4 * ((up M39 81 (w32 (4 * (M39 64 28))) p1) 64 28))) + 1)) p2) 81 (w32 ((w32 (4 * ((up (up M39 81 (w32 (4 * (M39 64 28))) p1) 81 (w32 ((w32 (4 * ((up M39 81 (w32 (4 * (M39 64 28))) p1) 64 28))) + 1)) p2) 64 28))) + 2)) v36) 64 28))) + 3)) p3) 64 28 (w32 (((up (up (up (up M39 81 (w32 (4 * (M39 64 28))) p1) 81 (w32 ((w32 (4 * ((up M39 81 (w32 (4 * (M39 64 28))) p1) 64 28))) + 1)) p2) 81 (w32 ((w32 (4 * ((up (up M39 81 (w32 (4 * (M39 64 28))) p1) 81 (w32 ((w32 (4 * ((up M39 81 (w32 (4 * (M39 64 28))) p1) 64 28))) + 1)) p2) 64 28))) + 2)) v36) 81 (w32 ((w32 (4 * ((up (up (up M39 81 (w32 (4 * (M39 64 28))) p1) 81 (w32 ((w32 (4 * ((up M39 81 (w32 (4 * (M39 64 28))) p1) 64 28))) + 1)) p2) 81 (w32 ((w32 (4 * ((up (up M39 81 (w32 (4 * (M39 64 28))) p1) 81 (w32 ((w32 (4 * ((up M39 81 (w32 (4 * (M39 64 28))) p1) 64 28))) + 1)) p2) 64 28))) + 2)) v36) 64 28))) + 3)) p3) 64 28) + 1))) rfl rfl rfl rfl ?_
            refine x_al (pc' := 108) rfl rfl (by decide) rfl ?_
            refine x_al (pc' := 109) rfl rfl (by decide) rfl ?_
            refine x_gf (pc' := 110) (v := (up (up (up (up (up M39 81 (w32 (4 * (M39 64 28))) p1) 81 (w32 ((w32 (4 * ((up M39 81 (w32 (4 * (M39 64 28))) p1) 64 28))) + 1)) p2) 81 (w32 ((w32 (4 * ((up (up M39 81 (w32 (4 * (M39 64 28))) p1) 81 (w32 ((w32 (4 * ((up M39 81 (w32 (4 * (M39 64 28))) p1) 64 28))) + 1)) p2) 64 28))) + 2)) v36) 81 (w32 ((w32 (4 * ((up (up (up M39 81 (w32 (4 * (M39 64 28))) p1) 81 (w32 ((w32 (4 * ((up M39 81 (w32 (4 * (M39 64 28))) p1) 64 28))) + 1)) p2) 81 (w32 ((w32 (4 * ((up (up M39 81 (w32 (4 * (M39 64 28))) p1) 81 (w32 ((w32 (4 * ((up M39 81 (w32 (4 * (M39 64 28))) p1) 64 28))) + 1)) p2) 64 28))) + 2)) v36) 64 28))) + 3)) p3) 64 28 (w32 (((up (up (up (up M39 81 (w32 (4 * (M39 64 28))) p1) 81 (w32 ((w32 (4 * ((up M39 81 (w32 (4 * (M39 64 28))) p1) 64 28))) + 1)) p2) 81 (w32 ((w32 (4 * ((up (up M39 81 (w32 (4 * (M39 64 28))) p1) 81 (w32 ((w32 (4 * ((up M39 81 (w32 (4 * (M39 64 28))) p1) 64 28))) + 1)) p2) 64 28))) + 2)) v36) 81 (w32 ((w32 (4 * ((up (up (up M39 81 (w32 (4 * (M39 64 28))) p1) 81 (w32 ((w32 (4 * ((up M39 81 (w32 (4 * (M39 64 28))) p1) 64 28))) + 1)) p2) 81 (w32 ((w32 (4 * ((up (up M39 81 (w32 (4 * (M39 64 28))) p1) 81 (w32 ((w32 (4 * ((up M39 81 (w32 (4 * (M39 64 28))) p1) 64 28))) + 1)) p2) 64 28))) + 2)) v36) 64 28))) + 3)) p3) 64 28) + 1))) 64 28) rfl rfl rfl rfl rfl ?_
            refine x_pf (pc' := 111) (M2 := up (up (up (up (up (up M39 81 (w32 (4 * (M39 64 28))) p1) 81 (w32 ((w32 (4 * ((up M39 81 (w32 (4 * (M39 64 28))) p1) 64 28))) + 1)) p2) 81 (w32 ((w32 (4 * ((up (up M39 81 (w32 (4 * (M39 64 28))) p1) 81 (w32 ((w32 (4 * ((up M39 81 (w32 (4 * (M39 64 28))) p1) 64 28))) + 1)) p2) 64 28))) + 2)) v36) 81 (w32 ((w32 (4 * ((up (up (up M39 81 (w32 (4 * (M39 64 28))) p1) 81 (w32 ((w32 (4 * ((up M39 81 (w32 (4 * (M39 64 28))) p1) 64 28))) + 1)) p2) 81 (w32 ((w32 (4 * ((up (up M39 81 (w32 (4 * (M39 64 28))) p1) 81 (w32 ((w32 (4 * ((up M39 81 (w32 (4 * (M39 64 28))) p1) 64 28))) + 1)) p2) 64 28))) + 2)) v36) 64 28))) + 3)) p3) 64 28 (w32 (((up (up (up (up M39 81 (w32 (4 * (M39 64 28))) p1) 81 (w32 ((w32 (4 * ((up M39 81 (w32 (4 * (M39 64 28))) p1) 64 28))) + 1)) p2) 81 (w32 ((w32 (4 * ((up (up M39 81 (w32 (4 * (M39 64 28))) p1) 81 (w32 ((w32 (4 * ((up M39 81 (w32 (4 * (M39 64 28))) p1) 64 28))) + 1)) p2) 64 28))) + 2)) v36) 81 (w32 ((w32 (4 * ((up (up (up M39 81 (w32 (4 * (M39 64 28))) p1) 81 (w32 ((w32 (4 * ((up M39 81 (w32 (4 * (M39 64 28))) p1) 64 28))) + 1)) p2) 81 (w32 ((w32 (4 * ((up (up M39 81 (w32 (4 * (M39 64 28))) p1) 81 (w32 ((w32 (4 * ((up M39 81 (w32 (4 * (M39 64 28))) p1) 64 28))) + 1)) p2) 64 28))) + 2)) v36) 64 28))) + 3)) p3) 64 28) + 1))) 64 27 ((up (up (up (up (up M39 81 (w32 (4 * (M39 64 28))) p1) 81 (w32 ((w32 (4 * ((up M39 81 (w32 (4 * (M39 64 28))) p1) 64 28))) + 1)) p2) 81 (w32 ((w32 (4 * ((up (up M39 81 (w32 (4 * (M39 64 28))) p1) 81 (w32 ((w32 (4 * ((up M39 81 (w32 (4 * (M39 64 28))) p1) 64 28))) + 1)) p2) 64 28))) + 2)) v36) 81 (w32 ((w32 (4 * ((up (up (up M39 81 (w32 (4 * (M39 64 28))) p1) 81 (w32 ((w32 (4 * ((up M39 81 (w32 (4 * (M39 64 28))) p1) 64 28))) + 1)) p2) 81 (w32 ((w32 (4 * ((up (up M39 81 (w32 (4 * (M39 64 28))) p1) 81 (w32 ((w32 (4 * ((up M39 81 (w32 (4 * (M39 64 28))) p1) 64 28))) + 1)) p2) 64 28))) + 2)) v36) 64 28))) + 3)) p3) 64 28 (w32 (((up (up (up (up M39 81 (w32 (4 * (M39 64 28))) p1) 81 (w32 ((w32 (4 * ((up M39 81 (w32 (4 * (M39 64 28))) p1) 64 28))) + 1)) p2) 81 (w32 ((w32 (4 * ((up (up M39 81 (w32 (4 * (M39 64 28))) p1) 81 (w32 ((w32 (4 * ((up M39 81 (w32 (4 * (M39 64 28))) p1) 64 28))) + 1)) p2) 64 28))) + 2)) v36) 81 (w32 ((w32 (4 * ((up (up (up M39 81 (w32 (4 * (M39 64 28))) p1) 81 (w32 ((w32 (4 * ((up M39 81 (w32 (4 * (M39 64 28))) p1) 64 28))) + 1)) p2) 81 (w32 ((w32 (4 * ((up (up M39 81 (w32 (4 * (M39 64 28))) p1) 81 (w32 ((w32 (4 * ((up M39 81 (w32 (4 * (M39 64 28))) p1) 64 28))) + 1)) p2) 64 28))) + 2)) v36) 64 28))) + 3)) p3) 64 28) + 1))) 64 28)) rfl rfl rfl rfl ?_
            refine x_il (pc' := 112) rfl rfl rfl ?_
            exact x_iret rfl h
          · replace h := ite_f q40 h
            refine x_c (pc' := 41) rfl rfl ?_
            refine x_is (pc' := 42) (ls' := [(2, 64), (0, p1), (0, p2), (0, p3), (0, v36), (0, 0)]) rfl rfl rfl rfl ?_
            exact h
        · replace h := ite_f q37 h
          refine x_il (pc' := 30) rfl rfl rfl ?_
          exact x_iret rfl h
      · replace h := ite_f q34 h
        refine x_c (pc' := 20) rfl rfl ?_
        exact x_iret rfl h
theorem sg_M_mend_42 {d : Nat} {l1 : Int} {l2 : Int} {l3 : Int} {l4 : Int} {l5 : Int} {M : Mem} {r : Res} (h : (if 156 ≤ l5 then (0 ≤ w32 (4 * ((up M 64 28 (w32 ((M 64 28) - 1))) 64 28)) ∧ w32 (4 * ((up M 64 28 (w32 ((M 64 28) - 1))) 64 28)) < 160) ∧ (0 ≤ w32 ((w32 (4 * ((up (up M 64 28 (w32 ((M 64 28) - 1))) 81 (w32 (4 * ((up M 64 28 (w32 ((M 64 28) - 1))) 64 28))) l1) 64 28))) + 1) ∧ w32 ((w32 (4 * ((up (up M 64 28 (w32 ((M 64 28) - 1))) 81 (w32 (4 * ((up M 64 28 (w32 ((M 64 28) - 1))) 64 28))) l1) 64 28))) + 1) < 160) ∧ (0 ≤ w32 ((w32 (4 * ((up (up (up M 64 28 (w32 ((M 64 28) - 1))) 81 (w32 (4 * ((up M 64 28 (w32 ((M 64 28) - 1))) 64 28))) l1) 81 (w32 ((w32 (4 * ((up (up M 64 28 (w32 ((M 64 28) - 1))) 81 (w32 (4 * ((up M 64 28 (w32 ((M 64 28) - 1))) 64 28))) l1) 64 28))) + 1)) l2) 64 28))) + 2) ∧ w32 ((w32 (4 * ((up (up (up M 64 28 (w32 ((M 64 28) - 1))) 81 (w32 (4 * ((up M 64 28 (w32 ((M 64 28) - 1))) 64 28))) l1) 81 (w32 ((w32 (4 * ((up (up M 64 28 (w32 ((M 64 28) - 1))) 81 (w32 (4 * ((up M 64 28 (w32 ((M 64 28) - 1))) 64 28))) l1) 64 28))) + 1)) l2) 64 28))) + 2) < 160) ∧ (0 ≤ w32 ((w32 (4 * ((up (up (up (up M 64 28 (w32 ((M 64 28) - 1))) 81 (w32 (4 * ((up M 64 28 (w32 ((M 64 28) - 1))) 64 28))) l1) 81 (w32 ((w32 (4 * ((up (up M 64 28 (w32 ((M 64 28) - 1))) 81 (w32 (4 * ((up M 64 28 (w32 ((M 64 28) - 1))) 64 28))) l1) 64 28))) + 1)) l2) 81 (w32 ((w32 (4 * ((up (up (up M 64 28 (w32 ((M 64 28) - 1))) 81 (w32 (4 * ((up M 64 28 (w32 ((M 64 28) - 1))) 64 28))) l1) 81 (w32 ((w32 (4 * ((up (up M 64 28 (w32 ((M 64 28) - 1))) 81 (w32 (4 * ((up M 64 28 (w32 ((M 64 28) - 1))) 64 28))) l1) 64 28))) + 1)) l2) 64 28))) + 2)) l4) 64 28))) + 3) ∧ w32 ((w32 (4 * ((up (up (up (up M 64 28 (w32 ((M 64 28) - 1))) 81 (w32 (4 * ((up M 64 28 (w32 ((M 64 28) - 1))) 64 28))) l1) 81 (w32 ((w32 (4 * ((up (up M 64 28 (w32 ((M 64 28) - 1))) 81 (w32 (4 * ((up M 64 28 (w32 ((M 64 28) - 1))) 64 28))) l1) 64 28))) + 1)) l2) 81 (w32 ((w32 (4 * ((up (up (up M 64 28 (w32 ((M 64 28) - 1))) 81 (w32 (4 * ((up M 64 28 (w32 ((M 64 28) - 1))) 64 28))) l1) 81 (w32 ((w32 (4 * ((up (up M 64 28 (w32 ((M 64 28) - 1))) 81 (w32 (4 * ((up M 64 28 (w32 ((M 64 28) - 1))) 64 28))) l1) 64 28))) + 1)) l2) 64 28))) + 2)) l4) 64 28))) + 3) < 160) ∧ r = (some (0, l4), up (up (up (up (up (up (up M 64 28 (w32 ((M 64 28) - 1))) 81 (w32 (4 * ((up M 64 28 (w32 ((M 64 28) - 1))) 64 28))) l1) 81 (w32 ((w32 (4 * ((up (up M 64 28 (w32 ((M 64 28) - 1))) 81 (w32 (4 * ((up M 64 28 (w32 ((M 64 28) - 1))) 64 28))) l1) 64 28))) + 1)) l2) 81 (w32 ((w32 (4 * ((up (up (up M 64 28 (w32 ((M 64 28) - 1))) 81 (w32 (4 * ((up M 64 28 (w32 ((M 64 28) - 1))) 64 28))) l1) 81 (w32 ((w32 (4 * ((up (up M 64 28 (w32 ((M 64 28) - 1))) 81 (w32 (4 * ((up M 64 28 (w32 ((M 64 28) - 1))) 64 28))) l1) 64 28))) + 1)) l2) 64 28))) + 2)) l4) 81 (w32 ((w32 (4 * ((up (up (up (up M 64 28 (w32 ((M 64 28) - 1))) 81 (w32 (4 * ((up M 64 28 (w32 ((M 64 28) - 1))) 64 28))) l1) 81 (w32 ((w32 (4 * ((up (up M 64 28 (w32 ((M 64 28) - 1))) 81 (w32 (4 * ((up M 64 28 (w32 ((M 64 28) - 1))) 64 28))) l1) 64 28))) + 1)) l2) 81 (w32 ((w32 (4 * ((up (up (up M 64 28 (w32 ((M 64 28) - 1))) 81 (w32 (4 * ((up M 64 28 (w32 ((M 64 28) - 1))) 64 28))) l1) 81 (w32 ((w32 (4 * ((up (up M 64 28 (w32 ((M 64 28) - 1))) 81 (w32 (4 * ((up M 64 28 (w32 ((M 64 28) - 1))) 64 28))) l1) 64 28))) + 1)) l2) 64 28))) + 2)) l4) 64 28))) + 3)) l3) 64 28 (w32 (((up (up (up (up (up M 64 28 (w32 ((M 64 28) - 1))) 81 (w32 (4 * ((up M 64 28 (w32 ((M 64 28) - 1))) 64 28))) l1) 81 (w32 ((w32 (4 * ((up (up M 64 28 (w32 ((M 64 28) - 1))) 81 (w32 (4 * ((up M 64 28 (w32 ((M 64 28) - 1))) 64 28))) l1) 64 28))) + 1)) l2) 81 (w32 ((w32 (4 * ((up (up (up M 64 28 (w32 ((M 64 28) - 1))) 81 (w32 (4 * ((up M 64 28 (w32 ((M 64 28) - 1))) 64 28))) l1) 81 (w32 ((w32 (4 * ((up (up M 64 28 (w32 ((M 64 28) - 1))) 81 (w32 (4 * ((up M 64 28 (w32 ((M 64 28) - 1))) 64 28))) l1) 64 28))) + 1)) l2) 64 28))) + 2)) l4) 81 (w32 ((w32 (4 * ((up (up (up (up M 64 28 (w32 ((M 64 28) - 1))) 81 (w32 (4 * ((up M 64 28 (w32 ((M 64 28) - 1))) 64 28))) l1) 81 (w32 ((w32 (4 * ((up (up M 64 28 (w32 ((M 64 28) - 1))) 81 (w32 (4 * ((up M 64 28 (w32 ((M 64 28) - 1))) 64 28))) l1) 64 28))) + 1)) l2) 81 (w32 ((w32 (4 * ((up (up (up M 64 28 (w32 ((M 64 28) - 1))) 81 (w32 (4 * ((up M 64 28 (w32 ((M 64 28) - 1))) 64 28))) l1) 81 (w32 ((w32 (4 * ((up (up M 64 28 (w32 ((M 64 28) - 1))) 81 (w32 (4 * ((up M 64 28 (w32 ((M 64 28) - 1))) 64 28))) l1) 64 28))) + 1)) l2) 64 28))) + 2)) l4) 64 28))) + 3)) l3) 64 28) + 1))) 64 27 ((up (up (up (up (up (up M 64 28 (w32 ((M 64 28) - 1))) 81 (w32 (4 * ((up M 64 28 (w32 ((M 64 28) - 1))) 64 28))) l1) 81 (w32 ((w32 (4 * ((up (up M 64 28 (w32 ((M 64 28) - 1))) 81 (w32 (4 * ((up M 64 28 (w32 ((M 64 28) - 1))) 64 28))) l1) 64 28))) + 1)) l2) 81 (w32 ((w32 (4 * ((up (up (up M 64 28 (w32 ((M 64 28) - 1))) 81 (w32 (4 * ((up M 64 28 (w32 ((M 64 28) - 1))) 64 28))) l1) 81 (w32 ((w32 (4 * ((up (up M 64 28 (w32 ((M 64 28) - 1))) 81 (w32 (4 * ((up M 64 28 (w32 ((M 64 28) - 1))) 64 28))) l1) 64 28))) + 1)) l2) 64 28))) + 2)) l4) 81 (w32 ((w32 (4 * ((up (up (up (up M 64 28 (w32 ((M 64 28) - 1))) 81 (w32 (4 * ((up M 64 28 (w32 ((M 64 28) - 1))) 64 28))) l1) 81 (w32 ((w32 (4 * ((up (up M 64 28 (w32 ((M 64 28) - 1))) 81 (w32 (4 * ((up M 64 28 (w32 ((M 64 28) - 1))) 64 28))) l1) 64 28))) + 1)) l2) 81 (w32 ((w32 (4 * ((up (up (up M 64 28 (w32 ((M 64 28) - 1))) 81 (w32 (4 * ((up M 64 28 (w32 ((M 64 28) - 1))) 64 28))) l1) 81 (w32 ((w32 (4 * ((up (up M 64 28 (w32 ((M 64 28) - 1))) 81 (w32 (4 * ((up M 64 28 (w32 ((M 64 28) - 1))) 64 28))) l1) 64 28))) + 1)) l2) 64 28))) + 2)) l4) 64 28))) + 3)) l3) 64 28 (w32 (((up (up (up (up (up M 64 28 (w32 ((M 64 28) - 1))) 81 (w32 (4 * ((up M 64 28 (w32 ((M 64 28) - 1))) 64 28))) l1) 81 (w32 ((w32 (4 * ((up (up M 64 28 (w32 ((M 64 28) - 1))) 81 (w32 (4 * ((up M 64 28 (w32 ((M 64 28) - 1))) 64 28))) l1) 64 28))) + 1)) l2) 81 (w32 ((w32 (4 * ((up (up (up M 64 28 (w32 ((M 64 28) - 1))) 81 (w32 (4 * ((up M 64 28 (w32 ((M 64 28) - 1))) 64 28))) l1) 81 (w32 ((w32 (4 * ((up (up M 64 28 (w32 ((M 64 28) - 1))) 81 (w32 (4 * ((up M 64 28 (w32 ((M 64 28) - 1))) 64 28))) l1) 64 28))) + 1)) l2) 64 28))) + 2)) l4) 81 (w32 ((w32 (4 * ((up (up (up (up M 64 28 (w32 ((M 64 28) - 1))) 81 (w32 (4 * ((up M 64 28 (w32 ((M 64 28) - 1))) 64 28))) l1) 81 (w32 ((w32 (4 * ((up (up M 64 28 (w32 ((M 64 28) - 1))) 81 (w32 (4 * ((up M 64 28 (w32 ((M 64 28) - 1))) 64 28))) l1) 64 28))) + 1)) l2) 81 (w32 ((w32 (4 * ((up (up (up M 64 28 (w32 ((M 64 28) - 1))) 81 (w32 (4 * ((up M 64 28 (w32 ((M 64 28) - 1))) 64 28))) l1) 81 (w32 ((w32 (4 * ((up (up M 64 28 (w32 ((M 64 28) - 1))) 81 (w32 (4 * ((up M 64 28 (w32 ((M 64 28) - 1))) 64 28))) l1) 64 28))) + 1)) l2) 64 28))) + 2)) l4) 64 28))) + 3)) l3) 64 28) + 1))) 64 28)) else (0 ≤ w32 (l5 + 4) ∧ w32 (l5 + 4) < 160) ∧ (0 ≤ l5 ∧ l5 < 160) ∧ at_M_mend_42 d l1 l2 l3 l4 (w32 (l5 + 1)) (up M 81 l5 (M 81 (w32 (l5 + 4)))) r)) : at_M_mend_42 d l1 l2 l3 l4 l5 M r := by
  unfold at_M_mend_42
  refine x_il (pc' := 43) rfl rfl rfl ?_
  refine x_c (pc' := 44) rfl rfl ?_
  refine x_icge (pc' := 45) (t' := 57) rfl rfl rfl (fun q1 => ?_) (fun q1 => ?_)
  · replace h := ite_t q1 h
    refine x_al (pc' := 58) rfl rfl (by decide) rfl ?_
    refine x_dupa (pc' := 59) rfl rfl ?_
    refine x_gf (pc' := 60) (v := M 64 28) rfl rfl rfl rfl rfl ?_
    refine x_c (pc' := 61) rfl rfl ?_
    refine x_ib (pc' := 62) (v := w32 ((M 64 28) - 1)) rfl rfl rfl ?_
    refine x_pf (pc' := 63) (M2 := up M 64 28 (w32 ((M 64 28) - 1))) rfl rfl rfl rfl ?_
    refine x_al (pc' := 64) rfl rfl (by decide) rfl ?_
    refine x_gr (pc' := 65) (v := 81) rfl rfl rfl (by decide) rfl ?_
    refine x_c (pc' := 66) rfl rfl ?_
    refine x_al (pc' := 67) rfl rfl (by decide) rfl ?_
    refine x_gf (pc' := 68) (v := (up M 64 28 (w32 ((M 64 28) - 1))) 64 28) rfl rfl rfl rfl rfl ?_
    refine x_ib (pc' := 69) (v := w32 (4 * ((up M 64 28 (w32 ((M 64 28) - 1))) 64 28))) rfl rfl rfl ?_
    refine x_il (pc' := 70) rfl rfl rfl ?_
    obtain ⟨q2, h⟩ := h
    refine x_ist (pc' := 71) 160 (M2 := up (up M 64 28 (w32 ((M 64 28) - 1))) 81 (w32 (4 * ((up M 64 28 (w32 ((M 64 28) - 1))) 64 28))) l1) rfl rfl rfl q2.1 q2.2 rfl ?_
    refine x_al (pc' := 72) rfl rfl (by decide) rfl ?_
    refine x_gr (pc' := 73) (v := 81) rfl rfl rfl (by decide) rfl ?_
    refine x_c (pc' := 74) rfl rfl ?_
    refine x_al (pc' := 75) rfl rfl (by decide) rfl ?_
    refine x_gf (pc' := 76) (v := (up (up M 64 28 (w32 ((M 64 28) - 1))) 81 (w32 (4 * ((up M 64 28 (w32 ((M 64 28) - 1))) 64 28))) l1) 64 28) rfl rfl rfl rfl rfl ?_
    refine x_ib (pc' := 77) (v := w32 (4 * ((up (up M 64 28 (w32 ((M 64 28) - 1))) 81 (w32 (4 * ((up M 64 28 (w32 ((M 64 28) - 1))) 64 28))) l1) 64 28))) rfl rfl rfl ?_
    refine x_c (pc' := 78) rfl rfl ?_
    refine x_ib (pc' := 79) (v := w32 ((w32 (4 * ((up (up M 64 28 (w32 ((M 64 28) - 1))) 81 (w32 (4 * ((up M 64 28 (w32 ((M 64 28) - 1))) 64 28))) l1) 64 28))) + 1)) rfl rfl rfl ?_
    refine x_il (pc' := 80) rfl rfl rfl ?_
    obtain ⟨q3, h⟩ := h
    refine x_ist (pc' := 81) 160 (M2 := up (up (up M 64 28 (w32 ((M 64 28) - 1))) 81 (w32 (4 * ((up M 64 28 (w32 ((M 64 28) - 1))) 64 28))) l1) 81 (w32 ((w32 (4 * ((up (up M 64 28 (w32 ((M 64 28) - 1))) 81 (w32 (4 * ((up M 64 28 (w32 ((M 64 28) - 1))) 64 28))) l1) 64 28))) + 1)) l2) rfl rfl rfl q3.1 q3.2 rfl ?_
    refine x_al (pc' := 82) rfl rfl (by decide) rfl ?_
    refine x_gr (pc' := 83) (v := 81) rfl rfl rfl (by decide) rfl ?_
    refine x_c (pc' := 84) rfl rfl ?_
    refine x_al (pc' := 85) rfl rfl (by decide) rfl ?_
    refine x_gf (pc' := 86) (v := (up (up (up M 64 28 (w32 ((M 64 28) - 1))) 81 (w32 (4 * ((up M 64 28 (w32 ((M 64 28) - 1))) 64 28))) l1) 81 (w32 ((w32 (4 * ((up (up M 64 28 (w32 ((M 64 28) - 1))) 81 (w32 (4 * ((up M 64 28 (w32 ((M 64 28) - 1))) 64 28))) l1) 64 28))) + 1)) l2) 64 28) rfl rfl rfl rfl rfl ?_
    refine x_ib (pc' := 87) (v := w32 (4 * ((up (up (up M 64 28 (w32 ((M 64 28) - 1))) 81 (w32 (4 * ((up M 64 28 (w32 ((M 64 28) - 1))) 64 28))) l1) 81 (w32 ((w32 (4 * ((up (up M 64 28 (w32 ((M 64 28) - 1))) 81 (w32 (4 * ((up M 64 28 (w32 ((M 64 28) - 1))) 64 28))) l1) 64 28))) + 1)) l2) 64 28))) rfl rfl rfl ?_
    refine x_c (pc' := 88) rfl rfl ?_
    refine x_ib (pc' := 89) (v := w32 ((w32 (4 * ((up (up (up M 64 28 (w32 ((M 64 28) - 1))) 81 (w32 (4 * ((up M 64 28 (w32 ((M 64 28) - 1))) 64 28))) l1) 81 (w32 ((w32 (4 * ((up (up M 64 28 (w32 ((M 64 28) - 1))) 81 (w32 (4 * ((up M 64 28 (w32 ((M 64 28) - 1))) 64 28))) l1) 64 28))) + 1)) l2) 64 28))) + 2)) rfl rfl rfl ?_
    refine x_il (pc' := 90) rfl rfl rfl ?_
    obtain ⟨q4, h⟩ := h
    refine x_ist (pc' := 91) 160 (M2 := up (up (up (up M 64 28 (w32 ((M 64 28) - 1))) 81 (w32 (4 * ((up M 64 28 (w32 ((M 64 28) - 1))) 64 28))) l1) 81 (w32 ((w32 (4 * ((up (up M 64 28 (w32 ((M 64 28) - 1))) 81 (w32 (4 * ((up M 64 28 (w32 ((M 64 28) - 1))) 64 28))) l1) 64 28))) + 1)) l2) 81 (w32 ((w32 (4 * ((up (up (up M 64 28 (w32 ((M 64 28) - 1))) 81 (w32 (4 * ((up M 64 28 (w32 ((M 64 28) - 1))) 64 28))) l1) 81 (w32 ((w32 (4 * ((up (up M 64 28 (w32 ((M 64 28) - 1))) 81 (w32 (4 * ((up M 64 28 (w32 ((M 64 28) - 1))) 64 28))) l1) 64 28))) + 1)) l2) 64 28))) + 2)) l4) rfl rfl rfl q4.1 q4.2 rfl ?_
    refine x_al (pc' := 92) rfl rfl (by decide) rfl ?_
    refine x_gr (pc' := 93) (v := 81) rfl rfl rfl (by decide) rfl ?_
    refine x_c (pc' := 94) rfl rfl ?_
    refine x_al (pc' := 95) rfl rfl (by decide) rfl ?_
    refine x_gf (pc' := 96) (v := (up (up (up (up M 64 28 (w32 ((M 64 28) - 1))) 81 (w32 (4 * ((up M 64 28 (w32 ((M 64 28) - 1))) 64 28))) l1) 81 (w32 ((w32 (4 * ((up (up M 64 28 (w32 ((M 64 28) - 1))) 81 (w32 (4 * ((up M 64 28 (w32 ((M 64 28) - 1))) 64 28))) l1) 64 28))) + 1)) l2) 81 (w32 ((w32 (4 * ((up (up (up M 64 28 (w32 ((M 64 28) - 1))) 81 (w32 (4 * ((up M 64 28 (w32 ((M 64 28) - 1))) 64 28))) l1) 81 (w32 ((w32 (4 * ((up (up M 64 28 (w32 ((M 64 28) - 1))) 81 (w32 (4 * ((up M 64 28 (w32 ((M 64 28) - 1))) 64 28))) l1) 64 28))) + 1)) l2) 64 28))) + 2)) l4) 64 28) rfl rfl rfl rfl rfl ?_
    refine x_ib (pc' := 97) (v := w32 (4 * ((up (up (up (up M 64 28 (w32 ((M 64 28) - 1))) 81 (w32 (4 * ((up M 64 28 (w32 ((M 64 28) - 1))) 64 28))) l1) 81 (w32 ((w32 (4 * ((up (up M 64 28 (w32 ((M 64 28) - 1))) 81 (w32 (4 * ((up M 64 28 (w32 ((M 64 28) - 1))) 64 28))) l1) 64 28))) + 1)) l2) 81 (w32 ((w32 (4 * ((up (up (up M 64 28 (w32 ((M 64 28) - 1))) 81 (w32 (4 * ((up M 64 28 (w32 ((M 64 28) - 1))) 64 28))) l1) 81 (w32 ((w32 (4 * ((up (up M 64 28 (w32 ((M 64 28) - 1))) 81 (w32 (4 * ((up M 64 28 (w32 ((M 64 28) - 1))) 64 28))) l1) 64 28))) + 1)) l2) 64 28))) + 2)) l4) 64 28))) rfl rfl rfl ?_
    refine x_c (pc' := 98) rfl rfl ?_
    refine x_ib (pc' := 99) (v := w32 ((w32 (4 * ((up (up (up (up M 64 28 (w32 ((M 64 28) - 1))) 81 (w32 (4 * ((up M 64 28 (w32 ((M 64 28) - 1))) 64 28))) l1) 81 (w32 ((w32 (4 * ((up (up M 64 28 (w32 ((M 64 28) - 1))) 81 (w32 (4 * ((up M 64 28 (w32 ((M 64 28) - 1))) 64 28))) l1) 64 28))) + 1)) l2) 81 (w32 ((w32 (4 * ((up (up (up M 64 28 (w32 ((M 64 28) - 1))) 81 (w32 (4 * ((up M 64 28 (w32 ((M 64 28) - 1))) 64 28))) l1) 81 (w32 ((w32 (4 * ((up (up M 64 28 (w32 ((M 64 28) - 1))) 81 (w32 (4 * ((up M 64 28 (w32 ((M 64 28) - 1))) 64 28))) l1) 64 28))) + 1)) l2) 64 28))) + 2)) l4) 64 28))) + 3)) rfl rfl rfl ?_
    refine x_il (pc' := 100) rfl rfl rfl ?_
    obtain ⟨q5, h⟩ := h
    refine x_ist (pc' := 101) 160 (M2 := up (up (up (up (up M 64 28 (w32 ((M 64 28) - 1))) 81 (w32 (4 * ((up M 64 28 (w32 ((M 64 28) - 1))) 64 28))) l1) 81 (w32 ((w32 (4 * ((up (up M 64 28 (w32 ((M 64 28) - 1))) 81 (w32 (4 * ((up M 64 28 (w32 ((M 64 28) - 1))) 64 28))) l1) 64 28))) + 1)) l2) 81 (w32 ((w32 (4 * ((up (up (up M 64 28 (w32 ((M 64 28) - 1))) 81 (w32 (4 * ((up M 64 28 (w32 ((M 64 28) - 1))) 64 28))) l1) 81 (w32 ((w32 (4 * ((up (up M 64 28 (w32 ((M 64 28) - 1))) 81 (w32 (4 * ((up M 64 28 (w32 ((M 64 28) - 1))) 64 28))) l1) 64 28))) + 1)) l2) 64 28))) + 2)) l4) 81 (w32 ((w32 (4 * ((up (up (up (up M 64 28 (w32 ((M 64 28) - 1))) 81 (w32 (4 * ((up M 64 28 (w32 ((M 64 28) - 1))) 64 28))) l1) 81 (w32 ((w32 (4 * ((up (up M 64 28 (w32 ((M 64 28) - 1))) 81 (w32 (4 * ((up M 64 28 (w32 ((M 64 28) - 1))) 64 28))) l1) 64 28))) + 1)) l2) 81 (w32 ((w32 (4 * ((up (up (up M 64 28 (w32 ((M 64 28) - 1))) 81 (w32 (4 * ((up M 64 28 (w32 ((M 64 28) - 1))) 64 28))) l1) 81 (w32 ((w32 (4 * ((up (up M 64 28 (w32 ((M 64 28) - 1))) 81 (w32 (4 * ((up M 64 28 (w32 ((M 64 28) - 1))) 64 28))) l1) 64 28))) + 1)) l2) 64 28))) + 2)) l4) 64 28))) + 3)) l3) rfl rfl rfl q5.1 q5.2 rfl ?_
    refine x_al (pc' := 102) rfl rfl (by decide) rfl ?_
    refine x_dupa (pc' := 103) rfl rfl ?_
    refine x_gf (pc' := 104) (v := (up (up (up (up (up M 64 28 (w32 ((M 64 28) - 1))) 81 (w32 (4 * ((up M 64 28 (w32 ((M 64 28) - 1))) 64 28))) l1) 81 (w32 ((w32 (4 * ((up (up M 64 28 (w32 ((M 64 28) - 1))) 81 (w32 (4 * ((up M 64 28 (w32 ((M 64 28) - 1))) 64 28))) l1) 64 28))) + 1)) l2) 81 (w32 ((w32 (4 * ((up (up (up M 64 28 (w32 ((M 64 28) - 1))) 81 (w32 (4 * ((up M 64 28 (w32 ((M 64 28) - 1))) 64 28))) l1) 81 (w32 ((w32 (4 * ((up (up M 64 28 (w32 ((M 64 28) - 1))) 81 (w32 (4 * ((up M 64 28 (w32 ((M 64 28) - 1))) 64 28))) l1) 64 28))) + 1)) l2) 64 28))) + 2)) l4) 81 (w32 ((w32 (4 * ((up (up (up (up M 64 28 (w32 ((M 64 28) - 1))) 81 (w32 (4 * ((up M 64 28 (w32 ((M 64 28) - 1))) 64 28))) l1) 81 (w32 ((w32 (4 * ((up (up M 64 28 (w32 ((M 64 28) - 1))) 81 (w32 (4 * ((up M 64 28 (w32 ((M 64 28) - 1))) 64 28))) l1) 64 28))) + 1)) l2) 81 (w32 ((w32 (4 * ((up (up (up M 64 28 (w32 ((M 64 28) - 1))) 81 (w32 (4 * ((up M 64 28 (w32 ((M 64 28) - 1))) 64 28))) l1) 81 (w32 ((w32 (4 * ((up (up M 64 28 (w32 ((M 64 28) - 1))) 81 (w32 (4 * ((up M 64 28 (w32 ((M 64 28) - 1))) 64 28))) l1) 64 28))) + 1)) l2) 64 28))) + 2)) l4) 64 28))) + 3)) l3) 64 28) rfl rfl rfl rfl rfl ?_
    refine x_c (pc' := 105) rfl rfl ?_
    refine x_ib (pc' := 106) (v := w32 (((up (up (up (up (up M 64 28 (w32 ((M 64 28) - 1))) 81 (w32 (4 * ((up M 64 28 (w32 ((M 64 28) - 1))) 64 28))) l1) 81 (w32 ((w32 (4 * ((up (up M 64 28 (w32 ((M 64 28) - 1))) 81 (w32 (4 * ((up M 64 28 (w32 ((M 64 28) - 1))) 64 28))) l1) 64 28))) + 1)) l2) 81 (w32 ((w32 (4 * ((up (up (up M 64 28 (w32 ((M 64 28) - 1))) 81 (w32 (4 * ((up M 64 28 (w32 ((M 64 28) - 1))) 64 28))) l1) 81 (w32 ((w32 (4 * ((up (up M 64 28 (w32 ((M 64 28) - 1))) 81 (w32 (4 * ((up M 64 28 (w32 ((M 64 28) - 1))) 64 28))) l1) 64 28))) + 1)) l2) 64 28))) + 2)) l4) 81 (w32 ((w32 (4 * ((up (up (up (up M 64 28 (w32 ((M 64 28) - 1))) 81 (w32 (4 * ((up M 64 28 (w32 ((M 64 28) - 1))) 64 28))) l1) 81 (w32 ((w32 (4 * ((up (up M 64 28 (w32 ((M 64 28) - 1))) 81 (w32 (4 * ((up M 64 28 (w32 ((M 64 28) - 1))) 64 28))) l1) 64 28))) + 1)) l2) 81 (w32 ((w32 (4 * ((up (up (up M 64 28 (w32 ((M 64 28) - 1))) 81 (w32 (4 * ((up M 64 28 (w32 ((M 64 28) - 1))) 64 28))) l1) 81 (w32 ((w32 (4 * ((up (up M 64 28 (w32 ((M 64 28) - 1))) 81 (w32 (4 * ((up M 64 28 (w32 ((M 64 28) - 1))) 64 28))) l1) 64 28))) + 1)) l2) 64 28))) + 2)) l4) 64 28))) + 3)) l3) 64 28) + 1)) rfl rfl rfl ?_
    refine x_pf (pc' := 107) (M2 := up (up (up (up (up (up M 64 28 (w32 ((M 64 28) - 1))) 81 (w32 (4 * ((up M 64 28 (w32 ((M 64 28) - 1))) 64 28))) l1) 81 (w32 ((w32 (4 * ((up (up M 64 28 (w32 ((M 64 28) - 1))) 81 (w32 (4 * ((up M 64 28 (w32 ((M 64 28) - 1))) 64 28))) l1) 64 28))) + 1)) l2) 81 (w32 ((w32 (4 * ((up (up (up M 64 28 (w32 ((M 64 28) - 1))) 81 (w32 (4 * ((up M 64 28 (w32 ((M 64 28) - 1))) 64 28))) l1) 81 (w32 ((w32 (4 * ((up (up M 64 28 (w32 ((M 64 28) - 1))) 81 (w32 (4 * ((up M 64 28 (w32 ((M 64 28) - 1))) 64 28))) l1) 64 28))) + 1)) l2) 64 28))) + 2)) l4) 81 (w32 ((w32 (4 * ((up (up (up (up M 64 28 (w32 ((M 64 28) - 1))) 81 (w32 (4 * ((up M 64 28 (w32 ((M 64 28) - 1))) 64 28))) l1) 81 (w32 ((w32 (4 * ((up (up M 64 28 (w32 ((M 64 28) - 1))) 81 (w32 (4 * ((up M 64 28 (w32 ((M 64 28) - 1))) 64 28))) l1) 64 28))) + 1)) l2) 81 (w32 ((w32 (4 * ((up (up (up M 64 28 (w32 ((M 64 28) - 1))) 81 (w32 (4 * ((up M 64 28 (w32 ((M 64 28) - 1))) 64 28))) l1) 81 (w32 ((w32 (4 * ((up (up M 64 28 (w32 ((M 64 28) - 1))) 81 (w32 (4 * ((up M 64 28 (w32 ((M 64 28) - 1))) 64 28))) l1) 64 28))) + 1)) l2) 64 28))) + 2)) l4) 64 28))) + 3)) l3) 64 28 (w32 (((up (up (up (up (up M 64 28 (w32 ((M 64 28) - 1))) 81 (w32 (4 * ((up M 64 28 (w32 ((M 64 28) - 1))) 64 28))) l1) 81 (w32 ((w32 (4 * ((up (up M 64 28 (w32 ((M 64 28) - 1))) 81 (w32 (4 * ((up M 64 28 (w32 ((M 64 28) - 1))) 64 28))) l1) 64 28))) + 1)) l2) 81 (w32 ((w32 (4 * ((up (up (up M 64 28 (w32 ((M 64 28) - 1))) 81 (w32 (4 * ((up M 64 28 (w32 ((M 64 28) - 1))) 64 28))) l1) 81 (w32 ((w32 (4 * ((up (up M 64 28 (w32 ((M 64 28) - 1))) 81 (w32 (4 * ((up M 64 28 (w32 ((M 64 28) - 1))) 64 28))) l1) 64 28))) + 1)) l2) 64 28))) + 2)) l4) 81 (w32 ((w32 (4 * ((up (up (up (up M 64 28 (w32 ((M 64 28) - 1))) 81 (w32 (4 * ((up M 64 28 (w32 ((M 64 28) - 1))) 64 28))) l1) 81 (w32 ((w32 (4 * ((up (up M 64 28 (w32 ((M 64 28) - 1))) 81 (w32 (4 * ((up M 64 28 (w32 ((M 64 28) - 1))) 64 28))) l1) 64 28))) + 1)) l2) 81 (w32 ((w32 (4 * ((up (up (up M 64 28 (w32 ((M 64 28) - 1))) 81 (w32 (4 * ((up M 64 28 (w32 ((M 64 28) - 1))) 64 28))) l1) 81 (w32 ((w32 (4 * ((up (up M 64 28 (w32 ((M 64 28) - 1))) 81 (w32 (4 * ((up M 64 28 (w32 ((M 64 28) - 1))) 64 28))) l1) 64 28))) + 1)) l2) 64 28))) + 2)) l4) 64 28))) + 3)) l3) 64 28) + 1))) rfl rfl rfl rfl ?_
    refine x_al (pc' := 108) rfl rfl (by decide) rfl ?_
    refine x_al (pc' := 109) rfl rfl (by decide) rfl ?_
    refine x_gf (pc' := 110) (v := (up (up (up (up (up (up M 64 28 (w32 ((M 64 28) - 1))) 81 (w32 (4 * ((up M 64 28 (w32 ((M 64 28) - 1))) 64 28))) l1) 81 (w32 ((w32 (4 * ((up (up M 64 28 (w32 ((M 64 28) - 1))) 81 (w32 (4 * ((up M 64 28 (w32 ((M 64 28) - 1))) 64 28))) l1) 64 28))) + 1)) l2) 81 (w32 ((w32 (4 * ((up (up (up M 64 28 (w32 ((M 64 28) - 1))) 81 (w32 (4 * ((up M 64 28 (w32 ((M 64 28) - 1))) 64 28))) l1) 81 (w32 ((w32 (4 * ((up (up M 64 28 (w32 ((M 64 28) - 1))) 81 (w32 (4 * ((up M 64 28 (w32 ((M 64 28) - 1))) 64 28))) l1) 64 28))) + 1)) l2) 64 28))) + 2)) l4) 81 (w32 ((w32 (4 * ((up (up (up (up M 64 28 (w32 ((M 64 28) - 1))) 81 (w32 (4 * ((up M 64 28 (w32 ((M 64 28) - 1))) 64 28))) l1) 81 (w32 ((w32 (4 * ((up (up M 64 28 (w32 ((M 64 28) - 1))) 81 (w32 (4 * ((up M 64 28 (w32 ((M 64 28) - 1))) 64 28))) l1) 64 28))) + 1)) l2) 81 (w32 ((w32 (4 * ((up (up (up M 64 28 (w32 ((M 64 28) - 1))) 81 (w32 (4 * ((up M 64 28 (w32 ((M 64 28) - 1))) 64 28))) l1) 81 (w32 ((w32 (4 * ((up (up M 64 28 (w32 ((M 64 28) - 1))) 81 (w32 (4 * ((up M 64 28 (w32 ((M 64 28) - 1))) 64 28))) l1) 64 28))) + 1)) l2) 64 28))) + 2)) l4) 64 28))) + 3)) l3) 64 28 (w32 (((up (up (up (up (up M 64 28 (w32 ((M 64 28) - 1))) 81 (w32 (4 * ((up M 64 28 (w32 ((M 64 28) - 1))) 64 28))) l1) 81 (w32 ((w32 (4 * ((up (up M 64 28 (w32 ((M 64 28) - 1))) 81 (w32 (4 * ((up M 64 28 (w32 ((M 64 28) - 1))) 64 28))) l1) 64 28))) + 1)) l2) 81 (w32 ((w32 (4 * ((up (up (up M 64 28 (w32 ((M 64 28) - 1))) 81 (w32 (4 * ((up M 64 28 (w32 ((M 64 28) - 1))) 64 28))) l1) 81 (w32 ((w32 (4 * ((up (up M 64 28 (w32 ((M 64 28) - 1))) 81 (w32 (4 * ((up M 64 28 (w32 ((M 64 28) - 1))) 64 28))) l1) 64 28))) + 1)) l2) 64 28))) + 2)) l4) 81 (w32 ((w32 (4 * ((up (up (up (up M 64 28 (w32 ((M 64 28) - 1))) 81 (w32 (4 * ((up M 64 28 (w32 ((M 64 28) - 1))) 64 28))) l1) 81 (w32 ((w32 (4 * ((up (up M 64 28 (w32 ((M 64 28) - 1))) 81 (w32 (4 * ((up M 64 28 (w32 ((M 64 28) - 1))) 64 28))) l1) 64 28))) + 1)) l2) 81 (w32 ((w32 (4 * ((up (up (up M 64 28 (w32 ((M 64 28) - 1))) 81 (w32 (4 * ((up M 64 28 (w32 ((M 64 28) - 1))) 64 28))) l1) 81 (w32 ((w32 (4 * ((up (up M 64 28 (w32 ((M 64 28) - 1))) 81 (w32 (4 * ((up M 64 28 (w32 ((M 64 28) - 1))) 64 28))) l1) 64 28))) + 1)) l2) 64 28))) + 2)) l4) 64 28))) + 3)) l3) 64 28) + 1))) 64 28) rfl rfl rfl rfl rfl ?_
    refine x_pf (pc' := 111) (M2 := up (up (up (up (up (up (up M 64 28 (w32 ((M 64 28) - 1))) 81 (w32 (4 * ((up M 64 28 (w32 ((M 64 28) - 1))) 64 28))) l1) 81 (w32 ((w32 (4 * ((up (up M 64 28 (w32 ((M 64 28) - 1))) 81 (w32 (4 * ((up M 64 28 (w32 ((M 64 28) - 1))) 64 28))) l1) 64 28))) + 1)) l2) 81 (w32 ((w32 (4 * ((up (up (up M 64 28 (w32 ((M 64 28) - 1))) 81 (w32 (4 * ((up M 64 28 (w32 ((M 64 28) - 1))) 64 28))) l1) 81 (w32 ((w32 (4 * ((up (up M 64 28 (w32 ((M 64 28) - 1))) 81 (w32 (4 * ((up M 64 28 (w32 ((M 64 28) - 1))) 64 28))) l1) 64 28))) + 1)) l2) 64 28))) + 2)) l4) 81 (w32 ((w32 (4 * ((up (up (up (up M 64 28 (w32 ((M 64 28) - 1))) 81 (w32 (4 * ((up M 64 28 (w32 ((M 64 28) - 1))) 64 28))) l1) 81 (w32 ((w32 (4 * ((up (up M 64 28 (w32 ((M 64 28) - 1))) 81 (w32 (4 * ((up M 64 28 (w32 ((M 64 28) - 1))) 64 28))) l1) 64 28))) + 1)) l2) 81 (w32 ((w32 (4 * ((up (up (up M 64 28 (w32 ((M 64 28) - 1))) 81 (w32 (4 * ((up M 64 28 (w32 ((M 64 28) - 1))) 64 28))) l1) 81 (w32 ((w32 (4 * ((up (up M 64 28 (w32 ((M 64 28) - 1))) 81 (w32 (4 * ((up M 64 28 (w32 ((M 64 28) - 1))) 64 28))) l1) 64 28))) + 1)) l2) 64 28))) + 2)) l4) 64 28))) + 3)) l3) 64 28 (w32 (((up (up (up (up (up M 64 28 (w32 ((M 64 28) - 1))) 81 (w32 (4 * ((up M 64 28 (w32 ((M 64 28) - 1))) 64 28))) l1) 81 (w32 ((w32 (4 * ((up (up M 64 28 (w32 ((M 64 28) - 1))) 81 (w32 (4 * ((up M 64 28 (w32 ((M 64 28) - 1))) 64 28))) l1) 64 28))) + 1)) l2) 81 (w32 ((w32 (4 * ((up (up (up M 64 28 (w32 ((M 64 28) - 1))) 81 (w32 (4 * ((up M 64 28 (w32 ((M 64 28) - 1))) 64 28))) l1) 81 (w32 ((w32 (4 * ((up (up M 64 28 (w32 ((M 64 28) - 1))) 81 (w32 (4 * ((up M 64 28 (w32 ((M 64 28) - 1))) 64 28))) l1) 64 28))) + 1)) l2) 64 28))) + 2)) l4) 81 (w32 ((w32 (4 * ((up (up (up (up M 64 28 (w32 ((M 64 28) - 1))) 81 (w32 (4 * ((up M 64 28 (w32 ((M 64 28) - 1))) 64 28))) l1) 81 (w32 ((w32 (4 * ((up (up M 64 28 (w32 ((M 64 28) - 1))) 81 (w32 (4 * ((up M 64 28 (w32 ((M 64 28) - 1))) 64 28))) l1) 64 28))) + 1)) l2) 81 (w32 ((w32 (4 * ((up (up (up M 64 28 (w32 ((M 64 28) - 1))) 81 (w32 (4 * ((up M 64 28 (w32 ((M 64 28) - 1))) 64 28))) l1) 81 (w32 ((w32 (4 * ((up (up M 64 28 (w32 ((M 64 28) - 1))) 81 (w32 (4 * ((up M 64 28 (w32 ((M 64 28) - 1))) 64 28))) l1) 64 28))) + 1)) l2) 64 28))) + 2)) l4) 64 28))) + 3)) l3) 64 28) + 1))) 64 27 ((up (up (up (up (up (up M 64 28 (w32 ((M 64 28) - 1))) 81 (w32 (4 * ((up M 64 28 (w32 ((M 64 28) - 1))) 64 28))) l1) 81 (w32 ((w32 (4 * ((up (up M 64 28 (w32 ((M 64 28) - 1))) 81 (w32 (4 * ((up M 64 28 (w32 ((M 64 28) - 1))) 64 28))) l1) 64 28))) + 1)) l2) 81 (w32 ((w32 (4 * ((up (up (up M 64 28 (w32 ((M 64 28) - 1))) 81 (w32 (4 * ((up M 64 28 (w32 ((M 64 28) - 1))) 64 28))) l1) 81 (w32 ((w32 (4 * ((up (up M 64 28 (w32 ((M 64 28) - 1))) 81 (w32 (4 * ((up M 64 28 (w32 ((M 64 28) - 1))) 64 28))) l1) 64 28))) + 1)) l2) 64 28))) + 2)) l4) 81 (w32 ((w32 (4 * ((up (up (up (up M 64 28 (w32 ((M 64 28) - 1))) 81 (w32 (4 * ((up M 64 28 (w32 ((M 64 28) - 1))) 64 28))) l1) 81 (w32 ((w32 (4 * ((up (up M 64 28 (w32 ((M 64 28) - 1))) 81 (w32 (4 * ((up M 64 28 (w32 ((M 64 28) - 1))) 64 28))) l1) 64 28))) + 1)) l2) 81 (w32 ((w32 (4 * ((up (up (up M 64 28 (w32 ((M 64 28) - 1))) 81 (w32 (4 * ((up M 64 28 (w32 ((M 64 28) - 1))) 64 28))) l1) 81 (w32 ((w32 (4 * ((up (up M 64 28 (w32 ((M 64 28) - 1))) 81 (w32 (4 * ((up M 64 28 (w32 ((M 64 28) - 1))) 64 28))) l1) 64 28))) + 1)) l2) 64 28))) + 2)) l4) 64 28))) + 3)) l3) 64 28 (w32 (((up (up (up (up (up M 64 28 (w32 ((M 64 28) - 1))) 81 (w32 (4 * ((up M 64 28 (w32 ((M 64 28) - 1))) 64 28))) l1) 81 (w32 ((w32 (4 * ((up (up M 64 28 (w32 ((M 64 28) - 1))) 81 (w32 (4 * ((up M 64 28 (w32 ((M 64 28) - 1))) 64 28))) l1) 64 28))) + 1)) l2) 81 (w32 ((w32 (4 * ((up (up (up M 64 28 (w32 ((M 64 28) - 1))) 81 (w32 (4 * ((up M 64 28 (w32 ((M 64 28) - 1))) 64 28))) l1) 81 (w32 ((w32 (4 * ((up (up M 64 28 (w32 ((M 64 28) - 1))) 81 (w32 (4 * ((up M 64 28 (w32 ((M 64 28) - 1))) 64 28))) l1) 64 28))) + 1)) l2) 64 28))) + 2)) l4) 81 (w32 ((w32 (4 * ((up (up (up (up M 64 28 (w32 ((M 64 28) - 1))) 81 (w32 (4 * ((up M 64 28 (w32 ((M 64 28) - 1))) 64 28))) l1) 81 (w32 ((w32 (4 * ((up (up M 64 28 (w32 ((M 64 28) - 1))) 81 (w32 (4 * ((up M 64 28 (w32 ((M 64 28) - 1))) 64 28))) l1) 64 28))) + 1)) l2) 81 (w32 ((w32 (4 * ((up (up (up M 64 28 (w32 ((M 64 28) - 1))) 81 (w32 (4 * ((up M 64 28 (w32 ((M 64 28) - 1))) 64 28))) l1) 81 (w32 ((w32 (4 * ((up (up M 64 28 (w32 ((M 64 28) - 1))) 81 (w32 (4 * ((up M 64 28 (w32 ((M 64 28) - 1))) 64 28))) l1) 64 28))) + 1)) l2) 64 28))) + 2)) l4) 64 28))) + 3)) l3) 64 28) + 1))) 64 28)) rfl rfl rfl rfl ?_
    refine x_il (pc' := 112) rfl rfl rfl ?_
    exact x_iret rfl h
  · replace h := ite_f q1 h
    refine x_al (pc' := 46) rfl rfl (by decide) rfl ?_
    refine x_gr (pc' := 47) (v := 81) rfl rfl rfl (by decide) rfl ?_
    refine x_il (pc' := 48) rfl rfl rfl ?_
    refine x_al (pc' := 49) rfl rfl (by decide) rfl ?_
    refine x_gr (pc' := 50) (v := 81) rfl rfl rfl (by decide) rfl ?_
    refine x_il (pc' := 51) rfl rfl rfl ?_
    refine x_c (pc' := 52) rfl rfl ?_
    refine x_ib (pc' := 53) (v := w32 (l5 + 4)) rfl rfl rfl ?_
    obtain ⟨q6, h⟩ := h
    refine x_ia (pc' := 54) 160 (v := M 81 (w32 (l5 + 4))) rfl rfl rfl q6.1 q6.2 rfl ?_
    obtain ⟨q7, h⟩ := h
    refine x_ist (pc' := 55) 160 (M2 := up M 81 l5 (M 81 (w32 (l5 + 4)))) rfl rfl rfl q7.1 q7.2 rfl ?_
    refine x_inc (pc' := 56) (ls' := [(2, 64), (0, l1), (0, l2), (0, l3), (0, l4), (0, w32 (l5 + 1))]) rfl rfl rfl rfl ?_
    refine x_goto (t' := 42) rfl rfl ?_
    exact h
