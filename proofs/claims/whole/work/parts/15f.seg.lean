/-! what each method owes, point by point (by program) -/
theorem sg_M_tells {d : Nat} {p1 p2 p3 : Int} {M : Mem} {r : Res} (h : (if p2 = 0 then ∃ M3, Cl d m_M_ran [(2, 64), (0, 2)] M (none, M3) ∧ (0 ≤ p1 ∧ p1 < 50) ∧ ∃ v6 M7, Cl d m_M_counts [(2, 64), (0, p1), (0, M3 82 p1), (0, p3)] M3 (some (0, v6), M7) ∧ (0 ≤ p1 ∧ p1 < 50) ∧ ∃ v10 M11, Cl d m_M_files [(2, 64), (0, p1), (0, M7 82 p1), (0, 1)] M7 (some (0, v10), M11) ∧ r = (some (0, w32 (v6 - v10)), M11) else (if p2 = 5 then ∃ M14, Cl d m_M_ran [(2, 64), (0, 60)] M (none, M14) ∧ ∃ v16 M17, Cl d m_M_tells [(2, 64), (0, p1), (0, 3), (0, p3)] M14 (some (0, v16), M17) ∧ r = (some (0, ixor v16 5), M17) else (if p2 = 7 then ∃ M20, Cl d m_M_ran [(2, 64), (0, 81)] M (none, M20) ∧ ∃ v22 M23, Cl d m_M_tells [(2, 64), (0, p1), (0, 4), (0, p3)] M20 (some (0, v22), M23) ∧ r = (some (0, w32 (v22 - 1)), M23) else ∃ v25, Cl d m_M_above [(0, p2)] M (some (0, v25), M) ∧ ∃ v27 M28, Cl d m_M_tells [(2, 64), (0, p1), (0, v25), (0, p3)] M (some (0, v27), M28) ∧ r = (some (0, v27), M28))))) : Cl (d + 1) m_M_tells [(2, 64), (0, p1), (0, p2), (0, p3)] M r := by
  refine cl_of (c := k_M_tells) (mL := 5) (rz := 1) (rc := 7) (ls := [(2, 64), (0, p1), (0, p2), (0, p3), (3, 0)]) rfl rfl rfl ?_
  refine x_il (pc' := 1) rfl rfl rfl ?_
  by_cases q1 : p2 = 0
  · replace h := ite_t q1 h
    refine x_lsw (t' := 2) rfl (by rw [q1]; rfl) ?_
    refine x_al (pc' := 3) rfl rfl (by decide) rfl ?_
    refine x_c (pc' := 4) rfl rfl ?_
    obtain ⟨M3, q2, h⟩ := h
    refine x_callv (pc' := 5) (as := [(2, 64), (0, 2)]) (rest := []) rfl rfl rfl rfl rfl rfl q2 ?_
    refine x_al (pc' := 6) rfl rfl (by decide) rfl ?_
    refine x_il (pc' := 7) rfl rfl rfl ?_
    refine x_al (pc' := 8) rfl rfl (by decide) rfl ?_
    refine x_gr (pc' := 9) (v := 82) rfl rfl rfl (by decide) rfl ?_
    refine x_il (pc' := 10) rfl rfl rfl ?_
    obtain ⟨q4, h⟩ := h
    refine x_ia (pc' := 11) 50 (v := M3 82 p1) rfl rfl rfl q4.1 q4.2 rfl ?_
    refine x_il (pc' := 12) rfl rfl rfl ?_
    obtain ⟨v6, M7, q5, h⟩ := h
    refine x_call (pc' := 13) (as := [(2, 64), (0, p1), (0, M3 82 p1), (0, p3)]) (rest := []) rfl rfl rfl rfl rfl rfl q5 ?_
    refine x_is (pc' := 14) (ls' := [(2, 64), (0, p1), (0, p2), (0, p3), (0, v6)]) rfl rfl rfl rfl ?_
    refine x_il (pc' := 15) rfl rfl rfl ?_
    refine x_al (pc' := 16) rfl rfl (by decide) rfl ?_
    refine x_il (pc' := 17) rfl rfl rfl ?_
    refine x_al (pc' := 18) rfl rfl (by decide) rfl ?_
    refine x_gr (pc' := 19) (v := 82) rfl rfl rfl (by decide) rfl ?_
    refine x_il (pc' := 20) rfl rfl rfl ?_
    obtain ⟨q8, h⟩ := h
    refine x_ia (pc' := 21) 50 (v := M7 82 p1) rfl rfl rfl q8.1 q8.2 rfl ?_
    refine x_c (pc' := 22) rfl rfl ?_
    obtain ⟨v10, M11, q9, h⟩ := h
    refine x_call (pc' := 23) (as := [(2, 64), (0, p1), (0, M7 82 p1), (0, 1)]) (rest := [(0, v6)]) rfl rfl rfl rfl rfl rfl q9 ?_
    refine x_ib (pc' := 24) (v := w32 (v6 - v10)) rfl rfl rfl ?_
    exact x_iret rfl h
  replace h := ite_f q1 h
  by_cases q12 : p2 = 5
  · replace h := ite_t q12 h
    refine x_lsw (t' := 25) rfl (by rw [q12]; rfl) ?_
    refine x_al (pc' := 26) rfl rfl (by decide) rfl ?_
    refine x_c (pc' := 27) rfl rfl ?_
    obtain ⟨M14, q13, h⟩ := h
    refine x_callv (pc' := 28) (as := [(2, 64), (0, 60)]) (rest := []) rfl rfl rfl rfl rfl rfl q13 ?_
    refine x_al (pc' := 29) rfl rfl (by decide) rfl ?_
    refine x_il (pc' := 30) rfl rfl rfl ?_
    refine x_c (pc' := 31) rfl rfl ?_
    refine x_il (pc' := 32) rfl rfl rfl ?_
    obtain ⟨v16, M17, q15, h⟩ := h
    refine x_call (pc' := 33) (as := [(2, 64), (0, p1), (0, 3), (0, p3)]) (rest := []) rfl rfl rfl rfl rfl rfl q15 ?_
    refine x_c (pc' := 34) rfl rfl ?_
    refine x_ib (pc' := 35) (v := ixor v16 5) rfl rfl rfl ?_
    exact x_iret rfl h
  replace h := ite_f q12 h
  by_cases q18 : p2 = 7
  · replace h := ite_t q18 h
    refine x_lsw (t' := 36) rfl (by rw [q18]; rfl) ?_
    refine x_al (pc' := 37) rfl rfl (by decide) rfl ?_
    refine x_c (pc' := 38) rfl rfl ?_
    obtain ⟨M20, q19, h⟩ := h
    refine x_callv (pc' := 39) (as := [(2, 64), (0, 81)]) (rest := []) rfl rfl rfl rfl rfl rfl q19 ?_
    refine x_al (pc' := 40) rfl rfl (by decide) rfl ?_
    refine x_il (pc' := 41) rfl rfl rfl ?_
    refine x_c (pc' := 42) rfl rfl ?_
    refine x_il (pc' := 43) rfl rfl rfl ?_
    obtain ⟨v22, M23, q21, h⟩ := h
    refine x_call (pc' := 44) (as := [(2, 64), (0, p1), (0, 4), (0, p3)]) (rest := []) rfl rfl rfl rfl rfl rfl q21 ?_
    refine x_c (pc' := 45) rfl rfl ?_
    refine x_ib (pc' := 46) (v := w32 (v22 - 1)) rfl rfl rfl ?_
    exact x_iret rfl h
  replace h := ite_f q18 h
  refine x_lsw (t' := 47) rfl (by simp only [lswT, q1, q12, q18, if_false]; rfl) ?_
  refine x_al (pc' := 48) rfl rfl (by decide) rfl ?_
  refine x_il (pc' := 49) rfl rfl rfl ?_
  refine x_il (pc' := 50) rfl rfl rfl ?_
  obtain ⟨v25, q24, h⟩ := h
  refine x_call (pc' := 51) (as := [(0, p2)]) (rest := [(0, p1), (2, 64)]) rfl rfl rfl rfl rfl rfl q24 ?_
  refine x_il (pc' := 52) rfl rfl rfl ?_
  obtain ⟨v27, M28, q26, h⟩ := h
  refine x_call (pc' := 53) (as := [(2, 64), (0, p1), (0, v25), (0, p3)]) (rest := []) rfl rfl rfl rfl rfl rfl q26 ?_
  exact x_iret rfl h
theorem sg_M_body {d : Nat} {p1 : Int} {M : Mem} {r : Res} (h : ∃ v2, Cl d m_M_within [(0, p1), (0, 0), (0, 7)] M (some (0, v2), M) ∧ (if ¬ v2 = 0 then (if ¬ M 64 30 = 50 then (0 ≤ M 64 30 ∧ M 64 30 < 50) ∧ r = (some (0, (up M 82 (M 64 30) p1) 64 30), up (up M 82 (M 64 30) p1) 64 30 (w32 (((up M 82 (M 64 30) p1) 64 30) + 1))) else r = (some (0, (-3)), M)) else r = (some (0, (-1)), M))) : Cl (d + 1) m_M_body [(2, 64), (0, p1)] M r := by
  refine cl_of (c := k_M_body) (mL := 2) (rz := 1) (rc := 7) (ls := [(2, 64), (0, p1)]) rfl rfl rfl ?_
  refine x_il (pc' := 1) rfl rfl rfl ?_
  refine x_c (pc' := 2) rfl rfl ?_
  refine x_c (pc' := 3) rfl rfl ?_
  obtain ⟨v2, q1, h⟩ := h
  refine x_call (pc' := 4) (as := [(0, p1), (0, 0), (0, 7)]) (rest := []) rfl rfl rfl rfl rfl rfl q1 ?_
  refine x_ifne (pc' := 5) (t' := 7) rfl rfl rfl (fun q3 => ?_) (fun q3 => ?_)
  · replace h := ite_t q3 h
    refine x_al (pc' := 8) rfl rfl (by decide) rfl ?_
    refine x_gf (pc' := 9) (v := M 64 30) rfl rfl rfl rfl rfl ?_
    refine x_c (pc' := 10) rfl rfl ?_
    refine x_icne (pc' := 11) (t' := 13) rfl rfl rfl (fun q4 => ?_) (fun q4 => ?_)
    · replace h := ite_t q4 h
      refine x_al (pc' := 14) rfl rfl (by decide) rfl ?_
      refine x_gr (pc' := 15) (v := 82) rfl rfl rfl (by decide) rfl ?_
      refine x_al (pc' := 16) rfl rfl (by decide) rfl ?_
      refine x_gf (pc' := 17) (v := M 64 30) rfl rfl rfl rfl rfl ?_
      refine x_il (pc' := 18) rfl rfl rfl ?_
      obtain ⟨q5, h⟩ := h
      refine x_ist (pc' := 19) 50 (M2 := up M 82 (M 64 30) p1) rfl rfl rfl q5.1 q5.2 rfl ?_
      refine x_al (pc' := 20) rfl rfl (by decide) rfl ?_
      refine x_dupa (pc' := 21) rfl rfl ?_
      refine x_gf (pc' := 22) (v := (up M 82 (M 64 30) p1) 64 30) rfl rfl rfl rfl rfl ?_
      refine x_dupx1 (pc' := 23) rfl rfl ?_
      refine x_c (pc' := 24) rfl rfl ?_
      refine x_ib (pc' := 25) (v := w32 (((up M 82 (M 64 30) p1) 64 30) + 1)) rfl rfl rfl ?_
      refine x_pf (pc' := 26) (M2 := up (up M 82 (M 64 30) p1) 64 30 (w32 (((up M 82 (M 64 30) p1) 64 30) + 1))) rfl rfl rfl rfl ?_
      exact x_iret rfl h
    · replace h := ite_f q4 h
      refine x_c (pc' := 12) rfl rfl ?_
      exact x_iret rfl h
  · replace h := ite_f q3 h
    refine x_c (pc' := 6) rfl rfl ?_
    exact x_iret rfl h
theorem sg_M_act {d : Nat} {p1 p2 p3 : Int} {M : Mem} {r : Res} (h : ∃ v2, Cl d m_M_within [(0, p1), (0, 0), (0, w32 (((up M 64 32 0) 64 30) - 1))] (up M 64 32 0) (some (0, v2), up M 64 32 0) ∧ (if v2 = 0 then r = (some (0, 0), up M 64 32 0) else ∃ v5, Cl d m_M_within [(0, p2), (0, 0), (0, 3)] (up M 64 32 0) (some (0, v5), up M 64 32 0) ∧ (if ¬ v5 = 0 then (0 ≤ p1 ∧ p1 < 50) ∧ (if ¬ p2 = 0 then (if ¬ p2 = 1 then (if ¬ p2 = 2 then ∃ v12 M13, Cl d m_M_tells [(2, 64), (0, p1), (0, (up M 64 32 0) 82 p1), (0, p3)] (up M 64 32 0) (some (0, v12), M13) ∧ r = (some (0, v12), M13) else ∃ v15 M16, Cl d m_M_files [(2, 64), (0, p1), (0, (up M 64 32 0) 82 p1), (0, p3)] (up M 64 32 0) (some (0, v15), M16) ∧ r = (some (0, v15), M16)) else ∃ v18 M19, Cl d m_M_counts [(2, 64), (0, p1), (0, (up M 64 32 0) 82 p1), (0, p3)] (up M 64 32 0) (some (0, v18), M19) ∧ r = (some (0, v18), M19)) else ∃ v21 M22, Cl d m_M_inks [(2, 64), (0, p1), (0, (up M 64 32 0) 82 p1), (0, p3)] (up M 64 32 0) (some (0, v21), M22) ∧ r = (some (0, v21), M22)) else r = (some (0, 0), up M 64 32 0)))) : Cl (d + 1) m_M_act [(2, 64), (0, p1), (0, p2), (0, p3)] M r := by
  refine cl_of (c := k_M_act) (mL := 5) (rz := 1) (rc := 7) (ls := [(2, 64), (0, p1), (0, p2), (0, p3), (3, 0)]) rfl rfl rfl ?_
  refine x_al (pc' := 1) rfl rfl (by decide) rfl ?_
  refine x_c (pc' := 2) rfl rfl ?_
  refine x_pf (pc' := 3) (M2 := up M 64 32 0) rfl rfl rfl rfl ?_
  refine x_il (pc' := 4) rfl rfl rfl ?_
  refine x_c (pc' := 5) rfl rfl ?_
  refine x_al (pc' := 6) rfl rfl (by decide) rfl ?_
  refine x_gf (pc' := 7) (v := (up M 64 32 0) 64 30) rfl rfl rfl rfl rfl ?_
  refine x_c (pc' := 8) rfl rfl ?_
  refine x_ib (pc' := 9) (v := w32 (((up M 64 32 0) 64 30) - 1)) rfl rfl rfl ?_
  obtain ⟨v2, q1, h⟩ := h
  refine x_call (pc' := 10) (as := [(0, p1), (0, 0), (0, w32 (((up M 64 32 0) 64 30) - 1))]) (rest := []) rfl rfl rfl rfl rfl rfl q1 ?_
  refine x_ifeq (pc' := 11) (t' := 16) rfl rfl rfl (fun q3 => ?_) (fun q3 => ?_)
  · replace h := ite_t q3 h
    refine x_c (pc' := 17) rfl rfl ?_
    exact x_iret rfl h
  · replace h := ite_f q3 h
    refine x_il (pc' := 12) rfl rfl rfl ?_
    refine x_c (pc' := 13) rfl rfl ?_
    refine x_c (pc' := 14) rfl rfl ?_
    obtain ⟨v5, q4, h⟩ := h
    refine x_call (pc' := 15) (as := [(0, p2), (0, 0), (0, 3)]) (rest := []) rfl rfl rfl rfl rfl rfl q4 ?_
    refine x_ifne (pc' := 16) (t' := 18) rfl rfl rfl (fun q6 => ?_) (fun q6 => ?_)
    · replace h := ite_t q6 h
      refine x_al (pc' := 19) rfl rfl (by decide) rfl ?_
      refine x_gr (pc' := 20) (v := 82) rfl rfl rfl (by decide) rfl ?_
      refine x_il (pc' := 21) rfl rfl rfl ?_
      obtain ⟨q7, h⟩ := h
      refine x_ia (pc' := 22) 50 (v := (up M 64 32 0) 82 p1) rfl rfl rfl q7.1 q7.2 rfl ?_
      refine x_is (pc' := 23) (ls' := [(2, 64), (0, p1), (0, p2), (0, p3), (0, (up M 64 32 0) 82 p1)]) rfl rfl rfl rfl ?_
      refine x_il (pc' := 24) rfl rfl rfl ?_
      refine x_ifne (pc' := 25) (t' := 31) rfl rfl rfl (fun q8 => ?_) (fun q8 => ?_)
      · replace h := ite_t q8 h
        refine x_il (pc' := 32) rfl rfl rfl ?_
        refine x_c (pc' := 33) rfl rfl ?_
        refine x_icne (pc' := 34) (t' := 40) rfl rfl rfl (fun q9 => ?_) (fun q9 => ?_)
        · replace h := ite_t q9 h
          refine x_il (pc' := 41) rfl rfl rfl ?_
          refine x_c (pc' := 42) rfl rfl ?_
          refine x_icne (pc' := 43) (t' := 49) rfl rfl rfl (fun q10 => ?_) (fun q10 => ?_)
          · replace h := ite_t q10 h
            refine x_al (pc' := 50) rfl rfl (by decide) rfl ?_
            refine x_il (pc' := 51) rfl rfl rfl ?_
            refine x_il (pc' := 52) rfl rfl rfl ?_
            refine x_il (pc' := 53) rfl rfl rfl ?_
            obtain ⟨v12, M13, q11, h⟩ := h
            refine x_call (pc' := 54) (as := [(2, 64), (0, p1), (0, (up M 64 32 0) 82 p1), (0, p3)]) (rest := []) rfl rfl rfl rfl rfl rfl q11 ?_
            exact x_iret rfl h
          · replace h := ite_f q10 h
            refine x_al (pc' := 44) rfl rfl (by decide) rfl ?_
            refine x_il (pc' := 45) rfl rfl rfl ?_
            refine x_il (pc' := 46) rfl rfl rfl ?_
            refine x_il (pc' := 47) rfl rfl rfl ?_
            obtain ⟨v15, M16, q14, h⟩ := h
            refine x_call (pc' := 48) (as := [(2, 64), (0, p1), (0, (up M 64 32 0) 82 p1), (0, p3)]) (rest := []) rfl rfl rfl rfl rfl rfl q14 ?_
            refine x_goto (t' := 54) rfl rfl ?_
            exact x_iret rfl h
        · replace h := ite_f q9 h
          refine x_al (pc' := 35) rfl rfl (by decide) rfl ?_
          refine x_il (pc' := 36) rfl rfl rfl ?_
          refine x_il (pc' := 37) rfl rfl rfl ?_
          refine x_il (pc' := 38) rfl rfl rfl ?_
          obtain ⟨v18, M19, q17, h⟩ := h
          refine x_call (pc' := 39) (as := [(2, 64), (0, p1), (0, (up M 64 32 0) 82 p1), (0, p3)]) (rest := []) rfl rfl rfl rfl rfl rfl q17 ?_
          refine x_goto (t' := 54) rfl rfl ?_
          exact x_iret rfl h
      · replace h := ite_f q8 h
        refine x_al (pc' := 26) rfl rfl (by decide) rfl ?_
        refine x_il (pc' := 27) rfl rfl rfl ?_
        refine x_il (pc' := 28) rfl rfl rfl ?_
        refine x_il (pc' := 29) rfl rfl rfl ?_
        obtain ⟨v21, M22, q20, h⟩ := h
        refine x_call (pc' := 30) (as := [(2, 64), (0, p1), (0, (up M 64 32 0) 82 p1), (0, p3)]) (rest := []) rfl rfl rfl rfl rfl rfl q20 ?_
        refine x_goto (t' := 54) rfl rfl ?_
        exact x_iret rfl h
    · replace h := ite_f q6 h
      refine x_c (pc' := 17) rfl rfl ?_
      exact x_iret rfl h
theorem sg_M_trace {d : Nat} {p1 : Int} {M : Mem} {r : Res} (h : ∃ v2, Cl d m_M_within [(0, p1), (0, 0), (0, w32 ((if M 64 32 < 24 then M 64 32 else 24) - 1))] M (some (0, v2), M) ∧ (if v2 = 0 then r = (some (0, (-1)), M) else (0 ≤ p1 ∧ p1 < 24) ∧ r = (some (0, M 83 p1), M))) : Cl (d + 1) m_M_trace [(2, 64), (0, p1)] M r := by
  refine cl_of (c := k_M_trace) (mL := 2) (rz := 1) (rc := 7) (ls := [(2, 64), (0, p1)]) rfl rfl rfl ?_
  refine x_il (pc' := 1) rfl rfl rfl ?_
  refine x_c (pc' := 2) rfl rfl ?_
  refine x_c (pc' := 3) rfl rfl ?_
  refine x_al (pc' := 4) rfl rfl (by decide) rfl ?_
  refine x_gf (pc' := 5) (v := M 64 32) rfl rfl rfl rfl rfl ?_
  refine x_min (pc' := 6) rfl rfl rfl ?_
  refine x_c (pc' := 7) rfl rfl ?_
  refine x_ib (pc' := 8) (v := w32 ((if M 64 32 < 24 then M 64 32 else 24) - 1)) rfl rfl rfl ?_
  obtain ⟨v2, q1, h⟩ := h
  refine x_call (pc' := 9) (as := [(0, p1), (0, 0), (0, w32 ((if M 64 32 < 24 then M 64 32 else 24) - 1))]) (rest := []) rfl rfl rfl rfl rfl rfl q1 ?_
  refine x_ifeq (pc' := 10) (t' := 15) rfl rfl rfl (fun q3 => ?_) (fun q3 => ?_)
  · replace h := ite_t q3 h
    refine x_c (pc' := 16) rfl rfl ?_
    exact x_iret rfl h
  · replace h := ite_f q3 h
    refine x_al (pc' := 11) rfl rfl (by decide) rfl ?_
    refine x_gr (pc' := 12) (v := 83) rfl rfl rfl (by decide) rfl ?_
    refine x_il (pc' := 13) rfl rfl rfl ?_
    obtain ⟨q4, h⟩ := h
    refine x_ia (pc' := 14) 24 (v := M 83 p1) rfl rfl rfl q4.1 q4.2 rfl ?_
    refine x_goto (t' := 16) rfl rfl ?_
    exact x_iret rfl h
theorem sg_M_keep {d : Nat} {p1 p2 : Int} {M : Mem} {r : Res} (h : ∃ v2, Cl d m_M_isShelf [(0, p1)] M (some (0, v2), M) ∧ (if v2 = 0 then r = (some (0, (-1)), M) else ∃ v5, Cl d m_M_within [(0, p2), (0, (-1)), (0, w32 ((M 64 30) - 1))] M (some (0, v5), M) ∧ (if ¬ v5 = 0 then (if 0 ≤ p2 then (0 ≤ p1 ∧ p1 < 6) ∧ (0 ≤ p1 ∧ p1 < 6) ∧ r = (some (0, 1), up (up M 84 p1 (w32 (10 + p2))) 85 p1 0) else (0 ≤ p1 ∧ p1 < 6) ∧ (0 ≤ p1 ∧ p1 < 6) ∧ r = (some (0, 1), up (up M 84 p1 (-1)) 85 p1 0)) else r = (some (0, (-1)), M)))) : Cl (d + 1) m_M_keep [(2, 64), (0, p1), (0, p2)] M r := by
  refine cl_of (c := k_M_keep) (mL := 3) (rz := 1) (rc := 7) (ls := [(2, 64), (0, p1), (0, p2)]) rfl rfl rfl ?_
  refine x_il (pc' := 1) rfl rfl rfl ?_
  obtain ⟨v2, q1, h⟩ := h
  refine x_call (pc' := 2) (as := [(0, p1)]) (rest := []) rfl rfl rfl rfl rfl rfl q1 ?_
  refine x_ifeq (pc' := 3) (t' := 11) rfl rfl rfl (fun q3 => ?_) (fun q3 => ?_)
  · replace h := ite_t q3 h
    refine x_c (pc' := 12) rfl rfl ?_
    exact x_iret rfl h
  · replace h := ite_f q3 h
    refine x_il (pc' := 4) rfl rfl rfl ?_
    refine x_c (pc' := 5) rfl rfl ?_
    refine x_al (pc' := 6) rfl rfl (by decide) rfl ?_
    refine x_gf (pc' := 7) (v := M 64 30) rfl rfl rfl rfl rfl ?_
    refine x_c (pc' := 8) rfl rfl ?_
    refine x_ib (pc' := 9) (v := w32 ((M 64 30) - 1)) rfl rfl rfl ?_
    obtain ⟨v5, q4, h⟩ := h
    refine x_call (pc' := 10) (as := [(0, p2), (0, (-1)), (0, w32 ((M 64 30) - 1))]) (rest := []) rfl rfl rfl rfl rfl rfl q4 ?_
    refine x_ifne (pc' := 11) (t' := 13) rfl rfl rfl (fun q6 => ?_) (fun q6 => ?_)
    · replace h := ite_t q6 h
      refine x_al (pc' := 14) rfl rfl (by decide) rfl ?_
      refine x_gr (pc' := 15) (v := 84) rfl rfl rfl (by decide) rfl ?_
      refine x_il (pc' := 16) rfl rfl rfl ?_
      refine x_il (pc' := 17) rfl rfl rfl ?_
      refine x_ifge (pc' := 18) (t' := 20) rfl rfl rfl (fun q7 => ?_) (fun q7 => ?_)
      · replace h := ite_t q7 h
        refine x_c (pc' := 21) rfl rfl ?_
        refine x_il (pc' := 22) rfl rfl rfl ?_
        refine x_ib (pc' := 23) (v := w32 (10 + p2)) rfl rfl rfl ?_
        obtain ⟨q8, h⟩ := h
        refine x_ist (pc' := 24) 6 (M2 := up M 84 p1 (w32 (10 + p2))) rfl rfl rfl q8.1 q8.2 rfl ?_
        refine x_al (pc' := 25) rfl rfl (by decide) rfl ?_
        refine x_gr (pc' := 26) (v := 85) rfl rfl rfl (by decide) rfl ?_
        refine x_il (pc' := 27) rfl rfl rfl ?_
        refine x_c (pc' := 28) rfl rfl ?_
        obtain ⟨q9, h⟩ := h
        refine x_ist (pc' := 29) 6 (M2 := up (up M 84 p1 (w32 (10 + p2))) 85 p1 0) rfl rfl rfl q9.1 q9.2 rfl ?_
        refine x_c (pc' := 30) rfl rfl ?_
        exact x_iret rfl h
      · replace h := ite_f q7 h
        refine x_c (pc' := 19) rfl rfl ?_
        refine x_goto (t' := 23) rfl rfl ?_
        obtain ⟨q10, h⟩ := h
        refine x_ist (pc' := 24) 6 (M2 := up M 84 p1 (-1)) rfl rfl rfl q10.1 q10.2 rfl ?_
        refine x_al (pc' := 25) rfl rfl (by decide) rfl ?_
        refine x_gr (pc' := 26) (v := 85) rfl rfl rfl (by decide) rfl ?_
        refine x_il (pc' := 27) rfl rfl rfl ?_
        refine x_c (pc' := 28) rfl rfl ?_
        obtain ⟨q11, h⟩ := h
        refine x_ist (pc' := 29) 6 (M2 := up (up M 84 p1 (-1)) 85 p1 0) rfl rfl rfl q11.1 q11.2 rfl ?_
        refine x_c (pc' := 30) rfl rfl ?_
        exact x_iret rfl h
    · replace h := ite_f q6 h
      refine x_c (pc' := 12) rfl rfl ?_
      exact x_iret rfl h
def at_M_row_29 (d : Nat) (l1 : Int) (w2 : AV) (w3 : AV) (l4 : Int) (M : Mem) (r : Res) : Prop := Ex sx0 d k_M_row 1 29 [(2, 64), (0, l1), w2, w3, (0, l4)] [] M r
theorem sg_M_row {d : Nat} {p1 p2 p3 : Int} {M : Mem} {r : Res} (h : ∃ v2, Cl d m_M_isShelf [(0, p1)] M (some (0, v2), M) ∧ (if v2 = 0 then r = (some (0, (-1)), M) else ∃ v5, Cl d m_M_within [(0, p2), (0, 0), (0, 4)] M (some (0, v5), M) ∧ (if v5 = 0 then r = (some (0, (-1)), M) else (if p3 ≤ 60 then (if 0 ≤ p3 then (0 ≤ p1 ∧ p1 < 6) ∧ (0 ≤ p1 ∧ p1 < 6) ∧ at_M_row_29 d p1 (0, p2) (0, p3) 0 (up (up M 84 p1 p2) 85 p1 p3) r else r = (some (0, (-14)), M)) else r = (some (0, (-1)), M))))) : Cl (d + 1) m_M_row [(2, 64), (0, p1), (0, p2), (0, p3)] M r := by
  refine cl_of (c := k_M_row) (mL := 5) (rz := 1) (rc := 7) (ls := [(2, 64), (0, p1), (0, p2), (0, p3), (3, 0)]) rfl rfl rfl ?_
  refine x_il (pc' := 1) rfl rfl rfl ?_
  obtain ⟨v2, q1, h⟩ := h
  refine x_call (pc' := 2) (as := [(0, p1)]) (rest := []) rfl rfl rfl rfl rfl rfl q1 ?_
  refine x_ifeq (pc' := 3) (t' := 11) rfl rfl rfl (fun q3 => ?_) (fun q3 => ?_)
  · replace h := ite_t q3 h
    refine x_c (pc' := 12) rfl rfl ?_
    exact x_iret rfl h
  · replace h := ite_f q3 h
    refine x_il (pc' := 4) rfl rfl rfl ?_
    refine x_c (pc' := 5) rfl rfl ?_
    refine x_c (pc' := 6) rfl rfl ?_
    obtain ⟨v5, q4, h⟩ := h
    refine x_call (pc' := 7) (as := [(0, p2), (0, 0), (0, 4)]) (rest := []) rfl rfl rfl rfl rfl rfl q4 ?_
    refine x_ifeq (pc' := 8) (t' := 11) rfl rfl rfl (fun q6 => ?_) (fun q6 => ?_)
    · replace h := ite_t q6 h
      refine x_c (pc' := 12) rfl rfl ?_
      exact x_iret rfl h
    · replace h := ite_f q6 h
      refine x_il (pc' := 9) rfl rfl rfl ?_
      refine x_c (pc' := 10) rfl rfl ?_
      refine x_icle (pc' := 11) (t' := 13) rfl rfl rfl (fun q7 => ?_) (fun q7 => ?_)
      · replace h := ite_t q7 h
        refine x_il (pc' := 14) rfl rfl rfl ?_
        refine x_ifge (pc' := 15) (t' := 17) rfl rfl rfl (fun q8 => ?_) (fun q8 => ?_)
        · replace h := ite_t q8 h
          refine x_al (pc' := 18) rfl rfl (by decide) rfl ?_
          refine x_gr (pc' := 19) (v := 84) rfl rfl rfl (by decide) rfl ?_
          refine x_il (pc' := 20) rfl rfl rfl ?_
          refine x_il (pc' := 21) rfl rfl rfl ?_
          obtain ⟨q9, h⟩ := h
          refine x_ist (pc' := 22) 6 (M2 := up M 84 p1 p2) rfl rfl rfl q9.1 q9.2 rfl ?_
          refine x_al (pc' := 23) rfl rfl (by decide) rfl ?_
          refine x_gr (pc' := 24) (v := 85) rfl rfl rfl (by decide) rfl ?_
          refine x_il (pc' := 25) rfl rfl rfl ?_
          refine x_il (pc' := 26) rfl rfl rfl ?_
          obtain ⟨q10, h⟩ := h
          refine x_ist (pc' := 27) 6 (M2 := up (up M 84 p1 p2) 85 p1 p3) rfl rfl rfl q10.1 q10.2 rfl ?_
          refine x_c (pc' := 28) rfl rfl ?_
          refine x_is (pc' := 29) (ls' := [(2, 64), (0, p1), (0, p2), (0, p3), (0, 0)]) rfl rfl rfl rfl ?_
          exact h
        · replace h := ite_f q8 h
          refine x_c (pc' := 16) rfl rfl ?_
          exact x_iret rfl h
      · replace h := ite_f q7 h
        refine x_c (pc' := 12) rfl rfl ?_
        exact x_iret rfl h
theorem sg_M_row_29 {d : Nat} {l1 : Int} {w2 : AV} {w3 : AV} {l4 : Int} {M : Mem} {r : Res} (hw3 : ¬ w3.1 = 1) (h : (if 60 ≤ l4 then r = (some (0, 1), M) else (0 ≤ w32 ((w32 (60 * l1)) + l4) ∧ w32 ((w32 (60 * l1)) + l4) < 360) ∧ at_M_row_29 d l1 w2 w3 (w32 (l4 + 1)) (up M 86 (w32 ((w32 (60 * l1)) + l4)) 0) r)) : at_M_row_29 d l1 w2 w3 l4 M r := by
  unfold at_M_row_29
  refine x_il (pc' := 30) rfl rfl rfl ?_
  refine x_c (pc' := 31) rfl rfl ?_
  refine x_icge (pc' := 32) (t' := 43) rfl rfl rfl (fun q1 => ?_) (fun q1 => ?_)
  · replace h := ite_t q1 h
    refine x_c (pc' := 44) rfl rfl ?_
    exact x_iret rfl h
  · replace h := ite_f q1 h
    refine x_al (pc' := 33) rfl rfl (by decide) rfl ?_
    refine x_gr (pc' := 34) (v := 86) rfl rfl rfl (by decide) rfl ?_
    refine x_c (pc' := 35) rfl rfl ?_
    refine x_il (pc' := 36) rfl rfl rfl ?_
    refine x_ib (pc' := 37) (v := w32 (60 * l1)) rfl rfl rfl ?_
    refine x_il (pc' := 38) rfl rfl rfl ?_
    refine x_ib (pc' := 39) (v := w32 ((w32 (60 * l1)) + l4)) rfl rfl rfl ?_
    refine x_lc (pc' := 40) rfl rfl ?_
    obtain ⟨q2, h⟩ := h
    refine x_lst (pc' := 41) 360 (M2 := up M 86 (w32 ((w32 (60 * l1)) + l4)) 0) rfl rfl rfl q2.1 q2.2 rfl ?_
    refine x_inc (pc' := 42) (ls' := [(2, 64), (0, l1), w2, w3, (0, w32 (l4 + 1))]) rfl rfl (setL_nw (i := 3) rfl hw3) rfl ?_
    refine x_goto (t' := 29) rfl rfl ?_
    exact h
theorem sg_M_isRow {d : Nat} {p1 : Int} {M : Mem} {r : Res} (h : (0 ≤ p1 ∧ p1 < 6) ∧ ∃ v3, Cl d m_M_within [(0, M 84 p1), (0, 0), (0, 4)] M (some (0, v3), M) ∧ (v3 = 0 ∨ v3 = 1) ∧ r = (some (0, v3), M)) : Cl (d + 1) m_M_isRow [(2, 64), (0, p1)] M r := by
  refine cl_of (c := k_M_isRow) (mL := 2) (rz := 3) (rc := 7) (ls := [(2, 64), (0, p1)]) rfl rfl rfl ?_
  refine x_al (pc' := 1) rfl rfl (by decide) rfl ?_
  refine x_gr (pc' := 2) (v := 84) rfl rfl rfl (by decide) rfl ?_
  refine x_il (pc' := 3) rfl rfl rfl ?_
  obtain ⟨q1, h⟩ := h
  refine x_ia (pc' := 4) 6 (v := M 84 p1) rfl rfl rfl q1.1 q1.2 rfl ?_
  refine x_c (pc' := 5) rfl rfl ?_
  refine x_c (pc' := 6) rfl rfl ?_
  obtain ⟨v3, q2, h⟩ := h
  refine x_call (pc' := 7) (as := [(0, M 84 p1), (0, 0), (0, 4)]) (rest := []) rfl rfl rfl rfl rfl rfl q2 ?_
  obtain ⟨q4, h⟩ := h
  exact x_zret rfl q4 h
theorem sg_M_kept {d : Nat} {p1 p2 : Int} {M : Mem} {r : Res} (h : (if p1 = 0 then r = (some (1, Int.bmod (w32 p2) 256), M) else (if p1 = 1 then r = (some (1, Int.bmod (w32 p2) 65536), M) else (if p1 = 2 then r = (some (1, w32 p2), M) else (if p1 = 3 then r = (some (1, p2), M) else (if lcmpI p2 0 = 0 then r = (some (1, 0), M) else r = (some (1, 1), M))))))) : Cl (d + 1) m_M_kept [(0, p1), (1, p2)] M r := by
  refine cl_of (c := k_M_kept) (mL := 3) (rz := 2) (rc := 99) (ls := [(0, p1), (1, p2), (3, 0)]) rfl rfl rfl ?_
  refine x_il (pc' := 1) rfl rfl rfl ?_
  by_cases q1 : p1 = 0
  · replace h := ite_t q1 h
    refine x_tswv (t' := 2) 0 rfl q1 rfl rfl ?_
    refine x_ll (pc' := 3) rfl rfl rfl ?_
    refine x_l2i (pc' := 4) rfl rfl ?_
    refine x_i2b (pc' := 5) rfl rfl ?_
    refine x_i2l (pc' := 6) rfl rfl ?_
    exact x_lret rfl h
  replace h := ite_f q1 h
  by_cases q2 : p1 = 1
  · replace h := ite_t q2 h
    refine x_tswv (t' := 7) 1 rfl q2 rfl rfl ?_
    refine x_ll (pc' := 8) rfl rfl rfl ?_
    refine x_l2i (pc' := 9) rfl rfl ?_
    refine x_i2s (pc' := 10) rfl rfl ?_
    refine x_i2l (pc' := 11) rfl rfl ?_
    exact x_lret rfl h
  replace h := ite_f q2 h
  by_cases q3 : p1 = 2
  · replace h := ite_t q3 h
    refine x_tswv (t' := 12) 2 rfl q3 rfl rfl ?_
    refine x_ll (pc' := 13) rfl rfl rfl ?_
    refine x_l2i (pc' := 14) rfl rfl ?_
    refine x_i2l (pc' := 15) rfl rfl ?_
    exact x_lret rfl h
  replace h := ite_f q3 h
  by_cases q4 : p1 = 3
  · replace h := ite_t q4 h
    refine x_tswv (t' := 16) 3 rfl q4 rfl rfl ?_
    refine x_ll (pc' := 17) rfl rfl rfl ?_
    exact x_lret rfl h
  replace h := ite_f q4 h
  refine x_tswd (t' := 18) rfl (show p1 < 0 ∨ 0 + ((4 : Nat) : Int) ≤ p1 by omega) rfl ?_
  refine x_ll (pc' := 19) rfl rfl rfl ?_
  refine x_lc (pc' := 20) rfl rfl ?_
  refine x_lcmp (pc' := 21) rfl rfl ?_
  refine x_ifeq (pc' := 22) (t' := 24) rfl rfl rfl (fun q5 => ?_) (fun q5 => ?_)
  · replace h := ite_t q5 h
    refine x_lc (pc' := 25) rfl rfl ?_
    exact x_lret rfl h
  · replace h := ite_f q5 h
    refine x_lc (pc' := 23) rfl rfl ?_
    refine x_goto (t' := 25) rfl rfl ?_
    exact x_lret rfl h
theorem sg_M_put {d : Nat} {p1 p2 p3 : Int} {M : Mem} {r : Res} (h : ∃ v2, Cl d m_M_isShelf [(0, p1)] M (some (0, v2), M) ∧ (if ¬ v2 = 0 then (0 ≤ p1 ∧ p1 < 6) ∧ (if ¬ M 84 p1 = (-1) then ∃ v7, Cl d m_M_isRow [(2, 64), (0, p1)] M (some (0, v7), M) ∧ (if ¬ v7 = 0 then (0 ≤ p1 ∧ p1 < 6) ∧ ∃ v11, Cl d m_M_within [(0, p2), (0, 0), (0, w32 ((M 85 p1) - 1))] M (some (0, v11), M) ∧ (if ¬ v11 = 0 then (0 ≤ p1 ∧ p1 < 6) ∧ ∃ v15, Cl d m_M_kept [(0, M 84 p1), (1, p3)] M (some (1, v15), M) ∧ (0 ≤ w32 ((w32 (60 * p1)) + p2) ∧ w32 ((w32 (60 * p1)) + p2) < 360) ∧ r = (some (0, 1), up M 86 (w32 ((w32 (60 * p1)) + p2)) v15) else r = (some (0, (-13)), M)) else r = (some (0, (-12)), M)) else r = (some (0, (-11)), M)) else r = (some (0, (-1)), M))) : Cl (d + 1) m_M_put [(2, 64), (0, p1), (0, p2), (1, p3)] M r := by
  refine cl_of (c := k_M_put) (mL := 5) (rz := 1) (rc := 7) (ls := [(2, 64), (0, p1), (0, p2), (1, p3), (3, 0)]) rfl rfl rfl ?_
  refine x_il (pc' := 1) rfl rfl rfl ?_
  obtain ⟨v2, q1, h⟩ := h
  refine x_call (pc' := 2) (as := [(0, p1)]) (rest := []) rfl rfl rfl rfl rfl rfl q1 ?_
  refine x_ifne (pc' := 3) (t' := 5) rfl rfl rfl (fun q3 => ?_) (fun q3 => ?_)
  · replace h := ite_t q3 h
    refine x_al (pc' := 6) rfl rfl (by decide) rfl ?_
    refine x_gr (pc' := 7) (v := 84) rfl rfl rfl (by decide) rfl ?_
    refine x_il (pc' := 8) rfl rfl rfl ?_
    obtain ⟨q4, h⟩ := h
    refine x_ia (pc' := 9) 6 (v := M 84 p1) rfl rfl rfl q4.1 q4.2 rfl ?_
    refine x_c (pc' := 10) rfl rfl ?_
    refine x_icne (pc' := 11) (t' := 13) rfl rfl rfl (fun q5 => ?_) (fun q5 => ?_)
    · replace h := ite_t q5 h
      refine x_al (pc' := 14) rfl rfl (by decide) rfl ?_
      refine x_il (pc' := 15) rfl rfl rfl ?_
      obtain ⟨v7, q6, h⟩ := h
      refine x_call (pc' := 16) (as := [(2, 64), (0, p1)]) (rest := []) rfl rfl rfl rfl rfl rfl q6 ?_
      refine x_ifne (pc' := 17) (t' := 19) rfl rfl rfl (fun q8 => ?_) (fun q8 => ?_)
      · replace h := ite_t q8 h
        refine x_il (pc' := 20) rfl rfl rfl ?_
        refine x_c (pc' := 21) rfl rfl ?_
        refine x_al (pc' := 22) rfl rfl (by decide) rfl ?_
        refine x_gr (pc' := 23) (v := 85) rfl rfl rfl (by decide) rfl ?_
        refine x_il (pc' := 24) rfl rfl rfl ?_
        obtain ⟨q9, h⟩ := h
        refine x_ia (pc' := 25) 6 (v := M 85 p1) rfl rfl rfl q9.1 q9.2 rfl ?_
        refine x_c (pc' := 26) rfl rfl ?_
        refine x_ib (pc' := 27) (v := w32 ((M 85 p1) - 1)) rfl rfl rfl ?_
        obtain ⟨v11, q10, h⟩ := h
        refine x_call (pc' := 28) (as := [(0, p2), (0, 0), (0, w32 ((M 85 p1) - 1))]) (rest := []) rfl rfl rfl rfl rfl rfl q10 ?_
        refine x_ifne (pc' := 29) (t' := 31) rfl rfl rfl (fun q12 => ?_) (fun q12 => ?_)
        · replace h := ite_t q12 h
          refine x_al (pc' := 32) rfl rfl (by decide) rfl ?_
          refine x_gr (pc' := 33) (v := 86) rfl rfl rfl (by decide) rfl ?_
          refine x_c (pc' := 34) rfl rfl ?_
          refine x_il (pc' := 35) rfl rfl rfl ?_
          refine x_ib (pc' := 36) (v := w32 (60 * p1)) rfl rfl rfl ?_
          refine x_il (pc' := 37) rfl rfl rfl ?_
          refine x_ib (pc' := 38) (v := w32 ((w32 (60 * p1)) + p2)) rfl rfl rfl ?_
          refine x_al (pc' := 39) rfl rfl (by decide) rfl ?_
          refine x_gr (pc' := 40) (v := 84) rfl rfl rfl (by decide) rfl ?_
          refine x_il (pc' := 41) rfl rfl rfl ?_
          obtain ⟨q13, h⟩ := h
          refine x_ia (pc' := 42) 6 (v := M 84 p1) rfl rfl rfl q13.1 q13.2 rfl ?_
          refine x_ll (pc' := 43) rfl rfl rfl ?_
          obtain ⟨v15, q14, h⟩ := h
          refine x_call (pc' := 44) (as := [(0, M 84 p1), (1, p3)]) (rest := [(0, w32 ((w32 (60 * p1)) + p2)), (2, 86)]) rfl rfl rfl rfl rfl rfl q14 ?_
          obtain ⟨q16, h⟩ := h
          refine x_lst (pc' := 45) 360 (M2 := up M 86 (w32 ((w32 (60 * p1)) + p2)) v15) rfl rfl rfl q16.1 q16.2 rfl ?_
          refine x_c (pc' := 46) rfl rfl ?_
          exact x_iret rfl h
        · replace h := ite_f q12 h
          refine x_c (pc' := 30) rfl rfl ?_
          exact x_iret rfl h
      · replace h := ite_f q8 h
        refine x_c (pc' := 18) rfl rfl ?_
        exact x_iret rfl h
    · replace h := ite_f q5 h
      refine x_c (pc' := 12) rfl rfl ?_
      exact x_iret rfl h
  · replace h := ite_f q3 h
    refine x_c (pc' := 4) rfl rfl ?_
    exact x_iret rfl h
theorem sg_M_element {d : Nat} {p1 p2 : Int} {M : Mem} {r : Res} (h : ∃ v2, Cl d m_M_isShelf [(0, p1)] M (some (0, v2), M) ∧ (if v2 = 0 then r = (some (1, (-9223372036854775808)), M) else ∃ v5, Cl d m_M_isRow [(2, 64), (0, p1)] M (some (0, v5), M) ∧ (if v5 = 0 then r = (some (1, (-9223372036854775808)), M) else (0 ≤ p1 ∧ p1 < 6) ∧ ∃ v9, Cl d m_M_within [(0, p2), (0, 0), (0, w32 ((M 85 p1) - 1))] M (some (0, v9), M) ∧ (if v9 = 0 then r = (some (1, (-9223372036854775808)), M) else (0 ≤ w32 ((w32 (60 * p1)) + p2) ∧ w32 ((w32 (60 * p1)) + p2) < 360) ∧ r = (some (1, M 86 (w32 ((w32 (60 * p1)) + p2))), M))))) : Cl (d + 1) m_M_element [(2, 64), (0, p1), (0, p2)] M r := by
  refine cl_of (c := k_M_element) (mL := 3) (rz := 2) (rc := 7) (ls := [(2, 64), (0, p1), (0, p2)]) rfl rfl rfl ?_
  refine x_il (pc' := 1) rfl rfl rfl ?_
  obtain ⟨v2, q1, h⟩ := h
  refine x_call (pc' := 2) (as := [(0, p1)]) (rest := []) rfl rfl rfl rfl rfl rfl q1 ?_
  refine x_ifeq (pc' := 3) (t' := 26) rfl rfl rfl (fun q3 => ?_) (fun q3 => ?_)
  · replace h := ite_t q3 h
    refine x_lc (pc' := 27) rfl rfl ?_
    exact x_lret rfl h
  · replace h := ite_f q3 h
    refine x_al (pc' := 4) rfl rfl (by decide) rfl ?_
    refine x_il (pc' := 5) rfl rfl rfl ?_
    obtain ⟨v5, q4, h⟩ := h
    refine x_call (pc' := 6) (as := [(2, 64), (0, p1)]) (rest := []) rfl rfl rfl rfl rfl rfl q4 ?_
    refine x_ifeq (pc' := 7) (t' := 26) rfl rfl rfl (fun q6 => ?_) (fun q6 => ?_)
    · replace h := ite_t q6 h
      refine x_lc (pc' := 27) rfl rfl ?_
      exact x_lret rfl h
    · replace h := ite_f q6 h
      refine x_il (pc' := 8) rfl rfl rfl ?_
      refine x_c (pc' := 9) rfl rfl ?_
      refine x_al (pc' := 10) rfl rfl (by decide) rfl ?_
      refine x_gr (pc' := 11) (v := 85) rfl rfl rfl (by decide) rfl ?_
      refine x_il (pc' := 12) rfl rfl rfl ?_
      obtain ⟨q7, h⟩ := h
      refine x_ia (pc' := 13) 6 (v := M 85 p1) rfl rfl rfl q7.1 q7.2 rfl ?_
      refine x_c (pc' := 14) rfl rfl ?_
      refine x_ib (pc' := 15) (v := w32 ((M 85 p1) - 1)) rfl rfl rfl ?_
      obtain ⟨v9, q8, h⟩ := h
      refine x_call (pc' := 16) (as := [(0, p2), (0, 0), (0, w32 ((M 85 p1) - 1))]) (rest := []) rfl rfl rfl rfl rfl rfl q8 ?_
      refine x_ifeq (pc' := 17) (t' := 26) rfl rfl rfl (fun q10 => ?_) (fun q10 => ?_)
      · replace h := ite_t q10 h
        refine x_lc (pc' := 27) rfl rfl ?_
        exact x_lret rfl h
      · replace h := ite_f q10 h
        refine x_al (pc' := 18) rfl rfl (by decide) rfl ?_
        refine x_gr (pc' := 19) (v := 86) rfl rfl rfl (by decide) rfl ?_
        refine x_c (pc' := 20) rfl rfl ?_
        refine x_il (pc' := 21) rfl rfl rfl ?_
        refine x_ib (pc' := 22) (v := w32 (60 * p1)) rfl rfl rfl ?_
        refine x_il (pc' := 23) rfl rfl rfl ?_
        refine x_ib (pc' := 24) (v := w32 ((w32 (60 * p1)) + p2)) rfl rfl rfl ?_
        obtain ⟨q11, h⟩ := h
        refine x_la (pc' := 25) 360 (v := M 86 (w32 ((w32 (60 * p1)) + p2))) rfl rfl rfl q11.1 q11.2 rfl ?_
        refine x_goto (t' := 27) rfl rfl ?_
        exact x_lret rfl h
def at_M_shift_110 (d : Nat) (l1 : Int) (l2 : Int) (l3 : Int) (l4 : Int) (l5 : Int) (l6 : Int) (M : Mem) (r : Res) : Prop := Ex sx0 d k_M_shift 1 110 [(2, 64), (0, l1), (0, l2), (0, l3), (0, l4), (0, l5), (0, l6)] [] M r
def at_M_shift_83 (d : Nat) (l1 : Int) (l2 : Int) (l3 : Int) (l4 : Int) (l5 : Int) (l6 : Int) (M : Mem) (r : Res) : Prop := Ex sx0 d k_M_shift 1 83 [(2, 64), (0, l1), (0, l2), (0, l3), (0, l4), (0, l5), (0, l6)] [] M r
theorem sg_M_shift {d : Nat} {p1 p2 p3 p4 p5 : Int} {M : Mem} {r : Res} (h : ∃ v2, Cl d m_M_isShelf [(0, p1)] M (some (0, v2), M) ∧ (if v2 = 0 then r = (some (0, (-1)), M) else ∃ v5, Cl d m_M_isShelf [(0, p3)] M (some (0, v5), M) ∧ (if ¬ v5 = 0 then (0 ≤ p1 ∧ p1 < 6) ∧ (if M 84 p1 = (-1) then r = (some (0, (-11)), M) else (0 ≤ p3 ∧ p3 < 6) ∧ (if ¬ M 84 p3 = (-1) then ∃ v12, Cl d m_M_isRow [(2, 64), (0, p1)] M (some (0, v12), M) ∧ (if v12 = 0 then r = (some (0, (-12)), M) else ∃ v15, Cl d m_M_isRow [(2, 64), (0, p3)] M (some (0, v15), M) ∧ (if v15 = 0 then r = (some (0, (-12)), M) else (0 ≤ p1 ∧ p1 < 6) ∧ (0 ≤ p3 ∧ p3 < 6) ∧ (if M 84 p1 = M 84 p3 then (if p5 < 0 then r = (some (0, (-13)), M) else (if p2 < 0 then r = (some (0, (-13)), M) else (if p4 < 0 then r = (some (0, (-13)), M) else (0 ≤ p1 ∧ p1 < 6) ∧ (if 0 < lcmpI (w64 (p2 + p5)) (M 85 p1) then r = (some (0, (-13)), M) else (0 ≤ p3 ∧ p3 < 6) ∧ (if lcmpI (w64 (p4 + p5)) (M 85 p3) ≤ 0 then (if ¬ p1 = p3 then at_M_shift_110 d p1 p2 p3 p4 p5 0 M r else (if p4 ≤ p2 then at_M_shift_110 d p1 p2 p3 p4 p5 0 M r else at_M_shift_83 d p1 p2 p3 p4 p5 (w32 (p5 - 1)) M r)) else r = (some (0, (-13)), M)))))) else r = (some (0, (-12)), M)))) else r = (some (0, (-11)), M))) else r = (some (0, (-1)), M)))) : Cl (d + 1) m_M_shift [(2, 64), (0, p1), (0, p2), (0, p3), (0, p4), (0, p5)] M r := by
  refine cl_of (c := k_M_shift) (mL := 7) (rz := 1) (rc := 7) (ls := [(2, 64), (0, p1), (0, p2), (0, p3), (0, p4), (0, p5), (3, 0)]) rfl rfl rfl ?_
  refine x_il (pc' := 1) rfl rfl rfl ?_
  obtain ⟨v2, q1, h⟩ := h
  refine x_call (pc' := 2) (as := [(0, p1)]) (rest := []) rfl rfl rfl rfl rfl rfl q1 ?_
  refine x_ifeq (pc' := 3) (t' := 6) rfl rfl rfl (fun q3 => ?_) (fun q3 => ?_)
  · replace h := ite_t q3 h
    refine x_c (pc' := 7) rfl rfl ?_
    exact x_iret rfl h
  · replace h := ite_f q3 h
    refine x_il (pc' := 4) rfl rfl rfl ?_
    obtain ⟨v5, q4, h⟩ := h
    refine x_call (pc' := 5) (as := [(0, p3)]) (rest := []) rfl rfl rfl rfl rfl rfl q4 ?_
    refine x_ifne (pc' := 6) (t' := 8) rfl rfl rfl (fun q6 => ?_) (fun q6 => ?_)
    · replace h := ite_t q6 h
      refine x_al (pc' := 9) rfl rfl (by decide) rfl ?_
      refine x_gr (pc' := 10) (v := 84) rfl rfl rfl (by decide) rfl ?_
      refine x_il (pc' := 11) rfl rfl rfl ?_
      obtain ⟨q7, h⟩ := h
      refine x_ia (pc' := 12) 6 (v := M 84 p1) rfl rfl rfl q7.1 q7.2 rfl ?_
      refine x_c (pc' := 13) rfl rfl ?_
      refine x_iceq (pc' := 14) (t' := 20) rfl rfl rfl (fun q8 => ?_) (fun q8 => ?_)
      · replace h := ite_t q8 h
        refine x_c (pc' := 21) rfl rfl ?_
        exact x_iret rfl h
      · replace h := ite_f q8 h
        refine x_al (pc' := 15) rfl rfl (by decide) rfl ?_
        refine x_gr (pc' := 16) (v := 84) rfl rfl rfl (by decide) rfl ?_
        refine x_il (pc' := 17) rfl rfl rfl ?_
        obtain ⟨q9, h⟩ := h
        refine x_ia (pc' := 18) 6 (v := M 84 p3) rfl rfl rfl q9.1 q9.2 rfl ?_
        refine x_c (pc' := 19) rfl rfl ?_
        refine x_icne (pc' := 20) (t' := 22) rfl rfl rfl (fun q10 => ?_) (fun q10 => ?_)
        · replace h := ite_t q10 h
          refine x_al (pc' := 23) rfl rfl (by decide) rfl ?_
          refine x_il (pc' := 24) rfl rfl rfl ?_
          obtain ⟨v12, q11, h⟩ := h
          refine x_call (pc' := 25) (as := [(2, 64), (0, p1)]) (rest := []) rfl rfl rfl rfl rfl rfl q11 ?_
          refine x_ifeq (pc' := 26) (t' := 39) rfl rfl rfl (fun q13 => ?_) (fun q13 => ?_)
          · replace h := ite_t q13 h
            refine x_c (pc' := 40) rfl rfl ?_
            exact x_iret rfl h
          · replace h := ite_f q13 h
            refine x_al (pc' := 27) rfl rfl (by decide) rfl ?_
            refine x_il (pc' := 28) rfl rfl rfl ?_
            obtain ⟨v15, q14, h⟩ := h
            refine x_call (pc' := 29) (as := [(2, 64), (0, p3)]) (rest := []) rfl rfl rfl rfl rfl rfl q14 ?_
            refine x_ifeq (pc' := 30) (t' := 39) rfl rfl rfl (fun q16 => ?_) (fun q16 => ?_)
            · replace h := ite_t q16 h
              refine x_c (pc' := 40) rfl rfl ?_
              exact x_iret rfl h
            · replace h := ite_f q16 h
              refine x_al (pc' := 31) rfl rfl (by decide) rfl ?_
              refine x_gr (pc' := 32) (v := 84) rfl rfl rfl (by decide) rfl ?_
              refine x_il (pc' := 33) rfl rfl rfl ?_
              obtain ⟨q17, h⟩ := h
              refine x_ia (pc' := 34) 6 (v := M 84 p1) rfl rfl rfl q17.1 q17.2 rfl ?_
              refine x_al (pc' := 35) rfl rfl (by decide) rfl ?_
              refine x_gr (pc' := 36) (v := 84) rfl rfl rfl (by decide) rfl ?_
              refine x_il (pc' := 37) rfl rfl rfl ?_
              obtain ⟨q18, h⟩ := h
              refine x_ia (pc' := 38) 6 (v := M 84 p3) rfl rfl rfl q18.1 q18.2 rfl ?_
              refine x_iceq (pc' := 39) (t' := 41) rfl rfl rfl (fun q19 => ?_) (fun q19 => ?_)
              · replace h := ite_t q19 h
                refine x_il (pc' := 42) rfl rfl rfl ?_
                refine x_iflt (pc' := 43) (t' := 71) rfl rfl rfl (fun q20 => ?_) (fun q20 => ?_)
                · replace h := ite_t q20 h
                  refine x_c (pc' := 72) rfl rfl ?_
                  exact x_iret rfl h
                · replace h := ite_f q20 h
                  refine x_il (pc' := 44) rfl rfl rfl ?_
                  refine x_iflt (pc' := 45) (t' := 71) rfl rfl rfl (fun q21 => ?_) (fun q21 => ?_)
                  · replace h := ite_t q21 h
                    refine x_c (pc' := 72) rfl rfl ?_
                    exact x_iret rfl h
                  · replace h := ite_f q21 h
                    refine x_il (pc' := 46) rfl rfl rfl ?_
                    refine x_iflt (pc' := 47) (t' := 71) rfl rfl rfl (fun q22 => ?_) (fun q22 => ?_)
                    · replace h := ite_t q22 h
                      refine x_c (pc' := 72) rfl rfl ?_
                      exact x_iret rfl h
                    · replace h := ite_f q22 h
                      refine x_il (pc' := 48) rfl rfl rfl ?_
                      refine x_i2l (pc' := 49) rfl rfl ?_
                      refine x_il (pc' := 50) rfl rfl rfl ?_
                      refine x_i2l (pc' := 51) rfl rfl ?_
                      refine x_lb (pc' := 52) (v := w64 (p2 + p5)) rfl rfl rfl ?_
                      refine x_al (pc' := 53) rfl rfl (by decide) rfl ?_
                      refine x_gr (pc' := 54) (v := 85) rfl rfl rfl (by decide) rfl ?_
                      refine x_il (pc' := 55) rfl rfl rfl ?_
                      obtain ⟨q23, h⟩ := h
                      refine x_ia (pc' := 56) 6 (v := M 85 p1) rfl rfl rfl q23.1 q23.2 rfl ?_
                      refine x_i2l (pc' := 57) rfl rfl ?_
                      refine x_lcmp (pc' := 58) rfl rfl ?_
                      refine x_ifgt (pc' := 59) (t' := 71) rfl rfl rfl (fun q24 => ?_) (fun q24 => ?_)
                      · replace h := ite_t q24 h
                        refine x_c (pc' := 72) rfl rfl ?_
                        exact x_iret rfl h
                      · replace h := ite_f q24 h
                        refine x_il (pc' := 60) rfl rfl rfl ?_
                        refine x_i2l (pc' := 61) rfl rfl ?_
                        refine x_il (pc' := 62) rfl rfl rfl ?_
                        refine x_i2l (pc' := 63) rfl rfl ?_
                        refine x_lb (pc' := 64) (v := w64 (p4 + p5)) rfl rfl rfl ?_
                        refine x_al (pc' := 65) rfl rfl (by decide) rfl ?_
                        refine x_gr (pc' := 66) (v := 85) rfl rfl rfl (by decide) rfl ?_
                        refine x_il (pc' := 67) rfl rfl rfl ?_
                        obtain ⟨q25, h⟩ := h
                        refine x_ia (pc' := 68) 6 (v := M 85 p3) rfl rfl rfl q25.1 q25.2 rfl ?_
                        refine x_i2l (pc' := 69) rfl rfl ?_
                        refine x_lcmp (pc' := 70) rfl rfl ?_
                        refine x_ifle (pc' := 71) (t' := 73) rfl rfl rfl (fun q26 => ?_) (fun q26 => ?_)
                        · replace h := ite_t q26 h
                          refine x_il (pc' := 74) rfl rfl rfl ?_
                          refine x_il (pc' := 75) rfl rfl rfl ?_
                          refine x_icne (pc' := 76) (t' := 108) rfl rfl rfl (fun q27 => ?_) (fun q27 => ?_)
                          · replace h := ite_t q27 h
                            refine x_c (pc' := 109) rfl rfl ?_
                            refine x_is (pc' := 110) (ls' := [(2, 64), (0, p1), (0, p2), (0, p3), (0, p4), (0, p5), (0, 0)]) rfl rfl rfl rfl ?_
                            exact h
                          · replace h := ite_f q27 h
                            refine x_il (pc' := 77) rfl rfl rfl ?_
                            refine x_il (pc' := 78) rfl rfl rfl ?_
                            refine x_icge (pc' := 79) (t' := 108) rfl rfl rfl (fun q28 => ?_) (fun q28 => ?_)
                            · replace h := ite_t q28 h
                              refine x_c (pc' := 109) rfl rfl ?_
                              refine x_is (pc' := 110) (ls' := [(2, 64), (0, p1), (0, p2), (0, p3), (0, p4), (0, p5), (0, 0)]) rfl rfl rfl rfl ?_
                              exact h
                            · replace h := ite_f q28 h
                              refine x_il (pc' := 80) rfl rfl rfl ?_
                              refine x_c (pc' := 81) rfl rfl ?_
                              refine x_ib (pc' := 82) (v := w32 (p5 - 1)) rfl rfl rfl ?_
                              refine x_is (pc' := 83) (ls' := [(2, 64), (0, p1), (0, p2), (0, p3), (0, p4), (0, p5), (0, w32 (p5 - 1))]) rfl rfl rfl rfl ?_
                              exact h
                        · replace h := ite_f q26 h
                          refine x_c (pc' := 72) rfl rfl ?_
                          exact x_iret rfl h
              · replace h := ite_f q19 h
                refine x_c (pc' := 40) rfl rfl ?_
                exact x_iret rfl h
        · replace h := ite_f q10 h
          refine x_c (pc' := 21) rfl rfl ?_
          exact x_iret rfl h
    · replace h := ite_f q6 h
      refine x_c (pc' := 7) rfl rfl ?_
      exact x_iret rfl h
theorem sg_M_shift_110 {d : Nat} {l1 : Int} {l2 : Int} {l3 : Int} {l4 : Int} {l5 : Int} {l6 : Int} {M : Mem} {r : Res} (h : (if l5 ≤ l6 then r = (some (0, l5), M) else (0 ≤ w32 ((w32 ((w32 (60 * l1)) + l2)) + l6) ∧ w32 ((w32 ((w32 (60 * l1)) + l2)) + l6) < 360) ∧ (0 ≤ w32 ((w32 ((w32 (60 * l3)) + l4)) + l6) ∧ w32 ((w32 ((w32 (60 * l3)) + l4)) + l6) < 360) ∧ at_M_shift_110 d l1 l2 l3 l4 l5 (w32 (l6 + 1)) (up M 86 (w32 ((w32 ((w32 (60 * l3)) + l4)) + l6)) (M 86 (w32 ((w32 ((w32 (60 * l1)) + l2)) + l6)))) r)) : at_M_shift_110 d l1 l2 l3 l4 l5 l6 M r := by
  unfold at_M_shift_110
  refine x_il (pc' := 111) rfl rfl rfl ?_
  refine x_il (pc' := 112) rfl rfl rfl ?_
  refine x_icge (pc' := 113) (t' := 135) rfl rfl rfl (fun q1 => ?_) (fun q1 => ?_)
  · replace h := ite_t q1 h
    refine x_il (pc' := 136) rfl rfl rfl ?_
    exact x_iret rfl h
  · replace h := ite_f q1 h
    refine x_al (pc' := 114) rfl rfl (by decide) rfl ?_
    refine x_gr (pc' := 115) (v := 86) rfl rfl rfl (by decide) rfl ?_
    refine x_c (pc' := 116) rfl rfl ?_
    refine x_il (pc' := 117) rfl rfl rfl ?_
    refine x_ib (pc' := 118) (v := w32 (60 * l3)) rfl rfl rfl ?_
    refine x_il (pc' := 119) rfl rfl rfl ?_
    refine x_ib (pc' := 120) (v := w32 ((w32 (60 * l3)) + l4)) rfl rfl rfl ?_
    refine x_il (pc' := 121) rfl rfl rfl ?_
    refine x_ib (pc' := 122) (v := w32 ((w32 ((w32 (60 * l3)) + l4)) + l6)) rfl rfl rfl ?_
    refine x_al (pc' := 123) rfl rfl (by decide) rfl ?_
    refine x_gr (pc' := 124) (v := 86) rfl rfl rfl (by decide) rfl ?_
    refine x_c (pc' := 125) rfl rfl ?_
    refine x_il (pc' := 126) rfl rfl rfl ?_
    refine x_ib (pc' := 127) (v := w32 (60 * l1)) rfl rfl rfl ?_
    refine x_il (pc' := 128) rfl rfl rfl ?_
    refine x_ib (pc' := 129) (v := w32 ((w32 (60 * l1)) + l2)) rfl rfl rfl ?_
    refine x_il (pc' := 130) rfl rfl rfl ?_
    refine x_ib (pc' := 131) (v := w32 ((w32 ((w32 (60 * l1)) + l2)) + l6)) rfl rfl rfl ?_
    obtain ⟨q2, h⟩ := h
    refine x_la (pc' := 132) 360 (v := M 86 (w32 ((w32 ((w32 (60 * l1)) + l2)) + l6))) rfl rfl rfl q2.1 q2.2 rfl ?_
    obtain ⟨q3, h⟩ := h
    refine x_lst (pc' := 133) 360 (M2 := up M 86 (w32 ((w32 ((w32 (60 * l3)) + l4)) + l6)) (M 86 (w32 ((w32 ((w32 (60 * l1)) + l2)) + l6)))) rfl rfl rfl q3.1 q3.2 rfl ?_
    refine x_inc (pc' := 134) (ls' := [(2, 64), (0, l1), (0, l2), (0, l3), (0, l4), (0, l5), (0, w32 (l6 + 1))]) rfl rfl rfl rfl ?_
    refine x_goto (t' := 110) rfl rfl ?_
    exact h
theorem sg_M_shift_83 {d : Nat} {l1 : Int} {l2 : Int} {l3 : Int} {l4 : Int} {l5 : Int} {l6 : Int} {M : Mem} {r : Res} (h : (if l6 < 0 then r = (some (0, l5), M) else (0 ≤ w32 ((w32 ((w32 (60 * l1)) + l2)) + l6) ∧ w32 ((w32 ((w32 (60 * l1)) + l2)) + l6) < 360) ∧ (0 ≤ w32 ((w32 ((w32 (60 * l3)) + l4)) + l6) ∧ w32 ((w32 ((w32 (60 * l3)) + l4)) + l6) < 360) ∧ at_M_shift_83 d l1 l2 l3 l4 l5 (w32 (l6 + (-1))) (up M 86 (w32 ((w32 ((w32 (60 * l3)) + l4)) + l6)) (M 86 (w32 ((w32 ((w32 (60 * l1)) + l2)) + l6)))) r)) : at_M_shift_83 d l1 l2 l3 l4 l5 l6 M r := by
  unfold at_M_shift_83
  refine x_il (pc' := 84) rfl rfl rfl ?_
  refine x_iflt (pc' := 85) (t' := 107) rfl rfl rfl (fun q1 => ?_) (fun q1 => ?_)
  · replace h := ite_t q1 h
    refine x_goto (t' := 135) rfl rfl ?_
    refine x_il (pc' := 136) rfl rfl rfl ?_
    exact x_iret rfl h
  · replace h := ite_f q1 h
    refine x_al (pc' := 86) rfl rfl (by decide) rfl ?_
    refine x_gr (pc' := 87) (v := 86) rfl rfl rfl (by decide) rfl ?_
    refine x_c (pc' := 88) rfl rfl ?_
    refine x_il (pc' := 89) rfl rfl rfl ?_
    refine x_ib (pc' := 90) (v := w32 (60 * l3)) rfl rfl rfl ?_
    refine x_il (pc' := 91) rfl rfl rfl ?_
    refine x_ib (pc' := 92) (v := w32 ((w32 (60 * l3)) + l4)) rfl rfl rfl ?_
    refine x_il (pc' := 93) rfl rfl rfl ?_
    refine x_ib (pc' := 94) (v := w32 ((w32 ((w32 (60 * l3)) + l4)) + l6)) rfl rfl rfl ?_
    refine x_al (pc' := 95) rfl rfl (by decide) rfl ?_
    refine x_gr (pc' := 96) (v := 86) rfl rfl rfl (by decide) rfl ?_
    refine x_c (pc' := 97) rfl rfl ?_
    refine x_il (pc' := 98) rfl rfl rfl ?_
    refine x_ib (pc' := 99) (v := w32 (60 * l1)) rfl rfl rfl ?_
    refine x_il (pc' := 100) rfl rfl rfl ?_
    refine x_ib (pc' := 101) (v := w32 ((w32 (60 * l1)) + l2)) rfl rfl rfl ?_
    refine x_il (pc' := 102) rfl rfl rfl ?_
    refine x_ib (pc' := 103) (v := w32 ((w32 ((w32 (60 * l1)) + l2)) + l6)) rfl rfl rfl ?_
    obtain ⟨q2, h⟩ := h
    refine x_la (pc' := 104) 360 (v := M 86 (w32 ((w32 ((w32 (60 * l1)) + l2)) + l6))) rfl rfl rfl q2.1 q2.2 rfl ?_
    obtain ⟨q3, h⟩ := h
    refine x_lst (pc' := 105) 360 (M2 := up M 86 (w32 ((w32 ((w32 (60 * l3)) + l4)) + l6)) (M 86 (w32 ((w32 ((w32 (60 * l1)) + l2)) + l6)))) rfl rfl rfl q3.1 q3.2 rfl ?_
    refine x_inc (pc' := 106) (ls' := [(2, 64), (0, l1), (0, l2), (0, l3), (0, l4), (0, l5), (0, w32 (l6 + (-1)))]) rfl rfl rfl rfl ?_
    refine x_goto (t' := 83) rfl rfl ?_
    exact h
def at_M_taken_36 (d : Nat) (w0 : AV) (w1 : AV) (l2 : Int) (l3 : Int) (l4 : Int) (M : Mem) (r : Res) : Prop := Ex sx0 d k_M_taken 1 36 [w0, w1, (0, l2), (0, l3), (0, l4)] [] M r
theorem sg_M_taken {d : Nat} {p1 p2 : Int} {M : Mem} {r : Res} (h : ∃ v2, Cl d m_M_isShelf [(0, p1)] M (some (0, v2), M) ∧ (if v2 = 0 then r = (some (0, (-1)), M) else ∃ v5, Cl d m_M_within [(0, p2), (0, 0), (0, 7)] M (some (0, v5), M) ∧ (if ¬ v5 = 0 then (0 ≤ p1 ∧ p1 < 6) ∧ (if ¬ M 84 p1 = (-1) then ∃ v10, Cl d m_M_isRow [(2, 64), (0, p1)] M (some (0, v10), M) ∧ (if v10 = 0 then (0 ≤ p1 ∧ p1 < 6) ∧ (0 ≤ w32 ((M 84 p1) - 10) ∧ w32 ((M 84 p1) - 10) < 50) ∧ at_M_taken_36 d (2, 64) (0, p1) p2 (M 82 (w32 ((M 84 p1) - 10))) (M 82 (w32 ((M 84 p1) - 10))) M r else r = (some (0, (-12)), M)) else r = (some (0, (-11)), M)) else r = (some (0, (-1)), M)))) : Cl (d + 1) m_M_taken [(2, 64), (0, p1), (0, p2)] M r := by
  refine cl_of (c := k_M_taken) (mL := 5) (rz := 1) (rc := 7) (ls := [(2, 64), (0, p1), (0, p2), (3, 0), (3, 0)]) rfl rfl rfl ?_
  refine x_il (pc' := 1) rfl rfl rfl ?_
  obtain ⟨v2, q1, h⟩ := h
  refine x_call (pc' := 2) (as := [(0, p1)]) (rest := []) rfl rfl rfl rfl rfl rfl q1 ?_
  refine x_ifeq (pc' := 3) (t' := 8) rfl rfl rfl (fun q3 => ?_) (fun q3 => ?_)
  · replace h := ite_t q3 h
    refine x_c (pc' := 9) rfl rfl ?_
    exact x_iret rfl h
  · replace h := ite_f q3 h
    refine x_il (pc' := 4) rfl rfl rfl ?_
    refine x_c (pc' := 5) rfl rfl ?_
    refine x_c (pc' := 6) rfl rfl ?_
    obtain ⟨v5, q4, h⟩ := h
    refine x_call (pc' := 7) (as := [(0, p2), (0, 0), (0, 7)]) (rest := []) rfl rfl rfl rfl rfl rfl q4 ?_
    refine x_ifne (pc' := 8) (t' := 10) rfl rfl rfl (fun q6 => ?_) (fun q6 => ?_)
    · replace h := ite_t q6 h
      refine x_al (pc' := 11) rfl rfl (by decide) rfl ?_
      refine x_gr (pc' := 12) (v := 84) rfl rfl rfl (by decide) rfl ?_
      refine x_il (pc' := 13) rfl rfl rfl ?_
      obtain ⟨q7, h⟩ := h
      refine x_ia (pc' := 14) 6 (v := M 84 p1) rfl rfl rfl q7.1 q7.2 rfl ?_
      refine x_c (pc' := 15) rfl rfl ?_
      refine x_icne (pc' := 16) (t' := 18) rfl rfl rfl (fun q8 => ?_) (fun q8 => ?_)
      · replace h := ite_t q8 h
        refine x_al (pc' := 19) rfl rfl (by decide) rfl ?_
        refine x_il (pc' := 20) rfl rfl rfl ?_
        obtain ⟨v10, q9, h⟩ := h
        refine x_call (pc' := 21) (as := [(2, 64), (0, p1)]) (rest := []) rfl rfl rfl rfl rfl rfl q9 ?_
        refine x_ifeq (pc' := 22) (t' := 24) rfl rfl rfl (fun q11 => ?_) (fun q11 => ?_)
        · replace h := ite_t q11 h
          refine x_al (pc' := 25) rfl rfl (by decide) rfl ?_
          refine x_gr (pc' := 26) (v := 82) rfl rfl rfl (by decide) rfl ?_
          refine x_al (pc' := 27) rfl rfl (by decide) rfl ?_
          refine x_gr (pc' := 28) (v := 84) rfl rfl rfl (by decide) rfl ?_
          refine x_il (pc' := 29) rfl rfl rfl ?_
          obtain ⟨q12, h⟩ := h
          refine x_ia (pc' := 30) 6 (v := M 84 p1) rfl rfl rfl q12.1 q12.2 rfl ?_
          refine x_c (pc' := 31) rfl rfl ?_
          refine x_ib (pc' := 32) (v := w32 ((M 84 p1) - 10)) rfl rfl rfl ?_
          obtain ⟨q13, h⟩ := h
          refine x_ia (pc' := 33) 50 (v := M 82 (w32 ((M 84 p1) - 10))) rfl rfl rfl q13.1 q13.2 rfl ?_
          refine x_is (pc' := 34) (ls' := [(2, 64), (0, p1), (0, p2), (0, M 82 (w32 ((M 84 p1) - 10))), (3, 0)]) rfl rfl rfl rfl ?_
          refine x_il (pc' := 35) rfl rfl rfl ?_
          refine x_is (pc' := 36) (ls' := [(2, 64), (0, p1), (0, p2), (0, M 82 (w32 ((M 84 p1) - 10))), (0, M 82 (w32 ((M 84 p1) - 10)))]) rfl rfl rfl rfl ?_
          exact h
        · replace h := ite_f q11 h
          refine x_c (pc' := 23) rfl rfl ?_
          exact x_iret rfl h
      · replace h := ite_f q8 h
        refine x_c (pc' := 17) rfl rfl ?_
        exact x_iret rfl h
    · replace h := ite_f q6 h
      refine x_c (pc' := 9) rfl rfl ?_
      exact x_iret rfl h
theorem sg_M_taken_36 {d : Nat} {w0 : AV} {w1 : AV} {l2 : Int} {l3 : Int} {l4 : Int} {M : Mem} {r : Res} (h : (if l4 = l2 then (if ¬ l4 = l2 then r = (some (0, (-12)), M) else r = (some (0, l3), M)) else (if l4 ≤ 0 then (if ¬ l4 = l2 then r = (some (0, (-12)), M) else r = (some (0, l3), M)) else ∃ v6, Cl d m_M_above [(0, l4)] M (some (0, v6), M) ∧ at_M_taken_36 d w0 w1 l2 l3 v6 M r))) : at_M_taken_36 d w0 w1 l2 l3 l4 M r := by
  unfold at_M_taken_36
  refine x_il (pc' := 37) rfl rfl rfl ?_
  refine x_il (pc' := 38) rfl rfl rfl ?_
  refine x_iceq (pc' := 39) (t' := 45) rfl rfl rfl (fun q1 => ?_) (fun q1 => ?_)
  · replace h := ite_t q1 h
    refine x_il (pc' := 46) rfl rfl rfl ?_
    refine x_il (pc' := 47) rfl rfl rfl ?_
    refine x_icne (pc' := 48) (t' := 50) rfl rfl rfl (fun q2 => ?_) (fun q2 => ?_)
    · replace h := ite_t q2 h
      refine x_c (pc' := 51) rfl rfl ?_
      exact x_iret rfl h
    · replace h := ite_f q2 h
      refine x_il (pc' := 49) rfl rfl rfl ?_
      refine x_goto (t' := 51) rfl rfl ?_
      exact x_iret rfl h
  · replace h := ite_f q1 h
    refine x_il (pc' := 40) rfl rfl rfl ?_
    refine x_ifle (pc' := 41) (t' := 45) rfl rfl rfl (fun q3 => ?_) (fun q3 => ?_)
    · replace h := ite_t q3 h
      refine x_il (pc' := 46) rfl rfl rfl ?_
      refine x_il (pc' := 47) rfl rfl rfl ?_
      refine x_icne (pc' := 48) (t' := 50) rfl rfl rfl (fun q4 => ?_) (fun q4 => ?_)
      · replace h := ite_t q4 h
        refine x_c (pc' := 51) rfl rfl ?_
        exact x_iret rfl h
      · replace h := ite_f q4 h
        refine x_il (pc' := 49) rfl rfl rfl ?_
        refine x_goto (t' := 51) rfl rfl ?_
        exact x_iret rfl h
    · replace h := ite_f q3 h
      refine x_il (pc' := 42) rfl rfl rfl ?_
      obtain ⟨v6, q5, h⟩ := h
      refine x_call (pc' := 43) (as := [(0, l4)]) (rest := []) rfl rfl rfl rfl rfl rfl q5 ?_
      refine x_is (pc' := 44) (ls' := [w0, w1, (0, l2), (0, l3), (0, v6)]) rfl rfl rfl rfl ?_
      refine x_goto (t' := 36) rfl rfl ?_
      exact h
def at_M_count_9 (d : Nat) (w1 : AV) (l2 : Int) (l3 : Int) (M : Mem) (r : Res) : Prop := Ex sx0 d k_M_count 1 9 [(2, 64), w1, (0, l2), (0, l3)] [] M r
theorem sg_M_count {d : Nat} {p1 : Int} {M : Mem} {r : Res} (h : (if p1 = 0 then r = (some (0, M 64 0), M) else (if p1 = 1 then at_M_count_9 d (0, p1) 0 0 M r else (if p1 = 2 then r = (some (0, M 64 5), M) else (if p1 = 3 then r = (some (0, M 64 28), M) else (if p1 = 4 then r = (some (0, M 64 30), M) else (if p1 = 5 then r = (some (0, M 64 32), M) else r = (some (0, (-1)), M)))))))) : Cl (d + 1) m_M_count [(2, 64), (0, p1)] M r := by
  refine cl_of (c := k_M_count) (mL := 4) (rz := 1) (rc := 7) (ls := [(2, 64), (0, p1), (3, 0), (3, 0)]) rfl rfl rfl ?_
  refine x_c (pc' := 1) rfl rfl ?_
  refine x_is (pc' := 2) (ls' := [(2, 64), (0, p1), (0, 0), (3, 0)]) rfl rfl rfl rfl ?_
  refine x_il (pc' := 3) rfl rfl rfl ?_
  by_cases q1 : p1 = 0
  · replace h := ite_t q1 h
    refine x_tswv (t' := 4) 0 rfl q1 rfl rfl ?_
    refine x_al (pc' := 5) rfl rfl (by decide) rfl ?_
    refine x_gf (pc' := 6) (v := M 64 0) rfl rfl rfl rfl rfl ?_
    exact x_iret rfl h
  replace h := ite_f q1 h
  by_cases q2 : p1 = 1
  · replace h := ite_t q2 h
    refine x_tswv (t' := 7) 1 rfl q2 rfl rfl ?_
    refine x_c (pc' := 8) rfl rfl ?_
    refine x_is (pc' := 9) (ls' := [(2, 64), (0, p1), (0, 0), (0, 0)]) rfl rfl rfl rfl ?_
    exact h
  replace h := ite_f q2 h
  by_cases q3 : p1 = 2
  · replace h := ite_t q3 h
    refine x_tswv (t' := 24) 2 rfl q3 rfl rfl ?_
    refine x_al (pc' := 25) rfl rfl (by decide) rfl ?_
    refine x_gf (pc' := 26) (v := M 64 5) rfl rfl rfl rfl rfl ?_
    exact x_iret rfl h
  replace h := ite_f q3 h
  by_cases q4 : p1 = 3
  · replace h := ite_t q4 h
    refine x_tswv (t' := 27) 3 rfl q4 rfl rfl ?_
    refine x_al (pc' := 28) rfl rfl (by decide) rfl ?_
    refine x_gf (pc' := 29) (v := M 64 28) rfl rfl rfl rfl rfl ?_
    exact x_iret rfl h
  replace h := ite_f q4 h
  by_cases q5 : p1 = 4
  · replace h := ite_t q5 h
    refine x_tswv (t' := 30) 4 rfl q5 rfl rfl ?_
    refine x_al (pc' := 31) rfl rfl (by decide) rfl ?_
    refine x_gf (pc' := 32) (v := M 64 30) rfl rfl rfl rfl rfl ?_
    exact x_iret rfl h
  replace h := ite_f q5 h
  by_cases q6 : p1 = 5
  · replace h := ite_t q6 h
    refine x_tswv (t' := 33) 5 rfl q6 rfl rfl ?_
    refine x_al (pc' := 34) rfl rfl (by decide) rfl ?_
    refine x_gf (pc' := 35) (v := M 64 32) rfl rfl rfl rfl rfl ?_
    exact x_iret rfl h
  replace h := ite_f q6 h
  refine x_tswd (t' := 36) rfl (show p1 < 0 ∨ 0 + ((6 : Nat) : Int) ≤ p1 by omega) rfl ?_
  refine x_c (pc' := 37) rfl rfl ?_
  exact x_iret rfl h
theorem sg_M_count_9 {d : Nat} {w1 : AV} {l2 : Int} {l3 : Int} {M : Mem} {r : Res} (hw1 : ¬ w1.1 = 1) (h : (if M 64 0 ≤ l3 then r = (some (0, l2), M) else (0 ≤ l3 ∧ l3 < 12) ∧ (if M 67 l3 = (-2000000000) then at_M_count_9 d w1 l2 (w32 (l3 + 1)) M r else at_M_count_9 d w1 (w32 (l2 + 1)) (w32 (l3 + 1)) M r))) : at_M_count_9 d w1 l2 l3 M r := by
  unfold at_M_count_9
  refine x_il (pc' := 10) rfl rfl rfl ?_
  refine x_al (pc' := 11) rfl rfl (by decide) rfl ?_
  refine x_gf (pc' := 12) (v := M 64 0) rfl rfl rfl rfl rfl ?_
  refine x_icge (pc' := 13) (t' := 22) rfl rfl rfl (fun q1 => ?_) (fun q1 => ?_)
  · replace h := ite_t q1 h
    refine x_il (pc' := 23) rfl rfl rfl ?_
    exact x_iret rfl h
  · replace h := ite_f q1 h
    refine x_al (pc' := 14) rfl rfl (by decide) rfl ?_
    refine x_gr (pc' := 15) (v := 67) rfl rfl rfl (by decide) rfl ?_
    refine x_il (pc' := 16) rfl rfl rfl ?_
    obtain ⟨q2, h⟩ := h
    refine x_ia (pc' := 17) 12 (v := M 67 l3) rfl rfl rfl q2.1 q2.2 rfl ?_
    refine x_c (pc' := 18) rfl rfl ?_
    refine x_iceq (pc' := 19) (t' := 20) rfl rfl rfl (fun q3 => ?_) (fun q3 => ?_)
    · replace h := ite_t q3 h
      refine x_inc (pc' := 21) (ls' := [(2, 64), w1, (0, l2), (0, w32 (l3 + 1))]) rfl rfl rfl rfl ?_
      refine x_goto (t' := 9) rfl rfl ?_
      exact h
    · replace h := ite_f q3 h
      refine x_inc (pc' := 20) (ls' := [(2, 64), w1, (0, w32 (l2 + 1)), (0, l3)]) rfl rfl (setL_nw (i := 1) rfl hw1) rfl ?_
      refine x_inc (pc' := 21) (ls' := [(2, 64), w1, (0, w32 (l2 + 1)), (0, w32 (l3 + 1))]) rfl rfl rfl rfl ?_
      refine x_goto (t' := 9) rfl rfl ?_
      exact h
theorem sg_J_bitCount {d : Nat} {p1 : Int} {M : Mem} {r : Res} (h : r = (some (0, iand (w32 ((w32 ((iand (w32 ((w32 ((iand (w32 (p1 - (iand (iushr p1 1) 1431655765))) 858993459) + (iand (iushr (w32 (p1 - (iand (iushr p1 1) 1431655765))) 2) 858993459))) + (iushr (w32 ((iand (w32 (p1 - (iand (iushr p1 1) 1431655765))) 858993459) + (iand (iushr (w32 (p1 - (iand (iushr p1 1) 1431655765))) 2) 858993459))) 4))) 252645135) + (iushr (iand (w32 ((w32 ((iand (w32 (p1 - (iand (iushr p1 1) 1431655765))) 858993459) + (iand (iushr (w32 (p1 - (iand (iushr p1 1) 1431655765))) 2) 858993459))) + (iushr (w32 ((iand (w32 (p1 - (iand (iushr p1 1) 1431655765))) 858993459) + (iand (iushr (w32 (p1 - (iand (iushr p1 1) 1431655765))) 2) 858993459))) 4))) 252645135) 8))) + (iushr (w32 ((iand (w32 ((w32 ((iand (w32 (p1 - (iand (iushr p1 1) 1431655765))) 858993459) + (iand (iushr (w32 (p1 - (iand (iushr p1 1) 1431655765))) 2) 858993459))) + (iushr (w32 ((iand (w32 (p1 - (iand (iushr p1 1) 1431655765))) 858993459) + (iand (iushr (w32 (p1 - (iand (iushr p1 1) 1431655765))) 2) 858993459))) 4))) 252645135) + (iushr (iand (w32 ((w32 ((iand (w32 (p1 - (iand (iushr p1 1) 1431655765))) 858993459) + (iand (iushr (w32 (p1 - (iand (iushr p1 1) 1431655765))) 2) 858993459))) + (iushr (w32 ((iand (w32 (p1 - (iand (iushr p1 1) 1431655765))) 858993459) + (iand (iushr (w32 (p1 - (iand (iushr p1 1) 1431655765))) 2) 858993459))) 4))) 252645135) 8))) 16))) 63), M)) : Cl (d + 1) m_J_bitCount [(0, p1)] M r := by
  refine cl_of (c := k_J_bitCount) (mL := 1) (rz := 1) (rc := 99) (ls := [(0, p1)]) rfl rfl rfl ?_
  refine x_il (pc' := 1) rfl rfl rfl ?_
  refine x_il (pc' := 2) rfl rfl rfl ?_
  refine x_c (pc' := 3) rfl rfl ?_
  refine x_ib (pc' := 4) (v := iushr p1 1) rfl rfl rfl ?_
  refine x_c (pc' := 5) rfl rfl ?_
  refine x_ib (pc' := 6) (v := iand (iushr p1 1) 1431655765) rfl rfl rfl ?_
  refine x_ib (pc' := 7) (v := w32 (p1 - (iand (iushr p1 1) 1431655765))) rfl rfl rfl ?_
  refine x_is (pc' := 8) (ls' := [(0, w32 (p1 - (iand (iushr p1 1) 1431655765)))]) rfl rfl rfl rfl ?_
  refine x_il (pc' := 9) rfl rfl rfl ?_
  refine x_c (pc' := 10) rfl rfl ?_
  refine x_ib (pc' := 11) (v := iand (w32 (p1 - (iand (iushr p1 1) 1431655765))) 858993459) rfl rfl rfl ?_
  refine x_il (pc' := 12) rfl rfl rfl ?_
  refine x_c (pc' := 13) rfl rfl ?_
  refine x_ib (pc' := 14) (v := iushr (w32 (p1 - (iand (iushr p1 1) 1431655765))) 2) rfl rfl rfl ?_
  refine x_c (pc' := 15) rfl rfl ?_
  refine x_ib (pc' := 16) (v := iand (iushr (w32 (p1 - (iand (iushr p1 1) 1431655765))) 2) 858993459) rfl rfl rfl ?_
  refine x_ib (pc' := 17) (v := w32 ((iand (w32 (p1 - (iand (iushr p1 1) 1431655765))) 858993459) + (iand (iushr (w32 (p1 - (iand (iushr p1 1) 1431655765))) 2) 858993459))) rfl rfl rfl ?_
  refine x_is (pc' := 18) (ls' := [(0, w32 ((iand (w32 (p1 - (iand (iushr p1 1) 1431655765))) 858993459) + (iand (iushr (w32 (p1 - (iand (iushr p1 1) 1431655765))) 2) 858993459)))]) rfl rfl rfl rfl ?_
  refine x_il (pc' := 19) rfl rfl rfl ?_
  refine x_il (pc' := 20) rfl rfl rfl ?_
  refine x_c (pc' := 21) rfl rfl ?_
  refine x_ib (pc' := 22) (v := iushr (w32 ((iand (w32 (p1 - (iand (iushr p1 1) 1431655765))) 858993459) + (iand (iushr (w32 (p1 - (iand (iushr p1 1) 1431655765))) 2) 858993459))) 4) rfl rfl rfl ?_
  refine x_ib (pc' := 23) (v := w32 ((w32 ((iand (w32 (p1 - (iand (iushr p1 1) 1431655765))) 858993459) + (iand (iushr (w32 (p1 - (iand (iushr p1 1) 1431655765))) 2) 858993459))) + (iushr (w32 ((iand (w32 (p1 - (iand (iushr p1 1) 1431655765))) 858993459) + (iand (iushr (w32 (p1 - (iand (iushr p1 1) 1431655765))) 2) 858993459))) 4))) rfl rfl rfl ?_
  refine x_c (pc' := 24) rfl rfl ?_
  refine x_ib (pc' := 25) (v := iand (w32 ((w32 ((iand (w32 (p1 - (iand (iushr p1 1) 1431655765))) 858993459) + (iand (iushr (w32 (p1 - (iand (iushr p1 1) 1431655765))) 2) 858993459))) + (iushr (w32 ((iand (w32 (p1 - (iand (iushr p1 1) 1431655765))) 858993459) + (iand (iushr (w32 (p1 - (iand (iushr p1 1) 1431655765))) 2) 858993459))) 4))) 252645135) rfl rfl rfl ?_
  refine x_is (pc' := 26) (ls' := [(0, iand (w32 ((w32 ((iand (w32 (p1 - (iand (iushr p1 1) 1431655765))) 858993459) + (iand (iushr (w32 (p1 - (iand (iushr p1 1) 1431655765))) 2) 858993459))) + (iushr (w32 ((iand (w32 (p1 - (iand (iushr p1 1) 1431655765))) 858993459) + (iand (iushr (w32 (p1 - (iand (iushr p1 1) 1431655765))) 2) 858993459))) 4))) 252645135)]) rfl rfl rfl rfl ?_
  refine x_il (pc' := 27) rfl rfl rfl ?_
  refine x_il (pc' := 28) rfl rfl rfl ?_
  refine x_c (pc' := 29) rfl rfl ?_
  refine x_ib (pc' := 30) (v := iushr (iand (w32 ((w32 ((iand (w32 (p1 - (iand (iushr p1 1) 1431655765))) 858993459) + (iand (iushr (w32 (p1 - (iand (iushr p1 1) 1431655765))) 2) 858993459))) + (iushr (w32 ((iand (w32 (p1 - (iand (iushr p1 1) 1431655765))) 858993459) + (iand (iushr (w32 (p1 - (iand (iushr p1 1) 1431655765))) 2) 858993459))) 4))) 252645135) 8) rfl rfl rfl ?_
  refine x_ib (pc' := 31) (v := w32 ((iand (w32 ((w32 ((iand (w32 (p1 - (iand (iushr p1 1) 1431655765))) 858993459) + (iand (iushr (w32 (p1 - (iand (iushr p1 1) 1431655765))) 2) 858993459))) + (iushr (w32 ((iand (w32 (p1 - (iand (iushr p1 1) 1431655765))) 858993459) + (iand (iushr (w32 (p1 - (iand (iushr p1 1) 1431655765))) 2) 858993459))) 4))) 252645135) + (iushr (iand (w32 ((w32 ((iand (w32 (p1 - (iand (iushr p1 1) 1431655765))) 858993459) + (iand (iushr (w32 (p1 - (iand (iushr p1 1) 1431655765))) 2) 858993459))) + (iushr (w32 ((iand (w32 (p1 - (iand (iushr p1 1) 1431655765))) 858993459) + (iand (iushr (w32 (p1 - (iand (iushr p1 1) 1431655765))) 2) 858993459))) 4))) 252645135) 8))) rfl rfl rfl ?_
  refine x_is (pc' := 32) (ls' := [(0, w32 ((iand (w32 ((w32 ((iand (w32 (p1 - (iand (iushr p1 1) 1431655765))) 858993459) + (iand (iushr (w32 (p1 - (iand (iushr p1 1) 1431655765))) 2) 858993459))) + (iushr (w32 ((iand (w32 (p1 - (iand (iushr p1 1) 1431655765))) 858993459) + (iand (iushr (w32 (p1 - (iand (iushr p1 1) 1431655765))) 2) 858993459))) 4))) 252645135) + (iushr (iand (w32 ((w32 ((iand (w32 (p1 - (iand (iushr p1 1) 1431655765))) 858993459) + (iand (iushr (w32 (p1 - (iand (iushr p1 1) 1431655765))) 2) 858993459))) + (iushr (w32 ((iand (w32 (p1 - (iand (iushr p1 1) 1431655765))) 858993459) + (iand (iushr (w32 (p1 - (iand (iushr p1 1) 1431655765))) 2) 858993459))) 4))) 252645135) 8)))]) rfl rfl rfl rfl ?_
  refine x_il (pc' := 33) rfl rfl rfl ?_
  refine x_il (pc' := 34) rfl rfl rfl ?_
  refine x_c (pc' := 35) rfl rfl ?_
  refine x_ib (pc' := 36) (v := iushr (w32 ((iand (w32 ((w32 ((iand (w32 (p1 - (iand (iushr p1 1) 1431655765))) 858993459) + (iand (iushr (w32 (p1 - (iand (iushr p1 1) 1431655765))) 2) 858993459))) + (iushr (w32 ((iand (w32 (p1 - (iand (iushr p1 1) 1431655765))) 858993459) + (iand (iushr (w32 (p1 - (iand (iushr p1 1) 1431655765))) 2) 858993459))) 4))) 252645135) + (iushr (iand (w32 ((w32 ((iand (w32 (p1 - (iand (iushr p1 1) 1431655765))) 858993459) + (iand (iushr (w32 (p1 - (iand (iushr p1 1) 1431655765))) 2) 858993459))) + (iushr (w32 ((iand (w32 (p1 - (iand (iushr p1 1) 1431655765))) 858993459) + (iand (iushr (w32 (p1 - (iand (iushr p1 1) 1431655765))) 2) 858993459))) 4))) 252645135) 8))) 16) rfl rfl rfl ?_
  refine x_ib (pc' := 37) (v := w32 ((w32 ((iand (w32 ((w32 ((iand (w32 (p1 - (iand (iushr p1 1) 1431655765))) 858993459) + (iand (iushr (w32 (p1 - (iand (iushr p1 1) 1431655765))) 2) 858993459))) + (iushr (w32 ((iand (w32 (p1 - (iand (iushr p1 1) 1431655765))) 858993459) + (iand (iushr (w32 (p1 - (iand (iushr p1 1) 1431655765))) 2) 858993459))) 4))) 252645135) + (iushr (iand (w32 ((w32 ((iand (w32 (p1 - (iand (iushr p1 1) 1431655765))) 858993459) + (iand (iushr (w32 (p1 - (iand (iushr p1 1) 1431655765))) 2) 858993459))) + (iushr (w32 ((iand (w32 (p1 - (iand (iushr p1 1) 1431655765))) 858993459) + (iand (iushr (w32 (p1 - (iand (iushr p1 1) 1431655765))) 2) 858993459))) 4))) 252645135) 8))) + (iushr (w32 ((iand (w32 ((w32 ((iand (w32 (p1 - (iand (iushr p1 1) 1431655765))) 858993459) + (iand (iushr (w32 (p1 - (iand (iushr p1 1) 1431655765))) 2) 858993459))) + (iushr (w32 ((iand (w32 (p1 - (iand (iushr p1 1) 1431655765))) 858993459) + (iand (iushr (w32 (p1 - (iand (iushr p1 1) 1431655765))) 2) 858993459))) 4))) 252645135) + (iushr (iand (w32 ((w32 ((iand (w32 (p1 - (iand (iushr p1 1) 1431655765))) 858993459) + (iand (iushr (w32 (p1 - (iand (iushr p1 1) 1431655765))) 2) 858993459))) + (iushr (w32 ((iand (w32 (p1 - (iand (iushr p1 1) 1431655765))) 858993459) + (iand (iushr (w32 (p1 - (iand (iushr p1 1) 1431655765))) 2) 858993459))) 4))) 252645135) 8))) 16))) rfl rfl rfl ?_
  refine x_is (pc' := 38) (ls' := [(0, w32 ((w32 ((iand (w32 ((w32 ((iand (w32 (p1 - (iand (iushr p1 1) 1431655765))) 858993459) + (iand (iushr (w32 (p1 - (iand (iushr p1 1) 1431655765))) 2) 858993459))) + (iushr (w32 ((iand (w32 (p1 - (iand (iushr p1 1) 1431655765))) 858993459) + (iand (iushr (w32 (p1 - (iand (iushr p1 1) 1431655765))) 2) 858993459))) 4))) 252645135) + (iushr (iand (w32 ((w32 ((iand (w32 (p1 - (iand (iushr p1 1) 1431655765))) 858993459) + (iand (iushr (w32 (p1 - (iand (iushr p1 1) 1431655765))) 2) 858993459))) + (iushr (w32 ((iand (w32 (p1 - (iand (iushr p1 1) 1431655765))) 858993459) + (iand (iushr (w32 (p1 - (iand (iushr p1 1) 1431655765))) 2) 858993459))) 4))) 252645135) 8))) + (iushr (w32 ((iand (w32 ((w32 ((iand (w32 (p1 - (iand (iushr p1 1) 1431655765))) 858993459) + (iand (iushr (w32 (p1 - (iand (iushr p1 1) 1431655765))) 2) 858993459))) + (iushr (w32 ((iand (w32 (p1 - (iand (iushr p1 1) 1431655765))) 858993459) + (iand (iushr (w32 (p1 - (iand (iushr p1 1) 1431655765))) 2) 858993459))) 4))) 252645135) + (iushr (iand (w32 ((w32 ((iand (w32 (p1 - (iand (iushr p1 1) 1431655765))) 858993459) + (iand (iushr (w32 (p1 - (iand (iushr p1 1) 1431655765))) 2) 858993459))) + (iushr (w32 ((iand (w32 (p1 - (iand (iushr p1 1) 1431655765))) 858993459) + (iand (iushr (w32 (p1 - (iand (iushr p1 1) 1431655765))) 2) 858993459))) 4))) 252645135) 8))) 16)))]) rfl rfl rfl rfl ?_
  refine x_il (pc' := 39) rfl rfl rfl ?_
  refine x_c (pc' := 40) rfl rfl ?_
  refine x_ib (pc' := 41) (v := iand (w32 ((w32 ((iand (w32 ((w32 ((iand (w32 (p1 - (iand (iushr p1 1) 1431655765))) 858993459) + (iand (iushr (w32 (p1 - (iand (iushr p1 1) 1431655765))) 2) 858993459))) + (iushr (w32 ((iand (w32 (p1 - (iand (iushr p1 1) 1431655765))) 858993459) + (iand (iushr (w32 (p1 - (iand (iushr p1 1) 1431655765))) 2) 858993459))) 4))) 252645135) + (iushr (iand (w32 ((w32 ((iand (w32 (p1 - (iand (iushr p1 1) 1431655765))) 858993459) + (iand (iushr (w32 (p1 - (iand (iushr p1 1) 1431655765))) 2) 858993459))) + (iushr (w32 ((iand (w32 (p1 - (iand (iushr p1 1) 1431655765))) 858993459) + (iand (iushr (w32 (p1 - (iand (iushr p1 1) 1431655765))) 2) 858993459))) 4))) 252645135) 8))) + (iushr (w32 ((iand (w32 ((w32 ((iand (w32 (p1 - (iand (iushr p1 1) 1431655765))) 858993459) + (iand (iushr (w32 (p1 - (iand (iushr p1 1) 1431655765))) 2) 858993459))) + (iushr (w32 ((iand (w32 (p1 - (iand (iushr p1 1) 1431655765))) 858993459) + (iand (iushr (w32 (p1 - (iand (iushr p1 1) 1431655765))) 2) 858993459))) 4))) 252645135) + (iushr (iand (w32 ((w32 ((iand (w32 (p1 - (iand (iushr p1 1) 1431655765))) 858993459) + (iand (iushr (w32 (p1 - (iand (iushr p1 1) 1431655765))) 2) 858993459))) + (iushr (w32 ((iand (w32 (p1 - (iand (iushr p1 1) 1431655765))) 858993459) + (iand (iushr (w32 (p1 - (iand (iushr p1 1) 1431655765))) 2) 858993459))) 4))) 252645135) 8))) 16))) 63) rfl rfl rfl ?_
  exact x_iret rfl h
