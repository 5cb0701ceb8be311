/-! what each method owes, point by point (by program) -/
theorem sg_M_of {d : Nat} {p1 p2 : Int} {M : Mem} {r : Res} (h : (if ¬ p2 = 10 then ∃ v3, Cl d m_M_isOf [(2, 64), (0, p1), (0, p2)] M (some (0, v3), M) ∧ (if v3 = 0 then r = (some (0, (-1)), M) else ∃ v6, Cl d m_M_get [(2, 64), (0, p1), (0, p2)] M (some (0, v6), M) ∧ r = (some (0, v6), M)) else ∃ v8, Cl d m_M_isCard [(2, 64), (0, p1)] M (some (0, v8), M) ∧ (if v8 = 0 then r = (some (0, (-1)), M) else (0 ≤ p1 ∧ p1 < 12) ∧ r = (some (0, M 67 p1), M)))) : Cl (d + 1) m_M_of [(2, 64), (0, p1), (0, p2)] M r := by
  refine cl_of (c := k_M_of) (mL := 3) (rz := 1) (rc := 7) (ls := [(2, 64), (0, p1), (0, p2)]) rfl rfl rfl ?_
  refine x_il (pc' := 1) rfl rfl rfl ?_
  refine x_c (pc' := 2) rfl rfl ?_
  refine x_icne (pc' := 3) (t' := 14) rfl rfl rfl (fun q1 => ?_) (fun q1 => ?_)
  · replace h := ite_t q1 h
    refine x_al (pc' := 15) rfl rfl (by decide) rfl ?_
    refine x_il (pc' := 16) rfl rfl rfl ?_
    refine x_il (pc' := 17) rfl rfl rfl ?_
    obtain ⟨v3, q2, h⟩ := h
    refine x_call (pc' := 18) (as := [(2, 64), (0, p1), (0, p2)]) (rest := []) rfl rfl rfl rfl rfl rfl q2 ?_
    refine x_ifeq (pc' := 19) (t' := 24) rfl rfl rfl (fun q4 => ?_) (fun q4 => ?_)
    · replace h := ite_t q4 h
      refine x_c (pc' := 25) rfl rfl ?_
      exact x_iret rfl h
    · replace h := ite_f q4 h
      refine x_al (pc' := 20) rfl rfl (by decide) rfl ?_
      refine x_il (pc' := 21) rfl rfl rfl ?_
      refine x_il (pc' := 22) rfl rfl rfl ?_
      obtain ⟨v6, q5, h⟩ := h
      refine x_call (pc' := 23) (as := [(2, 64), (0, p1), (0, p2)]) (rest := []) rfl rfl rfl rfl rfl rfl q5 ?_
      refine x_goto (t' := 25) rfl rfl ?_
      exact x_iret rfl h
  · replace h := ite_f q1 h
    refine x_al (pc' := 4) rfl rfl (by decide) rfl ?_
    refine x_il (pc' := 5) rfl rfl rfl ?_
    obtain ⟨v8, q7, h⟩ := h
    refine x_call (pc' := 6) (as := [(2, 64), (0, p1)]) (rest := []) rfl rfl rfl rfl rfl rfl q7 ?_
    refine x_ifeq (pc' := 7) (t' := 12) rfl rfl rfl (fun q9 => ?_) (fun q9 => ?_)
    · replace h := ite_t q9 h
      refine x_c (pc' := 13) rfl rfl ?_
      exact x_iret rfl h
    · replace h := ite_f q9 h
      refine x_al (pc' := 8) rfl rfl (by decide) rfl ?_
      refine x_gr (pc' := 9) (v := 67) rfl rfl rfl (by decide) rfl ?_
      refine x_il (pc' := 10) rfl rfl rfl ?_
      obtain ⟨q10, h⟩ := h
      refine x_ia (pc' := 11) 12 (v := M 67 p1) rfl rfl rfl q10.1 q10.2 rfl ?_
      refine x_goto (t' := 13) rfl rfl ?_
      exact x_iret rfl h
theorem sg_M_undo {d : Nat} {M : Mem} {r : Res} (h : (if ¬ M 64 28 = 0 then (0 ≤ w32 (4 * ((up M 64 28 (w32 ((M 64 28) - 1))) 64 28)) ∧ w32 (4 * ((up M 64 28 (w32 ((M 64 28) - 1))) 64 28)) < 160) ∧ (0 ≤ w32 ((w32 (4 * ((up M 64 28 (w32 ((M 64 28) - 1))) 64 28))) + 1) ∧ w32 ((w32 (4 * ((up M 64 28 (w32 ((M 64 28) - 1))) 64 28))) + 1) < 160) ∧ (0 ≤ w32 ((w32 (4 * ((up M 64 28 (w32 ((M 64 28) - 1))) 64 28))) + 2) ∧ w32 ((w32 (4 * ((up M 64 28 (w32 ((M 64 28) - 1))) 64 28))) + 2) < 160) ∧ ∃ M6, Cl d m_M_becomes [(2, 64), (0, (up M 64 28 (w32 ((M 64 28) - 1))) 81 (w32 (4 * ((up M 64 28 (w32 ((M 64 28) - 1))) 64 28)))), (0, (up M 64 28 (w32 ((M 64 28) - 1))) 81 (w32 ((w32 (4 * ((up M 64 28 (w32 ((M 64 28) - 1))) 64 28))) + 1))), (0, (up M 64 28 (w32 ((M 64 28) - 1))) 81 (w32 ((w32 (4 * ((up M 64 28 (w32 ((M 64 28) - 1))) 64 28))) + 2)))] (up M 64 28 (w32 ((M 64 28) - 1))) (none, M6) ∧ r = (some (0, M6 64 28), M6) else r = (some (0, (-5)), M))) : Cl (d + 1) m_M_undo [(2, 64)] M r := by
  refine cl_of (c := k_M_undo) (mL := 1) (rz := 1) (rc := 7) (ls := [(2, 64)]) rfl rfl rfl ?_
  refine x_al (pc' := 1) rfl rfl (by decide) rfl ?_
  refine x_gf (pc' := 2) (v := M 64 28) rfl rfl rfl rfl rfl ?_
  refine x_ifne (pc' := 3) (t' := 5) rfl rfl rfl (fun q1 => ?_) (fun q1 => ?_)
  · replace h := ite_t q1 h
    refine x_al (pc' := 6) rfl rfl (by decide) rfl ?_
    refine x_dupa (pc' := 7) rfl rfl ?_
    refine x_gf (pc' := 8) (v := M 64 28) rfl rfl rfl rfl rfl ?_
    refine x_c (pc' := 9) rfl rfl ?_
    refine x_ib (pc' := 10) (v := w32 ((M 64 28) - 1)) rfl rfl rfl ?_
    refine x_pf (pc' := 11) (M2 := up M 64 28 (w32 ((M 64 28) - 1))) rfl rfl rfl rfl ?_
    refine x_al (pc' := 12) rfl rfl (by decide) rfl ?_
    refine x_al (pc' := 13) rfl rfl (by decide) rfl ?_
    refine x_gr (pc' := 14) (v := 81) rfl rfl rfl (by decide) rfl ?_
    refine x_c (pc' := 15) rfl rfl ?_
    refine x_al (pc' := 16) rfl rfl (by decide) rfl ?_
    refine x_gf (pc' := 17) (v := (up M 64 28 (w32 ((M 64 28) - 1))) 64 28) rfl rfl rfl rfl rfl ?_
    refine x_ib (pc' := 18) (v := w32 (4 * ((up M 64 28 (w32 ((M 64 28) - 1))) 64 28))) rfl rfl rfl ?_
    obtain ⟨q2, h⟩ := h
    refine x_ia (pc' := 19) 160 (v := (up M 64 28 (w32 ((M 64 28) - 1))) 81 (w32 (4 * ((up M 64 28 (w32 ((M 64 28) - 1))) 64 28)))) rfl rfl rfl q2.1 q2.2 rfl ?_
    refine x_al (pc' := 20) rfl rfl (by decide) rfl ?_
    refine x_gr (pc' := 21) (v := 81) rfl rfl rfl (by decide) rfl ?_
    refine x_c (pc' := 22) rfl rfl ?_
    refine x_al (pc' := 23) rfl rfl (by decide) rfl ?_
    refine x_gf (pc' := 24) (v := (up M 64 28 (w32 ((M 64 28) - 1))) 64 28) rfl rfl rfl rfl rfl ?_
    refine x_ib (pc' := 25) (v := w32 (4 * ((up M 64 28 (w32 ((M 64 28) - 1))) 64 28))) rfl rfl rfl ?_
    refine x_c (pc' := 26) rfl rfl ?_
    refine x_ib (pc' := 27) (v := w32 ((w32 (4 * ((up M 64 28 (w32 ((M 64 28) - 1))) 64 28))) + 1)) rfl rfl rfl ?_
    obtain ⟨q3, h⟩ := h
    refine x_ia (pc' := 28) 160 (v := (up M 64 28 (w32 ((M 64 28) - 1))) 81 (w32 ((w32 (4 * ((up M 64 28 (w32 ((M 64 28) - 1))) 64 28))) + 1))) rfl rfl rfl q3.1 q3.2 rfl ?_
    refine x_al (pc' := 29) rfl rfl (by decide) rfl ?_
    refine x_gr (pc' := 30) (v := 81) rfl rfl rfl (by decide) rfl ?_
    refine x_c (pc' := 31) rfl rfl ?_
    refine x_al (pc' := 32) rfl rfl (by decide) rfl ?_
    refine x_gf (pc' := 33) (v := (up M 64 28 (w32 ((M 64 28) - 1))) 64 28) rfl rfl rfl rfl rfl ?_
    refine x_ib (pc' := 34) (v := w32 (4 * ((up M 64 28 (w32 ((M 64 28) - 1))) 64 28))) rfl rfl rfl ?_
    refine x_c (pc' := 35) rfl rfl ?_
    refine x_ib (pc' := 36) (v := w32 ((w32 (4 * ((up M 64 28 (w32 ((M 64 28) - 1))) 64 28))) + 2)) rfl rfl rfl ?_
    obtain ⟨q4, h⟩ := h
    refine x_ia (pc' := 37) 160 (v := (up M 64 28 (w32 ((M 64 28) - 1))) 81 (w32 ((w32 (4 * ((up M 64 28 (w32 ((M 64 28) - 1))) 64 28))) + 2))) rfl rfl rfl q4.1 q4.2 rfl ?_
    obtain ⟨M6, q5, h⟩ := h
    refine x_callv (pc' := 38) (as := [(2, 64), (0, (up M 64 28 (w32 ((M 64 28) - 1))) 81 (w32 (4 * ((up M 64 28 (w32 ((M 64 28) - 1))) 64 28)))), (0, (up M 64 28 (w32 ((M 64 28) - 1))) 81 (w32 ((w32 (4 * ((up M 64 28 (w32 ((M 64 28) - 1))) 64 28))) + 1))), (0, (up M 64 28 (w32 ((M 64 28) - 1))) 81 (w32 ((w32 (4 * ((up M 64 28 (w32 ((M 64 28) - 1))) 64 28))) + 2)))]) (rest := []) rfl rfl rfl rfl rfl rfl q5 ?_
    refine x_al (pc' := 39) rfl rfl (by decide) rfl ?_
    refine x_gf (pc' := 40) (v := M6 64 28) rfl rfl rfl rfl rfl ?_
    exact x_iret rfl h
  · replace h := ite_f q1 h
    refine x_c (pc' := 4) rfl rfl ?_
    exact x_iret rfl h
theorem sg_M_redo {d : Nat} {M : Mem} {r : Res} (h : (if ¬ M 64 28 = M 64 27 then (0 ≤ w32 (4 * (M 64 28)) ∧ w32 (4 * (M 64 28)) < 160) ∧ (0 ≤ w32 ((w32 (4 * (M 64 28))) + 1) ∧ w32 ((w32 (4 * (M 64 28))) + 1) < 160) ∧ (0 ≤ w32 ((w32 (4 * (M 64 28))) + 3) ∧ w32 ((w32 (4 * (M 64 28))) + 3) < 160) ∧ ∃ M6, Cl d m_M_becomes [(2, 64), (0, M 81 (w32 (4 * (M 64 28)))), (0, M 81 (w32 ((w32 (4 * (M 64 28))) + 1))), (0, M 81 (w32 ((w32 (4 * (M 64 28))) + 3)))] M (none, M6) ∧ r = (some (0, w32 (((up M6 64 28 (w32 ((M6 64 28) + 1))) 64 27) - ((up M6 64 28 (w32 ((M6 64 28) + 1))) 64 28))), up M6 64 28 (w32 ((M6 64 28) + 1))) else r = (some (0, (-5)), M))) : Cl (d + 1) m_M_redo [(2, 64)] M r := by
  refine cl_of (c := k_M_redo) (mL := 1) (rz := 1) (rc := 7) (ls := [(2, 64)]) rfl rfl rfl ?_
  refine x_al (pc' := 1) rfl rfl (by decide) rfl ?_
  refine x_gf (pc' := 2) (v := M 64 28) rfl rfl rfl rfl rfl ?_
  refine x_al (pc' := 3) rfl rfl (by decide) rfl ?_
  refine x_gf (pc' := 4) (v := M 64 27) rfl rfl rfl rfl rfl ?_
  refine x_icne (pc' := 5) (t' := 7) rfl rfl rfl (fun q1 => ?_) (fun q1 => ?_)
  · replace h := ite_t q1 h
    refine x_al (pc' := 8) rfl rfl (by decide) rfl ?_
    refine x_al (pc' := 9) rfl rfl (by decide) rfl ?_
    refine x_gr (pc' := 10) (v := 81) rfl rfl rfl (by decide) rfl ?_
    refine x_c (pc' := 11) rfl rfl ?_
    refine x_al (pc' := 12) rfl rfl (by decide) rfl ?_
    refine x_gf (pc' := 13) (v := M 64 28) rfl rfl rfl rfl rfl ?_
    refine x_ib (pc' := 14) (v := w32 (4 * (M 64 28))) rfl rfl rfl ?_
    obtain ⟨q2, h⟩ := h
    refine x_ia (pc' := 15) 160 (v := M 81 (w32 (4 * (M 64 28)))) rfl rfl rfl q2.1 q2.2 rfl ?_
    refine x_al (pc' := 16) rfl rfl (by decide) rfl ?_
    refine x_gr (pc' := 17) (v := 81) rfl rfl rfl (by decide) rfl ?_
    refine x_c (pc' := 18) rfl rfl ?_
    refine x_al (pc' := 19) rfl rfl (by decide) rfl ?_
    refine x_gf (pc' := 20) (v := M 64 28) rfl rfl rfl rfl rfl ?_
    refine x_ib (pc' := 21) (v := w32 (4 * (M 64 28))) rfl rfl rfl ?_
    refine x_c (pc' := 22) rfl rfl ?_
    refine x_ib (pc' := 23) (v := w32 ((w32 (4 * (M 64 28))) + 1)) rfl rfl rfl ?_
    obtain ⟨q3, h⟩ := h
    refine x_ia (pc' := 24) 160 (v := M 81 (w32 ((w32 (4 * (M 64 28))) + 1))) rfl rfl rfl q3.1 q3.2 rfl ?_
    refine x_al (pc' := 25) rfl rfl (by decide) rfl ?_
    refine x_gr (pc' := 26) (v := 81) rfl rfl rfl (by decide) rfl ?_
    refine x_c (pc' := 27) rfl rfl ?_
    refine x_al (pc' := 28) rfl rfl (by decide) rfl ?_
    refine x_gf (pc' := 29) (v := M 64 28) rfl rfl rfl rfl rfl ?_
    refine x_ib (pc' := 30) (v := w32 (4 * (M 64 28))) rfl rfl rfl ?_
    refine x_c (pc' := 31) rfl rfl ?_
    refine x_ib (pc' := 32) (v := w32 ((w32 (4 * (M 64 28))) + 3)) rfl rfl rfl ?_
    obtain ⟨q4, h⟩ := h
    refine x_ia (pc' := 33) 160 (v := M 81 (w32 ((w32 (4 * (M 64 28))) + 3))) rfl rfl rfl q4.1 q4.2 rfl ?_
    obtain ⟨M6, q5, h⟩ := h
    refine x_callv (pc' := 34) (as := [(2, 64), (0, M 81 (w32 (4 * (M 64 28)))), (0, M 81 (w32 ((w32 (4 * (M 64 28))) + 1))), (0, M 81 (w32 ((w32 (4 * (M 64 28))) + 3)))]) (rest := []) rfl rfl rfl rfl rfl rfl q5 ?_
    refine x_al (pc' := 35) rfl rfl (by decide) rfl ?_
    refine x_dupa (pc' := 36) rfl rfl ?_
    refine x_gf (pc' := 37) (v := M6 64 28) rfl rfl rfl rfl rfl ?_
    refine x_c (pc' := 38) rfl rfl ?_
    refine x_ib (pc' := 39) (v := w32 ((M6 64 28) + 1)) rfl rfl rfl ?_
    refine x_pf (pc' := 40) (M2 := up M6 64 28 (w32 ((M6 64 28) + 1))) rfl rfl rfl rfl ?_
    refine x_al (pc' := 41) rfl rfl (by decide) rfl ?_
    refine x_gf (pc' := 42) (v := (up M6 64 28 (w32 ((M6 64 28) + 1))) 64 27) rfl rfl rfl rfl rfl ?_
    refine x_al (pc' := 43) rfl rfl (by decide) rfl ?_
    refine x_gf (pc' := 44) (v := (up M6 64 28 (w32 ((M6 64 28) + 1))) 64 28) rfl rfl rfl rfl rfl ?_
    refine x_ib (pc' := 45) (v := w32 (((up M6 64 28 (w32 ((M6 64 28) + 1))) 64 27) - ((up M6 64 28 (w32 ((M6 64 28) + 1))) 64 28))) rfl rfl rfl ?_
    exact x_iret rfl h
  · replace h := ite_f q1 h
    refine x_c (pc' := 6) rfl rfl ?_
    exact x_iret rfl h
theorem sg_M_feed {d : Nat} {p1 : Int} {M : Mem} {r : Res} (h : ∃ v2, Cl d m_M_within [(0, p1), (0, 0), (0, 255)] M (some (0, v2), M) ∧ (if ¬ v2 = 0 then (if ¬ M 64 5 = 120 then (0 ≤ M 64 5 ∧ M 64 5 < 120) ∧ r = (some (0, (up (up M 64 5 (w32 ((M 64 5) + 1))) 68 (M 64 5) p1) 64 5), up (up M 64 5 (w32 ((M 64 5) + 1))) 68 (M 64 5) p1) else r = (some (0, (-3)), M)) else r = (some (0, (-1)), M))) : Cl (d + 1) m_M_feed [(2, 64), (0, p1)] M r := by
  refine cl_of (c := k_M_feed) (mL := 2) (rz := 1) (rc := 7) (ls := [(2, 64), (0, p1)]) rfl rfl rfl ?_
  refine x_il (pc' := 1) rfl rfl rfl ?_
  refine x_c (pc' := 2) rfl rfl ?_
  refine x_c (pc' := 3) rfl rfl ?_
  obtain ⟨v2, q1, h⟩ := h
  refine x_call (pc' := 4) (as := [(0, p1), (0, 0), (0, 255)]) (rest := []) rfl rfl rfl rfl rfl rfl q1 ?_
  refine x_ifne (pc' := 5) (t' := 7) rfl rfl rfl (fun q3 => ?_) (fun q3 => ?_)
  · replace h := ite_t q3 h
    refine x_al (pc' := 8) rfl rfl (by decide) rfl ?_
    refine x_gf (pc' := 9) (v := M 64 5) rfl rfl rfl rfl rfl ?_
    refine x_c (pc' := 10) rfl rfl ?_
    refine x_icne (pc' := 11) (t' := 13) rfl rfl rfl (fun q4 => ?_) (fun q4 => ?_)
    · replace h := ite_t q4 h
      refine x_al (pc' := 14) rfl rfl (by decide) rfl ?_
      refine x_gr (pc' := 15) (v := 68) rfl rfl rfl (by decide) rfl ?_
      refine x_al (pc' := 16) rfl rfl (by decide) rfl ?_
      refine x_dupa (pc' := 17) rfl rfl ?_
      refine x_gf (pc' := 18) (v := M 64 5) rfl rfl rfl rfl rfl ?_
      refine x_dupx1 (pc' := 19) rfl rfl ?_
      refine x_c (pc' := 20) rfl rfl ?_
      refine x_ib (pc' := 21) (v := w32 ((M 64 5) + 1)) rfl rfl rfl ?_
      refine x_pf (pc' := 22) (M2 := up M 64 5 (w32 ((M 64 5) + 1))) rfl rfl rfl rfl ?_
      refine x_il (pc' := 23) rfl rfl rfl ?_
      obtain ⟨q5, h⟩ := h
      refine x_ist (pc' := 24) 120 (M2 := up (up M 64 5 (w32 ((M 64 5) + 1))) 68 (M 64 5) p1) rfl rfl rfl q5.1 q5.2 rfl ?_
      refine x_al (pc' := 25) rfl rfl (by decide) rfl ?_
      refine x_gf (pc' := 26) (v := (up (up M 64 5 (w32 ((M 64 5) + 1))) 68 (M 64 5) p1) 64 5) rfl rfl rfl rfl rfl ?_
      exact x_iret rfl h
    · replace h := ite_f q4 h
      refine x_c (pc' := 12) rfl rfl ?_
      exact x_iret rfl h
  · replace h := ite_f q3 h
    refine x_c (pc' := 6) rfl rfl ?_
    exact x_iret rfl h
theorem sg_M_sign {d : Nat} {M : Mem} {r : Res} (h : (if M 64 5 ≤ M 64 13 then r = (some (0, (-1)), M) else (0 ≤ M 64 13 ∧ M 64 13 < 120) ∧ r = (some (0, M 68 (M 64 13)), M))) : Cl (d + 1) m_M_sign [(2, 64)] M r := by
  refine cl_of (c := k_M_sign) (mL := 1) (rz := 1) (rc := 7) (ls := [(2, 64)]) rfl rfl rfl ?_
  refine x_al (pc' := 1) rfl rfl (by decide) rfl ?_
  refine x_gf (pc' := 2) (v := M 64 13) rfl rfl rfl rfl rfl ?_
  refine x_al (pc' := 3) rfl rfl (by decide) rfl ?_
  refine x_gf (pc' := 4) (v := M 64 5) rfl rfl rfl rfl rfl ?_
  refine x_icge (pc' := 5) (t' := 11) rfl rfl rfl (fun q1 => ?_) (fun q1 => ?_)
  · replace h := ite_t q1 h
    refine x_c (pc' := 12) rfl rfl ?_
    exact x_iret rfl h
  · replace h := ite_f q1 h
    refine x_al (pc' := 6) rfl rfl (by decide) rfl ?_
    refine x_gr (pc' := 7) (v := 68) rfl rfl rfl (by decide) rfl ?_
    refine x_al (pc' := 8) rfl rfl (by decide) rfl ?_
    refine x_gf (pc' := 9) (v := M 64 13) rfl rfl rfl rfl rfl ?_
    obtain ⟨q2, h⟩ := h
    refine x_ia (pc' := 10) 120 (v := M 68 (M 64 13)) rfl rfl rfl q2.1 q2.2 rfl ?_
    refine x_goto (t' := 12) rfl rfl ?_
    exact x_iret rfl h
theorem sg_M_is {d : Nat} {p1 : Int} {M : Mem} {r : Res} (h : ∃ v2, Cl d m_M_sign [(2, 64)] M (some (0, v2), M) ∧ (if v2 = p1 then r = (some (0, 1), up M 64 13 (w32 ((M 64 13) + 1))) else r = (some (0, 0), M))) : Cl (d + 1) m_M_is [(2, 64), (0, p1)] M r := by
  refine cl_of (c := k_M_is) (mL := 2) (rz := 3) (rc := 7) (ls := [(2, 64), (0, p1)]) rfl rfl rfl ?_
  refine x_al (pc' := 1) rfl rfl (by decide) rfl ?_
  obtain ⟨v2, q1, h⟩ := h
  refine x_call (pc' := 2) (as := [(2, 64)]) (rest := []) rfl rfl rfl rfl rfl rfl q1 ?_
  refine x_il (pc' := 3) rfl rfl rfl ?_
  refine x_iceq (pc' := 4) (t' := 6) rfl rfl rfl (fun q3 => ?_) (fun q3 => ?_)
  · replace h := ite_t q3 h
    refine x_al (pc' := 7) rfl rfl (by decide) rfl ?_
    refine x_dupa (pc' := 8) rfl rfl ?_
    refine x_gf (pc' := 9) (v := M 64 13) rfl rfl rfl rfl rfl ?_
    refine x_c (pc' := 10) rfl rfl ?_
    refine x_ib (pc' := 11) (v := w32 ((M 64 13) + 1)) rfl rfl rfl ?_
    refine x_pf (pc' := 12) (M2 := up M 64 13 (w32 ((M 64 13) + 1))) rfl rfl rfl rfl ?_
    refine x_c (pc' := 13) rfl rfl ?_
    exact x_zret rfl (by decide) h
  · replace h := ite_f q3 h
    refine x_c (pc' := 5) rfl rfl ?_
    exact x_zret rfl (by decide) h
theorem sg_M_codes {d : Nat} {p1 : Int} {M : Mem} {r : Res} (h : (0 ≤ M 64 15 ∧ M 64 15 < 200) ∧ r = (some (0, 1), up (up M 64 15 (w32 ((M 64 15) + 1))) 76 (M 64 15) p1)) : Cl (d + 1) m_M_codes [(2, 64), (0, p1)] M r := by
  refine cl_of (c := k_M_codes) (mL := 2) (rz := 3) (rc := 7) (ls := [(2, 64), (0, p1)]) rfl rfl rfl ?_
  refine x_al (pc' := 1) rfl rfl (by decide) rfl ?_
  refine x_gr (pc' := 2) (v := 76) rfl rfl rfl (by decide) rfl ?_
  refine x_al (pc' := 3) rfl rfl (by decide) rfl ?_
  refine x_dupa (pc' := 4) rfl rfl ?_
  refine x_gf (pc' := 5) (v := M 64 15) rfl rfl rfl rfl rfl ?_
  refine x_dupx1 (pc' := 6) rfl rfl ?_
  refine x_c (pc' := 7) rfl rfl ?_
  refine x_ib (pc' := 8) (v := w32 ((M 64 15) + 1)) rfl rfl rfl ?_
  refine x_pf (pc' := 9) (M2 := up M 64 15 (w32 ((M 64 15) + 1))) rfl rfl rfl rfl ?_
  refine x_il (pc' := 10) rfl rfl rfl ?_
  obtain ⟨q1, h⟩ := h
  refine x_ist (pc' := 11) 200 (M2 := up (up M 64 15 (w32 ((M 64 15) + 1))) 76 (M 64 15) p1) rfl rfl rfl q1.1 q1.2 rfl ?_
  refine x_c (pc' := 12) rfl rfl ?_
  exact x_zret rfl (by decide) h
theorem sg_M_isDigit {d : Nat} {M : Mem} {r : Res} (h : ∃ v2, Cl d m_M_sign [(2, 64)] M (some (0, v2), M) ∧ (if v2 < 48 then r = (some (0, 0), M) else ∃ v5, Cl d m_M_sign [(2, 64)] M (some (0, v5), M) ∧ (if 57 < v5 then r = (some (0, 0), M) else r = (some (0, 1), M)))) : Cl (d + 1) m_M_isDigit [(2, 64)] M r := by
  refine cl_of (c := k_M_isDigit) (mL := 1) (rz := 3) (rc := 7) (ls := [(2, 64)]) rfl rfl rfl ?_
  refine x_al (pc' := 1) rfl rfl (by decide) rfl ?_
  obtain ⟨v2, q1, h⟩ := h
  refine x_call (pc' := 2) (as := [(2, 64)]) (rest := []) rfl rfl rfl rfl rfl rfl q1 ?_
  refine x_c (pc' := 3) rfl rfl ?_
  refine x_iclt (pc' := 4) (t' := 10) rfl rfl rfl (fun q3 => ?_) (fun q3 => ?_)
  · replace h := ite_t q3 h
    refine x_c (pc' := 11) rfl rfl ?_
    exact x_zret rfl (by decide) h
  · replace h := ite_f q3 h
    refine x_al (pc' := 5) rfl rfl (by decide) rfl ?_
    obtain ⟨v5, q4, h⟩ := h
    refine x_call (pc' := 6) (as := [(2, 64)]) (rest := []) rfl rfl rfl rfl rfl rfl q4 ?_
    refine x_c (pc' := 7) rfl rfl ?_
    refine x_icgt (pc' := 8) (t' := 10) rfl rfl rfl (fun q6 => ?_) (fun q6 => ?_)
    · replace h := ite_t q6 h
      refine x_c (pc' := 11) rfl rfl ?_
      exact x_zret rfl (by decide) h
    · replace h := ite_f q6 h
      refine x_c (pc' := 9) rfl rfl ?_
      refine x_goto (t' := 11) rfl rfl ?_
      exact x_zret rfl (by decide) h
theorem sg_M_nameOf {d : Nat} {p1 : Int} {M : Mem} {r : Res} (h : (if p1 = 102 then r = (some (0, 0), M) else (if p1 = 103 then r = (some (0, (-1)), M) else (if p1 = 104 then r = (some (0, (-1)), M) else (if p1 = 105 then r = (some (0, (-1)), M) else (if p1 = 106 then r = (some (0, (-1)), M) else (if p1 = 107 then r = (some (0, 4), M) else (if p1 = 108 then r = (some (0, (-1)), M) else (if p1 = 109 then r = (some (0, (-1)), M) else (if p1 = 110 then r = (some (0, 5), M) else (if p1 = 111 then r = (some (0, (-1)), M) else (if p1 = 112 then r = (some (0, (-1)), M) else (if p1 = 113 then r = (some (0, (-1)), M) else (if p1 = 114 then r = (some (0, 3), M) else (if p1 = 115 then r = (some (0, 1), M) else (if p1 = 116 then r = (some (0, 2), M) else r = (some (0, (-1)), M))))))))))))))))) : Cl (d + 1) m_M_nameOf [(0, p1)] M r := by
  refine cl_of (c := k_M_nameOf) (mL := 1) (rz := 1) (rc := 99) (ls := [(0, p1)]) rfl rfl rfl ?_
  refine x_il (pc' := 1) rfl rfl rfl ?_
  by_cases q1 : p1 = 102
  · replace h := ite_t q1 h
    refine x_tswv (t' := 2) 102 rfl q1 rfl rfl ?_
    refine x_c (pc' := 3) rfl rfl ?_
    exact x_iret rfl h
  replace h := ite_f q1 h
  by_cases q2 : p1 = 103
  · replace h := ite_t q2 h
    refine x_tswv (t' := 14) 103 rfl q2 rfl rfl ?_
    refine x_c (pc' := 15) rfl rfl ?_
    exact x_iret rfl h
  replace h := ite_f q2 h
  by_cases q3 : p1 = 104
  · replace h := ite_t q3 h
    refine x_tswv (t' := 14) 104 rfl q3 rfl rfl ?_
    refine x_c (pc' := 15) rfl rfl ?_
    exact x_iret rfl h
  replace h := ite_f q3 h
  by_cases q4 : p1 = 105
  · replace h := ite_t q4 h
    refine x_tswv (t' := 14) 105 rfl q4 rfl rfl ?_
    refine x_c (pc' := 15) rfl rfl ?_
    exact x_iret rfl h
  replace h := ite_f q4 h
  by_cases q5 : p1 = 106
  · replace h := ite_t q5 h
    refine x_tswv (t' := 14) 106 rfl q5 rfl rfl ?_
    refine x_c (pc' := 15) rfl rfl ?_
    exact x_iret rfl h
  replace h := ite_f q5 h
  by_cases q6 : p1 = 107
  · replace h := ite_t q6 h
    refine x_tswv (t' := 10) 107 rfl q6 rfl rfl ?_
    refine x_c (pc' := 11) rfl rfl ?_
    exact x_iret rfl h
  replace h := ite_f q6 h
  by_cases q7 : p1 = 108
  · replace h := ite_t q7 h
    refine x_tswv (t' := 14) 108 rfl q7 rfl rfl ?_
    refine x_c (pc' := 15) rfl rfl ?_
    exact x_iret rfl h
  replace h := ite_f q7 h
  by_cases q8 : p1 = 109
  · replace h := ite_t q8 h
    refine x_tswv (t' := 14) 109 rfl q8 rfl rfl ?_
    refine x_c (pc' := 15) rfl rfl ?_
    exact x_iret rfl h
  replace h := ite_f q8 h
  by_cases q9 : p1 = 110
  · replace h := ite_t q9 h
    refine x_tswv (t' := 12) 110 rfl q9 rfl rfl ?_
    refine x_c (pc' := 13) rfl rfl ?_
    exact x_iret rfl h
  replace h := ite_f q9 h
  by_cases q10 : p1 = 111
  · replace h := ite_t q10 h
    refine x_tswv (t' := 14) 111 rfl q10 rfl rfl ?_
    refine x_c (pc' := 15) rfl rfl ?_
    exact x_iret rfl h
  replace h := ite_f q10 h
  by_cases q11 : p1 = 112
  · replace h := ite_t q11 h
    refine x_tswv (t' := 14) 112 rfl q11 rfl rfl ?_
    refine x_c (pc' := 15) rfl rfl ?_
    exact x_iret rfl h
  replace h := ite_f q11 h
  by_cases q12 : p1 = 113
  · replace h := ite_t q12 h
    refine x_tswv (t' := 14) 113 rfl q12 rfl rfl ?_
    refine x_c (pc' := 15) rfl rfl ?_
    exact x_iret rfl h
  replace h := ite_f q12 h
  by_cases q13 : p1 = 114
  · replace h := ite_t q13 h
    refine x_tswv (t' := 8) 114 rfl q13 rfl rfl ?_
    refine x_c (pc' := 9) rfl rfl ?_
    exact x_iret rfl h
  replace h := ite_f q13 h
  by_cases q14 : p1 = 115
  · replace h := ite_t q14 h
    refine x_tswv (t' := 4) 115 rfl q14 rfl rfl ?_
    refine x_c (pc' := 5) rfl rfl ?_
    exact x_iret rfl h
  replace h := ite_f q14 h
  by_cases q15 : p1 = 116
  · replace h := ite_t q15 h
    refine x_tswv (t' := 6) 116 rfl q15 rfl rfl ?_
    refine x_c (pc' := 7) rfl rfl ?_
    exact x_iret rfl h
  replace h := ite_f q15 h
  refine x_tswd (t' := 14) rfl (show p1 < 102 ∨ 102 + ((15 : Nat) : Int) ≤ p1 by omega) rfl ?_
  refine x_c (pc' := 15) rfl rfl ?_
  exact x_iret rfl h
def at_M_isO_7 (d : Nat) (l1 : Int) (l2 : Int) (M : Mem) (r : Res) : Prop := Ex sx0 d k_M_isO 3 7 [(2, 64), (0, l1), (0, l2)] [] M r
theorem sg_M_isO {d : Nat} {M : Mem} {r : Res} (h : ∃ v2, Cl d m_M_isDigit [(2, 64)] M (some (0, v2), M) ∧ (if v2 = 0 then ∃ v5, Cl d m_M_sign [(2, 64)] M (some (0, v5), M) ∧ ∃ v7, Cl d m_M_nameOf [(0, v5)] M (some (0, v7), M) ∧ (if v7 < 0 then (if ¬ M 64 14 = 6 then ∃ v11 M12, Cl d m_M_is [(2, 64), (0, 33)] (up M 64 14 (w32 ((M 64 14) + 1))) (some (0, v11), M12) ∧ (if v11 = 0 then ∃ v15 M16, Cl d m_M_is [(2, 64), (0, 45)] M12 (some (0, v15), M16) ∧ (if v15 = 0 then ∃ v19 M20, Cl d m_M_is [(2, 64), (0, 40)] M16 (some (0, v19), M20) ∧ (if v19 = 0 then r = (some (0, 0), up M20 64 14 (w32 ((M20 64 14) - 1))) else ∃ v23 M24, Cl d m_M_isE [(2, 64)] M20 (some (0, v23), M24) ∧ (if v23 = 0 then r = (some (0, 0), up M24 64 14 (w32 ((M24 64 14) - 1))) else ∃ v27 M28, Cl d m_M_is [(2, 64), (0, 41)] M24 (some (0, v27), M28) ∧ (if v27 = 0 then r = (some (0, 0), up M28 64 14 (w32 ((M28 64 14) - 1))) else r = (some (0, 1), up M28 64 14 (w32 ((M28 64 14) - 1)))))) else ∃ v31 M32, Cl d m_M_isO [(2, 64)] M16 (some (0, v31), M32) ∧ (if v31 = 0 then r = (some (0, 0), up M32 64 14 (w32 ((M32 64 14) - 1))) else ∃ v35 M36, Cl d m_M_codes [(2, 64), (0, 17)] M32 (some (0, v35), M36) ∧ (if v35 = 0 then r = (some (0, 0), up M36 64 14 (w32 ((M36 64 14) - 1))) else r = (some (0, 1), up M36 64 14 (w32 ((M36 64 14) - 1)))))) else ∃ v39 M40, Cl d m_M_isO [(2, 64)] M12 (some (0, v39), M40) ∧ (if v39 = 0 then r = (some (0, 0), up M40 64 14 (w32 ((M40 64 14) - 1))) else ∃ v43 M44, Cl d m_M_codes [(2, 64), (0, 16)] M40 (some (0, v43), M44) ∧ (if v43 = 0 then r = (some (0, 0), up M44 64 14 (w32 ((M44 64 14) - 1))) else r = (some (0, 1), up M44 64 14 (w32 ((M44 64 14) - 1)))))) else r = (some (0, 0), M)) else ∃ v47 M48, Cl d m_M_codes [(2, 64), (0, v7)] (up M 64 13 (w32 ((M 64 13) + 1))) (some (0, v47), M48) ∧ (v47 = 0 ∨ v47 = 1) ∧ r = (some (0, v47), M48)) else at_M_isO_7 d 0 0 M r)) : Cl (d + 1) m_M_isO [(2, 64)] M r := by
  refine cl_of (c := k_M_isO) (mL := 3) (rz := 3) (rc := 7) (ls := [(2, 64), (3, 0), (3, 0)]) rfl rfl rfl ?_
  refine x_al (pc' := 1) rfl rfl (by decide) rfl ?_
  obtain ⟨v2, q1, h⟩ := h
  refine x_call (pc' := 2) (as := [(2, 64)]) (rest := []) rfl rfl rfl rfl rfl rfl q1 ?_
  refine x_ifeq (pc' := 3) (t' := 39) rfl rfl rfl (fun q3 => ?_) (fun q3 => ?_)
  · replace h := ite_t q3 h
    refine x_al (pc' := 40) rfl rfl (by decide) rfl ?_
    obtain ⟨v5, q4, h⟩ := h
    refine x_call (pc' := 41) (as := [(2, 64)]) (rest := []) rfl rfl rfl rfl rfl rfl q4 ?_
    obtain ⟨v7, q6, h⟩ := h
    refine x_call (pc' := 42) (as := [(0, v5)]) (rest := []) rfl rfl rfl rfl rfl rfl q6 ?_
    refine x_is (pc' := 43) (ls' := [(2, 64), (0, v7), (3, 0)]) rfl rfl rfl rfl ?_
    refine x_il (pc' := 44) rfl rfl rfl ?_
    refine x_iflt (pc' := 45) (t' := 55) rfl rfl rfl (fun q8 => ?_) (fun q8 => ?_)
    · replace h := ite_t q8 h
      refine x_al (pc' := 56) rfl rfl (by decide) rfl ?_
      refine x_gf (pc' := 57) (v := M 64 14) rfl rfl rfl rfl rfl ?_
      refine x_c (pc' := 58) rfl rfl ?_
      refine x_icne (pc' := 59) (t' := 61) rfl rfl rfl (fun q9 => ?_) (fun q9 => ?_)
      · replace h := ite_t q9 h
        refine x_al (pc' := 62) rfl rfl (by decide) rfl ?_
        refine x_dupa (pc' := 63) rfl rfl ?_
        refine x_gf (pc' := 64) (v := M 64 14) rfl rfl rfl rfl rfl ?_
        refine x_c (pc' := 65) rfl rfl ?_
        refine x_ib (pc' := 66) (v := w32 ((M 64 14) + 1)) rfl rfl rfl ?_
        refine x_pf (pc' := 67) (M2 := up M 64 14 (w32 ((M 64 14) + 1))) rfl rfl rfl rfl ?_
        refine x_al (pc' := 68) rfl rfl (by decide) rfl ?_
        refine x_c (pc' := 69) rfl rfl ?_
        obtain ⟨v11, M12, q10, h⟩ := h
        refine x_call (pc' := 70) (as := [(2, 64), (0, 33)]) (rest := []) rfl rfl rfl rfl rfl rfl q10 ?_
        refine x_ifeq (pc' := 71) (t' := 83) rfl rfl rfl (fun q13 => ?_) (fun q13 => ?_)
        · replace h := ite_t q13 h
          refine x_al (pc' := 84) rfl rfl (by decide) rfl ?_
          refine x_c (pc' := 85) rfl rfl ?_
          obtain ⟨v15, M16, q14, h⟩ := h
          refine x_call (pc' := 86) (as := [(2, 64), (0, 45)]) (rest := []) rfl rfl rfl rfl rfl rfl q14 ?_
          refine x_ifeq (pc' := 87) (t' := 99) rfl rfl rfl (fun q17 => ?_) (fun q17 => ?_)
          · replace h := ite_t q17 h
            refine x_al (pc' := 100) rfl rfl (by decide) rfl ?_
            refine x_c (pc' := 101) rfl rfl ?_
            obtain ⟨v19, M20, q18, h⟩ := h
            refine x_call (pc' := 102) (as := [(2, 64), (0, 40)]) (rest := []) rfl rfl rfl rfl rfl rfl q18 ?_
            refine x_ifeq (pc' := 103) (t' := 112) rfl rfl rfl (fun q21 => ?_) (fun q21 => ?_)
            · replace h := ite_t q21 h
              refine x_c (pc' := 113) rfl rfl ?_
              refine x_is (pc' := 114) (ls' := [(2, 64), (0, v7), (0, 0)]) rfl rfl rfl rfl ?_
              refine x_al (pc' := 115) rfl rfl (by decide) rfl ?_
              refine x_dupa (pc' := 116) rfl rfl ?_
              refine x_gf (pc' := 117) (v := M20 64 14) rfl rfl rfl rfl rfl ?_
              refine x_c (pc' := 118) rfl rfl ?_
              refine x_ib (pc' := 119) (v := w32 ((M20 64 14) - 1)) rfl rfl rfl ?_
              refine x_pf (pc' := 120) (M2 := up M20 64 14 (w32 ((M20 64 14) - 1))) rfl rfl rfl rfl ?_
              refine x_il (pc' := 121) rfl rfl rfl ?_
              exact x_zret rfl (by decide) h
            · replace h := ite_f q21 h
              refine x_al (pc' := 104) rfl rfl (by decide) rfl ?_
              obtain ⟨v23, M24, q22, h⟩ := h
              refine x_call (pc' := 105) (as := [(2, 64)]) (rest := []) rfl rfl rfl rfl rfl rfl q22 ?_
              refine x_ifeq (pc' := 106) (t' := 112) rfl rfl rfl (fun q25 => ?_) (fun q25 => ?_)
              · replace h := ite_t q25 h
                refine x_c (pc' := 113) rfl rfl ?_
                refine x_is (pc' := 114) (ls' := [(2, 64), (0, v7), (0, 0)]) rfl rfl rfl rfl ?_
                refine x_al (pc' := 115) rfl rfl (by decide) rfl ?_
                refine x_dupa (pc' := 116) rfl rfl ?_
                refine x_gf (pc' := 117) (v := M24 64 14) rfl rfl rfl rfl rfl ?_
                refine x_c (pc' := 118) rfl rfl ?_
                refine x_ib (pc' := 119) (v := w32 ((M24 64 14) - 1)) rfl rfl rfl ?_
                refine x_pf (pc' := 120) (M2 := up M24 64 14 (w32 ((M24 64 14) - 1))) rfl rfl rfl rfl ?_
                refine x_il (pc' := 121) rfl rfl rfl ?_
                exact x_zret rfl (by decide) h
              · replace h := ite_f q25 h
                refine x_al (pc' := 107) rfl rfl (by decide) rfl ?_
                refine x_c (pc' := 108) rfl rfl ?_
                obtain ⟨v27, M28, q26, h⟩ := h
                refine x_call (pc' := 109) (as := [(2, 64), (0, 41)]) (rest := []) rfl rfl rfl rfl rfl rfl q26 ?_
                refine x_ifeq (pc' := 110) (t' := 112) rfl rfl rfl (fun q29 => ?_) (fun q29 => ?_)
                · replace h := ite_t q29 h
                  refine x_c (pc' := 113) rfl rfl ?_
                  refine x_is (pc' := 114) (ls' := [(2, 64), (0, v7), (0, 0)]) rfl rfl rfl rfl ?_
                  refine x_al (pc' := 115) rfl rfl (by decide) rfl ?_
                  refine x_dupa (pc' := 116) rfl rfl ?_
                  refine x_gf (pc' := 117) (v := M28 64 14) rfl rfl rfl rfl rfl ?_
                  refine x_c (pc' := 118) rfl rfl ?_
                  refine x_ib (pc' := 119) (v := w32 ((M28 64 14) - 1)) rfl rfl rfl ?_
                  refine x_pf (pc' := 120) (M2 := up M28 64 14 (w32 ((M28 64 14) - 1))) rfl rfl rfl rfl ?_
                  refine x_il (pc' := 121) rfl rfl rfl ?_
                  exact x_zret rfl (by decide) h
                · replace h := ite_f q29 h
                  refine x_c (pc' := 111) rfl rfl ?_
                  refine x_goto (t' := 113) rfl rfl ?_
                  refine x_is (pc' := 114) (ls' := [(2, 64), (0, v7), (0, 1)]) rfl rfl rfl rfl ?_
                  refine x_al (pc' := 115) rfl rfl (by decide) rfl ?_
                  refine x_dupa (pc' := 116) rfl rfl ?_
                  refine x_gf (pc' := 117) (v := M28 64 14) rfl rfl rfl rfl rfl ?_
                  refine x_c (pc' := 118) rfl rfl ?_
                  refine x_ib (pc' := 119) (v := w32 ((M28 64 14) - 1)) rfl rfl rfl ?_
                  refine x_pf (pc' := 120) (M2 := up M28 64 14 (w32 ((M28 64 14) - 1))) rfl rfl rfl rfl ?_
                  refine x_il (pc' := 121) rfl rfl rfl ?_
                  exact x_zret rfl (by decide) h
          · replace h := ite_f q17 h
            refine x_al (pc' := 88) rfl rfl (by decide) rfl ?_
            obtain ⟨v31, M32, q30, h⟩ := h
            refine x_call (pc' := 89) (as := [(2, 64)]) (rest := []) rfl rfl rfl rfl rfl rfl q30 ?_
            refine x_ifeq (pc' := 90) (t' := 96) rfl rfl rfl (fun q33 => ?_) (fun q33 => ?_)
            · replace h := ite_t q33 h
              refine x_c (pc' := 97) rfl rfl ?_
              refine x_is (pc' := 98) (ls' := [(2, 64), (0, v7), (0, 0)]) rfl rfl rfl rfl ?_
              refine x_goto (t' := 114) rfl rfl ?_
              refine x_al (pc' := 115) rfl rfl (by decide) rfl ?_
              refine x_dupa (pc' := 116) rfl rfl ?_
              refine x_gf (pc' := 117) (v := M32 64 14) rfl rfl rfl rfl rfl ?_
              refine x_c (pc' := 118) rfl rfl ?_
              refine x_ib (pc' := 119) (v := w32 ((M32 64 14) - 1)) rfl rfl rfl ?_
              refine x_pf (pc' := 120) (M2 := up M32 64 14 (w32 ((M32 64 14) - 1))) rfl rfl rfl rfl ?_
              refine x_il (pc' := 121) rfl rfl rfl ?_
              exact x_zret rfl (by decide) h
            · replace h := ite_f q33 h
              refine x_al (pc' := 91) rfl rfl (by decide) rfl ?_
              refine x_c (pc' := 92) rfl rfl ?_
              obtain ⟨v35, M36, q34, h⟩ := h
              refine x_call (pc' := 93) (as := [(2, 64), (0, 17)]) (rest := []) rfl rfl rfl rfl rfl rfl q34 ?_
              refine x_ifeq (pc' := 94) (t' := 96) rfl rfl rfl (fun q37 => ?_) (fun q37 => ?_)
              · replace h := ite_t q37 h
                refine x_c (pc' := 97) rfl rfl ?_
                refine x_is (pc' := 98) (ls' := [(2, 64), (0, v7), (0, 0)]) rfl rfl rfl rfl ?_
                refine x_goto (t' := 114) rfl rfl ?_
                refine x_al (pc' := 115) rfl rfl (by decide) rfl ?_
                refine x_dupa (pc' := 116) rfl rfl ?_
                refine x_gf (pc' := 117) (v := M36 64 14) rfl rfl rfl rfl rfl ?_
                refine x_c (pc' := 118) rfl rfl ?_
                refine x_ib (pc' := 119) (v := w32 ((M36 64 14) - 1)) rfl rfl rfl ?_
                refine x_pf (pc' := 120) (M2 := up M36 64 14 (w32 ((M36 64 14) - 1))) rfl rfl rfl rfl ?_
                refine x_il (pc' := 121) rfl rfl rfl ?_
                exact x_zret rfl (by decide) h
              · replace h := ite_f q37 h
                refine x_c (pc' := 95) rfl rfl ?_
                refine x_goto (t' := 97) rfl rfl ?_
                refine x_is (pc' := 98) (ls' := [(2, 64), (0, v7), (0, 1)]) rfl rfl rfl rfl ?_
                refine x_goto (t' := 114) rfl rfl ?_
                refine x_al (pc' := 115) rfl rfl (by decide) rfl ?_
                refine x_dupa (pc' := 116) rfl rfl ?_
                refine x_gf (pc' := 117) (v := M36 64 14) rfl rfl rfl rfl rfl ?_
                refine x_c (pc' := 118) rfl rfl ?_
                refine x_ib (pc' := 119) (v := w32 ((M36 64 14) - 1)) rfl rfl rfl ?_
                refine x_pf (pc' := 120) (M2 := up M36 64 14 (w32 ((M36 64 14) - 1))) rfl rfl rfl rfl ?_
                refine x_il (pc' := 121) rfl rfl rfl ?_
                exact x_zret rfl (by decide) h
        · replace h := ite_f q13 h
          refine x_al (pc' := 72) rfl rfl (by decide) rfl ?_
          obtain ⟨v39, M40, q38, h⟩ := h
          refine x_call (pc' := 73) (as := [(2, 64)]) (rest := []) rfl rfl rfl rfl rfl rfl q38 ?_
          refine x_ifeq (pc' := 74) (t' := 80) rfl rfl rfl (fun q41 => ?_) (fun q41 => ?_)
          · replace h := ite_t q41 h
            refine x_c (pc' := 81) rfl rfl ?_
            refine x_is (pc' := 82) (ls' := [(2, 64), (0, v7), (0, 0)]) rfl rfl rfl rfl ?_
            refine x_goto (t' := 114) rfl rfl ?_
            refine x_al (pc' := 115) rfl rfl (by decide) rfl ?_
            refine x_dupa (pc' := 116) rfl rfl ?_
            refine x_gf (pc' := 117) (v := M40 64 14) rfl rfl rfl rfl rfl ?_
            refine x_c (pc' := 118) rfl rfl ?_
            refine x_ib (pc' := 119) (v := w32 ((M40 64 14) - 1)) rfl rfl rfl ?_
            refine x_pf (pc' := 120) (M2 := up M40 64 14 (w32 ((M40 64 14) - 1))) rfl rfl rfl rfl ?_
            refine x_il (pc' := 121) rfl rfl rfl ?_
            exact x_zret rfl (by decide) h
          · replace h := ite_f q41 h
            refine x_al (pc' := 75) rfl rfl (by decide) rfl ?_
            refine x_c (pc' := 76) rfl rfl ?_
            obtain ⟨v43, M44, q42, h⟩ := h
            refine x_call (pc' := 77) (as := [(2, 64), (0, 16)]) (rest := []) rfl rfl rfl rfl rfl rfl q42 ?_
            refine x_ifeq (pc' := 78) (t' := 80) rfl rfl rfl (fun q45 => ?_) (fun q45 => ?_)
            · replace h := ite_t q45 h
              refine x_c (pc' := 81) rfl rfl ?_
              refine x_is (pc' := 82) (ls' := [(2, 64), (0, v7), (0, 0)]) rfl rfl rfl rfl ?_
              refine x_goto (t' := 114) rfl rfl ?_
              refine x_al (pc' := 115) rfl rfl (by decide) rfl ?_
              refine x_dupa (pc' := 116) rfl rfl ?_
              refine x_gf (pc' := 117) (v := M44 64 14) rfl rfl rfl rfl rfl ?_
              refine x_c (pc' := 118) rfl rfl ?_
              refine x_ib (pc' := 119) (v := w32 ((M44 64 14) - 1)) rfl rfl rfl ?_
              refine x_pf (pc' := 120) (M2 := up M44 64 14 (w32 ((M44 64 14) - 1))) rfl rfl rfl rfl ?_
              refine x_il (pc' := 121) rfl rfl rfl ?_
              exact x_zret rfl (by decide) h
            · replace h := ite_f q45 h
              refine x_c (pc' := 79) rfl rfl ?_
              refine x_goto (t' := 81) rfl rfl ?_
              refine x_is (pc' := 82) (ls' := [(2, 64), (0, v7), (0, 1)]) rfl rfl rfl rfl ?_
              refine x_goto (t' := 114) rfl rfl ?_
              refine x_al (pc' := 115) rfl rfl (by decide) rfl ?_
              refine x_dupa (pc' := 116) rfl rfl ?_
              refine x_gf (pc' := 117) (v := M44 64 14) rfl rfl rfl rfl rfl ?_
              refine x_c (pc' := 118) rfl rfl ?_
              refine x_ib (pc' := 119) (v := w32 ((M44 64 14) - 1)) rfl rfl rfl ?_
              refine x_pf (pc' := 120) (M2 := up M44 64 14 (w32 ((M44 64 14) - 1))) rfl rfl rfl rfl ?_
              refine x_il (pc' := 121) rfl rfl rfl ?_
              exact x_zret rfl (by decide) h
      · replace h := ite_f q9 h
        refine x_c (pc' := 60) rfl rfl ?_
        exact x_zret rfl (by decide) h
    · replace h := ite_f q8 h
      refine x_al (pc' := 46) rfl rfl (by decide) rfl ?_
      refine x_dupa (pc' := 47) rfl rfl ?_
      refine x_gf (pc' := 48) (v := M 64 13) rfl rfl rfl rfl rfl ?_
      refine x_c (pc' := 49) rfl rfl ?_
      refine x_ib (pc' := 50) (v := w32 ((M 64 13) + 1)) rfl rfl rfl ?_
      refine x_pf (pc' := 51) (M2 := up M 64 13 (w32 ((M 64 13) + 1))) rfl rfl rfl rfl ?_
      refine x_al (pc' := 52) rfl rfl (by decide) rfl ?_
      refine x_il (pc' := 53) rfl rfl rfl ?_
      obtain ⟨v47, M48, q46, h⟩ := h
      refine x_call (pc' := 54) (as := [(2, 64), (0, v7)]) (rest := []) rfl rfl rfl rfl rfl rfl q46 ?_
      obtain ⟨q49, h⟩ := h
      exact x_zret rfl q49 h
  · replace h := ite_f q3 h
    refine x_c (pc' := 4) rfl rfl ?_
    refine x_is (pc' := 5) (ls' := [(2, 64), (0, 0), (3, 0)]) rfl rfl rfl rfl ?_
    refine x_c (pc' := 6) rfl rfl ?_
    refine x_is (pc' := 7) (ls' := [(2, 64), (0, 0), (0, 0)]) rfl rfl rfl rfl ?_
    exact h
theorem sg_M_isO_7 {d : Nat} {l1 : Int} {l2 : Int} {M : Mem} {r : Res} (h : (if 4 ≤ l2 then ∃ v3 M4, Cl d m_M_codes [(2, 64), (0, w32 (18 + l1))] M (some (0, v3), M4) ∧ (v3 = 0 ∨ v3 = 1) ∧ r = (some (0, v3), M4) else ∃ v7, Cl d m_M_isDigit [(2, 64)] M (some (0, v7), M) ∧ (if v7 = 0 then ∃ v10 M11, Cl d m_M_codes [(2, 64), (0, w32 (18 + l1))] M (some (0, v10), M11) ∧ (v10 = 0 ∨ v10 = 1) ∧ r = (some (0, v10), M11) else (0 ≤ M 64 13 ∧ M 64 13 < 120) ∧ at_M_isO_7 d (w32 ((w32 ((w32 (10 * l1)) + (M 68 (M 64 13)))) - 48)) (w32 (l2 + 1)) (up M 64 13 (w32 ((M 64 13) + 1))) r))) : at_M_isO_7 d l1 l2 M r := by
  unfold at_M_isO_7
  refine x_il (pc' := 8) rfl rfl rfl ?_
  refine x_c (pc' := 9) rfl rfl ?_
  refine x_icge (pc' := 10) (t' := 33) rfl rfl rfl (fun q1 => ?_) (fun q1 => ?_)
  · replace h := ite_t q1 h
    refine x_al (pc' := 34) rfl rfl (by decide) rfl ?_
    refine x_c (pc' := 35) rfl rfl ?_
    refine x_il (pc' := 36) rfl rfl rfl ?_
    refine x_ib (pc' := 37) (v := w32 (18 + l1)) rfl rfl rfl ?_
    obtain ⟨v3, M4, q2, h⟩ := h
    refine x_call (pc' := 38) (as := [(2, 64), (0, w32 (18 + l1))]) (rest := []) rfl rfl rfl rfl rfl rfl q2 ?_
    obtain ⟨q5, h⟩ := h
    exact x_zret rfl q5 h
  · replace h := ite_f q1 h
    refine x_al (pc' := 11) rfl rfl (by decide) rfl ?_
    obtain ⟨v7, q6, h⟩ := h
    refine x_call (pc' := 12) (as := [(2, 64)]) (rest := []) rfl rfl rfl rfl rfl rfl q6 ?_
    refine x_ifeq (pc' := 13) (t' := 33) rfl rfl rfl (fun q8 => ?_) (fun q8 => ?_)
    · replace h := ite_t q8 h
      refine x_al (pc' := 34) rfl rfl (by decide) rfl ?_
      refine x_c (pc' := 35) rfl rfl ?_
      refine x_il (pc' := 36) rfl rfl rfl ?_
      refine x_ib (pc' := 37) (v := w32 (18 + l1)) rfl rfl rfl ?_
      obtain ⟨v10, M11, q9, h⟩ := h
      refine x_call (pc' := 38) (as := [(2, 64), (0, w32 (18 + l1))]) (rest := []) rfl rfl rfl rfl rfl rfl q9 ?_
      obtain ⟨q12, h⟩ := h
      exact x_zret rfl q12 h
    · replace h := ite_f q8 h
      refine x_c (pc' := 14) rfl rfl ?_
      refine x_il (pc' := 15) rfl rfl rfl ?_
      refine x_ib (pc' := 16) (v := w32 (10 * l1)) rfl rfl rfl ?_
      refine x_al (pc' := 17) rfl rfl (by decide) rfl ?_
      refine x_gr (pc' := 18) (v := 68) rfl rfl rfl (by decide) rfl ?_
      refine x_al (pc' := 19) rfl rfl (by decide) rfl ?_
      refine x_gf (pc' := 20) (v := M 64 13) rfl rfl rfl rfl rfl ?_
      obtain ⟨q13, h⟩ := h
      refine x_ia (pc' := 21) 120 (v := M 68 (M 64 13)) rfl rfl rfl q13.1 q13.2 rfl ?_
      refine x_ib (pc' := 22) (v := w32 ((w32 (10 * l1)) + (M 68 (M 64 13)))) rfl rfl rfl ?_
      refine x_c (pc' := 23) rfl rfl ?_
      refine x_ib (pc' := 24) (v := w32 ((w32 ((w32 (10 * l1)) + (M 68 (M 64 13)))) - 48)) rfl rfl rfl ?_
      refine x_is (pc' := 25) (ls' := [(2, 64), (0, w32 ((w32 ((w32 (10 * l1)) + (M 68 (M 64 13)))) - 48)), (0, l2)]) rfl rfl rfl rfl ?_
      refine x_al (pc' := 26) rfl rfl (by decide) rfl ?_
      refine x_dupa (pc' := 27) rfl rfl ?_
      refine x_gf (pc' := 28) (v := M 64 13) rfl rfl rfl rfl rfl ?_
      refine x_c (pc' := 29) rfl rfl ?_
      refine x_ib (pc' := 30) (v := w32 ((M 64 13) + 1)) rfl rfl rfl ?_
      refine x_pf (pc' := 31) (M2 := up M 64 13 (w32 ((M 64 13) + 1))) rfl rfl rfl rfl ?_
      refine x_inc (pc' := 32) (ls' := [(2, 64), (0, w32 ((w32 ((w32 (10 * l1)) + (M 68 (M 64 13)))) - 48)), (0, w32 (l2 + 1))]) rfl rfl rfl rfl ?_
      refine x_goto (t' := 7) rfl rfl ?_
      exact h
def at_M_isP_5 (d : Nat) (w1 : AV) (M : Mem) (r : Res) : Prop := Ex sx0 d k_M_isP 3 5 [(2, 64), w1] [] M r
theorem sg_M_isP {d : Nat} {M : Mem} {r : Res} (h : ∃ v2 M3, Cl d m_M_isO [(2, 64)] M (some (0, v2), M3) ∧ (if ¬ v2 = 0 then at_M_isP_5 d (3, 0) M3 r else r = (some (0, 0), M3))) : Cl (d + 1) m_M_isP [(2, 64)] M r := by
  refine cl_of (c := k_M_isP) (mL := 2) (rz := 3) (rc := 7) (ls := [(2, 64), (3, 0)]) rfl rfl rfl ?_
  refine x_al (pc' := 1) rfl rfl (by decide) rfl ?_
  obtain ⟨v2, M3, q1, h⟩ := h
  refine x_call (pc' := 2) (as := [(2, 64)]) (rest := []) rfl rfl rfl rfl rfl rfl q1 ?_
  refine x_ifne (pc' := 3) (t' := 5) rfl rfl rfl (fun q4 => ?_) (fun q4 => ?_)
  · replace h := ite_t q4 h
    exact h
  · replace h := ite_f q4 h
    refine x_c (pc' := 4) rfl rfl ?_
    exact x_zret rfl (by decide) h
theorem sg_M_isP_5 {d : Nat} {w1 : AV} {M : Mem} {r : Res} (h : ∃ v2, Cl d m_M_sign [(2, 64)] M (some (0, v2), M) ∧ (if ¬ v2 = 42 then ∃ v5, Cl d m_M_sign [(2, 64)] M (some (0, v5), M) ∧ (if ¬ v5 = 47 then ∃ v8, Cl d m_M_sign [(2, 64)] M (some (0, v8), M) ∧ (if ¬ v8 = 37 then r = (some (0, 1), M) else ∃ v11 M12, Cl d m_M_isO [(2, 64)] (up M 64 13 (w32 ((M 64 13) + 1))) (some (0, v11), M12) ∧ (if ¬ v11 = 0 then ∃ v15 M16, Cl d m_M_codes [(2, 64), (0, 15)] M12 (some (0, v15), M16) ∧ at_M_isP_5 d (0, 15) M16 r else r = (some (0, 0), M12))) else ∃ v18 M19, Cl d m_M_isO [(2, 64)] (up M 64 13 (w32 ((M 64 13) + 1))) (some (0, v18), M19) ∧ (if ¬ v18 = 0 then ∃ v22 M23, Cl d m_M_codes [(2, 64), (0, 14)] M19 (some (0, v22), M23) ∧ at_M_isP_5 d (0, 14) M23 r else r = (some (0, 0), M19))) else ∃ v25 M26, Cl d m_M_isO [(2, 64)] (up M 64 13 (w32 ((M 64 13) + 1))) (some (0, v25), M26) ∧ (if ¬ v25 = 0 then ∃ v29 M30, Cl d m_M_codes [(2, 64), (0, 13)] M26 (some (0, v29), M30) ∧ at_M_isP_5 d (0, 13) M30 r else r = (some (0, 0), M26)))) : at_M_isP_5 d w1 M r := by
  unfold at_M_isP_5
  refine x_al (pc' := 6) rfl rfl (by decide) rfl ?_
  obtain ⟨v2, q1, h⟩ := h
  refine x_call (pc' := 7) (as := [(2, 64)]) (rest := []) rfl rfl rfl rfl rfl rfl q1 ?_
  refine x_c (pc' := 8) rfl rfl ?_
  refine x_icne (pc' := 9) (t' := 11) rfl rfl rfl (fun q3 => ?_) (fun q3 => ?_)
  · replace h := ite_t q3 h
    refine x_al (pc' := 12) rfl rfl (by decide) rfl ?_
    obtain ⟨v5, q4, h⟩ := h
    refine x_call (pc' := 13) (as := [(2, 64)]) (rest := []) rfl rfl rfl rfl rfl rfl q4 ?_
    refine x_c (pc' := 14) rfl rfl ?_
    refine x_icne (pc' := 15) (t' := 17) rfl rfl rfl (fun q6 => ?_) (fun q6 => ?_)
    · replace h := ite_t q6 h
      refine x_al (pc' := 18) rfl rfl (by decide) rfl ?_
      obtain ⟨v8, q7, h⟩ := h
      refine x_call (pc' := 19) (as := [(2, 64)]) (rest := []) rfl rfl rfl rfl rfl rfl q7 ?_
      refine x_c (pc' := 20) rfl rfl ?_
      refine x_icne (pc' := 21) (t' := 23) rfl rfl rfl (fun q9 => ?_) (fun q9 => ?_)
      · replace h := ite_t q9 h
        refine x_c (pc' := 24) rfl rfl ?_
        refine x_is (pc' := 25) (ls' := [(2, 64), (0, (-1))]) rfl rfl rfl rfl ?_
        refine x_il (pc' := 26) rfl rfl rfl ?_
        refine x_ifge (pc' := 27) (t' := 29) rfl rfl rfl (fun q => absurd q (by decide)) (fun _ => ?_)
        refine x_c (pc' := 28) rfl rfl ?_
        exact x_zret rfl (by decide) h
      · replace h := ite_f q9 h
        refine x_c (pc' := 22) rfl rfl ?_
        refine x_goto (t' := 24) rfl rfl ?_
        refine x_is (pc' := 25) (ls' := [(2, 64), (0, 15)]) rfl rfl rfl rfl ?_
        refine x_il (pc' := 26) rfl rfl rfl ?_
        refine x_ifge (pc' := 27) (t' := 29) rfl rfl rfl (fun _ => ?_) (fun q => absurd (by decide) q)
        refine x_al (pc' := 30) rfl rfl (by decide) rfl ?_
        refine x_dupa (pc' := 31) rfl rfl ?_
        refine x_gf (pc' := 32) (v := M 64 13) rfl rfl rfl rfl rfl ?_
        refine x_c (pc' := 33) rfl rfl ?_
        refine x_ib (pc' := 34) (v := w32 ((M 64 13) + 1)) rfl rfl rfl ?_
        refine x_pf (pc' := 35) (M2 := up M 64 13 (w32 ((M 64 13) + 1))) rfl rfl rfl rfl ?_
        refine x_al (pc' := 36) rfl rfl (by decide) rfl ?_
        obtain ⟨v11, M12, q10, h⟩ := h
        refine x_call (pc' := 37) (as := [(2, 64)]) (rest := []) rfl rfl rfl rfl rfl rfl q10 ?_
        refine x_ifne (pc' := 38) (t' := 40) rfl rfl rfl (fun q13 => ?_) (fun q13 => ?_)
        · replace h := ite_t q13 h
          refine x_al (pc' := 41) rfl rfl (by decide) rfl ?_
          refine x_il (pc' := 42) rfl rfl rfl ?_
          obtain ⟨v15, M16, q14, h⟩ := h
          refine x_call (pc' := 43) (as := [(2, 64), (0, 15)]) (rest := []) rfl rfl rfl rfl rfl rfl q14 ?_
          refine x_pop (pc' := 44) rfl rfl ?_
          refine x_goto (t' := 5) rfl rfl ?_
          exact h
        · replace h := ite_f q13 h
          refine x_c (pc' := 39) rfl rfl ?_
          exact x_zret rfl (by decide) h
    · replace h := ite_f q6 h
      refine x_c (pc' := 16) rfl rfl ?_
      refine x_goto (t' := 24) rfl rfl ?_
      refine x_is (pc' := 25) (ls' := [(2, 64), (0, 14)]) rfl rfl rfl rfl ?_
      refine x_il (pc' := 26) rfl rfl rfl ?_
      refine x_ifge (pc' := 27) (t' := 29) rfl rfl rfl (fun _ => ?_) (fun q => absurd (by decide) q)
      refine x_al (pc' := 30) rfl rfl (by decide) rfl ?_
      refine x_dupa (pc' := 31) rfl rfl ?_
      refine x_gf (pc' := 32) (v := M 64 13) rfl rfl rfl rfl rfl ?_
      refine x_c (pc' := 33) rfl rfl ?_
      refine x_ib (pc' := 34) (v := w32 ((M 64 13) + 1)) rfl rfl rfl ?_
      refine x_pf (pc' := 35) (M2 := up M 64 13 (w32 ((M 64 13) + 1))) rfl rfl rfl rfl ?_
      refine x_al (pc' := 36) rfl rfl (by decide) rfl ?_
      obtain ⟨v18, M19, q17, h⟩ := h
      refine x_call (pc' := 37) (as := [(2, 64)]) (rest := []) rfl rfl rfl rfl rfl rfl q17 ?_
      refine x_ifne (pc' := 38) (t' := 40) rfl rfl rfl (fun q20 => ?_) (fun q20 => ?_)
      · replace h := ite_t q20 h
        refine x_al (pc' := 41) rfl rfl (by decide) rfl ?_
        refine x_il (pc' := 42) rfl rfl rfl ?_
        obtain ⟨v22, M23, q21, h⟩ := h
        refine x_call (pc' := 43) (as := [(2, 64), (0, 14)]) (rest := []) rfl rfl rfl rfl rfl rfl q21 ?_
        refine x_pop (pc' := 44) rfl rfl ?_
        refine x_goto (t' := 5) rfl rfl ?_
        exact h
      · replace h := ite_f q20 h
        refine x_c (pc' := 39) rfl rfl ?_
        exact x_zret rfl (by decide) h
  · replace h := ite_f q3 h
    refine x_c (pc' := 10) rfl rfl ?_
    refine x_goto (t' := 24) rfl rfl ?_
    refine x_is (pc' := 25) (ls' := [(2, 64), (0, 13)]) rfl rfl rfl rfl ?_
    refine x_il (pc' := 26) rfl rfl rfl ?_
    refine x_ifge (pc' := 27) (t' := 29) rfl rfl rfl (fun _ => ?_) (fun q => absurd (by decide) q)
    refine x_al (pc' := 30) rfl rfl (by decide) rfl ?_
    refine x_dupa (pc' := 31) rfl rfl ?_
    refine x_gf (pc' := 32) (v := M 64 13) rfl rfl rfl rfl rfl ?_
    refine x_c (pc' := 33) rfl rfl ?_
    refine x_ib (pc' := 34) (v := w32 ((M 64 13) + 1)) rfl rfl rfl ?_
    refine x_pf (pc' := 35) (M2 := up M 64 13 (w32 ((M 64 13) + 1))) rfl rfl rfl rfl ?_
    refine x_al (pc' := 36) rfl rfl (by decide) rfl ?_
    obtain ⟨v25, M26, q24, h⟩ := h
    refine x_call (pc' := 37) (as := [(2, 64)]) (rest := []) rfl rfl rfl rfl rfl rfl q24 ?_
    refine x_ifne (pc' := 38) (t' := 40) rfl rfl rfl (fun q27 => ?_) (fun q27 => ?_)
    · replace h := ite_t q27 h
      refine x_al (pc' := 41) rfl rfl (by decide) rfl ?_
      refine x_il (pc' := 42) rfl rfl rfl ?_
      obtain ⟨v29, M30, q28, h⟩ := h
      refine x_call (pc' := 43) (as := [(2, 64), (0, 13)]) (rest := []) rfl rfl rfl rfl rfl rfl q28 ?_
      refine x_pop (pc' := 44) rfl rfl ?_
      refine x_goto (t' := 5) rfl rfl ?_
      exact h
    · replace h := ite_f q27 h
      refine x_c (pc' := 39) rfl rfl ?_
      exact x_zret rfl (by decide) h
def at_M_isS_5 (d : Nat) (w1 : AV) (M : Mem) (r : Res) : Prop := Ex sx0 d k_M_isS 3 5 [(2, 64), w1] [] M r
theorem sg_M_isS {d : Nat} {M : Mem} {r : Res} (h : ∃ v2 M3, Cl d m_M_isP [(2, 64)] M (some (0, v2), M3) ∧ (if ¬ v2 = 0 then at_M_isS_5 d (3, 0) M3 r else r = (some (0, 0), M3))) : Cl (d + 1) m_M_isS [(2, 64)] M r := by
  refine cl_of (c := k_M_isS) (mL := 2) (rz := 3) (rc := 7) (ls := [(2, 64), (3, 0)]) rfl rfl rfl ?_
  refine x_al (pc' := 1) rfl rfl (by decide) rfl ?_
  obtain ⟨v2, M3, q1, h⟩ := h
  refine x_call (pc' := 2) (as := [(2, 64)]) (rest := []) rfl rfl rfl rfl rfl rfl q1 ?_
  refine x_ifne (pc' := 3) (t' := 5) rfl rfl rfl (fun q4 => ?_) (fun q4 => ?_)
  · replace h := ite_t q4 h
    exact h
  · replace h := ite_f q4 h
    refine x_c (pc' := 4) rfl rfl ?_
    exact x_zret rfl (by decide) h
theorem sg_M_isS_5 {d : Nat} {w1 : AV} {M : Mem} {r : Res} (h : ∃ v2, Cl d m_M_sign [(2, 64)] M (some (0, v2), M) ∧ (if ¬ v2 = 43 then ∃ v5, Cl d m_M_sign [(2, 64)] M (some (0, v5), M) ∧ (if ¬ v5 = 45 then r = (some (0, 1), M) else ∃ v8 M9, Cl d m_M_isP [(2, 64)] (up M 64 13 (w32 ((M 64 13) + 1))) (some (0, v8), M9) ∧ (if ¬ v8 = 0 then ∃ v12 M13, Cl d m_M_codes [(2, 64), (0, 12)] M9 (some (0, v12), M13) ∧ at_M_isS_5 d (0, 12) M13 r else r = (some (0, 0), M9))) else ∃ v15 M16, Cl d m_M_isP [(2, 64)] (up M 64 13 (w32 ((M 64 13) + 1))) (some (0, v15), M16) ∧ (if ¬ v15 = 0 then ∃ v19 M20, Cl d m_M_codes [(2, 64), (0, 11)] M16 (some (0, v19), M20) ∧ at_M_isS_5 d (0, 11) M20 r else r = (some (0, 0), M16)))) : at_M_isS_5 d w1 M r := by
  unfold at_M_isS_5
  refine x_al (pc' := 6) rfl rfl (by decide) rfl ?_
  obtain ⟨v2, q1, h⟩ := h
  refine x_call (pc' := 7) (as := [(2, 64)]) (rest := []) rfl rfl rfl rfl rfl rfl q1 ?_
  refine x_c (pc' := 8) rfl rfl ?_
  refine x_icne (pc' := 9) (t' := 11) rfl rfl rfl (fun q3 => ?_) (fun q3 => ?_)
  · replace h := ite_t q3 h
    refine x_al (pc' := 12) rfl rfl (by decide) rfl ?_
    obtain ⟨v5, q4, h⟩ := h
    refine x_call (pc' := 13) (as := [(2, 64)]) (rest := []) rfl rfl rfl rfl rfl rfl q4 ?_
    refine x_c (pc' := 14) rfl rfl ?_
    refine x_icne (pc' := 15) (t' := 17) rfl rfl rfl (fun q6 => ?_) (fun q6 => ?_)
    · replace h := ite_t q6 h
      refine x_c (pc' := 18) rfl rfl ?_
      refine x_is (pc' := 19) (ls' := [(2, 64), (0, (-1))]) rfl rfl rfl rfl ?_
      refine x_il (pc' := 20) rfl rfl rfl ?_
      refine x_ifge (pc' := 21) (t' := 23) rfl rfl rfl (fun q => absurd q (by decide)) (fun _ => ?_)
      refine x_c (pc' := 22) rfl rfl ?_
      exact x_zret rfl (by decide) h
    · replace h := ite_f q6 h
      refine x_c (pc' := 16) rfl rfl ?_
      refine x_goto (t' := 18) rfl rfl ?_
      refine x_is (pc' := 19) (ls' := [(2, 64), (0, 12)]) rfl rfl rfl rfl ?_
      refine x_il (pc' := 20) rfl rfl rfl ?_
      refine x_ifge (pc' := 21) (t' := 23) rfl rfl rfl (fun _ => ?_) (fun q => absurd (by decide) q)
      refine x_al (pc' := 24) rfl rfl (by decide) rfl ?_
      refine x_dupa (pc' := 25) rfl rfl ?_
      refine x_gf (pc' := 26) (v := M 64 13) rfl rfl rfl rfl rfl ?_
      refine x_c (pc' := 27) rfl rfl ?_
      refine x_ib (pc' := 28) (v := w32 ((M 64 13) + 1)) rfl rfl rfl ?_
      refine x_pf (pc' := 29) (M2 := up M 64 13 (w32 ((M 64 13) + 1))) rfl rfl rfl rfl ?_
      refine x_al (pc' := 30) rfl rfl (by decide) rfl ?_
      obtain ⟨v8, M9, q7, h⟩ := h
      refine x_call (pc' := 31) (as := [(2, 64)]) (rest := []) rfl rfl rfl rfl rfl rfl q7 ?_
      refine x_ifne (pc' := 32) (t' := 34) rfl rfl rfl (fun q10 => ?_) (fun q10 => ?_)
      · replace h := ite_t q10 h
        refine x_al (pc' := 35) rfl rfl (by decide) rfl ?_
        refine x_il (pc' := 36) rfl rfl rfl ?_
        obtain ⟨v12, M13, q11, h⟩ := h
        refine x_call (pc' := 37) (as := [(2, 64), (0, 12)]) (rest := []) rfl rfl rfl rfl rfl rfl q11 ?_
        refine x_pop (pc' := 38) rfl rfl ?_
        refine x_goto (t' := 5) rfl rfl ?_
        exact h
      · replace h := ite_f q10 h
        refine x_c (pc' := 33) rfl rfl ?_
        exact x_zret rfl (by decide) h
  · replace h := ite_f q3 h
    refine x_c (pc' := 10) rfl rfl ?_
    refine x_goto (t' := 18) rfl rfl ?_
    refine x_is (pc' := 19) (ls' := [(2, 64), (0, 11)]) rfl rfl rfl rfl ?_
    refine x_il (pc' := 20) rfl rfl rfl ?_
    refine x_ifge (pc' := 21) (t' := 23) rfl rfl rfl (fun _ => ?_) (fun q => absurd (by decide) q)
    refine x_al (pc' := 24) rfl rfl (by decide) rfl ?_
    refine x_dupa (pc' := 25) rfl rfl ?_
    refine x_gf (pc' := 26) (v := M 64 13) rfl rfl rfl rfl rfl ?_
    refine x_c (pc' := 27) rfl rfl ?_
    refine x_ib (pc' := 28) (v := w32 ((M 64 13) + 1)) rfl rfl rfl ?_
    refine x_pf (pc' := 29) (M2 := up M 64 13 (w32 ((M 64 13) + 1))) rfl rfl rfl rfl ?_
    refine x_al (pc' := 30) rfl rfl (by decide) rfl ?_
    obtain ⟨v15, M16, q14, h⟩ := h
    refine x_call (pc' := 31) (as := [(2, 64)]) (rest := []) rfl rfl rfl rfl rfl rfl q14 ?_
    refine x_ifne (pc' := 32) (t' := 34) rfl rfl rfl (fun q17 => ?_) (fun q17 => ?_)
    · replace h := ite_t q17 h
      refine x_al (pc' := 35) rfl rfl (by decide) rfl ?_
      refine x_il (pc' := 36) rfl rfl rfl ?_
      obtain ⟨v19, M20, q18, h⟩ := h
      refine x_call (pc' := 37) (as := [(2, 64), (0, 11)]) (rest := []) rfl rfl rfl rfl rfl rfl q18 ?_
      refine x_pop (pc' := 38) rfl rfl ?_
      refine x_goto (t' := 5) rfl rfl ?_
      exact h
    · replace h := ite_f q17 h
      refine x_c (pc' := 33) rfl rfl ?_
      exact x_zret rfl (by decide) h
theorem sg_M_isB {d : Nat} {M : Mem} {r : Res} (h : ∃ v2 M3, Cl d m_M_isS [(2, 64)] M (some (0, v2), M3) ∧ (if ¬ v2 = 0 then ∃ v6, Cl d m_M_sign [(2, 64)] M3 (some (0, v6), M3) ∧ (if ¬ v6 = 60 then ∃ v9, Cl d m_M_sign [(2, 64)] M3 (some (0, v9), M3) ∧ (if ¬ v9 = 61 then ∃ v12, Cl d m_M_sign [(2, 64)] M3 (some (0, v12), M3) ∧ (if ¬ v12 = 62 then r = (some (0, 1), M3) else ∃ v15 M16, Cl d m_M_isS [(2, 64)] (up M3 64 13 (w32 ((M3 64 13) + 1))) (some (0, v15), M16) ∧ (if v15 = 0 then r = (some (0, 0), M16) else ∃ v19 M20, Cl d m_M_codes [(2, 64), (0, 10)] M16 (some (0, v19), M20) ∧ (if v19 = 0 then r = (some (0, 0), M20) else r = (some (0, 1), M20)))) else ∃ v23 M24, Cl d m_M_isS [(2, 64)] (up M3 64 13 (w32 ((M3 64 13) + 1))) (some (0, v23), M24) ∧ (if v23 = 0 then r = (some (0, 0), M24) else ∃ v27 M28, Cl d m_M_codes [(2, 64), (0, 9)] M24 (some (0, v27), M28) ∧ (if v27 = 0 then r = (some (0, 0), M28) else r = (some (0, 1), M28)))) else ∃ v31 M32, Cl d m_M_isS [(2, 64)] (up M3 64 13 (w32 ((M3 64 13) + 1))) (some (0, v31), M32) ∧ (if v31 = 0 then r = (some (0, 0), M32) else ∃ v35 M36, Cl d m_M_codes [(2, 64), (0, 8)] M32 (some (0, v35), M36) ∧ (if v35 = 0 then r = (some (0, 0), M36) else r = (some (0, 1), M36)))) else r = (some (0, 0), M3))) : Cl (d + 1) m_M_isB [(2, 64)] M r := by
  refine cl_of (c := k_M_isB) (mL := 2) (rz := 3) (rc := 7) (ls := [(2, 64), (3, 0)]) rfl rfl rfl ?_
  refine x_al (pc' := 1) rfl rfl (by decide) rfl ?_
  obtain ⟨v2, M3, q1, h⟩ := h
  refine x_call (pc' := 2) (as := [(2, 64)]) (rest := []) rfl rfl rfl rfl rfl rfl q1 ?_
  refine x_ifne (pc' := 3) (t' := 5) rfl rfl rfl (fun q4 => ?_) (fun q4 => ?_)
  · replace h := ite_t q4 h
    refine x_al (pc' := 6) rfl rfl (by decide) rfl ?_
    obtain ⟨v6, q5, h⟩ := h
    refine x_call (pc' := 7) (as := [(2, 64)]) (rest := []) rfl rfl rfl rfl rfl rfl q5 ?_
    refine x_c (pc' := 8) rfl rfl ?_
    refine x_icne (pc' := 9) (t' := 11) rfl rfl rfl (fun q7 => ?_) (fun q7 => ?_)
    · replace h := ite_t q7 h
      refine x_al (pc' := 12) rfl rfl (by decide) rfl ?_
      obtain ⟨v9, q8, h⟩ := h
      refine x_call (pc' := 13) (as := [(2, 64)]) (rest := []) rfl rfl rfl rfl rfl rfl q8 ?_
      refine x_c (pc' := 14) rfl rfl ?_
      refine x_icne (pc' := 15) (t' := 17) rfl rfl rfl (fun q10 => ?_) (fun q10 => ?_)
      · replace h := ite_t q10 h
        refine x_al (pc' := 18) rfl rfl (by decide) rfl ?_
        obtain ⟨v12, q11, h⟩ := h
        refine x_call (pc' := 19) (as := [(2, 64)]) (rest := []) rfl rfl rfl rfl rfl rfl q11 ?_
        refine x_c (pc' := 20) rfl rfl ?_
        refine x_icne (pc' := 21) (t' := 23) rfl rfl rfl (fun q13 => ?_) (fun q13 => ?_)
        · replace h := ite_t q13 h
          refine x_c (pc' := 24) rfl rfl ?_
          refine x_is (pc' := 25) (ls' := [(2, 64), (0, (-1))]) rfl rfl rfl rfl ?_
          refine x_il (pc' := 26) rfl rfl rfl ?_
          refine x_ifge (pc' := 27) (t' := 29) rfl rfl rfl (fun q => absurd q (by decide)) (fun _ => ?_)
          refine x_c (pc' := 28) rfl rfl ?_
          exact x_zret rfl (by decide) h
        · replace h := ite_f q13 h
          refine x_c (pc' := 22) rfl rfl ?_
          refine x_goto (t' := 24) rfl rfl ?_
          refine x_is (pc' := 25) (ls' := [(2, 64), (0, 10)]) rfl rfl rfl rfl ?_
          refine x_il (pc' := 26) rfl rfl rfl ?_
          refine x_ifge (pc' := 27) (t' := 29) rfl rfl rfl (fun _ => ?_) (fun q => absurd (by decide) q)
          refine x_al (pc' := 30) rfl rfl (by decide) rfl ?_
          refine x_dupa (pc' := 31) rfl rfl ?_
          refine x_gf (pc' := 32) (v := M3 64 13) rfl rfl rfl rfl rfl ?_
          refine x_c (pc' := 33) rfl rfl ?_
          refine x_ib (pc' := 34) (v := w32 ((M3 64 13) + 1)) rfl rfl rfl ?_
          refine x_pf (pc' := 35) (M2 := up M3 64 13 (w32 ((M3 64 13) + 1))) rfl rfl rfl rfl ?_
          refine x_al (pc' := 36) rfl rfl (by decide) rfl ?_
          obtain ⟨v15, M16, q14, h⟩ := h
          refine x_call (pc' := 37) (as := [(2, 64)]) (rest := []) rfl rfl rfl rfl rfl rfl q14 ?_
          refine x_ifeq (pc' := 38) (t' := 44) rfl rfl rfl (fun q17 => ?_) (fun q17 => ?_)
          · replace h := ite_t q17 h
            refine x_c (pc' := 45) rfl rfl ?_
            exact x_zret rfl (by decide) h
          · replace h := ite_f q17 h
            refine x_al (pc' := 39) rfl rfl (by decide) rfl ?_
            refine x_il (pc' := 40) rfl rfl rfl ?_
            obtain ⟨v19, M20, q18, h⟩ := h
            refine x_call (pc' := 41) (as := [(2, 64), (0, 10)]) (rest := []) rfl rfl rfl rfl rfl rfl q18 ?_
            refine x_ifeq (pc' := 42) (t' := 44) rfl rfl rfl (fun q21 => ?_) (fun q21 => ?_)
            · replace h := ite_t q21 h
              refine x_c (pc' := 45) rfl rfl ?_
              exact x_zret rfl (by decide) h
            · replace h := ite_f q21 h
              refine x_c (pc' := 43) rfl rfl ?_
              refine x_goto (t' := 45) rfl rfl ?_
              exact x_zret rfl (by decide) h
      · replace h := ite_f q10 h
        refine x_c (pc' := 16) rfl rfl ?_
        refine x_goto (t' := 24) rfl rfl ?_
        refine x_is (pc' := 25) (ls' := [(2, 64), (0, 9)]) rfl rfl rfl rfl ?_
        refine x_il (pc' := 26) rfl rfl rfl ?_
        refine x_ifge (pc' := 27) (t' := 29) rfl rfl rfl (fun _ => ?_) (fun q => absurd (by decide) q)
        refine x_al (pc' := 30) rfl rfl (by decide) rfl ?_
        refine x_dupa (pc' := 31) rfl rfl ?_
        refine x_gf (pc' := 32) (v := M3 64 13) rfl rfl rfl rfl rfl ?_
        refine x_c (pc' := 33) rfl rfl ?_
        refine x_ib (pc' := 34) (v := w32 ((M3 64 13) + 1)) rfl rfl rfl ?_
        refine x_pf (pc' := 35) (M2 := up M3 64 13 (w32 ((M3 64 13) + 1))) rfl rfl rfl rfl ?_
        refine x_al (pc' := 36) rfl rfl (by decide) rfl ?_
        obtain ⟨v23, M24, q22, h⟩ := h
        refine x_call (pc' := 37) (as := [(2, 64)]) (rest := []) rfl rfl rfl rfl rfl rfl q22 ?_
        refine x_ifeq (pc' := 38) (t' := 44) rfl rfl rfl (fun q25 => ?_) (fun q25 => ?_)
        · replace h := ite_t q25 h
          refine x_c (pc' := 45) rfl rfl ?_
          exact x_zret rfl (by decide) h
        · replace h := ite_f q25 h
          refine x_al (pc' := 39) rfl rfl (by decide) rfl ?_
          refine x_il (pc' := 40) rfl rfl rfl ?_
          obtain ⟨v27, M28, q26, h⟩ := h
          refine x_call (pc' := 41) (as := [(2, 64), (0, 9)]) (rest := []) rfl rfl rfl rfl rfl rfl q26 ?_
          refine x_ifeq (pc' := 42) (t' := 44) rfl rfl rfl (fun q29 => ?_) (fun q29 => ?_)
          · replace h := ite_t q29 h
            refine x_c (pc' := 45) rfl rfl ?_
            exact x_zret rfl (by decide) h
          · replace h := ite_f q29 h
            refine x_c (pc' := 43) rfl rfl ?_
            refine x_goto (t' := 45) rfl rfl ?_
            exact x_zret rfl (by decide) h
    · replace h := ite_f q7 h
      refine x_c (pc' := 10) rfl rfl ?_
      refine x_goto (t' := 24) rfl rfl ?_
      refine x_is (pc' := 25) (ls' := [(2, 64), (0, 8)]) rfl rfl rfl rfl ?_
      refine x_il (pc' := 26) rfl rfl rfl ?_
      refine x_ifge (pc' := 27) (t' := 29) rfl rfl rfl (fun _ => ?_) (fun q => absurd (by decide) q)
      refine x_al (pc' := 30) rfl rfl (by decide) rfl ?_
      refine x_dupa (pc' := 31) rfl rfl ?_
      refine x_gf (pc' := 32) (v := M3 64 13) rfl rfl rfl rfl rfl ?_
      refine x_c (pc' := 33) rfl rfl ?_
      refine x_ib (pc' := 34) (v := w32 ((M3 64 13) + 1)) rfl rfl rfl ?_
      refine x_pf (pc' := 35) (M2 := up M3 64 13 (w32 ((M3 64 13) + 1))) rfl rfl rfl rfl ?_
      refine x_al (pc' := 36) rfl rfl (by decide) rfl ?_
      obtain ⟨v31, M32, q30, h⟩ := h
      refine x_call (pc' := 37) (as := [(2, 64)]) (rest := []) rfl rfl rfl rfl rfl rfl q30 ?_
      refine x_ifeq (pc' := 38) (t' := 44) rfl rfl rfl (fun q33 => ?_) (fun q33 => ?_)
      · replace h := ite_t q33 h
        refine x_c (pc' := 45) rfl rfl ?_
        exact x_zret rfl (by decide) h
      · replace h := ite_f q33 h
        refine x_al (pc' := 39) rfl rfl (by decide) rfl ?_
        refine x_il (pc' := 40) rfl rfl rfl ?_
        obtain ⟨v35, M36, q34, h⟩ := h
        refine x_call (pc' := 41) (as := [(2, 64), (0, 8)]) (rest := []) rfl rfl rfl rfl rfl rfl q34 ?_
        refine x_ifeq (pc' := 42) (t' := 44) rfl rfl rfl (fun q37 => ?_) (fun q37 => ?_)
        · replace h := ite_t q37 h
          refine x_c (pc' := 45) rfl rfl ?_
          exact x_zret rfl (by decide) h
        · replace h := ite_f q37 h
          refine x_c (pc' := 43) rfl rfl ?_
          refine x_goto (t' := 45) rfl rfl ?_
          exact x_zret rfl (by decide) h
  · replace h := ite_f q4 h
    refine x_c (pc' := 4) rfl rfl ?_
    exact x_zret rfl (by decide) h
def at_M_isA_5 (d : Nat)  (M : Mem) (r : Res) : Prop := Ex sx0 d k_M_isA 3 5 [(2, 64)] [] M r
theorem sg_M_isA {d : Nat} {M : Mem} {r : Res} (h : ∃ v2 M3, Cl d m_M_isB [(2, 64)] M (some (0, v2), M3) ∧ (if ¬ v2 = 0 then at_M_isA_5 d  M3 r else r = (some (0, 0), M3))) : Cl (d + 1) m_M_isA [(2, 64)] M r := by
  refine cl_of (c := k_M_isA) (mL := 1) (rz := 3) (rc := 7) (ls := [(2, 64)]) rfl rfl rfl ?_
  refine x_al (pc' := 1) rfl rfl (by decide) rfl ?_
  obtain ⟨v2, M3, q1, h⟩ := h
  refine x_call (pc' := 2) (as := [(2, 64)]) (rest := []) rfl rfl rfl rfl rfl rfl q1 ?_
  refine x_ifne (pc' := 3) (t' := 5) rfl rfl rfl (fun q4 => ?_) (fun q4 => ?_)
  · replace h := ite_t q4 h
    exact h
  · replace h := ite_f q4 h
    refine x_c (pc' := 4) rfl rfl ?_
    exact x_zret rfl (by decide) h
theorem sg_M_isA_5 {d : Nat}  {M : Mem} {r : Res} (h : ∃ v2 M3, Cl d m_M_is [(2, 64), (0, 38)] M (some (0, v2), M3) ∧ (if v2 = 0 then r = (some (0, 1), M3) else ∃ v6 M7, Cl d m_M_isB [(2, 64)] M3 (some (0, v6), M7) ∧ (if ¬ v6 = 0 then ∃ v10 M11, Cl d m_M_codes [(2, 64), (0, 7)] M7 (some (0, v10), M11) ∧ at_M_isA_5 d  M11 r else r = (some (0, 0), M7)))) : at_M_isA_5 d  M r := by
  unfold at_M_isA_5
  refine x_al (pc' := 6) rfl rfl (by decide) rfl ?_
  refine x_c (pc' := 7) rfl rfl ?_
  obtain ⟨v2, M3, q1, h⟩ := h
  refine x_call (pc' := 8) (as := [(2, 64), (0, 38)]) (rest := []) rfl rfl rfl rfl rfl rfl q1 ?_
  refine x_ifeq (pc' := 9) (t' := 19) rfl rfl rfl (fun q4 => ?_) (fun q4 => ?_)
  · replace h := ite_t q4 h
    refine x_c (pc' := 20) rfl rfl ?_
    exact x_zret rfl (by decide) h
  · replace h := ite_f q4 h
    refine x_al (pc' := 10) rfl rfl (by decide) rfl ?_
    obtain ⟨v6, M7, q5, h⟩ := h
    refine x_call (pc' := 11) (as := [(2, 64)]) (rest := []) rfl rfl rfl rfl rfl rfl q5 ?_
    refine x_ifne (pc' := 12) (t' := 14) rfl rfl rfl (fun q8 => ?_) (fun q8 => ?_)
    · replace h := ite_t q8 h
      refine x_al (pc' := 15) rfl rfl (by decide) rfl ?_
      refine x_c (pc' := 16) rfl rfl ?_
      obtain ⟨v10, M11, q9, h⟩ := h
      refine x_call (pc' := 17) (as := [(2, 64), (0, 7)]) (rest := []) rfl rfl rfl rfl rfl rfl q9 ?_
      refine x_pop (pc' := 18) rfl rfl ?_
      refine x_goto (t' := 5) rfl rfl ?_
      exact h
    · replace h := ite_f q8 h
      refine x_c (pc' := 13) rfl rfl ?_
      exact x_zret rfl (by decide) h
def at_M_isE_5 (d : Nat)  (M : Mem) (r : Res) : Prop := Ex sx0 d k_M_isE 3 5 [(2, 64)] [] M r
theorem sg_M_isE {d : Nat} {M : Mem} {r : Res} (h : ∃ v2 M3, Cl d m_M_isA [(2, 64)] M (some (0, v2), M3) ∧ (if ¬ v2 = 0 then at_M_isE_5 d  M3 r else r = (some (0, 0), M3))) : Cl (d + 1) m_M_isE [(2, 64)] M r := by
  refine cl_of (c := k_M_isE) (mL := 1) (rz := 3) (rc := 7) (ls := [(2, 64)]) rfl rfl rfl ?_
  refine x_al (pc' := 1) rfl rfl (by decide) rfl ?_
  obtain ⟨v2, M3, q1, h⟩ := h
  refine x_call (pc' := 2) (as := [(2, 64)]) (rest := []) rfl rfl rfl rfl rfl rfl q1 ?_
  refine x_ifne (pc' := 3) (t' := 5) rfl rfl rfl (fun q4 => ?_) (fun q4 => ?_)
  · replace h := ite_t q4 h
    exact h
  · replace h := ite_f q4 h
    refine x_c (pc' := 4) rfl rfl ?_
    exact x_zret rfl (by decide) h
theorem sg_M_isE_5 {d : Nat}  {M : Mem} {r : Res} (h : ∃ v2 M3, Cl d m_M_is [(2, 64), (0, 124)] M (some (0, v2), M3) ∧ (if v2 = 0 then r = (some (0, 1), M3) else ∃ v6 M7, Cl d m_M_isA [(2, 64)] M3 (some (0, v6), M7) ∧ (if ¬ v6 = 0 then ∃ v10 M11, Cl d m_M_codes [(2, 64), (0, 6)] M7 (some (0, v10), M11) ∧ at_M_isE_5 d  M11 r else r = (some (0, 0), M7)))) : at_M_isE_5 d  M r := by
  unfold at_M_isE_5
  refine x_al (pc' := 6) rfl rfl (by decide) rfl ?_
  refine x_c (pc' := 7) rfl rfl ?_
  obtain ⟨v2, M3, q1, h⟩ := h
  refine x_call (pc' := 8) (as := [(2, 64), (0, 124)]) (rest := []) rfl rfl rfl rfl rfl rfl q1 ?_
  refine x_ifeq (pc' := 9) (t' := 19) rfl rfl rfl (fun q4 => ?_) (fun q4 => ?_)
  · replace h := ite_t q4 h
    refine x_c (pc' := 20) rfl rfl ?_
    exact x_zret rfl (by decide) h
  · replace h := ite_f q4 h
    refine x_al (pc' := 10) rfl rfl (by decide) rfl ?_
    obtain ⟨v6, M7, q5, h⟩ := h
    refine x_call (pc' := 11) (as := [(2, 64)]) (rest := []) rfl rfl rfl rfl rfl rfl q5 ?_
    refine x_ifne (pc' := 12) (t' := 14) rfl rfl rfl (fun q8 => ?_) (fun q8 => ?_)
    · replace h := ite_t q8 h
      refine x_al (pc' := 15) rfl rfl (by decide) rfl ?_
      refine x_c (pc' := 16) rfl rfl ?_
      obtain ⟨v10, M11, q9, h⟩ := h
      refine x_call (pc' := 17) (as := [(2, 64), (0, 6)]) (rest := []) rfl rfl rfl rfl rfl rfl q9 ?_
      refine x_pop (pc' := 18) rfl rfl ?_
      refine x_goto (t' := 5) rfl rfl ?_
      exact h
    · replace h := ite_f q8 h
      refine x_c (pc' := 13) rfl rfl ?_
      exact x_zret rfl (by decide) h
theorem sg_M_isLine {d : Nat} {M : Mem} {r : Res} (h : (0 ≤ M 64 16 ∧ M 64 16 < 61) ∧ ∃ v3 M4, Cl d m_M_isE [(2, 64)] (up M 73 (M 64 16) (M 64 15)) (some (0, v3), M4) ∧ (if ¬ v3 = 0 then (0 ≤ M4 64 16 ∧ M4 64 16 < 61) ∧ (0 ≤ M4 64 16 ∧ M4 64 16 < 61) ∧ ∃ v9 M10, Cl d m_M_is [(2, 64), (0, 63)] (up M4 74 (M4 64 16) (M4 73 (M4 64 16))) (some (0, v9), M10) ∧ (if v9 = 0 then (0 ≤ M10 64 16 ∧ M10 64 16 < 61) ∧ r = (some (0, 1), up (up M10 64 16 (w32 ((M10 64 16) + 1))) 75 (M10 64 16) ((up M10 64 16 (w32 ((M10 64 16) + 1))) 64 15)) else (0 ≤ M10 64 16 ∧ M10 64 16 < 61) ∧ ∃ v15 M16, Cl d m_M_isE [(2, 64)] (up M10 74 (M10 64 16) (M10 64 15)) (some (0, v15), M16) ∧ (if ¬ v15 = 0 then (0 ≤ M16 64 16 ∧ M16 64 16 < 61) ∧ r = (some (0, 1), up (up M16 64 16 (w32 ((M16 64 16) + 1))) 75 (M16 64 16) ((up M16 64 16 (w32 ((M16 64 16) + 1))) 64 15)) else r = (some (0, 0), M16))) else r = (some (0, 0), M4))) : Cl (d + 1) m_M_isLine [(2, 64)] M r := by
  refine cl_of (c := k_M_isLine) (mL := 1) (rz := 3) (rc := 7) (ls := [(2, 64)]) rfl rfl rfl ?_
  refine x_al (pc' := 1) rfl rfl (by decide) rfl ?_
  refine x_gr (pc' := 2) (v := 73) rfl rfl rfl (by decide) rfl ?_
  refine x_al (pc' := 3) rfl rfl (by decide) rfl ?_
  refine x_gf (pc' := 4) (v := M 64 16) rfl rfl rfl rfl rfl ?_
  refine x_al (pc' := 5) rfl rfl (by decide) rfl ?_
  refine x_gf (pc' := 6) (v := M 64 15) rfl rfl rfl rfl rfl ?_
  obtain ⟨q1, h⟩ := h
  refine x_ist (pc' := 7) 61 (M2 := up M 73 (M 64 16) (M 64 15)) rfl rfl rfl q1.1 q1.2 rfl ?_
  refine x_al (pc' := 8) rfl rfl (by decide) rfl ?_
  obtain ⟨v3, M4, q2, h⟩ := h
  refine x_call (pc' := 9) (as := [(2, 64)]) (rest := []) rfl rfl rfl rfl rfl rfl q2 ?_
  refine x_ifne (pc' := 10) (t' := 12) rfl rfl rfl (fun q5 => ?_) (fun q5 => ?_)
  · replace h := ite_t q5 h
    refine x_al (pc' := 13) rfl rfl (by decide) rfl ?_
    refine x_gr (pc' := 14) (v := 74) rfl rfl rfl (by decide) rfl ?_
    refine x_al (pc' := 15) rfl rfl (by decide) rfl ?_
    refine x_gf (pc' := 16) (v := M4 64 16) rfl rfl rfl rfl rfl ?_
    refine x_al (pc' := 17) rfl rfl (by decide) rfl ?_
    refine x_gr (pc' := 18) (v := 73) rfl rfl rfl (by decide) rfl ?_
    refine x_al (pc' := 19) rfl rfl (by decide) rfl ?_
    refine x_gf (pc' := 20) (v := M4 64 16) rfl rfl rfl rfl rfl ?_
    obtain ⟨q6, h⟩ := h
    refine x_ia (pc' := 21) 61 (v := M4 73 (M4 64 16)) rfl rfl rfl q6.1 q6.2 rfl ?_
    obtain ⟨q7, h⟩ := h
    refine x_ist (pc' := 22) 61 (M2 := up M4 74 (M4 64 16) (M4 73 (M4 64 16))) rfl rfl rfl q7.1 q7.2 rfl ?_
    refine x_al (pc' := 23) rfl rfl (by decide) rfl ?_
    refine x_c (pc' := 24) rfl rfl ?_
    obtain ⟨v9, M10, q8, h⟩ := h
    refine x_call (pc' := 25) (as := [(2, 64), (0, 63)]) (rest := []) rfl rfl rfl rfl rfl rfl q8 ?_
    refine x_ifeq (pc' := 26) (t' := 38) rfl rfl rfl (fun q11 => ?_) (fun q11 => ?_)
    · replace h := ite_t q11 h
      refine x_al (pc' := 39) rfl rfl (by decide) rfl ?_
      refine x_gr (pc' := 40) (v := 75) rfl rfl rfl (by decide) rfl ?_
      refine x_al (pc' := 41) rfl rfl (by decide) rfl ?_
      refine x_dupa (pc' := 42) rfl rfl ?_
      refine x_gf (pc' := 43) (v := M10 64 16) rfl rfl rfl rfl rfl ?_
      refine x_dupx1 (pc' := 44) rfl rfl ?_
      refine x_c (pc' := 45) rfl rfl ?_
      refine x_ib (pc' := 46) (v := w32 ((M10 64 16) + 1)) rfl rfl rfl ?_
      refine x_pf (pc' := 47) (M2 := up M10 64 16 (w32 ((M10 64 16) + 1))) rfl rfl rfl rfl ?_
      refine x_al (pc' := 48) rfl rfl (by decide) rfl ?_
      refine x_gf (pc' := 49) (v := (up M10 64 16 (w32 ((M10 64 16) + 1))) 64 15) rfl rfl rfl rfl rfl ?_
      obtain ⟨q12, h⟩ := h
      refine x_ist (pc' := 50) 61 (M2 := up (up M10 64 16 (w32 ((M10 64 16) + 1))) 75 (M10 64 16) ((up M10 64 16 (w32 ((M10 64 16) + 1))) 64 15)) rfl rfl rfl q12.1 q12.2 rfl ?_
      refine x_c (pc' := 51) rfl rfl ?_
      exact x_zret rfl (by decide) h
    · replace h := ite_f q11 h
      refine x_al (pc' := 27) rfl rfl (by decide) rfl ?_
      refine x_gr (pc' := 28) (v := 74) rfl rfl rfl (by decide) rfl ?_
      refine x_al (pc' := 29) rfl rfl (by decide) rfl ?_
      refine x_gf (pc' := 30) (v := M10 64 16) rfl rfl rfl rfl rfl ?_
      refine x_al (pc' := 31) rfl rfl (by decide) rfl ?_
      refine x_gf (pc' := 32) (v := M10 64 15) rfl rfl rfl rfl rfl ?_
      obtain ⟨q13, h⟩ := h
      refine x_ist (pc' := 33) 61 (M2 := up M10 74 (M10 64 16) (M10 64 15)) rfl rfl rfl q13.1 q13.2 rfl ?_
      refine x_al (pc' := 34) rfl rfl (by decide) rfl ?_
      obtain ⟨v15, M16, q14, h⟩ := h
      refine x_call (pc' := 35) (as := [(2, 64)]) (rest := []) rfl rfl rfl rfl rfl rfl q14 ?_
      refine x_ifne (pc' := 36) (t' := 38) rfl rfl rfl (fun q17 => ?_) (fun q17 => ?_)
      · replace h := ite_t q17 h
        refine x_al (pc' := 39) rfl rfl (by decide) rfl ?_
        refine x_gr (pc' := 40) (v := 75) rfl rfl rfl (by decide) rfl ?_
        refine x_al (pc' := 41) rfl rfl (by decide) rfl ?_
        refine x_dupa (pc' := 42) rfl rfl ?_
        refine x_gf (pc' := 43) (v := M16 64 16) rfl rfl rfl rfl rfl ?_
        refine x_dupx1 (pc' := 44) rfl rfl ?_
        refine x_c (pc' := 45) rfl rfl ?_
        refine x_ib (pc' := 46) (v := w32 ((M16 64 16) + 1)) rfl rfl rfl ?_
        refine x_pf (pc' := 47) (M2 := up M16 64 16 (w32 ((M16 64 16) + 1))) rfl rfl rfl rfl ?_
        refine x_al (pc' := 48) rfl rfl (by decide) rfl ?_
        refine x_gf (pc' := 49) (v := (up M16 64 16 (w32 ((M16 64 16) + 1))) 64 15) rfl rfl rfl rfl rfl ?_
        obtain ⟨q18, h⟩ := h
        refine x_ist (pc' := 50) 61 (M2 := up (up M16 64 16 (w32 ((M16 64 16) + 1))) 75 (M16 64 16) ((up M16 64 16 (w32 ((M16 64 16) + 1))) 64 15)) rfl rfl rfl q18.1 q18.2 rfl ?_
        refine x_c (pc' := 51) rfl rfl ?_
        exact x_zret rfl (by decide) h
      · replace h := ite_f q17 h
        refine x_c (pc' := 37) rfl rfl ?_
        exact x_zret rfl (by decide) h
  · replace h := ite_f q5 h
    refine x_c (pc' := 11) rfl rfl ?_
    exact x_zret rfl (by decide) h
def at_M_law_15 (d : Nat) (l1 : Int) (w2 : AV) (w3 : AV) (M : Mem) (r : Res) : Prop := Ex sx0 d k_M_law 1 15 [(2, 64), (0, l1), w2, w3] [] M r
def at_M_law_55 (d : Nat) (w1 : AV) (w2 : AV) (l3 : Int) (M : Mem) (r : Res) : Prop := Ex sx0 d k_M_law 1 55 [(2, 64), w1, w2, (0, l3)] [] M r
def at_M_law_87 (d : Nat) (w1 : AV) (w2 : AV) (l3 : Int) (M : Mem) (r : Res) : Prop := Ex sx0 d k_M_law 1 87 [(2, 64), w1, w2, (0, l3)] [] M r
theorem sg_M_law {d : Nat} {M : Mem} {r : Res} (h : ∃ v2 M3, Cl d m_M_isLine [(2, 64)] (up (up (up (up M 64 13 0) 64 14 0) 64 15 0) 64 16 0) (some (0, v2), M3) ∧ at_M_law_15 d v2 (3, 0) (3, 0) M3 r) : Cl (d + 1) m_M_law [(2, 64)] M r := by
  refine cl_of (c := k_M_law) (mL := 4) (rz := 1) (rc := 7) (ls := [(2, 64), (3, 0), (3, 0), (3, 0)]) rfl rfl rfl ?_
  refine x_al (pc' := 1) rfl rfl (by decide) rfl ?_
  refine x_c (pc' := 2) rfl rfl ?_
  refine x_pf (pc' := 3) (M2 := up M 64 13 0) rfl rfl rfl rfl ?_
  refine x_al (pc' := 4) rfl rfl (by decide) rfl ?_
  refine x_c (pc' := 5) rfl rfl ?_
  refine x_pf (pc' := 6) (M2 := up (up M 64 13 0) 64 14 0) rfl rfl rfl rfl ?_
  refine x_al (pc' := 7) rfl rfl (by decide) rfl ?_
  refine x_c (pc' := 8) rfl rfl ?_
  refine x_pf (pc' := 9) (M2 := up (up (up M 64 13 0) 64 14 0) 64 15 0) rfl rfl rfl rfl ?_
  refine x_al (pc' := 10) rfl rfl (by decide) rfl ?_
  refine x_c (pc' := 11) rfl rfl ?_
  refine x_pf (pc' := 12) (M2 := up (up (up (up M 64 13 0) 64 14 0) 64 15 0) 64 16 0) rfl rfl rfl rfl ?_
  refine x_al (pc' := 13) rfl rfl (by decide) rfl ?_
  obtain ⟨v2, M3, q1, h⟩ := h
  refine x_call (pc' := 14) (as := [(2, 64)]) (rest := []) rfl rfl rfl rfl rfl rfl q1 ?_
  refine x_is (pc' := 15) (ls' := [(2, 64), (0, v2), (3, 0), (3, 0)]) rfl rfl rfl rfl ?_
  exact h
theorem sg_M_law_15 {d : Nat} {l1 : Int} {w2 : AV} {w3 : AV} {M : Mem} {r : Res} (h : (if l1 = 0 then (if l1 = 0 then r = (some (0, w32 ((-100) - ((up M 64 5 0) 64 13))), up M 64 5 0) else (if ¬ M 64 13 = M 64 5 then r = (some (0, w32 ((-100) - ((up M 64 5 0) 64 13))), up M 64 5 0) else at_M_law_55 d (0, l1) (0, 1) 0 (up (up (up M 64 5 0) 64 7 1) 64 8 ((up (up M 64 5 0) 64 7 1) 64 16)) r)) else ∃ v5 M6, Cl d m_M_is [(2, 64), (0, 59)] M (some (0, v5), M6) ∧ (if v5 = 0 then (if l1 = 0 then r = (some (0, w32 ((-100) - ((up M6 64 5 0) 64 13))), up M6 64 5 0) else (if ¬ M6 64 13 = M6 64 5 then r = (some (0, w32 ((-100) - ((up M6 64 5 0) 64 13))), up M6 64 5 0) else at_M_law_55 d (0, l1) (0, 1) 0 (up (up (up M6 64 5 0) 64 7 1) 64 8 ((up (up M6 64 5 0) 64 7 1) 64 16)) r)) else ∃ v11 M12, Cl d m_M_isLine [(2, 64)] M6 (some (0, v11), M12) ∧ at_M_law_15 d v11 w2 w3 M12 r))) : at_M_law_15 d l1 w2 w3 M r := by
  unfold at_M_law_15
  refine x_il (pc' := 16) rfl rfl rfl ?_
  refine x_ifeq (pc' := 17) (t' := 25) rfl rfl rfl (fun q1 => ?_) (fun q1 => ?_)
  · replace h := ite_t q1 h
    refine x_il (pc' := 26) rfl rfl rfl ?_
    refine x_ifeq (pc' := 27) (t' := 34) rfl rfl rfl (fun q2 => ?_) (fun q2 => ?_)
    · replace h := ite_t q2 h
      refine x_c (pc' := 35) rfl rfl ?_
      refine x_is (pc' := 36) (ls' := [(2, 64), (0, l1), (0, 0), w3]) rfl rfl rfl rfl ?_
      refine x_al (pc' := 37) rfl rfl (by decide) rfl ?_
      refine x_c (pc' := 38) rfl rfl ?_
      refine x_pf (pc' := 39) (M2 := up M 64 5 0) rfl rfl rfl rfl ?_
      refine x_il (pc' := 40) rfl rfl rfl ?_
      refine x_ifne (pc' := 41) (t' := 46) rfl rfl rfl (fun q => absurd q (by decide)) (fun _ => ?_)
      refine x_c (pc' := 42) rfl rfl ?_
      refine x_al (pc' := 43) rfl rfl (by decide) rfl ?_
      refine x_gf (pc' := 44) (v := (up M 64 5 0) 64 13) rfl rfl rfl rfl rfl ?_
      refine x_ib (pc' := 45) (v := w32 ((-100) - ((up M 64 5 0) 64 13))) rfl rfl rfl ?_
      exact x_iret rfl h
    · replace h := ite_f q2 h
      refine x_al (pc' := 28) rfl rfl (by decide) rfl ?_
      refine x_gf (pc' := 29) (v := M 64 13) rfl rfl rfl rfl rfl ?_
      refine x_al (pc' := 30) rfl rfl (by decide) rfl ?_
      refine x_gf (pc' := 31) (v := M 64 5) rfl rfl rfl rfl rfl ?_
      refine x_icne (pc' := 32) (t' := 34) rfl rfl rfl (fun q3 => ?_) (fun q3 => ?_)
      · replace h := ite_t q3 h
        refine x_c (pc' := 35) rfl rfl ?_
        refine x_is (pc' := 36) (ls' := [(2, 64), (0, l1), (0, 0), w3]) rfl rfl rfl rfl ?_
        refine x_al (pc' := 37) rfl rfl (by decide) rfl ?_
        refine x_c (pc' := 38) rfl rfl ?_
        refine x_pf (pc' := 39) (M2 := up M 64 5 0) rfl rfl rfl rfl ?_
        refine x_il (pc' := 40) rfl rfl rfl ?_
        refine x_ifne (pc' := 41) (t' := 46) rfl rfl rfl (fun q => absurd q (by decide)) (fun _ => ?_)
        refine x_c (pc' := 42) rfl rfl ?_
        refine x_al (pc' := 43) rfl rfl (by decide) rfl ?_
        refine x_gf (pc' := 44) (v := (up M 64 5 0) 64 13) rfl rfl rfl rfl rfl ?_
        refine x_ib (pc' := 45) (v := w32 ((-100) - ((up M 64 5 0) 64 13))) rfl rfl rfl ?_
        exact x_iret rfl h
      · replace h := ite_f q3 h
        refine x_c (pc' := 33) rfl rfl ?_
        refine x_goto (t' := 35) rfl rfl ?_
        refine x_is (pc' := 36) (ls' := [(2, 64), (0, l1), (0, 1), w3]) rfl rfl rfl rfl ?_
        refine x_al (pc' := 37) rfl rfl (by decide) rfl ?_
        refine x_c (pc' := 38) rfl rfl ?_
        refine x_pf (pc' := 39) (M2 := up M 64 5 0) rfl rfl rfl rfl ?_
        refine x_il (pc' := 40) rfl rfl rfl ?_
        refine x_ifne (pc' := 41) (t' := 46) rfl rfl rfl (fun _ => ?_) (fun q => absurd (by decide) q)
        refine x_al (pc' := 47) rfl rfl (by decide) rfl ?_
        refine x_c (pc' := 48) rfl rfl ?_
        refine x_pz (pc' := 49) (M2 := up (up M 64 5 0) 64 7 1) rfl rfl rfl (by decide) rfl ?_
        refine x_al (pc' := 50) rfl rfl (by decide) rfl ?_
        refine x_al (pc' := 51) rfl rfl (by decide) rfl ?_
        refine x_gf (pc' := 52) (v := (up (up M 64 5 0) 64 7 1) 64 16) rfl rfl rfl rfl rfl ?_
        refine x_pf (pc' := 53) (M2 := up (up (up M 64 5 0) 64 7 1) 64 8 ((up (up M 64 5 0) 64 7 1) 64 16)) rfl rfl rfl rfl ?_
        refine x_c (pc' := 54) rfl rfl ?_
        refine x_is (pc' := 55) (ls' := [(2, 64), (0, l1), (0, 1), (0, 0)]) rfl rfl rfl rfl ?_
        exact h
  · replace h := ite_f q1 h
    refine x_al (pc' := 18) rfl rfl (by decide) rfl ?_
    refine x_c (pc' := 19) rfl rfl ?_
    obtain ⟨v5, M6, q4, h⟩ := h
    refine x_call (pc' := 20) (as := [(2, 64), (0, 59)]) (rest := []) rfl rfl rfl rfl rfl rfl q4 ?_
    refine x_ifeq (pc' := 21) (t' := 25) rfl rfl rfl (fun q7 => ?_) (fun q7 => ?_)
    · replace h := ite_t q7 h
      refine x_il (pc' := 26) rfl rfl rfl ?_
      refine x_ifeq (pc' := 27) (t' := 34) rfl rfl rfl (fun q8 => ?_) (fun q8 => ?_)
      · replace h := ite_t q8 h
        refine x_c (pc' := 35) rfl rfl ?_
        refine x_is (pc' := 36) (ls' := [(2, 64), (0, l1), (0, 0), w3]) rfl rfl rfl rfl ?_
        refine x_al (pc' := 37) rfl rfl (by decide) rfl ?_
        refine x_c (pc' := 38) rfl rfl ?_
        refine x_pf (pc' := 39) (M2 := up M6 64 5 0) rfl rfl rfl rfl ?_
        refine x_il (pc' := 40) rfl rfl rfl ?_
        refine x_ifne (pc' := 41) (t' := 46) rfl rfl rfl (fun q => absurd q (by decide)) (fun _ => ?_)
        refine x_c (pc' := 42) rfl rfl ?_
        refine x_al (pc' := 43) rfl rfl (by decide) rfl ?_
        refine x_gf (pc' := 44) (v := (up M6 64 5 0) 64 13) rfl rfl rfl rfl rfl ?_
        refine x_ib (pc' := 45) (v := w32 ((-100) - ((up M6 64 5 0) 64 13))) rfl rfl rfl ?_
        exact x_iret rfl h
      · replace h := ite_f q8 h
        refine x_al (pc' := 28) rfl rfl (by decide) rfl ?_
        refine x_gf (pc' := 29) (v := M6 64 13) rfl rfl rfl rfl rfl ?_
        refine x_al (pc' := 30) rfl rfl (by decide) rfl ?_
        refine x_gf (pc' := 31) (v := M6 64 5) rfl rfl rfl rfl rfl ?_
        refine x_icne (pc' := 32) (t' := 34) rfl rfl rfl (fun q9 => ?_) (fun q9 => ?_)
        · replace h := ite_t q9 h
          refine x_c (pc' := 35) rfl rfl ?_
          refine x_is (pc' := 36) (ls' := [(2, 64), (0, l1), (0, 0), w3]) rfl rfl rfl rfl ?_
          refine x_al (pc' := 37) rfl rfl (by decide) rfl ?_
          refine x_c (pc' := 38) rfl rfl ?_
          refine x_pf (pc' := 39) (M2 := up M6 64 5 0) rfl rfl rfl rfl ?_
          refine x_il (pc' := 40) rfl rfl rfl ?_
          refine x_ifne (pc' := 41) (t' := 46) rfl rfl rfl (fun q => absurd q (by decide)) (fun _ => ?_)
          refine x_c (pc' := 42) rfl rfl ?_
          refine x_al (pc' := 43) rfl rfl (by decide) rfl ?_
          refine x_gf (pc' := 44) (v := (up M6 64 5 0) 64 13) rfl rfl rfl rfl rfl ?_
          refine x_ib (pc' := 45) (v := w32 ((-100) - ((up M6 64 5 0) 64 13))) rfl rfl rfl ?_
          exact x_iret rfl h
        · replace h := ite_f q9 h
          refine x_c (pc' := 33) rfl rfl ?_
          refine x_goto (t' := 35) rfl rfl ?_
          refine x_is (pc' := 36) (ls' := [(2, 64), (0, l1), (0, 1), w3]) rfl rfl rfl rfl ?_
          refine x_al (pc' := 37) rfl rfl (by decide) rfl ?_
          refine x_c (pc' := 38) rfl rfl ?_
          refine x_pf (pc' := 39) (M2 := up M6 64 5 0) rfl rfl rfl rfl ?_
          refine x_il (pc' := 40) rfl rfl rfl ?_
          refine x_ifne (pc' := 41) (t' := 46) rfl rfl rfl (fun _ => ?_) (fun q => absurd (by decide) q)
          refine x_al (pc' := 47) rfl rfl (by decide) rfl ?_
          refine x_c (pc' := 48) rfl rfl ?_
          refine x_pz (pc' := 49) (M2 := up (up M6 64 5 0) 64 7 1) rfl rfl rfl (by decide) rfl ?_
          refine x_al (pc' := 50) rfl rfl (by decide) rfl ?_
          refine x_al (pc' := 51) rfl rfl (by decide) rfl ?_
          refine x_gf (pc' := 52) (v := (up (up M6 64 5 0) 64 7 1) 64 16) rfl rfl rfl rfl rfl ?_
          refine x_pf (pc' := 53) (M2 := up (up (up M6 64 5 0) 64 7 1) 64 8 ((up (up M6 64 5 0) 64 7 1) 64 16)) rfl rfl rfl rfl ?_
          refine x_c (pc' := 54) rfl rfl ?_
          refine x_is (pc' := 55) (ls' := [(2, 64), (0, l1), (0, 1), (0, 0)]) rfl rfl rfl rfl ?_
          exact h
    · replace h := ite_f q7 h
      refine x_al (pc' := 22) rfl rfl (by decide) rfl ?_
      obtain ⟨v11, M12, q10, h⟩ := h
      refine x_call (pc' := 23) (as := [(2, 64)]) (rest := []) rfl rfl rfl rfl rfl rfl q10 ?_
      refine x_is (pc' := 24) (ls' := [(2, 64), (0, v11), w2, w3]) rfl rfl rfl rfl ?_
      refine x_goto (t' := 15) rfl rfl ?_
      exact h
theorem sg_M_law_55 {d : Nat} {w1 : AV} {w2 : AV} {l3 : Int} {M : Mem} {r : Res} (hw2 : ¬ w2.1 = 1) (h : (if M 64 8 ≤ l3 then at_M_law_87 d w1 w2 0 M r else (0 ≤ l3 ∧ l3 < 61) ∧ (0 ≤ l3 ∧ l3 < 60) ∧ (0 ≤ l3 ∧ l3 < 61) ∧ (0 ≤ l3 ∧ l3 < 60) ∧ (0 ≤ l3 ∧ l3 < 61) ∧ (0 ≤ l3 ∧ l3 < 60) ∧ at_M_law_55 d w1 w2 (w32 (l3 + 1)) (up (up (up M 69 l3 (M 73 l3)) 70 l3 ((up M 69 l3 (M 73 l3)) 74 l3)) 71 l3 ((up (up M 69 l3 (M 73 l3)) 70 l3 ((up M 69 l3 (M 73 l3)) 74 l3)) 75 l3)) r)) : at_M_law_55 d w1 w2 l3 M r := by
  unfold at_M_law_55
  refine x_il (pc' := 56) rfl rfl rfl ?_
  refine x_al (pc' := 57) rfl rfl (by decide) rfl ?_
  refine x_gf (pc' := 58) (v := M 64 8) rfl rfl rfl rfl rfl ?_
  refine x_icge (pc' := 59) (t' := 85) rfl rfl rfl (fun q1 => ?_) (fun q1 => ?_)
  · replace h := ite_t q1 h
    refine x_c (pc' := 86) rfl rfl ?_
    refine x_is (pc' := 87) (ls' := [(2, 64), w1, w2, (0, 0)]) rfl rfl (setL_nw (i := 2) rfl hw2) rfl ?_
    exact h
  · replace h := ite_f q1 h
    refine x_al (pc' := 60) rfl rfl (by decide) rfl ?_
    refine x_gr (pc' := 61) (v := 69) rfl rfl rfl (by decide) rfl ?_
    refine x_il (pc' := 62) rfl rfl rfl ?_
    refine x_al (pc' := 63) rfl rfl (by decide) rfl ?_
    refine x_gr (pc' := 64) (v := 73) rfl rfl rfl (by decide) rfl ?_
    refine x_il (pc' := 65) rfl rfl rfl ?_
    obtain ⟨q2, h⟩ := h
    refine x_ia (pc' := 66) 61 (v := M 73 l3) rfl rfl rfl q2.1 q2.2 rfl ?_
    obtain ⟨q3, h⟩ := h
    refine x_ist (pc' := 67) 60 (M2 := up M 69 l3 (M 73 l3)) rfl rfl rfl q3.1 q3.2 rfl ?_
    refine x_al (pc' := 68) rfl rfl (by decide) rfl ?_
    refine x_gr (pc' := 69) (v := 70) rfl rfl rfl (by decide) rfl ?_
    refine x_il (pc' := 70) rfl rfl rfl ?_
    refine x_al (pc' := 71) rfl rfl (by decide) rfl ?_
    refine x_gr (pc' := 72) (v := 74) rfl rfl rfl (by decide) rfl ?_
    refine x_il (pc' := 73) rfl rfl rfl ?_
    obtain ⟨q4, h⟩ := h
    refine x_ia (pc' := 74) 61 (v := (up M 69 l3 (M 73 l3)) 74 l3) rfl rfl rfl q4.1 q4.2 rfl ?_
    obtain ⟨q5, h⟩ := h
    refine x_ist (pc' := 75) 60 (M2 := up (up M 69 l3 (M 73 l3)) 70 l3 ((up M 69 l3 (M 73 l3)) 74 l3)) rfl rfl rfl q5.1 q5.2 rfl ?_
    refine x_al (pc' := 76) rfl rfl (by decide) rfl ?_
    refine x_gr (pc' := 77) (v := 71) rfl rfl rfl (by decide) rfl ?_
    refine x_il (pc' := 78) rfl rfl rfl ?_
    refine x_al (pc' := 79) rfl rfl (by decide) rfl ?_
    refine x_gr (pc' := 80) (v := 75) rfl rfl rfl (by decide) rfl ?_
    refine x_il (pc' := 81) rfl rfl rfl ?_
    obtain ⟨q6, h⟩ := h
    refine x_ia (pc' := 82) 61 (v := (up (up M 69 l3 (M 73 l3)) 70 l3 ((up M 69 l3 (M 73 l3)) 74 l3)) 75 l3) rfl rfl rfl q6.1 q6.2 rfl ?_
    obtain ⟨q7, h⟩ := h
    refine x_ist (pc' := 83) 60 (M2 := up (up (up M 69 l3 (M 73 l3)) 70 l3 ((up M 69 l3 (M 73 l3)) 74 l3)) 71 l3 ((up (up M 69 l3 (M 73 l3)) 70 l3 ((up M 69 l3 (M 73 l3)) 74 l3)) 75 l3)) rfl rfl rfl q7.1 q7.2 rfl ?_
    refine x_inc (pc' := 84) (ls' := [(2, 64), w1, w2, (0, w32 (l3 + 1))]) rfl rfl (setL_nw (i := 2) rfl hw2) rfl ?_
    refine x_goto (t' := 55) rfl rfl ?_
    exact h
theorem sg_M_law_87 {d : Nat} {w1 : AV} {w2 : AV} {l3 : Int} {M : Mem} {r : Res} (hw2 : ¬ w2.1 = 1) (h : (if M 64 15 ≤ l3 then r = (some (0, 1), M) else (0 ≤ l3 ∧ l3 < 200) ∧ (0 ≤ l3 ∧ l3 < 200) ∧ at_M_law_87 d w1 w2 (w32 (l3 + 1)) (up M 72 l3 (M 76 l3)) r)) : at_M_law_87 d w1 w2 l3 M r := by
  unfold at_M_law_87
  refine x_il (pc' := 88) rfl rfl rfl ?_
  refine x_al (pc' := 89) rfl rfl (by decide) rfl ?_
  refine x_gf (pc' := 90) (v := M 64 15) rfl rfl rfl rfl rfl ?_
  refine x_icge (pc' := 91) (t' := 101) rfl rfl rfl (fun q1 => ?_) (fun q1 => ?_)
  · replace h := ite_t q1 h
    refine x_c (pc' := 102) rfl rfl ?_
    exact x_iret rfl h
  · replace h := ite_f q1 h
    refine x_al (pc' := 92) rfl rfl (by decide) rfl ?_
    refine x_gr (pc' := 93) (v := 72) rfl rfl rfl (by decide) rfl ?_
    refine x_il (pc' := 94) rfl rfl rfl ?_
    refine x_al (pc' := 95) rfl rfl (by decide) rfl ?_
    refine x_gr (pc' := 96) (v := 76) rfl rfl rfl (by decide) rfl ?_
    refine x_il (pc' := 97) rfl rfl rfl ?_
    obtain ⟨q2, h⟩ := h
    refine x_ia (pc' := 98) 200 (v := M 76 l3) rfl rfl rfl q2.1 q2.2 rfl ?_
    obtain ⟨q3, h⟩ := h
    refine x_ist (pc' := 99) 200 (M2 := up M 72 l3 (M 76 l3)) rfl rfl rfl q3.1 q3.2 rfl ?_
    refine x_inc (pc' := 100) (ls' := [(2, 64), w1, w2, (0, w32 (l3 + 1))]) rfl rfl (setL_nw (i := 2) rfl hw2) rfl ?_
    refine x_goto (t' := 87) rfl rfl ?_
    exact h
theorem sg_M_both {d : Nat} {p1 p2 p3 : Int} {M : Mem} {r : Res} (h : (if p1 = 6 then (if ¬ p2 = 0 then r = (some (0, 1), M) else (if p3 = 0 then r = (some (0, 0), M) else r = (some (0, 1), M))) else (if p1 = 7 then (if p2 = 0 then r = (some (0, 0), M) else (if p3 = 0 then r = (some (0, 0), M) else r = (some (0, 1), M))) else (if p1 = 8 then (if p3 ≤ p2 then r = (some (0, 0), M) else r = (some (0, 1), M)) else (if p1 = 9 then (if ¬ p2 = p3 then r = (some (0, 0), M) else r = (some (0, 1), M)) else (if p1 = 10 then (if p2 ≤ p3 then r = (some (0, 0), M) else r = (some (0, 1), M)) else (if p1 = 11 then r = (some (0, w32 (p2 + p3)), M) else (if p1 = 12 then r = (some (0, w32 (p2 - p3)), M) else (if p1 = 13 then r = (some (0, w32 (p2 * p3)), M) else (if p1 = 14 then (if ¬ p3 = 0 then (¬ p3 = 0) ∧ r = (some (0, w32 (Int.tdiv p2 p3)), M) else r = (some (0, 0), M)) else (if ¬ p3 = 0 then (¬ p3 = 0) ∧ r = (some (0, w32 (Int.tmod p2 p3)), M) else r = (some (0, 0), M)))))))))))) : Cl (d + 1) m_M_both [(0, p1), (0, p2), (0, p3)] M r := by
  refine cl_of (c := k_M_both) (mL := 3) (rz := 1) (rc := 99) (ls := [(0, p1), (0, p2), (0, p3)]) rfl rfl rfl ?_
  refine x_il (pc' := 1) rfl rfl rfl ?_
  by_cases q1 : p1 = 6
  · replace h := ite_t q1 h
    refine x_tswv (t' := 2) 6 rfl q1 rfl rfl ?_
    refine x_il (pc' := 3) rfl rfl rfl ?_
    refine x_ifne (pc' := 4) (t' := 6) rfl rfl rfl (fun q2 => ?_) (fun q2 => ?_)
    · replace h := ite_t q2 h
      refine x_c (pc' := 7) rfl rfl ?_
      refine x_goto (t' := 9) rfl rfl ?_
      exact x_iret rfl h
    · replace h := ite_f q2 h
      refine x_il (pc' := 5) rfl rfl rfl ?_
      refine x_ifeq (pc' := 6) (t' := 8) rfl rfl rfl (fun q3 => ?_) (fun q3 => ?_)
      · replace h := ite_t q3 h
        refine x_c (pc' := 9) rfl rfl ?_
        exact x_iret rfl h
      · replace h := ite_f q3 h
        refine x_c (pc' := 7) rfl rfl ?_
        refine x_goto (t' := 9) rfl rfl ?_
        exact x_iret rfl h
  replace h := ite_f q1 h
  by_cases q4 : p1 = 7
  · replace h := ite_t q4 h
    refine x_tswv (t' := 10) 7 rfl q4 rfl rfl ?_
    refine x_il (pc' := 11) rfl rfl rfl ?_
    refine x_ifeq (pc' := 12) (t' := 16) rfl rfl rfl (fun q5 => ?_) (fun q5 => ?_)
    · replace h := ite_t q5 h
      refine x_c (pc' := 17) rfl rfl ?_
      exact x_iret rfl h
    · replace h := ite_f q5 h
      refine x_il (pc' := 13) rfl rfl rfl ?_
      refine x_ifeq (pc' := 14) (t' := 16) rfl rfl rfl (fun q6 => ?_) (fun q6 => ?_)
      · replace h := ite_t q6 h
        refine x_c (pc' := 17) rfl rfl ?_
        exact x_iret rfl h
      · replace h := ite_f q6 h
        refine x_c (pc' := 15) rfl rfl ?_
        refine x_goto (t' := 17) rfl rfl ?_
        exact x_iret rfl h
  replace h := ite_f q4 h
  by_cases q7 : p1 = 8
  · replace h := ite_t q7 h
    refine x_tswv (t' := 18) 8 rfl q7 rfl rfl ?_
    refine x_il (pc' := 19) rfl rfl rfl ?_
    refine x_il (pc' := 20) rfl rfl rfl ?_
    refine x_icge (pc' := 21) (t' := 23) rfl rfl rfl (fun q8 => ?_) (fun q8 => ?_)
    · replace h := ite_t q8 h
      refine x_c (pc' := 24) rfl rfl ?_
      exact x_iret rfl h
    · replace h := ite_f q8 h
      refine x_c (pc' := 22) rfl rfl ?_
      refine x_goto (t' := 24) rfl rfl ?_
      exact x_iret rfl h
  replace h := ite_f q7 h
  by_cases q9 : p1 = 9
  · replace h := ite_t q9 h
    refine x_tswv (t' := 25) 9 rfl q9 rfl rfl ?_
    refine x_il (pc' := 26) rfl rfl rfl ?_
    refine x_il (pc' := 27) rfl rfl rfl ?_
    refine x_icne (pc' := 28) (t' := 30) rfl rfl rfl (fun q10 => ?_) (fun q10 => ?_)
    · replace h := ite_t q10 h
      refine x_c (pc' := 31) rfl rfl ?_
      exact x_iret rfl h
    · replace h := ite_f q10 h
      refine x_c (pc' := 29) rfl rfl ?_
      refine x_goto (t' := 31) rfl rfl ?_
      exact x_iret rfl h
  replace h := ite_f q9 h
  by_cases q11 : p1 = 10
  · replace h := ite_t q11 h
    refine x_tswv (t' := 32) 10 rfl q11 rfl rfl ?_
    refine x_il (pc' := 33) rfl rfl rfl ?_
    refine x_il (pc' := 34) rfl rfl rfl ?_
    refine x_icle (pc' := 35) (t' := 37) rfl rfl rfl (fun q12 => ?_) (fun q12 => ?_)
    · replace h := ite_t q12 h
      refine x_c (pc' := 38) rfl rfl ?_
      exact x_iret rfl h
    · replace h := ite_f q12 h
      refine x_c (pc' := 36) rfl rfl ?_
      refine x_goto (t' := 38) rfl rfl ?_
      exact x_iret rfl h
  replace h := ite_f q11 h
  by_cases q13 : p1 = 11
  · replace h := ite_t q13 h
    refine x_tswv (t' := 39) 11 rfl q13 rfl rfl ?_
    refine x_il (pc' := 40) rfl rfl rfl ?_
    refine x_il (pc' := 41) rfl rfl rfl ?_
    refine x_ib (pc' := 42) (v := w32 (p2 + p3)) rfl rfl rfl ?_
    exact x_iret rfl h
  replace h := ite_f q13 h
  by_cases q14 : p1 = 12
  · replace h := ite_t q14 h
    refine x_tswv (t' := 43) 12 rfl q14 rfl rfl ?_
    refine x_il (pc' := 44) rfl rfl rfl ?_
    refine x_il (pc' := 45) rfl rfl rfl ?_
    refine x_ib (pc' := 46) (v := w32 (p2 - p3)) rfl rfl rfl ?_
    exact x_iret rfl h
  replace h := ite_f q14 h
  by_cases q15 : p1 = 13
  · replace h := ite_t q15 h
    refine x_tswv (t' := 47) 13 rfl q15 rfl rfl ?_
    refine x_il (pc' := 48) rfl rfl rfl ?_
    refine x_il (pc' := 49) rfl rfl rfl ?_
    refine x_ib (pc' := 50) (v := w32 (p2 * p3)) rfl rfl rfl ?_
    exact x_iret rfl h
  replace h := ite_f q15 h
  by_cases q16 : p1 = 14
  · replace h := ite_t q16 h
    refine x_tswv (t' := 51) 14 rfl q16 rfl rfl ?_
    refine x_il (pc' := 52) rfl rfl rfl ?_
    refine x_ifne (pc' := 53) (t' := 55) rfl rfl rfl (fun q17 => ?_) (fun q17 => ?_)
    · replace h := ite_t q17 h
      refine x_il (pc' := 56) rfl rfl rfl ?_
      refine x_il (pc' := 57) rfl rfl rfl ?_
      obtain ⟨q18, h⟩ := h
      refine x_ib (pc' := 58) (v := w32 (Int.tdiv p2 p3)) rfl (show ibin 3 p2 p3 = some (w32 (Int.tdiv p2 p3)) from if_neg q18) rfl ?_
      exact x_iret rfl h
    · replace h := ite_f q17 h
      refine x_c (pc' := 54) rfl rfl ?_
      refine x_goto (t' := 58) rfl rfl ?_
      exact x_iret rfl h
  replace h := ite_f q16 h
  refine x_tswd (t' := 59) rfl (show p1 < 6 ∨ 6 + ((9 : Nat) : Int) ≤ p1 by omega) rfl ?_
  refine x_il (pc' := 60) rfl rfl rfl ?_
  refine x_ifne (pc' := 61) (t' := 63) rfl rfl rfl (fun q19 => ?_) (fun q19 => ?_)
  · replace h := ite_t q19 h
    refine x_il (pc' := 64) rfl rfl rfl ?_
    refine x_il (pc' := 65) rfl rfl rfl ?_
    obtain ⟨q20, h⟩ := h
    refine x_ib (pc' := 66) (v := w32 (Int.tmod p2 p3)) rfl (show ibin 4 p2 p3 = some (w32 (Int.tmod p2 p3)) from if_neg q20) rfl ?_
    exact x_iret rfl h
  · replace h := ite_f q19 h
    refine x_c (pc' := 62) rfl rfl ?_
    refine x_goto (t' := 66) rfl rfl ?_
    exact x_iret rfl h
def at_M_worked_4 (d : Nat) (w1 : AV) (l2 : Int) (l3 : Int) (l4 : Int) (l5 : Int) (l6 : Int) (l7 : Int) (l8 : Int) (w9 : AV) (M : Mem) (r : Res) : Prop := Ex sx0 d k_M_worked 1 4 [(2, 64), w1, (0, l2), (0, l3), (0, l4), (0, l5), (0, l6), (0, l7), (0, l8), w9] [] M r
theorem sg_M_worked {d : Nat} {p1 p2 p3 p4 p5 p6 : Int} {M : Mem} {r : Res} (h : at_M_worked_4 d (0, p1) p2 p3 p4 p5 p6 0 p1 (3, 0) M r) : Cl (d + 1) m_M_worked [(2, 64), (0, p1), (0, p2), (0, p3), (0, p4), (0, p5), (0, p6)] M r := by
  refine cl_of (c := k_M_worked) (mL := 10) (rz := 1) (rc := 7) (ls := [(2, 64), (0, p1), (0, p2), (0, p3), (0, p4), (0, p5), (0, p6), (3, 0), (3, 0), (3, 0)]) rfl rfl rfl ?_
  refine x_c (pc' := 1) rfl rfl ?_
  refine x_is (pc' := 2) (ls' := [(2, 64), (0, p1), (0, p2), (0, p3), (0, p4), (0, p5), (0, p6), (0, 0), (3, 0), (3, 0)]) rfl rfl rfl rfl ?_
  refine x_il (pc' := 3) rfl rfl rfl ?_
  refine x_is (pc' := 4) (ls' := [(2, 64), (0, p1), (0, p2), (0, p3), (0, p4), (0, p5), (0, p6), (0, 0), (0, p1), (3, 0)]) rfl rfl rfl rfl ?_
  exact h
theorem sg_M_worked_4 {d : Nat} {w1 : AV} {l2 : Int} {l3 : Int} {l4 : Int} {l5 : Int} {l6 : Int} {l7 : Int} {l8 : Int} {w9 : AV} {M : Mem} {r : Res} (h : (if l2 ≤ l8 then r = (some (0, M 77 0), M) else (0 ≤ l8 ∧ l8 < 200) ∧ (if 18 ≤ M 72 l8 then (if M 72 l8 < 18 then (if ¬ M 72 l8 = 0 then (if ¬ M 72 l8 = 1 then (if ¬ M 72 l8 = 2 then (if ¬ M 72 l8 = 3 then (if ¬ M 72 l8 = 4 then (0 ≤ l7 ∧ l7 < 200) ∧ at_M_worked_4 d w1 l2 l3 l4 l5 l6 (w32 (l7 + 1)) (w32 (l8 + 1)) (0, M 72 l8) (up M 77 l7 (M 64 4)) r else ∃ v12, Cl d m_M_maySame [(0, l4), (0, l5)] M (some (0, v12), M) ∧ (if v12 = 0 then (0 ≤ l7 ∧ l7 < 200) ∧ at_M_worked_4 d w1 l2 l3 l4 l5 l6 (w32 (l7 + 1)) (w32 (l8 + 1)) (0, M 72 l8) (up M 77 l7 0) r else (0 ≤ l7 ∧ l7 < 200) ∧ at_M_worked_4 d w1 l2 l3 l4 l5 l6 (w32 (l7 + 1)) (w32 (l8 + 1)) (0, M 72 l8) (up M 77 l7 1) r)) else (0 ≤ l7 ∧ l7 < 200) ∧ at_M_worked_4 d w1 l2 l3 l4 l5 l6 (w32 (l7 + 1)) (w32 (l8 + 1)) (0, M 72 l8) (up M 77 l7 l6) r) else (0 ≤ l7 ∧ l7 < 200) ∧ at_M_worked_4 d w1 l2 l3 l4 l5 l6 (w32 (l7 + 1)) (w32 (l8 + 1)) (0, M 72 l8) (up M 77 l7 l5) r) else (0 ≤ l7 ∧ l7 < 200) ∧ at_M_worked_4 d w1 l2 l3 l4 l5 l6 (w32 (l7 + 1)) (w32 (l8 + 1)) (0, M 72 l8) (up M 77 l7 l4) r) else (0 ≤ l7 ∧ l7 < 200) ∧ at_M_worked_4 d w1 l2 l3 l4 l5 l6 (w32 (l7 + 1)) (w32 (l8 + 1)) (0, M 72 l8) (up M 77 l7 l3) r) else (0 ≤ l7 ∧ l7 < 200) ∧ at_M_worked_4 d w1 l2 l3 l4 l5 l6 (w32 (l7 + 1)) (w32 (l8 + 1)) (0, M 72 l8) (up M 77 l7 (w32 ((M 72 l8) - 18))) r) else (if 5 < M 72 l8 then (if M 72 l8 = 16 then (if ¬ M 72 l8 = 17 then (0 ≤ w32 (l7 - 1) ∧ w32 (l7 - 1) < 200) ∧ (if ¬ M 77 (w32 (l7 - 1)) = 0 then (0 ≤ w32 (l7 - 1) ∧ w32 (l7 - 1) < 200) ∧ at_M_worked_4 d w1 l2 l3 l4 l5 l6 l7 (w32 (l8 + 1)) (0, M 72 l8) (up M 77 (w32 (l7 - 1)) 0) r else (0 ≤ w32 (l7 - 1) ∧ w32 (l7 - 1) < 200) ∧ at_M_worked_4 d w1 l2 l3 l4 l5 l6 l7 (w32 (l8 + 1)) (0, M 72 l8) (up M 77 (w32 (l7 - 1)) 1) r) else (0 ≤ w32 (l7 - 1) ∧ w32 (l7 - 1) < 200) ∧ (0 ≤ w32 (l7 - 1) ∧ w32 (l7 - 1) < 200) ∧ at_M_worked_4 d w1 l2 l3 l4 l5 l6 l7 (w32 (l8 + 1)) (0, M 72 l8) (up M 77 (w32 (l7 - 1)) (w32 (-(M 77 (w32 (l7 - 1)))))) r) else (if ¬ M 72 l8 = 17 then (0 ≤ w32 ((w32 (l7 + (-1))) - 1) ∧ w32 ((w32 (l7 + (-1))) - 1) < 200) ∧ (0 ≤ w32 (l7 + (-1)) ∧ w32 (l7 + (-1)) < 200) ∧ ∃ v34, Cl d m_M_both [(0, M 72 l8), (0, M 77 (w32 ((w32 (l7 + (-1))) - 1))), (0, M 77 (w32 (l7 + (-1))))] M (some (0, v34), M) ∧ (0 ≤ w32 ((w32 (l7 + (-1))) - 1) ∧ w32 ((w32 (l7 + (-1))) - 1) < 200) ∧ at_M_worked_4 d w1 l2 l3 l4 l5 l6 (w32 (l7 + (-1))) (w32 (l8 + 1)) (0, M 72 l8) (up M 77 (w32 ((w32 (l7 + (-1))) - 1)) v34) r else (if ¬ M 72 l8 = 17 then (0 ≤ w32 (l7 - 1) ∧ w32 (l7 - 1) < 200) ∧ (if ¬ M 77 (w32 (l7 - 1)) = 0 then (0 ≤ w32 (l7 - 1) ∧ w32 (l7 - 1) < 200) ∧ at_M_worked_4 d w1 l2 l3 l4 l5 l6 l7 (w32 (l8 + 1)) (0, M 72 l8) (up M 77 (w32 (l7 - 1)) 0) r else (0 ≤ w32 (l7 - 1) ∧ w32 (l7 - 1) < 200) ∧ at_M_worked_4 d w1 l2 l3 l4 l5 l6 l7 (w32 (l8 + 1)) (0, M 72 l8) (up M 77 (w32 (l7 - 1)) 1) r) else (0 ≤ w32 (l7 - 1) ∧ w32 (l7 - 1) < 200) ∧ (0 ≤ w32 (l7 - 1) ∧ w32 (l7 - 1) < 200) ∧ at_M_worked_4 d w1 l2 l3 l4 l5 l6 l7 (w32 (l8 + 1)) (0, M 72 l8) (up M 77 (w32 (l7 - 1)) (w32 (-(M 77 (w32 (l7 - 1)))))) r))) else (if M 72 l8 < 18 then (if ¬ M 72 l8 = 0 then (if ¬ M 72 l8 = 1 then (if ¬ M 72 l8 = 2 then (if ¬ M 72 l8 = 3 then (if ¬ M 72 l8 = 4 then (0 ≤ l7 ∧ l7 < 200) ∧ at_M_worked_4 d w1 l2 l3 l4 l5 l6 (w32 (l7 + 1)) (w32 (l8 + 1)) (0, M 72 l8) (up M 77 l7 (M 64 4)) r else ∃ v51, Cl d m_M_maySame [(0, l4), (0, l5)] M (some (0, v51), M) ∧ (if v51 = 0 then (0 ≤ l7 ∧ l7 < 200) ∧ at_M_worked_4 d w1 l2 l3 l4 l5 l6 (w32 (l7 + 1)) (w32 (l8 + 1)) (0, M 72 l8) (up M 77 l7 0) r else (0 ≤ l7 ∧ l7 < 200) ∧ at_M_worked_4 d w1 l2 l3 l4 l5 l6 (w32 (l7 + 1)) (w32 (l8 + 1)) (0, M 72 l8) (up M 77 l7 1) r)) else (0 ≤ l7 ∧ l7 < 200) ∧ at_M_worked_4 d w1 l2 l3 l4 l5 l6 (w32 (l7 + 1)) (w32 (l8 + 1)) (0, M 72 l8) (up M 77 l7 l6) r) else (0 ≤ l7 ∧ l7 < 200) ∧ at_M_worked_4 d w1 l2 l3 l4 l5 l6 (w32 (l7 + 1)) (w32 (l8 + 1)) (0, M 72 l8) (up M 77 l7 l5) r) else (0 ≤ l7 ∧ l7 < 200) ∧ at_M_worked_4 d w1 l2 l3 l4 l5 l6 (w32 (l7 + 1)) (w32 (l8 + 1)) (0, M 72 l8) (up M 77 l7 l4) r) else (0 ≤ l7 ∧ l7 < 200) ∧ at_M_worked_4 d w1 l2 l3 l4 l5 l6 (w32 (l7 + 1)) (w32 (l8 + 1)) (0, M 72 l8) (up M 77 l7 l3) r) else (0 ≤ l7 ∧ l7 < 200) ∧ at_M_worked_4 d w1 l2 l3 l4 l5 l6 (w32 (l7 + 1)) (w32 (l8 + 1)) (0, M 72 l8) (up M 77 l7 (w32 ((M 72 l8) - 18))) r))))) : at_M_worked_4 d w1 l2 l3 l4 l5 l6 l7 l8 w9 M r := by
  unfold at_M_worked_4
  refine x_il (pc' := 5) rfl rfl rfl ?_
  refine x_il (pc' := 6) rfl rfl rfl ?_
  refine x_icge (pc' := 7) (t' := 118) rfl rfl rfl (fun q1 => ?_) (fun q1 => ?_)
  · replace h := ite_t q1 h
    refine x_al (pc' := 119) rfl rfl (by decide) rfl ?_
    refine x_gr (pc' := 120) (v := 77) rfl rfl rfl (by decide) rfl ?_
    refine x_c (pc' := 121) rfl rfl ?_
    refine x_ia (pc' := 122) 200 (v := M 77 0) rfl rfl rfl (by decide) (by decide) rfl ?_
    exact x_iret rfl h
  · replace h := ite_f q1 h
    refine x_al (pc' := 8) rfl rfl (by decide) rfl ?_
    refine x_gr (pc' := 9) (v := 72) rfl rfl rfl (by decide) rfl ?_
    refine x_il (pc' := 10) rfl rfl rfl ?_
    obtain ⟨q2, h⟩ := h
    refine x_ia (pc' := 11) 200 (v := M 72 l8) rfl rfl rfl q2.1 q2.2 rfl ?_
    refine x_is (pc' := 12) (ls' := [(2, 64), w1, (0, l2), (0, l3), (0, l4), (0, l5), (0, l6), (0, l7), (0, l8), (0, M 72 l8)]) rfl rfl rfl rfl ?_
    refine x_il (pc' := 13) rfl rfl rfl ?_
    refine x_c (pc' := 14) rfl rfl ?_
    refine x_icge (pc' := 15) (t' := 18) rfl rfl rfl (fun q3 => ?_) (fun q3 => ?_)
    · replace h := ite_t q3 h
      refine x_al (pc' := 19) rfl rfl (by decide) rfl ?_
      refine x_gr (pc' := 20) (v := 77) rfl rfl rfl (by decide) rfl ?_
      refine x_il (pc' := 21) rfl rfl rfl ?_
      refine x_inc (pc' := 22) (ls' := [(2, 64), w1, (0, l2), (0, l3), (0, l4), (0, l5), (0, l6), (0, w32 (l7 + 1)), (0, l8), (0, M 72 l8)]) rfl rfl rfl rfl ?_
      refine x_il (pc' := 23) rfl rfl rfl ?_
      refine x_c (pc' := 24) rfl rfl ?_
      refine x_iclt (pc' := 25) (t' := 29) rfl rfl rfl (fun q4 => ?_) (fun q4 => ?_)
      · replace h := ite_t q4 h
        refine x_il (pc' := 30) rfl rfl rfl ?_
        refine x_ifne (pc' := 31) (t' := 33) rfl rfl rfl (fun q5 => ?_) (fun q5 => ?_)
        · replace h := ite_t q5 h
          refine x_il (pc' := 34) rfl rfl rfl ?_
          refine x_c (pc' := 35) rfl rfl ?_
          refine x_icne (pc' := 36) (t' := 38) rfl rfl rfl (fun q6 => ?_) (fun q6 => ?_)
          · replace h := ite_t q6 h
            refine x_il (pc' := 39) rfl rfl rfl ?_
            refine x_c (pc' := 40) rfl rfl ?_
            refine x_icne (pc' := 41) (t' := 43) rfl rfl rfl (fun q7 => ?_) (fun q7 => ?_)
            · replace h := ite_t q7 h
              refine x_il (pc' := 44) rfl rfl rfl ?_
              refine x_c (pc' := 45) rfl rfl ?_
              refine x_icne (pc' := 46) (t' := 48) rfl rfl rfl (fun q8 => ?_) (fun q8 => ?_)
              · replace h := ite_t q8 h
                refine x_il (pc' := 49) rfl rfl rfl ?_
                refine x_c (pc' := 50) rfl rfl ?_
                refine x_icne (pc' := 51) (t' := 59) rfl rfl rfl (fun q9 => ?_) (fun q9 => ?_)
                · replace h := ite_t q9 h
                  refine x_al (pc' := 60) rfl rfl (by decide) rfl ?_
                  refine x_gf (pc' := 61) (v := M 64 4) rfl rfl rfl rfl rfl ?_
                  obtain ⟨q10, h⟩ := h
                  refine x_ist (pc' := 62) 200 (M2 := up M 77 l7 (M 64 4)) rfl rfl rfl q10.1 q10.2 rfl ?_
                  refine x_goto (t' := 116) rfl rfl ?_
                  refine x_inc (pc' := 117) (ls' := [(2, 64), w1, (0, l2), (0, l3), (0, l4), (0, l5), (0, l6), (0, w32 (l7 + 1)), (0, w32 (l8 + 1)), (0, M 72 l8)]) rfl rfl rfl rfl ?_
                  refine x_goto (t' := 4) rfl rfl ?_
                  exact h
                · replace h := ite_f q9 h
                  refine x_il (pc' := 52) rfl rfl rfl ?_
                  refine x_il (pc' := 53) rfl rfl rfl ?_
                  obtain ⟨v12, q11, h⟩ := h
                  refine x_call (pc' := 54) (as := [(0, l4), (0, l5)]) (rest := [(0, l7), (2, 77)]) rfl rfl rfl rfl rfl rfl q11 ?_
                  refine x_ifeq (pc' := 55) (t' := 57) rfl rfl rfl (fun q13 => ?_) (fun q13 => ?_)
                  · replace h := ite_t q13 h
                    refine x_c (pc' := 58) rfl rfl ?_
                    refine x_goto (t' := 61) rfl rfl ?_
                    obtain ⟨q14, h⟩ := h
                    refine x_ist (pc' := 62) 200 (M2 := up M 77 l7 0) rfl rfl rfl q14.1 q14.2 rfl ?_
                    refine x_goto (t' := 116) rfl rfl ?_
                    refine x_inc (pc' := 117) (ls' := [(2, 64), w1, (0, l2), (0, l3), (0, l4), (0, l5), (0, l6), (0, w32 (l7 + 1)), (0, w32 (l8 + 1)), (0, M 72 l8)]) rfl rfl rfl rfl ?_
                    refine x_goto (t' := 4) rfl rfl ?_
                    exact h
                  · replace h := ite_f q13 h
                    refine x_c (pc' := 56) rfl rfl ?_
                    refine x_goto (t' := 61) rfl rfl ?_
                    obtain ⟨q15, h⟩ := h
                    refine x_ist (pc' := 62) 200 (M2 := up M 77 l7 1) rfl rfl rfl q15.1 q15.2 rfl ?_
                    refine x_goto (t' := 116) rfl rfl ?_
                    refine x_inc (pc' := 117) (ls' := [(2, 64), w1, (0, l2), (0, l3), (0, l4), (0, l5), (0, l6), (0, w32 (l7 + 1)), (0, w32 (l8 + 1)), (0, M 72 l8)]) rfl rfl rfl rfl ?_
                    refine x_goto (t' := 4) rfl rfl ?_
                    exact h
              · replace h := ite_f q8 h
                refine x_il (pc' := 47) rfl rfl rfl ?_
                refine x_goto (t' := 61) rfl rfl ?_
                obtain ⟨q16, h⟩ := h
                refine x_ist (pc' := 62) 200 (M2 := up M 77 l7 l6) rfl rfl rfl q16.1 q16.2 rfl ?_
                refine x_goto (t' := 116) rfl rfl ?_
                refine x_inc (pc' := 117) (ls' := [(2, 64), w1, (0, l2), (0, l3), (0, l4), (0, l5), (0, l6), (0, w32 (l7 + 1)), (0, w32 (l8 + 1)), (0, M 72 l8)]) rfl rfl rfl rfl ?_
                refine x_goto (t' := 4) rfl rfl ?_
                exact h
            · replace h := ite_f q7 h
              refine x_il (pc' := 42) rfl rfl rfl ?_
              refine x_goto (t' := 61) rfl rfl ?_
              obtain ⟨q17, h⟩ := h
              refine x_ist (pc' := 62) 200 (M2 := up M 77 l7 l5) rfl rfl rfl q17.1 q17.2 rfl ?_
              refine x_goto (t' := 116) rfl rfl ?_
              refine x_inc (pc' := 117) (ls' := [(2, 64), w1, (0, l2), (0, l3), (0, l4), (0, l5), (0, l6), (0, w32 (l7 + 1)), (0, w32 (l8 + 1)), (0, M 72 l8)]) rfl rfl rfl rfl ?_
              refine x_goto (t' := 4) rfl rfl ?_
              exact h
          · replace h := ite_f q6 h
            refine x_il (pc' := 37) rfl rfl rfl ?_
            refine x_goto (t' := 61) rfl rfl ?_
            obtain ⟨q18, h⟩ := h
            refine x_ist (pc' := 62) 200 (M2 := up M 77 l7 l4) rfl rfl rfl q18.1 q18.2 rfl ?_
            refine x_goto (t' := 116) rfl rfl ?_
            refine x_inc (pc' := 117) (ls' := [(2, 64), w1, (0, l2), (0, l3), (0, l4), (0, l5), (0, l6), (0, w32 (l7 + 1)), (0, w32 (l8 + 1)), (0, M 72 l8)]) rfl rfl rfl rfl ?_
            refine x_goto (t' := 4) rfl rfl ?_
            exact h
        · replace h := ite_f q5 h
          refine x_il (pc' := 32) rfl rfl rfl ?_
          refine x_goto (t' := 61) rfl rfl ?_
          obtain ⟨q19, h⟩ := h
          refine x_ist (pc' := 62) 200 (M2 := up M 77 l7 l3) rfl rfl rfl q19.1 q19.2 rfl ?_
          refine x_goto (t' := 116) rfl rfl ?_
          refine x_inc (pc' := 117) (ls' := [(2, 64), w1, (0, l2), (0, l3), (0, l4), (0, l5), (0, l6), (0, w32 (l7 + 1)), (0, w32 (l8 + 1)), (0, M 72 l8)]) rfl rfl rfl rfl ?_
          refine x_goto (t' := 4) rfl rfl ?_
          exact h
      · replace h := ite_f q4 h
        refine x_il (pc' := 26) rfl rfl rfl ?_
        refine x_c (pc' := 27) rfl rfl ?_
        refine x_ib (pc' := 28) (v := w32 ((M 72 l8) - 18)) rfl rfl rfl ?_
        refine x_goto (t' := 61) rfl rfl ?_
        obtain ⟨q20, h⟩ := h
        refine x_ist (pc' := 62) 200 (M2 := up M 77 l7 (w32 ((M 72 l8) - 18))) rfl rfl rfl q20.1 q20.2 rfl ?_
        refine x_goto (t' := 116) rfl rfl ?_
        refine x_inc (pc' := 117) (ls' := [(2, 64), w1, (0, l2), (0, l3), (0, l4), (0, l5), (0, l6), (0, w32 (l7 + 1)), (0, w32 (l8 + 1)), (0, M 72 l8)]) rfl rfl rfl rfl ?_
        refine x_goto (t' := 4) rfl rfl ?_
        exact h
    · replace h := ite_f q3 h
      refine x_il (pc' := 16) rfl rfl rfl ?_
      refine x_c (pc' := 17) rfl rfl ?_
      refine x_icgt (pc' := 18) (t' := 63) rfl rfl rfl (fun q21 => ?_) (fun q21 => ?_)
      · replace h := ite_t q21 h
        refine x_il (pc' := 64) rfl rfl rfl ?_
        refine x_c (pc' := 65) rfl rfl ?_
        refine x_iceq (pc' := 66) (t' := 69) rfl rfl rfl (fun q22 => ?_) (fun q22 => ?_)
        · replace h := ite_t q22 h
          refine x_al (pc' := 70) rfl rfl (by decide) rfl ?_
          refine x_gr (pc' := 71) (v := 77) rfl rfl rfl (by decide) rfl ?_
          refine x_il (pc' := 72) rfl rfl rfl ?_
          refine x_c (pc' := 73) rfl rfl ?_
          refine x_ib (pc' := 74) (v := w32 (l7 - 1)) rfl rfl rfl ?_
          refine x_il (pc' := 75) rfl rfl rfl ?_
          refine x_c (pc' := 76) rfl rfl ?_
          refine x_icne (pc' := 77) (t' := 85) rfl rfl rfl (fun q23 => ?_) (fun q23 => ?_)
          · replace h := ite_t q23 h
            refine x_al (pc' := 86) rfl rfl (by decide) rfl ?_
            refine x_gr (pc' := 87) (v := 77) rfl rfl rfl (by decide) rfl ?_
            refine x_il (pc' := 88) rfl rfl rfl ?_
            refine x_c (pc' := 89) rfl rfl ?_
            refine x_ib (pc' := 90) (v := w32 (l7 - 1)) rfl rfl rfl ?_
            obtain ⟨q24, h⟩ := h
            refine x_ia (pc' := 91) 200 (v := M 77 (w32 (l7 - 1))) rfl rfl rfl q24.1 q24.2 rfl ?_
            refine x_ifne (pc' := 92) (t' := 94) rfl rfl rfl (fun q25 => ?_) (fun q25 => ?_)
            · replace h := ite_t q25 h
              refine x_c (pc' := 95) rfl rfl ?_
              obtain ⟨q26, h⟩ := h
              refine x_ist (pc' := 96) 200 (M2 := up M 77 (w32 (l7 - 1)) 0) rfl rfl rfl q26.1 q26.2 rfl ?_
              refine x_goto (t' := 116) rfl rfl ?_
              refine x_inc (pc' := 117) (ls' := [(2, 64), w1, (0, l2), (0, l3), (0, l4), (0, l5), (0, l6), (0, l7), (0, w32 (l8 + 1)), (0, M 72 l8)]) rfl rfl rfl rfl ?_
              refine x_goto (t' := 4) rfl rfl ?_
              exact h
            · replace h := ite_f q25 h
              refine x_c (pc' := 93) rfl rfl ?_
              refine x_goto (t' := 95) rfl rfl ?_
              obtain ⟨q27, h⟩ := h
              refine x_ist (pc' := 96) 200 (M2 := up M 77 (w32 (l7 - 1)) 1) rfl rfl rfl q27.1 q27.2 rfl ?_
              refine x_goto (t' := 116) rfl rfl ?_
              refine x_inc (pc' := 117) (ls' := [(2, 64), w1, (0, l2), (0, l3), (0, l4), (0, l5), (0, l6), (0, l7), (0, w32 (l8 + 1)), (0, M 72 l8)]) rfl rfl rfl rfl ?_
              refine x_goto (t' := 4) rfl rfl ?_
              exact h
          · replace h := ite_f q23 h
            refine x_al (pc' := 78) rfl rfl (by decide) rfl ?_
            refine x_gr (pc' := 79) (v := 77) rfl rfl rfl (by decide) rfl ?_
            refine x_il (pc' := 80) rfl rfl rfl ?_
            refine x_c (pc' := 81) rfl rfl ?_
            refine x_ib (pc' := 82) (v := w32 (l7 - 1)) rfl rfl rfl ?_
            obtain ⟨q28, h⟩ := h
            refine x_ia (pc' := 83) 200 (v := M 77 (w32 (l7 - 1))) rfl rfl rfl q28.1 q28.2 rfl ?_
            refine x_neg (pc' := 84) rfl rfl ?_
            refine x_goto (t' := 95) rfl rfl ?_
            obtain ⟨q29, h⟩ := h
            refine x_ist (pc' := 96) 200 (M2 := up M 77 (w32 (l7 - 1)) (w32 (-(M 77 (w32 (l7 - 1)))))) rfl rfl rfl q29.1 q29.2 rfl ?_
            refine x_goto (t' := 116) rfl rfl ?_
            refine x_inc (pc' := 117) (ls' := [(2, 64), w1, (0, l2), (0, l3), (0, l4), (0, l5), (0, l6), (0, l7), (0, w32 (l8 + 1)), (0, M 72 l8)]) rfl rfl rfl rfl ?_
            refine x_goto (t' := 4) rfl rfl ?_
            exact h
        · replace h := ite_f q22 h
          refine x_il (pc' := 67) rfl rfl rfl ?_
          refine x_c (pc' := 68) rfl rfl ?_
          refine x_icne (pc' := 69) (t' := 97) rfl rfl rfl (fun q30 => ?_) (fun q30 => ?_)
          · replace h := ite_t q30 h
            refine x_inc (pc' := 98) (ls' := [(2, 64), w1, (0, l2), (0, l3), (0, l4), (0, l5), (0, l6), (0, w32 (l7 + (-1))), (0, l8), (0, M 72 l8)]) rfl rfl rfl rfl ?_
            refine x_al (pc' := 99) rfl rfl (by decide) rfl ?_
            refine x_gr (pc' := 100) (v := 77) rfl rfl rfl (by decide) rfl ?_
            refine x_il (pc' := 101) rfl rfl rfl ?_
            refine x_c (pc' := 102) rfl rfl ?_
            refine x_ib (pc' := 103) (v := w32 ((w32 (l7 + (-1))) - 1)) rfl rfl rfl ?_
            refine x_il (pc' := 104) rfl rfl rfl ?_
            refine x_al (pc' := 105) rfl rfl (by decide) rfl ?_
            refine x_gr (pc' := 106) (v := 77) rfl rfl rfl (by decide) rfl ?_
            refine x_il (pc' := 107) rfl rfl rfl ?_
            refine x_c (pc' := 108) rfl rfl ?_
            refine x_ib (pc' := 109) (v := w32 ((w32 (l7 + (-1))) - 1)) rfl rfl rfl ?_
            obtain ⟨q31, h⟩ := h
            refine x_ia (pc' := 110) 200 (v := M 77 (w32 ((w32 (l7 + (-1))) - 1))) rfl rfl rfl q31.1 q31.2 rfl ?_
            refine x_al (pc' := 111) rfl rfl (by decide) rfl ?_
            refine x_gr (pc' := 112) (v := 77) rfl rfl rfl (by decide) rfl ?_
            refine x_il (pc' := 113) rfl rfl rfl ?_
            obtain ⟨q32, h⟩ := h
            refine x_ia (pc' := 114) 200 (v := M 77 (w32 (l7 + (-1)))) rfl rfl rfl q32.1 q32.2 rfl ?_
            obtain ⟨v34, q33, h⟩ := h
            refine x_call (pc' := 115) (as := [(0, M 72 l8), (0, M 77 (w32 ((w32 (l7 + (-1))) - 1))), (0, M 77 (w32 (l7 + (-1))))]) (rest := [(0, w32 ((w32 (l7 + (-1))) - 1)), (2, 77)]) rfl rfl rfl rfl rfl rfl q33 ?_
            obtain ⟨q35, h⟩ := h
            refine x_ist (pc' := 116) 200 (M2 := up M 77 (w32 ((w32 (l7 + (-1))) - 1)) v34) rfl rfl rfl q35.1 q35.2 rfl ?_
            refine x_inc (pc' := 117) (ls' := [(2, 64), w1, (0, l2), (0, l3), (0, l4), (0, l5), (0, l6), (0, w32 (l7 + (-1))), (0, w32 (l8 + 1)), (0, M 72 l8)]) rfl rfl rfl rfl ?_
            refine x_goto (t' := 4) rfl rfl ?_
            exact h
          · replace h := ite_f q30 h
            refine x_al (pc' := 70) rfl rfl (by decide) rfl ?_
            refine x_gr (pc' := 71) (v := 77) rfl rfl rfl (by decide) rfl ?_
            refine x_il (pc' := 72) rfl rfl rfl ?_
            refine x_c (pc' := 73) rfl rfl ?_
            refine x_ib (pc' := 74) (v := w32 (l7 - 1)) rfl rfl rfl ?_
            refine x_il (pc' := 75) rfl rfl rfl ?_
            refine x_c (pc' := 76) rfl rfl ?_
            refine x_icne (pc' := 77) (t' := 85) rfl rfl rfl (fun q36 => ?_) (fun q36 => ?_)
            · replace h := ite_t q36 h
              refine x_al (pc' := 86) rfl rfl (by decide) rfl ?_
              refine x_gr (pc' := 87) (v := 77) rfl rfl rfl (by decide) rfl ?_
              refine x_il (pc' := 88) rfl rfl rfl ?_
              refine x_c (pc' := 89) rfl rfl ?_
              refine x_ib (pc' := 90) (v := w32 (l7 - 1)) rfl rfl rfl ?_
              obtain ⟨q37, h⟩ := h
              refine x_ia (pc' := 91) 200 (v := M 77 (w32 (l7 - 1))) rfl rfl rfl q37.1 q37.2 rfl ?_
              refine x_ifne (pc' := 92) (t' := 94) rfl rfl rfl (fun q38 => ?_) (fun q38 => ?_)
              · replace h := ite_t q38 h
                refine x_c (pc' := 95) rfl rfl ?_
                obtain ⟨q39, h⟩ := h
                refine x_ist (pc' := 96) 200 (M2 := up M 77 (w32 (l7 - 1)) 0) rfl rfl rfl q39.1 q39.2 rfl ?_
                refine x_goto (t' := 116) rfl rfl ?_
                refine x_inc (pc' := 117) (ls' := [(2, 64), w1, (0, l2), (0, l3), (0, l4), (0, l5), (0, l6), (0, l7), (0, w32 (l8 + 1)), (0, M 72 l8)]) rfl rfl rfl rfl ?_
                refine x_goto (t' := 4) rfl rfl ?_
                exact h
              · replace h := ite_f q38 h
                refine x_c (pc' := 93) rfl rfl ?_
                refine x_goto (t' := 95) rfl rfl ?_
                obtain ⟨q40, h⟩ := h
                refine x_ist (pc' := 96) 200 (M2 := up M 77 (w32 (l7 - 1)) 1) rfl rfl rfl q40.1 q40.2 rfl ?_
                refine x_goto (t' := 116) rfl rfl ?_
                refine x_inc (pc' := 117) (ls' := [(2, 64), w1, (0, l2), (0, l3), (0, l4), (0, l5), (0, l6), (0, l7), (0, w32 (l8 + 1)), (0, M 72 l8)]) rfl rfl rfl rfl ?_
                refine x_goto (t' := 4) rfl rfl ?_
                exact h
            · replace h := ite_f q36 h
              refine x_al (pc' := 78) rfl rfl (by decide) rfl ?_
              refine x_gr (pc' := 79) (v := 77) rfl rfl rfl (by decide) rfl ?_
              refine x_il (pc' := 80) rfl rfl rfl ?_
              refine x_c (pc' := 81) rfl rfl ?_
              refine x_ib (pc' := 82) (v := w32 (l7 - 1)) rfl rfl rfl ?_
              obtain ⟨q41, h⟩ := h
              refine x_ia (pc' := 83) 200 (v := M 77 (w32 (l7 - 1))) rfl rfl rfl q41.1 q41.2 rfl ?_
              refine x_neg (pc' := 84) rfl rfl ?_
              refine x_goto (t' := 95) rfl rfl ?_
              obtain ⟨q42, h⟩ := h
              refine x_ist (pc' := 96) 200 (M2 := up M 77 (w32 (l7 - 1)) (w32 (-(M 77 (w32 (l7 - 1)))))) rfl rfl rfl q42.1 q42.2 rfl ?_
              refine x_goto (t' := 116) rfl rfl ?_
              refine x_inc (pc' := 117) (ls' := [(2, 64), w1, (0, l2), (0, l3), (0, l4), (0, l5), (0, l6), (0, l7), (0, w32 (l8 + 1)), (0, M 72 l8)]) rfl rfl rfl rfl ?_
              refine x_goto (t' := 4) rfl rfl ?_
              exact h
      · replace h := ite_f q21 h
        refine x_al (pc' := 19) rfl rfl (by decide) rfl ?_
        refine x_gr (pc' := 20) (v := 77) rfl rfl rfl (by decide) rfl ?_
        refine x_il (pc' := 21) rfl rfl rfl ?_
        refine x_inc (pc' := 22) (ls' := [(2, 64), w1, (0, l2), (0, l3), (0, l4), (0, l5), (0, l6), (0, w32 (l7 + 1)), (0, l8), (0, M 72 l8)]) rfl rfl rfl rfl ?_
        refine x_il (pc' := 23) rfl rfl rfl ?_
        refine x_c (pc' := 24) rfl rfl ?_
        refine x_iclt (pc' := 25) (t' := 29) rfl rfl rfl (fun q43 => ?_) (fun q43 => ?_)
        · replace h := ite_t q43 h
          refine x_il (pc' := 30) rfl rfl rfl ?_
          refine x_ifne (pc' := 31) (t' := 33) rfl rfl rfl (fun q44 => ?_) (fun q44 => ?_)
          · replace h := ite_t q44 h
            refine x_il (pc' := 34) rfl rfl rfl ?_
            refine x_c (pc' := 35) rfl rfl ?_
            refine x_icne (pc' := 36) (t' := 38) rfl rfl rfl (fun q45 => ?_) (fun q45 => ?_)
            · replace h := ite_t q45 h
              refine x_il (pc' := 39) rfl rfl rfl ?_
              refine x_c (pc' := 40) rfl rfl ?_
              refine x_icne (pc' := 41) (t' := 43) rfl rfl rfl (fun q46 => ?_) (fun q46 => ?_)
              · replace h := ite_t q46 h
                refine x_il (pc' := 44) rfl rfl rfl ?_
                refine x_c (pc' := 45) rfl rfl ?_
                refine x_icne (pc' := 46) (t' := 48) rfl rfl rfl (fun q47 => ?_) (fun q47 => ?_)
                · replace h := ite_t q47 h
                  refine x_il (pc' := 49) rfl rfl rfl ?_
                  refine x_c (pc' := 50) rfl rfl ?_
                  refine x_icne (pc' := 51) (t' := 59) rfl rfl rfl (fun q48 => ?_) (fun q48 => ?_)
                  · replace h := ite_t q48 h
                    refine x_al (pc' := 60) rfl rfl (by decide) rfl ?_
                    refine x_gf (pc' := 61) (v := M 64 4) rfl rfl rfl rfl rfl ?_
                    obtain ⟨q49, h⟩ := h
                    refine x_ist (pc' := 62) 200 (M2 := up M 77 l7 (M 64 4)) rfl rfl rfl q49.1 q49.2 rfl ?_
                    refine x_goto (t' := 116) rfl rfl ?_
                    refine x_inc (pc' := 117) (ls' := [(2, 64), w1, (0, l2), (0, l3), (0, l4), (0, l5), (0, l6), (0, w32 (l7 + 1)), (0, w32 (l8 + 1)), (0, M 72 l8)]) rfl rfl rfl rfl ?_
                    refine x_goto (t' := 4) rfl rfl ?_
                    exact h
                  · replace h := ite_f q48 h
                    refine x_il (pc' := 52) rfl rfl rfl ?_
                    refine x_il (pc' := 53) rfl rfl rfl ?_
                    obtain ⟨v51, q50, h⟩ := h
                    refine x_call (pc' := 54) (as := [(0, l4), (0, l5)]) (rest := [(0, l7), (2, 77)]) rfl rfl rfl rfl rfl rfl q50 ?_
                    refine x_ifeq (pc' := 55) (t' := 57) rfl rfl rfl (fun q52 => ?_) (fun q52 => ?_)
                    · replace h := ite_t q52 h
                      refine x_c (pc' := 58) rfl rfl ?_
                      refine x_goto (t' := 61) rfl rfl ?_
                      obtain ⟨q53, h⟩ := h
                      refine x_ist (pc' := 62) 200 (M2 := up M 77 l7 0) rfl rfl rfl q53.1 q53.2 rfl ?_
                      refine x_goto (t' := 116) rfl rfl ?_
                      refine x_inc (pc' := 117) (ls' := [(2, 64), w1, (0, l2), (0, l3), (0, l4), (0, l5), (0, l6), (0, w32 (l7 + 1)), (0, w32 (l8 + 1)), (0, M 72 l8)]) rfl rfl rfl rfl ?_
                      refine x_goto (t' := 4) rfl rfl ?_
                      exact h
                    · replace h := ite_f q52 h
                      refine x_c (pc' := 56) rfl rfl ?_
                      refine x_goto (t' := 61) rfl rfl ?_
                      obtain ⟨q54, h⟩ := h
                      refine x_ist (pc' := 62) 200 (M2 := up M 77 l7 1) rfl rfl rfl q54.1 q54.2 rfl ?_
                      refine x_goto (t' := 116) rfl rfl ?_
                      refine x_inc (pc' := 117) (ls' := [(2, 64), w1, (0, l2), (0, l3), (0, l4), (0, l5), (0, l6), (0, w32 (l7 + 1)), (0, w32 (l8 + 1)), (0, M 72 l8)]) rfl rfl rfl rfl ?_
                      refine x_goto (t' := 4) rfl rfl ?_
                      exact h
                · replace h := ite_f q47 h
                  refine x_il (pc' := 47) rfl rfl rfl ?_
                  refine x_goto (t' := 61) rfl rfl ?_
                  obtain ⟨q55, h⟩ := h
                  refine x_ist (pc' := 62) 200 (M2 := up M 77 l7 l6) rfl rfl rfl q55.1 q55.2 rfl ?_
                  refine x_goto (t' := 116) rfl rfl ?_
                  refine x_inc (pc' := 117) (ls' := [(2, 64), w1, (0, l2), (0, l3), (0, l4), (0, l5), (0, l6), (0, w32 (l7 + 1)), (0, w32 (l8 + 1)), (0, M 72 l8)]) rfl rfl rfl rfl ?_
                  refine x_goto (t' := 4) rfl rfl ?_
                  exact h
              · replace h := ite_f q46 h
                refine x_il (pc' := 42) rfl rfl rfl ?_
                refine x_goto (t' := 61) rfl rfl ?_
                obtain ⟨q56, h⟩ := h
                refine x_ist (pc' := 62) 200 (M2 := up M 77 l7 l5) rfl rfl rfl q56.1 q56.2 rfl ?_
                refine x_goto (t' := 116) rfl rfl ?_
                refine x_inc (pc' := 117) (ls' := [(2, 64), w1, (0, l2), (0, l3), (0, l4), (0, l5), (0, l6), (0, w32 (l7 + 1)), (0, w32 (l8 + 1)), (0, M 72 l8)]) rfl rfl rfl rfl ?_
                refine x_goto (t' := 4) rfl rfl ?_
                exact h
            · replace h := ite_f q45 h
              refine x_il (pc' := 37) rfl rfl rfl ?_
              refine x_goto (t' := 61) rfl rfl ?_
              obtain ⟨q57, h⟩ := h
              refine x_ist (pc' := 62) 200 (M2 := up M 77 l7 l4) rfl rfl rfl q57.1 q57.2 rfl ?_
              refine x_goto (t' := 116) rfl rfl ?_
              refine x_inc (pc' := 117) (ls' := [(2, 64), w1, (0, l2), (0, l3), (0, l4), (0, l5), (0, l6), (0, w32 (l7 + 1)), (0, w32 (l8 + 1)), (0, M 72 l8)]) rfl rfl rfl rfl ?_
              refine x_goto (t' := 4) rfl rfl ?_
              exact h
          · replace h := ite_f q44 h
            refine x_il (pc' := 32) rfl rfl rfl ?_
            refine x_goto (t' := 61) rfl rfl ?_
            obtain ⟨q58, h⟩ := h
            refine x_ist (pc' := 62) 200 (M2 := up M 77 l7 l3) rfl rfl rfl q58.1 q58.2 rfl ?_
            refine x_goto (t' := 116) rfl rfl ?_
            refine x_inc (pc' := 117) (ls' := [(2, 64), w1, (0, l2), (0, l3), (0, l4), (0, l5), (0, l6), (0, w32 (l7 + 1)), (0, w32 (l8 + 1)), (0, M 72 l8)]) rfl rfl rfl rfl ?_
            refine x_goto (t' := 4) rfl rfl ?_
            exact h
        · replace h := ite_f q43 h
          refine x_il (pc' := 26) rfl rfl rfl ?_
          refine x_c (pc' := 27) rfl rfl ?_
          refine x_ib (pc' := 28) (v := w32 ((M 72 l8) - 18)) rfl rfl rfl ?_
          refine x_goto (t' := 61) rfl rfl ?_
          obtain ⟨q59, h⟩ := h
          refine x_ist (pc' := 62) 200 (M2 := up M 77 l7 (w32 ((M 72 l8) - 18))) rfl rfl rfl q59.1 q59.2 rfl ?_
          refine x_goto (t' := 116) rfl rfl ?_
          refine x_inc (pc' := 117) (ls' := [(2, 64), w1, (0, l2), (0, l3), (0, l4), (0, l5), (0, l6), (0, w32 (l7 + 1)), (0, w32 (l8 + 1)), (0, M 72 l8)]) rfl rfl rfl rfl ?_
          refine x_goto (t' := 4) rfl rfl ?_
          exact h
theorem sg_M_sortsOf {d : Nat} {p1 : Int} {M : Mem} {r : Res} (h : (if ¬ p1 = 4 then (if ¬ p1 = 5 then r = (some (0, ishl 1 p1), M) else r = (some (0, 15), M)) else r = (some (0, 10), M))) : Cl (d + 1) m_M_sortsOf [(0, p1)] M r := by
  refine cl_of (c := k_M_sortsOf) (mL := 1) (rz := 1) (rc := 99) (ls := [(0, p1)]) rfl rfl rfl ?_
  refine x_il (pc' := 1) rfl rfl rfl ?_
  refine x_c (pc' := 2) rfl rfl ?_
  refine x_icne (pc' := 3) (t' := 5) rfl rfl rfl (fun q1 => ?_) (fun q1 => ?_)
  · replace h := ite_t q1 h
    refine x_il (pc' := 6) rfl rfl rfl ?_
    refine x_c (pc' := 7) rfl rfl ?_
    refine x_icne (pc' := 8) (t' := 10) rfl rfl rfl (fun q2 => ?_) (fun q2 => ?_)
    · replace h := ite_t q2 h
      refine x_c (pc' := 11) rfl rfl ?_
      refine x_il (pc' := 12) rfl rfl rfl ?_
      refine x_ib (pc' := 13) (v := ishl 1 p1) rfl rfl rfl ?_
      exact x_iret rfl h
    · replace h := ite_f q2 h
      refine x_c (pc' := 9) rfl rfl ?_
      refine x_goto (t' := 13) rfl rfl ?_
      exact x_iret rfl h
  · replace h := ite_f q1 h
    refine x_c (pc' := 4) rfl rfl ?_
    refine x_goto (t' := 13) rfl rfl ?_
    exact x_iret rfl h
theorem sg_M_maySame {d : Nat} {p1 p2 : Int} {M : Mem} {r : Res} (h : ∃ v2, Cl d m_M_sortsOf [(0, p1)] M (some (0, v2), M) ∧ ∃ v4, Cl d m_M_sortsOf [(0, p2)] M (some (0, v4), M) ∧ (if iand v2 v4 = 0 then r = (some (0, 0), M) else r = (some (0, 1), M))) : Cl (d + 1) m_M_maySame [(0, p1), (0, p2)] M r := by
  refine cl_of (c := k_M_maySame) (mL := 2) (rz := 3) (rc := 99) (ls := [(0, p1), (0, p2)]) rfl rfl rfl ?_
  refine x_il (pc' := 1) rfl rfl rfl ?_
  obtain ⟨v2, q1, h⟩ := h
  refine x_call (pc' := 2) (as := [(0, p1)]) (rest := []) rfl rfl rfl rfl rfl rfl q1 ?_
  refine x_il (pc' := 3) rfl rfl rfl ?_
  obtain ⟨v4, q3, h⟩ := h
  refine x_call (pc' := 4) (as := [(0, p2)]) (rest := [(0, v2)]) rfl rfl rfl rfl rfl rfl q3 ?_
  refine x_ib (pc' := 5) (v := iand v2 v4) rfl rfl rfl ?_
  refine x_ifeq (pc' := 6) (t' := 8) rfl rfl rfl (fun q5 => ?_) (fun q5 => ?_)
  · replace h := ite_t q5 h
    refine x_c (pc' := 9) rfl rfl ?_
    exact x_zret rfl (by decide) h
  · replace h := ite_f q5 h
    refine x_c (pc' := 7) rfl rfl ?_
    refine x_goto (t' := 9) rfl rfl ?_
    exact x_zret rfl (by decide) h
def at_M_alikeTo_38 (d : Nat) (l1 : Int) (w2 : AV) (w3 : AV) (l4 : Int) (l5 : Int) (l6 : Int) (l7 : Int) (M : Mem) (r : Res) : Prop := Ex sx0 d k_M_alikeTo 1 38 [(2, 64), (0, l1), w2, w3, (0, l4), (0, l5), (0, l6), (0, l7)] [] M r
theorem sg_M_alikeTo {d : Nat} {p1 p2 p3 p4 : Int} {M : Mem} {r : Res} (h : (0 ≤ w32 ((w32 (10 * p3)) + p4) ∧ w32 ((w32 (10 * p3)) + p4) < 120) ∧ (0 ≤ w32 ((w32 (10 * p3)) + p4) ∧ w32 ((w32 (10 * p3)) + p4) < 120) ∧ (if ¬ M 64 7 = 0 then at_M_alikeTo_38 d p1 (0, p2) (0, p3) p4 (M 65 (w32 ((w32 (10 * p3)) + p4))) (if 0 ≤ w32 (p2 - (M 66 (w32 ((w32 (10 * p3)) + p4)))) then w32 (p2 - (M 66 (w32 ((w32 (10 * p3)) + p4)))) else w32 (0 - (w32 (p2 - (M 66 (w32 ((w32 (10 * p3)) + p4))))))) 0 M r else ∃ v5, Cl d m_M_maySame [(0, p1), (0, M 65 (w32 ((w32 (10 * p3)) + p4)))] M (some (0, v5), M) ∧ (if v5 = 0 then r = (some (0, (if 0 < w32 (0 - (if 0 ≤ w32 (p2 - (M 66 (w32 ((w32 (10 * p3)) + p4)))) then w32 (p2 - (M 66 (w32 ((w32 (10 * p3)) + p4)))) else w32 (0 - (w32 (p2 - (M 66 (w32 ((w32 (10 * p3)) + p4)))))))) then w32 (0 - (if 0 ≤ w32 (p2 - (M 66 (w32 ((w32 (10 * p3)) + p4)))) then w32 (p2 - (M 66 (w32 ((w32 (10 * p3)) + p4)))) else w32 (0 - (w32 (p2 - (M 66 (w32 ((w32 (10 * p3)) + p4)))))))) else 0)), M) else r = (some (0, (if 0 < w32 (10 - (if 0 ≤ w32 (p2 - (M 66 (w32 ((w32 (10 * p3)) + p4)))) then w32 (p2 - (M 66 (w32 ((w32 (10 * p3)) + p4)))) else w32 (0 - (w32 (p2 - (M 66 (w32 ((w32 (10 * p3)) + p4)))))))) then w32 (10 - (if 0 ≤ w32 (p2 - (M 66 (w32 ((w32 (10 * p3)) + p4)))) then w32 (p2 - (M 66 (w32 ((w32 (10 * p3)) + p4)))) else w32 (0 - (w32 (p2 - (M 66 (w32 ((w32 (10 * p3)) + p4)))))))) else 0)), M)))) : Cl (d + 1) m_M_alikeTo [(2, 64), (0, p1), (0, p2), (0, p3), (0, p4)] M r := by
  refine cl_of (c := k_M_alikeTo) (mL := 8) (rz := 1) (rc := 7) (ls := [(2, 64), (0, p1), (0, p2), (0, p3), (0, p4), (3, 0), (3, 0), (3, 0)]) rfl rfl rfl ?_
  refine x_al (pc' := 1) rfl rfl (by decide) rfl ?_
  refine x_gr (pc' := 2) (v := 65) rfl rfl rfl (by decide) rfl ?_
  refine x_c (pc' := 3) rfl rfl ?_
  refine x_il (pc' := 4) rfl rfl rfl ?_
  refine x_ib (pc' := 5) (v := w32 (10 * p3)) rfl rfl rfl ?_
  refine x_il (pc' := 6) rfl rfl rfl ?_
  refine x_ib (pc' := 7) (v := w32 ((w32 (10 * p3)) + p4)) rfl rfl rfl ?_
  obtain ⟨q1, h⟩ := h
  refine x_ia (pc' := 8) 120 (v := M 65 (w32 ((w32 (10 * p3)) + p4))) rfl rfl rfl q1.1 q1.2 rfl ?_
  refine x_is (pc' := 9) (ls' := [(2, 64), (0, p1), (0, p2), (0, p3), (0, p4), (0, M 65 (w32 ((w32 (10 * p3)) + p4))), (3, 0), (3, 0)]) rfl rfl rfl rfl ?_
  refine x_il (pc' := 10) rfl rfl rfl ?_
  refine x_al (pc' := 11) rfl rfl (by decide) rfl ?_
  refine x_gr (pc' := 12) (v := 66) rfl rfl rfl (by decide) rfl ?_
  refine x_c (pc' := 13) rfl rfl ?_
  refine x_il (pc' := 14) rfl rfl rfl ?_
  refine x_ib (pc' := 15) (v := w32 (10 * p3)) rfl rfl rfl ?_
  refine x_il (pc' := 16) rfl rfl rfl ?_
  refine x_ib (pc' := 17) (v := w32 ((w32 (10 * p3)) + p4)) rfl rfl rfl ?_
  obtain ⟨q2, h⟩ := h
  refine x_ia (pc' := 18) 120 (v := M 66 (w32 ((w32 (10 * p3)) + p4))) rfl rfl rfl q2.1 q2.2 rfl ?_
  refine x_ib (pc' := 19) (v := w32 (p2 - (M 66 (w32 ((w32 (10 * p3)) + p4))))) rfl rfl rfl ?_
  refine x_abs (pc' := 20) rfl rfl rfl ?_
  refine x_is (pc' := 21) (ls' := [(2, 64), (0, p1), (0, p2), (0, p3), (0, p4), (0, M 65 (w32 ((w32 (10 * p3)) + p4))), (0, (if 0 ≤ w32 (p2 - (M 66 (w32 ((w32 (10 * p3)) + p4)))) then w32 (p2 - (M 66 (w32 ((w32 (10 * p3)) + p4)))) else w32 (0 - (w32 (p2 - (M 66 (w32 ((w32 (10 * p3)) + p4)))))))), (3, 0)]) rfl rfl rfl rfl ?_
  refine x_al (pc' := 22) rfl rfl (by decide) rfl ?_
  refine x_gf (pc' := 23) (v := M 64 7) rfl rfl rfl rfl rfl ?_
  refine x_ifne (pc' := 24) (t' := 36) rfl rfl rfl (fun q3 => ?_) (fun q3 => ?_)
  · replace h := ite_t q3 h
    refine x_c (pc' := 37) rfl rfl ?_
    refine x_is (pc' := 38) (ls' := [(2, 64), (0, p1), (0, p2), (0, p3), (0, p4), (0, M 65 (w32 ((w32 (10 * p3)) + p4))), (0, (if 0 ≤ w32 (p2 - (M 66 (w32 ((w32 (10 * p3)) + p4)))) then w32 (p2 - (M 66 (w32 ((w32 (10 * p3)) + p4)))) else w32 (0 - (w32 (p2 - (M 66 (w32 ((w32 (10 * p3)) + p4)))))))), (0, 0)]) rfl rfl rfl rfl ?_
    exact h
  · replace h := ite_f q3 h
    refine x_c (pc' := 25) rfl rfl ?_
    refine x_il (pc' := 26) rfl rfl rfl ?_
    refine x_il (pc' := 27) rfl rfl rfl ?_
    obtain ⟨v5, q4, h⟩ := h
    refine x_call (pc' := 28) (as := [(0, p1), (0, M 65 (w32 ((w32 (10 * p3)) + p4)))]) (rest := [(0, 0)]) rfl rfl rfl rfl rfl rfl q4 ?_
    refine x_ifeq (pc' := 29) (t' := 31) rfl rfl rfl (fun q6 => ?_) (fun q6 => ?_)
    · replace h := ite_t q6 h
      refine x_c (pc' := 32) rfl rfl ?_
      refine x_il (pc' := 33) rfl rfl rfl ?_
      refine x_ib (pc' := 34) (v := w32 (0 - (if 0 ≤ w32 (p2 - (M 66 (w32 ((w32 (10 * p3)) + p4)))) then w32 (p2 - (M 66 (w32 ((w32 (10 * p3)) + p4)))) else w32 (0 - (w32 (p2 - (M 66 (w32 ((w32 (10 * p3)) + p4))))))))) rfl rfl rfl ?_
      refine x_max (pc' := 35) rfl rfl rfl ?_
      exact x_iret rfl h
    · replace h := ite_f q6 h
      refine x_c (pc' := 30) rfl rfl ?_
      refine x_goto (t' := 32) rfl rfl ?_
      refine x_il (pc' := 33) rfl rfl rfl ?_
      refine x_ib (pc' := 34) (v := w32 (10 - (if 0 ≤ w32 (p2 - (M 66 (w32 ((w32 (10 * p3)) + p4)))) then w32 (p2 - (M 66 (w32 ((w32 (10 * p3)) + p4)))) else w32 (0 - (w32 (p2 - (M 66 (w32 ((w32 (10 * p3)) + p4))))))))) rfl rfl rfl ?_
      refine x_max (pc' := 35) rfl rfl rfl ?_
      exact x_iret rfl h
theorem sg_M_alikeTo_38 {d : Nat} {l1 : Int} {w2 : AV} {w3 : AV} {l4 : Int} {l5 : Int} {l6 : Int} {l7 : Int} {M : Mem} {r : Res} (h : (if M 64 8 ≤ l7 then r = (some (0, 0), M) else (0 ≤ l7 ∧ l7 < 60) ∧ (0 ≤ l7 ∧ l7 < 60) ∧ (if M 70 l7 ≤ M 69 l7 then (0 ≤ l7 ∧ l7 < 60) ∧ (0 ≤ l7 ∧ l7 < 60) ∧ ∃ v8 M9, Cl d m_M_worked [(2, 64), (0, M 70 l7), (0, M 71 l7), (0, l4), (0, l1), (0, l5), (0, l6)] M (some (0, v8), M9) ∧ r = (some (0, (if 0 < (if v8 < 99 then v8 else 99) then (if v8 < 99 then v8 else 99) else 0)), M9) else (0 ≤ l7 ∧ l7 < 60) ∧ (0 ≤ l7 ∧ l7 < 60) ∧ ∃ v13 M14, Cl d m_M_worked [(2, 64), (0, M 69 l7), (0, M 70 l7), (0, l4), (0, l1), (0, l5), (0, l6)] M (some (0, v13), M14) ∧ (if ¬ v13 = 0 then (0 ≤ l7 ∧ l7 < 60) ∧ (0 ≤ l7 ∧ l7 < 60) ∧ ∃ v19 M20, Cl d m_M_worked [(2, 64), (0, M14 70 l7), (0, M14 71 l7), (0, l4), (0, l1), (0, l5), (0, l6)] M14 (some (0, v19), M20) ∧ r = (some (0, (if 0 < (if v19 < 99 then v19 else 99) then (if v19 < 99 then v19 else 99) else 0)), M20) else at_M_alikeTo_38 d l1 w2 w3 l4 l5 l6 (w32 (l7 + 1)) M14 r)))) : at_M_alikeTo_38 d l1 w2 w3 l4 l5 l6 l7 M r := by
  unfold at_M_alikeTo_38
  refine x_il (pc' := 39) rfl rfl rfl ?_
  refine x_al (pc' := 40) rfl rfl (by decide) rfl ?_
  refine x_gf (pc' := 41) (v := M 64 8) rfl rfl rfl rfl rfl ?_
  refine x_icge (pc' := 42) (t' := 88) rfl rfl rfl (fun q1 => ?_) (fun q1 => ?_)
  · replace h := ite_t q1 h
    refine x_c (pc' := 89) rfl rfl ?_
    exact x_iret rfl h
  · replace h := ite_f q1 h
    refine x_al (pc' := 43) rfl rfl (by decide) rfl ?_
    refine x_gr (pc' := 44) (v := 70) rfl rfl rfl (by decide) rfl ?_
    refine x_il (pc' := 45) rfl rfl rfl ?_
    obtain ⟨q2, h⟩ := h
    refine x_ia (pc' := 46) 60 (v := M 70 l7) rfl rfl rfl q2.1 q2.2 rfl ?_
    refine x_al (pc' := 47) rfl rfl (by decide) rfl ?_
    refine x_gr (pc' := 48) (v := 69) rfl rfl rfl (by decide) rfl ?_
    refine x_il (pc' := 49) rfl rfl rfl ?_
    obtain ⟨q3, h⟩ := h
    refine x_ia (pc' := 50) 60 (v := M 69 l7) rfl rfl rfl q3.1 q3.2 rfl ?_
    refine x_icle (pc' := 51) (t' := 67) rfl rfl rfl (fun q4 => ?_) (fun q4 => ?_)
    · replace h := ite_t q4 h
      refine x_c (pc' := 68) rfl rfl ?_
      refine x_c (pc' := 69) rfl rfl ?_
      refine x_al (pc' := 70) rfl rfl (by decide) rfl ?_
      refine x_al (pc' := 71) rfl rfl (by decide) rfl ?_
      refine x_gr (pc' := 72) (v := 70) rfl rfl rfl (by decide) rfl ?_
      refine x_il (pc' := 73) rfl rfl rfl ?_
      obtain ⟨q5, h⟩ := h
      refine x_ia (pc' := 74) 60 (v := M 70 l7) rfl rfl rfl q5.1 q5.2 rfl ?_
      refine x_al (pc' := 75) rfl rfl (by decide) rfl ?_
      refine x_gr (pc' := 76) (v := 71) rfl rfl rfl (by decide) rfl ?_
      refine x_il (pc' := 77) rfl rfl rfl ?_
      obtain ⟨q6, h⟩ := h
      refine x_ia (pc' := 78) 60 (v := M 71 l7) rfl rfl rfl q6.1 q6.2 rfl ?_
      refine x_il (pc' := 79) rfl rfl rfl ?_
      refine x_il (pc' := 80) rfl rfl rfl ?_
      refine x_il (pc' := 81) rfl rfl rfl ?_
      refine x_il (pc' := 82) rfl rfl rfl ?_
      obtain ⟨v8, M9, q7, h⟩ := h
      refine x_call (pc' := 83) (as := [(2, 64), (0, M 70 l7), (0, M 71 l7), (0, l4), (0, l1), (0, l5), (0, l6)]) (rest := [(0, 99), (0, 0)]) rfl rfl rfl rfl rfl rfl q7 ?_
      refine x_min (pc' := 84) rfl rfl rfl ?_
      refine x_max (pc' := 85) rfl rfl rfl ?_
      exact x_iret rfl h
    · replace h := ite_f q4 h
      refine x_al (pc' := 52) rfl rfl (by decide) rfl ?_
      refine x_al (pc' := 53) rfl rfl (by decide) rfl ?_
      refine x_gr (pc' := 54) (v := 69) rfl rfl rfl (by decide) rfl ?_
      refine x_il (pc' := 55) rfl rfl rfl ?_
      obtain ⟨q10, h⟩ := h
      refine x_ia (pc' := 56) 60 (v := M 69 l7) rfl rfl rfl q10.1 q10.2 rfl ?_
      refine x_al (pc' := 57) rfl rfl (by decide) rfl ?_
      refine x_gr (pc' := 58) (v := 70) rfl rfl rfl (by decide) rfl ?_
      refine x_il (pc' := 59) rfl rfl rfl ?_
      obtain ⟨q11, h⟩ := h
      refine x_ia (pc' := 60) 60 (v := M 70 l7) rfl rfl rfl q11.1 q11.2 rfl ?_
      refine x_il (pc' := 61) rfl rfl rfl ?_
      refine x_il (pc' := 62) rfl rfl rfl ?_
      refine x_il (pc' := 63) rfl rfl rfl ?_
      refine x_il (pc' := 64) rfl rfl rfl ?_
      obtain ⟨v13, M14, q12, h⟩ := h
      refine x_call (pc' := 65) (as := [(2, 64), (0, M 69 l7), (0, M 70 l7), (0, l4), (0, l1), (0, l5), (0, l6)]) (rest := []) rfl rfl rfl rfl rfl rfl q12 ?_
      refine x_ifne (pc' := 66) (t' := 67) rfl rfl rfl (fun q15 => ?_) (fun q15 => ?_)
      · replace h := ite_t q15 h
        refine x_c (pc' := 68) rfl rfl ?_
        refine x_c (pc' := 69) rfl rfl ?_
        refine x_al (pc' := 70) rfl rfl (by decide) rfl ?_
        refine x_al (pc' := 71) rfl rfl (by decide) rfl ?_
        refine x_gr (pc' := 72) (v := 70) rfl rfl rfl (by decide) rfl ?_
        refine x_il (pc' := 73) rfl rfl rfl ?_
        obtain ⟨q16, h⟩ := h
        refine x_ia (pc' := 74) 60 (v := M14 70 l7) rfl rfl rfl q16.1 q16.2 rfl ?_
        refine x_al (pc' := 75) rfl rfl (by decide) rfl ?_
        refine x_gr (pc' := 76) (v := 71) rfl rfl rfl (by decide) rfl ?_
        refine x_il (pc' := 77) rfl rfl rfl ?_
        obtain ⟨q17, h⟩ := h
        refine x_ia (pc' := 78) 60 (v := M14 71 l7) rfl rfl rfl q17.1 q17.2 rfl ?_
        refine x_il (pc' := 79) rfl rfl rfl ?_
        refine x_il (pc' := 80) rfl rfl rfl ?_
        refine x_il (pc' := 81) rfl rfl rfl ?_
        refine x_il (pc' := 82) rfl rfl rfl ?_
        obtain ⟨v19, M20, q18, h⟩ := h
        refine x_call (pc' := 83) (as := [(2, 64), (0, M14 70 l7), (0, M14 71 l7), (0, l4), (0, l1), (0, l5), (0, l6)]) (rest := [(0, 99), (0, 0)]) rfl rfl rfl rfl rfl rfl q18 ?_
        refine x_min (pc' := 84) rfl rfl rfl ?_
        refine x_max (pc' := 85) rfl rfl rfl ?_
        exact x_iret rfl h
      · replace h := ite_f q15 h
        refine x_goto (t' := 86) rfl rfl ?_
        refine x_inc (pc' := 87) (ls' := [(2, 64), (0, l1), w2, w3, (0, l4), (0, l5), (0, l6), (0, w32 (l7 + 1))]) rfl rfl rfl rfl ?_
        refine x_goto (t' := 38) rfl rfl ?_
        exact h
theorem sg_M_alikeTwo {d : Nat} {p1 p2 p3 : Int} {M : Mem} {r : Res} (h : (0 ≤ w32 ((w32 (10 * p1)) + p3) ∧ w32 ((w32 (10 * p1)) + p3) < 120) ∧ (0 ≤ w32 ((w32 (10 * p1)) + p3) ∧ w32 ((w32 (10 * p1)) + p3) < 120) ∧ ∃ v4 M5, Cl d m_M_alikeTo [(2, 64), (0, M 65 (w32 ((w32 (10 * p1)) + p3))), (0, M 66 (w32 ((w32 (10 * p1)) + p3))), (0, p2), (0, p3)] M (some (0, v4), M5) ∧ r = (some (0, v4), M5)) : Cl (d + 1) m_M_alikeTwo [(2, 64), (0, p1), (0, p2), (0, p3)] M r := by
  refine cl_of (c := k_M_alikeTwo) (mL := 4) (rz := 1) (rc := 7) (ls := [(2, 64), (0, p1), (0, p2), (0, p3)]) rfl rfl rfl ?_
  refine x_al (pc' := 1) rfl rfl (by decide) rfl ?_
  refine x_al (pc' := 2) rfl rfl (by decide) rfl ?_
  refine x_gr (pc' := 3) (v := 65) rfl rfl rfl (by decide) rfl ?_
  refine x_c (pc' := 4) rfl rfl ?_
  refine x_il (pc' := 5) rfl rfl rfl ?_
  refine x_ib (pc' := 6) (v := w32 (10 * p1)) rfl rfl rfl ?_
  refine x_il (pc' := 7) rfl rfl rfl ?_
  refine x_ib (pc' := 8) (v := w32 ((w32 (10 * p1)) + p3)) rfl rfl rfl ?_
  obtain ⟨q1, h⟩ := h
  refine x_ia (pc' := 9) 120 (v := M 65 (w32 ((w32 (10 * p1)) + p3))) rfl rfl rfl q1.1 q1.2 rfl ?_
  refine x_al (pc' := 10) rfl rfl (by decide) rfl ?_
  refine x_gr (pc' := 11) (v := 66) rfl rfl rfl (by decide) rfl ?_
  refine x_c (pc' := 12) rfl rfl ?_
  refine x_il (pc' := 13) rfl rfl rfl ?_
  refine x_ib (pc' := 14) (v := w32 (10 * p1)) rfl rfl rfl ?_
  refine x_il (pc' := 15) rfl rfl rfl ?_
  refine x_ib (pc' := 16) (v := w32 ((w32 (10 * p1)) + p3)) rfl rfl rfl ?_
  obtain ⟨q2, h⟩ := h
  refine x_ia (pc' := 17) 120 (v := M 66 (w32 ((w32 (10 * p1)) + p3))) rfl rfl rfl q2.1 q2.2 rfl ?_
  refine x_il (pc' := 18) rfl rfl rfl ?_
  refine x_il (pc' := 19) rfl rfl rfl ?_
  obtain ⟨v4, M5, q3, h⟩ := h
  refine x_call (pc' := 20) (as := [(2, 64), (0, M 65 (w32 ((w32 (10 * p1)) + p3))), (0, M 66 (w32 ((w32 (10 * p1)) + p3))), (0, p2), (0, p3)]) (rest := []) rfl rfl rfl rfl rfl rfl q3 ?_
  exact x_iret rfl h
theorem sg_M_alike {d : Nat} {p1 p2 : Int} {M : Mem} {r : Res} (h : ∃ v2, Cl d m_M_areTwo [(2, 64), (0, p1)] M (some (0, v2), M) ∧ (if v2 = 0 then r = (some (0, (-1)), M) else ∃ v5, Cl d m_M_within [(0, p2), (0, 0), (0, 9)] M (some (0, v5), M) ∧ (if v5 = 0 then r = (some (0, (-1)), M) else ∃ v8 M9, Cl d m_M_alikeTwo [(2, 64), (0, w32 (Int.tdiv p1 100)), (0, w32 (Int.tmod p1 100)), (0, p2)] M (some (0, v8), M9) ∧ r = (some (0, v8), M9)))) : Cl (d + 1) m_M_alike [(2, 64), (0, p1), (0, p2)] M r := by
  refine cl_of (c := k_M_alike) (mL := 3) (rz := 1) (rc := 7) (ls := [(2, 64), (0, p1), (0, p2)]) rfl rfl rfl ?_
  refine x_al (pc' := 1) rfl rfl (by decide) rfl ?_
  refine x_il (pc' := 2) rfl rfl rfl ?_
  obtain ⟨v2, q1, h⟩ := h
  refine x_call (pc' := 3) (as := [(2, 64), (0, p1)]) (rest := []) rfl rfl rfl rfl rfl rfl q1 ?_
  refine x_ifeq (pc' := 4) (t' := 19) rfl rfl rfl (fun q3 => ?_) (fun q3 => ?_)
  · replace h := ite_t q3 h
    refine x_c (pc' := 20) rfl rfl ?_
    exact x_iret rfl h
  · replace h := ite_f q3 h
    refine x_il (pc' := 5) rfl rfl rfl ?_
    refine x_c (pc' := 6) rfl rfl ?_
    refine x_c (pc' := 7) rfl rfl ?_
    obtain ⟨v5, q4, h⟩ := h
    refine x_call (pc' := 8) (as := [(0, p2), (0, 0), (0, 9)]) (rest := []) rfl rfl rfl rfl rfl rfl q4 ?_
    refine x_ifeq (pc' := 9) (t' := 19) rfl rfl rfl (fun q6 => ?_) (fun q6 => ?_)
    · replace h := ite_t q6 h
      refine x_c (pc' := 20) rfl rfl ?_
      exact x_iret rfl h
    · replace h := ite_f q6 h
      refine x_al (pc' := 10) rfl rfl (by decide) rfl ?_
      refine x_il (pc' := 11) rfl rfl rfl ?_
      refine x_c (pc' := 12) rfl rfl ?_
      refine x_ib (pc' := 13) (v := w32 (Int.tdiv p1 100)) rfl rfl rfl ?_
      refine x_il (pc' := 14) rfl rfl rfl ?_
      refine x_c (pc' := 15) rfl rfl ?_
      refine x_ib (pc' := 16) (v := w32 (Int.tmod p1 100)) rfl rfl rfl ?_
      refine x_il (pc' := 17) rfl rfl rfl ?_
      obtain ⟨v8, M9, q7, h⟩ := h
      refine x_call (pc' := 18) (as := [(2, 64), (0, w32 (Int.tdiv p1 100)), (0, w32 (Int.tmod p1 100)), (0, p2)]) (rest := []) rfl rfl rfl rfl rfl rfl q7 ?_
      refine x_goto (t' := 20) rfl rfl ?_
      exact x_iret rfl h
theorem sg_M_bitOf {d : Nat} {p1 : Int} {M : Mem} {r : Res} (h : (if ¬ w32 (Int.tmod p1 2) = 0 then r = (some (0, ishr 16 (w32 (Int.tdiv p1 2))), M) else r = (some (0, ishr 512 (w32 (Int.tdiv p1 2))), M))) : Cl (d + 1) m_M_bitOf [(0, p1)] M r := by
  refine cl_of (c := k_M_bitOf) (mL := 1) (rz := 1) (rc := 99) (ls := [(0, p1)]) rfl rfl rfl ?_
  refine x_il (pc' := 1) rfl rfl rfl ?_
  refine x_c (pc' := 2) rfl rfl ?_
  refine x_ib (pc' := 3) (v := w32 (Int.tmod p1 2)) rfl rfl rfl ?_
  refine x_ifne (pc' := 4) (t' := 10) rfl rfl rfl (fun q1 => ?_) (fun q1 => ?_)
  · replace h := ite_t q1 h
    refine x_c (pc' := 11) rfl rfl ?_
    refine x_il (pc' := 12) rfl rfl rfl ?_
    refine x_c (pc' := 13) rfl rfl ?_
    refine x_ib (pc' := 14) (v := w32 (Int.tdiv p1 2)) rfl rfl rfl ?_
    refine x_ib (pc' := 15) (v := ishr 16 (w32 (Int.tdiv p1 2))) rfl rfl rfl ?_
    exact x_iret rfl h
  · replace h := ite_f q1 h
    refine x_c (pc' := 5) rfl rfl ?_
    refine x_il (pc' := 6) rfl rfl rfl ?_
    refine x_c (pc' := 7) rfl rfl ?_
    refine x_ib (pc' := 8) (v := w32 (Int.tdiv p1 2)) rfl rfl rfl ?_
    refine x_ib (pc' := 9) (v := ishr 512 (w32 (Int.tdiv p1 2))) rfl rfl rfl ?_
    refine x_goto (t' := 15) rfl rfl ?_
    exact x_iret rfl h
def at_M_bits_4 (d : Nat) (l1 : Int) (l2 : Int) (l3 : Int) (l4 : Int) (M : Mem) (r : Res) : Prop := Ex sx0 d k_M_bits 1 4 [(2, 64), (0, l1), (0, l2), (0, l3), (0, l4)] [] M r
theorem sg_M_bits {d : Nat} {p1 p2 : Int} {M : Mem} {r : Res} (h : at_M_bits_4 d p1 p2 0 0 M r) : Cl (d + 1) m_M_bits [(2, 64), (0, p1), (0, p2)] M r := by
  refine cl_of (c := k_M_bits) (mL := 5) (rz := 1) (rc := 7) (ls := [(2, 64), (0, p1), (0, p2), (3, 0), (3, 0)]) rfl rfl rfl ?_
  refine x_c (pc' := 1) rfl rfl ?_
  refine x_is (pc' := 2) (ls' := [(2, 64), (0, p1), (0, p2), (0, 0), (3, 0)]) rfl rfl rfl rfl ?_
  refine x_c (pc' := 3) rfl rfl ?_
  refine x_is (pc' := 4) (ls' := [(2, 64), (0, p1), (0, p2), (0, 0), (0, 0)]) rfl rfl rfl rfl ?_
  exact h
theorem sg_M_bits_4 {d : Nat} {l1 : Int} {l2 : Int} {l3 : Int} {l4 : Int} {M : Mem} {r : Res} (h : (if 10 ≤ l4 then r = (some (0, l3), M) else (0 ≤ w32 ((w32 (10 * l1)) + l4) ∧ w32 ((w32 (10 * l1)) + l4) < 120) ∧ (if M 65 (w32 ((w32 (10 * l1)) + l4)) = 3 then ∃ v5, Cl d m_M_bitOf [(0, l4)] M (some (0, v5), M) ∧ at_M_bits_4 d l1 l2 (ior l3 v5) (w32 (l4 + 1)) M r else (if ¬ l2 = 1 then at_M_bits_4 d l1 l2 l3 (w32 (l4 + 1)) M r else (0 ≤ w32 ((w32 (10 * l1)) + l4) ∧ w32 ((w32 (10 * l1)) + l4) < 120) ∧ (if M 65 (w32 ((w32 (10 * l1)) + l4)) ≤ 3 then at_M_bits_4 d l1 l2 l3 (w32 (l4 + 1)) M r else ∃ v10, Cl d m_M_bitOf [(0, l4)] M (some (0, v10), M) ∧ at_M_bits_4 d l1 l2 (ior l3 v10) (w32 (l4 + 1)) M r))))) : at_M_bits_4 d l1 l2 l3 l4 M r := by
  unfold at_M_bits_4
  refine x_il (pc' := 5) rfl rfl rfl ?_
  refine x_c (pc' := 6) rfl rfl ?_
  refine x_icge (pc' := 7) (t' := 37) rfl rfl rfl (fun q1 => ?_) (fun q1 => ?_)
  · replace h := ite_t q1 h
    refine x_il (pc' := 38) rfl rfl rfl ?_
    exact x_iret rfl h
  · replace h := ite_f q1 h
    refine x_al (pc' := 8) rfl rfl (by decide) rfl ?_
    refine x_gr (pc' := 9) (v := 65) rfl rfl rfl (by decide) rfl ?_
    refine x_c (pc' := 10) rfl rfl ?_
    refine x_il (pc' := 11) rfl rfl rfl ?_
    refine x_ib (pc' := 12) (v := w32 (10 * l1)) rfl rfl rfl ?_
    refine x_il (pc' := 13) rfl rfl rfl ?_
    refine x_ib (pc' := 14) (v := w32 ((w32 (10 * l1)) + l4)) rfl rfl rfl ?_
    obtain ⟨q2, h⟩ := h
    refine x_ia (pc' := 15) 120 (v := M 65 (w32 ((w32 (10 * l1)) + l4))) rfl rfl rfl q2.1 q2.2 rfl ?_
    refine x_c (pc' := 16) rfl rfl ?_
    refine x_iceq (pc' := 17) (t' := 30) rfl rfl rfl (fun q3 => ?_) (fun q3 => ?_)
    · replace h := ite_t q3 h
      refine x_il (pc' := 31) rfl rfl rfl ?_
      refine x_il (pc' := 32) rfl rfl rfl ?_
      obtain ⟨v5, q4, h⟩ := h
      refine x_call (pc' := 33) (as := [(0, l4)]) (rest := [(0, l3)]) rfl rfl rfl rfl rfl rfl q4 ?_
      refine x_ib (pc' := 34) (v := ior l3 v5) rfl rfl rfl ?_
      refine x_is (pc' := 35) (ls' := [(2, 64), (0, l1), (0, l2), (0, ior l3 v5), (0, l4)]) rfl rfl rfl rfl ?_
      refine x_inc (pc' := 36) (ls' := [(2, 64), (0, l1), (0, l2), (0, ior l3 v5), (0, w32 (l4 + 1))]) rfl rfl rfl rfl ?_
      refine x_goto (t' := 4) rfl rfl ?_
      exact h
    · replace h := ite_f q3 h
      refine x_il (pc' := 18) rfl rfl rfl ?_
      refine x_c (pc' := 19) rfl rfl ?_
      refine x_icne (pc' := 20) (t' := 35) rfl rfl rfl (fun q6 => ?_) (fun q6 => ?_)
      · replace h := ite_t q6 h
        refine x_inc (pc' := 36) (ls' := [(2, 64), (0, l1), (0, l2), (0, l3), (0, w32 (l4 + 1))]) rfl rfl rfl rfl ?_
        refine x_goto (t' := 4) rfl rfl ?_
        exact h
      · replace h := ite_f q6 h
        refine x_al (pc' := 21) rfl rfl (by decide) rfl ?_
        refine x_gr (pc' := 22) (v := 65) rfl rfl rfl (by decide) rfl ?_
        refine x_c (pc' := 23) rfl rfl ?_
        refine x_il (pc' := 24) rfl rfl rfl ?_
        refine x_ib (pc' := 25) (v := w32 (10 * l1)) rfl rfl rfl ?_
        refine x_il (pc' := 26) rfl rfl rfl ?_
        refine x_ib (pc' := 27) (v := w32 ((w32 (10 * l1)) + l4)) rfl rfl rfl ?_
        obtain ⟨q7, h⟩ := h
        refine x_ia (pc' := 28) 120 (v := M 65 (w32 ((w32 (10 * l1)) + l4))) rfl rfl rfl q7.1 q7.2 rfl ?_
        refine x_c (pc' := 29) rfl rfl ?_
        refine x_icle (pc' := 30) (t' := 35) rfl rfl rfl (fun q8 => ?_) (fun q8 => ?_)
        · replace h := ite_t q8 h
          refine x_inc (pc' := 36) (ls' := [(2, 64), (0, l1), (0, l2), (0, l3), (0, w32 (l4 + 1))]) rfl rfl rfl rfl ?_
          refine x_goto (t' := 4) rfl rfl ?_
          exact h
        · replace h := ite_f q8 h
          refine x_il (pc' := 31) rfl rfl rfl ?_
          refine x_il (pc' := 32) rfl rfl rfl ?_
          obtain ⟨v10, q9, h⟩ := h
          refine x_call (pc' := 33) (as := [(0, l4)]) (rest := [(0, l3)]) rfl rfl rfl rfl rfl rfl q9 ?_
          refine x_ib (pc' := 34) (v := ior l3 v10) rfl rfl rfl ?_
          refine x_is (pc' := 35) (ls' := [(2, 64), (0, l1), (0, l2), (0, ior l3 v10), (0, l4)]) rfl rfl rfl rfl ?_
          refine x_inc (pc' := 36) (ls' := [(2, 64), (0, l1), (0, l2), (0, ior l3 v10), (0, w32 (l4 + 1))]) rfl rfl rfl rfl ?_
          refine x_goto (t' := 4) rfl rfl ?_
          exact h
theorem sg_M_isIn {d : Nat} {p1 p2 : Int} {M : Mem} {r : Res} (h : ∃ v2, Cl d m_M_bits [(2, 64), (0, p1), (0, 0)] M (some (0, v2), M) ∧ (if ¬ iand p2 v2 = v2 then r = (some (0, 0), M) else ∃ v5, Cl d m_M_bits [(2, 64), (0, p1), (0, 1)] M (some (0, v5), M) ∧ (if ¬ iand p2 (ixor v5 (-1)) = 0 then r = (some (0, 0), M) else r = (some (0, 1), M)))) : Cl (d + 1) m_M_isIn [(2, 64), (0, p1), (0, p2)] M r := by
  refine cl_of (c := k_M_isIn) (mL := 4) (rz := 3) (rc := 7) (ls := [(2, 64), (0, p1), (0, p2), (3, 0)]) rfl rfl rfl ?_
  refine x_al (pc' := 1) rfl rfl (by decide) rfl ?_
  refine x_il (pc' := 2) rfl rfl rfl ?_
  refine x_c (pc' := 3) rfl rfl ?_
  obtain ⟨v2, q1, h⟩ := h
  refine x_call (pc' := 4) (as := [(2, 64), (0, p1), (0, 0)]) (rest := []) rfl rfl rfl rfl rfl rfl q1 ?_
  refine x_is (pc' := 5) (ls' := [(2, 64), (0, p1), (0, p2), (0, v2)]) rfl rfl rfl rfl ?_
  refine x_il (pc' := 6) rfl rfl rfl ?_
  refine x_il (pc' := 7) rfl rfl rfl ?_
  refine x_ib (pc' := 8) (v := iand p2 v2) rfl rfl rfl ?_
  refine x_il (pc' := 9) rfl rfl rfl ?_
  refine x_icne (pc' := 10) (t' := 21) rfl rfl rfl (fun q3 => ?_) (fun q3 => ?_)
  · replace h := ite_t q3 h
    refine x_c (pc' := 22) rfl rfl ?_
    exact x_zret rfl (by decide) h
  · replace h := ite_f q3 h
    refine x_il (pc' := 11) rfl rfl rfl ?_
    refine x_al (pc' := 12) rfl rfl (by decide) rfl ?_
    refine x_il (pc' := 13) rfl rfl rfl ?_
    refine x_c (pc' := 14) rfl rfl ?_
    obtain ⟨v5, q4, h⟩ := h
    refine x_call (pc' := 15) (as := [(2, 64), (0, p1), (0, 1)]) (rest := [(0, p2)]) rfl rfl rfl rfl rfl rfl q4 ?_
    refine x_c (pc' := 16) rfl rfl ?_
    refine x_ib (pc' := 17) (v := ixor v5 (-1)) rfl rfl rfl ?_
    refine x_ib (pc' := 18) (v := iand p2 (ixor v5 (-1))) rfl rfl rfl ?_
    refine x_ifne (pc' := 19) (t' := 21) rfl rfl rfl (fun q6 => ?_) (fun q6 => ?_)
    · replace h := ite_t q6 h
      refine x_c (pc' := 22) rfl rfl ?_
      exact x_zret rfl (by decide) h
    · replace h := ite_f q6 h
      refine x_c (pc' := 20) rfl rfl ?_
      refine x_goto (t' := 22) rfl rfl ?_
      exact x_zret rfl (by decide) h
theorem sg_M_drawer {d : Nat} {p1 p2 : Int} {M : Mem} {r : Res} (h : ∃ v2, Cl d m_M_isCard [(2, 64), (0, p1)] M (some (0, v2), M) ∧ (if v2 = 0 then r = (some (0, (-1)), M) else ∃ v5, Cl d m_M_within [(0, p2), (0, 0), (0, 4)] M (some (0, v5), M) ∧ (if ¬ v5 = 0 then ∃ v8, Cl d m_M_bits [(2, 64), (0, p1), (0, 0)] M (some (0, v8), M) ∧ ∃ v10, Cl d m_M_bits [(2, 64), (0, p1), (0, 1)] M (some (0, v10), M) ∧ (if p2 = 0 then r = (some (0, v8), M) else (if p2 = 1 then r = (some (0, v10), M) else (if p2 = 2 then ∃ v15, Cl d m_J_bitCount [(0, v10)] M (some (0, v15), M) ∧ ∃ v17, Cl d m_J_bitCount [(0, v8)] M (some (0, v17), M) ∧ r = (some (0, ishl 1 (w32 (v15 - v17))), M) else (if p2 = 3 then ∃ v20, Cl d m_J_bitCount [(0, v8)] M (some (0, v20), M) ∧ r = (some (0, v20), M) else ∃ v22, Cl d m_J_bitCount [(0, v10)] M (some (0, v22), M) ∧ r = (some (0, v22), M))))) else r = (some (0, (-1)), M)))) : Cl (d + 1) m_M_drawer [(2, 64), (0, p1), (0, p2)] M r := by
  refine cl_of (c := k_M_drawer) (mL := 5) (rz := 1) (rc := 7) (ls := [(2, 64), (0, p1), (0, p2), (3, 0), (3, 0)]) rfl rfl rfl ?_
  refine x_al (pc' := 1) rfl rfl (by decide) rfl ?_
  refine x_il (pc' := 2) rfl rfl rfl ?_
  obtain ⟨v2, q1, h⟩ := h
  refine x_call (pc' := 3) (as := [(2, 64), (0, p1)]) (rest := []) rfl rfl rfl rfl rfl rfl q1 ?_
  refine x_ifeq (pc' := 4) (t' := 9) rfl rfl rfl (fun q3 => ?_) (fun q3 => ?_)
  · replace h := ite_t q3 h
    refine x_c (pc' := 10) rfl rfl ?_
    exact x_iret rfl h
  · replace h := ite_f q3 h
    refine x_il (pc' := 5) rfl rfl rfl ?_
    refine x_c (pc' := 6) rfl rfl ?_
    refine x_c (pc' := 7) rfl rfl ?_
    obtain ⟨v5, q4, h⟩ := h
    refine x_call (pc' := 8) (as := [(0, p2), (0, 0), (0, 4)]) (rest := []) rfl rfl rfl rfl rfl rfl q4 ?_
    refine x_ifne (pc' := 9) (t' := 11) rfl rfl rfl (fun q6 => ?_) (fun q6 => ?_)
    · replace h := ite_t q6 h
      refine x_al (pc' := 12) rfl rfl (by decide) rfl ?_
      refine x_il (pc' := 13) rfl rfl rfl ?_
      refine x_c (pc' := 14) rfl rfl ?_
      obtain ⟨v8, q7, h⟩ := h
      refine x_call (pc' := 15) (as := [(2, 64), (0, p1), (0, 0)]) (rest := []) rfl rfl rfl rfl rfl rfl q7 ?_
      refine x_is (pc' := 16) (ls' := [(2, 64), (0, p1), (0, p2), (0, v8), (3, 0)]) rfl rfl rfl rfl ?_
      refine x_al (pc' := 17) rfl rfl (by decide) rfl ?_
      refine x_il (pc' := 18) rfl rfl rfl ?_
      refine x_c (pc' := 19) rfl rfl ?_
      obtain ⟨v10, q9, h⟩ := h
      refine x_call (pc' := 20) (as := [(2, 64), (0, p1), (0, 1)]) (rest := []) rfl rfl rfl rfl rfl rfl q9 ?_
      refine x_is (pc' := 21) (ls' := [(2, 64), (0, p1), (0, p2), (0, v8), (0, v10)]) rfl rfl rfl rfl ?_
      refine x_il (pc' := 22) rfl rfl rfl ?_
      by_cases q11 : p2 = 0
      · replace h := ite_t q11 h
        refine x_tswv (t' := 23) 0 rfl q11 rfl rfl ?_
        refine x_il (pc' := 24) rfl rfl rfl ?_
        exact x_iret rfl h
      replace h := ite_f q11 h
      by_cases q12 : p2 = 1
      · replace h := ite_t q12 h
        refine x_tswv (t' := 25) 1 rfl q12 rfl rfl ?_
        refine x_il (pc' := 26) rfl rfl rfl ?_
        exact x_iret rfl h
      replace h := ite_f q12 h
      by_cases q13 : p2 = 2
      · replace h := ite_t q13 h
        refine x_tswv (t' := 27) 2 rfl q13 rfl rfl ?_
        refine x_c (pc' := 28) rfl rfl ?_
        refine x_il (pc' := 29) rfl rfl rfl ?_
        obtain ⟨v15, q14, h⟩ := h
        refine x_call (pc' := 30) (as := [(0, v10)]) (rest := [(0, 1)]) rfl rfl rfl rfl rfl rfl q14 ?_
        refine x_il (pc' := 31) rfl rfl rfl ?_
        obtain ⟨v17, q16, h⟩ := h
        refine x_call (pc' := 32) (as := [(0, v8)]) (rest := [(0, v15), (0, 1)]) rfl rfl rfl rfl rfl rfl q16 ?_
        refine x_ib (pc' := 33) (v := w32 (v15 - v17)) rfl rfl rfl ?_
        refine x_ib (pc' := 34) (v := ishl 1 (w32 (v15 - v17))) rfl rfl rfl ?_
        exact x_iret rfl h
      replace h := ite_f q13 h
      by_cases q18 : p2 = 3
      · replace h := ite_t q18 h
        refine x_tswv (t' := 35) 3 rfl q18 rfl rfl ?_
        refine x_il (pc' := 36) rfl rfl rfl ?_
        obtain ⟨v20, q19, h⟩ := h
        refine x_call (pc' := 37) (as := [(0, v8)]) (rest := []) rfl rfl rfl rfl rfl rfl q19 ?_
        exact x_iret rfl h
      replace h := ite_f q18 h
      refine x_tswd (t' := 38) rfl (show p2 < 0 ∨ 0 + ((4 : Nat) : Int) ≤ p2 by omega) rfl ?_
      refine x_il (pc' := 39) rfl rfl rfl ?_
      obtain ⟨v22, q21, h⟩ := h
      refine x_call (pc' := 40) (as := [(0, v10)]) (rest := []) rfl rfl rfl rfl rfl rfl q21 ?_
      exact x_iret rfl h
    · replace h := ite_f q6 h
      refine x_c (pc' := 10) rfl rfl ?_
      exact x_iret rfl h
theorem sg_M_may {d : Nat} {p1 p2 : Int} {M : Mem} {r : Res} (h : ∃ v2, Cl d m_M_isCard [(2, 64), (0, p1)] M (some (0, v2), M) ∧ (if v2 = 0 then r = (some (0, (-1)), M) else ∃ v5, Cl d m_M_isDrawer [(0, p2)] M (some (0, v5), M) ∧ (if v5 = 0 then r = (some (0, (-1)), M) else ∃ v8, Cl d m_M_isIn [(2, 64), (0, p1), (0, p2)] M (some (0, v8), M) ∧ (if v8 = 0 then r = (some (0, 0), M) else r = (some (0, 1), M))))) : Cl (d + 1) m_M_may [(2, 64), (0, p1), (0, p2)] M r := by
  refine cl_of (c := k_M_may) (mL := 3) (rz := 1) (rc := 7) (ls := [(2, 64), (0, p1), (0, p2)]) rfl rfl rfl ?_
  refine x_al (pc' := 1) rfl rfl (by decide) rfl ?_
  refine x_il (pc' := 2) rfl rfl rfl ?_
  obtain ⟨v2, q1, h⟩ := h
  refine x_call (pc' := 3) (as := [(2, 64), (0, p1)]) (rest := []) rfl rfl rfl rfl rfl rfl q1 ?_
  refine x_ifeq (pc' := 4) (t' := 16) rfl rfl rfl (fun q3 => ?_) (fun q3 => ?_)
  · replace h := ite_t q3 h
    refine x_c (pc' := 17) rfl rfl ?_
    exact x_iret rfl h
  · replace h := ite_f q3 h
    refine x_il (pc' := 5) rfl rfl rfl ?_
    obtain ⟨v5, q4, h⟩ := h
    refine x_call (pc' := 6) (as := [(0, p2)]) (rest := []) rfl rfl rfl rfl rfl rfl q4 ?_
    refine x_ifeq (pc' := 7) (t' := 16) rfl rfl rfl (fun q6 => ?_) (fun q6 => ?_)
    · replace h := ite_t q6 h
      refine x_c (pc' := 17) rfl rfl ?_
      exact x_iret rfl h
    · replace h := ite_f q6 h
      refine x_al (pc' := 8) rfl rfl (by decide) rfl ?_
      refine x_il (pc' := 9) rfl rfl rfl ?_
      refine x_il (pc' := 10) rfl rfl rfl ?_
      obtain ⟨v8, q7, h⟩ := h
      refine x_call (pc' := 11) (as := [(2, 64), (0, p1), (0, p2)]) (rest := []) rfl rfl rfl rfl rfl rfl q7 ?_
      refine x_ifeq (pc' := 12) (t' := 14) rfl rfl rfl (fun q9 => ?_) (fun q9 => ?_)
      · replace h := ite_t q9 h
        refine x_c (pc' := 15) rfl rfl ?_
        refine x_goto (t' := 17) rfl rfl ?_
        exact x_iret rfl h
      · replace h := ite_f q9 h
        refine x_c (pc' := 13) rfl rfl ?_
        refine x_goto (t' := 17) rfl rfl ?_
        exact x_iret rfl h
def at_M_misfiled_4 (d : Nat) (l1 : Int) (l2 : Int) (M : Mem) (r : Res) : Prop := Ex sx0 d k_M_misfiled 1 4 [(2, 64), (0, l1), (0, l2)] [] M r
theorem sg_M_misfiled {d : Nat} {M : Mem} {r : Res} (h : at_M_misfiled_4 d 0 0 M r) : Cl (d + 1) m_M_misfiled [(2, 64)] M r := by
  refine cl_of (c := k_M_misfiled) (mL := 3) (rz := 1) (rc := 7) (ls := [(2, 64), (3, 0), (3, 0)]) rfl rfl rfl ?_
  refine x_c (pc' := 1) rfl rfl ?_
  refine x_is (pc' := 2) (ls' := [(2, 64), (0, 0), (3, 0)]) rfl rfl rfl rfl ?_
  refine x_c (pc' := 3) rfl rfl ?_
  refine x_is (pc' := 4) (ls' := [(2, 64), (0, 0), (0, 0)]) rfl rfl rfl rfl ?_
  exact h
theorem sg_M_misfiled_4 {d : Nat} {l1 : Int} {l2 : Int} {M : Mem} {r : Res} (h : (if M 64 0 ≤ l2 then r = (some (0, l1), M) else (0 ≤ l2 ∧ l2 < 12) ∧ (if M 67 l2 = (-2000000000) then at_M_misfiled_4 d l1 (w32 (l2 + 1)) M r else (0 ≤ l2 ∧ l2 < 12) ∧ ∃ v6, Cl d m_M_isIn [(2, 64), (0, l2), (0, M 67 l2)] M (some (0, v6), M) ∧ (if ¬ v6 = 0 then at_M_misfiled_4 d l1 (w32 (l2 + 1)) M r else at_M_misfiled_4 d (ior l1 (ishl 1 l2)) (w32 (l2 + 1)) M r)))) : at_M_misfiled_4 d l1 l2 M r := by
  unfold at_M_misfiled_4
  refine x_il (pc' := 5) rfl rfl rfl ?_
  refine x_al (pc' := 6) rfl rfl (by decide) rfl ?_
  refine x_gf (pc' := 7) (v := M 64 0) rfl rfl rfl rfl rfl ?_
  refine x_icge (pc' := 8) (t' := 30) rfl rfl rfl (fun q1 => ?_) (fun q1 => ?_)
  · replace h := ite_t q1 h
    refine x_il (pc' := 31) rfl rfl rfl ?_
    exact x_iret rfl h
  · replace h := ite_f q1 h
    refine x_al (pc' := 9) rfl rfl (by decide) rfl ?_
    refine x_gr (pc' := 10) (v := 67) rfl rfl rfl (by decide) rfl ?_
    refine x_il (pc' := 11) rfl rfl rfl ?_
    obtain ⟨q2, h⟩ := h
    refine x_ia (pc' := 12) 12 (v := M 67 l2) rfl rfl rfl q2.1 q2.2 rfl ?_
    refine x_c (pc' := 13) rfl rfl ?_
    refine x_iceq (pc' := 14) (t' := 28) rfl rfl rfl (fun q3 => ?_) (fun q3 => ?_)
    · replace h := ite_t q3 h
      refine x_inc (pc' := 29) (ls' := [(2, 64), (0, l1), (0, w32 (l2 + 1))]) rfl rfl rfl rfl ?_
      refine x_goto (t' := 4) rfl rfl ?_
      exact h
    · replace h := ite_f q3 h
      refine x_al (pc' := 15) rfl rfl (by decide) rfl ?_
      refine x_il (pc' := 16) rfl rfl rfl ?_
      refine x_al (pc' := 17) rfl rfl (by decide) rfl ?_
      refine x_gr (pc' := 18) (v := 67) rfl rfl rfl (by decide) rfl ?_
      refine x_il (pc' := 19) rfl rfl rfl ?_
      obtain ⟨q4, h⟩ := h
      refine x_ia (pc' := 20) 12 (v := M 67 l2) rfl rfl rfl q4.1 q4.2 rfl ?_
      obtain ⟨v6, q5, h⟩ := h
      refine x_call (pc' := 21) (as := [(2, 64), (0, l2), (0, M 67 l2)]) (rest := []) rfl rfl rfl rfl rfl rfl q5 ?_
      refine x_ifne (pc' := 22) (t' := 28) rfl rfl rfl (fun q7 => ?_) (fun q7 => ?_)
      · replace h := ite_t q7 h
        refine x_inc (pc' := 29) (ls' := [(2, 64), (0, l1), (0, w32 (l2 + 1))]) rfl rfl rfl rfl ?_
        refine x_goto (t' := 4) rfl rfl ?_
        exact h
      · replace h := ite_f q7 h
        refine x_il (pc' := 23) rfl rfl rfl ?_
        refine x_c (pc' := 24) rfl rfl ?_
        refine x_il (pc' := 25) rfl rfl rfl ?_
        refine x_ib (pc' := 26) (v := ishl 1 l2) rfl rfl rfl ?_
        refine x_ib (pc' := 27) (v := ior l1 (ishl 1 l2)) rfl rfl rfl ?_
        refine x_is (pc' := 28) (ls' := [(2, 64), (0, ior l1 (ishl 1 l2)), (0, l2)]) rfl rfl rfl rfl ?_
        refine x_inc (pc' := 29) (ls' := [(2, 64), (0, ior l1 (ishl 1 l2)), (0, w32 (l2 + 1))]) rfl rfl rfl rfl ?_
        refine x_goto (t' := 4) rfl rfl ?_
        exact h
def at_M_found_28 (d : Nat) (l1 : Int) (l2 : Int) (l3 : Int) (M : Mem) (r : Res) : Prop := Ex sx0 d k_M_found 1 28 [(2, 64), (0, l1), (0, l2), (0, l3)] [] M r
theorem sg_M_found {d : Nat} {p1 : Int} {M : Mem} {r : Res} (h : ∃ v2, Cl d m_M_isCard [(2, 64), (0, p1)] M (some (0, v2), M) ∧ (if ¬ v2 = 0 then (0 ≤ p1 ∧ p1 < 12) ∧ (if ¬ M 67 p1 = (-2000000000) then (0 ≤ p1 ∧ p1 < 12) ∧ ∃ v8, Cl d m_M_isIn [(2, 64), (0, p1), (0, M 67 p1)] M (some (0, v8), M) ∧ (if v8 = 0 then at_M_found_28 d p1 0 1 M r else r = (some (0, 0), M)) else r = (some (0, (-2)), M)) else r = (some (0, (-1)), M))) : Cl (d + 1) m_M_found [(2, 64), (0, p1)] M r := by
  refine cl_of (c := k_M_found) (mL := 4) (rz := 1) (rc := 7) (ls := [(2, 64), (0, p1), (3, 0), (3, 0)]) rfl rfl rfl ?_
  refine x_al (pc' := 1) rfl rfl (by decide) rfl ?_
  refine x_il (pc' := 2) rfl rfl rfl ?_
  obtain ⟨v2, q1, h⟩ := h
  refine x_call (pc' := 3) (as := [(2, 64), (0, p1)]) (rest := []) rfl rfl rfl rfl rfl rfl q1 ?_
  refine x_ifne (pc' := 4) (t' := 6) rfl rfl rfl (fun q3 => ?_) (fun q3 => ?_)
  · replace h := ite_t q3 h
    refine x_al (pc' := 7) rfl rfl (by decide) rfl ?_
    refine x_gr (pc' := 8) (v := 67) rfl rfl rfl (by decide) rfl ?_
    refine x_il (pc' := 9) rfl rfl rfl ?_
    obtain ⟨q4, h⟩ := h
    refine x_ia (pc' := 10) 12 (v := M 67 p1) rfl rfl rfl q4.1 q4.2 rfl ?_
    refine x_c (pc' := 11) rfl rfl ?_
    refine x_icne (pc' := 12) (t' := 14) rfl rfl rfl (fun q5 => ?_) (fun q5 => ?_)
    · replace h := ite_t q5 h
      refine x_al (pc' := 15) rfl rfl (by decide) rfl ?_
      refine x_il (pc' := 16) rfl rfl rfl ?_
      refine x_al (pc' := 17) rfl rfl (by decide) rfl ?_
      refine x_gr (pc' := 18) (v := 67) rfl rfl rfl (by decide) rfl ?_
      refine x_il (pc' := 19) rfl rfl rfl ?_
      obtain ⟨q6, h⟩ := h
      refine x_ia (pc' := 20) 12 (v := M 67 p1) rfl rfl rfl q6.1 q6.2 rfl ?_
      obtain ⟨v8, q7, h⟩ := h
      refine x_call (pc' := 21) (as := [(2, 64), (0, p1), (0, M 67 p1)]) (rest := []) rfl rfl rfl rfl rfl rfl q7 ?_
      refine x_ifeq (pc' := 22) (t' := 24) rfl rfl rfl (fun q9 => ?_) (fun q9 => ?_)
      · replace h := ite_t q9 h
        refine x_c (pc' := 25) rfl rfl ?_
        refine x_is (pc' := 26) (ls' := [(2, 64), (0, p1), (0, 0), (3, 0)]) rfl rfl rfl rfl ?_
        refine x_c (pc' := 27) rfl rfl ?_
        refine x_is (pc' := 28) (ls' := [(2, 64), (0, p1), (0, 0), (0, 1)]) rfl rfl rfl rfl ?_
        exact h
      · replace h := ite_f q9 h
        refine x_c (pc' := 23) rfl rfl ?_
        exact x_iret rfl h
    · replace h := ite_f q5 h
      refine x_c (pc' := 13) rfl rfl ?_
      exact x_iret rfl h
  · replace h := ite_f q3 h
    refine x_c (pc' := 5) rfl rfl ?_
    exact x_iret rfl h
theorem sg_M_found_28 {d : Nat} {l1 : Int} {l2 : Int} {l3 : Int} {M : Mem} {r : Res} (h : (if 1024 ≤ l3 then r = (some (0, (-2)), M) else (0 ≤ l1 ∧ l1 < 12) ∧ ∃ v4, Cl d m_M_isDrawer [(0, w32 ((M 67 l1) + l3))] M (some (0, v4), M) ∧ (if v4 = 0 then (0 ≤ l1 ∧ l1 < 12) ∧ ∃ v8, Cl d m_M_isDrawer [(0, w32 ((M 67 l1) - l3))] M (some (0, v8), M) ∧ (if v8 = 0 then at_M_found_28 d l1 l2 (w32 (l3 + 1)) M r else (0 ≤ l1 ∧ l1 < 12) ∧ ∃ v12, Cl d m_M_isIn [(2, 64), (0, l1), (0, w32 ((M 67 l1) - l3))] M (some (0, v12), M) ∧ (if v12 = 0 then at_M_found_28 d l1 (w32 (l2 + 1)) (w32 (l3 + 1)) M r else r = (some (0, w32 (l2 + 1)), M))) else (0 ≤ l1 ∧ l1 < 12) ∧ ∃ v16, Cl d m_M_isIn [(2, 64), (0, l1), (0, w32 ((M 67 l1) + l3))] M (some (0, v16), M) ∧ (if v16 = 0 then (0 ≤ l1 ∧ l1 < 12) ∧ ∃ v20, Cl d m_M_isDrawer [(0, w32 ((M 67 l1) - l3))] M (some (0, v20), M) ∧ (if v20 = 0 then at_M_found_28 d l1 (w32 (l2 + 1)) (w32 (l3 + 1)) M r else (0 ≤ l1 ∧ l1 < 12) ∧ ∃ v24, Cl d m_M_isIn [(2, 64), (0, l1), (0, w32 ((M 67 l1) - l3))] M (some (0, v24), M) ∧ (if v24 = 0 then at_M_found_28 d l1 (w32 (w32 (l2 + 1) + 1)) (w32 (l3 + 1)) M r else r = (some (0, w32 (w32 (l2 + 1) + 1)), M))) else r = (some (0, w32 (l2 + 1)), M))))) : at_M_found_28 d l1 l2 l3 M r := by
  unfold at_M_found_28
  refine x_il (pc' := 29) rfl rfl rfl ?_
  refine x_c (pc' := 30) rfl rfl ?_
  refine x_icge (pc' := 31) (t' := 75) rfl rfl rfl (fun q1 => ?_) (fun q1 => ?_)
  · replace h := ite_t q1 h
    refine x_c (pc' := 76) rfl rfl ?_
    exact x_iret rfl h
  · replace h := ite_f q1 h
    refine x_al (pc' := 32) rfl rfl (by decide) rfl ?_
    refine x_gr (pc' := 33) (v := 67) rfl rfl rfl (by decide) rfl ?_
    refine x_il (pc' := 34) rfl rfl rfl ?_
    obtain ⟨q2, h⟩ := h
    refine x_ia (pc' := 35) 12 (v := M 67 l1) rfl rfl rfl q2.1 q2.2 rfl ?_
    refine x_il (pc' := 36) rfl rfl rfl ?_
    refine x_ib (pc' := 37) (v := w32 ((M 67 l1) + l3)) rfl rfl rfl ?_
    obtain ⟨v4, q3, h⟩ := h
    refine x_call (pc' := 38) (as := [(0, w32 ((M 67 l1) + l3))]) (rest := []) rfl rfl rfl rfl rfl rfl q3 ?_
    refine x_ifeq (pc' := 39) (t' := 52) rfl rfl rfl (fun q5 => ?_) (fun q5 => ?_)
    · replace h := ite_t q5 h
      refine x_al (pc' := 53) rfl rfl (by decide) rfl ?_
      refine x_gr (pc' := 54) (v := 67) rfl rfl rfl (by decide) rfl ?_
      refine x_il (pc' := 55) rfl rfl rfl ?_
      obtain ⟨q6, h⟩ := h
      refine x_ia (pc' := 56) 12 (v := M 67 l1) rfl rfl rfl q6.1 q6.2 rfl ?_
      refine x_il (pc' := 57) rfl rfl rfl ?_
      refine x_ib (pc' := 58) (v := w32 ((M 67 l1) - l3)) rfl rfl rfl ?_
      obtain ⟨v8, q7, h⟩ := h
      refine x_call (pc' := 59) (as := [(0, w32 ((M 67 l1) - l3))]) (rest := []) rfl rfl rfl rfl rfl rfl q7 ?_
      refine x_ifeq (pc' := 60) (t' := 73) rfl rfl rfl (fun q9 => ?_) (fun q9 => ?_)
      · replace h := ite_t q9 h
        refine x_inc (pc' := 74) (ls' := [(2, 64), (0, l1), (0, l2), (0, w32 (l3 + 1))]) rfl rfl rfl rfl ?_
        refine x_goto (t' := 28) rfl rfl ?_
        exact h
      · replace h := ite_f q9 h
        refine x_inc (pc' := 61) (ls' := [(2, 64), (0, l1), (0, w32 (l2 + 1)), (0, l3)]) rfl rfl rfl rfl ?_
        refine x_al (pc' := 62) rfl rfl (by decide) rfl ?_
        refine x_il (pc' := 63) rfl rfl rfl ?_
        refine x_al (pc' := 64) rfl rfl (by decide) rfl ?_
        refine x_gr (pc' := 65) (v := 67) rfl rfl rfl (by decide) rfl ?_
        refine x_il (pc' := 66) rfl rfl rfl ?_
        obtain ⟨q10, h⟩ := h
        refine x_ia (pc' := 67) 12 (v := M 67 l1) rfl rfl rfl q10.1 q10.2 rfl ?_
        refine x_il (pc' := 68) rfl rfl rfl ?_
        refine x_ib (pc' := 69) (v := w32 ((M 67 l1) - l3)) rfl rfl rfl ?_
        obtain ⟨v12, q11, h⟩ := h
        refine x_call (pc' := 70) (as := [(2, 64), (0, l1), (0, w32 ((M 67 l1) - l3))]) (rest := []) rfl rfl rfl rfl rfl rfl q11 ?_
        refine x_ifeq (pc' := 71) (t' := 73) rfl rfl rfl (fun q13 => ?_) (fun q13 => ?_)
        · replace h := ite_t q13 h
          refine x_inc (pc' := 74) (ls' := [(2, 64), (0, l1), (0, w32 (l2 + 1)), (0, w32 (l3 + 1))]) rfl rfl rfl rfl ?_
          refine x_goto (t' := 28) rfl rfl ?_
          exact h
        · replace h := ite_f q13 h
          refine x_il (pc' := 72) rfl rfl rfl ?_
          exact x_iret rfl h
    · replace h := ite_f q5 h
      refine x_inc (pc' := 40) (ls' := [(2, 64), (0, l1), (0, w32 (l2 + 1)), (0, l3)]) rfl rfl rfl rfl ?_
      refine x_al (pc' := 41) rfl rfl (by decide) rfl ?_
      refine x_il (pc' := 42) rfl rfl rfl ?_
      refine x_al (pc' := 43) rfl rfl (by decide) rfl ?_
      refine x_gr (pc' := 44) (v := 67) rfl rfl rfl (by decide) rfl ?_
      refine x_il (pc' := 45) rfl rfl rfl ?_
      obtain ⟨q14, h⟩ := h
      refine x_ia (pc' := 46) 12 (v := M 67 l1) rfl rfl rfl q14.1 q14.2 rfl ?_
      refine x_il (pc' := 47) rfl rfl rfl ?_
      refine x_ib (pc' := 48) (v := w32 ((M 67 l1) + l3)) rfl rfl rfl ?_
      obtain ⟨v16, q15, h⟩ := h
      refine x_call (pc' := 49) (as := [(2, 64), (0, l1), (0, w32 ((M 67 l1) + l3))]) (rest := []) rfl rfl rfl rfl rfl rfl q15 ?_
      refine x_ifeq (pc' := 50) (t' := 52) rfl rfl rfl (fun q17 => ?_) (fun q17 => ?_)
      · replace h := ite_t q17 h
        refine x_al (pc' := 53) rfl rfl (by decide) rfl ?_
        refine x_gr (pc' := 54) (v := 67) rfl rfl rfl (by decide) rfl ?_
        refine x_il (pc' := 55) rfl rfl rfl ?_
        obtain ⟨q18, h⟩ := h
        refine x_ia (pc' := 56) 12 (v := M 67 l1) rfl rfl rfl q18.1 q18.2 rfl ?_
        refine x_il (pc' := 57) rfl rfl rfl ?_
        refine x_ib (pc' := 58) (v := w32 ((M 67 l1) - l3)) rfl rfl rfl ?_
        obtain ⟨v20, q19, h⟩ := h
        refine x_call (pc' := 59) (as := [(0, w32 ((M 67 l1) - l3))]) (rest := []) rfl rfl rfl rfl rfl rfl q19 ?_
        refine x_ifeq (pc' := 60) (t' := 73) rfl rfl rfl (fun q21 => ?_) (fun q21 => ?_)
        · replace h := ite_t q21 h
          refine x_inc (pc' := 74) (ls' := [(2, 64), (0, l1), (0, w32 (l2 + 1)), (0, w32 (l3 + 1))]) rfl rfl rfl rfl ?_
          refine x_goto (t' := 28) rfl rfl ?_
          exact h
        · replace h := ite_f q21 h
          refine x_inc (pc' := 61) (ls' := [(2, 64), (0, l1), (0, w32 (w32 (l2 + 1) + 1)), (0, l3)]) rfl rfl rfl rfl ?_
          refine x_al (pc' := 62) rfl rfl (by decide) rfl ?_
          refine x_il (pc' := 63) rfl rfl rfl ?_
          refine x_al (pc' := 64) rfl rfl (by decide) rfl ?_
          refine x_gr (pc' := 65) (v := 67) rfl rfl rfl (by decide) rfl ?_
          refine x_il (pc' := 66) rfl rfl rfl ?_
          obtain ⟨q22, h⟩ := h
          refine x_ia (pc' := 67) 12 (v := M 67 l1) rfl rfl rfl q22.1 q22.2 rfl ?_
          refine x_il (pc' := 68) rfl rfl rfl ?_
          refine x_ib (pc' := 69) (v := w32 ((M 67 l1) - l3)) rfl rfl rfl ?_
          obtain ⟨v24, q23, h⟩ := h
          refine x_call (pc' := 70) (as := [(2, 64), (0, l1), (0, w32 ((M 67 l1) - l3))]) (rest := []) rfl rfl rfl rfl rfl rfl q23 ?_
          refine x_ifeq (pc' := 71) (t' := 73) rfl rfl rfl (fun q25 => ?_) (fun q25 => ?_)
          · replace h := ite_t q25 h
            refine x_inc (pc' := 74) (ls' := [(2, 64), (0, l1), (0, w32 (w32 (l2 + 1) + 1)), (0, w32 (l3 + 1))]) rfl rfl rfl rfl ?_
            refine x_goto (t' := 28) rfl rfl ?_
            exact h
          · replace h := ite_f q25 h
            refine x_il (pc' := 72) rfl rfl rfl ?_
            exact x_iret rfl h
      · replace h := ite_f q17 h
        refine x_il (pc' := 51) rfl rfl rfl ?_
        exact x_iret rfl h
def at_M_fullness_4 (d : Nat) (l1 : Int) (l2 : Int) (l3 : Int) (M : Mem) (r : Res) : Prop := Ex sx0 d k_M_fullness 1 4 [(2, 64), (0, l1), (0, l2), (0, l3)] [] M r
theorem sg_M_fullness {d : Nat} {p1 : Int} {M : Mem} {r : Res} (h : at_M_fullness_4 d p1 0 0 M r) : Cl (d + 1) m_M_fullness [(2, 64), (0, p1)] M r := by
  refine cl_of (c := k_M_fullness) (mL := 4) (rz := 1) (rc := 7) (ls := [(2, 64), (0, p1), (3, 0), (3, 0)]) rfl rfl rfl ?_
  refine x_c (pc' := 1) rfl rfl ?_
  refine x_is (pc' := 2) (ls' := [(2, 64), (0, p1), (0, 0), (3, 0)]) rfl rfl rfl rfl ?_
  refine x_c (pc' := 3) rfl rfl ?_
  refine x_is (pc' := 4) (ls' := [(2, 64), (0, p1), (0, 0), (0, 0)]) rfl rfl rfl rfl ?_
  exact h
theorem sg_M_fullness_4 {d : Nat} {l1 : Int} {l2 : Int} {l3 : Int} {M : Mem} {r : Res} (h : (if M 64 0 ≤ l3 then r = (some (0, l2), M) else ∃ v3, Cl d m_M_isIn [(2, 64), (0, l3), (0, l1)] M (some (0, v3), M) ∧ (if v3 = 0 then at_M_fullness_4 d l1 l2 (w32 (l3 + 1)) M r else at_M_fullness_4 d l1 (w32 (l2 + 1)) (w32 (l3 + 1)) M r))) : at_M_fullness_4 d l1 l2 l3 M r := by
  unfold at_M_fullness_4
  refine x_il (pc' := 5) rfl rfl rfl ?_
  refine x_al (pc' := 6) rfl rfl (by decide) rfl ?_
  refine x_gf (pc' := 7) (v := M 64 0) rfl rfl rfl rfl rfl ?_
  refine x_icge (pc' := 8) (t' := 16) rfl rfl rfl (fun q1 => ?_) (fun q1 => ?_)
  · replace h := ite_t q1 h
    refine x_il (pc' := 17) rfl rfl rfl ?_
    exact x_iret rfl h
  · replace h := ite_f q1 h
    refine x_al (pc' := 9) rfl rfl (by decide) rfl ?_
    refine x_il (pc' := 10) rfl rfl rfl ?_
    refine x_il (pc' := 11) rfl rfl rfl ?_
    obtain ⟨v3, q2, h⟩ := h
    refine x_call (pc' := 12) (as := [(2, 64), (0, l3), (0, l1)]) (rest := []) rfl rfl rfl rfl rfl rfl q2 ?_
    refine x_ifeq (pc' := 13) (t' := 14) rfl rfl rfl (fun q4 => ?_) (fun q4 => ?_)
    · replace h := ite_t q4 h
      refine x_inc (pc' := 15) (ls' := [(2, 64), (0, l1), (0, l2), (0, w32 (l3 + 1))]) rfl rfl rfl rfl ?_
      refine x_goto (t' := 4) rfl rfl ?_
      exact h
    · replace h := ite_f q4 h
      refine x_inc (pc' := 14) (ls' := [(2, 64), (0, l1), (0, w32 (l2 + 1)), (0, l3)]) rfl rfl rfl rfl ?_
      refine x_inc (pc' := 15) (ls' := [(2, 64), (0, l1), (0, w32 (l2 + 1)), (0, w32 (l3 + 1))]) rfl rfl rfl rfl ?_
      refine x_goto (t' := 4) rfl rfl ?_
      exact h
def at_M_full_19 (d : Nat) (l1 : Int) (l2 : Int) (l3 : Int) (l4 : Int) (w5 : AV) (M : Mem) (r : Res) : Prop := Ex sx0 d k_M_full 1 19 [(2, 64), (0, l1), (0, l2), (0, l3), (0, l4), w5] [] M r
theorem sg_M_full {d : Nat} {p1 : Int} {M : Mem} {r : Res} (h : ∃ v2, Cl d m_M_within [(0, p1), (0, (-2)), (0, 1023)] M (some (0, v2), M) ∧ (if ¬ v2 = 0 then (if p1 < 0 then at_M_full_19 d p1 0 0 0 (3, 0) M r else ∃ v6, Cl d m_M_fullness [(2, 64), (0, p1)] M (some (0, v6), M) ∧ r = (some (0, v6), M)) else r = (some (0, (-1)), M))) : Cl (d + 1) m_M_full [(2, 64), (0, p1)] M r := by
  refine cl_of (c := k_M_full) (mL := 6) (rz := 1) (rc := 7) (ls := [(2, 64), (0, p1), (3, 0), (3, 0), (3, 0), (3, 0)]) rfl rfl rfl ?_
  refine x_il (pc' := 1) rfl rfl rfl ?_
  refine x_c (pc' := 2) rfl rfl ?_
  refine x_c (pc' := 3) rfl rfl ?_
  obtain ⟨v2, q1, h⟩ := h
  refine x_call (pc' := 4) (as := [(0, p1), (0, (-2)), (0, 1023)]) (rest := []) rfl rfl rfl rfl rfl rfl q1 ?_
  refine x_ifne (pc' := 5) (t' := 7) rfl rfl rfl (fun q3 => ?_) (fun q3 => ?_)
  · replace h := ite_t q3 h
    refine x_il (pc' := 8) rfl rfl rfl ?_
    refine x_iflt (pc' := 9) (t' := 13) rfl rfl rfl (fun q4 => ?_) (fun q4 => ?_)
    · replace h := ite_t q4 h
      refine x_c (pc' := 14) rfl rfl ?_
      refine x_is (pc' := 15) (ls' := [(2, 64), (0, p1), (0, 0), (3, 0), (3, 0), (3, 0)]) rfl rfl rfl rfl ?_
      refine x_c (pc' := 16) rfl rfl ?_
      refine x_is (pc' := 17) (ls' := [(2, 64), (0, p1), (0, 0), (0, 0), (3, 0), (3, 0)]) rfl rfl rfl rfl ?_
      refine x_c (pc' := 18) rfl rfl ?_
      refine x_is (pc' := 19) (ls' := [(2, 64), (0, p1), (0, 0), (0, 0), (0, 0), (3, 0)]) rfl rfl rfl rfl ?_
      exact h
    · replace h := ite_f q4 h
      refine x_al (pc' := 10) rfl rfl (by decide) rfl ?_
      refine x_il (pc' := 11) rfl rfl rfl ?_
      obtain ⟨v6, q5, h⟩ := h
      refine x_call (pc' := 12) (as := [(2, 64), (0, p1)]) (rest := []) rfl rfl rfl rfl rfl rfl q5 ?_
      exact x_iret rfl h
  · replace h := ite_f q3 h
    refine x_c (pc' := 6) rfl rfl ?_
    exact x_iret rfl h
theorem sg_M_full_19 {d : Nat} {l1 : Int} {l2 : Int} {l3 : Int} {l4 : Int} {w5 : AV} {M : Mem} {r : Res} (h : (if 1024 ≤ l4 then (if ¬ l1 = (-1) then r = (some (0, l3), M) else r = (some (0, l2), M)) else ∃ v4, Cl d m_M_fullness [(2, 64), (0, l4)] M (some (0, v4), M) ∧ (if v4 ≤ 0 then ∃ v7, Cl d m_M_fullness [(2, 64), (0, l2)] M (some (0, v7), M) ∧ (if v4 ≤ v7 then at_M_full_19 d l1 l2 l3 (w32 (l4 + 1)) (0, v4) M r else at_M_full_19 d l1 l4 l3 (w32 (l4 + 1)) (0, v4) M r) else ∃ v10, Cl d m_M_fullness [(2, 64), (0, l2)] M (some (0, v10), M) ∧ (if v4 ≤ v10 then at_M_full_19 d l1 l2 (w32 (l3 + 1)) (w32 (l4 + 1)) (0, v4) M r else at_M_full_19 d l1 l4 (w32 (l3 + 1)) (w32 (l4 + 1)) (0, v4) M r)))) : at_M_full_19 d l1 l2 l3 l4 w5 M r := by
  unfold at_M_full_19
  refine x_il (pc' := 20) rfl rfl rfl ?_
  refine x_c (pc' := 21) rfl rfl ?_
  refine x_icge (pc' := 22) (t' := 38) rfl rfl rfl (fun q1 => ?_) (fun q1 => ?_)
  · replace h := ite_t q1 h
    refine x_il (pc' := 39) rfl rfl rfl ?_
    refine x_c (pc' := 40) rfl rfl ?_
    refine x_icne (pc' := 41) (t' := 43) rfl rfl rfl (fun q2 => ?_) (fun q2 => ?_)
    · replace h := ite_t q2 h
      refine x_il (pc' := 44) rfl rfl rfl ?_
      exact x_iret rfl h
    · replace h := ite_f q2 h
      refine x_il (pc' := 42) rfl rfl rfl ?_
      refine x_goto (t' := 44) rfl rfl ?_
      exact x_iret rfl h
  · replace h := ite_f q1 h
    refine x_al (pc' := 23) rfl rfl (by decide) rfl ?_
    refine x_il (pc' := 24) rfl rfl rfl ?_
    obtain ⟨v4, q3, h⟩ := h
    refine x_call (pc' := 25) (as := [(2, 64), (0, l4)]) (rest := []) rfl rfl rfl rfl rfl rfl q3 ?_
    refine x_is (pc' := 26) (ls' := [(2, 64), (0, l1), (0, l2), (0, l3), (0, l4), (0, v4)]) rfl rfl rfl rfl ?_
    refine x_il (pc' := 27) rfl rfl rfl ?_
    refine x_ifle (pc' := 28) (t' := 29) rfl rfl rfl (fun q5 => ?_) (fun q5 => ?_)
    · replace h := ite_t q5 h
      refine x_il (pc' := 30) rfl rfl rfl ?_
      refine x_al (pc' := 31) rfl rfl (by decide) rfl ?_
      refine x_il (pc' := 32) rfl rfl rfl ?_
      obtain ⟨v7, q6, h⟩ := h
      refine x_call (pc' := 33) (as := [(2, 64), (0, l2)]) (rest := [(0, v4)]) rfl rfl rfl rfl rfl rfl q6 ?_
      refine x_icle (pc' := 34) (t' := 36) rfl rfl rfl (fun q8 => ?_) (fun q8 => ?_)
      · replace h := ite_t q8 h
        refine x_inc (pc' := 37) (ls' := [(2, 64), (0, l1), (0, l2), (0, l3), (0, w32 (l4 + 1)), (0, v4)]) rfl rfl rfl rfl ?_
        refine x_goto (t' := 19) rfl rfl ?_
        exact h
      · replace h := ite_f q8 h
        refine x_il (pc' := 35) rfl rfl rfl ?_
        refine x_is (pc' := 36) (ls' := [(2, 64), (0, l1), (0, l4), (0, l3), (0, l4), (0, v4)]) rfl rfl rfl rfl ?_
        refine x_inc (pc' := 37) (ls' := [(2, 64), (0, l1), (0, l4), (0, l3), (0, w32 (l4 + 1)), (0, v4)]) rfl rfl rfl rfl ?_
        refine x_goto (t' := 19) rfl rfl ?_
        exact h
    · replace h := ite_f q5 h
      refine x_inc (pc' := 29) (ls' := [(2, 64), (0, l1), (0, l2), (0, w32 (l3 + 1)), (0, l4), (0, v4)]) rfl rfl rfl rfl ?_
      refine x_il (pc' := 30) rfl rfl rfl ?_
      refine x_al (pc' := 31) rfl rfl (by decide) rfl ?_
      refine x_il (pc' := 32) rfl rfl rfl ?_
      obtain ⟨v10, q9, h⟩ := h
      refine x_call (pc' := 33) (as := [(2, 64), (0, l2)]) (rest := [(0, v4)]) rfl rfl rfl rfl rfl rfl q9 ?_
      refine x_icle (pc' := 34) (t' := 36) rfl rfl rfl (fun q11 => ?_) (fun q11 => ?_)
      · replace h := ite_t q11 h
        refine x_inc (pc' := 37) (ls' := [(2, 64), (0, l1), (0, l2), (0, w32 (l3 + 1)), (0, w32 (l4 + 1)), (0, v4)]) rfl rfl rfl rfl ?_
        refine x_goto (t' := 19) rfl rfl ?_
        exact h
      · replace h := ite_f q11 h
        refine x_il (pc' := 35) rfl rfl rfl ?_
        refine x_is (pc' := 36) (ls' := [(2, 64), (0, l1), (0, l4), (0, w32 (l3 + 1)), (0, l4), (0, v4)]) rfl rfl rfl rfl ?_
        refine x_inc (pc' := 37) (ls' := [(2, 64), (0, l1), (0, l4), (0, w32 (l3 + 1)), (0, w32 (l4 + 1)), (0, v4)]) rfl rfl rfl rfl ?_
        refine x_goto (t' := 19) rfl rfl ?_
        exact h
def at_M_look_15 (d : Nat) (l1 : Int) (l2 : Int) (l3 : Int) (l4 : Int) (w5 : AV) (M : Mem) (r : Res) : Prop := Ex sx0 d k_M_look 1 15 [(2, 64), (0, l1), (0, l2), (0, l3), (0, l4), w5] [] M r
theorem sg_M_look {d : Nat} {p1 p2 : Int} {M : Mem} {r : Res} (h : ∃ v2, Cl d m_M_isCard [(2, 64), (0, p1)] M (some (0, v2), M) ∧ (if v2 = 0 then r = (some (0, (-1)), M) else ∃ v5, Cl d m_M_within [(0, p2), (0, 0), (0, 1)] M (some (0, v5), M) ∧ (if ¬ v5 = 0 then at_M_look_15 d p1 p2 0 0 (3, 0) M r else r = (some (0, (-1)), M)))) : Cl (d + 1) m_M_look [(2, 64), (0, p1), (0, p2)] M r := by
  refine cl_of (c := k_M_look) (mL := 6) (rz := 1) (rc := 7) (ls := [(2, 64), (0, p1), (0, p2), (3, 0), (3, 0), (3, 0)]) rfl rfl rfl ?_
  refine x_al (pc' := 1) rfl rfl (by decide) rfl ?_
  refine x_il (pc' := 2) rfl rfl rfl ?_
  obtain ⟨v2, q1, h⟩ := h
  refine x_call (pc' := 3) (as := [(2, 64), (0, p1)]) (rest := []) rfl rfl rfl rfl rfl rfl q1 ?_
  refine x_ifeq (pc' := 4) (t' := 9) rfl rfl rfl (fun q3 => ?_) (fun q3 => ?_)
  · replace h := ite_t q3 h
    refine x_c (pc' := 10) rfl rfl ?_
    exact x_iret rfl h
  · replace h := ite_f q3 h
    refine x_il (pc' := 5) rfl rfl rfl ?_
    refine x_c (pc' := 6) rfl rfl ?_
    refine x_c (pc' := 7) rfl rfl ?_
    obtain ⟨v5, q4, h⟩ := h
    refine x_call (pc' := 8) (as := [(0, p2), (0, 0), (0, 1)]) (rest := []) rfl rfl rfl rfl rfl rfl q4 ?_
    refine x_ifne (pc' := 9) (t' := 11) rfl rfl rfl (fun q6 => ?_) (fun q6 => ?_)
    · replace h := ite_t q6 h
      refine x_c (pc' := 12) rfl rfl ?_
      refine x_is (pc' := 13) (ls' := [(2, 64), (0, p1), (0, p2), (0, 0), (3, 0), (3, 0)]) rfl rfl rfl rfl ?_
      refine x_c (pc' := 14) rfl rfl ?_
      refine x_is (pc' := 15) (ls' := [(2, 64), (0, p1), (0, p2), (0, 0), (0, 0), (3, 0)]) rfl rfl rfl rfl ?_
      exact h
    · replace h := ite_f q6 h
      refine x_c (pc' := 10) rfl rfl ?_
      exact x_iret rfl h
theorem sg_M_look_15 {d : Nat} {l1 : Int} {l2 : Int} {l3 : Int} {l4 : Int} {w5 : AV} {M : Mem} {r : Res} (h : (if M 64 0 ≤ l4 then (if ¬ l2 = 0 then r = (some (0, l3), M) else ∃ v4, Cl d m_J_bitCount [(0, l3)] M (some (0, v4), M) ∧ r = (some (0, v4), M)) else ∃ v6, Cl d m_M_bits [(2, 64), (0, l4), (0, 0)] M (some (0, v6), M) ∧ ∃ v8, Cl d m_M_bits [(2, 64), (0, l1), (0, 1)] M (some (0, v8), M) ∧ (if ¬ iand v6 (ixor v8 (-1)) = 0 then (if l4 = l1 then at_M_look_15 d l1 l2 l3 (w32 (l4 + 1)) (0, 0) M r else at_M_look_15 d l1 l2 l3 (w32 (l4 + 1)) (0, 0) M r) else ∃ v12, Cl d m_M_bits [(2, 64), (0, l1), (0, 0)] M (some (0, v12), M) ∧ ∃ v14, Cl d m_M_bits [(2, 64), (0, l4), (0, 1)] M (some (0, v14), M) ∧ (if ¬ iand v12 (ixor v14 (-1)) = 0 then (if l4 = l1 then at_M_look_15 d l1 l2 l3 (w32 (l4 + 1)) (0, 0) M r else at_M_look_15 d l1 l2 l3 (w32 (l4 + 1)) (0, 0) M r) else (if l4 = l1 then at_M_look_15 d l1 l2 l3 (w32 (l4 + 1)) (0, 1) M r else at_M_look_15 d l1 l2 (ior l3 (ishl 1 l4)) (w32 (l4 + 1)) (0, 1) M r))))) : at_M_look_15 d l1 l2 l3 l4 w5 M r := by
  unfold at_M_look_15
  refine x_il (pc' := 16) rfl rfl rfl ?_
  refine x_al (pc' := 17) rfl rfl (by decide) rfl ?_
  refine x_gf (pc' := 18) (v := M 64 0) rfl rfl rfl rfl rfl ?_
  refine x_icge (pc' := 19) (t' := 60) rfl rfl rfl (fun q1 => ?_) (fun q1 => ?_)
  · replace h := ite_t q1 h
    refine x_il (pc' := 61) rfl rfl rfl ?_
    refine x_ifne (pc' := 62) (t' := 65) rfl rfl rfl (fun q2 => ?_) (fun q2 => ?_)
    · replace h := ite_t q2 h
      refine x_il (pc' := 66) rfl rfl rfl ?_
      exact x_iret rfl h
    · replace h := ite_f q2 h
      refine x_il (pc' := 63) rfl rfl rfl ?_
      obtain ⟨v4, q3, h⟩ := h
      refine x_call (pc' := 64) (as := [(0, l3)]) (rest := []) rfl rfl rfl rfl rfl rfl q3 ?_
      refine x_goto (t' := 66) rfl rfl ?_
      exact x_iret rfl h
  · replace h := ite_f q1 h
    refine x_al (pc' := 20) rfl rfl (by decide) rfl ?_
    refine x_il (pc' := 21) rfl rfl rfl ?_
    refine x_c (pc' := 22) rfl rfl ?_
    obtain ⟨v6, q5, h⟩ := h
    refine x_call (pc' := 23) (as := [(2, 64), (0, l4), (0, 0)]) (rest := []) rfl rfl rfl rfl rfl rfl q5 ?_
    refine x_al (pc' := 24) rfl rfl (by decide) rfl ?_
    refine x_il (pc' := 25) rfl rfl rfl ?_
    refine x_c (pc' := 26) rfl rfl ?_
    obtain ⟨v8, q7, h⟩ := h
    refine x_call (pc' := 27) (as := [(2, 64), (0, l1), (0, 1)]) (rest := [(0, v6)]) rfl rfl rfl rfl rfl rfl q7 ?_
    refine x_c (pc' := 28) rfl rfl ?_
    refine x_ib (pc' := 29) (v := ixor v8 (-1)) rfl rfl rfl ?_
    refine x_ib (pc' := 30) (v := iand v6 (ixor v8 (-1))) rfl rfl rfl ?_
    refine x_ifne (pc' := 31) (t' := 45) rfl rfl rfl (fun q9 => ?_) (fun q9 => ?_)
    · replace h := ite_t q9 h
      refine x_c (pc' := 46) rfl rfl ?_
      refine x_is (pc' := 47) (ls' := [(2, 64), (0, l1), (0, l2), (0, l3), (0, l4), (0, 0)]) rfl rfl rfl rfl ?_
      refine x_il (pc' := 48) rfl rfl rfl ?_
      refine x_il (pc' := 49) rfl rfl rfl ?_
      refine x_iceq (pc' := 50) (t' := 58) rfl rfl rfl (fun q10 => ?_) (fun q10 => ?_)
      · replace h := ite_t q10 h
        refine x_inc (pc' := 59) (ls' := [(2, 64), (0, l1), (0, l2), (0, l3), (0, w32 (l4 + 1)), (0, 0)]) rfl rfl rfl rfl ?_
        refine x_goto (t' := 15) rfl rfl ?_
        exact h
      · replace h := ite_f q10 h
        refine x_il (pc' := 51) rfl rfl rfl ?_
        refine x_ifeq (pc' := 52) (t' := 58) rfl rfl rfl (fun _ => ?_) (fun q => absurd (by decide) q)
        refine x_inc (pc' := 59) (ls' := [(2, 64), (0, l1), (0, l2), (0, l3), (0, w32 (l4 + 1)), (0, 0)]) rfl rfl rfl rfl ?_
        refine x_goto (t' := 15) rfl rfl ?_
        exact h
    · replace h := ite_f q9 h
      refine x_al (pc' := 32) rfl rfl (by decide) rfl ?_
      refine x_il (pc' := 33) rfl rfl rfl ?_
      refine x_c (pc' := 34) rfl rfl ?_
      obtain ⟨v12, q11, h⟩ := h
      refine x_call (pc' := 35) (as := [(2, 64), (0, l1), (0, 0)]) (rest := []) rfl rfl rfl rfl rfl rfl q11 ?_
      refine x_al (pc' := 36) rfl rfl (by decide) rfl ?_
      refine x_il (pc' := 37) rfl rfl rfl ?_
      refine x_c (pc' := 38) rfl rfl ?_
      obtain ⟨v14, q13, h⟩ := h
      refine x_call (pc' := 39) (as := [(2, 64), (0, l4), (0, 1)]) (rest := [(0, v12)]) rfl rfl rfl rfl rfl rfl q13 ?_
      refine x_c (pc' := 40) rfl rfl ?_
      refine x_ib (pc' := 41) (v := ixor v14 (-1)) rfl rfl rfl ?_
      refine x_ib (pc' := 42) (v := iand v12 (ixor v14 (-1))) rfl rfl rfl ?_
      refine x_ifne (pc' := 43) (t' := 45) rfl rfl rfl (fun q15 => ?_) (fun q15 => ?_)
      · replace h := ite_t q15 h
        refine x_c (pc' := 46) rfl rfl ?_
        refine x_is (pc' := 47) (ls' := [(2, 64), (0, l1), (0, l2), (0, l3), (0, l4), (0, 0)]) rfl rfl rfl rfl ?_
        refine x_il (pc' := 48) rfl rfl rfl ?_
        refine x_il (pc' := 49) rfl rfl rfl ?_
        refine x_iceq (pc' := 50) (t' := 58) rfl rfl rfl (fun q16 => ?_) (fun q16 => ?_)
        · replace h := ite_t q16 h
          refine x_inc (pc' := 59) (ls' := [(2, 64), (0, l1), (0, l2), (0, l3), (0, w32 (l4 + 1)), (0, 0)]) rfl rfl rfl rfl ?_
          refine x_goto (t' := 15) rfl rfl ?_
          exact h
        · replace h := ite_f q16 h
          refine x_il (pc' := 51) rfl rfl rfl ?_
          refine x_ifeq (pc' := 52) (t' := 58) rfl rfl rfl (fun _ => ?_) (fun q => absurd (by decide) q)
          refine x_inc (pc' := 59) (ls' := [(2, 64), (0, l1), (0, l2), (0, l3), (0, w32 (l4 + 1)), (0, 0)]) rfl rfl rfl rfl ?_
          refine x_goto (t' := 15) rfl rfl ?_
          exact h
      · replace h := ite_f q15 h
        refine x_c (pc' := 44) rfl rfl ?_
        refine x_goto (t' := 46) rfl rfl ?_
        refine x_is (pc' := 47) (ls' := [(2, 64), (0, l1), (0, l2), (0, l3), (0, l4), (0, 1)]) rfl rfl rfl rfl ?_
        refine x_il (pc' := 48) rfl rfl rfl ?_
        refine x_il (pc' := 49) rfl rfl rfl ?_
        refine x_iceq (pc' := 50) (t' := 58) rfl rfl rfl (fun q17 => ?_) (fun q17 => ?_)
        · replace h := ite_t q17 h
          refine x_inc (pc' := 59) (ls' := [(2, 64), (0, l1), (0, l2), (0, l3), (0, w32 (l4 + 1)), (0, 1)]) rfl rfl rfl rfl ?_
          refine x_goto (t' := 15) rfl rfl ?_
          exact h
        · replace h := ite_f q17 h
          refine x_il (pc' := 51) rfl rfl rfl ?_
          refine x_ifeq (pc' := 52) (t' := 58) rfl rfl rfl (fun q => absurd q (by decide)) (fun _ => ?_)
          refine x_il (pc' := 53) rfl rfl rfl ?_
          refine x_c (pc' := 54) rfl rfl ?_
          refine x_il (pc' := 55) rfl rfl rfl ?_
          refine x_ib (pc' := 56) (v := ishl 1 l4) rfl rfl rfl ?_
          refine x_ib (pc' := 57) (v := ior l3 (ishl 1 l4)) rfl rfl rfl ?_
          refine x_is (pc' := 58) (ls' := [(2, 64), (0, l1), (0, l2), (0, ior l3 (ishl 1 l4)), (0, l4), (0, 1)]) rfl rfl rfl rfl ?_
          refine x_inc (pc' := 59) (ls' := [(2, 64), (0, l1), (0, l2), (0, ior l3 (ishl 1 l4)), (0, w32 (l4 + 1)), (0, 1)]) rfl rfl rfl rfl ?_
          refine x_goto (t' := 15) rfl rfl ?_
          exact h
theorem sg_M_isSame {d : Nat} {p1 p2 p3 : Int} {M : Mem} {r : Res} (h : (0 ≤ w32 ((w32 (10 * p1)) + p3) ∧ w32 ((w32 (10 * p1)) + p3) < 120) ∧ (0 ≤ w32 ((w32 (10 * p2)) + p3) ∧ w32 ((w32 (10 * p2)) + p3) < 120) ∧ ∃ v4, Cl d m_M_maySame [(0, M 65 (w32 ((w32 (10 * p1)) + p3))), (0, M 65 (w32 ((w32 (10 * p2)) + p3)))] M (some (0, v4), M) ∧ (if v4 = 0 then r = (some (0, 0), M) else (0 ≤ w32 ((w32 (10 * p1)) + p3) ∧ w32 ((w32 (10 * p1)) + p3) < 120) ∧ (0 ≤ w32 ((w32 (10 * p2)) + p3) ∧ w32 ((w32 (10 * p2)) + p3) < 120) ∧ (if M 64 4 < (if 0 ≤ w32 ((M 66 (w32 ((w32 (10 * p1)) + p3))) - (M 66 (w32 ((w32 (10 * p2)) + p3)))) then w32 ((M 66 (w32 ((w32 (10 * p1)) + p3))) - (M 66 (w32 ((w32 (10 * p2)) + p3)))) else w32 (0 - (w32 ((M 66 (w32 ((w32 (10 * p1)) + p3))) - (M 66 (w32 ((w32 (10 * p2)) + p3))))))) then r = (some (0, 0), M) else r = (some (0, 1), M)))) : Cl (d + 1) m_M_isSame [(2, 64), (0, p1), (0, p2), (0, p3)] M r := by
  refine cl_of (c := k_M_isSame) (mL := 4) (rz := 3) (rc := 7) (ls := [(2, 64), (0, p1), (0, p2), (0, p3)]) rfl rfl rfl ?_
  refine x_al (pc' := 1) rfl rfl (by decide) rfl ?_
  refine x_gr (pc' := 2) (v := 65) rfl rfl rfl (by decide) rfl ?_
  refine x_c (pc' := 3) rfl rfl ?_
  refine x_il (pc' := 4) rfl rfl rfl ?_
  refine x_ib (pc' := 5) (v := w32 (10 * p1)) rfl rfl rfl ?_
  refine x_il (pc' := 6) rfl rfl rfl ?_
  refine x_ib (pc' := 7) (v := w32 ((w32 (10 * p1)) + p3)) rfl rfl rfl ?_
  obtain ⟨q1, h⟩ := h
  refine x_ia (pc' := 8) 120 (v := M 65 (w32 ((w32 (10 * p1)) + p3))) rfl rfl rfl q1.1 q1.2 rfl ?_
  refine x_al (pc' := 9) rfl rfl (by decide) rfl ?_
  refine x_gr (pc' := 10) (v := 65) rfl rfl rfl (by decide) rfl ?_
  refine x_c (pc' := 11) rfl rfl ?_
  refine x_il (pc' := 12) rfl rfl rfl ?_
  refine x_ib (pc' := 13) (v := w32 (10 * p2)) rfl rfl rfl ?_
  refine x_il (pc' := 14) rfl rfl rfl ?_
  refine x_ib (pc' := 15) (v := w32 ((w32 (10 * p2)) + p3)) rfl rfl rfl ?_
  obtain ⟨q2, h⟩ := h
  refine x_ia (pc' := 16) 120 (v := M 65 (w32 ((w32 (10 * p2)) + p3))) rfl rfl rfl q2.1 q2.2 rfl ?_
  obtain ⟨v4, q3, h⟩ := h
  refine x_call (pc' := 17) (as := [(0, M 65 (w32 ((w32 (10 * p1)) + p3))), (0, M 65 (w32 ((w32 (10 * p2)) + p3)))]) (rest := []) rfl rfl rfl rfl rfl rfl q3 ?_
  refine x_ifeq (pc' := 18) (t' := 41) rfl rfl rfl (fun q5 => ?_) (fun q5 => ?_)
  · replace h := ite_t q5 h
    refine x_c (pc' := 42) rfl rfl ?_
    exact x_zret rfl (by decide) h
  · replace h := ite_f q5 h
    refine x_al (pc' := 19) rfl rfl (by decide) rfl ?_
    refine x_gr (pc' := 20) (v := 66) rfl rfl rfl (by decide) rfl ?_
    refine x_c (pc' := 21) rfl rfl ?_
    refine x_il (pc' := 22) rfl rfl rfl ?_
    refine x_ib (pc' := 23) (v := w32 (10 * p1)) rfl rfl rfl ?_
    refine x_il (pc' := 24) rfl rfl rfl ?_
    refine x_ib (pc' := 25) (v := w32 ((w32 (10 * p1)) + p3)) rfl rfl rfl ?_
    obtain ⟨q6, h⟩ := h
    refine x_ia (pc' := 26) 120 (v := M 66 (w32 ((w32 (10 * p1)) + p3))) rfl rfl rfl q6.1 q6.2 rfl ?_
    refine x_al (pc' := 27) rfl rfl (by decide) rfl ?_
    refine x_gr (pc' := 28) (v := 66) rfl rfl rfl (by decide) rfl ?_
    refine x_c (pc' := 29) rfl rfl ?_
    refine x_il (pc' := 30) rfl rfl rfl ?_
    refine x_ib (pc' := 31) (v := w32 (10 * p2)) rfl rfl rfl ?_
    refine x_il (pc' := 32) rfl rfl rfl ?_
    refine x_ib (pc' := 33) (v := w32 ((w32 (10 * p2)) + p3)) rfl rfl rfl ?_
    obtain ⟨q7, h⟩ := h
    refine x_ia (pc' := 34) 120 (v := M 66 (w32 ((w32 (10 * p2)) + p3))) rfl rfl rfl q7.1 q7.2 rfl ?_
    refine x_ib (pc' := 35) (v := w32 ((M 66 (w32 ((w32 (10 * p1)) + p3))) - (M 66 (w32 ((w32 (10 * p2)) + p3))))) rfl rfl rfl ?_
    refine x_abs (pc' := 36) rfl rfl rfl ?_
    refine x_al (pc' := 37) rfl rfl (by decide) rfl ?_
    refine x_gf (pc' := 38) (v := M 64 4) rfl rfl rfl rfl rfl ?_
    refine x_icgt (pc' := 39) (t' := 41) rfl rfl rfl (fun q8 => ?_) (fun q8 => ?_)
    · replace h := ite_t q8 h
      refine x_c (pc' := 42) rfl rfl ?_
      exact x_zret rfl (by decide) h
    · replace h := ite_f q8 h
      refine x_c (pc' := 40) rfl rfl ?_
      refine x_goto (t' := 42) rfl rfl ?_
      exact x_zret rfl (by decide) h
def at_M_sameFingers_4 (d : Nat) (l1 : Int) (l2 : Int) (l3 : Int) (l4 : Int) (M : Mem) (r : Res) : Prop := Ex sx0 d k_M_sameFingers 1 4 [(2, 64), (0, l1), (0, l2), (0, l3), (0, l4)] [] M r
theorem sg_M_sameFingers {d : Nat} {p1 p2 : Int} {M : Mem} {r : Res} (h : at_M_sameFingers_4 d p1 p2 0 0 M r) : Cl (d + 1) m_M_sameFingers [(2, 64), (0, p1), (0, p2)] M r := by
  refine cl_of (c := k_M_sameFingers) (mL := 5) (rz := 1) (rc := 7) (ls := [(2, 64), (0, p1), (0, p2), (3, 0), (3, 0)]) rfl rfl rfl ?_
  refine x_c (pc' := 1) rfl rfl ?_
  refine x_is (pc' := 2) (ls' := [(2, 64), (0, p1), (0, p2), (0, 0), (3, 0)]) rfl rfl rfl rfl ?_
  refine x_c (pc' := 3) rfl rfl ?_
  refine x_is (pc' := 4) (ls' := [(2, 64), (0, p1), (0, p2), (0, 0), (0, 0)]) rfl rfl rfl rfl ?_
  exact h
theorem sg_M_sameFingers_4 {d : Nat} {l1 : Int} {l2 : Int} {l3 : Int} {l4 : Int} {M : Mem} {r : Res} (h : (if 10 ≤ l4 then r = (some (0, l3), M) else ∃ v3, Cl d m_M_isSame [(2, 64), (0, l1), (0, l2), (0, l4)] M (some (0, v3), M) ∧ (if v3 = 0 then at_M_sameFingers_4 d l1 l2 l3 (w32 (l4 + 1)) M r else at_M_sameFingers_4 d l1 l2 (w32 (l3 + 1)) (w32 (l4 + 1)) M r))) : at_M_sameFingers_4 d l1 l2 l3 l4 M r := by
  unfold at_M_sameFingers_4
  refine x_il (pc' := 5) rfl rfl rfl ?_
  refine x_c (pc' := 6) rfl rfl ?_
  refine x_icge (pc' := 7) (t' := 16) rfl rfl rfl (fun q1 => ?_) (fun q1 => ?_)
  · replace h := ite_t q1 h
    refine x_il (pc' := 17) rfl rfl rfl ?_
    exact x_iret rfl h
  · replace h := ite_f q1 h
    refine x_al (pc' := 8) rfl rfl (by decide) rfl ?_
    refine x_il (pc' := 9) rfl rfl rfl ?_
    refine x_il (pc' := 10) rfl rfl rfl ?_
    refine x_il (pc' := 11) rfl rfl rfl ?_
    obtain ⟨v3, q2, h⟩ := h
    refine x_call (pc' := 12) (as := [(2, 64), (0, l1), (0, l2), (0, l4)]) (rest := []) rfl rfl rfl rfl rfl rfl q2 ?_
    refine x_ifeq (pc' := 13) (t' := 14) rfl rfl rfl (fun q4 => ?_) (fun q4 => ?_)
    · replace h := ite_t q4 h
      refine x_inc (pc' := 15) (ls' := [(2, 64), (0, l1), (0, l2), (0, l3), (0, w32 (l4 + 1))]) rfl rfl rfl rfl ?_
      refine x_goto (t' := 4) rfl rfl ?_
      exact h
    · replace h := ite_f q4 h
      refine x_inc (pc' := 14) (ls' := [(2, 64), (0, l1), (0, l2), (0, w32 (l3 + 1)), (0, l4)]) rfl rfl rfl rfl ?_
      refine x_inc (pc' := 15) (ls' := [(2, 64), (0, l1), (0, l2), (0, w32 (l3 + 1)), (0, w32 (l4 + 1))]) rfl rfl rfl rfl ?_
      refine x_goto (t' := 4) rfl rfl ?_
      exact h
def at_M_alikeAll_4 (d : Nat) (l1 : Int) (l2 : Int) (l3 : Int) (l4 : Int) (M : Mem) (r : Res) : Prop := Ex sx0 d k_M_alikeAll 1 4 [(2, 64), (0, l1), (0, l2), (0, l3), (0, l4)] [] M r
theorem sg_M_alikeAll {d : Nat} {p1 p2 : Int} {M : Mem} {r : Res} (h : at_M_alikeAll_4 d p1 p2 0 0 M r) : Cl (d + 1) m_M_alikeAll [(2, 64), (0, p1), (0, p2)] M r := by
  refine cl_of (c := k_M_alikeAll) (mL := 5) (rz := 1) (rc := 7) (ls := [(2, 64), (0, p1), (0, p2), (3, 0), (3, 0)]) rfl rfl rfl ?_
  refine x_c (pc' := 1) rfl rfl ?_
  refine x_is (pc' := 2) (ls' := [(2, 64), (0, p1), (0, p2), (0, 0), (3, 0)]) rfl rfl rfl rfl ?_
  refine x_c (pc' := 3) rfl rfl ?_
  refine x_is (pc' := 4) (ls' := [(2, 64), (0, p1), (0, p2), (0, 0), (0, 0)]) rfl rfl rfl rfl ?_
  exact h
theorem sg_M_alikeAll_4 {d : Nat} {l1 : Int} {l2 : Int} {l3 : Int} {l4 : Int} {M : Mem} {r : Res} (h : (if 10 ≤ l4 then r = (some (0, l3), M) else ∃ v3 M4, Cl d m_M_alikeTwo [(2, 64), (0, l1), (0, l2), (0, l4)] M (some (0, v3), M4) ∧ at_M_alikeAll_4 d l1 l2 (w32 (l3 + v3)) (w32 (l4 + 1)) M4 r)) : at_M_alikeAll_4 d l1 l2 l3 l4 M r := by
  unfold at_M_alikeAll_4
  refine x_il (pc' := 5) rfl rfl rfl ?_
  refine x_c (pc' := 6) rfl rfl ?_
  refine x_icge (pc' := 7) (t' := 17) rfl rfl rfl (fun q1 => ?_) (fun q1 => ?_)
  · replace h := ite_t q1 h
    refine x_il (pc' := 18) rfl rfl rfl ?_
    exact x_iret rfl h
  · replace h := ite_f q1 h
    refine x_il (pc' := 8) rfl rfl rfl ?_
    refine x_al (pc' := 9) rfl rfl (by decide) rfl ?_
    refine x_il (pc' := 10) rfl rfl rfl ?_
    refine x_il (pc' := 11) rfl rfl rfl ?_
    refine x_il (pc' := 12) rfl rfl rfl ?_
    obtain ⟨v3, M4, q2, h⟩ := h
    refine x_call (pc' := 13) (as := [(2, 64), (0, l1), (0, l2), (0, l4)]) (rest := [(0, l3)]) rfl rfl rfl rfl rfl rfl q2 ?_
    refine x_ib (pc' := 14) (v := w32 (l3 + v3)) rfl rfl rfl ?_
    refine x_is (pc' := 15) (ls' := [(2, 64), (0, l1), (0, l2), (0, w32 (l3 + v3)), (0, l4)]) rfl rfl rfl rfl ?_
    refine x_inc (pc' := 16) (ls' := [(2, 64), (0, l1), (0, l2), (0, w32 (l3 + v3)), (0, w32 (l4 + 1))]) rfl rfl rfl rfl ?_
    refine x_goto (t' := 4) rfl rfl ?_
    exact h
theorem sg_M_same {d : Nat} {p1 p2 : Int} {M : Mem} {r : Res} (h : ∃ v2, Cl d m_M_areTwo [(2, 64), (0, p1)] M (some (0, v2), M) ∧ (if v2 = 0 then r = (some (0, (-1)), M) else (if w32 (Int.tdiv p1 100) = w32 (Int.tmod p1 100) then r = (some (0, (-1)), M) else ∃ v6, Cl d m_M_within [(0, p2), (0, 0), (0, 1)] M (some (0, v6), M) ∧ (if ¬ v6 = 0 then (if ¬ p2 = 0 then ∃ v10 M11, Cl d m_M_alikeAll [(2, 64), (0, w32 (Int.tdiv p1 100)), (0, w32 (Int.tmod p1 100))] M (some (0, v10), M11) ∧ r = (some (0, v10), M11) else ∃ v13, Cl d m_M_sameFingers [(2, 64), (0, w32 (Int.tdiv p1 100)), (0, w32 (Int.tmod p1 100))] M (some (0, v13), M) ∧ r = (some (0, v13), M)) else r = (some (0, (-1)), M))))) : Cl (d + 1) m_M_same [(2, 64), (0, p1), (0, p2)] M r := by
  refine cl_of (c := k_M_same) (mL := 3) (rz := 1) (rc := 7) (ls := [(2, 64), (0, p1), (0, p2)]) rfl rfl rfl ?_
  refine x_al (pc' := 1) rfl rfl (by decide) rfl ?_
  refine x_il (pc' := 2) rfl rfl rfl ?_
  obtain ⟨v2, q1, h⟩ := h
  refine x_call (pc' := 3) (as := [(2, 64), (0, p1)]) (rest := []) rfl rfl rfl rfl rfl rfl q1 ?_
  refine x_ifeq (pc' := 4) (t' := 16) rfl rfl rfl (fun q3 => ?_) (fun q3 => ?_)
  · replace h := ite_t q3 h
    refine x_c (pc' := 17) rfl rfl ?_
    exact x_iret rfl h
  · replace h := ite_f q3 h
    refine x_il (pc' := 5) rfl rfl rfl ?_
    refine x_c (pc' := 6) rfl rfl ?_
    refine x_ib (pc' := 7) (v := w32 (Int.tdiv p1 100)) rfl rfl rfl ?_
    refine x_il (pc' := 8) rfl rfl rfl ?_
    refine x_c (pc' := 9) rfl rfl ?_
    refine x_ib (pc' := 10) (v := w32 (Int.tmod p1 100)) rfl rfl rfl ?_
    refine x_iceq (pc' := 11) (t' := 16) rfl rfl rfl (fun q4 => ?_) (fun q4 => ?_)
    · replace h := ite_t q4 h
      refine x_c (pc' := 17) rfl rfl ?_
      exact x_iret rfl h
    · replace h := ite_f q4 h
      refine x_il (pc' := 12) rfl rfl rfl ?_
      refine x_c (pc' := 13) rfl rfl ?_
      refine x_c (pc' := 14) rfl rfl ?_
      obtain ⟨v6, q5, h⟩ := h
      refine x_call (pc' := 15) (as := [(0, p2), (0, 0), (0, 1)]) (rest := []) rfl rfl rfl rfl rfl rfl q5 ?_
      refine x_ifne (pc' := 16) (t' := 18) rfl rfl rfl (fun q7 => ?_) (fun q7 => ?_)
      · replace h := ite_t q7 h
        refine x_il (pc' := 19) rfl rfl rfl ?_
        refine x_ifne (pc' := 20) (t' := 29) rfl rfl rfl (fun q8 => ?_) (fun q8 => ?_)
        · replace h := ite_t q8 h
          refine x_al (pc' := 30) rfl rfl (by decide) rfl ?_
          refine x_il (pc' := 31) rfl rfl rfl ?_
          refine x_c (pc' := 32) rfl rfl ?_
          refine x_ib (pc' := 33) (v := w32 (Int.tdiv p1 100)) rfl rfl rfl ?_
          refine x_il (pc' := 34) rfl rfl rfl ?_
          refine x_c (pc' := 35) rfl rfl ?_
          refine x_ib (pc' := 36) (v := w32 (Int.tmod p1 100)) rfl rfl rfl ?_
          obtain ⟨v10, M11, q9, h⟩ := h
          refine x_call (pc' := 37) (as := [(2, 64), (0, w32 (Int.tdiv p1 100)), (0, w32 (Int.tmod p1 100))]) (rest := []) rfl rfl rfl rfl rfl rfl q9 ?_
          exact x_iret rfl h
        · replace h := ite_f q8 h
          refine x_al (pc' := 21) rfl rfl (by decide) rfl ?_
          refine x_il (pc' := 22) rfl rfl rfl ?_
          refine x_c (pc' := 23) rfl rfl ?_
          refine x_ib (pc' := 24) (v := w32 (Int.tdiv p1 100)) rfl rfl rfl ?_
          refine x_il (pc' := 25) rfl rfl rfl ?_
          refine x_c (pc' := 26) rfl rfl ?_
          refine x_ib (pc' := 27) (v := w32 (Int.tmod p1 100)) rfl rfl rfl ?_
          obtain ⟨v13, q12, h⟩ := h
          refine x_call (pc' := 28) (as := [(2, 64), (0, w32 (Int.tdiv p1 100)), (0, w32 (Int.tmod p1 100))]) (rest := []) rfl rfl rfl rfl rfl rfl q12 ?_
          refine x_goto (t' := 37) rfl rfl ?_
          exact x_iret rfl h
      · replace h := ite_f q7 h
        refine x_c (pc' := 17) rfl rfl ?_
        exact x_iret rfl h
