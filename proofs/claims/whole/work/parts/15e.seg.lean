/-! what each method owes, point by point (by program) -/
def at_M_oneMan_13 (d : Nat) (l1 : Int) (l2 : Int) (l3 : Int) (l4 : Int) (w5 : AV) (M : Mem) (r : Res) : Prop := Ex sx0 d k_M_oneMan 1 13 [(2, 64), (0, l1), (0, l2), (0, l3), (0, l4), w5] [] M r
def at_M_oneMan_21 (d : Nat) (l1 : Int) (l2 : Int) (l3 : Int) (l4 : Int) (l5 : Int) (M : Mem) (r : Res) : Prop := Ex sx0 d k_M_oneMan 1 21 [(2, 64), (0, l1), (0, l2), (0, l3), (0, l4), (0, l5)] [] M r
theorem sg_M_oneMan {d : Nat} {p1 : Int} {M : Mem} {r : Res} (h : ∃ v2, Cl d m_M_within [(0, p1), (0, 0), (0, 1)] M (some (0, v2), M) ∧ (if ¬ v2 = 0 then at_M_oneMan_13 d p1 0 (-2) 0 (3, 0) M r else r = (some (0, (-1)), M))) : Cl (d + 1) m_M_oneMan [(2, 64), (0, p1)] M r := by
  refine cl_of (c := k_M_oneMan) (mL := 6) (rz := 1) (rc := 7) (ls := [(2, 64), (0, p1), (3, 0), (3, 0), (3, 0), (3, 0)]) rfl rfl rfl ?_
  refine x_il (pc' := 1) rfl rfl rfl ?_
  refine x_c (pc' := 2) rfl rfl ?_
  refine x_c (pc' := 3) rfl rfl ?_
  obtain ⟨v2, q1, h⟩ := h
  refine x_call (pc' := 4) (as := [(0, p1), (0, 0), (0, 1)]) (rest := []) rfl rfl rfl rfl rfl rfl q1 ?_
  refine x_ifne (pc' := 5) (t' := 7) rfl rfl rfl (fun q3 => ?_) (fun q3 => ?_)
  · replace h := ite_t q3 h
    refine x_c (pc' := 8) rfl rfl ?_
    refine x_is (pc' := 9) (ls' := [(2, 64), (0, p1), (0, 0), (3, 0), (3, 0), (3, 0)]) rfl rfl rfl rfl ?_
    refine x_c (pc' := 10) rfl rfl ?_
    refine x_is (pc' := 11) (ls' := [(2, 64), (0, p1), (0, 0), (0, (-2)), (3, 0), (3, 0)]) rfl rfl rfl rfl ?_
    refine x_c (pc' := 12) rfl rfl ?_
    refine x_is (pc' := 13) (ls' := [(2, 64), (0, p1), (0, 0), (0, (-2)), (0, 0), (3, 0)]) rfl rfl rfl rfl ?_
    exact h
  · replace h := ite_f q3 h
    refine x_c (pc' := 6) rfl rfl ?_
    exact x_iret rfl h
theorem sg_M_oneMan_13 {d : Nat} {l1 : Int} {l2 : Int} {l3 : Int} {l4 : Int} {w5 : AV} {M : Mem} {r : Res} (h : (if M 64 0 ≤ l4 then (if ¬ l1 = 0 then r = (some (0, l3), M) else r = (some (0, l2), M)) else at_M_oneMan_21 d l1 l2 l3 l4 (w32 (l4 + 1)) M r)) : at_M_oneMan_13 d l1 l2 l3 l4 w5 M r := by
  unfold at_M_oneMan_13
  refine x_il (pc' := 14) rfl rfl rfl ?_
  refine x_al (pc' := 15) rfl rfl (by decide) rfl ?_
  refine x_gf (pc' := 16) (v := M 64 0) rfl rfl rfl rfl rfl ?_
  refine x_icge (pc' := 17) (t' := 46) rfl rfl rfl (fun q1 => ?_) (fun q1 => ?_)
  · replace h := ite_t q1 h
    refine x_il (pc' := 47) rfl rfl rfl ?_
    refine x_ifne (pc' := 48) (t' := 50) rfl rfl rfl (fun q2 => ?_) (fun q2 => ?_)
    · replace h := ite_t q2 h
      refine x_il (pc' := 51) rfl rfl rfl ?_
      exact x_iret rfl h
    · replace h := ite_f q2 h
      refine x_il (pc' := 49) rfl rfl rfl ?_
      refine x_goto (t' := 51) rfl rfl ?_
      exact x_iret rfl h
  · replace h := ite_f q1 h
    refine x_il (pc' := 18) rfl rfl rfl ?_
    refine x_c (pc' := 19) rfl rfl ?_
    refine x_ib (pc' := 20) (v := w32 (l4 + 1)) rfl rfl rfl ?_
    refine x_is (pc' := 21) (ls' := [(2, 64), (0, l1), (0, l2), (0, l3), (0, l4), (0, w32 (l4 + 1))]) rfl rfl rfl rfl ?_
    exact h
theorem sg_M_oneMan_21 {d : Nat} {l1 : Int} {l2 : Int} {l3 : Int} {l4 : Int} {l5 : Int} {M : Mem} {r : Res} (h : (if M 64 0 ≤ l5 then at_M_oneMan_13 d l1 l2 l3 (w32 (l4 + 1)) (0, l5) M r else ∃ v3, Cl d m_M_sameFingers [(2, 64), (0, l4), (0, l5)] M (some (0, v3), M) ∧ (if 10 ≤ v3 then (if ¬ l3 = (-2) then at_M_oneMan_21 d l1 (w32 (l2 + 1)) l3 l4 (w32 (l5 + 1)) M r else at_M_oneMan_21 d l1 (w32 (l2 + 1)) (w32 ((w32 (20 * l4)) + l5)) l4 (w32 (l5 + 1)) M r) else at_M_oneMan_21 d l1 l2 l3 l4 (w32 (l5 + 1)) M r))) : at_M_oneMan_21 d l1 l2 l3 l4 l5 M r := by
  unfold at_M_oneMan_21
  refine x_il (pc' := 22) rfl rfl rfl ?_
  refine x_al (pc' := 23) rfl rfl (by decide) rfl ?_
  refine x_gf (pc' := 24) (v := M 64 0) rfl rfl rfl rfl rfl ?_
  refine x_icge (pc' := 25) (t' := 44) rfl rfl rfl (fun q1 => ?_) (fun q1 => ?_)
  · replace h := ite_t q1 h
    refine x_inc (pc' := 45) (ls' := [(2, 64), (0, l1), (0, l2), (0, l3), (0, w32 (l4 + 1)), (0, l5)]) rfl rfl rfl rfl ?_
    refine x_goto (t' := 13) rfl rfl ?_
    exact h
  · replace h := ite_f q1 h
    refine x_al (pc' := 26) rfl rfl (by decide) rfl ?_
    refine x_il (pc' := 27) rfl rfl rfl ?_
    refine x_il (pc' := 28) rfl rfl rfl ?_
    obtain ⟨v3, q2, h⟩ := h
    refine x_call (pc' := 29) (as := [(2, 64), (0, l4), (0, l5)]) (rest := []) rfl rfl rfl rfl rfl rfl q2 ?_
    refine x_c (pc' := 30) rfl rfl ?_
    refine x_icge (pc' := 31) (t' := 32) rfl rfl rfl (fun q4 => ?_) (fun q4 => ?_)
    · replace h := ite_t q4 h
      refine x_inc (pc' := 33) (ls' := [(2, 64), (0, l1), (0, w32 (l2 + 1)), (0, l3), (0, l4), (0, l5)]) rfl rfl rfl rfl ?_
      refine x_il (pc' := 34) rfl rfl rfl ?_
      refine x_c (pc' := 35) rfl rfl ?_
      refine x_icne (pc' := 36) (t' := 42) rfl rfl rfl (fun q5 => ?_) (fun q5 => ?_)
      · replace h := ite_t q5 h
        refine x_inc (pc' := 43) (ls' := [(2, 64), (0, l1), (0, w32 (l2 + 1)), (0, l3), (0, l4), (0, w32 (l5 + 1))]) rfl rfl rfl rfl ?_
        refine x_goto (t' := 21) rfl rfl ?_
        exact h
      · replace h := ite_f q5 h
        refine x_c (pc' := 37) rfl rfl ?_
        refine x_il (pc' := 38) rfl rfl rfl ?_
        refine x_ib (pc' := 39) (v := w32 (20 * l4)) rfl rfl rfl ?_
        refine x_il (pc' := 40) rfl rfl rfl ?_
        refine x_ib (pc' := 41) (v := w32 ((w32 (20 * l4)) + l5)) rfl rfl rfl ?_
        refine x_is (pc' := 42) (ls' := [(2, 64), (0, l1), (0, w32 (l2 + 1)), (0, w32 ((w32 (20 * l4)) + l5)), (0, l4), (0, l5)]) rfl rfl rfl rfl ?_
        refine x_inc (pc' := 43) (ls' := [(2, 64), (0, l1), (0, w32 (l2 + 1)), (0, w32 ((w32 (20 * l4)) + l5)), (0, l4), (0, w32 (l5 + 1))]) rfl rfl rfl rfl ?_
        refine x_goto (t' := 21) rfl rfl ?_
        exact h
    · replace h := ite_f q4 h
      refine x_goto (t' := 42) rfl rfl ?_
      refine x_inc (pc' := 43) (ls' := [(2, 64), (0, l1), (0, l2), (0, l3), (0, l4), (0, w32 (l5 + 1))]) rfl rfl rfl rfl ?_
      refine x_goto (t' := 21) rfl rfl ?_
      exact h
def at_M_nearest_10 (d : Nat) (l1 : Int) (l2 : Int) (l3 : Int) (M : Mem) (r : Res) : Prop := Ex sx0 d k_M_nearest 1 10 [(2, 64), (0, l1), (0, l2), (0, l3)] [] M r
theorem sg_M_nearest {d : Nat} {p1 : Int} {M : Mem} {r : Res} (h : ∃ v2, Cl d m_M_isCard [(2, 64), (0, p1)] M (some (0, v2), M) ∧ (if ¬ v2 = 0 then at_M_nearest_10 d p1 (-2) 0 M r else r = (some (0, (-1)), M))) : Cl (d + 1) m_M_nearest [(2, 64), (0, p1)] M r := by
  refine cl_of (c := k_M_nearest) (mL := 4) (rz := 1) (rc := 7) (ls := [(2, 64), (0, p1), (3, 0), (3, 0)]) rfl rfl rfl ?_
  refine x_al (pc' := 1) rfl rfl (by decide) rfl ?_
  refine x_il (pc' := 2) rfl rfl rfl ?_
  obtain ⟨v2, q1, h⟩ := h
  refine x_call (pc' := 3) (as := [(2, 64), (0, p1)]) (rest := []) rfl rfl rfl rfl rfl rfl q1 ?_
  refine x_ifne (pc' := 4) (t' := 6) rfl rfl rfl (fun q3 => ?_) (fun q3 => ?_)
  · replace h := ite_t q3 h
    refine x_c (pc' := 7) rfl rfl ?_
    refine x_is (pc' := 8) (ls' := [(2, 64), (0, p1), (0, (-2)), (3, 0)]) rfl rfl rfl rfl ?_
    refine x_c (pc' := 9) rfl rfl ?_
    refine x_is (pc' := 10) (ls' := [(2, 64), (0, p1), (0, (-2)), (0, 0)]) rfl rfl rfl rfl ?_
    exact h
  · replace h := ite_f q3 h
    refine x_c (pc' := 5) rfl rfl ?_
    exact x_iret rfl h
theorem sg_M_nearest_10 {d : Nat} {l1 : Int} {l2 : Int} {l3 : Int} {M : Mem} {r : Res} (h : (if M 64 0 ≤ l3 then r = (some (0, l2), M) else (if l3 = l1 then at_M_nearest_10 d l1 l2 (w32 (l3 + 1)) M r else (if l2 = (-2) then at_M_nearest_10 d l1 l3 (w32 (l3 + 1)) M r else ∃ v5 M6, Cl d m_M_alikeAll [(2, 64), (0, l1), (0, l3)] M (some (0, v5), M6) ∧ ∃ v8 M9, Cl d m_M_alikeAll [(2, 64), (0, l1), (0, l2)] M6 (some (0, v8), M9) ∧ (if v5 ≤ v8 then at_M_nearest_10 d l1 l2 (w32 (l3 + 1)) M9 r else at_M_nearest_10 d l1 l3 (w32 (l3 + 1)) M9 r))))) : at_M_nearest_10 d l1 l2 l3 M r := by
  unfold at_M_nearest_10
  refine x_il (pc' := 11) rfl rfl rfl ?_
  refine x_al (pc' := 12) rfl rfl (by decide) rfl ?_
  refine x_gf (pc' := 13) (v := M 64 0) rfl rfl rfl rfl rfl ?_
  refine x_icge (pc' := 14) (t' := 33) rfl rfl rfl (fun q1 => ?_) (fun q1 => ?_)
  · replace h := ite_t q1 h
    refine x_il (pc' := 34) rfl rfl rfl ?_
    exact x_iret rfl h
  · replace h := ite_f q1 h
    refine x_il (pc' := 15) rfl rfl rfl ?_
    refine x_il (pc' := 16) rfl rfl rfl ?_
    refine x_iceq (pc' := 17) (t' := 31) rfl rfl rfl (fun q2 => ?_) (fun q2 => ?_)
    · replace h := ite_t q2 h
      refine x_inc (pc' := 32) (ls' := [(2, 64), (0, l1), (0, l2), (0, w32 (l3 + 1))]) rfl rfl rfl rfl ?_
      refine x_goto (t' := 10) rfl rfl ?_
      exact h
    · replace h := ite_f q2 h
      refine x_il (pc' := 18) rfl rfl rfl ?_
      refine x_c (pc' := 19) rfl rfl ?_
      refine x_iceq (pc' := 20) (t' := 29) rfl rfl rfl (fun q3 => ?_) (fun q3 => ?_)
      · replace h := ite_t q3 h
        refine x_il (pc' := 30) rfl rfl rfl ?_
        refine x_is (pc' := 31) (ls' := [(2, 64), (0, l1), (0, l3), (0, l3)]) rfl rfl rfl rfl ?_
        refine x_inc (pc' := 32) (ls' := [(2, 64), (0, l1), (0, l3), (0, w32 (l3 + 1))]) rfl rfl rfl rfl ?_
        refine x_goto (t' := 10) rfl rfl ?_
        exact h
      · replace h := ite_f q3 h
        refine x_al (pc' := 21) rfl rfl (by decide) rfl ?_
        refine x_il (pc' := 22) rfl rfl rfl ?_
        refine x_il (pc' := 23) rfl rfl rfl ?_
        obtain ⟨v5, M6, q4, h⟩ := h
        refine x_call (pc' := 24) (as := [(2, 64), (0, l1), (0, l3)]) (rest := []) rfl rfl rfl rfl rfl rfl q4 ?_
        refine x_al (pc' := 25) rfl rfl (by decide) rfl ?_
        refine x_il (pc' := 26) rfl rfl rfl ?_
        refine x_il (pc' := 27) rfl rfl rfl ?_
        obtain ⟨v8, M9, q7, h⟩ := h
        refine x_call (pc' := 28) (as := [(2, 64), (0, l1), (0, l2)]) (rest := [(0, v5)]) rfl rfl rfl rfl rfl rfl q7 ?_
        refine x_icle (pc' := 29) (t' := 31) rfl rfl rfl (fun q10 => ?_) (fun q10 => ?_)
        · replace h := ite_t q10 h
          refine x_inc (pc' := 32) (ls' := [(2, 64), (0, l1), (0, l2), (0, w32 (l3 + 1))]) rfl rfl rfl rfl ?_
          refine x_goto (t' := 10) rfl rfl ?_
          exact h
        · replace h := ite_f q10 h
          refine x_il (pc' := 30) rfl rfl rfl ?_
          refine x_is (pc' := 31) (ls' := [(2, 64), (0, l1), (0, l3), (0, l3)]) rfl rfl rfl rfl ?_
          refine x_inc (pc' := 32) (ls' := [(2, 64), (0, l1), (0, l3), (0, w32 (l3 + 1))]) rfl rfl rfl rfl ?_
          refine x_goto (t' := 10) rfl rfl ?_
          exact h
theorem sg_M_takes {d : Nat} {p1 p2 : Int} {M : Mem} {r : Res} (h : r = (none, up (up M 64 37 p1) 64 38 p2)) : Cl (d + 1) m_M_takes [(2, 64), (0, p1), (0, p2)] M r := by
  refine cl_of (c := k_M_takes) (mL := 3) (rz := 0) (rc := 7) (ls := [(2, 64), (0, p1), (0, p2)]) rfl rfl rfl ?_
  refine x_al (pc' := 1) rfl rfl (by decide) rfl ?_
  refine x_il (pc' := 2) rfl rfl rfl ?_
  refine x_pf (pc' := 3) (M2 := up M 64 37 p1) rfl rfl rfl rfl ?_
  refine x_al (pc' := 4) rfl rfl (by decide) rfl ?_
  refine x_il (pc' := 5) rfl rfl rfl ?_
  refine x_pf (pc' := 6) (M2 := up (up M 64 37 p1) 64 38 p2) rfl rfl rfl rfl ?_
  exact x_ret rfl h
theorem sg_M_isOn {d : Nat} {p1 p2 : Int} {M : Mem} {r : Res} (h : (0 ≤ w32 ((w32 (10 * p1)) + p2) ∧ w32 ((w32 (10 * p1)) + p2) < 120) ∧ ∃ v3, Cl d m_M_maySame [(0, M 64 37), (0, M 65 (w32 ((w32 (10 * p1)) + p2)))] M (some (0, v3), M) ∧ (if v3 = 0 then r = (some (0, 0), M) else (0 ≤ w32 ((w32 (10 * p1)) + p2) ∧ w32 ((w32 (10 * p1)) + p2) < 120) ∧ (if M 64 4 < (if 0 ≤ w32 ((M 64 38) - (M 66 (w32 ((w32 (10 * p1)) + p2)))) then w32 ((M 64 38) - (M 66 (w32 ((w32 (10 * p1)) + p2)))) else w32 (0 - (w32 ((M 64 38) - (M 66 (w32 ((w32 (10 * p1)) + p2))))))) then r = (some (0, 0), M) else r = (some (0, 1), M)))) : Cl (d + 1) m_M_isOn [(2, 64), (0, p1), (0, p2)] M r := by
  refine cl_of (c := k_M_isOn) (mL := 3) (rz := 3) (rc := 7) (ls := [(2, 64), (0, p1), (0, p2)]) rfl rfl rfl ?_
  refine x_al (pc' := 1) rfl rfl (by decide) rfl ?_
  refine x_gf (pc' := 2) (v := M 64 37) rfl rfl rfl rfl rfl ?_
  refine x_al (pc' := 3) rfl rfl (by decide) rfl ?_
  refine x_gr (pc' := 4) (v := 65) rfl rfl rfl (by decide) rfl ?_
  refine x_c (pc' := 5) rfl rfl ?_
  refine x_il (pc' := 6) rfl rfl rfl ?_
  refine x_ib (pc' := 7) (v := w32 (10 * p1)) rfl rfl rfl ?_
  refine x_il (pc' := 8) rfl rfl rfl ?_
  refine x_ib (pc' := 9) (v := w32 ((w32 (10 * p1)) + p2)) rfl rfl rfl ?_
  obtain ⟨q1, h⟩ := h
  refine x_ia (pc' := 10) 120 (v := M 65 (w32 ((w32 (10 * p1)) + p2))) rfl rfl rfl q1.1 q1.2 rfl ?_
  obtain ⟨v3, q2, h⟩ := h
  refine x_call (pc' := 11) (as := [(0, M 64 37), (0, M 65 (w32 ((w32 (10 * p1)) + p2)))]) (rest := []) rfl rfl rfl rfl rfl rfl q2 ?_
  refine x_ifeq (pc' := 12) (t' := 29) rfl rfl rfl (fun q4 => ?_) (fun q4 => ?_)
  · replace h := ite_t q4 h
    refine x_c (pc' := 30) rfl rfl ?_
    exact x_zret rfl (by decide) h
  · replace h := ite_f q4 h
    refine x_al (pc' := 13) rfl rfl (by decide) rfl ?_
    refine x_gf (pc' := 14) (v := M 64 38) rfl rfl rfl rfl rfl ?_
    refine x_al (pc' := 15) rfl rfl (by decide) rfl ?_
    refine x_gr (pc' := 16) (v := 66) rfl rfl rfl (by decide) rfl ?_
    refine x_c (pc' := 17) rfl rfl ?_
    refine x_il (pc' := 18) rfl rfl rfl ?_
    refine x_ib (pc' := 19) (v := w32 (10 * p1)) rfl rfl rfl ?_
    refine x_il (pc' := 20) rfl rfl rfl ?_
    refine x_ib (pc' := 21) (v := w32 ((w32 (10 * p1)) + p2)) rfl rfl rfl ?_
    obtain ⟨q5, h⟩ := h
    refine x_ia (pc' := 22) 120 (v := M 66 (w32 ((w32 (10 * p1)) + p2))) rfl rfl rfl q5.1 q5.2 rfl ?_
    refine x_ib (pc' := 23) (v := w32 ((M 64 38) - (M 66 (w32 ((w32 (10 * p1)) + p2))))) rfl rfl rfl ?_
    refine x_abs (pc' := 24) rfl rfl rfl ?_
    refine x_al (pc' := 25) rfl rfl (by decide) rfl ?_
    refine x_gf (pc' := 26) (v := M 64 4) rfl rfl rfl rfl rfl ?_
    refine x_icgt (pc' := 27) (t' := 29) rfl rfl rfl (fun q6 => ?_) (fun q6 => ?_)
    · replace h := ite_t q6 h
      refine x_c (pc' := 30) rfl rfl ?_
      exact x_zret rfl (by decide) h
    · replace h := ite_f q6 h
      refine x_c (pc' := 28) rfl rfl ?_
      refine x_goto (t' := 30) rfl rfl ?_
      exact x_zret rfl (by decide) h
def at_M_fingersOn_4 (d : Nat) (l1 : Int) (l2 : Int) (l3 : Int) (M : Mem) (r : Res) : Prop := Ex sx0 d k_M_fingersOn 1 4 [(2, 64), (0, l1), (0, l2), (0, l3)] [] M r
theorem sg_M_fingersOn {d : Nat} {p1 : Int} {M : Mem} {r : Res} (h : at_M_fingersOn_4 d p1 0 0 M r) : Cl (d + 1) m_M_fingersOn [(2, 64), (0, p1)] M r := by
  refine cl_of (c := k_M_fingersOn) (mL := 4) (rz := 1) (rc := 7) (ls := [(2, 64), (0, p1), (3, 0), (3, 0)]) rfl rfl rfl ?_
  refine x_c (pc' := 1) rfl rfl ?_
  refine x_is (pc' := 2) (ls' := [(2, 64), (0, p1), (0, 0), (3, 0)]) rfl rfl rfl rfl ?_
  refine x_c (pc' := 3) rfl rfl ?_
  refine x_is (pc' := 4) (ls' := [(2, 64), (0, p1), (0, 0), (0, 0)]) rfl rfl rfl rfl ?_
  exact h
theorem sg_M_fingersOn_4 {d : Nat} {l1 : Int} {l2 : Int} {l3 : Int} {M : Mem} {r : Res} (h : (if 10 ≤ l3 then r = (some (0, l2), M) else ∃ v3, Cl d m_M_isOn [(2, 64), (0, l1), (0, l3)] M (some (0, v3), M) ∧ (if v3 = 0 then at_M_fingersOn_4 d l1 l2 (w32 (l3 + 1)) M r else at_M_fingersOn_4 d l1 (ior l2 (ishl 1 l3)) (w32 (l3 + 1)) M r))) : at_M_fingersOn_4 d l1 l2 l3 M r := by
  unfold at_M_fingersOn_4
  refine x_il (pc' := 5) rfl rfl rfl ?_
  refine x_c (pc' := 6) rfl rfl ?_
  refine x_icge (pc' := 7) (t' := 20) rfl rfl rfl (fun q1 => ?_) (fun q1 => ?_)
  · replace h := ite_t q1 h
    refine x_il (pc' := 21) rfl rfl rfl ?_
    exact x_iret rfl h
  · replace h := ite_f q1 h
    refine x_al (pc' := 8) rfl rfl (by decide) rfl ?_
    refine x_il (pc' := 9) rfl rfl rfl ?_
    refine x_il (pc' := 10) rfl rfl rfl ?_
    obtain ⟨v3, q2, h⟩ := h
    refine x_call (pc' := 11) (as := [(2, 64), (0, l1), (0, l3)]) (rest := []) rfl rfl rfl rfl rfl rfl q2 ?_
    refine x_ifeq (pc' := 12) (t' := 18) rfl rfl rfl (fun q4 => ?_) (fun q4 => ?_)
    · replace h := ite_t q4 h
      refine x_inc (pc' := 19) (ls' := [(2, 64), (0, l1), (0, l2), (0, w32 (l3 + 1))]) rfl rfl rfl rfl ?_
      refine x_goto (t' := 4) rfl rfl ?_
      exact h
    · replace h := ite_f q4 h
      refine x_il (pc' := 13) rfl rfl rfl ?_
      refine x_c (pc' := 14) rfl rfl ?_
      refine x_il (pc' := 15) rfl rfl rfl ?_
      refine x_ib (pc' := 16) (v := ishl 1 l3) rfl rfl rfl ?_
      refine x_ib (pc' := 17) (v := ior l2 (ishl 1 l3)) rfl rfl rfl ?_
      refine x_is (pc' := 18) (ls' := [(2, 64), (0, l1), (0, ior l2 (ishl 1 l3)), (0, l3)]) rfl rfl rfl rfl ?_
      refine x_inc (pc' := 19) (ls' := [(2, 64), (0, l1), (0, ior l2 (ishl 1 l3)), (0, w32 (l3 + 1))]) rfl rfl rfl rfl ?_
      refine x_goto (t' := 4) rfl rfl ?_
      exact h
def at_M_cardsOn_4 (d : Nat) (l1 : Int) (l2 : Int) (M : Mem) (r : Res) : Prop := Ex sx0 d k_M_cardsOn 1 4 [(2, 64), (0, l1), (0, l2)] [] M r
theorem sg_M_cardsOn {d : Nat} {M : Mem} {r : Res} (h : at_M_cardsOn_4 d 0 0 M r) : Cl (d + 1) m_M_cardsOn [(2, 64)] M r := by
  refine cl_of (c := k_M_cardsOn) (mL := 3) (rz := 1) (rc := 7) (ls := [(2, 64), (3, 0), (3, 0)]) rfl rfl rfl ?_
  refine x_c (pc' := 1) rfl rfl ?_
  refine x_is (pc' := 2) (ls' := [(2, 64), (0, 0), (3, 0)]) rfl rfl rfl rfl ?_
  refine x_c (pc' := 3) rfl rfl ?_
  refine x_is (pc' := 4) (ls' := [(2, 64), (0, 0), (0, 0)]) rfl rfl rfl rfl ?_
  exact h
theorem sg_M_cardsOn_4 {d : Nat} {l1 : Int} {l2 : Int} {M : Mem} {r : Res} (h : (if M 64 0 ≤ l2 then r = (some (0, l1), M) else ∃ v3, Cl d m_M_fingersOn [(2, 64), (0, l2)] M (some (0, v3), M) ∧ (if v3 = 0 then at_M_cardsOn_4 d l1 (w32 (l2 + 1)) M r else at_M_cardsOn_4 d (ior l1 (ishl 1 l2)) (w32 (l2 + 1)) M r))) : at_M_cardsOn_4 d l1 l2 M r := by
  unfold at_M_cardsOn_4
  refine x_il (pc' := 5) rfl rfl rfl ?_
  refine x_al (pc' := 6) rfl rfl (by decide) rfl ?_
  refine x_gf (pc' := 7) (v := M 64 0) rfl rfl rfl rfl rfl ?_
  refine x_icge (pc' := 8) (t' := 20) rfl rfl rfl (fun q1 => ?_) (fun q1 => ?_)
  · replace h := ite_t q1 h
    refine x_il (pc' := 21) rfl rfl rfl ?_
    exact x_iret rfl h
  · replace h := ite_f q1 h
    refine x_al (pc' := 9) rfl rfl (by decide) rfl ?_
    refine x_il (pc' := 10) rfl rfl rfl ?_
    obtain ⟨v3, q2, h⟩ := h
    refine x_call (pc' := 11) (as := [(2, 64), (0, l2)]) (rest := []) rfl rfl rfl rfl rfl rfl q2 ?_
    refine x_ifeq (pc' := 12) (t' := 18) rfl rfl rfl (fun q4 => ?_) (fun q4 => ?_)
    · replace h := ite_t q4 h
      refine x_inc (pc' := 19) (ls' := [(2, 64), (0, l1), (0, w32 (l2 + 1))]) rfl rfl rfl rfl ?_
      refine x_goto (t' := 4) rfl rfl ?_
      exact h
    · replace h := ite_f q4 h
      refine x_il (pc' := 13) rfl rfl rfl ?_
      refine x_c (pc' := 14) rfl rfl ?_
      refine x_il (pc' := 15) rfl rfl rfl ?_
      refine x_ib (pc' := 16) (v := ishl 1 l2) rfl rfl rfl ?_
      refine x_ib (pc' := 17) (v := ior l1 (ishl 1 l2)) rfl rfl rfl ?_
      refine x_is (pc' := 18) (ls' := [(2, 64), (0, ior l1 (ishl 1 l2)), (0, l2)]) rfl rfl rfl rfl ?_
      refine x_inc (pc' := 19) (ls' := [(2, 64), (0, ior l1 (ishl 1 l2)), (0, w32 (l2 + 1))]) rfl rfl rfl rfl ?_
      refine x_goto (t' := 4) rfl rfl ?_
      exact h
def at_M_whose_37 (d : Nat) (w1 : AV) (w2 : AV) (l3 : Int) (l4 : Int) (M : Mem) (r : Res) : Prop := Ex sx0 d k_M_whose 1 37 [(2, 64), w1, w2, (0, l3), (0, l4)] [] M r
theorem sg_M_whose {d : Nat} {p1 p2 : Int} {M : Mem} {r : Res} (h : ∃ v2, Cl d m_M_isGlass [(0, p1)] M (some (0, v2), M) ∧ (if v2 = 0 then r = (some (0, (-1)), M) else ∃ v5, Cl d m_M_within [(0, p2), (0, (-2)), (0, w32 ((M 64 0) - 1))] M (some (0, v5), M) ∧ (if ¬ v5 = 0 then ∃ M8, Cl d m_M_takes [(2, 64), (0, w32 (Int.tdiv p1 100)), (0, w32 (Int.tmod p1 100))] M (none, M8) ∧ (if p2 < 0 then (if ¬ p2 = (-1) then at_M_whose_37 d (0, p1) (0, p2) 0 0 M8 r else ∃ v12, Cl d m_M_cardsOn [(2, 64)] M8 (some (0, v12), M8) ∧ r = (some (0, v12), M8)) else ∃ v14, Cl d m_M_fingersOn [(2, 64), (0, p2)] M8 (some (0, v14), M8) ∧ r = (some (0, v14), M8)) else r = (some (0, (-1)), M)))) : Cl (d + 1) m_M_whose [(2, 64), (0, p1), (0, p2)] M r := by
  refine cl_of (c := k_M_whose) (mL := 5) (rz := 1) (rc := 7) (ls := [(2, 64), (0, p1), (0, p2), (3, 0), (3, 0)]) rfl rfl rfl ?_
  refine x_il (pc' := 1) rfl rfl rfl ?_
  obtain ⟨v2, q1, h⟩ := h
  refine x_call (pc' := 2) (as := [(0, p1)]) (rest := []) rfl rfl rfl rfl rfl rfl q1 ?_
  refine x_ifeq (pc' := 3) (t' := 11) rfl rfl rfl (fun q3 => ?_) (fun q3 => ?_)
  · replace h := ite_t q3 h
    refine x_c (pc' := 12) rfl rfl ?_
    exact x_iret rfl h
  · replace h := ite_f q3 h
    refine x_il (pc' := 4) rfl rfl rfl ?_
    refine x_c (pc' := 5) rfl rfl ?_
    refine x_al (pc' := 6) rfl rfl (by decide) rfl ?_
    refine x_gf (pc' := 7) (v := M 64 0) rfl rfl rfl rfl rfl ?_
    refine x_c (pc' := 8) rfl rfl ?_
    refine x_ib (pc' := 9) (v := w32 ((M 64 0) - 1)) rfl rfl rfl ?_
    obtain ⟨v5, q4, h⟩ := h
    refine x_call (pc' := 10) (as := [(0, p2), (0, (-2)), (0, w32 ((M 64 0) - 1))]) (rest := []) rfl rfl rfl rfl rfl rfl q4 ?_
    refine x_ifne (pc' := 11) (t' := 13) rfl rfl rfl (fun q6 => ?_) (fun q6 => ?_)
    · replace h := ite_t q6 h
      refine x_al (pc' := 14) rfl rfl (by decide) rfl ?_
      refine x_il (pc' := 15) rfl rfl rfl ?_
      refine x_c (pc' := 16) rfl rfl ?_
      refine x_ib (pc' := 17) (v := w32 (Int.tdiv p1 100)) rfl rfl rfl ?_
      refine x_il (pc' := 18) rfl rfl rfl ?_
      refine x_c (pc' := 19) rfl rfl ?_
      refine x_ib (pc' := 20) (v := w32 (Int.tmod p1 100)) rfl rfl rfl ?_
      obtain ⟨M8, q7, h⟩ := h
      refine x_callv (pc' := 21) (as := [(2, 64), (0, w32 (Int.tdiv p1 100)), (0, w32 (Int.tmod p1 100))]) (rest := []) rfl rfl rfl rfl rfl rfl q7 ?_
      refine x_il (pc' := 22) rfl rfl rfl ?_
      refine x_iflt (pc' := 23) (t' := 27) rfl rfl rfl (fun q9 => ?_) (fun q9 => ?_)
      · replace h := ite_t q9 h
        refine x_il (pc' := 28) rfl rfl rfl ?_
        refine x_c (pc' := 29) rfl rfl ?_
        refine x_icne (pc' := 30) (t' := 33) rfl rfl rfl (fun q10 => ?_) (fun q10 => ?_)
        · replace h := ite_t q10 h
          refine x_c (pc' := 34) rfl rfl ?_
          refine x_is (pc' := 35) (ls' := [(2, 64), (0, p1), (0, p2), (0, 0), (3, 0)]) rfl rfl rfl rfl ?_
          refine x_c (pc' := 36) rfl rfl ?_
          refine x_is (pc' := 37) (ls' := [(2, 64), (0, p1), (0, p2), (0, 0), (0, 0)]) rfl rfl rfl rfl ?_
          exact h
        · replace h := ite_f q10 h
          refine x_al (pc' := 31) rfl rfl (by decide) rfl ?_
          obtain ⟨v12, q11, h⟩ := h
          refine x_call (pc' := 32) (as := [(2, 64)]) (rest := []) rfl rfl rfl rfl rfl rfl q11 ?_
          exact x_iret rfl h
      · replace h := ite_f q9 h
        refine x_al (pc' := 24) rfl rfl (by decide) rfl ?_
        refine x_il (pc' := 25) rfl rfl rfl ?_
        obtain ⟨v14, q13, h⟩ := h
        refine x_call (pc' := 26) (as := [(2, 64), (0, p2)]) (rest := []) rfl rfl rfl rfl rfl rfl q13 ?_
        exact x_iret rfl h
    · replace h := ite_f q6 h
      refine x_c (pc' := 12) rfl rfl ?_
      exact x_iret rfl h
theorem sg_M_whose_37 {d : Nat} {w1 : AV} {w2 : AV} {l3 : Int} {l4 : Int} {M : Mem} {r : Res} (hw2 : ¬ w2.1 = 1) (h : (if M 64 0 ≤ l4 then r = (some (0, l3), M) else ∃ v3, Cl d m_M_fingersOn [(2, 64), (0, l4)] M (some (0, v3), M) ∧ ∃ v5, Cl d m_J_bitCount [(0, v3)] M (some (0, v5), M) ∧ at_M_whose_37 d w1 w2 (w32 (l3 + v5)) (w32 (l4 + 1)) M r)) : at_M_whose_37 d w1 w2 l3 l4 M r := by
  unfold at_M_whose_37
  refine x_il (pc' := 38) rfl rfl rfl ?_
  refine x_al (pc' := 39) rfl rfl (by decide) rfl ?_
  refine x_gf (pc' := 40) (v := M 64 0) rfl rfl rfl rfl rfl ?_
  refine x_icge (pc' := 41) (t' := 50) rfl rfl rfl (fun q1 => ?_) (fun q1 => ?_)
  · replace h := ite_t q1 h
    refine x_il (pc' := 51) rfl rfl rfl ?_
    exact x_iret rfl h
  · replace h := ite_f q1 h
    refine x_il (pc' := 42) rfl rfl rfl ?_
    refine x_al (pc' := 43) rfl rfl (by decide) rfl ?_
    refine x_il (pc' := 44) rfl rfl rfl ?_
    obtain ⟨v3, q2, h⟩ := h
    refine x_call (pc' := 45) (as := [(2, 64), (0, l4)]) (rest := [(0, l3)]) rfl rfl rfl rfl rfl rfl q2 ?_
    obtain ⟨v5, q4, h⟩ := h
    refine x_call (pc' := 46) (as := [(0, v3)]) (rest := [(0, l3)]) rfl rfl rfl rfl rfl rfl q4 ?_
    refine x_ib (pc' := 47) (v := w32 (l3 + v5)) rfl rfl rfl ?_
    refine x_is (pc' := 48) (ls' := [(2, 64), w1, w2, (0, w32 (l3 + v5)), (0, l4)]) rfl rfl (setL_nw (i := 2) rfl hw2) rfl ?_
    refine x_inc (pc' := 49) (ls' := [(2, 64), w1, w2, (0, w32 (l3 + v5)), (0, w32 (l4 + 1))]) rfl rfl rfl rfl ?_
    refine x_goto (t' := 37) rfl rfl ?_
    exact h
def at_M_bestOf_6 (d : Nat) (l1 : Int) (l2 : Int) (l3 : Int) (w4 : AV) (w5 : AV) (M : Mem) (r : Res) : Prop := Ex sx0 d k_M_bestOf 1 6 [(2, 64), (0, l1), (0, l2), (0, l3), w4, w5] [] M r
def at_M_bestOf_12 (d : Nat) (l1 : Int) (l2 : Int) (l3 : Int) (l4 : Int) (w5 : AV) (M : Mem) (r : Res) : Prop := Ex sx0 d k_M_bestOf 1 12 [(2, 64), (0, l1), (0, l2), (0, l3), (0, l4), w5] [] M r
theorem sg_M_bestOf {d : Nat} {M : Mem} {r : Res} (h : at_M_bestOf_6 d (-2) (-1) 0 (3, 0) (3, 0) M r) : Cl (d + 1) m_M_bestOf [(2, 64)] M r := by
  refine cl_of (c := k_M_bestOf) (mL := 6) (rz := 1) (rc := 7) (ls := [(2, 64), (3, 0), (3, 0), (3, 0), (3, 0), (3, 0)]) rfl rfl rfl ?_
  refine x_c (pc' := 1) rfl rfl ?_
  refine x_is (pc' := 2) (ls' := [(2, 64), (0, (-2)), (3, 0), (3, 0), (3, 0), (3, 0)]) rfl rfl rfl rfl ?_
  refine x_c (pc' := 3) rfl rfl ?_
  refine x_is (pc' := 4) (ls' := [(2, 64), (0, (-2)), (0, (-1)), (3, 0), (3, 0), (3, 0)]) rfl rfl rfl rfl ?_
  refine x_c (pc' := 5) rfl rfl ?_
  refine x_is (pc' := 6) (ls' := [(2, 64), (0, (-2)), (0, (-1)), (0, 0), (3, 0), (3, 0)]) rfl rfl rfl rfl ?_
  exact h
theorem sg_M_bestOf_6 {d : Nat} {l1 : Int} {l2 : Int} {l3 : Int} {w4 : AV} {w5 : AV} {M : Mem} {r : Res} (h : (if M 64 0 ≤ l3 then r = (some (0, l1), M) else at_M_bestOf_12 d l1 l2 l3 0 w5 M r)) : at_M_bestOf_6 d l1 l2 l3 w4 w5 M r := by
  unfold at_M_bestOf_6
  refine x_il (pc' := 7) rfl rfl rfl ?_
  refine x_al (pc' := 8) rfl rfl (by decide) rfl ?_
  refine x_gf (pc' := 9) (v := M 64 0) rfl rfl rfl rfl rfl ?_
  refine x_icge (pc' := 10) (t' := 46) rfl rfl rfl (fun q1 => ?_) (fun q1 => ?_)
  · replace h := ite_t q1 h
    refine x_il (pc' := 47) rfl rfl rfl ?_
    exact x_iret rfl h
  · replace h := ite_f q1 h
    refine x_c (pc' := 11) rfl rfl ?_
    refine x_is (pc' := 12) (ls' := [(2, 64), (0, l1), (0, l2), (0, l3), (0, 0), w5]) rfl rfl rfl rfl ?_
    exact h
theorem sg_M_bestOf_12 {d : Nat} {l1 : Int} {l2 : Int} {l3 : Int} {l4 : Int} {w5 : AV} {M : Mem} {r : Res} (h : (if 10 ≤ l4 then at_M_bestOf_6 d l1 l2 (w32 (l3 + 1)) (0, l4) w5 M r else ∃ v3, Cl d m_M_isOn [(2, 64), (0, l3), (0, l4)] M (some (0, v3), M) ∧ (if ¬ v3 = 0 then ∃ v6 M7, Cl d m_M_alikeTo [(2, 64), (0, M 64 37), (0, M 64 38), (0, l3), (0, l4)] M (some (0, v6), M7) ∧ (if l2 < v6 then at_M_bestOf_12 d (w32 ((w32 (20 * l3)) + l4)) v6 l3 (w32 (l4 + 1)) (0, v6) M7 r else at_M_bestOf_12 d l1 l2 l3 (w32 (l4 + 1)) (0, v6) M7 r) else at_M_bestOf_12 d l1 l2 l3 (w32 (l4 + 1)) w5 M r))) : at_M_bestOf_12 d l1 l2 l3 l4 w5 M r := by
  unfold at_M_bestOf_12
  refine x_il (pc' := 13) rfl rfl rfl ?_
  refine x_c (pc' := 14) rfl rfl ?_
  refine x_icge (pc' := 15) (t' := 44) rfl rfl rfl (fun q1 => ?_) (fun q1 => ?_)
  · replace h := ite_t q1 h
    refine x_inc (pc' := 45) (ls' := [(2, 64), (0, l1), (0, l2), (0, w32 (l3 + 1)), (0, l4), w5]) rfl rfl rfl rfl ?_
    refine x_goto (t' := 6) rfl rfl ?_
    exact h
  · replace h := ite_f q1 h
    refine x_al (pc' := 16) rfl rfl (by decide) rfl ?_
    refine x_il (pc' := 17) rfl rfl rfl ?_
    refine x_il (pc' := 18) rfl rfl rfl ?_
    obtain ⟨v3, q2, h⟩ := h
    refine x_call (pc' := 19) (as := [(2, 64), (0, l3), (0, l4)]) (rest := []) rfl rfl rfl rfl rfl rfl q2 ?_
    refine x_ifne (pc' := 20) (t' := 21) rfl rfl rfl (fun q4 => ?_) (fun q4 => ?_)
    · replace h := ite_t q4 h
      refine x_al (pc' := 22) rfl rfl (by decide) rfl ?_
      refine x_al (pc' := 23) rfl rfl (by decide) rfl ?_
      refine x_gf (pc' := 24) (v := M 64 37) rfl rfl rfl rfl rfl ?_
      refine x_al (pc' := 25) rfl rfl (by decide) rfl ?_
      refine x_gf (pc' := 26) (v := M 64 38) rfl rfl rfl rfl rfl ?_
      refine x_il (pc' := 27) rfl rfl rfl ?_
      refine x_il (pc' := 28) rfl rfl rfl ?_
      obtain ⟨v6, M7, q5, h⟩ := h
      refine x_call (pc' := 29) (as := [(2, 64), (0, M 64 37), (0, M 64 38), (0, l3), (0, l4)]) (rest := []) rfl rfl rfl rfl rfl rfl q5 ?_
      refine x_is (pc' := 30) (ls' := [(2, 64), (0, l1), (0, l2), (0, l3), (0, l4), (0, v6)]) rfl rfl rfl rfl ?_
      refine x_il (pc' := 31) rfl rfl rfl ?_
      refine x_il (pc' := 32) rfl rfl rfl ?_
      refine x_icgt (pc' := 33) (t' := 34) rfl rfl rfl (fun q8 => ?_) (fun q8 => ?_)
      · replace h := ite_t q8 h
        refine x_il (pc' := 35) rfl rfl rfl ?_
        refine x_is (pc' := 36) (ls' := [(2, 64), (0, l1), (0, v6), (0, l3), (0, l4), (0, v6)]) rfl rfl rfl rfl ?_
        refine x_c (pc' := 37) rfl rfl ?_
        refine x_il (pc' := 38) rfl rfl rfl ?_
        refine x_ib (pc' := 39) (v := w32 (20 * l3)) rfl rfl rfl ?_
        refine x_il (pc' := 40) rfl rfl rfl ?_
        refine x_ib (pc' := 41) (v := w32 ((w32 (20 * l3)) + l4)) rfl rfl rfl ?_
        refine x_is (pc' := 42) (ls' := [(2, 64), (0, w32 ((w32 (20 * l3)) + l4)), (0, v6), (0, l3), (0, l4), (0, v6)]) rfl rfl rfl rfl ?_
        refine x_inc (pc' := 43) (ls' := [(2, 64), (0, w32 ((w32 (20 * l3)) + l4)), (0, v6), (0, l3), (0, w32 (l4 + 1)), (0, v6)]) rfl rfl rfl rfl ?_
        refine x_goto (t' := 12) rfl rfl ?_
        exact h
      · replace h := ite_f q8 h
        refine x_goto (t' := 42) rfl rfl ?_
        refine x_inc (pc' := 43) (ls' := [(2, 64), (0, l1), (0, l2), (0, l3), (0, w32 (l4 + 1)), (0, v6)]) rfl rfl rfl rfl ?_
        refine x_goto (t' := 12) rfl rfl ?_
        exact h
    · replace h := ite_f q4 h
      refine x_goto (t' := 42) rfl rfl ?_
      refine x_inc (pc' := 43) (ls' := [(2, 64), (0, l1), (0, l2), (0, l3), (0, w32 (l4 + 1)), w5]) rfl rfl rfl rfl ?_
      refine x_goto (t' := 12) rfl rfl ?_
      exact h
theorem sg_M_best {d : Nat} {p1 : Int} {M : Mem} {r : Res} (h : ∃ v2, Cl d m_M_isGlass [(0, p1)] M (some (0, v2), M) ∧ (if ¬ v2 = 0 then ∃ M5, Cl d m_M_takes [(2, 64), (0, w32 (Int.tdiv p1 100)), (0, w32 (Int.tmod p1 100))] M (none, M5) ∧ ∃ v7 M8, Cl d m_M_bestOf [(2, 64)] M5 (some (0, v7), M8) ∧ r = (some (0, v7), M8) else r = (some (0, (-1)), M))) : Cl (d + 1) m_M_best [(2, 64), (0, p1)] M r := by
  refine cl_of (c := k_M_best) (mL := 2) (rz := 1) (rc := 7) (ls := [(2, 64), (0, p1)]) rfl rfl rfl ?_
  refine x_il (pc' := 1) rfl rfl rfl ?_
  obtain ⟨v2, q1, h⟩ := h
  refine x_call (pc' := 2) (as := [(0, p1)]) (rest := []) rfl rfl rfl rfl rfl rfl q1 ?_
  refine x_ifne (pc' := 3) (t' := 5) rfl rfl rfl (fun q3 => ?_) (fun q3 => ?_)
  · replace h := ite_t q3 h
    refine x_al (pc' := 6) rfl rfl (by decide) rfl ?_
    refine x_il (pc' := 7) rfl rfl rfl ?_
    refine x_c (pc' := 8) rfl rfl ?_
    refine x_ib (pc' := 9) (v := w32 (Int.tdiv p1 100)) rfl rfl rfl ?_
    refine x_il (pc' := 10) rfl rfl rfl ?_
    refine x_c (pc' := 11) rfl rfl ?_
    refine x_ib (pc' := 12) (v := w32 (Int.tmod p1 100)) rfl rfl rfl ?_
    obtain ⟨M5, q4, h⟩ := h
    refine x_callv (pc' := 13) (as := [(2, 64), (0, w32 (Int.tdiv p1 100)), (0, w32 (Int.tmod p1 100))]) (rest := []) rfl rfl rfl rfl rfl rfl q4 ?_
    refine x_al (pc' := 14) rfl rfl (by decide) rfl ?_
    obtain ⟨v7, M8, q6, h⟩ := h
    refine x_call (pc' := 15) (as := [(2, 64)]) (rest := []) rfl rfl rfl rfl rfl rfl q6 ?_
    exact x_iret rfl h
  · replace h := ite_f q3 h
    refine x_c (pc' := 4) rfl rfl ?_
    exact x_iret rfl h
def at_M_drawers_20 (d : Nat) (w1 : AV) (l2 : Int) (l3 : Int) (l4 : Int) (w5 : AV) (w6 : AV) (M : Mem) (r : Res) : Prop := Ex sx0 d k_M_drawers 1 20 [(2, 64), w1, (0, l2), (0, l3), (0, l4), w5, w6] [] M r
def at_M_drawers_27 (d : Nat) (w1 : AV) (l2 : Int) (l3 : Int) (l4 : Int) (l5 : Int) (l6 : Int) (M : Mem) (r : Res) : Prop := Ex sx0 d k_M_drawers 1 27 [(2, 64), w1, (0, l2), (0, l3), (0, l4), (0, l5), (0, l6)] [] M r
theorem sg_M_drawers {d : Nat} {p1 : Int} {M : Mem} {r : Res} (h : ∃ v2, Cl d m_M_isGlass [(0, p1)] M (some (0, v2), M) ∧ (if ¬ v2 = 0 then ∃ M5, Cl d m_M_takes [(2, 64), (0, w32 (Int.tdiv p1 100)), (0, w32 (Int.tmod p1 100))] M (none, M5) ∧ ∃ v7, Cl d m_M_cardsOn [(2, 64)] M5 (some (0, v7), M5) ∧ at_M_drawers_20 d (0, p1) v7 0 0 (3, 0) (3, 0) M5 r else r = (some (0, (-1)), M))) : Cl (d + 1) m_M_drawers [(2, 64), (0, p1)] M r := by
  refine cl_of (c := k_M_drawers) (mL := 7) (rz := 1) (rc := 7) (ls := [(2, 64), (0, p1), (3, 0), (3, 0), (3, 0), (3, 0), (3, 0)]) rfl rfl rfl ?_
  refine x_il (pc' := 1) rfl rfl rfl ?_
  obtain ⟨v2, q1, h⟩ := h
  refine x_call (pc' := 2) (as := [(0, p1)]) (rest := []) rfl rfl rfl rfl rfl rfl q1 ?_
  refine x_ifne (pc' := 3) (t' := 5) rfl rfl rfl (fun q3 => ?_) (fun q3 => ?_)
  · replace h := ite_t q3 h
    refine x_al (pc' := 6) rfl rfl (by decide) rfl ?_
    refine x_il (pc' := 7) rfl rfl rfl ?_
    refine x_c (pc' := 8) rfl rfl ?_
    refine x_ib (pc' := 9) (v := w32 (Int.tdiv p1 100)) rfl rfl rfl ?_
    refine x_il (pc' := 10) rfl rfl rfl ?_
    refine x_c (pc' := 11) rfl rfl ?_
    refine x_ib (pc' := 12) (v := w32 (Int.tmod p1 100)) rfl rfl rfl ?_
    obtain ⟨M5, q4, h⟩ := h
    refine x_callv (pc' := 13) (as := [(2, 64), (0, w32 (Int.tdiv p1 100)), (0, w32 (Int.tmod p1 100))]) (rest := []) rfl rfl rfl rfl rfl rfl q4 ?_
    refine x_al (pc' := 14) rfl rfl (by decide) rfl ?_
    obtain ⟨v7, q6, h⟩ := h
    refine x_call (pc' := 15) (as := [(2, 64)]) (rest := []) rfl rfl rfl rfl rfl rfl q6 ?_
    refine x_is (pc' := 16) (ls' := [(2, 64), (0, p1), (0, v7), (3, 0), (3, 0), (3, 0), (3, 0)]) rfl rfl rfl rfl ?_
    refine x_c (pc' := 17) rfl rfl ?_
    refine x_is (pc' := 18) (ls' := [(2, 64), (0, p1), (0, v7), (0, 0), (3, 0), (3, 0), (3, 0)]) rfl rfl rfl rfl ?_
    refine x_c (pc' := 19) rfl rfl ?_
    refine x_is (pc' := 20) (ls' := [(2, 64), (0, p1), (0, v7), (0, 0), (0, 0), (3, 0), (3, 0)]) rfl rfl rfl rfl ?_
    exact h
  · replace h := ite_f q3 h
    refine x_c (pc' := 4) rfl rfl ?_
    exact x_iret rfl h
theorem sg_M_drawers_20 {d : Nat} {w1 : AV} {l2 : Int} {l3 : Int} {l4 : Int} {w5 : AV} {w6 : AV} {M : Mem} {r : Res} (h : (if 1024 ≤ l4 then r = (some (0, l3), M) else at_M_drawers_27 d w1 l2 l3 l4 0 0 M r)) : at_M_drawers_20 d w1 l2 l3 l4 w5 w6 M r := by
  unfold at_M_drawers_20
  refine x_il (pc' := 21) rfl rfl rfl ?_
  refine x_c (pc' := 22) rfl rfl ?_
  refine x_icge (pc' := 23) (t' := 52) rfl rfl rfl (fun q1 => ?_) (fun q1 => ?_)
  · replace h := ite_t q1 h
    refine x_il (pc' := 53) rfl rfl rfl ?_
    exact x_iret rfl h
  · replace h := ite_f q1 h
    refine x_c (pc' := 24) rfl rfl ?_
    refine x_is (pc' := 25) (ls' := [(2, 64), w1, (0, l2), (0, l3), (0, l4), (0, 0), w6]) rfl rfl rfl rfl ?_
    refine x_c (pc' := 26) rfl rfl ?_
    refine x_is (pc' := 27) (ls' := [(2, 64), w1, (0, l2), (0, l3), (0, l4), (0, 0), (0, 0)]) rfl rfl rfl rfl ?_
    exact h
theorem sg_M_drawers_27 {d : Nat} {w1 : AV} {l2 : Int} {l3 : Int} {l4 : Int} {l5 : Int} {l6 : Int} {M : Mem} {r : Res} (h : (if M 64 0 ≤ l6 then (if l5 = 0 then at_M_drawers_20 d w1 l2 l3 (w32 (l4 + 1)) (0, l5) (0, l6) M r else at_M_drawers_20 d w1 l2 (w32 (l3 + 1)) (w32 (l4 + 1)) (0, l5) (0, l6) M r) else (if ¬ iand (ishr l2 l6) 1 = 1 then at_M_drawers_27 d w1 l2 l3 l4 l5 (w32 (l6 + 1)) M r else ∃ v5, Cl d m_M_isIn [(2, 64), (0, l6), (0, l4)] M (some (0, v5), M) ∧ (if v5 = 0 then at_M_drawers_27 d w1 l2 l3 l4 l5 (w32 (l6 + 1)) M r else at_M_drawers_27 d w1 l2 l3 l4 1 (w32 (l6 + 1)) M r)))) : at_M_drawers_27 d w1 l2 l3 l4 l5 l6 M r := by
  unfold at_M_drawers_27
  refine x_il (pc' := 28) rfl rfl rfl ?_
  refine x_al (pc' := 29) rfl rfl (by decide) rfl ?_
  refine x_gf (pc' := 30) (v := M 64 0) rfl rfl rfl rfl rfl ?_
  refine x_icge (pc' := 31) (t' := 47) rfl rfl rfl (fun q1 => ?_) (fun q1 => ?_)
  · replace h := ite_t q1 h
    refine x_il (pc' := 48) rfl rfl rfl ?_
    refine x_ifeq (pc' := 49) (t' := 50) rfl rfl rfl (fun q2 => ?_) (fun q2 => ?_)
    · replace h := ite_t q2 h
      refine x_inc (pc' := 51) (ls' := [(2, 64), w1, (0, l2), (0, l3), (0, w32 (l4 + 1)), (0, l5), (0, l6)]) rfl rfl rfl rfl ?_
      refine x_goto (t' := 20) rfl rfl ?_
      exact h
    · replace h := ite_f q2 h
      refine x_inc (pc' := 50) (ls' := [(2, 64), w1, (0, l2), (0, w32 (l3 + 1)), (0, l4), (0, l5), (0, l6)]) rfl rfl rfl rfl ?_
      refine x_inc (pc' := 51) (ls' := [(2, 64), w1, (0, l2), (0, w32 (l3 + 1)), (0, w32 (l4 + 1)), (0, l5), (0, l6)]) rfl rfl rfl rfl ?_
      refine x_goto (t' := 20) rfl rfl ?_
      exact h
  · replace h := ite_f q1 h
    refine x_il (pc' := 32) rfl rfl rfl ?_
    refine x_il (pc' := 33) rfl rfl rfl ?_
    refine x_ib (pc' := 34) (v := ishr l2 l6) rfl rfl rfl ?_
    refine x_c (pc' := 35) rfl rfl ?_
    refine x_ib (pc' := 36) (v := iand (ishr l2 l6) 1) rfl rfl rfl ?_
    refine x_c (pc' := 37) rfl rfl ?_
    refine x_icne (pc' := 38) (t' := 45) rfl rfl rfl (fun q3 => ?_) (fun q3 => ?_)
    · replace h := ite_t q3 h
      refine x_inc (pc' := 46) (ls' := [(2, 64), w1, (0, l2), (0, l3), (0, l4), (0, l5), (0, w32 (l6 + 1))]) rfl rfl rfl rfl ?_
      refine x_goto (t' := 27) rfl rfl ?_
      exact h
    · replace h := ite_f q3 h
      refine x_al (pc' := 39) rfl rfl (by decide) rfl ?_
      refine x_il (pc' := 40) rfl rfl rfl ?_
      refine x_il (pc' := 41) rfl rfl rfl ?_
      obtain ⟨v5, q4, h⟩ := h
      refine x_call (pc' := 42) (as := [(2, 64), (0, l6), (0, l4)]) (rest := []) rfl rfl rfl rfl rfl rfl q4 ?_
      refine x_ifeq (pc' := 43) (t' := 45) rfl rfl rfl (fun q6 => ?_) (fun q6 => ?_)
      · replace h := ite_t q6 h
        refine x_inc (pc' := 46) (ls' := [(2, 64), w1, (0, l2), (0, l3), (0, l4), (0, l5), (0, w32 (l6 + 1))]) rfl rfl rfl rfl ?_
        refine x_goto (t' := 27) rfl rfl ?_
        exact h
      · replace h := ite_f q6 h
        refine x_c (pc' := 44) rfl rfl ?_
        refine x_is (pc' := 45) (ls' := [(2, 64), w1, (0, l2), (0, l3), (0, l4), (0, 1), (0, l6)]) rfl rfl rfl rfl ?_
        refine x_inc (pc' := 46) (ls' := [(2, 64), w1, (0, l2), (0, l3), (0, l4), (0, 1), (0, w32 (l6 + 1))]) rfl rfl rfl rfl ?_
        refine x_goto (t' := 27) rfl rfl ?_
        exact h
def at_M_orders_5 (d : Nat) (l1 : Int) (w2 : AV) (M : Mem) (r : Res) : Prop := Ex sx0 d k_M_orders 0 5 [(2, 64), (0, l1), w2] [] M r
def at_M_orders_16 (d : Nat) (l1 : Int) (l2 : Int) (M : Mem) (r : Res) : Prop := Ex sx0 d k_M_orders 0 16 [(2, 64), (0, l1), (0, l2)] [] M r
def at_M_orders_57 (d : Nat) (l1 : Int) (l2 : Int) (M : Mem) (r : Res) : Prop := Ex sx0 d k_M_orders 0 57 [(2, 64), (0, l1), (0, l2)] [] M r
theorem sg_M_orders {d : Nat} {M : Mem} {r : Res} (h : at_M_orders_5 d 0 (3, 0) (up M 64 41 0) r) : Cl (d + 1) m_M_orders [(2, 64)] M r := by
  refine cl_of (c := k_M_orders) (mL := 3) (rz := 0) (rc := 7) (ls := [(2, 64), (3, 0), (3, 0)]) rfl rfl rfl ?_
  refine x_al (pc' := 1) rfl rfl (by decide) rfl ?_
  refine x_c (pc' := 2) rfl rfl ?_
  refine x_pf (pc' := 3) (M2 := up M 64 41 0) rfl rfl rfl rfl ?_
  refine x_c (pc' := 4) rfl rfl ?_
  refine x_is (pc' := 5) (ls' := [(2, 64), (0, 0), (3, 0)]) rfl rfl rfl rfl ?_
  exact h
theorem sg_M_orders_5 {d : Nat} {l1 : Int} {w2 : AV} {M : Mem} {r : Res} (h : (if M 64 0 ≤ l1 then r = (none, M) else (0 ≤ l1 ∧ l1 < 12) ∧ at_M_orders_16 d l1 0 (up M 87 l1 0) r)) : at_M_orders_5 d l1 w2 M r := by
  unfold at_M_orders_5
  refine x_il (pc' := 6) rfl rfl rfl ?_
  refine x_al (pc' := 7) rfl rfl (by decide) rfl ?_
  refine x_gf (pc' := 8) (v := M 64 0) rfl rfl rfl rfl rfl ?_
  refine x_icge (pc' := 9) (t' := 92) rfl rfl rfl (fun q1 => ?_) (fun q1 => ?_)
  · replace h := ite_t q1 h
    exact x_ret rfl h
  · replace h := ite_f q1 h
    refine x_al (pc' := 10) rfl rfl (by decide) rfl ?_
    refine x_gr (pc' := 11) (v := 87) rfl rfl rfl (by decide) rfl ?_
    refine x_il (pc' := 12) rfl rfl rfl ?_
    refine x_c (pc' := 13) rfl rfl ?_
    obtain ⟨q2, h⟩ := h
    refine x_ist (pc' := 14) 12 (M2 := up M 87 l1 0) rfl rfl rfl q2.1 q2.2 rfl ?_
    refine x_c (pc' := 15) rfl rfl ?_
    refine x_is (pc' := 16) (ls' := [(2, 64), (0, l1), (0, 0)]) rfl rfl rfl rfl ?_
    exact h
theorem sg_M_orders_16 {d : Nat} {l1 : Int} {l2 : Int} {M : Mem} {r : Res} (h : (if 10 ≤ l2 then (0 ≤ l1 ∧ l1 < 12) ∧ (if ¬ M 87 l1 = 0 then at_M_orders_57 d l1 (M 64 41) (up M 64 41 (w32 ((M 64 41) + 1))) r else at_M_orders_5 d (w32 (l1 + 1)) (0, l2) M r) else ∃ v5, Cl d m_M_isOn [(2, 64), (0, l1), (0, l2)] M (some (0, v5), M) ∧ (if v5 = 0 then at_M_orders_16 d l1 (w32 (l2 + 1)) M r else (0 ≤ l1 ∧ l1 < 12) ∧ ∃ v9 M10, Cl d m_M_alikeTo [(2, 64), (0, M 64 37), (0, M 64 38), (0, l1), (0, l2)] M (some (0, v9), M10) ∧ (0 ≤ l1 ∧ l1 < 12) ∧ at_M_orders_16 d l1 (w32 (l2 + 1)) (up M10 87 l1 (if M 87 l1 < v9 then v9 else M 87 l1)) r))) : at_M_orders_16 d l1 l2 M r := by
  unfold at_M_orders_16
  refine x_il (pc' := 17) rfl rfl rfl ?_
  refine x_c (pc' := 18) rfl rfl ?_
  refine x_icge (pc' := 19) (t' := 43) rfl rfl rfl (fun q1 => ?_) (fun q1 => ?_)
  · replace h := ite_t q1 h
    refine x_al (pc' := 44) rfl rfl (by decide) rfl ?_
    refine x_gr (pc' := 45) (v := 87) rfl rfl rfl (by decide) rfl ?_
    refine x_il (pc' := 46) rfl rfl rfl ?_
    obtain ⟨q2, h⟩ := h
    refine x_ia (pc' := 47) 12 (v := M 87 l1) rfl rfl rfl q2.1 q2.2 rfl ?_
    refine x_ifne (pc' := 48) (t' := 49) rfl rfl rfl (fun q3 => ?_) (fun q3 => ?_)
    · replace h := ite_t q3 h
      refine x_al (pc' := 50) rfl rfl (by decide) rfl ?_
      refine x_dupa (pc' := 51) rfl rfl ?_
      refine x_gf (pc' := 52) (v := M 64 41) rfl rfl rfl rfl rfl ?_
      refine x_dupx1 (pc' := 53) rfl rfl ?_
      refine x_c (pc' := 54) rfl rfl ?_
      refine x_ib (pc' := 55) (v := w32 ((M 64 41) + 1)) rfl rfl rfl ?_
      refine x_pf (pc' := 56) (M2 := up M 64 41 (w32 ((M 64 41) + 1))) rfl rfl rfl rfl ?_
      refine x_is (pc' := 57) (ls' := [(2, 64), (0, l1), (0, M 64 41)]) rfl rfl rfl rfl ?_
      exact h
    · replace h := ite_f q3 h
      refine x_goto (t' := 90) rfl rfl ?_
      refine x_inc (pc' := 91) (ls' := [(2, 64), (0, w32 (l1 + 1)), (0, l2)]) rfl rfl rfl rfl ?_
      refine x_goto (t' := 5) rfl rfl ?_
      exact h
  · replace h := ite_f q1 h
    refine x_al (pc' := 20) rfl rfl (by decide) rfl ?_
    refine x_il (pc' := 21) rfl rfl rfl ?_
    refine x_il (pc' := 22) rfl rfl rfl ?_
    obtain ⟨v5, q4, h⟩ := h
    refine x_call (pc' := 23) (as := [(2, 64), (0, l1), (0, l2)]) (rest := []) rfl rfl rfl rfl rfl rfl q4 ?_
    refine x_ifeq (pc' := 24) (t' := 41) rfl rfl rfl (fun q6 => ?_) (fun q6 => ?_)
    · replace h := ite_t q6 h
      refine x_inc (pc' := 42) (ls' := [(2, 64), (0, l1), (0, w32 (l2 + 1))]) rfl rfl rfl rfl ?_
      refine x_goto (t' := 16) rfl rfl ?_
      exact h
    · replace h := ite_f q6 h
      refine x_al (pc' := 25) rfl rfl (by decide) rfl ?_
      refine x_gr (pc' := 26) (v := 87) rfl rfl rfl (by decide) rfl ?_
      refine x_il (pc' := 27) rfl rfl rfl ?_
      refine x_al (pc' := 28) rfl rfl (by decide) rfl ?_
      refine x_gr (pc' := 29) (v := 87) rfl rfl rfl (by decide) rfl ?_
      refine x_il (pc' := 30) rfl rfl rfl ?_
      obtain ⟨q7, h⟩ := h
      refine x_ia (pc' := 31) 12 (v := M 87 l1) rfl rfl rfl q7.1 q7.2 rfl ?_
      refine x_al (pc' := 32) rfl rfl (by decide) rfl ?_
      refine x_al (pc' := 33) rfl rfl (by decide) rfl ?_
      refine x_gf (pc' := 34) (v := M 64 37) rfl rfl rfl rfl rfl ?_
      refine x_al (pc' := 35) rfl rfl (by decide) rfl ?_
      refine x_gf (pc' := 36) (v := M 64 38) rfl rfl rfl rfl rfl ?_
      refine x_il (pc' := 37) rfl rfl rfl ?_
      refine x_il (pc' := 38) rfl rfl rfl ?_
      obtain ⟨v9, M10, q8, h⟩ := h
      refine x_call (pc' := 39) (as := [(2, 64), (0, M 64 37), (0, M 64 38), (0, l1), (0, l2)]) (rest := [(0, M 87 l1), (0, l1), (2, 87)]) rfl rfl rfl rfl rfl rfl q8 ?_
      refine x_max (pc' := 40) rfl rfl rfl ?_
      obtain ⟨q11, h⟩ := h
      refine x_ist (pc' := 41) 12 (M2 := up M10 87 l1 (if M 87 l1 < v9 then v9 else M 87 l1)) rfl rfl rfl q11.1 q11.2 rfl ?_
      refine x_inc (pc' := 42) (ls' := [(2, 64), (0, l1), (0, w32 (l2 + 1))]) rfl rfl rfl rfl ?_
      refine x_goto (t' := 16) rfl rfl ?_
      exact h
theorem sg_M_orders_57 {d : Nat} {l1 : Int} {l2 : Int} {M : Mem} {r : Res} (h : (if l2 ≤ 0 then (0 ≤ l2 ∧ l2 < 12) ∧ at_M_orders_5 d (w32 (l1 + 1)) (0, l2) (up M 88 l2 l1) r else (0 ≤ w32 (l2 - 1) ∧ w32 (l2 - 1) < 12) ∧ (0 ≤ M 88 (w32 (l2 - 1)) ∧ M 88 (w32 (l2 - 1)) < 12) ∧ (0 ≤ l1 ∧ l1 < 12) ∧ (if M 87 l1 ≤ M 87 (M 88 (w32 (l2 - 1))) then (0 ≤ l2 ∧ l2 < 12) ∧ at_M_orders_5 d (w32 (l1 + 1)) (0, l2) (up M 88 l2 l1) r else (0 ≤ w32 (l2 - 1) ∧ w32 (l2 - 1) < 12) ∧ (0 ≤ l2 ∧ l2 < 12) ∧ at_M_orders_57 d l1 (w32 (l2 + (-1))) (up M 88 l2 (M 88 (w32 (l2 - 1)))) r))) : at_M_orders_57 d l1 l2 M r := by
  unfold at_M_orders_57
  refine x_il (pc' := 58) rfl rfl rfl ?_
  refine x_ifle (pc' := 59) (t' := 85) rfl rfl rfl (fun q1 => ?_) (fun q1 => ?_)
  · replace h := ite_t q1 h
    refine x_al (pc' := 86) rfl rfl (by decide) rfl ?_
    refine x_gr (pc' := 87) (v := 88) rfl rfl rfl (by decide) rfl ?_
    refine x_il (pc' := 88) rfl rfl rfl ?_
    refine x_il (pc' := 89) rfl rfl rfl ?_
    obtain ⟨q2, h⟩ := h
    refine x_ist (pc' := 90) 12 (M2 := up M 88 l2 l1) rfl rfl rfl q2.1 q2.2 rfl ?_
    refine x_inc (pc' := 91) (ls' := [(2, 64), (0, w32 (l1 + 1)), (0, l2)]) rfl rfl rfl rfl ?_
    refine x_goto (t' := 5) rfl rfl ?_
    exact h
  · replace h := ite_f q1 h
    refine x_al (pc' := 60) rfl rfl (by decide) rfl ?_
    refine x_gr (pc' := 61) (v := 87) rfl rfl rfl (by decide) rfl ?_
    refine x_al (pc' := 62) rfl rfl (by decide) rfl ?_
    refine x_gr (pc' := 63) (v := 88) rfl rfl rfl (by decide) rfl ?_
    refine x_il (pc' := 64) rfl rfl rfl ?_
    refine x_c (pc' := 65) rfl rfl ?_
    refine x_ib (pc' := 66) (v := w32 (l2 - 1)) rfl rfl rfl ?_
    obtain ⟨q3, h⟩ := h
    refine x_ia (pc' := 67) 12 (v := M 88 (w32 (l2 - 1))) rfl rfl rfl q3.1 q3.2 rfl ?_
    obtain ⟨q4, h⟩ := h
    refine x_ia (pc' := 68) 12 (v := M 87 (M 88 (w32 (l2 - 1)))) rfl rfl rfl q4.1 q4.2 rfl ?_
    refine x_al (pc' := 69) rfl rfl (by decide) rfl ?_
    refine x_gr (pc' := 70) (v := 87) rfl rfl rfl (by decide) rfl ?_
    refine x_il (pc' := 71) rfl rfl rfl ?_
    obtain ⟨q5, h⟩ := h
    refine x_ia (pc' := 72) 12 (v := M 87 l1) rfl rfl rfl q5.1 q5.2 rfl ?_
    refine x_icge (pc' := 73) (t' := 85) rfl rfl rfl (fun q6 => ?_) (fun q6 => ?_)
    · replace h := ite_t q6 h
      refine x_al (pc' := 86) rfl rfl (by decide) rfl ?_
      refine x_gr (pc' := 87) (v := 88) rfl rfl rfl (by decide) rfl ?_
      refine x_il (pc' := 88) rfl rfl rfl ?_
      refine x_il (pc' := 89) rfl rfl rfl ?_
      obtain ⟨q7, h⟩ := h
      refine x_ist (pc' := 90) 12 (M2 := up M 88 l2 l1) rfl rfl rfl q7.1 q7.2 rfl ?_
      refine x_inc (pc' := 91) (ls' := [(2, 64), (0, w32 (l1 + 1)), (0, l2)]) rfl rfl rfl rfl ?_
      refine x_goto (t' := 5) rfl rfl ?_
      exact h
    · replace h := ite_f q6 h
      refine x_al (pc' := 74) rfl rfl (by decide) rfl ?_
      refine x_gr (pc' := 75) (v := 88) rfl rfl rfl (by decide) rfl ?_
      refine x_il (pc' := 76) rfl rfl rfl ?_
      refine x_al (pc' := 77) rfl rfl (by decide) rfl ?_
      refine x_gr (pc' := 78) (v := 88) rfl rfl rfl (by decide) rfl ?_
      refine x_il (pc' := 79) rfl rfl rfl ?_
      refine x_c (pc' := 80) rfl rfl ?_
      refine x_ib (pc' := 81) (v := w32 (l2 - 1)) rfl rfl rfl ?_
      obtain ⟨q8, h⟩ := h
      refine x_ia (pc' := 82) 12 (v := M 88 (w32 (l2 - 1))) rfl rfl rfl q8.1 q8.2 rfl ?_
      obtain ⟨q9, h⟩ := h
      refine x_ist (pc' := 83) 12 (M2 := up M 88 l2 (M 88 (w32 (l2 - 1)))) rfl rfl rfl q9.1 q9.2 rfl ?_
      refine x_inc (pc' := 84) (ls' := [(2, 64), (0, l1), (0, w32 (l2 + (-1)))]) rfl rfl rfl rfl ?_
      refine x_goto (t' := 57) rfl rfl ?_
      exact h
def at_M_part_4 (d : Nat) (l0 : Int) (w1 : AV) (l2 : Int) (w3 : AV) (l4 : Int) (l5 : Int) (w6 : AV) (l7 : Int) (w8 : AV) (w9 : AV) (w10 : AV) (M : Mem) (r : Res) : Prop := Ex sx0 d k_M_part 2 4 [(1, l0), w1, (1, l2), w3, (0, l4), (1, l5), w6, (1, l7), w8, w9, w10] [] M r
theorem sg_M_part {d : Nat} {p1 p2 p3 : Int} {M : Mem} {r : Res} (h : at_M_part_4 d p1 (3, 0) p2 (3, 0) p3 p1 (3, 0) p2 (3, 0) (3, 0) (3, 0) M r) : Cl (d + 1) m_M_part [(1, p1), (1, p2), (0, p3)] M r := by
  refine cl_of (c := k_M_part) (mL := 11) (rz := 2) (rc := 99) (ls := [(1, p1), (3, 0), (1, p2), (3, 0), (0, p3), (3, 0), (3, 0), (3, 0), (3, 0), (3, 0), (3, 0)]) rfl rfl rfl ?_
  refine x_ll (pc' := 1) rfl rfl rfl ?_
  refine x_ls (pc' := 2) (ls' := [(1, p1), (3, 0), (1, p2), (3, 0), (0, p3), (1, p1), (3, 0), (3, 0), (3, 0), (3, 0), (3, 0)]) rfl rfl rfl rfl ?_
  refine x_ll (pc' := 3) rfl rfl rfl ?_
  refine x_ls (pc' := 4) (ls' := [(1, p1), (3, 0), (1, p2), (3, 0), (0, p3), (1, p1), (3, 0), (1, p2), (3, 0), (3, 0), (3, 0)]) rfl rfl rfl rfl ?_
  exact h
theorem sg_M_part_4 {d : Nat} {l0 : Int} {w1 : AV} {l2 : Int} {w3 : AV} {l4 : Int} {l5 : Int} {w6 : AV} {l7 : Int} {w8 : AV} {w9 : AV} {w10 : AV} {M : Mem} {r : Res} (hw8 : ¬ w8.1 = 1) (h : (if lcmpI l7 0 = 0 then (if ¬ l4 = 0 then (¬ l5 = 0) ∧ r = (some (1, w64 (Int.tdiv l2 l5)), M) else (¬ l5 = 0) ∧ r = (some (1, w64 (Int.tdiv l0 l5)), M)) else (¬ l7 = 0) ∧ at_M_part_4 d l0 w1 l2 w3 l4 l7 (3, 0) (w64 (Int.tmod l5 l7)) (3, 0) (1, w64 (Int.tmod l5 l7)) (3, 0) M r)) : at_M_part_4 d l0 w1 l2 w3 l4 l5 w6 l7 w8 w9 w10 M r := by
  unfold at_M_part_4
  refine x_ll (pc' := 5) rfl rfl rfl ?_
  refine x_lc (pc' := 6) rfl rfl ?_
  refine x_lcmp (pc' := 7) rfl rfl ?_
  refine x_ifeq (pc' := 8) (t' := 17) rfl rfl rfl (fun q1 => ?_) (fun q1 => ?_)
  · replace h := ite_t q1 h
    refine x_il (pc' := 18) rfl rfl rfl ?_
    refine x_ifne (pc' := 19) (t' := 23) rfl rfl rfl (fun q2 => ?_) (fun q2 => ?_)
    · replace h := ite_t q2 h
      refine x_ll (pc' := 24) rfl rfl rfl ?_
      refine x_ll (pc' := 25) rfl rfl rfl ?_
      obtain ⟨q3, h⟩ := h
      refine x_lb (pc' := 26) (v := w64 (Int.tdiv l2 l5)) rfl (show lbin 3 l2 l5 = some (w64 (Int.tdiv l2 l5)) from if_neg q3) rfl ?_
      exact x_lret rfl h
    · replace h := ite_f q2 h
      refine x_ll (pc' := 20) rfl rfl rfl ?_
      refine x_ll (pc' := 21) rfl rfl rfl ?_
      obtain ⟨q4, h⟩ := h
      refine x_lb (pc' := 22) (v := w64 (Int.tdiv l0 l5)) rfl (show lbin 3 l0 l5 = some (w64 (Int.tdiv l0 l5)) from if_neg q4) rfl ?_
      refine x_goto (t' := 26) rfl rfl ?_
      exact x_lret rfl h
  · replace h := ite_f q1 h
    refine x_ll (pc' := 9) rfl rfl rfl ?_
    refine x_ll (pc' := 10) rfl rfl rfl ?_
    obtain ⟨q5, h⟩ := h
    refine x_lb (pc' := 11) (v := w64 (Int.tmod l5 l7)) rfl (show lbin 4 l5 l7 = some (w64 (Int.tmod l5 l7)) from if_neg q5) rfl ?_
    refine x_ls (pc' := 12) (ls' := [(1, l0), w1, (1, l2), w3, (0, l4), (1, l5), w6, (1, l7), w8, (1, w64 (Int.tmod l5 l7)), (3, 0)]) rfl rfl (congrArg (fun l => List.set l 10 (3, 0)) (setL_nw (i := 8) rfl hw8)) rfl ?_
    refine x_ll (pc' := 13) rfl rfl rfl ?_
    refine x_ls (pc' := 14) (ls' := [(1, l0), w1, (1, l2), w3, (0, l4), (1, l7), (3, 0), (1, l7), w8, (1, w64 (Int.tmod l5 l7)), (3, 0)]) rfl rfl rfl rfl ?_
    refine x_ll (pc' := 15) rfl rfl rfl ?_
    refine x_ls (pc' := 16) (ls' := [(1, l0), w1, (1, l2), w3, (0, l4), (1, l7), (3, 0), (1, w64 (Int.tmod l5 l7)), (3, 0), (1, w64 (Int.tmod l5 l7)), (3, 0)]) rfl rfl rfl rfl ?_
    refine x_goto (t' := 4) rfl rfl ?_
    exact h
def at_M_order_41 (d : Nat) (w1 : AV) (l2 : Int) (l3 : Int) (w4 : AV) (l5 : Int) (w6 : AV) (l7 : Int) (M : Mem) (r : Res) : Prop := Ex sx0 d k_M_order 2 41 [(2, 64), w1, (0, l2), (1, l3), w4, (1, l5), w6, (0, l7)] [] M r
theorem sg_M_order {d : Nat} {p1 p2 : Int} {M : Mem} {r : Res} (h : ∃ v2, Cl d m_M_isGlass [(0, p1)] M (some (0, v2), M) ∧ (if v2 = 0 then r = (some (1, (-9223372036854775808)), M) else (if (-2) ≤ p2 then ∃ M6, Cl d m_M_takes [(2, 64), (0, w32 (Int.tdiv p1 100)), (0, w32 (Int.tmod p1 100))] M (none, M6) ∧ ∃ M8, Cl d m_M_orders [(2, 64)] M6 (none, M8) ∧ (if M8 64 41 = 0 then r = (some (1, (-2)), M8) else (if p2 < M8 64 41 then (if p2 < 0 then at_M_order_41 d (0, p1) p2 0 (3, 0) 0 (3, 0) 0 M8 r else (0 ≤ p2 ∧ p2 < 12) ∧ r = (some (1, M8 88 p2), M8)) else r = (some (1, (-2)), M8))) else r = (some (1, (-9223372036854775808)), M)))) : Cl (d + 1) m_M_order [(2, 64), (0, p1), (0, p2)] M r := by
  refine cl_of (c := k_M_order) (mL := 8) (rz := 2) (rc := 7) (ls := [(2, 64), (0, p1), (0, p2), (3, 0), (3, 0), (3, 0), (3, 0), (3, 0)]) rfl rfl rfl ?_
  refine x_il (pc' := 1) rfl rfl rfl ?_
  obtain ⟨v2, q1, h⟩ := h
  refine x_call (pc' := 2) (as := [(0, p1)]) (rest := []) rfl rfl rfl rfl rfl rfl q1 ?_
  refine x_ifeq (pc' := 3) (t' := 6) rfl rfl rfl (fun q3 => ?_) (fun q3 => ?_)
  · replace h := ite_t q3 h
    refine x_lc (pc' := 7) rfl rfl ?_
    exact x_lret rfl h
  · replace h := ite_f q3 h
    refine x_il (pc' := 4) rfl rfl rfl ?_
    refine x_c (pc' := 5) rfl rfl ?_
    refine x_icge (pc' := 6) (t' := 8) rfl rfl rfl (fun q4 => ?_) (fun q4 => ?_)
    · replace h := ite_t q4 h
      refine x_al (pc' := 9) rfl rfl (by decide) rfl ?_
      refine x_il (pc' := 10) rfl rfl rfl ?_
      refine x_c (pc' := 11) rfl rfl ?_
      refine x_ib (pc' := 12) (v := w32 (Int.tdiv p1 100)) rfl rfl rfl ?_
      refine x_il (pc' := 13) rfl rfl rfl ?_
      refine x_c (pc' := 14) rfl rfl ?_
      refine x_ib (pc' := 15) (v := w32 (Int.tmod p1 100)) rfl rfl rfl ?_
      obtain ⟨M6, q5, h⟩ := h
      refine x_callv (pc' := 16) (as := [(2, 64), (0, w32 (Int.tdiv p1 100)), (0, w32 (Int.tmod p1 100))]) (rest := []) rfl rfl rfl rfl rfl rfl q5 ?_
      refine x_al (pc' := 17) rfl rfl (by decide) rfl ?_
      obtain ⟨M8, q7, h⟩ := h
      refine x_callv (pc' := 18) (as := [(2, 64)]) (rest := []) rfl rfl rfl rfl rfl rfl q7 ?_
      refine x_al (pc' := 19) rfl rfl (by decide) rfl ?_
      refine x_gf (pc' := 20) (v := M8 64 41) rfl rfl rfl rfl rfl ?_
      refine x_ifeq (pc' := 21) (t' := 25) rfl rfl rfl (fun q9 => ?_) (fun q9 => ?_)
      · replace h := ite_t q9 h
        refine x_lc (pc' := 26) rfl rfl ?_
        exact x_lret rfl h
      · replace h := ite_f q9 h
        refine x_il (pc' := 22) rfl rfl rfl ?_
        refine x_al (pc' := 23) rfl rfl (by decide) rfl ?_
        refine x_gf (pc' := 24) (v := M8 64 41) rfl rfl rfl rfl rfl ?_
        refine x_iclt (pc' := 25) (t' := 27) rfl rfl rfl (fun q10 => ?_) (fun q10 => ?_)
        · replace h := ite_t q10 h
          refine x_il (pc' := 28) rfl rfl rfl ?_
          refine x_iflt (pc' := 29) (t' := 35) rfl rfl rfl (fun q11 => ?_) (fun q11 => ?_)
          · replace h := ite_t q11 h
            refine x_lc (pc' := 36) rfl rfl ?_
            refine x_ls (pc' := 37) (ls' := [(2, 64), (0, p1), (0, p2), (1, 0), (3, 0), (3, 0), (3, 0), (3, 0)]) rfl rfl rfl rfl ?_
            refine x_lc (pc' := 38) rfl rfl ?_
            refine x_ls (pc' := 39) (ls' := [(2, 64), (0, p1), (0, p2), (1, 0), (3, 0), (1, 0), (3, 0), (3, 0)]) rfl rfl rfl rfl ?_
            refine x_c (pc' := 40) rfl rfl ?_
            refine x_is (pc' := 41) (ls' := [(2, 64), (0, p1), (0, p2), (1, 0), (3, 0), (1, 0), (3, 0), (0, 0)]) rfl rfl rfl rfl ?_
            exact h
          · replace h := ite_f q11 h
            refine x_al (pc' := 30) rfl rfl (by decide) rfl ?_
            refine x_gr (pc' := 31) (v := 88) rfl rfl rfl (by decide) rfl ?_
            refine x_il (pc' := 32) rfl rfl rfl ?_
            obtain ⟨q12, h⟩ := h
            refine x_ia (pc' := 33) 12 (v := M8 88 p2) rfl rfl rfl q12.1 q12.2 rfl ?_
            refine x_i2l (pc' := 34) rfl rfl ?_
            exact x_lret rfl h
        · replace h := ite_f q10 h
          refine x_lc (pc' := 26) rfl rfl ?_
          exact x_lret rfl h
    · replace h := ite_f q4 h
      refine x_lc (pc' := 7) rfl rfl ?_
      exact x_lret rfl h
theorem sg_M_order_41 {d : Nat} {w1 : AV} {l2 : Int} {l3 : Int} {w4 : AV} {l5 : Int} {w6 : AV} {l7 : Int} {M : Mem} {r : Res} (h : (if M 64 41 ≤ l7 then ∃ v3, Cl d m_M_part [(1, l5), (1, l3), (0, w32 (l2 + 2))] M (some (1, v3), M) ∧ r = (some (1, v3), M) else (0 ≤ l7 ∧ l7 < 12) ∧ (0 ≤ M 88 l7 ∧ M 88 l7 < 12) ∧ (0 ≤ l7 ∧ l7 < 12) ∧ (0 ≤ M 88 l7 ∧ M 88 l7 < 12) ∧ at_M_order_41 d w1 l2 (w64 (l3 + (M 87 (M 88 l7)))) (3, 0) (w64 (l5 + (w32 ((w32 (l7 + 1)) * (M 87 (M 88 l7)))))) (3, 0) (w32 (l7 + 1)) M r)) : at_M_order_41 d w1 l2 l3 w4 l5 w6 l7 M r := by
  unfold at_M_order_41
  refine x_il (pc' := 42) rfl rfl rfl ?_
  refine x_al (pc' := 43) rfl rfl (by decide) rfl ?_
  refine x_gf (pc' := 44) (v := M 64 41) rfl rfl rfl rfl rfl ?_
  refine x_icge (pc' := 45) (t' := 73) rfl rfl rfl (fun q1 => ?_) (fun q1 => ?_)
  · replace h := ite_t q1 h
    refine x_ll (pc' := 74) rfl rfl rfl ?_
    refine x_ll (pc' := 75) rfl rfl rfl ?_
    refine x_il (pc' := 76) rfl rfl rfl ?_
    refine x_c (pc' := 77) rfl rfl ?_
    refine x_ib (pc' := 78) (v := w32 (l2 + 2)) rfl rfl rfl ?_
    obtain ⟨v3, q2, h⟩ := h
    refine x_call (pc' := 79) (as := [(1, l5), (1, l3), (0, w32 (l2 + 2))]) (rest := []) rfl rfl rfl rfl rfl rfl q2 ?_
    exact x_lret rfl h
  · replace h := ite_f q1 h
    refine x_ll (pc' := 46) rfl rfl rfl ?_
    refine x_al (pc' := 47) rfl rfl (by decide) rfl ?_
    refine x_gr (pc' := 48) (v := 87) rfl rfl rfl (by decide) rfl ?_
    refine x_al (pc' := 49) rfl rfl (by decide) rfl ?_
    refine x_gr (pc' := 50) (v := 88) rfl rfl rfl (by decide) rfl ?_
    refine x_il (pc' := 51) rfl rfl rfl ?_
    obtain ⟨q4, h⟩ := h
    refine x_ia (pc' := 52) 12 (v := M 88 l7) rfl rfl rfl q4.1 q4.2 rfl ?_
    obtain ⟨q5, h⟩ := h
    refine x_ia (pc' := 53) 12 (v := M 87 (M 88 l7)) rfl rfl rfl q5.1 q5.2 rfl ?_
    refine x_i2l (pc' := 54) rfl rfl ?_
    refine x_lb (pc' := 55) (v := w64 (l3 + (M 87 (M 88 l7)))) rfl rfl rfl ?_
    refine x_ls (pc' := 56) (ls' := [(2, 64), w1, (0, l2), (1, w64 (l3 + (M 87 (M 88 l7)))), (3, 0), (1, l5), w6, (0, l7)]) rfl rfl rfl rfl ?_
    refine x_ll (pc' := 57) rfl rfl rfl ?_
    refine x_il (pc' := 58) rfl rfl rfl ?_
    refine x_c (pc' := 59) rfl rfl ?_
    refine x_ib (pc' := 60) (v := w32 (l7 + 1)) rfl rfl rfl ?_
    refine x_al (pc' := 61) rfl rfl (by decide) rfl ?_
    refine x_gr (pc' := 62) (v := 87) rfl rfl rfl (by decide) rfl ?_
    refine x_al (pc' := 63) rfl rfl (by decide) rfl ?_
    refine x_gr (pc' := 64) (v := 88) rfl rfl rfl (by decide) rfl ?_
    refine x_il (pc' := 65) rfl rfl rfl ?_
    obtain ⟨q6, h⟩ := h
    refine x_ia (pc' := 66) 12 (v := M 88 l7) rfl rfl rfl q6.1 q6.2 rfl ?_
    obtain ⟨q7, h⟩ := h
    refine x_ia (pc' := 67) 12 (v := M 87 (M 88 l7)) rfl rfl rfl q7.1 q7.2 rfl ?_
    refine x_ib (pc' := 68) (v := w32 ((w32 (l7 + 1)) * (M 87 (M 88 l7)))) rfl rfl rfl ?_
    refine x_i2l (pc' := 69) rfl rfl ?_
    refine x_lb (pc' := 70) (v := w64 (l5 + (w32 ((w32 (l7 + 1)) * (M 87 (M 88 l7)))))) rfl rfl rfl ?_
    refine x_ls (pc' := 71) (ls' := [(2, 64), w1, (0, l2), (1, w64 (l3 + (M 87 (M 88 l7)))), (3, 0), (1, w64 (l5 + (w32 ((w32 (l7 + 1)) * (M 87 (M 88 l7)))))), (3, 0), (0, l7)]) rfl rfl rfl rfl ?_
    refine x_inc (pc' := 72) (ls' := [(2, 64), w1, (0, l2), (1, w64 (l3 + (M 87 (M 88 l7)))), (3, 0), (1, w64 (l5 + (w32 ((w32 (l7 + 1)) * (M 87 (M 88 l7)))))), (3, 0), (0, w32 (l7 + 1))]) rfl rfl rfl rfl ?_
    refine x_goto (t' := 41) rfl rfl ?_
    exact h
def at_M_sign__13 (d : Nat) (l1 : Int) (l2 : Int) (l3 : Int) (l4 : Int) (w5 : AV) (w6 : AV) (M : Mem) (r : Res) : Prop := Ex sx0 d k_M_sign_ 1 13 [(2, 64), (0, l1), (0, l2), (0, l3), (0, l4), w5, w6] [] M r
def at_M_sign__20 (d : Nat) (l1 : Int) (l2 : Int) (l3 : Int) (l4 : Int) (l5 : Int) (l6 : Int) (M : Mem) (r : Res) : Prop := Ex sx0 d k_M_sign_ 1 20 [(2, 64), (0, l1), (0, l2), (0, l3), (0, l4), (0, l5), (0, l6)] [] M r
theorem sg_M_sign_ {d : Nat} {p1 : Int} {M : Mem} {r : Res} (h : ∃ v2, Cl d m_M_within [(0, p1), (0, 0), (0, 1)] M (some (0, v2), M) ∧ (if ¬ v2 = 0 then at_M_sign__13 d p1 0 99 0 (3, 0) (3, 0) M r else r = (some (0, (-1)), M))) : Cl (d + 1) m_M_sign_ [(2, 64), (0, p1)] M r := by
  refine cl_of (c := k_M_sign_) (mL := 7) (rz := 1) (rc := 7) (ls := [(2, 64), (0, p1), (3, 0), (3, 0), (3, 0), (3, 0), (3, 0)]) rfl rfl rfl ?_
  refine x_il (pc' := 1) rfl rfl rfl ?_
  refine x_c (pc' := 2) rfl rfl ?_
  refine x_c (pc' := 3) rfl rfl ?_
  obtain ⟨v2, q1, h⟩ := h
  refine x_call (pc' := 4) (as := [(0, p1), (0, 0), (0, 1)]) (rest := []) rfl rfl rfl rfl rfl rfl q1 ?_
  refine x_ifne (pc' := 5) (t' := 7) rfl rfl rfl (fun q3 => ?_) (fun q3 => ?_)
  · replace h := ite_t q3 h
    refine x_c (pc' := 8) rfl rfl ?_
    refine x_is (pc' := 9) (ls' := [(2, 64), (0, p1), (0, 0), (3, 0), (3, 0), (3, 0), (3, 0)]) rfl rfl rfl rfl ?_
    refine x_c (pc' := 10) rfl rfl ?_
    refine x_is (pc' := 11) (ls' := [(2, 64), (0, p1), (0, 0), (0, 99), (3, 0), (3, 0), (3, 0)]) rfl rfl rfl rfl ?_
    refine x_c (pc' := 12) rfl rfl ?_
    refine x_is (pc' := 13) (ls' := [(2, 64), (0, p1), (0, 0), (0, 99), (0, 0), (3, 0), (3, 0)]) rfl rfl rfl rfl ?_
    exact h
  · replace h := ite_f q3 h
    refine x_c (pc' := 6) rfl rfl ?_
    exact x_iret rfl h
theorem sg_M_sign__13 {d : Nat} {l1 : Int} {l2 : Int} {l3 : Int} {l4 : Int} {w5 : AV} {w6 : AV} {M : Mem} {r : Res} (h : (if 10 ≤ l4 then (if ¬ l1 = 0 then r = (some (0, l3), M) else r = (some (0, l2), M)) else at_M_sign__20 d l1 l2 l3 l4 0 0 M r)) : at_M_sign__13 d l1 l2 l3 l4 w5 w6 M r := by
  unfold at_M_sign__13
  refine x_il (pc' := 14) rfl rfl rfl ?_
  refine x_c (pc' := 15) rfl rfl ?_
  refine x_icge (pc' := 16) (t' := 54) rfl rfl rfl (fun q1 => ?_) (fun q1 => ?_)
  · replace h := ite_t q1 h
    refine x_il (pc' := 55) rfl rfl rfl ?_
    refine x_ifne (pc' := 56) (t' := 58) rfl rfl rfl (fun q2 => ?_) (fun q2 => ?_)
    · replace h := ite_t q2 h
      refine x_il (pc' := 59) rfl rfl rfl ?_
      exact x_iret rfl h
    · replace h := ite_f q2 h
      refine x_il (pc' := 57) rfl rfl rfl ?_
      refine x_goto (t' := 59) rfl rfl ?_
      exact x_iret rfl h
  · replace h := ite_f q1 h
    refine x_c (pc' := 17) rfl rfl ?_
    refine x_is (pc' := 18) (ls' := [(2, 64), (0, l1), (0, l2), (0, l3), (0, l4), (0, 0), w6]) rfl rfl rfl rfl ?_
    refine x_c (pc' := 19) rfl rfl ?_
    refine x_is (pc' := 20) (ls' := [(2, 64), (0, l1), (0, l2), (0, l3), (0, l4), (0, 0), (0, 0)]) rfl rfl rfl rfl ?_
    exact h
theorem sg_M_sign__20 {d : Nat} {l1 : Int} {l2 : Int} {l3 : Int} {l4 : Int} {l5 : Int} {l6 : Int} {M : Mem} {r : Res} (h : (if M 64 0 ≤ l6 then (if (if l5 < w32 ((M 64 0) - l5) then w32 ((M 64 0) - l5) else l5) < l3 then at_M_sign__13 d l1 l4 (if l5 < w32 ((M 64 0) - l5) then w32 ((M 64 0) - l5) else l5) (w32 (l4 + 1)) (0, l5) (0, (if l5 < w32 ((M 64 0) - l5) then w32 ((M 64 0) - l5) else l5)) M r else at_M_sign__13 d l1 l2 l3 (w32 (l4 + 1)) (0, l5) (0, (if l5 < w32 ((M 64 0) - l5) then w32 ((M 64 0) - l5) else l5)) M r) else (0 ≤ w32 ((w32 (10 * l6)) + l4) ∧ w32 ((w32 (10 * l6)) + l4) < 120) ∧ (if ¬ M 65 (w32 ((w32 (10 * l6)) + l4)) = 3 then at_M_sign__20 d l1 l2 l3 l4 l5 (w32 (l6 + 1)) M r else at_M_sign__20 d l1 l2 l3 l4 (w32 (l5 + 1)) (w32 (l6 + 1)) M r))) : at_M_sign__20 d l1 l2 l3 l4 l5 l6 M r := by
  unfold at_M_sign__20
  refine x_il (pc' := 21) rfl rfl rfl ?_
  refine x_al (pc' := 22) rfl rfl (by decide) rfl ?_
  refine x_gf (pc' := 23) (v := M 64 0) rfl rfl rfl rfl rfl ?_
  refine x_icge (pc' := 24) (t' := 37) rfl rfl rfl (fun q1 => ?_) (fun q1 => ?_)
  · replace h := ite_t q1 h
    refine x_il (pc' := 38) rfl rfl rfl ?_
    refine x_al (pc' := 39) rfl rfl (by decide) rfl ?_
    refine x_gf (pc' := 40) (v := M 64 0) rfl rfl rfl rfl rfl ?_
    refine x_il (pc' := 41) rfl rfl rfl ?_
    refine x_ib (pc' := 42) (v := w32 ((M 64 0) - l5)) rfl rfl rfl ?_
    refine x_max (pc' := 43) rfl rfl rfl ?_
    refine x_is (pc' := 44) (ls' := [(2, 64), (0, l1), (0, l2), (0, l3), (0, l4), (0, l5), (0, (if l5 < w32 ((M 64 0) - l5) then w32 ((M 64 0) - l5) else l5))]) rfl rfl rfl rfl ?_
    refine x_il (pc' := 45) rfl rfl rfl ?_
    refine x_il (pc' := 46) rfl rfl rfl ?_
    refine x_iclt (pc' := 47) (t' := 48) rfl rfl rfl (fun q2 => ?_) (fun q2 => ?_)
    · replace h := ite_t q2 h
      refine x_il (pc' := 49) rfl rfl rfl ?_
      refine x_is (pc' := 50) (ls' := [(2, 64), (0, l1), (0, l2), (0, (if l5 < w32 ((M 64 0) - l5) then w32 ((M 64 0) - l5) else l5)), (0, l4), (0, l5), (0, (if l5 < w32 ((M 64 0) - l5) then w32 ((M 64 0) - l5) else l5))]) rfl rfl rfl rfl ?_
      refine x_il (pc' := 51) rfl rfl rfl ?_
      refine x_is (pc' := 52) (ls' := [(2, 64), (0, l1), (0, l4), (0, (if l5 < w32 ((M 64 0) - l5) then w32 ((M 64 0) - l5) else l5)), (0, l4), (0, l5), (0, (if l5 < w32 ((M 64 0) - l5) then w32 ((M 64 0) - l5) else l5))]) rfl rfl rfl rfl ?_
      refine x_inc (pc' := 53) (ls' := [(2, 64), (0, l1), (0, l4), (0, (if l5 < w32 ((M 64 0) - l5) then w32 ((M 64 0) - l5) else l5)), (0, w32 (l4 + 1)), (0, l5), (0, (if l5 < w32 ((M 64 0) - l5) then w32 ((M 64 0) - l5) else l5))]) rfl rfl rfl rfl ?_
      refine x_goto (t' := 13) rfl rfl ?_
      exact h
    · replace h := ite_f q2 h
      refine x_goto (t' := 52) rfl rfl ?_
      refine x_inc (pc' := 53) (ls' := [(2, 64), (0, l1), (0, l2), (0, l3), (0, w32 (l4 + 1)), (0, l5), (0, (if l5 < w32 ((M 64 0) - l5) then w32 ((M 64 0) - l5) else l5))]) rfl rfl rfl rfl ?_
      refine x_goto (t' := 13) rfl rfl ?_
      exact h
  · replace h := ite_f q1 h
    refine x_al (pc' := 25) rfl rfl (by decide) rfl ?_
    refine x_gr (pc' := 26) (v := 65) rfl rfl rfl (by decide) rfl ?_
    refine x_c (pc' := 27) rfl rfl ?_
    refine x_il (pc' := 28) rfl rfl rfl ?_
    refine x_ib (pc' := 29) (v := w32 (10 * l6)) rfl rfl rfl ?_
    refine x_il (pc' := 30) rfl rfl rfl ?_
    refine x_ib (pc' := 31) (v := w32 ((w32 (10 * l6)) + l4)) rfl rfl rfl ?_
    obtain ⟨q3, h⟩ := h
    refine x_ia (pc' := 32) 120 (v := M 65 (w32 ((w32 (10 * l6)) + l4))) rfl rfl rfl q3.1 q3.2 rfl ?_
    refine x_c (pc' := 33) rfl rfl ?_
    refine x_icne (pc' := 34) (t' := 35) rfl rfl rfl (fun q4 => ?_) (fun q4 => ?_)
    · replace h := ite_t q4 h
      refine x_inc (pc' := 36) (ls' := [(2, 64), (0, l1), (0, l2), (0, l3), (0, l4), (0, l5), (0, w32 (l6 + 1))]) rfl rfl rfl rfl ?_
      refine x_goto (t' := 20) rfl rfl ?_
      exact h
    · replace h := ite_f q4 h
      refine x_inc (pc' := 35) (ls' := [(2, 64), (0, l1), (0, l2), (0, l3), (0, l4), (0, w32 (l5 + 1)), (0, l6)]) rfl rfl rfl rfl ?_
      refine x_inc (pc' := 36) (ls' := [(2, 64), (0, l1), (0, l2), (0, l3), (0, l4), (0, w32 (l5 + 1)), (0, w32 (l6 + 1))]) rfl rfl rfl rfl ?_
      refine x_goto (t' := 20) rfl rfl ?_
      exact h
def at_M_isApart_2 (d : Nat) (l1 : Int) (l2 : Int) (l3 : Int) (l4 : Int) (M : Mem) (r : Res) : Prop := Ex sx0 d k_M_isApart 3 2 [(2, 64), (0, l1), (0, l2), (0, l3), (0, l4)] [] M r
theorem sg_M_isApart {d : Nat} {p1 p2 p3 : Int} {M : Mem} {r : Res} (h : at_M_isApart_2 d p1 p2 p3 0 M r) : Cl (d + 1) m_M_isApart [(2, 64), (0, p1), (0, p2), (0, p3)] M r := by
  refine cl_of (c := k_M_isApart) (mL := 5) (rz := 3) (rc := 7) (ls := [(2, 64), (0, p1), (0, p2), (0, p3), (3, 0)]) rfl rfl rfl ?_
  refine x_c (pc' := 1) rfl rfl ?_
  refine x_is (pc' := 2) (ls' := [(2, 64), (0, p1), (0, p2), (0, p3), (0, 0)]) rfl rfl rfl rfl ?_
  exact h
theorem sg_M_isApart_2 {d : Nat} {l1 : Int} {l2 : Int} {l3 : Int} {l4 : Int} {M : Mem} {r : Res} (h : (if 10 ≤ l4 then r = (some (0, 0), M) else (if ¬ iand (ishr l3 l4) 1 = 1 then at_M_isApart_2 d l1 l2 l3 (w32 (l4 + 1)) M r else (0 ≤ w32 ((w32 (10 * l1)) + l4) ∧ w32 ((w32 (10 * l1)) + l4) < 120) ∧ (0 ≤ w32 ((w32 (10 * l2)) + l4) ∧ w32 ((w32 (10 * l2)) + l4) < 120) ∧ ∃ v6, Cl d m_M_maySame [(0, M 65 (w32 ((w32 (10 * l1)) + l4))), (0, M 65 (w32 ((w32 (10 * l2)) + l4)))] M (some (0, v6), M) ∧ (if ¬ v6 = 0 then at_M_isApart_2 d l1 l2 l3 (w32 (l4 + 1)) M r else r = (some (0, 1), M))))) : at_M_isApart_2 d l1 l2 l3 l4 M r := by
  unfold at_M_isApart_2
  refine x_il (pc' := 3) rfl rfl rfl ?_
  refine x_c (pc' := 4) rfl rfl ?_
  refine x_icge (pc' := 5) (t' := 34) rfl rfl rfl (fun q1 => ?_) (fun q1 => ?_)
  · replace h := ite_t q1 h
    refine x_c (pc' := 35) rfl rfl ?_
    exact x_zret rfl (by decide) h
  · replace h := ite_f q1 h
    refine x_il (pc' := 6) rfl rfl rfl ?_
    refine x_il (pc' := 7) rfl rfl rfl ?_
    refine x_ib (pc' := 8) (v := ishr l3 l4) rfl rfl rfl ?_
    refine x_c (pc' := 9) rfl rfl ?_
    refine x_ib (pc' := 10) (v := iand (ishr l3 l4) 1) rfl rfl rfl ?_
    refine x_c (pc' := 11) rfl rfl ?_
    refine x_icne (pc' := 12) (t' := 32) rfl rfl rfl (fun q2 => ?_) (fun q2 => ?_)
    · replace h := ite_t q2 h
      refine x_inc (pc' := 33) (ls' := [(2, 64), (0, l1), (0, l2), (0, l3), (0, w32 (l4 + 1))]) rfl rfl rfl rfl ?_
      refine x_goto (t' := 2) rfl rfl ?_
      exact h
    · replace h := ite_f q2 h
      refine x_al (pc' := 13) rfl rfl (by decide) rfl ?_
      refine x_gr (pc' := 14) (v := 65) rfl rfl rfl (by decide) rfl ?_
      refine x_c (pc' := 15) rfl rfl ?_
      refine x_il (pc' := 16) rfl rfl rfl ?_
      refine x_ib (pc' := 17) (v := w32 (10 * l1)) rfl rfl rfl ?_
      refine x_il (pc' := 18) rfl rfl rfl ?_
      refine x_ib (pc' := 19) (v := w32 ((w32 (10 * l1)) + l4)) rfl rfl rfl ?_
      obtain ⟨q3, h⟩ := h
      refine x_ia (pc' := 20) 120 (v := M 65 (w32 ((w32 (10 * l1)) + l4))) rfl rfl rfl q3.1 q3.2 rfl ?_
      refine x_al (pc' := 21) rfl rfl (by decide) rfl ?_
      refine x_gr (pc' := 22) (v := 65) rfl rfl rfl (by decide) rfl ?_
      refine x_c (pc' := 23) rfl rfl ?_
      refine x_il (pc' := 24) rfl rfl rfl ?_
      refine x_ib (pc' := 25) (v := w32 (10 * l2)) rfl rfl rfl ?_
      refine x_il (pc' := 26) rfl rfl rfl ?_
      refine x_ib (pc' := 27) (v := w32 ((w32 (10 * l2)) + l4)) rfl rfl rfl ?_
      obtain ⟨q4, h⟩ := h
      refine x_ia (pc' := 28) 120 (v := M 65 (w32 ((w32 (10 * l2)) + l4))) rfl rfl rfl q4.1 q4.2 rfl ?_
      obtain ⟨v6, q5, h⟩ := h
      refine x_call (pc' := 29) (as := [(0, M 65 (w32 ((w32 (10 * l1)) + l4))), (0, M 65 (w32 ((w32 (10 * l2)) + l4)))]) (rest := []) rfl rfl rfl rfl rfl rfl q5 ?_
      refine x_ifne (pc' := 30) (t' := 32) rfl rfl rfl (fun q7 => ?_) (fun q7 => ?_)
      · replace h := ite_t q7 h
        refine x_inc (pc' := 33) (ls' := [(2, 64), (0, l1), (0, l2), (0, l3), (0, w32 (l4 + 1))]) rfl rfl rfl rfl ?_
        refine x_goto (t' := 2) rfl rfl ?_
        exact h
      · replace h := ite_f q7 h
        refine x_c (pc' := 31) rfl rfl ?_
        exact x_zret rfl (by decide) h
def at_M_areApart_2 (d : Nat) (l1 : Int) (l2 : Int) (w3 : AV) (M : Mem) (r : Res) : Prop := Ex sx0 d k_M_areApart 3 2 [(2, 64), (0, l1), (0, l2), w3] [] M r
def at_M_areApart_8 (d : Nat) (l1 : Int) (l2 : Int) (l3 : Int) (M : Mem) (r : Res) : Prop := Ex sx0 d k_M_areApart 3 8 [(2, 64), (0, l1), (0, l2), (0, l3)] [] M r
theorem sg_M_areApart {d : Nat} {p1 : Int} {M : Mem} {r : Res} (h : at_M_areApart_2 d p1 0 (3, 0) M r) : Cl (d + 1) m_M_areApart [(2, 64), (0, p1)] M r := by
  refine cl_of (c := k_M_areApart) (mL := 4) (rz := 3) (rc := 7) (ls := [(2, 64), (0, p1), (3, 0), (3, 0)]) rfl rfl rfl ?_
  refine x_c (pc' := 1) rfl rfl ?_
  refine x_is (pc' := 2) (ls' := [(2, 64), (0, p1), (0, 0), (3, 0)]) rfl rfl rfl rfl ?_
  exact h
theorem sg_M_areApart_2 {d : Nat} {l1 : Int} {l2 : Int} {w3 : AV} {M : Mem} {r : Res} (h : (if M 64 0 ≤ l2 then r = (some (0, 1), M) else at_M_areApart_8 d l1 l2 0 M r)) : at_M_areApart_2 d l1 l2 w3 M r := by
  unfold at_M_areApart_2
  refine x_il (pc' := 3) rfl rfl rfl ?_
  refine x_al (pc' := 4) rfl rfl (by decide) rfl ?_
  refine x_gf (pc' := 5) (v := M 64 0) rfl rfl rfl rfl rfl ?_
  refine x_icge (pc' := 6) (t' := 23) rfl rfl rfl (fun q1 => ?_) (fun q1 => ?_)
  · replace h := ite_t q1 h
    refine x_c (pc' := 24) rfl rfl ?_
    exact x_zret rfl (by decide) h
  · replace h := ite_f q1 h
    refine x_c (pc' := 7) rfl rfl ?_
    refine x_is (pc' := 8) (ls' := [(2, 64), (0, l1), (0, l2), (0, 0)]) rfl rfl rfl rfl ?_
    exact h
theorem sg_M_areApart_8 {d : Nat} {l1 : Int} {l2 : Int} {l3 : Int} {M : Mem} {r : Res} (h : (if l2 ≤ l3 then at_M_areApart_2 d l1 (w32 (l2 + 1)) (0, l3) M r else ∃ v3, Cl d m_M_isApart [(2, 64), (0, l2), (0, l3), (0, l1)] M (some (0, v3), M) ∧ (if ¬ v3 = 0 then at_M_areApart_8 d l1 l2 (w32 (l3 + 1)) M r else r = (some (0, 0), M)))) : at_M_areApart_8 d l1 l2 l3 M r := by
  unfold at_M_areApart_8
  refine x_il (pc' := 9) rfl rfl rfl ?_
  refine x_il (pc' := 10) rfl rfl rfl ?_
  refine x_icge (pc' := 11) (t' := 21) rfl rfl rfl (fun q1 => ?_) (fun q1 => ?_)
  · replace h := ite_t q1 h
    refine x_inc (pc' := 22) (ls' := [(2, 64), (0, l1), (0, w32 (l2 + 1)), (0, l3)]) rfl rfl rfl rfl ?_
    refine x_goto (t' := 2) rfl rfl ?_
    exact h
  · replace h := ite_f q1 h
    refine x_al (pc' := 12) rfl rfl (by decide) rfl ?_
    refine x_il (pc' := 13) rfl rfl rfl ?_
    refine x_il (pc' := 14) rfl rfl rfl ?_
    refine x_il (pc' := 15) rfl rfl rfl ?_
    obtain ⟨v3, q2, h⟩ := h
    refine x_call (pc' := 16) (as := [(2, 64), (0, l2), (0, l3), (0, l1)]) (rest := []) rfl rfl rfl rfl rfl rfl q2 ?_
    refine x_ifne (pc' := 17) (t' := 19) rfl rfl rfl (fun q4 => ?_) (fun q4 => ?_)
    · replace h := ite_t q4 h
      refine x_inc (pc' := 20) (ls' := [(2, 64), (0, l1), (0, l2), (0, w32 (l3 + 1))]) rfl rfl rfl rfl ?_
      refine x_goto (t' := 8) rfl rfl ?_
      exact h
    · replace h := ite_f q4 h
      refine x_c (pc' := 18) rfl rfl ?_
      exact x_zret rfl (by decide) h
def at_M_signs_11 (d : Nat) (l1 : Int) (l2 : Int) (l3 : Int) (M : Mem) (r : Res) : Prop := Ex sx0 d k_M_signs 1 11 [(2, 64), (0, l1), (0, l2), (0, l3)] [] M r
theorem sg_M_signs {d : Nat} {p1 : Int} {M : Mem} {r : Res} (h : ∃ v2, Cl d m_M_within [(0, p1), (0, 0), (0, 1)] M (some (0, v2), M) ∧ (if ¬ v2 = 0 then at_M_signs_11 d p1 (-2) 0 M r else r = (some (0, (-1)), M))) : Cl (d + 1) m_M_signs [(2, 64), (0, p1)] M r := by
  refine cl_of (c := k_M_signs) (mL := 4) (rz := 1) (rc := 7) (ls := [(2, 64), (0, p1), (3, 0), (3, 0)]) rfl rfl rfl ?_
  refine x_il (pc' := 1) rfl rfl rfl ?_
  refine x_c (pc' := 2) rfl rfl ?_
  refine x_c (pc' := 3) rfl rfl ?_
  obtain ⟨v2, q1, h⟩ := h
  refine x_call (pc' := 4) (as := [(0, p1), (0, 0), (0, 1)]) (rest := []) rfl rfl rfl rfl rfl rfl q1 ?_
  refine x_ifne (pc' := 5) (t' := 7) rfl rfl rfl (fun q3 => ?_) (fun q3 => ?_)
  · replace h := ite_t q3 h
    refine x_c (pc' := 8) rfl rfl ?_
    refine x_is (pc' := 9) (ls' := [(2, 64), (0, p1), (0, (-2)), (3, 0)]) rfl rfl rfl rfl ?_
    refine x_c (pc' := 10) rfl rfl ?_
    refine x_is (pc' := 11) (ls' := [(2, 64), (0, p1), (0, (-2)), (0, 0)]) rfl rfl rfl rfl ?_
    exact h
  · replace h := ite_f q3 h
    refine x_c (pc' := 6) rfl rfl ?_
    exact x_iret rfl h
theorem sg_M_signs_11 {d : Nat} {l1 : Int} {l2 : Int} {l3 : Int} {M : Mem} {r : Res} (h : (if 1024 ≤ l3 then (if l2 = (-2) then r = (some (0, l2), M) else (if ¬ l1 = 1 then ∃ v5, Cl d m_J_bitCount [(0, l2)] M (some (0, v5), M) ∧ r = (some (0, v5), M) else r = (some (0, l2), M))) else (if l2 = (-2) then ∃ v8, Cl d m_M_areApart [(2, 64), (0, l3)] M (some (0, v8), M) ∧ (if v8 = 0 then at_M_signs_11 d l1 l2 (w32 (l3 + 1)) M r else at_M_signs_11 d l1 l3 (w32 (l3 + 1)) M r) else ∃ v11, Cl d m_J_bitCount [(0, l3)] M (some (0, v11), M) ∧ ∃ v13, Cl d m_J_bitCount [(0, l2)] M (some (0, v13), M) ∧ (if v13 ≤ v11 then at_M_signs_11 d l1 l2 (w32 (l3 + 1)) M r else ∃ v16, Cl d m_M_areApart [(2, 64), (0, l3)] M (some (0, v16), M) ∧ (if v16 = 0 then at_M_signs_11 d l1 l2 (w32 (l3 + 1)) M r else at_M_signs_11 d l1 l3 (w32 (l3 + 1)) M r))))) : at_M_signs_11 d l1 l2 l3 M r := by
  unfold at_M_signs_11
  refine x_il (pc' := 12) rfl rfl rfl ?_
  refine x_c (pc' := 13) rfl rfl ?_
  refine x_icge (pc' := 14) (t' := 30) rfl rfl rfl (fun q1 => ?_) (fun q1 => ?_)
  · replace h := ite_t q1 h
    refine x_il (pc' := 31) rfl rfl rfl ?_
    refine x_c (pc' := 32) rfl rfl ?_
    refine x_iceq (pc' := 33) (t' := 36) rfl rfl rfl (fun q2 => ?_) (fun q2 => ?_)
    · replace h := ite_t q2 h
      refine x_il (pc' := 37) rfl rfl rfl ?_
      refine x_goto (t' := 40) rfl rfl ?_
      exact x_iret rfl h
    · replace h := ite_f q2 h
      refine x_il (pc' := 34) rfl rfl rfl ?_
      refine x_c (pc' := 35) rfl rfl ?_
      refine x_icne (pc' := 36) (t' := 38) rfl rfl rfl (fun q3 => ?_) (fun q3 => ?_)
      · replace h := ite_t q3 h
        refine x_il (pc' := 39) rfl rfl rfl ?_
        obtain ⟨v5, q4, h⟩ := h
        refine x_call (pc' := 40) (as := [(0, l2)]) (rest := []) rfl rfl rfl rfl rfl rfl q4 ?_
        exact x_iret rfl h
      · replace h := ite_f q3 h
        refine x_il (pc' := 37) rfl rfl rfl ?_
        refine x_goto (t' := 40) rfl rfl ?_
        exact x_iret rfl h
  · replace h := ite_f q1 h
    refine x_il (pc' := 15) rfl rfl rfl ?_
    refine x_c (pc' := 16) rfl rfl ?_
    refine x_iceq (pc' := 17) (t' := 22) rfl rfl rfl (fun q6 => ?_) (fun q6 => ?_)
    · replace h := ite_t q6 h
      refine x_al (pc' := 23) rfl rfl (by decide) rfl ?_
      refine x_il (pc' := 24) rfl rfl rfl ?_
      obtain ⟨v8, q7, h⟩ := h
      refine x_call (pc' := 25) (as := [(2, 64), (0, l3)]) (rest := []) rfl rfl rfl rfl rfl rfl q7 ?_
      refine x_ifeq (pc' := 26) (t' := 28) rfl rfl rfl (fun q9 => ?_) (fun q9 => ?_)
      · replace h := ite_t q9 h
        refine x_inc (pc' := 29) (ls' := [(2, 64), (0, l1), (0, l2), (0, w32 (l3 + 1))]) rfl rfl rfl rfl ?_
        refine x_goto (t' := 11) rfl rfl ?_
        exact h
      · replace h := ite_f q9 h
        refine x_il (pc' := 27) rfl rfl rfl ?_
        refine x_is (pc' := 28) (ls' := [(2, 64), (0, l1), (0, l3), (0, l3)]) rfl rfl rfl rfl ?_
        refine x_inc (pc' := 29) (ls' := [(2, 64), (0, l1), (0, l3), (0, w32 (l3 + 1))]) rfl rfl rfl rfl ?_
        refine x_goto (t' := 11) rfl rfl ?_
        exact h
    · replace h := ite_f q6 h
      refine x_il (pc' := 18) rfl rfl rfl ?_
      obtain ⟨v11, q10, h⟩ := h
      refine x_call (pc' := 19) (as := [(0, l3)]) (rest := []) rfl rfl rfl rfl rfl rfl q10 ?_
      refine x_il (pc' := 20) rfl rfl rfl ?_
      obtain ⟨v13, q12, h⟩ := h
      refine x_call (pc' := 21) (as := [(0, l2)]) (rest := [(0, v11)]) rfl rfl rfl rfl rfl rfl q12 ?_
      refine x_icge (pc' := 22) (t' := 28) rfl rfl rfl (fun q14 => ?_) (fun q14 => ?_)
      · replace h := ite_t q14 h
        refine x_inc (pc' := 29) (ls' := [(2, 64), (0, l1), (0, l2), (0, w32 (l3 + 1))]) rfl rfl rfl rfl ?_
        refine x_goto (t' := 11) rfl rfl ?_
        exact h
      · replace h := ite_f q14 h
        refine x_al (pc' := 23) rfl rfl (by decide) rfl ?_
        refine x_il (pc' := 24) rfl rfl rfl ?_
        obtain ⟨v16, q15, h⟩ := h
        refine x_call (pc' := 25) (as := [(2, 64), (0, l3)]) (rest := []) rfl rfl rfl rfl rfl rfl q15 ?_
        refine x_ifeq (pc' := 26) (t' := 28) rfl rfl rfl (fun q17 => ?_) (fun q17 => ?_)
        · replace h := ite_t q17 h
          refine x_inc (pc' := 29) (ls' := [(2, 64), (0, l1), (0, l2), (0, w32 (l3 + 1))]) rfl rfl rfl rfl ?_
          refine x_goto (t' := 11) rfl rfl ?_
          exact h
        · replace h := ite_f q17 h
          refine x_il (pc' := 27) rfl rfl rfl ?_
          refine x_is (pc' := 28) (ls' := [(2, 64), (0, l1), (0, l3), (0, l3)]) rfl rfl rfl rfl ?_
          refine x_inc (pc' := 29) (ls' := [(2, 64), (0, l1), (0, l3), (0, w32 (l3 + 1))]) rfl rfl rfl rfl ?_
          refine x_goto (t' := 11) rfl rfl ?_
          exact h
theorem sg_M_isPoints {d : Nat} {p1 : Int} {M : Mem} {r : Res} (h : (if p1 < 0 then r = (some (0, 0), M) else ∃ v3, Cl d m_M_within [(0, w32 (Int.tdiv p1 100)), (0, 1), (0, 12)] M (some (0, v3), M) ∧ (if v3 = 0 then r = (some (0, 0), M) else ∃ v6, Cl d m_M_within [(0, w32 (Int.tmod p1 100)), (0, 2), (0, 9)] M (some (0, v6), M) ∧ (if v6 = 0 then r = (some (0, 0), M) else r = (some (0, 1), M))))) : Cl (d + 1) m_M_isPoints [(0, p1)] M r := by
  refine cl_of (c := k_M_isPoints) (mL := 1) (rz := 3) (rc := 99) (ls := [(0, p1)]) rfl rfl rfl ?_
  refine x_il (pc' := 1) rfl rfl rfl ?_
  refine x_iflt (pc' := 2) (t' := 18) rfl rfl rfl (fun q1 => ?_) (fun q1 => ?_)
  · replace h := ite_t q1 h
    refine x_c (pc' := 19) rfl rfl ?_
    exact x_zret rfl (by decide) h
  · replace h := ite_f q1 h
    refine x_il (pc' := 3) rfl rfl rfl ?_
    refine x_c (pc' := 4) rfl rfl ?_
    refine x_ib (pc' := 5) (v := w32 (Int.tdiv p1 100)) rfl rfl rfl ?_
    refine x_c (pc' := 6) rfl rfl ?_
    refine x_c (pc' := 7) rfl rfl ?_
    obtain ⟨v3, q2, h⟩ := h
    refine x_call (pc' := 8) (as := [(0, w32 (Int.tdiv p1 100)), (0, 1), (0, 12)]) (rest := []) rfl rfl rfl rfl rfl rfl q2 ?_
    refine x_ifeq (pc' := 9) (t' := 18) rfl rfl rfl (fun q4 => ?_) (fun q4 => ?_)
    · replace h := ite_t q4 h
      refine x_c (pc' := 19) rfl rfl ?_
      exact x_zret rfl (by decide) h
    · replace h := ite_f q4 h
      refine x_il (pc' := 10) rfl rfl rfl ?_
      refine x_c (pc' := 11) rfl rfl ?_
      refine x_ib (pc' := 12) (v := w32 (Int.tmod p1 100)) rfl rfl rfl ?_
      refine x_c (pc' := 13) rfl rfl ?_
      refine x_c (pc' := 14) rfl rfl ?_
      obtain ⟨v6, q5, h⟩ := h
      refine x_call (pc' := 15) (as := [(0, w32 (Int.tmod p1 100)), (0, 2), (0, 9)]) (rest := []) rfl rfl rfl rfl rfl rfl q5 ?_
      refine x_ifeq (pc' := 16) (t' := 18) rfl rfl rfl (fun q7 => ?_) (fun q7 => ?_)
      · replace h := ite_t q7 h
        refine x_c (pc' := 19) rfl rfl ?_
        exact x_zret rfl (by decide) h
      · replace h := ite_f q7 h
        refine x_c (pc' := 17) rfl rfl ?_
        refine x_goto (t' := 19) rfl rfl ?_
        exact x_zret rfl (by decide) h
def at_M_ways_4 (d : Nat) (l0 : Int) (l1 : Int) (l2 : Int) (l3 : Int) (w4 : AV) (l5 : Int) (M : Mem) (r : Res) : Prop := Ex sx0 d k_M_ways 2 4 [(0, l0), (0, l1), (0, l2), (1, l3), w4, (0, l5)] [] M r
def at_M_ways_23 (d : Nat) (l0 : Int) (l1 : Int) (w2 : AV) (l3 : Int) (w4 : AV) (l5 : Int) (M : Mem) (r : Res) : Prop := Ex sx0 d k_M_ways 2 23 [(0, l0), (0, l1), w2, (1, l3), w4, (0, l5)] [] M r
theorem sg_M_ways {d : Nat} {p1 p2 p3 : Int} {M : Mem} {r : Res} (h : at_M_ways_4 d p1 p2 p3 1 (3, 0) 0 M r) : Cl (d + 1) m_M_ways [(0, p1), (0, p2), (0, p3)] M r := by
  refine cl_of (c := k_M_ways) (mL := 6) (rz := 2) (rc := 99) (ls := [(0, p1), (0, p2), (0, p3), (3, 0), (3, 0), (3, 0)]) rfl rfl rfl ?_
  refine x_lc (pc' := 1) rfl rfl ?_
  refine x_ls (pc' := 2) (ls' := [(0, p1), (0, p2), (0, p3), (1, 1), (3, 0), (3, 0)]) rfl rfl rfl rfl ?_
  refine x_c (pc' := 3) rfl rfl ?_
  refine x_is (pc' := 4) (ls' := [(0, p1), (0, p2), (0, p3), (1, 1), (3, 0), (0, 0)]) rfl rfl rfl rfl ?_
  exact h
theorem sg_M_ways_4 {d : Nat} {l0 : Int} {l1 : Int} {l2 : Int} {l3 : Int} {w4 : AV} {l5 : Int} {M : Mem} {r : Res} (hw4 : ¬ w4.1 = 1) (h : (if l2 ≤ l5 then at_M_ways_23 d l0 l1 (0, l2) l3 w4 l2 M r else (¬ w32 (l5 + 1) = 0) ∧ at_M_ways_4 d l0 l1 l2 (w64 (Int.tdiv (w64 (l3 * (w32 (l0 - l5)))) (w32 (l5 + 1)))) (3, 0) (w32 (l5 + 1)) M r)) : at_M_ways_4 d l0 l1 l2 l3 w4 l5 M r := by
  unfold at_M_ways_4
  refine x_il (pc' := 5) rfl rfl rfl ?_
  refine x_il (pc' := 6) rfl rfl rfl ?_
  refine x_icge (pc' := 7) (t' := 21) rfl rfl rfl (fun q1 => ?_) (fun q1 => ?_)
  · replace h := ite_t q1 h
    refine x_il (pc' := 22) rfl rfl rfl ?_
    refine x_is (pc' := 23) (ls' := [(0, l0), (0, l1), (0, l2), (1, l3), w4, (0, l2)]) rfl rfl (setL_nw (i := 4) rfl hw4) rfl ?_
    exact h
  · replace h := ite_f q1 h
    refine x_ll (pc' := 8) rfl rfl rfl ?_
    refine x_il (pc' := 9) rfl rfl rfl ?_
    refine x_il (pc' := 10) rfl rfl rfl ?_
    refine x_ib (pc' := 11) (v := w32 (l0 - l5)) rfl rfl rfl ?_
    refine x_i2l (pc' := 12) rfl rfl ?_
    refine x_lb (pc' := 13) (v := w64 (l3 * (w32 (l0 - l5)))) rfl rfl rfl ?_
    refine x_il (pc' := 14) rfl rfl rfl ?_
    refine x_c (pc' := 15) rfl rfl ?_
    refine x_ib (pc' := 16) (v := w32 (l5 + 1)) rfl rfl rfl ?_
    refine x_i2l (pc' := 17) rfl rfl ?_
    obtain ⟨q2, h⟩ := h
    refine x_lb (pc' := 18) (v := w64 (Int.tdiv (w64 (l3 * (w32 (l0 - l5)))) (w32 (l5 + 1)))) rfl (show lbin 3 (w64 (l3 * (w32 (l0 - l5)))) (w32 (l5 + 1)) = some (w64 (Int.tdiv (w64 (l3 * (w32 (l0 - l5)))) (w32 (l5 + 1)))) from if_neg q2) rfl ?_
    refine x_ls (pc' := 19) (ls' := [(0, l0), (0, l1), (0, l2), (1, w64 (Int.tdiv (w64 (l3 * (w32 (l0 - l5)))) (w32 (l5 + 1)))), (3, 0), (0, l5)]) rfl rfl rfl rfl ?_
    refine x_inc (pc' := 20) (ls' := [(0, l0), (0, l1), (0, l2), (1, w64 (Int.tdiv (w64 (l3 * (w32 (l0 - l5)))) (w32 (l5 + 1)))), (3, 0), (0, w32 (l5 + 1))]) rfl rfl rfl rfl ?_
    refine x_goto (t' := 4) rfl rfl ?_
    exact h
theorem sg_M_ways_23 {d : Nat} {l0 : Int} {l1 : Int} {w2 : AV} {l3 : Int} {w4 : AV} {l5 : Int} {M : Mem} {r : Res} (hw2 : ¬ w2.1 = 1) (h : (if l0 ≤ l5 then r = (some (1, l3), M) else at_M_ways_23 d l0 l1 w2 (w64 (l3 * (w32 (l1 - 1)))) (3, 0) (w32 (l5 + 1)) M r)) : at_M_ways_23 d l0 l1 w2 l3 w4 l5 M r := by
  unfold at_M_ways_23
  refine x_il (pc' := 24) rfl rfl rfl ?_
  refine x_il (pc' := 25) rfl rfl rfl ?_
  refine x_icge (pc' := 26) (t' := 35) rfl rfl rfl (fun q1 => ?_) (fun q1 => ?_)
  · replace h := ite_t q1 h
    refine x_ll (pc' := 36) rfl rfl rfl ?_
    exact x_lret rfl h
  · replace h := ite_f q1 h
    refine x_ll (pc' := 27) rfl rfl rfl ?_
    refine x_il (pc' := 28) rfl rfl rfl ?_
    refine x_c (pc' := 29) rfl rfl ?_
    refine x_ib (pc' := 30) (v := w32 (l1 - 1)) rfl rfl rfl ?_
    refine x_i2l (pc' := 31) rfl rfl ?_
    refine x_lb (pc' := 32) (v := w64 (l3 * (w32 (l1 - 1)))) rfl rfl rfl ?_
    refine x_ls (pc' := 33) (ls' := [(0, l0), (0, l1), w2, (1, w64 (l3 * (w32 (l1 - 1)))), (3, 0), (0, l5)]) rfl rfl (congrArg (fun l => List.set l 4 (3, 0)) (setL_nw (i := 2) rfl hw2)) rfl ?_
    refine x_inc (pc' := 34) (ls' := [(0, l0), (0, l1), w2, (1, w64 (l3 * (w32 (l1 - 1)))), (3, 0), (0, w32 (l5 + 1))]) rfl rfl rfl rfl ?_
    refine x_goto (t' := 23) rfl rfl ?_
    exact h
def at_M_all_4 (d : Nat) (l0 : Int) (l1 : Int) (l2 : Int) (w3 : AV) (l4 : Int) (M : Mem) (r : Res) : Prop := Ex sx0 d k_M_all 2 4 [(0, l0), (0, l1), (1, l2), w3, (0, l4)] [] M r
theorem sg_M_all {d : Nat} {p1 p2 : Int} {M : Mem} {r : Res} (h : at_M_all_4 d p1 p2 1 (3, 0) 0 M r) : Cl (d + 1) m_M_all [(0, p1), (0, p2)] M r := by
  refine cl_of (c := k_M_all) (mL := 5) (rz := 2) (rc := 99) (ls := [(0, p1), (0, p2), (3, 0), (3, 0), (3, 0)]) rfl rfl rfl ?_
  refine x_lc (pc' := 1) rfl rfl ?_
  refine x_ls (pc' := 2) (ls' := [(0, p1), (0, p2), (1, 1), (3, 0), (3, 0)]) rfl rfl rfl rfl ?_
  refine x_c (pc' := 3) rfl rfl ?_
  refine x_is (pc' := 4) (ls' := [(0, p1), (0, p2), (1, 1), (3, 0), (0, 0)]) rfl rfl rfl rfl ?_
  exact h
theorem sg_M_all_4 {d : Nat} {l0 : Int} {l1 : Int} {l2 : Int} {w3 : AV} {l4 : Int} {M : Mem} {r : Res} (h : (if l0 ≤ l4 then r = (some (1, l2), M) else at_M_all_4 d l0 l1 (w64 (l2 * l1)) (3, 0) (w32 (l4 + 1)) M r)) : at_M_all_4 d l0 l1 l2 w3 l4 M r := by
  unfold at_M_all_4
  refine x_il (pc' := 5) rfl rfl rfl ?_
  refine x_il (pc' := 6) rfl rfl rfl ?_
  refine x_icge (pc' := 7) (t' := 14) rfl rfl rfl (fun q1 => ?_) (fun q1 => ?_)
  · replace h := ite_t q1 h
    refine x_ll (pc' := 15) rfl rfl rfl ?_
    exact x_lret rfl h
  · replace h := ite_f q1 h
    refine x_ll (pc' := 8) rfl rfl rfl ?_
    refine x_il (pc' := 9) rfl rfl rfl ?_
    refine x_i2l (pc' := 10) rfl rfl ?_
    refine x_lb (pc' := 11) (v := w64 (l2 * l1)) rfl rfl rfl ?_
    refine x_ls (pc' := 12) (ls' := [(0, l0), (0, l1), (1, w64 (l2 * l1)), (3, 0), (0, l4)]) rfl rfl rfl rfl ?_
    refine x_inc (pc' := 13) (ls' := [(0, l0), (0, l1), (1, w64 (l2 * l1)), (3, 0), (0, w32 (l4 + 1))]) rfl rfl rfl rfl ?_
    refine x_goto (t' := 4) rfl rfl ?_
    exact h
def at_M_enough_24 (d : Nat) (w0 : AV) (w1 : AV) (l2 : Int) (l3 : Int) (l4 : Int) (l5 : Int) (w6 : AV) (l7 : Int) (l8 : Int) (M : Mem) (r : Res) : Prop := Ex sx0 d k_M_enough 1 24 [w0, w1, (0, l2), (0, l3), (0, l4), (1, l5), w6, (0, l7), (0, l8)] [] M r
theorem sg_M_enough {d : Nat} {p1 p2 : Int} {M : Mem} {r : Res} (h : ∃ v2, Cl d m_M_isPoints [(0, p1)] M (some (0, v2), M) ∧ (if v2 = 0 then r = (some (0, (-1)), M) else ∃ v5, Cl d m_M_within [(0, p2), (0, 1), (0, 9999)] M (some (0, v5), M) ∧ (if ¬ v5 = 0 then at_M_enough_24 d (2, 64) (0, p1) p2 (w32 (Int.tdiv p1 100)) (w32 (Int.tmod p1 100)) 0 (3, 0) (-2) (w32 (Int.tdiv p1 100)) M r else r = (some (0, (-1)), M)))) : Cl (d + 1) m_M_enough [(2, 64), (0, p1), (0, p2)] M r := by
  refine cl_of (c := k_M_enough) (mL := 9) (rz := 1) (rc := 7) (ls := [(2, 64), (0, p1), (0, p2), (3, 0), (3, 0), (3, 0), (3, 0), (3, 0), (3, 0)]) rfl rfl rfl ?_
  refine x_il (pc' := 1) rfl rfl rfl ?_
  obtain ⟨v2, q1, h⟩ := h
  refine x_call (pc' := 2) (as := [(0, p1)]) (rest := []) rfl rfl rfl rfl rfl rfl q1 ?_
  refine x_ifeq (pc' := 3) (t' := 8) rfl rfl rfl (fun q3 => ?_) (fun q3 => ?_)
  · replace h := ite_t q3 h
    refine x_c (pc' := 9) rfl rfl ?_
    exact x_iret rfl h
  · replace h := ite_f q3 h
    refine x_il (pc' := 4) rfl rfl rfl ?_
    refine x_c (pc' := 5) rfl rfl ?_
    refine x_c (pc' := 6) rfl rfl ?_
    obtain ⟨v5, q4, h⟩ := h
    refine x_call (pc' := 7) (as := [(0, p2), (0, 1), (0, 9999)]) (rest := []) rfl rfl rfl rfl rfl rfl q4 ?_
    refine x_ifne (pc' := 8) (t' := 10) rfl rfl rfl (fun q6 => ?_) (fun q6 => ?_)
    · replace h := ite_t q6 h
      refine x_il (pc' := 11) rfl rfl rfl ?_
      refine x_c (pc' := 12) rfl rfl ?_
      refine x_ib (pc' := 13) (v := w32 (Int.tdiv p1 100)) rfl rfl rfl ?_
      refine x_is (pc' := 14) (ls' := [(2, 64), (0, p1), (0, p2), (0, w32 (Int.tdiv p1 100)), (3, 0), (3, 0), (3, 0), (3, 0), (3, 0)]) rfl rfl rfl rfl ?_
      refine x_il (pc' := 15) rfl rfl rfl ?_
      refine x_c (pc' := 16) rfl rfl ?_
      refine x_ib (pc' := 17) (v := w32 (Int.tmod p1 100)) rfl rfl rfl ?_
      refine x_is (pc' := 18) (ls' := [(2, 64), (0, p1), (0, p2), (0, w32 (Int.tdiv p1 100)), (0, w32 (Int.tmod p1 100)), (3, 0), (3, 0), (3, 0), (3, 0)]) rfl rfl rfl rfl ?_
      refine x_lc (pc' := 19) rfl rfl ?_
      refine x_ls (pc' := 20) (ls' := [(2, 64), (0, p1), (0, p2), (0, w32 (Int.tdiv p1 100)), (0, w32 (Int.tmod p1 100)), (1, 0), (3, 0), (3, 0), (3, 0)]) rfl rfl rfl rfl ?_
      refine x_c (pc' := 21) rfl rfl ?_
      refine x_is (pc' := 22) (ls' := [(2, 64), (0, p1), (0, p2), (0, w32 (Int.tdiv p1 100)), (0, w32 (Int.tmod p1 100)), (1, 0), (3, 0), (0, (-2)), (3, 0)]) rfl rfl rfl rfl ?_
      refine x_il (pc' := 23) rfl rfl rfl ?_
      refine x_is (pc' := 24) (ls' := [(2, 64), (0, p1), (0, p2), (0, w32 (Int.tdiv p1 100)), (0, w32 (Int.tmod p1 100)), (1, 0), (3, 0), (0, (-2)), (0, w32 (Int.tdiv p1 100))]) rfl rfl rfl rfl ?_
      exact h
    · replace h := ite_f q6 h
      refine x_c (pc' := 9) rfl rfl ?_
      exact x_iret rfl h
theorem sg_M_enough_24 {d : Nat} {w0 : AV} {w1 : AV} {l2 : Int} {l3 : Int} {l4 : Int} {l5 : Int} {w6 : AV} {l7 : Int} {l8 : Int} {M : Mem} {r : Res} (h : (if l8 < 0 then r = (some (0, l7), M) else ∃ v3, Cl d m_M_ways [(0, l3), (0, l4), (0, l8)] M (some (1, v3), M) ∧ ∃ v5, Cl d m_M_all [(0, l3), (0, l4)] M (some (1, v5), M) ∧ (if 0 ≤ lcmpI (w64 ((w64 (l5 + v3)) * l2)) v5 then at_M_enough_24 d w0 w1 l2 l3 l4 (w64 (l5 + v3)) (3, 0) l7 (w32 (l8 + (-1))) M r else at_M_enough_24 d w0 w1 l2 l3 l4 (w64 (l5 + v3)) (3, 0) l8 (w32 (l8 + (-1))) M r))) : at_M_enough_24 d w0 w1 l2 l3 l4 l5 w6 l7 l8 M r := by
  unfold at_M_enough_24
  refine x_il (pc' := 25) rfl rfl rfl ?_
  refine x_iflt (pc' := 26) (t' := 46) rfl rfl rfl (fun q1 => ?_) (fun q1 => ?_)
  · replace h := ite_t q1 h
    refine x_il (pc' := 47) rfl rfl rfl ?_
    exact x_iret rfl h
  · replace h := ite_f q1 h
    refine x_ll (pc' := 27) rfl rfl rfl ?_
    refine x_il (pc' := 28) rfl rfl rfl ?_
    refine x_il (pc' := 29) rfl rfl rfl ?_
    refine x_il (pc' := 30) rfl rfl rfl ?_
    obtain ⟨v3, q2, h⟩ := h
    refine x_call (pc' := 31) (as := [(0, l3), (0, l4), (0, l8)]) (rest := [(1, l5)]) rfl rfl rfl rfl rfl rfl q2 ?_
    refine x_lb (pc' := 32) (v := w64 (l5 + v3)) rfl rfl rfl ?_
    refine x_ls (pc' := 33) (ls' := [w0, w1, (0, l2), (0, l3), (0, l4), (1, w64 (l5 + v3)), (3, 0), (0, l7), (0, l8)]) rfl rfl rfl rfl ?_
    refine x_ll (pc' := 34) rfl rfl rfl ?_
    refine x_il (pc' := 35) rfl rfl rfl ?_
    refine x_i2l (pc' := 36) rfl rfl ?_
    refine x_lb (pc' := 37) (v := w64 ((w64 (l5 + v3)) * l2)) rfl rfl rfl ?_
    refine x_il (pc' := 38) rfl rfl rfl ?_
    refine x_il (pc' := 39) rfl rfl rfl ?_
    obtain ⟨v5, q4, h⟩ := h
    refine x_call (pc' := 40) (as := [(0, l3), (0, l4)]) (rest := [(1, w64 ((w64 (l5 + v3)) * l2))]) rfl rfl rfl rfl rfl rfl q4 ?_
    refine x_lcmp (pc' := 41) rfl rfl ?_
    refine x_ifge (pc' := 42) (t' := 44) rfl rfl rfl (fun q6 => ?_) (fun q6 => ?_)
    · replace h := ite_t q6 h
      refine x_inc (pc' := 45) (ls' := [w0, w1, (0, l2), (0, l3), (0, l4), (1, w64 (l5 + v3)), (3, 0), (0, l7), (0, w32 (l8 + (-1)))]) rfl rfl rfl rfl ?_
      refine x_goto (t' := 24) rfl rfl ?_
      exact h
    · replace h := ite_f q6 h
      refine x_il (pc' := 43) rfl rfl rfl ?_
      refine x_is (pc' := 44) (ls' := [w0, w1, (0, l2), (0, l3), (0, l4), (1, w64 (l5 + v3)), (3, 0), (0, l8), (0, l8)]) rfl rfl rfl rfl ?_
      refine x_inc (pc' := 45) (ls' := [w0, w1, (0, l2), (0, l3), (0, l4), (1, w64 (l5 + v3)), (3, 0), (0, l8), (0, w32 (l8 + (-1)))]) rfl rfl rfl rfl ?_
      refine x_goto (t' := 24) rfl rfl ?_
      exact h
theorem sg_M_chance {d : Nat} {p1 p2 p3 : Int} {M : Mem} {r : Res} (h : ∃ v2, Cl d m_M_isPoints [(0, p1)] M (some (0, v2), M) ∧ (if v2 = 0 then r = (some (1, (-9223372036854775808)), M) else ∃ v5, Cl d m_M_within [(0, p2), (0, 0), (0, w32 (Int.tdiv p1 100))] M (some (0, v5), M) ∧ (if v5 = 0 then r = (some (1, (-9223372036854775808)), M) else ∃ v8, Cl d m_M_within [(0, p3), (0, 0), (0, 1)] M (some (0, v8), M) ∧ (if ¬ v8 = 0 then ∃ v11, Cl d m_M_ways [(0, w32 (Int.tdiv p1 100)), (0, w32 (Int.tmod p1 100)), (0, p2)] M (some (1, v11), M) ∧ ∃ v13, Cl d m_M_all [(0, w32 (Int.tdiv p1 100)), (0, w32 (Int.tmod p1 100))] M (some (1, v13), M) ∧ ∃ v15, Cl d m_M_part [(1, v11), (1, v13), (0, p3)] M (some (1, v15), M) ∧ r = (some (1, v15), M) else r = (some (1, (-9223372036854775808)), M))))) : Cl (d + 1) m_M_chance [(2, 64), (0, p1), (0, p2), (0, p3)] M r := by
  refine cl_of (c := k_M_chance) (mL := 4) (rz := 2) (rc := 7) (ls := [(2, 64), (0, p1), (0, p2), (0, p3)]) rfl rfl rfl ?_
  refine x_il (pc' := 1) rfl rfl rfl ?_
  obtain ⟨v2, q1, h⟩ := h
  refine x_call (pc' := 2) (as := [(0, p1)]) (rest := []) rfl rfl rfl rfl rfl rfl q1 ?_
  refine x_ifeq (pc' := 3) (t' := 15) rfl rfl rfl (fun q3 => ?_) (fun q3 => ?_)
  · replace h := ite_t q3 h
    refine x_lc (pc' := 16) rfl rfl ?_
    exact x_lret rfl h
  · replace h := ite_f q3 h
    refine x_il (pc' := 4) rfl rfl rfl ?_
    refine x_c (pc' := 5) rfl rfl ?_
    refine x_il (pc' := 6) rfl rfl rfl ?_
    refine x_c (pc' := 7) rfl rfl ?_
    refine x_ib (pc' := 8) (v := w32 (Int.tdiv p1 100)) rfl rfl rfl ?_
    obtain ⟨v5, q4, h⟩ := h
    refine x_call (pc' := 9) (as := [(0, p2), (0, 0), (0, w32 (Int.tdiv p1 100))]) (rest := []) rfl rfl rfl rfl rfl rfl q4 ?_
    refine x_ifeq (pc' := 10) (t' := 15) rfl rfl rfl (fun q6 => ?_) (fun q6 => ?_)
    · replace h := ite_t q6 h
      refine x_lc (pc' := 16) rfl rfl ?_
      exact x_lret rfl h
    · replace h := ite_f q6 h
      refine x_il (pc' := 11) rfl rfl rfl ?_
      refine x_c (pc' := 12) rfl rfl ?_
      refine x_c (pc' := 13) rfl rfl ?_
      obtain ⟨v8, q7, h⟩ := h
      refine x_call (pc' := 14) (as := [(0, p3), (0, 0), (0, 1)]) (rest := []) rfl rfl rfl rfl rfl rfl q7 ?_
      refine x_ifne (pc' := 15) (t' := 17) rfl rfl rfl (fun q9 => ?_) (fun q9 => ?_)
      · replace h := ite_t q9 h
        refine x_il (pc' := 18) rfl rfl rfl ?_
        refine x_c (pc' := 19) rfl rfl ?_
        refine x_ib (pc' := 20) (v := w32 (Int.tdiv p1 100)) rfl rfl rfl ?_
        refine x_il (pc' := 21) rfl rfl rfl ?_
        refine x_c (pc' := 22) rfl rfl ?_
        refine x_ib (pc' := 23) (v := w32 (Int.tmod p1 100)) rfl rfl rfl ?_
        refine x_il (pc' := 24) rfl rfl rfl ?_
        obtain ⟨v11, q10, h⟩ := h
        refine x_call (pc' := 25) (as := [(0, w32 (Int.tdiv p1 100)), (0, w32 (Int.tmod p1 100)), (0, p2)]) (rest := []) rfl rfl rfl rfl rfl rfl q10 ?_
        refine x_il (pc' := 26) rfl rfl rfl ?_
        refine x_c (pc' := 27) rfl rfl ?_
        refine x_ib (pc' := 28) (v := w32 (Int.tdiv p1 100)) rfl rfl rfl ?_
        refine x_il (pc' := 29) rfl rfl rfl ?_
        refine x_c (pc' := 30) rfl rfl ?_
        refine x_ib (pc' := 31) (v := w32 (Int.tmod p1 100)) rfl rfl rfl ?_
        obtain ⟨v13, q12, h⟩ := h
        refine x_call (pc' := 32) (as := [(0, w32 (Int.tdiv p1 100)), (0, w32 (Int.tmod p1 100))]) (rest := [(1, v11)]) rfl rfl rfl rfl rfl rfl q12 ?_
        refine x_il (pc' := 33) rfl rfl rfl ?_
        obtain ⟨v15, q14, h⟩ := h
        refine x_call (pc' := 34) (as := [(1, v11), (1, v13), (0, p3)]) (rest := []) rfl rfl rfl rfl rfl rfl q14 ?_
        exact x_lret rfl h
      · replace h := ite_f q9 h
        refine x_lc (pc' := 16) rfl rfl ?_
        exact x_lret rfl h
theorem sg_M_noRow {d : Nat} {p1 p2 : Int} {M : Mem} {r : Res} (h : (0 ≤ p1 ∧ p1 < 6) ∧ (if ¬ M 84 p1 = (-1) then (0 ≤ p1 ∧ p1 < 6) ∧ (if M 84 p1 = p2 then r = (some (0, 0), M) else r = (some (0, (-12)), M)) else r = (some (0, (-11)), M))) : Cl (d + 1) m_M_noRow [(2, 64), (0, p1), (0, p2)] M r := by
  refine cl_of (c := k_M_noRow) (mL := 3) (rz := 1) (rc := 7) (ls := [(2, 64), (0, p1), (0, p2)]) rfl rfl rfl ?_
  refine x_al (pc' := 1) rfl rfl (by decide) rfl ?_
  refine x_gr (pc' := 2) (v := 84) rfl rfl rfl (by decide) rfl ?_
  refine x_il (pc' := 3) rfl rfl rfl ?_
  obtain ⟨q1, h⟩ := h
  refine x_ia (pc' := 4) 6 (v := M 84 p1) rfl rfl rfl q1.1 q1.2 rfl ?_
  refine x_c (pc' := 5) rfl rfl ?_
  refine x_icne (pc' := 6) (t' := 8) rfl rfl rfl (fun q2 => ?_) (fun q2 => ?_)
  · replace h := ite_t q2 h
    refine x_al (pc' := 9) rfl rfl (by decide) rfl ?_
    refine x_gr (pc' := 10) (v := 84) rfl rfl rfl (by decide) rfl ?_
    refine x_il (pc' := 11) rfl rfl rfl ?_
    obtain ⟨q3, h⟩ := h
    refine x_ia (pc' := 12) 6 (v := M 84 p1) rfl rfl rfl q3.1 q3.2 rfl ?_
    refine x_il (pc' := 13) rfl rfl rfl ?_
    refine x_iceq (pc' := 14) (t' := 16) rfl rfl rfl (fun q4 => ?_) (fun q4 => ?_)
    · replace h := ite_t q4 h
      refine x_c (pc' := 17) rfl rfl ?_
      exact x_iret rfl h
    · replace h := ite_f q4 h
      refine x_c (pc' := 15) rfl rfl ?_
      refine x_goto (t' := 17) rfl rfl ?_
      exact x_iret rfl h
  · replace h := ite_f q2 h
    refine x_c (pc' := 7) rfl rfl ?_
    refine x_goto (t' := 17) rfl rfl ?_
    exact x_iret rfl h
theorem sg_M_told {d : Nat} {p1 p2 : Int} {M : Mem} {r : Res} (h : (0 ≤ w32 ((w32 (60 * p1)) + p2) ∧ w32 ((w32 (60 * p1)) + p2) < 360) ∧ r = (some (0, w32 (M 86 (w32 ((w32 (60 * p1)) + p2)))), M)) : Cl (d + 1) m_M_told [(2, 64), (0, p1), (0, p2)] M r := by
  refine cl_of (c := k_M_told) (mL := 3) (rz := 1) (rc := 7) (ls := [(2, 64), (0, p1), (0, p2)]) rfl rfl rfl ?_
  refine x_al (pc' := 1) rfl rfl (by decide) rfl ?_
  refine x_gr (pc' := 2) (v := 86) rfl rfl rfl (by decide) rfl ?_
  refine x_c (pc' := 3) rfl rfl ?_
  refine x_il (pc' := 4) rfl rfl rfl ?_
  refine x_ib (pc' := 5) (v := w32 (60 * p1)) rfl rfl rfl ?_
  refine x_il (pc' := 6) rfl rfl rfl ?_
  refine x_ib (pc' := 7) (v := w32 ((w32 (60 * p1)) + p2)) rfl rfl rfl ?_
  obtain ⟨q1, h⟩ := h
  refine x_la (pc' := 8) 360 (v := M 86 (w32 ((w32 (60 * p1)) + p2))) rfl rfl rfl q1.1 q1.2 rfl ?_
  refine x_l2i (pc' := 9) rfl rfl ?_
  exact x_iret rfl h
def at_M_wrongFinger_2 (d : Nat) (l1 : Int) (l2 : Int) (l3 : Int) (M : Mem) (r : Res) : Prop := Ex sx0 d k_M_wrongFinger 1 2 [(2, 64), (0, l1), (0, l2), (0, l3)] [] M r
theorem sg_M_wrongFinger {d : Nat} {p1 p2 : Int} {M : Mem} {r : Res} (h : at_M_wrongFinger_2 d p1 p2 0 M r) : Cl (d + 1) m_M_wrongFinger [(2, 64), (0, p1), (0, p2)] M r := by
  refine cl_of (c := k_M_wrongFinger) (mL := 4) (rz := 1) (rc := 7) (ls := [(2, 64), (0, p1), (0, p2), (3, 0)]) rfl rfl rfl ?_
  refine x_c (pc' := 1) rfl rfl ?_
  refine x_is (pc' := 2) (ls' := [(2, 64), (0, p1), (0, p2), (0, 0)]) rfl rfl rfl rfl ?_
  exact h
theorem sg_M_wrongFinger_2 {d : Nat} {l1 : Int} {l2 : Int} {l3 : Int} {M : Mem} {r : Res} (h : (if 10 ≤ l3 then r = (some (0, (-2)), M) else (0 ≤ l1 ∧ l1 < 6) ∧ (if M 85 l1 ≤ l3 then r = (some (0, (-2)), M) else ∃ v5, Cl d m_M_told [(2, 64), (0, l1), (0, l3)] M (some (0, v5), M) ∧ ∃ v7, Cl d m_M_within [(0, v5), (0, 0), (0, 5)] M (some (0, v7), M) ∧ (if v7 = 0 then r = (some (0, l3), M) else ∃ v10, Cl d m_M_told [(2, 64), (0, l1), (0, l3)] M (some (0, v10), M) ∧ (0 ≤ w32 ((w32 (10 * l2)) + l3) ∧ w32 ((w32 (10 * l2)) + l3) < 120) ∧ ∃ v13, Cl d m_M_maySame [(0, v10), (0, M 65 (w32 ((w32 (10 * l2)) + l3)))] M (some (0, v13), M) ∧ (if ¬ v13 = 0 then at_M_wrongFinger_2 d l1 l2 (w32 (l3 + 1)) M r else r = (some (0, l3), M)))))) : at_M_wrongFinger_2 d l1 l2 l3 M r := by
  unfold at_M_wrongFinger_2
  refine x_il (pc' := 3) rfl rfl rfl ?_
  refine x_c (pc' := 4) rfl rfl ?_
  refine x_icge (pc' := 5) (t' := 37) rfl rfl rfl (fun q1 => ?_) (fun q1 => ?_)
  · replace h := ite_t q1 h
    refine x_c (pc' := 38) rfl rfl ?_
    exact x_iret rfl h
  · replace h := ite_f q1 h
    refine x_il (pc' := 6) rfl rfl rfl ?_
    refine x_al (pc' := 7) rfl rfl (by decide) rfl ?_
    refine x_gr (pc' := 8) (v := 85) rfl rfl rfl (by decide) rfl ?_
    refine x_il (pc' := 9) rfl rfl rfl ?_
    obtain ⟨q2, h⟩ := h
    refine x_ia (pc' := 10) 6 (v := M 85 l1) rfl rfl rfl q2.1 q2.2 rfl ?_
    refine x_icge (pc' := 11) (t' := 37) rfl rfl rfl (fun q3 => ?_) (fun q3 => ?_)
    · replace h := ite_t q3 h
      refine x_c (pc' := 38) rfl rfl ?_
      exact x_iret rfl h
    · replace h := ite_f q3 h
      refine x_al (pc' := 12) rfl rfl (by decide) rfl ?_
      refine x_il (pc' := 13) rfl rfl rfl ?_
      refine x_il (pc' := 14) rfl rfl rfl ?_
      obtain ⟨v5, q4, h⟩ := h
      refine x_call (pc' := 15) (as := [(2, 64), (0, l1), (0, l3)]) (rest := []) rfl rfl rfl rfl rfl rfl q4 ?_
      refine x_c (pc' := 16) rfl rfl ?_
      refine x_c (pc' := 17) rfl rfl ?_
      obtain ⟨v7, q6, h⟩ := h
      refine x_call (pc' := 18) (as := [(0, v5), (0, 0), (0, 5)]) (rest := []) rfl rfl rfl rfl rfl rfl q6 ?_
      refine x_ifeq (pc' := 19) (t' := 33) rfl rfl rfl (fun q8 => ?_) (fun q8 => ?_)
      · replace h := ite_t q8 h
        refine x_il (pc' := 34) rfl rfl rfl ?_
        exact x_iret rfl h
      · replace h := ite_f q8 h
        refine x_al (pc' := 20) rfl rfl (by decide) rfl ?_
        refine x_il (pc' := 21) rfl rfl rfl ?_
        refine x_il (pc' := 22) rfl rfl rfl ?_
        obtain ⟨v10, q9, h⟩ := h
        refine x_call (pc' := 23) (as := [(2, 64), (0, l1), (0, l3)]) (rest := []) rfl rfl rfl rfl rfl rfl q9 ?_
        refine x_al (pc' := 24) rfl rfl (by decide) rfl ?_
        refine x_gr (pc' := 25) (v := 65) rfl rfl rfl (by decide) rfl ?_
        refine x_c (pc' := 26) rfl rfl ?_
        refine x_il (pc' := 27) rfl rfl rfl ?_
        refine x_ib (pc' := 28) (v := w32 (10 * l2)) rfl rfl rfl ?_
        refine x_il (pc' := 29) rfl rfl rfl ?_
        refine x_ib (pc' := 30) (v := w32 ((w32 (10 * l2)) + l3)) rfl rfl rfl ?_
        obtain ⟨q11, h⟩ := h
        refine x_ia (pc' := 31) 120 (v := M 65 (w32 ((w32 (10 * l2)) + l3))) rfl rfl rfl q11.1 q11.2 rfl ?_
        obtain ⟨v13, q12, h⟩ := h
        refine x_call (pc' := 32) (as := [(0, v10), (0, M 65 (w32 ((w32 (10 * l2)) + l3)))]) (rest := []) rfl rfl rfl rfl rfl rfl q12 ?_
        refine x_ifne (pc' := 33) (t' := 35) rfl rfl rfl (fun q14 => ?_) (fun q14 => ?_)
        · replace h := ite_t q14 h
          refine x_inc (pc' := 36) (ls' := [(2, 64), (0, l1), (0, l2), (0, w32 (l3 + 1))]) rfl rfl rfl rfl ?_
          refine x_goto (t' := 2) rfl rfl ?_
          exact h
        · replace h := ite_f q14 h
          refine x_il (pc' := 34) rfl rfl rfl ?_
          exact x_iret rfl h
def at_M_who_18 (d : Nat) (l1 : Int) (w2 : AV) (l3 : Int) (l4 : Int) (M : Mem) (r : Res) : Prop := Ex sx0 d k_M_who 1 18 [(2, 64), (0, l1), w2, (0, l3), (0, l4)] [] M r
theorem sg_M_who {d : Nat} {p1 : Int} {M : Mem} {r : Res} (h : ∃ v2, Cl d m_M_isShelf [(0, p1)] M (some (0, v2), M) ∧ (if ¬ v2 = 0 then ∃ v5, Cl d m_M_noRow [(2, 64), (0, p1), (0, 0)] M (some (0, v5), M) ∧ (if 0 ≤ v5 then at_M_who_18 d p1 (0, v5) 0 0 M r else r = (some (0, v5), M)) else r = (some (0, (-1)), M))) : Cl (d + 1) m_M_who [(2, 64), (0, p1)] M r := by
  refine cl_of (c := k_M_who) (mL := 5) (rz := 1) (rc := 7) (ls := [(2, 64), (0, p1), (3, 0), (3, 0), (3, 0)]) rfl rfl rfl ?_
  refine x_il (pc' := 1) rfl rfl rfl ?_
  obtain ⟨v2, q1, h⟩ := h
  refine x_call (pc' := 2) (as := [(0, p1)]) (rest := []) rfl rfl rfl rfl rfl rfl q1 ?_
  refine x_ifne (pc' := 3) (t' := 5) rfl rfl rfl (fun q3 => ?_) (fun q3 => ?_)
  · replace h := ite_t q3 h
    refine x_al (pc' := 6) rfl rfl (by decide) rfl ?_
    refine x_il (pc' := 7) rfl rfl rfl ?_
    refine x_c (pc' := 8) rfl rfl ?_
    obtain ⟨v5, q4, h⟩ := h
    refine x_call (pc' := 9) (as := [(2, 64), (0, p1), (0, 0)]) (rest := []) rfl rfl rfl rfl rfl rfl q4 ?_
    refine x_is (pc' := 10) (ls' := [(2, 64), (0, p1), (0, v5), (3, 0), (3, 0)]) rfl rfl rfl rfl ?_
    refine x_il (pc' := 11) rfl rfl rfl ?_
    refine x_ifge (pc' := 12) (t' := 14) rfl rfl rfl (fun q6 => ?_) (fun q6 => ?_)
    · replace h := ite_t q6 h
      refine x_c (pc' := 15) rfl rfl ?_
      refine x_is (pc' := 16) (ls' := [(2, 64), (0, p1), (0, v5), (0, 0), (3, 0)]) rfl rfl rfl rfl ?_
      refine x_c (pc' := 17) rfl rfl ?_
      refine x_is (pc' := 18) (ls' := [(2, 64), (0, p1), (0, v5), (0, 0), (0, 0)]) rfl rfl rfl rfl ?_
      exact h
    · replace h := ite_f q6 h
      refine x_il (pc' := 13) rfl rfl rfl ?_
      exact x_iret rfl h
  · replace h := ite_f q3 h
    refine x_c (pc' := 4) rfl rfl ?_
    exact x_iret rfl h
theorem sg_M_who_18 {d : Nat} {l1 : Int} {w2 : AV} {l3 : Int} {l4 : Int} {M : Mem} {r : Res} (hw2 : ¬ w2.1 = 1) (h : (if M 64 0 ≤ l4 then r = (some (0, l3), M) else ∃ v3, Cl d m_M_wrongFinger [(2, 64), (0, l1), (0, l4)] M (some (0, v3), M) ∧ (if ¬ v3 = (-2) then at_M_who_18 d l1 w2 l3 (w32 (l4 + 1)) M r else at_M_who_18 d l1 w2 (ior l3 (ishl 1 l4)) (w32 (l4 + 1)) M r))) : at_M_who_18 d l1 w2 l3 l4 M r := by
  unfold at_M_who_18
  refine x_il (pc' := 19) rfl rfl rfl ?_
  refine x_al (pc' := 20) rfl rfl (by decide) rfl ?_
  refine x_gf (pc' := 21) (v := M 64 0) rfl rfl rfl rfl rfl ?_
  refine x_icge (pc' := 22) (t' := 36) rfl rfl rfl (fun q1 => ?_) (fun q1 => ?_)
  · replace h := ite_t q1 h
    refine x_il (pc' := 37) rfl rfl rfl ?_
    exact x_iret rfl h
  · replace h := ite_f q1 h
    refine x_al (pc' := 23) rfl rfl (by decide) rfl ?_
    refine x_il (pc' := 24) rfl rfl rfl ?_
    refine x_il (pc' := 25) rfl rfl rfl ?_
    obtain ⟨v3, q2, h⟩ := h
    refine x_call (pc' := 26) (as := [(2, 64), (0, l1), (0, l4)]) (rest := []) rfl rfl rfl rfl rfl rfl q2 ?_
    refine x_c (pc' := 27) rfl rfl ?_
    refine x_icne (pc' := 28) (t' := 34) rfl rfl rfl (fun q4 => ?_) (fun q4 => ?_)
    · replace h := ite_t q4 h
      refine x_inc (pc' := 35) (ls' := [(2, 64), (0, l1), w2, (0, l3), (0, w32 (l4 + 1))]) rfl rfl rfl rfl ?_
      refine x_goto (t' := 18) rfl rfl ?_
      exact h
    · replace h := ite_f q4 h
      refine x_il (pc' := 29) rfl rfl rfl ?_
      refine x_c (pc' := 30) rfl rfl ?_
      refine x_il (pc' := 31) rfl rfl rfl ?_
      refine x_ib (pc' := 32) (v := ishl 1 l4) rfl rfl rfl ?_
      refine x_ib (pc' := 33) (v := ior l3 (ishl 1 l4)) rfl rfl rfl ?_
      refine x_is (pc' := 34) (ls' := [(2, 64), (0, l1), w2, (0, ior l3 (ishl 1 l4)), (0, l4)]) rfl rfl (setL_nw (i := 2) rfl hw2) rfl ?_
      refine x_inc (pc' := 35) (ls' := [(2, 64), (0, l1), w2, (0, ior l3 (ishl 1 l4)), (0, w32 (l4 + 1))]) rfl rfl rfl rfl ?_
      refine x_goto (t' := 18) rfl rfl ?_
      exact h
theorem sg_M_isTrue {d : Nat} {p1 p2 : Int} {M : Mem} {r : Res} (h : ∃ v2, Cl d m_M_isShelf [(0, p1)] M (some (0, v2), M) ∧ (if v2 = 0 then r = (some (0, (-1)), M) else ∃ v5, Cl d m_M_isCard [(2, 64), (0, p2)] M (some (0, v5), M) ∧ (if ¬ v5 = 0 then ∃ v8, Cl d m_M_noRow [(2, 64), (0, p1), (0, 0)] M (some (0, v8), M) ∧ (if 0 ≤ v8 then ∃ v11, Cl d m_M_wrongFinger [(2, 64), (0, p1), (0, p2)] M (some (0, v11), M) ∧ r = (some (0, v11), M) else r = (some (0, v8), M)) else r = (some (0, (-1)), M)))) : Cl (d + 1) m_M_isTrue [(2, 64), (0, p1), (0, p2)] M r := by
  refine cl_of (c := k_M_isTrue) (mL := 4) (rz := 1) (rc := 7) (ls := [(2, 64), (0, p1), (0, p2), (3, 0)]) rfl rfl rfl ?_
  refine x_il (pc' := 1) rfl rfl rfl ?_
  obtain ⟨v2, q1, h⟩ := h
  refine x_call (pc' := 2) (as := [(0, p1)]) (rest := []) rfl rfl rfl rfl rfl rfl q1 ?_
  refine x_ifeq (pc' := 3) (t' := 7) rfl rfl rfl (fun q3 => ?_) (fun q3 => ?_)
  · replace h := ite_t q3 h
    refine x_c (pc' := 8) rfl rfl ?_
    exact x_iret rfl h
  · replace h := ite_f q3 h
    refine x_al (pc' := 4) rfl rfl (by decide) rfl ?_
    refine x_il (pc' := 5) rfl rfl rfl ?_
    obtain ⟨v5, q4, h⟩ := h
    refine x_call (pc' := 6) (as := [(2, 64), (0, p2)]) (rest := []) rfl rfl rfl rfl rfl rfl q4 ?_
    refine x_ifne (pc' := 7) (t' := 9) rfl rfl rfl (fun q6 => ?_) (fun q6 => ?_)
    · replace h := ite_t q6 h
      refine x_al (pc' := 10) rfl rfl (by decide) rfl ?_
      refine x_il (pc' := 11) rfl rfl rfl ?_
      refine x_c (pc' := 12) rfl rfl ?_
      obtain ⟨v8, q7, h⟩ := h
      refine x_call (pc' := 13) (as := [(2, 64), (0, p1), (0, 0)]) (rest := []) rfl rfl rfl rfl rfl rfl q7 ?_
      refine x_is (pc' := 14) (ls' := [(2, 64), (0, p1), (0, p2), (0, v8)]) rfl rfl rfl rfl ?_
      refine x_il (pc' := 15) rfl rfl rfl ?_
      refine x_ifge (pc' := 16) (t' := 18) rfl rfl rfl (fun q9 => ?_) (fun q9 => ?_)
      · replace h := ite_t q9 h
        refine x_al (pc' := 19) rfl rfl (by decide) rfl ?_
        refine x_il (pc' := 20) rfl rfl rfl ?_
        refine x_il (pc' := 21) rfl rfl rfl ?_
        obtain ⟨v11, q10, h⟩ := h
        refine x_call (pc' := 22) (as := [(2, 64), (0, p1), (0, p2)]) (rest := []) rfl rfl rfl rfl rfl rfl q10 ?_
        exact x_iret rfl h
      · replace h := ite_f q9 h
        refine x_il (pc' := 17) rfl rfl rfl ?_
        refine x_goto (t' := 22) rfl rfl ?_
        exact x_iret rfl h
    · replace h := ite_f q6 h
      refine x_c (pc' := 8) rfl rfl ?_
      exact x_iret rfl h
def at_M_mended_18 (d : Nat) (l1 : Int) (l2 : Int) (l3 : Int) (l4 : Int) (l5 : Int) (w6 : AV) (M : Mem) (r : Res) : Prop := Ex sx0 d k_M_mended 1 18 [(2, 64), (0, l1), (0, l2), (0, l3), (0, l4), (0, l5), w6] [] M r
theorem sg_M_mended {d : Nat} {p1 p2 p3 : Int} {M : Mem} {r : Res} (h : ∃ v2, Cl d m_M_isCard [(2, 64), (0, p1)] M (some (0, v2), M) ∧ (if v2 = 0 then r = (some (0, (-1)), M) else ∃ v5, Cl d m_M_isDrawer [(0, p2)] M (some (0, v5), M) ∧ (if v5 = 0 then r = (some (0, (-1)), M) else ∃ v8, Cl d m_M_within [(0, p3), (0, 0), (0, 1)] M (some (0, v8), M) ∧ (if ¬ v8 = 0 then at_M_mended_18 d p1 p2 p3 0 0 (3, 0) M r else r = (some (0, (-1)), M))))) : Cl (d + 1) m_M_mended [(2, 64), (0, p1), (0, p2), (0, p3)] M r := by
  refine cl_of (c := k_M_mended) (mL := 7) (rz := 1) (rc := 7) (ls := [(2, 64), (0, p1), (0, p2), (0, p3), (3, 0), (3, 0), (3, 0)]) rfl rfl rfl ?_
  refine x_al (pc' := 1) rfl rfl (by decide) rfl ?_
  refine x_il (pc' := 2) rfl rfl rfl ?_
  obtain ⟨v2, q1, h⟩ := h
  refine x_call (pc' := 3) (as := [(2, 64), (0, p1)]) (rest := []) rfl rfl rfl rfl rfl rfl q1 ?_
  refine x_ifeq (pc' := 4) (t' := 12) rfl rfl rfl (fun q3 => ?_) (fun q3 => ?_)
  · replace h := ite_t q3 h
    refine x_c (pc' := 13) rfl rfl ?_
    exact x_iret rfl h
  · replace h := ite_f q3 h
    refine x_il (pc' := 5) rfl rfl rfl ?_
    obtain ⟨v5, q4, h⟩ := h
    refine x_call (pc' := 6) (as := [(0, p2)]) (rest := []) rfl rfl rfl rfl rfl rfl q4 ?_
    refine x_ifeq (pc' := 7) (t' := 12) rfl rfl rfl (fun q6 => ?_) (fun q6 => ?_)
    · replace h := ite_t q6 h
      refine x_c (pc' := 13) rfl rfl ?_
      exact x_iret rfl h
    · replace h := ite_f q6 h
      refine x_il (pc' := 8) rfl rfl rfl ?_
      refine x_c (pc' := 9) rfl rfl ?_
      refine x_c (pc' := 10) rfl rfl ?_
      obtain ⟨v8, q7, h⟩ := h
      refine x_call (pc' := 11) (as := [(0, p3), (0, 0), (0, 1)]) (rest := []) rfl rfl rfl rfl rfl rfl q7 ?_
      refine x_ifne (pc' := 12) (t' := 14) rfl rfl rfl (fun q9 => ?_) (fun q9 => ?_)
      · replace h := ite_t q9 h
        refine x_c (pc' := 15) rfl rfl ?_
        refine x_is (pc' := 16) (ls' := [(2, 64), (0, p1), (0, p2), (0, p3), (0, 0), (3, 0), (3, 0)]) rfl rfl rfl rfl ?_
        refine x_c (pc' := 17) rfl rfl ?_
        refine x_is (pc' := 18) (ls' := [(2, 64), (0, p1), (0, p2), (0, p3), (0, 0), (0, 0), (3, 0)]) rfl rfl rfl rfl ?_
        exact h
      · replace h := ite_f q9 h
        refine x_c (pc' := 13) rfl rfl ?_
        exact x_iret rfl h
theorem sg_M_mended_18 {d : Nat} {l1 : Int} {l2 : Int} {l3 : Int} {l4 : Int} {l5 : Int} {w6 : AV} {M : Mem} {r : Res} (h : (if 10 ≤ l5 then (if ¬ l3 = 0 then r = (some (0, l4), M) else ∃ v4, Cl d m_J_bitCount [(0, l4)] M (some (0, v4), M) ∧ r = (some (0, v4), M)) else (0 ≤ w32 ((w32 (10 * l1)) + l5) ∧ w32 ((w32 (10 * l1)) + l5) < 120) ∧ (if 4 ≤ M 65 (w32 ((w32 (10 * l1)) + l5)) then at_M_mended_18 d l1 l2 l3 l4 (w32 (l5 + 1)) (0, M 65 (w32 ((w32 (10 * l1)) + l5))) M r else (if ¬ M 65 (w32 ((w32 (10 * l1)) + l5)) = 3 then ∃ v9, Cl d m_M_bitOf [(0, l5)] M (some (0, v9), M) ∧ (if iand l2 v9 = 0 then at_M_mended_18 d l1 l2 l3 l4 (w32 (l5 + 1)) (0, M 65 (w32 ((w32 (10 * l1)) + l5))) M r else at_M_mended_18 d l1 l2 l3 (ior l4 (ishl 1 l5)) (w32 (l5 + 1)) (0, M 65 (w32 ((w32 (10 * l1)) + l5))) M r) else ∃ v12, Cl d m_M_bitOf [(0, l5)] M (some (0, v12), M) ∧ (if iand l2 v12 = 0 then at_M_mended_18 d l1 l2 l3 (ior l4 (ishl 1 l5)) (w32 (l5 + 1)) (0, M 65 (w32 ((w32 (10 * l1)) + l5))) M r else at_M_mended_18 d l1 l2 l3 l4 (w32 (l5 + 1)) (0, M 65 (w32 ((w32 (10 * l1)) + l5))) M r))))) : at_M_mended_18 d l1 l2 l3 l4 l5 w6 M r := by
  unfold at_M_mended_18
  refine x_il (pc' := 19) rfl rfl rfl ?_
  refine x_c (pc' := 20) rfl rfl ?_
  refine x_icge (pc' := 21) (t' := 56) rfl rfl rfl (fun q1 => ?_) (fun q1 => ?_)
  · replace h := ite_t q1 h
    refine x_il (pc' := 57) rfl rfl rfl ?_
    refine x_ifne (pc' := 58) (t' := 61) rfl rfl rfl (fun q2 => ?_) (fun q2 => ?_)
    · replace h := ite_t q2 h
      refine x_il (pc' := 62) rfl rfl rfl ?_
      exact x_iret rfl h
    · replace h := ite_f q2 h
      refine x_il (pc' := 59) rfl rfl rfl ?_
      obtain ⟨v4, q3, h⟩ := h
      refine x_call (pc' := 60) (as := [(0, l4)]) (rest := []) rfl rfl rfl rfl rfl rfl q3 ?_
      refine x_goto (t' := 62) rfl rfl ?_
      exact x_iret rfl h
  · replace h := ite_f q1 h
    refine x_al (pc' := 22) rfl rfl (by decide) rfl ?_
    refine x_gr (pc' := 23) (v := 65) rfl rfl rfl (by decide) rfl ?_
    refine x_c (pc' := 24) rfl rfl ?_
    refine x_il (pc' := 25) rfl rfl rfl ?_
    refine x_ib (pc' := 26) (v := w32 (10 * l1)) rfl rfl rfl ?_
    refine x_il (pc' := 27) rfl rfl rfl ?_
    refine x_ib (pc' := 28) (v := w32 ((w32 (10 * l1)) + l5)) rfl rfl rfl ?_
    obtain ⟨q5, h⟩ := h
    refine x_ia (pc' := 29) 120 (v := M 65 (w32 ((w32 (10 * l1)) + l5))) rfl rfl rfl q5.1 q5.2 rfl ?_
    refine x_is (pc' := 30) (ls' := [(2, 64), (0, l1), (0, l2), (0, l3), (0, l4), (0, l5), (0, M 65 (w32 ((w32 (10 * l1)) + l5)))]) rfl rfl rfl rfl ?_
    refine x_il (pc' := 31) rfl rfl rfl ?_
    refine x_c (pc' := 32) rfl rfl ?_
    refine x_icge (pc' := 33) (t' := 54) rfl rfl rfl (fun q6 => ?_) (fun q6 => ?_)
    · replace h := ite_t q6 h
      refine x_inc (pc' := 55) (ls' := [(2, 64), (0, l1), (0, l2), (0, l3), (0, l4), (0, w32 (l5 + 1)), (0, M 65 (w32 ((w32 (10 * l1)) + l5)))]) rfl rfl rfl rfl ?_
      refine x_goto (t' := 18) rfl rfl ?_
      exact h
    · replace h := ite_f q6 h
      refine x_il (pc' := 34) rfl rfl rfl ?_
      refine x_c (pc' := 35) rfl rfl ?_
      refine x_icne (pc' := 36) (t' := 38) rfl rfl rfl (fun q7 => ?_) (fun q7 => ?_)
      · replace h := ite_t q7 h
        refine x_c (pc' := 39) rfl rfl ?_
        refine x_il (pc' := 40) rfl rfl rfl ?_
        refine x_il (pc' := 41) rfl rfl rfl ?_
        obtain ⟨v9, q8, h⟩ := h
        refine x_call (pc' := 42) (as := [(0, l5)]) (rest := [(0, l2), (0, 0)]) rfl rfl rfl rfl rfl rfl q8 ?_
        refine x_ib (pc' := 43) (v := iand l2 v9) rfl rfl rfl ?_
        refine x_ifeq (pc' := 44) (t' := 46) rfl rfl rfl (fun q10 => ?_) (fun q10 => ?_)
        · replace h := ite_t q10 h
          refine x_c (pc' := 47) rfl rfl ?_
          refine x_iceq (pc' := 48) (t' := 54) rfl rfl rfl (fun _ => ?_) (fun q => absurd (by decide) q)
          refine x_inc (pc' := 55) (ls' := [(2, 64), (0, l1), (0, l2), (0, l3), (0, l4), (0, w32 (l5 + 1)), (0, M 65 (w32 ((w32 (10 * l1)) + l5)))]) rfl rfl rfl rfl ?_
          refine x_goto (t' := 18) rfl rfl ?_
          exact h
        · replace h := ite_f q10 h
          refine x_c (pc' := 45) rfl rfl ?_
          refine x_goto (t' := 47) rfl rfl ?_
          refine x_iceq (pc' := 48) (t' := 54) rfl rfl rfl (fun q => absurd q (by decide)) (fun _ => ?_)
          refine x_il (pc' := 49) rfl rfl rfl ?_
          refine x_c (pc' := 50) rfl rfl ?_
          refine x_il (pc' := 51) rfl rfl rfl ?_
          refine x_ib (pc' := 52) (v := ishl 1 l5) rfl rfl rfl ?_
          refine x_ib (pc' := 53) (v := ior l4 (ishl 1 l5)) rfl rfl rfl ?_
          refine x_is (pc' := 54) (ls' := [(2, 64), (0, l1), (0, l2), (0, l3), (0, ior l4 (ishl 1 l5)), (0, l5), (0, M 65 (w32 ((w32 (10 * l1)) + l5)))]) rfl rfl rfl rfl ?_
          refine x_inc (pc' := 55) (ls' := [(2, 64), (0, l1), (0, l2), (0, l3), (0, ior l4 (ishl 1 l5)), (0, w32 (l5 + 1)), (0, M 65 (w32 ((w32 (10 * l1)) + l5)))]) rfl rfl rfl rfl ?_
          refine x_goto (t' := 18) rfl rfl ?_
          exact h
      · replace h := ite_f q7 h
        refine x_c (pc' := 37) rfl rfl ?_
        refine x_goto (t' := 39) rfl rfl ?_
        refine x_il (pc' := 40) rfl rfl rfl ?_
        refine x_il (pc' := 41) rfl rfl rfl ?_
        obtain ⟨v12, q11, h⟩ := h
        refine x_call (pc' := 42) (as := [(0, l5)]) (rest := [(0, l2), (0, 1)]) rfl rfl rfl rfl rfl rfl q11 ?_
        refine x_ib (pc' := 43) (v := iand l2 v12) rfl rfl rfl ?_
        refine x_ifeq (pc' := 44) (t' := 46) rfl rfl rfl (fun q13 => ?_) (fun q13 => ?_)
        · replace h := ite_t q13 h
          refine x_c (pc' := 47) rfl rfl ?_
          refine x_iceq (pc' := 48) (t' := 54) rfl rfl rfl (fun q => absurd q (by decide)) (fun _ => ?_)
          refine x_il (pc' := 49) rfl rfl rfl ?_
          refine x_c (pc' := 50) rfl rfl ?_
          refine x_il (pc' := 51) rfl rfl rfl ?_
          refine x_ib (pc' := 52) (v := ishl 1 l5) rfl rfl rfl ?_
          refine x_ib (pc' := 53) (v := ior l4 (ishl 1 l5)) rfl rfl rfl ?_
          refine x_is (pc' := 54) (ls' := [(2, 64), (0, l1), (0, l2), (0, l3), (0, ior l4 (ishl 1 l5)), (0, l5), (0, M 65 (w32 ((w32 (10 * l1)) + l5)))]) rfl rfl rfl rfl ?_
          refine x_inc (pc' := 55) (ls' := [(2, 64), (0, l1), (0, l2), (0, l3), (0, ior l4 (ishl 1 l5)), (0, w32 (l5 + 1)), (0, M 65 (w32 ((w32 (10 * l1)) + l5)))]) rfl rfl rfl rfl ?_
          refine x_goto (t' := 18) rfl rfl ?_
          exact h
        · replace h := ite_f q13 h
          refine x_c (pc' := 45) rfl rfl ?_
          refine x_goto (t' := 47) rfl rfl ?_
          refine x_iceq (pc' := 48) (t' := 54) rfl rfl rfl (fun _ => ?_) (fun q => absurd (by decide) q)
          refine x_inc (pc' := 55) (ls' := [(2, 64), (0, l1), (0, l2), (0, l3), (0, l4), (0, w32 (l5 + 1)), (0, M 65 (w32 ((w32 (10 * l1)) + l5)))]) rfl rfl rfl rfl ?_
          refine x_goto (t' := 18) rfl rfl ?_
          exact h
def at_M_wrongTwo_2 (d : Nat) (l1 : Int) (l2 : Int) (l3 : Int) (M : Mem) (r : Res) : Prop := Ex sx0 d k_M_wrongTwo 1 2 [(2, 64), (0, l1), (0, l2), (0, l3)] [] M r
theorem sg_M_wrongTwo {d : Nat} {p1 p2 : Int} {M : Mem} {r : Res} (h : at_M_wrongTwo_2 d p1 p2 0 M r) : Cl (d + 1) m_M_wrongTwo [(2, 64), (0, p1), (0, p2)] M r := by
  refine cl_of (c := k_M_wrongTwo) (mL := 4) (rz := 1) (rc := 7) (ls := [(2, 64), (0, p1), (0, p2), (3, 0)]) rfl rfl rfl ?_
  refine x_c (pc' := 1) rfl rfl ?_
  refine x_is (pc' := 2) (ls' := [(2, 64), (0, p1), (0, p2), (0, 0)]) rfl rfl rfl rfl ?_
  exact h
theorem sg_M_wrongTwo_2 {d : Nat} {l1 : Int} {l2 : Int} {l3 : Int} {M : Mem} {r : Res} (h : (0 ≤ l1 ∧ l1 < 6) ∧ (if M 85 l1 ≤ l3 then r = (some (0, (-2)), M) else (0 ≤ l1 ∧ l1 < 6) ∧ (if w32 (l3 + 1) = M 85 l1 then r = (some (0, w32 (Int.tdiv l3 2)), M) else ∃ v6, Cl d m_M_told [(2, 64), (0, l1), (0, l3)] M (some (0, v6), M) ∧ ∃ v8, Cl d m_M_isCard [(2, 64), (0, v6)] M (some (0, v8), M) ∧ (if v8 = 0 then r = (some (0, w32 (Int.tdiv l3 2)), M) else ∃ v11, Cl d m_M_told [(2, 64), (0, l1), (0, w32 (l3 + 1))] M (some (0, v11), M) ∧ ∃ v13, Cl d m_M_isDrawer [(0, v11)] M (some (0, v13), M) ∧ (if v13 = 0 then r = (some (0, w32 (Int.tdiv l3 2)), M) else ∃ v16, Cl d m_M_told [(2, 64), (0, l1), (0, l3)] M (some (0, v16), M) ∧ ∃ v18, Cl d m_M_told [(2, 64), (0, l1), (0, w32 (l3 + 1))] M (some (0, v18), M) ∧ ∃ v20, Cl d m_M_isIn [(2, 64), (0, v16), (0, ixor v18 l2)] M (some (0, v20), M) ∧ (if ¬ v20 = 0 then at_M_wrongTwo_2 d l1 l2 (w32 (l3 + 2)) M r else r = (some (0, w32 (Int.tdiv l3 2)), M))))))) : at_M_wrongTwo_2 d l1 l2 l3 M r := by
  unfold at_M_wrongTwo_2
  refine x_il (pc' := 3) rfl rfl rfl ?_
  refine x_al (pc' := 4) rfl rfl (by decide) rfl ?_
  refine x_gr (pc' := 5) (v := 85) rfl rfl rfl (by decide) rfl ?_
  refine x_il (pc' := 6) rfl rfl rfl ?_
  obtain ⟨q1, h⟩ := h
  refine x_ia (pc' := 7) 6 (v := M 85 l1) rfl rfl rfl q1.1 q1.2 rfl ?_
  refine x_icge (pc' := 8) (t' := 52) rfl rfl rfl (fun q2 => ?_) (fun q2 => ?_)
  · replace h := ite_t q2 h
    refine x_c (pc' := 53) rfl rfl ?_
    exact x_iret rfl h
  · replace h := ite_f q2 h
    refine x_il (pc' := 9) rfl rfl rfl ?_
    refine x_c (pc' := 10) rfl rfl ?_
    refine x_ib (pc' := 11) (v := w32 (l3 + 1)) rfl rfl rfl ?_
    refine x_al (pc' := 12) rfl rfl (by decide) rfl ?_
    refine x_gr (pc' := 13) (v := 85) rfl rfl rfl (by decide) rfl ?_
    refine x_il (pc' := 14) rfl rfl rfl ?_
    obtain ⟨q3, h⟩ := h
    refine x_ia (pc' := 15) 6 (v := M 85 l1) rfl rfl rfl q3.1 q3.2 rfl ?_
    refine x_iceq (pc' := 16) (t' := 46) rfl rfl rfl (fun q4 => ?_) (fun q4 => ?_)
    · replace h := ite_t q4 h
      refine x_il (pc' := 47) rfl rfl rfl ?_
      refine x_c (pc' := 48) rfl rfl ?_
      refine x_ib (pc' := 49) (v := w32 (Int.tdiv l3 2)) rfl rfl rfl ?_
      exact x_iret rfl h
    · replace h := ite_f q4 h
      refine x_al (pc' := 17) rfl rfl (by decide) rfl ?_
      refine x_al (pc' := 18) rfl rfl (by decide) rfl ?_
      refine x_il (pc' := 19) rfl rfl rfl ?_
      refine x_il (pc' := 20) rfl rfl rfl ?_
      obtain ⟨v6, q5, h⟩ := h
      refine x_call (pc' := 21) (as := [(2, 64), (0, l1), (0, l3)]) (rest := [(2, 64)]) rfl rfl rfl rfl rfl rfl q5 ?_
      obtain ⟨v8, q7, h⟩ := h
      refine x_call (pc' := 22) (as := [(2, 64), (0, v6)]) (rest := []) rfl rfl rfl rfl rfl rfl q7 ?_
      refine x_ifeq (pc' := 23) (t' := 46) rfl rfl rfl (fun q9 => ?_) (fun q9 => ?_)
      · replace h := ite_t q9 h
        refine x_il (pc' := 47) rfl rfl rfl ?_
        refine x_c (pc' := 48) rfl rfl ?_
        refine x_ib (pc' := 49) (v := w32 (Int.tdiv l3 2)) rfl rfl rfl ?_
        exact x_iret rfl h
      · replace h := ite_f q9 h
        refine x_al (pc' := 24) rfl rfl (by decide) rfl ?_
        refine x_il (pc' := 25) rfl rfl rfl ?_
        refine x_il (pc' := 26) rfl rfl rfl ?_
        refine x_c (pc' := 27) rfl rfl ?_
        refine x_ib (pc' := 28) (v := w32 (l3 + 1)) rfl rfl rfl ?_
        obtain ⟨v11, q10, h⟩ := h
        refine x_call (pc' := 29) (as := [(2, 64), (0, l1), (0, w32 (l3 + 1))]) (rest := []) rfl rfl rfl rfl rfl rfl q10 ?_
        obtain ⟨v13, q12, h⟩ := h
        refine x_call (pc' := 30) (as := [(0, v11)]) (rest := []) rfl rfl rfl rfl rfl rfl q12 ?_
        refine x_ifeq (pc' := 31) (t' := 46) rfl rfl rfl (fun q14 => ?_) (fun q14 => ?_)
        · replace h := ite_t q14 h
          refine x_il (pc' := 47) rfl rfl rfl ?_
          refine x_c (pc' := 48) rfl rfl ?_
          refine x_ib (pc' := 49) (v := w32 (Int.tdiv l3 2)) rfl rfl rfl ?_
          exact x_iret rfl h
        · replace h := ite_f q14 h
          refine x_al (pc' := 32) rfl rfl (by decide) rfl ?_
          refine x_al (pc' := 33) rfl rfl (by decide) rfl ?_
          refine x_il (pc' := 34) rfl rfl rfl ?_
          refine x_il (pc' := 35) rfl rfl rfl ?_
          obtain ⟨v16, q15, h⟩ := h
          refine x_call (pc' := 36) (as := [(2, 64), (0, l1), (0, l3)]) (rest := [(2, 64)]) rfl rfl rfl rfl rfl rfl q15 ?_
          refine x_al (pc' := 37) rfl rfl (by decide) rfl ?_
          refine x_il (pc' := 38) rfl rfl rfl ?_
          refine x_il (pc' := 39) rfl rfl rfl ?_
          refine x_c (pc' := 40) rfl rfl ?_
          refine x_ib (pc' := 41) (v := w32 (l3 + 1)) rfl rfl rfl ?_
          obtain ⟨v18, q17, h⟩ := h
          refine x_call (pc' := 42) (as := [(2, 64), (0, l1), (0, w32 (l3 + 1))]) (rest := [(0, v16), (2, 64)]) rfl rfl rfl rfl rfl rfl q17 ?_
          refine x_il (pc' := 43) rfl rfl rfl ?_
          refine x_ib (pc' := 44) (v := ixor v18 l2) rfl rfl rfl ?_
          obtain ⟨v20, q19, h⟩ := h
          refine x_call (pc' := 45) (as := [(2, 64), (0, v16), (0, ixor v18 l2)]) (rest := []) rfl rfl rfl rfl rfl rfl q19 ?_
          refine x_ifne (pc' := 46) (t' := 50) rfl rfl rfl (fun q21 => ?_) (fun q21 => ?_)
          · replace h := ite_t q21 h
            refine x_inc (pc' := 51) (ls' := [(2, 64), (0, l1), (0, l2), (0, w32 (l3 + 2))]) rfl rfl rfl rfl ?_
            refine x_goto (t' := 2) rfl rfl ?_
            exact h
          · replace h := ite_f q21 h
            refine x_il (pc' := 47) rfl rfl rfl ?_
            refine x_c (pc' := 48) rfl rfl ?_
            refine x_ib (pc' := 49) (v := w32 (Int.tdiv l3 2)) rfl rfl rfl ?_
            exact x_iret rfl h
theorem sg_M_judge {d : Nat} {p1 : Int} {M : Mem} {r : Res} (h : ∃ v2, Cl d m_M_isShelf [(0, p1)] M (some (0, v2), M) ∧ (if ¬ v2 = 0 then ∃ v5, Cl d m_M_noRow [(2, 64), (0, p1), (0, 1)] M (some (0, v5), M) ∧ (if 0 ≤ v5 then ∃ v8, Cl d m_M_wrongTwo [(2, 64), (0, p1), (0, 0)] M (some (0, v8), M) ∧ r = (some (0, v8), M) else r = (some (0, v5), M)) else r = (some (0, (-1)), M))) : Cl (d + 1) m_M_judge [(2, 64), (0, p1)] M r := by
  refine cl_of (c := k_M_judge) (mL := 3) (rz := 1) (rc := 7) (ls := [(2, 64), (0, p1), (3, 0)]) rfl rfl rfl ?_
  refine x_il (pc' := 1) rfl rfl rfl ?_
  obtain ⟨v2, q1, h⟩ := h
  refine x_call (pc' := 2) (as := [(0, p1)]) (rest := []) rfl rfl rfl rfl rfl rfl q1 ?_
  refine x_ifne (pc' := 3) (t' := 5) rfl rfl rfl (fun q3 => ?_) (fun q3 => ?_)
  · replace h := ite_t q3 h
    refine x_al (pc' := 6) rfl rfl (by decide) rfl ?_
    refine x_il (pc' := 7) rfl rfl rfl ?_
    refine x_c (pc' := 8) rfl rfl ?_
    obtain ⟨v5, q4, h⟩ := h
    refine x_call (pc' := 9) (as := [(2, 64), (0, p1), (0, 1)]) (rest := []) rfl rfl rfl rfl rfl rfl q4 ?_
    refine x_is (pc' := 10) (ls' := [(2, 64), (0, p1), (0, v5)]) rfl rfl rfl rfl ?_
    refine x_il (pc' := 11) rfl rfl rfl ?_
    refine x_ifge (pc' := 12) (t' := 14) rfl rfl rfl (fun q6 => ?_) (fun q6 => ?_)
    · replace h := ite_t q6 h
      refine x_al (pc' := 15) rfl rfl (by decide) rfl ?_
      refine x_il (pc' := 16) rfl rfl rfl ?_
      refine x_c (pc' := 17) rfl rfl ?_
      obtain ⟨v8, q7, h⟩ := h
      refine x_call (pc' := 18) (as := [(2, 64), (0, p1), (0, 0)]) (rest := []) rfl rfl rfl rfl rfl rfl q7 ?_
      exact x_iret rfl h
    · replace h := ite_f q6 h
      refine x_il (pc' := 13) rfl rfl rfl ?_
      refine x_goto (t' := 18) rfl rfl ?_
      exact x_iret rfl h
  · replace h := ite_f q3 h
    refine x_c (pc' := 4) rfl rfl ?_
    exact x_iret rfl h
def at_M_clerk_24 (d : Nat) (l1 : Int) (w2 : AV) (l3 : Int) (M : Mem) (r : Res) : Prop := Ex sx0 d k_M_clerk 1 24 [(2, 64), (0, l1), w2, (0, l3)] [] M r
theorem sg_M_clerk {d : Nat} {p1 : Int} {M : Mem} {r : Res} (h : ∃ v2, Cl d m_M_isShelf [(0, p1)] M (some (0, v2), M) ∧ (if ¬ v2 = 0 then ∃ v5, Cl d m_M_noRow [(2, 64), (0, p1), (0, 1)] M (some (0, v5), M) ∧ (if 0 ≤ v5 then ∃ v8, Cl d m_M_wrongTwo [(2, 64), (0, p1), (0, 0)] M (some (0, v8), M) ∧ (if ¬ v8 = (-2) then at_M_clerk_24 d p1 (0, v5) 0 M r else r = (some (0, (-3)), M)) else r = (some (0, v5), M)) else r = (some (0, (-1)), M))) : Cl (d + 1) m_M_clerk [(2, 64), (0, p1)] M r := by
  refine cl_of (c := k_M_clerk) (mL := 4) (rz := 1) (rc := 7) (ls := [(2, 64), (0, p1), (3, 0), (3, 0)]) rfl rfl rfl ?_
  refine x_il (pc' := 1) rfl rfl rfl ?_
  obtain ⟨v2, q1, h⟩ := h
  refine x_call (pc' := 2) (as := [(0, p1)]) (rest := []) rfl rfl rfl rfl rfl rfl q1 ?_
  refine x_ifne (pc' := 3) (t' := 5) rfl rfl rfl (fun q3 => ?_) (fun q3 => ?_)
  · replace h := ite_t q3 h
    refine x_al (pc' := 6) rfl rfl (by decide) rfl ?_
    refine x_il (pc' := 7) rfl rfl rfl ?_
    refine x_c (pc' := 8) rfl rfl ?_
    obtain ⟨v5, q4, h⟩ := h
    refine x_call (pc' := 9) (as := [(2, 64), (0, p1), (0, 1)]) (rest := []) rfl rfl rfl rfl rfl rfl q4 ?_
    refine x_is (pc' := 10) (ls' := [(2, 64), (0, p1), (0, v5), (3, 0)]) rfl rfl rfl rfl ?_
    refine x_il (pc' := 11) rfl rfl rfl ?_
    refine x_ifge (pc' := 12) (t' := 14) rfl rfl rfl (fun q6 => ?_) (fun q6 => ?_)
    · replace h := ite_t q6 h
      refine x_al (pc' := 15) rfl rfl (by decide) rfl ?_
      refine x_il (pc' := 16) rfl rfl rfl ?_
      refine x_c (pc' := 17) rfl rfl ?_
      obtain ⟨v8, q7, h⟩ := h
      refine x_call (pc' := 18) (as := [(2, 64), (0, p1), (0, 0)]) (rest := []) rfl rfl rfl rfl rfl rfl q7 ?_
      refine x_c (pc' := 19) rfl rfl ?_
      refine x_icne (pc' := 20) (t' := 22) rfl rfl rfl (fun q9 => ?_) (fun q9 => ?_)
      · replace h := ite_t q9 h
        refine x_c (pc' := 23) rfl rfl ?_
        refine x_is (pc' := 24) (ls' := [(2, 64), (0, p1), (0, v5), (0, 0)]) rfl rfl rfl rfl ?_
        exact h
      · replace h := ite_f q9 h
        refine x_c (pc' := 21) rfl rfl ?_
        exact x_iret rfl h
    · replace h := ite_f q6 h
      refine x_il (pc' := 13) rfl rfl rfl ?_
      exact x_iret rfl h
  · replace h := ite_f q3 h
    refine x_c (pc' := 4) rfl rfl ?_
    exact x_iret rfl h
theorem sg_M_clerk_24 {d : Nat} {l1 : Int} {w2 : AV} {l3 : Int} {M : Mem} {r : Res} (hw2 : ¬ w2.1 = 1) (h : (if 10 ≤ l3 then r = (some (0, (-2)), M) else ∃ v3, Cl d m_M_bitOf [(0, l3)] M (some (0, v3), M) ∧ ∃ v5, Cl d m_M_wrongTwo [(2, 64), (0, l1), (0, v3)] M (some (0, v5), M) ∧ (if ¬ v5 = (-2) then at_M_clerk_24 d l1 w2 (w32 (l3 + 1)) M r else r = (some (0, l3), M)))) : at_M_clerk_24 d l1 w2 l3 M r := by
  unfold at_M_clerk_24
  refine x_il (pc' := 25) rfl rfl rfl ?_
  refine x_c (pc' := 26) rfl rfl ?_
  refine x_icge (pc' := 27) (t' := 38) rfl rfl rfl (fun q1 => ?_) (fun q1 => ?_)
  · replace h := ite_t q1 h
    refine x_c (pc' := 39) rfl rfl ?_
    exact x_iret rfl h
  · replace h := ite_f q1 h
    refine x_al (pc' := 28) rfl rfl (by decide) rfl ?_
    refine x_il (pc' := 29) rfl rfl rfl ?_
    refine x_il (pc' := 30) rfl rfl rfl ?_
    obtain ⟨v3, q2, h⟩ := h
    refine x_call (pc' := 31) (as := [(0, l3)]) (rest := [(0, l1), (2, 64)]) rfl rfl rfl rfl rfl rfl q2 ?_
    obtain ⟨v5, q4, h⟩ := h
    refine x_call (pc' := 32) (as := [(2, 64), (0, l1), (0, v3)]) (rest := []) rfl rfl rfl rfl rfl rfl q4 ?_
    refine x_c (pc' := 33) rfl rfl ?_
    refine x_icne (pc' := 34) (t' := 36) rfl rfl rfl (fun q6 => ?_) (fun q6 => ?_)
    · replace h := ite_t q6 h
      refine x_inc (pc' := 37) (ls' := [(2, 64), (0, l1), w2, (0, w32 (l3 + 1))]) rfl rfl (setL_nw (i := 2) rfl hw2) rfl ?_
      refine x_goto (t' := 24) rfl rfl ?_
      exact h
    · replace h := ite_f q6 h
      refine x_il (pc' := 35) rfl rfl rfl ?_
      exact x_iret rfl h
def at_M_drawn_25 (d : Nat) (w1 : AV) (l2 : Int) (l3 : Int) (l4 : Int) (l5 : Int) (l6 : Int) (l7 : Int) (w8 : AV) (w9 : AV) (w10 : AV) (M : Mem) (r : Res) : Prop := Ex sx0 d k_M_drawn 1 25 [(2, 64), w1, (0, l2), (0, l3), (0, l4), (0, l5), (0, l6), (0, l7), w8, w9, w10] [] M r
theorem sg_M_drawn {d : Nat} {p1 p2 p3 : Int} {M : Mem} {r : Res} (h : ∃ v2, Cl d m_M_within [(0, p2), (0, 1), (0, 50)] M (some (0, v2), M) ∧ (if v2 = 0 then r = (some (0, (-1)), M) else ∃ v5, Cl d m_M_within [(0, p3), (0, 0), (0, 1)] M (some (0, v5), M) ∧ (if ¬ v5 = 0 then (if ¬ M 64 0 = 0 then at_M_drawn_25 d (0, p1) p2 p3 p1 0 0 0 (3, 0) (3, 0) (3, 0) M r else r = (some (0, (-5)), M)) else r = (some (0, (-1)), M)))) : Cl (d + 1) m_M_drawn [(2, 64), (0, p1), (0, p2), (0, p3)] M r := by
  refine cl_of (c := k_M_drawn) (mL := 11) (rz := 1) (rc := 7) (ls := [(2, 64), (0, p1), (0, p2), (0, p3), (3, 0), (3, 0), (3, 0), (3, 0), (3, 0), (3, 0), (3, 0)]) rfl rfl rfl ?_
  refine x_il (pc' := 1) rfl rfl rfl ?_
  refine x_c (pc' := 2) rfl rfl ?_
  refine x_c (pc' := 3) rfl rfl ?_
  obtain ⟨v2, q1, h⟩ := h
  refine x_call (pc' := 4) (as := [(0, p2), (0, 1), (0, 50)]) (rest := []) rfl rfl rfl rfl rfl rfl q1 ?_
  refine x_ifeq (pc' := 5) (t' := 10) rfl rfl rfl (fun q3 => ?_) (fun q3 => ?_)
  · replace h := ite_t q3 h
    refine x_c (pc' := 11) rfl rfl ?_
    exact x_iret rfl h
  · replace h := ite_f q3 h
    refine x_il (pc' := 6) rfl rfl rfl ?_
    refine x_c (pc' := 7) rfl rfl ?_
    refine x_c (pc' := 8) rfl rfl ?_
    obtain ⟨v5, q4, h⟩ := h
    refine x_call (pc' := 9) (as := [(0, p3), (0, 0), (0, 1)]) (rest := []) rfl rfl rfl rfl rfl rfl q4 ?_
    refine x_ifne (pc' := 10) (t' := 12) rfl rfl rfl (fun q6 => ?_) (fun q6 => ?_)
    · replace h := ite_t q6 h
      refine x_al (pc' := 13) rfl rfl (by decide) rfl ?_
      refine x_gf (pc' := 14) (v := M 64 0) rfl rfl rfl rfl rfl ?_
      refine x_ifne (pc' := 15) (t' := 17) rfl rfl rfl (fun q7 => ?_) (fun q7 => ?_)
      · replace h := ite_t q7 h
        refine x_il (pc' := 18) rfl rfl rfl ?_
        refine x_is (pc' := 19) (ls' := [(2, 64), (0, p1), (0, p2), (0, p3), (0, p1), (3, 0), (3, 0), (3, 0), (3, 0), (3, 0), (3, 0)]) rfl rfl rfl rfl ?_
        refine x_c (pc' := 20) rfl rfl ?_
        refine x_is (pc' := 21) (ls' := [(2, 64), (0, p1), (0, p2), (0, p3), (0, p1), (0, 0), (3, 0), (3, 0), (3, 0), (3, 0), (3, 0)]) rfl rfl rfl rfl ?_
        refine x_c (pc' := 22) rfl rfl ?_
        refine x_is (pc' := 23) (ls' := [(2, 64), (0, p1), (0, p2), (0, p3), (0, p1), (0, 0), (0, 0), (3, 0), (3, 0), (3, 0), (3, 0)]) rfl rfl rfl rfl ?_
        refine x_c (pc' := 24) rfl rfl ?_
        refine x_is (pc' := 25) (ls' := [(2, 64), (0, p1), (0, p2), (0, p3), (0, p1), (0, 0), (0, 0), (0, 0), (3, 0), (3, 0), (3, 0)]) rfl rfl rfl rfl ?_
        exact h
      · replace h := ite_f q7 h
        refine x_c (pc' := 16) rfl rfl ?_
        exact x_iret rfl h
    · replace h := ite_f q6 h
      refine x_c (pc' := 11) rfl rfl ?_
      exact x_iret rfl h
theorem sg_M_drawn_25 {d : Nat} {w1 : AV} {l2 : Int} {l3 : Int} {l4 : Int} {l5 : Int} {l6 : Int} {l7 : Int} {w8 : AV} {w9 : AV} {w10 : AV} {M : Mem} {r : Res} (h : (if l2 ≤ l7 then (if ¬ l3 = 0 then r = (some (0, l6), M) else r = (some (0, l5), M)) else (¬ M 64 0 = 0) ∧ (0 ≤ w32 ((w32 (10 * (w32 (Int.tmod (iushr (w32 ((w32 (l4 * 1103515245)) + 12345)) 8) (M 64 0))))) + (w32 (Int.tmod (iushr (w32 ((w32 (l4 * 1103515245)) + 12345)) 16) 10))) ∧ w32 ((w32 (10 * (w32 (Int.tmod (iushr (w32 ((w32 (l4 * 1103515245)) + 12345)) 8) (M 64 0))))) + (w32 (Int.tmod (iushr (w32 ((w32 (l4 * 1103515245)) + 12345)) 16) 10))) < 120) ∧ (if ¬ M 65 (w32 ((w32 (10 * (w32 (Int.tmod (iushr (w32 ((w32 (l4 * 1103515245)) + 12345)) 8) (M 64 0))))) + (w32 (Int.tmod (iushr (w32 ((w32 (l4 * 1103515245)) + 12345)) 16) 10)))) = 5 then (0 ≤ w32 ((w32 (10 * (w32 (Int.tmod (iushr (w32 ((w32 (l4 * 1103515245)) + 12345)) 8) (M 64 0))))) + (w32 (Int.tmod (iushr (w32 ((w32 (l4 * 1103515245)) + 12345)) 16) 10))) ∧ w32 ((w32 (10 * (w32 (Int.tmod (iushr (w32 ((w32 (l4 * 1103515245)) + 12345)) 8) (M 64 0))))) + (w32 (Int.tmod (iushr (w32 ((w32 (l4 * 1103515245)) + 12345)) 16) 10))) < 120) ∧ (0 ≤ w32 ((w32 (10 * (w32 (Int.tmod (iushr (w32 ((w32 (l4 * 1103515245)) + 12345)) 8) (M 64 0))))) + (w32 (Int.tmod (iushr (w32 ((w32 (l4 * 1103515245)) + 12345)) 16) 10))) ∧ w32 ((w32 (10 * (w32 (Int.tmod (iushr (w32 ((w32 (l4 * 1103515245)) + 12345)) 8) (M 64 0))))) + (w32 (Int.tmod (iushr (w32 ((w32 (l4 * 1103515245)) + 12345)) 16) 10))) < 120) ∧ ∃ M9, Cl d m_M_takes [(2, 64), (0, M 65 (w32 ((w32 (10 * (w32 (Int.tmod (iushr (w32 ((w32 (l4 * 1103515245)) + 12345)) 8) (M 64 0))))) + (w32 (Int.tmod (iushr (w32 ((w32 (l4 * 1103515245)) + 12345)) 16) 10))))), (0, M 66 (w32 ((w32 (10 * (w32 (Int.tmod (iushr (w32 ((w32 (l4 * 1103515245)) + 12345)) 8) (M 64 0))))) + (w32 (Int.tmod (iushr (w32 ((w32 (l4 * 1103515245)) + 12345)) 16) 10)))))] M (none, M9) ∧ ∃ v11 M12, Cl d m_M_bestOf [(2, 64)] M9 (some (0, v11), M12) ∧ (if v11 = (-2) then ∃ v15, Cl d m_M_cardsOn [(2, 64)] M12 (some (0, v15), M12) ∧ ∃ v17, Cl d m_J_bitCount [(0, v15)] M12 (some (0, v17), M12) ∧ at_M_drawn_25 d w1 l2 l3 (w32 ((w32 (l4 * 1103515245)) + 12345)) l5 (w32 (l6 + v17)) (w32 (l7 + 1)) (0, w32 (Int.tmod (iushr (w32 ((w32 (l4 * 1103515245)) + 12345)) 8) (M 64 0))) (0, w32 (Int.tmod (iushr (w32 ((w32 (l4 * 1103515245)) + 12345)) 16) 10)) (0, v11) M12 r else (if ¬ w32 (Int.tdiv v11 20) = w32 (Int.tmod (iushr (w32 ((w32 (l4 * 1103515245)) + 12345)) 8) (M 64 0)) then ∃ v20, Cl d m_M_cardsOn [(2, 64)] M12 (some (0, v20), M12) ∧ ∃ v22, Cl d m_J_bitCount [(0, v20)] M12 (some (0, v22), M12) ∧ at_M_drawn_25 d w1 l2 l3 (w32 ((w32 (l4 * 1103515245)) + 12345)) l5 (w32 (l6 + v22)) (w32 (l7 + 1)) (0, w32 (Int.tmod (iushr (w32 ((w32 (l4 * 1103515245)) + 12345)) 8) (M 64 0))) (0, w32 (Int.tmod (iushr (w32 ((w32 (l4 * 1103515245)) + 12345)) 16) 10)) (0, v11) M12 r else ∃ v24, Cl d m_M_cardsOn [(2, 64)] M12 (some (0, v24), M12) ∧ ∃ v26, Cl d m_J_bitCount [(0, v24)] M12 (some (0, v26), M12) ∧ at_M_drawn_25 d w1 l2 l3 (w32 ((w32 (l4 * 1103515245)) + 12345)) (w32 (l5 + 1)) (w32 (l6 + v26)) (w32 (l7 + 1)) (0, w32 (Int.tmod (iushr (w32 ((w32 (l4 * 1103515245)) + 12345)) 8) (M 64 0))) (0, w32 (Int.tmod (iushr (w32 ((w32 (l4 * 1103515245)) + 12345)) 16) 10)) (0, v11) M12 r)) else (0 ≤ w32 ((w32 (10 * (w32 (Int.tmod (iushr (w32 ((w32 (l4 * 1103515245)) + 12345)) 8) (M 64 0))))) + (w32 (Int.tmod (iushr (w32 ((w32 (l4 * 1103515245)) + 12345)) 16) 10))) ∧ w32 ((w32 (10 * (w32 (Int.tmod (iushr (w32 ((w32 (l4 * 1103515245)) + 12345)) 8) (M 64 0))))) + (w32 (Int.tmod (iushr (w32 ((w32 (l4 * 1103515245)) + 12345)) 16) 10))) < 120) ∧ ∃ M29, Cl d m_M_takes [(2, 64), (0, 0), (0, M 66 (w32 ((w32 (10 * (w32 (Int.tmod (iushr (w32 ((w32 (l4 * 1103515245)) + 12345)) 8) (M 64 0))))) + (w32 (Int.tmod (iushr (w32 ((w32 (l4 * 1103515245)) + 12345)) 16) 10)))))] M (none, M29) ∧ ∃ v31 M32, Cl d m_M_bestOf [(2, 64)] M29 (some (0, v31), M32) ∧ (if v31 = (-2) then ∃ v35, Cl d m_M_cardsOn [(2, 64)] M32 (some (0, v35), M32) ∧ ∃ v37, Cl d m_J_bitCount [(0, v35)] M32 (some (0, v37), M32) ∧ at_M_drawn_25 d w1 l2 l3 (w32 ((w32 (l4 * 1103515245)) + 12345)) l5 (w32 (l6 + v37)) (w32 (l7 + 1)) (0, w32 (Int.tmod (iushr (w32 ((w32 (l4 * 1103515245)) + 12345)) 8) (M 64 0))) (0, w32 (Int.tmod (iushr (w32 ((w32 (l4 * 1103515245)) + 12345)) 16) 10)) (0, v31) M32 r else (if ¬ w32 (Int.tdiv v31 20) = w32 (Int.tmod (iushr (w32 ((w32 (l4 * 1103515245)) + 12345)) 8) (M 64 0)) then ∃ v40, Cl d m_M_cardsOn [(2, 64)] M32 (some (0, v40), M32) ∧ ∃ v42, Cl d m_J_bitCount [(0, v40)] M32 (some (0, v42), M32) ∧ at_M_drawn_25 d w1 l2 l3 (w32 ((w32 (l4 * 1103515245)) + 12345)) l5 (w32 (l6 + v42)) (w32 (l7 + 1)) (0, w32 (Int.tmod (iushr (w32 ((w32 (l4 * 1103515245)) + 12345)) 8) (M 64 0))) (0, w32 (Int.tmod (iushr (w32 ((w32 (l4 * 1103515245)) + 12345)) 16) 10)) (0, v31) M32 r else ∃ v44, Cl d m_M_cardsOn [(2, 64)] M32 (some (0, v44), M32) ∧ ∃ v46, Cl d m_J_bitCount [(0, v44)] M32 (some (0, v46), M32) ∧ at_M_drawn_25 d w1 l2 l3 (w32 ((w32 (l4 * 1103515245)) + 12345)) (w32 (l5 + 1)) (w32 (l6 + v46)) (w32 (l7 + 1)) (0, w32 (Int.tmod (iushr (w32 ((w32 (l4 * 1103515245)) + 12345)) 8) (M 64 0))) (0, w32 (Int.tmod (iushr (w32 ((w32 (l4 * 1103515245)) + 12345)) 16) 10)) (0, v31) M32 r))))) : at_M_drawn_25 d w1 l2 l3 l4 l5 l6 l7 w8 w9 w10 M r := by
  unfold at_M_drawn_25
  refine x_il (pc' := 26) rfl rfl rfl ?_
  refine x_il (pc' := 27) rfl rfl rfl ?_
  refine x_icge (pc' := 28) (t' := 97) rfl rfl rfl (fun q1 => ?_) (fun q1 => ?_)
  · replace h := ite_t q1 h
    refine x_il (pc' := 98) rfl rfl rfl ?_
    refine x_ifne (pc' := 99) (t' := 101) rfl rfl rfl (fun q2 => ?_) (fun q2 => ?_)
    · replace h := ite_t q2 h
      refine x_il (pc' := 102) rfl rfl rfl ?_
      exact x_iret rfl h
    · replace h := ite_f q2 h
      refine x_il (pc' := 100) rfl rfl rfl ?_
      refine x_goto (t' := 102) rfl rfl ?_
      exact x_iret rfl h
  · replace h := ite_f q1 h
    refine x_il (pc' := 29) rfl rfl rfl ?_
    refine x_c (pc' := 30) rfl rfl ?_
    refine x_ib (pc' := 31) (v := w32 (l4 * 1103515245)) rfl rfl rfl ?_
    refine x_c (pc' := 32) rfl rfl ?_
    refine x_ib (pc' := 33) (v := w32 ((w32 (l4 * 1103515245)) + 12345)) rfl rfl rfl ?_
    refine x_is (pc' := 34) (ls' := [(2, 64), w1, (0, l2), (0, l3), (0, w32 ((w32 (l4 * 1103515245)) + 12345)), (0, l5), (0, l6), (0, l7), w8, w9, w10]) rfl rfl rfl rfl ?_
    refine x_il (pc' := 35) rfl rfl rfl ?_
    refine x_c (pc' := 36) rfl rfl ?_
    refine x_ib (pc' := 37) (v := iushr (w32 ((w32 (l4 * 1103515245)) + 12345)) 8) rfl rfl rfl ?_
    refine x_al (pc' := 38) rfl rfl (by decide) rfl ?_
    refine x_gf (pc' := 39) (v := M 64 0) rfl rfl rfl rfl rfl ?_
    obtain ⟨q3, h⟩ := h
    refine x_ib (pc' := 40) (v := w32 (Int.tmod (iushr (w32 ((w32 (l4 * 1103515245)) + 12345)) 8) (M 64 0))) rfl (show ibin 4 (iushr (w32 ((w32 (l4 * 1103515245)) + 12345)) 8) (M 64 0) = some (w32 (Int.tmod (iushr (w32 ((w32 (l4 * 1103515245)) + 12345)) 8) (M 64 0))) from if_neg q3) rfl ?_
    refine x_is (pc' := 41) (ls' := [(2, 64), w1, (0, l2), (0, l3), (0, w32 ((w32 (l4 * 1103515245)) + 12345)), (0, l5), (0, l6), (0, l7), (0, w32 (Int.tmod (iushr (w32 ((w32 (l4 * 1103515245)) + 12345)) 8) (M 64 0))), w9, w10]) rfl rfl rfl rfl ?_
    refine x_il (pc' := 42) rfl rfl rfl ?_
    refine x_c (pc' := 43) rfl rfl ?_
    refine x_ib (pc' := 44) (v := iushr (w32 ((w32 (l4 * 1103515245)) + 12345)) 16) rfl rfl rfl ?_
    refine x_c (pc' := 45) rfl rfl ?_
    refine x_ib (pc' := 46) (v := w32 (Int.tmod (iushr (w32 ((w32 (l4 * 1103515245)) + 12345)) 16) 10)) rfl rfl rfl ?_
    refine x_is (pc' := 47) (ls' := [(2, 64), w1, (0, l2), (0, l3), (0, w32 ((w32 (l4 * 1103515245)) + 12345)), (0, l5), (0, l6), (0, l7), (0, w32 (Int.tmod (iushr (w32 ((w32 (l4 * 1103515245)) + 12345)) 8) (M 64 0))), (0, w32 (Int.tmod (iushr (w32 ((w32 (l4 * 1103515245)) + 12345)) 16) 10)), w10]) rfl rfl rfl rfl ?_
    refine x_al (pc' := 48) rfl rfl (by decide) rfl ?_
    refine x_al (pc' := 49) rfl rfl (by decide) rfl ?_
    refine x_gr (pc' := 50) (v := 65) rfl rfl rfl (by decide) rfl ?_
    refine x_c (pc' := 51) rfl rfl ?_
    refine x_il (pc' := 52) rfl rfl rfl ?_
    refine x_ib (pc' := 53) (v := w32 (10 * (w32 (Int.tmod (iushr (w32 ((w32 (l4 * 1103515245)) + 12345)) 8) (M 64 0))))) rfl rfl rfl ?_
    refine x_il (pc' := 54) rfl rfl rfl ?_
    refine x_ib (pc' := 55) (v := w32 ((w32 (10 * (w32 (Int.tmod (iushr (w32 ((w32 (l4 * 1103515245)) + 12345)) 8) (M 64 0))))) + (w32 (Int.tmod (iushr (w32 ((w32 (l4 * 1103515245)) + 12345)) 16) 10)))) rfl rfl rfl ?_
    obtain ⟨q4, h⟩ := h
    refine x_ia (pc' := 56) 120 (v := M 65 (w32 ((w32 (10 * (w32 (Int.tmod (iushr (w32 ((w32 (l4 * 1103515245)) + 12345)) 8) (M 64 0))))) + (w32 (Int.tmod (iushr (w32 ((w32 (l4 * 1103515245)) + 12345)) 16) 10))))) rfl rfl rfl q4.1 q4.2 rfl ?_
    refine x_c (pc' := 57) rfl rfl ?_
    refine x_icne (pc' := 58) (t' := 60) rfl rfl rfl (fun q5 => ?_) (fun q5 => ?_)
    · replace h := ite_t q5 h
      refine x_al (pc' := 61) rfl rfl (by decide) rfl ?_
      refine x_gr (pc' := 62) (v := 65) rfl rfl rfl (by decide) rfl ?_
      refine x_c (pc' := 63) rfl rfl ?_
      refine x_il (pc' := 64) rfl rfl rfl ?_
      refine x_ib (pc' := 65) (v := w32 (10 * (w32 (Int.tmod (iushr (w32 ((w32 (l4 * 1103515245)) + 12345)) 8) (M 64 0))))) rfl rfl rfl ?_
      refine x_il (pc' := 66) rfl rfl rfl ?_
      refine x_ib (pc' := 67) (v := w32 ((w32 (10 * (w32 (Int.tmod (iushr (w32 ((w32 (l4 * 1103515245)) + 12345)) 8) (M 64 0))))) + (w32 (Int.tmod (iushr (w32 ((w32 (l4 * 1103515245)) + 12345)) 16) 10)))) rfl rfl rfl ?_
      obtain ⟨q6, h⟩ := h
      refine x_ia (pc' := 68) 120 (v := M 65 (w32 ((w32 (10 * (w32 (Int.tmod (iushr (w32 ((w32 (l4 * 1103515245)) + 12345)) 8) (M 64 0))))) + (w32 (Int.tmod (iushr (w32 ((w32 (l4 * 1103515245)) + 12345)) 16) 10))))) rfl rfl rfl q6.1 q6.2 rfl ?_
      refine x_al (pc' := 69) rfl rfl (by decide) rfl ?_
      refine x_gr (pc' := 70) (v := 66) rfl rfl rfl (by decide) rfl ?_
      refine x_c (pc' := 71) rfl rfl ?_
      refine x_il (pc' := 72) rfl rfl rfl ?_
      refine x_ib (pc' := 73) (v := w32 (10 * (w32 (Int.tmod (iushr (w32 ((w32 (l4 * 1103515245)) + 12345)) 8) (M 64 0))))) rfl rfl rfl ?_
      refine x_il (pc' := 74) rfl rfl rfl ?_
      refine x_ib (pc' := 75) (v := w32 ((w32 (10 * (w32 (Int.tmod (iushr (w32 ((w32 (l4 * 1103515245)) + 12345)) 8) (M 64 0))))) + (w32 (Int.tmod (iushr (w32 ((w32 (l4 * 1103515245)) + 12345)) 16) 10)))) rfl rfl rfl ?_
      obtain ⟨q7, h⟩ := h
      refine x_ia (pc' := 76) 120 (v := M 66 (w32 ((w32 (10 * (w32 (Int.tmod (iushr (w32 ((w32 (l4 * 1103515245)) + 12345)) 8) (M 64 0))))) + (w32 (Int.tmod (iushr (w32 ((w32 (l4 * 1103515245)) + 12345)) 16) 10))))) rfl rfl rfl q7.1 q7.2 rfl ?_
      obtain ⟨M9, q8, h⟩ := h
      refine x_callv (pc' := 77) (as := [(2, 64), (0, M 65 (w32 ((w32 (10 * (w32 (Int.tmod (iushr (w32 ((w32 (l4 * 1103515245)) + 12345)) 8) (M 64 0))))) + (w32 (Int.tmod (iushr (w32 ((w32 (l4 * 1103515245)) + 12345)) 16) 10))))), (0, M 66 (w32 ((w32 (10 * (w32 (Int.tmod (iushr (w32 ((w32 (l4 * 1103515245)) + 12345)) 8) (M 64 0))))) + (w32 (Int.tmod (iushr (w32 ((w32 (l4 * 1103515245)) + 12345)) 16) 10)))))]) (rest := []) rfl rfl rfl rfl rfl rfl q8 ?_
      refine x_al (pc' := 78) rfl rfl (by decide) rfl ?_
      obtain ⟨v11, M12, q10, h⟩ := h
      refine x_call (pc' := 79) (as := [(2, 64)]) (rest := []) rfl rfl rfl rfl rfl rfl q10 ?_
      refine x_is (pc' := 80) (ls' := [(2, 64), w1, (0, l2), (0, l3), (0, w32 ((w32 (l4 * 1103515245)) + 12345)), (0, l5), (0, l6), (0, l7), (0, w32 (Int.tmod (iushr (w32 ((w32 (l4 * 1103515245)) + 12345)) 8) (M 64 0))), (0, w32 (Int.tmod (iushr (w32 ((w32 (l4 * 1103515245)) + 12345)) 16) 10)), (0, v11)]) rfl rfl rfl rfl ?_
      refine x_il (pc' := 81) rfl rfl rfl ?_
      refine x_c (pc' := 82) rfl rfl ?_
      refine x_iceq (pc' := 83) (t' := 89) rfl rfl rfl (fun q13 => ?_) (fun q13 => ?_)
      · replace h := ite_t q13 h
        refine x_il (pc' := 90) rfl rfl rfl ?_
        refine x_al (pc' := 91) rfl rfl (by decide) rfl ?_
        obtain ⟨v15, q14, h⟩ := h
        refine x_call (pc' := 92) (as := [(2, 64)]) (rest := [(0, l6)]) rfl rfl rfl rfl rfl rfl q14 ?_
        obtain ⟨v17, q16, h⟩ := h
        refine x_call (pc' := 93) (as := [(0, v15)]) (rest := [(0, l6)]) rfl rfl rfl rfl rfl rfl q16 ?_
        refine x_ib (pc' := 94) (v := w32 (l6 + v17)) rfl rfl rfl ?_
        refine x_is (pc' := 95) (ls' := [(2, 64), w1, (0, l2), (0, l3), (0, w32 ((w32 (l4 * 1103515245)) + 12345)), (0, l5), (0, w32 (l6 + v17)), (0, l7), (0, w32 (Int.tmod (iushr (w32 ((w32 (l4 * 1103515245)) + 12345)) 8) (M 64 0))), (0, w32 (Int.tmod (iushr (w32 ((w32 (l4 * 1103515245)) + 12345)) 16) 10)), (0, v11)]) rfl rfl rfl rfl ?_
        refine x_inc (pc' := 96) (ls' := [(2, 64), w1, (0, l2), (0, l3), (0, w32 ((w32 (l4 * 1103515245)) + 12345)), (0, l5), (0, w32 (l6 + v17)), (0, w32 (l7 + 1)), (0, w32 (Int.tmod (iushr (w32 ((w32 (l4 * 1103515245)) + 12345)) 8) (M 64 0))), (0, w32 (Int.tmod (iushr (w32 ((w32 (l4 * 1103515245)) + 12345)) 16) 10)), (0, v11)]) rfl rfl rfl rfl ?_
        refine x_goto (t' := 25) rfl rfl ?_
        exact h
      · replace h := ite_f q13 h
        refine x_il (pc' := 84) rfl rfl rfl ?_
        refine x_c (pc' := 85) rfl rfl ?_
        refine x_ib (pc' := 86) (v := w32 (Int.tdiv v11 20)) rfl rfl rfl ?_
        refine x_il (pc' := 87) rfl rfl rfl ?_
        refine x_icne (pc' := 88) (t' := 89) rfl rfl rfl (fun q18 => ?_) (fun q18 => ?_)
        · replace h := ite_t q18 h
          refine x_il (pc' := 90) rfl rfl rfl ?_
          refine x_al (pc' := 91) rfl rfl (by decide) rfl ?_
          obtain ⟨v20, q19, h⟩ := h
          refine x_call (pc' := 92) (as := [(2, 64)]) (rest := [(0, l6)]) rfl rfl rfl rfl rfl rfl q19 ?_
          obtain ⟨v22, q21, h⟩ := h
          refine x_call (pc' := 93) (as := [(0, v20)]) (rest := [(0, l6)]) rfl rfl rfl rfl rfl rfl q21 ?_
          refine x_ib (pc' := 94) (v := w32 (l6 + v22)) rfl rfl rfl ?_
          refine x_is (pc' := 95) (ls' := [(2, 64), w1, (0, l2), (0, l3), (0, w32 ((w32 (l4 * 1103515245)) + 12345)), (0, l5), (0, w32 (l6 + v22)), (0, l7), (0, w32 (Int.tmod (iushr (w32 ((w32 (l4 * 1103515245)) + 12345)) 8) (M 64 0))), (0, w32 (Int.tmod (iushr (w32 ((w32 (l4 * 1103515245)) + 12345)) 16) 10)), (0, v11)]) rfl rfl rfl rfl ?_
          refine x_inc (pc' := 96) (ls' := [(2, 64), w1, (0, l2), (0, l3), (0, w32 ((w32 (l4 * 1103515245)) + 12345)), (0, l5), (0, w32 (l6 + v22)), (0, w32 (l7 + 1)), (0, w32 (Int.tmod (iushr (w32 ((w32 (l4 * 1103515245)) + 12345)) 8) (M 64 0))), (0, w32 (Int.tmod (iushr (w32 ((w32 (l4 * 1103515245)) + 12345)) 16) 10)), (0, v11)]) rfl rfl rfl rfl ?_
          refine x_goto (t' := 25) rfl rfl ?_
          exact h
        · replace h := ite_f q18 h
          refine x_inc (pc' := 89) (ls' := [(2, 64), w1, (0, l2), (0, l3), (0, w32 ((w32 (l4 * 1103515245)) + 12345)), (0, w32 (l5 + 1)), (0, l6), (0, l7), (0, w32 (Int.tmod (iushr (w32 ((w32 (l4 * 1103515245)) + 12345)) 8) (M 64 0))), (0, w32 (Int.tmod (iushr (w32 ((w32 (l4 * 1103515245)) + 12345)) 16) 10)), (0, v11)]) rfl rfl rfl rfl ?_
          refine x_il (pc' := 90) rfl rfl rfl ?_
          refine x_al (pc' := 91) rfl rfl (by decide) rfl ?_
          obtain ⟨v24, q23, h⟩ := h
          refine x_call (pc' := 92) (as := [(2, 64)]) (rest := [(0, l6)]) rfl rfl rfl rfl rfl rfl q23 ?_
          obtain ⟨v26, q25, h⟩ := h
          refine x_call (pc' := 93) (as := [(0, v24)]) (rest := [(0, l6)]) rfl rfl rfl rfl rfl rfl q25 ?_
          refine x_ib (pc' := 94) (v := w32 (l6 + v26)) rfl rfl rfl ?_
          refine x_is (pc' := 95) (ls' := [(2, 64), w1, (0, l2), (0, l3), (0, w32 ((w32 (l4 * 1103515245)) + 12345)), (0, w32 (l5 + 1)), (0, w32 (l6 + v26)), (0, l7), (0, w32 (Int.tmod (iushr (w32 ((w32 (l4 * 1103515245)) + 12345)) 8) (M 64 0))), (0, w32 (Int.tmod (iushr (w32 ((w32 (l4 * 1103515245)) + 12345)) 16) 10)), (0, v11)]) rfl rfl rfl rfl ?_
          refine x_inc (pc' := 96) (ls' := [(2, 64), w1, (0, l2), (0, l3), (0, w32 ((w32 (l4 * 1103515245)) + 12345)), (0, w32 (l5 + 1)), (0, w32 (l6 + v26)), (0, w32 (l7 + 1)), (0, w32 (Int.tmod (iushr (w32 ((w32 (l4 * 1103515245)) + 12345)) 8) (M 64 0))), (0, w32 (Int.tmod (iushr (w32 ((w32 (l4 * 1103515245)) + 12345)) 16) 10)), (0, v11)]) rfl rfl rfl rfl ?_
          refine x_goto (t' := 25) rfl rfl ?_
          exact h
    · replace h := ite_f q5 h
      refine x_c (pc' := 59) rfl rfl ?_
      refine x_goto (t' := 68) rfl rfl ?_
      refine x_al (pc' := 69) rfl rfl (by decide) rfl ?_
      refine x_gr (pc' := 70) (v := 66) rfl rfl rfl (by decide) rfl ?_
      refine x_c (pc' := 71) rfl rfl ?_
      refine x_il (pc' := 72) rfl rfl rfl ?_
      refine x_ib (pc' := 73) (v := w32 (10 * (w32 (Int.tmod (iushr (w32 ((w32 (l4 * 1103515245)) + 12345)) 8) (M 64 0))))) rfl rfl rfl ?_
      refine x_il (pc' := 74) rfl rfl rfl ?_
      refine x_ib (pc' := 75) (v := w32 ((w32 (10 * (w32 (Int.tmod (iushr (w32 ((w32 (l4 * 1103515245)) + 12345)) 8) (M 64 0))))) + (w32 (Int.tmod (iushr (w32 ((w32 (l4 * 1103515245)) + 12345)) 16) 10)))) rfl rfl rfl ?_
      obtain ⟨q27, h⟩ := h
      refine x_ia (pc' := 76) 120 (v := M 66 (w32 ((w32 (10 * (w32 (Int.tmod (iushr (w32 ((w32 (l4 * 1103515245)) + 12345)) 8) (M 64 0))))) + (w32 (Int.tmod (iushr (w32 ((w32 (l4 * 1103515245)) + 12345)) 16) 10))))) rfl rfl rfl q27.1 q27.2 rfl ?_
      obtain ⟨M29, q28, h⟩ := h
      refine x_callv (pc' := 77) (as := [(2, 64), (0, 0), (0, M 66 (w32 ((w32 (10 * (w32 (Int.tmod (iushr (w32 ((w32 (l4 * 1103515245)) + 12345)) 8) (M 64 0))))) + (w32 (Int.tmod (iushr (w32 ((w32 (l4 * 1103515245)) + 12345)) 16) 10)))))]) (rest := []) rfl rfl rfl rfl rfl rfl q28 ?_
      refine x_al (pc' := 78) rfl rfl (by decide) rfl ?_
      obtain ⟨v31, M32, q30, h⟩ := h
      refine x_call (pc' := 79) (as := [(2, 64)]) (rest := []) rfl rfl rfl rfl rfl rfl q30 ?_
      refine x_is (pc' := 80) (ls' := [(2, 64), w1, (0, l2), (0, l3), (0, w32 ((w32 (l4 * 1103515245)) + 12345)), (0, l5), (0, l6), (0, l7), (0, w32 (Int.tmod (iushr (w32 ((w32 (l4 * 1103515245)) + 12345)) 8) (M 64 0))), (0, w32 (Int.tmod (iushr (w32 ((w32 (l4 * 1103515245)) + 12345)) 16) 10)), (0, v31)]) rfl rfl rfl rfl ?_
      refine x_il (pc' := 81) rfl rfl rfl ?_
      refine x_c (pc' := 82) rfl rfl ?_
      refine x_iceq (pc' := 83) (t' := 89) rfl rfl rfl (fun q33 => ?_) (fun q33 => ?_)
      · replace h := ite_t q33 h
        refine x_il (pc' := 90) rfl rfl rfl ?_
        refine x_al (pc' := 91) rfl rfl (by decide) rfl ?_
        obtain ⟨v35, q34, h⟩ := h
        refine x_call (pc' := 92) (as := [(2, 64)]) (rest := [(0, l6)]) rfl rfl rfl rfl rfl rfl q34 ?_
        obtain ⟨v37, q36, h⟩ := h
        refine x_call (pc' := 93) (as := [(0, v35)]) (rest := [(0, l6)]) rfl rfl rfl rfl rfl rfl q36 ?_
        refine x_ib (pc' := 94) (v := w32 (l6 + v37)) rfl rfl rfl ?_
        refine x_is (pc' := 95) (ls' := [(2, 64), w1, (0, l2), (0, l3), (0, w32 ((w32 (l4 * 1103515245)) + 12345)), (0, l5), (0, w32 (l6 + v37)), (0, l7), (0, w32 (Int.tmod (iushr (w32 ((w32 (l4 * 1103515245)) + 12345)) 8) (M 64 0))), (0, w32 (Int.tmod (iushr (w32 ((w32 (l4 * 1103515245)) + 12345)) 16) 10)), (0, v31)]) rfl rfl rfl rfl ?_
        refine x_inc (pc' := 96) (ls' := [(2, 64), w1, (0, l2), (0, l3), (0, w32 ((w32 (l4 * 1103515245)) + 12345)), (0, l5), (0, w32 (l6 + v37)), (0, w32 (l7 + 1)), (0, w32 (Int.tmod (iushr (w32 ((w32 (l4 * 1103515245)) + 12345)) 8) (M 64 0))), (0, w32 (Int.tmod (iushr (w32 ((w32 (l4 * 1103515245)) + 12345)) 16) 10)), (0, v31)]) rfl rfl rfl rfl ?_
        refine x_goto (t' := 25) rfl rfl ?_
        exact h
      · replace h := ite_f q33 h
        refine x_il (pc' := 84) rfl rfl rfl ?_
        refine x_c (pc' := 85) rfl rfl ?_
        refine x_ib (pc' := 86) (v := w32 (Int.tdiv v31 20)) rfl rfl rfl ?_
        refine x_il (pc' := 87) rfl rfl rfl ?_
        refine x_icne (pc' := 88) (t' := 89) rfl rfl rfl (fun q38 => ?_) (fun q38 => ?_)
        · replace h := ite_t q38 h
          refine x_il (pc' := 90) rfl rfl rfl ?_
          refine x_al (pc' := 91) rfl rfl (by decide) rfl ?_
          obtain ⟨v40, q39, h⟩ := h
          refine x_call (pc' := 92) (as := [(2, 64)]) (rest := [(0, l6)]) rfl rfl rfl rfl rfl rfl q39 ?_
          obtain ⟨v42, q41, h⟩ := h
          refine x_call (pc' := 93) (as := [(0, v40)]) (rest := [(0, l6)]) rfl rfl rfl rfl rfl rfl q41 ?_
          refine x_ib (pc' := 94) (v := w32 (l6 + v42)) rfl rfl rfl ?_
          refine x_is (pc' := 95) (ls' := [(2, 64), w1, (0, l2), (0, l3), (0, w32 ((w32 (l4 * 1103515245)) + 12345)), (0, l5), (0, w32 (l6 + v42)), (0, l7), (0, w32 (Int.tmod (iushr (w32 ((w32 (l4 * 1103515245)) + 12345)) 8) (M 64 0))), (0, w32 (Int.tmod (iushr (w32 ((w32 (l4 * 1103515245)) + 12345)) 16) 10)), (0, v31)]) rfl rfl rfl rfl ?_
          refine x_inc (pc' := 96) (ls' := [(2, 64), w1, (0, l2), (0, l3), (0, w32 ((w32 (l4 * 1103515245)) + 12345)), (0, l5), (0, w32 (l6 + v42)), (0, w32 (l7 + 1)), (0, w32 (Int.tmod (iushr (w32 ((w32 (l4 * 1103515245)) + 12345)) 8) (M 64 0))), (0, w32 (Int.tmod (iushr (w32 ((w32 (l4 * 1103515245)) + 12345)) 16) 10)), (0, v31)]) rfl rfl rfl rfl ?_
          refine x_goto (t' := 25) rfl rfl ?_
          exact h
        · replace h := ite_f q38 h
          refine x_inc (pc' := 89) (ls' := [(2, 64), w1, (0, l2), (0, l3), (0, w32 ((w32 (l4 * 1103515245)) + 12345)), (0, w32 (l5 + 1)), (0, l6), (0, l7), (0, w32 (Int.tmod (iushr (w32 ((w32 (l4 * 1103515245)) + 12345)) 8) (M 64 0))), (0, w32 (Int.tmod (iushr (w32 ((w32 (l4 * 1103515245)) + 12345)) 16) 10)), (0, v31)]) rfl rfl rfl rfl ?_
          refine x_il (pc' := 90) rfl rfl rfl ?_
          refine x_al (pc' := 91) rfl rfl (by decide) rfl ?_
          obtain ⟨v44, q43, h⟩ := h
          refine x_call (pc' := 92) (as := [(2, 64)]) (rest := [(0, l6)]) rfl rfl rfl rfl rfl rfl q43 ?_
          obtain ⟨v46, q45, h⟩ := h
          refine x_call (pc' := 93) (as := [(0, v44)]) (rest := [(0, l6)]) rfl rfl rfl rfl rfl rfl q45 ?_
          refine x_ib (pc' := 94) (v := w32 (l6 + v46)) rfl rfl rfl ?_
          refine x_is (pc' := 95) (ls' := [(2, 64), w1, (0, l2), (0, l3), (0, w32 ((w32 (l4 * 1103515245)) + 12345)), (0, w32 (l5 + 1)), (0, w32 (l6 + v46)), (0, l7), (0, w32 (Int.tmod (iushr (w32 ((w32 (l4 * 1103515245)) + 12345)) 8) (M 64 0))), (0, w32 (Int.tmod (iushr (w32 ((w32 (l4 * 1103515245)) + 12345)) 16) 10)), (0, v31)]) rfl rfl rfl rfl ?_
          refine x_inc (pc' := 96) (ls' := [(2, 64), w1, (0, l2), (0, l3), (0, w32 ((w32 (l4 * 1103515245)) + 12345)), (0, w32 (l5 + 1)), (0, w32 (l6 + v46)), (0, w32 (l7 + 1)), (0, w32 (Int.tmod (iushr (w32 ((w32 (l4 * 1103515245)) + 12345)) 8) (M 64 0))), (0, w32 (Int.tmod (iushr (w32 ((w32 (l4 * 1103515245)) + 12345)) 16) 10)), (0, v31)]) rfl rfl rfl rfl ?_
          refine x_goto (t' := 25) rfl rfl ?_
          exact h
theorem sg_M_file {d : Nat} {p1 p2 : Int} {M : Mem} {r : Res} (h : ∃ v2, Cl d m_M_isCard [(2, 64), (0, p1)] M (some (0, v2), M) ∧ (if v2 = 0 then r = (some (0, (-1)), M) else ∃ v5, Cl d m_M_isDrawer [(0, p2)] M (some (0, v5), M) ∧ (if ¬ v5 = 0 then (0 ≤ p1 ∧ p1 < 12) ∧ (0 ≤ p1 ∧ p1 < 12) ∧ r = (some (0, M 67 p1), up (up M 67 p1 p2) 78 0 (w32 (((up M 67 p1 p2) 78 0) + 1))) else r = (some (0, (-1)), M)))) : Cl (d + 1) m_M_file [(2, 64), (0, p1), (0, p2)] M r := by
  refine cl_of (c := k_M_file) (mL := 4) (rz := 1) (rc := 7) (ls := [(2, 64), (0, p1), (0, p2), (3, 0)]) rfl rfl rfl ?_
  refine x_al (pc' := 1) rfl rfl (by decide) rfl ?_
  refine x_il (pc' := 2) rfl rfl rfl ?_
  obtain ⟨v2, q1, h⟩ := h
  refine x_call (pc' := 3) (as := [(2, 64), (0, p1)]) (rest := []) rfl rfl rfl rfl rfl rfl q1 ?_
  refine x_ifeq (pc' := 4) (t' := 7) rfl rfl rfl (fun q3 => ?_) (fun q3 => ?_)
  · replace h := ite_t q3 h
    refine x_c (pc' := 8) rfl rfl ?_
    exact x_iret rfl h
  · replace h := ite_f q3 h
    refine x_il (pc' := 5) rfl rfl rfl ?_
    obtain ⟨v5, q4, h⟩ := h
    refine x_call (pc' := 6) (as := [(0, p2)]) (rest := []) rfl rfl rfl rfl rfl rfl q4 ?_
    refine x_ifne (pc' := 7) (t' := 9) rfl rfl rfl (fun q6 => ?_) (fun q6 => ?_)
    · replace h := ite_t q6 h
      refine x_al (pc' := 10) rfl rfl (by decide) rfl ?_
      refine x_gr (pc' := 11) (v := 67) rfl rfl rfl (by decide) rfl ?_
      refine x_il (pc' := 12) rfl rfl rfl ?_
      obtain ⟨q7, h⟩ := h
      refine x_ia (pc' := 13) 12 (v := M 67 p1) rfl rfl rfl q7.1 q7.2 rfl ?_
      refine x_is (pc' := 14) (ls' := [(2, 64), (0, p1), (0, p2), (0, M 67 p1)]) rfl rfl rfl rfl ?_
      refine x_al (pc' := 15) rfl rfl (by decide) rfl ?_
      refine x_gr (pc' := 16) (v := 67) rfl rfl rfl (by decide) rfl ?_
      refine x_il (pc' := 17) rfl rfl rfl ?_
      refine x_il (pc' := 18) rfl rfl rfl ?_
      obtain ⟨q8, h⟩ := h
      refine x_ist (pc' := 19) 12 (M2 := up M 67 p1 p2) rfl rfl rfl q8.1 q8.2 rfl ?_
      refine x_al (pc' := 20) rfl rfl (by decide) rfl ?_
      refine x_gr (pc' := 21) (v := 78) rfl rfl rfl (by decide) rfl ?_
      refine x_c (pc' := 22) rfl rfl ?_
      refine x_dup2 (pc' := 23) rfl rfl ?_
      refine x_ia (pc' := 24) 5 (v := (up M 67 p1 p2) 78 0) rfl rfl rfl (by decide) (by decide) rfl ?_
      refine x_c (pc' := 25) rfl rfl ?_
      refine x_ib (pc' := 26) (v := w32 (((up M 67 p1 p2) 78 0) + 1)) rfl rfl rfl ?_
      refine x_ist (pc' := 27) 5 (M2 := up (up M 67 p1 p2) 78 0 (w32 (((up M 67 p1 p2) 78 0) + 1))) rfl rfl rfl (by decide) (by decide) rfl ?_
      refine x_il (pc' := 28) rfl rfl rfl ?_
      exact x_iret rfl h
    · replace h := ite_f q6 h
      refine x_c (pc' := 8) rfl rfl ?_
      exact x_iret rfl h
theorem sg_M_take {d : Nat} {p1 : Int} {M : Mem} {r : Res} (h : ∃ v2, Cl d m_M_isCard [(2, 64), (0, p1)] M (some (0, v2), M) ∧ (if ¬ v2 = 0 then (0 ≤ p1 ∧ p1 < 12) ∧ (if ¬ M 67 p1 = (-2000000000) then (0 ≤ p1 ∧ p1 < 12) ∧ (0 ≤ p1 ∧ p1 < 12) ∧ r = (some (0, M 67 p1), up (up M 67 p1 (-2000000000)) 78 1 (w32 (((up M 67 p1 (-2000000000)) 78 1) + 1))) else r = (some (0, (-5)), M)) else r = (some (0, (-1)), M))) : Cl (d + 1) m_M_take [(2, 64), (0, p1)] M r := by
  refine cl_of (c := k_M_take) (mL := 3) (rz := 1) (rc := 7) (ls := [(2, 64), (0, p1), (3, 0)]) rfl rfl rfl ?_
  refine x_al (pc' := 1) rfl rfl (by decide) rfl ?_
  refine x_il (pc' := 2) rfl rfl rfl ?_
  obtain ⟨v2, q1, h⟩ := h
  refine x_call (pc' := 3) (as := [(2, 64), (0, p1)]) (rest := []) rfl rfl rfl rfl rfl rfl q1 ?_
  refine x_ifne (pc' := 4) (t' := 6) rfl rfl rfl (fun q3 => ?_) (fun q3 => ?_)
  · replace h := ite_t q3 h
    refine x_al (pc' := 7) rfl rfl (by decide) rfl ?_
    refine x_gr (pc' := 8) (v := 67) rfl rfl rfl (by decide) rfl ?_
    refine x_il (pc' := 9) rfl rfl rfl ?_
    obtain ⟨q4, h⟩ := h
    refine x_ia (pc' := 10) 12 (v := M 67 p1) rfl rfl rfl q4.1 q4.2 rfl ?_
    refine x_c (pc' := 11) rfl rfl ?_
    refine x_icne (pc' := 12) (t' := 14) rfl rfl rfl (fun q5 => ?_) (fun q5 => ?_)
    · replace h := ite_t q5 h
      refine x_al (pc' := 15) rfl rfl (by decide) rfl ?_
      refine x_gr (pc' := 16) (v := 67) rfl rfl rfl (by decide) rfl ?_
      refine x_il (pc' := 17) rfl rfl rfl ?_
      obtain ⟨q6, h⟩ := h
      refine x_ia (pc' := 18) 12 (v := M 67 p1) rfl rfl rfl q6.1 q6.2 rfl ?_
      refine x_is (pc' := 19) (ls' := [(2, 64), (0, p1), (0, M 67 p1)]) rfl rfl rfl rfl ?_
      refine x_al (pc' := 20) rfl rfl (by decide) rfl ?_
      refine x_gr (pc' := 21) (v := 67) rfl rfl rfl (by decide) rfl ?_
      refine x_il (pc' := 22) rfl rfl rfl ?_
      refine x_c (pc' := 23) rfl rfl ?_
      obtain ⟨q7, h⟩ := h
      refine x_ist (pc' := 24) 12 (M2 := up M 67 p1 (-2000000000)) rfl rfl rfl q7.1 q7.2 rfl ?_
      refine x_al (pc' := 25) rfl rfl (by decide) rfl ?_
      refine x_gr (pc' := 26) (v := 78) rfl rfl rfl (by decide) rfl ?_
      refine x_c (pc' := 27) rfl rfl ?_
      refine x_dup2 (pc' := 28) rfl rfl ?_
      refine x_ia (pc' := 29) 5 (v := (up M 67 p1 (-2000000000)) 78 1) rfl rfl rfl (by decide) (by decide) rfl ?_
      refine x_c (pc' := 30) rfl rfl ?_
      refine x_ib (pc' := 31) (v := w32 (((up M 67 p1 (-2000000000)) 78 1) + 1)) rfl rfl rfl ?_
      refine x_ist (pc' := 32) 5 (M2 := up (up M 67 p1 (-2000000000)) 78 1 (w32 (((up M 67 p1 (-2000000000)) 78 1) + 1))) rfl rfl rfl (by decide) (by decide) rfl ?_
      refine x_il (pc' := 33) rfl rfl rfl ?_
      exact x_iret rfl h
    · replace h := ite_f q5 h
      refine x_c (pc' := 13) rfl rfl ?_
      exact x_iret rfl h
  · replace h := ite_f q3 h
    refine x_c (pc' := 5) rfl rfl ?_
    exact x_iret rfl h
def at_M_search_23 (d : Nat) (w1 : AV) (l2 : Int) (w3 : AV) (M : Mem) (r : Res) : Prop := Ex sx0 d k_M_search 1 23 [(2, 64), w1, (0, l2), w3] [] M r
def at_M_search_28 (d : Nat) (w1 : AV) (l2 : Int) (l3 : Int) (M : Mem) (r : Res) : Prop := Ex sx0 d k_M_search 1 28 [(2, 64), w1, (0, l2), (0, l3)] [] M r
theorem sg_M_search {d : Nat} {p1 : Int} {M : Mem} {r : Res} (h : ∃ v2, Cl d m_M_isGlass [(0, p1)] M (some (0, v2), M) ∧ (if ¬ v2 = 0 then ∃ M5, Cl d m_M_takes [(2, 64), (0, w32 (Int.tdiv p1 100)), (0, w32 (Int.tmod p1 100))] M (none, M5) ∧ at_M_search_23 d (0, p1) 0 (3, 0) (up M5 78 2 (w32 ((M5 78 2) + 1))) r else r = (some (0, (-1)), M))) : Cl (d + 1) m_M_search [(2, 64), (0, p1)] M r := by
  refine cl_of (c := k_M_search) (mL := 4) (rz := 1) (rc := 7) (ls := [(2, 64), (0, p1), (3, 0), (3, 0)]) rfl rfl rfl ?_
  refine x_il (pc' := 1) rfl rfl rfl ?_
  obtain ⟨v2, q1, h⟩ := h
  refine x_call (pc' := 2) (as := [(0, p1)]) (rest := []) rfl rfl rfl rfl rfl rfl q1 ?_
  refine x_ifne (pc' := 3) (t' := 5) rfl rfl rfl (fun q3 => ?_) (fun q3 => ?_)
  · replace h := ite_t q3 h
    refine x_al (pc' := 6) rfl rfl (by decide) rfl ?_
    refine x_il (pc' := 7) rfl rfl rfl ?_
    refine x_c (pc' := 8) rfl rfl ?_
    refine x_ib (pc' := 9) (v := w32 (Int.tdiv p1 100)) rfl rfl rfl ?_
    refine x_il (pc' := 10) rfl rfl rfl ?_
    refine x_c (pc' := 11) rfl rfl ?_
    refine x_ib (pc' := 12) (v := w32 (Int.tmod p1 100)) rfl rfl rfl ?_
    obtain ⟨M5, q4, h⟩ := h
    refine x_callv (pc' := 13) (as := [(2, 64), (0, w32 (Int.tdiv p1 100)), (0, w32 (Int.tmod p1 100))]) (rest := []) rfl rfl rfl rfl rfl rfl q4 ?_
    refine x_al (pc' := 14) rfl rfl (by decide) rfl ?_
    refine x_gr (pc' := 15) (v := 78) rfl rfl rfl (by decide) rfl ?_
    refine x_c (pc' := 16) rfl rfl ?_
    refine x_dup2 (pc' := 17) rfl rfl ?_
    refine x_ia (pc' := 18) 5 (v := M5 78 2) rfl rfl rfl (by decide) (by decide) rfl ?_
    refine x_c (pc' := 19) rfl rfl ?_
    refine x_ib (pc' := 20) (v := w32 ((M5 78 2) + 1)) rfl rfl rfl ?_
    refine x_ist (pc' := 21) 5 (M2 := up M5 78 2 (w32 ((M5 78 2) + 1))) rfl rfl rfl (by decide) (by decide) rfl ?_
    refine x_c (pc' := 22) rfl rfl ?_
    refine x_is (pc' := 23) (ls' := [(2, 64), (0, p1), (0, 0), (3, 0)]) rfl rfl rfl rfl ?_
    exact h
  · replace h := ite_f q3 h
    refine x_c (pc' := 4) rfl rfl ?_
    exact x_iret rfl h
theorem sg_M_search_23 {d : Nat} {w1 : AV} {l2 : Int} {w3 : AV} {M : Mem} {r : Res} (h : (if 1024 ≤ l2 then r = (some (0, (-2)), M) else at_M_search_28 d w1 l2 0 M r)) : at_M_search_23 d w1 l2 w3 M r := by
  unfold at_M_search_23
  refine x_il (pc' := 24) rfl rfl rfl ?_
  refine x_c (pc' := 25) rfl rfl ?_
  refine x_icge (pc' := 26) (t' := 66) rfl rfl rfl (fun q1 => ?_) (fun q1 => ?_)
  · replace h := ite_t q1 h
    refine x_c (pc' := 67) rfl rfl ?_
    exact x_iret rfl h
  · replace h := ite_f q1 h
    refine x_c (pc' := 27) rfl rfl ?_
    refine x_is (pc' := 28) (ls' := [(2, 64), w1, (0, l2), (0, 0)]) rfl rfl rfl rfl ?_
    exact h
theorem sg_M_search_28 {d : Nat} {w1 : AV} {l2 : Int} {l3 : Int} {M : Mem} {r : Res} (hw1 : ¬ w1.1 = 1) (h : (if M 64 0 ≤ l3 then at_M_search_23 d w1 (w32 (l2 + 1)) (0, l3) M r else (0 ≤ l3 ∧ l3 < 12) ∧ (if M 67 l3 = l2 then ∃ v5, Cl d m_M_fingersOn [(2, 64), (0, l3)] (up M 78 3 (w32 ((M 78 3) + 1))) (some (0, v5), up M 78 3 (w32 ((M 78 3) + 1))) ∧ (if ¬ v5 = 0 then r = (some (0, l3), up (up M 78 3 (w32 ((M 78 3) + 1))) 78 4 (w32 (((up M 78 3 (w32 ((M 78 3) + 1))) 78 4) + 1))) else at_M_search_28 d w1 l2 (w32 (l3 + 1)) (up M 78 3 (w32 ((M 78 3) + 1))) r) else at_M_search_28 d w1 l2 (w32 (l3 + 1)) M r))) : at_M_search_28 d w1 l2 l3 M r := by
  unfold at_M_search_28
  refine x_il (pc' := 29) rfl rfl rfl ?_
  refine x_al (pc' := 30) rfl rfl (by decide) rfl ?_
  refine x_gf (pc' := 31) (v := M 64 0) rfl rfl rfl rfl rfl ?_
  refine x_icge (pc' := 32) (t' := 64) rfl rfl rfl (fun q1 => ?_) (fun q1 => ?_)
  · replace h := ite_t q1 h
    refine x_inc (pc' := 65) (ls' := [(2, 64), w1, (0, w32 (l2 + 1)), (0, l3)]) rfl rfl (setL_nw (i := 1) rfl hw1) rfl ?_
    refine x_goto (t' := 23) rfl rfl ?_
    exact h
  · replace h := ite_f q1 h
    refine x_al (pc' := 33) rfl rfl (by decide) rfl ?_
    refine x_gr (pc' := 34) (v := 67) rfl rfl rfl (by decide) rfl ?_
    refine x_il (pc' := 35) rfl rfl rfl ?_
    obtain ⟨q2, h⟩ := h
    refine x_ia (pc' := 36) 12 (v := M 67 l3) rfl rfl rfl q2.1 q2.2 rfl ?_
    refine x_il (pc' := 37) rfl rfl rfl ?_
    refine x_iceq (pc' := 38) (t' := 39) rfl rfl rfl (fun q3 => ?_) (fun q3 => ?_)
    · replace h := ite_t q3 h
      refine x_al (pc' := 40) rfl rfl (by decide) rfl ?_
      refine x_gr (pc' := 41) (v := 78) rfl rfl rfl (by decide) rfl ?_
      refine x_c (pc' := 42) rfl rfl ?_
      refine x_dup2 (pc' := 43) rfl rfl ?_
      refine x_ia (pc' := 44) 5 (v := M 78 3) rfl rfl rfl (by decide) (by decide) rfl ?_
      refine x_c (pc' := 45) rfl rfl ?_
      refine x_ib (pc' := 46) (v := w32 ((M 78 3) + 1)) rfl rfl rfl ?_
      refine x_ist (pc' := 47) 5 (M2 := up M 78 3 (w32 ((M 78 3) + 1))) rfl rfl rfl (by decide) (by decide) rfl ?_
      refine x_al (pc' := 48) rfl rfl (by decide) rfl ?_
      refine x_il (pc' := 49) rfl rfl rfl ?_
      obtain ⟨v5, q4, h⟩ := h
      refine x_call (pc' := 50) (as := [(2, 64), (0, l3)]) (rest := []) rfl rfl rfl rfl rfl rfl q4 ?_
      refine x_ifne (pc' := 51) (t' := 52) rfl rfl rfl (fun q6 => ?_) (fun q6 => ?_)
      · replace h := ite_t q6 h
        refine x_al (pc' := 53) rfl rfl (by decide) rfl ?_
        refine x_gr (pc' := 54) (v := 78) rfl rfl rfl (by decide) rfl ?_
        refine x_c (pc' := 55) rfl rfl ?_
        refine x_dup2 (pc' := 56) rfl rfl ?_
        refine x_ia (pc' := 57) 5 (v := (up M 78 3 (w32 ((M 78 3) + 1))) 78 4) rfl rfl rfl (by decide) (by decide) rfl ?_
        refine x_c (pc' := 58) rfl rfl ?_
        refine x_ib (pc' := 59) (v := w32 (((up M 78 3 (w32 ((M 78 3) + 1))) 78 4) + 1)) rfl rfl rfl ?_
        refine x_ist (pc' := 60) 5 (M2 := up (up M 78 3 (w32 ((M 78 3) + 1))) 78 4 (w32 (((up M 78 3 (w32 ((M 78 3) + 1))) 78 4) + 1))) rfl rfl rfl (by decide) (by decide) rfl ?_
        refine x_il (pc' := 61) rfl rfl rfl ?_
        exact x_iret rfl h
      · replace h := ite_f q6 h
        refine x_goto (t' := 62) rfl rfl ?_
        refine x_inc (pc' := 63) (ls' := [(2, 64), w1, (0, l2), (0, w32 (l3 + 1))]) rfl rfl rfl rfl ?_
        refine x_goto (t' := 28) rfl rfl ?_
        exact h
    · replace h := ite_f q3 h
      refine x_goto (t' := 62) rfl rfl ?_
      refine x_inc (pc' := 63) (ls' := [(2, 64), w1, (0, l2), (0, w32 (l3 + 1))]) rfl rfl rfl rfl ?_
      refine x_goto (t' := 28) rfl rfl ?_
      exact h
theorem sg_M_led {d : Nat} {p1 : Int} {M : Mem} {r : Res} (h : ∃ v2, Cl d m_M_within [(0, p1), (0, 0), (0, 4)] M (some (0, v2), M) ∧ (if v2 = 0 then r = (some (0, (-1)), M) else (0 ≤ p1 ∧ p1 < 5) ∧ r = (some (0, M 78 p1), M))) : Cl (d + 1) m_M_led [(2, 64), (0, p1)] M r := by
  refine cl_of (c := k_M_led) (mL := 2) (rz := 1) (rc := 7) (ls := [(2, 64), (0, p1)]) rfl rfl rfl ?_
  refine x_il (pc' := 1) rfl rfl rfl ?_
  refine x_c (pc' := 2) rfl rfl ?_
  refine x_c (pc' := 3) rfl rfl ?_
  obtain ⟨v2, q1, h⟩ := h
  refine x_call (pc' := 4) (as := [(0, p1), (0, 0), (0, 4)]) (rest := []) rfl rfl rfl rfl rfl rfl q1 ?_
  refine x_ifeq (pc' := 5) (t' := 10) rfl rfl rfl (fun q3 => ?_) (fun q3 => ?_)
  · replace h := ite_t q3 h
    refine x_c (pc' := 11) rfl rfl ?_
    exact x_iret rfl h
  · replace h := ite_f q3 h
    refine x_al (pc' := 6) rfl rfl (by decide) rfl ?_
    refine x_gr (pc' := 7) (v := 78) rfl rfl rfl (by decide) rfl ?_
    refine x_il (pc' := 8) rfl rfl rfl ?_
    obtain ⟨q4, h⟩ := h
    refine x_ia (pc' := 9) 5 (v := M 78 p1) rfl rfl rfl q4.1 q4.2 rfl ?_
    refine x_goto (t' := 11) rfl rfl ?_
    exact x_iret rfl h
def at_M_image_9 (d : Nat) (l1 : Int) (M : Mem) (r : Res) : Prop := Ex sx0 d k_M_image 1 9 [(2, 64), (0, l1)] [] M r
def at_M_image_24 (d : Nat) (l1 : Int) (M : Mem) (r : Res) : Prop := Ex sx0 d k_M_image 1 24 [(2, 64), (0, l1)] [] M r
theorem sg_M_image {d : Nat} {M : Mem} {r : Res} (h : at_M_image_9 d 0 (up (up M 64 23 1) 64 25 ((up M 64 23 1) 64 0)) r) : Cl (d + 1) m_M_image [(2, 64)] M r := by
  refine cl_of (c := k_M_image) (mL := 2) (rz := 1) (rc := 7) (ls := [(2, 64), (3, 0)]) rfl rfl rfl ?_
  refine x_al (pc' := 1) rfl rfl (by decide) rfl ?_
  refine x_c (pc' := 2) rfl rfl ?_
  refine x_pz (pc' := 3) (M2 := up M 64 23 1) rfl rfl rfl (by decide) rfl ?_
  refine x_al (pc' := 4) rfl rfl (by decide) rfl ?_
  refine x_al (pc' := 5) rfl rfl (by decide) rfl ?_
  refine x_gf (pc' := 6) (v := (up M 64 23 1) 64 0) rfl rfl rfl rfl rfl ?_
  refine x_pf (pc' := 7) (M2 := up (up M 64 23 1) 64 25 ((up M 64 23 1) 64 0)) rfl rfl rfl rfl ?_
  refine x_c (pc' := 8) rfl rfl ?_
  refine x_is (pc' := 9) (ls' := [(2, 64), (0, 0)]) rfl rfl rfl rfl ?_
  exact h
theorem sg_M_image_9 {d : Nat} {l1 : Int} {M : Mem} {r : Res} (h : (if 12 ≤ l1 then at_M_image_24 d 0 M r else (0 ≤ l1 ∧ l1 < 12) ∧ (0 ≤ l1 ∧ l1 < 12) ∧ at_M_image_9 d (w32 (l1 + 1)) (up M 79 l1 (M 67 l1)) r)) : at_M_image_9 d l1 M r := by
  unfold at_M_image_9
  refine x_il (pc' := 10) rfl rfl rfl ?_
  refine x_c (pc' := 11) rfl rfl ?_
  refine x_icge (pc' := 12) (t' := 22) rfl rfl rfl (fun q1 => ?_) (fun q1 => ?_)
  · replace h := ite_t q1 h
    refine x_c (pc' := 23) rfl rfl ?_
    refine x_is (pc' := 24) (ls' := [(2, 64), (0, 0)]) rfl rfl rfl rfl ?_
    exact h
  · replace h := ite_f q1 h
    refine x_al (pc' := 13) rfl rfl (by decide) rfl ?_
    refine x_gr (pc' := 14) (v := 79) rfl rfl rfl (by decide) rfl ?_
    refine x_il (pc' := 15) rfl rfl rfl ?_
    refine x_al (pc' := 16) rfl rfl (by decide) rfl ?_
    refine x_gr (pc' := 17) (v := 67) rfl rfl rfl (by decide) rfl ?_
    refine x_il (pc' := 18) rfl rfl rfl ?_
    obtain ⟨q2, h⟩ := h
    refine x_ia (pc' := 19) 12 (v := M 67 l1) rfl rfl rfl q2.1 q2.2 rfl ?_
    obtain ⟨q3, h⟩ := h
    refine x_ist (pc' := 20) 12 (M2 := up M 79 l1 (M 67 l1)) rfl rfl rfl q3.1 q3.2 rfl ?_
    refine x_inc (pc' := 21) (ls' := [(2, 64), (0, w32 (l1 + 1))]) rfl rfl rfl rfl ?_
    refine x_goto (t' := 9) rfl rfl ?_
    exact h
theorem sg_M_image_24 {d : Nat} {l1 : Int} {M : Mem} {r : Res} (h : (if 5 ≤ l1 then r = (some (0, M 78 2), M) else (0 ≤ l1 ∧ l1 < 5) ∧ (0 ≤ l1 ∧ l1 < 5) ∧ at_M_image_24 d (w32 (l1 + 1)) (up M 80 l1 (M 78 l1)) r)) : at_M_image_24 d l1 M r := by
  unfold at_M_image_24
  refine x_il (pc' := 25) rfl rfl rfl ?_
  refine x_c (pc' := 26) rfl rfl ?_
  refine x_icge (pc' := 27) (t' := 37) rfl rfl rfl (fun q1 => ?_) (fun q1 => ?_)
  · replace h := ite_t q1 h
    refine x_al (pc' := 38) rfl rfl (by decide) rfl ?_
    refine x_gr (pc' := 39) (v := 78) rfl rfl rfl (by decide) rfl ?_
    refine x_c (pc' := 40) rfl rfl ?_
    refine x_ia (pc' := 41) 5 (v := M 78 2) rfl rfl rfl (by decide) (by decide) rfl ?_
    exact x_iret rfl h
  · replace h := ite_f q1 h
    refine x_al (pc' := 28) rfl rfl (by decide) rfl ?_
    refine x_gr (pc' := 29) (v := 80) rfl rfl rfl (by decide) rfl ?_
    refine x_il (pc' := 30) rfl rfl rfl ?_
    refine x_al (pc' := 31) rfl rfl (by decide) rfl ?_
    refine x_gr (pc' := 32) (v := 78) rfl rfl rfl (by decide) rfl ?_
    refine x_il (pc' := 33) rfl rfl rfl ?_
    obtain ⟨q2, h⟩ := h
    refine x_ia (pc' := 34) 5 (v := M 78 l1) rfl rfl rfl q2.1 q2.2 rfl ?_
    obtain ⟨q3, h⟩ := h
    refine x_ist (pc' := 35) 5 (M2 := up M 80 l1 (M 78 l1)) rfl rfl rfl q3.1 q3.2 rfl ?_
    refine x_inc (pc' := 36) (ls' := [(2, 64), (0, w32 (l1 + 1))]) rfl rfl rfl rfl ?_
    refine x_goto (t' := 24) rfl rfl ?_
    exact h
def at_M_back_7 (d : Nat) (l1 : Int) (M : Mem) (r : Res) : Prop := Ex sx0 d k_M_back 1 7 [(2, 64), (0, l1)] [] M r
def at_M_back_28 (d : Nat) (l1 : Int) (M : Mem) (r : Res) : Prop := Ex sx0 d k_M_back 1 28 [(2, 64), (0, l1)] [] M r
theorem sg_M_back {d : Nat} {M : Mem} {r : Res} (h : (if ¬ M 64 23 = 0 then at_M_back_7 d 0 M r else r = (some (0, (-5)), M))) : Cl (d + 1) m_M_back [(2, 64)] M r := by
  refine cl_of (c := k_M_back) (mL := 2) (rz := 1) (rc := 7) (ls := [(2, 64), (3, 0)]) rfl rfl rfl ?_
  refine x_al (pc' := 1) rfl rfl (by decide) rfl ?_
  refine x_gf (pc' := 2) (v := M 64 23) rfl rfl rfl rfl rfl ?_
  refine x_ifne (pc' := 3) (t' := 5) rfl rfl rfl (fun q1 => ?_) (fun q1 => ?_)
  · replace h := ite_t q1 h
    refine x_c (pc' := 6) rfl rfl ?_
    refine x_is (pc' := 7) (ls' := [(2, 64), (0, 0)]) rfl rfl rfl rfl ?_
    exact h
  · replace h := ite_f q1 h
    refine x_c (pc' := 4) rfl rfl ?_
    exact x_iret rfl h
theorem sg_M_back_7 {d : Nat} {l1 : Int} {M : Mem} {r : Res} (h : (if 12 ≤ l1 then at_M_back_28 d 0 M r else (if M 64 25 ≤ l1 then (0 ≤ l1 ∧ l1 < 12) ∧ at_M_back_7 d (w32 (l1 + 1)) (up M 67 l1 (-2000000000)) r else (0 ≤ l1 ∧ l1 < 12) ∧ (0 ≤ l1 ∧ l1 < 12) ∧ at_M_back_7 d (w32 (l1 + 1)) (up M 67 l1 (M 79 l1)) r))) : at_M_back_7 d l1 M r := by
  unfold at_M_back_7
  refine x_il (pc' := 8) rfl rfl rfl ?_
  refine x_c (pc' := 9) rfl rfl ?_
  refine x_icge (pc' := 10) (t' := 26) rfl rfl rfl (fun q1 => ?_) (fun q1 => ?_)
  · replace h := ite_t q1 h
    refine x_c (pc' := 27) rfl rfl ?_
    refine x_is (pc' := 28) (ls' := [(2, 64), (0, 0)]) rfl rfl rfl rfl ?_
    exact h
  · replace h := ite_f q1 h
    refine x_al (pc' := 11) rfl rfl (by decide) rfl ?_
    refine x_gr (pc' := 12) (v := 67) rfl rfl rfl (by decide) rfl ?_
    refine x_il (pc' := 13) rfl rfl rfl ?_
    refine x_il (pc' := 14) rfl rfl rfl ?_
    refine x_al (pc' := 15) rfl rfl (by decide) rfl ?_
    refine x_gf (pc' := 16) (v := M 64 25) rfl rfl rfl rfl rfl ?_
    refine x_icge (pc' := 17) (t' := 22) rfl rfl rfl (fun q2 => ?_) (fun q2 => ?_)
    · replace h := ite_t q2 h
      refine x_c (pc' := 23) rfl rfl ?_
      obtain ⟨q3, h⟩ := h
      refine x_ist (pc' := 24) 12 (M2 := up M 67 l1 (-2000000000)) rfl rfl rfl q3.1 q3.2 rfl ?_
      refine x_inc (pc' := 25) (ls' := [(2, 64), (0, w32 (l1 + 1))]) rfl rfl rfl rfl ?_
      refine x_goto (t' := 7) rfl rfl ?_
      exact h
    · replace h := ite_f q2 h
      refine x_al (pc' := 18) rfl rfl (by decide) rfl ?_
      refine x_gr (pc' := 19) (v := 79) rfl rfl rfl (by decide) rfl ?_
      refine x_il (pc' := 20) rfl rfl rfl ?_
      obtain ⟨q4, h⟩ := h
      refine x_ia (pc' := 21) 12 (v := M 79 l1) rfl rfl rfl q4.1 q4.2 rfl ?_
      refine x_goto (t' := 23) rfl rfl ?_
      obtain ⟨q5, h⟩ := h
      refine x_ist (pc' := 24) 12 (M2 := up M 67 l1 (M 79 l1)) rfl rfl rfl q5.1 q5.2 rfl ?_
      refine x_inc (pc' := 25) (ls' := [(2, 64), (0, w32 (l1 + 1))]) rfl rfl rfl rfl ?_
      refine x_goto (t' := 7) rfl rfl ?_
      exact h
theorem sg_M_back_28 {d : Nat} {l1 : Int} {M : Mem} {r : Res} (h : (if 5 ≤ l1 then r = (some (0, M 78 2), M) else (0 ≤ l1 ∧ l1 < 5) ∧ (0 ≤ l1 ∧ l1 < 5) ∧ at_M_back_28 d (w32 (l1 + 1)) (up M 78 l1 (M 80 l1)) r)) : at_M_back_28 d l1 M r := by
  unfold at_M_back_28
  refine x_il (pc' := 29) rfl rfl rfl ?_
  refine x_c (pc' := 30) rfl rfl ?_
  refine x_icge (pc' := 31) (t' := 41) rfl rfl rfl (fun q1 => ?_) (fun q1 => ?_)
  · replace h := ite_t q1 h
    refine x_al (pc' := 42) rfl rfl (by decide) rfl ?_
    refine x_gr (pc' := 43) (v := 78) rfl rfl rfl (by decide) rfl ?_
    refine x_c (pc' := 44) rfl rfl ?_
    refine x_ia (pc' := 45) 5 (v := M 78 2) rfl rfl rfl (by decide) (by decide) rfl ?_
    exact x_iret rfl h
  · replace h := ite_f q1 h
    refine x_al (pc' := 32) rfl rfl (by decide) rfl ?_
    refine x_gr (pc' := 33) (v := 78) rfl rfl rfl (by decide) rfl ?_
    refine x_il (pc' := 34) rfl rfl rfl ?_
    refine x_al (pc' := 35) rfl rfl (by decide) rfl ?_
    refine x_gr (pc' := 36) (v := 80) rfl rfl rfl (by decide) rfl ?_
    refine x_il (pc' := 37) rfl rfl rfl ?_
    obtain ⟨q2, h⟩ := h
    refine x_ia (pc' := 38) 5 (v := M 80 l1) rfl rfl rfl q2.1 q2.2 rfl ?_
    obtain ⟨q3, h⟩ := h
    refine x_ist (pc' := 39) 5 (M2 := up M 78 l1 (M 80 l1)) rfl rfl rfl q3.1 q3.2 rfl ?_
    refine x_inc (pc' := 40) (ls' := [(2, 64), (0, w32 (l1 + 1))]) rfl rfl rfl rfl ?_
    refine x_goto (t' := 28) rfl rfl ?_
    exact h
theorem sg_M_above {d : Nat} {p1 : Int} {M : Mem} {r : Res} (h : (if p1 = 3 then r = (some (0, 2), M) else (if p1 = 4 then r = (some (0, 1), M) else (if p1 = 5 then r = (some (0, 3), M) else (if p1 = 6 then r = (some (0, 0), M) else (if p1 = 7 then r = (some (0, 4), M) else r = (some (0, 0), M))))))) : Cl (d + 1) m_M_above [(0, p1)] M r := by
  refine cl_of (c := k_M_above) (mL := 1) (rz := 1) (rc := 99) (ls := [(0, p1)]) rfl rfl rfl ?_
  refine x_il (pc' := 1) rfl rfl rfl ?_
  by_cases q1 : p1 = 3
  · replace h := ite_t q1 h
    refine x_tswv (t' := 2) 3 rfl q1 rfl rfl ?_
    refine x_c (pc' := 3) rfl rfl ?_
    exact x_iret rfl h
  replace h := ite_f q1 h
  by_cases q2 : p1 = 4
  · replace h := ite_t q2 h
    refine x_tswv (t' := 4) 4 rfl q2 rfl rfl ?_
    refine x_c (pc' := 5) rfl rfl ?_
    exact x_iret rfl h
  replace h := ite_f q2 h
  by_cases q3 : p1 = 5
  · replace h := ite_t q3 h
    refine x_tswv (t' := 6) 5 rfl q3 rfl rfl ?_
    refine x_c (pc' := 7) rfl rfl ?_
    exact x_iret rfl h
  replace h := ite_f q3 h
  by_cases q4 : p1 = 6
  · replace h := ite_t q4 h
    refine x_tswv (t' := 10) 6 rfl q4 rfl rfl ?_
    refine x_c (pc' := 11) rfl rfl ?_
    exact x_iret rfl h
  replace h := ite_f q4 h
  by_cases q5 : p1 = 7
  · replace h := ite_t q5 h
    refine x_tswv (t' := 8) 7 rfl q5 rfl rfl ?_
    refine x_c (pc' := 9) rfl rfl ?_
    exact x_iret rfl h
  replace h := ite_f q5 h
  refine x_tswd (t' := 10) rfl (show p1 < 3 ∨ 3 + ((5 : Nat) : Int) ≤ p1 by omega) rfl ?_
  refine x_c (pc' := 11) rfl rfl ?_
  exact x_iret rfl h
theorem sg_M_ran {d : Nat} {p1 : Int} {M : Mem} {r : Res} (h : (if 24 ≤ M 64 32 then r = (none, up M 64 32 (w32 ((M 64 32) + 1))) else (0 ≤ M 64 32 ∧ M 64 32 < 24) ∧ r = (none, up (up M 83 (M 64 32) p1) 64 32 (w32 (((up M 83 (M 64 32) p1) 64 32) + 1))))) : Cl (d + 1) m_M_ran [(2, 64), (0, p1)] M r := by
  refine cl_of (c := k_M_ran) (mL := 2) (rz := 0) (rc := 7) (ls := [(2, 64), (0, p1)]) rfl rfl rfl ?_
  refine x_al (pc' := 1) rfl rfl (by decide) rfl ?_
  refine x_gf (pc' := 2) (v := M 64 32) rfl rfl rfl rfl rfl ?_
  refine x_c (pc' := 3) rfl rfl ?_
  refine x_icge (pc' := 4) (t' := 10) rfl rfl rfl (fun q1 => ?_) (fun q1 => ?_)
  · replace h := ite_t q1 h
    refine x_al (pc' := 11) rfl rfl (by decide) rfl ?_
    refine x_dupa (pc' := 12) rfl rfl ?_
    refine x_gf (pc' := 13) (v := M 64 32) rfl rfl rfl rfl rfl ?_
    refine x_c (pc' := 14) rfl rfl ?_
    refine x_ib (pc' := 15) (v := w32 ((M 64 32) + 1)) rfl rfl rfl ?_
    refine x_pf (pc' := 16) (M2 := up M 64 32 (w32 ((M 64 32) + 1))) rfl rfl rfl rfl ?_
    exact x_ret rfl h
  · replace h := ite_f q1 h
    refine x_al (pc' := 5) rfl rfl (by decide) rfl ?_
    refine x_gr (pc' := 6) (v := 83) rfl rfl rfl (by decide) rfl ?_
    refine x_al (pc' := 7) rfl rfl (by decide) rfl ?_
    refine x_gf (pc' := 8) (v := M 64 32) rfl rfl rfl rfl rfl ?_
    refine x_il (pc' := 9) rfl rfl rfl ?_
    obtain ⟨q2, h⟩ := h
    refine x_ist (pc' := 10) 24 (M2 := up M 83 (M 64 32) p1) rfl rfl rfl q2.1 q2.2 rfl ?_
    refine x_al (pc' := 11) rfl rfl (by decide) rfl ?_
    refine x_dupa (pc' := 12) rfl rfl ?_
    refine x_gf (pc' := 13) (v := (up M 83 (M 64 32) p1) 64 32) rfl rfl rfl rfl rfl ?_
    refine x_c (pc' := 14) rfl rfl ?_
    refine x_ib (pc' := 15) (v := w32 (((up M 83 (M 64 32) p1) 64 32) + 1)) rfl rfl rfl ?_
    refine x_pf (pc' := 16) (M2 := up (up M 83 (M 64 32) p1) 64 32 (w32 (((up M 83 (M 64 32) p1) 64 32) + 1))) rfl rfl rfl rfl ?_
    exact x_ret rfl h
theorem sg_M_inks {d : Nat} {p1 p2 p3 : Int} {M : Mem} {r : Res} (h : (if p2 = 0 then ∃ M3, Cl d m_M_ran [(2, 64), (0, 1)] M (none, M3) ∧ r = (some (0, w32 (p3 + p1)), M3) else (if p2 = 1 then ∃ M6, Cl d m_M_ran [(2, 64), (0, 20)] M (none, M6) ∧ ∃ v8 M9, Cl d m_M_inks [(2, 64), (0, p1), (0, 0), (0, p3)] M6 (some (0, v8), M9) ∧ r = (some (0, w32 (v8 + 3)), M9) else (if p2 = 6 then ∃ M12, Cl d m_M_ran [(2, 64), (0, 70)] M (none, M12) ∧ ∃ v14 M15, Cl d m_M_inks [(2, 64), (0, p1), (0, 0), (0, p3)] M12 (some (0, v14), M15) ∧ r = (some (0, w32 (v14 * 2)), M15) else ∃ v17, Cl d m_M_above [(0, p2)] M (some (0, v17), M) ∧ ∃ v19 M20, Cl d m_M_inks [(2, 64), (0, p1), (0, v17), (0, p3)] M (some (0, v19), M20) ∧ r = (some (0, v19), M20))))) : Cl (d + 1) m_M_inks [(2, 64), (0, p1), (0, p2), (0, p3)] M r := by
  refine cl_of (c := k_M_inks) (mL := 4) (rz := 1) (rc := 7) (ls := [(2, 64), (0, p1), (0, p2), (0, p3)]) rfl rfl rfl ?_
  refine x_il (pc' := 1) rfl rfl rfl ?_
  by_cases q1 : p2 = 0
  · replace h := ite_t q1 h
    refine x_lsw (t' := 2) rfl (by rw [q1]; rfl) ?_
    refine x_al (pc' := 3) rfl rfl (by decide) rfl ?_
    refine x_c (pc' := 4) rfl rfl ?_
    obtain ⟨M3, q2, h⟩ := h
    refine x_callv (pc' := 5) (as := [(2, 64), (0, 1)]) (rest := []) rfl rfl rfl rfl rfl rfl q2 ?_
    refine x_il (pc' := 6) rfl rfl rfl ?_
    refine x_il (pc' := 7) rfl rfl rfl ?_
    refine x_ib (pc' := 8) (v := w32 (p3 + p1)) rfl rfl rfl ?_
    exact x_iret rfl h
  replace h := ite_f q1 h
  by_cases q4 : p2 = 1
  · replace h := ite_t q4 h
    refine x_lsw (t' := 9) rfl (by rw [q4]; rfl) ?_
    refine x_al (pc' := 10) rfl rfl (by decide) rfl ?_
    refine x_c (pc' := 11) rfl rfl ?_
    obtain ⟨M6, q5, h⟩ := h
    refine x_callv (pc' := 12) (as := [(2, 64), (0, 20)]) (rest := []) rfl rfl rfl rfl rfl rfl q5 ?_
    refine x_al (pc' := 13) rfl rfl (by decide) rfl ?_
    refine x_il (pc' := 14) rfl rfl rfl ?_
    refine x_c (pc' := 15) rfl rfl ?_
    refine x_il (pc' := 16) rfl rfl rfl ?_
    obtain ⟨v8, M9, q7, h⟩ := h
    refine x_call (pc' := 17) (as := [(2, 64), (0, p1), (0, 0), (0, p3)]) (rest := []) rfl rfl rfl rfl rfl rfl q7 ?_
    refine x_c (pc' := 18) rfl rfl ?_
    refine x_ib (pc' := 19) (v := w32 (v8 + 3)) rfl rfl rfl ?_
    exact x_iret rfl h
  replace h := ite_f q4 h
  by_cases q10 : p2 = 6
  · replace h := ite_t q10 h
    refine x_lsw (t' := 20) rfl (by rw [q10]; rfl) ?_
    refine x_al (pc' := 21) rfl rfl (by decide) rfl ?_
    refine x_c (pc' := 22) rfl rfl ?_
    obtain ⟨M12, q11, h⟩ := h
    refine x_callv (pc' := 23) (as := [(2, 64), (0, 70)]) (rest := []) rfl rfl rfl rfl rfl rfl q11 ?_
    refine x_al (pc' := 24) rfl rfl (by decide) rfl ?_
    refine x_il (pc' := 25) rfl rfl rfl ?_
    refine x_c (pc' := 26) rfl rfl ?_
    refine x_il (pc' := 27) rfl rfl rfl ?_
    obtain ⟨v14, M15, q13, h⟩ := h
    refine x_call (pc' := 28) (as := [(2, 64), (0, p1), (0, 0), (0, p3)]) (rest := []) rfl rfl rfl rfl rfl rfl q13 ?_
    refine x_c (pc' := 29) rfl rfl ?_
    refine x_ib (pc' := 30) (v := w32 (v14 * 2)) rfl rfl rfl ?_
    exact x_iret rfl h
  replace h := ite_f q10 h
  refine x_lsw (t' := 31) rfl (by simp only [lswT, q1, q4, q10, if_false]; rfl) ?_
  refine x_al (pc' := 32) rfl rfl (by decide) rfl ?_
  refine x_il (pc' := 33) rfl rfl rfl ?_
  refine x_il (pc' := 34) rfl rfl rfl ?_
  obtain ⟨v17, q16, h⟩ := h
  refine x_call (pc' := 35) (as := [(0, p2)]) (rest := [(0, p1), (2, 64)]) rfl rfl rfl rfl rfl rfl q16 ?_
  refine x_il (pc' := 36) rfl rfl rfl ?_
  obtain ⟨v19, M20, q18, h⟩ := h
  refine x_call (pc' := 37) (as := [(2, 64), (0, p1), (0, v17), (0, p3)]) (rest := []) rfl rfl rfl rfl rfl rfl q18 ?_
  exact x_iret rfl h
theorem sg_M_counts {d : Nat} {p1 p2 p3 : Int} {M : Mem} {r : Res} (h : (if p2 = 0 then ∃ M3, Cl d m_M_ran [(2, 64), (0, 10)] M (none, M3) ∧ (0 ≤ p1 ∧ p1 < 50) ∧ ∃ v6 M7, Cl d m_M_inks [(2, 64), (0, p1), (0, M3 82 p1), (0, p3)] M3 (some (0, v6), M7) ∧ r = (some (0, w32 (v6 * 2)), M7) else (if p2 = 1 then ∃ v10, Cl d m_M_above [(0, p2)] M (some (0, v10), M) ∧ ∃ v12 M13, Cl d m_M_counts [(2, 64), (0, p1), (0, v10), (0, p3)] M (some (0, v12), M13) ∧ r = (some (0, v12), M13) else (if p2 = 2 then ∃ M16, Cl d m_M_ran [(2, 64), (0, 30)] M (none, M16) ∧ ∃ v18 M19, Cl d m_M_counts [(2, 64), (0, p1), (0, 0), (0, p3)] M16 (some (0, v18), M19) ∧ r = (some (0, w32 (-v18)), M19) else (if p2 = 3 then ∃ M22, Cl d m_M_ran [(2, 64), (0, 41)] M (none, M22) ∧ ∃ v24 M25, Cl d m_M_counts [(2, 64), (0, p1), (0, 2), (0, w32 (p3 + 1))] M22 (some (0, v24), M25) ∧ r = (some (0, v24), M25) else (if p2 = 4 then ∃ v28, Cl d m_M_above [(0, p2)] M (some (0, v28), M) ∧ ∃ v30 M31, Cl d m_M_counts [(2, 64), (0, p1), (0, v28), (0, p3)] M (some (0, v30), M31) ∧ r = (some (0, v30), M31) else (if p2 = 5 then ∃ v34, Cl d m_M_above [(0, p2)] M (some (0, v34), M) ∧ ∃ v36 M37, Cl d m_M_counts [(2, 64), (0, p1), (0, v34), (0, p3)] M (some (0, v36), M37) ∧ r = (some (0, v36), M37) else (if p2 = 6 then ∃ v40, Cl d m_M_above [(0, p2)] M (some (0, v40), M) ∧ ∃ v42 M43, Cl d m_M_counts [(2, 64), (0, p1), (0, v40), (0, p3)] M (some (0, v42), M43) ∧ r = (some (0, v42), M43) else (if p2 = 7 then ∃ M46, Cl d m_M_ran [(2, 64), (0, 80)] M (none, M46) ∧ ∃ v48 M49, Cl d m_M_counts [(2, 64), (0, p1), (0, 4), (0, p3)] M46 (some (0, v48), M49) ∧ (0 ≤ p1 ∧ p1 < 50) ∧ ∃ v52 M53, Cl d m_M_files [(2, 64), (0, p1), (0, M49 82 p1), (0, 2)] M49 (some (0, v52), M53) ∧ r = (some (0, w32 (v48 + v52)), M53) else ∃ v55, Cl d m_M_above [(0, p2)] M (some (0, v55), M) ∧ ∃ v57 M58, Cl d m_M_counts [(2, 64), (0, p1), (0, v55), (0, p3)] M (some (0, v57), M58) ∧ r = (some (0, v57), M58)))))))))) : Cl (d + 1) m_M_counts [(2, 64), (0, p1), (0, p2), (0, p3)] M r := by
  refine cl_of (c := k_M_counts) (mL := 5) (rz := 1) (rc := 7) (ls := [(2, 64), (0, p1), (0, p2), (0, p3), (3, 0)]) rfl rfl rfl ?_
  refine x_il (pc' := 1) rfl rfl rfl ?_
  by_cases q1 : p2 = 0
  · replace h := ite_t q1 h
    refine x_tswv (t' := 2) 0 rfl q1 rfl rfl ?_
    refine x_al (pc' := 3) rfl rfl (by decide) rfl ?_
    refine x_c (pc' := 4) rfl rfl ?_
    obtain ⟨M3, q2, h⟩ := h
    refine x_callv (pc' := 5) (as := [(2, 64), (0, 10)]) (rest := []) rfl rfl rfl rfl rfl rfl q2 ?_
    refine x_al (pc' := 6) rfl rfl (by decide) rfl ?_
    refine x_il (pc' := 7) rfl rfl rfl ?_
    refine x_al (pc' := 8) rfl rfl (by decide) rfl ?_
    refine x_gr (pc' := 9) (v := 82) rfl rfl rfl (by decide) rfl ?_
    refine x_il (pc' := 10) rfl rfl rfl ?_
    obtain ⟨q4, h⟩ := h
    refine x_ia (pc' := 11) 50 (v := M3 82 p1) rfl rfl rfl q4.1 q4.2 rfl ?_
    refine x_il (pc' := 12) rfl rfl rfl ?_
    obtain ⟨v6, M7, q5, h⟩ := h
    refine x_call (pc' := 13) (as := [(2, 64), (0, p1), (0, M3 82 p1), (0, p3)]) (rest := []) rfl rfl rfl rfl rfl rfl q5 ?_
    refine x_c (pc' := 14) rfl rfl ?_
    refine x_ib (pc' := 15) (v := w32 (v6 * 2)) rfl rfl rfl ?_
    exact x_iret rfl h
  replace h := ite_f q1 h
  by_cases q8 : p2 = 1
  · replace h := ite_t q8 h
    refine x_tswv (t' := 57) 1 rfl q8 rfl rfl ?_
    refine x_al (pc' := 58) rfl rfl (by decide) rfl ?_
    refine x_il (pc' := 59) rfl rfl rfl ?_
    refine x_il (pc' := 60) rfl rfl rfl ?_
    obtain ⟨v10, q9, h⟩ := h
    refine x_call (pc' := 61) (as := [(0, p2)]) (rest := [(0, p1), (2, 64)]) rfl rfl rfl rfl rfl rfl q9 ?_
    refine x_il (pc' := 62) rfl rfl rfl ?_
    obtain ⟨v12, M13, q11, h⟩ := h
    refine x_call (pc' := 63) (as := [(2, 64), (0, p1), (0, v10), (0, p3)]) (rest := []) rfl rfl rfl rfl rfl rfl q11 ?_
    exact x_iret rfl h
  replace h := ite_f q8 h
  by_cases q14 : p2 = 2
  · replace h := ite_t q14 h
    refine x_tswv (t' := 16) 2 rfl q14 rfl rfl ?_
    refine x_al (pc' := 17) rfl rfl (by decide) rfl ?_
    refine x_c (pc' := 18) rfl rfl ?_
    obtain ⟨M16, q15, h⟩ := h
    refine x_callv (pc' := 19) (as := [(2, 64), (0, 30)]) (rest := []) rfl rfl rfl rfl rfl rfl q15 ?_
    refine x_al (pc' := 20) rfl rfl (by decide) rfl ?_
    refine x_il (pc' := 21) rfl rfl rfl ?_
    refine x_c (pc' := 22) rfl rfl ?_
    refine x_il (pc' := 23) rfl rfl rfl ?_
    obtain ⟨v18, M19, q17, h⟩ := h
    refine x_call (pc' := 24) (as := [(2, 64), (0, p1), (0, 0), (0, p3)]) (rest := []) rfl rfl rfl rfl rfl rfl q17 ?_
    refine x_neg (pc' := 25) rfl rfl ?_
    exact x_iret rfl h
  replace h := ite_f q14 h
  by_cases q20 : p2 = 3
  · replace h := ite_t q20 h
    refine x_tswv (t' := 26) 3 rfl q20 rfl rfl ?_
    refine x_al (pc' := 27) rfl rfl (by decide) rfl ?_
    refine x_c (pc' := 28) rfl rfl ?_
    obtain ⟨M22, q21, h⟩ := h
    refine x_callv (pc' := 29) (as := [(2, 64), (0, 41)]) (rest := []) rfl rfl rfl rfl rfl rfl q21 ?_
    refine x_al (pc' := 30) rfl rfl (by decide) rfl ?_
    refine x_il (pc' := 31) rfl rfl rfl ?_
    refine x_c (pc' := 32) rfl rfl ?_
    refine x_il (pc' := 33) rfl rfl rfl ?_
    refine x_c (pc' := 34) rfl rfl ?_
    refine x_ib (pc' := 35) (v := w32 (p3 + 1)) rfl rfl rfl ?_
    obtain ⟨v24, M25, q23, h⟩ := h
    refine x_call (pc' := 36) (as := [(2, 64), (0, p1), (0, 2), (0, w32 (p3 + 1))]) (rest := []) rfl rfl rfl rfl rfl rfl q23 ?_
    exact x_iret rfl h
  replace h := ite_f q20 h
  by_cases q26 : p2 = 4
  · replace h := ite_t q26 h
    refine x_tswv (t' := 57) 4 rfl q26 rfl rfl ?_
    refine x_al (pc' := 58) rfl rfl (by decide) rfl ?_
    refine x_il (pc' := 59) rfl rfl rfl ?_
    refine x_il (pc' := 60) rfl rfl rfl ?_
    obtain ⟨v28, q27, h⟩ := h
    refine x_call (pc' := 61) (as := [(0, p2)]) (rest := [(0, p1), (2, 64)]) rfl rfl rfl rfl rfl rfl q27 ?_
    refine x_il (pc' := 62) rfl rfl rfl ?_
    obtain ⟨v30, M31, q29, h⟩ := h
    refine x_call (pc' := 63) (as := [(2, 64), (0, p1), (0, v28), (0, p3)]) (rest := []) rfl rfl rfl rfl rfl rfl q29 ?_
    exact x_iret rfl h
  replace h := ite_f q26 h
  by_cases q32 : p2 = 5
  · replace h := ite_t q32 h
    refine x_tswv (t' := 57) 5 rfl q32 rfl rfl ?_
    refine x_al (pc' := 58) rfl rfl (by decide) rfl ?_
    refine x_il (pc' := 59) rfl rfl rfl ?_
    refine x_il (pc' := 60) rfl rfl rfl ?_
    obtain ⟨v34, q33, h⟩ := h
    refine x_call (pc' := 61) (as := [(0, p2)]) (rest := [(0, p1), (2, 64)]) rfl rfl rfl rfl rfl rfl q33 ?_
    refine x_il (pc' := 62) rfl rfl rfl ?_
    obtain ⟨v36, M37, q35, h⟩ := h
    refine x_call (pc' := 63) (as := [(2, 64), (0, p1), (0, v34), (0, p3)]) (rest := []) rfl rfl rfl rfl rfl rfl q35 ?_
    exact x_iret rfl h
  replace h := ite_f q32 h
  by_cases q38 : p2 = 6
  · replace h := ite_t q38 h
    refine x_tswv (t' := 57) 6 rfl q38 rfl rfl ?_
    refine x_al (pc' := 58) rfl rfl (by decide) rfl ?_
    refine x_il (pc' := 59) rfl rfl rfl ?_
    refine x_il (pc' := 60) rfl rfl rfl ?_
    obtain ⟨v40, q39, h⟩ := h
    refine x_call (pc' := 61) (as := [(0, p2)]) (rest := [(0, p1), (2, 64)]) rfl rfl rfl rfl rfl rfl q39 ?_
    refine x_il (pc' := 62) rfl rfl rfl ?_
    obtain ⟨v42, M43, q41, h⟩ := h
    refine x_call (pc' := 63) (as := [(2, 64), (0, p1), (0, v40), (0, p3)]) (rest := []) rfl rfl rfl rfl rfl rfl q41 ?_
    exact x_iret rfl h
  replace h := ite_f q38 h
  by_cases q44 : p2 = 7
  · replace h := ite_t q44 h
    refine x_tswv (t' := 37) 7 rfl q44 rfl rfl ?_
    refine x_al (pc' := 38) rfl rfl (by decide) rfl ?_
    refine x_c (pc' := 39) rfl rfl ?_
    obtain ⟨M46, q45, h⟩ := h
    refine x_callv (pc' := 40) (as := [(2, 64), (0, 80)]) (rest := []) rfl rfl rfl rfl rfl rfl q45 ?_
    refine x_al (pc' := 41) rfl rfl (by decide) rfl ?_
    refine x_il (pc' := 42) rfl rfl rfl ?_
    refine x_c (pc' := 43) rfl rfl ?_
    refine x_il (pc' := 44) rfl rfl rfl ?_
    obtain ⟨v48, M49, q47, h⟩ := h
    refine x_call (pc' := 45) (as := [(2, 64), (0, p1), (0, 4), (0, p3)]) (rest := []) rfl rfl rfl rfl rfl rfl q47 ?_
    refine x_is (pc' := 46) (ls' := [(2, 64), (0, p1), (0, p2), (0, p3), (0, v48)]) rfl rfl rfl rfl ?_
    refine x_il (pc' := 47) rfl rfl rfl ?_
    refine x_al (pc' := 48) rfl rfl (by decide) rfl ?_
    refine x_il (pc' := 49) rfl rfl rfl ?_
    refine x_al (pc' := 50) rfl rfl (by decide) rfl ?_
    refine x_gr (pc' := 51) (v := 82) rfl rfl rfl (by decide) rfl ?_
    refine x_il (pc' := 52) rfl rfl rfl ?_
    obtain ⟨q50, h⟩ := h
    refine x_ia (pc' := 53) 50 (v := M49 82 p1) rfl rfl rfl q50.1 q50.2 rfl ?_
    refine x_c (pc' := 54) rfl rfl ?_
    obtain ⟨v52, M53, q51, h⟩ := h
    refine x_call (pc' := 55) (as := [(2, 64), (0, p1), (0, M49 82 p1), (0, 2)]) (rest := [(0, v48)]) rfl rfl rfl rfl rfl rfl q51 ?_
    refine x_ib (pc' := 56) (v := w32 (v48 + v52)) rfl rfl rfl ?_
    exact x_iret rfl h
  replace h := ite_f q44 h
  refine x_tswd (t' := 57) rfl (show p2 < 0 ∨ 0 + ((8 : Nat) : Int) ≤ p2 by omega) rfl ?_
  refine x_al (pc' := 58) rfl rfl (by decide) rfl ?_
  refine x_il (pc' := 59) rfl rfl rfl ?_
  refine x_il (pc' := 60) rfl rfl rfl ?_
  obtain ⟨v55, q54, h⟩ := h
  refine x_call (pc' := 61) (as := [(0, p2)]) (rest := [(0, p1), (2, 64)]) rfl rfl rfl rfl rfl rfl q54 ?_
  refine x_il (pc' := 62) rfl rfl rfl ?_
  obtain ⟨v57, M58, q56, h⟩ := h
  refine x_call (pc' := 63) (as := [(2, 64), (0, p1), (0, v55), (0, p3)]) (rest := []) rfl rfl rfl rfl rfl rfl q56 ?_
  exact x_iret rfl h
theorem sg_M_files {d : Nat} {p1 p2 p3 : Int} {M : Mem} {r : Res} (h : (if p2 = 0 then ∃ M3, Cl d m_M_ran [(2, 64), (0, 11)] M (none, M3) ∧ r = (some (0, ixor p3 p1), M3) else (if p2 = 1 then ∃ v6, Cl d m_M_above [(0, p2)] M (some (0, v6), M) ∧ ∃ v8 M9, Cl d m_M_files [(2, 64), (0, p1), (0, v6), (0, p3)] M (some (0, v8), M9) ∧ r = (some (0, v8), M9) else (if p2 = 2 then ∃ v12, Cl d m_M_above [(0, p2)] M (some (0, v12), M) ∧ ∃ v14 M15, Cl d m_M_files [(2, 64), (0, p1), (0, v12), (0, p3)] M (some (0, v14), M15) ∧ r = (some (0, v14), M15) else (if p2 = 3 then ∃ M18, Cl d m_M_ran [(2, 64), (0, 40)] M (none, M18) ∧ ∃ v20 M21, Cl d m_M_files [(2, 64), (0, p1), (0, 2), (0, p3)] M18 (some (0, v20), M21) ∧ r = (some (0, w32 (v20 * 3)), M21) else (if p2 = 4 then ∃ M24, Cl d m_M_ran [(2, 64), (0, 50)] M (none, M24) ∧ ∃ v26 M27, Cl d m_M_files [(2, 64), (0, p1), (0, 1), (0, p3)] M24 (some (0, v26), M27) ∧ (0 ≤ p1 ∧ p1 < 50) ∧ ∃ v30 M31, Cl d m_M_inks [(2, 64), (0, p1), (0, M27 82 p1), (0, 2)] M27 (some (0, v30), M31) ∧ r = (some (0, w32 (v26 - v30)), M31) else ∃ v33, Cl d m_M_above [(0, p2)] M (some (0, v33), M) ∧ ∃ v35 M36, Cl d m_M_files [(2, 64), (0, p1), (0, v33), (0, p3)] M (some (0, v35), M36) ∧ r = (some (0, v35), M36))))))) : Cl (d + 1) m_M_files [(2, 64), (0, p1), (0, p2), (0, p3)] M r := by
  refine cl_of (c := k_M_files) (mL := 5) (rz := 1) (rc := 7) (ls := [(2, 64), (0, p1), (0, p2), (0, p3), (3, 0)]) rfl rfl rfl ?_
  refine x_il (pc' := 1) rfl rfl rfl ?_
  by_cases q1 : p2 = 0
  · replace h := ite_t q1 h
    refine x_tswv (t' := 2) 0 rfl q1 rfl rfl ?_
    refine x_al (pc' := 3) rfl rfl (by decide) rfl ?_
    refine x_c (pc' := 4) rfl rfl ?_
    obtain ⟨M3, q2, h⟩ := h
    refine x_callv (pc' := 5) (as := [(2, 64), (0, 11)]) (rest := []) rfl rfl rfl rfl rfl rfl q2 ?_
    refine x_il (pc' := 6) rfl rfl rfl ?_
    refine x_il (pc' := 7) rfl rfl rfl ?_
    refine x_ib (pc' := 8) (v := ixor p3 p1) rfl rfl rfl ?_
    exact x_iret rfl h
  replace h := ite_f q1 h
  by_cases q4 : p2 = 1
  · replace h := ite_t q4 h
    refine x_tswv (t' := 40) 1 rfl q4 rfl rfl ?_
    refine x_al (pc' := 41) rfl rfl (by decide) rfl ?_
    refine x_il (pc' := 42) rfl rfl rfl ?_
    refine x_il (pc' := 43) rfl rfl rfl ?_
    obtain ⟨v6, q5, h⟩ := h
    refine x_call (pc' := 44) (as := [(0, p2)]) (rest := [(0, p1), (2, 64)]) rfl rfl rfl rfl rfl rfl q5 ?_
    refine x_il (pc' := 45) rfl rfl rfl ?_
    obtain ⟨v8, M9, q7, h⟩ := h
    refine x_call (pc' := 46) (as := [(2, 64), (0, p1), (0, v6), (0, p3)]) (rest := []) rfl rfl rfl rfl rfl rfl q7 ?_
    exact x_iret rfl h
  replace h := ite_f q4 h
  by_cases q10 : p2 = 2
  · replace h := ite_t q10 h
    refine x_tswv (t' := 40) 2 rfl q10 rfl rfl ?_
    refine x_al (pc' := 41) rfl rfl (by decide) rfl ?_
    refine x_il (pc' := 42) rfl rfl rfl ?_
    refine x_il (pc' := 43) rfl rfl rfl ?_
    obtain ⟨v12, q11, h⟩ := h
    refine x_call (pc' := 44) (as := [(0, p2)]) (rest := [(0, p1), (2, 64)]) rfl rfl rfl rfl rfl rfl q11 ?_
    refine x_il (pc' := 45) rfl rfl rfl ?_
    obtain ⟨v14, M15, q13, h⟩ := h
    refine x_call (pc' := 46) (as := [(2, 64), (0, p1), (0, v12), (0, p3)]) (rest := []) rfl rfl rfl rfl rfl rfl q13 ?_
    exact x_iret rfl h
  replace h := ite_f q10 h
  by_cases q16 : p2 = 3
  · replace h := ite_t q16 h
    refine x_tswv (t' := 9) 3 rfl q16 rfl rfl ?_
    refine x_al (pc' := 10) rfl rfl (by decide) rfl ?_
    refine x_c (pc' := 11) rfl rfl ?_
    obtain ⟨M18, q17, h⟩ := h
    refine x_callv (pc' := 12) (as := [(2, 64), (0, 40)]) (rest := []) rfl rfl rfl rfl rfl rfl q17 ?_
    refine x_al (pc' := 13) rfl rfl (by decide) rfl ?_
    refine x_il (pc' := 14) rfl rfl rfl ?_
    refine x_c (pc' := 15) rfl rfl ?_
    refine x_il (pc' := 16) rfl rfl rfl ?_
    obtain ⟨v20, M21, q19, h⟩ := h
    refine x_call (pc' := 17) (as := [(2, 64), (0, p1), (0, 2), (0, p3)]) (rest := []) rfl rfl rfl rfl rfl rfl q19 ?_
    refine x_c (pc' := 18) rfl rfl ?_
    refine x_ib (pc' := 19) (v := w32 (v20 * 3)) rfl rfl rfl ?_
    exact x_iret rfl h
  replace h := ite_f q16 h
  by_cases q22 : p2 = 4
  · replace h := ite_t q22 h
    refine x_tswv (t' := 20) 4 rfl q22 rfl rfl ?_
    refine x_al (pc' := 21) rfl rfl (by decide) rfl ?_
    refine x_c (pc' := 22) rfl rfl ?_
    obtain ⟨M24, q23, h⟩ := h
    refine x_callv (pc' := 23) (as := [(2, 64), (0, 50)]) (rest := []) rfl rfl rfl rfl rfl rfl q23 ?_
    refine x_al (pc' := 24) rfl rfl (by decide) rfl ?_
    refine x_il (pc' := 25) rfl rfl rfl ?_
    refine x_c (pc' := 26) rfl rfl ?_
    refine x_il (pc' := 27) rfl rfl rfl ?_
    obtain ⟨v26, M27, q25, h⟩ := h
    refine x_call (pc' := 28) (as := [(2, 64), (0, p1), (0, 1), (0, p3)]) (rest := []) rfl rfl rfl rfl rfl rfl q25 ?_
    refine x_is (pc' := 29) (ls' := [(2, 64), (0, p1), (0, p2), (0, p3), (0, v26)]) rfl rfl rfl rfl ?_
    refine x_il (pc' := 30) rfl rfl rfl ?_
    refine x_al (pc' := 31) rfl rfl (by decide) rfl ?_
    refine x_il (pc' := 32) rfl rfl rfl ?_
    refine x_al (pc' := 33) rfl rfl (by decide) rfl ?_
    refine x_gr (pc' := 34) (v := 82) rfl rfl rfl (by decide) rfl ?_
    refine x_il (pc' := 35) rfl rfl rfl ?_
    obtain ⟨q28, h⟩ := h
    refine x_ia (pc' := 36) 50 (v := M27 82 p1) rfl rfl rfl q28.1 q28.2 rfl ?_
    refine x_c (pc' := 37) rfl rfl ?_
    obtain ⟨v30, M31, q29, h⟩ := h
    refine x_call (pc' := 38) (as := [(2, 64), (0, p1), (0, M27 82 p1), (0, 2)]) (rest := [(0, v26)]) rfl rfl rfl rfl rfl rfl q29 ?_
    refine x_ib (pc' := 39) (v := w32 (v26 - v30)) rfl rfl rfl ?_
    exact x_iret rfl h
  replace h := ite_f q22 h
  refine x_tswd (t' := 40) rfl (show p2 < 0 ∨ 0 + ((5 : Nat) : Int) ≤ p2 by omega) rfl ?_
  refine x_al (pc' := 41) rfl rfl (by decide) rfl ?_
  refine x_il (pc' := 42) rfl rfl rfl ?_
  refine x_il (pc' := 43) rfl rfl rfl ?_
  obtain ⟨v33, q32, h⟩ := h
  refine x_call (pc' := 44) (as := [(0, p2)]) (rest := [(0, p1), (2, 64)]) rfl rfl rfl rfl rfl rfl q32 ?_
  refine x_il (pc' := 45) rfl rfl rfl ?_
  obtain ⟨v35, M36, q34, h⟩ := h
  refine x_call (pc' := 46) (as := [(2, 64), (0, p1), (0, v33), (0, p3)]) (rest := []) rfl rfl rfl rfl rfl rfl q34 ?_
  exact x_iret rfl h
