/-! what each method owes, point by point (by program) -/
theorem sg_X_card {d : Nat} {M : Mem} {r : Res} (h : (if M 1 5 < 12 then ∃ v3 M4, Cl d m_C_addPlain [(2, 1)] M (some (0, v3), M4) ∧ r = (some (0, v3), M4) else r = (some (0, (-3)), M))) : Cl (d + 1) m_X_card [(2, 0)] M r := by
  refine cl_of (c := k_X_card) (mL := 1) (rz := 1) (rc := 0) (ls := [(2, 0)]) rfl rfl rfl ?_
  refine x_al (pc' := 1) rfl rfl (by decide) rfl ?_
  refine x_gr (pc' := 2) (v := 1) rfl rfl rfl (by decide) rfl ?_
  refine x_gf (pc' := 3) (v := M 1 5) rfl rfl rfl rfl rfl ?_
  refine x_c (pc' := 4) rfl rfl ?_
  refine x_iclt (pc' := 5) (t' := 7) rfl rfl rfl (fun q1 => ?_) (fun q1 => ?_)
  · replace h := ite_t q1 h
    refine x_al (pc' := 8) rfl rfl (by decide) rfl ?_
    refine x_gr (pc' := 9) (v := 1) rfl rfl rfl (by decide) rfl ?_
    obtain ⟨v3, M4, q2, h⟩ := h
    refine x_call (pc' := 10) (as := [(2, 1)]) (rest := []) rfl rfl rfl rfl rfl rfl q2 ?_
    exact x_iret rfl h
  · replace h := ite_f q1 h
    refine x_c (pc' := 6) rfl rfl ?_
    exact x_iret rfl h
def at_X_cards_30 (d : Nat) (l1 : Int) (l2 : Int) (l3 : Int) (w4 : AV) (l5 : Int) (M : Mem) (r : Res) : Prop := Ex sx0 d k_X_cards 1 30 [(2, 0), (0, l1), (0, l2), (0, l3), w4, (0, l5)] [] M r
theorem sg_X_cards {d : Nat} {p1 p2 p3 : Int} {M : Mem} {r : Res} (h : ∃ v2, Cl d m_S_has [(2, 49), (0, p1)] M (some (0, v2), M) ∧ (if v2 = 0 then r = (some (0, (-1)), M) else (if p3 < 1 then r = (some (0, (-1)), M) else (if p3 ≤ 3 then ∃ v7, Cl d m_S_rowRefusal [(2, 49), (0, p1), (0, 0)] M (some (0, v7), M) ∧ (if ¬ v7 = (-11) then (if v7 = 0 then at_X_cards_30 d p1 p2 p3 (0, v7) 0 M r else r = (some (0, v7), M)) else r = (some (0, 0), M)) else r = (some (0, (-1)), M))))) : Cl (d + 1) m_X_cards [(2, 0), (0, p1), (0, p2), (0, p3)] M r := by
  refine cl_of (c := k_X_cards) (mL := 6) (rz := 1) (rc := 0) (ls := [(2, 0), (0, p1), (0, p2), (0, p3), (3, 0), (3, 0)]) rfl rfl rfl ?_
  refine x_al (pc' := 1) rfl rfl (by decide) rfl ?_
  refine x_gr (pc' := 2) (v := 49) rfl rfl rfl (by decide) rfl ?_
  refine x_il (pc' := 3) rfl rfl rfl ?_
  obtain ⟨v2, q1, h⟩ := h
  refine x_call (pc' := 4) (as := [(2, 49), (0, p1)]) (rest := []) rfl rfl rfl rfl rfl rfl q1 ?_
  refine x_ifeq (pc' := 5) (t' := 11) rfl rfl rfl (fun q3 => ?_) (fun q3 => ?_)
  · replace h := ite_t q3 h
    refine x_c (pc' := 12) rfl rfl ?_
    exact x_iret rfl h
  · replace h := ite_f q3 h
    refine x_il (pc' := 6) rfl rfl rfl ?_
    refine x_c (pc' := 7) rfl rfl ?_
    refine x_iclt (pc' := 8) (t' := 11) rfl rfl rfl (fun q4 => ?_) (fun q4 => ?_)
    · replace h := ite_t q4 h
      refine x_c (pc' := 12) rfl rfl ?_
      exact x_iret rfl h
    · replace h := ite_f q4 h
      refine x_il (pc' := 9) rfl rfl rfl ?_
      refine x_c (pc' := 10) rfl rfl ?_
      refine x_icle (pc' := 11) (t' := 13) rfl rfl rfl (fun q5 => ?_) (fun q5 => ?_)
      · replace h := ite_t q5 h
        refine x_al (pc' := 14) rfl rfl (by decide) rfl ?_
        refine x_gr (pc' := 15) (v := 49) rfl rfl rfl (by decide) rfl ?_
        refine x_il (pc' := 16) rfl rfl rfl ?_
        refine x_c (pc' := 17) rfl rfl ?_
        obtain ⟨v7, q6, h⟩ := h
        refine x_call (pc' := 18) (as := [(2, 49), (0, p1), (0, 0)]) (rest := []) rfl rfl rfl rfl rfl rfl q6 ?_
        refine x_is (pc' := 19) (ls' := [(2, 0), (0, p1), (0, p2), (0, p3), (0, v7), (3, 0)]) rfl rfl rfl rfl ?_
        refine x_il (pc' := 20) rfl rfl rfl ?_
        refine x_c (pc' := 21) rfl rfl ?_
        refine x_icne (pc' := 22) (t' := 24) rfl rfl rfl (fun q8 => ?_) (fun q8 => ?_)
        · replace h := ite_t q8 h
          refine x_il (pc' := 25) rfl rfl rfl ?_
          refine x_ifeq (pc' := 26) (t' := 28) rfl rfl rfl (fun q9 => ?_) (fun q9 => ?_)
          · replace h := ite_t q9 h
            refine x_c (pc' := 29) rfl rfl ?_
            refine x_is (pc' := 30) (ls' := [(2, 0), (0, p1), (0, p2), (0, p3), (0, v7), (0, 0)]) rfl rfl rfl rfl ?_
            exact h
          · replace h := ite_f q9 h
            refine x_il (pc' := 27) rfl rfl rfl ?_
            exact x_iret rfl h
        · replace h := ite_f q8 h
          refine x_c (pc' := 23) rfl rfl ?_
          exact x_iret rfl h
      · replace h := ite_f q5 h
        refine x_c (pc' := 12) rfl rfl ?_
        exact x_iret rfl h
theorem sg_X_cards_30 {d : Nat} {l1 : Int} {l2 : Int} {l3 : Int} {w4 : AV} {l5 : Int} {M : Mem} {r : Res} (hw4 : ¬ w4.1 = 1) (h : (if l3 ≤ l5 then r = (some (0, l5), M) else ∃ v3 M4, Cl d m_X_cardComes [(2, 0), (0, l1), (1, w64 (l2 + (w64 (20 * l5))))] M (some (0, v3), M4) ∧ (if v3 = 0 then r = (some (0, l5), M4) else at_X_cards_30 d l1 l2 l3 w4 (w32 (l5 + 1)) M4 r))) : at_X_cards_30 d l1 l2 l3 w4 l5 M r := by
  unfold at_X_cards_30
  refine x_il (pc' := 31) rfl rfl rfl ?_
  refine x_il (pc' := 32) rfl rfl rfl ?_
  refine x_icge (pc' := 33) (t' := 46) rfl rfl rfl (fun q1 => ?_) (fun q1 => ?_)
  · replace h := ite_t q1 h
    refine x_il (pc' := 47) rfl rfl rfl ?_
    exact x_iret rfl h
  · replace h := ite_f q1 h
    refine x_al (pc' := 34) rfl rfl (by decide) rfl ?_
    refine x_il (pc' := 35) rfl rfl rfl ?_
    refine x_il (pc' := 36) rfl rfl rfl ?_
    refine x_i2l (pc' := 37) rfl rfl ?_
    refine x_lc (pc' := 38) rfl rfl ?_
    refine x_il (pc' := 39) rfl rfl rfl ?_
    refine x_i2l (pc' := 40) rfl rfl ?_
    refine x_lb (pc' := 41) (v := w64 (20 * l5)) rfl rfl rfl ?_
    refine x_lb (pc' := 42) (v := w64 (l2 + (w64 (20 * l5)))) rfl rfl rfl ?_
    obtain ⟨v3, M4, q2, h⟩ := h
    refine x_call (pc' := 43) (as := [(2, 0), (0, l1), (1, w64 (l2 + (w64 (20 * l5))))]) (rest := []) rfl rfl rfl rfl rfl rfl q2 ?_
    refine x_ifeq (pc' := 44) (t' := 46) rfl rfl rfl (fun q5 => ?_) (fun q5 => ?_)
    · replace h := ite_t q5 h
      refine x_il (pc' := 47) rfl rfl rfl ?_
      exact x_iret rfl h
    · replace h := ite_f q5 h
      refine x_inc (pc' := 45) (ls' := [(2, 0), (0, l1), (0, l2), (0, l3), w4, (0, w32 (l5 + 1))]) rfl rfl (setL_nw (i := 4) rfl hw4) rfl ?_
      refine x_goto (t' := 30) rfl rfl ?_
      exact h
def at_X_cardComes_26 (d : Nat) (l1 : Int) (w2 : AV) (w3 : AV) (l4 : Int) (l5 : Int) (w6 : AV) (M : Mem) (r : Res) : Prop := Ex sx0 d k_X_cardComes 3 26 [(2, 0), (0, l1), w2, w3, (0, l4), (0, l5), w6] [] M r
def at_X_cardComes_63 (d : Nat) (l1 : Int) (w2 : AV) (w3 : AV) (l4 : Int) (l5 : Int) (l6 : Int) (M : Mem) (r : Res) : Prop := Ex sx0 d k_X_cardComes 3 63 [(2, 0), (0, l1), w2, w3, (0, l4), (0, l5), (0, l6)] [] M r
theorem sg_X_cardComes {d : Nat} {p1 p2 : Int} {M : Mem} {r : Res} (h : (if 12 ≤ M 1 5 then r = (some (0, 0), M) else (if lcmpI p2 0 < 0 then r = (some (0, 0), M) else ∃ v4, Cl d m_S_lengthOf [(2, 49), (0, p1)] M (some (0, v4), M) ∧ (if lcmpI (w64 (p2 + 20)) v4 ≤ 0 then at_X_cardComes_26 d p1 (1, p2) (3, 0) (w32 p2) 0 (3, 0) M r else r = (some (0, 0), M))))) : Cl (d + 1) m_X_cardComes [(2, 0), (0, p1), (1, p2)] M r := by
  refine cl_of (c := k_X_cardComes) (mL := 7) (rz := 3) (rc := 0) (ls := [(2, 0), (0, p1), (1, p2), (3, 0), (3, 0), (3, 0), (3, 0)]) rfl rfl rfl ?_
  refine x_al (pc' := 1) rfl rfl (by decide) rfl ?_
  refine x_gr (pc' := 2) (v := 1) rfl rfl rfl (by decide) rfl ?_
  refine x_gf (pc' := 3) (v := M 1 5) rfl rfl rfl rfl rfl ?_
  refine x_c (pc' := 4) rfl rfl ?_
  refine x_icge (pc' := 5) (t' := 19) rfl rfl rfl (fun q1 => ?_) (fun q1 => ?_)
  · replace h := ite_t q1 h
    refine x_c (pc' := 20) rfl rfl ?_
    exact x_zret rfl (by decide) h
  · replace h := ite_f q1 h
    refine x_ll (pc' := 6) rfl rfl rfl ?_
    refine x_lc (pc' := 7) rfl rfl ?_
    refine x_lcmp (pc' := 8) rfl rfl ?_
    refine x_iflt (pc' := 9) (t' := 19) rfl rfl rfl (fun q2 => ?_) (fun q2 => ?_)
    · replace h := ite_t q2 h
      refine x_c (pc' := 20) rfl rfl ?_
      exact x_zret rfl (by decide) h
    · replace h := ite_f q2 h
      refine x_ll (pc' := 10) rfl rfl rfl ?_
      refine x_lc (pc' := 11) rfl rfl ?_
      refine x_lb (pc' := 12) (v := w64 (p2 + 20)) rfl rfl rfl ?_
      refine x_al (pc' := 13) rfl rfl (by decide) rfl ?_
      refine x_gr (pc' := 14) (v := 49) rfl rfl rfl (by decide) rfl ?_
      refine x_il (pc' := 15) rfl rfl rfl ?_
      obtain ⟨v4, q3, h⟩ := h
      refine x_call (pc' := 16) (as := [(2, 49), (0, p1)]) (rest := [(1, w64 (p2 + 20))]) rfl rfl rfl rfl rfl rfl q3 ?_
      refine x_i2l (pc' := 17) rfl rfl ?_
      refine x_lcmp (pc' := 18) rfl rfl ?_
      refine x_ifle (pc' := 19) (t' := 21) rfl rfl rfl (fun q5 => ?_) (fun q5 => ?_)
      · replace h := ite_t q5 h
        refine x_ll (pc' := 22) rfl rfl rfl ?_
        refine x_l2i (pc' := 23) rfl rfl ?_
        refine x_is (pc' := 24) (ls' := [(2, 0), (0, p1), (1, p2), (3, 0), (0, w32 p2), (3, 0), (3, 0)]) rfl rfl rfl rfl ?_
        refine x_c (pc' := 25) rfl rfl ?_
        refine x_is (pc' := 26) (ls' := [(2, 0), (0, p1), (1, p2), (3, 0), (0, w32 p2), (0, 0), (3, 0)]) rfl rfl rfl rfl ?_
        exact h
      · replace h := ite_f q5 h
        refine x_c (pc' := 20) rfl rfl ?_
        exact x_zret rfl (by decide) h
theorem sg_X_cardComes_26 {d : Nat} {l1 : Int} {w2 : AV} {w3 : AV} {l4 : Int} {l5 : Int} {w6 : AV} {M : Mem} {r : Res} (h : (if 10 ≤ l5 then ∃ v3 M4, Cl d m_C_addPlain [(2, 1)] M (some (0, v3), M4) ∧ at_X_cardComes_63 d l1 w2 w3 l4 v3 0 M4 r else ∃ v6, Cl d m_S_valueAt [(2, 49), (0, l1), (0, w32 (l4 + (w32 (2 * l5))))] M (some (1, v6), M) ∧ ∃ v8, Cl d m_X_isSort [(1, v6)] M (some (0, v8), M) ∧ (if v8 = 0 then r = (some (0, 0), M) else ∃ v11, Cl d m_S_valueAt [(2, 49), (0, l1), (0, w32 ((w32 (l4 + (w32 (2 * l5)))) + 1))] M (some (1, v11), M) ∧ ∃ v13, Cl d m_X_isRidges [(1, v11)] M (some (0, v13), M) ∧ (if ¬ v13 = 0 then at_X_cardComes_26 d l1 w2 w3 l4 (w32 (l5 + 1)) w6 M r else r = (some (0, 0), M))))) : at_X_cardComes_26 d l1 w2 w3 l4 l5 w6 M r := by
  unfold at_X_cardComes_26
  refine x_il (pc' := 27) rfl rfl rfl ?_
  refine x_c (pc' := 28) rfl rfl ?_
  refine x_icge (pc' := 29) (t' := 57) rfl rfl rfl (fun q1 => ?_) (fun q1 => ?_)
  · replace h := ite_t q1 h
    refine x_al (pc' := 58) rfl rfl (by decide) rfl ?_
    refine x_gr (pc' := 59) (v := 1) rfl rfl rfl (by decide) rfl ?_
    obtain ⟨v3, M4, q2, h⟩ := h
    refine x_call (pc' := 60) (as := [(2, 1)]) (rest := []) rfl rfl rfl rfl rfl rfl q2 ?_
    refine x_is (pc' := 61) (ls' := [(2, 0), (0, l1), w2, w3, (0, l4), (0, v3), w6]) rfl rfl rfl rfl ?_
    refine x_c (pc' := 62) rfl rfl ?_
    refine x_is (pc' := 63) (ls' := [(2, 0), (0, l1), w2, w3, (0, l4), (0, v3), (0, 0)]) rfl rfl rfl rfl ?_
    exact h
  · replace h := ite_f q1 h
    refine x_al (pc' := 30) rfl rfl (by decide) rfl ?_
    refine x_gr (pc' := 31) (v := 49) rfl rfl rfl (by decide) rfl ?_
    refine x_il (pc' := 32) rfl rfl rfl ?_
    refine x_il (pc' := 33) rfl rfl rfl ?_
    refine x_c (pc' := 34) rfl rfl ?_
    refine x_il (pc' := 35) rfl rfl rfl ?_
    refine x_ib (pc' := 36) (v := w32 (2 * l5)) rfl rfl rfl ?_
    refine x_ib (pc' := 37) (v := w32 (l4 + (w32 (2 * l5)))) rfl rfl rfl ?_
    obtain ⟨v6, q5, h⟩ := h
    refine x_call (pc' := 38) (as := [(2, 49), (0, l1), (0, w32 (l4 + (w32 (2 * l5))))]) (rest := []) rfl rfl rfl rfl rfl rfl q5 ?_
    obtain ⟨v8, q7, h⟩ := h
    refine x_call (pc' := 39) (as := [(1, v6)]) (rest := []) rfl rfl rfl rfl rfl rfl q7 ?_
    refine x_ifeq (pc' := 40) (t' := 53) rfl rfl rfl (fun q9 => ?_) (fun q9 => ?_)
    · replace h := ite_t q9 h
      refine x_c (pc' := 54) rfl rfl ?_
      exact x_zret rfl (by decide) h
    · replace h := ite_f q9 h
      refine x_al (pc' := 41) rfl rfl (by decide) rfl ?_
      refine x_gr (pc' := 42) (v := 49) rfl rfl rfl (by decide) rfl ?_
      refine x_il (pc' := 43) rfl rfl rfl ?_
      refine x_il (pc' := 44) rfl rfl rfl ?_
      refine x_c (pc' := 45) rfl rfl ?_
      refine x_il (pc' := 46) rfl rfl rfl ?_
      refine x_ib (pc' := 47) (v := w32 (2 * l5)) rfl rfl rfl ?_
      refine x_ib (pc' := 48) (v := w32 (l4 + (w32 (2 * l5)))) rfl rfl rfl ?_
      refine x_c (pc' := 49) rfl rfl ?_
      refine x_ib (pc' := 50) (v := w32 ((w32 (l4 + (w32 (2 * l5)))) + 1)) rfl rfl rfl ?_
      obtain ⟨v11, q10, h⟩ := h
      refine x_call (pc' := 51) (as := [(2, 49), (0, l1), (0, w32 ((w32 (l4 + (w32 (2 * l5)))) + 1))]) (rest := []) rfl rfl rfl rfl rfl rfl q10 ?_
      obtain ⟨v13, q12, h⟩ := h
      refine x_call (pc' := 52) (as := [(1, v11)]) (rest := []) rfl rfl rfl rfl rfl rfl q12 ?_
      refine x_ifne (pc' := 53) (t' := 55) rfl rfl rfl (fun q14 => ?_) (fun q14 => ?_)
      · replace h := ite_t q14 h
        refine x_inc (pc' := 56) (ls' := [(2, 0), (0, l1), w2, w3, (0, l4), (0, w32 (l5 + 1)), w6]) rfl rfl rfl rfl ?_
        refine x_goto (t' := 26) rfl rfl ?_
        exact h
      · replace h := ite_f q14 h
        refine x_c (pc' := 54) rfl rfl ?_
        exact x_zret rfl (by decide) h
theorem sg_X_cardComes_63 {d : Nat} {l1 : Int} {w2 : AV} {w3 : AV} {l4 : Int} {l5 : Int} {l6 : Int} {M : Mem} {r : Res} (h : (if 10 ≤ l6 then r = (some (0, 1), M) else ∃ v3, Cl d m_S_valueAt [(2, 49), (0, l1), (0, w32 (l4 + (w32 (2 * l6))))] M (some (1, v3), M) ∧ ∃ M5, Cl d m_C_tellSort [(2, 1), (0, l5), (0, l6), (0, w32 v3)] M (none, M5) ∧ ∃ v7, Cl d m_S_valueAt [(2, 49), (0, l1), (0, w32 ((w32 (l4 + (w32 (2 * l6)))) + 1))] M5 (some (1, v7), M5) ∧ ∃ M9, Cl d m_C_tellRidges [(2, 1), (0, l5), (0, l6), (0, w32 v7)] M5 (none, M9) ∧ at_X_cardComes_63 d l1 w2 w3 l4 l5 (w32 (l6 + 1)) M9 r)) : at_X_cardComes_63 d l1 w2 w3 l4 l5 l6 M r := by
  unfold at_X_cardComes_63
  refine x_il (pc' := 64) rfl rfl rfl ?_
  refine x_c (pc' := 65) rfl rfl ?_
  refine x_icge (pc' := 66) (t' := 100) rfl rfl rfl (fun q1 => ?_) (fun q1 => ?_)
  · replace h := ite_t q1 h
    refine x_c (pc' := 101) rfl rfl ?_
    exact x_zret rfl (by decide) h
  · replace h := ite_f q1 h
    refine x_al (pc' := 67) rfl rfl (by decide) rfl ?_
    refine x_gr (pc' := 68) (v := 1) rfl rfl rfl (by decide) rfl ?_
    refine x_il (pc' := 69) rfl rfl rfl ?_
    refine x_il (pc' := 70) rfl rfl rfl ?_
    refine x_al (pc' := 71) rfl rfl (by decide) rfl ?_
    refine x_gr (pc' := 72) (v := 49) rfl rfl rfl (by decide) rfl ?_
    refine x_il (pc' := 73) rfl rfl rfl ?_
    refine x_il (pc' := 74) rfl rfl rfl ?_
    refine x_c (pc' := 75) rfl rfl ?_
    refine x_il (pc' := 76) rfl rfl rfl ?_
    refine x_ib (pc' := 77) (v := w32 (2 * l6)) rfl rfl rfl ?_
    refine x_ib (pc' := 78) (v := w32 (l4 + (w32 (2 * l6)))) rfl rfl rfl ?_
    obtain ⟨v3, q2, h⟩ := h
    refine x_call (pc' := 79) (as := [(2, 49), (0, l1), (0, w32 (l4 + (w32 (2 * l6))))]) (rest := [(0, l6), (0, l5), (2, 1)]) rfl rfl rfl rfl rfl rfl q2 ?_
    refine x_l2i (pc' := 80) rfl rfl ?_
    obtain ⟨M5, q4, h⟩ := h
    refine x_callv (pc' := 81) (as := [(2, 1), (0, l5), (0, l6), (0, w32 v3)]) (rest := []) rfl rfl rfl rfl rfl rfl q4 ?_
    refine x_al (pc' := 82) rfl rfl (by decide) rfl ?_
    refine x_gr (pc' := 83) (v := 1) rfl rfl rfl (by decide) rfl ?_
    refine x_il (pc' := 84) rfl rfl rfl ?_
    refine x_il (pc' := 85) rfl rfl rfl ?_
    refine x_al (pc' := 86) rfl rfl (by decide) rfl ?_
    refine x_gr (pc' := 87) (v := 49) rfl rfl rfl (by decide) rfl ?_
    refine x_il (pc' := 88) rfl rfl rfl ?_
    refine x_il (pc' := 89) rfl rfl rfl ?_
    refine x_c (pc' := 90) rfl rfl ?_
    refine x_il (pc' := 91) rfl rfl rfl ?_
    refine x_ib (pc' := 92) (v := w32 (2 * l6)) rfl rfl rfl ?_
    refine x_ib (pc' := 93) (v := w32 (l4 + (w32 (2 * l6)))) rfl rfl rfl ?_
    refine x_c (pc' := 94) rfl rfl ?_
    refine x_ib (pc' := 95) (v := w32 ((w32 (l4 + (w32 (2 * l6)))) + 1)) rfl rfl rfl ?_
    obtain ⟨v7, q6, h⟩ := h
    refine x_call (pc' := 96) (as := [(2, 49), (0, l1), (0, w32 ((w32 (l4 + (w32 (2 * l6)))) + 1))]) (rest := [(0, l6), (0, l5), (2, 1)]) rfl rfl rfl rfl rfl rfl q6 ?_
    refine x_l2i (pc' := 97) rfl rfl ?_
    obtain ⟨M9, q8, h⟩ := h
    refine x_callv (pc' := 98) (as := [(2, 1), (0, l5), (0, l6), (0, w32 v7)]) (rest := []) rfl rfl rfl rfl rfl rfl q8 ?_
    refine x_inc (pc' := 99) (ls' := [(2, 0), (0, l1), w2, w3, (0, l4), (0, l5), (0, w32 (l6 + 1))]) rfl rfl rfl rfl ?_
    refine x_goto (t' := 63) rfl rfl ?_
    exact h
theorem sg_X_isSort {d : Nat} {p1 : Int} {M : Mem} {r : Res} (h : (if lcmpI p1 0 < 0 then r = (some (0, 0), M) else (if 0 < lcmpI p1 5 then r = (some (0, 0), M) else r = (some (0, 1), M)))) : Cl (d + 1) m_X_isSort [(1, p1)] M r := by
  refine cl_of (c := k_X_isSort) (mL := 2) (rz := 3) (rc := 99) (ls := [(1, p1), (3, 0)]) rfl rfl rfl ?_
  refine x_ll (pc' := 1) rfl rfl rfl ?_
  refine x_lc (pc' := 2) rfl rfl ?_
  refine x_lcmp (pc' := 3) rfl rfl ?_
  refine x_iflt (pc' := 4) (t' := 10) rfl rfl rfl (fun q1 => ?_) (fun q1 => ?_)
  · replace h := ite_t q1 h
    refine x_c (pc' := 11) rfl rfl ?_
    exact x_zret rfl (by decide) h
  · replace h := ite_f q1 h
    refine x_ll (pc' := 5) rfl rfl rfl ?_
    refine x_lc (pc' := 6) rfl rfl ?_
    refine x_lcmp (pc' := 7) rfl rfl ?_
    refine x_ifgt (pc' := 8) (t' := 10) rfl rfl rfl (fun q2 => ?_) (fun q2 => ?_)
    · replace h := ite_t q2 h
      refine x_c (pc' := 11) rfl rfl ?_
      exact x_zret rfl (by decide) h
    · replace h := ite_f q2 h
      refine x_c (pc' := 9) rfl rfl ?_
      refine x_goto (t' := 11) rfl rfl ?_
      exact x_zret rfl (by decide) h
theorem sg_X_isRidges {d : Nat} {p1 : Int} {M : Mem} {r : Res} (h : (if lcmpI p1 0 < 0 then r = (some (0, 0), M) else (if 0 < lcmpI p1 30 then r = (some (0, 0), M) else r = (some (0, 1), M)))) : Cl (d + 1) m_X_isRidges [(1, p1)] M r := by
  refine cl_of (c := k_X_isRidges) (mL := 2) (rz := 3) (rc := 99) (ls := [(1, p1), (3, 0)]) rfl rfl rfl ?_
  refine x_ll (pc' := 1) rfl rfl rfl ?_
  refine x_lc (pc' := 2) rfl rfl ?_
  refine x_lcmp (pc' := 3) rfl rfl ?_
  refine x_iflt (pc' := 4) (t' := 10) rfl rfl rfl (fun q1 => ?_) (fun q1 => ?_)
  · replace h := ite_t q1 h
    refine x_c (pc' := 11) rfl rfl ?_
    exact x_zret rfl (by decide) h
  · replace h := ite_f q1 h
    refine x_ll (pc' := 5) rfl rfl rfl ?_
    refine x_lc (pc' := 6) rfl rfl ?_
    refine x_lcmp (pc' := 7) rfl rfl ?_
    refine x_ifgt (pc' := 8) (t' := 10) rfl rfl rfl (fun q2 => ?_) (fun q2 => ?_)
    · replace h := ite_t q2 h
      refine x_c (pc' := 11) rfl rfl ?_
      exact x_zret rfl (by decide) h
    · replace h := ite_f q2 h
      refine x_c (pc' := 9) rfl rfl ?_
      refine x_goto (t' := 11) rfl rfl ?_
      exact x_zret rfl (by decide) h
theorem sg_X_mend {d : Nat} {p1 p2 p3 : Int} {M : Mem} {r : Res} (h : ∃ v2, Cl d m_X_isTold [(2, 0), (0, p1), (0, p2)] M (some (0, v2), M) ∧ (if v2 = 0 then r = (some (0, (-1)), M) else ∃ v5, Cl d m_X_isValue [(0, p2), (0, p3)] M (some (0, v5), M) ∧ (if ¬ v5 = 0 then ∃ v8, Cl d m_C_told [(2, 1), (0, p1), (0, p2)] M (some (0, v8), M) ∧ (if v8 = p3 then r = (some (0, v8), M) else ∃ M11, Cl d m_C_tell [(2, 1), (0, p1), (0, p2), (0, p3)] M (none, M11) ∧ ∃ M13, Cl d m_H_note [(2, 37), (0, p1), (0, p2), (0, v8), (0, p3)] M11 (none, M13) ∧ r = (some (0, v8), M13)) else r = (some (0, (-1)), M)))) : Cl (d + 1) m_X_mend [(2, 0), (0, p1), (0, p2), (0, p3)] M r := by
  refine cl_of (c := k_X_mend) (mL := 5) (rz := 1) (rc := 0) (ls := [(2, 0), (0, p1), (0, p2), (0, p3), (3, 0)]) rfl rfl rfl ?_
  refine x_al (pc' := 1) rfl rfl (by decide) rfl ?_
  refine x_il (pc' := 2) rfl rfl rfl ?_
  refine x_il (pc' := 3) rfl rfl rfl ?_
  obtain ⟨v2, q1, h⟩ := h
  refine x_call (pc' := 4) (as := [(2, 0), (0, p1), (0, p2)]) (rest := []) rfl rfl rfl rfl rfl rfl q1 ?_
  refine x_ifeq (pc' := 5) (t' := 9) rfl rfl rfl (fun q3 => ?_) (fun q3 => ?_)
  · replace h := ite_t q3 h
    refine x_c (pc' := 10) rfl rfl ?_
    exact x_iret rfl h
  · replace h := ite_f q3 h
    refine x_il (pc' := 6) rfl rfl rfl ?_
    refine x_il (pc' := 7) rfl rfl rfl ?_
    obtain ⟨v5, q4, h⟩ := h
    refine x_call (pc' := 8) (as := [(0, p2), (0, p3)]) (rest := []) rfl rfl rfl rfl rfl rfl q4 ?_
    refine x_ifne (pc' := 9) (t' := 11) rfl rfl rfl (fun q6 => ?_) (fun q6 => ?_)
    · replace h := ite_t q6 h
      refine x_al (pc' := 12) rfl rfl (by decide) rfl ?_
      refine x_gr (pc' := 13) (v := 1) rfl rfl rfl (by decide) rfl ?_
      refine x_il (pc' := 14) rfl rfl rfl ?_
      refine x_il (pc' := 15) rfl rfl rfl ?_
      obtain ⟨v8, q7, h⟩ := h
      refine x_call (pc' := 16) (as := [(2, 1), (0, p1), (0, p2)]) (rest := []) rfl rfl rfl rfl rfl rfl q7 ?_
      refine x_is (pc' := 17) (ls' := [(2, 0), (0, p1), (0, p2), (0, p3), (0, v8)]) rfl rfl rfl rfl ?_
      refine x_il (pc' := 18) rfl rfl rfl ?_
      refine x_il (pc' := 19) rfl rfl rfl ?_
      refine x_iceq (pc' := 20) (t' := 33) rfl rfl rfl (fun q9 => ?_) (fun q9 => ?_)
      · replace h := ite_t q9 h
        refine x_il (pc' := 34) rfl rfl rfl ?_
        exact x_iret rfl h
      · replace h := ite_f q9 h
        refine x_al (pc' := 21) rfl rfl (by decide) rfl ?_
        refine x_gr (pc' := 22) (v := 1) rfl rfl rfl (by decide) rfl ?_
        refine x_il (pc' := 23) rfl rfl rfl ?_
        refine x_il (pc' := 24) rfl rfl rfl ?_
        refine x_il (pc' := 25) rfl rfl rfl ?_
        obtain ⟨M11, q10, h⟩ := h
        refine x_callv (pc' := 26) (as := [(2, 1), (0, p1), (0, p2), (0, p3)]) (rest := []) rfl rfl rfl rfl rfl rfl q10 ?_
        refine x_al (pc' := 27) rfl rfl (by decide) rfl ?_
        refine x_gr (pc' := 28) (v := 37) rfl rfl rfl (by decide) rfl ?_
        refine x_il (pc' := 29) rfl rfl rfl ?_
        refine x_il (pc' := 30) rfl rfl rfl ?_
        refine x_il (pc' := 31) rfl rfl rfl ?_
        refine x_il (pc' := 32) rfl rfl rfl ?_
        obtain ⟨M13, q12, h⟩ := h
        refine x_callv (pc' := 33) (as := [(2, 37), (0, p1), (0, p2), (0, v8), (0, p3)]) (rest := []) rfl rfl rfl rfl rfl rfl q12 ?_
        refine x_il (pc' := 34) rfl rfl rfl ?_
        exact x_iret rfl h
    · replace h := ite_f q6 h
      refine x_c (pc' := 10) rfl rfl ?_
      exact x_iret rfl h
theorem sg_X_isTold {d : Nat} {p1 p2 : Int} {M : Mem} {r : Res} (h : (if ¬ p2 = 2 then (if p2 = 0 then (if p1 < 0 then r = (some (0, 0), M) else ∃ v5, Cl d m_C_has [(2, 1), (0, w32 (Int.tdiv p1 100))] M (some (0, v5), M) ∧ (if v5 = 0 then r = (some (0, 0), M) else ∃ v8, Cl d m_X_isFinger [(0, w32 (Int.tmod p1 100))] M (some (0, v8), M) ∧ (if v8 = 0 then r = (some (0, 0), M) else r = (some (0, 1), M)))) else (if ¬ p2 = 1 then r = (some (0, 0), M) else (if p1 < 0 then r = (some (0, 0), M) else ∃ v13, Cl d m_C_has [(2, 1), (0, w32 (Int.tdiv p1 100))] M (some (0, v13), M) ∧ (if v13 = 0 then r = (some (0, 0), M) else ∃ v16, Cl d m_X_isFinger [(0, w32 (Int.tmod p1 100))] M (some (0, v16), M) ∧ (if v16 = 0 then r = (some (0, 0), M) else r = (some (0, 1), M)))))) else (if ¬ p1 = 0 then r = (some (0, 0), M) else r = (some (0, 1), M)))) : Cl (d + 1) m_X_isTold [(2, 0), (0, p1), (0, p2)] M r := by
  refine cl_of (c := k_X_isTold) (mL := 3) (rz := 3) (rc := 0) (ls := [(2, 0), (0, p1), (0, p2)]) rfl rfl rfl ?_
  refine x_il (pc' := 1) rfl rfl rfl ?_
  refine x_c (pc' := 2) rfl rfl ?_
  refine x_icne (pc' := 3) (t' := 9) rfl rfl rfl (fun q1 => ?_) (fun q1 => ?_)
  · replace h := ite_t q1 h
    refine x_il (pc' := 10) rfl rfl rfl ?_
    refine x_ifeq (pc' := 11) (t' := 14) rfl rfl rfl (fun q2 => ?_) (fun q2 => ?_)
    · replace h := ite_t q2 h
      refine x_il (pc' := 15) rfl rfl rfl ?_
      refine x_iflt (pc' := 16) (t' := 30) rfl rfl rfl (fun q3 => ?_) (fun q3 => ?_)
      · replace h := ite_t q3 h
        refine x_c (pc' := 31) rfl rfl ?_
        exact x_zret rfl (by decide) h
      · replace h := ite_f q3 h
        refine x_al (pc' := 17) rfl rfl (by decide) rfl ?_
        refine x_gr (pc' := 18) (v := 1) rfl rfl rfl (by decide) rfl ?_
        refine x_il (pc' := 19) rfl rfl rfl ?_
        refine x_c (pc' := 20) rfl rfl ?_
        refine x_ib (pc' := 21) (v := w32 (Int.tdiv p1 100)) rfl rfl rfl ?_
        obtain ⟨v5, q4, h⟩ := h
        refine x_call (pc' := 22) (as := [(2, 1), (0, w32 (Int.tdiv p1 100))]) (rest := []) rfl rfl rfl rfl rfl rfl q4 ?_
        refine x_ifeq (pc' := 23) (t' := 30) rfl rfl rfl (fun q6 => ?_) (fun q6 => ?_)
        · replace h := ite_t q6 h
          refine x_c (pc' := 31) rfl rfl ?_
          exact x_zret rfl (by decide) h
        · replace h := ite_f q6 h
          refine x_il (pc' := 24) rfl rfl rfl ?_
          refine x_c (pc' := 25) rfl rfl ?_
          refine x_ib (pc' := 26) (v := w32 (Int.tmod p1 100)) rfl rfl rfl ?_
          obtain ⟨v8, q7, h⟩ := h
          refine x_call (pc' := 27) (as := [(0, w32 (Int.tmod p1 100))]) (rest := []) rfl rfl rfl rfl rfl rfl q7 ?_
          refine x_ifeq (pc' := 28) (t' := 30) rfl rfl rfl (fun q9 => ?_) (fun q9 => ?_)
          · replace h := ite_t q9 h
            refine x_c (pc' := 31) rfl rfl ?_
            exact x_zret rfl (by decide) h
          · replace h := ite_f q9 h
            refine x_c (pc' := 29) rfl rfl ?_
            refine x_goto (t' := 31) rfl rfl ?_
            exact x_zret rfl (by decide) h
    · replace h := ite_f q2 h
      refine x_il (pc' := 12) rfl rfl rfl ?_
      refine x_c (pc' := 13) rfl rfl ?_
      refine x_icne (pc' := 14) (t' := 30) rfl rfl rfl (fun q10 => ?_) (fun q10 => ?_)
      · replace h := ite_t q10 h
        refine x_c (pc' := 31) rfl rfl ?_
        exact x_zret rfl (by decide) h
      · replace h := ite_f q10 h
        refine x_il (pc' := 15) rfl rfl rfl ?_
        refine x_iflt (pc' := 16) (t' := 30) rfl rfl rfl (fun q11 => ?_) (fun q11 => ?_)
        · replace h := ite_t q11 h
          refine x_c (pc' := 31) rfl rfl ?_
          exact x_zret rfl (by decide) h
        · replace h := ite_f q11 h
          refine x_al (pc' := 17) rfl rfl (by decide) rfl ?_
          refine x_gr (pc' := 18) (v := 1) rfl rfl rfl (by decide) rfl ?_
          refine x_il (pc' := 19) rfl rfl rfl ?_
          refine x_c (pc' := 20) rfl rfl ?_
          refine x_ib (pc' := 21) (v := w32 (Int.tdiv p1 100)) rfl rfl rfl ?_
          obtain ⟨v13, q12, h⟩ := h
          refine x_call (pc' := 22) (as := [(2, 1), (0, w32 (Int.tdiv p1 100))]) (rest := []) rfl rfl rfl rfl rfl rfl q12 ?_
          refine x_ifeq (pc' := 23) (t' := 30) rfl rfl rfl (fun q14 => ?_) (fun q14 => ?_)
          · replace h := ite_t q14 h
            refine x_c (pc' := 31) rfl rfl ?_
            exact x_zret rfl (by decide) h
          · replace h := ite_f q14 h
            refine x_il (pc' := 24) rfl rfl rfl ?_
            refine x_c (pc' := 25) rfl rfl ?_
            refine x_ib (pc' := 26) (v := w32 (Int.tmod p1 100)) rfl rfl rfl ?_
            obtain ⟨v16, q15, h⟩ := h
            refine x_call (pc' := 27) (as := [(0, w32 (Int.tmod p1 100))]) (rest := []) rfl rfl rfl rfl rfl rfl q15 ?_
            refine x_ifeq (pc' := 28) (t' := 30) rfl rfl rfl (fun q17 => ?_) (fun q17 => ?_)
            · replace h := ite_t q17 h
              refine x_c (pc' := 31) rfl rfl ?_
              exact x_zret rfl (by decide) h
            · replace h := ite_f q17 h
              refine x_c (pc' := 29) rfl rfl ?_
              refine x_goto (t' := 31) rfl rfl ?_
              exact x_zret rfl (by decide) h
  · replace h := ite_f q1 h
    refine x_il (pc' := 4) rfl rfl rfl ?_
    refine x_ifne (pc' := 5) (t' := 7) rfl rfl rfl (fun q18 => ?_) (fun q18 => ?_)
    · replace h := ite_t q18 h
      refine x_c (pc' := 8) rfl rfl ?_
      exact x_zret rfl (by decide) h
    · replace h := ite_f q18 h
      refine x_c (pc' := 6) rfl rfl ?_
      refine x_goto (t' := 8) rfl rfl ?_
      exact x_zret rfl (by decide) h
theorem sg_X_isFinger {d : Nat} {p1 : Int} {M : Mem} {r : Res} (h : (if p1 < 0 then r = (some (0, 0), M) else (if 10 ≤ p1 then r = (some (0, 0), M) else r = (some (0, 1), M)))) : Cl (d + 1) m_X_isFinger [(0, p1)] M r := by
  refine cl_of (c := k_X_isFinger) (mL := 1) (rz := 3) (rc := 99) (ls := [(0, p1)]) rfl rfl rfl ?_
  refine x_il (pc' := 1) rfl rfl rfl ?_
  refine x_iflt (pc' := 2) (t' := 7) rfl rfl rfl (fun q1 => ?_) (fun q1 => ?_)
  · replace h := ite_t q1 h
    refine x_c (pc' := 8) rfl rfl ?_
    exact x_zret rfl (by decide) h
  · replace h := ite_f q1 h
    refine x_il (pc' := 3) rfl rfl rfl ?_
    refine x_c (pc' := 4) rfl rfl ?_
    refine x_icge (pc' := 5) (t' := 7) rfl rfl rfl (fun q2 => ?_) (fun q2 => ?_)
    · replace h := ite_t q2 h
      refine x_c (pc' := 8) rfl rfl ?_
      exact x_zret rfl (by decide) h
    · replace h := ite_f q2 h
      refine x_c (pc' := 6) rfl rfl ?_
      refine x_goto (t' := 8) rfl rfl ?_
      exact x_zret rfl (by decide) h
theorem sg_X_isValue {d : Nat} {p1 p2 : Int} {M : Mem} {r : Res} (h : (if ¬ p1 = 0 then (if ¬ p1 = 1 then (if p2 < 0 then r = (some (0, 0), M) else (if 9 < p2 then r = (some (0, 0), M) else r = (some (0, 1), M))) else ∃ v6, Cl d m_X_isRidges [(1, p2)] M (some (0, v6), M) ∧ (v6 = 0 ∨ v6 = 1) ∧ r = (some (0, v6), M)) else ∃ v9, Cl d m_X_isSort [(1, p2)] M (some (0, v9), M) ∧ (v9 = 0 ∨ v9 = 1) ∧ r = (some (0, v9), M))) : Cl (d + 1) m_X_isValue [(0, p1), (0, p2)] M r := by
  refine cl_of (c := k_X_isValue) (mL := 2) (rz := 3) (rc := 99) (ls := [(0, p1), (0, p2)]) rfl rfl rfl ?_
  refine x_il (pc' := 1) rfl rfl rfl ?_
  refine x_ifne (pc' := 2) (t' := 6) rfl rfl rfl (fun q1 => ?_) (fun q1 => ?_)
  · replace h := ite_t q1 h
    refine x_il (pc' := 7) rfl rfl rfl ?_
    refine x_c (pc' := 8) rfl rfl ?_
    refine x_icne (pc' := 9) (t' := 13) rfl rfl rfl (fun q2 => ?_) (fun q2 => ?_)
    · replace h := ite_t q2 h
      refine x_il (pc' := 14) rfl rfl rfl ?_
      refine x_iflt (pc' := 15) (t' := 20) rfl rfl rfl (fun q3 => ?_) (fun q3 => ?_)
      · replace h := ite_t q3 h
        refine x_c (pc' := 21) rfl rfl ?_
        exact x_zret rfl (by decide) h
      · replace h := ite_f q3 h
        refine x_il (pc' := 16) rfl rfl rfl ?_
        refine x_c (pc' := 17) rfl rfl ?_
        refine x_icgt (pc' := 18) (t' := 20) rfl rfl rfl (fun q4 => ?_) (fun q4 => ?_)
        · replace h := ite_t q4 h
          refine x_c (pc' := 21) rfl rfl ?_
          exact x_zret rfl (by decide) h
        · replace h := ite_f q4 h
          refine x_c (pc' := 19) rfl rfl ?_
          refine x_goto (t' := 21) rfl rfl ?_
          exact x_zret rfl (by decide) h
    · replace h := ite_f q2 h
      refine x_il (pc' := 10) rfl rfl rfl ?_
      refine x_i2l (pc' := 11) rfl rfl ?_
      obtain ⟨v6, q5, h⟩ := h
      refine x_call (pc' := 12) (as := [(1, p2)]) (rest := []) rfl rfl rfl rfl rfl rfl q5 ?_
      refine x_goto (t' := 21) rfl rfl ?_
      obtain ⟨q7, h⟩ := h
      exact x_zret rfl q7 h
  · replace h := ite_f q1 h
    refine x_il (pc' := 3) rfl rfl rfl ?_
    refine x_i2l (pc' := 4) rfl rfl ?_
    obtain ⟨v9, q8, h⟩ := h
    refine x_call (pc' := 5) (as := [(1, p2)]) (rest := []) rfl rfl rfl rfl rfl rfl q8 ?_
    obtain ⟨q10, h⟩ := h
    exact x_zret rfl q10 h
theorem sg_X_of {d : Nat} {p1 p2 : Int} {M : Mem} {r : Res} (h : (if ¬ p2 = 10 then ∃ v3, Cl d m_X_isTold [(2, 0), (0, p1), (0, p2)] M (some (0, v3), M) ∧ (if ¬ v3 = 0 then ∃ v6, Cl d m_C_told [(2, 1), (0, p1), (0, p2)] M (some (0, v6), M) ∧ r = (some (0, v6), M) else r = (some (0, (-1)), M)) else ∃ v8, Cl d m_C_has [(2, 1), (0, p1)] M (some (0, v8), M) ∧ (if v8 = 0 then ∃ v11, Cl d m_X_isTold [(2, 0), (0, p1), (0, p2)] M (some (0, v11), M) ∧ (if ¬ v11 = 0 then ∃ v14, Cl d m_C_told [(2, 1), (0, p1), (0, p2)] M (some (0, v14), M) ∧ r = (some (0, v14), M) else r = (some (0, (-1)), M)) else (0 ≤ p1 ∧ p1 < 12) ∧ r = (some (0, M 30 p1), M)))) : Cl (d + 1) m_X_of [(2, 0), (0, p1), (0, p2)] M r := by
  refine cl_of (c := k_X_of) (mL := 3) (rz := 1) (rc := 0) (ls := [(2, 0), (0, p1), (0, p2)]) rfl rfl rfl ?_
  refine x_il (pc' := 1) rfl rfl rfl ?_
  refine x_c (pc' := 2) rfl rfl ?_
  refine x_icne (pc' := 3) (t' := 14) rfl rfl rfl (fun q1 => ?_) (fun q1 => ?_)
  · replace h := ite_t q1 h
    refine x_al (pc' := 15) rfl rfl (by decide) rfl ?_
    refine x_il (pc' := 16) rfl rfl rfl ?_
    refine x_il (pc' := 17) rfl rfl rfl ?_
    obtain ⟨v3, q2, h⟩ := h
    refine x_call (pc' := 18) (as := [(2, 0), (0, p1), (0, p2)]) (rest := []) rfl rfl rfl rfl rfl rfl q2 ?_
    refine x_ifne (pc' := 19) (t' := 21) rfl rfl rfl (fun q4 => ?_) (fun q4 => ?_)
    · replace h := ite_t q4 h
      refine x_al (pc' := 22) rfl rfl (by decide) rfl ?_
      refine x_gr (pc' := 23) (v := 1) rfl rfl rfl (by decide) rfl ?_
      refine x_il (pc' := 24) rfl rfl rfl ?_
      refine x_il (pc' := 25) rfl rfl rfl ?_
      obtain ⟨v6, q5, h⟩ := h
      refine x_call (pc' := 26) (as := [(2, 1), (0, p1), (0, p2)]) (rest := []) rfl rfl rfl rfl rfl rfl q5 ?_
      exact x_iret rfl h
    · replace h := ite_f q4 h
      refine x_c (pc' := 20) rfl rfl ?_
      exact x_iret rfl h
  · replace h := ite_f q1 h
    refine x_al (pc' := 4) rfl rfl (by decide) rfl ?_
    refine x_gr (pc' := 5) (v := 1) rfl rfl rfl (by decide) rfl ?_
    refine x_il (pc' := 6) rfl rfl rfl ?_
    obtain ⟨v8, q7, h⟩ := h
    refine x_call (pc' := 7) (as := [(2, 1), (0, p1)]) (rest := []) rfl rfl rfl rfl rfl rfl q7 ?_
    refine x_ifeq (pc' := 8) (t' := 14) rfl rfl rfl (fun q9 => ?_) (fun q9 => ?_)
    · replace h := ite_t q9 h
      refine x_al (pc' := 15) rfl rfl (by decide) rfl ?_
      refine x_il (pc' := 16) rfl rfl rfl ?_
      refine x_il (pc' := 17) rfl rfl rfl ?_
      obtain ⟨v11, q10, h⟩ := h
      refine x_call (pc' := 18) (as := [(2, 0), (0, p1), (0, p2)]) (rest := []) rfl rfl rfl rfl rfl rfl q10 ?_
      refine x_ifne (pc' := 19) (t' := 21) rfl rfl rfl (fun q12 => ?_) (fun q12 => ?_)
      · replace h := ite_t q12 h
        refine x_al (pc' := 22) rfl rfl (by decide) rfl ?_
        refine x_gr (pc' := 23) (v := 1) rfl rfl rfl (by decide) rfl ?_
        refine x_il (pc' := 24) rfl rfl rfl ?_
        refine x_il (pc' := 25) rfl rfl rfl ?_
        obtain ⟨v14, q13, h⟩ := h
        refine x_call (pc' := 26) (as := [(2, 1), (0, p1), (0, p2)]) (rest := []) rfl rfl rfl rfl rfl rfl q13 ?_
        exact x_iret rfl h
      · replace h := ite_f q12 h
        refine x_c (pc' := 20) rfl rfl ?_
        exact x_iret rfl h
    · replace h := ite_f q9 h
      refine x_al (pc' := 9) rfl rfl (by decide) rfl ?_
      refine x_gr (pc' := 10) (v := 1) rfl rfl rfl (by decide) rfl ?_
      refine x_gr (pc' := 11) (v := 30) rfl rfl rfl (by decide) rfl ?_
      refine x_il (pc' := 12) rfl rfl rfl ?_
      obtain ⟨q15, h⟩ := h
      refine x_ia (pc' := 13) 12 (v := M 30 p1) rfl rfl rfl q15.1 q15.2 rfl ?_
      exact x_iret rfl h
theorem sg_X_feed {d : Nat} {p1 : Int} {M : Mem} {r : Res} (h : (if p1 < 0 then r = (some (0, (-1)), M) else (if p1 ≤ 255 then ∃ v4 M5, Cl d m_L_fed [(2, 31), (0, p1)] M (some (0, v4), M5) ∧ r = (some (0, v4), M5) else r = (some (0, (-1)), M)))) : Cl (d + 1) m_X_feed [(2, 0), (0, p1)] M r := by
  refine cl_of (c := k_X_feed) (mL := 2) (rz := 1) (rc := 0) (ls := [(2, 0), (0, p1)]) rfl rfl rfl ?_
  refine x_il (pc' := 1) rfl rfl rfl ?_
  refine x_iflt (pc' := 2) (t' := 5) rfl rfl rfl (fun q1 => ?_) (fun q1 => ?_)
  · replace h := ite_t q1 h
    refine x_c (pc' := 6) rfl rfl ?_
    exact x_iret rfl h
  · replace h := ite_f q1 h
    refine x_il (pc' := 3) rfl rfl rfl ?_
    refine x_c (pc' := 4) rfl rfl ?_
    refine x_icle (pc' := 5) (t' := 7) rfl rfl rfl (fun q2 => ?_) (fun q2 => ?_)
    · replace h := ite_t q2 h
      refine x_al (pc' := 8) rfl rfl (by decide) rfl ?_
      refine x_gr (pc' := 9) (v := 31) rfl rfl rfl (by decide) rfl ?_
      refine x_il (pc' := 10) rfl rfl rfl ?_
      obtain ⟨v4, M5, q3, h⟩ := h
      refine x_call (pc' := 11) (as := [(2, 31), (0, p1)]) (rest := []) rfl rfl rfl rfl rfl rfl q3 ?_
      exact x_iret rfl h
    · replace h := ite_f q2 h
      refine x_c (pc' := 6) rfl rfl ?_
      exact x_iret rfl h
theorem sg_X_law {d : Nat} {M : Mem} {r : Res} (h : ∃ v2 M3, Cl d m_L_readTape [(2, 31)] M (some (0, v2), M3) ∧ (if 0 ≤ v2 then r = (some (0, w32 ((-100) - v2)), M3) else r = (some (0, 1), M3))) : Cl (d + 1) m_X_law [(2, 0)] M r := by
  refine cl_of (c := k_X_law) (mL := 2) (rz := 1) (rc := 0) (ls := [(2, 0), (3, 0)]) rfl rfl rfl ?_
  refine x_al (pc' := 1) rfl rfl (by decide) rfl ?_
  refine x_gr (pc' := 2) (v := 31) rfl rfl rfl (by decide) rfl ?_
  obtain ⟨v2, M3, q1, h⟩ := h
  refine x_call (pc' := 3) (as := [(2, 31)]) (rest := []) rfl rfl rfl rfl rfl rfl q1 ?_
  refine x_is (pc' := 4) (ls' := [(2, 0), (0, v2)]) rfl rfl rfl rfl ?_
  refine x_il (pc' := 5) rfl rfl rfl ?_
  refine x_ifge (pc' := 6) (t' := 8) rfl rfl rfl (fun q4 => ?_) (fun q4 => ?_)
  · replace h := ite_t q4 h
    refine x_c (pc' := 9) rfl rfl ?_
    refine x_il (pc' := 10) rfl rfl rfl ?_
    refine x_ib (pc' := 11) (v := w32 ((-100) - v2)) rfl rfl rfl ?_
    exact x_iret rfl h
  · replace h := ite_f q4 h
    refine x_c (pc' := 7) rfl rfl ?_
    refine x_goto (t' := 11) rfl rfl ?_
    exact x_iret rfl h
theorem sg_X_alike {d : Nat} {p1 p2 : Int} {M : Mem} {r : Res} (h : ∃ v2, Cl d m_X_areCards [(2, 0), (0, p1)] M (some (0, v2), M) ∧ (if v2 = 0 then r = (some (0, (-1)), M) else ∃ v5, Cl d m_X_isFinger [(0, p2)] M (some (0, v5), M) ∧ (if ¬ v5 = 0 then ∃ v8 M9, Cl d m_X_alikePrints [(2, 0), (0, w32 (Int.tdiv p1 100)), (0, w32 (Int.tmod p1 100)), (0, p2)] M (some (0, v8), M9) ∧ r = (some (0, v8), M9) else r = (some (0, (-1)), M)))) : Cl (d + 1) m_X_alike [(2, 0), (0, p1), (0, p2)] M r := by
  refine cl_of (c := k_X_alike) (mL := 3) (rz := 1) (rc := 0) (ls := [(2, 0), (0, p1), (0, p2)]) rfl rfl rfl ?_
  refine x_al (pc' := 1) rfl rfl (by decide) rfl ?_
  refine x_il (pc' := 2) rfl rfl rfl ?_
  obtain ⟨v2, q1, h⟩ := h
  refine x_call (pc' := 3) (as := [(2, 0), (0, p1)]) (rest := []) rfl rfl rfl rfl rfl rfl q1 ?_
  refine x_ifeq (pc' := 4) (t' := 7) rfl rfl rfl (fun q3 => ?_) (fun q3 => ?_)
  · replace h := ite_t q3 h
    refine x_c (pc' := 8) rfl rfl ?_
    exact x_iret rfl h
  · replace h := ite_f q3 h
    refine x_il (pc' := 5) rfl rfl rfl ?_
    obtain ⟨v5, q4, h⟩ := h
    refine x_call (pc' := 6) (as := [(0, p2)]) (rest := []) rfl rfl rfl rfl rfl rfl q4 ?_
    refine x_ifne (pc' := 7) (t' := 9) rfl rfl rfl (fun q6 => ?_) (fun q6 => ?_)
    · replace h := ite_t q6 h
      refine x_al (pc' := 10) rfl rfl (by decide) rfl ?_
      refine x_il (pc' := 11) rfl rfl rfl ?_
      refine x_c (pc' := 12) rfl rfl ?_
      refine x_ib (pc' := 13) (v := w32 (Int.tdiv p1 100)) rfl rfl rfl ?_
      refine x_il (pc' := 14) rfl rfl rfl ?_
      refine x_c (pc' := 15) rfl rfl ?_
      refine x_ib (pc' := 16) (v := w32 (Int.tmod p1 100)) rfl rfl rfl ?_
      refine x_il (pc' := 17) rfl rfl rfl ?_
      obtain ⟨v8, M9, q7, h⟩ := h
      refine x_call (pc' := 18) (as := [(2, 0), (0, w32 (Int.tdiv p1 100)), (0, w32 (Int.tmod p1 100)), (0, p2)]) (rest := []) rfl rfl rfl rfl rfl rfl q7 ?_
      exact x_iret rfl h
    · replace h := ite_f q6 h
      refine x_c (pc' := 8) rfl rfl ?_
      exact x_iret rfl h
theorem sg_X_areCards {d : Nat} {p1 : Int} {M : Mem} {r : Res} (h : (if p1 < 0 then r = (some (0, 0), M) else ∃ v3, Cl d m_C_has [(2, 1), (0, w32 (Int.tdiv p1 100))] M (some (0, v3), M) ∧ (if v3 = 0 then r = (some (0, 0), M) else ∃ v6, Cl d m_C_has [(2, 1), (0, w32 (Int.tmod p1 100))] M (some (0, v6), M) ∧ (if v6 = 0 then r = (some (0, 0), M) else r = (some (0, 1), M))))) : Cl (d + 1) m_X_areCards [(2, 0), (0, p1)] M r := by
  refine cl_of (c := k_X_areCards) (mL := 2) (rz := 3) (rc := 0) (ls := [(2, 0), (0, p1)]) rfl rfl rfl ?_
  refine x_il (pc' := 1) rfl rfl rfl ?_
  refine x_iflt (pc' := 2) (t' := 18) rfl rfl rfl (fun q1 => ?_) (fun q1 => ?_)
  · replace h := ite_t q1 h
    refine x_c (pc' := 19) rfl rfl ?_
    exact x_zret rfl (by decide) h
  · replace h := ite_f q1 h
    refine x_al (pc' := 3) rfl rfl (by decide) rfl ?_
    refine x_gr (pc' := 4) (v := 1) rfl rfl rfl (by decide) rfl ?_
    refine x_il (pc' := 5) rfl rfl rfl ?_
    refine x_c (pc' := 6) rfl rfl ?_
    refine x_ib (pc' := 7) (v := w32 (Int.tdiv p1 100)) rfl rfl rfl ?_
    obtain ⟨v3, q2, h⟩ := h
    refine x_call (pc' := 8) (as := [(2, 1), (0, w32 (Int.tdiv p1 100))]) (rest := []) rfl rfl rfl rfl rfl rfl q2 ?_
    refine x_ifeq (pc' := 9) (t' := 18) rfl rfl rfl (fun q4 => ?_) (fun q4 => ?_)
    · replace h := ite_t q4 h
      refine x_c (pc' := 19) rfl rfl ?_
      exact x_zret rfl (by decide) h
    · replace h := ite_f q4 h
      refine x_al (pc' := 10) rfl rfl (by decide) rfl ?_
      refine x_gr (pc' := 11) (v := 1) rfl rfl rfl (by decide) rfl ?_
      refine x_il (pc' := 12) rfl rfl rfl ?_
      refine x_c (pc' := 13) rfl rfl ?_
      refine x_ib (pc' := 14) (v := w32 (Int.tmod p1 100)) rfl rfl rfl ?_
      obtain ⟨v6, q5, h⟩ := h
      refine x_call (pc' := 15) (as := [(2, 1), (0, w32 (Int.tmod p1 100))]) (rest := []) rfl rfl rfl rfl rfl rfl q5 ?_
      refine x_ifeq (pc' := 16) (t' := 18) rfl rfl rfl (fun q7 => ?_) (fun q7 => ?_)
      · replace h := ite_t q7 h
        refine x_c (pc' := 19) rfl rfl ?_
        exact x_zret rfl (by decide) h
      · replace h := ite_f q7 h
        refine x_c (pc' := 17) rfl rfl ?_
        refine x_goto (t' := 19) rfl rfl ?_
        exact x_zret rfl (by decide) h
theorem sg_X_alikePrints {d : Nat} {p1 p2 p3 : Int} {M : Mem} {r : Res} (h : (0 ≤ p1 ∧ p1 < 12) ∧ (0 ≤ p3 ∧ p3 < 10) ∧ (0 ≤ p1 ∧ p1 < 12) ∧ (0 ≤ p3 ∧ p3 < 10) ∧ ∃ v6 M7, Cl d m_X_alikeness [(2, 0), (0, M ((3 + p1).toNat) p3), (0, M ((16 + p1).toNat) p3), (0, p2), (0, p3)] M (some (0, v6), M7) ∧ r = (some (0, v6), M7)) : Cl (d + 1) m_X_alikePrints [(2, 0), (0, p1), (0, p2), (0, p3)] M r := by
  refine cl_of (c := k_X_alikePrints) (mL := 4) (rz := 1) (rc := 0) (ls := [(2, 0), (0, p1), (0, p2), (0, p3)]) rfl rfl rfl ?_
  refine x_al (pc' := 1) rfl rfl (by decide) rfl ?_
  refine x_al (pc' := 2) rfl rfl (by decide) rfl ?_
  refine x_gr (pc' := 3) (v := 1) rfl rfl rfl (by decide) rfl ?_
  refine x_gr (pc' := 4) (v := 2) rfl rfl rfl (by decide) rfl ?_
  refine x_il (pc' := 5) rfl rfl rfl ?_
  obtain ⟨q1, h⟩ := h
  refine x_aa (pc' := 6) (v := (3 + p1)) 2 12 rfl rfl (Or.inl rfl) q1.1 q1.2 (show rfc 2 p1 = (3 + p1) from if_pos ⟨q1.1, q1.2⟩) (by have := q1.1; omega) rfl ?_
  refine x_il (pc' := 7) rfl rfl rfl ?_
  obtain ⟨q2, h⟩ := h
  refine x_ia (pc' := 8) 10 (v := M ((3 + p1).toNat) p3) rfl rfl (arK_2d q1.1 q1.2 (Or.inl rfl)) q2.1 q2.2 rfl ?_
  refine x_al (pc' := 9) rfl rfl (by decide) rfl ?_
  refine x_gr (pc' := 10) (v := 1) rfl rfl rfl (by decide) rfl ?_
  refine x_gr (pc' := 11) (v := 15) rfl rfl rfl (by decide) rfl ?_
  refine x_il (pc' := 12) rfl rfl rfl ?_
  obtain ⟨q3, h⟩ := h
  refine x_aa (pc' := 13) (v := (16 + p1)) 2 12 rfl rfl (Or.inl rfl) q3.1 q3.2 (show rfc 15 p1 = (16 + p1) from if_pos ⟨q3.1, q3.2⟩) (by have := q3.1; omega) rfl ?_
  refine x_il (pc' := 14) rfl rfl rfl ?_
  obtain ⟨q4, h⟩ := h
  refine x_ia (pc' := 15) 10 (v := M ((16 + p1).toNat) p3) rfl rfl (arK_2d q3.1 q3.2 (Or.inr rfl)) q4.1 q4.2 rfl ?_
  refine x_il (pc' := 16) rfl rfl rfl ?_
  refine x_il (pc' := 17) rfl rfl rfl ?_
  obtain ⟨v6, M7, q5, h⟩ := h
  refine x_call (pc' := 18) (as := [(2, 0), (0, M ((3 + p1).toNat) p3), (0, M ((16 + p1).toNat) p3), (0, p2), (0, p3)]) (rest := []) rfl rfl rfl rfl rfl rfl q5 ?_
  exact x_iret rfl h
theorem sg_X_alikeness {d : Nat} {p1 p2 p3 p4 : Int} {M : Mem} {r : Res} (h : (0 ≤ p3 ∧ p3 < 12) ∧ (0 ≤ p4 ∧ p4 < 10) ∧ (0 ≤ p3 ∧ p3 < 12) ∧ (0 ≤ p4 ∧ p4 < 10) ∧ ∃ v6, Cl d m_X_mayBeSame [(0, p1), (0, M ((3 + p3).toNat) p4)] M (some (0, v6), M) ∧ ∃ v8, Cl d m_X_truth [(0, v6)] M (some (0, v8), M) ∧ ∃ M10, Cl d m_L_name [(2, 31), (0, p4), (0, p1), (0, M ((3 + p3).toNat) p4), (0, (if 0 ≤ w32 (p2 - (M ((16 + p3).toNat) p4)) then w32 (p2 - (M ((16 + p3).toNat) p4)) else w32 (0 - (w32 (p2 - (M ((16 + p3).toNat) p4)))))), (0, v8), (0, M 1 6)] M (none, M10) ∧ ∃ v12 M13, Cl d m_L_alikeness [(2, 31)] M10 (some (0, v12), M13) ∧ r = (some (0, v12), M13)) : Cl (d + 1) m_X_alikeness [(2, 0), (0, p1), (0, p2), (0, p3), (0, p4)] M r := by
  refine cl_of (c := k_X_alikeness) (mL := 7) (rz := 1) (rc := 0) (ls := [(2, 0), (0, p1), (0, p2), (0, p3), (0, p4), (3, 0), (3, 0)]) rfl rfl rfl ?_
  refine x_al (pc' := 1) rfl rfl (by decide) rfl ?_
  refine x_gr (pc' := 2) (v := 1) rfl rfl rfl (by decide) rfl ?_
  refine x_gr (pc' := 3) (v := 2) rfl rfl rfl (by decide) rfl ?_
  refine x_il (pc' := 4) rfl rfl rfl ?_
  obtain ⟨q1, h⟩ := h
  refine x_aa (pc' := 5) (v := (3 + p3)) 2 12 rfl rfl (Or.inl rfl) q1.1 q1.2 (show rfc 2 p3 = (3 + p3) from if_pos ⟨q1.1, q1.2⟩) (by have := q1.1; omega) rfl ?_
  refine x_il (pc' := 6) rfl rfl rfl ?_
  obtain ⟨q2, h⟩ := h
  refine x_ia (pc' := 7) 10 (v := M ((3 + p3).toNat) p4) rfl rfl (arK_2d q1.1 q1.2 (Or.inl rfl)) q2.1 q2.2 rfl ?_
  refine x_is (pc' := 8) (ls' := [(2, 0), (0, p1), (0, p2), (0, p3), (0, p4), (0, M ((3 + p3).toNat) p4), (3, 0)]) rfl rfl rfl rfl ?_
  refine x_il (pc' := 9) rfl rfl rfl ?_
  refine x_al (pc' := 10) rfl rfl (by decide) rfl ?_
  refine x_gr (pc' := 11) (v := 1) rfl rfl rfl (by decide) rfl ?_
  refine x_gr (pc' := 12) (v := 15) rfl rfl rfl (by decide) rfl ?_
  refine x_il (pc' := 13) rfl rfl rfl ?_
  obtain ⟨q3, h⟩ := h
  refine x_aa (pc' := 14) (v := (16 + p3)) 2 12 rfl rfl (Or.inl rfl) q3.1 q3.2 (show rfc 15 p3 = (16 + p3) from if_pos ⟨q3.1, q3.2⟩) (by have := q3.1; omega) rfl ?_
  refine x_il (pc' := 15) rfl rfl rfl ?_
  obtain ⟨q4, h⟩ := h
  refine x_ia (pc' := 16) 10 (v := M ((16 + p3).toNat) p4) rfl rfl (arK_2d q3.1 q3.2 (Or.inr rfl)) q4.1 q4.2 rfl ?_
  refine x_ib (pc' := 17) (v := w32 (p2 - (M ((16 + p3).toNat) p4))) rfl rfl rfl ?_
  refine x_abs (pc' := 18) rfl rfl rfl ?_
  refine x_is (pc' := 19) (ls' := [(2, 0), (0, p1), (0, p2), (0, p3), (0, p4), (0, M ((3 + p3).toNat) p4), (0, (if 0 ≤ w32 (p2 - (M ((16 + p3).toNat) p4)) then w32 (p2 - (M ((16 + p3).toNat) p4)) else w32 (0 - (w32 (p2 - (M ((16 + p3).toNat) p4))))))]) rfl rfl rfl rfl ?_
  refine x_al (pc' := 20) rfl rfl (by decide) rfl ?_
  refine x_gr (pc' := 21) (v := 31) rfl rfl rfl (by decide) rfl ?_
  refine x_il (pc' := 22) rfl rfl rfl ?_
  refine x_il (pc' := 23) rfl rfl rfl ?_
  refine x_il (pc' := 24) rfl rfl rfl ?_
  refine x_il (pc' := 25) rfl rfl rfl ?_
  refine x_il (pc' := 26) rfl rfl rfl ?_
  refine x_il (pc' := 27) rfl rfl rfl ?_
  obtain ⟨v6, q5, h⟩ := h
  refine x_call (pc' := 28) (as := [(0, p1), (0, M ((3 + p3).toNat) p4)]) (rest := [(0, (if 0 ≤ w32 (p2 - (M ((16 + p3).toNat) p4)) then w32 (p2 - (M ((16 + p3).toNat) p4)) else w32 (0 - (w32 (p2 - (M ((16 + p3).toNat) p4)))))), (0, M ((3 + p3).toNat) p4), (0, p1), (0, p4), (2, 31)]) rfl rfl rfl rfl rfl rfl q5 ?_
  obtain ⟨v8, q7, h⟩ := h
  refine x_call (pc' := 29) (as := [(0, v6)]) (rest := [(0, (if 0 ≤ w32 (p2 - (M ((16 + p3).toNat) p4)) then w32 (p2 - (M ((16 + p3).toNat) p4)) else w32 (0 - (w32 (p2 - (M ((16 + p3).toNat) p4)))))), (0, M ((3 + p3).toNat) p4), (0, p1), (0, p4), (2, 31)]) rfl rfl rfl rfl rfl rfl q7 ?_
  refine x_al (pc' := 30) rfl rfl (by decide) rfl ?_
  refine x_gr (pc' := 31) (v := 1) rfl rfl rfl (by decide) rfl ?_
  refine x_gf (pc' := 32) (v := M 1 6) rfl rfl rfl rfl rfl ?_
  obtain ⟨M10, q9, h⟩ := h
  refine x_callv (pc' := 33) (as := [(2, 31), (0, p4), (0, p1), (0, M ((3 + p3).toNat) p4), (0, (if 0 ≤ w32 (p2 - (M ((16 + p3).toNat) p4)) then w32 (p2 - (M ((16 + p3).toNat) p4)) else w32 (0 - (w32 (p2 - (M ((16 + p3).toNat) p4)))))), (0, v8), (0, M 1 6)]) (rest := []) rfl rfl rfl rfl rfl rfl q9 ?_
  refine x_al (pc' := 34) rfl rfl (by decide) rfl ?_
  refine x_gr (pc' := 35) (v := 31) rfl rfl rfl (by decide) rfl ?_
  obtain ⟨v12, M13, q11, h⟩ := h
  refine x_call (pc' := 36) (as := [(2, 31)]) (rest := []) rfl rfl rfl rfl rfl rfl q11 ?_
  exact x_iret rfl h
theorem sg_X_mayBeSame {d : Nat} {p1 p2 : Int} {M : Mem} {r : Res} (h : ∃ v2, Cl d m_X_isSort [(1, p1)] M (some (0, v2), M) ∧ (if v2 = 0 then r = (some (0, 0), M) else ∃ v5, Cl d m_X_isSort [(1, p2)] M (some (0, v5), M) ∧ (if v5 = 0 then r = (some (0, 0), M) else (0 ≤ p1 ∧ p1 < 6) ∧ (0 ≤ p2 ∧ p2 < 6) ∧ (if iand (stc 90 p1) (stc 90 p2) = 0 then r = (some (0, 0), M) else r = (some (0, 1), M))))) : Cl (d + 1) m_X_mayBeSame [(0, p1), (0, p2)] M r := by
  refine cl_of (c := k_X_mayBeSame) (mL := 2) (rz := 3) (rc := 99) (ls := [(0, p1), (0, p2)]) rfl rfl rfl ?_
  refine x_il (pc' := 1) rfl rfl rfl ?_
  refine x_i2l (pc' := 2) rfl rfl ?_
  obtain ⟨v2, q1, h⟩ := h
  refine x_call (pc' := 3) (as := [(1, p1)]) (rest := []) rfl rfl rfl rfl rfl rfl q1 ?_
  refine x_ifeq (pc' := 4) (t' := 18) rfl rfl rfl (fun q3 => ?_) (fun q3 => ?_)
  · replace h := ite_t q3 h
    refine x_c (pc' := 19) rfl rfl ?_
    exact x_zret rfl (by decide) h
  · replace h := ite_f q3 h
    refine x_il (pc' := 5) rfl rfl rfl ?_
    refine x_i2l (pc' := 6) rfl rfl ?_
    obtain ⟨v5, q4, h⟩ := h
    refine x_call (pc' := 7) (as := [(1, p2)]) (rest := []) rfl rfl rfl rfl rfl rfl q4 ?_
    refine x_ifeq (pc' := 8) (t' := 18) rfl rfl rfl (fun q6 => ?_) (fun q6 => ?_)
    · replace h := ite_t q6 h
      refine x_c (pc' := 19) rfl rfl ?_
      exact x_zret rfl (by decide) h
    · replace h := ite_f q6 h
      refine x_gs (pc' := 9) rfl rfl rfl ?_
      refine x_il (pc' := 10) rfl rfl rfl ?_
      obtain ⟨q7, h⟩ := h
      refine x_iav (pc' := 11) (v := stc 90 p1) rfl (ld_st 90 6 rfl q7) rfl ?_
      refine x_gs (pc' := 12) rfl rfl rfl ?_
      refine x_il (pc' := 13) rfl rfl rfl ?_
      obtain ⟨q8, h⟩ := h
      refine x_iav (pc' := 14) (v := stc 90 p2) rfl (ld_st 90 6 rfl q8) rfl ?_
      refine x_ib (pc' := 15) (v := iand (stc 90 p1) (stc 90 p2)) rfl rfl rfl ?_
      refine x_ifeq (pc' := 16) (t' := 18) rfl rfl rfl (fun q9 => ?_) (fun q9 => ?_)
      · replace h := ite_t q9 h
        refine x_c (pc' := 19) rfl rfl ?_
        exact x_zret rfl (by decide) h
      · replace h := ite_f q9 h
        refine x_c (pc' := 17) rfl rfl ?_
        refine x_goto (t' := 19) rfl rfl ?_
        exact x_zret rfl (by decide) h
theorem sg_X_truth {d : Nat} {p1 : Int} {M : Mem} {r : Res} (h : (if p1 = 0 then r = (some (0, 0), M) else r = (some (0, 1), M))) : Cl (d + 1) m_X_truth [(0, p1)] M r := by
  refine cl_of (c := k_X_truth) (mL := 1) (rz := 1) (rc := 99) (ls := [(0, p1)]) rfl rfl rfl ?_
  refine x_il (pc' := 1) rfl rfl rfl ?_
  refine x_ifeq (pc' := 2) (t' := 4) rfl rfl rfl (fun q1 => ?_) (fun q1 => ?_)
  · replace h := ite_t q1 h
    refine x_c (pc' := 5) rfl rfl ?_
    exact x_iret rfl h
  · replace h := ite_f q1 h
    refine x_c (pc' := 3) rfl rfl ?_
    refine x_goto (t' := 5) rfl rfl ?_
    exact x_iret rfl h
theorem sg_X_drawer {d : Nat} {p1 p2 : Int} {M : Mem} {r : Res} (h : ∃ v2, Cl d m_C_has [(2, 1), (0, p1)] M (some (0, v2), M) ∧ (if ¬ v2 = 0 then (0 ≤ p1 ∧ p1 < 12) ∧ (0 ≤ p1 ∧ p1 < 12) ∧ (if p2 = 0 then r = (some (0, M 28 p1), M) else (if p2 = 1 then r = (some (0, ior (M 28 p1) (M 29 p1)), M) else (if p2 = 2 then ∃ v10, Cl d m_J_bitCount [(0, M 29 p1)] M (some (0, v10), M) ∧ r = (some (0, ishl 1 v10), M) else (if p2 = 3 then ∃ v13, Cl d m_J_bitCount [(0, M 28 p1)] M (some (0, v13), M) ∧ r = (some (0, v13), M) else (if p2 = 4 then ∃ v16, Cl d m_J_bitCount [(0, ior (M 28 p1) (M 29 p1))] M (some (0, v16), M) ∧ r = (some (0, v16), M) else r = (some (0, (-1)), M)))))) else r = (some (0, (-1)), M))) : Cl (d + 1) m_X_drawer [(2, 0), (0, p1), (0, p2)] M r := by
  refine cl_of (c := k_X_drawer) (mL := 5) (rz := 1) (rc := 0) (ls := [(2, 0), (0, p1), (0, p2), (3, 0), (3, 0)]) rfl rfl rfl ?_
  refine x_al (pc' := 1) rfl rfl (by decide) rfl ?_
  refine x_gr (pc' := 2) (v := 1) rfl rfl rfl (by decide) rfl ?_
  refine x_il (pc' := 3) rfl rfl rfl ?_
  obtain ⟨v2, q1, h⟩ := h
  refine x_call (pc' := 4) (as := [(2, 1), (0, p1)]) (rest := []) rfl rfl rfl rfl rfl rfl q1 ?_
  refine x_ifne (pc' := 5) (t' := 7) rfl rfl rfl (fun q3 => ?_) (fun q3 => ?_)
  · replace h := ite_t q3 h
    refine x_al (pc' := 8) rfl rfl (by decide) rfl ?_
    refine x_gr (pc' := 9) (v := 1) rfl rfl rfl (by decide) rfl ?_
    refine x_gr (pc' := 10) (v := 28) rfl rfl rfl (by decide) rfl ?_
    refine x_il (pc' := 11) rfl rfl rfl ?_
    obtain ⟨q4, h⟩ := h
    refine x_ia (pc' := 12) 12 (v := M 28 p1) rfl rfl rfl q4.1 q4.2 rfl ?_
    refine x_is (pc' := 13) (ls' := [(2, 0), (0, p1), (0, p2), (0, M 28 p1), (3, 0)]) rfl rfl rfl rfl ?_
    refine x_al (pc' := 14) rfl rfl (by decide) rfl ?_
    refine x_gr (pc' := 15) (v := 1) rfl rfl rfl (by decide) rfl ?_
    refine x_gr (pc' := 16) (v := 29) rfl rfl rfl (by decide) rfl ?_
    refine x_il (pc' := 17) rfl rfl rfl ?_
    obtain ⟨q5, h⟩ := h
    refine x_ia (pc' := 18) 12 (v := M 29 p1) rfl rfl rfl q5.1 q5.2 rfl ?_
    refine x_is (pc' := 19) (ls' := [(2, 0), (0, p1), (0, p2), (0, M 28 p1), (0, M 29 p1)]) rfl rfl rfl rfl ?_
    refine x_il (pc' := 20) rfl rfl rfl ?_
    by_cases q6 : p2 = 0
    · replace h := ite_t q6 h
      refine x_tswv (t' := 21) 0 rfl q6 rfl rfl ?_
      refine x_il (pc' := 22) rfl rfl rfl ?_
      exact x_iret rfl h
    replace h := ite_f q6 h
    by_cases q7 : p2 = 1
    · replace h := ite_t q7 h
      refine x_tswv (t' := 23) 1 rfl q7 rfl rfl ?_
      refine x_il (pc' := 24) rfl rfl rfl ?_
      refine x_il (pc' := 25) rfl rfl rfl ?_
      refine x_ib (pc' := 26) (v := ior (M 28 p1) (M 29 p1)) rfl rfl rfl ?_
      exact x_iret rfl h
    replace h := ite_f q7 h
    by_cases q8 : p2 = 2
    · replace h := ite_t q8 h
      refine x_tswv (t' := 27) 2 rfl q8 rfl rfl ?_
      refine x_c (pc' := 28) rfl rfl ?_
      refine x_il (pc' := 29) rfl rfl rfl ?_
      obtain ⟨v10, q9, h⟩ := h
      refine x_call (pc' := 30) (as := [(0, M 29 p1)]) (rest := [(0, 1)]) rfl rfl rfl rfl rfl rfl q9 ?_
      refine x_ib (pc' := 31) (v := ishl 1 v10) rfl rfl rfl ?_
      exact x_iret rfl h
    replace h := ite_f q8 h
    by_cases q11 : p2 = 3
    · replace h := ite_t q11 h
      refine x_tswv (t' := 32) 3 rfl q11 rfl rfl ?_
      refine x_il (pc' := 33) rfl rfl rfl ?_
      obtain ⟨v13, q12, h⟩ := h
      refine x_call (pc' := 34) (as := [(0, M 28 p1)]) (rest := []) rfl rfl rfl rfl rfl rfl q12 ?_
      exact x_iret rfl h
    replace h := ite_f q11 h
    by_cases q14 : p2 = 4
    · replace h := ite_t q14 h
      refine x_tswv (t' := 35) 4 rfl q14 rfl rfl ?_
      refine x_il (pc' := 36) rfl rfl rfl ?_
      refine x_il (pc' := 37) rfl rfl rfl ?_
      refine x_ib (pc' := 38) (v := ior (M 28 p1) (M 29 p1)) rfl rfl rfl ?_
      obtain ⟨v16, q15, h⟩ := h
      refine x_call (pc' := 39) (as := [(0, ior (M 28 p1) (M 29 p1))]) (rest := []) rfl rfl rfl rfl rfl rfl q15 ?_
      exact x_iret rfl h
    replace h := ite_f q14 h
    refine x_tswd (t' := 40) rfl (show p2 < 0 ∨ 0 + ((5 : Nat) : Int) ≤ p2 by omega) rfl ?_
    refine x_c (pc' := 41) rfl rfl ?_
    exact x_iret rfl h
  · replace h := ite_f q3 h
    refine x_c (pc' := 6) rfl rfl ?_
    exact x_iret rfl h
theorem sg_X_may {d : Nat} {p1 p2 : Int} {M : Mem} {r : Res} (h : ∃ v2, Cl d m_C_has [(2, 1), (0, p1)] M (some (0, v2), M) ∧ (if v2 = 0 then r = (some (0, (-1)), M) else ∃ v5, Cl d m_X_isDrawer [(0, p2)] M (some (0, v5), M) ∧ (if ¬ v5 = 0 then ∃ v8, Cl d m_C_mayLie [(2, 1), (0, p1), (0, p2)] M (some (0, v8), M) ∧ ∃ v10, Cl d m_X_truth [(0, v8)] M (some (0, v10), M) ∧ r = (some (0, v10), M) else r = (some (0, (-1)), M)))) : Cl (d + 1) m_X_may [(2, 0), (0, p1), (0, p2)] M r := by
  refine cl_of (c := k_X_may) (mL := 3) (rz := 1) (rc := 0) (ls := [(2, 0), (0, p1), (0, p2)]) rfl rfl rfl ?_
  refine x_al (pc' := 1) rfl rfl (by decide) rfl ?_
  refine x_gr (pc' := 2) (v := 1) rfl rfl rfl (by decide) rfl ?_
  refine x_il (pc' := 3) rfl rfl rfl ?_
  obtain ⟨v2, q1, h⟩ := h
  refine x_call (pc' := 4) (as := [(2, 1), (0, p1)]) (rest := []) rfl rfl rfl rfl rfl rfl q1 ?_
  refine x_ifeq (pc' := 5) (t' := 8) rfl rfl rfl (fun q3 => ?_) (fun q3 => ?_)
  · replace h := ite_t q3 h
    refine x_c (pc' := 9) rfl rfl ?_
    exact x_iret rfl h
  · replace h := ite_f q3 h
    refine x_il (pc' := 6) rfl rfl rfl ?_
    obtain ⟨v5, q4, h⟩ := h
    refine x_call (pc' := 7) (as := [(0, p2)]) (rest := []) rfl rfl rfl rfl rfl rfl q4 ?_
    refine x_ifne (pc' := 8) (t' := 10) rfl rfl rfl (fun q6 => ?_) (fun q6 => ?_)
    · replace h := ite_t q6 h
      refine x_al (pc' := 11) rfl rfl (by decide) rfl ?_
      refine x_gr (pc' := 12) (v := 1) rfl rfl rfl (by decide) rfl ?_
      refine x_il (pc' := 13) rfl rfl rfl ?_
      refine x_il (pc' := 14) rfl rfl rfl ?_
      obtain ⟨v8, q7, h⟩ := h
      refine x_call (pc' := 15) (as := [(2, 1), (0, p1), (0, p2)]) (rest := []) rfl rfl rfl rfl rfl rfl q7 ?_
      obtain ⟨v10, q9, h⟩ := h
      refine x_call (pc' := 16) (as := [(0, v8)]) (rest := []) rfl rfl rfl rfl rfl rfl q9 ?_
      exact x_iret rfl h
    · replace h := ite_f q6 h
      refine x_c (pc' := 9) rfl rfl ?_
      exact x_iret rfl h
theorem sg_X_isDrawer {d : Nat} {p1 : Int} {M : Mem} {r : Res} (h : (if p1 < 0 then r = (some (0, 0), M) else (if 1024 ≤ p1 then r = (some (0, 0), M) else r = (some (0, 1), M)))) : Cl (d + 1) m_X_isDrawer [(0, p1)] M r := by
  refine cl_of (c := k_X_isDrawer) (mL := 1) (rz := 3) (rc := 99) (ls := [(0, p1)]) rfl rfl rfl ?_
  refine x_il (pc' := 1) rfl rfl rfl ?_
  refine x_iflt (pc' := 2) (t' := 7) rfl rfl rfl (fun q1 => ?_) (fun q1 => ?_)
  · replace h := ite_t q1 h
    refine x_c (pc' := 8) rfl rfl ?_
    exact x_zret rfl (by decide) h
  · replace h := ite_f q1 h
    refine x_il (pc' := 3) rfl rfl rfl ?_
    refine x_c (pc' := 4) rfl rfl ?_
    refine x_icge (pc' := 5) (t' := 7) rfl rfl rfl (fun q2 => ?_) (fun q2 => ?_)
    · replace h := ite_t q2 h
      refine x_c (pc' := 8) rfl rfl ?_
      exact x_zret rfl (by decide) h
    · replace h := ite_f q2 h
      refine x_c (pc' := 6) rfl rfl ?_
      refine x_goto (t' := 8) rfl rfl ?_
      exact x_zret rfl (by decide) h
def at_X_misfiled_4 (d : Nat) (l1 : Int) (l2 : Int) (w3 : AV) (M : Mem) (r : Res) : Prop := Ex sx0 d k_X_misfiled 1 4 [(2, 0), (0, l1), (0, l2), w3] [] M r
theorem sg_X_misfiled {d : Nat} {M : Mem} {r : Res} (h : at_X_misfiled_4 d 0 0 (3, 0) M r) : Cl (d + 1) m_X_misfiled [(2, 0)] M r := by
  refine cl_of (c := k_X_misfiled) (mL := 4) (rz := 1) (rc := 0) (ls := [(2, 0), (3, 0), (3, 0), (3, 0)]) rfl rfl rfl ?_
  refine x_c (pc' := 1) rfl rfl ?_
  refine x_is (pc' := 2) (ls' := [(2, 0), (0, 0), (3, 0), (3, 0)]) rfl rfl rfl rfl ?_
  refine x_c (pc' := 3) rfl rfl ?_
  refine x_is (pc' := 4) (ls' := [(2, 0), (0, 0), (0, 0), (3, 0)]) rfl rfl rfl rfl ?_
  exact h
theorem sg_X_misfiled_4 {d : Nat} {l1 : Int} {l2 : Int} {w3 : AV} {M : Mem} {r : Res} (h : (if M 1 5 ≤ l2 then r = (some (0, l1), M) else (0 ≤ l2 ∧ l2 < 12) ∧ ∃ v4, Cl d m_X_isDrawer [(0, M 30 l2)] M (some (0, v4), M) ∧ (if v4 = 0 then at_X_misfiled_4 d l1 (w32 (l2 + 1)) (0, M 30 l2) M r else ∃ v7, Cl d m_C_mayLie [(2, 1), (0, l2), (0, M 30 l2)] M (some (0, v7), M) ∧ (if ¬ v7 = 0 then at_X_misfiled_4 d l1 (w32 (l2 + 1)) (0, M 30 l2) M r else at_X_misfiled_4 d (ior l1 (ishl 1 l2)) (w32 (l2 + 1)) (0, M 30 l2) M r)))) : at_X_misfiled_4 d l1 l2 w3 M r := by
  unfold at_X_misfiled_4
  refine x_il (pc' := 5) rfl rfl rfl ?_
  refine x_al (pc' := 6) rfl rfl (by decide) rfl ?_
  refine x_gr (pc' := 7) (v := 1) rfl rfl rfl (by decide) rfl ?_
  refine x_gf (pc' := 8) (v := M 1 5) rfl rfl rfl rfl rfl ?_
  refine x_icge (pc' := 9) (t' := 32) rfl rfl rfl (fun q1 => ?_) (fun q1 => ?_)
  · replace h := ite_t q1 h
    refine x_il (pc' := 33) rfl rfl rfl ?_
    exact x_iret rfl h
  · replace h := ite_f q1 h
    refine x_al (pc' := 10) rfl rfl (by decide) rfl ?_
    refine x_gr (pc' := 11) (v := 1) rfl rfl rfl (by decide) rfl ?_
    refine x_gr (pc' := 12) (v := 30) rfl rfl rfl (by decide) rfl ?_
    refine x_il (pc' := 13) rfl rfl rfl ?_
    obtain ⟨q2, h⟩ := h
    refine x_ia (pc' := 14) 12 (v := M 30 l2) rfl rfl rfl q2.1 q2.2 rfl ?_
    refine x_is (pc' := 15) (ls' := [(2, 0), (0, l1), (0, l2), (0, M 30 l2)]) rfl rfl rfl rfl ?_
    refine x_il (pc' := 16) rfl rfl rfl ?_
    obtain ⟨v4, q3, h⟩ := h
    refine x_call (pc' := 17) (as := [(0, M 30 l2)]) (rest := []) rfl rfl rfl rfl rfl rfl q3 ?_
    refine x_ifeq (pc' := 18) (t' := 30) rfl rfl rfl (fun q5 => ?_) (fun q5 => ?_)
    · replace h := ite_t q5 h
      refine x_inc (pc' := 31) (ls' := [(2, 0), (0, l1), (0, w32 (l2 + 1)), (0, M 30 l2)]) rfl rfl rfl rfl ?_
      refine x_goto (t' := 4) rfl rfl ?_
      exact h
    · replace h := ite_f q5 h
      refine x_al (pc' := 19) rfl rfl (by decide) rfl ?_
      refine x_gr (pc' := 20) (v := 1) rfl rfl rfl (by decide) rfl ?_
      refine x_il (pc' := 21) rfl rfl rfl ?_
      refine x_il (pc' := 22) rfl rfl rfl ?_
      obtain ⟨v7, q6, h⟩ := h
      refine x_call (pc' := 23) (as := [(2, 1), (0, l2), (0, M 30 l2)]) (rest := []) rfl rfl rfl rfl rfl rfl q6 ?_
      refine x_ifne (pc' := 24) (t' := 30) rfl rfl rfl (fun q8 => ?_) (fun q8 => ?_)
      · replace h := ite_t q8 h
        refine x_inc (pc' := 31) (ls' := [(2, 0), (0, l1), (0, w32 (l2 + 1)), (0, M 30 l2)]) rfl rfl rfl rfl ?_
        refine x_goto (t' := 4) rfl rfl ?_
        exact h
      · replace h := ite_f q8 h
        refine x_il (pc' := 25) rfl rfl rfl ?_
        refine x_c (pc' := 26) rfl rfl ?_
        refine x_il (pc' := 27) rfl rfl rfl ?_
        refine x_ib (pc' := 28) (v := ishl 1 l2) rfl rfl rfl ?_
        refine x_ib (pc' := 29) (v := ior l1 (ishl 1 l2)) rfl rfl rfl ?_
        refine x_is (pc' := 30) (ls' := [(2, 0), (0, ior l1 (ishl 1 l2)), (0, l2), (0, M 30 l2)]) rfl rfl rfl rfl ?_
        refine x_inc (pc' := 31) (ls' := [(2, 0), (0, ior l1 (ishl 1 l2)), (0, w32 (l2 + 1)), (0, M 30 l2)]) rfl rfl rfl rfl ?_
        refine x_goto (t' := 4) rfl rfl ?_
        exact h
def at_X_found_30 (d : Nat) (l1 : Int) (l2 : Int) (l3 : Int) (l4 : Int) (M : Mem) (r : Res) : Prop := Ex sx0 d k_X_found 1 30 [(2, 0), (0, l1), (0, l2), (0, l3), (0, l4)] [] M r
theorem sg_X_found {d : Nat} {p1 : Int} {M : Mem} {r : Res} (h : ∃ v2, Cl d m_C_has [(2, 1), (0, p1)] M (some (0, v2), M) ∧ (if ¬ v2 = 0 then (0 ≤ p1 ∧ p1 < 12) ∧ ∃ v6, Cl d m_X_isDrawer [(0, M 30 p1)] M (some (0, v6), M) ∧ (if ¬ v6 = 0 then ∃ v9, Cl d m_C_mayLie [(2, 1), (0, p1), (0, M 30 p1)] M (some (0, v9), M) ∧ (if v9 = 0 then at_X_found_30 d p1 (M 30 p1) 0 1 M r else r = (some (0, 0), M)) else r = (some (0, (-2)), M)) else r = (some (0, (-1)), M))) : Cl (d + 1) m_X_found [(2, 0), (0, p1)] M r := by
  refine cl_of (c := k_X_found) (mL := 5) (rz := 1) (rc := 0) (ls := [(2, 0), (0, p1), (3, 0), (3, 0), (3, 0)]) rfl rfl rfl ?_
  refine x_al (pc' := 1) rfl rfl (by decide) rfl ?_
  refine x_gr (pc' := 2) (v := 1) rfl rfl rfl (by decide) rfl ?_
  refine x_il (pc' := 3) rfl rfl rfl ?_
  obtain ⟨v2, q1, h⟩ := h
  refine x_call (pc' := 4) (as := [(2, 1), (0, p1)]) (rest := []) rfl rfl rfl rfl rfl rfl q1 ?_
  refine x_ifne (pc' := 5) (t' := 7) rfl rfl rfl (fun q3 => ?_) (fun q3 => ?_)
  · replace h := ite_t q3 h
    refine x_al (pc' := 8) rfl rfl (by decide) rfl ?_
    refine x_gr (pc' := 9) (v := 1) rfl rfl rfl (by decide) rfl ?_
    refine x_gr (pc' := 10) (v := 30) rfl rfl rfl (by decide) rfl ?_
    refine x_il (pc' := 11) rfl rfl rfl ?_
    obtain ⟨q4, h⟩ := h
    refine x_ia (pc' := 12) 12 (v := M 30 p1) rfl rfl rfl q4.1 q4.2 rfl ?_
    refine x_is (pc' := 13) (ls' := [(2, 0), (0, p1), (0, M 30 p1), (3, 0), (3, 0)]) rfl rfl rfl rfl ?_
    refine x_il (pc' := 14) rfl rfl rfl ?_
    obtain ⟨v6, q5, h⟩ := h
    refine x_call (pc' := 15) (as := [(0, M 30 p1)]) (rest := []) rfl rfl rfl rfl rfl rfl q5 ?_
    refine x_ifne (pc' := 16) (t' := 18) rfl rfl rfl (fun q7 => ?_) (fun q7 => ?_)
    · replace h := ite_t q7 h
      refine x_al (pc' := 19) rfl rfl (by decide) rfl ?_
      refine x_gr (pc' := 20) (v := 1) rfl rfl rfl (by decide) rfl ?_
      refine x_il (pc' := 21) rfl rfl rfl ?_
      refine x_il (pc' := 22) rfl rfl rfl ?_
      obtain ⟨v9, q8, h⟩ := h
      refine x_call (pc' := 23) (as := [(2, 1), (0, p1), (0, M 30 p1)]) (rest := []) rfl rfl rfl rfl rfl rfl q8 ?_
      refine x_ifeq (pc' := 24) (t' := 26) rfl rfl rfl (fun q10 => ?_) (fun q10 => ?_)
      · replace h := ite_t q10 h
        refine x_c (pc' := 27) rfl rfl ?_
        refine x_is (pc' := 28) (ls' := [(2, 0), (0, p1), (0, M 30 p1), (0, 0), (3, 0)]) rfl rfl rfl rfl ?_
        refine x_c (pc' := 29) rfl rfl ?_
        refine x_is (pc' := 30) (ls' := [(2, 0), (0, p1), (0, M 30 p1), (0, 0), (0, 1)]) rfl rfl rfl rfl ?_
        exact h
      · replace h := ite_f q10 h
        refine x_c (pc' := 25) rfl rfl ?_
        exact x_iret rfl h
    · replace h := ite_f q7 h
      refine x_c (pc' := 17) rfl rfl ?_
      exact x_iret rfl h
  · replace h := ite_f q3 h
    refine x_c (pc' := 6) rfl rfl ?_
    exact x_iret rfl h
theorem sg_X_found_30 {d : Nat} {l1 : Int} {l2 : Int} {l3 : Int} {l4 : Int} {M : Mem} {r : Res} (h : (if 1024 ≤ l4 then r = (some (0, l3), M) else ∃ v3, Cl d m_X_isDrawer [(0, w32 (l2 + l4))] M (some (0, v3), M) ∧ (if v3 = 0 then ∃ v6, Cl d m_X_isDrawer [(0, w32 (l2 - l4))] M (some (0, v6), M) ∧ (if v6 = 0 then at_X_found_30 d l1 l2 l3 (w32 (l4 + 1)) M r else ∃ v9, Cl d m_C_mayLie [(2, 1), (0, l1), (0, w32 (l2 - l4))] M (some (0, v9), M) ∧ (if v9 = 0 then at_X_found_30 d l1 l2 (w32 (l3 + 1)) (w32 (l4 + 1)) M r else r = (some (0, w32 (l3 + 1)), M))) else ∃ v12, Cl d m_C_mayLie [(2, 1), (0, l1), (0, w32 (l2 + l4))] M (some (0, v12), M) ∧ (if v12 = 0 then ∃ v15, Cl d m_X_isDrawer [(0, w32 (l2 - l4))] M (some (0, v15), M) ∧ (if v15 = 0 then at_X_found_30 d l1 l2 (w32 (l3 + 1)) (w32 (l4 + 1)) M r else ∃ v18, Cl d m_C_mayLie [(2, 1), (0, l1), (0, w32 (l2 - l4))] M (some (0, v18), M) ∧ (if v18 = 0 then at_X_found_30 d l1 l2 (w32 (w32 (l3 + 1) + 1)) (w32 (l4 + 1)) M r else r = (some (0, w32 (w32 (l3 + 1) + 1)), M))) else r = (some (0, w32 (l3 + 1)), M))))) : at_X_found_30 d l1 l2 l3 l4 M r := by
  unfold at_X_found_30
  refine x_il (pc' := 31) rfl rfl rfl ?_
  refine x_c (pc' := 32) rfl rfl ?_
  refine x_icge (pc' := 33) (t' := 67) rfl rfl rfl (fun q1 => ?_) (fun q1 => ?_)
  · replace h := ite_t q1 h
    refine x_il (pc' := 68) rfl rfl rfl ?_
    exact x_iret rfl h
  · replace h := ite_f q1 h
    refine x_il (pc' := 34) rfl rfl rfl ?_
    refine x_il (pc' := 35) rfl rfl rfl ?_
    refine x_ib (pc' := 36) (v := w32 (l2 + l4)) rfl rfl rfl ?_
    obtain ⟨v3, q2, h⟩ := h
    refine x_call (pc' := 37) (as := [(0, w32 (l2 + l4))]) (rest := []) rfl rfl rfl rfl rfl rfl q2 ?_
    refine x_ifeq (pc' := 38) (t' := 49) rfl rfl rfl (fun q4 => ?_) (fun q4 => ?_)
    · replace h := ite_t q4 h
      refine x_il (pc' := 50) rfl rfl rfl ?_
      refine x_il (pc' := 51) rfl rfl rfl ?_
      refine x_ib (pc' := 52) (v := w32 (l2 - l4)) rfl rfl rfl ?_
      obtain ⟨v6, q5, h⟩ := h
      refine x_call (pc' := 53) (as := [(0, w32 (l2 - l4))]) (rest := []) rfl rfl rfl rfl rfl rfl q5 ?_
      refine x_ifeq (pc' := 54) (t' := 65) rfl rfl rfl (fun q7 => ?_) (fun q7 => ?_)
      · replace h := ite_t q7 h
        refine x_inc (pc' := 66) (ls' := [(2, 0), (0, l1), (0, l2), (0, l3), (0, w32 (l4 + 1))]) rfl rfl rfl rfl ?_
        refine x_goto (t' := 30) rfl rfl ?_
        exact h
      · replace h := ite_f q7 h
        refine x_inc (pc' := 55) (ls' := [(2, 0), (0, l1), (0, l2), (0, w32 (l3 + 1)), (0, l4)]) rfl rfl rfl rfl ?_
        refine x_al (pc' := 56) rfl rfl (by decide) rfl ?_
        refine x_gr (pc' := 57) (v := 1) rfl rfl rfl (by decide) rfl ?_
        refine x_il (pc' := 58) rfl rfl rfl ?_
        refine x_il (pc' := 59) rfl rfl rfl ?_
        refine x_il (pc' := 60) rfl rfl rfl ?_
        refine x_ib (pc' := 61) (v := w32 (l2 - l4)) rfl rfl rfl ?_
        obtain ⟨v9, q8, h⟩ := h
        refine x_call (pc' := 62) (as := [(2, 1), (0, l1), (0, w32 (l2 - l4))]) (rest := []) rfl rfl rfl rfl rfl rfl q8 ?_
        refine x_ifeq (pc' := 63) (t' := 65) rfl rfl rfl (fun q10 => ?_) (fun q10 => ?_)
        · replace h := ite_t q10 h
          refine x_inc (pc' := 66) (ls' := [(2, 0), (0, l1), (0, l2), (0, w32 (l3 + 1)), (0, w32 (l4 + 1))]) rfl rfl rfl rfl ?_
          refine x_goto (t' := 30) rfl rfl ?_
          exact h
        · replace h := ite_f q10 h
          refine x_il (pc' := 64) rfl rfl rfl ?_
          exact x_iret rfl h
    · replace h := ite_f q4 h
      refine x_inc (pc' := 39) (ls' := [(2, 0), (0, l1), (0, l2), (0, w32 (l3 + 1)), (0, l4)]) rfl rfl rfl rfl ?_
      refine x_al (pc' := 40) rfl rfl (by decide) rfl ?_
      refine x_gr (pc' := 41) (v := 1) rfl rfl rfl (by decide) rfl ?_
      refine x_il (pc' := 42) rfl rfl rfl ?_
      refine x_il (pc' := 43) rfl rfl rfl ?_
      refine x_il (pc' := 44) rfl rfl rfl ?_
      refine x_ib (pc' := 45) (v := w32 (l2 + l4)) rfl rfl rfl ?_
      obtain ⟨v12, q11, h⟩ := h
      refine x_call (pc' := 46) (as := [(2, 1), (0, l1), (0, w32 (l2 + l4))]) (rest := []) rfl rfl rfl rfl rfl rfl q11 ?_
      refine x_ifeq (pc' := 47) (t' := 49) rfl rfl rfl (fun q13 => ?_) (fun q13 => ?_)
      · replace h := ite_t q13 h
        refine x_il (pc' := 50) rfl rfl rfl ?_
        refine x_il (pc' := 51) rfl rfl rfl ?_
        refine x_ib (pc' := 52) (v := w32 (l2 - l4)) rfl rfl rfl ?_
        obtain ⟨v15, q14, h⟩ := h
        refine x_call (pc' := 53) (as := [(0, w32 (l2 - l4))]) (rest := []) rfl rfl rfl rfl rfl rfl q14 ?_
        refine x_ifeq (pc' := 54) (t' := 65) rfl rfl rfl (fun q16 => ?_) (fun q16 => ?_)
        · replace h := ite_t q16 h
          refine x_inc (pc' := 66) (ls' := [(2, 0), (0, l1), (0, l2), (0, w32 (l3 + 1)), (0, w32 (l4 + 1))]) rfl rfl rfl rfl ?_
          refine x_goto (t' := 30) rfl rfl ?_
          exact h
        · replace h := ite_f q16 h
          refine x_inc (pc' := 55) (ls' := [(2, 0), (0, l1), (0, l2), (0, w32 (w32 (l3 + 1) + 1)), (0, l4)]) rfl rfl rfl rfl ?_
          refine x_al (pc' := 56) rfl rfl (by decide) rfl ?_
          refine x_gr (pc' := 57) (v := 1) rfl rfl rfl (by decide) rfl ?_
          refine x_il (pc' := 58) rfl rfl rfl ?_
          refine x_il (pc' := 59) rfl rfl rfl ?_
          refine x_il (pc' := 60) rfl rfl rfl ?_
          refine x_ib (pc' := 61) (v := w32 (l2 - l4)) rfl rfl rfl ?_
          obtain ⟨v18, q17, h⟩ := h
          refine x_call (pc' := 62) (as := [(2, 1), (0, l1), (0, w32 (l2 - l4))]) (rest := []) rfl rfl rfl rfl rfl rfl q17 ?_
          refine x_ifeq (pc' := 63) (t' := 65) rfl rfl rfl (fun q19 => ?_) (fun q19 => ?_)
          · replace h := ite_t q19 h
            refine x_inc (pc' := 66) (ls' := [(2, 0), (0, l1), (0, l2), (0, w32 (w32 (l3 + 1) + 1)), (0, w32 (l4 + 1))]) rfl rfl rfl rfl ?_
            refine x_goto (t' := 30) rfl rfl ?_
            exact h
          · replace h := ite_f q19 h
            refine x_il (pc' := 64) rfl rfl rfl ?_
            exact x_iret rfl h
      · replace h := ite_f q13 h
        refine x_il (pc' := 48) rfl rfl rfl ?_
        exact x_iret rfl h
theorem sg_X_full {d : Nat} {p1 : Int} {M : Mem} {r : Res} (h : (if ¬ p1 = (-1) then (if ¬ p1 = (-2) then ∃ v4, Cl d m_X_isDrawer [(0, p1)] M (some (0, v4), M) ∧ (if v4 = 0 then r = (some (0, (-1)), M) else ∃ v7, Cl d m_X_cardsIn [(2, 0), (0, p1)] M (some (0, v7), M) ∧ r = (some (0, v7), M)) else ∃ v9, Cl d m_X_allCards [(2, 0)] M (some (0, v9), M) ∧ ∃ v11, Cl d m_X_countDrawers [(2, 0), (0, v9)] M (some (0, v11), M) ∧ r = (some (0, v11), M)) else ∃ v13, Cl d m_X_fullestDrawer [(2, 0)] M (some (0, v13), M) ∧ r = (some (0, v13), M))) : Cl (d + 1) m_X_full [(2, 0), (0, p1)] M r := by
  refine cl_of (c := k_X_full) (mL := 2) (rz := 1) (rc := 0) (ls := [(2, 0), (0, p1)]) rfl rfl rfl ?_
  refine x_il (pc' := 1) rfl rfl rfl ?_
  refine x_c (pc' := 2) rfl rfl ?_
  refine x_icne (pc' := 3) (t' := 6) rfl rfl rfl (fun q1 => ?_) (fun q1 => ?_)
  · replace h := ite_t q1 h
    refine x_il (pc' := 7) rfl rfl rfl ?_
    refine x_c (pc' := 8) rfl rfl ?_
    refine x_icne (pc' := 9) (t' := 14) rfl rfl rfl (fun q2 => ?_) (fun q2 => ?_)
    · replace h := ite_t q2 h
      refine x_il (pc' := 15) rfl rfl rfl ?_
      obtain ⟨v4, q3, h⟩ := h
      refine x_call (pc' := 16) (as := [(0, p1)]) (rest := []) rfl rfl rfl rfl rfl rfl q3 ?_
      refine x_ifeq (pc' := 17) (t' := 21) rfl rfl rfl (fun q5 => ?_) (fun q5 => ?_)
      · replace h := ite_t q5 h
        refine x_c (pc' := 22) rfl rfl ?_
        exact x_iret rfl h
      · replace h := ite_f q5 h
        refine x_al (pc' := 18) rfl rfl (by decide) rfl ?_
        refine x_il (pc' := 19) rfl rfl rfl ?_
        obtain ⟨v7, q6, h⟩ := h
        refine x_call (pc' := 20) (as := [(2, 0), (0, p1)]) (rest := []) rfl rfl rfl rfl rfl rfl q6 ?_
        refine x_goto (t' := 22) rfl rfl ?_
        exact x_iret rfl h
    · replace h := ite_f q2 h
      refine x_al (pc' := 10) rfl rfl (by decide) rfl ?_
      refine x_al (pc' := 11) rfl rfl (by decide) rfl ?_
      obtain ⟨v9, q8, h⟩ := h
      refine x_call (pc' := 12) (as := [(2, 0)]) (rest := [(2, 0)]) rfl rfl rfl rfl rfl rfl q8 ?_
      obtain ⟨v11, q10, h⟩ := h
      refine x_call (pc' := 13) (as := [(2, 0), (0, v9)]) (rest := []) rfl rfl rfl rfl rfl rfl q10 ?_
      exact x_iret rfl h
  · replace h := ite_f q1 h
    refine x_al (pc' := 4) rfl rfl (by decide) rfl ?_
    obtain ⟨v13, q12, h⟩ := h
    refine x_call (pc' := 5) (as := [(2, 0)]) (rest := []) rfl rfl rfl rfl rfl rfl q12 ?_
    exact x_iret rfl h
def at_X_cardsIn_4 (d : Nat) (l1 : Int) (l2 : Int) (l3 : Int) (M : Mem) (r : Res) : Prop := Ex sx0 d k_X_cardsIn 1 4 [(2, 0), (0, l1), (0, l2), (0, l3)] [] M r
theorem sg_X_cardsIn {d : Nat} {p1 : Int} {M : Mem} {r : Res} (h : at_X_cardsIn_4 d p1 0 0 M r) : Cl (d + 1) m_X_cardsIn [(2, 0), (0, p1)] M r := by
  refine cl_of (c := k_X_cardsIn) (mL := 4) (rz := 1) (rc := 0) (ls := [(2, 0), (0, p1), (3, 0), (3, 0)]) rfl rfl rfl ?_
  refine x_c (pc' := 1) rfl rfl ?_
  refine x_is (pc' := 2) (ls' := [(2, 0), (0, p1), (0, 0), (3, 0)]) rfl rfl rfl rfl ?_
  refine x_c (pc' := 3) rfl rfl ?_
  refine x_is (pc' := 4) (ls' := [(2, 0), (0, p1), (0, 0), (0, 0)]) rfl rfl rfl rfl ?_
  exact h
theorem sg_X_cardsIn_4 {d : Nat} {l1 : Int} {l2 : Int} {l3 : Int} {M : Mem} {r : Res} (h : (if M 1 5 ≤ l3 then r = (some (0, l2), M) else ∃ v3, Cl d m_C_mayLie [(2, 1), (0, l3), (0, l1)] M (some (0, v3), M) ∧ (if v3 = 0 then at_X_cardsIn_4 d l1 l2 (w32 (l3 + 1)) M r else at_X_cardsIn_4 d l1 (w32 (l2 + 1)) (w32 (l3 + 1)) M r))) : at_X_cardsIn_4 d l1 l2 l3 M r := by
  unfold at_X_cardsIn_4
  refine x_il (pc' := 5) rfl rfl rfl ?_
  refine x_al (pc' := 6) rfl rfl (by decide) rfl ?_
  refine x_gr (pc' := 7) (v := 1) rfl rfl rfl (by decide) rfl ?_
  refine x_gf (pc' := 8) (v := M 1 5) rfl rfl rfl rfl rfl ?_
  refine x_icge (pc' := 9) (t' := 18) rfl rfl rfl (fun q1 => ?_) (fun q1 => ?_)
  · replace h := ite_t q1 h
    refine x_il (pc' := 19) rfl rfl rfl ?_
    exact x_iret rfl h
  · replace h := ite_f q1 h
    refine x_al (pc' := 10) rfl rfl (by decide) rfl ?_
    refine x_gr (pc' := 11) (v := 1) rfl rfl rfl (by decide) rfl ?_
    refine x_il (pc' := 12) rfl rfl rfl ?_
    refine x_il (pc' := 13) rfl rfl rfl ?_
    obtain ⟨v3, q2, h⟩ := h
    refine x_call (pc' := 14) (as := [(2, 1), (0, l3), (0, l1)]) (rest := []) rfl rfl rfl rfl rfl rfl q2 ?_
    refine x_ifeq (pc' := 15) (t' := 16) rfl rfl rfl (fun q4 => ?_) (fun q4 => ?_)
    · replace h := ite_t q4 h
      refine x_inc (pc' := 17) (ls' := [(2, 0), (0, l1), (0, l2), (0, w32 (l3 + 1))]) rfl rfl rfl rfl ?_
      refine x_goto (t' := 4) rfl rfl ?_
      exact h
    · replace h := ite_f q4 h
      refine x_inc (pc' := 16) (ls' := [(2, 0), (0, l1), (0, w32 (l2 + 1)), (0, l3)]) rfl rfl rfl rfl ?_
      refine x_inc (pc' := 17) (ls' := [(2, 0), (0, l1), (0, w32 (l2 + 1)), (0, w32 (l3 + 1))]) rfl rfl rfl rfl ?_
      refine x_goto (t' := 4) rfl rfl ?_
      exact h
def at_X_fullestDrawer_6 (d : Nat) (l1 : Int) (l2 : Int) (l3 : Int) (w4 : AV) (M : Mem) (r : Res) : Prop := Ex sx0 d k_X_fullestDrawer 1 6 [(2, 0), (0, l1), (0, l2), (0, l3), w4] [] M r
theorem sg_X_fullestDrawer {d : Nat} {M : Mem} {r : Res} (h : at_X_fullestDrawer_6 d 0 0 0 (3, 0) M r) : Cl (d + 1) m_X_fullestDrawer [(2, 0)] M r := by
  refine cl_of (c := k_X_fullestDrawer) (mL := 5) (rz := 1) (rc := 0) (ls := [(2, 0), (3, 0), (3, 0), (3, 0), (3, 0)]) rfl rfl rfl ?_
  refine x_c (pc' := 1) rfl rfl ?_
  refine x_is (pc' := 2) (ls' := [(2, 0), (0, 0), (3, 0), (3, 0), (3, 0)]) rfl rfl rfl rfl ?_
  refine x_c (pc' := 3) rfl rfl ?_
  refine x_is (pc' := 4) (ls' := [(2, 0), (0, 0), (0, 0), (3, 0), (3, 0)]) rfl rfl rfl rfl ?_
  refine x_c (pc' := 5) rfl rfl ?_
  refine x_is (pc' := 6) (ls' := [(2, 0), (0, 0), (0, 0), (0, 0), (3, 0)]) rfl rfl rfl rfl ?_
  exact h
theorem sg_X_fullestDrawer_6 {d : Nat} {l1 : Int} {l2 : Int} {l3 : Int} {w4 : AV} {M : Mem} {r : Res} (h : (if 1024 ≤ l3 then r = (some (0, l1), M) else ∃ v3, Cl d m_X_cardsIn [(2, 0), (0, l3)] M (some (0, v3), M) ∧ (if v3 ≤ l2 then at_X_fullestDrawer_6 d l1 l2 (w32 (l3 + 1)) (0, v3) M r else at_X_fullestDrawer_6 d l3 v3 (w32 (l3 + 1)) (0, v3) M r))) : at_X_fullestDrawer_6 d l1 l2 l3 w4 M r := by
  unfold at_X_fullestDrawer_6
  refine x_il (pc' := 7) rfl rfl rfl ?_
  refine x_c (pc' := 8) rfl rfl ?_
  refine x_icge (pc' := 9) (t' := 22) rfl rfl rfl (fun q1 => ?_) (fun q1 => ?_)
  · replace h := ite_t q1 h
    refine x_il (pc' := 23) rfl rfl rfl ?_
    exact x_iret rfl h
  · replace h := ite_f q1 h
    refine x_al (pc' := 10) rfl rfl (by decide) rfl ?_
    refine x_il (pc' := 11) rfl rfl rfl ?_
    obtain ⟨v3, q2, h⟩ := h
    refine x_call (pc' := 12) (as := [(2, 0), (0, l3)]) (rest := []) rfl rfl rfl rfl rfl rfl q2 ?_
    refine x_is (pc' := 13) (ls' := [(2, 0), (0, l1), (0, l2), (0, l3), (0, v3)]) rfl rfl rfl rfl ?_
    refine x_il (pc' := 14) rfl rfl rfl ?_
    refine x_il (pc' := 15) rfl rfl rfl ?_
    refine x_icle (pc' := 16) (t' := 20) rfl rfl rfl (fun q4 => ?_) (fun q4 => ?_)
    · replace h := ite_t q4 h
      refine x_inc (pc' := 21) (ls' := [(2, 0), (0, l1), (0, l2), (0, w32 (l3 + 1)), (0, v3)]) rfl rfl rfl rfl ?_
      refine x_goto (t' := 6) rfl rfl ?_
      exact h
    · replace h := ite_f q4 h
      refine x_il (pc' := 17) rfl rfl rfl ?_
      refine x_is (pc' := 18) (ls' := [(2, 0), (0, l1), (0, v3), (0, l3), (0, v3)]) rfl rfl rfl rfl ?_
      refine x_il (pc' := 19) rfl rfl rfl ?_
      refine x_is (pc' := 20) (ls' := [(2, 0), (0, l3), (0, v3), (0, l3), (0, v3)]) rfl rfl rfl rfl ?_
      refine x_inc (pc' := 21) (ls' := [(2, 0), (0, l3), (0, v3), (0, w32 (l3 + 1)), (0, v3)]) rfl rfl rfl rfl ?_
      refine x_goto (t' := 6) rfl rfl ?_
      exact h
theorem sg_X_allCards {d : Nat} {M : Mem} {r : Res} (h : r = (some (0, w32 ((ishl 1 (M 1 5)) - 1)), M)) : Cl (d + 1) m_X_allCards [(2, 0)] M r := by
  refine cl_of (c := k_X_allCards) (mL := 1) (rz := 1) (rc := 0) (ls := [(2, 0)]) rfl rfl rfl ?_
  refine x_c (pc' := 1) rfl rfl ?_
  refine x_al (pc' := 2) rfl rfl (by decide) rfl ?_
  refine x_gr (pc' := 3) (v := 1) rfl rfl rfl (by decide) rfl ?_
  refine x_gf (pc' := 4) (v := M 1 5) rfl rfl rfl rfl rfl ?_
  refine x_ib (pc' := 5) (v := ishl 1 (M 1 5)) rfl rfl rfl ?_
  refine x_c (pc' := 6) rfl rfl ?_
  refine x_ib (pc' := 7) (v := w32 ((ishl 1 (M 1 5)) - 1)) rfl rfl rfl ?_
  exact x_iret rfl h
def at_X_countDrawers_4 (d : Nat) (l1 : Int) (l2 : Int) (l3 : Int) (M : Mem) (r : Res) : Prop := Ex sx0 d k_X_countDrawers 1 4 [(2, 0), (0, l1), (0, l2), (0, l3)] [] M r
theorem sg_X_countDrawers {d : Nat} {p1 : Int} {M : Mem} {r : Res} (h : at_X_countDrawers_4 d p1 0 0 M r) : Cl (d + 1) m_X_countDrawers [(2, 0), (0, p1)] M r := by
  refine cl_of (c := k_X_countDrawers) (mL := 4) (rz := 1) (rc := 0) (ls := [(2, 0), (0, p1), (3, 0), (3, 0)]) rfl rfl rfl ?_
  refine x_c (pc' := 1) rfl rfl ?_
  refine x_is (pc' := 2) (ls' := [(2, 0), (0, p1), (0, 0), (3, 0)]) rfl rfl rfl rfl ?_
  refine x_c (pc' := 3) rfl rfl ?_
  refine x_is (pc' := 4) (ls' := [(2, 0), (0, p1), (0, 0), (0, 0)]) rfl rfl rfl rfl ?_
  exact h
theorem sg_X_countDrawers_4 {d : Nat} {l1 : Int} {l2 : Int} {l3 : Int} {M : Mem} {r : Res} (h : (if 1024 ≤ l3 then r = (some (0, l2), M) else ∃ v3, Cl d m_X_liesAny [(2, 0), (0, l1), (0, l3)] M (some (0, v3), M) ∧ (if v3 = 0 then at_X_countDrawers_4 d l1 l2 (w32 (l3 + 1)) M r else at_X_countDrawers_4 d l1 (w32 (l2 + 1)) (w32 (l3 + 1)) M r))) : at_X_countDrawers_4 d l1 l2 l3 M r := by
  unfold at_X_countDrawers_4
  refine x_il (pc' := 5) rfl rfl rfl ?_
  refine x_c (pc' := 6) rfl rfl ?_
  refine x_icge (pc' := 7) (t' := 15) rfl rfl rfl (fun q1 => ?_) (fun q1 => ?_)
  · replace h := ite_t q1 h
    refine x_il (pc' := 16) rfl rfl rfl ?_
    exact x_iret rfl h
  · replace h := ite_f q1 h
    refine x_al (pc' := 8) rfl rfl (by decide) rfl ?_
    refine x_il (pc' := 9) rfl rfl rfl ?_
    refine x_il (pc' := 10) rfl rfl rfl ?_
    obtain ⟨v3, q2, h⟩ := h
    refine x_call (pc' := 11) (as := [(2, 0), (0, l1), (0, l3)]) (rest := []) rfl rfl rfl rfl rfl rfl q2 ?_
    refine x_ifeq (pc' := 12) (t' := 13) rfl rfl rfl (fun q4 => ?_) (fun q4 => ?_)
    · replace h := ite_t q4 h
      refine x_inc (pc' := 14) (ls' := [(2, 0), (0, l1), (0, l2), (0, w32 (l3 + 1))]) rfl rfl rfl rfl ?_
      refine x_goto (t' := 4) rfl rfl ?_
      exact h
    · replace h := ite_f q4 h
      refine x_inc (pc' := 13) (ls' := [(2, 0), (0, l1), (0, w32 (l2 + 1)), (0, l3)]) rfl rfl rfl rfl ?_
      refine x_inc (pc' := 14) (ls' := [(2, 0), (0, l1), (0, w32 (l2 + 1)), (0, w32 (l3 + 1))]) rfl rfl rfl rfl ?_
      refine x_goto (t' := 4) rfl rfl ?_
      exact h
def at_X_liesAny_2 (d : Nat) (l1 : Int) (l2 : Int) (l3 : Int) (M : Mem) (r : Res) : Prop := Ex sx0 d k_X_liesAny 3 2 [(2, 0), (0, l1), (0, l2), (0, l3)] [] M r
theorem sg_X_liesAny {d : Nat} {p1 p2 : Int} {M : Mem} {r : Res} (h : at_X_liesAny_2 d p1 p2 0 M r) : Cl (d + 1) m_X_liesAny [(2, 0), (0, p1), (0, p2)] M r := by
  refine cl_of (c := k_X_liesAny) (mL := 4) (rz := 3) (rc := 0) (ls := [(2, 0), (0, p1), (0, p2), (3, 0)]) rfl rfl rfl ?_
  refine x_c (pc' := 1) rfl rfl ?_
  refine x_is (pc' := 2) (ls' := [(2, 0), (0, p1), (0, p2), (0, 0)]) rfl rfl rfl rfl ?_
  exact h
theorem sg_X_liesAny_2 {d : Nat} {l1 : Int} {l2 : Int} {l3 : Int} {M : Mem} {r : Res} (h : (if M 1 5 ≤ l3 then r = (some (0, 0), M) else (if iand (ishr l1 l3) 1 = 0 then at_X_liesAny_2 d l1 l2 (w32 (l3 + 1)) M r else ∃ v4, Cl d m_C_mayLie [(2, 1), (0, l3), (0, l2)] M (some (0, v4), M) ∧ (if v4 = 0 then at_X_liesAny_2 d l1 l2 (w32 (l3 + 1)) M r else r = (some (0, 1), M))))) : at_X_liesAny_2 d l1 l2 l3 M r := by
  unfold at_X_liesAny_2
  refine x_il (pc' := 3) rfl rfl rfl ?_
  refine x_al (pc' := 4) rfl rfl (by decide) rfl ?_
  refine x_gr (pc' := 5) (v := 1) rfl rfl rfl (by decide) rfl ?_
  refine x_gf (pc' := 6) (v := M 1 5) rfl rfl rfl rfl rfl ?_
  refine x_icge (pc' := 7) (t' := 23) rfl rfl rfl (fun q1 => ?_) (fun q1 => ?_)
  · replace h := ite_t q1 h
    refine x_c (pc' := 24) rfl rfl ?_
    exact x_zret rfl (by decide) h
  · replace h := ite_f q1 h
    refine x_il (pc' := 8) rfl rfl rfl ?_
    refine x_il (pc' := 9) rfl rfl rfl ?_
    refine x_ib (pc' := 10) (v := ishr l1 l3) rfl rfl rfl ?_
    refine x_c (pc' := 11) rfl rfl ?_
    refine x_ib (pc' := 12) (v := iand (ishr l1 l3) 1) rfl rfl rfl ?_
    refine x_ifeq (pc' := 13) (t' := 21) rfl rfl rfl (fun q2 => ?_) (fun q2 => ?_)
    · replace h := ite_t q2 h
      refine x_inc (pc' := 22) (ls' := [(2, 0), (0, l1), (0, l2), (0, w32 (l3 + 1))]) rfl rfl rfl rfl ?_
      refine x_goto (t' := 2) rfl rfl ?_
      exact h
    · replace h := ite_f q2 h
      refine x_al (pc' := 14) rfl rfl (by decide) rfl ?_
      refine x_gr (pc' := 15) (v := 1) rfl rfl rfl (by decide) rfl ?_
      refine x_il (pc' := 16) rfl rfl rfl ?_
      refine x_il (pc' := 17) rfl rfl rfl ?_
      obtain ⟨v4, q3, h⟩ := h
      refine x_call (pc' := 18) (as := [(2, 1), (0, l3), (0, l2)]) (rest := []) rfl rfl rfl rfl rfl rfl q3 ?_
      refine x_ifeq (pc' := 19) (t' := 21) rfl rfl rfl (fun q5 => ?_) (fun q5 => ?_)
      · replace h := ite_t q5 h
        refine x_inc (pc' := 22) (ls' := [(2, 0), (0, l1), (0, l2), (0, w32 (l3 + 1))]) rfl rfl rfl rfl ?_
        refine x_goto (t' := 2) rfl rfl ?_
        exact h
      · replace h := ite_f q5 h
        refine x_c (pc' := 20) rfl rfl ?_
        exact x_zret rfl (by decide) h
def at_X_look_16 (d : Nat) (l1 : Int) (l2 : Int) (l3 : Int) (l4 : Int) (M : Mem) (r : Res) : Prop := Ex sx0 d k_X_look 1 16 [(2, 0), (0, l1), (0, l2), (0, l3), (0, l4)] [] M r
theorem sg_X_look {d : Nat} {p1 p2 : Int} {M : Mem} {r : Res} (h : ∃ v2, Cl d m_C_has [(2, 1), (0, p1)] M (some (0, v2), M) ∧ (if v2 = 0 then r = (some (0, (-1)), M) else (if p2 < 0 then r = (some (0, (-1)), M) else (if p2 ≤ 1 then at_X_look_16 d p1 p2 0 0 M r else r = (some (0, (-1)), M))))) : Cl (d + 1) m_X_look [(2, 0), (0, p1), (0, p2)] M r := by
  refine cl_of (c := k_X_look) (mL := 5) (rz := 1) (rc := 0) (ls := [(2, 0), (0, p1), (0, p2), (3, 0), (3, 0)]) rfl rfl rfl ?_
  refine x_al (pc' := 1) rfl rfl (by decide) rfl ?_
  refine x_gr (pc' := 2) (v := 1) rfl rfl rfl (by decide) rfl ?_
  refine x_il (pc' := 3) rfl rfl rfl ?_
  obtain ⟨v2, q1, h⟩ := h
  refine x_call (pc' := 4) (as := [(2, 1), (0, p1)]) (rest := []) rfl rfl rfl rfl rfl rfl q1 ?_
  refine x_ifeq (pc' := 5) (t' := 10) rfl rfl rfl (fun q3 => ?_) (fun q3 => ?_)
  · replace h := ite_t q3 h
    refine x_c (pc' := 11) rfl rfl ?_
    exact x_iret rfl h
  · replace h := ite_f q3 h
    refine x_il (pc' := 6) rfl rfl rfl ?_
    refine x_iflt (pc' := 7) (t' := 10) rfl rfl rfl (fun q4 => ?_) (fun q4 => ?_)
    · replace h := ite_t q4 h
      refine x_c (pc' := 11) rfl rfl ?_
      exact x_iret rfl h
    · replace h := ite_f q4 h
      refine x_il (pc' := 8) rfl rfl rfl ?_
      refine x_c (pc' := 9) rfl rfl ?_
      refine x_icle (pc' := 10) (t' := 12) rfl rfl rfl (fun q5 => ?_) (fun q5 => ?_)
      · replace h := ite_t q5 h
        refine x_c (pc' := 13) rfl rfl ?_
        refine x_is (pc' := 14) (ls' := [(2, 0), (0, p1), (0, p2), (0, 0), (3, 0)]) rfl rfl rfl rfl ?_
        refine x_c (pc' := 15) rfl rfl ?_
        refine x_is (pc' := 16) (ls' := [(2, 0), (0, p1), (0, p2), (0, 0), (0, 0)]) rfl rfl rfl rfl ?_
        exact h
      · replace h := ite_f q5 h
        refine x_c (pc' := 11) rfl rfl ?_
        exact x_iret rfl h
theorem sg_X_look_16 {d : Nat} {l1 : Int} {l2 : Int} {l3 : Int} {l4 : Int} {M : Mem} {r : Res} (h : (if M 1 5 ≤ l4 then (if ¬ l2 = 0 then r = (some (0, l3), M) else ∃ v4, Cl d m_J_bitCount [(0, l3)] M (some (0, v4), M) ∧ r = (some (0, v4), M)) else (if l4 = l1 then at_X_look_16 d l1 l2 l3 (w32 (l4 + 1)) M r else ∃ v7, Cl d m_C_shareDrawer [(2, 1), (0, l4), (0, l1)] M (some (0, v7), M) ∧ (if v7 = 0 then at_X_look_16 d l1 l2 l3 (w32 (l4 + 1)) M r else at_X_look_16 d l1 l2 (ior l3 (ishl 1 l4)) (w32 (l4 + 1)) M r)))) : at_X_look_16 d l1 l2 l3 l4 M r := by
  unfold at_X_look_16
  refine x_il (pc' := 17) rfl rfl rfl ?_
  refine x_al (pc' := 18) rfl rfl (by decide) rfl ?_
  refine x_gr (pc' := 19) (v := 1) rfl rfl rfl (by decide) rfl ?_
  refine x_gf (pc' := 20) (v := M 1 5) rfl rfl rfl rfl rfl ?_
  refine x_icge (pc' := 21) (t' := 38) rfl rfl rfl (fun q1 => ?_) (fun q1 => ?_)
  · replace h := ite_t q1 h
    refine x_il (pc' := 39) rfl rfl rfl ?_
    refine x_ifne (pc' := 40) (t' := 43) rfl rfl rfl (fun q2 => ?_) (fun q2 => ?_)
    · replace h := ite_t q2 h
      refine x_il (pc' := 44) rfl rfl rfl ?_
      exact x_iret rfl h
    · replace h := ite_f q2 h
      refine x_il (pc' := 41) rfl rfl rfl ?_
      obtain ⟨v4, q3, h⟩ := h
      refine x_call (pc' := 42) (as := [(0, l3)]) (rest := []) rfl rfl rfl rfl rfl rfl q3 ?_
      refine x_goto (t' := 44) rfl rfl ?_
      exact x_iret rfl h
  · replace h := ite_f q1 h
    refine x_il (pc' := 22) rfl rfl rfl ?_
    refine x_il (pc' := 23) rfl rfl rfl ?_
    refine x_iceq (pc' := 24) (t' := 36) rfl rfl rfl (fun q5 => ?_) (fun q5 => ?_)
    · replace h := ite_t q5 h
      refine x_inc (pc' := 37) (ls' := [(2, 0), (0, l1), (0, l2), (0, l3), (0, w32 (l4 + 1))]) rfl rfl rfl rfl ?_
      refine x_goto (t' := 16) rfl rfl ?_
      exact h
    · replace h := ite_f q5 h
      refine x_al (pc' := 25) rfl rfl (by decide) rfl ?_
      refine x_gr (pc' := 26) (v := 1) rfl rfl rfl (by decide) rfl ?_
      refine x_il (pc' := 27) rfl rfl rfl ?_
      refine x_il (pc' := 28) rfl rfl rfl ?_
      obtain ⟨v7, q6, h⟩ := h
      refine x_call (pc' := 29) (as := [(2, 1), (0, l4), (0, l1)]) (rest := []) rfl rfl rfl rfl rfl rfl q6 ?_
      refine x_ifeq (pc' := 30) (t' := 36) rfl rfl rfl (fun q8 => ?_) (fun q8 => ?_)
      · replace h := ite_t q8 h
        refine x_inc (pc' := 37) (ls' := [(2, 0), (0, l1), (0, l2), (0, l3), (0, w32 (l4 + 1))]) rfl rfl rfl rfl ?_
        refine x_goto (t' := 16) rfl rfl ?_
        exact h
      · replace h := ite_f q8 h
        refine x_il (pc' := 31) rfl rfl rfl ?_
        refine x_c (pc' := 32) rfl rfl ?_
        refine x_il (pc' := 33) rfl rfl rfl ?_
        refine x_ib (pc' := 34) (v := ishl 1 l4) rfl rfl rfl ?_
        refine x_ib (pc' := 35) (v := ior l3 (ishl 1 l4)) rfl rfl rfl ?_
        refine x_is (pc' := 36) (ls' := [(2, 0), (0, l1), (0, l2), (0, ior l3 (ishl 1 l4)), (0, l4)]) rfl rfl rfl rfl ?_
        refine x_inc (pc' := 37) (ls' := [(2, 0), (0, l1), (0, l2), (0, ior l3 (ishl 1 l4)), (0, w32 (l4 + 1))]) rfl rfl rfl rfl ?_
        refine x_goto (t' := 16) rfl rfl ?_
        exact h
theorem sg_X_same {d : Nat} {p1 p2 : Int} {M : Mem} {r : Res} (h : ∃ v2, Cl d m_X_areCards [(2, 0), (0, p1)] M (some (0, v2), M) ∧ (if v2 = 0 then r = (some (0, (-1)), M) else (if w32 (Int.tdiv p1 100) = w32 (Int.tmod p1 100) then r = (some (0, (-1)), M) else (if p2 < 0 then r = (some (0, (-1)), M) else (if p2 ≤ 1 then (if ¬ p2 = 0 then ∃ v9 M10, Cl d m_X_alikeCards [(2, 0), (0, w32 (Int.tdiv p1 100)), (0, w32 (Int.tmod p1 100))] M (some (0, v9), M10) ∧ r = (some (0, v9), M10) else ∃ v12, Cl d m_X_likeFingers [(2, 0), (0, w32 (Int.tdiv p1 100)), (0, w32 (Int.tmod p1 100))] M (some (0, v12), M) ∧ ∃ v14, Cl d m_J_bitCount [(0, v12)] M (some (0, v14), M) ∧ r = (some (0, v14), M)) else r = (some (0, (-1)), M)))))) : Cl (d + 1) m_X_same [(2, 0), (0, p1), (0, p2)] M r := by
  refine cl_of (c := k_X_same) (mL := 5) (rz := 1) (rc := 0) (ls := [(2, 0), (0, p1), (0, p2), (3, 0), (3, 0)]) rfl rfl rfl ?_
  refine x_al (pc' := 1) rfl rfl (by decide) rfl ?_
  refine x_il (pc' := 2) rfl rfl rfl ?_
  obtain ⟨v2, q1, h⟩ := h
  refine x_call (pc' := 3) (as := [(2, 0), (0, p1)]) (rest := []) rfl rfl rfl rfl rfl rfl q1 ?_
  refine x_ifeq (pc' := 4) (t' := 16) rfl rfl rfl (fun q3 => ?_) (fun q3 => ?_)
  · replace h := ite_t q3 h
    refine x_c (pc' := 17) rfl rfl ?_
    exact x_iret rfl h
  · replace h := ite_f q3 h
    refine x_il (pc' := 5) rfl rfl rfl ?_
    refine x_c (pc' := 6) rfl rfl ?_
    refine x_ib (pc' := 7) (v := w32 (Int.tdiv p1 100)) rfl rfl rfl ?_
    refine x_il (pc' := 8) rfl rfl rfl ?_
    refine x_c (pc' := 9) rfl rfl ?_
    refine x_ib (pc' := 10) (v := w32 (Int.tmod p1 100)) rfl rfl rfl ?_
    refine x_iceq (pc' := 11) (t' := 16) rfl rfl rfl (fun q4 => ?_) (fun q4 => ?_)
    · replace h := ite_t q4 h
      refine x_c (pc' := 17) rfl rfl ?_
      exact x_iret rfl h
    · replace h := ite_f q4 h
      refine x_il (pc' := 12) rfl rfl rfl ?_
      refine x_iflt (pc' := 13) (t' := 16) rfl rfl rfl (fun q5 => ?_) (fun q5 => ?_)
      · replace h := ite_t q5 h
        refine x_c (pc' := 17) rfl rfl ?_
        exact x_iret rfl h
      · replace h := ite_f q5 h
        refine x_il (pc' := 14) rfl rfl rfl ?_
        refine x_c (pc' := 15) rfl rfl ?_
        refine x_icle (pc' := 16) (t' := 18) rfl rfl rfl (fun q6 => ?_) (fun q6 => ?_)
        · replace h := ite_t q6 h
          refine x_il (pc' := 19) rfl rfl rfl ?_
          refine x_c (pc' := 20) rfl rfl ?_
          refine x_ib (pc' := 21) (v := w32 (Int.tdiv p1 100)) rfl rfl rfl ?_
          refine x_is (pc' := 22) (ls' := [(2, 0), (0, p1), (0, p2), (0, w32 (Int.tdiv p1 100)), (3, 0)]) rfl rfl rfl rfl ?_
          refine x_il (pc' := 23) rfl rfl rfl ?_
          refine x_c (pc' := 24) rfl rfl ?_
          refine x_ib (pc' := 25) (v := w32 (Int.tmod p1 100)) rfl rfl rfl ?_
          refine x_is (pc' := 26) (ls' := [(2, 0), (0, p1), (0, p2), (0, w32 (Int.tdiv p1 100)), (0, w32 (Int.tmod p1 100))]) rfl rfl rfl rfl ?_
          refine x_il (pc' := 27) rfl rfl rfl ?_
          refine x_ifne (pc' := 28) (t' := 34) rfl rfl rfl (fun q7 => ?_) (fun q7 => ?_)
          · replace h := ite_t q7 h
            refine x_al (pc' := 35) rfl rfl (by decide) rfl ?_
            refine x_il (pc' := 36) rfl rfl rfl ?_
            refine x_il (pc' := 37) rfl rfl rfl ?_
            obtain ⟨v9, M10, q8, h⟩ := h
            refine x_call (pc' := 38) (as := [(2, 0), (0, w32 (Int.tdiv p1 100)), (0, w32 (Int.tmod p1 100))]) (rest := []) rfl rfl rfl rfl rfl rfl q8 ?_
            exact x_iret rfl h
          · replace h := ite_f q7 h
            refine x_al (pc' := 29) rfl rfl (by decide) rfl ?_
            refine x_il (pc' := 30) rfl rfl rfl ?_
            refine x_il (pc' := 31) rfl rfl rfl ?_
            obtain ⟨v12, q11, h⟩ := h
            refine x_call (pc' := 32) (as := [(2, 0), (0, w32 (Int.tdiv p1 100)), (0, w32 (Int.tmod p1 100))]) (rest := []) rfl rfl rfl rfl rfl rfl q11 ?_
            obtain ⟨v14, q13, h⟩ := h
            refine x_call (pc' := 33) (as := [(0, v12)]) (rest := []) rfl rfl rfl rfl rfl rfl q13 ?_
            refine x_goto (t' := 38) rfl rfl ?_
            exact x_iret rfl h
        · replace h := ite_f q6 h
          refine x_c (pc' := 17) rfl rfl ?_
          exact x_iret rfl h
def at_X_likeFingers_4 (d : Nat) (l1 : Int) (l2 : Int) (l3 : Int) (l4 : Int) (M : Mem) (r : Res) : Prop := Ex sx0 d k_X_likeFingers 1 4 [(2, 0), (0, l1), (0, l2), (0, l3), (0, l4)] [] M r
theorem sg_X_likeFingers {d : Nat} {p1 p2 : Int} {M : Mem} {r : Res} (h : at_X_likeFingers_4 d p1 p2 0 0 M r) : Cl (d + 1) m_X_likeFingers [(2, 0), (0, p1), (0, p2)] M r := by
  refine cl_of (c := k_X_likeFingers) (mL := 5) (rz := 1) (rc := 0) (ls := [(2, 0), (0, p1), (0, p2), (3, 0), (3, 0)]) rfl rfl rfl ?_
  refine x_c (pc' := 1) rfl rfl ?_
  refine x_is (pc' := 2) (ls' := [(2, 0), (0, p1), (0, p2), (0, 0), (3, 0)]) rfl rfl rfl rfl ?_
  refine x_c (pc' := 3) rfl rfl ?_
  refine x_is (pc' := 4) (ls' := [(2, 0), (0, p1), (0, p2), (0, 0), (0, 0)]) rfl rfl rfl rfl ?_
  exact h
theorem sg_X_likeFingers_4 {d : Nat} {l1 : Int} {l2 : Int} {l3 : Int} {l4 : Int} {M : Mem} {r : Res} (h : (if 10 ≤ l4 then r = (some (0, l3), M) else (0 ≤ l1 ∧ l1 < 12) ∧ (0 ≤ l4 ∧ l4 < 10) ∧ (0 ≤ l1 ∧ l1 < 12) ∧ (0 ≤ l4 ∧ l4 < 10) ∧ ∃ v7, Cl d m_X_fits [(2, 0), (0, M ((3 + l1).toNat) l4), (0, M ((16 + l1).toNat) l4), (0, l2), (0, l4)] M (some (0, v7), M) ∧ (if v7 = 0 then at_X_likeFingers_4 d l1 l2 l3 (w32 (l4 + 1)) M r else at_X_likeFingers_4 d l1 l2 (ior l3 (ishl 1 l4)) (w32 (l4 + 1)) M r))) : at_X_likeFingers_4 d l1 l2 l3 l4 M r := by
  unfold at_X_likeFingers_4
  refine x_il (pc' := 5) rfl rfl rfl ?_
  refine x_c (pc' := 6) rfl rfl ?_
  refine x_icge (pc' := 7) (t' := 34) rfl rfl rfl (fun q1 => ?_) (fun q1 => ?_)
  · replace h := ite_t q1 h
    refine x_il (pc' := 35) rfl rfl rfl ?_
    exact x_iret rfl h
  · replace h := ite_f q1 h
    refine x_al (pc' := 8) rfl rfl (by decide) rfl ?_
    refine x_al (pc' := 9) rfl rfl (by decide) rfl ?_
    refine x_gr (pc' := 10) (v := 1) rfl rfl rfl (by decide) rfl ?_
    refine x_gr (pc' := 11) (v := 2) rfl rfl rfl (by decide) rfl ?_
    refine x_il (pc' := 12) rfl rfl rfl ?_
    obtain ⟨q2, h⟩ := h
    refine x_aa (pc' := 13) (v := (3 + l1)) 2 12 rfl rfl (Or.inl rfl) q2.1 q2.2 (show rfc 2 l1 = (3 + l1) from if_pos ⟨q2.1, q2.2⟩) (by have := q2.1; omega) rfl ?_
    refine x_il (pc' := 14) rfl rfl rfl ?_
    obtain ⟨q3, h⟩ := h
    refine x_ia (pc' := 15) 10 (v := M ((3 + l1).toNat) l4) rfl rfl (arK_2d q2.1 q2.2 (Or.inl rfl)) q3.1 q3.2 rfl ?_
    refine x_al (pc' := 16) rfl rfl (by decide) rfl ?_
    refine x_gr (pc' := 17) (v := 1) rfl rfl rfl (by decide) rfl ?_
    refine x_gr (pc' := 18) (v := 15) rfl rfl rfl (by decide) rfl ?_
    refine x_il (pc' := 19) rfl rfl rfl ?_
    obtain ⟨q4, h⟩ := h
    refine x_aa (pc' := 20) (v := (16 + l1)) 2 12 rfl rfl (Or.inl rfl) q4.1 q4.2 (show rfc 15 l1 = (16 + l1) from if_pos ⟨q4.1, q4.2⟩) (by have := q4.1; omega) rfl ?_
    refine x_il (pc' := 21) rfl rfl rfl ?_
    obtain ⟨q5, h⟩ := h
    refine x_ia (pc' := 22) 10 (v := M ((16 + l1).toNat) l4) rfl rfl (arK_2d q4.1 q4.2 (Or.inr rfl)) q5.1 q5.2 rfl ?_
    refine x_il (pc' := 23) rfl rfl rfl ?_
    refine x_il (pc' := 24) rfl rfl rfl ?_
    obtain ⟨v7, q6, h⟩ := h
    refine x_call (pc' := 25) (as := [(2, 0), (0, M ((3 + l1).toNat) l4), (0, M ((16 + l1).toNat) l4), (0, l2), (0, l4)]) (rest := []) rfl rfl rfl rfl rfl rfl q6 ?_
    refine x_ifeq (pc' := 26) (t' := 32) rfl rfl rfl (fun q8 => ?_) (fun q8 => ?_)
    · replace h := ite_t q8 h
      refine x_inc (pc' := 33) (ls' := [(2, 0), (0, l1), (0, l2), (0, l3), (0, w32 (l4 + 1))]) rfl rfl rfl rfl ?_
      refine x_goto (t' := 4) rfl rfl ?_
      exact h
    · replace h := ite_f q8 h
      refine x_il (pc' := 27) rfl rfl rfl ?_
      refine x_c (pc' := 28) rfl rfl ?_
      refine x_il (pc' := 29) rfl rfl rfl ?_
      refine x_ib (pc' := 30) (v := ishl 1 l4) rfl rfl rfl ?_
      refine x_ib (pc' := 31) (v := ior l3 (ishl 1 l4)) rfl rfl rfl ?_
      refine x_is (pc' := 32) (ls' := [(2, 0), (0, l1), (0, l2), (0, ior l3 (ishl 1 l4)), (0, l4)]) rfl rfl rfl rfl ?_
      refine x_inc (pc' := 33) (ls' := [(2, 0), (0, l1), (0, l2), (0, ior l3 (ishl 1 l4)), (0, w32 (l4 + 1))]) rfl rfl rfl rfl ?_
      refine x_goto (t' := 4) rfl rfl ?_
      exact h
theorem sg_X_fits {d : Nat} {p1 p2 p3 p4 : Int} {M : Mem} {r : Res} (h : (0 ≤ p3 ∧ p3 < 12) ∧ (0 ≤ p4 ∧ p4 < 10) ∧ ∃ v4, Cl d m_X_mayBeSame [(0, p1), (0, M ((3 + p3).toNat) p4)] M (some (0, v4), M) ∧ (if v4 = 0 then r = (some (0, 0), M) else (0 ≤ p3 ∧ p3 < 12) ∧ (0 ≤ p4 ∧ p4 < 10) ∧ (if M 1 6 < (if 0 ≤ w32 (p2 - (M ((16 + p3).toNat) p4)) then w32 (p2 - (M ((16 + p3).toNat) p4)) else w32 (0 - (w32 (p2 - (M ((16 + p3).toNat) p4))))) then r = (some (0, 0), M) else r = (some (0, 1), M)))) : Cl (d + 1) m_X_fits [(2, 0), (0, p1), (0, p2), (0, p3), (0, p4)] M r := by
  refine cl_of (c := k_X_fits) (mL := 5) (rz := 3) (rc := 0) (ls := [(2, 0), (0, p1), (0, p2), (0, p3), (0, p4)]) rfl rfl rfl ?_
  refine x_il (pc' := 1) rfl rfl rfl ?_
  refine x_al (pc' := 2) rfl rfl (by decide) rfl ?_
  refine x_gr (pc' := 3) (v := 1) rfl rfl rfl (by decide) rfl ?_
  refine x_gr (pc' := 4) (v := 2) rfl rfl rfl (by decide) rfl ?_
  refine x_il (pc' := 5) rfl rfl rfl ?_
  obtain ⟨q1, h⟩ := h
  refine x_aa (pc' := 6) (v := (3 + p3)) 2 12 rfl rfl (Or.inl rfl) q1.1 q1.2 (show rfc 2 p3 = (3 + p3) from if_pos ⟨q1.1, q1.2⟩) (by have := q1.1; omega) rfl ?_
  refine x_il (pc' := 7) rfl rfl rfl ?_
  obtain ⟨q2, h⟩ := h
  refine x_ia (pc' := 8) 10 (v := M ((3 + p3).toNat) p4) rfl rfl (arK_2d q1.1 q1.2 (Or.inl rfl)) q2.1 q2.2 rfl ?_
  obtain ⟨v4, q3, h⟩ := h
  refine x_call (pc' := 9) (as := [(0, p1), (0, M ((3 + p3).toNat) p4)]) (rest := []) rfl rfl rfl rfl rfl rfl q3 ?_
  refine x_ifeq (pc' := 10) (t' := 26) rfl rfl rfl (fun q5 => ?_) (fun q5 => ?_)
  · replace h := ite_t q5 h
    refine x_c (pc' := 27) rfl rfl ?_
    exact x_zret rfl (by decide) h
  · replace h := ite_f q5 h
    refine x_il (pc' := 11) rfl rfl rfl ?_
    refine x_al (pc' := 12) rfl rfl (by decide) rfl ?_
    refine x_gr (pc' := 13) (v := 1) rfl rfl rfl (by decide) rfl ?_
    refine x_gr (pc' := 14) (v := 15) rfl rfl rfl (by decide) rfl ?_
    refine x_il (pc' := 15) rfl rfl rfl ?_
    obtain ⟨q6, h⟩ := h
    refine x_aa (pc' := 16) (v := (16 + p3)) 2 12 rfl rfl (Or.inl rfl) q6.1 q6.2 (show rfc 15 p3 = (16 + p3) from if_pos ⟨q6.1, q6.2⟩) (by have := q6.1; omega) rfl ?_
    refine x_il (pc' := 17) rfl rfl rfl ?_
    obtain ⟨q7, h⟩ := h
    refine x_ia (pc' := 18) 10 (v := M ((16 + p3).toNat) p4) rfl rfl (arK_2d q6.1 q6.2 (Or.inr rfl)) q7.1 q7.2 rfl ?_
    refine x_ib (pc' := 19) (v := w32 (p2 - (M ((16 + p3).toNat) p4))) rfl rfl rfl ?_
    refine x_abs (pc' := 20) rfl rfl rfl ?_
    refine x_al (pc' := 21) rfl rfl (by decide) rfl ?_
    refine x_gr (pc' := 22) (v := 1) rfl rfl rfl (by decide) rfl ?_
    refine x_gf (pc' := 23) (v := M 1 6) rfl rfl rfl rfl rfl ?_
    refine x_icgt (pc' := 24) (t' := 26) rfl rfl rfl (fun q8 => ?_) (fun q8 => ?_)
    · replace h := ite_t q8 h
      refine x_c (pc' := 27) rfl rfl ?_
      exact x_zret rfl (by decide) h
    · replace h := ite_f q8 h
      refine x_c (pc' := 25) rfl rfl ?_
      refine x_goto (t' := 27) rfl rfl ?_
      exact x_zret rfl (by decide) h
def at_X_alikeCards_4 (d : Nat) (l1 : Int) (l2 : Int) (l3 : Int) (l4 : Int) (M : Mem) (r : Res) : Prop := Ex sx0 d k_X_alikeCards 1 4 [(2, 0), (0, l1), (0, l2), (0, l3), (0, l4)] [] M r
theorem sg_X_alikeCards {d : Nat} {p1 p2 : Int} {M : Mem} {r : Res} (h : at_X_alikeCards_4 d p1 p2 0 0 M r) : Cl (d + 1) m_X_alikeCards [(2, 0), (0, p1), (0, p2)] M r := by
  refine cl_of (c := k_X_alikeCards) (mL := 5) (rz := 1) (rc := 0) (ls := [(2, 0), (0, p1), (0, p2), (3, 0), (3, 0)]) rfl rfl rfl ?_
  refine x_c (pc' := 1) rfl rfl ?_
  refine x_is (pc' := 2) (ls' := [(2, 0), (0, p1), (0, p2), (0, 0), (3, 0)]) rfl rfl rfl rfl ?_
  refine x_c (pc' := 3) rfl rfl ?_
  refine x_is (pc' := 4) (ls' := [(2, 0), (0, p1), (0, p2), (0, 0), (0, 0)]) rfl rfl rfl rfl ?_
  exact h
theorem sg_X_alikeCards_4 {d : Nat} {l1 : Int} {l2 : Int} {l3 : Int} {l4 : Int} {M : Mem} {r : Res} (h : (if 10 ≤ l4 then r = (some (0, l3), M) else ∃ v3 M4, Cl d m_X_alikePrints [(2, 0), (0, l1), (0, l2), (0, l4)] M (some (0, v3), M4) ∧ at_X_alikeCards_4 d l1 l2 (w32 (l3 + v3)) (w32 (l4 + 1)) M4 r)) : at_X_alikeCards_4 d l1 l2 l3 l4 M r := by
  unfold at_X_alikeCards_4
  refine x_il (pc' := 5) rfl rfl rfl ?_
  refine x_c (pc' := 6) rfl rfl ?_
  refine x_icge (pc' := 7) (t' := 17) rfl rfl rfl (fun q1 => ?_) (fun q1 => ?_)
  · replace h := ite_t q1 h
    refine x_il (pc' := 18) rfl rfl rfl ?_
    exact x_iret rfl h
  · replace h := ite_f q1 h
    refine x_il (pc' := 8) rfl rfl rfl ?_
    refine x_al (pc' := 9) rfl rfl (by decide) rfl ?_
    refine x_il (pc' := 10) rfl rfl rfl ?_
    refine x_il (pc' := 11) rfl rfl rfl ?_
    refine x_il (pc' := 12) rfl rfl rfl ?_
    obtain ⟨v3, M4, q2, h⟩ := h
    refine x_call (pc' := 13) (as := [(2, 0), (0, l1), (0, l2), (0, l4)]) (rest := [(0, l3)]) rfl rfl rfl rfl rfl rfl q2 ?_
    refine x_ib (pc' := 14) (v := w32 (l3 + v3)) rfl rfl rfl ?_
    refine x_is (pc' := 15) (ls' := [(2, 0), (0, l1), (0, l2), (0, w32 (l3 + v3)), (0, l4)]) rfl rfl rfl rfl ?_
    refine x_inc (pc' := 16) (ls' := [(2, 0), (0, l1), (0, l2), (0, w32 (l3 + v3)), (0, w32 (l4 + 1))]) rfl rfl rfl rfl ?_
    refine x_goto (t' := 4) rfl rfl ?_
    exact h
def at_X_oneMan_13 (d : Nat) (l1 : Int) (l2 : Int) (l3 : Int) (l4 : Int) (w5 : AV) (M : Mem) (r : Res) : Prop := Ex sx0 d k_X_oneMan 1 13 [(2, 0), (0, l1), (0, l2), (0, l3), (0, l4), w5] [] M r
def at_X_oneMan_22 (d : Nat) (l1 : Int) (l2 : Int) (l3 : Int) (l4 : Int) (l5 : Int) (M : Mem) (r : Res) : Prop := Ex sx0 d k_X_oneMan 1 22 [(2, 0), (0, l1), (0, l2), (0, l3), (0, l4), (0, l5)] [] M r
theorem sg_X_oneMan {d : Nat} {p1 : Int} {M : Mem} {r : Res} (h : (if p1 < 0 then r = (some (0, (-1)), M) else (if p1 ≤ 1 then at_X_oneMan_13 d p1 0 (-2) 0 (3, 0) M r else r = (some (0, (-1)), M)))) : Cl (d + 1) m_X_oneMan [(2, 0), (0, p1)] M r := by
  refine cl_of (c := k_X_oneMan) (mL := 6) (rz := 1) (rc := 0) (ls := [(2, 0), (0, p1), (3, 0), (3, 0), (3, 0), (3, 0)]) rfl rfl rfl ?_
  refine x_il (pc' := 1) rfl rfl rfl ?_
  refine x_iflt (pc' := 2) (t' := 5) rfl rfl rfl (fun q1 => ?_) (fun q1 => ?_)
  · replace h := ite_t q1 h
    refine x_c (pc' := 6) rfl rfl ?_
    exact x_iret rfl h
  · replace h := ite_f q1 h
    refine x_il (pc' := 3) rfl rfl rfl ?_
    refine x_c (pc' := 4) rfl rfl ?_
    refine x_icle (pc' := 5) (t' := 7) rfl rfl rfl (fun q2 => ?_) (fun q2 => ?_)
    · replace h := ite_t q2 h
      refine x_c (pc' := 8) rfl rfl ?_
      refine x_is (pc' := 9) (ls' := [(2, 0), (0, p1), (0, 0), (3, 0), (3, 0), (3, 0)]) rfl rfl rfl rfl ?_
      refine x_c (pc' := 10) rfl rfl ?_
      refine x_is (pc' := 11) (ls' := [(2, 0), (0, p1), (0, 0), (0, (-2)), (3, 0), (3, 0)]) rfl rfl rfl rfl ?_
      refine x_c (pc' := 12) rfl rfl ?_
      refine x_is (pc' := 13) (ls' := [(2, 0), (0, p1), (0, 0), (0, (-2)), (0, 0), (3, 0)]) rfl rfl rfl rfl ?_
      exact h
    · replace h := ite_f q2 h
      refine x_c (pc' := 6) rfl rfl ?_
      exact x_iret rfl h
theorem sg_X_oneMan_13 {d : Nat} {l1 : Int} {l2 : Int} {l3 : Int} {l4 : Int} {w5 : AV} {M : Mem} {r : Res} (h : (if M 1 5 ≤ l4 then (if ¬ l1 = 0 then r = (some (0, l3), M) else r = (some (0, l2), M)) else at_X_oneMan_22 d l1 l2 l3 l4 (w32 (l4 + 1)) M r)) : at_X_oneMan_13 d l1 l2 l3 l4 w5 M r := by
  unfold at_X_oneMan_13
  refine x_il (pc' := 14) rfl rfl rfl ?_
  refine x_al (pc' := 15) rfl rfl (by decide) rfl ?_
  refine x_gr (pc' := 16) (v := 1) rfl rfl rfl (by decide) rfl ?_
  refine x_gf (pc' := 17) (v := M 1 5) rfl rfl rfl rfl rfl ?_
  refine x_icge (pc' := 18) (t' := 48) rfl rfl rfl (fun q1 => ?_) (fun q1 => ?_)
  · replace h := ite_t q1 h
    refine x_il (pc' := 49) rfl rfl rfl ?_
    refine x_ifne (pc' := 50) (t' := 52) rfl rfl rfl (fun q2 => ?_) (fun q2 => ?_)
    · replace h := ite_t q2 h
      refine x_il (pc' := 53) rfl rfl rfl ?_
      exact x_iret rfl h
    · replace h := ite_f q2 h
      refine x_il (pc' := 51) rfl rfl rfl ?_
      refine x_goto (t' := 53) rfl rfl ?_
      exact x_iret rfl h
  · replace h := ite_f q1 h
    refine x_il (pc' := 19) rfl rfl rfl ?_
    refine x_c (pc' := 20) rfl rfl ?_
    refine x_ib (pc' := 21) (v := w32 (l4 + 1)) rfl rfl rfl ?_
    refine x_is (pc' := 22) (ls' := [(2, 0), (0, l1), (0, l2), (0, l3), (0, l4), (0, w32 (l4 + 1))]) rfl rfl rfl rfl ?_
    exact h
theorem sg_X_oneMan_22 {d : Nat} {l1 : Int} {l2 : Int} {l3 : Int} {l4 : Int} {l5 : Int} {M : Mem} {r : Res} (h : (if M 1 5 ≤ l5 then at_X_oneMan_13 d l1 l2 l3 (w32 (l4 + 1)) (0, l5) M r else ∃ v3, Cl d m_X_likeFingers [(2, 0), (0, l4), (0, l5)] M (some (0, v3), M) ∧ (if ¬ v3 = 1023 then at_X_oneMan_22 d l1 l2 l3 l4 (w32 (l5 + 1)) M r else (if ¬ l2 = 0 then at_X_oneMan_22 d l1 (w32 (l2 + 1)) l3 l4 (w32 (l5 + 1)) M r else at_X_oneMan_22 d l1 (w32 (l2 + 1)) (w32 ((w32 (20 * l4)) + l5)) l4 (w32 (l5 + 1)) M r)))) : at_X_oneMan_22 d l1 l2 l3 l4 l5 M r := by
  unfold at_X_oneMan_22
  refine x_il (pc' := 23) rfl rfl rfl ?_
  refine x_al (pc' := 24) rfl rfl (by decide) rfl ?_
  refine x_gr (pc' := 25) (v := 1) rfl rfl rfl (by decide) rfl ?_
  refine x_gf (pc' := 26) (v := M 1 5) rfl rfl rfl rfl rfl ?_
  refine x_icge (pc' := 27) (t' := 46) rfl rfl rfl (fun q1 => ?_) (fun q1 => ?_)
  · replace h := ite_t q1 h
    refine x_inc (pc' := 47) (ls' := [(2, 0), (0, l1), (0, l2), (0, l3), (0, w32 (l4 + 1)), (0, l5)]) rfl rfl rfl rfl ?_
    refine x_goto (t' := 13) rfl rfl ?_
    exact h
  · replace h := ite_f q1 h
    refine x_al (pc' := 28) rfl rfl (by decide) rfl ?_
    refine x_il (pc' := 29) rfl rfl rfl ?_
    refine x_il (pc' := 30) rfl rfl rfl ?_
    obtain ⟨v3, q2, h⟩ := h
    refine x_call (pc' := 31) (as := [(2, 0), (0, l4), (0, l5)]) (rest := []) rfl rfl rfl rfl rfl rfl q2 ?_
    refine x_c (pc' := 32) rfl rfl ?_
    refine x_icne (pc' := 33) (t' := 44) rfl rfl rfl (fun q4 => ?_) (fun q4 => ?_)
    · replace h := ite_t q4 h
      refine x_inc (pc' := 45) (ls' := [(2, 0), (0, l1), (0, l2), (0, l3), (0, l4), (0, w32 (l5 + 1))]) rfl rfl rfl rfl ?_
      refine x_goto (t' := 22) rfl rfl ?_
      exact h
    · replace h := ite_f q4 h
      refine x_il (pc' := 34) rfl rfl rfl ?_
      refine x_ifne (pc' := 35) (t' := 41) rfl rfl rfl (fun q5 => ?_) (fun q5 => ?_)
      · replace h := ite_t q5 h
        refine x_il (pc' := 42) rfl rfl rfl ?_
        refine x_is (pc' := 43) (ls' := [(2, 0), (0, l1), (0, l2), (0, l3), (0, l4), (0, l5)]) rfl rfl rfl rfl ?_
        refine x_inc (pc' := 44) (ls' := [(2, 0), (0, l1), (0, w32 (l2 + 1)), (0, l3), (0, l4), (0, l5)]) rfl rfl rfl rfl ?_
        refine x_inc (pc' := 45) (ls' := [(2, 0), (0, l1), (0, w32 (l2 + 1)), (0, l3), (0, l4), (0, w32 (l5 + 1))]) rfl rfl rfl rfl ?_
        refine x_goto (t' := 22) rfl rfl ?_
        exact h
      · replace h := ite_f q5 h
        refine x_c (pc' := 36) rfl rfl ?_
        refine x_il (pc' := 37) rfl rfl rfl ?_
        refine x_ib (pc' := 38) (v := w32 (20 * l4)) rfl rfl rfl ?_
        refine x_il (pc' := 39) rfl rfl rfl ?_
        refine x_ib (pc' := 40) (v := w32 ((w32 (20 * l4)) + l5)) rfl rfl rfl ?_
        refine x_goto (t' := 42) rfl rfl ?_
        refine x_is (pc' := 43) (ls' := [(2, 0), (0, l1), (0, l2), (0, w32 ((w32 (20 * l4)) + l5)), (0, l4), (0, l5)]) rfl rfl rfl rfl ?_
        refine x_inc (pc' := 44) (ls' := [(2, 0), (0, l1), (0, w32 (l2 + 1)), (0, w32 ((w32 (20 * l4)) + l5)), (0, l4), (0, l5)]) rfl rfl rfl rfl ?_
        refine x_inc (pc' := 45) (ls' := [(2, 0), (0, l1), (0, w32 (l2 + 1)), (0, w32 ((w32 (20 * l4)) + l5)), (0, l4), (0, w32 (l5 + 1))]) rfl rfl rfl rfl ?_
        refine x_goto (t' := 22) rfl rfl ?_
        exact h
def at_X_nearest_13 (d : Nat) (l1 : Int) (l2 : Int) (l3 : Int) (l4 : Int) (w5 : AV) (M : Mem) (r : Res) : Prop := Ex sx0 d k_X_nearest 1 13 [(2, 0), (0, l1), (0, l2), (0, l3), (0, l4), w5] [] M r
theorem sg_X_nearest {d : Nat} {p1 : Int} {M : Mem} {r : Res} (h : ∃ v2, Cl d m_C_has [(2, 1), (0, p1)] M (some (0, v2), M) ∧ (if ¬ v2 = 0 then at_X_nearest_13 d p1 (-2) (-1) 0 (3, 0) M r else r = (some (0, (-1)), M))) : Cl (d + 1) m_X_nearest [(2, 0), (0, p1)] M r := by
  refine cl_of (c := k_X_nearest) (mL := 6) (rz := 1) (rc := 0) (ls := [(2, 0), (0, p1), (3, 0), (3, 0), (3, 0), (3, 0)]) rfl rfl rfl ?_
  refine x_al (pc' := 1) rfl rfl (by decide) rfl ?_
  refine x_gr (pc' := 2) (v := 1) rfl rfl rfl (by decide) rfl ?_
  refine x_il (pc' := 3) rfl rfl rfl ?_
  obtain ⟨v2, q1, h⟩ := h
  refine x_call (pc' := 4) (as := [(2, 1), (0, p1)]) (rest := []) rfl rfl rfl rfl rfl rfl q1 ?_
  refine x_ifne (pc' := 5) (t' := 7) rfl rfl rfl (fun q3 => ?_) (fun q3 => ?_)
  · replace h := ite_t q3 h
    refine x_c (pc' := 8) rfl rfl ?_
    refine x_is (pc' := 9) (ls' := [(2, 0), (0, p1), (0, (-2)), (3, 0), (3, 0), (3, 0)]) rfl rfl rfl rfl ?_
    refine x_c (pc' := 10) rfl rfl ?_
    refine x_is (pc' := 11) (ls' := [(2, 0), (0, p1), (0, (-2)), (0, (-1)), (3, 0), (3, 0)]) rfl rfl rfl rfl ?_
    refine x_c (pc' := 12) rfl rfl ?_
    refine x_is (pc' := 13) (ls' := [(2, 0), (0, p1), (0, (-2)), (0, (-1)), (0, 0), (3, 0)]) rfl rfl rfl rfl ?_
    exact h
  · replace h := ite_f q3 h
    refine x_c (pc' := 6) rfl rfl ?_
    exact x_iret rfl h
theorem sg_X_nearest_13 {d : Nat} {l1 : Int} {l2 : Int} {l3 : Int} {l4 : Int} {w5 : AV} {M : Mem} {r : Res} (h : (if M 1 5 ≤ l4 then r = (some (0, l2), M) else (if ¬ l4 = l1 then ∃ v4 M5, Cl d m_X_alikeCards [(2, 0), (0, l1), (0, l4)] M (some (0, v4), M5) ∧ (if v4 ≤ l3 then at_X_nearest_13 d l1 l2 l3 (w32 (l4 + 1)) (0, v4) M5 r else at_X_nearest_13 d l1 l4 v4 (w32 (l4 + 1)) (0, v4) M5 r) else (if (-1) ≤ l3 then at_X_nearest_13 d l1 l2 l3 (w32 (l4 + 1)) (0, (-1)) M r else at_X_nearest_13 d l1 l4 (-1) (w32 (l4 + 1)) (0, (-1)) M r)))) : at_X_nearest_13 d l1 l2 l3 l4 w5 M r := by
  unfold at_X_nearest_13
  refine x_il (pc' := 14) rfl rfl rfl ?_
  refine x_al (pc' := 15) rfl rfl (by decide) rfl ?_
  refine x_gr (pc' := 16) (v := 1) rfl rfl rfl (by decide) rfl ?_
  refine x_gf (pc' := 17) (v := M 1 5) rfl rfl rfl rfl rfl ?_
  refine x_icge (pc' := 18) (t' := 37) rfl rfl rfl (fun q1 => ?_) (fun q1 => ?_)
  · replace h := ite_t q1 h
    refine x_il (pc' := 38) rfl rfl rfl ?_
    exact x_iret rfl h
  · replace h := ite_f q1 h
    refine x_il (pc' := 19) rfl rfl rfl ?_
    refine x_il (pc' := 20) rfl rfl rfl ?_
    refine x_icne (pc' := 21) (t' := 23) rfl rfl rfl (fun q2 => ?_) (fun q2 => ?_)
    · replace h := ite_t q2 h
      refine x_al (pc' := 24) rfl rfl (by decide) rfl ?_
      refine x_il (pc' := 25) rfl rfl rfl ?_
      refine x_il (pc' := 26) rfl rfl rfl ?_
      obtain ⟨v4, M5, q3, h⟩ := h
      refine x_call (pc' := 27) (as := [(2, 0), (0, l1), (0, l4)]) (rest := []) rfl rfl rfl rfl rfl rfl q3 ?_
      refine x_is (pc' := 28) (ls' := [(2, 0), (0, l1), (0, l2), (0, l3), (0, l4), (0, v4)]) rfl rfl rfl rfl ?_
      refine x_il (pc' := 29) rfl rfl rfl ?_
      refine x_il (pc' := 30) rfl rfl rfl ?_
      refine x_icle (pc' := 31) (t' := 35) rfl rfl rfl (fun q6 => ?_) (fun q6 => ?_)
      · replace h := ite_t q6 h
        refine x_inc (pc' := 36) (ls' := [(2, 0), (0, l1), (0, l2), (0, l3), (0, w32 (l4 + 1)), (0, v4)]) rfl rfl rfl rfl ?_
        refine x_goto (t' := 13) rfl rfl ?_
        exact h
      · replace h := ite_f q6 h
        refine x_il (pc' := 32) rfl rfl rfl ?_
        refine x_is (pc' := 33) (ls' := [(2, 0), (0, l1), (0, l2), (0, v4), (0, l4), (0, v4)]) rfl rfl rfl rfl ?_
        refine x_il (pc' := 34) rfl rfl rfl ?_
        refine x_is (pc' := 35) (ls' := [(2, 0), (0, l1), (0, l4), (0, v4), (0, l4), (0, v4)]) rfl rfl rfl rfl ?_
        refine x_inc (pc' := 36) (ls' := [(2, 0), (0, l1), (0, l4), (0, v4), (0, w32 (l4 + 1)), (0, v4)]) rfl rfl rfl rfl ?_
        refine x_goto (t' := 13) rfl rfl ?_
        exact h
    · replace h := ite_f q2 h
      refine x_c (pc' := 22) rfl rfl ?_
      refine x_goto (t' := 27) rfl rfl ?_
      refine x_is (pc' := 28) (ls' := [(2, 0), (0, l1), (0, l2), (0, l3), (0, l4), (0, (-1))]) rfl rfl rfl rfl ?_
      refine x_il (pc' := 29) rfl rfl rfl ?_
      refine x_il (pc' := 30) rfl rfl rfl ?_
      refine x_icle (pc' := 31) (t' := 35) rfl rfl rfl (fun q7 => ?_) (fun q7 => ?_)
      · replace h := ite_t q7 h
        refine x_inc (pc' := 36) (ls' := [(2, 0), (0, l1), (0, l2), (0, l3), (0, w32 (l4 + 1)), (0, (-1))]) rfl rfl rfl rfl ?_
        refine x_goto (t' := 13) rfl rfl ?_
        exact h
      · replace h := ite_f q7 h
        refine x_il (pc' := 32) rfl rfl rfl ?_
        refine x_is (pc' := 33) (ls' := [(2, 0), (0, l1), (0, l2), (0, (-1)), (0, l4), (0, (-1))]) rfl rfl rfl rfl ?_
        refine x_il (pc' := 34) rfl rfl rfl ?_
        refine x_is (pc' := 35) (ls' := [(2, 0), (0, l1), (0, l4), (0, (-1)), (0, l4), (0, (-1))]) rfl rfl rfl rfl ?_
        refine x_inc (pc' := 36) (ls' := [(2, 0), (0, l1), (0, l4), (0, (-1)), (0, w32 (l4 + 1)), (0, (-1))]) rfl rfl rfl rfl ?_
        refine x_goto (t' := 13) rfl rfl ?_
        exact h
theorem sg_X_isGlass {d : Nat} {p1 : Int} {M : Mem} {r : Res} (h : (if p1 < 0 then r = (some (0, 0), M) else (if 4 < w32 (Int.tdiv p1 100) then r = (some (0, 0), M) else (if 30 < w32 (Int.tmod p1 100) then r = (some (0, 0), M) else r = (some (0, 1), M))))) : Cl (d + 1) m_X_isGlass [(0, p1)] M r := by
  refine cl_of (c := k_X_isGlass) (mL := 1) (rz := 3) (rc := 99) (ls := [(0, p1)]) rfl rfl rfl ?_
  refine x_il (pc' := 1) rfl rfl rfl ?_
  refine x_iflt (pc' := 2) (t' := 14) rfl rfl rfl (fun q1 => ?_) (fun q1 => ?_)
  · replace h := ite_t q1 h
    refine x_c (pc' := 15) rfl rfl ?_
    exact x_zret rfl (by decide) h
  · replace h := ite_f q1 h
    refine x_il (pc' := 3) rfl rfl rfl ?_
    refine x_c (pc' := 4) rfl rfl ?_
    refine x_ib (pc' := 5) (v := w32 (Int.tdiv p1 100)) rfl rfl rfl ?_
    refine x_c (pc' := 6) rfl rfl ?_
    refine x_icgt (pc' := 7) (t' := 14) rfl rfl rfl (fun q2 => ?_) (fun q2 => ?_)
    · replace h := ite_t q2 h
      refine x_c (pc' := 15) rfl rfl ?_
      exact x_zret rfl (by decide) h
    · replace h := ite_f q2 h
      refine x_il (pc' := 8) rfl rfl rfl ?_
      refine x_c (pc' := 9) rfl rfl ?_
      refine x_ib (pc' := 10) (v := w32 (Int.tmod p1 100)) rfl rfl rfl ?_
      refine x_c (pc' := 11) rfl rfl ?_
      refine x_icgt (pc' := 12) (t' := 14) rfl rfl rfl (fun q3 => ?_) (fun q3 => ?_)
      · replace h := ite_t q3 h
        refine x_c (pc' := 15) rfl rfl ?_
        exact x_zret rfl (by decide) h
      · replace h := ite_f q3 h
        refine x_c (pc' := 13) rfl rfl ?_
        refine x_goto (t' := 15) rfl rfl ?_
        exact x_zret rfl (by decide) h
theorem sg_X_whose {d : Nat} {p1 p2 : Int} {M : Mem} {r : Res} (h : ∃ v2, Cl d m_X_isGlass [(0, p1)] M (some (0, v2), M) ∧ (if v2 = 0 then r = (some (0, (-1)), M) else (if p2 < (-2) then r = (some (0, (-1)), M) else (if p2 < M 1 5 then (if p2 < 0 then (if ¬ p2 = (-1) then ∃ v9, Cl d m_X_countGlassFingers [(2, 0), (0, p1)] M (some (0, v9), M) ∧ r = (some (0, v9), M) else ∃ v11, Cl d m_X_glassCards [(2, 0), (0, p1)] M (some (0, v11), M) ∧ r = (some (0, v11), M)) else ∃ v13, Cl d m_X_glassFingers [(2, 0), (0, p1), (0, p2)] M (some (0, v13), M) ∧ r = (some (0, v13), M)) else r = (some (0, (-1)), M))))) : Cl (d + 1) m_X_whose [(2, 0), (0, p1), (0, p2)] M r := by
  refine cl_of (c := k_X_whose) (mL := 3) (rz := 1) (rc := 0) (ls := [(2, 0), (0, p1), (0, p2)]) rfl rfl rfl ?_
  refine x_il (pc' := 1) rfl rfl rfl ?_
  obtain ⟨v2, q1, h⟩ := h
  refine x_call (pc' := 2) (as := [(0, p1)]) (rest := []) rfl rfl rfl rfl rfl rfl q1 ?_
  refine x_ifeq (pc' := 3) (t' := 11) rfl rfl rfl (fun q3 => ?_) (fun q3 => ?_)
  · replace h := ite_t q3 h
    refine x_c (pc' := 12) rfl rfl ?_
    exact x_iret rfl h
  · replace h := ite_f q3 h
    refine x_il (pc' := 4) rfl rfl rfl ?_
    refine x_c (pc' := 5) rfl rfl ?_
    refine x_iclt (pc' := 6) (t' := 11) rfl rfl rfl (fun q4 => ?_) (fun q4 => ?_)
    · replace h := ite_t q4 h
      refine x_c (pc' := 12) rfl rfl ?_
      exact x_iret rfl h
    · replace h := ite_f q4 h
      refine x_il (pc' := 7) rfl rfl rfl ?_
      refine x_al (pc' := 8) rfl rfl (by decide) rfl ?_
      refine x_gr (pc' := 9) (v := 1) rfl rfl rfl (by decide) rfl ?_
      refine x_gf (pc' := 10) (v := M 1 5) rfl rfl rfl rfl rfl ?_
      refine x_iclt (pc' := 11) (t' := 13) rfl rfl rfl (fun q5 => ?_) (fun q5 => ?_)
      · replace h := ite_t q5 h
        refine x_il (pc' := 14) rfl rfl rfl ?_
        refine x_iflt (pc' := 15) (t' := 20) rfl rfl rfl (fun q6 => ?_) (fun q6 => ?_)
        · replace h := ite_t q6 h
          refine x_il (pc' := 21) rfl rfl rfl ?_
          refine x_c (pc' := 22) rfl rfl ?_
          refine x_icne (pc' := 23) (t' := 27) rfl rfl rfl (fun q7 => ?_) (fun q7 => ?_)
          · replace h := ite_t q7 h
            refine x_al (pc' := 28) rfl rfl (by decide) rfl ?_
            refine x_il (pc' := 29) rfl rfl rfl ?_
            obtain ⟨v9, q8, h⟩ := h
            refine x_call (pc' := 30) (as := [(2, 0), (0, p1)]) (rest := []) rfl rfl rfl rfl rfl rfl q8 ?_
            exact x_iret rfl h
          · replace h := ite_f q7 h
            refine x_al (pc' := 24) rfl rfl (by decide) rfl ?_
            refine x_il (pc' := 25) rfl rfl rfl ?_
            obtain ⟨v11, q10, h⟩ := h
            refine x_call (pc' := 26) (as := [(2, 0), (0, p1)]) (rest := []) rfl rfl rfl rfl rfl rfl q10 ?_
            refine x_goto (t' := 30) rfl rfl ?_
            exact x_iret rfl h
        · replace h := ite_f q6 h
          refine x_al (pc' := 16) rfl rfl (by decide) rfl ?_
          refine x_il (pc' := 17) rfl rfl rfl ?_
          refine x_il (pc' := 18) rfl rfl rfl ?_
          obtain ⟨v13, q12, h⟩ := h
          refine x_call (pc' := 19) (as := [(2, 0), (0, p1), (0, p2)]) (rest := []) rfl rfl rfl rfl rfl rfl q12 ?_
          exact x_iret rfl h
      · replace h := ite_f q5 h
        refine x_c (pc' := 12) rfl rfl ?_
        exact x_iret rfl h
def at_X_glassFingers_4 (d : Nat) (l1 : Int) (l2 : Int) (l3 : Int) (l4 : Int) (M : Mem) (r : Res) : Prop := Ex sx0 d k_X_glassFingers 1 4 [(2, 0), (0, l1), (0, l2), (0, l3), (0, l4)] [] M r
theorem sg_X_glassFingers {d : Nat} {p1 p2 : Int} {M : Mem} {r : Res} (h : at_X_glassFingers_4 d p1 p2 0 0 M r) : Cl (d + 1) m_X_glassFingers [(2, 0), (0, p1), (0, p2)] M r := by
  refine cl_of (c := k_X_glassFingers) (mL := 5) (rz := 1) (rc := 0) (ls := [(2, 0), (0, p1), (0, p2), (3, 0), (3, 0)]) rfl rfl rfl ?_
  refine x_c (pc' := 1) rfl rfl ?_
  refine x_is (pc' := 2) (ls' := [(2, 0), (0, p1), (0, p2), (0, 0), (3, 0)]) rfl rfl rfl rfl ?_
  refine x_c (pc' := 3) rfl rfl ?_
  refine x_is (pc' := 4) (ls' := [(2, 0), (0, p1), (0, p2), (0, 0), (0, 0)]) rfl rfl rfl rfl ?_
  exact h
theorem sg_X_glassFingers_4 {d : Nat} {l1 : Int} {l2 : Int} {l3 : Int} {l4 : Int} {M : Mem} {r : Res} (h : (if 10 ≤ l4 then r = (some (0, l3), M) else ∃ v3, Cl d m_X_fits [(2, 0), (0, w32 (Int.tdiv l1 100)), (0, w32 (Int.tmod l1 100)), (0, l2), (0, l4)] M (some (0, v3), M) ∧ (if v3 = 0 then at_X_glassFingers_4 d l1 l2 l3 (w32 (l4 + 1)) M r else at_X_glassFingers_4 d l1 l2 (ior l3 (ishl 1 l4)) (w32 (l4 + 1)) M r))) : at_X_glassFingers_4 d l1 l2 l3 l4 M r := by
  unfold at_X_glassFingers_4
  refine x_il (pc' := 5) rfl rfl rfl ?_
  refine x_c (pc' := 6) rfl rfl ?_
  refine x_icge (pc' := 7) (t' := 26) rfl rfl rfl (fun q1 => ?_) (fun q1 => ?_)
  · replace h := ite_t q1 h
    refine x_il (pc' := 27) rfl rfl rfl ?_
    exact x_iret rfl h
  · replace h := ite_f q1 h
    refine x_al (pc' := 8) rfl rfl (by decide) rfl ?_
    refine x_il (pc' := 9) rfl rfl rfl ?_
    refine x_c (pc' := 10) rfl rfl ?_
    refine x_ib (pc' := 11) (v := w32 (Int.tdiv l1 100)) rfl rfl rfl ?_
    refine x_il (pc' := 12) rfl rfl rfl ?_
    refine x_c (pc' := 13) rfl rfl ?_
    refine x_ib (pc' := 14) (v := w32 (Int.tmod l1 100)) rfl rfl rfl ?_
    refine x_il (pc' := 15) rfl rfl rfl ?_
    refine x_il (pc' := 16) rfl rfl rfl ?_
    obtain ⟨v3, q2, h⟩ := h
    refine x_call (pc' := 17) (as := [(2, 0), (0, w32 (Int.tdiv l1 100)), (0, w32 (Int.tmod l1 100)), (0, l2), (0, l4)]) (rest := []) rfl rfl rfl rfl rfl rfl q2 ?_
    refine x_ifeq (pc' := 18) (t' := 24) rfl rfl rfl (fun q4 => ?_) (fun q4 => ?_)
    · replace h := ite_t q4 h
      refine x_inc (pc' := 25) (ls' := [(2, 0), (0, l1), (0, l2), (0, l3), (0, w32 (l4 + 1))]) rfl rfl rfl rfl ?_
      refine x_goto (t' := 4) rfl rfl ?_
      exact h
    · replace h := ite_f q4 h
      refine x_il (pc' := 19) rfl rfl rfl ?_
      refine x_c (pc' := 20) rfl rfl ?_
      refine x_il (pc' := 21) rfl rfl rfl ?_
      refine x_ib (pc' := 22) (v := ishl 1 l4) rfl rfl rfl ?_
      refine x_ib (pc' := 23) (v := ior l3 (ishl 1 l4)) rfl rfl rfl ?_
      refine x_is (pc' := 24) (ls' := [(2, 0), (0, l1), (0, l2), (0, ior l3 (ishl 1 l4)), (0, l4)]) rfl rfl rfl rfl ?_
      refine x_inc (pc' := 25) (ls' := [(2, 0), (0, l1), (0, l2), (0, ior l3 (ishl 1 l4)), (0, w32 (l4 + 1))]) rfl rfl rfl rfl ?_
      refine x_goto (t' := 4) rfl rfl ?_
      exact h
def at_X_glassCards_4 (d : Nat) (l1 : Int) (l2 : Int) (l3 : Int) (M : Mem) (r : Res) : Prop := Ex sx0 d k_X_glassCards 1 4 [(2, 0), (0, l1), (0, l2), (0, l3)] [] M r
theorem sg_X_glassCards {d : Nat} {p1 : Int} {M : Mem} {r : Res} (h : at_X_glassCards_4 d p1 0 0 M r) : Cl (d + 1) m_X_glassCards [(2, 0), (0, p1)] M r := by
  refine cl_of (c := k_X_glassCards) (mL := 4) (rz := 1) (rc := 0) (ls := [(2, 0), (0, p1), (3, 0), (3, 0)]) rfl rfl rfl ?_
  refine x_c (pc' := 1) rfl rfl ?_
  refine x_is (pc' := 2) (ls' := [(2, 0), (0, p1), (0, 0), (3, 0)]) rfl rfl rfl rfl ?_
  refine x_c (pc' := 3) rfl rfl ?_
  refine x_is (pc' := 4) (ls' := [(2, 0), (0, p1), (0, 0), (0, 0)]) rfl rfl rfl rfl ?_
  exact h
theorem sg_X_glassCards_4 {d : Nat} {l1 : Int} {l2 : Int} {l3 : Int} {M : Mem} {r : Res} (h : (if M 1 5 ≤ l3 then r = (some (0, l2), M) else ∃ v3, Cl d m_X_glassFingers [(2, 0), (0, l1), (0, l3)] M (some (0, v3), M) ∧ (if v3 = 0 then at_X_glassCards_4 d l1 l2 (w32 (l3 + 1)) M r else at_X_glassCards_4 d l1 (ior l2 (ishl 1 l3)) (w32 (l3 + 1)) M r))) : at_X_glassCards_4 d l1 l2 l3 M r := by
  unfold at_X_glassCards_4
  refine x_il (pc' := 5) rfl rfl rfl ?_
  refine x_al (pc' := 6) rfl rfl (by decide) rfl ?_
  refine x_gr (pc' := 7) (v := 1) rfl rfl rfl (by decide) rfl ?_
  refine x_gf (pc' := 8) (v := M 1 5) rfl rfl rfl rfl rfl ?_
  refine x_icge (pc' := 9) (t' := 22) rfl rfl rfl (fun q1 => ?_) (fun q1 => ?_)
  · replace h := ite_t q1 h
    refine x_il (pc' := 23) rfl rfl rfl ?_
    exact x_iret rfl h
  · replace h := ite_f q1 h
    refine x_al (pc' := 10) rfl rfl (by decide) rfl ?_
    refine x_il (pc' := 11) rfl rfl rfl ?_
    refine x_il (pc' := 12) rfl rfl rfl ?_
    obtain ⟨v3, q2, h⟩ := h
    refine x_call (pc' := 13) (as := [(2, 0), (0, l1), (0, l3)]) (rest := []) rfl rfl rfl rfl rfl rfl q2 ?_
    refine x_ifeq (pc' := 14) (t' := 20) rfl rfl rfl (fun q4 => ?_) (fun q4 => ?_)
    · replace h := ite_t q4 h
      refine x_inc (pc' := 21) (ls' := [(2, 0), (0, l1), (0, l2), (0, w32 (l3 + 1))]) rfl rfl rfl rfl ?_
      refine x_goto (t' := 4) rfl rfl ?_
      exact h
    · replace h := ite_f q4 h
      refine x_il (pc' := 15) rfl rfl rfl ?_
      refine x_c (pc' := 16) rfl rfl ?_
      refine x_il (pc' := 17) rfl rfl rfl ?_
      refine x_ib (pc' := 18) (v := ishl 1 l3) rfl rfl rfl ?_
      refine x_ib (pc' := 19) (v := ior l2 (ishl 1 l3)) rfl rfl rfl ?_
      refine x_is (pc' := 20) (ls' := [(2, 0), (0, l1), (0, ior l2 (ishl 1 l3)), (0, l3)]) rfl rfl rfl rfl ?_
      refine x_inc (pc' := 21) (ls' := [(2, 0), (0, l1), (0, ior l2 (ishl 1 l3)), (0, w32 (l3 + 1))]) rfl rfl rfl rfl ?_
      refine x_goto (t' := 4) rfl rfl ?_
      exact h
def at_X_countGlassFingers_4 (d : Nat) (l1 : Int) (l2 : Int) (l3 : Int) (M : Mem) (r : Res) : Prop := Ex sx0 d k_X_countGlassFingers 1 4 [(2, 0), (0, l1), (0, l2), (0, l3)] [] M r
theorem sg_X_countGlassFingers {d : Nat} {p1 : Int} {M : Mem} {r : Res} (h : at_X_countGlassFingers_4 d p1 0 0 M r) : Cl (d + 1) m_X_countGlassFingers [(2, 0), (0, p1)] M r := by
  refine cl_of (c := k_X_countGlassFingers) (mL := 4) (rz := 1) (rc := 0) (ls := [(2, 0), (0, p1), (3, 0), (3, 0)]) rfl rfl rfl ?_
  refine x_c (pc' := 1) rfl rfl ?_
  refine x_is (pc' := 2) (ls' := [(2, 0), (0, p1), (0, 0), (3, 0)]) rfl rfl rfl rfl ?_
  refine x_c (pc' := 3) rfl rfl ?_
  refine x_is (pc' := 4) (ls' := [(2, 0), (0, p1), (0, 0), (0, 0)]) rfl rfl rfl rfl ?_
  exact h
theorem sg_X_countGlassFingers_4 {d : Nat} {l1 : Int} {l2 : Int} {l3 : Int} {M : Mem} {r : Res} (h : (if M 1 5 ≤ l3 then r = (some (0, l2), M) else ∃ v3, Cl d m_X_glassFingers [(2, 0), (0, l1), (0, l3)] M (some (0, v3), M) ∧ ∃ v5, Cl d m_J_bitCount [(0, v3)] M (some (0, v5), M) ∧ at_X_countGlassFingers_4 d l1 (w32 (l2 + v5)) (w32 (l3 + 1)) M r)) : at_X_countGlassFingers_4 d l1 l2 l3 M r := by
  unfold at_X_countGlassFingers_4
  refine x_il (pc' := 5) rfl rfl rfl ?_
  refine x_al (pc' := 6) rfl rfl (by decide) rfl ?_
  refine x_gr (pc' := 7) (v := 1) rfl rfl rfl (by decide) rfl ?_
  refine x_gf (pc' := 8) (v := M 1 5) rfl rfl rfl rfl rfl ?_
  refine x_icge (pc' := 9) (t' := 19) rfl rfl rfl (fun q1 => ?_) (fun q1 => ?_)
  · replace h := ite_t q1 h
    refine x_il (pc' := 20) rfl rfl rfl ?_
    exact x_iret rfl h
  · replace h := ite_f q1 h
    refine x_il (pc' := 10) rfl rfl rfl ?_
    refine x_al (pc' := 11) rfl rfl (by decide) rfl ?_
    refine x_il (pc' := 12) rfl rfl rfl ?_
    refine x_il (pc' := 13) rfl rfl rfl ?_
    obtain ⟨v3, q2, h⟩ := h
    refine x_call (pc' := 14) (as := [(2, 0), (0, l1), (0, l3)]) (rest := [(0, l2)]) rfl rfl rfl rfl rfl rfl q2 ?_
    obtain ⟨v5, q4, h⟩ := h
    refine x_call (pc' := 15) (as := [(0, v3)]) (rest := [(0, l2)]) rfl rfl rfl rfl rfl rfl q4 ?_
    refine x_ib (pc' := 16) (v := w32 (l2 + v5)) rfl rfl rfl ?_
    refine x_is (pc' := 17) (ls' := [(2, 0), (0, l1), (0, w32 (l2 + v5)), (0, l3)]) rfl rfl rfl rfl ?_
    refine x_inc (pc' := 18) (ls' := [(2, 0), (0, l1), (0, w32 (l2 + v5)), (0, w32 (l3 + 1))]) rfl rfl rfl rfl ?_
    refine x_goto (t' := 4) rfl rfl ?_
    exact h
theorem sg_X_best {d : Nat} {p1 : Int} {M : Mem} {r : Res} (h : ∃ v2, Cl d m_X_isGlass [(0, p1)] M (some (0, v2), M) ∧ (if v2 = 0 then r = (some (0, (-1)), M) else ∃ v5 M6, Cl d m_X_bestFinger [(2, 0), (0, p1)] M (some (0, v5), M6) ∧ r = (some (0, v5), M6))) : Cl (d + 1) m_X_best [(2, 0), (0, p1)] M r := by
  refine cl_of (c := k_X_best) (mL := 2) (rz := 1) (rc := 0) (ls := [(2, 0), (0, p1)]) rfl rfl rfl ?_
  refine x_il (pc' := 1) rfl rfl rfl ?_
  obtain ⟨v2, q1, h⟩ := h
  refine x_call (pc' := 2) (as := [(0, p1)]) (rest := []) rfl rfl rfl rfl rfl rfl q1 ?_
  refine x_ifeq (pc' := 3) (t' := 7) rfl rfl rfl (fun q3 => ?_) (fun q3 => ?_)
  · replace h := ite_t q3 h
    refine x_c (pc' := 8) rfl rfl ?_
    exact x_iret rfl h
  · replace h := ite_f q3 h
    refine x_al (pc' := 4) rfl rfl (by decide) rfl ?_
    refine x_il (pc' := 5) rfl rfl rfl ?_
    obtain ⟨v5, M6, q4, h⟩ := h
    refine x_call (pc' := 6) (as := [(2, 0), (0, p1)]) (rest := []) rfl rfl rfl rfl rfl rfl q4 ?_
    refine x_goto (t' := 8) rfl rfl ?_
    exact x_iret rfl h
def at_X_bestFinger_6 (d : Nat) (l1 : Int) (l2 : Int) (l3 : Int) (l4 : Int) (w5 : AV) (w6 : AV) (M : Mem) (r : Res) : Prop := Ex sx0 d k_X_bestFinger 1 6 [(2, 0), (0, l1), (0, l2), (0, l3), (0, l4), w5, w6] [] M r
def at_X_bestFinger_13 (d : Nat) (l1 : Int) (l2 : Int) (l3 : Int) (l4 : Int) (l5 : Int) (w6 : AV) (M : Mem) (r : Res) : Prop := Ex sx0 d k_X_bestFinger 1 13 [(2, 0), (0, l1), (0, l2), (0, l3), (0, l4), (0, l5), w6] [] M r
theorem sg_X_bestFinger {d : Nat} {p1 : Int} {M : Mem} {r : Res} (h : at_X_bestFinger_6 d p1 (-2) (-1) 0 (3, 0) (3, 0) M r) : Cl (d + 1) m_X_bestFinger [(2, 0), (0, p1)] M r := by
  refine cl_of (c := k_X_bestFinger) (mL := 7) (rz := 1) (rc := 0) (ls := [(2, 0), (0, p1), (3, 0), (3, 0), (3, 0), (3, 0), (3, 0)]) rfl rfl rfl ?_
  refine x_c (pc' := 1) rfl rfl ?_
  refine x_is (pc' := 2) (ls' := [(2, 0), (0, p1), (0, (-2)), (3, 0), (3, 0), (3, 0), (3, 0)]) rfl rfl rfl rfl ?_
  refine x_c (pc' := 3) rfl rfl ?_
  refine x_is (pc' := 4) (ls' := [(2, 0), (0, p1), (0, (-2)), (0, (-1)), (3, 0), (3, 0), (3, 0)]) rfl rfl rfl rfl ?_
  refine x_c (pc' := 5) rfl rfl ?_
  refine x_is (pc' := 6) (ls' := [(2, 0), (0, p1), (0, (-2)), (0, (-1)), (0, 0), (3, 0), (3, 0)]) rfl rfl rfl rfl ?_
  exact h
theorem sg_X_bestFinger_6 {d : Nat} {l1 : Int} {l2 : Int} {l3 : Int} {l4 : Int} {w5 : AV} {w6 : AV} {M : Mem} {r : Res} (h : (if M 1 5 ≤ l4 then r = (some (0, l2), M) else at_X_bestFinger_13 d l1 l2 l3 l4 0 w6 M r)) : at_X_bestFinger_6 d l1 l2 l3 l4 w5 w6 M r := by
  unfold at_X_bestFinger_6
  refine x_il (pc' := 7) rfl rfl rfl ?_
  refine x_al (pc' := 8) rfl rfl (by decide) rfl ?_
  refine x_gr (pc' := 9) (v := 1) rfl rfl rfl (by decide) rfl ?_
  refine x_gf (pc' := 10) (v := M 1 5) rfl rfl rfl rfl rfl ?_
  refine x_icge (pc' := 11) (t' := 37) rfl rfl rfl (fun q1 => ?_) (fun q1 => ?_)
  · replace h := ite_t q1 h
    refine x_il (pc' := 38) rfl rfl rfl ?_
    exact x_iret rfl h
  · replace h := ite_f q1 h
    refine x_c (pc' := 12) rfl rfl ?_
    refine x_is (pc' := 13) (ls' := [(2, 0), (0, l1), (0, l2), (0, l3), (0, l4), (0, 0), w6]) rfl rfl rfl rfl ?_
    exact h
theorem sg_X_bestFinger_13 {d : Nat} {l1 : Int} {l2 : Int} {l3 : Int} {l4 : Int} {l5 : Int} {w6 : AV} {M : Mem} {r : Res} (h : (if 10 ≤ l5 then at_X_bestFinger_6 d l1 l2 l3 (w32 (l4 + 1)) (0, l5) w6 M r else ∃ v3 M4, Cl d m_X_glassAlikeness [(2, 0), (0, l1), (0, l4), (0, l5)] M (some (0, v3), M4) ∧ (if v3 ≤ l3 then at_X_bestFinger_13 d l1 l2 l3 l4 (w32 (l5 + 1)) (0, v3) M4 r else at_X_bestFinger_13 d l1 (w32 ((w32 (20 * l4)) + l5)) v3 l4 (w32 (l5 + 1)) (0, v3) M4 r))) : at_X_bestFinger_13 d l1 l2 l3 l4 l5 w6 M r := by
  unfold at_X_bestFinger_13
  refine x_il (pc' := 14) rfl rfl rfl ?_
  refine x_c (pc' := 15) rfl rfl ?_
  refine x_icge (pc' := 16) (t' := 35) rfl rfl rfl (fun q1 => ?_) (fun q1 => ?_)
  · replace h := ite_t q1 h
    refine x_inc (pc' := 36) (ls' := [(2, 0), (0, l1), (0, l2), (0, l3), (0, w32 (l4 + 1)), (0, l5), w6]) rfl rfl rfl rfl ?_
    refine x_goto (t' := 6) rfl rfl ?_
    exact h
  · replace h := ite_f q1 h
    refine x_al (pc' := 17) rfl rfl (by decide) rfl ?_
    refine x_il (pc' := 18) rfl rfl rfl ?_
    refine x_il (pc' := 19) rfl rfl rfl ?_
    refine x_il (pc' := 20) rfl rfl rfl ?_
    obtain ⟨v3, M4, q2, h⟩ := h
    refine x_call (pc' := 21) (as := [(2, 0), (0, l1), (0, l4), (0, l5)]) (rest := []) rfl rfl rfl rfl rfl rfl q2 ?_
    refine x_is (pc' := 22) (ls' := [(2, 0), (0, l1), (0, l2), (0, l3), (0, l4), (0, l5), (0, v3)]) rfl rfl rfl rfl ?_
    refine x_il (pc' := 23) rfl rfl rfl ?_
    refine x_il (pc' := 24) rfl rfl rfl ?_
    refine x_icle (pc' := 25) (t' := 33) rfl rfl rfl (fun q5 => ?_) (fun q5 => ?_)
    · replace h := ite_t q5 h
      refine x_inc (pc' := 34) (ls' := [(2, 0), (0, l1), (0, l2), (0, l3), (0, l4), (0, w32 (l5 + 1)), (0, v3)]) rfl rfl rfl rfl ?_
      refine x_goto (t' := 13) rfl rfl ?_
      exact h
    · replace h := ite_f q5 h
      refine x_il (pc' := 26) rfl rfl rfl ?_
      refine x_is (pc' := 27) (ls' := [(2, 0), (0, l1), (0, l2), (0, v3), (0, l4), (0, l5), (0, v3)]) rfl rfl rfl rfl ?_
      refine x_c (pc' := 28) rfl rfl ?_
      refine x_il (pc' := 29) rfl rfl rfl ?_
      refine x_ib (pc' := 30) (v := w32 (20 * l4)) rfl rfl rfl ?_
      refine x_il (pc' := 31) rfl rfl rfl ?_
      refine x_ib (pc' := 32) (v := w32 ((w32 (20 * l4)) + l5)) rfl rfl rfl ?_
      refine x_is (pc' := 33) (ls' := [(2, 0), (0, l1), (0, w32 ((w32 (20 * l4)) + l5)), (0, v3), (0, l4), (0, l5), (0, v3)]) rfl rfl rfl rfl ?_
      refine x_inc (pc' := 34) (ls' := [(2, 0), (0, l1), (0, w32 ((w32 (20 * l4)) + l5)), (0, v3), (0, l4), (0, w32 (l5 + 1)), (0, v3)]) rfl rfl rfl rfl ?_
      refine x_goto (t' := 13) rfl rfl ?_
      exact h
theorem sg_X_glassAlikeness {d : Nat} {p1 p2 p3 : Int} {M : Mem} {r : Res} (h : ∃ v2, Cl d m_X_fits [(2, 0), (0, w32 (Int.tdiv p1 100)), (0, w32 (Int.tmod p1 100)), (0, p2), (0, p3)] M (some (0, v2), M) ∧ (if v2 = 0 then r = (some (0, (-1)), M) else ∃ v5 M6, Cl d m_X_alikeness [(2, 0), (0, w32 (Int.tdiv p1 100)), (0, w32 (Int.tmod p1 100)), (0, p2), (0, p3)] M (some (0, v5), M6) ∧ r = (some (0, v5), M6))) : Cl (d + 1) m_X_glassAlikeness [(2, 0), (0, p1), (0, p2), (0, p3)] M r := by
  refine cl_of (c := k_X_glassAlikeness) (mL := 6) (rz := 1) (rc := 0) (ls := [(2, 0), (0, p1), (0, p2), (0, p3), (3, 0), (3, 0)]) rfl rfl rfl ?_
  refine x_il (pc' := 1) rfl rfl rfl ?_
  refine x_c (pc' := 2) rfl rfl ?_
  refine x_ib (pc' := 3) (v := w32 (Int.tdiv p1 100)) rfl rfl rfl ?_
  refine x_is (pc' := 4) (ls' := [(2, 0), (0, p1), (0, p2), (0, p3), (0, w32 (Int.tdiv p1 100)), (3, 0)]) rfl rfl rfl rfl ?_
  refine x_il (pc' := 5) rfl rfl rfl ?_
  refine x_c (pc' := 6) rfl rfl ?_
  refine x_ib (pc' := 7) (v := w32 (Int.tmod p1 100)) rfl rfl rfl ?_
  refine x_is (pc' := 8) (ls' := [(2, 0), (0, p1), (0, p2), (0, p3), (0, w32 (Int.tdiv p1 100)), (0, w32 (Int.tmod p1 100))]) rfl rfl rfl rfl ?_
  refine x_al (pc' := 9) rfl rfl (by decide) rfl ?_
  refine x_il (pc' := 10) rfl rfl rfl ?_
  refine x_il (pc' := 11) rfl rfl rfl ?_
  refine x_il (pc' := 12) rfl rfl rfl ?_
  refine x_il (pc' := 13) rfl rfl rfl ?_
  obtain ⟨v2, q1, h⟩ := h
  refine x_call (pc' := 14) (as := [(2, 0), (0, w32 (Int.tdiv p1 100)), (0, w32 (Int.tmod p1 100)), (0, p2), (0, p3)]) (rest := []) rfl rfl rfl rfl rfl rfl q1 ?_
  refine x_ifeq (pc' := 15) (t' := 22) rfl rfl rfl (fun q3 => ?_) (fun q3 => ?_)
  · replace h := ite_t q3 h
    refine x_c (pc' := 23) rfl rfl ?_
    exact x_iret rfl h
  · replace h := ite_f q3 h
    refine x_al (pc' := 16) rfl rfl (by decide) rfl ?_
    refine x_il (pc' := 17) rfl rfl rfl ?_
    refine x_il (pc' := 18) rfl rfl rfl ?_
    refine x_il (pc' := 19) rfl rfl rfl ?_
    refine x_il (pc' := 20) rfl rfl rfl ?_
    obtain ⟨v5, M6, q4, h⟩ := h
    refine x_call (pc' := 21) (as := [(2, 0), (0, w32 (Int.tdiv p1 100)), (0, w32 (Int.tmod p1 100)), (0, p2), (0, p3)]) (rest := []) rfl rfl rfl rfl rfl rfl q4 ?_
    refine x_goto (t' := 23) rfl rfl ?_
    exact x_iret rfl h
theorem sg_X_drawers {d : Nat} {p1 : Int} {M : Mem} {r : Res} (h : ∃ v2, Cl d m_X_isGlass [(0, p1)] M (some (0, v2), M) ∧ (if v2 = 0 then r = (some (0, (-1)), M) else ∃ v5, Cl d m_X_glassCards [(2, 0), (0, p1)] M (some (0, v5), M) ∧ ∃ v7, Cl d m_X_countDrawers [(2, 0), (0, v5)] M (some (0, v7), M) ∧ r = (some (0, v7), M))) : Cl (d + 1) m_X_drawers [(2, 0), (0, p1)] M r := by
  refine cl_of (c := k_X_drawers) (mL := 2) (rz := 1) (rc := 0) (ls := [(2, 0), (0, p1)]) rfl rfl rfl ?_
  refine x_il (pc' := 1) rfl rfl rfl ?_
  obtain ⟨v2, q1, h⟩ := h
  refine x_call (pc' := 2) (as := [(0, p1)]) (rest := []) rfl rfl rfl rfl rfl rfl q1 ?_
  refine x_ifeq (pc' := 3) (t' := 9) rfl rfl rfl (fun q3 => ?_) (fun q3 => ?_)
  · replace h := ite_t q3 h
    refine x_c (pc' := 10) rfl rfl ?_
    exact x_iret rfl h
  · replace h := ite_f q3 h
    refine x_al (pc' := 4) rfl rfl (by decide) rfl ?_
    refine x_al (pc' := 5) rfl rfl (by decide) rfl ?_
    refine x_il (pc' := 6) rfl rfl rfl ?_
    obtain ⟨v5, q4, h⟩ := h
    refine x_call (pc' := 7) (as := [(2, 0), (0, p1)]) (rest := [(2, 0)]) rfl rfl rfl rfl rfl rfl q4 ?_
    obtain ⟨v7, q6, h⟩ := h
    refine x_call (pc' := 8) (as := [(2, 0), (0, v5)]) (rest := []) rfl rfl rfl rfl rfl rfl q6 ?_
    refine x_goto (t' := 10) rfl rfl ?_
    exact x_iret rfl h
theorem sg_X_order {d : Nat} {p1 p2 : Int} {M : Mem} {r : Res} (h : ∃ v2, Cl d m_X_isGlass [(0, p1)] M (some (0, v2), M) ∧ (if v2 = 0 then r = (some (1, (-9223372036854775808)), M) else (if (-2) ≤ p2 then ∃ v6 M7, Cl d m_X_lineUp [(2, 0), (0, p1)] M (some (0, v6), M7) ∧ (if v6 = 0 then r = (some (1, (-2)), M7) else (if p2 < v6 then (if p2 < 0 then (if ¬ p2 = (-2) then ∃ v13, Cl d m_X_meanPart [(2, 0), (0, v6), (0, 0)] M7 (some (1, v13), M7) ∧ r = (some (1, v13), M7) else ∃ v15, Cl d m_X_meanPart [(2, 0), (0, v6), (0, 1)] M7 (some (1, v15), M7) ∧ r = (some (1, v15), M7)) else (0 ≤ p2 ∧ p2 < 12) ∧ r = (some (1, M7 62 p2), M7)) else r = (some (1, (-2)), M7))) else r = (some (1, (-9223372036854775808)), M)))) : Cl (d + 1) m_X_order [(2, 0), (0, p1), (0, p2)] M r := by
  refine cl_of (c := k_X_order) (mL := 4) (rz := 2) (rc := 0) (ls := [(2, 0), (0, p1), (0, p2), (3, 0)]) rfl rfl rfl ?_
  refine x_il (pc' := 1) rfl rfl rfl ?_
  obtain ⟨v2, q1, h⟩ := h
  refine x_call (pc' := 2) (as := [(0, p1)]) (rest := []) rfl rfl rfl rfl rfl rfl q1 ?_
  refine x_ifeq (pc' := 3) (t' := 6) rfl rfl rfl (fun q3 => ?_) (fun q3 => ?_)
  · replace h := ite_t q3 h
    refine x_lc (pc' := 7) rfl rfl ?_
    exact x_lret rfl h
  · replace h := ite_f q3 h
    refine x_il (pc' := 4) rfl rfl rfl ?_
    refine x_c (pc' := 5) rfl rfl ?_
    refine x_icge (pc' := 6) (t' := 8) rfl rfl rfl (fun q4 => ?_) (fun q4 => ?_)
    · replace h := ite_t q4 h
      refine x_al (pc' := 9) rfl rfl (by decide) rfl ?_
      refine x_il (pc' := 10) rfl rfl rfl ?_
      obtain ⟨v6, M7, q5, h⟩ := h
      refine x_call (pc' := 11) (as := [(2, 0), (0, p1)]) (rest := []) rfl rfl rfl rfl rfl rfl q5 ?_
      refine x_is (pc' := 12) (ls' := [(2, 0), (0, p1), (0, p2), (0, v6)]) rfl rfl rfl rfl ?_
      refine x_il (pc' := 13) rfl rfl rfl ?_
      refine x_ifeq (pc' := 14) (t' := 17) rfl rfl rfl (fun q8 => ?_) (fun q8 => ?_)
      · replace h := ite_t q8 h
        refine x_lc (pc' := 18) rfl rfl ?_
        exact x_lret rfl h
      · replace h := ite_f q8 h
        refine x_il (pc' := 15) rfl rfl rfl ?_
        refine x_il (pc' := 16) rfl rfl rfl ?_
        refine x_iclt (pc' := 17) (t' := 19) rfl rfl rfl (fun q9 => ?_) (fun q9 => ?_)
        · replace h := ite_t q9 h
          refine x_il (pc' := 20) rfl rfl rfl ?_
          refine x_iflt (pc' := 21) (t' := 27) rfl rfl rfl (fun q10 => ?_) (fun q10 => ?_)
          · replace h := ite_t q10 h
            refine x_al (pc' := 28) rfl rfl (by decide) rfl ?_
            refine x_il (pc' := 29) rfl rfl rfl ?_
            refine x_il (pc' := 30) rfl rfl rfl ?_
            refine x_c (pc' := 31) rfl rfl ?_
            refine x_icne (pc' := 32) (t' := 34) rfl rfl rfl (fun q11 => ?_) (fun q11 => ?_)
            · replace h := ite_t q11 h
              refine x_c (pc' := 35) rfl rfl ?_
              obtain ⟨v13, q12, h⟩ := h
              refine x_call (pc' := 36) (as := [(2, 0), (0, v6), (0, 0)]) (rest := []) rfl rfl rfl rfl rfl rfl q12 ?_
              exact x_lret rfl h
            · replace h := ite_f q11 h
              refine x_c (pc' := 33) rfl rfl ?_
              refine x_goto (t' := 35) rfl rfl ?_
              obtain ⟨v15, q14, h⟩ := h
              refine x_call (pc' := 36) (as := [(2, 0), (0, v6), (0, 1)]) (rest := []) rfl rfl rfl rfl rfl rfl q14 ?_
              exact x_lret rfl h
          · replace h := ite_f q10 h
            refine x_al (pc' := 22) rfl rfl (by decide) rfl ?_
            refine x_gr (pc' := 23) (v := 62) rfl rfl rfl (by decide) rfl ?_
            refine x_il (pc' := 24) rfl rfl rfl ?_
            obtain ⟨q16, h⟩ := h
            refine x_ia (pc' := 25) 12 (v := M7 62 p2) rfl rfl rfl q16.1 q16.2 rfl ?_
            refine x_i2l (pc' := 26) rfl rfl ?_
            refine x_goto (t' := 36) rfl rfl ?_
            exact x_lret rfl h
        · replace h := ite_f q9 h
          refine x_lc (pc' := 18) rfl rfl ?_
          exact x_lret rfl h
    · replace h := ite_f q4 h
      refine x_lc (pc' := 7) rfl rfl ?_
      exact x_lret rfl h
def at_X_lineUp_4 (d : Nat) (l1 : Int) (l2 : Int) (l3 : Int) (w4 : AV) (M : Mem) (r : Res) : Prop := Ex sx0 d k_X_lineUp 1 4 [(2, 0), (0, l1), (0, l2), (0, l3), w4] [] M r
def at_X_lineUp_24 (d : Nat) (l1 : Int) (l2 : Int) (l3 : Int) (l4 : Int) (M : Mem) (r : Res) : Prop := Ex sx0 d k_X_lineUp 1 24 [(2, 0), (0, l1), (0, l2), (0, l3), (0, l4)] [] M r
theorem sg_X_lineUp {d : Nat} {p1 : Int} {M : Mem} {r : Res} (h : at_X_lineUp_4 d p1 0 0 (3, 0) M r) : Cl (d + 1) m_X_lineUp [(2, 0), (0, p1)] M r := by
  refine cl_of (c := k_X_lineUp) (mL := 5) (rz := 1) (rc := 0) (ls := [(2, 0), (0, p1), (3, 0), (3, 0), (3, 0)]) rfl rfl rfl ?_
  refine x_c (pc' := 1) rfl rfl ?_
  refine x_is (pc' := 2) (ls' := [(2, 0), (0, p1), (0, 0), (3, 0), (3, 0)]) rfl rfl rfl rfl ?_
  refine x_c (pc' := 3) rfl rfl ?_
  refine x_is (pc' := 4) (ls' := [(2, 0), (0, p1), (0, 0), (0, 0), (3, 0)]) rfl rfl rfl rfl ?_
  exact h
theorem sg_X_lineUp_4 {d : Nat} {l1 : Int} {l2 : Int} {l3 : Int} {w4 : AV} {M : Mem} {r : Res} (h : (if M 1 5 ≤ l3 then r = (some (0, l2), M) else ∃ v3 M4, Cl d m_X_likelihood [(2, 0), (0, l1), (0, l3)] M (some (0, v3), M4) ∧ (0 ≤ l3 ∧ l3 < 12) ∧ (0 ≤ l3 ∧ l3 < 12) ∧ (if (up M4 61 l3 v3) 61 l3 ≤ 0 then at_X_lineUp_4 d l1 l2 (w32 (l3 + 1)) w4 (up M4 61 l3 v3) r else at_X_lineUp_24 d l1 l2 l3 l2 (up M4 61 l3 v3) r))) : at_X_lineUp_4 d l1 l2 l3 w4 M r := by
  unfold at_X_lineUp_4
  refine x_il (pc' := 5) rfl rfl rfl ?_
  refine x_al (pc' := 6) rfl rfl (by decide) rfl ?_
  refine x_gr (pc' := 7) (v := 1) rfl rfl rfl (by decide) rfl ?_
  refine x_gf (pc' := 8) (v := M 1 5) rfl rfl rfl rfl rfl ?_
  refine x_icge (pc' := 9) (t' := 60) rfl rfl rfl (fun q1 => ?_) (fun q1 => ?_)
  · replace h := ite_t q1 h
    refine x_il (pc' := 61) rfl rfl rfl ?_
    exact x_iret rfl h
  · replace h := ite_f q1 h
    refine x_al (pc' := 10) rfl rfl (by decide) rfl ?_
    refine x_gr (pc' := 11) (v := 61) rfl rfl rfl (by decide) rfl ?_
    refine x_il (pc' := 12) rfl rfl rfl ?_
    refine x_al (pc' := 13) rfl rfl (by decide) rfl ?_
    refine x_il (pc' := 14) rfl rfl rfl ?_
    refine x_il (pc' := 15) rfl rfl rfl ?_
    obtain ⟨v3, M4, q2, h⟩ := h
    refine x_call (pc' := 16) (as := [(2, 0), (0, l1), (0, l3)]) (rest := [(0, l3), (2, 61)]) rfl rfl rfl rfl rfl rfl q2 ?_
    obtain ⟨q5, h⟩ := h
    refine x_ist (pc' := 17) 12 (M2 := up M4 61 l3 v3) rfl rfl rfl q5.1 q5.2 rfl ?_
    refine x_al (pc' := 18) rfl rfl (by decide) rfl ?_
    refine x_gr (pc' := 19) (v := 61) rfl rfl rfl (by decide) rfl ?_
    refine x_il (pc' := 20) rfl rfl rfl ?_
    obtain ⟨q6, h⟩ := h
    refine x_ia (pc' := 21) 12 (v := (up M4 61 l3 v3) 61 l3) rfl rfl rfl q6.1 q6.2 rfl ?_
    refine x_ifle (pc' := 22) (t' := 58) rfl rfl rfl (fun q7 => ?_) (fun q7 => ?_)
    · replace h := ite_t q7 h
      refine x_inc (pc' := 59) (ls' := [(2, 0), (0, l1), (0, l2), (0, w32 (l3 + 1)), w4]) rfl rfl rfl rfl ?_
      refine x_goto (t' := 4) rfl rfl ?_
      exact h
    · replace h := ite_f q7 h
      refine x_il (pc' := 23) rfl rfl rfl ?_
      refine x_is (pc' := 24) (ls' := [(2, 0), (0, l1), (0, l2), (0, l3), (0, l2)]) rfl rfl rfl rfl ?_
      exact h
theorem sg_X_lineUp_24 {d : Nat} {l1 : Int} {l2 : Int} {l3 : Int} {l4 : Int} {M : Mem} {r : Res} (h : (if l4 ≤ 0 then (0 ≤ l4 ∧ l4 < 12) ∧ at_X_lineUp_4 d l1 (w32 (l2 + 1)) (w32 (l3 + 1)) (0, l4) (up M 62 l4 l3) r else (0 ≤ w32 (l4 - 1) ∧ w32 (l4 - 1) < 12) ∧ (0 ≤ M 62 (w32 (l4 - 1)) ∧ M 62 (w32 (l4 - 1)) < 12) ∧ (0 ≤ l3 ∧ l3 < 12) ∧ (if M 61 l3 ≤ M 61 (M 62 (w32 (l4 - 1))) then (0 ≤ l4 ∧ l4 < 12) ∧ at_X_lineUp_4 d l1 (w32 (l2 + 1)) (w32 (l3 + 1)) (0, l4) (up M 62 l4 l3) r else (0 ≤ w32 (l4 - 1) ∧ w32 (l4 - 1) < 12) ∧ (0 ≤ l4 ∧ l4 < 12) ∧ at_X_lineUp_24 d l1 l2 l3 (w32 (l4 + (-1))) (up M 62 l4 (M 62 (w32 (l4 - 1)))) r))) : at_X_lineUp_24 d l1 l2 l3 l4 M r := by
  unfold at_X_lineUp_24
  refine x_il (pc' := 25) rfl rfl rfl ?_
  refine x_ifle (pc' := 26) (t' := 52) rfl rfl rfl (fun q1 => ?_) (fun q1 => ?_)
  · replace h := ite_t q1 h
    refine x_al (pc' := 53) rfl rfl (by decide) rfl ?_
    refine x_gr (pc' := 54) (v := 62) rfl rfl rfl (by decide) rfl ?_
    refine x_il (pc' := 55) rfl rfl rfl ?_
    refine x_il (pc' := 56) rfl rfl rfl ?_
    obtain ⟨q2, h⟩ := h
    refine x_ist (pc' := 57) 12 (M2 := up M 62 l4 l3) rfl rfl rfl q2.1 q2.2 rfl ?_
    refine x_inc (pc' := 58) (ls' := [(2, 0), (0, l1), (0, w32 (l2 + 1)), (0, l3), (0, l4)]) rfl rfl rfl rfl ?_
    refine x_inc (pc' := 59) (ls' := [(2, 0), (0, l1), (0, w32 (l2 + 1)), (0, w32 (l3 + 1)), (0, l4)]) rfl rfl rfl rfl ?_
    refine x_goto (t' := 4) rfl rfl ?_
    exact h
  · replace h := ite_f q1 h
    refine x_al (pc' := 27) rfl rfl (by decide) rfl ?_
    refine x_gr (pc' := 28) (v := 61) rfl rfl rfl (by decide) rfl ?_
    refine x_al (pc' := 29) rfl rfl (by decide) rfl ?_
    refine x_gr (pc' := 30) (v := 62) rfl rfl rfl (by decide) rfl ?_
    refine x_il (pc' := 31) rfl rfl rfl ?_
    refine x_c (pc' := 32) rfl rfl ?_
    refine x_ib (pc' := 33) (v := w32 (l4 - 1)) rfl rfl rfl ?_
    obtain ⟨q3, h⟩ := h
    refine x_ia (pc' := 34) 12 (v := M 62 (w32 (l4 - 1))) rfl rfl rfl q3.1 q3.2 rfl ?_
    obtain ⟨q4, h⟩ := h
    refine x_ia (pc' := 35) 12 (v := M 61 (M 62 (w32 (l4 - 1)))) rfl rfl rfl q4.1 q4.2 rfl ?_
    refine x_al (pc' := 36) rfl rfl (by decide) rfl ?_
    refine x_gr (pc' := 37) (v := 61) rfl rfl rfl (by decide) rfl ?_
    refine x_il (pc' := 38) rfl rfl rfl ?_
    obtain ⟨q5, h⟩ := h
    refine x_ia (pc' := 39) 12 (v := M 61 l3) rfl rfl rfl q5.1 q5.2 rfl ?_
    refine x_icge (pc' := 40) (t' := 52) rfl rfl rfl (fun q6 => ?_) (fun q6 => ?_)
    · replace h := ite_t q6 h
      refine x_al (pc' := 53) rfl rfl (by decide) rfl ?_
      refine x_gr (pc' := 54) (v := 62) rfl rfl rfl (by decide) rfl ?_
      refine x_il (pc' := 55) rfl rfl rfl ?_
      refine x_il (pc' := 56) rfl rfl rfl ?_
      obtain ⟨q7, h⟩ := h
      refine x_ist (pc' := 57) 12 (M2 := up M 62 l4 l3) rfl rfl rfl q7.1 q7.2 rfl ?_
      refine x_inc (pc' := 58) (ls' := [(2, 0), (0, l1), (0, w32 (l2 + 1)), (0, l3), (0, l4)]) rfl rfl rfl rfl ?_
      refine x_inc (pc' := 59) (ls' := [(2, 0), (0, l1), (0, w32 (l2 + 1)), (0, w32 (l3 + 1)), (0, l4)]) rfl rfl rfl rfl ?_
      refine x_goto (t' := 4) rfl rfl ?_
      exact h
    · replace h := ite_f q6 h
      refine x_al (pc' := 41) rfl rfl (by decide) rfl ?_
      refine x_gr (pc' := 42) (v := 62) rfl rfl rfl (by decide) rfl ?_
      refine x_il (pc' := 43) rfl rfl rfl ?_
      refine x_al (pc' := 44) rfl rfl (by decide) rfl ?_
      refine x_gr (pc' := 45) (v := 62) rfl rfl rfl (by decide) rfl ?_
      refine x_il (pc' := 46) rfl rfl rfl ?_
      refine x_c (pc' := 47) rfl rfl ?_
      refine x_ib (pc' := 48) (v := w32 (l4 - 1)) rfl rfl rfl ?_
      obtain ⟨q8, h⟩ := h
      refine x_ia (pc' := 49) 12 (v := M 62 (w32 (l4 - 1))) rfl rfl rfl q8.1 q8.2 rfl ?_
      obtain ⟨q9, h⟩ := h
      refine x_ist (pc' := 50) 12 (M2 := up M 62 l4 (M 62 (w32 (l4 - 1)))) rfl rfl rfl q9.1 q9.2 rfl ?_
      refine x_inc (pc' := 51) (ls' := [(2, 0), (0, l1), (0, l2), (0, l3), (0, w32 (l4 + (-1)))]) rfl rfl rfl rfl ?_
      refine x_goto (t' := 24) rfl rfl ?_
      exact h
def at_X_likelihood_4 (d : Nat) (l1 : Int) (l2 : Int) (l3 : Int) (l4 : Int) (M : Mem) (r : Res) : Prop := Ex sx0 d k_X_likelihood 1 4 [(2, 0), (0, l1), (0, l2), (0, l3), (0, l4)] [] M r
theorem sg_X_likelihood {d : Nat} {p1 p2 : Int} {M : Mem} {r : Res} (h : at_X_likelihood_4 d p1 p2 0 0 M r) : Cl (d + 1) m_X_likelihood [(2, 0), (0, p1), (0, p2)] M r := by
  refine cl_of (c := k_X_likelihood) (mL := 5) (rz := 1) (rc := 0) (ls := [(2, 0), (0, p1), (0, p2), (3, 0), (3, 0)]) rfl rfl rfl ?_
  refine x_c (pc' := 1) rfl rfl ?_
  refine x_is (pc' := 2) (ls' := [(2, 0), (0, p1), (0, p2), (0, 0), (3, 0)]) rfl rfl rfl rfl ?_
  refine x_c (pc' := 3) rfl rfl ?_
  refine x_is (pc' := 4) (ls' := [(2, 0), (0, p1), (0, p2), (0, 0), (0, 0)]) rfl rfl rfl rfl ?_
  exact h
theorem sg_X_likelihood_4 {d : Nat} {l1 : Int} {l2 : Int} {l3 : Int} {l4 : Int} {M : Mem} {r : Res} (h : (if 10 ≤ l4 then r = (some (0, l3), M) else ∃ v3 M4, Cl d m_X_glassAlikeness [(2, 0), (0, l1), (0, l2), (0, l4)] M (some (0, v3), M4) ∧ at_X_likelihood_4 d l1 l2 (if l3 < v3 then v3 else l3) (w32 (l4 + 1)) M4 r)) : at_X_likelihood_4 d l1 l2 l3 l4 M r := by
  unfold at_X_likelihood_4
  refine x_il (pc' := 5) rfl rfl rfl ?_
  refine x_c (pc' := 6) rfl rfl ?_
  refine x_icge (pc' := 7) (t' := 17) rfl rfl rfl (fun q1 => ?_) (fun q1 => ?_)
  · replace h := ite_t q1 h
    refine x_il (pc' := 18) rfl rfl rfl ?_
    exact x_iret rfl h
  · replace h := ite_f q1 h
    refine x_il (pc' := 8) rfl rfl rfl ?_
    refine x_al (pc' := 9) rfl rfl (by decide) rfl ?_
    refine x_il (pc' := 10) rfl rfl rfl ?_
    refine x_il (pc' := 11) rfl rfl rfl ?_
    refine x_il (pc' := 12) rfl rfl rfl ?_
    obtain ⟨v3, M4, q2, h⟩ := h
    refine x_call (pc' := 13) (as := [(2, 0), (0, l1), (0, l2), (0, l4)]) (rest := [(0, l3)]) rfl rfl rfl rfl rfl rfl q2 ?_
    refine x_max (pc' := 14) rfl rfl rfl ?_
    refine x_is (pc' := 15) (ls' := [(2, 0), (0, l1), (0, l2), (0, (if l3 < v3 then v3 else l3)), (0, l4)]) rfl rfl rfl rfl ?_
    refine x_inc (pc' := 16) (ls' := [(2, 0), (0, l1), (0, l2), (0, (if l3 < v3 then v3 else l3)), (0, w32 (l4 + 1))]) rfl rfl rfl rfl ?_
    refine x_goto (t' := 4) rfl rfl ?_
    exact h
def at_X_meanPart_6 (d : Nat) (l1 : Int) (l2 : Int) (l3 : Int) (w4 : AV) (l5 : Int) (w6 : AV) (l7 : Int) (w8 : AV) (w9 : AV) (M : Mem) (r : Res) : Prop := Ex sx0 d k_X_meanPart 2 6 [(2, 0), (0, l1), (0, l2), (1, l3), w4, (1, l5), w6, (0, l7), w8, w9] [] M r
theorem sg_X_meanPart {d : Nat} {p1 p2 : Int} {M : Mem} {r : Res} (h : at_X_meanPart_6 d p1 p2 0 (3, 0) 0 (3, 0) 0 (3, 0) (3, 0) M r) : Cl (d + 1) m_X_meanPart [(2, 0), (0, p1), (0, p2)] M r := by
  refine cl_of (c := k_X_meanPart) (mL := 10) (rz := 2) (rc := 0) (ls := [(2, 0), (0, p1), (0, p2), (3, 0), (3, 0), (3, 0), (3, 0), (3, 0), (3, 0), (3, 0)]) rfl rfl rfl ?_
  refine x_lc (pc' := 1) rfl rfl ?_
  refine x_ls (pc' := 2) (ls' := [(2, 0), (0, p1), (0, p2), (1, 0), (3, 0), (3, 0), (3, 0), (3, 0), (3, 0), (3, 0)]) rfl rfl rfl rfl ?_
  refine x_lc (pc' := 3) rfl rfl ?_
  refine x_ls (pc' := 4) (ls' := [(2, 0), (0, p1), (0, p2), (1, 0), (3, 0), (1, 0), (3, 0), (3, 0), (3, 0), (3, 0)]) rfl rfl rfl rfl ?_
  refine x_c (pc' := 5) rfl rfl ?_
  refine x_is (pc' := 6) (ls' := [(2, 0), (0, p1), (0, p2), (1, 0), (3, 0), (1, 0), (3, 0), (0, 0), (3, 0), (3, 0)]) rfl rfl rfl rfl ?_
  exact h
theorem sg_X_meanPart_6 {d : Nat} {l1 : Int} {l2 : Int} {l3 : Int} {w4 : AV} {l5 : Int} {w6 : AV} {l7 : Int} {w8 : AV} {w9 : AV} {M : Mem} {r : Res} (h : (if l1 ≤ l7 then (if l2 = 0 then ∃ v4, Cl d m_X_lowest [(1, l5), (1, l3)] M (some (1, v4), M) ∧ r = (some (1, v4), M) else ∃ v6, Cl d m_X_lowest [(1, l3), (1, l5)] M (some (1, v6), M) ∧ r = (some (1, v6), M)) else (0 ≤ l7 ∧ l7 < 12) ∧ (0 ≤ M 62 l7 ∧ M 62 l7 < 12) ∧ at_X_meanPart_6 d l1 l2 (w64 (l3 + (w64 ((w32 (l7 + 1)) * (M 61 (M 62 l7)))))) (3, 0) (w64 (l5 + (M 61 (M 62 l7)))) (3, 0) (w32 (l7 + 1)) (1, M 61 (M 62 l7)) (3, 0) M r)) : at_X_meanPart_6 d l1 l2 l3 w4 l5 w6 l7 w8 w9 M r := by
  unfold at_X_meanPart_6
  refine x_il (pc' := 7) rfl rfl rfl ?_
  refine x_il (pc' := 8) rfl rfl rfl ?_
  refine x_icge (pc' := 9) (t' := 33) rfl rfl rfl (fun q1 => ?_) (fun q1 => ?_)
  · replace h := ite_t q1 h
    refine x_il (pc' := 34) rfl rfl rfl ?_
    refine x_ifeq (pc' := 35) (t' := 39) rfl rfl rfl (fun q2 => ?_) (fun q2 => ?_)
    · replace h := ite_t q2 h
      refine x_ll (pc' := 40) rfl rfl rfl ?_
      refine x_ll (pc' := 41) rfl rfl rfl ?_
      obtain ⟨v4, q3, h⟩ := h
      refine x_call (pc' := 42) (as := [(1, l5), (1, l3)]) (rest := []) rfl rfl rfl rfl rfl rfl q3 ?_
      exact x_lret rfl h
    · replace h := ite_f q2 h
      refine x_ll (pc' := 36) rfl rfl rfl ?_
      refine x_ll (pc' := 37) rfl rfl rfl ?_
      obtain ⟨v6, q5, h⟩ := h
      refine x_call (pc' := 38) (as := [(1, l3), (1, l5)]) (rest := []) rfl rfl rfl rfl rfl rfl q5 ?_
      refine x_goto (t' := 42) rfl rfl ?_
      exact x_lret rfl h
  · replace h := ite_f q1 h
    refine x_al (pc' := 10) rfl rfl (by decide) rfl ?_
    refine x_gr (pc' := 11) (v := 61) rfl rfl rfl (by decide) rfl ?_
    refine x_al (pc' := 12) rfl rfl (by decide) rfl ?_
    refine x_gr (pc' := 13) (v := 62) rfl rfl rfl (by decide) rfl ?_
    refine x_il (pc' := 14) rfl rfl rfl ?_
    obtain ⟨q7, h⟩ := h
    refine x_ia (pc' := 15) 12 (v := M 62 l7) rfl rfl rfl q7.1 q7.2 rfl ?_
    obtain ⟨q8, h⟩ := h
    refine x_ia (pc' := 16) 12 (v := M 61 (M 62 l7)) rfl rfl rfl q8.1 q8.2 rfl ?_
    refine x_i2l (pc' := 17) rfl rfl ?_
    refine x_ls (pc' := 18) (ls' := [(2, 0), (0, l1), (0, l2), (1, l3), w4, (1, l5), w6, (0, l7), (1, M 61 (M 62 l7)), (3, 0)]) rfl rfl rfl rfl ?_
    refine x_ll (pc' := 19) rfl rfl rfl ?_
    refine x_il (pc' := 20) rfl rfl rfl ?_
    refine x_c (pc' := 21) rfl rfl ?_
    refine x_ib (pc' := 22) (v := w32 (l7 + 1)) rfl rfl rfl ?_
    refine x_i2l (pc' := 23) rfl rfl ?_
    refine x_ll (pc' := 24) rfl rfl rfl ?_
    refine x_lb (pc' := 25) (v := w64 ((w32 (l7 + 1)) * (M 61 (M 62 l7)))) rfl rfl rfl ?_
    refine x_lb (pc' := 26) (v := w64 (l3 + (w64 ((w32 (l7 + 1)) * (M 61 (M 62 l7)))))) rfl rfl rfl ?_
    refine x_ls (pc' := 27) (ls' := [(2, 0), (0, l1), (0, l2), (1, w64 (l3 + (w64 ((w32 (l7 + 1)) * (M 61 (M 62 l7)))))), (3, 0), (1, l5), w6, (0, l7), (1, M 61 (M 62 l7)), (3, 0)]) rfl rfl rfl rfl ?_
    refine x_ll (pc' := 28) rfl rfl rfl ?_
    refine x_ll (pc' := 29) rfl rfl rfl ?_
    refine x_lb (pc' := 30) (v := w64 (l5 + (M 61 (M 62 l7)))) rfl rfl rfl ?_
    refine x_ls (pc' := 31) (ls' := [(2, 0), (0, l1), (0, l2), (1, w64 (l3 + (w64 ((w32 (l7 + 1)) * (M 61 (M 62 l7)))))), (3, 0), (1, w64 (l5 + (M 61 (M 62 l7)))), (3, 0), (0, l7), (1, M 61 (M 62 l7)), (3, 0)]) rfl rfl rfl rfl ?_
    refine x_inc (pc' := 32) (ls' := [(2, 0), (0, l1), (0, l2), (1, w64 (l3 + (w64 ((w32 (l7 + 1)) * (M 61 (M 62 l7)))))), (3, 0), (1, w64 (l5 + (M 61 (M 62 l7)))), (3, 0), (0, w32 (l7 + 1)), (1, M 61 (M 62 l7)), (3, 0)]) rfl rfl rfl rfl ?_
    refine x_goto (t' := 6) rfl rfl ?_
    exact h
theorem sg_X_lowest {d : Nat} {p1 p2 : Int} {M : Mem} {r : Res} (h : ∃ v2, Cl d m_X_commonDivisor [(1, p1), (1, p2)] M (some (1, v2), M) ∧ (if ¬ lcmpI v2 0 = 0 then (¬ v2 = 0) ∧ r = (some (1, w64 (Int.tdiv p1 v2)), M) else r = (some (1, p1), M))) : Cl (d + 1) m_X_lowest [(1, p1), (1, p2)] M r := by
  refine cl_of (c := k_X_lowest) (mL := 6) (rz := 2) (rc := 99) (ls := [(1, p1), (3, 0), (1, p2), (3, 0), (3, 0), (3, 0)]) rfl rfl rfl ?_
  refine x_ll (pc' := 1) rfl rfl rfl ?_
  refine x_ll (pc' := 2) rfl rfl rfl ?_
  obtain ⟨v2, q1, h⟩ := h
  refine x_call (pc' := 3) (as := [(1, p1), (1, p2)]) (rest := []) rfl rfl rfl rfl rfl rfl q1 ?_
  refine x_ls (pc' := 4) (ls' := [(1, p1), (3, 0), (1, p2), (3, 0), (1, v2), (3, 0)]) rfl rfl rfl rfl ?_
  refine x_ll (pc' := 5) rfl rfl rfl ?_
  refine x_lc (pc' := 6) rfl rfl ?_
  refine x_lcmp (pc' := 7) rfl rfl ?_
  refine x_ifne (pc' := 8) (t' := 10) rfl rfl rfl (fun q3 => ?_) (fun q3 => ?_)
  · replace h := ite_t q3 h
    refine x_ll (pc' := 11) rfl rfl rfl ?_
    refine x_ll (pc' := 12) rfl rfl rfl ?_
    obtain ⟨q4, h⟩ := h
    refine x_lb (pc' := 13) (v := w64 (Int.tdiv p1 v2)) rfl (show lbin 3 p1 v2 = some (w64 (Int.tdiv p1 v2)) from if_neg q4) rfl ?_
    exact x_lret rfl h
  · replace h := ite_f q3 h
    refine x_ll (pc' := 9) rfl rfl rfl ?_
    refine x_goto (t' := 13) rfl rfl ?_
    exact x_lret rfl h
def at_X_commonDivisor_6 (d : Nat) (w0 : AV) (w1 : AV) (w2 : AV) (w3 : AV) (l4 : Int) (w5 : AV) (l6 : Int) (w7 : AV) (l8 : Int) (w9 : AV) (w10 : AV) (M : Mem) (r : Res) : Prop := Ex sx0 d k_X_commonDivisor 2 6 [w0, w1, w2, w3, (1, l4), w5, (1, l6), w7, (0, l8), w9, w10] [] M r
theorem sg_X_commonDivisor {d : Nat} {p1 p2 : Int} {M : Mem} {r : Res} (h : at_X_commonDivisor_6 d (1, p1) (3, 0) (1, p2) (3, 0) p1 (3, 0) p2 (3, 0) 0 (3, 0) (3, 0) M r) : Cl (d + 1) m_X_commonDivisor [(1, p1), (1, p2)] M r := by
  refine cl_of (c := k_X_commonDivisor) (mL := 11) (rz := 2) (rc := 99) (ls := [(1, p1), (3, 0), (1, p2), (3, 0), (3, 0), (3, 0), (3, 0), (3, 0), (3, 0), (3, 0), (3, 0)]) rfl rfl rfl ?_
  refine x_ll (pc' := 1) rfl rfl rfl ?_
  refine x_ls (pc' := 2) (ls' := [(1, p1), (3, 0), (1, p2), (3, 0), (1, p1), (3, 0), (3, 0), (3, 0), (3, 0), (3, 0), (3, 0)]) rfl rfl rfl rfl ?_
  refine x_ll (pc' := 3) rfl rfl rfl ?_
  refine x_ls (pc' := 4) (ls' := [(1, p1), (3, 0), (1, p2), (3, 0), (1, p1), (3, 0), (1, p2), (3, 0), (3, 0), (3, 0), (3, 0)]) rfl rfl rfl rfl ?_
  refine x_c (pc' := 5) rfl rfl ?_
  refine x_is (pc' := 6) (ls' := [(1, p1), (3, 0), (1, p2), (3, 0), (1, p1), (3, 0), (1, p2), (3, 0), (0, 0), (3, 0), (3, 0)]) rfl rfl rfl rfl ?_
  exact h
theorem sg_X_commonDivisor_6 {d : Nat} {w0 : AV} {w1 : AV} {w2 : AV} {w3 : AV} {l4 : Int} {w5 : AV} {l6 : Int} {w7 : AV} {l8 : Int} {w9 : AV} {w10 : AV} {M : Mem} {r : Res} (hw3 : ¬ w3.1 = 1) (h : (if 100 ≤ l8 then r = (some (1, l4), M) else (if lcmpI l6 0 = 0 then r = (some (1, l4), M) else (¬ l6 = 0) ∧ at_X_commonDivisor_6 d w0 w1 w2 w3 l6 (3, 0) (w64 (Int.tmod l4 l6)) (3, 0) (w32 (l8 + 1)) (1, w64 (Int.tmod l4 l6)) (3, 0) M r))) : at_X_commonDivisor_6 d w0 w1 w2 w3 l4 w5 l6 w7 l8 w9 w10 M r := by
  unfold at_X_commonDivisor_6
  refine x_il (pc' := 7) rfl rfl rfl ?_
  refine x_c (pc' := 8) rfl rfl ?_
  refine x_icge (pc' := 9) (t' := 23) rfl rfl rfl (fun q1 => ?_) (fun q1 => ?_)
  · replace h := ite_t q1 h
    refine x_ll (pc' := 24) rfl rfl rfl ?_
    exact x_lret rfl h
  · replace h := ite_f q1 h
    refine x_ll (pc' := 10) rfl rfl rfl ?_
    refine x_lc (pc' := 11) rfl rfl ?_
    refine x_lcmp (pc' := 12) rfl rfl ?_
    refine x_ifeq (pc' := 13) (t' := 23) rfl rfl rfl (fun q2 => ?_) (fun q2 => ?_)
    · replace h := ite_t q2 h
      refine x_ll (pc' := 24) rfl rfl rfl ?_
      exact x_lret rfl h
    · replace h := ite_f q2 h
      refine x_ll (pc' := 14) rfl rfl rfl ?_
      refine x_ll (pc' := 15) rfl rfl rfl ?_
      obtain ⟨q3, h⟩ := h
      refine x_lb (pc' := 16) (v := w64 (Int.tmod l4 l6)) rfl (show lbin 4 l4 l6 = some (w64 (Int.tmod l4 l6)) from if_neg q3) rfl ?_
      refine x_ls (pc' := 17) (ls' := [w0, w1, w2, w3, (1, l4), w5, (1, l6), w7, (0, l8), (1, w64 (Int.tmod l4 l6)), (3, 0)]) rfl rfl rfl rfl ?_
      refine x_ll (pc' := 18) rfl rfl rfl ?_
      refine x_ls (pc' := 19) (ls' := [w0, w1, w2, w3, (1, l6), (3, 0), (1, l6), w7, (0, l8), (1, w64 (Int.tmod l4 l6)), (3, 0)]) rfl rfl (congrArg (fun l => List.set l 5 (3, 0)) (setL_nw (i := 3) rfl hw3)) rfl ?_
      refine x_ll (pc' := 20) rfl rfl rfl ?_
      refine x_ls (pc' := 21) (ls' := [w0, w1, w2, w3, (1, l6), (3, 0), (1, w64 (Int.tmod l4 l6)), (3, 0), (0, l8), (1, w64 (Int.tmod l4 l6)), (3, 0)]) rfl rfl rfl rfl ?_
      refine x_inc (pc' := 22) (ls' := [w0, w1, w2, w3, (1, l6), (3, 0), (1, w64 (Int.tmod l4 l6)), (3, 0), (0, w32 (l8 + 1)), (1, w64 (Int.tmod l4 l6)), (3, 0)]) rfl rfl rfl rfl ?_
      refine x_goto (t' := 6) rfl rfl ?_
      exact h
def at_X_sign_13 (d : Nat) (l1 : Int) (l2 : Int) (l3 : Int) (l4 : Int) (w5 : AV) (M : Mem) (r : Res) : Prop := Ex sx0 d k_X_sign 1 13 [(2, 0), (0, l1), (0, l2), (0, l3), (0, l4), w5] [] M r
theorem sg_X_sign {d : Nat} {p1 : Int} {M : Mem} {r : Res} (h : (if p1 < 0 then r = (some (0, (-1)), M) else (if p1 ≤ 1 then at_X_sign_13 d p1 0 13 0 (3, 0) M r else r = (some (0, (-1)), M)))) : Cl (d + 1) m_X_sign [(2, 0), (0, p1)] M r := by
  refine cl_of (c := k_X_sign) (mL := 6) (rz := 1) (rc := 0) (ls := [(2, 0), (0, p1), (3, 0), (3, 0), (3, 0), (3, 0)]) rfl rfl rfl ?_
  refine x_il (pc' := 1) rfl rfl rfl ?_
  refine x_iflt (pc' := 2) (t' := 5) rfl rfl rfl (fun q1 => ?_) (fun q1 => ?_)
  · replace h := ite_t q1 h
    refine x_c (pc' := 6) rfl rfl ?_
    exact x_iret rfl h
  · replace h := ite_f q1 h
    refine x_il (pc' := 3) rfl rfl rfl ?_
    refine x_c (pc' := 4) rfl rfl ?_
    refine x_icle (pc' := 5) (t' := 7) rfl rfl rfl (fun q2 => ?_) (fun q2 => ?_)
    · replace h := ite_t q2 h
      refine x_c (pc' := 8) rfl rfl ?_
      refine x_is (pc' := 9) (ls' := [(2, 0), (0, p1), (0, 0), (3, 0), (3, 0), (3, 0)]) rfl rfl rfl rfl ?_
      refine x_c (pc' := 10) rfl rfl ?_
      refine x_is (pc' := 11) (ls' := [(2, 0), (0, p1), (0, 0), (0, 13), (3, 0), (3, 0)]) rfl rfl rfl rfl ?_
      refine x_c (pc' := 12) rfl rfl ?_
      refine x_is (pc' := 13) (ls' := [(2, 0), (0, p1), (0, 0), (0, 13), (0, 0), (3, 0)]) rfl rfl rfl rfl ?_
      exact h
    · replace h := ite_f q2 h
      refine x_c (pc' := 6) rfl rfl ?_
      exact x_iret rfl h
theorem sg_X_sign_13 {d : Nat} {l1 : Int} {l2 : Int} {l3 : Int} {l4 : Int} {w5 : AV} {M : Mem} {r : Res} (h : (if 10 ≤ l4 then (if ¬ l1 = 0 then r = (some (0, l3), M) else r = (some (0, l2), M)) else ∃ v4, Cl d m_X_greaterPart [(2, 0), (0, l4)] M (some (0, v4), M) ∧ (if l3 ≤ v4 then at_X_sign_13 d l1 l2 l3 (w32 (l4 + 1)) (0, v4) M r else at_X_sign_13 d l1 l4 v4 (w32 (l4 + 1)) (0, v4) M r))) : at_X_sign_13 d l1 l2 l3 l4 w5 M r := by
  unfold at_X_sign_13
  refine x_il (pc' := 14) rfl rfl rfl ?_
  refine x_c (pc' := 15) rfl rfl ?_
  refine x_icge (pc' := 16) (t' := 29) rfl rfl rfl (fun q1 => ?_) (fun q1 => ?_)
  · replace h := ite_t q1 h
    refine x_il (pc' := 30) rfl rfl rfl ?_
    refine x_ifne (pc' := 31) (t' := 33) rfl rfl rfl (fun q2 => ?_) (fun q2 => ?_)
    · replace h := ite_t q2 h
      refine x_il (pc' := 34) rfl rfl rfl ?_
      exact x_iret rfl h
    · replace h := ite_f q2 h
      refine x_il (pc' := 32) rfl rfl rfl ?_
      refine x_goto (t' := 34) rfl rfl ?_
      exact x_iret rfl h
  · replace h := ite_f q1 h
    refine x_al (pc' := 17) rfl rfl (by decide) rfl ?_
    refine x_il (pc' := 18) rfl rfl rfl ?_
    obtain ⟨v4, q3, h⟩ := h
    refine x_call (pc' := 19) (as := [(2, 0), (0, l4)]) (rest := []) rfl rfl rfl rfl rfl rfl q3 ?_
    refine x_is (pc' := 20) (ls' := [(2, 0), (0, l1), (0, l2), (0, l3), (0, l4), (0, v4)]) rfl rfl rfl rfl ?_
    refine x_il (pc' := 21) rfl rfl rfl ?_
    refine x_il (pc' := 22) rfl rfl rfl ?_
    refine x_icge (pc' := 23) (t' := 27) rfl rfl rfl (fun q5 => ?_) (fun q5 => ?_)
    · replace h := ite_t q5 h
      refine x_inc (pc' := 28) (ls' := [(2, 0), (0, l1), (0, l2), (0, l3), (0, w32 (l4 + 1)), (0, v4)]) rfl rfl rfl rfl ?_
      refine x_goto (t' := 13) rfl rfl ?_
      exact h
    · replace h := ite_f q5 h
      refine x_il (pc' := 24) rfl rfl rfl ?_
      refine x_is (pc' := 25) (ls' := [(2, 0), (0, l1), (0, l2), (0, v4), (0, l4), (0, v4)]) rfl rfl rfl rfl ?_
      refine x_il (pc' := 26) rfl rfl rfl ?_
      refine x_is (pc' := 27) (ls' := [(2, 0), (0, l1), (0, l4), (0, v4), (0, l4), (0, v4)]) rfl rfl rfl rfl ?_
      refine x_inc (pc' := 28) (ls' := [(2, 0), (0, l1), (0, l4), (0, v4), (0, w32 (l4 + 1)), (0, v4)]) rfl rfl rfl rfl ?_
      refine x_goto (t' := 13) rfl rfl ?_
      exact h
def at_X_greaterPart_4 (d : Nat) (l1 : Int) (l2 : Int) (l3 : Int) (M : Mem) (r : Res) : Prop := Ex sx0 d k_X_greaterPart 1 4 [(2, 0), (0, l1), (0, l2), (0, l3)] [] M r
theorem sg_X_greaterPart {d : Nat} {p1 : Int} {M : Mem} {r : Res} (h : at_X_greaterPart_4 d p1 0 0 M r) : Cl (d + 1) m_X_greaterPart [(2, 0), (0, p1)] M r := by
  refine cl_of (c := k_X_greaterPart) (mL := 4) (rz := 1) (rc := 0) (ls := [(2, 0), (0, p1), (3, 0), (3, 0)]) rfl rfl rfl ?_
  refine x_c (pc' := 1) rfl rfl ?_
  refine x_is (pc' := 2) (ls' := [(2, 0), (0, p1), (0, 0), (3, 0)]) rfl rfl rfl rfl ?_
  refine x_c (pc' := 3) rfl rfl ?_
  refine x_is (pc' := 4) (ls' := [(2, 0), (0, p1), (0, 0), (0, 0)]) rfl rfl rfl rfl ?_
  exact h
theorem sg_X_greaterPart_4 {d : Nat} {l1 : Int} {l2 : Int} {l3 : Int} {M : Mem} {r : Res} (h : (if M 1 5 ≤ l3 then r = (some (0, (if l2 < w32 ((M 1 5) - l2) then w32 ((M 1 5) - l2) else l2)), M) else (0 ≤ l3 ∧ l3 < 12) ∧ (0 ≤ l1 ∧ l1 < 10) ∧ (if ¬ M ((3 + l3).toNat) l1 = 3 then at_X_greaterPart_4 d l1 l2 (w32 (l3 + 1)) M r else at_X_greaterPart_4 d l1 (w32 (l2 + 1)) (w32 (l3 + 1)) M r))) : at_X_greaterPart_4 d l1 l2 l3 M r := by
  unfold at_X_greaterPart_4
  refine x_il (pc' := 5) rfl rfl rfl ?_
  refine x_al (pc' := 6) rfl rfl (by decide) rfl ?_
  refine x_gr (pc' := 7) (v := 1) rfl rfl rfl (by decide) rfl ?_
  refine x_gf (pc' := 8) (v := M 1 5) rfl rfl rfl rfl rfl ?_
  refine x_icge (pc' := 9) (t' := 21) rfl rfl rfl (fun q1 => ?_) (fun q1 => ?_)
  · replace h := ite_t q1 h
    refine x_il (pc' := 22) rfl rfl rfl ?_
    refine x_al (pc' := 23) rfl rfl (by decide) rfl ?_
    refine x_gr (pc' := 24) (v := 1) rfl rfl rfl (by decide) rfl ?_
    refine x_gf (pc' := 25) (v := M 1 5) rfl rfl rfl rfl rfl ?_
    refine x_il (pc' := 26) rfl rfl rfl ?_
    refine x_ib (pc' := 27) (v := w32 ((M 1 5) - l2)) rfl rfl rfl ?_
    refine x_max (pc' := 28) rfl rfl rfl ?_
    exact x_iret rfl h
  · replace h := ite_f q1 h
    refine x_al (pc' := 10) rfl rfl (by decide) rfl ?_
    refine x_gr (pc' := 11) (v := 1) rfl rfl rfl (by decide) rfl ?_
    refine x_gr (pc' := 12) (v := 2) rfl rfl rfl (by decide) rfl ?_
    refine x_il (pc' := 13) rfl rfl rfl ?_
    obtain ⟨q2, h⟩ := h
    refine x_aa (pc' := 14) (v := (3 + l3)) 2 12 rfl rfl (Or.inl rfl) q2.1 q2.2 (show rfc 2 l3 = (3 + l3) from if_pos ⟨q2.1, q2.2⟩) (by have := q2.1; omega) rfl ?_
    refine x_il (pc' := 15) rfl rfl rfl ?_
    obtain ⟨q3, h⟩ := h
    refine x_ia (pc' := 16) 10 (v := M ((3 + l3).toNat) l1) rfl rfl (arK_2d q2.1 q2.2 (Or.inl rfl)) q3.1 q3.2 rfl ?_
    refine x_c (pc' := 17) rfl rfl ?_
    refine x_icne (pc' := 18) (t' := 19) rfl rfl rfl (fun q4 => ?_) (fun q4 => ?_)
    · replace h := ite_t q4 h
      refine x_inc (pc' := 20) (ls' := [(2, 0), (0, l1), (0, l2), (0, w32 (l3 + 1))]) rfl rfl rfl rfl ?_
      refine x_goto (t' := 4) rfl rfl ?_
      exact h
    · replace h := ite_f q4 h
      refine x_inc (pc' := 19) (ls' := [(2, 0), (0, l1), (0, w32 (l2 + 1)), (0, l3)]) rfl rfl rfl rfl ?_
      refine x_inc (pc' := 20) (ls' := [(2, 0), (0, l1), (0, w32 (l2 + 1)), (0, w32 (l3 + 1))]) rfl rfl rfl rfl ?_
      refine x_goto (t' := 4) rfl rfl ?_
      exact h
def at_X_signs_16 (d : Nat) (l1 : Int) (l2 : Int) (l3 : Int) (l4 : Int) (l5 : Int) (w6 : AV) (M : Mem) (r : Res) : Prop := Ex sx0 d k_X_signs 1 16 [(2, 0), (0, l1), (0, l2), (0, l3), (0, l4), (0, l5), w6] [] M r
theorem sg_X_signs {d : Nat} {p1 : Int} {M : Mem} {r : Res} (h : (if p1 < 0 then r = (some (0, (-1)), M) else (if p1 ≤ 1 then ∃ v4 M5, Cl d m_X_listTellers [(2, 0)] M (some (0, v4), M5) ∧ at_X_signs_16 d p1 v4 11 (-2) 0 (3, 0) M5 r else r = (some (0, (-1)), M)))) : Cl (d + 1) m_X_signs [(2, 0), (0, p1)] M r := by
  refine cl_of (c := k_X_signs) (mL := 7) (rz := 1) (rc := 0) (ls := [(2, 0), (0, p1), (3, 0), (3, 0), (3, 0), (3, 0), (3, 0)]) rfl rfl rfl ?_
  refine x_il (pc' := 1) rfl rfl rfl ?_
  refine x_iflt (pc' := 2) (t' := 5) rfl rfl rfl (fun q1 => ?_) (fun q1 => ?_)
  · replace h := ite_t q1 h
    refine x_c (pc' := 6) rfl rfl ?_
    exact x_iret rfl h
  · replace h := ite_f q1 h
    refine x_il (pc' := 3) rfl rfl rfl ?_
    refine x_c (pc' := 4) rfl rfl ?_
    refine x_icle (pc' := 5) (t' := 7) rfl rfl rfl (fun q2 => ?_) (fun q2 => ?_)
    · replace h := ite_t q2 h
      refine x_al (pc' := 8) rfl rfl (by decide) rfl ?_
      obtain ⟨v4, M5, q3, h⟩ := h
      refine x_call (pc' := 9) (as := [(2, 0)]) (rest := []) rfl rfl rfl rfl rfl rfl q3 ?_
      refine x_is (pc' := 10) (ls' := [(2, 0), (0, p1), (0, v4), (3, 0), (3, 0), (3, 0), (3, 0)]) rfl rfl rfl rfl ?_
      refine x_c (pc' := 11) rfl rfl ?_
      refine x_is (pc' := 12) (ls' := [(2, 0), (0, p1), (0, v4), (0, 11), (3, 0), (3, 0), (3, 0)]) rfl rfl rfl rfl ?_
      refine x_c (pc' := 13) rfl rfl ?_
      refine x_is (pc' := 14) (ls' := [(2, 0), (0, p1), (0, v4), (0, 11), (0, (-2)), (3, 0), (3, 0)]) rfl rfl rfl rfl ?_
      refine x_c (pc' := 15) rfl rfl ?_
      refine x_is (pc' := 16) (ls' := [(2, 0), (0, p1), (0, v4), (0, 11), (0, (-2)), (0, 0), (3, 0)]) rfl rfl rfl rfl ?_
      exact h
    · replace h := ite_f q2 h
      refine x_c (pc' := 6) rfl rfl ?_
      exact x_iret rfl h
theorem sg_X_signs_16 {d : Nat} {l1 : Int} {l2 : Int} {l3 : Int} {l4 : Int} {l5 : Int} {w6 : AV} {M : Mem} {r : Res} (h : (if 1024 ≤ l5 then (if 0 ≤ l4 then (if ¬ l1 = 0 then r = (some (0, l4), M) else r = (some (0, l3), M)) else r = (some (0, (-2)), M)) else ∃ v5, Cl d m_J_bitCount [(0, l5)] M (some (0, v5), M) ∧ (if l3 ≤ v5 then at_X_signs_16 d l1 l2 l3 l4 (w32 (l5 + 1)) (0, v5) M r else ∃ v8, Cl d m_X_tellsAll [(2, 0), (0, l5), (0, l2)] M (some (0, v8), M) ∧ (if v8 = 0 then at_X_signs_16 d l1 l2 l3 l4 (w32 (l5 + 1)) (0, v5) M r else at_X_signs_16 d l1 l2 v5 l5 (w32 (l5 + 1)) (0, v5) M r)))) : at_X_signs_16 d l1 l2 l3 l4 l5 w6 M r := by
  unfold at_X_signs_16
  refine x_il (pc' := 17) rfl rfl rfl ?_
  refine x_c (pc' := 18) rfl rfl ?_
  refine x_icge (pc' := 19) (t' := 36) rfl rfl rfl (fun q1 => ?_) (fun q1 => ?_)
  · replace h := ite_t q1 h
    refine x_il (pc' := 37) rfl rfl rfl ?_
    refine x_ifge (pc' := 38) (t' := 40) rfl rfl rfl (fun q2 => ?_) (fun q2 => ?_)
    · replace h := ite_t q2 h
      refine x_il (pc' := 41) rfl rfl rfl ?_
      refine x_ifne (pc' := 42) (t' := 44) rfl rfl rfl (fun q3 => ?_) (fun q3 => ?_)
      · replace h := ite_t q3 h
        refine x_il (pc' := 45) rfl rfl rfl ?_
        exact x_iret rfl h
      · replace h := ite_f q3 h
        refine x_il (pc' := 43) rfl rfl rfl ?_
        refine x_goto (t' := 45) rfl rfl ?_
        exact x_iret rfl h
    · replace h := ite_f q2 h
      refine x_c (pc' := 39) rfl rfl ?_
      exact x_iret rfl h
  · replace h := ite_f q1 h
    refine x_il (pc' := 20) rfl rfl rfl ?_
    obtain ⟨v5, q4, h⟩ := h
    refine x_call (pc' := 21) (as := [(0, l5)]) (rest := []) rfl rfl rfl rfl rfl rfl q4 ?_
    refine x_is (pc' := 22) (ls' := [(2, 0), (0, l1), (0, l2), (0, l3), (0, l4), (0, l5), (0, v5)]) rfl rfl rfl rfl ?_
    refine x_il (pc' := 23) rfl rfl rfl ?_
    refine x_il (pc' := 24) rfl rfl rfl ?_
    refine x_icge (pc' := 25) (t' := 34) rfl rfl rfl (fun q6 => ?_) (fun q6 => ?_)
    · replace h := ite_t q6 h
      refine x_inc (pc' := 35) (ls' := [(2, 0), (0, l1), (0, l2), (0, l3), (0, l4), (0, w32 (l5 + 1)), (0, v5)]) rfl rfl rfl rfl ?_
      refine x_goto (t' := 16) rfl rfl ?_
      exact h
    · replace h := ite_f q6 h
      refine x_al (pc' := 26) rfl rfl (by decide) rfl ?_
      refine x_il (pc' := 27) rfl rfl rfl ?_
      refine x_il (pc' := 28) rfl rfl rfl ?_
      obtain ⟨v8, q7, h⟩ := h
      refine x_call (pc' := 29) (as := [(2, 0), (0, l5), (0, l2)]) (rest := []) rfl rfl rfl rfl rfl rfl q7 ?_
      refine x_ifeq (pc' := 30) (t' := 34) rfl rfl rfl (fun q9 => ?_) (fun q9 => ?_)
      · replace h := ite_t q9 h
        refine x_inc (pc' := 35) (ls' := [(2, 0), (0, l1), (0, l2), (0, l3), (0, l4), (0, w32 (l5 + 1)), (0, v5)]) rfl rfl rfl rfl ?_
        refine x_goto (t' := 16) rfl rfl ?_
        exact h
      · replace h := ite_f q9 h
        refine x_il (pc' := 31) rfl rfl rfl ?_
        refine x_is (pc' := 32) (ls' := [(2, 0), (0, l1), (0, l2), (0, v5), (0, l4), (0, l5), (0, v5)]) rfl rfl rfl rfl ?_
        refine x_il (pc' := 33) rfl rfl rfl ?_
        refine x_is (pc' := 34) (ls' := [(2, 0), (0, l1), (0, l2), (0, v5), (0, l5), (0, l5), (0, v5)]) rfl rfl rfl rfl ?_
        refine x_inc (pc' := 35) (ls' := [(2, 0), (0, l1), (0, l2), (0, v5), (0, l5), (0, w32 (l5 + 1)), (0, v5)]) rfl rfl rfl rfl ?_
        refine x_goto (t' := 16) rfl rfl ?_
        exact h
def at_X_listTellers_4 (d : Nat) (l1 : Int) (l2 : Int) (w3 : AV) (M : Mem) (r : Res) : Prop := Ex sx0 d k_X_listTellers 1 4 [(2, 0), (0, l1), (0, l2), w3] [] M r
def at_X_listTellers_13 (d : Nat) (l1 : Int) (l2 : Int) (l3 : Int) (M : Mem) (r : Res) : Prop := Ex sx0 d k_X_listTellers 1 13 [(2, 0), (0, l1), (0, l2), (0, l3)] [] M r
theorem sg_X_listTellers {d : Nat} {M : Mem} {r : Res} (h : at_X_listTellers_4 d 0 0 (3, 0) M r) : Cl (d + 1) m_X_listTellers [(2, 0)] M r := by
  refine cl_of (c := k_X_listTellers) (mL := 4) (rz := 1) (rc := 0) (ls := [(2, 0), (3, 0), (3, 0), (3, 0)]) rfl rfl rfl ?_
  refine x_c (pc' := 1) rfl rfl ?_
  refine x_is (pc' := 2) (ls' := [(2, 0), (0, 0), (3, 0), (3, 0)]) rfl rfl rfl rfl ?_
  refine x_c (pc' := 3) rfl rfl ?_
  refine x_is (pc' := 4) (ls' := [(2, 0), (0, 0), (0, 0), (3, 0)]) rfl rfl rfl rfl ?_
  exact h
theorem sg_X_listTellers_4 {d : Nat} {l1 : Int} {l2 : Int} {w3 : AV} {M : Mem} {r : Res} (h : (if M 1 5 ≤ l2 then r = (some (0, l1), M) else at_X_listTellers_13 d l1 l2 (w32 (l2 + 1)) M r)) : at_X_listTellers_4 d l1 l2 w3 M r := by
  unfold at_X_listTellers_4
  refine x_il (pc' := 5) rfl rfl rfl ?_
  refine x_al (pc' := 6) rfl rfl (by decide) rfl ?_
  refine x_gr (pc' := 7) (v := 1) rfl rfl rfl (by decide) rfl ?_
  refine x_gf (pc' := 8) (v := M 1 5) rfl rfl rfl rfl rfl ?_
  refine x_icge (pc' := 9) (t' := 34) rfl rfl rfl (fun q1 => ?_) (fun q1 => ?_)
  · replace h := ite_t q1 h
    refine x_il (pc' := 35) rfl rfl rfl ?_
    exact x_iret rfl h
  · replace h := ite_f q1 h
    refine x_il (pc' := 10) rfl rfl rfl ?_
    refine x_c (pc' := 11) rfl rfl ?_
    refine x_ib (pc' := 12) (v := w32 (l2 + 1)) rfl rfl rfl ?_
    refine x_is (pc' := 13) (ls' := [(2, 0), (0, l1), (0, l2), (0, w32 (l2 + 1))]) rfl rfl rfl rfl ?_
    exact h
theorem sg_X_listTellers_13 {d : Nat} {l1 : Int} {l2 : Int} {l3 : Int} {M : Mem} {r : Res} (h : (if M 1 5 ≤ l3 then at_X_listTellers_4 d l1 (w32 (l2 + 1)) (0, l3) M r else (if 66 ≤ l1 then at_X_listTellers_13 d l1 l2 (w32 (l3 + 1)) M r else ∃ v4, Cl d m_X_unlikeSorts [(2, 0), (0, l2), (0, l3)] M (some (0, v4), M) ∧ (0 ≤ l1 ∧ l1 < 66) ∧ at_X_listTellers_13 d (w32 (l1 + 1)) l2 (w32 (l3 + 1)) (up M 63 l1 v4) r))) : at_X_listTellers_13 d l1 l2 l3 M r := by
  unfold at_X_listTellers_13
  refine x_il (pc' := 14) rfl rfl rfl ?_
  refine x_al (pc' := 15) rfl rfl (by decide) rfl ?_
  refine x_gr (pc' := 16) (v := 1) rfl rfl rfl (by decide) rfl ?_
  refine x_gf (pc' := 17) (v := M 1 5) rfl rfl rfl rfl rfl ?_
  refine x_icge (pc' := 18) (t' := 32) rfl rfl rfl (fun q1 => ?_) (fun q1 => ?_)
  · replace h := ite_t q1 h
    refine x_inc (pc' := 33) (ls' := [(2, 0), (0, l1), (0, w32 (l2 + 1)), (0, l3)]) rfl rfl rfl rfl ?_
    refine x_goto (t' := 4) rfl rfl ?_
    exact h
  · replace h := ite_f q1 h
    refine x_il (pc' := 19) rfl rfl rfl ?_
    refine x_c (pc' := 20) rfl rfl ?_
    refine x_icge (pc' := 21) (t' := 30) rfl rfl rfl (fun q2 => ?_) (fun q2 => ?_)
    · replace h := ite_t q2 h
      refine x_inc (pc' := 31) (ls' := [(2, 0), (0, l1), (0, l2), (0, w32 (l3 + 1))]) rfl rfl rfl rfl ?_
      refine x_goto (t' := 13) rfl rfl ?_
      exact h
    · replace h := ite_f q2 h
      refine x_al (pc' := 22) rfl rfl (by decide) rfl ?_
      refine x_gr (pc' := 23) (v := 63) rfl rfl rfl (by decide) rfl ?_
      refine x_il (pc' := 24) rfl rfl rfl ?_
      refine x_al (pc' := 25) rfl rfl (by decide) rfl ?_
      refine x_il (pc' := 26) rfl rfl rfl ?_
      refine x_il (pc' := 27) rfl rfl rfl ?_
      obtain ⟨v4, q3, h⟩ := h
      refine x_call (pc' := 28) (as := [(2, 0), (0, l2), (0, l3)]) (rest := [(0, l1), (2, 63)]) rfl rfl rfl rfl rfl rfl q3 ?_
      obtain ⟨q5, h⟩ := h
      refine x_ist (pc' := 29) 66 (M2 := up M 63 l1 v4) rfl rfl rfl q5.1 q5.2 rfl ?_
      refine x_inc (pc' := 30) (ls' := [(2, 0), (0, w32 (l1 + 1)), (0, l2), (0, l3)]) rfl rfl rfl rfl ?_
      refine x_inc (pc' := 31) (ls' := [(2, 0), (0, w32 (l1 + 1)), (0, l2), (0, w32 (l3 + 1))]) rfl rfl rfl rfl ?_
      refine x_goto (t' := 13) rfl rfl ?_
      exact h
def at_X_unlikeSorts_4 (d : Nat) (l1 : Int) (l2 : Int) (l3 : Int) (l4 : Int) (M : Mem) (r : Res) : Prop := Ex sx0 d k_X_unlikeSorts 1 4 [(2, 0), (0, l1), (0, l2), (0, l3), (0, l4)] [] M r
theorem sg_X_unlikeSorts {d : Nat} {p1 p2 : Int} {M : Mem} {r : Res} (h : at_X_unlikeSorts_4 d p1 p2 0 0 M r) : Cl (d + 1) m_X_unlikeSorts [(2, 0), (0, p1), (0, p2)] M r := by
  refine cl_of (c := k_X_unlikeSorts) (mL := 5) (rz := 1) (rc := 0) (ls := [(2, 0), (0, p1), (0, p2), (3, 0), (3, 0)]) rfl rfl rfl ?_
  refine x_c (pc' := 1) rfl rfl ?_
  refine x_is (pc' := 2) (ls' := [(2, 0), (0, p1), (0, p2), (0, 0), (3, 0)]) rfl rfl rfl rfl ?_
  refine x_c (pc' := 3) rfl rfl ?_
  refine x_is (pc' := 4) (ls' := [(2, 0), (0, p1), (0, p2), (0, 0), (0, 0)]) rfl rfl rfl rfl ?_
  exact h
theorem sg_X_unlikeSorts_4 {d : Nat} {l1 : Int} {l2 : Int} {l3 : Int} {l4 : Int} {M : Mem} {r : Res} (h : (if 10 ≤ l4 then r = (some (0, l3), M) else (0 ≤ l1 ∧ l1 < 12) ∧ (0 ≤ l4 ∧ l4 < 10) ∧ (0 ≤ l2 ∧ l2 < 12) ∧ (0 ≤ l4 ∧ l4 < 10) ∧ ∃ v7, Cl d m_X_mayBeSame [(0, M ((3 + l1).toNat) l4), (0, M ((3 + l2).toNat) l4)] M (some (0, v7), M) ∧ (if ¬ v7 = 0 then at_X_unlikeSorts_4 d l1 l2 l3 (w32 (l4 + 1)) M r else at_X_unlikeSorts_4 d l1 l2 (ior l3 (ishl 1 l4)) (w32 (l4 + 1)) M r))) : at_X_unlikeSorts_4 d l1 l2 l3 l4 M r := by
  unfold at_X_unlikeSorts_4
  refine x_il (pc' := 5) rfl rfl rfl ?_
  refine x_c (pc' := 6) rfl rfl ?_
  refine x_icge (pc' := 7) (t' := 31) rfl rfl rfl (fun q1 => ?_) (fun q1 => ?_)
  · replace h := ite_t q1 h
    refine x_il (pc' := 32) rfl rfl rfl ?_
    exact x_iret rfl h
  · replace h := ite_f q1 h
    refine x_al (pc' := 8) rfl rfl (by decide) rfl ?_
    refine x_gr (pc' := 9) (v := 1) rfl rfl rfl (by decide) rfl ?_
    refine x_gr (pc' := 10) (v := 2) rfl rfl rfl (by decide) rfl ?_
    refine x_il (pc' := 11) rfl rfl rfl ?_
    obtain ⟨q2, h⟩ := h
    refine x_aa (pc' := 12) (v := (3 + l1)) 2 12 rfl rfl (Or.inl rfl) q2.1 q2.2 (show rfc 2 l1 = (3 + l1) from if_pos ⟨q2.1, q2.2⟩) (by have := q2.1; omega) rfl ?_
    refine x_il (pc' := 13) rfl rfl rfl ?_
    obtain ⟨q3, h⟩ := h
    refine x_ia (pc' := 14) 10 (v := M ((3 + l1).toNat) l4) rfl rfl (arK_2d q2.1 q2.2 (Or.inl rfl)) q3.1 q3.2 rfl ?_
    refine x_al (pc' := 15) rfl rfl (by decide) rfl ?_
    refine x_gr (pc' := 16) (v := 1) rfl rfl rfl (by decide) rfl ?_
    refine x_gr (pc' := 17) (v := 2) rfl rfl rfl (by decide) rfl ?_
    refine x_il (pc' := 18) rfl rfl rfl ?_
    obtain ⟨q4, h⟩ := h
    refine x_aa (pc' := 19) (v := (3 + l2)) 2 12 rfl rfl (Or.inl rfl) q4.1 q4.2 (show rfc 2 l2 = (3 + l2) from if_pos ⟨q4.1, q4.2⟩) (by have := q4.1; omega) rfl ?_
    refine x_il (pc' := 20) rfl rfl rfl ?_
    obtain ⟨q5, h⟩ := h
    refine x_ia (pc' := 21) 10 (v := M ((3 + l2).toNat) l4) rfl rfl (arK_2d q4.1 q4.2 (Or.inl rfl)) q5.1 q5.2 rfl ?_
    obtain ⟨v7, q6, h⟩ := h
    refine x_call (pc' := 22) (as := [(0, M ((3 + l1).toNat) l4), (0, M ((3 + l2).toNat) l4)]) (rest := []) rfl rfl rfl rfl rfl rfl q6 ?_
    refine x_ifne (pc' := 23) (t' := 29) rfl rfl rfl (fun q8 => ?_) (fun q8 => ?_)
    · replace h := ite_t q8 h
      refine x_inc (pc' := 30) (ls' := [(2, 0), (0, l1), (0, l2), (0, l3), (0, w32 (l4 + 1))]) rfl rfl rfl rfl ?_
      refine x_goto (t' := 4) rfl rfl ?_
      exact h
    · replace h := ite_f q8 h
      refine x_il (pc' := 24) rfl rfl rfl ?_
      refine x_c (pc' := 25) rfl rfl ?_
      refine x_il (pc' := 26) rfl rfl rfl ?_
      refine x_ib (pc' := 27) (v := ishl 1 l4) rfl rfl rfl ?_
      refine x_ib (pc' := 28) (v := ior l3 (ishl 1 l4)) rfl rfl rfl ?_
      refine x_is (pc' := 29) (ls' := [(2, 0), (0, l1), (0, l2), (0, ior l3 (ishl 1 l4)), (0, l4)]) rfl rfl rfl rfl ?_
      refine x_inc (pc' := 30) (ls' := [(2, 0), (0, l1), (0, l2), (0, ior l3 (ishl 1 l4)), (0, w32 (l4 + 1))]) rfl rfl rfl rfl ?_
      refine x_goto (t' := 4) rfl rfl ?_
      exact h
def at_X_tellsAll_2 (d : Nat) (l1 : Int) (l2 : Int) (l3 : Int) (M : Mem) (r : Res) : Prop := Ex sx0 d k_X_tellsAll 3 2 [(2, 0), (0, l1), (0, l2), (0, l3)] [] M r
theorem sg_X_tellsAll {d : Nat} {p1 p2 : Int} {M : Mem} {r : Res} (h : at_X_tellsAll_2 d p1 p2 0 M r) : Cl (d + 1) m_X_tellsAll [(2, 0), (0, p1), (0, p2)] M r := by
  refine cl_of (c := k_X_tellsAll) (mL := 4) (rz := 3) (rc := 0) (ls := [(2, 0), (0, p1), (0, p2), (3, 0)]) rfl rfl rfl ?_
  refine x_c (pc' := 1) rfl rfl ?_
  refine x_is (pc' := 2) (ls' := [(2, 0), (0, p1), (0, p2), (0, 0)]) rfl rfl rfl rfl ?_
  exact h
theorem sg_X_tellsAll_2 {d : Nat} {l1 : Int} {l2 : Int} {l3 : Int} {M : Mem} {r : Res} (h : (if l2 ≤ l3 then r = (some (0, 1), M) else (if 66 ≤ l3 then r = (some (0, 1), M) else (0 ≤ l3 ∧ l3 < 66) ∧ (if ¬ iand (M 63 l3) l1 = 0 then at_X_tellsAll_2 d l1 l2 (w32 (l3 + 1)) M r else r = (some (0, 0), M))))) : at_X_tellsAll_2 d l1 l2 l3 M r := by
  unfold at_X_tellsAll_2
  refine x_il (pc' := 3) rfl rfl rfl ?_
  refine x_il (pc' := 4) rfl rfl rfl ?_
  refine x_icge (pc' := 5) (t' := 19) rfl rfl rfl (fun q1 => ?_) (fun q1 => ?_)
  · replace h := ite_t q1 h
    refine x_c (pc' := 20) rfl rfl ?_
    exact x_zret rfl (by decide) h
  · replace h := ite_f q1 h
    refine x_il (pc' := 6) rfl rfl rfl ?_
    refine x_c (pc' := 7) rfl rfl ?_
    refine x_icge (pc' := 8) (t' := 19) rfl rfl rfl (fun q2 => ?_) (fun q2 => ?_)
    · replace h := ite_t q2 h
      refine x_c (pc' := 20) rfl rfl ?_
      exact x_zret rfl (by decide) h
    · replace h := ite_f q2 h
      refine x_al (pc' := 9) rfl rfl (by decide) rfl ?_
      refine x_gr (pc' := 10) (v := 63) rfl rfl rfl (by decide) rfl ?_
      refine x_il (pc' := 11) rfl rfl rfl ?_
      obtain ⟨q3, h⟩ := h
      refine x_ia (pc' := 12) 66 (v := M 63 l3) rfl rfl rfl q3.1 q3.2 rfl ?_
      refine x_il (pc' := 13) rfl rfl rfl ?_
      refine x_ib (pc' := 14) (v := iand (M 63 l3) l1) rfl rfl rfl ?_
      refine x_ifne (pc' := 15) (t' := 17) rfl rfl rfl (fun q4 => ?_) (fun q4 => ?_)
      · replace h := ite_t q4 h
        refine x_inc (pc' := 18) (ls' := [(2, 0), (0, l1), (0, l2), (0, w32 (l3 + 1))]) rfl rfl rfl rfl ?_
        refine x_goto (t' := 2) rfl rfl ?_
        exact h
      · replace h := ite_f q4 h
        refine x_c (pc' := 16) rfl rfl ?_
        exact x_zret rfl (by decide) h
theorem sg_X_arePoints {d : Nat} {p1 : Int} {M : Mem} {r : Res} (h : (if p1 < 100 then r = (some (0, 0), M) else (if 12 < w32 (Int.tdiv p1 100) then r = (some (0, 0), M) else (if w32 (Int.tmod p1 100) < 2 then r = (some (0, 0), M) else (if 9 < w32 (Int.tmod p1 100) then r = (some (0, 0), M) else r = (some (0, 1), M)))))) : Cl (d + 1) m_X_arePoints [(0, p1)] M r := by
  refine cl_of (c := k_X_arePoints) (mL := 1) (rz := 3) (rc := 99) (ls := [(0, p1)]) rfl rfl rfl ?_
  refine x_il (pc' := 1) rfl rfl rfl ?_
  refine x_c (pc' := 2) rfl rfl ?_
  refine x_iclt (pc' := 3) (t' := 20) rfl rfl rfl (fun q1 => ?_) (fun q1 => ?_)
  · replace h := ite_t q1 h
    refine x_c (pc' := 21) rfl rfl ?_
    exact x_zret rfl (by decide) h
  · replace h := ite_f q1 h
    refine x_il (pc' := 4) rfl rfl rfl ?_
    refine x_c (pc' := 5) rfl rfl ?_
    refine x_ib (pc' := 6) (v := w32 (Int.tdiv p1 100)) rfl rfl rfl ?_
    refine x_c (pc' := 7) rfl rfl ?_
    refine x_icgt (pc' := 8) (t' := 20) rfl rfl rfl (fun q2 => ?_) (fun q2 => ?_)
    · replace h := ite_t q2 h
      refine x_c (pc' := 21) rfl rfl ?_
      exact x_zret rfl (by decide) h
    · replace h := ite_f q2 h
      refine x_il (pc' := 9) rfl rfl rfl ?_
      refine x_c (pc' := 10) rfl rfl ?_
      refine x_ib (pc' := 11) (v := w32 (Int.tmod p1 100)) rfl rfl rfl ?_
      refine x_c (pc' := 12) rfl rfl ?_
      refine x_iclt (pc' := 13) (t' := 20) rfl rfl rfl (fun q3 => ?_) (fun q3 => ?_)
      · replace h := ite_t q3 h
        refine x_c (pc' := 21) rfl rfl ?_
        exact x_zret rfl (by decide) h
      · replace h := ite_f q3 h
        refine x_il (pc' := 14) rfl rfl rfl ?_
        refine x_c (pc' := 15) rfl rfl ?_
        refine x_ib (pc' := 16) (v := w32 (Int.tmod p1 100)) rfl rfl rfl ?_
        refine x_c (pc' := 17) rfl rfl ?_
        refine x_icgt (pc' := 18) (t' := 20) rfl rfl rfl (fun q4 => ?_) (fun q4 => ?_)
        · replace h := ite_t q4 h
          refine x_c (pc' := 21) rfl rfl ?_
          exact x_zret rfl (by decide) h
        · replace h := ite_f q4 h
          refine x_c (pc' := 19) rfl rfl ?_
          refine x_goto (t' := 21) rfl rfl ?_
          exact x_zret rfl (by decide) h
def at_X_enough_29 (d : Nat) (w0 : AV) (w1 : AV) (l2 : Int) (l3 : Int) (l4 : Int) (l5 : Int) (w6 : AV) (l7 : Int) (w8 : AV) (l9 : Int) (l10 : Int) (M : Mem) (r : Res) : Prop := Ex sx0 d k_X_enough 1 29 [w0, w1, (0, l2), (0, l3), (0, l4), (1, l5), w6, (1, l7), w8, (0, l9), (0, l10)] [] M r
theorem sg_X_enough {d : Nat} {p1 p2 : Int} {M : Mem} {r : Res} (h : ∃ v2, Cl d m_X_arePoints [(0, p1)] M (some (0, v2), M) ∧ (if v2 = 0 then r = (some (0, (-1)), M) else (if p2 < 1 then r = (some (0, (-1)), M) else (if p2 ≤ 9999 then ∃ v7, Cl d m_X_power [(0, w32 (Int.tmod p1 100)), (0, w32 (Int.tdiv p1 100))] M (some (1, v7), M) ∧ at_X_enough_29 d (2, 0) (0, p1) p2 (w32 (Int.tdiv p1 100)) (w32 (Int.tmod p1 100)) v7 (3, 0) 0 (3, 0) (-2) (w32 (Int.tdiv p1 100)) M r else r = (some (0, (-1)), M))))) : Cl (d + 1) m_X_enough [(2, 0), (0, p1), (0, p2)] M r := by
  refine cl_of (c := k_X_enough) (mL := 11) (rz := 1) (rc := 0) (ls := [(2, 0), (0, p1), (0, p2), (3, 0), (3, 0), (3, 0), (3, 0), (3, 0), (3, 0), (3, 0), (3, 0)]) rfl rfl rfl ?_
  refine x_il (pc' := 1) rfl rfl rfl ?_
  obtain ⟨v2, q1, h⟩ := h
  refine x_call (pc' := 2) (as := [(0, p1)]) (rest := []) rfl rfl rfl rfl rfl rfl q1 ?_
  refine x_ifeq (pc' := 3) (t' := 9) rfl rfl rfl (fun q3 => ?_) (fun q3 => ?_)
  · replace h := ite_t q3 h
    refine x_c (pc' := 10) rfl rfl ?_
    exact x_iret rfl h
  · replace h := ite_f q3 h
    refine x_il (pc' := 4) rfl rfl rfl ?_
    refine x_c (pc' := 5) rfl rfl ?_
    refine x_iclt (pc' := 6) (t' := 9) rfl rfl rfl (fun q4 => ?_) (fun q4 => ?_)
    · replace h := ite_t q4 h
      refine x_c (pc' := 10) rfl rfl ?_
      exact x_iret rfl h
    · replace h := ite_f q4 h
      refine x_il (pc' := 7) rfl rfl rfl ?_
      refine x_c (pc' := 8) rfl rfl ?_
      refine x_icle (pc' := 9) (t' := 11) rfl rfl rfl (fun q5 => ?_) (fun q5 => ?_)
      · replace h := ite_t q5 h
        refine x_il (pc' := 12) rfl rfl rfl ?_
        refine x_c (pc' := 13) rfl rfl ?_
        refine x_ib (pc' := 14) (v := w32 (Int.tdiv p1 100)) rfl rfl rfl ?_
        refine x_is (pc' := 15) (ls' := [(2, 0), (0, p1), (0, p2), (0, w32 (Int.tdiv p1 100)), (3, 0), (3, 0), (3, 0), (3, 0), (3, 0), (3, 0), (3, 0)]) rfl rfl rfl rfl ?_
        refine x_il (pc' := 16) rfl rfl rfl ?_
        refine x_c (pc' := 17) rfl rfl ?_
        refine x_ib (pc' := 18) (v := w32 (Int.tmod p1 100)) rfl rfl rfl ?_
        refine x_is (pc' := 19) (ls' := [(2, 0), (0, p1), (0, p2), (0, w32 (Int.tdiv p1 100)), (0, w32 (Int.tmod p1 100)), (3, 0), (3, 0), (3, 0), (3, 0), (3, 0), (3, 0)]) rfl rfl rfl rfl ?_
        refine x_il (pc' := 20) rfl rfl rfl ?_
        refine x_il (pc' := 21) rfl rfl rfl ?_
        obtain ⟨v7, q6, h⟩ := h
        refine x_call (pc' := 22) (as := [(0, w32 (Int.tmod p1 100)), (0, w32 (Int.tdiv p1 100))]) (rest := []) rfl rfl rfl rfl rfl rfl q6 ?_
        refine x_ls (pc' := 23) (ls' := [(2, 0), (0, p1), (0, p2), (0, w32 (Int.tdiv p1 100)), (0, w32 (Int.tmod p1 100)), (1, v7), (3, 0), (3, 0), (3, 0), (3, 0), (3, 0)]) rfl rfl rfl rfl ?_
        refine x_lc (pc' := 24) rfl rfl ?_
        refine x_ls (pc' := 25) (ls' := [(2, 0), (0, p1), (0, p2), (0, w32 (Int.tdiv p1 100)), (0, w32 (Int.tmod p1 100)), (1, v7), (3, 0), (1, 0), (3, 0), (3, 0), (3, 0)]) rfl rfl rfl rfl ?_
        refine x_c (pc' := 26) rfl rfl ?_
        refine x_is (pc' := 27) (ls' := [(2, 0), (0, p1), (0, p2), (0, w32 (Int.tdiv p1 100)), (0, w32 (Int.tmod p1 100)), (1, v7), (3, 0), (1, 0), (3, 0), (0, (-2)), (3, 0)]) rfl rfl rfl rfl ?_
        refine x_il (pc' := 28) rfl rfl rfl ?_
        refine x_is (pc' := 29) (ls' := [(2, 0), (0, p1), (0, p2), (0, w32 (Int.tdiv p1 100)), (0, w32 (Int.tmod p1 100)), (1, v7), (3, 0), (1, 0), (3, 0), (0, (-2)), (0, w32 (Int.tdiv p1 100))]) rfl rfl rfl rfl ?_
        exact h
      · replace h := ite_f q5 h
        refine x_c (pc' := 10) rfl rfl ?_
        exact x_iret rfl h
theorem sg_X_enough_29 {d : Nat} {w0 : AV} {w1 : AV} {l2 : Int} {l3 : Int} {l4 : Int} {l5 : Int} {w6 : AV} {l7 : Int} {w8 : AV} {l9 : Int} {l10 : Int} {M : Mem} {r : Res} (hw6 : ¬ w6.1 = 1) (h : (if l10 < 0 then r = (some (0, l9), M) else ∃ v3, Cl d m_X_waysAlike [(0, l3), (0, l4), (0, l10)] M (some (1, v3), M) ∧ (if lcmpI (w64 (l2 * (w64 (l7 + v3)))) l5 < 0 then at_X_enough_29 d w0 w1 l2 l3 l4 l5 w6 (w64 (l7 + v3)) (3, 0) l10 (w32 (l10 + (-1))) M r else r = (some (0, l9), M)))) : at_X_enough_29 d w0 w1 l2 l3 l4 l5 w6 l7 w8 l9 l10 M r := by
  unfold at_X_enough_29
  refine x_il (pc' := 30) rfl rfl rfl ?_
  refine x_iflt (pc' := 31) (t' := 51) rfl rfl rfl (fun q1 => ?_) (fun q1 => ?_)
  · replace h := ite_t q1 h
    refine x_il (pc' := 52) rfl rfl rfl ?_
    exact x_iret rfl h
  · replace h := ite_f q1 h
    refine x_ll (pc' := 32) rfl rfl rfl ?_
    refine x_il (pc' := 33) rfl rfl rfl ?_
    refine x_il (pc' := 34) rfl rfl rfl ?_
    refine x_il (pc' := 35) rfl rfl rfl ?_
    obtain ⟨v3, q2, h⟩ := h
    refine x_call (pc' := 36) (as := [(0, l3), (0, l4), (0, l10)]) (rest := [(1, l7)]) rfl rfl rfl rfl rfl rfl q2 ?_
    refine x_lb (pc' := 37) (v := w64 (l7 + v3)) rfl rfl rfl ?_
    refine x_ls (pc' := 38) (ls' := [w0, w1, (0, l2), (0, l3), (0, l4), (1, l5), w6, (1, w64 (l7 + v3)), (3, 0), (0, l9), (0, l10)]) rfl rfl (congrArg (fun l => List.set l 8 (3, 0)) (setL_nw (i := 6) rfl hw6)) rfl ?_
    refine x_il (pc' := 39) rfl rfl rfl ?_
    refine x_i2l (pc' := 40) rfl rfl ?_
    refine x_ll (pc' := 41) rfl rfl rfl ?_
    refine x_lb (pc' := 42) (v := w64 (l2 * (w64 (l7 + v3)))) rfl rfl rfl ?_
    refine x_ll (pc' := 43) rfl rfl rfl ?_
    refine x_lcmp (pc' := 44) rfl rfl ?_
    refine x_iflt (pc' := 45) (t' := 47) rfl rfl rfl (fun q4 => ?_) (fun q4 => ?_)
    · replace h := ite_t q4 h
      refine x_il (pc' := 48) rfl rfl rfl ?_
      refine x_is (pc' := 49) (ls' := [w0, w1, (0, l2), (0, l3), (0, l4), (1, l5), w6, (1, w64 (l7 + v3)), (3, 0), (0, l10), (0, l10)]) rfl rfl rfl rfl ?_
      refine x_inc (pc' := 50) (ls' := [w0, w1, (0, l2), (0, l3), (0, l4), (1, l5), w6, (1, w64 (l7 + v3)), (3, 0), (0, l10), (0, w32 (l10 + (-1)))]) rfl rfl rfl rfl ?_
      refine x_goto (t' := 29) rfl rfl ?_
      exact h
    · replace h := ite_f q4 h
      refine x_il (pc' := 46) rfl rfl rfl ?_
      exact x_iret rfl h
def at_X_power_4 (d : Nat) (l0 : Int) (l1 : Int) (l2 : Int) (w3 : AV) (l4 : Int) (M : Mem) (r : Res) : Prop := Ex sx0 d k_X_power 2 4 [(0, l0), (0, l1), (1, l2), w3, (0, l4)] [] M r
theorem sg_X_power {d : Nat} {p1 p2 : Int} {M : Mem} {r : Res} (h : at_X_power_4 d p1 p2 1 (3, 0) 0 M r) : Cl (d + 1) m_X_power [(0, p1), (0, p2)] M r := by
  refine cl_of (c := k_X_power) (mL := 5) (rz := 2) (rc := 99) (ls := [(0, p1), (0, p2), (3, 0), (3, 0), (3, 0)]) rfl rfl rfl ?_
  refine x_lc (pc' := 1) rfl rfl ?_
  refine x_ls (pc' := 2) (ls' := [(0, p1), (0, p2), (1, 1), (3, 0), (3, 0)]) rfl rfl rfl rfl ?_
  refine x_c (pc' := 3) rfl rfl ?_
  refine x_is (pc' := 4) (ls' := [(0, p1), (0, p2), (1, 1), (3, 0), (0, 0)]) rfl rfl rfl rfl ?_
  exact h
theorem sg_X_power_4 {d : Nat} {l0 : Int} {l1 : Int} {l2 : Int} {w3 : AV} {l4 : Int} {M : Mem} {r : Res} (h : (if l1 ≤ l4 then r = (some (1, l2), M) else at_X_power_4 d l0 l1 (w64 (l2 * l0)) (3, 0) (w32 (l4 + 1)) M r)) : at_X_power_4 d l0 l1 l2 w3 l4 M r := by
  unfold at_X_power_4
  refine x_il (pc' := 5) rfl rfl rfl ?_
  refine x_il (pc' := 6) rfl rfl rfl ?_
  refine x_icge (pc' := 7) (t' := 14) rfl rfl rfl (fun q1 => ?_) (fun q1 => ?_)
  · replace h := ite_t q1 h
    refine x_ll (pc' := 15) rfl rfl rfl ?_
    exact x_lret rfl h
  · replace h := ite_f q1 h
    refine x_ll (pc' := 8) rfl rfl rfl ?_
    refine x_il (pc' := 9) rfl rfl rfl ?_
    refine x_i2l (pc' := 10) rfl rfl ?_
    refine x_lb (pc' := 11) (v := w64 (l2 * l0)) rfl rfl rfl ?_
    refine x_ls (pc' := 12) (ls' := [(0, l0), (0, l1), (1, w64 (l2 * l0)), (3, 0), (0, l4)]) rfl rfl rfl rfl ?_
    refine x_inc (pc' := 13) (ls' := [(0, l0), (0, l1), (1, w64 (l2 * l0)), (3, 0), (0, w32 (l4 + 1))]) rfl rfl rfl rfl ?_
    refine x_goto (t' := 4) rfl rfl ?_
    exact h
def at_X_waysAlike_4 (d : Nat) (l0 : Int) (l1 : Int) (l2 : Int) (l3 : Int) (w4 : AV) (l5 : Int) (M : Mem) (r : Res) : Prop := Ex sx0 d k_X_waysAlike 2 4 [(0, l0), (0, l1), (0, l2), (1, l3), w4, (0, l5)] [] M r
theorem sg_X_waysAlike {d : Nat} {p1 p2 p3 : Int} {M : Mem} {r : Res} (h : at_X_waysAlike_4 d p1 p2 p3 1 (3, 0) 1 M r) : Cl (d + 1) m_X_waysAlike [(0, p1), (0, p2), (0, p3)] M r := by
  refine cl_of (c := k_X_waysAlike) (mL := 6) (rz := 2) (rc := 99) (ls := [(0, p1), (0, p2), (0, p3), (3, 0), (3, 0), (3, 0)]) rfl rfl rfl ?_
  refine x_lc (pc' := 1) rfl rfl ?_
  refine x_ls (pc' := 2) (ls' := [(0, p1), (0, p2), (0, p3), (1, 1), (3, 0), (3, 0)]) rfl rfl rfl rfl ?_
  refine x_c (pc' := 3) rfl rfl ?_
  refine x_is (pc' := 4) (ls' := [(0, p1), (0, p2), (0, p3), (1, 1), (3, 0), (0, 1)]) rfl rfl rfl rfl ?_
  exact h
theorem sg_X_waysAlike_4 {d : Nat} {l0 : Int} {l1 : Int} {l2 : Int} {l3 : Int} {w4 : AV} {l5 : Int} {M : Mem} {r : Res} (h : (if l2 < l5 then ∃ v3, Cl d m_X_power [(0, w32 (l1 - 1)), (0, w32 (l0 - l2))] M (some (1, v3), M) ∧ r = (some (1, w64 (l3 * v3)), M) else (¬ l5 = 0) ∧ at_X_waysAlike_4 d l0 l1 l2 (w64 (Int.tdiv (w64 (l3 * (w32 ((w32 (l0 - l2)) + l5)))) l5)) (3, 0) (w32 (l5 + 1)) M r)) : at_X_waysAlike_4 d l0 l1 l2 l3 w4 l5 M r := by
  unfold at_X_waysAlike_4
  refine x_il (pc' := 5) rfl rfl rfl ?_
  refine x_il (pc' := 6) rfl rfl rfl ?_
  refine x_icgt (pc' := 7) (t' := 21) rfl rfl rfl (fun q1 => ?_) (fun q1 => ?_)
  · replace h := ite_t q1 h
    refine x_ll (pc' := 22) rfl rfl rfl ?_
    refine x_il (pc' := 23) rfl rfl rfl ?_
    refine x_c (pc' := 24) rfl rfl ?_
    refine x_ib (pc' := 25) (v := w32 (l1 - 1)) rfl rfl rfl ?_
    refine x_il (pc' := 26) rfl rfl rfl ?_
    refine x_il (pc' := 27) rfl rfl rfl ?_
    refine x_ib (pc' := 28) (v := w32 (l0 - l2)) rfl rfl rfl ?_
    obtain ⟨v3, q2, h⟩ := h
    refine x_call (pc' := 29) (as := [(0, w32 (l1 - 1)), (0, w32 (l0 - l2))]) (rest := [(1, l3)]) rfl rfl rfl rfl rfl rfl q2 ?_
    refine x_lb (pc' := 30) (v := w64 (l3 * v3)) rfl rfl rfl ?_
    exact x_lret rfl h
  · replace h := ite_f q1 h
    refine x_ll (pc' := 8) rfl rfl rfl ?_
    refine x_il (pc' := 9) rfl rfl rfl ?_
    refine x_il (pc' := 10) rfl rfl rfl ?_
    refine x_ib (pc' := 11) (v := w32 (l0 - l2)) rfl rfl rfl ?_
    refine x_il (pc' := 12) rfl rfl rfl ?_
    refine x_ib (pc' := 13) (v := w32 ((w32 (l0 - l2)) + l5)) rfl rfl rfl ?_
    refine x_i2l (pc' := 14) rfl rfl ?_
    refine x_lb (pc' := 15) (v := w64 (l3 * (w32 ((w32 (l0 - l2)) + l5)))) rfl rfl rfl ?_
    refine x_il (pc' := 16) rfl rfl rfl ?_
    refine x_i2l (pc' := 17) rfl rfl ?_
    obtain ⟨q4, h⟩ := h
    refine x_lb (pc' := 18) (v := w64 (Int.tdiv (w64 (l3 * (w32 ((w32 (l0 - l2)) + l5)))) l5)) rfl (show lbin 3 (w64 (l3 * (w32 ((w32 (l0 - l2)) + l5)))) l5 = some (w64 (Int.tdiv (w64 (l3 * (w32 ((w32 (l0 - l2)) + l5)))) l5)) from if_neg q4) rfl ?_
    refine x_ls (pc' := 19) (ls' := [(0, l0), (0, l1), (0, l2), (1, w64 (Int.tdiv (w64 (l3 * (w32 ((w32 (l0 - l2)) + l5)))) l5)), (3, 0), (0, l5)]) rfl rfl rfl rfl ?_
    refine x_inc (pc' := 20) (ls' := [(0, l0), (0, l1), (0, l2), (1, w64 (Int.tdiv (w64 (l3 * (w32 ((w32 (l0 - l2)) + l5)))) l5)), (3, 0), (0, w32 (l5 + 1))]) rfl rfl rfl rfl ?_
    refine x_goto (t' := 4) rfl rfl ?_
    exact h
theorem sg_X_chance {d : Nat} {p1 p2 p3 : Int} {M : Mem} {r : Res} (h : ∃ v2, Cl d m_X_arePoints [(0, p1)] M (some (0, v2), M) ∧ (if v2 = 0 then r = (some (1, (-9223372036854775808)), M) else (if p2 < 0 then r = (some (1, (-9223372036854775808)), M) else (if w32 (Int.tdiv p1 100) < p2 then r = (some (1, (-9223372036854775808)), M) else (if p3 < 0 then r = (some (1, (-9223372036854775808)), M) else (if p3 ≤ 1 then ∃ v9, Cl d m_X_waysAlike [(0, w32 (Int.tdiv p1 100)), (0, w32 (Int.tmod p1 100)), (0, p2)] M (some (1, v9), M) ∧ ∃ v11, Cl d m_X_power [(0, w32 (Int.tmod p1 100)), (0, w32 (Int.tdiv p1 100))] M (some (1, v11), M) ∧ (if ¬ p3 = 0 then ∃ v14, Cl d m_X_lowest [(1, v11), (1, v9)] M (some (1, v14), M) ∧ r = (some (1, v14), M) else ∃ v16, Cl d m_X_lowest [(1, v9), (1, v11)] M (some (1, v16), M) ∧ r = (some (1, v16), M)) else r = (some (1, (-9223372036854775808)), M))))))) : Cl (d + 1) m_X_chance [(2, 0), (0, p1), (0, p2), (0, p3)] M r := by
  refine cl_of (c := k_X_chance) (mL := 8) (rz := 2) (rc := 0) (ls := [(2, 0), (0, p1), (0, p2), (0, p3), (3, 0), (3, 0), (3, 0), (3, 0)]) rfl rfl rfl ?_
  refine x_il (pc' := 1) rfl rfl rfl ?_
  obtain ⟨v2, q1, h⟩ := h
  refine x_call (pc' := 2) (as := [(0, p1)]) (rest := []) rfl rfl rfl rfl rfl rfl q1 ?_
  refine x_ifeq (pc' := 3) (t' := 15) rfl rfl rfl (fun q3 => ?_) (fun q3 => ?_)
  · replace h := ite_t q3 h
    refine x_lc (pc' := 16) rfl rfl ?_
    exact x_lret rfl h
  · replace h := ite_f q3 h
    refine x_il (pc' := 4) rfl rfl rfl ?_
    refine x_iflt (pc' := 5) (t' := 15) rfl rfl rfl (fun q4 => ?_) (fun q4 => ?_)
    · replace h := ite_t q4 h
      refine x_lc (pc' := 16) rfl rfl ?_
      exact x_lret rfl h
    · replace h := ite_f q4 h
      refine x_il (pc' := 6) rfl rfl rfl ?_
      refine x_il (pc' := 7) rfl rfl rfl ?_
      refine x_c (pc' := 8) rfl rfl ?_
      refine x_ib (pc' := 9) (v := w32 (Int.tdiv p1 100)) rfl rfl rfl ?_
      refine x_icgt (pc' := 10) (t' := 15) rfl rfl rfl (fun q5 => ?_) (fun q5 => ?_)
      · replace h := ite_t q5 h
        refine x_lc (pc' := 16) rfl rfl ?_
        exact x_lret rfl h
      · replace h := ite_f q5 h
        refine x_il (pc' := 11) rfl rfl rfl ?_
        refine x_iflt (pc' := 12) (t' := 15) rfl rfl rfl (fun q6 => ?_) (fun q6 => ?_)
        · replace h := ite_t q6 h
          refine x_lc (pc' := 16) rfl rfl ?_
          exact x_lret rfl h
        · replace h := ite_f q6 h
          refine x_il (pc' := 13) rfl rfl rfl ?_
          refine x_c (pc' := 14) rfl rfl ?_
          refine x_icle (pc' := 15) (t' := 17) rfl rfl rfl (fun q7 => ?_) (fun q7 => ?_)
          · replace h := ite_t q7 h
            refine x_il (pc' := 18) rfl rfl rfl ?_
            refine x_c (pc' := 19) rfl rfl ?_
            refine x_ib (pc' := 20) (v := w32 (Int.tdiv p1 100)) rfl rfl rfl ?_
            refine x_il (pc' := 21) rfl rfl rfl ?_
            refine x_c (pc' := 22) rfl rfl ?_
            refine x_ib (pc' := 23) (v := w32 (Int.tmod p1 100)) rfl rfl rfl ?_
            refine x_il (pc' := 24) rfl rfl rfl ?_
            obtain ⟨v9, q8, h⟩ := h
            refine x_call (pc' := 25) (as := [(0, w32 (Int.tdiv p1 100)), (0, w32 (Int.tmod p1 100)), (0, p2)]) (rest := []) rfl rfl rfl rfl rfl rfl q8 ?_
            refine x_ls (pc' := 26) (ls' := [(2, 0), (0, p1), (0, p2), (0, p3), (1, v9), (3, 0), (3, 0), (3, 0)]) rfl rfl rfl rfl ?_
            refine x_il (pc' := 27) rfl rfl rfl ?_
            refine x_c (pc' := 28) rfl rfl ?_
            refine x_ib (pc' := 29) (v := w32 (Int.tmod p1 100)) rfl rfl rfl ?_
            refine x_il (pc' := 30) rfl rfl rfl ?_
            refine x_c (pc' := 31) rfl rfl ?_
            refine x_ib (pc' := 32) (v := w32 (Int.tdiv p1 100)) rfl rfl rfl ?_
            obtain ⟨v11, q10, h⟩ := h
            refine x_call (pc' := 33) (as := [(0, w32 (Int.tmod p1 100)), (0, w32 (Int.tdiv p1 100))]) (rest := []) rfl rfl rfl rfl rfl rfl q10 ?_
            refine x_ls (pc' := 34) (ls' := [(2, 0), (0, p1), (0, p2), (0, p3), (1, v9), (3, 0), (1, v11), (3, 0)]) rfl rfl rfl rfl ?_
            refine x_il (pc' := 35) rfl rfl rfl ?_
            refine x_ifne (pc' := 36) (t' := 40) rfl rfl rfl (fun q12 => ?_) (fun q12 => ?_)
            · replace h := ite_t q12 h
              refine x_ll (pc' := 41) rfl rfl rfl ?_
              refine x_ll (pc' := 42) rfl rfl rfl ?_
              obtain ⟨v14, q13, h⟩ := h
              refine x_call (pc' := 43) (as := [(1, v11), (1, v9)]) (rest := []) rfl rfl rfl rfl rfl rfl q13 ?_
              exact x_lret rfl h
            · replace h := ite_f q12 h
              refine x_ll (pc' := 37) rfl rfl rfl ?_
              refine x_ll (pc' := 38) rfl rfl rfl ?_
              obtain ⟨v16, q15, h⟩ := h
              refine x_call (pc' := 39) (as := [(1, v9), (1, v11)]) (rest := []) rfl rfl rfl rfl rfl rfl q15 ?_
              refine x_goto (t' := 43) rfl rfl ?_
              exact x_lret rfl h
          · replace h := ite_f q7 h
            refine x_lc (pc' := 16) rfl rfl ?_
            exact x_lret rfl h
def at_X_who_14 (d : Nat) (l1 : Int) (w2 : AV) (l3 : Int) (l4 : Int) (M : Mem) (r : Res) : Prop := Ex sx0 d k_X_who 1 14 [(2, 0), (0, l1), w2, (0, l3), (0, l4)] [] M r
theorem sg_X_who {d : Nat} {p1 : Int} {M : Mem} {r : Res} (h : ∃ v2, Cl d m_S_rowRefusal [(2, 49), (0, p1), (0, 0)] M (some (0, v2), M) ∧ (if v2 = 0 then at_X_who_14 d p1 (0, v2) 0 0 M r else r = (some (0, v2), M))) : Cl (d + 1) m_X_who [(2, 0), (0, p1)] M r := by
  refine cl_of (c := k_X_who) (mL := 5) (rz := 1) (rc := 0) (ls := [(2, 0), (0, p1), (3, 0), (3, 0), (3, 0)]) rfl rfl rfl ?_
  refine x_al (pc' := 1) rfl rfl (by decide) rfl ?_
  refine x_gr (pc' := 2) (v := 49) rfl rfl rfl (by decide) rfl ?_
  refine x_il (pc' := 3) rfl rfl rfl ?_
  refine x_c (pc' := 4) rfl rfl ?_
  obtain ⟨v2, q1, h⟩ := h
  refine x_call (pc' := 5) (as := [(2, 49), (0, p1), (0, 0)]) (rest := []) rfl rfl rfl rfl rfl rfl q1 ?_
  refine x_is (pc' := 6) (ls' := [(2, 0), (0, p1), (0, v2), (3, 0), (3, 0)]) rfl rfl rfl rfl ?_
  refine x_il (pc' := 7) rfl rfl rfl ?_
  refine x_ifeq (pc' := 8) (t' := 10) rfl rfl rfl (fun q3 => ?_) (fun q3 => ?_)
  · replace h := ite_t q3 h
    refine x_c (pc' := 11) rfl rfl ?_
    refine x_is (pc' := 12) (ls' := [(2, 0), (0, p1), (0, v2), (0, 0), (3, 0)]) rfl rfl rfl rfl ?_
    refine x_c (pc' := 13) rfl rfl ?_
    refine x_is (pc' := 14) (ls' := [(2, 0), (0, p1), (0, v2), (0, 0), (0, 0)]) rfl rfl rfl rfl ?_
    exact h
  · replace h := ite_f q3 h
    refine x_il (pc' := 9) rfl rfl rfl ?_
    exact x_iret rfl h
theorem sg_X_who_14 {d : Nat} {l1 : Int} {w2 : AV} {l3 : Int} {l4 : Int} {M : Mem} {r : Res} (hw2 : ¬ w2.1 = 1) (h : (if M 1 5 ≤ l4 then r = (some (0, l3), M) else ∃ v3, Cl d m_X_firstUnlike [(2, 0), (0, l1), (0, l4)] M (some (0, v3), M) ∧ (if ¬ v3 = (-2) then at_X_who_14 d l1 w2 l3 (w32 (l4 + 1)) M r else at_X_who_14 d l1 w2 (ior l3 (ishl 1 l4)) (w32 (l4 + 1)) M r))) : at_X_who_14 d l1 w2 l3 l4 M r := by
  unfold at_X_who_14
  refine x_il (pc' := 15) rfl rfl rfl ?_
  refine x_al (pc' := 16) rfl rfl (by decide) rfl ?_
  refine x_gr (pc' := 17) (v := 1) rfl rfl rfl (by decide) rfl ?_
  refine x_gf (pc' := 18) (v := M 1 5) rfl rfl rfl rfl rfl ?_
  refine x_icge (pc' := 19) (t' := 33) rfl rfl rfl (fun q1 => ?_) (fun q1 => ?_)
  · replace h := ite_t q1 h
    refine x_il (pc' := 34) rfl rfl rfl ?_
    exact x_iret rfl h
  · replace h := ite_f q1 h
    refine x_al (pc' := 20) rfl rfl (by decide) rfl ?_
    refine x_il (pc' := 21) rfl rfl rfl ?_
    refine x_il (pc' := 22) rfl rfl rfl ?_
    obtain ⟨v3, q2, h⟩ := h
    refine x_call (pc' := 23) (as := [(2, 0), (0, l1), (0, l4)]) (rest := []) rfl rfl rfl rfl rfl rfl q2 ?_
    refine x_c (pc' := 24) rfl rfl ?_
    refine x_icne (pc' := 25) (t' := 31) rfl rfl rfl (fun q4 => ?_) (fun q4 => ?_)
    · replace h := ite_t q4 h
      refine x_inc (pc' := 32) (ls' := [(2, 0), (0, l1), w2, (0, l3), (0, w32 (l4 + 1))]) rfl rfl rfl rfl ?_
      refine x_goto (t' := 14) rfl rfl ?_
      exact h
    · replace h := ite_f q4 h
      refine x_il (pc' := 26) rfl rfl rfl ?_
      refine x_c (pc' := 27) rfl rfl ?_
      refine x_il (pc' := 28) rfl rfl rfl ?_
      refine x_ib (pc' := 29) (v := ishl 1 l4) rfl rfl rfl ?_
      refine x_ib (pc' := 30) (v := ior l3 (ishl 1 l4)) rfl rfl rfl ?_
      refine x_is (pc' := 31) (ls' := [(2, 0), (0, l1), w2, (0, ior l3 (ishl 1 l4)), (0, l4)]) rfl rfl (setL_nw (i := 2) rfl hw2) rfl ?_
      refine x_inc (pc' := 32) (ls' := [(2, 0), (0, l1), w2, (0, ior l3 (ishl 1 l4)), (0, w32 (l4 + 1))]) rfl rfl rfl rfl ?_
      refine x_goto (t' := 14) rfl rfl ?_
      exact h
