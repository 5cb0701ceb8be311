/-! what each method owes, point by point (by program) -/
theorem sg_X_isTrue {d : Nat} {p1 p2 : Int} {M : Mem} {r : Res} (h : ∃ v2, Cl d m_C_has [(2, 1), (0, p2)] M (some (0, v2), M) ∧ (if ¬ v2 = 0 then ∃ v5, Cl d m_S_rowRefusal [(2, 49), (0, p1), (0, 0)] M (some (0, v5), M) ∧ (if v5 = 0 then ∃ v8, Cl d m_X_firstUnlike [(2, 0), (0, p1), (0, p2)] M (some (0, v8), M) ∧ r = (some (0, v8), M) else r = (some (0, v5), M)) else r = (some (0, (-1)), M))) : Cl (d + 1) m_X_isTrue [(2, 0), (0, p1), (0, p2)] M r := by
  refine cl_of (c := k_X_isTrue) (mL := 4) (rz := 1) (rc := 0) (ls := [(2, 0), (0, p1), (0, p2), (3, 0)]) rfl rfl rfl ?_
  refine x_al (pc' := 1) rfl rfl (by decide) rfl ?_
  refine x_gr (pc' := 2) (v := 1) rfl rfl rfl (by decide) rfl ?_
  refine x_il (pc' := 3) rfl rfl rfl ?_
  obtain ⟨v2, q1, h⟩ := h
  refine x_call (pc' := 4) (as := [(2, 1), (0, p2)]) (rest := []) rfl rfl rfl rfl rfl rfl q1 ?_
  refine x_ifne (pc' := 5) (t' := 7) rfl rfl rfl (fun q3 => ?_) (fun q3 => ?_)
  · replace h := ite_t q3 h
    refine x_al (pc' := 8) rfl rfl (by decide) rfl ?_
    refine x_gr (pc' := 9) (v := 49) rfl rfl rfl (by decide) rfl ?_
    refine x_il (pc' := 10) rfl rfl rfl ?_
    refine x_c (pc' := 11) rfl rfl ?_
    obtain ⟨v5, q4, h⟩ := h
    refine x_call (pc' := 12) (as := [(2, 49), (0, p1), (0, 0)]) (rest := []) rfl rfl rfl rfl rfl rfl q4 ?_
    refine x_is (pc' := 13) (ls' := [(2, 0), (0, p1), (0, p2), (0, v5)]) rfl rfl rfl rfl ?_
    refine x_il (pc' := 14) rfl rfl rfl ?_
    refine x_ifeq (pc' := 15) (t' := 17) rfl rfl rfl (fun q6 => ?_) (fun q6 => ?_)
    · replace h := ite_t q6 h
      refine x_al (pc' := 18) rfl rfl (by decide) rfl ?_
      refine x_il (pc' := 19) rfl rfl rfl ?_
      refine x_il (pc' := 20) rfl rfl rfl ?_
      obtain ⟨v8, q7, h⟩ := h
      refine x_call (pc' := 21) (as := [(2, 0), (0, p1), (0, p2)]) (rest := []) rfl rfl rfl rfl rfl rfl q7 ?_
      exact x_iret rfl h
    · replace h := ite_f q6 h
      refine x_il (pc' := 16) rfl rfl rfl ?_
      refine x_goto (t' := 21) rfl rfl ?_
      exact x_iret rfl h
  · replace h := ite_f q3 h
    refine x_c (pc' := 6) rfl rfl ?_
    exact x_iret rfl h
def at_X_firstUnlike_9 (d : Nat) (l1 : Int) (l2 : Int) (l3 : Int) (l4 : Int) (w5 : AV) (w6 : AV) (M : Mem) (r : Res) : Prop := Ex sx0 d k_X_firstUnlike 1 9 [(2, 0), (0, l1), (0, l2), (0, l3), (0, l4), w5, w6] [] M r
theorem sg_X_firstUnlike {d : Nat} {p1 p2 : Int} {M : Mem} {r : Res} (h : ∃ v2, Cl d m_S_lengthOf [(2, 49), (0, p1)] M (some (0, v2), M) ∧ at_X_firstUnlike_9 d p1 p2 (if v2 < 10 then v2 else 10) 0 (3, 0) (3, 0) M r) : Cl (d + 1) m_X_firstUnlike [(2, 0), (0, p1), (0, p2)] M r := by
  refine cl_of (c := k_X_firstUnlike) (mL := 7) (rz := 1) (rc := 0) (ls := [(2, 0), (0, p1), (0, p2), (3, 0), (3, 0), (3, 0), (3, 0)]) rfl rfl rfl ?_
  refine x_c (pc' := 1) rfl rfl ?_
  refine x_al (pc' := 2) rfl rfl (by decide) rfl ?_
  refine x_gr (pc' := 3) (v := 49) rfl rfl rfl (by decide) rfl ?_
  refine x_il (pc' := 4) rfl rfl rfl ?_
  obtain ⟨v2, q1, h⟩ := h
  refine x_call (pc' := 5) (as := [(2, 49), (0, p1)]) (rest := [(0, 10)]) rfl rfl rfl rfl rfl rfl q1 ?_
  refine x_min (pc' := 6) rfl rfl rfl ?_
  refine x_is (pc' := 7) (ls' := [(2, 0), (0, p1), (0, p2), (0, (if v2 < 10 then v2 else 10)), (3, 0), (3, 0), (3, 0)]) rfl rfl rfl rfl ?_
  refine x_c (pc' := 8) rfl rfl ?_
  refine x_is (pc' := 9) (ls' := [(2, 0), (0, p1), (0, p2), (0, (if v2 < 10 then v2 else 10)), (0, 0), (3, 0), (3, 0)]) rfl rfl rfl rfl ?_
  exact h
theorem sg_X_firstUnlike_9 {d : Nat} {l1 : Int} {l2 : Int} {l3 : Int} {l4 : Int} {w5 : AV} {w6 : AV} {M : Mem} {r : Res} (h : (if l3 ≤ l4 then r = (some (0, (-2)), M) else ∃ v3, Cl d m_S_valueAt [(2, 49), (0, l1), (0, l4)] M (some (1, v3), M) ∧ ∃ v5, Cl d m_X_isSort [(1, v3)] M (some (0, v5), M) ∧ (if v5 = 0 then r = (some (0, l4), M) else (0 ≤ l2 ∧ l2 < 12) ∧ (0 ≤ l4 ∧ l4 < 10) ∧ ∃ v10, Cl d m_X_mayBeSame [(0, w32 v3), (0, M ((3 + l2).toNat) l4)] M (some (0, v10), M) ∧ (if ¬ v10 = 0 then at_X_firstUnlike_9 d l1 l2 l3 (w32 (l4 + 1)) (1, v3) (3, 0) M r else r = (some (0, l4), M))))) : at_X_firstUnlike_9 d l1 l2 l3 l4 w5 w6 M r := by
  unfold at_X_firstUnlike_9
  refine x_il (pc' := 10) rfl rfl rfl ?_
  refine x_il (pc' := 11) rfl rfl rfl ?_
  refine x_icge (pc' := 12) (t' := 36) rfl rfl rfl (fun q1 => ?_) (fun q1 => ?_)
  · replace h := ite_t q1 h
    refine x_c (pc' := 37) rfl rfl ?_
    exact x_iret rfl h
  · replace h := ite_f q1 h
    refine x_al (pc' := 13) rfl rfl (by decide) rfl ?_
    refine x_gr (pc' := 14) (v := 49) rfl rfl rfl (by decide) rfl ?_
    refine x_il (pc' := 15) rfl rfl rfl ?_
    refine x_il (pc' := 16) rfl rfl rfl ?_
    obtain ⟨v3, q2, h⟩ := h
    refine x_call (pc' := 17) (as := [(2, 49), (0, l1), (0, l4)]) (rest := []) rfl rfl rfl rfl rfl rfl q2 ?_
    refine x_ls (pc' := 18) (ls' := [(2, 0), (0, l1), (0, l2), (0, l3), (0, l4), (1, v3), (3, 0)]) rfl rfl rfl rfl ?_
    refine x_ll (pc' := 19) rfl rfl rfl ?_
    obtain ⟨v5, q4, h⟩ := h
    refine x_call (pc' := 20) (as := [(1, v3)]) (rest := []) rfl rfl rfl rfl rfl rfl q4 ?_
    refine x_ifeq (pc' := 21) (t' := 32) rfl rfl rfl (fun q6 => ?_) (fun q6 => ?_)
    · replace h := ite_t q6 h
      refine x_il (pc' := 33) rfl rfl rfl ?_
      exact x_iret rfl h
    · replace h := ite_f q6 h
      refine x_ll (pc' := 22) rfl rfl rfl ?_
      refine x_l2i (pc' := 23) rfl rfl ?_
      refine x_al (pc' := 24) rfl rfl (by decide) rfl ?_
      refine x_gr (pc' := 25) (v := 1) rfl rfl rfl (by decide) rfl ?_
      refine x_gr (pc' := 26) (v := 2) rfl rfl rfl (by decide) rfl ?_
      refine x_il (pc' := 27) rfl rfl rfl ?_
      obtain ⟨q7, h⟩ := h
      refine x_aa (pc' := 28) (v := (3 + l2)) 2 12 rfl rfl (Or.inl rfl) q7.1 q7.2 (show rfc 2 l2 = (3 + l2) from if_pos ⟨q7.1, q7.2⟩) (by have := q7.1; omega) rfl ?_
      refine x_il (pc' := 29) rfl rfl rfl ?_
      obtain ⟨q8, h⟩ := h
      refine x_ia (pc' := 30) 10 (v := M ((3 + l2).toNat) l4) rfl rfl (arK_2d q7.1 q7.2 (Or.inl rfl)) q8.1 q8.2 rfl ?_
      obtain ⟨v10, q9, h⟩ := h
      refine x_call (pc' := 31) (as := [(0, w32 v3), (0, M ((3 + l2).toNat) l4)]) (rest := []) rfl rfl rfl rfl rfl rfl q9 ?_
      refine x_ifne (pc' := 32) (t' := 34) rfl rfl rfl (fun q11 => ?_) (fun q11 => ?_)
      · replace h := ite_t q11 h
        refine x_inc (pc' := 35) (ls' := [(2, 0), (0, l1), (0, l2), (0, l3), (0, w32 (l4 + 1)), (1, v3), (3, 0)]) rfl rfl rfl rfl ?_
        refine x_goto (t' := 9) rfl rfl ?_
        exact h
      · replace h := ite_f q11 h
        refine x_il (pc' := 33) rfl rfl rfl ?_
        exact x_iret rfl h
def at_X_mended_35 (d : Nat) (w0 : AV) (w1 : AV) (w2 : AV) (l3 : Int) (l4 : Int) (l5 : Int) (l6 : Int) (M : Mem) (r : Res) : Prop := Ex sx0 d k_X_mended 1 35 [w0, w1, w2, (0, l3), (0, l4), (0, l5), (0, l6)] [] M r
theorem sg_X_mended {d : Nat} {p1 p2 p3 : Int} {M : Mem} {r : Res} (h : ∃ v2, Cl d m_C_has [(2, 1), (0, p1)] M (some (0, v2), M) ∧ (if v2 = 0 then r = (some (0, (-1)), M) else ∃ v5, Cl d m_X_isDrawer [(0, p2)] M (some (0, v5), M) ∧ (if v5 = 0 then r = (some (0, (-1)), M) else (if p3 < 0 then r = (some (0, (-1)), M) else (if p3 ≤ 1 then (0 ≤ p1 ∧ p1 < 12) ∧ (0 ≤ p1 ∧ p1 < 12) ∧ at_X_mended_35 d (2, 0) (0, p1) (0, p2) p3 (iand (ixor p2 (M 28 p1)) (ixor (M 29 p1) (-1))) 0 0 M r else r = (some (0, (-1)), M)))))) : Cl (d + 1) m_X_mended [(2, 0), (0, p1), (0, p2), (0, p3)] M r := by
  refine cl_of (c := k_X_mended) (mL := 7) (rz := 1) (rc := 0) (ls := [(2, 0), (0, p1), (0, p2), (0, p3), (3, 0), (3, 0), (3, 0)]) rfl rfl rfl ?_
  refine x_al (pc' := 1) rfl rfl (by decide) rfl ?_
  refine x_gr (pc' := 2) (v := 1) rfl rfl rfl (by decide) rfl ?_
  refine x_il (pc' := 3) rfl rfl rfl ?_
  obtain ⟨v2, q1, h⟩ := h
  refine x_call (pc' := 4) (as := [(2, 1), (0, p1)]) (rest := []) rfl rfl rfl rfl rfl rfl q1 ?_
  refine x_ifeq (pc' := 5) (t' := 13) rfl rfl rfl (fun q3 => ?_) (fun q3 => ?_)
  · replace h := ite_t q3 h
    refine x_c (pc' := 14) rfl rfl ?_
    exact x_iret rfl h
  · replace h := ite_f q3 h
    refine x_il (pc' := 6) rfl rfl rfl ?_
    obtain ⟨v5, q4, h⟩ := h
    refine x_call (pc' := 7) (as := [(0, p2)]) (rest := []) rfl rfl rfl rfl rfl rfl q4 ?_
    refine x_ifeq (pc' := 8) (t' := 13) rfl rfl rfl (fun q6 => ?_) (fun q6 => ?_)
    · replace h := ite_t q6 h
      refine x_c (pc' := 14) rfl rfl ?_
      exact x_iret rfl h
    · replace h := ite_f q6 h
      refine x_il (pc' := 9) rfl rfl rfl ?_
      refine x_iflt (pc' := 10) (t' := 13) rfl rfl rfl (fun q7 => ?_) (fun q7 => ?_)
      · replace h := ite_t q7 h
        refine x_c (pc' := 14) rfl rfl ?_
        exact x_iret rfl h
      · replace h := ite_f q7 h
        refine x_il (pc' := 11) rfl rfl rfl ?_
        refine x_c (pc' := 12) rfl rfl ?_
        refine x_icle (pc' := 13) (t' := 15) rfl rfl rfl (fun q8 => ?_) (fun q8 => ?_)
        · replace h := ite_t q8 h
          refine x_il (pc' := 16) rfl rfl rfl ?_
          refine x_al (pc' := 17) rfl rfl (by decide) rfl ?_
          refine x_gr (pc' := 18) (v := 1) rfl rfl rfl (by decide) rfl ?_
          refine x_gr (pc' := 19) (v := 28) rfl rfl rfl (by decide) rfl ?_
          refine x_il (pc' := 20) rfl rfl rfl ?_
          obtain ⟨q9, h⟩ := h
          refine x_ia (pc' := 21) 12 (v := M 28 p1) rfl rfl rfl q9.1 q9.2 rfl ?_
          refine x_ib (pc' := 22) (v := ixor p2 (M 28 p1)) rfl rfl rfl ?_
          refine x_al (pc' := 23) rfl rfl (by decide) rfl ?_
          refine x_gr (pc' := 24) (v := 1) rfl rfl rfl (by decide) rfl ?_
          refine x_gr (pc' := 25) (v := 29) rfl rfl rfl (by decide) rfl ?_
          refine x_il (pc' := 26) rfl rfl rfl ?_
          obtain ⟨q10, h⟩ := h
          refine x_ia (pc' := 27) 12 (v := M 29 p1) rfl rfl rfl q10.1 q10.2 rfl ?_
          refine x_c (pc' := 28) rfl rfl ?_
          refine x_ib (pc' := 29) (v := ixor (M 29 p1) (-1)) rfl rfl rfl ?_
          refine x_ib (pc' := 30) (v := iand (ixor p2 (M 28 p1)) (ixor (M 29 p1) (-1))) rfl rfl rfl ?_
          refine x_is (pc' := 31) (ls' := [(2, 0), (0, p1), (0, p2), (0, p3), (0, iand (ixor p2 (M 28 p1)) (ixor (M 29 p1) (-1))), (3, 0), (3, 0)]) rfl rfl rfl rfl ?_
          refine x_c (pc' := 32) rfl rfl ?_
          refine x_is (pc' := 33) (ls' := [(2, 0), (0, p1), (0, p2), (0, p3), (0, iand (ixor p2 (M 28 p1)) (ixor (M 29 p1) (-1))), (0, 0), (3, 0)]) rfl rfl rfl rfl ?_
          refine x_c (pc' := 34) rfl rfl ?_
          refine x_is (pc' := 35) (ls' := [(2, 0), (0, p1), (0, p2), (0, p3), (0, iand (ixor p2 (M 28 p1)) (ixor (M 29 p1) (-1))), (0, 0), (0, 0)]) rfl rfl rfl rfl ?_
          exact h
        · replace h := ite_f q8 h
          refine x_c (pc' := 14) rfl rfl ?_
          exact x_iret rfl h
theorem sg_X_mended_35 {d : Nat} {w0 : AV} {w1 : AV} {w2 : AV} {l3 : Int} {l4 : Int} {l5 : Int} {l6 : Int} {M : Mem} {r : Res} (h : (if 10 ≤ l6 then (if ¬ l3 = 0 then r = (some (0, l5), M) else ∃ v4, Cl d m_J_bitCount [(0, l5)] M (some (0, v4), M) ∧ r = (some (0, v4), M)) else ∃ v6, Cl d m_X_drawerBit [(0, l6)] M (some (0, v6), M) ∧ (if iand l4 v6 = 0 then at_X_mended_35 d w0 w1 w2 l3 l4 l5 (w32 (l6 + 1)) M r else at_X_mended_35 d w0 w1 w2 l3 l4 (ior l5 (ishl 1 l6)) (w32 (l6 + 1)) M r))) : at_X_mended_35 d w0 w1 w2 l3 l4 l5 l6 M r := by
  unfold at_X_mended_35
  refine x_il (pc' := 36) rfl rfl rfl ?_
  refine x_c (pc' := 37) rfl rfl ?_
  refine x_icge (pc' := 38) (t' := 51) rfl rfl rfl (fun q1 => ?_) (fun q1 => ?_)
  · replace h := ite_t q1 h
    refine x_il (pc' := 52) rfl rfl rfl ?_
    refine x_ifne (pc' := 53) (t' := 56) rfl rfl rfl (fun q2 => ?_) (fun q2 => ?_)
    · replace h := ite_t q2 h
      refine x_il (pc' := 57) rfl rfl rfl ?_
      exact x_iret rfl h
    · replace h := ite_f q2 h
      refine x_il (pc' := 54) rfl rfl rfl ?_
      obtain ⟨v4, q3, h⟩ := h
      refine x_call (pc' := 55) (as := [(0, l5)]) (rest := []) rfl rfl rfl rfl rfl rfl q3 ?_
      refine x_goto (t' := 57) rfl rfl ?_
      exact x_iret rfl h
  · replace h := ite_f q1 h
    refine x_il (pc' := 39) rfl rfl rfl ?_
    refine x_il (pc' := 40) rfl rfl rfl ?_
    obtain ⟨v6, q5, h⟩ := h
    refine x_call (pc' := 41) (as := [(0, l6)]) (rest := [(0, l4)]) rfl rfl rfl rfl rfl rfl q5 ?_
    refine x_ib (pc' := 42) (v := iand l4 v6) rfl rfl rfl ?_
    refine x_ifeq (pc' := 43) (t' := 49) rfl rfl rfl (fun q7 => ?_) (fun q7 => ?_)
    · replace h := ite_t q7 h
      refine x_inc (pc' := 50) (ls' := [w0, w1, w2, (0, l3), (0, l4), (0, l5), (0, w32 (l6 + 1))]) rfl rfl rfl rfl ?_
      refine x_goto (t' := 35) rfl rfl ?_
      exact h
    · replace h := ite_f q7 h
      refine x_il (pc' := 44) rfl rfl rfl ?_
      refine x_c (pc' := 45) rfl rfl ?_
      refine x_il (pc' := 46) rfl rfl rfl ?_
      refine x_ib (pc' := 47) (v := ishl 1 l6) rfl rfl rfl ?_
      refine x_ib (pc' := 48) (v := ior l5 (ishl 1 l6)) rfl rfl rfl ?_
      refine x_is (pc' := 49) (ls' := [w0, w1, w2, (0, l3), (0, l4), (0, ior l5 (ishl 1 l6)), (0, l6)]) rfl rfl rfl rfl ?_
      refine x_inc (pc' := 50) (ls' := [w0, w1, w2, (0, l3), (0, l4), (0, ior l5 (ishl 1 l6)), (0, w32 (l6 + 1))]) rfl rfl rfl rfl ?_
      refine x_goto (t' := 35) rfl rfl ?_
      exact h
theorem sg_X_drawerBit {d : Nat} {p1 : Int} {M : Mem} {r : Res} (h : (if ¬ w32 (Int.tmod p1 2) = 0 then r = (some (0, ishr 16 (w32 (Int.tdiv p1 2))), M) else r = (some (0, w32 (32 * (ishr 16 (w32 (Int.tdiv p1 2))))), M))) : Cl (d + 1) m_X_drawerBit [(0, p1)] M r := by
  refine cl_of (c := k_X_drawerBit) (mL := 2) (rz := 1) (rc := 99) (ls := [(0, p1), (3, 0)]) rfl rfl rfl ?_
  refine x_c (pc' := 1) rfl rfl ?_
  refine x_il (pc' := 2) rfl rfl rfl ?_
  refine x_c (pc' := 3) rfl rfl ?_
  refine x_ib (pc' := 4) (v := w32 (Int.tdiv p1 2)) rfl rfl rfl ?_
  refine x_ib (pc' := 5) (v := ishr 16 (w32 (Int.tdiv p1 2))) rfl rfl rfl ?_
  refine x_is (pc' := 6) (ls' := [(0, p1), (0, ishr 16 (w32 (Int.tdiv p1 2)))]) rfl rfl rfl rfl ?_
  refine x_il (pc' := 7) rfl rfl rfl ?_
  refine x_c (pc' := 8) rfl rfl ?_
  refine x_ib (pc' := 9) (v := w32 (Int.tmod p1 2)) rfl rfl rfl ?_
  refine x_ifne (pc' := 10) (t' := 14) rfl rfl rfl (fun q1 => ?_) (fun q1 => ?_)
  · replace h := ite_t q1 h
    refine x_il (pc' := 15) rfl rfl rfl ?_
    exact x_iret rfl h
  · replace h := ite_f q1 h
    refine x_c (pc' := 11) rfl rfl ?_
    refine x_il (pc' := 12) rfl rfl rfl ?_
    refine x_ib (pc' := 13) (v := w32 (32 * (ishr 16 (w32 (Int.tdiv p1 2))))) rfl rfl rfl ?_
    refine x_goto (t' := 15) rfl rfl ?_
    exact x_iret rfl h
theorem sg_X_judge {d : Nat} {p1 : Int} {M : Mem} {r : Res} (h : ∃ v2, Cl d m_S_rowRefusal [(2, 49), (0, p1), (0, 1)] M (some (0, v2), M) ∧ (if v2 = 0 then ∃ v5, Cl d m_X_firstWrong [(2, 0), (0, p1), (0, 0)] M (some (0, v5), M) ∧ r = (some (0, v5), M) else r = (some (0, v2), M))) : Cl (d + 1) m_X_judge [(2, 0), (0, p1)] M r := by
  refine cl_of (c := k_X_judge) (mL := 3) (rz := 1) (rc := 0) (ls := [(2, 0), (0, p1), (3, 0)]) rfl rfl rfl ?_
  refine x_al (pc' := 1) rfl rfl (by decide) rfl ?_
  refine x_gr (pc' := 2) (v := 49) rfl rfl rfl (by decide) rfl ?_
  refine x_il (pc' := 3) rfl rfl rfl ?_
  refine x_c (pc' := 4) rfl rfl ?_
  obtain ⟨v2, q1, h⟩ := h
  refine x_call (pc' := 5) (as := [(2, 49), (0, p1), (0, 1)]) (rest := []) rfl rfl rfl rfl rfl rfl q1 ?_
  refine x_is (pc' := 6) (ls' := [(2, 0), (0, p1), (0, v2)]) rfl rfl rfl rfl ?_
  refine x_il (pc' := 7) rfl rfl rfl ?_
  refine x_ifeq (pc' := 8) (t' := 10) rfl rfl rfl (fun q3 => ?_) (fun q3 => ?_)
  · replace h := ite_t q3 h
    refine x_al (pc' := 11) rfl rfl (by decide) rfl ?_
    refine x_il (pc' := 12) rfl rfl rfl ?_
    refine x_c (pc' := 13) rfl rfl ?_
    obtain ⟨v5, q4, h⟩ := h
    refine x_call (pc' := 14) (as := [(2, 0), (0, p1), (0, 0)]) (rest := []) rfl rfl rfl rfl rfl rfl q4 ?_
    exact x_iret rfl h
  · replace h := ite_f q3 h
    refine x_il (pc' := 9) rfl rfl rfl ?_
    refine x_goto (t' := 14) rfl rfl ?_
    exact x_iret rfl h
def at_X_firstWrong_11 (d : Nat) (l1 : Int) (l2 : Int) (l3 : Int) (l4 : Int) (M : Mem) (r : Res) : Prop := Ex sx0 d k_X_firstWrong 1 11 [(2, 0), (0, l1), (0, l2), (0, l3), (0, l4)] [] M r
theorem sg_X_firstWrong {d : Nat} {p1 p2 : Int} {M : Mem} {r : Res} (h : ∃ v2, Cl d m_S_lengthOf [(2, 49), (0, p1)] M (some (0, v2), M) ∧ at_X_firstWrong_11 d p1 p2 (w32 (Int.tdiv (w32 (v2 + 1)) 2)) 0 M r) : Cl (d + 1) m_X_firstWrong [(2, 0), (0, p1), (0, p2)] M r := by
  refine cl_of (c := k_X_firstWrong) (mL := 5) (rz := 1) (rc := 0) (ls := [(2, 0), (0, p1), (0, p2), (3, 0), (3, 0)]) rfl rfl rfl ?_
  refine x_al (pc' := 1) rfl rfl (by decide) rfl ?_
  refine x_gr (pc' := 2) (v := 49) rfl rfl rfl (by decide) rfl ?_
  refine x_il (pc' := 3) rfl rfl rfl ?_
  obtain ⟨v2, q1, h⟩ := h
  refine x_call (pc' := 4) (as := [(2, 49), (0, p1)]) (rest := []) rfl rfl rfl rfl rfl rfl q1 ?_
  refine x_c (pc' := 5) rfl rfl ?_
  refine x_ib (pc' := 6) (v := w32 (v2 + 1)) rfl rfl rfl ?_
  refine x_c (pc' := 7) rfl rfl ?_
  refine x_ib (pc' := 8) (v := w32 (Int.tdiv (w32 (v2 + 1)) 2)) rfl rfl rfl ?_
  refine x_is (pc' := 9) (ls' := [(2, 0), (0, p1), (0, p2), (0, w32 (Int.tdiv (w32 (v2 + 1)) 2)), (3, 0)]) rfl rfl rfl rfl ?_
  refine x_c (pc' := 10) rfl rfl ?_
  refine x_is (pc' := 11) (ls' := [(2, 0), (0, p1), (0, p2), (0, w32 (Int.tdiv (w32 (v2 + 1)) 2)), (0, 0)]) rfl rfl rfl rfl ?_
  exact h
theorem sg_X_firstWrong_11 {d : Nat} {l1 : Int} {l2 : Int} {l3 : Int} {l4 : Int} {M : Mem} {r : Res} (h : (if l3 ≤ l4 then r = (some (0, (-2)), M) else ∃ v3, Cl d m_X_isSo [(2, 0), (0, l1), (0, l4), (0, l2)] M (some (0, v3), M) ∧ (if ¬ v3 = 0 then at_X_firstWrong_11 d l1 l2 l3 (w32 (l4 + 1)) M r else r = (some (0, l4), M)))) : at_X_firstWrong_11 d l1 l2 l3 l4 M r := by
  unfold at_X_firstWrong_11
  refine x_il (pc' := 12) rfl rfl rfl ?_
  refine x_il (pc' := 13) rfl rfl rfl ?_
  refine x_icge (pc' := 14) (t' := 24) rfl rfl rfl (fun q1 => ?_) (fun q1 => ?_)
  · replace h := ite_t q1 h
    refine x_c (pc' := 25) rfl rfl ?_
    exact x_iret rfl h
  · replace h := ite_f q1 h
    refine x_al (pc' := 15) rfl rfl (by decide) rfl ?_
    refine x_il (pc' := 16) rfl rfl rfl ?_
    refine x_il (pc' := 17) rfl rfl rfl ?_
    refine x_il (pc' := 18) rfl rfl rfl ?_
    obtain ⟨v3, q2, h⟩ := h
    refine x_call (pc' := 19) (as := [(2, 0), (0, l1), (0, l4), (0, l2)]) (rest := []) rfl rfl rfl rfl rfl rfl q2 ?_
    refine x_ifne (pc' := 20) (t' := 22) rfl rfl rfl (fun q4 => ?_) (fun q4 => ?_)
    · replace h := ite_t q4 h
      refine x_inc (pc' := 23) (ls' := [(2, 0), (0, l1), (0, l2), (0, l3), (0, w32 (l4 + 1))]) rfl rfl rfl rfl ?_
      refine x_goto (t' := 11) rfl rfl ?_
      exact h
    · replace h := ite_f q4 h
      refine x_il (pc' := 21) rfl rfl rfl ?_
      exact x_iret rfl h
theorem sg_X_isSo {d : Nat} {p1 p2 p3 : Int} {M : Mem} {r : Res} (h : ∃ v2, Cl d m_S_lengthOf [(2, 49), (0, p1)] M (some (0, v2), M) ∧ (if w32 ((w32 (2 * p2)) + 1) < v2 then ∃ v5, Cl d m_S_valueAt [(2, 49), (0, p1), (0, w32 (2 * p2))] M (some (1, v5), M) ∧ ∃ v7, Cl d m_S_valueAt [(2, 49), (0, p1), (0, w32 ((w32 (2 * p2)) + 1))] M (some (1, v7), M) ∧ ∃ v9, Cl d m_C_has [(2, 1), (0, w32 v5)] M (some (0, v9), M) ∧ (if v9 = 0 then r = (some (0, 0), M) else ∃ v12, Cl d m_X_isDrawer [(0, w32 v7)] M (some (0, v12), M) ∧ (if v12 = 0 then r = (some (0, 0), M) else ∃ v15, Cl d m_C_mayLie [(2, 1), (0, w32 v5), (0, ixor (w32 v7) p3)] M (some (0, v15), M) ∧ (if v15 = 0 then r = (some (0, 0), M) else r = (some (0, 1), M)))) else r = (some (0, 0), M))) : Cl (d + 1) m_X_isSo [(2, 0), (0, p1), (0, p2), (0, p3)] M r := by
  refine cl_of (c := k_X_isSo) (mL := 6) (rz := 3) (rc := 0) (ls := [(2, 0), (0, p1), (0, p2), (0, p3), (3, 0), (3, 0)]) rfl rfl rfl ?_
  refine x_c (pc' := 1) rfl rfl ?_
  refine x_il (pc' := 2) rfl rfl rfl ?_
  refine x_ib (pc' := 3) (v := w32 (2 * p2)) rfl rfl rfl ?_
  refine x_c (pc' := 4) rfl rfl ?_
  refine x_ib (pc' := 5) (v := w32 ((w32 (2 * p2)) + 1)) rfl rfl rfl ?_
  refine x_al (pc' := 6) rfl rfl (by decide) rfl ?_
  refine x_gr (pc' := 7) (v := 49) rfl rfl rfl (by decide) rfl ?_
  refine x_il (pc' := 8) rfl rfl rfl ?_
  obtain ⟨v2, q1, h⟩ := h
  refine x_call (pc' := 9) (as := [(2, 49), (0, p1)]) (rest := [(0, w32 ((w32 (2 * p2)) + 1))]) rfl rfl rfl rfl rfl rfl q1 ?_
  refine x_iclt (pc' := 10) (t' := 12) rfl rfl rfl (fun q3 => ?_) (fun q3 => ?_)
  · replace h := ite_t q3 h
    refine x_al (pc' := 13) rfl rfl (by decide) rfl ?_
    refine x_gr (pc' := 14) (v := 49) rfl rfl rfl (by decide) rfl ?_
    refine x_il (pc' := 15) rfl rfl rfl ?_
    refine x_c (pc' := 16) rfl rfl ?_
    refine x_il (pc' := 17) rfl rfl rfl ?_
    refine x_ib (pc' := 18) (v := w32 (2 * p2)) rfl rfl rfl ?_
    obtain ⟨v5, q4, h⟩ := h
    refine x_call (pc' := 19) (as := [(2, 49), (0, p1), (0, w32 (2 * p2))]) (rest := []) rfl rfl rfl rfl rfl rfl q4 ?_
    refine x_l2i (pc' := 20) rfl rfl ?_
    refine x_is (pc' := 21) (ls' := [(2, 0), (0, p1), (0, p2), (0, p3), (0, w32 v5), (3, 0)]) rfl rfl rfl rfl ?_
    refine x_al (pc' := 22) rfl rfl (by decide) rfl ?_
    refine x_gr (pc' := 23) (v := 49) rfl rfl rfl (by decide) rfl ?_
    refine x_il (pc' := 24) rfl rfl rfl ?_
    refine x_c (pc' := 25) rfl rfl ?_
    refine x_il (pc' := 26) rfl rfl rfl ?_
    refine x_ib (pc' := 27) (v := w32 (2 * p2)) rfl rfl rfl ?_
    refine x_c (pc' := 28) rfl rfl ?_
    refine x_ib (pc' := 29) (v := w32 ((w32 (2 * p2)) + 1)) rfl rfl rfl ?_
    obtain ⟨v7, q6, h⟩ := h
    refine x_call (pc' := 30) (as := [(2, 49), (0, p1), (0, w32 ((w32 (2 * p2)) + 1))]) (rest := []) rfl rfl rfl rfl rfl rfl q6 ?_
    refine x_l2i (pc' := 31) rfl rfl ?_
    refine x_is (pc' := 32) (ls' := [(2, 0), (0, p1), (0, p2), (0, p3), (0, w32 v5), (0, w32 v7)]) rfl rfl rfl rfl ?_
    refine x_al (pc' := 33) rfl rfl (by decide) rfl ?_
    refine x_gr (pc' := 34) (v := 1) rfl rfl rfl (by decide) rfl ?_
    refine x_il (pc' := 35) rfl rfl rfl ?_
    obtain ⟨v9, q8, h⟩ := h
    refine x_call (pc' := 36) (as := [(2, 1), (0, w32 v5)]) (rest := []) rfl rfl rfl rfl rfl rfl q8 ?_
    refine x_ifeq (pc' := 37) (t' := 50) rfl rfl rfl (fun q10 => ?_) (fun q10 => ?_)
    · replace h := ite_t q10 h
      refine x_c (pc' := 51) rfl rfl ?_
      exact x_zret rfl (by decide) h
    · replace h := ite_f q10 h
      refine x_il (pc' := 38) rfl rfl rfl ?_
      obtain ⟨v12, q11, h⟩ := h
      refine x_call (pc' := 39) (as := [(0, w32 v7)]) (rest := []) rfl rfl rfl rfl rfl rfl q11 ?_
      refine x_ifeq (pc' := 40) (t' := 50) rfl rfl rfl (fun q13 => ?_) (fun q13 => ?_)
      · replace h := ite_t q13 h
        refine x_c (pc' := 51) rfl rfl ?_
        exact x_zret rfl (by decide) h
      · replace h := ite_f q13 h
        refine x_al (pc' := 41) rfl rfl (by decide) rfl ?_
        refine x_gr (pc' := 42) (v := 1) rfl rfl rfl (by decide) rfl ?_
        refine x_il (pc' := 43) rfl rfl rfl ?_
        refine x_il (pc' := 44) rfl rfl rfl ?_
        refine x_il (pc' := 45) rfl rfl rfl ?_
        refine x_ib (pc' := 46) (v := ixor (w32 v7) p3) rfl rfl rfl ?_
        obtain ⟨v15, q14, h⟩ := h
        refine x_call (pc' := 47) (as := [(2, 1), (0, w32 v5), (0, ixor (w32 v7) p3)]) (rest := []) rfl rfl rfl rfl rfl rfl q14 ?_
        refine x_ifeq (pc' := 48) (t' := 50) rfl rfl rfl (fun q16 => ?_) (fun q16 => ?_)
        · replace h := ite_t q16 h
          refine x_c (pc' := 51) rfl rfl ?_
          exact x_zret rfl (by decide) h
        · replace h := ite_f q16 h
          refine x_c (pc' := 49) rfl rfl ?_
          refine x_goto (t' := 51) rfl rfl ?_
          exact x_zret rfl (by decide) h
  · replace h := ite_f q3 h
    refine x_c (pc' := 11) rfl rfl ?_
    exact x_zret rfl (by decide) h
def at_X_clerk_20 (d : Nat) (l1 : Int) (w2 : AV) (l3 : Int) (M : Mem) (r : Res) : Prop := Ex sx0 d k_X_clerk 1 20 [(2, 0), (0, l1), w2, (0, l3)] [] M r
theorem sg_X_clerk {d : Nat} {p1 : Int} {M : Mem} {r : Res} (h : ∃ v2, Cl d m_S_rowRefusal [(2, 49), (0, p1), (0, 1)] M (some (0, v2), M) ∧ (if v2 = 0 then ∃ v5, Cl d m_X_firstWrong [(2, 0), (0, p1), (0, 0)] M (some (0, v5), M) ∧ (if ¬ v5 = (-2) then at_X_clerk_20 d p1 (0, v2) 0 M r else r = (some (0, (-3)), M)) else r = (some (0, v2), M))) : Cl (d + 1) m_X_clerk [(2, 0), (0, p1)] M r := by
  refine cl_of (c := k_X_clerk) (mL := 4) (rz := 1) (rc := 0) (ls := [(2, 0), (0, p1), (3, 0), (3, 0)]) rfl rfl rfl ?_
  refine x_al (pc' := 1) rfl rfl (by decide) rfl ?_
  refine x_gr (pc' := 2) (v := 49) rfl rfl rfl (by decide) rfl ?_
  refine x_il (pc' := 3) rfl rfl rfl ?_
  refine x_c (pc' := 4) rfl rfl ?_
  obtain ⟨v2, q1, h⟩ := h
  refine x_call (pc' := 5) (as := [(2, 49), (0, p1), (0, 1)]) (rest := []) rfl rfl rfl rfl rfl rfl q1 ?_
  refine x_is (pc' := 6) (ls' := [(2, 0), (0, p1), (0, v2), (3, 0)]) rfl rfl rfl rfl ?_
  refine x_il (pc' := 7) rfl rfl rfl ?_
  refine x_ifeq (pc' := 8) (t' := 10) rfl rfl rfl (fun q3 => ?_) (fun q3 => ?_)
  · replace h := ite_t q3 h
    refine x_al (pc' := 11) rfl rfl (by decide) rfl ?_
    refine x_il (pc' := 12) rfl rfl rfl ?_
    refine x_c (pc' := 13) rfl rfl ?_
    obtain ⟨v5, q4, h⟩ := h
    refine x_call (pc' := 14) (as := [(2, 0), (0, p1), (0, 0)]) (rest := []) rfl rfl rfl rfl rfl rfl q4 ?_
    refine x_c (pc' := 15) rfl rfl ?_
    refine x_icne (pc' := 16) (t' := 18) rfl rfl rfl (fun q6 => ?_) (fun q6 => ?_)
    · replace h := ite_t q6 h
      refine x_c (pc' := 19) rfl rfl ?_
      refine x_is (pc' := 20) (ls' := [(2, 0), (0, p1), (0, v2), (0, 0)]) rfl rfl rfl rfl ?_
      exact h
    · replace h := ite_f q6 h
      refine x_c (pc' := 17) rfl rfl ?_
      exact x_iret rfl h
  · replace h := ite_f q3 h
    refine x_il (pc' := 9) rfl rfl rfl ?_
    exact x_iret rfl h
theorem sg_X_clerk_20 {d : Nat} {l1 : Int} {w2 : AV} {l3 : Int} {M : Mem} {r : Res} (hw2 : ¬ w2.1 = 1) (h : (if 10 ≤ l3 then r = (some (0, (-2)), M) else ∃ v3, Cl d m_X_drawerBit [(0, l3)] M (some (0, v3), M) ∧ ∃ v5, Cl d m_X_firstWrong [(2, 0), (0, l1), (0, v3)] M (some (0, v5), M) ∧ (if ¬ v5 = (-2) then at_X_clerk_20 d l1 w2 (w32 (l3 + 1)) M r else r = (some (0, l3), M)))) : at_X_clerk_20 d l1 w2 l3 M r := by
  unfold at_X_clerk_20
  refine x_il (pc' := 21) rfl rfl rfl ?_
  refine x_c (pc' := 22) rfl rfl ?_
  refine x_icge (pc' := 23) (t' := 34) rfl rfl rfl (fun q1 => ?_) (fun q1 => ?_)
  · replace h := ite_t q1 h
    refine x_c (pc' := 35) rfl rfl ?_
    exact x_iret rfl h
  · replace h := ite_f q1 h
    refine x_al (pc' := 24) rfl rfl (by decide) rfl ?_
    refine x_il (pc' := 25) rfl rfl rfl ?_
    refine x_il (pc' := 26) rfl rfl rfl ?_
    obtain ⟨v3, q2, h⟩ := h
    refine x_call (pc' := 27) (as := [(0, l3)]) (rest := [(0, l1), (2, 0)]) rfl rfl rfl rfl rfl rfl q2 ?_
    obtain ⟨v5, q4, h⟩ := h
    refine x_call (pc' := 28) (as := [(2, 0), (0, l1), (0, v3)]) (rest := []) rfl rfl rfl rfl rfl rfl q4 ?_
    refine x_c (pc' := 29) rfl rfl ?_
    refine x_icne (pc' := 30) (t' := 32) rfl rfl rfl (fun q6 => ?_) (fun q6 => ?_)
    · replace h := ite_t q6 h
      refine x_inc (pc' := 33) (ls' := [(2, 0), (0, l1), w2, (0, w32 (l3 + 1))]) rfl rfl (setL_nw (i := 2) rfl hw2) rfl ?_
      refine x_goto (t' := 20) rfl rfl ?_
      exact h
    · replace h := ite_f q6 h
      refine x_il (pc' := 31) rfl rfl rfl ?_
      exact x_iret rfl h
def at_X_drawn_25 (d : Nat) (w1 : AV) (l2 : Int) (l3 : Int) (l4 : Int) (l5 : Int) (l6 : Int) (w7 : AV) (w8 : AV) (M : Mem) (r : Res) : Prop := Ex sx0 d k_X_drawn 1 25 [(2, 0), w1, (0, l2), (0, l3), (0, l4), (0, l5), (0, l6), w7, w8] [] M r
theorem sg_X_drawn {d : Nat} {p1 p2 p3 : Int} {M : Mem} {r : Res} (h : (if p2 < 1 then r = (some (0, (-1)), M) else (if 50 < p2 then r = (some (0, (-1)), M) else (if p3 < 0 then r = (some (0, (-1)), M) else (if p3 ≤ 1 then (if 0 < M 1 5 then at_X_drawn_25 d (0, p1) p2 p3 p1 0 0 (3, 0) (3, 0) M r else r = (some (0, (-5)), M)) else r = (some (0, (-1)), M)))))) : Cl (d + 1) m_X_drawn [(2, 0), (0, p1), (0, p2), (0, p3)] M r := by
  refine cl_of (c := k_X_drawn) (mL := 9) (rz := 1) (rc := 0) (ls := [(2, 0), (0, p1), (0, p2), (0, p3), (3, 0), (3, 0), (3, 0), (3, 0), (3, 0)]) rfl rfl rfl ?_
  refine x_il (pc' := 1) rfl rfl rfl ?_
  refine x_c (pc' := 2) rfl rfl ?_
  refine x_iclt (pc' := 3) (t' := 11) rfl rfl rfl (fun q1 => ?_) (fun q1 => ?_)
  · replace h := ite_t q1 h
    refine x_c (pc' := 12) rfl rfl ?_
    exact x_iret rfl h
  · replace h := ite_f q1 h
    refine x_il (pc' := 4) rfl rfl rfl ?_
    refine x_c (pc' := 5) rfl rfl ?_
    refine x_icgt (pc' := 6) (t' := 11) rfl rfl rfl (fun q2 => ?_) (fun q2 => ?_)
    · replace h := ite_t q2 h
      refine x_c (pc' := 12) rfl rfl ?_
      exact x_iret rfl h
    · replace h := ite_f q2 h
      refine x_il (pc' := 7) rfl rfl rfl ?_
      refine x_iflt (pc' := 8) (t' := 11) rfl rfl rfl (fun q3 => ?_) (fun q3 => ?_)
      · replace h := ite_t q3 h
        refine x_c (pc' := 12) rfl rfl ?_
        exact x_iret rfl h
      · replace h := ite_f q3 h
        refine x_il (pc' := 9) rfl rfl rfl ?_
        refine x_c (pc' := 10) rfl rfl ?_
        refine x_icle (pc' := 11) (t' := 13) rfl rfl rfl (fun q4 => ?_) (fun q4 => ?_)
        · replace h := ite_t q4 h
          refine x_al (pc' := 14) rfl rfl (by decide) rfl ?_
          refine x_gr (pc' := 15) (v := 1) rfl rfl rfl (by decide) rfl ?_
          refine x_gf (pc' := 16) (v := M 1 5) rfl rfl rfl rfl rfl ?_
          refine x_ifgt (pc' := 17) (t' := 19) rfl rfl rfl (fun q5 => ?_) (fun q5 => ?_)
          · replace h := ite_t q5 h
            refine x_il (pc' := 20) rfl rfl rfl ?_
            refine x_is (pc' := 21) (ls' := [(2, 0), (0, p1), (0, p2), (0, p3), (0, p1), (3, 0), (3, 0), (3, 0), (3, 0)]) rfl rfl rfl rfl ?_
            refine x_c (pc' := 22) rfl rfl ?_
            refine x_is (pc' := 23) (ls' := [(2, 0), (0, p1), (0, p2), (0, p3), (0, p1), (0, 0), (3, 0), (3, 0), (3, 0)]) rfl rfl rfl rfl ?_
            refine x_c (pc' := 24) rfl rfl ?_
            refine x_is (pc' := 25) (ls' := [(2, 0), (0, p1), (0, p2), (0, p3), (0, p1), (0, 0), (0, 0), (3, 0), (3, 0)]) rfl rfl rfl rfl ?_
            exact h
          · replace h := ite_f q5 h
            refine x_c (pc' := 18) rfl rfl ?_
            exact x_iret rfl h
        · replace h := ite_f q4 h
          refine x_c (pc' := 12) rfl rfl ?_
          exact x_iret rfl h
theorem sg_X_drawn_25 {d : Nat} {w1 : AV} {l2 : Int} {l3 : Int} {l4 : Int} {l5 : Int} {l6 : Int} {w7 : AV} {w8 : AV} {M : Mem} {r : Res} (h : (if l2 ≤ l6 then r = (some (0, l5), M) else (¬ M 1 5 = 0) ∧ ∃ v4, Cl d m_X_glassOf [(2, 0), (0, w32 (Int.tmod (iushr (w32 ((w32 (l4 * 1103515245)) + 12345)) 8) (M 1 5))), (0, w32 (Int.tmod (iushr (w32 ((w32 (l4 * 1103515245)) + 12345)) 16) 10))] M (some (0, v4), M) ∧ (if ¬ l3 = 0 then ∃ v7, Cl d m_X_glassCards [(2, 0), (0, v4)] M (some (0, v7), M) ∧ ∃ v9, Cl d m_J_bitCount [(0, v7)] M (some (0, v9), M) ∧ at_X_drawn_25 d w1 l2 l3 (w32 ((w32 (l4 * 1103515245)) + 12345)) (w32 (l5 + v9)) (w32 (l6 + 1)) (0, w32 (Int.tmod (iushr (w32 ((w32 (l4 * 1103515245)) + 12345)) 8) (M 1 5))) (0, v4) M r else ∃ v11 M12, Cl d m_X_isBest [(2, 0), (0, v4), (0, w32 (Int.tmod (iushr (w32 ((w32 (l4 * 1103515245)) + 12345)) 8) (M 1 5)))] M (some (0, v11), M12) ∧ ∃ v14, Cl d m_X_truth [(0, v11)] M12 (some (0, v14), M12) ∧ at_X_drawn_25 d w1 l2 l3 (w32 ((w32 (l4 * 1103515245)) + 12345)) (w32 (l5 + v14)) (w32 (l6 + 1)) (0, w32 (Int.tmod (iushr (w32 ((w32 (l4 * 1103515245)) + 12345)) 8) (M 1 5))) (0, v4) M12 r))) : at_X_drawn_25 d w1 l2 l3 l4 l5 l6 w7 w8 M r := by
  unfold at_X_drawn_25
  refine x_il (pc' := 26) rfl rfl rfl ?_
  refine x_il (pc' := 27) rfl rfl rfl ?_
  refine x_icge (pc' := 28) (t' := 68) rfl rfl rfl (fun q1 => ?_) (fun q1 => ?_)
  · replace h := ite_t q1 h
    refine x_il (pc' := 69) rfl rfl rfl ?_
    exact x_iret rfl h
  · replace h := ite_f q1 h
    refine x_il (pc' := 29) rfl rfl rfl ?_
    refine x_c (pc' := 30) rfl rfl ?_
    refine x_ib (pc' := 31) (v := w32 (l4 * 1103515245)) rfl rfl rfl ?_
    refine x_c (pc' := 32) rfl rfl ?_
    refine x_ib (pc' := 33) (v := w32 ((w32 (l4 * 1103515245)) + 12345)) rfl rfl rfl ?_
    refine x_is (pc' := 34) (ls' := [(2, 0), w1, (0, l2), (0, l3), (0, w32 ((w32 (l4 * 1103515245)) + 12345)), (0, l5), (0, l6), w7, w8]) rfl rfl rfl rfl ?_
    refine x_il (pc' := 35) rfl rfl rfl ?_
    refine x_c (pc' := 36) rfl rfl ?_
    refine x_ib (pc' := 37) (v := iushr (w32 ((w32 (l4 * 1103515245)) + 12345)) 8) rfl rfl rfl ?_
    refine x_al (pc' := 38) rfl rfl (by decide) rfl ?_
    refine x_gr (pc' := 39) (v := 1) rfl rfl rfl (by decide) rfl ?_
    refine x_gf (pc' := 40) (v := M 1 5) rfl rfl rfl rfl rfl ?_
    obtain ⟨q2, h⟩ := h
    refine x_ib (pc' := 41) (v := w32 (Int.tmod (iushr (w32 ((w32 (l4 * 1103515245)) + 12345)) 8) (M 1 5))) rfl (show ibin 4 (iushr (w32 ((w32 (l4 * 1103515245)) + 12345)) 8) (M 1 5) = some (w32 (Int.tmod (iushr (w32 ((w32 (l4 * 1103515245)) + 12345)) 8) (M 1 5))) from if_neg q2) rfl ?_
    refine x_is (pc' := 42) (ls' := [(2, 0), w1, (0, l2), (0, l3), (0, w32 ((w32 (l4 * 1103515245)) + 12345)), (0, l5), (0, l6), (0, w32 (Int.tmod (iushr (w32 ((w32 (l4 * 1103515245)) + 12345)) 8) (M 1 5))), w8]) rfl rfl rfl rfl ?_
    refine x_al (pc' := 43) rfl rfl (by decide) rfl ?_
    refine x_il (pc' := 44) rfl rfl rfl ?_
    refine x_il (pc' := 45) rfl rfl rfl ?_
    refine x_c (pc' := 46) rfl rfl ?_
    refine x_ib (pc' := 47) (v := iushr (w32 ((w32 (l4 * 1103515245)) + 12345)) 16) rfl rfl rfl ?_
    refine x_c (pc' := 48) rfl rfl ?_
    refine x_ib (pc' := 49) (v := w32 (Int.tmod (iushr (w32 ((w32 (l4 * 1103515245)) + 12345)) 16) 10)) rfl rfl rfl ?_
    obtain ⟨v4, q3, h⟩ := h
    refine x_call (pc' := 50) (as := [(2, 0), (0, w32 (Int.tmod (iushr (w32 ((w32 (l4 * 1103515245)) + 12345)) 8) (M 1 5))), (0, w32 (Int.tmod (iushr (w32 ((w32 (l4 * 1103515245)) + 12345)) 16) 10))]) (rest := []) rfl rfl rfl rfl rfl rfl q3 ?_
    refine x_is (pc' := 51) (ls' := [(2, 0), w1, (0, l2), (0, l3), (0, w32 ((w32 (l4 * 1103515245)) + 12345)), (0, l5), (0, l6), (0, w32 (Int.tmod (iushr (w32 ((w32 (l4 * 1103515245)) + 12345)) 8) (M 1 5))), (0, v4)]) rfl rfl rfl rfl ?_
    refine x_il (pc' := 52) rfl rfl rfl ?_
    refine x_il (pc' := 53) rfl rfl rfl ?_
    refine x_ifne (pc' := 54) (t' := 60) rfl rfl rfl (fun q5 => ?_) (fun q5 => ?_)
    · replace h := ite_t q5 h
      refine x_al (pc' := 61) rfl rfl (by decide) rfl ?_
      refine x_il (pc' := 62) rfl rfl rfl ?_
      obtain ⟨v7, q6, h⟩ := h
      refine x_call (pc' := 63) (as := [(2, 0), (0, v4)]) (rest := [(0, l5)]) rfl rfl rfl rfl rfl rfl q6 ?_
      obtain ⟨v9, q8, h⟩ := h
      refine x_call (pc' := 64) (as := [(0, v7)]) (rest := [(0, l5)]) rfl rfl rfl rfl rfl rfl q8 ?_
      refine x_ib (pc' := 65) (v := w32 (l5 + v9)) rfl rfl rfl ?_
      refine x_is (pc' := 66) (ls' := [(2, 0), w1, (0, l2), (0, l3), (0, w32 ((w32 (l4 * 1103515245)) + 12345)), (0, w32 (l5 + v9)), (0, l6), (0, w32 (Int.tmod (iushr (w32 ((w32 (l4 * 1103515245)) + 12345)) 8) (M 1 5))), (0, v4)]) rfl rfl rfl rfl ?_
      refine x_inc (pc' := 67) (ls' := [(2, 0), w1, (0, l2), (0, l3), (0, w32 ((w32 (l4 * 1103515245)) + 12345)), (0, w32 (l5 + v9)), (0, w32 (l6 + 1)), (0, w32 (Int.tmod (iushr (w32 ((w32 (l4 * 1103515245)) + 12345)) 8) (M 1 5))), (0, v4)]) rfl rfl rfl rfl ?_
      refine x_goto (t' := 25) rfl rfl ?_
      exact h
    · replace h := ite_f q5 h
      refine x_al (pc' := 55) rfl rfl (by decide) rfl ?_
      refine x_il (pc' := 56) rfl rfl rfl ?_
      refine x_il (pc' := 57) rfl rfl rfl ?_
      obtain ⟨v11, M12, q10, h⟩ := h
      refine x_call (pc' := 58) (as := [(2, 0), (0, v4), (0, w32 (Int.tmod (iushr (w32 ((w32 (l4 * 1103515245)) + 12345)) 8) (M 1 5)))]) (rest := [(0, l5)]) rfl rfl rfl rfl rfl rfl q10 ?_
      obtain ⟨v14, q13, h⟩ := h
      refine x_call (pc' := 59) (as := [(0, v11)]) (rest := [(0, l5)]) rfl rfl rfl rfl rfl rfl q13 ?_
      refine x_goto (t' := 64) rfl rfl ?_
      refine x_ib (pc' := 65) (v := w32 (l5 + v14)) rfl rfl rfl ?_
      refine x_is (pc' := 66) (ls' := [(2, 0), w1, (0, l2), (0, l3), (0, w32 ((w32 (l4 * 1103515245)) + 12345)), (0, w32 (l5 + v14)), (0, l6), (0, w32 (Int.tmod (iushr (w32 ((w32 (l4 * 1103515245)) + 12345)) 8) (M 1 5))), (0, v4)]) rfl rfl rfl rfl ?_
      refine x_inc (pc' := 67) (ls' := [(2, 0), w1, (0, l2), (0, l3), (0, w32 ((w32 (l4 * 1103515245)) + 12345)), (0, w32 (l5 + v14)), (0, w32 (l6 + 1)), (0, w32 (Int.tmod (iushr (w32 ((w32 (l4 * 1103515245)) + 12345)) 8) (M 1 5))), (0, v4)]) rfl rfl rfl rfl ?_
      refine x_goto (t' := 25) rfl rfl ?_
      exact h
theorem sg_X_glassOf {d : Nat} {p1 p2 : Int} {M : Mem} {r : Res} (h : (0 ≤ p1 ∧ p1 < 12) ∧ (0 ≤ p2 ∧ p2 < 10) ∧ (if ¬ M ((3 + p1).toNat) p2 = 5 then (0 ≤ p1 ∧ p1 < 12) ∧ (0 ≤ p2 ∧ p2 < 10) ∧ r = (some (0, w32 ((w32 (100 * (M ((3 + p1).toNat) p2))) + (M ((16 + p1).toNat) p2))), M) else (0 ≤ p1 ∧ p1 < 12) ∧ (0 ≤ p2 ∧ p2 < 10) ∧ r = (some (0, w32 ((w32 (100 * 0)) + (M ((16 + p1).toNat) p2))), M))) : Cl (d + 1) m_X_glassOf [(2, 0), (0, p1), (0, p2)] M r := by
  refine cl_of (c := k_X_glassOf) (mL := 4) (rz := 1) (rc := 0) (ls := [(2, 0), (0, p1), (0, p2), (3, 0)]) rfl rfl rfl ?_
  refine x_al (pc' := 1) rfl rfl (by decide) rfl ?_
  refine x_gr (pc' := 2) (v := 1) rfl rfl rfl (by decide) rfl ?_
  refine x_gr (pc' := 3) (v := 2) rfl rfl rfl (by decide) rfl ?_
  refine x_il (pc' := 4) rfl rfl rfl ?_
  obtain ⟨q1, h⟩ := h
  refine x_aa (pc' := 5) (v := (3 + p1)) 2 12 rfl rfl (Or.inl rfl) q1.1 q1.2 (show rfc 2 p1 = (3 + p1) from if_pos ⟨q1.1, q1.2⟩) (by have := q1.1; omega) rfl ?_
  refine x_il (pc' := 6) rfl rfl rfl ?_
  obtain ⟨q2, h⟩ := h
  refine x_ia (pc' := 7) 10 (v := M ((3 + p1).toNat) p2) rfl rfl (arK_2d q1.1 q1.2 (Or.inl rfl)) q2.1 q2.2 rfl ?_
  refine x_is (pc' := 8) (ls' := [(2, 0), (0, p1), (0, p2), (0, M ((3 + p1).toNat) p2)]) rfl rfl rfl rfl ?_
  refine x_c (pc' := 9) rfl rfl ?_
  refine x_il (pc' := 10) rfl rfl rfl ?_
  refine x_c (pc' := 11) rfl rfl ?_
  refine x_icne (pc' := 12) (t' := 14) rfl rfl rfl (fun q3 => ?_) (fun q3 => ?_)
  · replace h := ite_t q3 h
    refine x_il (pc' := 15) rfl rfl rfl ?_
    refine x_ib (pc' := 16) (v := w32 (100 * (M ((3 + p1).toNat) p2))) rfl rfl rfl ?_
    refine x_al (pc' := 17) rfl rfl (by decide) rfl ?_
    refine x_gr (pc' := 18) (v := 1) rfl rfl rfl (by decide) rfl ?_
    refine x_gr (pc' := 19) (v := 15) rfl rfl rfl (by decide) rfl ?_
    refine x_il (pc' := 20) rfl rfl rfl ?_
    obtain ⟨q4, h⟩ := h
    refine x_aa (pc' := 21) (v := (16 + p1)) 2 12 rfl rfl (Or.inl rfl) q4.1 q4.2 (show rfc 15 p1 = (16 + p1) from if_pos ⟨q4.1, q4.2⟩) (by have := q4.1; omega) rfl ?_
    refine x_il (pc' := 22) rfl rfl rfl ?_
    obtain ⟨q5, h⟩ := h
    refine x_ia (pc' := 23) 10 (v := M ((16 + p1).toNat) p2) rfl rfl (arK_2d q4.1 q4.2 (Or.inr rfl)) q5.1 q5.2 rfl ?_
    refine x_ib (pc' := 24) (v := w32 ((w32 (100 * (M ((3 + p1).toNat) p2))) + (M ((16 + p1).toNat) p2))) rfl rfl rfl ?_
    exact x_iret rfl h
  · replace h := ite_f q3 h
    refine x_c (pc' := 13) rfl rfl ?_
    refine x_goto (t' := 15) rfl rfl ?_
    refine x_ib (pc' := 16) (v := w32 (100 * 0)) rfl rfl rfl ?_
    refine x_al (pc' := 17) rfl rfl (by decide) rfl ?_
    refine x_gr (pc' := 18) (v := 1) rfl rfl rfl (by decide) rfl ?_
    refine x_gr (pc' := 19) (v := 15) rfl rfl rfl (by decide) rfl ?_
    refine x_il (pc' := 20) rfl rfl rfl ?_
    obtain ⟨q6, h⟩ := h
    refine x_aa (pc' := 21) (v := (16 + p1)) 2 12 rfl rfl (Or.inl rfl) q6.1 q6.2 (show rfc 15 p1 = (16 + p1) from if_pos ⟨q6.1, q6.2⟩) (by have := q6.1; omega) rfl ?_
    refine x_il (pc' := 22) rfl rfl rfl ?_
    obtain ⟨q7, h⟩ := h
    refine x_ia (pc' := 23) 10 (v := M ((16 + p1).toNat) p2) rfl rfl (arK_2d q6.1 q6.2 (Or.inr rfl)) q7.1 q7.2 rfl ?_
    refine x_ib (pc' := 24) (v := w32 ((w32 (100 * 0)) + (M ((16 + p1).toNat) p2))) rfl rfl rfl ?_
    exact x_iret rfl h
theorem sg_X_isBest {d : Nat} {p1 p2 : Int} {M : Mem} {r : Res} (h : ∃ v2 M3, Cl d m_X_bestFinger [(2, 0), (0, p1)] M (some (0, v2), M3) ∧ (if v2 < 0 then r = (some (0, 0), M3) else (if ¬ w32 (Int.tdiv v2 20) = p2 then r = (some (0, 0), M3) else r = (some (0, 1), M3)))) : Cl (d + 1) m_X_isBest [(2, 0), (0, p1), (0, p2)] M r := by
  refine cl_of (c := k_X_isBest) (mL := 4) (rz := 3) (rc := 0) (ls := [(2, 0), (0, p1), (0, p2), (3, 0)]) rfl rfl rfl ?_
  refine x_al (pc' := 1) rfl rfl (by decide) rfl ?_
  refine x_il (pc' := 2) rfl rfl rfl ?_
  obtain ⟨v2, M3, q1, h⟩ := h
  refine x_call (pc' := 3) (as := [(2, 0), (0, p1)]) (rest := []) rfl rfl rfl rfl rfl rfl q1 ?_
  refine x_is (pc' := 4) (ls' := [(2, 0), (0, p1), (0, p2), (0, v2)]) rfl rfl rfl rfl ?_
  refine x_il (pc' := 5) rfl rfl rfl ?_
  refine x_iflt (pc' := 6) (t' := 13) rfl rfl rfl (fun q4 => ?_) (fun q4 => ?_)
  · replace h := ite_t q4 h
    refine x_c (pc' := 14) rfl rfl ?_
    exact x_zret rfl (by decide) h
  · replace h := ite_f q4 h
    refine x_il (pc' := 7) rfl rfl rfl ?_
    refine x_c (pc' := 8) rfl rfl ?_
    refine x_ib (pc' := 9) (v := w32 (Int.tdiv v2 20)) rfl rfl rfl ?_
    refine x_il (pc' := 10) rfl rfl rfl ?_
    refine x_icne (pc' := 11) (t' := 13) rfl rfl rfl (fun q5 => ?_) (fun q5 => ?_)
    · replace h := ite_t q5 h
      refine x_c (pc' := 14) rfl rfl ?_
      exact x_zret rfl (by decide) h
    · replace h := ite_f q5 h
      refine x_c (pc' := 12) rfl rfl ?_
      refine x_goto (t' := 14) rfl rfl ?_
      exact x_zret rfl (by decide) h
theorem sg_X_file {d : Nat} {p1 p2 : Int} {M : Mem} {r : Res} (h : ∃ v2, Cl d m_C_has [(2, 1), (0, p1)] M (some (0, v2), M) ∧ (if v2 = 0 then r = (some (0, (-1)), M) else ∃ v5, Cl d m_X_isDrawer [(0, p2)] M (some (0, v5), M) ∧ (if ¬ v5 = 0 then (0 ≤ p1 ∧ p1 < 12) ∧ (0 ≤ p1 ∧ p1 < 12) ∧ r = (some (0, M 30 p1), up (up M 30 p1 p2) 43 0 (w32 (((up M 30 p1 p2) 43 0) + 1))) else r = (some (0, (-1)), M)))) : Cl (d + 1) m_X_file [(2, 0), (0, p1), (0, p2)] M r := by
  refine cl_of (c := k_X_file) (mL := 4) (rz := 1) (rc := 0) (ls := [(2, 0), (0, p1), (0, p2), (3, 0)]) rfl rfl rfl ?_
  refine x_al (pc' := 1) rfl rfl (by decide) rfl ?_
  refine x_gr (pc' := 2) (v := 1) rfl rfl rfl (by decide) rfl ?_
  refine x_il (pc' := 3) rfl rfl rfl ?_
  obtain ⟨v2, q1, h⟩ := h
  refine x_call (pc' := 4) (as := [(2, 1), (0, p1)]) (rest := []) rfl rfl rfl rfl rfl rfl q1 ?_
  refine x_ifeq (pc' := 5) (t' := 8) rfl rfl rfl (fun q3 => ?_) (fun q3 => ?_)
  · replace h := ite_t q3 h
    refine x_c (pc' := 9) rfl rfl ?_
    exact x_iret rfl h
  · replace h := ite_f q3 h
    refine x_il (pc' := 6) rfl rfl rfl ?_
    obtain ⟨v5, q4, h⟩ := h
    refine x_call (pc' := 7) (as := [(0, p2)]) (rest := []) rfl rfl rfl rfl rfl rfl q4 ?_
    refine x_ifne (pc' := 8) (t' := 10) rfl rfl rfl (fun q6 => ?_) (fun q6 => ?_)
    · replace h := ite_t q6 h
      refine x_al (pc' := 11) rfl rfl (by decide) rfl ?_
      refine x_gr (pc' := 12) (v := 1) rfl rfl rfl (by decide) rfl ?_
      refine x_gr (pc' := 13) (v := 30) rfl rfl rfl (by decide) rfl ?_
      refine x_il (pc' := 14) rfl rfl rfl ?_
      obtain ⟨q7, h⟩ := h
      refine x_ia (pc' := 15) 12 (v := M 30 p1) rfl rfl rfl q7.1 q7.2 rfl ?_
      refine x_is (pc' := 16) (ls' := [(2, 0), (0, p1), (0, p2), (0, M 30 p1)]) rfl rfl rfl rfl ?_
      refine x_al (pc' := 17) rfl rfl (by decide) rfl ?_
      refine x_gr (pc' := 18) (v := 1) rfl rfl rfl (by decide) rfl ?_
      refine x_gr (pc' := 19) (v := 30) rfl rfl rfl (by decide) rfl ?_
      refine x_il (pc' := 20) rfl rfl rfl ?_
      refine x_il (pc' := 21) rfl rfl rfl ?_
      obtain ⟨q8, h⟩ := h
      refine x_ist (pc' := 22) 12 (M2 := up M 30 p1 p2) rfl rfl rfl q8.1 q8.2 rfl ?_
      refine x_al (pc' := 23) rfl rfl (by decide) rfl ?_
      refine x_gr (pc' := 24) (v := 42) rfl rfl rfl (by decide) rfl ?_
      refine x_gr (pc' := 25) (v := 43) rfl rfl rfl (by decide) rfl ?_
      refine x_c (pc' := 26) rfl rfl ?_
      refine x_dup2 (pc' := 27) rfl rfl ?_
      refine x_ia (pc' := 28) 5 (v := (up M 30 p1 p2) 43 0) rfl rfl rfl (by decide) (by decide) rfl ?_
      refine x_c (pc' := 29) rfl rfl ?_
      refine x_ib (pc' := 30) (v := w32 (((up M 30 p1 p2) 43 0) + 1)) rfl rfl rfl ?_
      refine x_ist (pc' := 31) 5 (M2 := up (up M 30 p1 p2) 43 0 (w32 (((up M 30 p1 p2) 43 0) + 1))) rfl rfl rfl (by decide) (by decide) rfl ?_
      refine x_il (pc' := 32) rfl rfl rfl ?_
      exact x_iret rfl h
    · replace h := ite_f q6 h
      refine x_c (pc' := 9) rfl rfl ?_
      exact x_iret rfl h
theorem sg_X_take {d : Nat} {p1 : Int} {M : Mem} {r : Res} (h : ∃ v2, Cl d m_C_has [(2, 1), (0, p1)] M (some (0, v2), M) ∧ (if ¬ v2 = 0 then (0 ≤ p1 ∧ p1 < 12) ∧ ∃ v6, Cl d m_X_isDrawer [(0, M 30 p1)] M (some (0, v6), M) ∧ (if ¬ v6 = 0 then (0 ≤ p1 ∧ p1 < 12) ∧ r = (some (0, M 30 p1), up (up M 30 p1 (-2000000000)) 43 1 (w32 (((up M 30 p1 (-2000000000)) 43 1) + 1))) else r = (some (0, (-5)), M)) else r = (some (0, (-1)), M))) : Cl (d + 1) m_X_take [(2, 0), (0, p1)] M r := by
  refine cl_of (c := k_X_take) (mL := 3) (rz := 1) (rc := 0) (ls := [(2, 0), (0, p1), (3, 0)]) rfl rfl rfl ?_
  refine x_al (pc' := 1) rfl rfl (by decide) rfl ?_
  refine x_gr (pc' := 2) (v := 1) rfl rfl rfl (by decide) rfl ?_
  refine x_il (pc' := 3) rfl rfl rfl ?_
  obtain ⟨v2, q1, h⟩ := h
  refine x_call (pc' := 4) (as := [(2, 1), (0, p1)]) (rest := []) rfl rfl rfl rfl rfl rfl q1 ?_
  refine x_ifne (pc' := 5) (t' := 7) rfl rfl rfl (fun q3 => ?_) (fun q3 => ?_)
  · replace h := ite_t q3 h
    refine x_al (pc' := 8) rfl rfl (by decide) rfl ?_
    refine x_gr (pc' := 9) (v := 1) rfl rfl rfl (by decide) rfl ?_
    refine x_gr (pc' := 10) (v := 30) rfl rfl rfl (by decide) rfl ?_
    refine x_il (pc' := 11) rfl rfl rfl ?_
    obtain ⟨q4, h⟩ := h
    refine x_ia (pc' := 12) 12 (v := M 30 p1) rfl rfl rfl q4.1 q4.2 rfl ?_
    refine x_is (pc' := 13) (ls' := [(2, 0), (0, p1), (0, M 30 p1)]) rfl rfl rfl rfl ?_
    refine x_il (pc' := 14) rfl rfl rfl ?_
    obtain ⟨v6, q5, h⟩ := h
    refine x_call (pc' := 15) (as := [(0, M 30 p1)]) (rest := []) rfl rfl rfl rfl rfl rfl q5 ?_
    refine x_ifne (pc' := 16) (t' := 18) rfl rfl rfl (fun q7 => ?_) (fun q7 => ?_)
    · replace h := ite_t q7 h
      refine x_al (pc' := 19) rfl rfl (by decide) rfl ?_
      refine x_gr (pc' := 20) (v := 1) rfl rfl rfl (by decide) rfl ?_
      refine x_gr (pc' := 21) (v := 30) rfl rfl rfl (by decide) rfl ?_
      refine x_il (pc' := 22) rfl rfl rfl ?_
      refine x_c (pc' := 23) rfl rfl ?_
      obtain ⟨q8, h⟩ := h
      refine x_ist (pc' := 24) 12 (M2 := up M 30 p1 (-2000000000)) rfl rfl rfl q8.1 q8.2 rfl ?_
      refine x_al (pc' := 25) rfl rfl (by decide) rfl ?_
      refine x_gr (pc' := 26) (v := 42) rfl rfl rfl (by decide) rfl ?_
      refine x_gr (pc' := 27) (v := 43) rfl rfl rfl (by decide) rfl ?_
      refine x_c (pc' := 28) rfl rfl ?_
      refine x_dup2 (pc' := 29) rfl rfl ?_
      refine x_ia (pc' := 30) 5 (v := (up M 30 p1 (-2000000000)) 43 1) rfl rfl rfl (by decide) (by decide) rfl ?_
      refine x_c (pc' := 31) rfl rfl ?_
      refine x_ib (pc' := 32) (v := w32 (((up M 30 p1 (-2000000000)) 43 1) + 1)) rfl rfl rfl ?_
      refine x_ist (pc' := 33) 5 (M2 := up (up M 30 p1 (-2000000000)) 43 1 (w32 (((up M 30 p1 (-2000000000)) 43 1) + 1))) rfl rfl rfl (by decide) (by decide) rfl ?_
      refine x_il (pc' := 34) rfl rfl rfl ?_
      exact x_iret rfl h
    · replace h := ite_f q7 h
      refine x_c (pc' := 17) rfl rfl ?_
      exact x_iret rfl h
  · replace h := ite_f q3 h
    refine x_c (pc' := 6) rfl rfl ?_
    exact x_iret rfl h
def at_X_search_21 (d : Nat) (l1 : Int) (l2 : Int) (l3 : Int) (M : Mem) (r : Res) : Prop := Ex sx0 d k_X_search 1 21 [(2, 0), (0, l1), (0, l2), (0, l3)] [] M r
theorem sg_X_search {d : Nat} {p1 : Int} {M : Mem} {r : Res} (h : ∃ v2, Cl d m_X_isGlass [(0, p1)] M (some (0, v2), M) ∧ (if ¬ v2 = 0 then ∃ v5, Cl d m_C_nextFiled [(2, 1), (0, (-1))] (up M 43 2 (w32 ((M 43 2) + 1))) (some (0, v5), up M 43 2 (w32 ((M 43 2) + 1))) ∧ at_X_search_21 d p1 v5 0 (up M 43 2 (w32 ((M 43 2) + 1))) r else r = (some (0, (-1)), M))) : Cl (d + 1) m_X_search [(2, 0), (0, p1)] M r := by
  refine cl_of (c := k_X_search) (mL := 4) (rz := 1) (rc := 0) (ls := [(2, 0), (0, p1), (3, 0), (3, 0)]) rfl rfl rfl ?_
  refine x_il (pc' := 1) rfl rfl rfl ?_
  obtain ⟨v2, q1, h⟩ := h
  refine x_call (pc' := 2) (as := [(0, p1)]) (rest := []) rfl rfl rfl rfl rfl rfl q1 ?_
  refine x_ifne (pc' := 3) (t' := 5) rfl rfl rfl (fun q3 => ?_) (fun q3 => ?_)
  · replace h := ite_t q3 h
    refine x_al (pc' := 6) rfl rfl (by decide) rfl ?_
    refine x_gr (pc' := 7) (v := 42) rfl rfl rfl (by decide) rfl ?_
    refine x_gr (pc' := 8) (v := 43) rfl rfl rfl (by decide) rfl ?_
    refine x_c (pc' := 9) rfl rfl ?_
    refine x_dup2 (pc' := 10) rfl rfl ?_
    refine x_ia (pc' := 11) 5 (v := M 43 2) rfl rfl rfl (by decide) (by decide) rfl ?_
    refine x_c (pc' := 12) rfl rfl ?_
    refine x_ib (pc' := 13) (v := w32 ((M 43 2) + 1)) rfl rfl rfl ?_
    refine x_ist (pc' := 14) 5 (M2 := up M 43 2 (w32 ((M 43 2) + 1))) rfl rfl rfl (by decide) (by decide) rfl ?_
    refine x_al (pc' := 15) rfl rfl (by decide) rfl ?_
    refine x_gr (pc' := 16) (v := 1) rfl rfl rfl (by decide) rfl ?_
    refine x_c (pc' := 17) rfl rfl ?_
    obtain ⟨v5, q4, h⟩ := h
    refine x_call (pc' := 18) (as := [(2, 1), (0, (-1))]) (rest := []) rfl rfl rfl rfl rfl rfl q4 ?_
    refine x_is (pc' := 19) (ls' := [(2, 0), (0, p1), (0, v5), (3, 0)]) rfl rfl rfl rfl ?_
    refine x_c (pc' := 20) rfl rfl ?_
    refine x_is (pc' := 21) (ls' := [(2, 0), (0, p1), (0, v5), (0, 0)]) rfl rfl rfl rfl ?_
    exact h
  · replace h := ite_f q3 h
    refine x_c (pc' := 4) rfl rfl ?_
    exact x_iret rfl h
theorem sg_X_search_21 {d : Nat} {l1 : Int} {l2 : Int} {l3 : Int} {M : Mem} {r : Res} (h : (if 12 ≤ l3 then r = (some (0, (-2)), M) else (if l2 < 0 then r = (some (0, (-2)), M) else ∃ v4, Cl d m_X_glassFingers [(2, 0), (0, l1), (0, l2)] (up M 43 3 (w32 ((M 43 3) + 1))) (some (0, v4), up M 43 3 (w32 ((M 43 3) + 1))) ∧ (if v4 = 0 then ∃ v7, Cl d m_C_nextFiled [(2, 1), (0, l2)] (up M 43 3 (w32 ((M 43 3) + 1))) (some (0, v7), up M 43 3 (w32 ((M 43 3) + 1))) ∧ at_X_search_21 d l1 v7 (w32 (l3 + 1)) (up M 43 3 (w32 ((M 43 3) + 1))) r else r = (some (0, l2), up (up M 43 3 (w32 ((M 43 3) + 1))) 43 4 (w32 (((up M 43 3 (w32 ((M 43 3) + 1))) 43 4) + 1))))))) : at_X_search_21 d l1 l2 l3 M r := by
  unfold at_X_search_21
  refine x_il (pc' := 22) rfl rfl rfl ?_
  refine x_c (pc' := 23) rfl rfl ?_
  refine x_icge (pc' := 24) (t' := 58) rfl rfl rfl (fun q1 => ?_) (fun q1 => ?_)
  · replace h := ite_t q1 h
    refine x_c (pc' := 59) rfl rfl ?_
    exact x_iret rfl h
  · replace h := ite_f q1 h
    refine x_il (pc' := 25) rfl rfl rfl ?_
    refine x_iflt (pc' := 26) (t' := 58) rfl rfl rfl (fun q2 => ?_) (fun q2 => ?_)
    · replace h := ite_t q2 h
      refine x_c (pc' := 59) rfl rfl ?_
      exact x_iret rfl h
    · replace h := ite_f q2 h
      refine x_al (pc' := 27) rfl rfl (by decide) rfl ?_
      refine x_gr (pc' := 28) (v := 42) rfl rfl rfl (by decide) rfl ?_
      refine x_gr (pc' := 29) (v := 43) rfl rfl rfl (by decide) rfl ?_
      refine x_c (pc' := 30) rfl rfl ?_
      refine x_dup2 (pc' := 31) rfl rfl ?_
      refine x_ia (pc' := 32) 5 (v := M 43 3) rfl rfl rfl (by decide) (by decide) rfl ?_
      refine x_c (pc' := 33) rfl rfl ?_
      refine x_ib (pc' := 34) (v := w32 ((M 43 3) + 1)) rfl rfl rfl ?_
      refine x_ist (pc' := 35) 5 (M2 := up M 43 3 (w32 ((M 43 3) + 1))) rfl rfl rfl (by decide) (by decide) rfl ?_
      refine x_al (pc' := 36) rfl rfl (by decide) rfl ?_
      refine x_il (pc' := 37) rfl rfl rfl ?_
      refine x_il (pc' := 38) rfl rfl rfl ?_
      obtain ⟨v4, q3, h⟩ := h
      refine x_call (pc' := 39) (as := [(2, 0), (0, l1), (0, l2)]) (rest := []) rfl rfl rfl rfl rfl rfl q3 ?_
      refine x_ifeq (pc' := 40) (t' := 51) rfl rfl rfl (fun q5 => ?_) (fun q5 => ?_)
      · replace h := ite_t q5 h
        refine x_al (pc' := 52) rfl rfl (by decide) rfl ?_
        refine x_gr (pc' := 53) (v := 1) rfl rfl rfl (by decide) rfl ?_
        refine x_il (pc' := 54) rfl rfl rfl ?_
        obtain ⟨v7, q6, h⟩ := h
        refine x_call (pc' := 55) (as := [(2, 1), (0, l2)]) (rest := []) rfl rfl rfl rfl rfl rfl q6 ?_
        refine x_is (pc' := 56) (ls' := [(2, 0), (0, l1), (0, v7), (0, l3)]) rfl rfl rfl rfl ?_
        refine x_inc (pc' := 57) (ls' := [(2, 0), (0, l1), (0, v7), (0, w32 (l3 + 1))]) rfl rfl rfl rfl ?_
        refine x_goto (t' := 21) rfl rfl ?_
        exact h
      · replace h := ite_f q5 h
        refine x_al (pc' := 41) rfl rfl (by decide) rfl ?_
        refine x_gr (pc' := 42) (v := 42) rfl rfl rfl (by decide) rfl ?_
        refine x_gr (pc' := 43) (v := 43) rfl rfl rfl (by decide) rfl ?_
        refine x_c (pc' := 44) rfl rfl ?_
        refine x_dup2 (pc' := 45) rfl rfl ?_
        refine x_ia (pc' := 46) 5 (v := (up M 43 3 (w32 ((M 43 3) + 1))) 43 4) rfl rfl rfl (by decide) (by decide) rfl ?_
        refine x_c (pc' := 47) rfl rfl ?_
        refine x_ib (pc' := 48) (v := w32 (((up M 43 3 (w32 ((M 43 3) + 1))) 43 4) + 1)) rfl rfl rfl ?_
        refine x_ist (pc' := 49) 5 (M2 := up (up M 43 3 (w32 ((M 43 3) + 1))) 43 4 (w32 (((up M 43 3 (w32 ((M 43 3) + 1))) 43 4) + 1))) rfl rfl rfl (by decide) (by decide) rfl ?_
        refine x_il (pc' := 50) rfl rfl rfl ?_
        exact x_iret rfl h
theorem sg_X_led {d : Nat} {p1 : Int} {M : Mem} {r : Res} (h : (if p1 < 0 then r = (some (0, (-1)), M) else (if 5 ≤ p1 then r = (some (0, (-1)), M) else (0 ≤ p1 ∧ p1 < 5) ∧ r = (some (0, M 43 p1), M)))) : Cl (d + 1) m_X_led [(2, 0), (0, p1)] M r := by
  refine cl_of (c := k_X_led) (mL := 2) (rz := 1) (rc := 0) (ls := [(2, 0), (0, p1)]) rfl rfl rfl ?_
  refine x_il (pc' := 1) rfl rfl rfl ?_
  refine x_iflt (pc' := 2) (t' := 11) rfl rfl rfl (fun q1 => ?_) (fun q1 => ?_)
  · replace h := ite_t q1 h
    refine x_c (pc' := 12) rfl rfl ?_
    exact x_iret rfl h
  · replace h := ite_f q1 h
    refine x_il (pc' := 3) rfl rfl rfl ?_
    refine x_c (pc' := 4) rfl rfl ?_
    refine x_icge (pc' := 5) (t' := 11) rfl rfl rfl (fun q2 => ?_) (fun q2 => ?_)
    · replace h := ite_t q2 h
      refine x_c (pc' := 12) rfl rfl ?_
      exact x_iret rfl h
    · replace h := ite_f q2 h
      refine x_al (pc' := 6) rfl rfl (by decide) rfl ?_
      refine x_gr (pc' := 7) (v := 42) rfl rfl rfl (by decide) rfl ?_
      refine x_gr (pc' := 8) (v := 43) rfl rfl rfl (by decide) rfl ?_
      refine x_il (pc' := 9) rfl rfl rfl ?_
      obtain ⟨q3, h⟩ := h
      refine x_ia (pc' := 10) 5 (v := M 43 p1) rfl rfl rfl q3.1 q3.2 rfl ?_
      refine x_goto (t' := 12) rfl rfl ?_
      exact x_iret rfl h
theorem sg_X_image {d : Nat} {M : Mem} {r : Res} (h : ∃ M2, Cl d m_D_keepImage [(2, 42), (2, 1)] M (none, M2) ∧ r = (some (0, M2 43 2), M2)) : Cl (d + 1) m_X_image [(2, 0)] M r := by
  refine cl_of (c := k_X_image) (mL := 1) (rz := 1) (rc := 0) (ls := [(2, 0)]) rfl rfl rfl ?_
  refine x_al (pc' := 1) rfl rfl (by decide) rfl ?_
  refine x_gr (pc' := 2) (v := 42) rfl rfl rfl (by decide) rfl ?_
  refine x_al (pc' := 3) rfl rfl (by decide) rfl ?_
  refine x_gr (pc' := 4) (v := 1) rfl rfl rfl (by decide) rfl ?_
  obtain ⟨M2, q1, h⟩ := h
  refine x_callv (pc' := 5) (as := [(2, 42), (2, 1)]) (rest := []) rfl rfl rfl rfl rfl rfl q1 ?_
  refine x_al (pc' := 6) rfl rfl (by decide) rfl ?_
  refine x_gr (pc' := 7) (v := 42) rfl rfl rfl (by decide) rfl ?_
  refine x_gr (pc' := 8) (v := 43) rfl rfl rfl (by decide) rfl ?_
  refine x_c (pc' := 9) rfl rfl ?_
  refine x_ia (pc' := 10) 5 (v := M2 43 2) rfl rfl rfl (by decide) (by decide) rfl ?_
  exact x_iret rfl h
theorem sg_X_back {d : Nat} {M : Mem} {r : Res} (h : (if ¬ M 42 4 = 0 then ∃ M3, Cl d m_D_layBack [(2, 42), (2, 1)] M (none, M3) ∧ r = (some (0, M3 43 2), M3) else r = (some (0, (-5)), M))) : Cl (d + 1) m_X_back [(2, 0)] M r := by
  refine cl_of (c := k_X_back) (mL := 1) (rz := 1) (rc := 0) (ls := [(2, 0)]) rfl rfl rfl ?_
  refine x_al (pc' := 1) rfl rfl (by decide) rfl ?_
  refine x_gr (pc' := 2) (v := 42) rfl rfl rfl (by decide) rfl ?_
  refine x_gf (pc' := 3) (v := M 42 4) rfl rfl rfl rfl rfl ?_
  refine x_ifne (pc' := 4) (t' := 6) rfl rfl rfl (fun q1 => ?_) (fun q1 => ?_)
  · replace h := ite_t q1 h
    refine x_al (pc' := 7) rfl rfl (by decide) rfl ?_
    refine x_gr (pc' := 8) (v := 42) rfl rfl rfl (by decide) rfl ?_
    refine x_al (pc' := 9) rfl rfl (by decide) rfl ?_
    refine x_gr (pc' := 10) (v := 1) rfl rfl rfl (by decide) rfl ?_
    obtain ⟨M3, q2, h⟩ := h
    refine x_callv (pc' := 11) (as := [(2, 42), (2, 1)]) (rest := []) rfl rfl rfl rfl rfl rfl q2 ?_
    refine x_al (pc' := 12) rfl rfl (by decide) rfl ?_
    refine x_gr (pc' := 13) (v := 42) rfl rfl rfl (by decide) rfl ?_
    refine x_gr (pc' := 14) (v := 43) rfl rfl rfl (by decide) rfl ?_
    refine x_c (pc' := 15) rfl rfl ?_
    refine x_ia (pc' := 16) 5 (v := M3 43 2) rfl rfl rfl (by decide) (by decide) rfl ?_
    exact x_iret rfl h
  · replace h := ite_f q1 h
    refine x_c (pc' := 5) rfl rfl ?_
    exact x_iret rfl h
theorem sg_X_undo {d : Nat} {M : Mem} {r : Res} (h : ∃ v2 M3, Cl d m_H_stepBack [(2, 37)] M (some (0, v2), M3) ∧ (if 0 ≤ v2 then (0 ≤ v2 ∧ v2 < 40) ∧ (0 ≤ v2 ∧ v2 < 40) ∧ (0 ≤ v2 ∧ v2 < 40) ∧ ∃ M9, Cl d m_C_tell [(2, 1), (0, M3 38 v2), (0, M3 39 v2), (0, M3 40 v2)] M3 (none, M9) ∧ r = (some (0, M9 37 4), M9) else r = (some (0, (-5)), M3))) : Cl (d + 1) m_X_undo [(2, 0)] M r := by
  refine cl_of (c := k_X_undo) (mL := 2) (rz := 1) (rc := 0) (ls := [(2, 0), (3, 0)]) rfl rfl rfl ?_
  refine x_al (pc' := 1) rfl rfl (by decide) rfl ?_
  refine x_gr (pc' := 2) (v := 37) rfl rfl rfl (by decide) rfl ?_
  obtain ⟨v2, M3, q1, h⟩ := h
  refine x_call (pc' := 3) (as := [(2, 37)]) (rest := []) rfl rfl rfl rfl rfl rfl q1 ?_
  refine x_is (pc' := 4) (ls' := [(2, 0), (0, v2)]) rfl rfl rfl rfl ?_
  refine x_il (pc' := 5) rfl rfl rfl ?_
  refine x_ifge (pc' := 6) (t' := 8) rfl rfl rfl (fun q4 => ?_) (fun q4 => ?_)
  · replace h := ite_t q4 h
    refine x_al (pc' := 9) rfl rfl (by decide) rfl ?_
    refine x_gr (pc' := 10) (v := 1) rfl rfl rfl (by decide) rfl ?_
    refine x_al (pc' := 11) rfl rfl (by decide) rfl ?_
    refine x_gr (pc' := 12) (v := 37) rfl rfl rfl (by decide) rfl ?_
    refine x_gr (pc' := 13) (v := 38) rfl rfl rfl (by decide) rfl ?_
    refine x_il (pc' := 14) rfl rfl rfl ?_
    obtain ⟨q5, h⟩ := h
    refine x_ia (pc' := 15) 40 (v := M3 38 v2) rfl rfl rfl q5.1 q5.2 rfl ?_
    refine x_al (pc' := 16) rfl rfl (by decide) rfl ?_
    refine x_gr (pc' := 17) (v := 37) rfl rfl rfl (by decide) rfl ?_
    refine x_gr (pc' := 18) (v := 39) rfl rfl rfl (by decide) rfl ?_
    refine x_il (pc' := 19) rfl rfl rfl ?_
    obtain ⟨q6, h⟩ := h
    refine x_ia (pc' := 20) 40 (v := M3 39 v2) rfl rfl rfl q6.1 q6.2 rfl ?_
    refine x_al (pc' := 21) rfl rfl (by decide) rfl ?_
    refine x_gr (pc' := 22) (v := 37) rfl rfl rfl (by decide) rfl ?_
    refine x_gr (pc' := 23) (v := 40) rfl rfl rfl (by decide) rfl ?_
    refine x_il (pc' := 24) rfl rfl rfl ?_
    obtain ⟨q7, h⟩ := h
    refine x_ia (pc' := 25) 40 (v := M3 40 v2) rfl rfl rfl q7.1 q7.2 rfl ?_
    obtain ⟨M9, q8, h⟩ := h
    refine x_callv (pc' := 26) (as := [(2, 1), (0, M3 38 v2), (0, M3 39 v2), (0, M3 40 v2)]) (rest := []) rfl rfl rfl rfl rfl rfl q8 ?_
    refine x_al (pc' := 27) rfl rfl (by decide) rfl ?_
    refine x_gr (pc' := 28) (v := 37) rfl rfl rfl (by decide) rfl ?_
    refine x_gf (pc' := 29) (v := M9 37 4) rfl rfl rfl rfl rfl ?_
    exact x_iret rfl h
  · replace h := ite_f q4 h
    refine x_c (pc' := 7) rfl rfl ?_
    exact x_iret rfl h
theorem sg_X_redo {d : Nat} {M : Mem} {r : Res} (h : ∃ v2 M3, Cl d m_H_stepOn [(2, 37)] M (some (0, v2), M3) ∧ (if 0 ≤ v2 then (0 ≤ v2 ∧ v2 < 40) ∧ (0 ≤ v2 ∧ v2 < 40) ∧ (0 ≤ v2 ∧ v2 < 40) ∧ ∃ M9, Cl d m_C_tell [(2, 1), (0, M3 38 v2), (0, M3 39 v2), (0, M3 41 v2)] M3 (none, M9) ∧ r = (some (0, w32 ((M9 37 5) - (M9 37 4))), M9) else r = (some (0, (-5)), M3))) : Cl (d + 1) m_X_redo [(2, 0)] M r := by
  refine cl_of (c := k_X_redo) (mL := 2) (rz := 1) (rc := 0) (ls := [(2, 0), (3, 0)]) rfl rfl rfl ?_
  refine x_al (pc' := 1) rfl rfl (by decide) rfl ?_
  refine x_gr (pc' := 2) (v := 37) rfl rfl rfl (by decide) rfl ?_
  obtain ⟨v2, M3, q1, h⟩ := h
  refine x_call (pc' := 3) (as := [(2, 37)]) (rest := []) rfl rfl rfl rfl rfl rfl q1 ?_
  refine x_is (pc' := 4) (ls' := [(2, 0), (0, v2)]) rfl rfl rfl rfl ?_
  refine x_il (pc' := 5) rfl rfl rfl ?_
  refine x_ifge (pc' := 6) (t' := 8) rfl rfl rfl (fun q4 => ?_) (fun q4 => ?_)
  · replace h := ite_t q4 h
    refine x_al (pc' := 9) rfl rfl (by decide) rfl ?_
    refine x_gr (pc' := 10) (v := 1) rfl rfl rfl (by decide) rfl ?_
    refine x_al (pc' := 11) rfl rfl (by decide) rfl ?_
    refine x_gr (pc' := 12) (v := 37) rfl rfl rfl (by decide) rfl ?_
    refine x_gr (pc' := 13) (v := 38) rfl rfl rfl (by decide) rfl ?_
    refine x_il (pc' := 14) rfl rfl rfl ?_
    obtain ⟨q5, h⟩ := h
    refine x_ia (pc' := 15) 40 (v := M3 38 v2) rfl rfl rfl q5.1 q5.2 rfl ?_
    refine x_al (pc' := 16) rfl rfl (by decide) rfl ?_
    refine x_gr (pc' := 17) (v := 37) rfl rfl rfl (by decide) rfl ?_
    refine x_gr (pc' := 18) (v := 39) rfl rfl rfl (by decide) rfl ?_
    refine x_il (pc' := 19) rfl rfl rfl ?_
    obtain ⟨q6, h⟩ := h
    refine x_ia (pc' := 20) 40 (v := M3 39 v2) rfl rfl rfl q6.1 q6.2 rfl ?_
    refine x_al (pc' := 21) rfl rfl (by decide) rfl ?_
    refine x_gr (pc' := 22) (v := 37) rfl rfl rfl (by decide) rfl ?_
    refine x_gr (pc' := 23) (v := 41) rfl rfl rfl (by decide) rfl ?_
    refine x_il (pc' := 24) rfl rfl rfl ?_
    obtain ⟨q7, h⟩ := h
    refine x_ia (pc' := 25) 40 (v := M3 41 v2) rfl rfl rfl q7.1 q7.2 rfl ?_
    obtain ⟨M9, q8, h⟩ := h
    refine x_callv (pc' := 26) (as := [(2, 1), (0, M3 38 v2), (0, M3 39 v2), (0, M3 41 v2)]) (rest := []) rfl rfl rfl rfl rfl rfl q8 ?_
    refine x_al (pc' := 27) rfl rfl (by decide) rfl ?_
    refine x_gr (pc' := 28) (v := 37) rfl rfl rfl (by decide) rfl ?_
    refine x_gf (pc' := 29) (v := M9 37 5) rfl rfl rfl rfl rfl ?_
    refine x_al (pc' := 30) rfl rfl (by decide) rfl ?_
    refine x_gr (pc' := 31) (v := 37) rfl rfl rfl (by decide) rfl ?_
    refine x_gf (pc' := 32) (v := M9 37 4) rfl rfl rfl rfl rfl ?_
    refine x_ib (pc' := 33) (v := w32 ((M9 37 5) - (M9 37 4))) rfl rfl rfl ?_
    exact x_iret rfl h
  · replace h := ite_f q4 h
    refine x_c (pc' := 7) rfl rfl ?_
    exact x_iret rfl h
theorem sg_X_body {d : Nat} {p1 : Int} {M : Mem} {r : Res} (h : ∃ v2, Cl d m_P_isKind [(2, 46), (0, p1)] M (some (0, v2), M) ∧ (if ¬ v2 = 0 then ∃ v5 M6, Cl d m_P_addBody [(2, 46), (0, p1)] M (some (0, v5), M6) ∧ r = (some (0, v5), M6) else r = (some (0, (-1)), M))) : Cl (d + 1) m_X_body [(2, 0), (0, p1)] M r := by
  refine cl_of (c := k_X_body) (mL := 2) (rz := 1) (rc := 0) (ls := [(2, 0), (0, p1)]) rfl rfl rfl ?_
  refine x_al (pc' := 1) rfl rfl (by decide) rfl ?_
  refine x_gr (pc' := 2) (v := 46) rfl rfl rfl (by decide) rfl ?_
  refine x_il (pc' := 3) rfl rfl rfl ?_
  obtain ⟨v2, q1, h⟩ := h
  refine x_call (pc' := 4) (as := [(2, 46), (0, p1)]) (rest := []) rfl rfl rfl rfl rfl rfl q1 ?_
  refine x_ifne (pc' := 5) (t' := 7) rfl rfl rfl (fun q3 => ?_) (fun q3 => ?_)
  · replace h := ite_t q3 h
    refine x_al (pc' := 8) rfl rfl (by decide) rfl ?_
    refine x_gr (pc' := 9) (v := 46) rfl rfl rfl (by decide) rfl ?_
    refine x_il (pc' := 10) rfl rfl rfl ?_
    obtain ⟨v5, M6, q4, h⟩ := h
    refine x_call (pc' := 11) (as := [(2, 46), (0, p1)]) (rest := []) rfl rfl rfl rfl rfl rfl q4 ?_
    exact x_iret rfl h
  · replace h := ite_f q3 h
    refine x_c (pc' := 6) rfl rfl ?_
    exact x_iret rfl h
theorem sg_X_act {d : Nat} {p1 p2 p3 : Int} {M : Mem} {r : Res} (h : ∃ v2 M3, Cl d m_P_play [(2, 46), (0, p1), (0, p2), (0, p3)] M (some (0, v2), M3) ∧ r = (some (0, v2), M3)) : Cl (d + 1) m_X_act [(2, 0), (0, p1), (0, p2), (0, p3)] M r := by
  refine cl_of (c := k_X_act) (mL := 4) (rz := 1) (rc := 0) (ls := [(2, 0), (0, p1), (0, p2), (0, p3)]) rfl rfl rfl ?_
  refine x_al (pc' := 1) rfl rfl (by decide) rfl ?_
  refine x_gr (pc' := 2) (v := 46) rfl rfl rfl (by decide) rfl ?_
  refine x_il (pc' := 3) rfl rfl rfl ?_
  refine x_il (pc' := 4) rfl rfl rfl ?_
  refine x_il (pc' := 5) rfl rfl rfl ?_
  obtain ⟨v2, M3, q1, h⟩ := h
  refine x_call (pc' := 6) (as := [(2, 46), (0, p1), (0, p2), (0, p3)]) (rest := []) rfl rfl rfl rfl rfl rfl q1 ?_
  exact x_iret rfl h
theorem sg_X_trace {d : Nat} {p1 : Int} {M : Mem} {r : Res} (h : (if p1 < 0 then r = (some (0, (-1)), M) else ∃ v3, Cl d m_P_traced [(2, 46)] M (some (0, v3), M) ∧ (if v3 ≤ p1 then r = (some (0, (-1)), M) else (0 ≤ p1 ∧ p1 < 24) ∧ r = (some (0, M 48 p1), M)))) : Cl (d + 1) m_X_trace [(2, 0), (0, p1)] M r := by
  refine cl_of (c := k_X_trace) (mL := 2) (rz := 1) (rc := 0) (ls := [(2, 0), (0, p1)]) rfl rfl rfl ?_
  refine x_il (pc' := 1) rfl rfl rfl ?_
  refine x_iflt (pc' := 2) (t' := 13) rfl rfl rfl (fun q1 => ?_) (fun q1 => ?_)
  · replace h := ite_t q1 h
    refine x_c (pc' := 14) rfl rfl ?_
    exact x_iret rfl h
  · replace h := ite_f q1 h
    refine x_il (pc' := 3) rfl rfl rfl ?_
    refine x_al (pc' := 4) rfl rfl (by decide) rfl ?_
    refine x_gr (pc' := 5) (v := 46) rfl rfl rfl (by decide) rfl ?_
    obtain ⟨v3, q2, h⟩ := h
    refine x_call (pc' := 6) (as := [(2, 46)]) (rest := [(0, p1)]) rfl rfl rfl rfl rfl rfl q2 ?_
    refine x_icge (pc' := 7) (t' := 13) rfl rfl rfl (fun q4 => ?_) (fun q4 => ?_)
    · replace h := ite_t q4 h
      refine x_c (pc' := 14) rfl rfl ?_
      exact x_iret rfl h
    · replace h := ite_f q4 h
      refine x_al (pc' := 8) rfl rfl (by decide) rfl ?_
      refine x_gr (pc' := 9) (v := 46) rfl rfl rfl (by decide) rfl ?_
      refine x_gr (pc' := 10) (v := 48) rfl rfl rfl (by decide) rfl ?_
      refine x_il (pc' := 11) rfl rfl rfl ?_
      obtain ⟨q5, h⟩ := h
      refine x_ia (pc' := 12) 24 (v := M 48 p1) rfl rfl rfl q5.1 q5.2 rfl ?_
      refine x_goto (t' := 14) rfl rfl ?_
      exact x_iret rfl h
theorem sg_X_keep {d : Nat} {p1 p2 : Int} {M : Mem} {r : Res} (h : ∃ v2, Cl d m_S_has [(2, 49), (0, p1)] M (some (0, v2), M) ∧ (if v2 = 0 then r = (some (0, (-1)), M) else (if p2 = (-1) then ∃ M6, Cl d m_S_keepBody [(2, 49), (0, p1), (0, p2)] M (none, M6) ∧ r = (some (0, 1), M6) else ∃ v8, Cl d m_P_has [(2, 46), (0, p2)] M (some (0, v8), M) ∧ (if ¬ v8 = 0 then ∃ M11, Cl d m_S_keepBody [(2, 49), (0, p1), (0, p2)] M (none, M11) ∧ r = (some (0, 1), M11) else r = (some (0, (-1)), M))))) : Cl (d + 1) m_X_keep [(2, 0), (0, p1), (0, p2)] M r := by
  refine cl_of (c := k_X_keep) (mL := 3) (rz := 1) (rc := 0) (ls := [(2, 0), (0, p1), (0, p2)]) rfl rfl rfl ?_
  refine x_al (pc' := 1) rfl rfl (by decide) rfl ?_
  refine x_gr (pc' := 2) (v := 49) rfl rfl rfl (by decide) rfl ?_
  refine x_il (pc' := 3) rfl rfl rfl ?_
  obtain ⟨v2, q1, h⟩ := h
  refine x_call (pc' := 4) (as := [(2, 49), (0, p1)]) (rest := []) rfl rfl rfl rfl rfl rfl q1 ?_
  refine x_ifeq (pc' := 5) (t' := 13) rfl rfl rfl (fun q3 => ?_) (fun q3 => ?_)
  · replace h := ite_t q3 h
    refine x_c (pc' := 14) rfl rfl ?_
    exact x_iret rfl h
  · replace h := ite_f q3 h
    refine x_il (pc' := 6) rfl rfl rfl ?_
    refine x_c (pc' := 7) rfl rfl ?_
    refine x_iceq (pc' := 8) (t' := 15) rfl rfl rfl (fun q4 => ?_) (fun q4 => ?_)
    · replace h := ite_t q4 h
      refine x_al (pc' := 16) rfl rfl (by decide) rfl ?_
      refine x_gr (pc' := 17) (v := 49) rfl rfl rfl (by decide) rfl ?_
      refine x_il (pc' := 18) rfl rfl rfl ?_
      refine x_il (pc' := 19) rfl rfl rfl ?_
      obtain ⟨M6, q5, h⟩ := h
      refine x_callv (pc' := 20) (as := [(2, 49), (0, p1), (0, p2)]) (rest := []) rfl rfl rfl rfl rfl rfl q5 ?_
      refine x_c (pc' := 21) rfl rfl ?_
      exact x_iret rfl h
    · replace h := ite_f q4 h
      refine x_al (pc' := 9) rfl rfl (by decide) rfl ?_
      refine x_gr (pc' := 10) (v := 46) rfl rfl rfl (by decide) rfl ?_
      refine x_il (pc' := 11) rfl rfl rfl ?_
      obtain ⟨v8, q7, h⟩ := h
      refine x_call (pc' := 12) (as := [(2, 46), (0, p2)]) (rest := []) rfl rfl rfl rfl rfl rfl q7 ?_
      refine x_ifne (pc' := 13) (t' := 15) rfl rfl rfl (fun q9 => ?_) (fun q9 => ?_)
      · replace h := ite_t q9 h
        refine x_al (pc' := 16) rfl rfl (by decide) rfl ?_
        refine x_gr (pc' := 17) (v := 49) rfl rfl rfl (by decide) rfl ?_
        refine x_il (pc' := 18) rfl rfl rfl ?_
        refine x_il (pc' := 19) rfl rfl rfl ?_
        obtain ⟨M11, q10, h⟩ := h
        refine x_callv (pc' := 20) (as := [(2, 49), (0, p1), (0, p2)]) (rest := []) rfl rfl rfl rfl rfl rfl q10 ?_
        refine x_c (pc' := 21) rfl rfl ?_
        exact x_iret rfl h
      · replace h := ite_f q9 h
        refine x_c (pc' := 14) rfl rfl ?_
        exact x_iret rfl h
theorem sg_X_row {d : Nat} {p1 p2 p3 : Int} {M : Mem} {r : Res} (h : ∃ v2, Cl d m_S_has [(2, 49), (0, p1)] M (some (0, v2), M) ∧ (if v2 = 0 then r = (some (0, (-1)), M) else ∃ v5, Cl d m_S_isRowSort [(2, 49), (0, p2)] M (some (0, v5), M) ∧ (if v5 = 0 then r = (some (0, (-1)), M) else (if p3 ≤ 60 then (if 0 ≤ p3 then ∃ M10, Cl d m_S_keepRow [(2, 49), (0, p1), (0, p2), (0, p3)] M (none, M10) ∧ r = (some (0, 1), M10) else r = (some (0, (-14)), M)) else r = (some (0, (-1)), M))))) : Cl (d + 1) m_X_row [(2, 0), (0, p1), (0, p2), (0, p3)] M r := by
  refine cl_of (c := k_X_row) (mL := 4) (rz := 1) (rc := 0) (ls := [(2, 0), (0, p1), (0, p2), (0, p3)]) rfl rfl rfl ?_
  refine x_al (pc' := 1) rfl rfl (by decide) rfl ?_
  refine x_gr (pc' := 2) (v := 49) rfl rfl rfl (by decide) rfl ?_
  refine x_il (pc' := 3) rfl rfl rfl ?_
  obtain ⟨v2, q1, h⟩ := h
  refine x_call (pc' := 4) (as := [(2, 49), (0, p1)]) (rest := []) rfl rfl rfl rfl rfl rfl q1 ?_
  refine x_ifeq (pc' := 5) (t' := 13) rfl rfl rfl (fun q3 => ?_) (fun q3 => ?_)
  · replace h := ite_t q3 h
    refine x_c (pc' := 14) rfl rfl ?_
    exact x_iret rfl h
  · replace h := ite_f q3 h
    refine x_al (pc' := 6) rfl rfl (by decide) rfl ?_
    refine x_gr (pc' := 7) (v := 49) rfl rfl rfl (by decide) rfl ?_
    refine x_il (pc' := 8) rfl rfl rfl ?_
    obtain ⟨v5, q4, h⟩ := h
    refine x_call (pc' := 9) (as := [(2, 49), (0, p2)]) (rest := []) rfl rfl rfl rfl rfl rfl q4 ?_
    refine x_ifeq (pc' := 10) (t' := 13) rfl rfl rfl (fun q6 => ?_) (fun q6 => ?_)
    · replace h := ite_t q6 h
      refine x_c (pc' := 14) rfl rfl ?_
      exact x_iret rfl h
    · replace h := ite_f q6 h
      refine x_il (pc' := 11) rfl rfl rfl ?_
      refine x_c (pc' := 12) rfl rfl ?_
      refine x_icle (pc' := 13) (t' := 15) rfl rfl rfl (fun q7 => ?_) (fun q7 => ?_)
      · replace h := ite_t q7 h
        refine x_il (pc' := 16) rfl rfl rfl ?_
        refine x_ifge (pc' := 17) (t' := 19) rfl rfl rfl (fun q8 => ?_) (fun q8 => ?_)
        · replace h := ite_t q8 h
          refine x_al (pc' := 20) rfl rfl (by decide) rfl ?_
          refine x_gr (pc' := 21) (v := 49) rfl rfl rfl (by decide) rfl ?_
          refine x_il (pc' := 22) rfl rfl rfl ?_
          refine x_il (pc' := 23) rfl rfl rfl ?_
          refine x_il (pc' := 24) rfl rfl rfl ?_
          obtain ⟨M10, q9, h⟩ := h
          refine x_callv (pc' := 25) (as := [(2, 49), (0, p1), (0, p2), (0, p3)]) (rest := []) rfl rfl rfl rfl rfl rfl q9 ?_
          refine x_c (pc' := 26) rfl rfl ?_
          exact x_iret rfl h
        · replace h := ite_f q8 h
          refine x_c (pc' := 18) rfl rfl ?_
          exact x_iret rfl h
      · replace h := ite_f q7 h
        refine x_c (pc' := 14) rfl rfl ?_
        exact x_iret rfl h
theorem sg_X_put {d : Nat} {p1 p2 p3 : Int} {M : Mem} {r : Res} (h : ∃ v2, Cl d m_X_placeRefusal [(2, 0), (0, p1), (0, p2)] M (some (0, v2), M) ∧ (if v2 = 0 then ∃ M5, Cl d m_S_putLowest [(2, 49), (0, p1), (0, p2), (1, p3)] M (none, M5) ∧ r = (some (0, 1), M5) else r = (some (0, v2), M))) : Cl (d + 1) m_X_put [(2, 0), (0, p1), (0, p2), (1, p3)] M r := by
  refine cl_of (c := k_X_put) (mL := 6) (rz := 1) (rc := 0) (ls := [(2, 0), (0, p1), (0, p2), (1, p3), (3, 0), (3, 0)]) rfl rfl rfl ?_
  refine x_al (pc' := 1) rfl rfl (by decide) rfl ?_
  refine x_il (pc' := 2) rfl rfl rfl ?_
  refine x_il (pc' := 3) rfl rfl rfl ?_
  obtain ⟨v2, q1, h⟩ := h
  refine x_call (pc' := 4) (as := [(2, 0), (0, p1), (0, p2)]) (rest := []) rfl rfl rfl rfl rfl rfl q1 ?_
  refine x_is (pc' := 5) (ls' := [(2, 0), (0, p1), (0, p2), (1, p3), (3, 0), (0, v2)]) rfl rfl rfl rfl ?_
  refine x_il (pc' := 6) rfl rfl rfl ?_
  refine x_ifeq (pc' := 7) (t' := 9) rfl rfl rfl (fun q3 => ?_) (fun q3 => ?_)
  · replace h := ite_t q3 h
    refine x_al (pc' := 10) rfl rfl (by decide) rfl ?_
    refine x_gr (pc' := 11) (v := 49) rfl rfl rfl (by decide) rfl ?_
    refine x_il (pc' := 12) rfl rfl rfl ?_
    refine x_il (pc' := 13) rfl rfl rfl ?_
    refine x_ll (pc' := 14) rfl rfl rfl ?_
    obtain ⟨M5, q4, h⟩ := h
    refine x_callv (pc' := 15) (as := [(2, 49), (0, p1), (0, p2), (1, p3)]) (rest := []) rfl rfl rfl rfl rfl rfl q4 ?_
    refine x_c (pc' := 16) rfl rfl ?_
    exact x_iret rfl h
  · replace h := ite_f q3 h
    refine x_il (pc' := 8) rfl rfl rfl ?_
    exact x_iret rfl h
theorem sg_X_placeRefusal {d : Nat} {p1 p2 : Int} {M : Mem} {r : Res} (h : ∃ v2, Cl d m_S_rowRefusal [(2, 49), (0, p1), (0, (-1))] M (some (0, v2), M) ∧ (if v2 = 0 then (if p2 < 0 then r = (some (0, (-13)), M) else ∃ v6, Cl d m_S_lengthOf [(2, 49), (0, p1)] M (some (0, v6), M) ∧ (if p2 < v6 then r = (some (0, 0), M) else r = (some (0, (-13)), M))) else r = (some (0, v2), M))) : Cl (d + 1) m_X_placeRefusal [(2, 0), (0, p1), (0, p2)] M r := by
  refine cl_of (c := k_X_placeRefusal) (mL := 4) (rz := 1) (rc := 0) (ls := [(2, 0), (0, p1), (0, p2), (3, 0)]) rfl rfl rfl ?_
  refine x_al (pc' := 1) rfl rfl (by decide) rfl ?_
  refine x_gr (pc' := 2) (v := 49) rfl rfl rfl (by decide) rfl ?_
  refine x_il (pc' := 3) rfl rfl rfl ?_
  refine x_c (pc' := 4) rfl rfl ?_
  obtain ⟨v2, q1, h⟩ := h
  refine x_call (pc' := 5) (as := [(2, 49), (0, p1), (0, (-1))]) (rest := []) rfl rfl rfl rfl rfl rfl q1 ?_
  refine x_is (pc' := 6) (ls' := [(2, 0), (0, p1), (0, p2), (0, v2)]) rfl rfl rfl rfl ?_
  refine x_il (pc' := 7) rfl rfl rfl ?_
  refine x_ifeq (pc' := 8) (t' := 10) rfl rfl rfl (fun q3 => ?_) (fun q3 => ?_)
  · replace h := ite_t q3 h
    refine x_il (pc' := 11) rfl rfl rfl ?_
    refine x_iflt (pc' := 12) (t' := 18) rfl rfl rfl (fun q4 => ?_) (fun q4 => ?_)
    · replace h := ite_t q4 h
      refine x_c (pc' := 19) rfl rfl ?_
      refine x_goto (t' := 21) rfl rfl ?_
      exact x_iret rfl h
    · replace h := ite_f q4 h
      refine x_il (pc' := 13) rfl rfl rfl ?_
      refine x_al (pc' := 14) rfl rfl (by decide) rfl ?_
      refine x_gr (pc' := 15) (v := 49) rfl rfl rfl (by decide) rfl ?_
      refine x_il (pc' := 16) rfl rfl rfl ?_
      obtain ⟨v6, q5, h⟩ := h
      refine x_call (pc' := 17) (as := [(2, 49), (0, p1)]) (rest := [(0, p2)]) rfl rfl rfl rfl rfl rfl q5 ?_
      refine x_iclt (pc' := 18) (t' := 20) rfl rfl rfl (fun q7 => ?_) (fun q7 => ?_)
      · replace h := ite_t q7 h
        refine x_c (pc' := 21) rfl rfl ?_
        exact x_iret rfl h
      · replace h := ite_f q7 h
        refine x_c (pc' := 19) rfl rfl ?_
        refine x_goto (t' := 21) rfl rfl ?_
        exact x_iret rfl h
  · replace h := ite_f q3 h
    refine x_il (pc' := 9) rfl rfl rfl ?_
    exact x_iret rfl h
theorem sg_X_element {d : Nat} {p1 p2 : Int} {M : Mem} {r : Res} (h : ∃ v2, Cl d m_X_placeRefusal [(2, 0), (0, p1), (0, p2)] M (some (0, v2), M) ∧ (if ¬ v2 = 0 then r = (some (1, (-9223372036854775808)), M) else ∃ v5, Cl d m_S_valueAt [(2, 49), (0, p1), (0, p2)] M (some (1, v5), M) ∧ r = (some (1, v5), M))) : Cl (d + 1) m_X_element [(2, 0), (0, p1), (0, p2)] M r := by
  refine cl_of (c := k_X_element) (mL := 3) (rz := 2) (rc := 0) (ls := [(2, 0), (0, p1), (0, p2)]) rfl rfl rfl ?_
  refine x_al (pc' := 1) rfl rfl (by decide) rfl ?_
  refine x_il (pc' := 2) rfl rfl rfl ?_
  refine x_il (pc' := 3) rfl rfl rfl ?_
  obtain ⟨v2, q1, h⟩ := h
  refine x_call (pc' := 4) (as := [(2, 0), (0, p1), (0, p2)]) (rest := []) rfl rfl rfl rfl rfl rfl q1 ?_
  refine x_ifne (pc' := 5) (t' := 11) rfl rfl rfl (fun q3 => ?_) (fun q3 => ?_)
  · replace h := ite_t q3 h
    refine x_lc (pc' := 12) rfl rfl ?_
    exact x_lret rfl h
  · replace h := ite_f q3 h
    refine x_al (pc' := 6) rfl rfl (by decide) rfl ?_
    refine x_gr (pc' := 7) (v := 49) rfl rfl rfl (by decide) rfl ?_
    refine x_il (pc' := 8) rfl rfl rfl ?_
    refine x_il (pc' := 9) rfl rfl rfl ?_
    obtain ⟨v5, q4, h⟩ := h
    refine x_call (pc' := 10) (as := [(2, 49), (0, p1), (0, p2)]) (rest := []) rfl rfl rfl rfl rfl rfl q4 ?_
    refine x_goto (t' := 12) rfl rfl ?_
    exact x_lret rfl h
theorem sg_X_shift {d : Nat} {p1 p2 p3 p4 p5 : Int} {M : Mem} {r : Res} (h : ∃ v2, Cl d m_X_shiftRefusal [(2, 0), (0, p1), (0, p3)] M (some (0, v2), M) ∧ (if v2 = 0 then ∃ v5, Cl d m_S_isStretch [(2, 49), (0, p1), (0, p2), (0, p5)] M (some (0, v5), M) ∧ (if v5 = 0 then r = (some (0, (-13)), M) else ∃ v8, Cl d m_S_isStretch [(2, 49), (0, p3), (0, p4), (0, p5)] M (some (0, v8), M) ∧ (if ¬ v8 = 0 then (0 ≤ p1 ∧ p1 < 6) ∧ (0 ≤ p3 ∧ p3 < 6) ∧ (0 ≤ p2 ∧ 0 ≤ p4 ∧ 0 ≤ p5 ∧ p2 + p5 ≤ 60 ∧ p4 + p5 ≤ 60) ∧ r = (some (0, p5), cpy M ((55 + p1).toNat) ((55 + p3).toNat) p2 p4 p5) else r = (some (0, (-13)), M))) else r = (some (0, v2), M))) : Cl (d + 1) m_X_shift [(2, 0), (0, p1), (0, p2), (0, p3), (0, p4), (0, p5)] M r := by
  refine cl_of (c := k_X_shift) (mL := 7) (rz := 1) (rc := 0) (ls := [(2, 0), (0, p1), (0, p2), (0, p3), (0, p4), (0, p5), (3, 0)]) rfl rfl rfl ?_
  refine x_al (pc' := 1) rfl rfl (by decide) rfl ?_
  refine x_il (pc' := 2) rfl rfl rfl ?_
  refine x_il (pc' := 3) rfl rfl rfl ?_
  obtain ⟨v2, q1, h⟩ := h
  refine x_call (pc' := 4) (as := [(2, 0), (0, p1), (0, p3)]) (rest := []) rfl rfl rfl rfl rfl rfl q1 ?_
  refine x_is (pc' := 5) (ls' := [(2, 0), (0, p1), (0, p2), (0, p3), (0, p4), (0, p5), (0, v2)]) rfl rfl rfl rfl ?_
  refine x_il (pc' := 6) rfl rfl rfl ?_
  refine x_ifeq (pc' := 7) (t' := 9) rfl rfl rfl (fun q3 => ?_) (fun q3 => ?_)
  · replace h := ite_t q3 h
    refine x_al (pc' := 10) rfl rfl (by decide) rfl ?_
    refine x_gr (pc' := 11) (v := 49) rfl rfl rfl (by decide) rfl ?_
    refine x_il (pc' := 12) rfl rfl rfl ?_
    refine x_il (pc' := 13) rfl rfl rfl ?_
    refine x_il (pc' := 14) rfl rfl rfl ?_
    obtain ⟨v5, q4, h⟩ := h
    refine x_call (pc' := 15) (as := [(2, 49), (0, p1), (0, p2), (0, p5)]) (rest := []) rfl rfl rfl rfl rfl rfl q4 ?_
    refine x_ifeq (pc' := 16) (t' := 23) rfl rfl rfl (fun q6 => ?_) (fun q6 => ?_)
    · replace h := ite_t q6 h
      refine x_c (pc' := 24) rfl rfl ?_
      exact x_iret rfl h
    · replace h := ite_f q6 h
      refine x_al (pc' := 17) rfl rfl (by decide) rfl ?_
      refine x_gr (pc' := 18) (v := 49) rfl rfl rfl (by decide) rfl ?_
      refine x_il (pc' := 19) rfl rfl rfl ?_
      refine x_il (pc' := 20) rfl rfl rfl ?_
      refine x_il (pc' := 21) rfl rfl rfl ?_
      obtain ⟨v8, q7, h⟩ := h
      refine x_call (pc' := 22) (as := [(2, 49), (0, p3), (0, p4), (0, p5)]) (rest := []) rfl rfl rfl rfl rfl rfl q7 ?_
      refine x_ifne (pc' := 23) (t' := 25) rfl rfl rfl (fun q9 => ?_) (fun q9 => ?_)
      · replace h := ite_t q9 h
        refine x_al (pc' := 26) rfl rfl (by decide) rfl ?_
        refine x_gr (pc' := 27) (v := 49) rfl rfl rfl (by decide) rfl ?_
        refine x_gr (pc' := 28) (v := 54) rfl rfl rfl (by decide) rfl ?_
        refine x_il (pc' := 29) rfl rfl rfl ?_
        obtain ⟨q10, h⟩ := h
        refine x_aa (pc' := 30) (v := (55 + p1)) 3 6 rfl rfl (Or.inr rfl) q10.1 q10.2 (show rfc 54 p1 = (55 + p1) from if_pos ⟨q10.1, q10.2⟩) (by have := q10.1; omega) rfl ?_
        refine x_il (pc' := 31) rfl rfl rfl ?_
        refine x_al (pc' := 32) rfl rfl (by decide) rfl ?_
        refine x_gr (pc' := 33) (v := 49) rfl rfl rfl (by decide) rfl ?_
        refine x_gr (pc' := 34) (v := 54) rfl rfl rfl (by decide) rfl ?_
        refine x_il (pc' := 35) rfl rfl rfl ?_
        obtain ⟨q11, h⟩ := h
        refine x_aa (pc' := 36) (v := (55 + p3)) 3 6 rfl rfl (Or.inr rfl) q11.1 q11.2 (show rfc 54 p3 = (55 + p3) from if_pos ⟨q11.1, q11.2⟩) (by have := q11.1; omega) rfl ?_
        refine x_il (pc' := 37) rfl rfl rfl ?_
        refine x_il (pc' := 38) rfl rfl rfl ?_
        obtain ⟨⟨q12a, q12b, q12c, q12d, q12e⟩, h⟩ := h
        refine x_cpy (pc' := 39) (ka := 1) (na := 60) (nb := 60) (M2 := cpy M ((55 + p1).toNat) ((55 + p3).toNat) p2 p4 p5) rfl rfl (arK_2l q10.1 q10.2) (arK_2l q11.1 q11.2) (Or.inr rfl) q12a q12b q12c q12d q12e rfl rfl ?_
        refine x_il (pc' := 40) rfl rfl rfl ?_
        exact x_iret rfl h
      · replace h := ite_f q9 h
        refine x_c (pc' := 24) rfl rfl ?_
        exact x_iret rfl h
  · replace h := ite_f q3 h
    refine x_il (pc' := 8) rfl rfl rfl ?_
    exact x_iret rfl h
theorem sg_X_shiftRefusal {d : Nat} {p1 p2 : Int} {M : Mem} {r : Res} (h : ∃ v2, Cl d m_S_rowRefusal [(2, 49), (0, p1), (0, (-1))] M (some (0, v2), M) ∧ ∃ v4, Cl d m_S_rowRefusal [(2, 49), (0, p2), (0, (-1))] M (some (0, v4), M) ∧ (if v2 = 0 then (if v4 = 0 then ∃ v8, Cl d m_S_sortOf [(2, 49), (0, p1)] M (some (0, v8), M) ∧ ∃ v10, Cl d m_S_sortOf [(2, 49), (0, p2)] M (some (0, v10), M) ∧ (if ¬ v8 = v10 then r = (some (0, (-12)), M) else r = (some (0, 0), M)) else r = (some (0, v4), M)) else (if v4 = 0 then (if v2 = 0 then ∃ v15, Cl d m_S_sortOf [(2, 49), (0, p1)] M (some (0, v15), M) ∧ ∃ v17, Cl d m_S_sortOf [(2, 49), (0, p2)] M (some (0, v17), M) ∧ (if ¬ v15 = v17 then r = (some (0, (-12)), M) else r = (some (0, 0), M)) else r = (some (0, v2), M)) else (if v4 ≤ v2 then (if v2 = 0 then ∃ v22, Cl d m_S_sortOf [(2, 49), (0, p1)] M (some (0, v22), M) ∧ ∃ v24, Cl d m_S_sortOf [(2, 49), (0, p2)] M (some (0, v24), M) ∧ (if ¬ v22 = v24 then r = (some (0, (-12)), M) else r = (some (0, 0), M)) else r = (some (0, v2), M)) else (if v4 = 0 then ∃ v28, Cl d m_S_sortOf [(2, 49), (0, p1)] M (some (0, v28), M) ∧ ∃ v30, Cl d m_S_sortOf [(2, 49), (0, p2)] M (some (0, v30), M) ∧ (if ¬ v28 = v30 then r = (some (0, (-12)), M) else r = (some (0, 0), M)) else r = (some (0, v4), M)))))) : Cl (d + 1) m_X_shiftRefusal [(2, 0), (0, p1), (0, p2)] M r := by
  refine cl_of (c := k_X_shiftRefusal) (mL := 6) (rz := 1) (rc := 0) (ls := [(2, 0), (0, p1), (0, p2), (3, 0), (3, 0), (3, 0)]) rfl rfl rfl ?_
  refine x_al (pc' := 1) rfl rfl (by decide) rfl ?_
  refine x_gr (pc' := 2) (v := 49) rfl rfl rfl (by decide) rfl ?_
  refine x_il (pc' := 3) rfl rfl rfl ?_
  refine x_c (pc' := 4) rfl rfl ?_
  obtain ⟨v2, q1, h⟩ := h
  refine x_call (pc' := 5) (as := [(2, 49), (0, p1), (0, (-1))]) (rest := []) rfl rfl rfl rfl rfl rfl q1 ?_
  refine x_is (pc' := 6) (ls' := [(2, 0), (0, p1), (0, p2), (0, v2), (3, 0), (3, 0)]) rfl rfl rfl rfl ?_
  refine x_al (pc' := 7) rfl rfl (by decide) rfl ?_
  refine x_gr (pc' := 8) (v := 49) rfl rfl rfl (by decide) rfl ?_
  refine x_il (pc' := 9) rfl rfl rfl ?_
  refine x_c (pc' := 10) rfl rfl ?_
  obtain ⟨v4, q3, h⟩ := h
  refine x_call (pc' := 11) (as := [(2, 49), (0, p2), (0, (-1))]) (rest := []) rfl rfl rfl rfl rfl rfl q3 ?_
  refine x_is (pc' := 12) (ls' := [(2, 0), (0, p1), (0, p2), (0, v2), (0, v4), (3, 0)]) rfl rfl rfl rfl ?_
  refine x_il (pc' := 13) rfl rfl rfl ?_
  refine x_ifeq (pc' := 14) (t' := 19) rfl rfl rfl (fun q5 => ?_) (fun q5 => ?_)
  · replace h := ite_t q5 h
    refine x_il (pc' := 20) rfl rfl rfl ?_
    refine x_goto (t' := 22) rfl rfl ?_
    refine x_is (pc' := 23) (ls' := [(2, 0), (0, p1), (0, p2), (0, v2), (0, v4), (0, v4)]) rfl rfl rfl rfl ?_
    refine x_il (pc' := 24) rfl rfl rfl ?_
    refine x_ifeq (pc' := 25) (t' := 27) rfl rfl rfl (fun q6 => ?_) (fun q6 => ?_)
    · replace h := ite_t q6 h
      refine x_al (pc' := 28) rfl rfl (by decide) rfl ?_
      refine x_gr (pc' := 29) (v := 49) rfl rfl rfl (by decide) rfl ?_
      refine x_il (pc' := 30) rfl rfl rfl ?_
      obtain ⟨v8, q7, h⟩ := h
      refine x_call (pc' := 31) (as := [(2, 49), (0, p1)]) (rest := []) rfl rfl rfl rfl rfl rfl q7 ?_
      refine x_al (pc' := 32) rfl rfl (by decide) rfl ?_
      refine x_gr (pc' := 33) (v := 49) rfl rfl rfl (by decide) rfl ?_
      refine x_il (pc' := 34) rfl rfl rfl ?_
      obtain ⟨v10, q9, h⟩ := h
      refine x_call (pc' := 35) (as := [(2, 49), (0, p2)]) (rest := [(0, v8)]) rfl rfl rfl rfl rfl rfl q9 ?_
      refine x_icne (pc' := 36) (t' := 38) rfl rfl rfl (fun q11 => ?_) (fun q11 => ?_)
      · replace h := ite_t q11 h
        refine x_c (pc' := 39) rfl rfl ?_
        exact x_iret rfl h
      · replace h := ite_f q11 h
        refine x_c (pc' := 37) rfl rfl ?_
        refine x_goto (t' := 39) rfl rfl ?_
        exact x_iret rfl h
    · replace h := ite_f q6 h
      refine x_il (pc' := 26) rfl rfl rfl ?_
      exact x_iret rfl h
  · replace h := ite_f q5 h
    refine x_il (pc' := 15) rfl rfl rfl ?_
    refine x_ifeq (pc' := 16) (t' := 21) rfl rfl rfl (fun q12 => ?_) (fun q12 => ?_)
    · replace h := ite_t q12 h
      refine x_il (pc' := 22) rfl rfl rfl ?_
      refine x_is (pc' := 23) (ls' := [(2, 0), (0, p1), (0, p2), (0, v2), (0, v4), (0, v2)]) rfl rfl rfl rfl ?_
      refine x_il (pc' := 24) rfl rfl rfl ?_
      refine x_ifeq (pc' := 25) (t' := 27) rfl rfl rfl (fun q13 => ?_) (fun q13 => ?_)
      · replace h := ite_t q13 h
        refine x_al (pc' := 28) rfl rfl (by decide) rfl ?_
        refine x_gr (pc' := 29) (v := 49) rfl rfl rfl (by decide) rfl ?_
        refine x_il (pc' := 30) rfl rfl rfl ?_
        obtain ⟨v15, q14, h⟩ := h
        refine x_call (pc' := 31) (as := [(2, 49), (0, p1)]) (rest := []) rfl rfl rfl rfl rfl rfl q14 ?_
        refine x_al (pc' := 32) rfl rfl (by decide) rfl ?_
        refine x_gr (pc' := 33) (v := 49) rfl rfl rfl (by decide) rfl ?_
        refine x_il (pc' := 34) rfl rfl rfl ?_
        obtain ⟨v17, q16, h⟩ := h
        refine x_call (pc' := 35) (as := [(2, 49), (0, p2)]) (rest := [(0, v15)]) rfl rfl rfl rfl rfl rfl q16 ?_
        refine x_icne (pc' := 36) (t' := 38) rfl rfl rfl (fun q18 => ?_) (fun q18 => ?_)
        · replace h := ite_t q18 h
          refine x_c (pc' := 39) rfl rfl ?_
          exact x_iret rfl h
        · replace h := ite_f q18 h
          refine x_c (pc' := 37) rfl rfl ?_
          refine x_goto (t' := 39) rfl rfl ?_
          exact x_iret rfl h
      · replace h := ite_f q13 h
        refine x_il (pc' := 26) rfl rfl rfl ?_
        exact x_iret rfl h
    · replace h := ite_f q12 h
      refine x_il (pc' := 17) rfl rfl rfl ?_
      refine x_il (pc' := 18) rfl rfl rfl ?_
      refine x_icle (pc' := 19) (t' := 21) rfl rfl rfl (fun q19 => ?_) (fun q19 => ?_)
      · replace h := ite_t q19 h
        refine x_il (pc' := 22) rfl rfl rfl ?_
        refine x_is (pc' := 23) (ls' := [(2, 0), (0, p1), (0, p2), (0, v2), (0, v4), (0, v2)]) rfl rfl rfl rfl ?_
        refine x_il (pc' := 24) rfl rfl rfl ?_
        refine x_ifeq (pc' := 25) (t' := 27) rfl rfl rfl (fun q20 => ?_) (fun q20 => ?_)
        · replace h := ite_t q20 h
          refine x_al (pc' := 28) rfl rfl (by decide) rfl ?_
          refine x_gr (pc' := 29) (v := 49) rfl rfl rfl (by decide) rfl ?_
          refine x_il (pc' := 30) rfl rfl rfl ?_
          obtain ⟨v22, q21, h⟩ := h
          refine x_call (pc' := 31) (as := [(2, 49), (0, p1)]) (rest := []) rfl rfl rfl rfl rfl rfl q21 ?_
          refine x_al (pc' := 32) rfl rfl (by decide) rfl ?_
          refine x_gr (pc' := 33) (v := 49) rfl rfl rfl (by decide) rfl ?_
          refine x_il (pc' := 34) rfl rfl rfl ?_
          obtain ⟨v24, q23, h⟩ := h
          refine x_call (pc' := 35) (as := [(2, 49), (0, p2)]) (rest := [(0, v22)]) rfl rfl rfl rfl rfl rfl q23 ?_
          refine x_icne (pc' := 36) (t' := 38) rfl rfl rfl (fun q25 => ?_) (fun q25 => ?_)
          · replace h := ite_t q25 h
            refine x_c (pc' := 39) rfl rfl ?_
            exact x_iret rfl h
          · replace h := ite_f q25 h
            refine x_c (pc' := 37) rfl rfl ?_
            refine x_goto (t' := 39) rfl rfl ?_
            exact x_iret rfl h
        · replace h := ite_f q20 h
          refine x_il (pc' := 26) rfl rfl rfl ?_
          exact x_iret rfl h
      · replace h := ite_f q19 h
        refine x_il (pc' := 20) rfl rfl rfl ?_
        refine x_goto (t' := 22) rfl rfl ?_
        refine x_is (pc' := 23) (ls' := [(2, 0), (0, p1), (0, p2), (0, v2), (0, v4), (0, v4)]) rfl rfl rfl rfl ?_
        refine x_il (pc' := 24) rfl rfl rfl ?_
        refine x_ifeq (pc' := 25) (t' := 27) rfl rfl rfl (fun q26 => ?_) (fun q26 => ?_)
        · replace h := ite_t q26 h
          refine x_al (pc' := 28) rfl rfl (by decide) rfl ?_
          refine x_gr (pc' := 29) (v := 49) rfl rfl rfl (by decide) rfl ?_
          refine x_il (pc' := 30) rfl rfl rfl ?_
          obtain ⟨v28, q27, h⟩ := h
          refine x_call (pc' := 31) (as := [(2, 49), (0, p1)]) (rest := []) rfl rfl rfl rfl rfl rfl q27 ?_
          refine x_al (pc' := 32) rfl rfl (by decide) rfl ?_
          refine x_gr (pc' := 33) (v := 49) rfl rfl rfl (by decide) rfl ?_
          refine x_il (pc' := 34) rfl rfl rfl ?_
          obtain ⟨v30, q29, h⟩ := h
          refine x_call (pc' := 35) (as := [(2, 49), (0, p2)]) (rest := [(0, v28)]) rfl rfl rfl rfl rfl rfl q29 ?_
          refine x_icne (pc' := 36) (t' := 38) rfl rfl rfl (fun q31 => ?_) (fun q31 => ?_)
          · replace h := ite_t q31 h
            refine x_c (pc' := 39) rfl rfl ?_
            exact x_iret rfl h
          · replace h := ite_f q31 h
            refine x_c (pc' := 37) rfl rfl ?_
            refine x_goto (t' := 39) rfl rfl ?_
            exact x_iret rfl h
        · replace h := ite_f q26 h
          refine x_il (pc' := 26) rfl rfl rfl ?_
          exact x_iret rfl h
theorem sg_X_taken {d : Nat} {p1 p2 : Int} {M : Mem} {r : Res} (h : ∃ v2, Cl d m_S_has [(2, 49), (0, p1)] M (some (0, v2), M) ∧ (if v2 = 0 then r = (some (0, (-1)), M) else ∃ v5, Cl d m_P_isKind [(2, 46), (0, p2)] M (some (0, v5), M) ∧ (if ¬ v5 = 0 then ∃ v8, Cl d m_S_isEmpty [(2, 49), (0, p1)] M (some (0, v8), M) ∧ (if v8 = 0 then ∃ v11, Cl d m_S_bodyOn [(2, 49), (0, p1)] M (some (0, v11), M) ∧ ∃ v13, Cl d m_P_kindOf [(2, 46), (0, v11)] M (some (0, v13), M) ∧ ∃ v15, Cl d m_P_isUnder [(2, 46), (0, v13), (0, p2)] M (some (0, v15), M) ∧ (if v15 = 0 then r = (some (0, (-12)), M) else r = (some (0, v13), M)) else r = (some (0, (-11)), M)) else r = (some (0, (-1)), M)))) : Cl (d + 1) m_X_taken [(2, 0), (0, p1), (0, p2)] M r := by
  refine cl_of (c := k_X_taken) (mL := 4) (rz := 1) (rc := 0) (ls := [(2, 0), (0, p1), (0, p2), (3, 0)]) rfl rfl rfl ?_
  refine x_al (pc' := 1) rfl rfl (by decide) rfl ?_
  refine x_gr (pc' := 2) (v := 49) rfl rfl rfl (by decide) rfl ?_
  refine x_il (pc' := 3) rfl rfl rfl ?_
  obtain ⟨v2, q1, h⟩ := h
  refine x_call (pc' := 4) (as := [(2, 49), (0, p1)]) (rest := []) rfl rfl rfl rfl rfl rfl q1 ?_
  refine x_ifeq (pc' := 5) (t' := 10) rfl rfl rfl (fun q3 => ?_) (fun q3 => ?_)
  · replace h := ite_t q3 h
    refine x_c (pc' := 11) rfl rfl ?_
    exact x_iret rfl h
  · replace h := ite_f q3 h
    refine x_al (pc' := 6) rfl rfl (by decide) rfl ?_
    refine x_gr (pc' := 7) (v := 46) rfl rfl rfl (by decide) rfl ?_
    refine x_il (pc' := 8) rfl rfl rfl ?_
    obtain ⟨v5, q4, h⟩ := h
    refine x_call (pc' := 9) (as := [(2, 46), (0, p2)]) (rest := []) rfl rfl rfl rfl rfl rfl q4 ?_
    refine x_ifne (pc' := 10) (t' := 12) rfl rfl rfl (fun q6 => ?_) (fun q6 => ?_)
    · replace h := ite_t q6 h
      refine x_al (pc' := 13) rfl rfl (by decide) rfl ?_
      refine x_gr (pc' := 14) (v := 49) rfl rfl rfl (by decide) rfl ?_
      refine x_il (pc' := 15) rfl rfl rfl ?_
      obtain ⟨v8, q7, h⟩ := h
      refine x_call (pc' := 16) (as := [(2, 49), (0, p1)]) (rest := []) rfl rfl rfl rfl rfl rfl q7 ?_
      refine x_ifeq (pc' := 17) (t' := 19) rfl rfl rfl (fun q9 => ?_) (fun q9 => ?_)
      · replace h := ite_t q9 h
        refine x_al (pc' := 20) rfl rfl (by decide) rfl ?_
        refine x_gr (pc' := 21) (v := 46) rfl rfl rfl (by decide) rfl ?_
        refine x_al (pc' := 22) rfl rfl (by decide) rfl ?_
        refine x_gr (pc' := 23) (v := 49) rfl rfl rfl (by decide) rfl ?_
        refine x_il (pc' := 24) rfl rfl rfl ?_
        obtain ⟨v11, q10, h⟩ := h
        refine x_call (pc' := 25) (as := [(2, 49), (0, p1)]) (rest := [(2, 46)]) rfl rfl rfl rfl rfl rfl q10 ?_
        obtain ⟨v13, q12, h⟩ := h
        refine x_call (pc' := 26) (as := [(2, 46), (0, v11)]) (rest := []) rfl rfl rfl rfl rfl rfl q12 ?_
        refine x_is (pc' := 27) (ls' := [(2, 0), (0, p1), (0, p2), (0, v13)]) rfl rfl rfl rfl ?_
        refine x_al (pc' := 28) rfl rfl (by decide) rfl ?_
        refine x_gr (pc' := 29) (v := 46) rfl rfl rfl (by decide) rfl ?_
        refine x_il (pc' := 30) rfl rfl rfl ?_
        refine x_il (pc' := 31) rfl rfl rfl ?_
        obtain ⟨v15, q14, h⟩ := h
        refine x_call (pc' := 32) (as := [(2, 46), (0, v13), (0, p2)]) (rest := []) rfl rfl rfl rfl rfl rfl q14 ?_
        refine x_ifeq (pc' := 33) (t' := 35) rfl rfl rfl (fun q16 => ?_) (fun q16 => ?_)
        · replace h := ite_t q16 h
          refine x_c (pc' := 36) rfl rfl ?_
          exact x_iret rfl h
        · replace h := ite_f q16 h
          refine x_il (pc' := 34) rfl rfl rfl ?_
          refine x_goto (t' := 36) rfl rfl ?_
          exact x_iret rfl h
      · replace h := ite_f q9 h
        refine x_c (pc' := 18) rfl rfl ?_
        exact x_iret rfl h
    · replace h := ite_f q6 h
      refine x_c (pc' := 11) rfl rfl ?_
      exact x_iret rfl h
theorem sg_X_count {d : Nat} {p1 : Int} {M : Mem} {r : Res} (h : (if p1 = 0 then r = (some (0, M 1 5), M) else (if p1 = 1 then ∃ v4, Cl d m_C_countFiled [(2, 1)] M (some (0, v4), M) ∧ r = (some (0, v4), M) else (if p1 = 2 then r = (some (0, M 31 5), M) else (if p1 = 3 then r = (some (0, M 37 4), M) else (if p1 = 4 then r = (some (0, M 46 2), M) else (if p1 = 5 then r = (some (0, M 46 3), M) else r = (some (0, (-1)), M)))))))) : Cl (d + 1) m_X_count [(2, 0), (0, p1)] M r := by
  refine cl_of (c := k_X_count) (mL := 2) (rz := 1) (rc := 0) (ls := [(2, 0), (0, p1)]) rfl rfl rfl ?_
  refine x_il (pc' := 1) rfl rfl rfl ?_
  by_cases q1 : p1 = 0
  · replace h := ite_t q1 h
    refine x_tswv (t' := 2) 0 rfl q1 rfl rfl ?_
    refine x_al (pc' := 3) rfl rfl (by decide) rfl ?_
    refine x_gr (pc' := 4) (v := 1) rfl rfl rfl (by decide) rfl ?_
    refine x_gf (pc' := 5) (v := M 1 5) rfl rfl rfl rfl rfl ?_
    exact x_iret rfl h
  replace h := ite_f q1 h
  by_cases q2 : p1 = 1
  · replace h := ite_t q2 h
    refine x_tswv (t' := 6) 1 rfl q2 rfl rfl ?_
    refine x_al (pc' := 7) rfl rfl (by decide) rfl ?_
    refine x_gr (pc' := 8) (v := 1) rfl rfl rfl (by decide) rfl ?_
    obtain ⟨v4, q3, h⟩ := h
    refine x_call (pc' := 9) (as := [(2, 1)]) (rest := []) rfl rfl rfl rfl rfl rfl q3 ?_
    exact x_iret rfl h
  replace h := ite_f q2 h
  by_cases q5 : p1 = 2
  · replace h := ite_t q5 h
    refine x_tswv (t' := 10) 2 rfl q5 rfl rfl ?_
    refine x_al (pc' := 11) rfl rfl (by decide) rfl ?_
    refine x_gr (pc' := 12) (v := 31) rfl rfl rfl (by decide) rfl ?_
    refine x_gf (pc' := 13) (v := M 31 5) rfl rfl rfl rfl rfl ?_
    exact x_iret rfl h
  replace h := ite_f q5 h
  by_cases q6 : p1 = 3
  · replace h := ite_t q6 h
    refine x_tswv (t' := 14) 3 rfl q6 rfl rfl ?_
    refine x_al (pc' := 15) rfl rfl (by decide) rfl ?_
    refine x_gr (pc' := 16) (v := 37) rfl rfl rfl (by decide) rfl ?_
    refine x_gf (pc' := 17) (v := M 37 4) rfl rfl rfl rfl rfl ?_
    exact x_iret rfl h
  replace h := ite_f q6 h
  by_cases q7 : p1 = 4
  · replace h := ite_t q7 h
    refine x_tswv (t' := 18) 4 rfl q7 rfl rfl ?_
    refine x_al (pc' := 19) rfl rfl (by decide) rfl ?_
    refine x_gr (pc' := 20) (v := 46) rfl rfl rfl (by decide) rfl ?_
    refine x_gf (pc' := 21) (v := M 46 2) rfl rfl rfl rfl rfl ?_
    exact x_iret rfl h
  replace h := ite_f q7 h
  by_cases q8 : p1 = 5
  · replace h := ite_t q8 h
    refine x_tswv (t' := 22) 5 rfl q8 rfl rfl ?_
    refine x_al (pc' := 23) rfl rfl (by decide) rfl ?_
    refine x_gr (pc' := 24) (v := 46) rfl rfl rfl (by decide) rfl ?_
    refine x_gf (pc' := 25) (v := M 46 3) rfl rfl rfl rfl rfl ?_
    exact x_iret rfl h
  replace h := ite_f q8 h
  refine x_tswd (t' := 26) rfl (show p1 < 0 ∨ 0 + ((6 : Nat) : Int) ≤ p1 by omega) rfl ?_
  refine x_c (pc' := 27) rfl rfl ?_
  exact x_iret rfl h
theorem sg_C_has {d : Nat} {p1 : Int} {M : Mem} {r : Res} (h : (if p1 < 0 then r = (some (0, 0), M) else (if M 1 5 ≤ p1 then r = (some (0, 0), M) else r = (some (0, 1), M)))) : Cl (d + 1) m_C_has [(2, 1), (0, p1)] M r := by
  refine cl_of (c := k_C_has) (mL := 2) (rz := 3) (rc := 1) (ls := [(2, 1), (0, p1)]) rfl rfl rfl ?_
  refine x_il (pc' := 1) rfl rfl rfl ?_
  refine x_iflt (pc' := 2) (t' := 8) rfl rfl rfl (fun q1 => ?_) (fun q1 => ?_)
  · replace h := ite_t q1 h
    refine x_c (pc' := 9) rfl rfl ?_
    exact x_zret rfl (by decide) h
  · replace h := ite_f q1 h
    refine x_il (pc' := 3) rfl rfl rfl ?_
    refine x_al (pc' := 4) rfl rfl (by decide) rfl ?_
    refine x_gf (pc' := 5) (v := M 1 5) rfl rfl rfl rfl rfl ?_
    refine x_icge (pc' := 6) (t' := 8) rfl rfl rfl (fun q2 => ?_) (fun q2 => ?_)
    · replace h := ite_t q2 h
      refine x_c (pc' := 9) rfl rfl ?_
      exact x_zret rfl (by decide) h
    · replace h := ite_f q2 h
      refine x_c (pc' := 7) rfl rfl ?_
      refine x_goto (t' := 9) rfl rfl ?_
      exact x_zret rfl (by decide) h
def at_C_addPlain_22 (d : Nat) (l1 : Int) (l2 : Int) (M : Mem) (r : Res) : Prop := Ex sx0 d k_C_addPlain 1 22 [(2, 1), (0, l1), (0, l2)] [] M r
theorem sg_C_addPlain {d : Nat} {M : Mem} {r : Res} (h : (if M 1 5 < 12 then (0 ≤ M 1 5 ∧ M 1 5 < 12) ∧ at_C_addPlain_22 d (M 1 5) 0 (up (up M 1 5 (w32 ((M 1 5) + 1))) 30 (M 1 5) (-2000000000)) r else r = (some (0, (-3)), M))) : Cl (d + 1) m_C_addPlain [(2, 1)] M r := by
  refine cl_of (c := k_C_addPlain) (mL := 3) (rz := 1) (rc := 1) (ls := [(2, 1), (3, 0), (3, 0)]) rfl rfl rfl ?_
  refine x_al (pc' := 1) rfl rfl (by decide) rfl ?_
  refine x_gf (pc' := 2) (v := M 1 5) rfl rfl rfl rfl rfl ?_
  refine x_c (pc' := 3) rfl rfl ?_
  refine x_iclt (pc' := 4) (t' := 6) rfl rfl rfl (fun q1 => ?_) (fun q1 => ?_)
  · replace h := ite_t q1 h
    refine x_al (pc' := 7) rfl rfl (by decide) rfl ?_
    refine x_gf (pc' := 8) (v := M 1 5) rfl rfl rfl rfl rfl ?_
    refine x_is (pc' := 9) (ls' := [(2, 1), (0, M 1 5), (3, 0)]) rfl rfl rfl rfl ?_
    refine x_al (pc' := 10) rfl rfl (by decide) rfl ?_
    refine x_dupa (pc' := 11) rfl rfl ?_
    refine x_gf (pc' := 12) (v := M 1 5) rfl rfl rfl rfl rfl ?_
    refine x_c (pc' := 13) rfl rfl ?_
    refine x_ib (pc' := 14) (v := w32 ((M 1 5) + 1)) rfl rfl rfl ?_
    refine x_pf (pc' := 15) (M2 := up M 1 5 (w32 ((M 1 5) + 1))) rfl rfl rfl rfl ?_
    refine x_al (pc' := 16) rfl rfl (by decide) rfl ?_
    refine x_gr (pc' := 17) (v := 30) rfl rfl rfl (by decide) rfl ?_
    refine x_il (pc' := 18) rfl rfl rfl ?_
    refine x_c (pc' := 19) rfl rfl ?_
    obtain ⟨q2, h⟩ := h
    refine x_ist (pc' := 20) 12 (M2 := up (up M 1 5 (w32 ((M 1 5) + 1))) 30 (M 1 5) (-2000000000)) rfl rfl rfl q2.1 q2.2 rfl ?_
    refine x_c (pc' := 21) rfl rfl ?_
    refine x_is (pc' := 22) (ls' := [(2, 1), (0, M 1 5), (0, 0)]) rfl rfl rfl rfl ?_
    exact h
  · replace h := ite_f q1 h
    refine x_c (pc' := 5) rfl rfl ?_
    exact x_iret rfl h
theorem sg_C_addPlain_22 {d : Nat} {l1 : Int} {l2 : Int} {M : Mem} {r : Res} (h : (if 10 ≤ l2 then r = (some (0, l1), M) else ∃ M3, Cl d m_C_tellSort [(2, 1), (0, l1), (0, l2), (0, 1)] M (none, M3) ∧ ∃ M5, Cl d m_C_tellRidges [(2, 1), (0, l1), (0, l2), (0, 10)] M3 (none, M5) ∧ at_C_addPlain_22 d l1 (w32 (l2 + 1)) M5 r)) : at_C_addPlain_22 d l1 l2 M r := by
  unfold at_C_addPlain_22
  refine x_il (pc' := 23) rfl rfl rfl ?_
  refine x_c (pc' := 24) rfl rfl ?_
  refine x_icge (pc' := 25) (t' := 37) rfl rfl rfl (fun q1 => ?_) (fun q1 => ?_)
  · replace h := ite_t q1 h
    refine x_il (pc' := 38) rfl rfl rfl ?_
    exact x_iret rfl h
  · replace h := ite_f q1 h
    refine x_al (pc' := 26) rfl rfl (by decide) rfl ?_
    refine x_il (pc' := 27) rfl rfl rfl ?_
    refine x_il (pc' := 28) rfl rfl rfl ?_
    refine x_c (pc' := 29) rfl rfl ?_
    obtain ⟨M3, q2, h⟩ := h
    refine x_callv (pc' := 30) (as := [(2, 1), (0, l1), (0, l2), (0, 1)]) (rest := []) rfl rfl rfl rfl rfl rfl q2 ?_
    refine x_al (pc' := 31) rfl rfl (by decide) rfl ?_
    refine x_il (pc' := 32) rfl rfl rfl ?_
    refine x_il (pc' := 33) rfl rfl rfl ?_
    refine x_c (pc' := 34) rfl rfl ?_
    obtain ⟨M5, q4, h⟩ := h
    refine x_callv (pc' := 35) (as := [(2, 1), (0, l1), (0, l2), (0, 10)]) (rest := []) rfl rfl rfl rfl rfl rfl q4 ?_
    refine x_inc (pc' := 36) (ls' := [(2, 1), (0, l1), (0, w32 (l2 + 1))]) rfl rfl rfl rfl ?_
    refine x_goto (t' := 22) rfl rfl ?_
    exact h
theorem sg_C_tellSort {d : Nat} {p1 p2 p3 : Int} {M : Mem} {r : Res} (h : ∃ v2, Cl d m_C_has [(2, 1), (0, p1)] M (some (0, v2), M) ∧ (if v2 = 0 then r = (none, M) else ∃ v5, Cl d m_X_isFinger [(0, p2)] M (some (0, v5), M) ∧ (if ¬ v5 = 0 then ∃ v8, Cl d m_X_drawerBit [(0, p2)] M (some (0, v8), M) ∧ (0 ≤ p1 ∧ p1 < 12) ∧ (0 ≤ p2 ∧ p2 < 10) ∧ (if ¬ p3 = 3 then (0 ≤ p1 ∧ p1 < 12) ∧ (0 ≤ p1 ∧ p1 < 12) ∧ (if p3 = 4 then (0 ≤ p1 ∧ p1 < 12) ∧ (0 ≤ p1 ∧ p1 < 12) ∧ r = (none, up (up (up M ((3 + p1).toNat) p2 p3) 28 p1 (iand ((up M ((3 + p1).toNat) p2 p3) 28 p1) (ixor v8 (-1)))) 29 p1 (ior ((up (up M ((3 + p1).toNat) p2 p3) 28 p1 (iand ((up M ((3 + p1).toNat) p2 p3) 28 p1) (ixor v8 (-1)))) 29 p1) v8)) else (if ¬ p3 = 5 then (0 ≤ p1 ∧ p1 < 12) ∧ (0 ≤ p1 ∧ p1 < 12) ∧ r = (none, up (up (up M ((3 + p1).toNat) p2 p3) 28 p1 (iand ((up M ((3 + p1).toNat) p2 p3) 28 p1) (ixor v8 (-1)))) 29 p1 (iand ((up (up M ((3 + p1).toNat) p2 p3) 28 p1 (iand ((up M ((3 + p1).toNat) p2 p3) 28 p1) (ixor v8 (-1)))) 29 p1) (ixor v8 (-1)))) else (0 ≤ p1 ∧ p1 < 12) ∧ (0 ≤ p1 ∧ p1 < 12) ∧ r = (none, up (up (up M ((3 + p1).toNat) p2 p3) 28 p1 (iand ((up M ((3 + p1).toNat) p2 p3) 28 p1) (ixor v8 (-1)))) 29 p1 (ior ((up (up M ((3 + p1).toNat) p2 p3) 28 p1 (iand ((up M ((3 + p1).toNat) p2 p3) 28 p1) (ixor v8 (-1)))) 29 p1) v8)))) else (0 ≤ p1 ∧ p1 < 12) ∧ (0 ≤ p1 ∧ p1 < 12) ∧ (if p3 = 4 then (0 ≤ p1 ∧ p1 < 12) ∧ (0 ≤ p1 ∧ p1 < 12) ∧ r = (none, up (up (up M ((3 + p1).toNat) p2 p3) 28 p1 (ior ((up M ((3 + p1).toNat) p2 p3) 28 p1) v8)) 29 p1 (ior ((up (up M ((3 + p1).toNat) p2 p3) 28 p1 (ior ((up M ((3 + p1).toNat) p2 p3) 28 p1) v8)) 29 p1) v8)) else (if ¬ p3 = 5 then (0 ≤ p1 ∧ p1 < 12) ∧ (0 ≤ p1 ∧ p1 < 12) ∧ r = (none, up (up (up M ((3 + p1).toNat) p2 p3) 28 p1 (ior ((up M ((3 + p1).toNat) p2 p3) 28 p1) v8)) 29 p1 (iand ((up (up M ((3 + p1).toNat) p2 p3) 28 p1 (ior ((up M ((3 + p1).toNat) p2 p3) 28 p1) v8)) 29 p1) (ixor v8 (-1)))) else (0 ≤ p1 ∧ p1 < 12) ∧ (0 ≤ p1 ∧ p1 < 12) ∧ r = (none, up (up (up M ((3 + p1).toNat) p2 p3) 28 p1 (ior ((up M ((3 + p1).toNat) p2 p3) 28 p1) v8)) 29 p1 (ior ((up (up M ((3 + p1).toNat) p2 p3) 28 p1 (ior ((up M ((3 + p1).toNat) p2 p3) 28 p1) v8)) 29 p1) v8))))) else r = (none, M)))) : Cl (d + 1) m_C_tellSort [(2, 1), (0, p1), (0, p2), (0, p3)] M r := by
  refine cl_of (c := k_C_tellSort) (mL := 5) (rz := 0) (rc := 1) (ls := [(2, 1), (0, p1), (0, p2), (0, p3), (3, 0)]) rfl rfl rfl ?_
  refine x_al (pc' := 1) rfl rfl (by decide) rfl ?_
  refine x_il (pc' := 2) rfl rfl rfl ?_
  obtain ⟨v2, q1, h⟩ := h
  refine x_call (pc' := 3) (as := [(2, 1), (0, p1)]) (rest := []) rfl rfl rfl rfl rfl rfl q1 ?_
  refine x_ifeq (pc' := 4) (t' := 7) rfl rfl rfl (fun q3 => ?_) (fun q3 => ?_)
  · replace h := ite_t q3 h
    exact x_ret rfl h
  · replace h := ite_f q3 h
    refine x_il (pc' := 5) rfl rfl rfl ?_
    obtain ⟨v5, q4, h⟩ := h
    refine x_call (pc' := 6) (as := [(0, p2)]) (rest := []) rfl rfl rfl rfl rfl rfl q4 ?_
    refine x_ifne (pc' := 7) (t' := 8) rfl rfl rfl (fun q6 => ?_) (fun q6 => ?_)
    · replace h := ite_t q6 h
      refine x_il (pc' := 9) rfl rfl rfl ?_
      obtain ⟨v8, q7, h⟩ := h
      refine x_call (pc' := 10) (as := [(0, p2)]) (rest := []) rfl rfl rfl rfl rfl rfl q7 ?_
      refine x_is (pc' := 11) (ls' := [(2, 1), (0, p1), (0, p2), (0, p3), (0, v8)]) rfl rfl rfl rfl ?_
      refine x_al (pc' := 12) rfl rfl (by decide) rfl ?_
      refine x_gr (pc' := 13) (v := 2) rfl rfl rfl (by decide) rfl ?_
      refine x_il (pc' := 14) rfl rfl rfl ?_
      obtain ⟨q9, h⟩ := h
      refine x_aa (pc' := 15) (v := (3 + p1)) 2 12 rfl rfl (Or.inl rfl) q9.1 q9.2 (show rfc 2 p1 = (3 + p1) from if_pos ⟨q9.1, q9.2⟩) (by have := q9.1; omega) rfl ?_
      refine x_il (pc' := 16) rfl rfl rfl ?_
      refine x_il (pc' := 17) rfl rfl rfl ?_
      obtain ⟨q10, h⟩ := h
      refine x_ist (pc' := 18) 10 (M2 := up M ((3 + p1).toNat) p2 p3) rfl rfl (arK_2d q9.1 q9.2 (Or.inl rfl)) q10.1 q10.2 rfl ?_
      refine x_al (pc' := 19) rfl rfl (by decide) rfl ?_
      refine x_gr (pc' := 20) (v := 28) rfl rfl rfl (by decide) rfl ?_
      refine x_il (pc' := 21) rfl rfl rfl ?_
      refine x_il (pc' := 22) rfl rfl rfl ?_
      refine x_c (pc' := 23) rfl rfl ?_
      refine x_icne (pc' := 24) (t' := 31) rfl rfl rfl (fun q11 => ?_) (fun q11 => ?_)
      · replace h := ite_t q11 h
        refine x_al (pc' := 32) rfl rfl (by decide) rfl ?_
        refine x_gr (pc' := 33) (v := 28) rfl rfl rfl (by decide) rfl ?_
        refine x_il (pc' := 34) rfl rfl rfl ?_
        obtain ⟨q12, h⟩ := h
        refine x_ia (pc' := 35) 12 (v := (up M ((3 + p1).toNat) p2 p3) 28 p1) rfl rfl rfl q12.1 q12.2 rfl ?_
        refine x_il (pc' := 36) rfl rfl rfl ?_
        refine x_c (pc' := 37) rfl rfl ?_
        refine x_ib (pc' := 38) (v := ixor v8 (-1)) rfl rfl rfl ?_
        refine x_ib (pc' := 39) (v := iand ((up M ((3 + p1).toNat) p2 p3) 28 p1) (ixor v8 (-1))) rfl rfl rfl ?_
        obtain ⟨q13, h⟩ := h
        refine x_ist (pc' := 40) 12 (M2 := up (up M ((3 + p1).toNat) p2 p3) 28 p1 (iand ((up M ((3 + p1).toNat) p2 p3) 28 p1) (ixor v8 (-1)))) rfl rfl rfl q13.1 q13.2 rfl ?_
        refine x_al (pc' := 41) rfl rfl (by decide) rfl ?_
        refine x_gr (pc' := 42) (v := 29) rfl rfl rfl (by decide) rfl ?_
        refine x_il (pc' := 43) rfl rfl rfl ?_
        refine x_il (pc' := 44) rfl rfl rfl ?_
        refine x_c (pc' := 45) rfl rfl ?_
        refine x_iceq (pc' := 46) (t' := 49) rfl rfl rfl (fun q14 => ?_) (fun q14 => ?_)
        · replace h := ite_t q14 h
          refine x_al (pc' := 50) rfl rfl (by decide) rfl ?_
          refine x_gr (pc' := 51) (v := 29) rfl rfl rfl (by decide) rfl ?_
          refine x_il (pc' := 52) rfl rfl rfl ?_
          obtain ⟨q15, h⟩ := h
          refine x_ia (pc' := 53) 12 (v := (up (up M ((3 + p1).toNat) p2 p3) 28 p1 (iand ((up M ((3 + p1).toNat) p2 p3) 28 p1) (ixor v8 (-1)))) 29 p1) rfl rfl rfl q15.1 q15.2 rfl ?_
          refine x_il (pc' := 54) rfl rfl rfl ?_
          refine x_ib (pc' := 55) (v := ior ((up (up M ((3 + p1).toNat) p2 p3) 28 p1 (iand ((up M ((3 + p1).toNat) p2 p3) 28 p1) (ixor v8 (-1)))) 29 p1) v8) rfl rfl rfl ?_
          refine x_goto (t' := 64) rfl rfl ?_
          obtain ⟨q16, h⟩ := h
          refine x_ist (pc' := 65) 12 (M2 := up (up (up M ((3 + p1).toNat) p2 p3) 28 p1 (iand ((up M ((3 + p1).toNat) p2 p3) 28 p1) (ixor v8 (-1)))) 29 p1 (ior ((up (up M ((3 + p1).toNat) p2 p3) 28 p1 (iand ((up M ((3 + p1).toNat) p2 p3) 28 p1) (ixor v8 (-1)))) 29 p1) v8)) rfl rfl rfl q16.1 q16.2 rfl ?_
          exact x_ret rfl h
        · replace h := ite_f q14 h
          refine x_il (pc' := 47) rfl rfl rfl ?_
          refine x_c (pc' := 48) rfl rfl ?_
          refine x_icne (pc' := 49) (t' := 56) rfl rfl rfl (fun q17 => ?_) (fun q17 => ?_)
          · replace h := ite_t q17 h
            refine x_al (pc' := 57) rfl rfl (by decide) rfl ?_
            refine x_gr (pc' := 58) (v := 29) rfl rfl rfl (by decide) rfl ?_
            refine x_il (pc' := 59) rfl rfl rfl ?_
            obtain ⟨q18, h⟩ := h
            refine x_ia (pc' := 60) 12 (v := (up (up M ((3 + p1).toNat) p2 p3) 28 p1 (iand ((up M ((3 + p1).toNat) p2 p3) 28 p1) (ixor v8 (-1)))) 29 p1) rfl rfl rfl q18.1 q18.2 rfl ?_
            refine x_il (pc' := 61) rfl rfl rfl ?_
            refine x_c (pc' := 62) rfl rfl ?_
            refine x_ib (pc' := 63) (v := ixor v8 (-1)) rfl rfl rfl ?_
            refine x_ib (pc' := 64) (v := iand ((up (up M ((3 + p1).toNat) p2 p3) 28 p1 (iand ((up M ((3 + p1).toNat) p2 p3) 28 p1) (ixor v8 (-1)))) 29 p1) (ixor v8 (-1))) rfl rfl rfl ?_
            obtain ⟨q19, h⟩ := h
            refine x_ist (pc' := 65) 12 (M2 := up (up (up M ((3 + p1).toNat) p2 p3) 28 p1 (iand ((up M ((3 + p1).toNat) p2 p3) 28 p1) (ixor v8 (-1)))) 29 p1 (iand ((up (up M ((3 + p1).toNat) p2 p3) 28 p1 (iand ((up M ((3 + p1).toNat) p2 p3) 28 p1) (ixor v8 (-1)))) 29 p1) (ixor v8 (-1)))) rfl rfl rfl q19.1 q19.2 rfl ?_
            exact x_ret rfl h
          · replace h := ite_f q17 h
            refine x_al (pc' := 50) rfl rfl (by decide) rfl ?_
            refine x_gr (pc' := 51) (v := 29) rfl rfl rfl (by decide) rfl ?_
            refine x_il (pc' := 52) rfl rfl rfl ?_
            obtain ⟨q20, h⟩ := h
            refine x_ia (pc' := 53) 12 (v := (up (up M ((3 + p1).toNat) p2 p3) 28 p1 (iand ((up M ((3 + p1).toNat) p2 p3) 28 p1) (ixor v8 (-1)))) 29 p1) rfl rfl rfl q20.1 q20.2 rfl ?_
            refine x_il (pc' := 54) rfl rfl rfl ?_
            refine x_ib (pc' := 55) (v := ior ((up (up M ((3 + p1).toNat) p2 p3) 28 p1 (iand ((up M ((3 + p1).toNat) p2 p3) 28 p1) (ixor v8 (-1)))) 29 p1) v8) rfl rfl rfl ?_
            refine x_goto (t' := 64) rfl rfl ?_
            obtain ⟨q21, h⟩ := h
            refine x_ist (pc' := 65) 12 (M2 := up (up (up M ((3 + p1).toNat) p2 p3) 28 p1 (iand ((up M ((3 + p1).toNat) p2 p3) 28 p1) (ixor v8 (-1)))) 29 p1 (ior ((up (up M ((3 + p1).toNat) p2 p3) 28 p1 (iand ((up M ((3 + p1).toNat) p2 p3) 28 p1) (ixor v8 (-1)))) 29 p1) v8)) rfl rfl rfl q21.1 q21.2 rfl ?_
            exact x_ret rfl h
      · replace h := ite_f q11 h
        refine x_al (pc' := 25) rfl rfl (by decide) rfl ?_
        refine x_gr (pc' := 26) (v := 28) rfl rfl rfl (by decide) rfl ?_
        refine x_il (pc' := 27) rfl rfl rfl ?_
        obtain ⟨q22, h⟩ := h
        refine x_ia (pc' := 28) 12 (v := (up M ((3 + p1).toNat) p2 p3) 28 p1) rfl rfl rfl q22.1 q22.2 rfl ?_
        refine x_il (pc' := 29) rfl rfl rfl ?_
        refine x_ib (pc' := 30) (v := ior ((up M ((3 + p1).toNat) p2 p3) 28 p1) v8) rfl rfl rfl ?_
        refine x_goto (t' := 39) rfl rfl ?_
        obtain ⟨q23, h⟩ := h
        refine x_ist (pc' := 40) 12 (M2 := up (up M ((3 + p1).toNat) p2 p3) 28 p1 (ior ((up M ((3 + p1).toNat) p2 p3) 28 p1) v8)) rfl rfl rfl q23.1 q23.2 rfl ?_
        refine x_al (pc' := 41) rfl rfl (by decide) rfl ?_
        refine x_gr (pc' := 42) (v := 29) rfl rfl rfl (by decide) rfl ?_
        refine x_il (pc' := 43) rfl rfl rfl ?_
        refine x_il (pc' := 44) rfl rfl rfl ?_
        refine x_c (pc' := 45) rfl rfl ?_
        refine x_iceq (pc' := 46) (t' := 49) rfl rfl rfl (fun q24 => ?_) (fun q24 => ?_)
        · replace h := ite_t q24 h
          refine x_al (pc' := 50) rfl rfl (by decide) rfl ?_
          refine x_gr (pc' := 51) (v := 29) rfl rfl rfl (by decide) rfl ?_
          refine x_il (pc' := 52) rfl rfl rfl ?_
          obtain ⟨q25, h⟩ := h
          refine x_ia (pc' := 53) 12 (v := (up (up M ((3 + p1).toNat) p2 p3) 28 p1 (ior ((up M ((3 + p1).toNat) p2 p3) 28 p1) v8)) 29 p1) rfl rfl rfl q25.1 q25.2 rfl ?_
          refine x_il (pc' := 54) rfl rfl rfl ?_
          refine x_ib (pc' := 55) (v := ior ((up (up M ((3 + p1).toNat) p2 p3) 28 p1 (ior ((up M ((3 + p1).toNat) p2 p3) 28 p1) v8)) 29 p1) v8) rfl rfl rfl ?_
          refine x_goto (t' := 64) rfl rfl ?_
          obtain ⟨q26, h⟩ := h
          refine x_ist (pc' := 65) 12 (M2 := up (up (up M ((3 + p1).toNat) p2 p3) 28 p1 (ior ((up M ((3 + p1).toNat) p2 p3) 28 p1) v8)) 29 p1 (ior ((up (up M ((3 + p1).toNat) p2 p3) 28 p1 (ior ((up M ((3 + p1).toNat) p2 p3) 28 p1) v8)) 29 p1) v8)) rfl rfl rfl q26.1 q26.2 rfl ?_
          exact x_ret rfl h
        · replace h := ite_f q24 h
          refine x_il (pc' := 47) rfl rfl rfl ?_
          refine x_c (pc' := 48) rfl rfl ?_
          refine x_icne (pc' := 49) (t' := 56) rfl rfl rfl (fun q27 => ?_) (fun q27 => ?_)
          · replace h := ite_t q27 h
            refine x_al (pc' := 57) rfl rfl (by decide) rfl ?_
            refine x_gr (pc' := 58) (v := 29) rfl rfl rfl (by decide) rfl ?_
            refine x_il (pc' := 59) rfl rfl rfl ?_
            obtain ⟨q28, h⟩ := h
            refine x_ia (pc' := 60) 12 (v := (up (up M ((3 + p1).toNat) p2 p3) 28 p1 (ior ((up M ((3 + p1).toNat) p2 p3) 28 p1) v8)) 29 p1) rfl rfl rfl q28.1 q28.2 rfl ?_
            refine x_il (pc' := 61) rfl rfl rfl ?_
            refine x_c (pc' := 62) rfl rfl ?_
            refine x_ib (pc' := 63) (v := ixor v8 (-1)) rfl rfl rfl ?_
            refine x_ib (pc' := 64) (v := iand ((up (up M ((3 + p1).toNat) p2 p3) 28 p1 (ior ((up M ((3 + p1).toNat) p2 p3) 28 p1) v8)) 29 p1) (ixor v8 (-1))) rfl rfl rfl ?_
            obtain ⟨q29, h⟩ := h
            refine x_ist (pc' := 65) 12 (M2 := up (up (up M ((3 + p1).toNat) p2 p3) 28 p1 (ior ((up M ((3 + p1).toNat) p2 p3) 28 p1) v8)) 29 p1 (iand ((up (up M ((3 + p1).toNat) p2 p3) 28 p1 (ior ((up M ((3 + p1).toNat) p2 p3) 28 p1) v8)) 29 p1) (ixor v8 (-1)))) rfl rfl rfl q29.1 q29.2 rfl ?_
            exact x_ret rfl h
          · replace h := ite_f q27 h
            refine x_al (pc' := 50) rfl rfl (by decide) rfl ?_
            refine x_gr (pc' := 51) (v := 29) rfl rfl rfl (by decide) rfl ?_
            refine x_il (pc' := 52) rfl rfl rfl ?_
            obtain ⟨q30, h⟩ := h
            refine x_ia (pc' := 53) 12 (v := (up (up M ((3 + p1).toNat) p2 p3) 28 p1 (ior ((up M ((3 + p1).toNat) p2 p3) 28 p1) v8)) 29 p1) rfl rfl rfl q30.1 q30.2 rfl ?_
            refine x_il (pc' := 54) rfl rfl rfl ?_
            refine x_ib (pc' := 55) (v := ior ((up (up M ((3 + p1).toNat) p2 p3) 28 p1 (ior ((up M ((3 + p1).toNat) p2 p3) 28 p1) v8)) 29 p1) v8) rfl rfl rfl ?_
            refine x_goto (t' := 64) rfl rfl ?_
            obtain ⟨q31, h⟩ := h
            refine x_ist (pc' := 65) 12 (M2 := up (up (up M ((3 + p1).toNat) p2 p3) 28 p1 (ior ((up M ((3 + p1).toNat) p2 p3) 28 p1) v8)) 29 p1 (ior ((up (up M ((3 + p1).toNat) p2 p3) 28 p1 (ior ((up M ((3 + p1).toNat) p2 p3) 28 p1) v8)) 29 p1) v8)) rfl rfl rfl q31.1 q31.2 rfl ?_
            exact x_ret rfl h
    · replace h := ite_f q6 h
      exact x_ret rfl h
theorem sg_C_tellRidges {d : Nat} {p1 p2 p3 : Int} {M : Mem} {r : Res} (h : ∃ v2, Cl d m_C_has [(2, 1), (0, p1)] M (some (0, v2), M) ∧ (if v2 = 0 then r = (none, M) else ∃ v5, Cl d m_X_isFinger [(0, p2)] M (some (0, v5), M) ∧ (if v5 = 0 then r = (none, M) else (0 ≤ p1 ∧ p1 < 12) ∧ (0 ≤ p2 ∧ p2 < 10) ∧ r = (none, up M ((16 + p1).toNat) p2 p3)))) : Cl (d + 1) m_C_tellRidges [(2, 1), (0, p1), (0, p2), (0, p3)] M r := by
  refine cl_of (c := k_C_tellRidges) (mL := 4) (rz := 0) (rc := 1) (ls := [(2, 1), (0, p1), (0, p2), (0, p3)]) rfl rfl rfl ?_
  refine x_al (pc' := 1) rfl rfl (by decide) rfl ?_
  refine x_il (pc' := 2) rfl rfl rfl ?_
  obtain ⟨v2, q1, h⟩ := h
  refine x_call (pc' := 3) (as := [(2, 1), (0, p1)]) (rest := []) rfl rfl rfl rfl rfl rfl q1 ?_
  refine x_ifeq (pc' := 4) (t' := 14) rfl rfl rfl (fun q3 => ?_) (fun q3 => ?_)
  · replace h := ite_t q3 h
    exact x_ret rfl h
  · replace h := ite_f q3 h
    refine x_il (pc' := 5) rfl rfl rfl ?_
    obtain ⟨v5, q4, h⟩ := h
    refine x_call (pc' := 6) (as := [(0, p2)]) (rest := []) rfl rfl rfl rfl rfl rfl q4 ?_
    refine x_ifeq (pc' := 7) (t' := 14) rfl rfl rfl (fun q6 => ?_) (fun q6 => ?_)
    · replace h := ite_t q6 h
      exact x_ret rfl h
    · replace h := ite_f q6 h
      refine x_al (pc' := 8) rfl rfl (by decide) rfl ?_
      refine x_gr (pc' := 9) (v := 15) rfl rfl rfl (by decide) rfl ?_
      refine x_il (pc' := 10) rfl rfl rfl ?_
      obtain ⟨q7, h⟩ := h
      refine x_aa (pc' := 11) (v := (16 + p1)) 2 12 rfl rfl (Or.inl rfl) q7.1 q7.2 (show rfc 15 p1 = (16 + p1) from if_pos ⟨q7.1, q7.2⟩) (by have := q7.1; omega) rfl ?_
      refine x_il (pc' := 12) rfl rfl rfl ?_
      refine x_il (pc' := 13) rfl rfl rfl ?_
      obtain ⟨q8, h⟩ := h
      refine x_ist (pc' := 14) 10 (M2 := up M ((16 + p1).toNat) p2 p3) rfl rfl (arK_2d q7.1 q7.2 (Or.inr rfl)) q8.1 q8.2 rfl ?_
      exact x_ret rfl h
theorem sg_C_tell {d : Nat} {p1 p2 p3 : Int} {M : Mem} {r : Res} (h : (if ¬ p2 = 2 then (if ¬ p2 = 0 then ∃ M4, Cl d m_C_tellRidges [(2, 1), (0, w32 (Int.tdiv p1 100)), (0, w32 (Int.tmod p1 100)), (0, p3)] M (none, M4) ∧ r = (none, M4) else ∃ M6, Cl d m_C_tellSort [(2, 1), (0, w32 (Int.tdiv p1 100)), (0, w32 (Int.tmod p1 100)), (0, p3)] M (none, M6) ∧ r = (none, M6)) else r = (none, up M 1 6 p3))) : Cl (d + 1) m_C_tell [(2, 1), (0, p1), (0, p2), (0, p3)] M r := by
  refine cl_of (c := k_C_tell) (mL := 4) (rz := 0) (rc := 1) (ls := [(2, 1), (0, p1), (0, p2), (0, p3)]) rfl rfl rfl ?_
  refine x_il (pc' := 1) rfl rfl rfl ?_
  refine x_c (pc' := 2) rfl rfl ?_
  refine x_icne (pc' := 3) (t' := 7) rfl rfl rfl (fun q1 => ?_) (fun q1 => ?_)
  · replace h := ite_t q1 h
    refine x_il (pc' := 8) rfl rfl rfl ?_
    refine x_ifne (pc' := 9) (t' := 19) rfl rfl rfl (fun q2 => ?_) (fun q2 => ?_)
    · replace h := ite_t q2 h
      refine x_al (pc' := 20) rfl rfl (by decide) rfl ?_
      refine x_il (pc' := 21) rfl rfl rfl ?_
      refine x_c (pc' := 22) rfl rfl ?_
      refine x_ib (pc' := 23) (v := w32 (Int.tdiv p1 100)) rfl rfl rfl ?_
      refine x_il (pc' := 24) rfl rfl rfl ?_
      refine x_c (pc' := 25) rfl rfl ?_
      refine x_ib (pc' := 26) (v := w32 (Int.tmod p1 100)) rfl rfl rfl ?_
      refine x_il (pc' := 27) rfl rfl rfl ?_
      obtain ⟨M4, q3, h⟩ := h
      refine x_callv (pc' := 28) (as := [(2, 1), (0, w32 (Int.tdiv p1 100)), (0, w32 (Int.tmod p1 100)), (0, p3)]) (rest := []) rfl rfl rfl rfl rfl rfl q3 ?_
      exact x_ret rfl h
    · replace h := ite_f q2 h
      refine x_al (pc' := 10) rfl rfl (by decide) rfl ?_
      refine x_il (pc' := 11) rfl rfl rfl ?_
      refine x_c (pc' := 12) rfl rfl ?_
      refine x_ib (pc' := 13) (v := w32 (Int.tdiv p1 100)) rfl rfl rfl ?_
      refine x_il (pc' := 14) rfl rfl rfl ?_
      refine x_c (pc' := 15) rfl rfl ?_
      refine x_ib (pc' := 16) (v := w32 (Int.tmod p1 100)) rfl rfl rfl ?_
      refine x_il (pc' := 17) rfl rfl rfl ?_
      obtain ⟨M6, q5, h⟩ := h
      refine x_callv (pc' := 18) (as := [(2, 1), (0, w32 (Int.tdiv p1 100)), (0, w32 (Int.tmod p1 100)), (0, p3)]) (rest := []) rfl rfl rfl rfl rfl rfl q5 ?_
      refine x_goto (t' := 28) rfl rfl ?_
      exact x_ret rfl h
  · replace h := ite_f q1 h
    refine x_al (pc' := 4) rfl rfl (by decide) rfl ?_
    refine x_il (pc' := 5) rfl rfl rfl ?_
    refine x_pf (pc' := 6) (M2 := up M 1 6 p3) rfl rfl rfl rfl ?_
    refine x_goto (t' := 28) rfl rfl ?_
    exact x_ret rfl h
theorem sg_C_told {d : Nat} {p1 p2 : Int} {M : Mem} {r : Res} (h : (if ¬ p2 = 2 then ∃ v3, Cl d m_C_has [(2, 1), (0, w32 (Int.tdiv p1 100))] M (some (0, v3), M) ∧ (if v3 = 0 then r = (some (0, (-1)), M) else ∃ v6, Cl d m_X_isFinger [(0, w32 (Int.tmod p1 100))] M (some (0, v6), M) ∧ (if ¬ v6 = 0 then (if ¬ p2 = 0 then (0 ≤ w32 (Int.tdiv p1 100) ∧ w32 (Int.tdiv p1 100) < 12) ∧ (0 ≤ w32 (Int.tmod p1 100) ∧ w32 (Int.tmod p1 100) < 10) ∧ r = (some (0, M ((16 + w32 (Int.tdiv p1 100)).toNat) (w32 (Int.tmod p1 100))), M) else (0 ≤ w32 (Int.tdiv p1 100) ∧ w32 (Int.tdiv p1 100) < 12) ∧ (0 ≤ w32 (Int.tmod p1 100) ∧ w32 (Int.tmod p1 100) < 10) ∧ r = (some (0, M ((3 + w32 (Int.tdiv p1 100)).toNat) (w32 (Int.tmod p1 100))), M)) else r = (some (0, (-1)), M))) else r = (some (0, M 1 6), M))) : Cl (d + 1) m_C_told [(2, 1), (0, p1), (0, p2)] M r := by
  refine cl_of (c := k_C_told) (mL := 5) (rz := 1) (rc := 1) (ls := [(2, 1), (0, p1), (0, p2), (3, 0), (3, 0)]) rfl rfl rfl ?_
  refine x_il (pc' := 1) rfl rfl rfl ?_
  refine x_c (pc' := 2) rfl rfl ?_
  refine x_icne (pc' := 3) (t' := 6) rfl rfl rfl (fun q1 => ?_) (fun q1 => ?_)
  · replace h := ite_t q1 h
    refine x_il (pc' := 7) rfl rfl rfl ?_
    refine x_c (pc' := 8) rfl rfl ?_
    refine x_ib (pc' := 9) (v := w32 (Int.tdiv p1 100)) rfl rfl rfl ?_
    refine x_is (pc' := 10) (ls' := [(2, 1), (0, p1), (0, p2), (0, w32 (Int.tdiv p1 100)), (3, 0)]) rfl rfl rfl rfl ?_
    refine x_il (pc' := 11) rfl rfl rfl ?_
    refine x_c (pc' := 12) rfl rfl ?_
    refine x_ib (pc' := 13) (v := w32 (Int.tmod p1 100)) rfl rfl rfl ?_
    refine x_is (pc' := 14) (ls' := [(2, 1), (0, p1), (0, p2), (0, w32 (Int.tdiv p1 100)), (0, w32 (Int.tmod p1 100))]) rfl rfl rfl rfl ?_
    refine x_al (pc' := 15) rfl rfl (by decide) rfl ?_
    refine x_il (pc' := 16) rfl rfl rfl ?_
    obtain ⟨v3, q2, h⟩ := h
    refine x_call (pc' := 17) (as := [(2, 1), (0, w32 (Int.tdiv p1 100))]) (rest := []) rfl rfl rfl rfl rfl rfl q2 ?_
    refine x_ifeq (pc' := 18) (t' := 21) rfl rfl rfl (fun q4 => ?_) (fun q4 => ?_)
    · replace h := ite_t q4 h
      refine x_c (pc' := 22) rfl rfl ?_
      exact x_iret rfl h
    · replace h := ite_f q4 h
      refine x_il (pc' := 19) rfl rfl rfl ?_
      obtain ⟨v6, q5, h⟩ := h
      refine x_call (pc' := 20) (as := [(0, w32 (Int.tmod p1 100))]) (rest := []) rfl rfl rfl rfl rfl rfl q5 ?_
      refine x_ifne (pc' := 21) (t' := 23) rfl rfl rfl (fun q7 => ?_) (fun q7 => ?_)
      · replace h := ite_t q7 h
        refine x_il (pc' := 24) rfl rfl rfl ?_
        refine x_ifne (pc' := 25) (t' := 32) rfl rfl rfl (fun q8 => ?_) (fun q8 => ?_)
        · replace h := ite_t q8 h
          refine x_al (pc' := 33) rfl rfl (by decide) rfl ?_
          refine x_gr (pc' := 34) (v := 15) rfl rfl rfl (by decide) rfl ?_
          refine x_il (pc' := 35) rfl rfl rfl ?_
          obtain ⟨q9, h⟩ := h
          refine x_aa (pc' := 36) (v := (16 + w32 (Int.tdiv p1 100))) 2 12 rfl rfl (Or.inl rfl) q9.1 q9.2 (show rfc 15 (w32 (Int.tdiv p1 100)) = (16 + w32 (Int.tdiv p1 100)) from if_pos ⟨q9.1, q9.2⟩) (by have := q9.1; omega) rfl ?_
          refine x_il (pc' := 37) rfl rfl rfl ?_
          obtain ⟨q10, h⟩ := h
          refine x_ia (pc' := 38) 10 (v := M ((16 + w32 (Int.tdiv p1 100)).toNat) (w32 (Int.tmod p1 100))) rfl rfl (arK_2d q9.1 q9.2 (Or.inr rfl)) q10.1 q10.2 rfl ?_
          exact x_iret rfl h
        · replace h := ite_f q8 h
          refine x_al (pc' := 26) rfl rfl (by decide) rfl ?_
          refine x_gr (pc' := 27) (v := 2) rfl rfl rfl (by decide) rfl ?_
          refine x_il (pc' := 28) rfl rfl rfl ?_
          obtain ⟨q11, h⟩ := h
          refine x_aa (pc' := 29) (v := (3 + w32 (Int.tdiv p1 100))) 2 12 rfl rfl (Or.inl rfl) q11.1 q11.2 (show rfc 2 (w32 (Int.tdiv p1 100)) = (3 + w32 (Int.tdiv p1 100)) from if_pos ⟨q11.1, q11.2⟩) (by have := q11.1; omega) rfl ?_
          refine x_il (pc' := 30) rfl rfl rfl ?_
          obtain ⟨q12, h⟩ := h
          refine x_ia (pc' := 31) 10 (v := M ((3 + w32 (Int.tdiv p1 100)).toNat) (w32 (Int.tmod p1 100))) rfl rfl (arK_2d q11.1 q11.2 (Or.inl rfl)) q12.1 q12.2 rfl ?_
          refine x_goto (t' := 38) rfl rfl ?_
          exact x_iret rfl h
      · replace h := ite_f q7 h
        refine x_c (pc' := 22) rfl rfl ?_
        exact x_iret rfl h
  · replace h := ite_f q1 h
    refine x_al (pc' := 4) rfl rfl (by decide) rfl ?_
    refine x_gf (pc' := 5) (v := M 1 6) rfl rfl rfl rfl rfl ?_
    exact x_iret rfl h
theorem sg_C_mayLie {d : Nat} {p1 p2 : Int} {M : Mem} {r : Res} (h : (0 ≤ p1 ∧ p1 < 12) ∧ (0 ≤ p1 ∧ p1 < 12) ∧ (if ¬ iand p2 (ixor (M 29 p1) (-1)) = M 28 p1 then r = (some (0, 0), M) else r = (some (0, 1), M))) : Cl (d + 1) m_C_mayLie [(2, 1), (0, p1), (0, p2)] M r := by
  refine cl_of (c := k_C_mayLie) (mL := 3) (rz := 3) (rc := 1) (ls := [(2, 1), (0, p1), (0, p2)]) rfl rfl rfl ?_
  refine x_il (pc' := 1) rfl rfl rfl ?_
  refine x_al (pc' := 2) rfl rfl (by decide) rfl ?_
  refine x_gr (pc' := 3) (v := 29) rfl rfl rfl (by decide) rfl ?_
  refine x_il (pc' := 4) rfl rfl rfl ?_
  obtain ⟨q1, h⟩ := h
  refine x_ia (pc' := 5) 12 (v := M 29 p1) rfl rfl rfl q1.1 q1.2 rfl ?_
  refine x_c (pc' := 6) rfl rfl ?_
  refine x_ib (pc' := 7) (v := ixor (M 29 p1) (-1)) rfl rfl rfl ?_
  refine x_ib (pc' := 8) (v := iand p2 (ixor (M 29 p1) (-1))) rfl rfl rfl ?_
  refine x_al (pc' := 9) rfl rfl (by decide) rfl ?_
  refine x_gr (pc' := 10) (v := 28) rfl rfl rfl (by decide) rfl ?_
  refine x_il (pc' := 11) rfl rfl rfl ?_
  obtain ⟨q2, h⟩ := h
  refine x_ia (pc' := 12) 12 (v := M 28 p1) rfl rfl rfl q2.1 q2.2 rfl ?_
  refine x_icne (pc' := 13) (t' := 15) rfl rfl rfl (fun q3 => ?_) (fun q3 => ?_)
  · replace h := ite_t q3 h
    refine x_c (pc' := 16) rfl rfl ?_
    exact x_zret rfl (by decide) h
  · replace h := ite_f q3 h
    refine x_c (pc' := 14) rfl rfl ?_
    refine x_goto (t' := 16) rfl rfl ?_
    exact x_zret rfl (by decide) h
theorem sg_C_shareDrawer {d : Nat} {p1 p2 : Int} {M : Mem} {r : Res} (h : (0 ≤ p1 ∧ p1 < 12) ∧ (0 ≤ p2 ∧ p2 < 12) ∧ (0 ≤ p1 ∧ p1 < 12) ∧ (0 ≤ p2 ∧ p2 < 12) ∧ (if ¬ iand (iand (ixor (M 28 p1) (M 28 p2)) (ixor (M 29 p1) (-1))) (ixor (M 29 p2) (-1)) = 0 then r = (some (0, 0), M) else r = (some (0, 1), M))) : Cl (d + 1) m_C_shareDrawer [(2, 1), (0, p1), (0, p2)] M r := by
  refine cl_of (c := k_C_shareDrawer) (mL := 3) (rz := 3) (rc := 1) (ls := [(2, 1), (0, p1), (0, p2)]) rfl rfl rfl ?_
  refine x_al (pc' := 1) rfl rfl (by decide) rfl ?_
  refine x_gr (pc' := 2) (v := 28) rfl rfl rfl (by decide) rfl ?_
  refine x_il (pc' := 3) rfl rfl rfl ?_
  obtain ⟨q1, h⟩ := h
  refine x_ia (pc' := 4) 12 (v := M 28 p1) rfl rfl rfl q1.1 q1.2 rfl ?_
  refine x_al (pc' := 5) rfl rfl (by decide) rfl ?_
  refine x_gr (pc' := 6) (v := 28) rfl rfl rfl (by decide) rfl ?_
  refine x_il (pc' := 7) rfl rfl rfl ?_
  obtain ⟨q2, h⟩ := h
  refine x_ia (pc' := 8) 12 (v := M 28 p2) rfl rfl rfl q2.1 q2.2 rfl ?_
  refine x_ib (pc' := 9) (v := ixor (M 28 p1) (M 28 p2)) rfl rfl rfl ?_
  refine x_al (pc' := 10) rfl rfl (by decide) rfl ?_
  refine x_gr (pc' := 11) (v := 29) rfl rfl rfl (by decide) rfl ?_
  refine x_il (pc' := 12) rfl rfl rfl ?_
  obtain ⟨q3, h⟩ := h
  refine x_ia (pc' := 13) 12 (v := M 29 p1) rfl rfl rfl q3.1 q3.2 rfl ?_
  refine x_c (pc' := 14) rfl rfl ?_
  refine x_ib (pc' := 15) (v := ixor (M 29 p1) (-1)) rfl rfl rfl ?_
  refine x_ib (pc' := 16) (v := iand (ixor (M 28 p1) (M 28 p2)) (ixor (M 29 p1) (-1))) rfl rfl rfl ?_
  refine x_al (pc' := 17) rfl rfl (by decide) rfl ?_
  refine x_gr (pc' := 18) (v := 29) rfl rfl rfl (by decide) rfl ?_
  refine x_il (pc' := 19) rfl rfl rfl ?_
  obtain ⟨q4, h⟩ := h
  refine x_ia (pc' := 20) 12 (v := M 29 p2) rfl rfl rfl q4.1 q4.2 rfl ?_
  refine x_c (pc' := 21) rfl rfl ?_
  refine x_ib (pc' := 22) (v := ixor (M 29 p2) (-1)) rfl rfl rfl ?_
  refine x_ib (pc' := 23) (v := iand (iand (ixor (M 28 p1) (M 28 p2)) (ixor (M 29 p1) (-1))) (ixor (M 29 p2) (-1))) rfl rfl rfl ?_
  refine x_ifne (pc' := 24) (t' := 26) rfl rfl rfl (fun q5 => ?_) (fun q5 => ?_)
  · replace h := ite_t q5 h
    refine x_c (pc' := 27) rfl rfl ?_
    exact x_zret rfl (by decide) h
  · replace h := ite_f q5 h
    refine x_c (pc' := 25) rfl rfl ?_
    refine x_goto (t' := 27) rfl rfl ?_
    exact x_zret rfl (by decide) h
def at_C_countFiled_4 (d : Nat) (l1 : Int) (l2 : Int) (M : Mem) (r : Res) : Prop := Ex sx0 d k_C_countFiled 1 4 [(2, 1), (0, l1), (0, l2)] [] M r
theorem sg_C_countFiled {d : Nat} {M : Mem} {r : Res} (h : at_C_countFiled_4 d 0 0 M r) : Cl (d + 1) m_C_countFiled [(2, 1)] M r := by
  refine cl_of (c := k_C_countFiled) (mL := 3) (rz := 1) (rc := 1) (ls := [(2, 1), (3, 0), (3, 0)]) rfl rfl rfl ?_
  refine x_c (pc' := 1) rfl rfl ?_
  refine x_is (pc' := 2) (ls' := [(2, 1), (0, 0), (3, 0)]) rfl rfl rfl rfl ?_
  refine x_c (pc' := 3) rfl rfl ?_
  refine x_is (pc' := 4) (ls' := [(2, 1), (0, 0), (0, 0)]) rfl rfl rfl rfl ?_
  exact h
theorem sg_C_countFiled_4 {d : Nat} {l1 : Int} {l2 : Int} {M : Mem} {r : Res} (h : (if M 1 5 ≤ l2 then r = (some (0, l1), M) else (0 ≤ l2 ∧ l2 < 12) ∧ ∃ v4, Cl d m_X_isDrawer [(0, M 30 l2)] M (some (0, v4), M) ∧ ∃ v6, Cl d m_X_truth [(0, v4)] M (some (0, v6), M) ∧ at_C_countFiled_4 d (w32 (l1 + v6)) (w32 (l2 + 1)) M r)) : at_C_countFiled_4 d l1 l2 M r := by
  unfold at_C_countFiled_4
  refine x_il (pc' := 5) rfl rfl rfl ?_
  refine x_al (pc' := 6) rfl rfl (by decide) rfl ?_
  refine x_gf (pc' := 7) (v := M 1 5) rfl rfl rfl rfl rfl ?_
  refine x_icge (pc' := 8) (t' := 19) rfl rfl rfl (fun q1 => ?_) (fun q1 => ?_)
  · replace h := ite_t q1 h
    refine x_il (pc' := 20) rfl rfl rfl ?_
    exact x_iret rfl h
  · replace h := ite_f q1 h
    refine x_il (pc' := 9) rfl rfl rfl ?_
    refine x_al (pc' := 10) rfl rfl (by decide) rfl ?_
    refine x_gr (pc' := 11) (v := 30) rfl rfl rfl (by decide) rfl ?_
    refine x_il (pc' := 12) rfl rfl rfl ?_
    obtain ⟨q2, h⟩ := h
    refine x_ia (pc' := 13) 12 (v := M 30 l2) rfl rfl rfl q2.1 q2.2 rfl ?_
    obtain ⟨v4, q3, h⟩ := h
    refine x_call (pc' := 14) (as := [(0, M 30 l2)]) (rest := [(0, l1)]) rfl rfl rfl rfl rfl rfl q3 ?_
    obtain ⟨v6, q5, h⟩ := h
    refine x_call (pc' := 15) (as := [(0, v4)]) (rest := [(0, l1)]) rfl rfl rfl rfl rfl rfl q5 ?_
    refine x_ib (pc' := 16) (v := w32 (l1 + v6)) rfl rfl rfl ?_
    refine x_is (pc' := 17) (ls' := [(2, 1), (0, w32 (l1 + v6)), (0, l2)]) rfl rfl rfl rfl ?_
    refine x_inc (pc' := 18) (ls' := [(2, 1), (0, w32 (l1 + v6)), (0, w32 (l2 + 1))]) rfl rfl rfl rfl ?_
    refine x_goto (t' := 4) rfl rfl ?_
    exact h
def at_C_nextFiled_14 (d : Nat) (w1 : AV) (l2 : Int) (l3 : Int) (l4 : Int) (w5 : AV) (M : Mem) (r : Res) : Prop := Ex sx0 d k_C_nextFiled 1 14 [(2, 1), w1, (0, l2), (0, l3), (0, l4), w5] [] M r
theorem sg_C_nextFiled {d : Nat} {p1 : Int} {M : Mem} {r : Res} (h : ∃ v2, Cl d m_C_has [(2, 1), (0, p1)] M (some (0, v2), M) ∧ (if v2 = 0 then at_C_nextFiled_14 d (0, p1) (-1) (-1) 0 (3, 0) M r else ∃ v5, Cl d m_C_placeInLine [(2, 1), (0, p1)] M (some (0, v5), M) ∧ at_C_nextFiled_14 d (0, p1) v5 (-1) 0 (3, 0) M r)) : Cl (d + 1) m_C_nextFiled [(2, 1), (0, p1)] M r := by
  refine cl_of (c := k_C_nextFiled) (mL := 6) (rz := 1) (rc := 1) (ls := [(2, 1), (0, p1), (3, 0), (3, 0), (3, 0), (3, 0)]) rfl rfl rfl ?_
  refine x_al (pc' := 1) rfl rfl (by decide) rfl ?_
  refine x_il (pc' := 2) rfl rfl rfl ?_
  obtain ⟨v2, q1, h⟩ := h
  refine x_call (pc' := 3) (as := [(2, 1), (0, p1)]) (rest := []) rfl rfl rfl rfl rfl rfl q1 ?_
  refine x_ifeq (pc' := 4) (t' := 8) rfl rfl rfl (fun q3 => ?_) (fun q3 => ?_)
  · replace h := ite_t q3 h
    refine x_c (pc' := 9) rfl rfl ?_
    refine x_is (pc' := 10) (ls' := [(2, 1), (0, p1), (0, (-1)), (3, 0), (3, 0), (3, 0)]) rfl rfl rfl rfl ?_
    refine x_c (pc' := 11) rfl rfl ?_
    refine x_is (pc' := 12) (ls' := [(2, 1), (0, p1), (0, (-1)), (0, (-1)), (3, 0), (3, 0)]) rfl rfl rfl rfl ?_
    refine x_c (pc' := 13) rfl rfl ?_
    refine x_is (pc' := 14) (ls' := [(2, 1), (0, p1), (0, (-1)), (0, (-1)), (0, 0), (3, 0)]) rfl rfl rfl rfl ?_
    exact h
  · replace h := ite_f q3 h
    refine x_al (pc' := 5) rfl rfl (by decide) rfl ?_
    refine x_il (pc' := 6) rfl rfl rfl ?_
    obtain ⟨v5, q4, h⟩ := h
    refine x_call (pc' := 7) (as := [(2, 1), (0, p1)]) (rest := []) rfl rfl rfl rfl rfl rfl q4 ?_
    refine x_goto (t' := 9) rfl rfl ?_
    refine x_is (pc' := 10) (ls' := [(2, 1), (0, p1), (0, v5), (3, 0), (3, 0), (3, 0)]) rfl rfl rfl rfl ?_
    refine x_c (pc' := 11) rfl rfl ?_
    refine x_is (pc' := 12) (ls' := [(2, 1), (0, p1), (0, v5), (0, (-1)), (3, 0), (3, 0)]) rfl rfl rfl rfl ?_
    refine x_c (pc' := 13) rfl rfl ?_
    refine x_is (pc' := 14) (ls' := [(2, 1), (0, p1), (0, v5), (0, (-1)), (0, 0), (3, 0)]) rfl rfl rfl rfl ?_
    exact h
theorem sg_C_nextFiled_14 {d : Nat} {w1 : AV} {l2 : Int} {l3 : Int} {l4 : Int} {w5 : AV} {M : Mem} {r : Res} (h : (if M 1 5 ≤ l4 then r = (some (0, l3), M) else (0 ≤ l4 ∧ l4 < 12) ∧ ∃ v4, Cl d m_X_isDrawer [(0, M 30 l4)] M (some (0, v4), M) ∧ (if v4 = 0 then at_C_nextFiled_14 d w1 l2 l3 (w32 (l4 + 1)) (0, 0) M r else ∃ v7, Cl d m_C_placeInLine [(2, 1), (0, l4)] M (some (0, v7), M) ∧ (if v7 ≤ l2 then at_C_nextFiled_14 d w1 l2 l3 (w32 (l4 + 1)) (0, 0) M r else (if l3 < 0 then at_C_nextFiled_14 d w1 l2 l4 (w32 (l4 + 1)) (0, 1) M r else ∃ v11, Cl d m_C_placeInLine [(2, 1), (0, l4)] M (some (0, v11), M) ∧ ∃ v13, Cl d m_C_placeInLine [(2, 1), (0, l3)] M (some (0, v13), M) ∧ (if v13 ≤ v11 then at_C_nextFiled_14 d w1 l2 l3 (w32 (l4 + 1)) (0, 1) M r else at_C_nextFiled_14 d w1 l2 l4 (w32 (l4 + 1)) (0, 1) M r)))))) : at_C_nextFiled_14 d w1 l2 l3 l4 w5 M r := by
  unfold at_C_nextFiled_14
  refine x_il (pc' := 15) rfl rfl rfl ?_
  refine x_al (pc' := 16) rfl rfl (by decide) rfl ?_
  refine x_gf (pc' := 17) (v := M 1 5) rfl rfl rfl rfl rfl ?_
  refine x_icge (pc' := 18) (t' := 48) rfl rfl rfl (fun q1 => ?_) (fun q1 => ?_)
  · replace h := ite_t q1 h
    refine x_il (pc' := 49) rfl rfl rfl ?_
    exact x_iret rfl h
  · replace h := ite_f q1 h
    refine x_al (pc' := 19) rfl rfl (by decide) rfl ?_
    refine x_gr (pc' := 20) (v := 30) rfl rfl rfl (by decide) rfl ?_
    refine x_il (pc' := 21) rfl rfl rfl ?_
    obtain ⟨q2, h⟩ := h
    refine x_ia (pc' := 22) 12 (v := M 30 l4) rfl rfl rfl q2.1 q2.2 rfl ?_
    obtain ⟨v4, q3, h⟩ := h
    refine x_call (pc' := 23) (as := [(0, M 30 l4)]) (rest := []) rfl rfl rfl rfl rfl rfl q3 ?_
    refine x_ifeq (pc' := 24) (t' := 31) rfl rfl rfl (fun q5 => ?_) (fun q5 => ?_)
    · replace h := ite_t q5 h
      refine x_c (pc' := 32) rfl rfl ?_
      refine x_is (pc' := 33) (ls' := [(2, 1), w1, (0, l2), (0, l3), (0, l4), (0, 0)]) rfl rfl rfl rfl ?_
      refine x_il (pc' := 34) rfl rfl rfl ?_
      refine x_ifeq (pc' := 35) (t' := 46) rfl rfl rfl (fun _ => ?_) (fun q => absurd (by decide) q)
      refine x_inc (pc' := 47) (ls' := [(2, 1), w1, (0, l2), (0, l3), (0, w32 (l4 + 1)), (0, 0)]) rfl rfl rfl rfl ?_
      refine x_goto (t' := 14) rfl rfl ?_
      exact h
    · replace h := ite_f q5 h
      refine x_al (pc' := 25) rfl rfl (by decide) rfl ?_
      refine x_il (pc' := 26) rfl rfl rfl ?_
      obtain ⟨v7, q6, h⟩ := h
      refine x_call (pc' := 27) (as := [(2, 1), (0, l4)]) (rest := []) rfl rfl rfl rfl rfl rfl q6 ?_
      refine x_il (pc' := 28) rfl rfl rfl ?_
      refine x_icle (pc' := 29) (t' := 31) rfl rfl rfl (fun q8 => ?_) (fun q8 => ?_)
      · replace h := ite_t q8 h
        refine x_c (pc' := 32) rfl rfl ?_
        refine x_is (pc' := 33) (ls' := [(2, 1), w1, (0, l2), (0, l3), (0, l4), (0, 0)]) rfl rfl rfl rfl ?_
        refine x_il (pc' := 34) rfl rfl rfl ?_
        refine x_ifeq (pc' := 35) (t' := 46) rfl rfl rfl (fun _ => ?_) (fun q => absurd (by decide) q)
        refine x_inc (pc' := 47) (ls' := [(2, 1), w1, (0, l2), (0, l3), (0, w32 (l4 + 1)), (0, 0)]) rfl rfl rfl rfl ?_
        refine x_goto (t' := 14) rfl rfl ?_
        exact h
      · replace h := ite_f q8 h
        refine x_c (pc' := 30) rfl rfl ?_
        refine x_goto (t' := 32) rfl rfl ?_
        refine x_is (pc' := 33) (ls' := [(2, 1), w1, (0, l2), (0, l3), (0, l4), (0, 1)]) rfl rfl rfl rfl ?_
        refine x_il (pc' := 34) rfl rfl rfl ?_
        refine x_ifeq (pc' := 35) (t' := 46) rfl rfl rfl (fun q => absurd q (by decide)) (fun _ => ?_)
        refine x_il (pc' := 36) rfl rfl rfl ?_
        refine x_iflt (pc' := 37) (t' := 44) rfl rfl rfl (fun q9 => ?_) (fun q9 => ?_)
        · replace h := ite_t q9 h
          refine x_il (pc' := 45) rfl rfl rfl ?_
          refine x_is (pc' := 46) (ls' := [(2, 1), w1, (0, l2), (0, l4), (0, l4), (0, 1)]) rfl rfl rfl rfl ?_
          refine x_inc (pc' := 47) (ls' := [(2, 1), w1, (0, l2), (0, l4), (0, w32 (l4 + 1)), (0, 1)]) rfl rfl rfl rfl ?_
          refine x_goto (t' := 14) rfl rfl ?_
          exact h
        · replace h := ite_f q9 h
          refine x_al (pc' := 38) rfl rfl (by decide) rfl ?_
          refine x_il (pc' := 39) rfl rfl rfl ?_
          obtain ⟨v11, q10, h⟩ := h
          refine x_call (pc' := 40) (as := [(2, 1), (0, l4)]) (rest := []) rfl rfl rfl rfl rfl rfl q10 ?_
          refine x_al (pc' := 41) rfl rfl (by decide) rfl ?_
          refine x_il (pc' := 42) rfl rfl rfl ?_
          obtain ⟨v13, q12, h⟩ := h
          refine x_call (pc' := 43) (as := [(2, 1), (0, l3)]) (rest := [(0, v11)]) rfl rfl rfl rfl rfl rfl q12 ?_
          refine x_icge (pc' := 44) (t' := 46) rfl rfl rfl (fun q14 => ?_) (fun q14 => ?_)
          · replace h := ite_t q14 h
            refine x_inc (pc' := 47) (ls' := [(2, 1), w1, (0, l2), (0, l3), (0, w32 (l4 + 1)), (0, 1)]) rfl rfl rfl rfl ?_
            refine x_goto (t' := 14) rfl rfl ?_
            exact h
          · replace h := ite_f q14 h
            refine x_il (pc' := 45) rfl rfl rfl ?_
            refine x_is (pc' := 46) (ls' := [(2, 1), w1, (0, l2), (0, l4), (0, l4), (0, 1)]) rfl rfl rfl rfl ?_
            refine x_inc (pc' := 47) (ls' := [(2, 1), w1, (0, l2), (0, l4), (0, w32 (l4 + 1)), (0, 1)]) rfl rfl rfl rfl ?_
            refine x_goto (t' := 14) rfl rfl ?_
            exact h
theorem sg_C_placeInLine {d : Nat} {p1 : Int} {M : Mem} {r : Res} (h : (0 ≤ p1 ∧ p1 < 12) ∧ r = (some (0, w32 ((w32 (12 * (M 30 p1))) + p1)), M)) : Cl (d + 1) m_C_placeInLine [(2, 1), (0, p1)] M r := by
  refine cl_of (c := k_C_placeInLine) (mL := 2) (rz := 1) (rc := 1) (ls := [(2, 1), (0, p1)]) rfl rfl rfl ?_
  refine x_c (pc' := 1) rfl rfl ?_
  refine x_al (pc' := 2) rfl rfl (by decide) rfl ?_
  refine x_gr (pc' := 3) (v := 30) rfl rfl rfl (by decide) rfl ?_
  refine x_il (pc' := 4) rfl rfl rfl ?_
  obtain ⟨q1, h⟩ := h
  refine x_ia (pc' := 5) 12 (v := M 30 p1) rfl rfl rfl q1.1 q1.2 rfl ?_
  refine x_ib (pc' := 6) (v := w32 (12 * (M 30 p1))) rfl rfl rfl ?_
  refine x_il (pc' := 7) rfl rfl rfl ?_
  refine x_ib (pc' := 8) (v := w32 ((w32 (12 * (M 30 p1))) + p1)) rfl rfl rfl ?_
  exact x_iret rfl h
theorem sg_L_fed {d : Nat} {p1 : Int} {M : Mem} {r : Res} (h : (if M 31 5 < 120 then (0 ≤ M 31 5 ∧ M 31 5 < 120) ∧ r = (some (0, (up (up M 32 (M 31 5) p1) 31 5 (w32 (((up M 32 (M 31 5) p1) 31 5) + 1))) 31 5), up (up M 32 (M 31 5) p1) 31 5 (w32 (((up M 32 (M 31 5) p1) 31 5) + 1))) else r = (some (0, (-3)), M))) : Cl (d + 1) m_L_fed [(2, 31), (0, p1)] M r := by
  refine cl_of (c := k_L_fed) (mL := 2) (rz := 1) (rc := 2) (ls := [(2, 31), (0, p1)]) rfl rfl rfl ?_
  refine x_al (pc' := 1) rfl rfl (by decide) rfl ?_
  refine x_gf (pc' := 2) (v := M 31 5) rfl rfl rfl rfl rfl ?_
  refine x_c (pc' := 3) rfl rfl ?_
  refine x_iclt (pc' := 4) (t' := 6) rfl rfl rfl (fun q1 => ?_) (fun q1 => ?_)
  · replace h := ite_t q1 h
    refine x_al (pc' := 7) rfl rfl (by decide) rfl ?_
    refine x_gr (pc' := 8) (v := 32) rfl rfl rfl (by decide) rfl ?_
    refine x_al (pc' := 9) rfl rfl (by decide) rfl ?_
    refine x_gf (pc' := 10) (v := M 31 5) rfl rfl rfl rfl rfl ?_
    refine x_il (pc' := 11) rfl rfl rfl ?_
    obtain ⟨q2, h⟩ := h
    refine x_ist (pc' := 12) 120 (M2 := up M 32 (M 31 5) p1) rfl rfl rfl q2.1 q2.2 rfl ?_
    refine x_al (pc' := 13) rfl rfl (by decide) rfl ?_
    refine x_dupa (pc' := 14) rfl rfl ?_
    refine x_gf (pc' := 15) (v := (up M 32 (M 31 5) p1) 31 5) rfl rfl rfl rfl rfl ?_
    refine x_c (pc' := 16) rfl rfl ?_
    refine x_ib (pc' := 17) (v := w32 (((up M 32 (M 31 5) p1) 31 5) + 1)) rfl rfl rfl ?_
    refine x_pf (pc' := 18) (M2 := up (up M 32 (M 31 5) p1) 31 5 (w32 (((up M 32 (M 31 5) p1) 31 5) + 1))) rfl rfl rfl rfl ?_
    refine x_al (pc' := 19) rfl rfl (by decide) rfl ?_
    refine x_gf (pc' := 20) (v := (up (up M 32 (M 31 5) p1) 31 5 (w32 (((up M 32 (M 31 5) p1) 31 5) + 1))) 31 5) rfl rfl rfl rfl rfl ?_
    exact x_iret rfl h
  · replace h := ite_f q1 h
    refine x_c (pc' := 5) rfl rfl ?_
    exact x_iret rfl h
theorem sg_L_readTape {d : Nat} {M : Mem} {r : Res} (h : ∃ M2, Cl d m_L_readText [(2, 31)] (up (up (up M 31 8 0) 31 9 (-1)) 31 7 0) (none, M2) ∧ (if ¬ (up M2 31 5 0) 31 9 = (-1) then r = (some (0, (up M2 31 5 0) 31 9), up M2 31 5 0) else r = (some (0, (up (cpy (up M2 31 5 0) 35 34 0 0 256) 31 6 ((cpy (up M2 31 5 0) 35 34 0 0 256) 31 7)) 31 9), up (cpy (up M2 31 5 0) 35 34 0 0 256) 31 6 ((cpy (up M2 31 5 0) 35 34 0 0 256) 31 7)))) : Cl (d + 1) m_L_readTape [(2, 31)] M r := by
  refine cl_of (c := k_L_readTape) (mL := 1) (rz := 1) (rc := 2) (ls := [(2, 31)]) rfl rfl rfl ?_
  refine x_al (pc' := 1) rfl rfl (by decide) rfl ?_
  refine x_c (pc' := 2) rfl rfl ?_
  refine x_pf (pc' := 3) (M2 := up M 31 8 0) rfl rfl rfl rfl ?_
  refine x_al (pc' := 4) rfl rfl (by decide) rfl ?_
  refine x_c (pc' := 5) rfl rfl ?_
  refine x_pf (pc' := 6) (M2 := up (up M 31 8 0) 31 9 (-1)) rfl rfl rfl rfl ?_
  refine x_al (pc' := 7) rfl rfl (by decide) rfl ?_
  refine x_c (pc' := 8) rfl rfl ?_
  refine x_pf (pc' := 9) (M2 := up (up (up M 31 8 0) 31 9 (-1)) 31 7 0) rfl rfl rfl rfl ?_
  refine x_al (pc' := 10) rfl rfl (by decide) rfl ?_
  obtain ⟨M2, q1, h⟩ := h
  refine x_callv (pc' := 11) (as := [(2, 31)]) (rest := []) rfl rfl rfl rfl rfl rfl q1 ?_
  refine x_al (pc' := 12) rfl rfl (by decide) rfl ?_
  refine x_c (pc' := 13) rfl rfl ?_
  refine x_pf (pc' := 14) (M2 := up M2 31 5 0) rfl rfl rfl rfl ?_
  refine x_al (pc' := 15) rfl rfl (by decide) rfl ?_
  refine x_gf (pc' := 16) (v := (up M2 31 5 0) 31 9) rfl rfl rfl rfl rfl ?_
  refine x_c (pc' := 17) rfl rfl ?_
  refine x_icne (pc' := 18) (t' := 30) rfl rfl rfl (fun q3 => ?_) (fun q3 => ?_)
  · replace h := ite_t q3 h
    refine x_al (pc' := 31) rfl rfl (by decide) rfl ?_
    refine x_gf (pc' := 32) (v := (up M2 31 5 0) 31 9) rfl rfl rfl rfl rfl ?_
    exact x_iret rfl h
  · replace h := ite_f q3 h
    refine x_al (pc' := 19) rfl rfl (by decide) rfl ?_
    refine x_gr (pc' := 20) (v := 35) rfl rfl rfl (by decide) rfl ?_
    refine x_c (pc' := 21) rfl rfl ?_
    refine x_al (pc' := 22) rfl rfl (by decide) rfl ?_
    refine x_gr (pc' := 23) (v := 34) rfl rfl rfl (by decide) rfl ?_
    refine x_c (pc' := 24) rfl rfl ?_
    refine x_c (pc' := 25) rfl rfl ?_
    refine x_cpy (pc' := 26) (ka := 0) (na := 256) (nb := 256) (M2 := cpy (up M2 31 5 0) 35 34 0 0 256) rfl rfl rfl rfl (Or.inl rfl) (by decide) (by decide) (by decide) (by decide) (by decide) rfl rfl ?_
    refine x_al (pc' := 27) rfl rfl (by decide) rfl ?_
    refine x_al (pc' := 28) rfl rfl (by decide) rfl ?_
    refine x_gf (pc' := 29) (v := (cpy (up M2 31 5 0) 35 34 0 0 256) 31 7) rfl rfl rfl rfl rfl ?_
    refine x_pf (pc' := 30) (M2 := up (cpy (up M2 31 5 0) 35 34 0 0 256) 31 6 ((cpy (up M2 31 5 0) 35 34 0 0 256) 31 7)) rfl rfl rfl rfl ?_
    refine x_al (pc' := 31) rfl rfl (by decide) rfl ?_
    refine x_gf (pc' := 32) (v := (up (cpy (up M2 31 5 0) 35 34 0 0 256) 31 6 ((cpy (up M2 31 5 0) 35 34 0 0 256) 31 7)) 31 9) rfl rfl rfl rfl rfl ?_
    exact x_iret rfl h
theorem sg_L_next {d : Nat} {M : Mem} {r : Res} (h : (if ¬ M 31 9 = (-1) then r = (some (0, (-1)), M) else (if M 31 5 ≤ M 31 8 then r = (some (0, (-1)), M) else (if 120 ≤ M 31 8 then r = (some (0, (-1)), M) else (0 ≤ M 31 8 ∧ M 31 8 < 120) ∧ r = (some (0, M 32 (M 31 8)), M))))) : Cl (d + 1) m_L_next [(2, 31)] M r := by
  refine cl_of (c := k_L_next) (mL := 1) (rz := 1) (rc := 2) (ls := [(2, 31)]) rfl rfl rfl ?_
  refine x_al (pc' := 1) rfl rfl (by decide) rfl ?_
  refine x_gf (pc' := 2) (v := M 31 9) rfl rfl rfl rfl rfl ?_
  refine x_c (pc' := 3) rfl rfl ?_
  refine x_icne (pc' := 4) (t' := 19) rfl rfl rfl (fun q1 => ?_) (fun q1 => ?_)
  · replace h := ite_t q1 h
    refine x_c (pc' := 20) rfl rfl ?_
    exact x_iret rfl h
  · replace h := ite_f q1 h
    refine x_al (pc' := 5) rfl rfl (by decide) rfl ?_
    refine x_gf (pc' := 6) (v := M 31 8) rfl rfl rfl rfl rfl ?_
    refine x_al (pc' := 7) rfl rfl (by decide) rfl ?_
    refine x_gf (pc' := 8) (v := M 31 5) rfl rfl rfl rfl rfl ?_
    refine x_icge (pc' := 9) (t' := 19) rfl rfl rfl (fun q2 => ?_) (fun q2 => ?_)
    · replace h := ite_t q2 h
      refine x_c (pc' := 20) rfl rfl ?_
      exact x_iret rfl h
    · replace h := ite_f q2 h
      refine x_al (pc' := 10) rfl rfl (by decide) rfl ?_
      refine x_gf (pc' := 11) (v := M 31 8) rfl rfl rfl rfl rfl ?_
      refine x_c (pc' := 12) rfl rfl ?_
      refine x_icge (pc' := 13) (t' := 19) rfl rfl rfl (fun q3 => ?_) (fun q3 => ?_)
      · replace h := ite_t q3 h
        refine x_c (pc' := 20) rfl rfl ?_
        exact x_iret rfl h
      · replace h := ite_f q3 h
        refine x_al (pc' := 14) rfl rfl (by decide) rfl ?_
        refine x_gr (pc' := 15) (v := 32) rfl rfl rfl (by decide) rfl ?_
        refine x_al (pc' := 16) rfl rfl (by decide) rfl ?_
        refine x_gf (pc' := 17) (v := M 31 8) rfl rfl rfl rfl rfl ?_
        obtain ⟨q4, h⟩ := h
        refine x_ia (pc' := 18) 120 (v := M 32 (M 31 8)) rfl rfl rfl q4.1 q4.2 rfl ?_
        refine x_goto (t' := 20) rfl rfl ?_
        exact x_iret rfl h
theorem sg_L_fail {d : Nat} {M : Mem} {r : Res} (h : (if ¬ M 31 9 = (-1) then r = (none, M) else r = (none, up M 31 9 (M 31 8)))) : Cl (d + 1) m_L_fail [(2, 31)] M r := by
  refine cl_of (c := k_L_fail) (mL := 1) (rz := 0) (rc := 2) (ls := [(2, 31)]) rfl rfl rfl ?_
  refine x_al (pc' := 1) rfl rfl (by decide) rfl ?_
  refine x_gf (pc' := 2) (v := M 31 9) rfl rfl rfl rfl rfl ?_
  refine x_c (pc' := 3) rfl rfl ?_
  refine x_icne (pc' := 4) (t' := 8) rfl rfl rfl (fun q1 => ?_) (fun q1 => ?_)
  · replace h := ite_t q1 h
    exact x_ret rfl h
  · replace h := ite_f q1 h
    refine x_al (pc' := 5) rfl rfl (by decide) rfl ?_
    refine x_al (pc' := 6) rfl rfl (by decide) rfl ?_
    refine x_gf (pc' := 7) (v := M 31 8) rfl rfl rfl rfl rfl ?_
    refine x_pf (pc' := 8) (M2 := up M 31 9 (M 31 8)) rfl rfl rfl rfl ?_
    exact x_ret rfl h
theorem sg_L_emit {d : Nat} {p1 : Int} {M : Mem} {r : Res} (h : (if 256 ≤ M 31 7 then r = (none, M) else (0 ≤ M 31 7 ∧ M 31 7 < 256) ∧ r = (none, up (up M 35 (M 31 7) p1) 31 7 (w32 (((up M 35 (M 31 7) p1) 31 7) + 1))))) : Cl (d + 1) m_L_emit [(2, 31), (0, p1)] M r := by
  refine cl_of (c := k_L_emit) (mL := 2) (rz := 0) (rc := 2) (ls := [(2, 31), (0, p1)]) rfl rfl rfl ?_
  refine x_al (pc' := 1) rfl rfl (by decide) rfl ?_
  refine x_gf (pc' := 2) (v := M 31 7) rfl rfl rfl rfl rfl ?_
  refine x_c (pc' := 3) rfl rfl ?_
  refine x_icge (pc' := 4) (t' := 16) rfl rfl rfl (fun q1 => ?_) (fun q1 => ?_)
  · replace h := ite_t q1 h
    exact x_ret rfl h
  · replace h := ite_f q1 h
    refine x_al (pc' := 5) rfl rfl (by decide) rfl ?_
    refine x_gr (pc' := 6) (v := 35) rfl rfl rfl (by decide) rfl ?_
    refine x_al (pc' := 7) rfl rfl (by decide) rfl ?_
    refine x_gf (pc' := 8) (v := M 31 7) rfl rfl rfl rfl rfl ?_
    refine x_il (pc' := 9) rfl rfl rfl ?_
    obtain ⟨q2, h⟩ := h
    refine x_ist (pc' := 10) 256 (M2 := up M 35 (M 31 7) p1) rfl rfl rfl q2.1 q2.2 rfl ?_
    refine x_al (pc' := 11) rfl rfl (by decide) rfl ?_
    refine x_dupa (pc' := 12) rfl rfl ?_
    refine x_gf (pc' := 13) (v := (up M 35 (M 31 7) p1) 31 7) rfl rfl rfl rfl rfl ?_
    refine x_c (pc' := 14) rfl rfl ?_
    refine x_ib (pc' := 15) (v := w32 (((up M 35 (M 31 7) p1) 31 7) + 1)) rfl rfl rfl ?_
    refine x_pf (pc' := 16) (M2 := up (up M 35 (M 31 7) p1) 31 7 (w32 (((up M 35 (M 31 7) p1) 31 7) + 1))) rfl rfl rfl rfl ?_
    exact x_ret rfl h
def at_L_readText_4 (d : Nat) (l1 : Int) (M : Mem) (r : Res) : Prop := Ex sx0 d k_L_readText 0 4 [(2, 31), (0, l1)] [] M r
theorem sg_L_readText {d : Nat} {M : Mem} {r : Res} (h : ∃ M2, Cl d m_L_readLine [(2, 31)] M (none, M2) ∧ at_L_readText_4 d 0 M2 r) : Cl (d + 1) m_L_readText [(2, 31)] M r := by
  refine cl_of (c := k_L_readText) (mL := 2) (rz := 0) (rc := 2) (ls := [(2, 31), (3, 0)]) rfl rfl rfl ?_
  refine x_al (pc' := 1) rfl rfl (by decide) rfl ?_
  obtain ⟨M2, q1, h⟩ := h
  refine x_callv (pc' := 2) (as := [(2, 31)]) (rest := []) rfl rfl rfl rfl rfl rfl q1 ?_
  refine x_c (pc' := 3) rfl rfl ?_
  refine x_is (pc' := 4) (ls' := [(2, 31), (0, 0)]) rfl rfl rfl rfl ?_
  exact h
theorem sg_L_readText_4 {d : Nat} {l1 : Int} {M : Mem} {r : Res} (h : (if 120 ≤ l1 then (if M 31 5 ≤ M 31 8 then r = (none, M) else ∃ M4, Cl d m_L_fail [(2, 31)] M (none, M4) ∧ r = (none, M4)) else ∃ v6, Cl d m_L_next [(2, 31)] M (some (0, v6), M) ∧ (if ¬ v6 = 59 then (if M 31 5 ≤ M 31 8 then r = (none, M) else ∃ M10, Cl d m_L_fail [(2, 31)] M (none, M10) ∧ r = (none, M10)) else ∃ M12, Cl d m_L_readLine [(2, 31)] (up M 31 8 (w32 ((M 31 8) + 1))) (none, M12) ∧ at_L_readText_4 d (w32 (l1 + 1)) M12 r))) : at_L_readText_4 d l1 M r := by
  unfold at_L_readText_4
  refine x_il (pc' := 5) rfl rfl rfl ?_
  refine x_c (pc' := 6) rfl rfl ?_
  refine x_icge (pc' := 7) (t' := 21) rfl rfl rfl (fun q1 => ?_) (fun q1 => ?_)
  · replace h := ite_t q1 h
    refine x_al (pc' := 22) rfl rfl (by decide) rfl ?_
    refine x_gf (pc' := 23) (v := M 31 8) rfl rfl rfl rfl rfl ?_
    refine x_al (pc' := 24) rfl rfl (by decide) rfl ?_
    refine x_gf (pc' := 25) (v := M 31 5) rfl rfl rfl rfl rfl ?_
    refine x_icge (pc' := 26) (t' := 28) rfl rfl rfl (fun q2 => ?_) (fun q2 => ?_)
    · replace h := ite_t q2 h
      exact x_ret rfl h
    · replace h := ite_f q2 h
      refine x_al (pc' := 27) rfl rfl (by decide) rfl ?_
      obtain ⟨M4, q3, h⟩ := h
      refine x_callv (pc' := 28) (as := [(2, 31)]) (rest := []) rfl rfl rfl rfl rfl rfl q3 ?_
      exact x_ret rfl h
  · replace h := ite_f q1 h
    refine x_al (pc' := 8) rfl rfl (by decide) rfl ?_
    obtain ⟨v6, q5, h⟩ := h
    refine x_call (pc' := 9) (as := [(2, 31)]) (rest := []) rfl rfl rfl rfl rfl rfl q5 ?_
    refine x_c (pc' := 10) rfl rfl ?_
    refine x_icne (pc' := 11) (t' := 21) rfl rfl rfl (fun q7 => ?_) (fun q7 => ?_)
    · replace h := ite_t q7 h
      refine x_al (pc' := 22) rfl rfl (by decide) rfl ?_
      refine x_gf (pc' := 23) (v := M 31 8) rfl rfl rfl rfl rfl ?_
      refine x_al (pc' := 24) rfl rfl (by decide) rfl ?_
      refine x_gf (pc' := 25) (v := M 31 5) rfl rfl rfl rfl rfl ?_
      refine x_icge (pc' := 26) (t' := 28) rfl rfl rfl (fun q8 => ?_) (fun q8 => ?_)
      · replace h := ite_t q8 h
        exact x_ret rfl h
      · replace h := ite_f q8 h
        refine x_al (pc' := 27) rfl rfl (by decide) rfl ?_
        obtain ⟨M10, q9, h⟩ := h
        refine x_callv (pc' := 28) (as := [(2, 31)]) (rest := []) rfl rfl rfl rfl rfl rfl q9 ?_
        exact x_ret rfl h
    · replace h := ite_f q7 h
      refine x_al (pc' := 12) rfl rfl (by decide) rfl ?_
      refine x_dupa (pc' := 13) rfl rfl ?_
      refine x_gf (pc' := 14) (v := M 31 8) rfl rfl rfl rfl rfl ?_
      refine x_c (pc' := 15) rfl rfl ?_
      refine x_ib (pc' := 16) (v := w32 ((M 31 8) + 1)) rfl rfl rfl ?_
      refine x_pf (pc' := 17) (M2 := up M 31 8 (w32 ((M 31 8) + 1))) rfl rfl rfl rfl ?_
      refine x_al (pc' := 18) rfl rfl (by decide) rfl ?_
      obtain ⟨M12, q11, h⟩ := h
      refine x_callv (pc' := 19) (as := [(2, 31)]) (rest := []) rfl rfl rfl rfl rfl rfl q11 ?_
      refine x_inc (pc' := 20) (ls' := [(2, 31), (0, w32 (l1 + 1))]) rfl rfl rfl rfl ?_
      refine x_goto (t' := 4) rfl rfl ?_
      exact h
theorem sg_L_readLine {d : Nat} {M : Mem} {r : Res} (h : ∃ M2, Cl d m_L_readE [(2, 31), (0, 0)] M (none, M2) ∧ ∃ v4, Cl d m_L_next [(2, 31)] M2 (some (0, v4), M2) ∧ (if v4 = 63 then ∃ M7, Cl d m_L_emit [(2, 31), (0, (-63))] (up M2 31 8 (w32 ((M2 31 8) + 1))) (none, M7) ∧ ∃ M9, Cl d m_L_emit [(2, 31), (0, 0)] M7 (none, M9) ∧ ∃ M11, Cl d m_L_readE [(2, 31), (0, 0)] M9 (none, M11) ∧ ∃ M13, Cl d m_L_emit [(2, 31), (0, (-59))] M11 (none, M13) ∧ (if 256 ≤ M7 31 7 then r = (none, M13) else (0 ≤ M7 31 7 ∧ M7 31 7 < 256) ∧ r = (none, up M13 35 (M7 31 7) (M13 31 7))) else ∃ M17, Cl d m_L_emit [(2, 31), (0, (-59))] M2 (none, M17) ∧ r = (none, M17))) : Cl (d + 1) m_L_readLine [(2, 31)] M r := by
  refine cl_of (c := k_L_readLine) (mL := 2) (rz := 0) (rc := 2) (ls := [(2, 31), (3, 0)]) rfl rfl rfl ?_
  refine x_al (pc' := 1) rfl rfl (by decide) rfl ?_
  refine x_c (pc' := 2) rfl rfl ?_
  obtain ⟨M2, q1, h⟩ := h
  refine x_callv (pc' := 3) (as := [(2, 31), (0, 0)]) (rest := []) rfl rfl rfl rfl rfl rfl q1 ?_
  refine x_al (pc' := 4) rfl rfl (by decide) rfl ?_
  obtain ⟨v4, q3, h⟩ := h
  refine x_call (pc' := 5) (as := [(2, 31)]) (rest := []) rfl rfl rfl rfl rfl rfl q3 ?_
  refine x_c (pc' := 6) rfl rfl ?_
  refine x_iceq (pc' := 7) (t' := 11) rfl rfl rfl (fun q5 => ?_) (fun q5 => ?_)
  · replace h := ite_t q5 h
    refine x_al (pc' := 12) rfl rfl (by decide) rfl ?_
    refine x_dupa (pc' := 13) rfl rfl ?_
    refine x_gf (pc' := 14) (v := M2 31 8) rfl rfl rfl rfl rfl ?_
    refine x_c (pc' := 15) rfl rfl ?_
    refine x_ib (pc' := 16) (v := w32 ((M2 31 8) + 1)) rfl rfl rfl ?_
    refine x_pf (pc' := 17) (M2 := up M2 31 8 (w32 ((M2 31 8) + 1))) rfl rfl rfl rfl ?_
    refine x_al (pc' := 18) rfl rfl (by decide) rfl ?_
    refine x_c (pc' := 19) rfl rfl ?_
    obtain ⟨M7, q6, h⟩ := h
    refine x_callv (pc' := 20) (as := [(2, 31), (0, (-63))]) (rest := []) rfl rfl rfl rfl rfl rfl q6 ?_
    refine x_al (pc' := 21) rfl rfl (by decide) rfl ?_
    refine x_gf (pc' := 22) (v := M7 31 7) rfl rfl rfl rfl rfl ?_
    refine x_is (pc' := 23) (ls' := [(2, 31), (0, M7 31 7)]) rfl rfl rfl rfl ?_
    refine x_al (pc' := 24) rfl rfl (by decide) rfl ?_
    refine x_c (pc' := 25) rfl rfl ?_
    obtain ⟨M9, q8, h⟩ := h
    refine x_callv (pc' := 26) (as := [(2, 31), (0, 0)]) (rest := []) rfl rfl rfl rfl rfl rfl q8 ?_
    refine x_al (pc' := 27) rfl rfl (by decide) rfl ?_
    refine x_c (pc' := 28) rfl rfl ?_
    obtain ⟨M11, q10, h⟩ := h
    refine x_callv (pc' := 29) (as := [(2, 31), (0, 0)]) (rest := []) rfl rfl rfl rfl rfl rfl q10 ?_
    refine x_al (pc' := 30) rfl rfl (by decide) rfl ?_
    refine x_c (pc' := 31) rfl rfl ?_
    obtain ⟨M13, q12, h⟩ := h
    refine x_callv (pc' := 32) (as := [(2, 31), (0, (-59))]) (rest := []) rfl rfl rfl rfl rfl rfl q12 ?_
    refine x_il (pc' := 33) rfl rfl rfl ?_
    refine x_c (pc' := 34) rfl rfl ?_
    refine x_icge (pc' := 35) (t' := 41) rfl rfl rfl (fun q14 => ?_) (fun q14 => ?_)
    · replace h := ite_t q14 h
      exact x_ret rfl h
    · replace h := ite_f q14 h
      refine x_al (pc' := 36) rfl rfl (by decide) rfl ?_
      refine x_gr (pc' := 37) (v := 35) rfl rfl rfl (by decide) rfl ?_
      refine x_il (pc' := 38) rfl rfl rfl ?_
      refine x_al (pc' := 39) rfl rfl (by decide) rfl ?_
      refine x_gf (pc' := 40) (v := M13 31 7) rfl rfl rfl rfl rfl ?_
      obtain ⟨q15, h⟩ := h
      refine x_ist (pc' := 41) 256 (M2 := up M13 35 (M7 31 7) (M13 31 7)) rfl rfl rfl q15.1 q15.2 rfl ?_
      exact x_ret rfl h
  · replace h := ite_f q5 h
    refine x_al (pc' := 8) rfl rfl (by decide) rfl ?_
    refine x_c (pc' := 9) rfl rfl ?_
    obtain ⟨M17, q16, h⟩ := h
    refine x_callv (pc' := 10) (as := [(2, 31), (0, (-59))]) (rest := []) rfl rfl rfl rfl rfl rfl q16 ?_
    exact x_ret rfl h
def at_L_readE_5 (d : Nat) (l1 : Int) (l2 : Int) (M : Mem) (r : Res) : Prop := Ex sx0 d k_L_readE 0 5 [(2, 31), (0, l1), (0, l2)] [] M r
theorem sg_L_readE {d : Nat} {p1 : Int} {M : Mem} {r : Res} (h : ∃ M2, Cl d m_L_readA [(2, 31), (0, p1)] M (none, M2) ∧ at_L_readE_5 d p1 0 M2 r) : Cl (d + 1) m_L_readE [(2, 31), (0, p1)] M r := by
  refine cl_of (c := k_L_readE) (mL := 3) (rz := 0) (rc := 2) (ls := [(2, 31), (0, p1), (3, 0)]) rfl rfl rfl ?_
  refine x_al (pc' := 1) rfl rfl (by decide) rfl ?_
  refine x_il (pc' := 2) rfl rfl rfl ?_
  obtain ⟨M2, q1, h⟩ := h
  refine x_callv (pc' := 3) (as := [(2, 31), (0, p1)]) (rest := []) rfl rfl rfl rfl rfl rfl q1 ?_
  refine x_c (pc' := 4) rfl rfl ?_
  refine x_is (pc' := 5) (ls' := [(2, 31), (0, p1), (0, 0)]) rfl rfl rfl rfl ?_
  exact h
theorem sg_L_readE_5 {d : Nat} {l1 : Int} {l2 : Int} {M : Mem} {r : Res} (h : (if 120 ≤ l2 then r = (none, M) else ∃ v3, Cl d m_L_next [(2, 31)] M (some (0, v3), M) ∧ (if ¬ v3 = 124 then r = (none, M) else ∃ M6, Cl d m_L_readA [(2, 31), (0, l1)] (up M 31 8 (w32 ((M 31 8) + 1))) (none, M6) ∧ ∃ M8, Cl d m_L_emit [(2, 31), (0, (-124))] M6 (none, M8) ∧ at_L_readE_5 d l1 (w32 (l2 + 1)) M8 r))) : at_L_readE_5 d l1 l2 M r := by
  unfold at_L_readE_5
  refine x_il (pc' := 6) rfl rfl rfl ?_
  refine x_c (pc' := 7) rfl rfl ?_
  refine x_icge (pc' := 8) (t' := 26) rfl rfl rfl (fun q1 => ?_) (fun q1 => ?_)
  · replace h := ite_t q1 h
    exact x_ret rfl h
  · replace h := ite_f q1 h
    refine x_al (pc' := 9) rfl rfl (by decide) rfl ?_
    obtain ⟨v3, q2, h⟩ := h
    refine x_call (pc' := 10) (as := [(2, 31)]) (rest := []) rfl rfl rfl rfl rfl rfl q2 ?_
    refine x_c (pc' := 11) rfl rfl ?_
    refine x_icne (pc' := 12) (t' := 26) rfl rfl rfl (fun q4 => ?_) (fun q4 => ?_)
    · replace h := ite_t q4 h
      exact x_ret rfl h
    · replace h := ite_f q4 h
      refine x_al (pc' := 13) rfl rfl (by decide) rfl ?_
      refine x_dupa (pc' := 14) rfl rfl ?_
      refine x_gf (pc' := 15) (v := M 31 8) rfl rfl rfl rfl rfl ?_
      refine x_c (pc' := 16) rfl rfl ?_
      refine x_ib (pc' := 17) (v := w32 ((M 31 8) + 1)) rfl rfl rfl ?_
      refine x_pf (pc' := 18) (M2 := up M 31 8 (w32 ((M 31 8) + 1))) rfl rfl rfl rfl ?_
      refine x_al (pc' := 19) rfl rfl (by decide) rfl ?_
      refine x_il (pc' := 20) rfl rfl rfl ?_
      obtain ⟨M6, q5, h⟩ := h
      refine x_callv (pc' := 21) (as := [(2, 31), (0, l1)]) (rest := []) rfl rfl rfl rfl rfl rfl q5 ?_
      refine x_al (pc' := 22) rfl rfl (by decide) rfl ?_
      refine x_c (pc' := 23) rfl rfl ?_
      obtain ⟨M8, q7, h⟩ := h
      refine x_callv (pc' := 24) (as := [(2, 31), (0, (-124))]) (rest := []) rfl rfl rfl rfl rfl rfl q7 ?_
      refine x_inc (pc' := 25) (ls' := [(2, 31), (0, l1), (0, w32 (l2 + 1))]) rfl rfl rfl rfl ?_
      refine x_goto (t' := 5) rfl rfl ?_
      exact h
def at_L_readA_5 (d : Nat) (l1 : Int) (l2 : Int) (M : Mem) (r : Res) : Prop := Ex sx0 d k_L_readA 0 5 [(2, 31), (0, l1), (0, l2)] [] M r
theorem sg_L_readA {d : Nat} {p1 : Int} {M : Mem} {r : Res} (h : ∃ M2, Cl d m_L_readB [(2, 31), (0, p1)] M (none, M2) ∧ at_L_readA_5 d p1 0 M2 r) : Cl (d + 1) m_L_readA [(2, 31), (0, p1)] M r := by
  refine cl_of (c := k_L_readA) (mL := 3) (rz := 0) (rc := 2) (ls := [(2, 31), (0, p1), (3, 0)]) rfl rfl rfl ?_
  refine x_al (pc' := 1) rfl rfl (by decide) rfl ?_
  refine x_il (pc' := 2) rfl rfl rfl ?_
  obtain ⟨M2, q1, h⟩ := h
  refine x_callv (pc' := 3) (as := [(2, 31), (0, p1)]) (rest := []) rfl rfl rfl rfl rfl rfl q1 ?_
  refine x_c (pc' := 4) rfl rfl ?_
  refine x_is (pc' := 5) (ls' := [(2, 31), (0, p1), (0, 0)]) rfl rfl rfl rfl ?_
  exact h
theorem sg_L_readA_5 {d : Nat} {l1 : Int} {l2 : Int} {M : Mem} {r : Res} (h : (if 120 ≤ l2 then r = (none, M) else ∃ v3, Cl d m_L_next [(2, 31)] M (some (0, v3), M) ∧ (if ¬ v3 = 38 then r = (none, M) else ∃ M6, Cl d m_L_readB [(2, 31), (0, l1)] (up M 31 8 (w32 ((M 31 8) + 1))) (none, M6) ∧ ∃ M8, Cl d m_L_emit [(2, 31), (0, (-38))] M6 (none, M8) ∧ at_L_readA_5 d l1 (w32 (l2 + 1)) M8 r))) : at_L_readA_5 d l1 l2 M r := by
  unfold at_L_readA_5
  refine x_il (pc' := 6) rfl rfl rfl ?_
  refine x_c (pc' := 7) rfl rfl ?_
  refine x_icge (pc' := 8) (t' := 26) rfl rfl rfl (fun q1 => ?_) (fun q1 => ?_)
  · replace h := ite_t q1 h
    exact x_ret rfl h
  · replace h := ite_f q1 h
    refine x_al (pc' := 9) rfl rfl (by decide) rfl ?_
    obtain ⟨v3, q2, h⟩ := h
    refine x_call (pc' := 10) (as := [(2, 31)]) (rest := []) rfl rfl rfl rfl rfl rfl q2 ?_
    refine x_c (pc' := 11) rfl rfl ?_
    refine x_icne (pc' := 12) (t' := 26) rfl rfl rfl (fun q4 => ?_) (fun q4 => ?_)
    · replace h := ite_t q4 h
      exact x_ret rfl h
    · replace h := ite_f q4 h
      refine x_al (pc' := 13) rfl rfl (by decide) rfl ?_
      refine x_dupa (pc' := 14) rfl rfl ?_
      refine x_gf (pc' := 15) (v := M 31 8) rfl rfl rfl rfl rfl ?_
      refine x_c (pc' := 16) rfl rfl ?_
      refine x_ib (pc' := 17) (v := w32 ((M 31 8) + 1)) rfl rfl rfl ?_
      refine x_pf (pc' := 18) (M2 := up M 31 8 (w32 ((M 31 8) + 1))) rfl rfl rfl rfl ?_
      refine x_al (pc' := 19) rfl rfl (by decide) rfl ?_
      refine x_il (pc' := 20) rfl rfl rfl ?_
      obtain ⟨M6, q5, h⟩ := h
      refine x_callv (pc' := 21) (as := [(2, 31), (0, l1)]) (rest := []) rfl rfl rfl rfl rfl rfl q5 ?_
      refine x_al (pc' := 22) rfl rfl (by decide) rfl ?_
      refine x_c (pc' := 23) rfl rfl ?_
      obtain ⟨M8, q7, h⟩ := h
      refine x_callv (pc' := 24) (as := [(2, 31), (0, (-38))]) (rest := []) rfl rfl rfl rfl rfl rfl q7 ?_
      refine x_inc (pc' := 25) (ls' := [(2, 31), (0, l1), (0, w32 (l2 + 1))]) rfl rfl rfl rfl ?_
      refine x_goto (t' := 5) rfl rfl ?_
      exact h
theorem sg_L_readB {d : Nat} {p1 : Int} {M : Mem} {r : Res} (h : ∃ M2, Cl d m_L_readS [(2, 31), (0, p1)] M (none, M2) ∧ ∃ v4, Cl d m_L_next [(2, 31)] M2 (some (0, v4), M2) ∧ (if v4 = 60 then ∃ M7, Cl d m_L_readS [(2, 31), (0, p1)] (up M2 31 8 (w32 ((M2 31 8) + 1))) (none, M7) ∧ ∃ M9, Cl d m_L_emit [(2, 31), (0, w32 (-v4))] M7 (none, M9) ∧ r = (none, M9) else (if v4 = 61 then ∃ M12, Cl d m_L_readS [(2, 31), (0, p1)] (up M2 31 8 (w32 ((M2 31 8) + 1))) (none, M12) ∧ ∃ M14, Cl d m_L_emit [(2, 31), (0, w32 (-v4))] M12 (none, M14) ∧ r = (none, M14) else (if ¬ v4 = 62 then r = (none, M2) else ∃ M17, Cl d m_L_readS [(2, 31), (0, p1)] (up M2 31 8 (w32 ((M2 31 8) + 1))) (none, M17) ∧ ∃ M19, Cl d m_L_emit [(2, 31), (0, w32 (-v4))] M17 (none, M19) ∧ r = (none, M19))))) : Cl (d + 1) m_L_readB [(2, 31), (0, p1)] M r := by
  refine cl_of (c := k_L_readB) (mL := 3) (rz := 0) (rc := 2) (ls := [(2, 31), (0, p1), (3, 0)]) rfl rfl rfl ?_
  refine x_al (pc' := 1) rfl rfl (by decide) rfl ?_
  refine x_il (pc' := 2) rfl rfl rfl ?_
  obtain ⟨M2, q1, h⟩ := h
  refine x_callv (pc' := 3) (as := [(2, 31), (0, p1)]) (rest := []) rfl rfl rfl rfl rfl rfl q1 ?_
  refine x_al (pc' := 4) rfl rfl (by decide) rfl ?_
  obtain ⟨v4, q3, h⟩ := h
  refine x_call (pc' := 5) (as := [(2, 31)]) (rest := []) rfl rfl rfl rfl rfl rfl q3 ?_
  refine x_is (pc' := 6) (ls' := [(2, 31), (0, p1), (0, v4)]) rfl rfl rfl rfl ?_
  refine x_il (pc' := 7) rfl rfl rfl ?_
  refine x_c (pc' := 8) rfl rfl ?_
  refine x_iceq (pc' := 9) (t' := 15) rfl rfl rfl (fun q5 => ?_) (fun q5 => ?_)
  · replace h := ite_t q5 h
    refine x_al (pc' := 16) rfl rfl (by decide) rfl ?_
    refine x_dupa (pc' := 17) rfl rfl ?_
    refine x_gf (pc' := 18) (v := M2 31 8) rfl rfl rfl rfl rfl ?_
    refine x_c (pc' := 19) rfl rfl ?_
    refine x_ib (pc' := 20) (v := w32 ((M2 31 8) + 1)) rfl rfl rfl ?_
    refine x_pf (pc' := 21) (M2 := up M2 31 8 (w32 ((M2 31 8) + 1))) rfl rfl rfl rfl ?_
    refine x_al (pc' := 22) rfl rfl (by decide) rfl ?_
    refine x_il (pc' := 23) rfl rfl rfl ?_
    obtain ⟨M7, q6, h⟩ := h
    refine x_callv (pc' := 24) (as := [(2, 31), (0, p1)]) (rest := []) rfl rfl rfl rfl rfl rfl q6 ?_
    refine x_al (pc' := 25) rfl rfl (by decide) rfl ?_
    refine x_il (pc' := 26) rfl rfl rfl ?_
    refine x_neg (pc' := 27) rfl rfl ?_
    obtain ⟨M9, q8, h⟩ := h
    refine x_callv (pc' := 28) (as := [(2, 31), (0, w32 (-v4))]) (rest := []) rfl rfl rfl rfl rfl rfl q8 ?_
    exact x_ret rfl h
  · replace h := ite_f q5 h
    refine x_il (pc' := 10) rfl rfl rfl ?_
    refine x_c (pc' := 11) rfl rfl ?_
    refine x_iceq (pc' := 12) (t' := 15) rfl rfl rfl (fun q10 => ?_) (fun q10 => ?_)
    · replace h := ite_t q10 h
      refine x_al (pc' := 16) rfl rfl (by decide) rfl ?_
      refine x_dupa (pc' := 17) rfl rfl ?_
      refine x_gf (pc' := 18) (v := M2 31 8) rfl rfl rfl rfl rfl ?_
      refine x_c (pc' := 19) rfl rfl ?_
      refine x_ib (pc' := 20) (v := w32 ((M2 31 8) + 1)) rfl rfl rfl ?_
      refine x_pf (pc' := 21) (M2 := up M2 31 8 (w32 ((M2 31 8) + 1))) rfl rfl rfl rfl ?_
      refine x_al (pc' := 22) rfl rfl (by decide) rfl ?_
      refine x_il (pc' := 23) rfl rfl rfl ?_
      obtain ⟨M12, q11, h⟩ := h
      refine x_callv (pc' := 24) (as := [(2, 31), (0, p1)]) (rest := []) rfl rfl rfl rfl rfl rfl q11 ?_
      refine x_al (pc' := 25) rfl rfl (by decide) rfl ?_
      refine x_il (pc' := 26) rfl rfl rfl ?_
      refine x_neg (pc' := 27) rfl rfl ?_
      obtain ⟨M14, q13, h⟩ := h
      refine x_callv (pc' := 28) (as := [(2, 31), (0, w32 (-v4))]) (rest := []) rfl rfl rfl rfl rfl rfl q13 ?_
      exact x_ret rfl h
    · replace h := ite_f q10 h
      refine x_il (pc' := 13) rfl rfl rfl ?_
      refine x_c (pc' := 14) rfl rfl ?_
      refine x_icne (pc' := 15) (t' := 28) rfl rfl rfl (fun q15 => ?_) (fun q15 => ?_)
      · replace h := ite_t q15 h
        exact x_ret rfl h
      · replace h := ite_f q15 h
        refine x_al (pc' := 16) rfl rfl (by decide) rfl ?_
        refine x_dupa (pc' := 17) rfl rfl ?_
        refine x_gf (pc' := 18) (v := M2 31 8) rfl rfl rfl rfl rfl ?_
        refine x_c (pc' := 19) rfl rfl ?_
        refine x_ib (pc' := 20) (v := w32 ((M2 31 8) + 1)) rfl rfl rfl ?_
        refine x_pf (pc' := 21) (M2 := up M2 31 8 (w32 ((M2 31 8) + 1))) rfl rfl rfl rfl ?_
        refine x_al (pc' := 22) rfl rfl (by decide) rfl ?_
        refine x_il (pc' := 23) rfl rfl rfl ?_
        obtain ⟨M17, q16, h⟩ := h
        refine x_callv (pc' := 24) (as := [(2, 31), (0, p1)]) (rest := []) rfl rfl rfl rfl rfl rfl q16 ?_
        refine x_al (pc' := 25) rfl rfl (by decide) rfl ?_
        refine x_il (pc' := 26) rfl rfl rfl ?_
        refine x_neg (pc' := 27) rfl rfl ?_
        obtain ⟨M19, q18, h⟩ := h
        refine x_callv (pc' := 28) (as := [(2, 31), (0, w32 (-v4))]) (rest := []) rfl rfl rfl rfl rfl rfl q18 ?_
        exact x_ret rfl h
def at_L_readS_5 (d : Nat) (l1 : Int) (l2 : Int) (w3 : AV) (M : Mem) (r : Res) : Prop := Ex sx0 d k_L_readS 0 5 [(2, 31), (0, l1), (0, l2), w3] [] M r
theorem sg_L_readS {d : Nat} {p1 : Int} {M : Mem} {r : Res} (h : ∃ M2, Cl d m_L_readP [(2, 31), (0, p1)] M (none, M2) ∧ at_L_readS_5 d p1 0 (3, 0) M2 r) : Cl (d + 1) m_L_readS [(2, 31), (0, p1)] M r := by
  refine cl_of (c := k_L_readS) (mL := 4) (rz := 0) (rc := 2) (ls := [(2, 31), (0, p1), (3, 0), (3, 0)]) rfl rfl rfl ?_
  refine x_al (pc' := 1) rfl rfl (by decide) rfl ?_
  refine x_il (pc' := 2) rfl rfl rfl ?_
  obtain ⟨M2, q1, h⟩ := h
  refine x_callv (pc' := 3) (as := [(2, 31), (0, p1)]) (rest := []) rfl rfl rfl rfl rfl rfl q1 ?_
  refine x_c (pc' := 4) rfl rfl ?_
  refine x_is (pc' := 5) (ls' := [(2, 31), (0, p1), (0, 0), (3, 0)]) rfl rfl rfl rfl ?_
  exact h
theorem sg_L_readS_5 {d : Nat} {l1 : Int} {l2 : Int} {w3 : AV} {M : Mem} {r : Res} (h : (if 120 ≤ l2 then r = (none, M) else ∃ v3, Cl d m_L_next [(2, 31)] M (some (0, v3), M) ∧ (if v3 = 43 then ∃ v6, Cl d m_L_next [(2, 31)] M (some (0, v6), M) ∧ ∃ M8, Cl d m_L_readP [(2, 31), (0, l1)] (up M 31 8 (w32 ((M 31 8) + 1))) (none, M8) ∧ ∃ M10, Cl d m_L_emit [(2, 31), (0, w32 (-v6))] M8 (none, M10) ∧ at_L_readS_5 d l1 (w32 (l2 + 1)) (0, v6) M10 r else ∃ v12, Cl d m_L_next [(2, 31)] M (some (0, v12), M) ∧ (if ¬ v12 = 45 then r = (none, M) else ∃ v15, Cl d m_L_next [(2, 31)] M (some (0, v15), M) ∧ ∃ M17, Cl d m_L_readP [(2, 31), (0, l1)] (up M 31 8 (w32 ((M 31 8) + 1))) (none, M17) ∧ ∃ M19, Cl d m_L_emit [(2, 31), (0, w32 (-v15))] M17 (none, M19) ∧ at_L_readS_5 d l1 (w32 (l2 + 1)) (0, v15) M19 r)))) : at_L_readS_5 d l1 l2 w3 M r := by
  unfold at_L_readS_5
  refine x_il (pc' := 6) rfl rfl rfl ?_
  refine x_c (pc' := 7) rfl rfl ?_
  refine x_icge (pc' := 8) (t' := 34) rfl rfl rfl (fun q1 => ?_) (fun q1 => ?_)
  · replace h := ite_t q1 h
    exact x_ret rfl h
  · replace h := ite_f q1 h
    refine x_al (pc' := 9) rfl rfl (by decide) rfl ?_
    obtain ⟨v3, q2, h⟩ := h
    refine x_call (pc' := 10) (as := [(2, 31)]) (rest := []) rfl rfl rfl rfl rfl rfl q2 ?_
    refine x_c (pc' := 11) rfl rfl ?_
    refine x_iceq (pc' := 12) (t' := 16) rfl rfl rfl (fun q4 => ?_) (fun q4 => ?_)
    · replace h := ite_t q4 h
      refine x_al (pc' := 17) rfl rfl (by decide) rfl ?_
      obtain ⟨v6, q5, h⟩ := h
      refine x_call (pc' := 18) (as := [(2, 31)]) (rest := []) rfl rfl rfl rfl rfl rfl q5 ?_
      refine x_is (pc' := 19) (ls' := [(2, 31), (0, l1), (0, l2), (0, v6)]) rfl rfl rfl rfl ?_
      refine x_al (pc' := 20) rfl rfl (by decide) rfl ?_
      refine x_dupa (pc' := 21) rfl rfl ?_
      refine x_gf (pc' := 22) (v := M 31 8) rfl rfl rfl rfl rfl ?_
      refine x_c (pc' := 23) rfl rfl ?_
      refine x_ib (pc' := 24) (v := w32 ((M 31 8) + 1)) rfl rfl rfl ?_
      refine x_pf (pc' := 25) (M2 := up M 31 8 (w32 ((M 31 8) + 1))) rfl rfl rfl rfl ?_
      refine x_al (pc' := 26) rfl rfl (by decide) rfl ?_
      refine x_il (pc' := 27) rfl rfl rfl ?_
      obtain ⟨M8, q7, h⟩ := h
      refine x_callv (pc' := 28) (as := [(2, 31), (0, l1)]) (rest := []) rfl rfl rfl rfl rfl rfl q7 ?_
      refine x_al (pc' := 29) rfl rfl (by decide) rfl ?_
      refine x_il (pc' := 30) rfl rfl rfl ?_
      refine x_neg (pc' := 31) rfl rfl ?_
      obtain ⟨M10, q9, h⟩ := h
      refine x_callv (pc' := 32) (as := [(2, 31), (0, w32 (-v6))]) (rest := []) rfl rfl rfl rfl rfl rfl q9 ?_
      refine x_inc (pc' := 33) (ls' := [(2, 31), (0, l1), (0, w32 (l2 + 1)), (0, v6)]) rfl rfl rfl rfl ?_
      refine x_goto (t' := 5) rfl rfl ?_
      exact h
    · replace h := ite_f q4 h
      refine x_al (pc' := 13) rfl rfl (by decide) rfl ?_
      obtain ⟨v12, q11, h⟩ := h
      refine x_call (pc' := 14) (as := [(2, 31)]) (rest := []) rfl rfl rfl rfl rfl rfl q11 ?_
      refine x_c (pc' := 15) rfl rfl ?_
      refine x_icne (pc' := 16) (t' := 34) rfl rfl rfl (fun q13 => ?_) (fun q13 => ?_)
      · replace h := ite_t q13 h
        exact x_ret rfl h
      · replace h := ite_f q13 h
        refine x_al (pc' := 17) rfl rfl (by decide) rfl ?_
        obtain ⟨v15, q14, h⟩ := h
        refine x_call (pc' := 18) (as := [(2, 31)]) (rest := []) rfl rfl rfl rfl rfl rfl q14 ?_
        refine x_is (pc' := 19) (ls' := [(2, 31), (0, l1), (0, l2), (0, v15)]) rfl rfl rfl rfl ?_
        refine x_al (pc' := 20) rfl rfl (by decide) rfl ?_
        refine x_dupa (pc' := 21) rfl rfl ?_
        refine x_gf (pc' := 22) (v := M 31 8) rfl rfl rfl rfl rfl ?_
        refine x_c (pc' := 23) rfl rfl ?_
        refine x_ib (pc' := 24) (v := w32 ((M 31 8) + 1)) rfl rfl rfl ?_
        refine x_pf (pc' := 25) (M2 := up M 31 8 (w32 ((M 31 8) + 1))) rfl rfl rfl rfl ?_
        refine x_al (pc' := 26) rfl rfl (by decide) rfl ?_
        refine x_il (pc' := 27) rfl rfl rfl ?_
        obtain ⟨M17, q16, h⟩ := h
        refine x_callv (pc' := 28) (as := [(2, 31), (0, l1)]) (rest := []) rfl rfl rfl rfl rfl rfl q16 ?_
        refine x_al (pc' := 29) rfl rfl (by decide) rfl ?_
        refine x_il (pc' := 30) rfl rfl rfl ?_
        refine x_neg (pc' := 31) rfl rfl ?_
        obtain ⟨M19, q18, h⟩ := h
        refine x_callv (pc' := 32) (as := [(2, 31), (0, w32 (-v15))]) (rest := []) rfl rfl rfl rfl rfl rfl q18 ?_
        refine x_inc (pc' := 33) (ls' := [(2, 31), (0, l1), (0, w32 (l2 + 1)), (0, v15)]) rfl rfl rfl rfl ?_
        refine x_goto (t' := 5) rfl rfl ?_
        exact h
def at_L_readP_5 (d : Nat) (l1 : Int) (l2 : Int) (w3 : AV) (M : Mem) (r : Res) : Prop := Ex sx0 d k_L_readP 0 5 [(2, 31), (0, l1), (0, l2), w3] [] M r
theorem sg_L_readP {d : Nat} {p1 : Int} {M : Mem} {r : Res} (h : ∃ M2, Cl d m_L_readO [(2, 31), (0, p1)] M (none, M2) ∧ at_L_readP_5 d p1 0 (3, 0) M2 r) : Cl (d + 1) m_L_readP [(2, 31), (0, p1)] M r := by
  refine cl_of (c := k_L_readP) (mL := 4) (rz := 0) (rc := 2) (ls := [(2, 31), (0, p1), (3, 0), (3, 0)]) rfl rfl rfl ?_
  refine x_al (pc' := 1) rfl rfl (by decide) rfl ?_
  refine x_il (pc' := 2) rfl rfl rfl ?_
  obtain ⟨M2, q1, h⟩ := h
  refine x_callv (pc' := 3) (as := [(2, 31), (0, p1)]) (rest := []) rfl rfl rfl rfl rfl rfl q1 ?_
  refine x_c (pc' := 4) rfl rfl ?_
  refine x_is (pc' := 5) (ls' := [(2, 31), (0, p1), (0, 0), (3, 0)]) rfl rfl rfl rfl ?_
  exact h
theorem sg_L_readP_5 {d : Nat} {l1 : Int} {l2 : Int} {w3 : AV} {M : Mem} {r : Res} (h : (if 120 ≤ l2 then r = (none, M) else ∃ v3, Cl d m_L_next [(2, 31)] M (some (0, v3), M) ∧ (if v3 = 42 then ∃ v6, Cl d m_L_next [(2, 31)] M (some (0, v6), M) ∧ ∃ M8, Cl d m_L_readO [(2, 31), (0, l1)] (up M 31 8 (w32 ((M 31 8) + 1))) (none, M8) ∧ ∃ M10, Cl d m_L_emit [(2, 31), (0, w32 (-v6))] M8 (none, M10) ∧ at_L_readP_5 d l1 (w32 (l2 + 1)) (0, v6) M10 r else ∃ v12, Cl d m_L_next [(2, 31)] M (some (0, v12), M) ∧ (if v12 = 47 then ∃ v15, Cl d m_L_next [(2, 31)] M (some (0, v15), M) ∧ ∃ M17, Cl d m_L_readO [(2, 31), (0, l1)] (up M 31 8 (w32 ((M 31 8) + 1))) (none, M17) ∧ ∃ M19, Cl d m_L_emit [(2, 31), (0, w32 (-v15))] M17 (none, M19) ∧ at_L_readP_5 d l1 (w32 (l2 + 1)) (0, v15) M19 r else ∃ v21, Cl d m_L_next [(2, 31)] M (some (0, v21), M) ∧ (if ¬ v21 = 37 then r = (none, M) else ∃ v24, Cl d m_L_next [(2, 31)] M (some (0, v24), M) ∧ ∃ M26, Cl d m_L_readO [(2, 31), (0, l1)] (up M 31 8 (w32 ((M 31 8) + 1))) (none, M26) ∧ ∃ M28, Cl d m_L_emit [(2, 31), (0, w32 (-v24))] M26 (none, M28) ∧ at_L_readP_5 d l1 (w32 (l2 + 1)) (0, v24) M28 r))))) : at_L_readP_5 d l1 l2 w3 M r := by
  unfold at_L_readP_5
  refine x_il (pc' := 6) rfl rfl rfl ?_
  refine x_c (pc' := 7) rfl rfl ?_
  refine x_icge (pc' := 8) (t' := 38) rfl rfl rfl (fun q1 => ?_) (fun q1 => ?_)
  · replace h := ite_t q1 h
    exact x_ret rfl h
  · replace h := ite_f q1 h
    refine x_al (pc' := 9) rfl rfl (by decide) rfl ?_
    obtain ⟨v3, q2, h⟩ := h
    refine x_call (pc' := 10) (as := [(2, 31)]) (rest := []) rfl rfl rfl rfl rfl rfl q2 ?_
    refine x_c (pc' := 11) rfl rfl ?_
    refine x_iceq (pc' := 12) (t' := 20) rfl rfl rfl (fun q4 => ?_) (fun q4 => ?_)
    · replace h := ite_t q4 h
      refine x_al (pc' := 21) rfl rfl (by decide) rfl ?_
      obtain ⟨v6, q5, h⟩ := h
      refine x_call (pc' := 22) (as := [(2, 31)]) (rest := []) rfl rfl rfl rfl rfl rfl q5 ?_
      refine x_is (pc' := 23) (ls' := [(2, 31), (0, l1), (0, l2), (0, v6)]) rfl rfl rfl rfl ?_
      refine x_al (pc' := 24) rfl rfl (by decide) rfl ?_
      refine x_dupa (pc' := 25) rfl rfl ?_
      refine x_gf (pc' := 26) (v := M 31 8) rfl rfl rfl rfl rfl ?_
      refine x_c (pc' := 27) rfl rfl ?_
      refine x_ib (pc' := 28) (v := w32 ((M 31 8) + 1)) rfl rfl rfl ?_
      refine x_pf (pc' := 29) (M2 := up M 31 8 (w32 ((M 31 8) + 1))) rfl rfl rfl rfl ?_
      refine x_al (pc' := 30) rfl rfl (by decide) rfl ?_
      refine x_il (pc' := 31) rfl rfl rfl ?_
      obtain ⟨M8, q7, h⟩ := h
      refine x_callv (pc' := 32) (as := [(2, 31), (0, l1)]) (rest := []) rfl rfl rfl rfl rfl rfl q7 ?_
      refine x_al (pc' := 33) rfl rfl (by decide) rfl ?_
      refine x_il (pc' := 34) rfl rfl rfl ?_
      refine x_neg (pc' := 35) rfl rfl ?_
      obtain ⟨M10, q9, h⟩ := h
      refine x_callv (pc' := 36) (as := [(2, 31), (0, w32 (-v6))]) (rest := []) rfl rfl rfl rfl rfl rfl q9 ?_
      refine x_inc (pc' := 37) (ls' := [(2, 31), (0, l1), (0, w32 (l2 + 1)), (0, v6)]) rfl rfl rfl rfl ?_
      refine x_goto (t' := 5) rfl rfl ?_
      exact h
    · replace h := ite_f q4 h
      refine x_al (pc' := 13) rfl rfl (by decide) rfl ?_
      obtain ⟨v12, q11, h⟩ := h
      refine x_call (pc' := 14) (as := [(2, 31)]) (rest := []) rfl rfl rfl rfl rfl rfl q11 ?_
      refine x_c (pc' := 15) rfl rfl ?_
      refine x_iceq (pc' := 16) (t' := 20) rfl rfl rfl (fun q13 => ?_) (fun q13 => ?_)
      · replace h := ite_t q13 h
        refine x_al (pc' := 21) rfl rfl (by decide) rfl ?_
        obtain ⟨v15, q14, h⟩ := h
        refine x_call (pc' := 22) (as := [(2, 31)]) (rest := []) rfl rfl rfl rfl rfl rfl q14 ?_
        refine x_is (pc' := 23) (ls' := [(2, 31), (0, l1), (0, l2), (0, v15)]) rfl rfl rfl rfl ?_
        refine x_al (pc' := 24) rfl rfl (by decide) rfl ?_
        refine x_dupa (pc' := 25) rfl rfl ?_
        refine x_gf (pc' := 26) (v := M 31 8) rfl rfl rfl rfl rfl ?_
        refine x_c (pc' := 27) rfl rfl ?_
        refine x_ib (pc' := 28) (v := w32 ((M 31 8) + 1)) rfl rfl rfl ?_
        refine x_pf (pc' := 29) (M2 := up M 31 8 (w32 ((M 31 8) + 1))) rfl rfl rfl rfl ?_
        refine x_al (pc' := 30) rfl rfl (by decide) rfl ?_
        refine x_il (pc' := 31) rfl rfl rfl ?_
        obtain ⟨M17, q16, h⟩ := h
        refine x_callv (pc' := 32) (as := [(2, 31), (0, l1)]) (rest := []) rfl rfl rfl rfl rfl rfl q16 ?_
        refine x_al (pc' := 33) rfl rfl (by decide) rfl ?_
        refine x_il (pc' := 34) rfl rfl rfl ?_
        refine x_neg (pc' := 35) rfl rfl ?_
        obtain ⟨M19, q18, h⟩ := h
        refine x_callv (pc' := 36) (as := [(2, 31), (0, w32 (-v15))]) (rest := []) rfl rfl rfl rfl rfl rfl q18 ?_
        refine x_inc (pc' := 37) (ls' := [(2, 31), (0, l1), (0, w32 (l2 + 1)), (0, v15)]) rfl rfl rfl rfl ?_
        refine x_goto (t' := 5) rfl rfl ?_
        exact h
      · replace h := ite_f q13 h
        refine x_al (pc' := 17) rfl rfl (by decide) rfl ?_
        obtain ⟨v21, q20, h⟩ := h
        refine x_call (pc' := 18) (as := [(2, 31)]) (rest := []) rfl rfl rfl rfl rfl rfl q20 ?_
        refine x_c (pc' := 19) rfl rfl ?_
        refine x_icne (pc' := 20) (t' := 38) rfl rfl rfl (fun q22 => ?_) (fun q22 => ?_)
        · replace h := ite_t q22 h
          exact x_ret rfl h
        · replace h := ite_f q22 h
          refine x_al (pc' := 21) rfl rfl (by decide) rfl ?_
          obtain ⟨v24, q23, h⟩ := h
          refine x_call (pc' := 22) (as := [(2, 31)]) (rest := []) rfl rfl rfl rfl rfl rfl q23 ?_
          refine x_is (pc' := 23) (ls' := [(2, 31), (0, l1), (0, l2), (0, v24)]) rfl rfl rfl rfl ?_
          refine x_al (pc' := 24) rfl rfl (by decide) rfl ?_
          refine x_dupa (pc' := 25) rfl rfl ?_
          refine x_gf (pc' := 26) (v := M 31 8) rfl rfl rfl rfl rfl ?_
          refine x_c (pc' := 27) rfl rfl ?_
          refine x_ib (pc' := 28) (v := w32 ((M 31 8) + 1)) rfl rfl rfl ?_
          refine x_pf (pc' := 29) (M2 := up M 31 8 (w32 ((M 31 8) + 1))) rfl rfl rfl rfl ?_
          refine x_al (pc' := 30) rfl rfl (by decide) rfl ?_
          refine x_il (pc' := 31) rfl rfl rfl ?_
          obtain ⟨M26, q25, h⟩ := h
          refine x_callv (pc' := 32) (as := [(2, 31), (0, l1)]) (rest := []) rfl rfl rfl rfl rfl rfl q25 ?_
          refine x_al (pc' := 33) rfl rfl (by decide) rfl ?_
          refine x_il (pc' := 34) rfl rfl rfl ?_
          refine x_neg (pc' := 35) rfl rfl ?_
          obtain ⟨M28, q27, h⟩ := h
          refine x_callv (pc' := 36) (as := [(2, 31), (0, w32 (-v24))]) (rest := []) rfl rfl rfl rfl rfl rfl q27 ?_
          refine x_inc (pc' := 37) (ls' := [(2, 31), (0, l1), (0, w32 (l2 + 1)), (0, v24)]) rfl rfl rfl rfl ?_
          refine x_goto (t' := 5) rfl rfl ?_
          exact h
theorem sg_L_readO {d : Nat} {p1 : Int} {M : Mem} {r : Res} (h : ∃ v2, Cl d m_L_next [(2, 31)] M (some (0, v2), M) ∧ ∃ v4, Cl d m_L_isDigit [(0, v2)] M (some (0, v4), M) ∧ (if v4 = 0 then ∃ v7, Cl d m_L_nameIndex [(0, v2)] M (some (0, v7), M) ∧ (if v7 < 0 then (if v2 = 40 then (if 6 ≤ p1 then ∃ M12, Cl d m_L_fail [(2, 31)] M (none, M12) ∧ r = (none, M12) else ∃ M14, Cl d m_L_readOpened [(2, 31), (0, v2), (0, w32 (p1 + 1))] (up M 31 8 (w32 ((M 31 8) + 1))) (none, M14) ∧ r = (none, M14)) else (if v2 = 33 then (if 6 ≤ p1 then ∃ M18, Cl d m_L_fail [(2, 31)] M (none, M18) ∧ r = (none, M18) else ∃ M20, Cl d m_L_readOpened [(2, 31), (0, v2), (0, w32 (p1 + 1))] (up M 31 8 (w32 ((M 31 8) + 1))) (none, M20) ∧ r = (none, M20)) else (if ¬ v2 = 45 then ∃ M23, Cl d m_L_fail [(2, 31)] M (none, M23) ∧ r = (none, M23) else (if 6 ≤ p1 then ∃ M26, Cl d m_L_fail [(2, 31)] M (none, M26) ∧ r = (none, M26) else ∃ M28, Cl d m_L_readOpened [(2, 31), (0, v2), (0, w32 (p1 + 1))] (up M 31 8 (w32 ((M 31 8) + 1))) (none, M28) ∧ r = (none, M28))))) else ∃ v30, Cl d m_L_nameIndex [(0, v2)] (up M 31 8 (w32 ((M 31 8) + 1))) (some (0, v30), up M 31 8 (w32 ((M 31 8) + 1))) ∧ ∃ M32, Cl d m_L_emit [(2, 31), (0, w32 ((-1) - v30))] (up M 31 8 (w32 ((M 31 8) + 1))) (none, M32) ∧ r = (none, M32)) else ∃ M34, Cl d m_L_readNumber [(2, 31)] M (none, M34) ∧ r = (none, M34))) : Cl (d + 1) m_L_readO [(2, 31), (0, p1)] M r := by
  refine cl_of (c := k_L_readO) (mL := 3) (rz := 0) (rc := 2) (ls := [(2, 31), (0, p1), (3, 0)]) rfl rfl rfl ?_
  refine x_al (pc' := 1) rfl rfl (by decide) rfl ?_
  obtain ⟨v2, q1, h⟩ := h
  refine x_call (pc' := 2) (as := [(2, 31)]) (rest := []) rfl rfl rfl rfl rfl rfl q1 ?_
  refine x_is (pc' := 3) (ls' := [(2, 31), (0, p1), (0, v2)]) rfl rfl rfl rfl ?_
  refine x_il (pc' := 4) rfl rfl rfl ?_
  obtain ⟨v4, q3, h⟩ := h
  refine x_call (pc' := 5) (as := [(0, v2)]) (rest := []) rfl rfl rfl rfl rfl rfl q3 ?_
  refine x_ifeq (pc' := 6) (t' := 9) rfl rfl rfl (fun q5 => ?_) (fun q5 => ?_)
  · replace h := ite_t q5 h
    refine x_il (pc' := 10) rfl rfl rfl ?_
    obtain ⟨v7, q6, h⟩ := h
    refine x_call (pc' := 11) (as := [(0, v2)]) (rest := []) rfl rfl rfl rfl rfl rfl q6 ?_
    refine x_iflt (pc' := 12) (t' := 25) rfl rfl rfl (fun q8 => ?_) (fun q8 => ?_)
    · replace h := ite_t q8 h
      refine x_il (pc' := 26) rfl rfl rfl ?_
      refine x_c (pc' := 27) rfl rfl ?_
      refine x_iceq (pc' := 28) (t' := 34) rfl rfl rfl (fun q9 => ?_) (fun q9 => ?_)
      · replace h := ite_t q9 h
        refine x_il (pc' := 35) rfl rfl rfl ?_
        refine x_c (pc' := 36) rfl rfl ?_
        refine x_icge (pc' := 37) (t' := 50) rfl rfl rfl (fun q10 => ?_) (fun q10 => ?_)
        · replace h := ite_t q10 h
          refine x_al (pc' := 51) rfl rfl (by decide) rfl ?_
          obtain ⟨M12, q11, h⟩ := h
          refine x_callv (pc' := 52) (as := [(2, 31)]) (rest := []) rfl rfl rfl rfl rfl rfl q11 ?_
          exact x_ret rfl h
        · replace h := ite_f q10 h
          refine x_al (pc' := 38) rfl rfl (by decide) rfl ?_
          refine x_dupa (pc' := 39) rfl rfl ?_
          refine x_gf (pc' := 40) (v := M 31 8) rfl rfl rfl rfl rfl ?_
          refine x_c (pc' := 41) rfl rfl ?_
          refine x_ib (pc' := 42) (v := w32 ((M 31 8) + 1)) rfl rfl rfl ?_
          refine x_pf (pc' := 43) (M2 := up M 31 8 (w32 ((M 31 8) + 1))) rfl rfl rfl rfl ?_
          refine x_al (pc' := 44) rfl rfl (by decide) rfl ?_
          refine x_il (pc' := 45) rfl rfl rfl ?_
          refine x_il (pc' := 46) rfl rfl rfl ?_
          refine x_c (pc' := 47) rfl rfl ?_
          refine x_ib (pc' := 48) (v := w32 (p1 + 1)) rfl rfl rfl ?_
          obtain ⟨M14, q13, h⟩ := h
          refine x_callv (pc' := 49) (as := [(2, 31), (0, v2), (0, w32 (p1 + 1))]) (rest := []) rfl rfl rfl rfl rfl rfl q13 ?_
          refine x_goto (t' := 52) rfl rfl ?_
          exact x_ret rfl h
      · replace h := ite_f q9 h
        refine x_il (pc' := 29) rfl rfl rfl ?_
        refine x_c (pc' := 30) rfl rfl ?_
        refine x_iceq (pc' := 31) (t' := 34) rfl rfl rfl (fun q15 => ?_) (fun q15 => ?_)
        · replace h := ite_t q15 h
          refine x_il (pc' := 35) rfl rfl rfl ?_
          refine x_c (pc' := 36) rfl rfl ?_
          refine x_icge (pc' := 37) (t' := 50) rfl rfl rfl (fun q16 => ?_) (fun q16 => ?_)
          · replace h := ite_t q16 h
            refine x_al (pc' := 51) rfl rfl (by decide) rfl ?_
            obtain ⟨M18, q17, h⟩ := h
            refine x_callv (pc' := 52) (as := [(2, 31)]) (rest := []) rfl rfl rfl rfl rfl rfl q17 ?_
            exact x_ret rfl h
          · replace h := ite_f q16 h
            refine x_al (pc' := 38) rfl rfl (by decide) rfl ?_
            refine x_dupa (pc' := 39) rfl rfl ?_
            refine x_gf (pc' := 40) (v := M 31 8) rfl rfl rfl rfl rfl ?_
            refine x_c (pc' := 41) rfl rfl ?_
            refine x_ib (pc' := 42) (v := w32 ((M 31 8) + 1)) rfl rfl rfl ?_
            refine x_pf (pc' := 43) (M2 := up M 31 8 (w32 ((M 31 8) + 1))) rfl rfl rfl rfl ?_
            refine x_al (pc' := 44) rfl rfl (by decide) rfl ?_
            refine x_il (pc' := 45) rfl rfl rfl ?_
            refine x_il (pc' := 46) rfl rfl rfl ?_
            refine x_c (pc' := 47) rfl rfl ?_
            refine x_ib (pc' := 48) (v := w32 (p1 + 1)) rfl rfl rfl ?_
            obtain ⟨M20, q19, h⟩ := h
            refine x_callv (pc' := 49) (as := [(2, 31), (0, v2), (0, w32 (p1 + 1))]) (rest := []) rfl rfl rfl rfl rfl rfl q19 ?_
            refine x_goto (t' := 52) rfl rfl ?_
            exact x_ret rfl h
        · replace h := ite_f q15 h
          refine x_il (pc' := 32) rfl rfl rfl ?_
          refine x_c (pc' := 33) rfl rfl ?_
          refine x_icne (pc' := 34) (t' := 50) rfl rfl rfl (fun q21 => ?_) (fun q21 => ?_)
          · replace h := ite_t q21 h
            refine x_al (pc' := 51) rfl rfl (by decide) rfl ?_
            obtain ⟨M23, q22, h⟩ := h
            refine x_callv (pc' := 52) (as := [(2, 31)]) (rest := []) rfl rfl rfl rfl rfl rfl q22 ?_
            exact x_ret rfl h
          · replace h := ite_f q21 h
            refine x_il (pc' := 35) rfl rfl rfl ?_
            refine x_c (pc' := 36) rfl rfl ?_
            refine x_icge (pc' := 37) (t' := 50) rfl rfl rfl (fun q24 => ?_) (fun q24 => ?_)
            · replace h := ite_t q24 h
              refine x_al (pc' := 51) rfl rfl (by decide) rfl ?_
              obtain ⟨M26, q25, h⟩ := h
              refine x_callv (pc' := 52) (as := [(2, 31)]) (rest := []) rfl rfl rfl rfl rfl rfl q25 ?_
              exact x_ret rfl h
            · replace h := ite_f q24 h
              refine x_al (pc' := 38) rfl rfl (by decide) rfl ?_
              refine x_dupa (pc' := 39) rfl rfl ?_
              refine x_gf (pc' := 40) (v := M 31 8) rfl rfl rfl rfl rfl ?_
              refine x_c (pc' := 41) rfl rfl ?_
              refine x_ib (pc' := 42) (v := w32 ((M 31 8) + 1)) rfl rfl rfl ?_
              refine x_pf (pc' := 43) (M2 := up M 31 8 (w32 ((M 31 8) + 1))) rfl rfl rfl rfl ?_
              refine x_al (pc' := 44) rfl rfl (by decide) rfl ?_
              refine x_il (pc' := 45) rfl rfl rfl ?_
              refine x_il (pc' := 46) rfl rfl rfl ?_
              refine x_c (pc' := 47) rfl rfl ?_
              refine x_ib (pc' := 48) (v := w32 (p1 + 1)) rfl rfl rfl ?_
              obtain ⟨M28, q27, h⟩ := h
              refine x_callv (pc' := 49) (as := [(2, 31), (0, v2), (0, w32 (p1 + 1))]) (rest := []) rfl rfl rfl rfl rfl rfl q27 ?_
              refine x_goto (t' := 52) rfl rfl ?_
              exact x_ret rfl h
    · replace h := ite_f q8 h
      refine x_al (pc' := 13) rfl rfl (by decide) rfl ?_
      refine x_dupa (pc' := 14) rfl rfl ?_
      refine x_gf (pc' := 15) (v := M 31 8) rfl rfl rfl rfl rfl ?_
      refine x_c (pc' := 16) rfl rfl ?_
      refine x_ib (pc' := 17) (v := w32 ((M 31 8) + 1)) rfl rfl rfl ?_
      refine x_pf (pc' := 18) (M2 := up M 31 8 (w32 ((M 31 8) + 1))) rfl rfl rfl rfl ?_
      refine x_al (pc' := 19) rfl rfl (by decide) rfl ?_
      refine x_c (pc' := 20) rfl rfl ?_
      refine x_il (pc' := 21) rfl rfl rfl ?_
      obtain ⟨v30, q29, h⟩ := h
      refine x_call (pc' := 22) (as := [(0, v2)]) (rest := [(0, (-1)), (2, 31)]) rfl rfl rfl rfl rfl rfl q29 ?_
      refine x_ib (pc' := 23) (v := w32 ((-1) - v30)) rfl rfl rfl ?_
      obtain ⟨M32, q31, h⟩ := h
      refine x_callv (pc' := 24) (as := [(2, 31), (0, w32 ((-1) - v30))]) (rest := []) rfl rfl rfl rfl rfl rfl q31 ?_
      refine x_goto (t' := 52) rfl rfl ?_
      exact x_ret rfl h
  · replace h := ite_f q5 h
    refine x_al (pc' := 7) rfl rfl (by decide) rfl ?_
    obtain ⟨M34, q33, h⟩ := h
    refine x_callv (pc' := 8) (as := [(2, 31)]) (rest := []) rfl rfl rfl rfl rfl rfl q33 ?_
    refine x_goto (t' := 52) rfl rfl ?_
    exact x_ret rfl h
theorem sg_L_readOpened {d : Nat} {p1 p2 : Int} {M : Mem} {r : Res} (h : (if p1 = 40 then ∃ M3, Cl d m_L_readE [(2, 31), (0, p2)] M (none, M3) ∧ ∃ v5, Cl d m_L_next [(2, 31)] M3 (some (0, v5), M3) ∧ (if ¬ v5 = 41 then ∃ M8, Cl d m_L_fail [(2, 31)] M3 (none, M8) ∧ r = (none, M8) else r = (none, up M3 31 8 (w32 ((M3 31 8) + 1)))) else ∃ M10, Cl d m_L_readO [(2, 31), (0, p2)] M (none, M10) ∧ (if ¬ p1 = 33 then ∃ M13, Cl d m_L_emit [(2, 31), (0, (-126))] M10 (none, M13) ∧ r = (none, M13) else ∃ M15, Cl d m_L_emit [(2, 31), (0, (-33))] M10 (none, M15) ∧ r = (none, M15)))) : Cl (d + 1) m_L_readOpened [(2, 31), (0, p1), (0, p2)] M r := by
  refine cl_of (c := k_L_readOpened) (mL := 3) (rz := 0) (rc := 2) (ls := [(2, 31), (0, p1), (0, p2)]) rfl rfl rfl ?_
  refine x_il (pc' := 1) rfl rfl rfl ?_
  refine x_c (pc' := 2) rfl rfl ?_
  refine x_iceq (pc' := 3) (t' := 15) rfl rfl rfl (fun q1 => ?_) (fun q1 => ?_)
  · replace h := ite_t q1 h
    refine x_al (pc' := 16) rfl rfl (by decide) rfl ?_
    refine x_il (pc' := 17) rfl rfl rfl ?_
    obtain ⟨M3, q2, h⟩ := h
    refine x_callv (pc' := 18) (as := [(2, 31), (0, p2)]) (rest := []) rfl rfl rfl rfl rfl rfl q2 ?_
    refine x_al (pc' := 19) rfl rfl (by decide) rfl ?_
    obtain ⟨v5, q4, h⟩ := h
    refine x_call (pc' := 20) (as := [(2, 31)]) (rest := []) rfl rfl rfl rfl rfl rfl q4 ?_
    refine x_c (pc' := 21) rfl rfl ?_
    refine x_icne (pc' := 22) (t' := 29) rfl rfl rfl (fun q6 => ?_) (fun q6 => ?_)
    · replace h := ite_t q6 h
      refine x_al (pc' := 30) rfl rfl (by decide) rfl ?_
      obtain ⟨M8, q7, h⟩ := h
      refine x_callv (pc' := 31) (as := [(2, 31)]) (rest := []) rfl rfl rfl rfl rfl rfl q7 ?_
      exact x_ret rfl h
    · replace h := ite_f q6 h
      refine x_al (pc' := 23) rfl rfl (by decide) rfl ?_
      refine x_dupa (pc' := 24) rfl rfl ?_
      refine x_gf (pc' := 25) (v := M3 31 8) rfl rfl rfl rfl rfl ?_
      refine x_c (pc' := 26) rfl rfl ?_
      refine x_ib (pc' := 27) (v := w32 ((M3 31 8) + 1)) rfl rfl rfl ?_
      refine x_pf (pc' := 28) (M2 := up M3 31 8 (w32 ((M3 31 8) + 1))) rfl rfl rfl rfl ?_
      refine x_goto (t' := 31) rfl rfl ?_
      exact x_ret rfl h
  · replace h := ite_f q1 h
    refine x_al (pc' := 4) rfl rfl (by decide) rfl ?_
    refine x_il (pc' := 5) rfl rfl rfl ?_
    obtain ⟨M10, q9, h⟩ := h
    refine x_callv (pc' := 6) (as := [(2, 31), (0, p2)]) (rest := []) rfl rfl rfl rfl rfl rfl q9 ?_
    refine x_al (pc' := 7) rfl rfl (by decide) rfl ?_
    refine x_il (pc' := 8) rfl rfl rfl ?_
    refine x_c (pc' := 9) rfl rfl ?_
    refine x_icne (pc' := 10) (t' := 12) rfl rfl rfl (fun q11 => ?_) (fun q11 => ?_)
    · replace h := ite_t q11 h
      refine x_c (pc' := 13) rfl rfl ?_
      obtain ⟨M13, q12, h⟩ := h
      refine x_callv (pc' := 14) (as := [(2, 31), (0, (-126))]) (rest := []) rfl rfl rfl rfl rfl rfl q12 ?_
      exact x_ret rfl h
    · replace h := ite_f q11 h
      refine x_c (pc' := 11) rfl rfl ?_
      refine x_goto (t' := 13) rfl rfl ?_
      obtain ⟨M15, q14, h⟩ := h
      refine x_callv (pc' := 14) (as := [(2, 31), (0, (-33))]) (rest := []) rfl rfl rfl rfl rfl rfl q14 ?_
      exact x_ret rfl h
def at_L_readNumber_4 (d : Nat) (l1 : Int) (l2 : Int) (M : Mem) (r : Res) : Prop := Ex sx0 d k_L_readNumber 0 4 [(2, 31), (0, l1), (0, l2)] [] M r
theorem sg_L_readNumber {d : Nat} {M : Mem} {r : Res} (h : at_L_readNumber_4 d 0 0 M r) : Cl (d + 1) m_L_readNumber [(2, 31)] M r := by
  refine cl_of (c := k_L_readNumber) (mL := 3) (rz := 0) (rc := 2) (ls := [(2, 31), (3, 0), (3, 0)]) rfl rfl rfl ?_
  refine x_c (pc' := 1) rfl rfl ?_
  refine x_is (pc' := 2) (ls' := [(2, 31), (0, 0), (3, 0)]) rfl rfl rfl rfl ?_
  refine x_c (pc' := 3) rfl rfl ?_
  refine x_is (pc' := 4) (ls' := [(2, 31), (0, 0), (0, 0)]) rfl rfl rfl rfl ?_
  exact h
theorem sg_L_readNumber_4 {d : Nat} {l1 : Int} {l2 : Int} {M : Mem} {r : Res} (h : (if 4 ≤ l2 then ∃ M3, Cl d m_L_emit [(2, 31), (0, l1)] M (none, M3) ∧ r = (none, M3) else ∃ v5, Cl d m_L_next [(2, 31)] M (some (0, v5), M) ∧ ∃ v7, Cl d m_L_isDigit [(0, v5)] M (some (0, v7), M) ∧ (if v7 = 0 then ∃ M10, Cl d m_L_emit [(2, 31), (0, l1)] M (none, M10) ∧ r = (none, M10) else ∃ v12, Cl d m_L_next [(2, 31)] M (some (0, v12), M) ∧ at_L_readNumber_4 d (w32 ((w32 ((w32 (10 * l1)) + v12)) - 48)) (w32 (l2 + 1)) (up M 31 8 (w32 ((M 31 8) + 1))) r))) : at_L_readNumber_4 d l1 l2 M r := by
  unfold at_L_readNumber_4
  refine x_il (pc' := 5) rfl rfl rfl ?_
  refine x_c (pc' := 6) rfl rfl ?_
  refine x_icge (pc' := 7) (t' := 28) rfl rfl rfl (fun q1 => ?_) (fun q1 => ?_)
  · replace h := ite_t q1 h
    refine x_al (pc' := 29) rfl rfl (by decide) rfl ?_
    refine x_il (pc' := 30) rfl rfl rfl ?_
    obtain ⟨M3, q2, h⟩ := h
    refine x_callv (pc' := 31) (as := [(2, 31), (0, l1)]) (rest := []) rfl rfl rfl rfl rfl rfl q2 ?_
    exact x_ret rfl h
  · replace h := ite_f q1 h
    refine x_al (pc' := 8) rfl rfl (by decide) rfl ?_
    obtain ⟨v5, q4, h⟩ := h
    refine x_call (pc' := 9) (as := [(2, 31)]) (rest := []) rfl rfl rfl rfl rfl rfl q4 ?_
    obtain ⟨v7, q6, h⟩ := h
    refine x_call (pc' := 10) (as := [(0, v5)]) (rest := []) rfl rfl rfl rfl rfl rfl q6 ?_
    refine x_ifeq (pc' := 11) (t' := 28) rfl rfl rfl (fun q8 => ?_) (fun q8 => ?_)
    · replace h := ite_t q8 h
      refine x_al (pc' := 29) rfl rfl (by decide) rfl ?_
      refine x_il (pc' := 30) rfl rfl rfl ?_
      obtain ⟨M10, q9, h⟩ := h
      refine x_callv (pc' := 31) (as := [(2, 31), (0, l1)]) (rest := []) rfl rfl rfl rfl rfl rfl q9 ?_
      exact x_ret rfl h
    · replace h := ite_f q8 h
      refine x_c (pc' := 12) rfl rfl ?_
      refine x_il (pc' := 13) rfl rfl rfl ?_
      refine x_ib (pc' := 14) (v := w32 (10 * l1)) rfl rfl rfl ?_
      refine x_al (pc' := 15) rfl rfl (by decide) rfl ?_
      obtain ⟨v12, q11, h⟩ := h
      refine x_call (pc' := 16) (as := [(2, 31)]) (rest := [(0, w32 (10 * l1))]) rfl rfl rfl rfl rfl rfl q11 ?_
      refine x_ib (pc' := 17) (v := w32 ((w32 (10 * l1)) + v12)) rfl rfl rfl ?_
      refine x_c (pc' := 18) rfl rfl ?_
      refine x_ib (pc' := 19) (v := w32 ((w32 ((w32 (10 * l1)) + v12)) - 48)) rfl rfl rfl ?_
      refine x_is (pc' := 20) (ls' := [(2, 31), (0, w32 ((w32 ((w32 (10 * l1)) + v12)) - 48)), (0, l2)]) rfl rfl rfl rfl ?_
      refine x_al (pc' := 21) rfl rfl (by decide) rfl ?_
      refine x_dupa (pc' := 22) rfl rfl ?_
      refine x_gf (pc' := 23) (v := M 31 8) rfl rfl rfl rfl rfl ?_
      refine x_c (pc' := 24) rfl rfl ?_
      refine x_ib (pc' := 25) (v := w32 ((M 31 8) + 1)) rfl rfl rfl ?_
      refine x_pf (pc' := 26) (M2 := up M 31 8 (w32 ((M 31 8) + 1))) rfl rfl rfl rfl ?_
      refine x_inc (pc' := 27) (ls' := [(2, 31), (0, w32 ((w32 ((w32 (10 * l1)) + v12)) - 48)), (0, w32 (l2 + 1))]) rfl rfl rfl rfl ?_
      refine x_goto (t' := 4) rfl rfl ?_
      exact h
theorem sg_L_isDigit {d : Nat} {p1 : Int} {M : Mem} {r : Res} (h : (if p1 < 48 then r = (some (0, 0), M) else (if 57 < p1 then r = (some (0, 0), M) else r = (some (0, 1), M)))) : Cl (d + 1) m_L_isDigit [(0, p1)] M r := by
  refine cl_of (c := k_L_isDigit) (mL := 1) (rz := 3) (rc := 99) (ls := [(0, p1)]) rfl rfl rfl ?_
  refine x_il (pc' := 1) rfl rfl rfl ?_
  refine x_c (pc' := 2) rfl rfl ?_
  refine x_iclt (pc' := 3) (t' := 8) rfl rfl rfl (fun q1 => ?_) (fun q1 => ?_)
  · replace h := ite_t q1 h
    refine x_c (pc' := 9) rfl rfl ?_
    exact x_zret rfl (by decide) h
  · replace h := ite_f q1 h
    refine x_il (pc' := 4) rfl rfl rfl ?_
    refine x_c (pc' := 5) rfl rfl ?_
    refine x_icgt (pc' := 6) (t' := 8) rfl rfl rfl (fun q2 => ?_) (fun q2 => ?_)
    · replace h := ite_t q2 h
      refine x_c (pc' := 9) rfl rfl ?_
      exact x_zret rfl (by decide) h
    · replace h := ite_f q2 h
      refine x_c (pc' := 7) rfl rfl ?_
      refine x_goto (t' := 9) rfl rfl ?_
      exact x_zret rfl (by decide) h
theorem sg_L_nameIndex {d : Nat} {p1 : Int} {M : Mem} {r : Res} (h : (if p1 = 102 then r = (some (0, 0), M) else (if p1 = 103 then r = (some (0, (-1)), M) else (if p1 = 104 then r = (some (0, (-1)), M) else (if p1 = 105 then r = (some (0, (-1)), M) else (if p1 = 106 then r = (some (0, (-1)), M) else (if p1 = 107 then r = (some (0, 4), M) else (if p1 = 108 then r = (some (0, (-1)), M) else (if p1 = 109 then r = (some (0, (-1)), M) else (if p1 = 110 then r = (some (0, 5), M) else (if p1 = 111 then r = (some (0, (-1)), M) else (if p1 = 112 then r = (some (0, (-1)), M) else (if p1 = 113 then r = (some (0, (-1)), M) else (if p1 = 114 then r = (some (0, 3), M) else (if p1 = 115 then r = (some (0, 1), M) else (if p1 = 116 then r = (some (0, 2), M) else r = (some (0, (-1)), M))))))))))))))))) : Cl (d + 1) m_L_nameIndex [(0, p1)] M r := by
  refine cl_of (c := k_L_nameIndex) (mL := 1) (rz := 1) (rc := 99) (ls := [(0, p1)]) rfl rfl rfl ?_
  refine x_il (pc' := 1) rfl rfl rfl ?_
  by_cases q1 : p1 = 102
  · replace h := ite_t q1 h
    refine x_tswv (t' := 2) 102 rfl q1 rfl rfl ?_
    refine x_c (pc' := 3) rfl rfl ?_
    exact x_iret rfl h
  replace h := ite_f q1 h
  by_cases q2 : p1 = 103
  · replace h := ite_t q2 h
    refine x_tswv (t' := 14) 103 rfl q2 rfl rfl ?_
    refine x_c (pc' := 15) rfl rfl ?_
    exact x_iret rfl h
  replace h := ite_f q2 h
  by_cases q3 : p1 = 104
  · replace h := ite_t q3 h
    refine x_tswv (t' := 14) 104 rfl q3 rfl rfl ?_
    refine x_c (pc' := 15) rfl rfl ?_
    exact x_iret rfl h
  replace h := ite_f q3 h
  by_cases q4 : p1 = 105
  · replace h := ite_t q4 h
    refine x_tswv (t' := 14) 105 rfl q4 rfl rfl ?_
    refine x_c (pc' := 15) rfl rfl ?_
    exact x_iret rfl h
  replace h := ite_f q4 h
  by_cases q5 : p1 = 106
  · replace h := ite_t q5 h
    refine x_tswv (t' := 14) 106 rfl q5 rfl rfl ?_
    refine x_c (pc' := 15) rfl rfl ?_
    exact x_iret rfl h
  replace h := ite_f q5 h
  by_cases q6 : p1 = 107
  · replace h := ite_t q6 h
    refine x_tswv (t' := 10) 107 rfl q6 rfl rfl ?_
    refine x_c (pc' := 11) rfl rfl ?_
    exact x_iret rfl h
  replace h := ite_f q6 h
  by_cases q7 : p1 = 108
  · replace h := ite_t q7 h
    refine x_tswv (t' := 14) 108 rfl q7 rfl rfl ?_
    refine x_c (pc' := 15) rfl rfl ?_
    exact x_iret rfl h
  replace h := ite_f q7 h
  by_cases q8 : p1 = 109
  · replace h := ite_t q8 h
    refine x_tswv (t' := 14) 109 rfl q8 rfl rfl ?_
    refine x_c (pc' := 15) rfl rfl ?_
    exact x_iret rfl h
  replace h := ite_f q8 h
  by_cases q9 : p1 = 110
  · replace h := ite_t q9 h
    refine x_tswv (t' := 12) 110 rfl q9 rfl rfl ?_
    refine x_c (pc' := 13) rfl rfl ?_
    exact x_iret rfl h
  replace h := ite_f q9 h
  by_cases q10 : p1 = 111
  · replace h := ite_t q10 h
    refine x_tswv (t' := 14) 111 rfl q10 rfl rfl ?_
    refine x_c (pc' := 15) rfl rfl ?_
    exact x_iret rfl h
  replace h := ite_f q10 h
  by_cases q11 : p1 = 112
  · replace h := ite_t q11 h
    refine x_tswv (t' := 14) 112 rfl q11 rfl rfl ?_
    refine x_c (pc' := 15) rfl rfl ?_
    exact x_iret rfl h
  replace h := ite_f q11 h
  by_cases q12 : p1 = 113
  · replace h := ite_t q12 h
    refine x_tswv (t' := 14) 113 rfl q12 rfl rfl ?_
    refine x_c (pc' := 15) rfl rfl ?_
    exact x_iret rfl h
  replace h := ite_f q12 h
  by_cases q13 : p1 = 114
  · replace h := ite_t q13 h
    refine x_tswv (t' := 8) 114 rfl q13 rfl rfl ?_
    refine x_c (pc' := 9) rfl rfl ?_
    exact x_iret rfl h
  replace h := ite_f q13 h
  by_cases q14 : p1 = 115
  · replace h := ite_t q14 h
    refine x_tswv (t' := 4) 115 rfl q14 rfl rfl ?_
    refine x_c (pc' := 5) rfl rfl ?_
    exact x_iret rfl h
  replace h := ite_f q14 h
  by_cases q15 : p1 = 116
  · replace h := ite_t q15 h
    refine x_tswv (t' := 6) 116 rfl q15 rfl rfl ?_
    refine x_c (pc' := 7) rfl rfl ?_
    exact x_iret rfl h
  replace h := ite_f q15 h
  refine x_tswd (t' := 14) rfl (show p1 < 102 ∨ 102 + ((15 : Nat) : Int) ≤ p1 by omega) rfl ?_
  refine x_c (pc' := 15) rfl rfl ?_
  exact x_iret rfl h
theorem sg_L_name {d : Nat} {p1 p2 p3 p4 p5 p6 : Int} {M : Mem} {r : Res} (h : r = (none, up (up (up (up (up (up M 36 0 p1) 36 1 p2) 36 2 p3) 36 3 p4) 36 4 p5) 36 5 p6)) : Cl (d + 1) m_L_name [(2, 31), (0, p1), (0, p2), (0, p3), (0, p4), (0, p5), (0, p6)] M r := by
  refine cl_of (c := k_L_name) (mL := 7) (rz := 0) (rc := 2) (ls := [(2, 31), (0, p1), (0, p2), (0, p3), (0, p4), (0, p5), (0, p6)]) rfl rfl rfl ?_
  refine x_al (pc' := 1) rfl rfl (by decide) rfl ?_
  refine x_gr (pc' := 2) (v := 36) rfl rfl rfl (by decide) rfl ?_
  refine x_c (pc' := 3) rfl rfl ?_
  refine x_il (pc' := 4) rfl rfl rfl ?_
  refine x_ist (pc' := 5) 6 (M2 := up M 36 0 p1) rfl rfl rfl (by decide) (by decide) rfl ?_
  refine x_al (pc' := 6) rfl rfl (by decide) rfl ?_
  refine x_gr (pc' := 7) (v := 36) rfl rfl rfl (by decide) rfl ?_
  refine x_c (pc' := 8) rfl rfl ?_
  refine x_il (pc' := 9) rfl rfl rfl ?_
  refine x_ist (pc' := 10) 6 (M2 := up (up M 36 0 p1) 36 1 p2) rfl rfl rfl (by decide) (by decide) rfl ?_
  refine x_al (pc' := 11) rfl rfl (by decide) rfl ?_
  refine x_gr (pc' := 12) (v := 36) rfl rfl rfl (by decide) rfl ?_
  refine x_c (pc' := 13) rfl rfl ?_
  refine x_il (pc' := 14) rfl rfl rfl ?_
  refine x_ist (pc' := 15) 6 (M2 := up (up (up M 36 0 p1) 36 1 p2) 36 2 p3) rfl rfl rfl (by decide) (by decide) rfl ?_
  refine x_al (pc' := 16) rfl rfl (by decide) rfl ?_
  refine x_gr (pc' := 17) (v := 36) rfl rfl rfl (by decide) rfl ?_
  refine x_c (pc' := 18) rfl rfl ?_
  refine x_il (pc' := 19) rfl rfl rfl ?_
  refine x_ist (pc' := 20) 6 (M2 := up (up (up (up M 36 0 p1) 36 1 p2) 36 2 p3) 36 3 p4) rfl rfl rfl (by decide) (by decide) rfl ?_
  refine x_al (pc' := 21) rfl rfl (by decide) rfl ?_
  refine x_gr (pc' := 22) (v := 36) rfl rfl rfl (by decide) rfl ?_
  refine x_c (pc' := 23) rfl rfl ?_
  refine x_il (pc' := 24) rfl rfl rfl ?_
  refine x_ist (pc' := 25) 6 (M2 := up (up (up (up (up M 36 0 p1) 36 1 p2) 36 2 p3) 36 3 p4) 36 4 p5) rfl rfl rfl (by decide) (by decide) rfl ?_
  refine x_al (pc' := 26) rfl rfl (by decide) rfl ?_
  refine x_gr (pc' := 27) (v := 36) rfl rfl rfl (by decide) rfl ?_
  refine x_c (pc' := 28) rfl rfl ?_
  refine x_il (pc' := 29) rfl rfl rfl ?_
  refine x_ist (pc' := 30) 6 (M2 := up (up (up (up (up (up M 36 0 p1) 36 1 p2) 36 2 p3) 36 3 p4) 36 4 p5) 36 5 p6) rfl rfl rfl (by decide) (by decide) rfl ?_
  exact x_ret rfl h
def at_L_alikeness_24 (d : Nat) (l1 : Int) (l2 : Int) (w3 : AV) (w4 : AV) (w5 : AV) (M : Mem) (r : Res) : Prop := Ex sx0 d k_L_alikeness 1 24 [(2, 31), (0, l1), (0, l2), w3, w4, w5] [] M r
theorem sg_L_alikeness {d : Nat} {M : Mem} {r : Res} (h : (if ¬ M 31 6 = 0 then at_L_alikeness_24 d 0 0 (3, 0) (3, 0) (3, 0) (up M 31 10 0) r else r = (some (0, (if 0 < w32 ((w32 (10 * (M 36 4))) - (M 36 3)) then w32 ((w32 (10 * (M 36 4))) - (M 36 3)) else 0)), M))) : Cl (d + 1) m_L_alikeness [(2, 31)] M r := by
  refine cl_of (c := k_L_alikeness) (mL := 6) (rz := 1) (rc := 2) (ls := [(2, 31), (3, 0), (3, 0), (3, 0), (3, 0), (3, 0)]) rfl rfl rfl ?_
  refine x_al (pc' := 1) rfl rfl (by decide) rfl ?_
  refine x_gf (pc' := 2) (v := M 31 6) rfl rfl rfl rfl rfl ?_
  refine x_ifne (pc' := 3) (t' := 17) rfl rfl rfl (fun q1 => ?_) (fun q1 => ?_)
  · replace h := ite_t q1 h
    refine x_al (pc' := 18) rfl rfl (by decide) rfl ?_
    refine x_c (pc' := 19) rfl rfl ?_
    refine x_pf (pc' := 20) (M2 := up M 31 10 0) rfl rfl rfl rfl ?_
    refine x_c (pc' := 21) rfl rfl ?_
    refine x_is (pc' := 22) (ls' := [(2, 31), (0, 0), (3, 0), (3, 0), (3, 0), (3, 0)]) rfl rfl rfl rfl ?_
    refine x_c (pc' := 23) rfl rfl ?_
    refine x_is (pc' := 24) (ls' := [(2, 31), (0, 0), (0, 0), (3, 0), (3, 0), (3, 0)]) rfl rfl rfl rfl ?_
    exact h
  · replace h := ite_f q1 h
    refine x_c (pc' := 4) rfl rfl ?_
    refine x_c (pc' := 5) rfl rfl ?_
    refine x_al (pc' := 6) rfl rfl (by decide) rfl ?_
    refine x_gr (pc' := 7) (v := 36) rfl rfl rfl (by decide) rfl ?_
    refine x_c (pc' := 8) rfl rfl ?_
    refine x_ia (pc' := 9) 6 (v := M 36 4) rfl rfl rfl (by decide) (by decide) rfl ?_
    refine x_ib (pc' := 10) (v := w32 (10 * (M 36 4))) rfl rfl rfl ?_
    refine x_al (pc' := 11) rfl rfl (by decide) rfl ?_
    refine x_gr (pc' := 12) (v := 36) rfl rfl rfl (by decide) rfl ?_
    refine x_c (pc' := 13) rfl rfl ?_
    refine x_ia (pc' := 14) 6 (v := M 36 3) rfl rfl rfl (by decide) (by decide) rfl ?_
    refine x_ib (pc' := 15) (v := w32 ((w32 (10 * (M 36 4))) - (M 36 3))) rfl rfl rfl ?_
    refine x_max (pc' := 16) rfl rfl rfl ?_
    exact x_iret rfl h
theorem sg_L_alikeness_24 {d : Nat} {l1 : Int} {l2 : Int} {w3 : AV} {w4 : AV} {w5 : AV} {M : Mem} {r : Res} (h : (if 256 ≤ l2 then r = (some (0, 0), M) else (if l1 < 0 then r = (some (0, 0), M) else (if M 31 6 ≤ l1 then r = (some (0, 0), M) else (if 256 ≤ l1 then r = (some (0, 0), M) else (0 ≤ l1 ∧ l1 < 256) ∧ (if M 34 l1 < 0 then (if M 34 l1 < (-6) then (if ¬ M 34 l1 = (-59) then (if ¬ M 34 l1 = (-63) then ∃ v11 M12, Cl d m_L_pop [(2, 31)] M (some (0, v11), M12) ∧ (if M 34 l1 = (-33) then ∃ v15, Cl d m_L_worked [(0, w32 (-(M 34 l1))), (0, 0), (0, v11)] M12 (some (0, v15), M12) ∧ ∃ M17, Cl d m_L_push [(2, 31), (0, v15)] M12 (none, M17) ∧ at_L_alikeness_24 d (w32 (l1 + 1)) (w32 (l2 + 1)) (0, M 34 l1) (0, v11) (0, 0) M17 r else (if ¬ M 34 l1 = (-126) then ∃ v20 M21, Cl d m_L_pop [(2, 31)] M12 (some (0, v20), M21) ∧ ∃ v23, Cl d m_L_worked [(0, w32 (-(M 34 l1))), (0, v20), (0, v11)] M21 (some (0, v23), M21) ∧ ∃ M25, Cl d m_L_push [(2, 31), (0, v23)] M21 (none, M25) ∧ at_L_alikeness_24 d (w32 (l1 + 1)) (w32 (l2 + 1)) (0, M 34 l1) (0, v11) (0, v20) M25 r else ∃ v27, Cl d m_L_worked [(0, w32 (-(M 34 l1))), (0, 0), (0, v11)] M12 (some (0, v27), M12) ∧ ∃ M29, Cl d m_L_push [(2, 31), (0, v27)] M12 (none, M29) ∧ at_L_alikeness_24 d (w32 (l1 + 1)) (w32 (l2 + 1)) (0, M 34 l1) (0, v11) (0, 0) M29 r)) else (if 256 ≤ w32 (l1 + 1) then ∃ v32 M33, Cl d m_L_pop [(2, 31)] M (some (0, v32), M33) ∧ (if v32 = 0 then at_L_alikeness_24 d (M 31 6) (w32 (l2 + 1)) (0, M 34 l1) (0, M 31 6) w5 M33 r else at_L_alikeness_24 d (w32 ((w32 (l1 + 1)) + 1)) (w32 (l2 + 1)) (0, M 34 l1) (0, M 31 6) w5 M33 r) else (0 ≤ w32 (l1 + 1) ∧ w32 (l1 + 1) < 256) ∧ ∃ v37 M38, Cl d m_L_pop [(2, 31)] M (some (0, v37), M38) ∧ (if v37 = 0 then at_L_alikeness_24 d (M 34 (w32 (l1 + 1))) (w32 (l2 + 1)) (0, M 34 l1) (0, M 34 (w32 (l1 + 1))) w5 M38 r else at_L_alikeness_24 d (w32 ((w32 (l1 + 1)) + 1)) (w32 (l2 + 1)) (0, M 34 l1) (0, M 34 (w32 (l1 + 1))) w5 M38 r))) else ∃ v41 M42, Cl d m_L_pop [(2, 31)] M (some (0, v41), M42) ∧ r = (some (0, (if 0 < (if v41 < 99 then v41 else 99) then (if v41 < 99 then v41 else 99) else 0)), M42)) else (0 ≤ w32 ((w32 (-(M 34 l1))) - 1) ∧ w32 ((w32 (-(M 34 l1))) - 1) < 6) ∧ ∃ M45, Cl d m_L_push [(2, 31), (0, M 36 (w32 ((w32 (-(M 34 l1))) - 1)))] M (none, M45) ∧ at_L_alikeness_24 d (w32 (l1 + 1)) (w32 (l2 + 1)) (0, M 34 l1) w4 w5 M45 r) else ∃ M47, Cl d m_L_push [(2, 31), (0, M 34 l1)] M (none, M47) ∧ at_L_alikeness_24 d (w32 (l1 + 1)) (w32 (l2 + 1)) (0, M 34 l1) w4 w5 M47 r)))))) : at_L_alikeness_24 d l1 l2 w3 w4 w5 M r := by
  unfold at_L_alikeness_24
  refine x_il (pc' := 25) rfl rfl rfl ?_
  refine x_c (pc' := 26) rfl rfl ?_
  refine x_icge (pc' := 27) (t' := 118) rfl rfl rfl (fun q1 => ?_) (fun q1 => ?_)
  · replace h := ite_t q1 h
    refine x_c (pc' := 119) rfl rfl ?_
    exact x_iret rfl h
  · replace h := ite_f q1 h
    refine x_il (pc' := 28) rfl rfl rfl ?_
    refine x_iflt (pc' := 29) (t' := 118) rfl rfl rfl (fun q2 => ?_) (fun q2 => ?_)
    · replace h := ite_t q2 h
      refine x_c (pc' := 119) rfl rfl ?_
      exact x_iret rfl h
    · replace h := ite_f q2 h
      refine x_il (pc' := 30) rfl rfl rfl ?_
      refine x_al (pc' := 31) rfl rfl (by decide) rfl ?_
      refine x_gf (pc' := 32) (v := M 31 6) rfl rfl rfl rfl rfl ?_
      refine x_icge (pc' := 33) (t' := 118) rfl rfl rfl (fun q3 => ?_) (fun q3 => ?_)
      · replace h := ite_t q3 h
        refine x_c (pc' := 119) rfl rfl ?_
        exact x_iret rfl h
      · replace h := ite_f q3 h
        refine x_il (pc' := 34) rfl rfl rfl ?_
        refine x_c (pc' := 35) rfl rfl ?_
        refine x_icge (pc' := 36) (t' := 118) rfl rfl rfl (fun q4 => ?_) (fun q4 => ?_)
        · replace h := ite_t q4 h
          refine x_c (pc' := 119) rfl rfl ?_
          exact x_iret rfl h
        · replace h := ite_f q4 h
          refine x_al (pc' := 37) rfl rfl (by decide) rfl ?_
          refine x_gr (pc' := 38) (v := 34) rfl rfl rfl (by decide) rfl ?_
          refine x_il (pc' := 39) rfl rfl rfl ?_
          obtain ⟨q5, h⟩ := h
          refine x_ia (pc' := 40) 256 (v := M 34 l1) rfl rfl rfl q5.1 q5.2 rfl ?_
          refine x_is (pc' := 41) (ls' := [(2, 31), (0, l1), (0, l2), (0, M 34 l1), w4, w5]) rfl rfl rfl rfl ?_
          refine x_inc (pc' := 42) (ls' := [(2, 31), (0, w32 (l1 + 1)), (0, l2), (0, M 34 l1), w4, w5]) rfl rfl rfl rfl ?_
          refine x_il (pc' := 43) rfl rfl rfl ?_
          refine x_iflt (pc' := 44) (t' := 48) rfl rfl rfl (fun q6 => ?_) (fun q6 => ?_)
          · replace h := ite_t q6 h
            refine x_il (pc' := 49) rfl rfl rfl ?_
            refine x_c (pc' := 50) rfl rfl ?_
            refine x_iclt (pc' := 51) (t' := 61) rfl rfl rfl (fun q7 => ?_) (fun q7 => ?_)
            · replace h := ite_t q7 h
              refine x_il (pc' := 62) rfl rfl rfl ?_
              refine x_c (pc' := 63) rfl rfl ?_
              refine x_icne (pc' := 64) (t' := 71) rfl rfl rfl (fun q8 => ?_) (fun q8 => ?_)
              · replace h := ite_t q8 h
                refine x_il (pc' := 72) rfl rfl rfl ?_
                refine x_c (pc' := 73) rfl rfl ?_
                refine x_icne (pc' := 74) (t' := 95) rfl rfl rfl (fun q9 => ?_) (fun q9 => ?_)
                · replace h := ite_t q9 h
                  refine x_al (pc' := 96) rfl rfl (by decide) rfl ?_
                  obtain ⟨v11, M12, q10, h⟩ := h
                  refine x_call (pc' := 97) (as := [(2, 31)]) (rest := []) rfl rfl rfl rfl rfl rfl q10 ?_
                  refine x_is (pc' := 98) (ls' := [(2, 31), (0, w32 (l1 + 1)), (0, l2), (0, M 34 l1), (0, v11), w5]) rfl rfl rfl rfl ?_
                  refine x_il (pc' := 99) rfl rfl rfl ?_
                  refine x_c (pc' := 100) rfl rfl ?_
                  refine x_iceq (pc' := 101) (t' := 104) rfl rfl rfl (fun q13 => ?_) (fun q13 => ?_)
                  · replace h := ite_t q13 h
                    refine x_c (pc' := 105) rfl rfl ?_
                    refine x_goto (t' := 108) rfl rfl ?_
                    refine x_is (pc' := 109) (ls' := [(2, 31), (0, w32 (l1 + 1)), (0, l2), (0, M 34 l1), (0, v11), (0, 0)]) rfl rfl rfl rfl ?_
                    refine x_al (pc' := 110) rfl rfl (by decide) rfl ?_
                    refine x_il (pc' := 111) rfl rfl rfl ?_
                    refine x_neg (pc' := 112) rfl rfl ?_
                    refine x_il (pc' := 113) rfl rfl rfl ?_
                    refine x_il (pc' := 114) rfl rfl rfl ?_
                    obtain ⟨v15, q14, h⟩ := h
                    refine x_call (pc' := 115) (as := [(0, w32 (-(M 34 l1))), (0, 0), (0, v11)]) (rest := [(2, 31)]) rfl rfl rfl rfl rfl rfl q14 ?_
                    obtain ⟨M17, q16, h⟩ := h
                    refine x_callv (pc' := 116) (as := [(2, 31), (0, v15)]) (rest := []) rfl rfl rfl rfl rfl rfl q16 ?_
                    refine x_inc (pc' := 117) (ls' := [(2, 31), (0, w32 (l1 + 1)), (0, w32 (l2 + 1)), (0, M 34 l1), (0, v11), (0, 0)]) rfl rfl rfl rfl ?_
                    refine x_goto (t' := 24) rfl rfl ?_
                    exact h
                  · replace h := ite_f q13 h
                    refine x_il (pc' := 102) rfl rfl rfl ?_
                    refine x_c (pc' := 103) rfl rfl ?_
                    refine x_icne (pc' := 104) (t' := 106) rfl rfl rfl (fun q18 => ?_) (fun q18 => ?_)
                    · replace h := ite_t q18 h
                      refine x_al (pc' := 107) rfl rfl (by decide) rfl ?_
                      obtain ⟨v20, M21, q19, h⟩ := h
                      refine x_call (pc' := 108) (as := [(2, 31)]) (rest := []) rfl rfl rfl rfl rfl rfl q19 ?_
                      refine x_is (pc' := 109) (ls' := [(2, 31), (0, w32 (l1 + 1)), (0, l2), (0, M 34 l1), (0, v11), (0, v20)]) rfl rfl rfl rfl ?_
                      refine x_al (pc' := 110) rfl rfl (by decide) rfl ?_
                      refine x_il (pc' := 111) rfl rfl rfl ?_
                      refine x_neg (pc' := 112) rfl rfl ?_
                      refine x_il (pc' := 113) rfl rfl rfl ?_
                      refine x_il (pc' := 114) rfl rfl rfl ?_
                      obtain ⟨v23, q22, h⟩ := h
                      refine x_call (pc' := 115) (as := [(0, w32 (-(M 34 l1))), (0, v20), (0, v11)]) (rest := [(2, 31)]) rfl rfl rfl rfl rfl rfl q22 ?_
                      obtain ⟨M25, q24, h⟩ := h
                      refine x_callv (pc' := 116) (as := [(2, 31), (0, v23)]) (rest := []) rfl rfl rfl rfl rfl rfl q24 ?_
                      refine x_inc (pc' := 117) (ls' := [(2, 31), (0, w32 (l1 + 1)), (0, w32 (l2 + 1)), (0, M 34 l1), (0, v11), (0, v20)]) rfl rfl rfl rfl ?_
                      refine x_goto (t' := 24) rfl rfl ?_
                      exact h
                    · replace h := ite_f q18 h
                      refine x_c (pc' := 105) rfl rfl ?_
                      refine x_goto (t' := 108) rfl rfl ?_
                      refine x_is (pc' := 109) (ls' := [(2, 31), (0, w32 (l1 + 1)), (0, l2), (0, M 34 l1), (0, v11), (0, 0)]) rfl rfl rfl rfl ?_
                      refine x_al (pc' := 110) rfl rfl (by decide) rfl ?_
                      refine x_il (pc' := 111) rfl rfl rfl ?_
                      refine x_neg (pc' := 112) rfl rfl ?_
                      refine x_il (pc' := 113) rfl rfl rfl ?_
                      refine x_il (pc' := 114) rfl rfl rfl ?_
                      obtain ⟨v27, q26, h⟩ := h
                      refine x_call (pc' := 115) (as := [(0, w32 (-(M 34 l1))), (0, 0), (0, v11)]) (rest := [(2, 31)]) rfl rfl rfl rfl rfl rfl q26 ?_
                      obtain ⟨M29, q28, h⟩ := h
                      refine x_callv (pc' := 116) (as := [(2, 31), (0, v27)]) (rest := []) rfl rfl rfl rfl rfl rfl q28 ?_
                      refine x_inc (pc' := 117) (ls' := [(2, 31), (0, w32 (l1 + 1)), (0, w32 (l2 + 1)), (0, M 34 l1), (0, v11), (0, 0)]) rfl rfl rfl rfl ?_
                      refine x_goto (t' := 24) rfl rfl ?_
                      exact h
                · replace h := ite_f q9 h
                  refine x_il (pc' := 75) rfl rfl rfl ?_
                  refine x_c (pc' := 76) rfl rfl ?_
                  refine x_icge (pc' := 77) (t' := 82) rfl rfl rfl (fun q30 => ?_) (fun q30 => ?_)
                  · replace h := ite_t q30 h
                    refine x_al (pc' := 83) rfl rfl (by decide) rfl ?_
                    refine x_gf (pc' := 84) (v := M 31 6) rfl rfl rfl rfl rfl ?_
                    refine x_is (pc' := 85) (ls' := [(2, 31), (0, w32 (l1 + 1)), (0, l2), (0, M 34 l1), (0, M 31 6), w5]) rfl rfl rfl rfl ?_
                    refine x_al (pc' := 86) rfl rfl (by decide) rfl ?_
                    obtain ⟨v32, M33, q31, h⟩ := h
                    refine x_call (pc' := 87) (as := [(2, 31)]) (rest := []) rfl rfl rfl rfl rfl rfl q31 ?_
                    refine x_ifeq (pc' := 88) (t' := 92) rfl rfl rfl (fun q34 => ?_) (fun q34 => ?_)
                    · replace h := ite_t q34 h
                      refine x_il (pc' := 93) rfl rfl rfl ?_
                      refine x_is (pc' := 94) (ls' := [(2, 31), (0, M 31 6), (0, l2), (0, M 34 l1), (0, M 31 6), w5]) rfl rfl rfl rfl ?_
                      refine x_goto (t' := 116) rfl rfl ?_
                      refine x_inc (pc' := 117) (ls' := [(2, 31), (0, M 31 6), (0, w32 (l2 + 1)), (0, M 34 l1), (0, M 31 6), w5]) rfl rfl rfl rfl ?_
                      refine x_goto (t' := 24) rfl rfl ?_
                      exact h
                    · replace h := ite_f q34 h
                      refine x_il (pc' := 89) rfl rfl rfl ?_
                      refine x_c (pc' := 90) rfl rfl ?_
                      refine x_ib (pc' := 91) (v := w32 ((w32 (l1 + 1)) + 1)) rfl rfl rfl ?_
                      refine x_goto (t' := 93) rfl rfl ?_
                      refine x_is (pc' := 94) (ls' := [(2, 31), (0, w32 ((w32 (l1 + 1)) + 1)), (0, l2), (0, M 34 l1), (0, M 31 6), w5]) rfl rfl rfl rfl ?_
                      refine x_goto (t' := 116) rfl rfl ?_
                      refine x_inc (pc' := 117) (ls' := [(2, 31), (0, w32 ((w32 (l1 + 1)) + 1)), (0, w32 (l2 + 1)), (0, M 34 l1), (0, M 31 6), w5]) rfl rfl rfl rfl ?_
                      refine x_goto (t' := 24) rfl rfl ?_
                      exact h
                  · replace h := ite_f q30 h
                    refine x_al (pc' := 78) rfl rfl (by decide) rfl ?_
                    refine x_gr (pc' := 79) (v := 34) rfl rfl rfl (by decide) rfl ?_
                    refine x_il (pc' := 80) rfl rfl rfl ?_
                    obtain ⟨q35, h⟩ := h
                    refine x_ia (pc' := 81) 256 (v := M 34 (w32 (l1 + 1))) rfl rfl rfl q35.1 q35.2 rfl ?_
                    refine x_goto (t' := 84) rfl rfl ?_
                    refine x_is (pc' := 85) (ls' := [(2, 31), (0, w32 (l1 + 1)), (0, l2), (0, M 34 l1), (0, M 34 (w32 (l1 + 1))), w5]) rfl rfl rfl rfl ?_
                    refine x_al (pc' := 86) rfl rfl (by decide) rfl ?_
                    obtain ⟨v37, M38, q36, h⟩ := h
                    refine x_call (pc' := 87) (as := [(2, 31)]) (rest := []) rfl rfl rfl rfl rfl rfl q36 ?_
                    refine x_ifeq (pc' := 88) (t' := 92) rfl rfl rfl (fun q39 => ?_) (fun q39 => ?_)
                    · replace h := ite_t q39 h
                      refine x_il (pc' := 93) rfl rfl rfl ?_
                      refine x_is (pc' := 94) (ls' := [(2, 31), (0, M 34 (w32 (l1 + 1))), (0, l2), (0, M 34 l1), (0, M 34 (w32 (l1 + 1))), w5]) rfl rfl rfl rfl ?_
                      refine x_goto (t' := 116) rfl rfl ?_
                      refine x_inc (pc' := 117) (ls' := [(2, 31), (0, M 34 (w32 (l1 + 1))), (0, w32 (l2 + 1)), (0, M 34 l1), (0, M 34 (w32 (l1 + 1))), w5]) rfl rfl rfl rfl ?_
                      refine x_goto (t' := 24) rfl rfl ?_
                      exact h
                    · replace h := ite_f q39 h
                      refine x_il (pc' := 89) rfl rfl rfl ?_
                      refine x_c (pc' := 90) rfl rfl ?_
                      refine x_ib (pc' := 91) (v := w32 ((w32 (l1 + 1)) + 1)) rfl rfl rfl ?_
                      refine x_goto (t' := 93) rfl rfl ?_
                      refine x_is (pc' := 94) (ls' := [(2, 31), (0, w32 ((w32 (l1 + 1)) + 1)), (0, l2), (0, M 34 l1), (0, M 34 (w32 (l1 + 1))), w5]) rfl rfl rfl rfl ?_
                      refine x_goto (t' := 116) rfl rfl ?_
                      refine x_inc (pc' := 117) (ls' := [(2, 31), (0, w32 ((w32 (l1 + 1)) + 1)), (0, w32 (l2 + 1)), (0, M 34 l1), (0, M 34 (w32 (l1 + 1))), w5]) rfl rfl rfl rfl ?_
                      refine x_goto (t' := 24) rfl rfl ?_
                      exact h
              · replace h := ite_f q8 h
                refine x_c (pc' := 65) rfl rfl ?_
                refine x_c (pc' := 66) rfl rfl ?_
                refine x_al (pc' := 67) rfl rfl (by decide) rfl ?_
                obtain ⟨v41, M42, q40, h⟩ := h
                refine x_call (pc' := 68) (as := [(2, 31)]) (rest := [(0, 99), (0, 0)]) rfl rfl rfl rfl rfl rfl q40 ?_
                refine x_min (pc' := 69) rfl rfl rfl ?_
                refine x_max (pc' := 70) rfl rfl rfl ?_
                exact x_iret rfl h
            · replace h := ite_f q7 h
              refine x_al (pc' := 52) rfl rfl (by decide) rfl ?_
              refine x_al (pc' := 53) rfl rfl (by decide) rfl ?_
              refine x_gr (pc' := 54) (v := 36) rfl rfl rfl (by decide) rfl ?_
              refine x_il (pc' := 55) rfl rfl rfl ?_
              refine x_neg (pc' := 56) rfl rfl ?_
              refine x_c (pc' := 57) rfl rfl ?_
              refine x_ib (pc' := 58) (v := w32 ((w32 (-(M 34 l1))) - 1)) rfl rfl rfl ?_
              obtain ⟨q43, h⟩ := h
              refine x_ia (pc' := 59) 6 (v := M 36 (w32 ((w32 (-(M 34 l1))) - 1))) rfl rfl rfl q43.1 q43.2 rfl ?_
              obtain ⟨M45, q44, h⟩ := h
              refine x_callv (pc' := 60) (as := [(2, 31), (0, M 36 (w32 ((w32 (-(M 34 l1))) - 1)))]) (rest := []) rfl rfl rfl rfl rfl rfl q44 ?_
              refine x_goto (t' := 116) rfl rfl ?_
              refine x_inc (pc' := 117) (ls' := [(2, 31), (0, w32 (l1 + 1)), (0, w32 (l2 + 1)), (0, M 34 l1), w4, w5]) rfl rfl rfl rfl ?_
              refine x_goto (t' := 24) rfl rfl ?_
              exact h
          · replace h := ite_f q6 h
            refine x_al (pc' := 45) rfl rfl (by decide) rfl ?_
            refine x_il (pc' := 46) rfl rfl rfl ?_
            obtain ⟨M47, q46, h⟩ := h
            refine x_callv (pc' := 47) (as := [(2, 31), (0, M 34 l1)]) (rest := []) rfl rfl rfl rfl rfl rfl q46 ?_
            refine x_goto (t' := 116) rfl rfl ?_
            refine x_inc (pc' := 117) (ls' := [(2, 31), (0, w32 (l1 + 1)), (0, w32 (l2 + 1)), (0, M 34 l1), w4, w5]) rfl rfl rfl rfl ?_
            refine x_goto (t' := 24) rfl rfl ?_
            exact h
