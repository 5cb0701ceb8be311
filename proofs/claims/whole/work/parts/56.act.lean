/-! promise act: every kind's way of every act -/
section P40
variable {C N M : Mem} {b K k x p t v w : Int}
theorem c_ab {d : Nat} {a k' : Int} (h : abv a = k') (hd : 1 ≤ d) : Cl d m_M_above [(0, a)] M (rI k' M) := by
  rw [← h]; exact c_M_above hd
theorem qa_inks_0 (b0 : 0 ≤ b ∧ b < 50) (K0 : 0 ≤ K ∧ K < 8) (p0 : 0 ≤ p) (pl : p + 0 ≤ 29) : QA m_M_inks 0 4 2 1 b K p 0 x := by
  refine ⟨w32 (x + b), [1], by simp only [List.length_cons, List.length_append, List.length_nil]; omega, fun C t h hl i w2 i0 i1 => ?_, fun N t h hl => ?_⟩
  · simp only [List.length_cons, List.length_append, List.length_nil] at hl
    refine P_exit (B := 1) (by decide) (by decide) i0 i1 (by decide) (by decide) (by decide +kernel) (by decide) (by omega) p0 h.2.2.1 h.2.2.2 (by omega) ?_ (by decide)
    refine oc_1 (d := 3) ?_
    rw [(CS_psh h).1]
    rfl
  · simp only [List.length_cons, List.length_append, List.length_nil] at hl
    refine sg_M_inks (d := 1) (ite_i (fun _ => ⟨_, c_M_ran h.2.1 h.2.2 (by omega) (by decide), rfl⟩) (fun q => absurd rfl q))
theorem qa_inks_1 (b0 : 0 ≤ b ∧ b < 50) (K0 : 0 ≤ K ∧ K < 8) (p0 : 0 ≤ p) (pl : p + 1 ≤ 29) : QA m_M_inks 0 7 3 2 b K p 1 x := by
  obtain ⟨v1, L1, l1, hc1, hm1⟩ := qa_inks_0 (x := x) (p := p + 1) b0 K0 (by omega) (by omega)
  refine ⟨w32 (v1 + 3), 20 :: L1, by simp only [List.length_cons, List.length_append, List.length_nil]; omega, fun C t h hl i w2 i0 i1 => ?_, fun N t h hl => ?_⟩
  · simp only [List.length_cons, List.length_append, List.length_nil] at hl
    refine P_exit (B := 20) (by decide) (by decide) i0 i1 (by decide) (by decide) (by decide +kernel) (by decide) (by omega) p0 h.2.2.1 h.2.2.2 (by omega) ?_ (by decide)
    refine oc_20 (d := 6) ⟨v1, _, (P_above (by decide) (by decide) (hc1 _ _ (CS_psh h) (by omega) 0 _ (by decide) (by decide)) (by decide)).mono (by decide), rfl⟩
  · simp only [List.length_cons, List.length_append, List.length_nil] at hl
    refine sg_M_inks (d := 2) (ite_i (fun q => absurd q (by decide)) (fun _ => ite_i (fun _ => ⟨_, c_M_ran h.2.1 h.2.2 (by omega) (by decide), v1, _, (hm1 _ _ (NS_psh h) (by omega)).mono (by decide), rfl⟩) (fun q => absurd rfl q)))
theorem qa_inks_2 (b0 : 0 ≤ b ∧ b < 50) (K0 : 0 ≤ K ∧ K < 8) (p0 : 0 ≤ p) (pl : p + 1 ≤ 29) : QA m_M_inks 0 7 3 1 b K p 2 x := by
  obtain ⟨v, L, l, hc, hm⟩ := qa_inks_0 (x := x) (p := p) b0 K0 p0 (by omega)
  refine ⟨v, L, l, fun C t h hl i w2 i0 i1 => P_step (by decide) (by decide) (by decide) i0 i1 (by decide) (by decide) (by decide +kernel) ?_ (by decide), fun N t h hl => ?_⟩
  · rw [show rk 2 = 1 from rfl] at i1
    exact Ex.mono (hc C t h hl (i + 1) w2 (by omega) (by rw [show rk 0 = 0 from rfl]; omega)) (by decide)
  · exact sg_M_inks (d := 2) (ite_i (fun q => absurd q (by decide)) (fun _ => ite_i (fun q => absurd q (by decide)) (fun _ => ite_i (fun q => absurd q (by decide)) (fun _ => ⟨_, c_ab (k' := 0) rfl (by decide), v, _, (hm N t h hl).mono (by decide), rfl⟩))))
theorem qa_inks_6 (b0 : 0 ≤ b ∧ b < 50) (K0 : 0 ≤ K ∧ K < 8) (p0 : 0 ≤ p) (pl : p + 1 ≤ 29) : QA m_M_inks 0 7 3 2 b K p 6 x := by
  obtain ⟨v1, L1, l1, hc1, hm1⟩ := qa_inks_0 (x := x) (p := p + 1) b0 K0 (by omega) (by omega)
  refine ⟨w32 (v1 * 2), 70 :: L1, by simp only [List.length_cons, List.length_append, List.length_nil]; omega, fun C t h hl i w2 i0 i1 => ?_, fun N t h hl => ?_⟩
  · simp only [List.length_cons, List.length_append, List.length_nil] at hl
    refine P_exit (B := 70) (by decide) (by decide) i0 i1 (by decide) (by decide) (by decide +kernel) (by decide) (by omega) p0 h.2.2.1 h.2.2.2 (by omega) ?_ (by decide)
    refine oc_70 (d := 6) ⟨v1, _, (P_above (by decide) (by decide) (hc1 _ _ (CS_psh h) (by omega) 0 _ (by decide) (by decide)) (by decide)).mono (by decide), rfl⟩
  · simp only [List.length_cons, List.length_append, List.length_nil] at hl
    refine sg_M_inks (d := 2) (ite_i (fun q => absurd q (by decide)) (fun _ => ite_i (fun q => absurd q (by decide)) (fun _ => ite_i (fun _ => ⟨_, c_M_ran h.2.1 h.2.2 (by omega) (by decide), v1, _, (hm1 _ _ (NS_psh h) (by omega)).mono (by decide), rfl⟩) (fun q => absurd rfl q))))
theorem qa_inks_3 (b0 : 0 ≤ b ∧ b < 50) (K0 : 0 ≤ K ∧ K < 8) (p0 : 0 ≤ p) (pl : p + 2 ≤ 29) : QA m_M_inks 0 10 4 1 b K p 3 x := by
  obtain ⟨v, L, l, hc, hm⟩ := qa_inks_2 (x := x) (p := p) b0 K0 p0 (by omega)
  refine ⟨v, L, l, fun C t h hl i w2 i0 i1 => P_step (by decide) (by decide) (by decide) i0 i1 (by decide) (by decide) (by decide +kernel) ?_ (by decide), fun N t h hl => ?_⟩
  · rw [show rk 3 = 2 from rfl] at i1
    exact Ex.mono (hc C t h hl (i + 1) w2 (by omega) (by rw [show rk 2 = 1 from rfl]; omega)) (by decide)
  · exact sg_M_inks (d := 3) (ite_i (fun q => absurd q (by decide)) (fun _ => ite_i (fun q => absurd q (by decide)) (fun _ => ite_i (fun q => absurd q (by decide)) (fun _ => ⟨_, c_ab (k' := 2) rfl (by decide), v, _, (hm N t h hl).mono (by decide), rfl⟩))))
theorem qa_inks_4 (b0 : 0 ≤ b ∧ b < 50) (K0 : 0 ≤ K ∧ K < 8) (p0 : 0 ≤ p) (pl : p + 2 ≤ 29) : QA m_M_inks 0 10 4 2 b K p 4 x := by
  obtain ⟨v, L, l, hc, hm⟩ := qa_inks_1 (x := x) (p := p) b0 K0 p0 (by omega)
  refine ⟨v, L, l, fun C t h hl i w2 i0 i1 => P_step (by decide) (by decide) (by decide) i0 i1 (by decide) (by decide) (by decide +kernel) ?_ (by decide), fun N t h hl => ?_⟩
  · rw [show rk 4 = 2 from rfl] at i1
    exact Ex.mono (hc C t h hl (i + 1) w2 (by omega) (by rw [show rk 1 = 1 from rfl]; omega)) (by decide)
  · exact sg_M_inks (d := 3) (ite_i (fun q => absurd q (by decide)) (fun _ => ite_i (fun q => absurd q (by decide)) (fun _ => ite_i (fun q => absurd q (by decide)) (fun _ => ⟨_, c_ab (k' := 1) rfl (by decide), v, _, (hm N t h hl).mono (by decide), rfl⟩))))
theorem qa_inks_5 (b0 : 0 ≤ b ∧ b < 50) (K0 : 0 ≤ K ∧ K < 8) (p0 : 0 ≤ p) (pl : p + 3 ≤ 29) : QA m_M_inks 0 13 5 1 b K p 5 x := by
  obtain ⟨v, L, l, hc, hm⟩ := qa_inks_3 (x := x) (p := p) b0 K0 p0 (by omega)
  refine ⟨v, L, l, fun C t h hl i w2 i0 i1 => P_step (by decide) (by decide) (by decide) i0 i1 (by decide) (by decide) (by decide +kernel) ?_ (by decide), fun N t h hl => ?_⟩
  · rw [show rk 5 = 3 from rfl] at i1
    exact Ex.mono (hc C t h hl (i + 1) w2 (by omega) (by rw [show rk 3 = 2 from rfl]; omega)) (by decide)
  · exact sg_M_inks (d := 4) (ite_i (fun q => absurd q (by decide)) (fun _ => ite_i (fun q => absurd q (by decide)) (fun _ => ite_i (fun q => absurd q (by decide)) (fun _ => ⟨_, c_ab (k' := 3) rfl (by decide), v, _, (hm N t h hl).mono (by decide), rfl⟩))))
theorem qa_inks_7 (b0 : 0 ≤ b ∧ b < 50) (K0 : 0 ≤ K ∧ K < 8) (p0 : 0 ≤ p) (pl : p + 3 ≤ 29) : QA m_M_inks 0 13 5 2 b K p 7 x := by
  obtain ⟨v, L, l, hc, hm⟩ := qa_inks_4 (x := x) (p := p) b0 K0 p0 (by omega)
  refine ⟨v, L, l, fun C t h hl i w2 i0 i1 => P_step (by decide) (by decide) (by decide) i0 i1 (by decide) (by decide) (by decide +kernel) ?_ (by decide), fun N t h hl => ?_⟩
  · rw [show rk 7 = 3 from rfl] at i1
    exact Ex.mono (hc C t h hl (i + 1) w2 (by omega) (by rw [show rk 4 = 2 from rfl]; omega)) (by decide)
  · exact sg_M_inks (d := 4) (ite_i (fun q => absurd q (by decide)) (fun _ => ite_i (fun q => absurd q (by decide)) (fun _ => ite_i (fun q => absurd q (by decide)) (fun _ => ⟨_, c_ab (k' := 4) rfl (by decide), v, _, (hm N t h hl).mono (by decide), rfl⟩))))
theorem qa_inks (b0 : 0 ≤ b ∧ b < 50) (K0 : 0 ≤ K ∧ K < 8) (k0 : 0 ≤ k ∧ k < 8) (p0 : 0 ≤ p) (pl : p + 3 ≤ 29) : QA m_M_inks 0 13 5 4 b K p k x := by
  rcases (show k = 0 ∨ k = 1 ∨ k = 2 ∨ k = 3 ∨ k = 4 ∨ k = 5 ∨ k = 6 ∨ k = 7 by omega) with rfl | rfl | rfl | rfl | rfl | rfl | rfl | rfl
  · exact (qa_inks_0 b0 K0 p0 (by omega)).mono (by decide) (by decide) (by decide)
  · exact (qa_inks_1 b0 K0 p0 (by omega)).mono (by decide) (by decide) (by decide)
  · exact (qa_inks_2 b0 K0 p0 (by omega)).mono (by decide) (by decide) (by decide)
  · exact (qa_inks_3 b0 K0 p0 (by omega)).mono (by decide) (by decide) (by decide)
  · exact (qa_inks_4 b0 K0 p0 (by omega)).mono (by decide) (by decide) (by decide)
  · exact (qa_inks_5 b0 K0 p0 (by omega)).mono (by decide) (by decide) (by decide)
  · exact (qa_inks_6 b0 K0 p0 (by omega)).mono (by decide) (by decide) (by decide)
  · exact (qa_inks_7 b0 K0 p0 (by omega)).mono (by decide) (by decide) (by decide)
theorem qa_files_0 (b0 : 0 ≤ b ∧ b < 50) (K0 : 0 ≤ K ∧ K < 8) (p0 : 0 ≤ p) (pl : p + 0 ≤ 26) : QA m_M_files 2 16 6 1 b K p 0 x := by
  refine ⟨ixor x b, [11], by simp only [List.length_cons, List.length_append, List.length_nil]; omega, fun C t h hl i w2 i0 i1 => ?_, fun N t h hl => ?_⟩
  · simp only [List.length_cons, List.length_append, List.length_nil] at hl
    refine P_exit (B := 11) (by decide) (by decide) i0 i1 (by decide) (by decide) (by decide +kernel) (by decide) (by omega) p0 h.2.2.1 h.2.2.2 (by omega) ?_ (by decide)
    refine oc_11 (d := 15) ?_
    rw [(CS_psh h).1]
    rfl
  · simp only [List.length_cons, List.length_append, List.length_nil] at hl
    refine sg_M_files (d := 5) (ite_i (fun _ => ⟨_, c_M_ran h.2.1 h.2.2 (by omega) (by decide), rfl⟩) (fun q => absurd rfl q))
theorem qa_files_1 (b0 : 0 ≤ b ∧ b < 50) (K0 : 0 ≤ K ∧ K < 8) (p0 : 0 ≤ p) (pl : p + 1 ≤ 26) : QA m_M_files 2 19 7 1 b K p 1 x := by
  obtain ⟨v, L, l, hc, hm⟩ := qa_files_0 (x := x) (p := p) b0 K0 p0 (by omega)
  refine ⟨v, L, l, fun C t h hl i w2 i0 i1 => P_step (by decide) (by decide) (by decide) i0 i1 (by decide) (by decide) (by decide +kernel) ?_ (by decide), fun N t h hl => ?_⟩
  · rw [show rk 1 = 1 from rfl] at i1
    exact Ex.mono (hc C t h hl (i + 1) w2 (by omega) (by rw [show rk 0 = 0 from rfl]; omega)) (by decide)
  · exact sg_M_files (d := 6) (ite_i (fun q => absurd q (by decide)) (fun _ => ite_i (fun _ => ⟨_, c_ab (k' := 0) rfl (by decide), v, _, (hm N t h hl).mono (by decide), rfl⟩) (fun q => absurd rfl q)))
theorem qa_files_2 (b0 : 0 ≤ b ∧ b < 50) (K0 : 0 ≤ K ∧ K < 8) (p0 : 0 ≤ p) (pl : p + 1 ≤ 26) : QA m_M_files 2 19 7 1 b K p 2 x := by
  obtain ⟨v, L, l, hc, hm⟩ := qa_files_0 (x := x) (p := p) b0 K0 p0 (by omega)
  refine ⟨v, L, l, fun C t h hl i w2 i0 i1 => P_step (by decide) (by decide) (by decide) i0 i1 (by decide) (by decide) (by decide +kernel) ?_ (by decide), fun N t h hl => ?_⟩
  · rw [show rk 2 = 1 from rfl] at i1
    exact Ex.mono (hc C t h hl (i + 1) w2 (by omega) (by rw [show rk 0 = 0 from rfl]; omega)) (by decide)
  · exact sg_M_files (d := 6) (ite_i (fun q => absurd q (by decide)) (fun _ => ite_i (fun q => absurd q (by decide)) (fun _ => ite_i (fun _ => ⟨_, c_ab (k' := 0) rfl (by decide), v, _, (hm N t h hl).mono (by decide), rfl⟩) (fun q => absurd rfl q))))
theorem qa_files_6 (b0 : 0 ≤ b ∧ b < 50) (K0 : 0 ≤ K ∧ K < 8) (p0 : 0 ≤ p) (pl : p + 1 ≤ 26) : QA m_M_files 2 19 7 1 b K p 6 x := by
  obtain ⟨v, L, l, hc, hm⟩ := qa_files_0 (x := x) (p := p) b0 K0 p0 (by omega)
  refine ⟨v, L, l, fun C t h hl i w2 i0 i1 => P_step (by decide) (by decide) (by decide) i0 i1 (by decide) (by decide) (by decide +kernel) ?_ (by decide), fun N t h hl => ?_⟩
  · rw [show rk 6 = 1 from rfl] at i1
    exact Ex.mono (hc C t h hl (i + 1) w2 (by omega) (by rw [show rk 0 = 0 from rfl]; omega)) (by decide)
  · exact sg_M_files (d := 6) (ite_i (fun q => absurd q (by decide)) (fun _ => ite_i (fun q => absurd q (by decide)) (fun _ => ite_i (fun q => absurd q (by decide)) (fun _ => ite_i (fun q => absurd q (by decide)) (fun _ => ite_i (fun q => absurd q (by decide)) (fun _ => ⟨_, c_ab (k' := 0) rfl (by decide), v, _, (hm N t h hl).mono (by decide), rfl⟩))))))
theorem qa_files_3 (b0 : 0 ≤ b ∧ b < 50) (K0 : 0 ≤ K ∧ K < 8) (p0 : 0 ≤ p) (pl : p + 2 ≤ 26) : QA m_M_files 2 22 8 2 b K p 3 x := by
  obtain ⟨v1, L1, l1, hc1, hm1⟩ := qa_files_2 (x := x) (p := p + 1) b0 K0 (by omega) (by omega)
  refine ⟨w32 (v1 * 3), 40 :: L1, by simp only [List.length_cons, List.length_append, List.length_nil]; omega, fun C t h hl i w2 i0 i1 => ?_, fun N t h hl => ?_⟩
  · simp only [List.length_cons, List.length_append, List.length_nil] at hl
    refine P_exit (B := 40) (by decide) (by decide) i0 i1 (by decide) (by decide) (by decide +kernel) (by decide) (by omega) p0 h.2.2.1 h.2.2.2 (by omega) ?_ (by decide)
    refine oc_40 (d := 21) ⟨v1, _, (P_above (by decide) (by decide) (hc1 _ _ (CS_psh h) (by omega) 0 _ (by decide) (by decide)) (by decide)).mono (by decide), rfl⟩
  · simp only [List.length_cons, List.length_append, List.length_nil] at hl
    refine sg_M_files (d := 7) (ite_i (fun q => absurd q (by decide)) (fun _ => ite_i (fun q => absurd q (by decide)) (fun _ => ite_i (fun q => absurd q (by decide)) (fun _ => ite_i (fun _ => ⟨_, c_M_ran h.2.1 h.2.2 (by omega) (by decide), v1, _, (hm1 _ _ (NS_psh h) (by omega)).mono (by decide), rfl⟩) (fun q => absurd rfl q)))))
theorem qa_files_4 (b0 : 0 ≤ b ∧ b < 50) (K0 : 0 ≤ K ∧ K < 8) (p0 : 0 ≤ p) (pl : p + 2 ≤ 26) : QA m_M_files 2 22 8 6 b K p 4 x := by
  obtain ⟨v1, L1, l1, hc1, hm1⟩ := qa_files_1 (x := x) (p := p + 1) b0 K0 (by omega) (by omega)
  obtain ⟨v2, L2, l2, hc2, hm2⟩ := qa_inks (x := 2) (p := p + 1) (k := K) b0 K0 K0 (by omega) (by omega)
  have rkK := rk_3 K.toNat (by omega)
  rw [Int.toNat_of_nonneg K0.1] at rkK
  refine ⟨w32 (v1 - v2), 50 :: (L1 ++ L2), by simp only [List.length_cons, List.length_append, List.length_nil]; omega, fun C t h hl i w2 i0 i1 => ?_, fun N t h hl => ?_⟩
  · simp only [List.length_cons, List.length_append, List.length_nil] at hl
    refine P_exit (B := 50) (by decide) (by decide) i0 i1 (by decide) (by decide) (by decide +kernel) (by decide) (by omega) p0 h.2.2.1 h.2.2.2 (by omega) ?_ (by decide)
    refine oc_50 (d := 21) ⟨v1, _, (P_above (by decide) (by decide) (hc1 _ _ (CS_psh h) (by omega) 0 _ (by decide) (by decide)) (by decide)).mono (by decide), v2, _, (P_own (CS_add (CS_psh h)).2.1 (hc2 _ _ (CS_add (CS_psh h)) (by omega) 0 _ (by decide) (by omega))).mono (by decide), ?_⟩
    show rI _ (addT 46 3 48 (psh 46 3 48 C t 50) (t + 1) (L1 ++ L2)) = _
    rw [addT_app]
  · simp only [List.length_cons, List.length_append, List.length_nil] at hl
    refine sg_M_files (d := 7) (ite_i (fun q => absurd q (by decide)) (fun _ => ite_i (fun q => absurd q (by decide)) (fun _ => ite_i (fun q => absurd q (by decide)) (fun _ => ite_i (fun q => absurd q (by decide)) (fun _ => ite_i (fun _ => ⟨_, c_M_ran h.2.1 h.2.2 (by omega) (by decide), v1, _, (hm1 _ _ (NS_psh h) (by omega)).mono (by decide), b0, ?_⟩) (fun q => absurd rfl q))))))
    rw [(NS_add (NS_psh h)).1]
    refine ⟨v2, _, (hm2 _ _ (NS_add (NS_psh h)) (by omega)).mono (by decide), ?_⟩
    show rI _ (addT 64 32 83 (psh 64 32 83 N t 50) (t + 1) (L1 ++ L2)) = _
    rw [addT_app]
theorem qa_files_5 (b0 : 0 ≤ b ∧ b < 50) (K0 : 0 ≤ K ∧ K < 8) (p0 : 0 ≤ p) (pl : p + 3 ≤ 26) : QA m_M_files 2 25 9 2 b K p 5 x := by
  obtain ⟨v, L, l, hc, hm⟩ := qa_files_3 (x := x) (p := p) b0 K0 p0 (by omega)
  refine ⟨v, L, l, fun C t h hl i w2 i0 i1 => P_step (by decide) (by decide) (by decide) i0 i1 (by decide) (by decide) (by decide +kernel) ?_ (by decide), fun N t h hl => ?_⟩
  · rw [show rk 5 = 3 from rfl] at i1
    exact Ex.mono (hc C t h hl (i + 1) w2 (by omega) (by rw [show rk 3 = 2 from rfl]; omega)) (by decide)
  · exact sg_M_files (d := 8) (ite_i (fun q => absurd q (by decide)) (fun _ => ite_i (fun q => absurd q (by decide)) (fun _ => ite_i (fun q => absurd q (by decide)) (fun _ => ite_i (fun q => absurd q (by decide)) (fun _ => ite_i (fun q => absurd q (by decide)) (fun _ => ⟨_, c_ab (k' := 3) rfl (by decide), v, _, (hm N t h hl).mono (by decide), rfl⟩))))))
theorem qa_files_7 (b0 : 0 ≤ b ∧ b < 50) (K0 : 0 ≤ K ∧ K < 8) (p0 : 0 ≤ p) (pl : p + 3 ≤ 26) : QA m_M_files 2 25 9 6 b K p 7 x := by
  obtain ⟨v, L, l, hc, hm⟩ := qa_files_4 (x := x) (p := p) b0 K0 p0 (by omega)
  refine ⟨v, L, l, fun C t h hl i w2 i0 i1 => P_step (by decide) (by decide) (by decide) i0 i1 (by decide) (by decide) (by decide +kernel) ?_ (by decide), fun N t h hl => ?_⟩
  · rw [show rk 7 = 3 from rfl] at i1
    exact Ex.mono (hc C t h hl (i + 1) w2 (by omega) (by rw [show rk 4 = 2 from rfl]; omega)) (by decide)
  · exact sg_M_files (d := 8) (ite_i (fun q => absurd q (by decide)) (fun _ => ite_i (fun q => absurd q (by decide)) (fun _ => ite_i (fun q => absurd q (by decide)) (fun _ => ite_i (fun q => absurd q (by decide)) (fun _ => ite_i (fun q => absurd q (by decide)) (fun _ => ⟨_, c_ab (k' := 4) rfl (by decide), v, _, (hm N t h hl).mono (by decide), rfl⟩))))))
theorem qa_files (b0 : 0 ≤ b ∧ b < 50) (K0 : 0 ≤ K ∧ K < 8) (k0 : 0 ≤ k ∧ k < 8) (p0 : 0 ≤ p) (pl : p + 3 ≤ 26) : QA m_M_files 2 25 9 10 b K p k x := by
  rcases (show k = 0 ∨ k = 1 ∨ k = 2 ∨ k = 3 ∨ k = 4 ∨ k = 5 ∨ k = 6 ∨ k = 7 by omega) with rfl | rfl | rfl | rfl | rfl | rfl | rfl | rfl
  · exact (qa_files_0 b0 K0 p0 (by omega)).mono (by decide) (by decide) (by decide)
  · exact (qa_files_1 b0 K0 p0 (by omega)).mono (by decide) (by decide) (by decide)
  · exact (qa_files_2 b0 K0 p0 (by omega)).mono (by decide) (by decide) (by decide)
  · exact (qa_files_3 b0 K0 p0 (by omega)).mono (by decide) (by decide) (by decide)
  · exact (qa_files_4 b0 K0 p0 (by omega)).mono (by decide) (by decide) (by decide)
  · exact (qa_files_5 b0 K0 p0 (by omega)).mono (by decide) (by decide) (by decide)
  · exact (qa_files_6 b0 K0 p0 (by omega)).mono (by decide) (by decide) (by decide)
  · exact (qa_files_7 b0 K0 p0 (by omega)).mono (by decide) (by decide) (by decide)
theorem qa_counts_0 (b0 : 0 ≤ b ∧ b < 50) (K0 : 0 ≤ K ∧ K < 8) (p0 : 0 ≤ p) (pl : p + 0 ≤ 22) : QA m_M_counts 1 30 12 5 b K p 0 x := by
  obtain ⟨v1, L1, l1, hc1, hm1⟩ := qa_inks (x := x) (p := p + 1) (k := K) b0 K0 K0 (by omega) (by omega)
  have rkK := rk_3 K.toNat (by omega)
  rw [Int.toNat_of_nonneg K0.1] at rkK
  refine ⟨w32 (v1 * 2), 10 :: L1, by simp only [List.length_cons, List.length_append, List.length_nil]; omega, fun C t h hl i w2 i0 i1 => ?_, fun N t h hl => ?_⟩
  · simp only [List.length_cons, List.length_append, List.length_nil] at hl
    refine P_exit (B := 10) (by decide) (by decide) i0 i1 (by decide) (by decide) (by decide +kernel) (by decide) (by omega) p0 h.2.2.1 h.2.2.2 (by omega) ?_ (by decide)
    refine oc_10 (d := 29) ⟨v1, _, (P_own (CS_psh h).2.1 (hc1 _ _ (CS_psh h) (by omega) 0 _ (by decide) (by omega))).mono (by decide), rfl⟩
  · simp only [List.length_cons, List.length_append, List.length_nil] at hl
    refine sg_M_counts (d := 11) (ite_i (fun _ => ⟨_, c_M_ran h.2.1 h.2.2 (by omega) (by decide), b0, ?_⟩) (fun q => absurd rfl q))
    rw [(NS_psh h).1]
    exact ⟨v1, _, (hm1 _ _ (NS_psh h) (by omega)).mono (by decide), rfl⟩
theorem qa_counts_1 (b0 : 0 ≤ b ∧ b < 50) (K0 : 0 ≤ K ∧ K < 8) (p0 : 0 ≤ p) (pl : p + 1 ≤ 22) : QA m_M_counts 1 33 13 5 b K p 1 x := by
  obtain ⟨v, L, l, hc, hm⟩ := qa_counts_0 (x := x) (p := p) b0 K0 p0 (by omega)
  refine ⟨v, L, l, fun C t h hl i w2 i0 i1 => P_step (by decide) (by decide) (by decide) i0 i1 (by decide) (by decide) (by decide +kernel) ?_ (by decide), fun N t h hl => ?_⟩
  · rw [show rk 1 = 1 from rfl] at i1
    exact Ex.mono (hc C t h hl (i + 1) w2 (by omega) (by rw [show rk 0 = 0 from rfl]; omega)) (by decide)
  · exact sg_M_counts (d := 12) (ite_i (fun q => absurd q (by decide)) (fun _ => ite_i (fun _ => ⟨_, c_ab (k' := 0) rfl (by decide), v, _, (hm N t h hl).mono (by decide), rfl⟩) (fun q => absurd rfl q)))
theorem qa_counts_2 (b0 : 0 ≤ b ∧ b < 50) (K0 : 0 ≤ K ∧ K < 8) (p0 : 0 ≤ p) (pl : p + 1 ≤ 22) : QA m_M_counts 1 33 13 6 b K p 2 x := by
  obtain ⟨v1, L1, l1, hc1, hm1⟩ := qa_counts_0 (x := x) (p := p + 1) b0 K0 (by omega) (by omega)
  refine ⟨w32 (-v1), 30 :: L1, by simp only [List.length_cons, List.length_append, List.length_nil]; omega, fun C t h hl i w2 i0 i1 => ?_, fun N t h hl => ?_⟩
  · simp only [List.length_cons, List.length_append, List.length_nil] at hl
    refine P_exit (B := 30) (by decide) (by decide) i0 i1 (by decide) (by decide) (by decide +kernel) (by decide) (by omega) p0 h.2.2.1 h.2.2.2 (by omega) ?_ (by decide)
    refine oc_30 (d := 32) ⟨v1, _, (P_above (by decide) (by decide) (hc1 _ _ (CS_psh h) (by omega) 0 _ (by decide) (by decide)) (by decide)).mono (by decide), rfl⟩
  · simp only [List.length_cons, List.length_append, List.length_nil] at hl
    refine sg_M_counts (d := 12) (ite_i (fun q => absurd q (by decide)) (fun _ => ite_i (fun q => absurd q (by decide)) (fun _ => ite_i (fun _ => ⟨_, c_M_ran h.2.1 h.2.2 (by omega) (by decide), v1, _, (hm1 _ _ (NS_psh h) (by omega)).mono (by decide), rfl⟩) (fun q => absurd rfl q))))
theorem qa_counts_6 (b0 : 0 ≤ b ∧ b < 50) (K0 : 0 ≤ K ∧ K < 8) (p0 : 0 ≤ p) (pl : p + 1 ≤ 22) : QA m_M_counts 1 33 13 5 b K p 6 x := by
  obtain ⟨v, L, l, hc, hm⟩ := qa_counts_0 (x := x) (p := p) b0 K0 p0 (by omega)
  refine ⟨v, L, l, fun C t h hl i w2 i0 i1 => P_step (by decide) (by decide) (by decide) i0 i1 (by decide) (by decide) (by decide +kernel) ?_ (by decide), fun N t h hl => ?_⟩
  · rw [show rk 6 = 1 from rfl] at i1
    exact Ex.mono (hc C t h hl (i + 1) w2 (by omega) (by rw [show rk 0 = 0 from rfl]; omega)) (by decide)
  · exact sg_M_counts (d := 12) (ite_i (fun q => absurd q (by decide)) (fun _ => ite_i (fun q => absurd q (by decide)) (fun _ => ite_i (fun q => absurd q (by decide)) (fun _ => ite_i (fun q => absurd q (by decide)) (fun _ => ite_i (fun q => absurd q (by decide)) (fun _ => ite_i (fun q => absurd q (by decide)) (fun _ => ite_i (fun _ => ⟨_, c_ab (k' := 0) rfl (by decide), v, _, (hm N t h hl).mono (by decide), rfl⟩) (fun q => absurd rfl q))))))))
theorem qa_counts_3 (b0 : 0 ≤ b ∧ b < 50) (K0 : 0 ≤ K ∧ K < 8) (p0 : 0 ≤ p) (pl : p + 2 ≤ 22) : QA m_M_counts 1 36 14 7 b K p 3 x := by
  obtain ⟨v1, L1, l1, hc1, hm1⟩ := qa_counts_2 (x := (w32 (x + 1))) (p := p + 1) b0 K0 (by omega) (by omega)
  refine ⟨v1, 41 :: L1, by simp only [List.length_cons, List.length_append, List.length_nil]; omega, fun C t h hl i w2 i0 i1 => ?_, fun N t h hl => ?_⟩
  · simp only [List.length_cons, List.length_append, List.length_nil] at hl
    refine P_exit (B := 41) (by decide) (by decide) i0 i1 (by decide) (by decide) (by decide +kernel) (by decide) (by omega) p0 h.2.2.1 h.2.2.2 (by omega) ?_ (by decide)
    refine oc_41 (d := 35) ⟨v1, _, (P_above (by decide) (by decide) (hc1 _ _ (CS_psh h) (by omega) 0 _ (by decide) (by decide)) (by decide)).mono (by decide), rfl⟩
  · simp only [List.length_cons, List.length_append, List.length_nil] at hl
    refine sg_M_counts (d := 13) (ite_i (fun q => absurd q (by decide)) (fun _ => ite_i (fun q => absurd q (by decide)) (fun _ => ite_i (fun q => absurd q (by decide)) (fun _ => ite_i (fun _ => ⟨_, c_M_ran h.2.1 h.2.2 (by omega) (by decide), v1, _, (hm1 _ _ (NS_psh h) (by omega)).mono (by decide), rfl⟩) (fun q => absurd rfl q)))))
theorem qa_counts_4 (b0 : 0 ≤ b ∧ b < 50) (K0 : 0 ≤ K ∧ K < 8) (p0 : 0 ≤ p) (pl : p + 2 ≤ 22) : QA m_M_counts 1 36 14 5 b K p 4 x := by
  obtain ⟨v, L, l, hc, hm⟩ := qa_counts_1 (x := x) (p := p) b0 K0 p0 (by omega)
  refine ⟨v, L, l, fun C t h hl i w2 i0 i1 => P_step (by decide) (by decide) (by decide) i0 i1 (by decide) (by decide) (by decide +kernel) ?_ (by decide), fun N t h hl => ?_⟩
  · rw [show rk 4 = 2 from rfl] at i1
    exact Ex.mono (hc C t h hl (i + 1) w2 (by omega) (by rw [show rk 1 = 1 from rfl]; omega)) (by decide)
  · exact sg_M_counts (d := 13) (ite_i (fun q => absurd q (by decide)) (fun _ => ite_i (fun q => absurd q (by decide)) (fun _ => ite_i (fun q => absurd q (by decide)) (fun _ => ite_i (fun q => absurd q (by decide)) (fun _ => ite_i (fun _ => ⟨_, c_ab (k' := 1) rfl (by decide), v, _, (hm N t h hl).mono (by decide), rfl⟩) (fun q => absurd rfl q))))))
theorem qa_counts_5 (b0 : 0 ≤ b ∧ b < 50) (K0 : 0 ≤ K ∧ K < 8) (p0 : 0 ≤ p) (pl : p + 3 ≤ 22) : QA m_M_counts 1 39 15 7 b K p 5 x := by
  obtain ⟨v, L, l, hc, hm⟩ := qa_counts_3 (x := x) (p := p) b0 K0 p0 (by omega)
  refine ⟨v, L, l, fun C t h hl i w2 i0 i1 => P_step (by decide) (by decide) (by decide) i0 i1 (by decide) (by decide) (by decide +kernel) ?_ (by decide), fun N t h hl => ?_⟩
  · rw [show rk 5 = 3 from rfl] at i1
    exact Ex.mono (hc C t h hl (i + 1) w2 (by omega) (by rw [show rk 3 = 2 from rfl]; omega)) (by decide)
  · exact sg_M_counts (d := 14) (ite_i (fun q => absurd q (by decide)) (fun _ => ite_i (fun q => absurd q (by decide)) (fun _ => ite_i (fun q => absurd q (by decide)) (fun _ => ite_i (fun q => absurd q (by decide)) (fun _ => ite_i (fun q => absurd q (by decide)) (fun _ => ite_i (fun _ => ⟨_, c_ab (k' := 3) rfl (by decide), v, _, (hm N t h hl).mono (by decide), rfl⟩) (fun q => absurd rfl q)))))))
theorem qa_counts_7 (b0 : 0 ≤ b ∧ b < 50) (K0 : 0 ≤ K ∧ K < 8) (p0 : 0 ≤ p) (pl : p + 3 ≤ 22) : QA m_M_counts 1 39 15 16 b K p 7 x := by
  obtain ⟨v1, L1, l1, hc1, hm1⟩ := qa_counts_4 (x := x) (p := p + 1) b0 K0 (by omega) (by omega)
  obtain ⟨v2, L2, l2, hc2, hm2⟩ := qa_files (x := 2) (p := p + 1) (k := K) b0 K0 K0 (by omega) (by omega)
  have rkK := rk_3 K.toNat (by omega)
  rw [Int.toNat_of_nonneg K0.1] at rkK
  refine ⟨w32 (v1 + v2), 80 :: (L1 ++ L2), by simp only [List.length_cons, List.length_append, List.length_nil]; omega, fun C t h hl i w2 i0 i1 => ?_, fun N t h hl => ?_⟩
  · simp only [List.length_cons, List.length_append, List.length_nil] at hl
    refine P_exit (B := 80) (by decide) (by decide) i0 i1 (by decide) (by decide) (by decide +kernel) (by decide) (by omega) p0 h.2.2.1 h.2.2.2 (by omega) ?_ (by decide)
    refine oc_80 (d := 38) ⟨v1, _, (P_above (by decide) (by decide) (hc1 _ _ (CS_psh h) (by omega) 0 _ (by decide) (by decide)) (by decide)).mono (by decide), v2, _, (P_own (CS_add (CS_psh h)).2.1 (hc2 _ _ (CS_add (CS_psh h)) (by omega) 0 _ (by decide) (by omega))).mono (by decide), ?_⟩
    show rI _ (addT 46 3 48 (psh 46 3 48 C t 80) (t + 1) (L1 ++ L2)) = _
    rw [addT_app]
  · simp only [List.length_cons, List.length_append, List.length_nil] at hl
    refine sg_M_counts (d := 14) (ite_i (fun q => absurd q (by decide)) (fun _ => ite_i (fun q => absurd q (by decide)) (fun _ => ite_i (fun q => absurd q (by decide)) (fun _ => ite_i (fun q => absurd q (by decide)) (fun _ => ite_i (fun q => absurd q (by decide)) (fun _ => ite_i (fun q => absurd q (by decide)) (fun _ => ite_i (fun q => absurd q (by decide)) (fun _ => ite_i (fun _ => ⟨_, c_M_ran h.2.1 h.2.2 (by omega) (by decide), v1, _, (hm1 _ _ (NS_psh h) (by omega)).mono (by decide), b0, ?_⟩) (fun q => absurd rfl q)))))))))
    rw [(NS_add (NS_psh h)).1]
    refine ⟨v2, _, (hm2 _ _ (NS_add (NS_psh h)) (by omega)).mono (by decide), ?_⟩
    show rI _ (addT 64 32 83 (psh 64 32 83 N t 80) (t + 1) (L1 ++ L2)) = _
    rw [addT_app]
theorem qa_counts (b0 : 0 ≤ b ∧ b < 50) (K0 : 0 ≤ K ∧ K < 8) (k0 : 0 ≤ k ∧ k < 8) (p0 : 0 ≤ p) (pl : p + 3 ≤ 22) : QA m_M_counts 1 39 15 20 b K p k x := by
  rcases (show k = 0 ∨ k = 1 ∨ k = 2 ∨ k = 3 ∨ k = 4 ∨ k = 5 ∨ k = 6 ∨ k = 7 by omega) with rfl | rfl | rfl | rfl | rfl | rfl | rfl | rfl
  · exact (qa_counts_0 b0 K0 p0 (by omega)).mono (by decide) (by decide) (by decide)
  · exact (qa_counts_1 b0 K0 p0 (by omega)).mono (by decide) (by decide) (by decide)
  · exact (qa_counts_2 b0 K0 p0 (by omega)).mono (by decide) (by decide) (by decide)
  · exact (qa_counts_3 b0 K0 p0 (by omega)).mono (by decide) (by decide) (by decide)
  · exact (qa_counts_4 b0 K0 p0 (by omega)).mono (by decide) (by decide) (by decide)
  · exact (qa_counts_5 b0 K0 p0 (by omega)).mono (by decide) (by decide) (by decide)
  · exact (qa_counts_6 b0 K0 p0 (by omega)).mono (by decide) (by decide) (by decide)
  · exact (qa_counts_7 b0 K0 p0 (by omega)).mono (by decide) (by decide) (by decide)
theorem qa_tells_0 (b0 : 0 ≤ b ∧ b < 50) (K0 : 0 ≤ K ∧ K < 8) (p0 : 0 ≤ p) (pl : p + 0 ≤ 18) : QA m_M_tells 3 44 18 31 b K p 0 x := by
  obtain ⟨v1, L1, l1, hc1, hm1⟩ := qa_counts (x := x) (p := p + 1) (k := K) b0 K0 K0 (by omega) (by omega)
  obtain ⟨v2, L2, l2, hc2, hm2⟩ := qa_files (x := 1) (p := p + 1) (k := K) b0 K0 K0 (by omega) (by omega)
  have rkK := rk_3 K.toNat (by omega)
  rw [Int.toNat_of_nonneg K0.1] at rkK
  refine ⟨w32 (v1 - v2), 2 :: (L1 ++ L2), by simp only [List.length_cons, List.length_append, List.length_nil]; omega, fun C t h hl i w2 i0 i1 => ?_, fun N t h hl => ?_⟩
  · simp only [List.length_cons, List.length_append, List.length_nil] at hl
    refine P_exit (B := 2) (by decide) (by decide) i0 i1 (by decide) (by decide) (by decide +kernel) (by decide) (by omega) p0 h.2.2.1 h.2.2.2 (by omega) ?_ (by decide)
    refine oc_2 (d := 43) ⟨v1, _, (P_own (CS_psh h).2.1 (hc1 _ _ (CS_psh h) (by omega) 0 _ (by decide) (by omega))).mono (by decide), v2, _, (P_own (CS_add (CS_psh h)).2.1 (hc2 _ _ (CS_add (CS_psh h)) (by omega) 0 _ (by decide) (by omega))).mono (by decide), ?_⟩
    show rI _ (addT 46 3 48 (psh 46 3 48 C t 2) (t + 1) (L1 ++ L2)) = _
    rw [addT_app]
  · simp only [List.length_cons, List.length_append, List.length_nil] at hl
    refine sg_M_tells (d := 17) (ite_i (fun _ => ⟨_, c_M_ran h.2.1 h.2.2 (by omega) (by decide), b0, ?_⟩) (fun q => absurd rfl q))
    rw [(NS_psh h).1]
    refine ⟨v1, _, (hm1 _ _ (NS_psh h) (by omega)).mono (by decide), b0, ?_⟩
    rw [(NS_add (NS_psh h)).1]
    refine ⟨v2, _, (hm2 _ _ (NS_add (NS_psh h)) (by omega)).mono (by decide), ?_⟩
    show rI _ (addT 64 32 83 (psh 64 32 83 N t 2) (t + 1) (L1 ++ L2)) = _
    rw [addT_app]
theorem qa_tells_1 (b0 : 0 ≤ b ∧ b < 50) (K0 : 0 ≤ K ∧ K < 8) (p0 : 0 ≤ p) (pl : p + 1 ≤ 18) : QA m_M_tells 3 47 19 31 b K p 1 x := by
  obtain ⟨v, L, l, hc, hm⟩ := qa_tells_0 (x := x) (p := p) b0 K0 p0 (by omega)
  refine ⟨v, L, l, fun C t h hl i w2 i0 i1 => P_step (by decide) (by decide) (by decide) i0 i1 (by decide) (by decide) (by decide +kernel) ?_ (by decide), fun N t h hl => ?_⟩
  · rw [show rk 1 = 1 from rfl] at i1
    exact Ex.mono (hc C t h hl (i + 1) w2 (by omega) (by rw [show rk 0 = 0 from rfl]; omega)) (by decide)
  · exact sg_M_tells (d := 18) (ite_i (fun q => absurd q (by decide)) (fun _ => ite_i (fun q => absurd q (by decide)) (fun _ => ite_i (fun q => absurd q (by decide)) (fun _ => ⟨_, c_ab (k' := 0) rfl (by decide), v, _, (hm N t h hl).mono (by decide), rfl⟩))))
theorem qa_tells_2 (b0 : 0 ≤ b ∧ b < 50) (K0 : 0 ≤ K ∧ K < 8) (p0 : 0 ≤ p) (pl : p + 1 ≤ 18) : QA m_M_tells 3 47 19 31 b K p 2 x := by
  obtain ⟨v, L, l, hc, hm⟩ := qa_tells_0 (x := x) (p := p) b0 K0 p0 (by omega)
  refine ⟨v, L, l, fun C t h hl i w2 i0 i1 => P_step (by decide) (by decide) (by decide) i0 i1 (by decide) (by decide) (by decide +kernel) ?_ (by decide), fun N t h hl => ?_⟩
  · rw [show rk 2 = 1 from rfl] at i1
    exact Ex.mono (hc C t h hl (i + 1) w2 (by omega) (by rw [show rk 0 = 0 from rfl]; omega)) (by decide)
  · exact sg_M_tells (d := 18) (ite_i (fun q => absurd q (by decide)) (fun _ => ite_i (fun q => absurd q (by decide)) (fun _ => ite_i (fun q => absurd q (by decide)) (fun _ => ⟨_, c_ab (k' := 0) rfl (by decide), v, _, (hm N t h hl).mono (by decide), rfl⟩))))
theorem qa_tells_6 (b0 : 0 ≤ b ∧ b < 50) (K0 : 0 ≤ K ∧ K < 8) (p0 : 0 ≤ p) (pl : p + 1 ≤ 18) : QA m_M_tells 3 47 19 31 b K p 6 x := by
  obtain ⟨v, L, l, hc, hm⟩ := qa_tells_0 (x := x) (p := p) b0 K0 p0 (by omega)
  refine ⟨v, L, l, fun C t h hl i w2 i0 i1 => P_step (by decide) (by decide) (by decide) i0 i1 (by decide) (by decide) (by decide +kernel) ?_ (by decide), fun N t h hl => ?_⟩
  · rw [show rk 6 = 1 from rfl] at i1
    exact Ex.mono (hc C t h hl (i + 1) w2 (by omega) (by rw [show rk 0 = 0 from rfl]; omega)) (by decide)
  · exact sg_M_tells (d := 18) (ite_i (fun q => absurd q (by decide)) (fun _ => ite_i (fun q => absurd q (by decide)) (fun _ => ite_i (fun q => absurd q (by decide)) (fun _ => ⟨_, c_ab (k' := 0) rfl (by decide), v, _, (hm N t h hl).mono (by decide), rfl⟩))))
theorem qa_tells_3 (b0 : 0 ≤ b ∧ b < 50) (K0 : 0 ≤ K ∧ K < 8) (p0 : 0 ≤ p) (pl : p + 2 ≤ 18) : QA m_M_tells 3 50 20 31 b K p 3 x := by
  obtain ⟨v, L, l, hc, hm⟩ := qa_tells_2 (x := x) (p := p) b0 K0 p0 (by omega)
  refine ⟨v, L, l, fun C t h hl i w2 i0 i1 => P_step (by decide) (by decide) (by decide) i0 i1 (by decide) (by decide) (by decide +kernel) ?_ (by decide), fun N t h hl => ?_⟩
  · rw [show rk 3 = 2 from rfl] at i1
    exact Ex.mono (hc C t h hl (i + 1) w2 (by omega) (by rw [show rk 2 = 1 from rfl]; omega)) (by decide)
  · exact sg_M_tells (d := 19) (ite_i (fun q => absurd q (by decide)) (fun _ => ite_i (fun q => absurd q (by decide)) (fun _ => ite_i (fun q => absurd q (by decide)) (fun _ => ⟨_, c_ab (k' := 2) rfl (by decide), v, _, (hm N t h hl).mono (by decide), rfl⟩))))
theorem qa_tells_4 (b0 : 0 ≤ b ∧ b < 50) (K0 : 0 ≤ K ∧ K < 8) (p0 : 0 ≤ p) (pl : p + 2 ≤ 18) : QA m_M_tells 3 50 20 31 b K p 4 x := by
  obtain ⟨v, L, l, hc, hm⟩ := qa_tells_1 (x := x) (p := p) b0 K0 p0 (by omega)
  refine ⟨v, L, l, fun C t h hl i w2 i0 i1 => P_step (by decide) (by decide) (by decide) i0 i1 (by decide) (by decide) (by decide +kernel) ?_ (by decide), fun N t h hl => ?_⟩
  · rw [show rk 4 = 2 from rfl] at i1
    exact Ex.mono (hc C t h hl (i + 1) w2 (by omega) (by rw [show rk 1 = 1 from rfl]; omega)) (by decide)
  · exact sg_M_tells (d := 19) (ite_i (fun q => absurd q (by decide)) (fun _ => ite_i (fun q => absurd q (by decide)) (fun _ => ite_i (fun q => absurd q (by decide)) (fun _ => ⟨_, c_ab (k' := 1) rfl (by decide), v, _, (hm N t h hl).mono (by decide), rfl⟩))))
theorem qa_tells_5 (b0 : 0 ≤ b ∧ b < 50) (K0 : 0 ≤ K ∧ K < 8) (p0 : 0 ≤ p) (pl : p + 3 ≤ 18) : QA m_M_tells 3 53 21 32 b K p 5 x := by
  obtain ⟨v1, L1, l1, hc1, hm1⟩ := qa_tells_3 (x := x) (p := p + 1) b0 K0 (by omega) (by omega)
  refine ⟨ixor v1 5, 60 :: L1, by simp only [List.length_cons, List.length_append, List.length_nil]; omega, fun C t h hl i w2 i0 i1 => ?_, fun N t h hl => ?_⟩
  · simp only [List.length_cons, List.length_append, List.length_nil] at hl
    refine P_exit (B := 60) (by decide) (by decide) i0 i1 (by decide) (by decide) (by decide +kernel) (by decide) (by omega) p0 h.2.2.1 h.2.2.2 (by omega) ?_ (by decide)
    refine oc_60 (d := 52) ⟨v1, _, (P_above (by decide) (by decide) (hc1 _ _ (CS_psh h) (by omega) 0 _ (by decide) (by decide)) (by decide)).mono (by decide), rfl⟩
  · simp only [List.length_cons, List.length_append, List.length_nil] at hl
    refine sg_M_tells (d := 20) (ite_i (fun q => absurd q (by decide)) (fun _ => ite_i (fun _ => ⟨_, c_M_ran h.2.1 h.2.2 (by omega) (by decide), v1, _, (hm1 _ _ (NS_psh h) (by omega)).mono (by decide), rfl⟩) (fun q => absurd rfl q)))
theorem qa_tells_7 (b0 : 0 ≤ b ∧ b < 50) (K0 : 0 ≤ K ∧ K < 8) (p0 : 0 ≤ p) (pl : p + 3 ≤ 18) : QA m_M_tells 3 53 21 32 b K p 7 x := by
  obtain ⟨v1, L1, l1, hc1, hm1⟩ := qa_tells_4 (x := x) (p := p + 1) b0 K0 (by omega) (by omega)
  refine ⟨w32 (v1 - 1), 81 :: L1, by simp only [List.length_cons, List.length_append, List.length_nil]; omega, fun C t h hl i w2 i0 i1 => ?_, fun N t h hl => ?_⟩
  · simp only [List.length_cons, List.length_append, List.length_nil] at hl
    refine P_exit (B := 81) (by decide) (by decide) i0 i1 (by decide) (by decide) (by decide +kernel) (by decide) (by omega) p0 h.2.2.1 h.2.2.2 (by omega) ?_ (by decide)
    refine oc_81 (d := 52) ⟨v1, _, (P_above (by decide) (by decide) (hc1 _ _ (CS_psh h) (by omega) 0 _ (by decide) (by decide)) (by decide)).mono (by decide), rfl⟩
  · simp only [List.length_cons, List.length_append, List.length_nil] at hl
    refine sg_M_tells (d := 20) (ite_i (fun q => absurd q (by decide)) (fun _ => ite_i (fun q => absurd q (by decide)) (fun _ => ite_i (fun _ => ⟨_, c_M_ran h.2.1 h.2.2 (by omega) (by decide), v1, _, (hm1 _ _ (NS_psh h) (by omega)).mono (by decide), rfl⟩) (fun q => absurd rfl q))))
theorem qa_tells (b0 : 0 ≤ b ∧ b < 50) (K0 : 0 ≤ K ∧ K < 8) (k0 : 0 ≤ k ∧ k < 8) (p0 : 0 ≤ p) (pl : p + 3 ≤ 18) : QA m_M_tells 3 53 21 40 b K p k x := by
  rcases (show k = 0 ∨ k = 1 ∨ k = 2 ∨ k = 3 ∨ k = 4 ∨ k = 5 ∨ k = 6 ∨ k = 7 by omega) with rfl | rfl | rfl | rfl | rfl | rfl | rfl | rfl
  · exact (qa_tells_0 b0 K0 p0 (by omega)).mono (by decide) (by decide) (by decide)
  · exact (qa_tells_1 b0 K0 p0 (by omega)).mono (by decide) (by decide) (by decide)
  · exact (qa_tells_2 b0 K0 p0 (by omega)).mono (by decide) (by decide) (by decide)
  · exact (qa_tells_3 b0 K0 p0 (by omega)).mono (by decide) (by decide) (by decide)
  · exact (qa_tells_4 b0 K0 p0 (by omega)).mono (by decide) (by decide) (by decide)
  · exact (qa_tells_5 b0 K0 p0 (by omega)).mono (by decide) (by decide) (by decide)
  · exact (qa_tells_6 b0 K0 p0 (by omega)).mono (by decide) (by decide) (by decide)
  · exact (qa_tells_7 b0 K0 p0 (by omega)).mono (by decide) (by decide) (by decide)
theorem pk_act (i : INV M) {a c : Int} : Pk m_X_act m_M_act [(0, a), (0, c), (0, x)] M := by
  obtain ⟨n1, n2, n3, n4⟩ := i.2.2.2.2.2.2.2.2.2.1
  obtain ⟨B, hB⟩ : ∃ B, B = up M 46 3 0 := ⟨_, rfl⟩
  have bh : B 46 2 = M 64 30 := by rw [hB, up_n (by omega), n1]
  by_cases z : 0 ≤ a ∧ a < M 64 30
  · by_cases y : 0 ≤ c ∧ c < 4
    · obtain ⟨m1, m2, m3⟩ := n4 a z.1 z.2
      obtain ⟨D, hD⟩ : ∃ D, D = up (up B 46 4 a) 46 5 (M 82 a) := ⟨_, rfl⟩
      have cs : CS D a (M 82 a) 0 := ⟨by rw [hD, up_n (by omega), up_eq], by rw [hD, up_eq], by rw [hD, up_n (by omega), up_n (by omega), hB, up_eq], by decide⟩
      have dM : ∀ (o : Nat) (j : Int), ¬ (o = 46 ∧ 3 ≤ j ∧ j ≤ 5) → D o j = M o j := fun o j q => by rw [hD, up_n (by omega), up_n (by omega), hB, up_n (by omega)]
      have fin : ∀ {mt : Nat} {dC dM' lb : Nat}, lb ≤ 40 → dC ≤ 76 → dM' ≤ 79 → QA mt c dC dM' lb a (M 82 a) 0 (M 82 a) x → (∀ {N : Mem} {r : Res}, N 64 30 = M 64 30 → N 82 a = M 82 a → Cl 79 mt [(2, 64), (0, a), (0, M 82 a), (0, x)] (up N 64 32 0) r → (∃ v N', r = rI v N') → Cl 80 m_M_act [(2, 64), (0, a), (0, c), (0, x)] N r) → Pk m_X_act m_M_act [(0, a), (0, c), (0, x)] M := fun {mt dC dM' lb} h1 h2 h3 q act => by
        obtain ⟨v, L, l, hc, hm⟩ := q
        have rkK := rk_3 (M 82 a).toNat (by omega)
        rw [Int.toNat_of_nonneg m2] at rkK
        have x1 := hc D 0 cs (by omega) 0 (0, M 82 a) (by decide) (by omega)
        have x2 := (P_own (M := addC D 0 L) (p := 0) cs.2.1 x1).mono (show dC + 2 ≤ 79 by omega)
        have hx : Cl 80 m_X_act [(2, 0), (0, a), (0, c), (0, x)] M (rI v (addC D 0 L)) := by
          have pl : Cl 79 m_P_play [(2, 46), (0, a), (0, c), (0, x)] M (rI v (addC D 0 L)) := by
            refine sg_P_play (d := 78) ?_
            rw [← hB]
            refine ⟨_, c_P_has (by decide), ite_b (fun t => absurd (by rw [bh]; exact z) t) (fun _ => ite_i (fun t => absurd t (by omega)) (fun _ => ite_i (fun _ => ⟨⟨z.1, by omega⟩, ?_⟩) (fun t => absurd y.2 t)))⟩
            rw [show up B 46 4 a 47 a = M 82 a by rw [up_n (by omega), hB, up_n (by omega), m1], ← hD]
            exact ⟨v, _, (P_own (M := addC D 0 L) (p := 0) cs.2.1 x1).mono (show dC + 2 ≤ 78 by omega), rfl⟩
          exact sg_X_act (d := 79) ⟨v, _, pl, rfl⟩
        obtain ⟨N, hN⟩ : ∃ N, N = addC D 0 L := ⟨_, rfl⟩
        have aC : ∀ (o : Nat) (j : Int), ¬ (o = 46 ∧ j = 3) → ¬ o = 48 → N o j = D o j := fun o j q1 q2 => by rw [hN]; exact addT_n q1 q2 L D 0
        have aN : ∀ (o : Nat) (j : Int), ¬ (o = 64 ∧ j = 32) → ¬ o = 83 → addN (up N 64 32 0) 0 L o j = N o j := fun o j q1 q2 => (addT_n q1 q2 L _ 0).trans (up_n q1)
        have nM : ∀ (o : Nat) (j : Int), ¬ o = 46 → ¬ o = 48 → N o j = M o j := fun o j q1 q2 => by
          rw [aC o j (by omega) q2]
          exact dM o j (by omega)
        have ns : NS (up N 64 32 0) a (M 82 a) 0 := ⟨by rw [up_n (by omega), nM 82 a (by decide) (by decide)], up_eq, by decide⟩
        have hm' := act (nM 64 30 (by decide) (by decide)) (nM 82 a (by decide) (by decide)) ((hm _ 0 ns (by omega)).mono h3) ⟨_, _, rfl⟩
        rw [← hN] at hx
        refine ⟨v, N, _, hx, hm', i.acts (fun o j q => ?_) ?_⟩
        · rw [aN o j (fun t => q (by unfold TAc; omega)) (fun t => q (by unfold TAc; omega)), aC o j (fun t => q (by unfold TAc; omega)) (fun t => q (by unfold TAc; omega)), dM o j (fun t => q (by unfold TAc; omega))]
        · have c1 : addN (up N 64 32 0) 0 L 46 3 = 0 + L.length := by rw [aN 46 3 (by omega) (by omega), hN]; exact addT_cnt L D 0 cs.2.2.1
          have c2 : addN (up N 64 32 0) 0 L 64 32 = 0 + L.length := addT_cnt L _ 0 up_eq
          unfold R12
          rw [c1, c2]
          refine ⟨rfl, by omega, fun j j0 j1 j2 => ?_⟩
          rw [aN 48 j (by omega) (by omega), hN]
          exact addT_tr L D (up (addC D 0 L) 64 32 0) 0 (by decide) (fun q q0 q1 q2 => absurd q2 (by omega)) j j0 j1 j2
      have go : ∀ {N : Mem} {r : Res}, N 64 30 = M 64 30 → N 82 a = M 82 a → ((if ¬ c = 0 then (if ¬ c = 1 then (if ¬ c = 2 then ∃ v12 M13, Cl 79 m_M_tells [(2, 64), (0, a), (0, M 82 a), (0, x)] (up N 64 32 0) (some (0, v12), M13) ∧ r = (some (0, v12), M13) else ∃ v15 M16, Cl 79 m_M_files [(2, 64), (0, a), (0, M 82 a), (0, x)] (up N 64 32 0) (some (0, v15), M16) ∧ r = (some (0, v15), M16)) else ∃ v18 M19, Cl 79 m_M_counts [(2, 64), (0, a), (0, M 82 a), (0, x)] (up N 64 32 0) (some (0, v18), M19) ∧ r = (some (0, v18), M19)) else ∃ v21 M22, Cl 79 m_M_inks [(2, 64), (0, a), (0, M 82 a), (0, x)] (up N 64 32 0) (some (0, v21), M22) ∧ r = (some (0, v21), M22))) → Cl 80 m_M_act [(2, 64), (0, a), (0, c), (0, x)] N r := fun {N r} g1 g2 hv => by
        refine sg_M_act (d := 79) ?_
        rw [up_n (b := 64) (j := 30) (by omega), g1, up_n (b := 82) (by omega), g2, w32_i (x := M 64 30 - 1) (by omega) (by omega)]
        exact ⟨_, c_M_within (by decide), ite_b (fun t => absurd ⟨z.1, by omega⟩ t) (fun _ => ⟨_, c_M_within (by decide), ite_bn (fun _ => ⟨⟨z.1, by omega⟩, hv⟩) (fun t => absurd ⟨y.1, by omega⟩ t)⟩)⟩
      rcases (show c = 0 ∨ c = 1 ∨ c = 2 ∨ c = 3 by omega) with rfl | rfl | rfl | rfl
      · refine fin (lb := 4) (dC := 13) (dM' := 5) (mt := m_M_inks) (by decide) (by decide) (by decide) (qa_inks ⟨z.1, by omega⟩ ⟨m2, m3⟩ ⟨m2, m3⟩ (by decide) (by decide)) (fun g1 g2 h e => go g1 g2 ?_)
        obtain ⟨v, N', rfl⟩ := e
        exact ite_i (fun t => absurd rfl t) (fun _ => ⟨_, _, h, rfl⟩)
      · refine fin (lb := 20) (dC := 39) (dM' := 15) (mt := m_M_counts) (by decide) (by decide) (by decide) (qa_counts ⟨z.1, by omega⟩ ⟨m2, m3⟩ ⟨m2, m3⟩ (by decide) (by decide)) (fun g1 g2 h e => go g1 g2 ?_)
        obtain ⟨v, N', rfl⟩ := e
        exact ite_i (fun _ => ite_i (fun t => absurd rfl t) (fun _ => ⟨_, _, h, rfl⟩)) (fun t => absurd (by decide) t)
      · refine fin (lb := 10) (dC := 25) (dM' := 9) (mt := m_M_files) (by decide) (by decide) (by decide) (qa_files ⟨z.1, by omega⟩ ⟨m2, m3⟩ ⟨m2, m3⟩ (by decide) (by decide)) (fun g1 g2 h e => go g1 g2 ?_)
        obtain ⟨v, N', rfl⟩ := e
        exact ite_i (fun _ => ite_i (fun _ => ite_i (fun t => absurd rfl t) (fun _ => ⟨_, _, h, rfl⟩)) (fun t => absurd (by decide) t)) (fun t => absurd (by decide) t)
      · refine fin (lb := 40) (dC := 53) (dM' := 21) (mt := m_M_tells) (by decide) (by decide) (by decide) (qa_tells ⟨z.1, by omega⟩ ⟨m2, m3⟩ ⟨m2, m3⟩ (by decide) (by decide)) (fun g1 g2 h e => go g1 g2 ?_)
        obtain ⟨v, N', rfl⟩ := e
        exact ite_i (fun _ => ite_i (fun _ => ite_i (fun _ => ⟨_, _, h, rfl⟩) (fun t => absurd (by decide) t)) (fun t => absurd (by decide) t)) (fun t => absurd (by decide) t)
    · have inv : INV (up B 64 32 0) := i.acts (by rw [hB]; exact ((To.refl _ M).upd (by unfold TAc; omega)).upd (by unfold TAc; omega)) ⟨by rw [up_n (by omega), up_eq, hB, up_eq], by rw [up_eq]; decide, fun j j0 j1 j2 => absurd j2 (by rw [up_eq]; omega)⟩
      have b30 : up B 64 32 0 64 30 = M 64 30 := by rw [up_n (by omega), hB, up_n (by omega)]
      have w1 : w32 (M 64 30 - 1) = M 64 30 - 1 := w32_i (by omega) (by omega)
      refine ⟨0, B, up B 64 32 0, sg_X_act (d := 79) ⟨0, B, sg_P_play (d := 78) ?_, rfl⟩, sg_M_act (d := 79) ?_, inv⟩
      · rw [← hB]
        exact ⟨_, c_P_has (by decide), ite_b (fun t => absurd (by rw [bh]; exact z) t) (fun _ => ite_i (fun _ => rfl) (fun t => ite_i (fun t2 => absurd ⟨by omega, t2⟩ y) (fun _ => rfl)))⟩
      · rw [b30, w1]
        exact ⟨_, c_M_within (by decide), ite_b (fun t => absurd ⟨z.1, by omega⟩ t) (fun _ => ⟨_, c_M_within (by decide), ite_bn (fun t => absurd ⟨t.1, by omega⟩ y) (fun _ => rfl)⟩)⟩
  · have inv : INV (up B 64 32 0) := i.acts (by rw [hB]; exact ((To.refl _ M).upd (by unfold TAc; omega)).upd (by unfold TAc; omega)) ⟨by rw [up_n (by omega), up_eq, hB, up_eq], by rw [up_eq]; decide, fun j j0 j1 j2 => absurd j2 (by rw [up_eq]; omega)⟩
    have b30 : up B 64 32 0 64 30 = M 64 30 := by rw [up_n (by omega), hB, up_n (by omega)]
    have w1 : w32 (M 64 30 - 1) = M 64 30 - 1 := w32_i (by omega) (by omega)
    refine ⟨0, B, up B 64 32 0, sg_X_act (d := 79) ⟨0, B, sg_P_play (d := 78) ?_, rfl⟩, sg_M_act (d := 79) ?_, inv⟩
    · rw [← hB]
      exact ⟨_, c_P_has (by decide), ite_b (fun _ => rfl) (fun t => absurd (by rw [← bh]; exact t) z)⟩
    · rw [b30, w1]
      exact ⟨_, c_M_within (by decide), ite_b (fun _ => rfl) (fun t => absurd ⟨t.1, by omega⟩ z)⟩
end P40
