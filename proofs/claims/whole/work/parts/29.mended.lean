/-! promises mended, led, count, trace, of -/
theorem dand {x : Int} {f i : Nat} (hf : f < 10) (hi : i < 10) (e : fp i = f) : iand x (dbit f) = 0 ↔ ¬ bt x i = true := by
  rw [eq_bt (c_iand _ _) c32_0]
  constructor
  · intro h q
    have := h i (by omega)
    rw [bt_and, bt_dbit f hf i (by omega), q, bt_z] at this
    simp [hi, e] at this
  · intro h j hj
    rw [bt_and, bt_dbit f hf j hj, bt_z]
    by_cases z : j < 10
    · by_cases w : fp j = f
      · have := fp_inj z hi (w.trans e.symm)
        subst this
        simp at h
        simp [h]
      · simp [w]
    · simp [z]
section P14
variable {M : Mem} {a b c m x : Int}
theorem pr_mended (h1 : R1 M) (h3 : R3 M) : Bo m_X_mended m_M_mended [(0, a), (0, b), (0, c)] M := by
  have e1 := h1.1; have e2 := h1.2.1; have e3 := h1.2.2.1
  by_cases z : 0 ≤ a ∧ a < M 64 0
  · by_cases w : 0 ≤ b ∧ b < 1024
    · by_cases y : 0 ≤ c ∧ c ≤ 1
      · let P : Nat → Bool := fun f => decide (¬ iand (iand (ixor b (M 28 a)) (ixor (M 29 a) (-1))) (dbit f) = 0)
        obtain ⟨r1, r2, hb⟩ := h3 a z.1 z.2
        refine ⟨if ¬ c = 0 then setB P 10 else bc (setB P 10), sg_X_mended (d := 39) ⟨_, c_C_has (by decide), ite_b (fun q => absurd ((has_iff h1).mpr z) q) (fun _ => ⟨_, c_X_isDrawer (by decide), ite_b (fun q => absurd w q) (fun _ => ite_i (fun q => absurd q (by omega)) (fun _ => ite_i (fun _ => ⟨⟨z.1, by omega⟩, ⟨z.1, by omega⟩, ?_⟩) (fun q => absurd y.2 q)))⟩)⟩, sg_M_mended (d := 39) ⟨_, c_M_isCard h1 (by decide), ite_b (fun q => absurd z q) (fun _ => ⟨_, c_M_isDrawer (by decide), ite_b (fun q => absurd w q) (fun _ => ⟨_, c_M_within (by decide), ite_bn (fun _ => ?_) (fun q => absurd y q)⟩)⟩)⟩⟩
        · refine loop_up (fun v i => at_X_mended_35 39 (2, 0) (0, a) (0, b) c _ v i M _) (setB P) 10 ?_ ?_
          · refine sg_X_mended_35 (ite_i (fun _ => ite_i (fun q => ?_) (fun q => ⟨_, c_J_bitCount (by decide), ?_⟩)) (fun q => absurd (by decide) q))
            · rw [if_pos q]
            · rw [if_neg q]
          · intro k hk ih
            refine sg_X_mended_35 (ite_i (fun q => absurd q (by omega)) (fun _ => ⟨_, c_X_drawerBit hk (by decide), ?_⟩))
            rw [w32_k (by omega)]
            refine ite_i (fun q => ?_) (fun q => ?_)
            · rw [setB_f (dec_f (fun t => t q))] at ih; exact ih
            · rw [setB_t (dec_t q)] at ih; exact ih
        · refine loop_up (fun v i => ∀ w, at_M_mended_18 39 a b c v i w M _) (setB P) 10 ?_ ?_ _
          · refine fun w => sg_M_mended_18 (ite_i (fun _ => ite_i (fun q => ?_) (fun q => ⟨_, c_J_bitCount (by decide), ?_⟩)) (fun q => absurd (by decide) q))
            · rw [if_pos q]
            · rw [if_neg q]
          · intro k hk ih w
            obtain ⟨i, hi, e⟩ := fp_sur hk
            obtain ⟨b1, b2⟩ := hb i (by omega)
            have d1 := dand (x := iand (ixor b (M 28 a)) (ixor (M 29 a) (-1))) hk hi e
            have d2 := dand (x := b) hk hi e
            rw [bt_and, bt_xor, bt_xor, bt_n1 (by omega), b1, b2, e] at d1
            refine sg_M_mended_18 (ite_i (fun q => absurd q (by omega)) (fun _ => ?_))
            rw [w32_k (by omega), ix10 z.1 (by omega) (by omega) (by omega)]
            refine ⟨⟨by omega, by omega⟩, ite_i (fun q => ?_) (fun q => ite_i (fun q2 => ⟨_, c_M_bitOf hk (by decide), ite_i (fun q3 => ?_) (fun q3 => ?_)⟩) (fun q2 => ⟨_, c_M_bitOf hk (by decide), ite_i (fun q3 => ?_) (fun q3 => ?_)⟩))⟩
            · rw [setB_f (dec_f (fun t => t (d1.mpr (by simp [q, hi]))))] at ih; exact ih _
            · rw [setB_f (dec_f (fun t => t (d1.mpr (by have := d2.mp q3; simp at this; simp [q2, this]))))] at ih; exact ih _
            · rw [setB_t (P := P) (show P k = true from dec_t (fun t => d1.mp t (by have := (not_congr d2).mp q3; simp at this; simp [q2, this, hi]; omega)))] at ih; exact ih _
            · have q2 := Classical.not_not.mp q2
              rw [setB_t (P := P) (show P k = true from dec_t (fun t => d1.mp t (by have := d2.mp q3; simp at this; simp [q2, this, hi])))] at ih; exact ih _
            · have q2 := Classical.not_not.mp q2
              rw [setB_f (dec_f (fun t => t (d1.mpr (by have := (not_congr d2).mp q3; simp at this; simp [q2, this, hi]))))] at ih; exact ih _
      · exact ⟨-1, sg_X_mended (d := 39) ⟨_, c_C_has (by decide), ite_b (fun _ => rfl) (fun _ => ⟨_, c_X_isDrawer (by decide), ite_b (fun _ => rfl) (fun _ => ite_i (fun _ => rfl) (fun q => ite_i (fun q2 => absurd ⟨by omega, q2⟩ y) (fun _ => rfl)))⟩)⟩, sg_M_mended (d := 39) ⟨_, c_M_isCard h1 (by decide), ite_b (fun _ => rfl) (fun _ => ⟨_, c_M_isDrawer (by decide), ite_b (fun _ => rfl) (fun _ => ⟨_, c_M_within (by decide), ite_bn (fun q => absurd q y) (fun _ => rfl)⟩)⟩)⟩⟩
    · exact ⟨-1, sg_X_mended (d := 39) ⟨_, c_C_has (by decide), ite_b (fun _ => rfl) (fun _ => ⟨_, c_X_isDrawer (by decide), ite_b (fun _ => rfl) (fun q => absurd q w)⟩)⟩, sg_M_mended (d := 39) ⟨_, c_M_isCard h1 (by decide), ite_b (fun _ => rfl) (fun _ => ⟨_, c_M_isDrawer (by decide), ite_b (fun _ => rfl) (fun q => absurd q w)⟩)⟩⟩
  · exact ⟨-1, sg_X_mended (d := 39) ⟨_, c_C_has (by decide), ite_b (fun _ => rfl) (fun q => absurd ((has_iff h1).mp q) z)⟩, sg_M_mended (d := 39) ⟨_, c_M_isCard h1 (by decide), ite_b (fun _ => rfl) (fun q => absurd q z)⟩⟩
theorem pr_led (h9 : ∀ i : Int, 0 ≤ i → i < 5 → M 43 i = M 78 i) : Bo m_X_led m_M_led [(0, a)] M := by
  by_cases z : 0 ≤ a ∧ a ≤ 4
  · refine ⟨M 78 a, sg_X_led (d := 39) (ite_i (fun q => absurd q (by omega)) (fun _ => ite_i (fun q => absurd q (by omega)) (fun _ => ⟨⟨z.1, by omega⟩, ?_⟩))), sg_M_led (d := 39) ⟨_, c_M_within (by decide), ite_b (fun q => absurd z q) (fun _ => ⟨⟨z.1, by omega⟩, rfl⟩)⟩⟩
    rw [h9 a z.1 (by omega)]
  · exact ⟨-1, sg_X_led (d := 39) (ite_i (fun _ => rfl) (fun q => ite_i (fun _ => rfl) (fun q2 => absurd ⟨by omega, by omega⟩ z))), sg_M_led (d := 39) ⟨_, c_M_within (by decide), ite_b (fun _ => rfl) (fun q => absurd q z)⟩⟩
theorem pr_trace (t1 : M 46 3 = M 64 32) (t0 : 0 ≤ M 64 32) (t2 : ∀ i : Int, 0 ≤ i → i < 24 → i < M 64 32 → M 48 i = M 83 i) : Bo m_X_trace m_M_trace [(0, a)] M := by
  have e : w32 ((if M 64 32 < 24 then M 64 32 else 24) - 1) = (if M 64 32 < 24 then M 64 32 else 24) - 1 := w32_i (by split <;> omega) (by split <;> omega)
  by_cases z : 0 ≤ a ∧ a < 24 ∧ a < M 64 32
  · refine ⟨M 83 a, sg_X_trace (d := 39) (ite_i (fun q => absurd q (by omega)) (fun _ => ⟨_, sg_P_traced (d := 38) rfl, ite_i (fun q => absurd q (by rw [t1]; split <;> omega)) (fun _ => ⟨⟨z.1, by omega⟩, ?_⟩)⟩)), sg_M_trace (d := 39) ⟨_, c_M_within (by decide), ite_b (fun q => absurd (by rw [e]; split <;> omega) q) (fun _ => ⟨⟨z.1, by omega⟩, rfl⟩)⟩⟩
    rw [t2 a z.1 z.2.1 z.2.2]
  · refine ⟨-1, sg_X_trace (d := 39) (ite_i (fun _ => rfl) (fun q => ⟨_, sg_P_traced (d := 38) rfl, ite_i (fun _ => rfl) (fun q2 => absurd ?_ z)⟩)), sg_M_trace (d := 39) ⟨_, c_M_within (by decide), ite_b (fun _ => rfl) (fun q => absurd ?_ z)⟩⟩
    · rw [t1] at q2
      split at q2 <;> omega
    · rw [e] at q
      split at q <;> omega
theorem c_C_countFiled (h1 : R1 M) (h4 : R4 M) : Cl 39 m_C_countFiled [(2, 1)] M (rI (cntB (fun c => decide (¬ M 67 (c : Int) = -2000000000)) (M 64 0).toNat) M) := by
  have e1 := h1.1; have e2 := h1.2.1; have e3 := h1.2.2.1
  refine (sg_C_countFiled (d := 38) ?_)
  refine loop_up (fun v i => at_C_countFiled_4 38 v i M _) (cntB (fun c => decide (¬ M 67 (c : Int) = -2000000000))) (M 64 0).toNat ?_ ?_
  · exact sg_C_countFiled_4 (ite_i (fun _ => rfl) (fun q => absurd (by omega) q))
  · intro k hk ih
    have hcn := cntB_le (fun c => decide (¬ M 67 (c : Int) = -2000000000)) k
    obtain ⟨f1, f2⟩ := h4 k (by omega) (by omega)
    refine sg_C_countFiled_4 (ite_i (fun q => absurd q (by omega)) (fun _ => ⟨⟨by omega, by omega⟩, _, c_X_isDrawer (by decide), _, c_X_truth (by decide), ?_⟩))
    rw [w32_k (by omega), f1]
    by_cases q : M 67 (k : Int) = -2000000000
    · rw [cntB_f (dec_f (fun t => t q))] at ih
      rw [bI_f (by omega), Int.add_zero, w32_i (by omega) (by omega)]; exact ih
    · rw [cntB_t (dec_t q)] at ih
      rw [bI_t (by omega), w32_i (by omega) (by omega)]; exact ih
theorem pr_count (h1 : R1 M) (h4 : R4 M) (k2 : M 31 5 = M 64 5) (k3 : M 37 4 = M 64 28) (k4 : M 46 2 = M 64 30) (k5 : M 46 3 = M 64 32) : Bo m_X_count m_M_count [(0, a)] M := by
  have e1 := h1.1; have e2 := h1.2.1; have e3 := h1.2.2.1
  by_cases q1 : a = 1
  · subst q1
    refine ⟨_, sg_X_count (d := 39) (ite_i (fun q => absurd q (by decide)) (fun _ => ite_i (fun _ => ⟨_, c_C_countFiled h1 h4, rfl⟩) (fun q => absurd rfl q))), sg_M_count (d := 39) (ite_i (fun q => absurd q (by decide)) (fun _ => ite_i (fun _ => ?_) (fun q => absurd rfl q)))⟩
    refine loop_up (fun v i => at_M_count_9 39 (0, 1) v i M _) (cntB (fun c => decide (¬ M 67 (c : Int) = -2000000000))) (M 64 0).toNat ?_ ?_
    · exact sg_M_count_9 w01 (ite_i (fun _ => rfl) (fun q => absurd (by omega) q))
    · intro k hk ih
      have hcn := cntB_le (fun c => decide (¬ M 67 (c : Int) = -2000000000)) k
      refine sg_M_count_9 w01 (ite_i (fun q => absurd q (by omega)) (fun _ => ?_))
      rw [w32_k (by omega)]
      refine ⟨⟨by omega, by omega⟩, ite_i (fun q => ?_) (fun q => ?_)⟩
      · rw [cntB_f (dec_f (fun t => t q))] at ih; exact ih
      · rw [cntB_t (dec_t q)] at ih
        rw [w32_i (by omega) (by omega)]; exact ih
  · refine ⟨if a = 0 then M 64 0 else if a = 2 then M 64 5 else if a = 3 then M 64 28 else if a = 4 then M 64 30 else if a = 5 then M 64 32 else -1, sg_X_count (d := 39) ?_, sg_M_count (d := 39) ?_⟩
    · rw [e1, k2, k3, k4, k5, if_neg q1]
      repeat' split
      all_goals rfl
    · rw [if_neg q1]
      repeat' split
      all_goals rfl
end P14
