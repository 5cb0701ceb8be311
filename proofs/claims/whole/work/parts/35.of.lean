/-! promises of, taken -/
section P20
variable {M : Mem} {a b c m p s x : Int}
theorem c_X_isTold (h1 : R1 M) (ha : c32 a) : Cl 39 m_X_isTold [(2, 0), (0, a), (0, b)] M (rI (bI ((b = 2 ∧ a = 0) ∨ ((b = 0 ∨ b = 1) ∧ 0 ≤ a ∧ a / 100 < M 64 0 ∧ a % 100 < 10))) M) := by
  have e1 := h1.1
  have fin : (b = 0 ∨ b = 1) → ¬ a < 0 → ∃ v8, Cl 38 m_C_has [(2, 1), (0, w32 (Int.tdiv a 100))] M (some (0, v8), M) ∧ (if v8 = 0 then rI (bI ((b = 2 ∧ a = 0) ∨ ((b = 0 ∨ b = 1) ∧ 0 ≤ a ∧ a / 100 < M 64 0 ∧ a % 100 < 10))) M = (some (0, 0), M) else ∃ v16, Cl 38 m_X_isFinger [(0, w32 (Int.tmod a 100))] M (some (0, v16), M) ∧ (if v16 = 0 then rI (bI ((b = 2 ∧ a = 0) ∨ ((b = 0 ∨ b = 1) ∧ 0 ≤ a ∧ a / 100 < M 64 0 ∧ a % 100 < 10))) M = (some (0, 0), M) else rI (bI ((b = 2 ∧ a = 0) ∨ ((b = 0 ∨ b = 1) ∧ 0 ≤ a ∧ a / 100 < M 64 0 ∧ a % 100 < 10))) M = (some (0, 1), M))) := fun hb q => by
    rw [(dm100 ha q).1, (dm100 ha q).2]
    refine ⟨_, c_C_has (by decide), ite_b (fun t => ?_) (fun t => ⟨_, c_X_isFinger (by decide), ite_b (fun t2 => ?_) (fun t2 => ?_)⟩)⟩
    · rw [bI_f (by omega)]
    · rw [bI_f (by omega)]
    · rw [bI_t (by omega)]
  refine sg_X_isTold (d := 38) (ite_i (fun q2 => ite_i (fun q0 => ite_i (fun q => ?_) (fun q => fin (Or.inl q0) q)) (fun q0 => ite_i (fun q1 => ?_) (fun q1 => ite_i (fun q => ?_) (fun q => fin (Or.inr (Classical.not_not.mp q1)) q)))) (fun q2 => ite_i (fun q => ?_) (fun q => ?_)))
  · rw [bI_f (by omega)]
  · rw [bI_f (by omega)]
  · rw [bI_f (by omega)]
  · rw [bI_f (by omega)]
  · rw [bI_t (by omega)]
theorem c_M_isOf (h1 : R1 M) (ha : c32 a) : Cl 39 m_M_isOf [(2, 64), (0, a), (0, b)] M (rI (bI ((b = 2 ∧ a = 0) ∨ ((b = 0 ∨ b = 1) ∧ 0 ≤ a ∧ a / 100 < M 64 0 ∧ a % 100 < 10))) M) := by
  refine sg_M_isOf (d := 38) ⟨_, c_M_within (by decide), ite_b (fun q => ite_i (fun q2 => ?_) (fun q2 => ite_i (fun q3 => ?_) (fun q3 => ?_))) (fun q => ⟨_, c_M_isFinger h1 ha (by decide), bI_01, rI_c (by omega)⟩)⟩
  · rw [bI_f (by omega)]
  · rw [bI_f (by omega)]
  · rw [bI_t (by omega)]
theorem pr_of (h1 : R1 M) (h2 : R2 M) (h4 : R4 M) (ha : c32 a) : Bo m_X_of m_M_of [(0, a), (0, b)] M := by
  have e1 := h1.1; have e2 := h1.2.1; have e3 := h1.2.2.1; have e4 := h1.2.2.2.1
  by_cases q : b = 10
  · by_cases z : 0 ≤ a ∧ a < M 64 0
    · refine ⟨M 67 a, sg_X_of (d := 39) (ite_i (fun t => absurd q t) (fun _ => ⟨_, c_C_has (by decide), ite_b (fun t => absurd ((has_iff h1).mpr z) t) (fun _ => ⟨⟨z.1, by omega⟩, ?_⟩)⟩)), sg_M_of (d := 39) (ite_i (fun t => absurd q t) (fun _ => ⟨_, c_M_isCard h1 (by decide), ite_b (fun t => absurd z t) (fun _ => ⟨⟨z.1, by omega⟩, rfl⟩)⟩))⟩
      rw [(h4 a z.1 z.2).1]
    · exact ⟨-1, sg_X_of (d := 39) (ite_i (fun t => absurd q t) (fun _ => ⟨_, c_C_has (by decide), ite_b (fun _ => ⟨_, c_X_isTold h1 ha, ite_bn (fun t => absurd t (by omega)) (fun _ => rfl)⟩) (fun t => absurd ((has_iff h1).mp t) z)⟩)), sg_M_of (d := 39) (ite_i (fun t => absurd q t) (fun _ => ⟨_, c_M_isCard h1 (by decide), ite_b (fun _ => rfl) (fun t => absurd t z)⟩))⟩
  · by_cases y : (b = 2 ∧ a = 0) ∨ ((b = 0 ∨ b = 1) ∧ 0 ≤ a ∧ a / 100 < M 64 0 ∧ a % 100 < 10)
    · have both : ∀ v, Cl 39 m_C_told [(2, 1), (0, a), (0, b)] M (rI v M) → Cl 39 m_M_get [(2, 64), (0, a), (0, b)] M (rI v M) → Bo m_X_of m_M_of [(0, a), (0, b)] M := fun v x m =>
        ⟨v, sg_X_of (d := 39) (ite_i (fun _ => ⟨_, c_X_isTold h1 ha, ite_bn (fun _ => ⟨_, x, rfl⟩) (fun t => absurd y t)⟩) (fun t => t.elim q)), sg_M_of (d := 39) (ite_i (fun _ => ⟨_, c_M_isOf h1 ha, ite_b (fun t => absurd y t) (fun _ => ⟨_, m, rfl⟩)⟩) (fun t => t.elim q))⟩
      by_cases y2 : b = 2
      · refine both (M 64 4) (sg_C_told (d := 38) (ite_i (fun t => absurd y2 t) (fun _ => by rw [e4]))) (sg_M_get (d := 38) (ite_i (fun _ => ite_i (fun _ => rfl) (fun t => absurd y2 (by omega))) (fun t => absurd y2 (by omega))))
      · have f : 0 ≤ a ∧ a / 100 < M 64 0 ∧ a % 100 < 10 := by omega
        obtain ⟨d1, d2⟩ := dm100 ha (by omega)
        obtain ⟨g1, g2, -⟩ := h2 (a / 100) (a % 100) (by omega) f.2.1 (by omega) f.2.2
        have pl : Cl 38 m_M_placeOf [(0, a)] M (rI (10 * (a / 100) + a % 100) M) := by
          refine sg_M_placeOf (d := 37) ?_
          rw [d1, d2, w32_i (x := a / 100 * 10) (by omega) (by omega), w32_i (by omega) (by omega), Int.mul_comm]
        by_cases y0 : b = 0
        · refine both (M 65 (10 * (a / 100) + a % 100)) (sg_C_told (d := 38) (ite_i (fun _ => ?_) (fun t => t.elim y2))) (sg_M_get (d := 38) (ite_i (fun t => absurd y0 t) (fun _ => ⟨_, pl, ⟨by omega, by omega⟩, rfl⟩)))
          rw [d1, d2, g1]
          exact ⟨_, c_C_has (by decide), ite_b (fun t => absurd ⟨by omega, by omega⟩ t) (fun _ => ⟨_, c_X_isFinger (by decide), ite_bn (fun _ => ite_i (fun t => absurd y0 t) (fun _ => ⟨⟨by omega, by omega⟩, ⟨by omega, by omega⟩, rfl⟩)) (fun t => absurd ⟨by omega, by omega⟩ t)⟩)⟩
        · refine both (M 66 (10 * (a / 100) + a % 100)) (sg_C_told (d := 38) (ite_i (fun _ => ?_) (fun t => t.elim y2))) (sg_M_get (d := 38) (ite_i (fun _ => ite_i (fun t => absurd (by omega) t) (fun _ => ⟨_, pl, ⟨by omega, by omega⟩, rfl⟩)) (fun t => t.elim y0)))
          rw [d1, d2, g2]
          exact ⟨_, c_C_has (by decide), ite_b (fun t => absurd ⟨by omega, by omega⟩ t) (fun _ => ⟨_, c_X_isFinger (by decide), ite_bn (fun _ => ite_i (fun _ => ⟨⟨by omega, by omega⟩, ⟨by omega, by omega⟩, rfl⟩) (fun t => t.elim y0)) (fun t => absurd ⟨by omega, by omega⟩ t)⟩)⟩
    · exact ⟨-1, sg_X_of (d := 39) (ite_i (fun _ => ⟨_, c_X_isTold h1 ha, ite_bn (fun t => absurd t y) (fun _ => rfl)⟩) (fun t => t.elim q)), sg_M_of (d := 39) (ite_i (fun _ => ⟨_, c_M_isOf h1 ha, ite_b (fun _ => rfl) (fun t => absurd t y)⟩) (fun t => t.elim q))⟩
end P20
