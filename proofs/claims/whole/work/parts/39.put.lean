/-! promise put -/
section P24
variable {M : Mem} {a b v : Int}
/-- put: refused with nothing written, or written to the class's row and the model's -/
theorem pr_put (h : R13 M) : (∃ u : Int, Cl 40 m_X_put [(2, 0), (0, a), (0, b), (1, v)] M (rI u M) ∧ Cl 40 m_M_put [(2, 64), (0, a), (0, b), (1, v)] M (rI u M)) ∨
    ((0 ≤ a ∧ a < 6) ∧ M 50 a = 2 ∧ 0 ≤ b ∧ b < M 85 a ∧ Cl 40 m_X_put [(2, 0), (0, a), (0, b), (1, v)] M (rI 1 (up M ((55 + a).toNat) b (KP (M 52 a) v))) ∧ Cl 40 m_M_put [(2, 64), (0, a), (0, b), (1, v)] (up M ((55 + a).toNat) b (KP (M 52 a) v)) (rI 1 (up (up M ((55 + a).toNat) b (KP (M 52 a) v)) 86 (60 * a + b) (KP (M 52 a) v)))) := by
  have no : ∀ u : Int, ¬ u = 0 → Cl 39 m_X_placeRefusal [(2, 0), (0, a), (0, b)] M (rI u M) → Cl 40 m_X_put [(2, 0), (0, a), (0, b), (1, v)] M (rI u M) := fun u u0 r =>
    sg_X_put (d := 39) ⟨_, r, ite_i (fun t => absurd t u0) (fun _ => rfl)⟩
  rcases rowAny h a with ⟨u, u0, rx, q⟩ | ⟨z, q1, q2, q3, rx⟩
  · refine Or.inl ⟨u, no u (by omega) (sg_X_placeRefusal (d := 38) ⟨_, rx, ite_i (fun t => absurd t (by omega)) (fun _ => rfl)⟩), ?_⟩
    rcases q with ⟨z, e⟩ | ⟨z, q, e⟩ | ⟨z, q, e⟩
    · exact sg_M_put (d := 39) ⟨_, c_M_isShelf (by decide), ite_bn (fun t => absurd t z) (fun _ => by rw [e])⟩
    · exact sg_M_put (d := 39) ⟨_, c_M_isShelf (by decide), ite_bn (fun _ => ⟨z, ite_i (fun t => absurd q t) (fun _ => by rw [e])⟩) (fun t => absurd z t)⟩
    · exact sg_M_put (d := 39) ⟨_, c_M_isShelf (by decide), ite_bn (fun _ => ⟨z, ite_i (fun _ => ⟨_, c_M_isRow z, ite_bn (fun t => absurd t (by omega)) (fun _ => by rw [e])⟩) (fun t => absurd t (by omega))⟩) (fun t => absurd z t)⟩
  · obtain ⟨r1, -, -, r4, r5, r6, r⟩ := h.row z q1
    have ww : w32 (M 85 a - 1) = M 85 a - 1 := w32_i (by omega) (by omega)
    by_cases y : 0 ≤ b ∧ b < M 85 a
    · refine Or.inr ⟨z, q1, y.1, y.2, sg_X_put (d := 39) ⟨_, sg_X_placeRefusal (d := 38) ⟨_, rx, ite_i (fun _ => ite_i (fun t => absurd t (by omega)) (fun _ => ⟨_, c_S_lengthOf h z q1 (by decide), ite_i (fun _ => rfl) (fun t => absurd y.2 t)⟩)) (fun t => absurd rfl t)⟩, ite_i (fun _ => ⟨_, sg_S_putLowest (d := 38) (ite_i (fun t => absurd t (by omega)) (fun _ => ⟨_, c_S_lengthOf h z q1 (by decide), ite_i (fun t => absurd t (by omega)) (fun _ => ⟨z, z, _, c_S_lowestBits (by decide), ⟨y.1, by omega⟩, rfl⟩)⟩)), rfl⟩) (fun t => absurd rfl t)⟩, ?_⟩
      have u84 : up M ((55 + a).toNat) b (KP (M 52 a) v) 84 a = M 84 a := up_ne (by omega)
      have u85 : up M ((55 + a).toNat) b (KP (M 52 a) v) 85 a = M 85 a := up_ne (by omega)
      refine sg_M_put (d := 39) ⟨_, c_M_isShelf (by decide), ite_bn (fun _ => ⟨z, ite_i (fun _ => ⟨_, c_M_isRow z, ite_bn (fun _ => ⟨z, _, c_M_within (by decide), ite_bn (fun _ => ⟨z, _, c_M_kept (by decide), ?_⟩) (fun t => absurd ⟨y.1, by rw [u85]; omega⟩ t)⟩) (fun t => absurd (by rw [u84]; exact ⟨q2, q3⟩) t)⟩) (fun t => absurd (by rw [u84] at t; omega) t)⟩) (fun t => absurd z t)⟩
      rw [ix60 z y.1 (by omega), u84, r1]
      exact ⟨⟨by omega, by omega⟩, rfl⟩
    · refine Or.inl ⟨-13, no (-13) (by decide) (sg_X_placeRefusal (d := 38) ⟨_, rx, ite_i (fun _ => ite_i (fun _ => rfl) (fun t => ⟨_, c_S_lengthOf h z q1 (by decide), ite_i (fun t2 => absurd ⟨by omega, t2⟩ y) (fun _ => rfl)⟩)) (fun t => absurd rfl t)⟩), sg_M_put (d := 39) ⟨_, c_M_isShelf (by decide), ite_bn (fun _ => ⟨z, ite_i (fun _ => ⟨_, c_M_isRow z, ite_bn (fun _ => ⟨z, _, c_M_within (by decide), ite_bn (fun t => absurd ⟨t.1, by omega⟩ y) (fun _ => rfl)⟩) (fun t => absurd ⟨q2, q3⟩ t)⟩) (fun t => absurd (by omega) t)⟩) (fun t => absurd z t)⟩⟩
end P24
