/-! promise taken, to its end -/
section P22
variable {M : Mem} {a b c m p s x : Int}
theorem pr_taken (h11 : R11 M) (h : R13 M) : Bo m_X_taken m_M_taken [(0, a), (0, b)] M := by
  obtain ⟨n1, n2, n3, n4⟩ := h11
  by_cases z : 0 ≤ a ∧ a < 6
  · by_cases y : 0 ≤ b ∧ b < 8
    · have y7 : 0 ≤ b ∧ b ≤ 7 := by omega
      rcases h a z.1 z.2 with ⟨q1, q2⟩ | ⟨q1, q2, q3, q4⟩ | ⟨q1, q2, q3, q4, -⟩
      · exact ⟨-11, sg_X_taken (d := 39) ⟨_, c_S_has (by decide), ite_b (fun t => absurd z t) (fun _ => ⟨_, c_P_isKind (by decide), ite_bn (fun _ => ⟨_, sg_S_isEmpty (d := 38) ⟨_, c_S_has (by decide), ite_b (fun t => absurd z t) (fun _ => ⟨z, ite_i (fun t => absurd q1 t) (fun _ => rfl)⟩)⟩, ite_i (fun t => absurd t (by decide)) (fun _ => rfl)⟩) (fun t => absurd y t)⟩)⟩, sg_M_taken (d := 39) ⟨_, c_M_isShelf (by decide), ite_b (fun t => absurd z t) (fun _ => ⟨_, c_M_within (by decide), ite_bn (fun _ => ⟨z, ite_i (fun t => absurd q2 t) (fun _ => rfl)⟩) (fun t => absurd y7 t)⟩)⟩⟩
      · obtain ⟨k1, k2, k3⟩ := n4 (M 51 a) q3 q4
        obtain ⟨l, hl⟩ : ∃ l : Nat, M 82 (M 51 a) = l := ⟨(M 82 (M 51 a)).toNat, by omega⟩
        obtain ⟨v, hx, hm⟩ := under_two (M := M) (w1 := (0, (l : Int))) (v0 := (2, 64)) (v1 := (0, a)) (k := (l : Int)) y 3 l 0 (by omega) (rk_3 l (by omega)) (by decide)
        refine ⟨if v = 0 then -12 else (l : Int), sg_X_taken (d := 39) ⟨_, c_S_has (by decide), ite_b (fun t => absurd z t) (fun _ => ⟨_, c_P_isKind (by decide), ite_bn (fun _ => ⟨_, sg_S_isEmpty (d := 38) ⟨_, c_S_has (by decide), ite_b (fun t => absurd z t) (fun _ => ⟨z, ite_i (fun _ => rfl) (fun t => absurd (by omega) t)⟩)⟩, ite_i (fun _ => ⟨_, sg_S_bodyOn (d := 38) ⟨_, c_S_has (by decide), ite_b (fun t => absurd z t) (fun _ => ⟨z, ite_i (fun t => absurd q1 t) (fun _ => ⟨z, rfl⟩)⟩)⟩, (l : Int), sg_P_kindOf (d := 38) ⟨_, c_P_has (by decide), ite_b (fun t => absurd (by omega) t) (fun _ => ⟨⟨q3, by omega⟩, by rw [k1, hl]⟩)⟩, _, sg_P_isUnder (d := 38) hx, ?_⟩) (fun t => absurd rfl t)⟩) (fun t => absurd y t)⟩)⟩, sg_M_taken (d := 39) ⟨_, c_M_isShelf (by decide), ite_b (fun t => absurd z t) (fun _ => ⟨_, c_M_within (by decide), ite_bn (fun _ => ⟨z, ite_i (fun _ => ⟨_, c_M_isRow z, ite_b (fun _ => ⟨z, ?_⟩) (fun t => absurd t (by omega))⟩) (fun t => absurd t (by omega))⟩) (fun t => absurd y7 t)⟩)⟩⟩
        · refine ite_i (fun t => ?_) (fun t => ?_)
          · rw [if_pos t]
          · rw [if_neg t]
        · rw [q2, w32_i (x := 10 + M 51 a - 10) (by omega) (by omega), show 10 + M 51 a - 10 = M 51 a by omega, hl]
          exact ⟨⟨q3, by omega⟩, hm⟩
      · refine ⟨-12, sg_X_taken (d := 39) ⟨_, c_S_has (by decide), ite_b (fun t => absurd z t) (fun _ => ⟨_, c_P_isKind (by decide), ite_bn (fun _ => ⟨_, sg_S_isEmpty (d := 38) ⟨_, c_S_has (by decide), ite_b (fun t => absurd z t) (fun _ => ⟨z, ite_i (fun _ => rfl) (fun t => absurd (by omega) t)⟩)⟩, ite_i (fun _ => ⟨_, sg_S_bodyOn (d := 38) ⟨_, c_S_has (by decide), ite_b (fun t => absurd z t) (fun _ => ⟨z, ite_i (fun _ => rfl) (fun t => absurd (by omega) t)⟩)⟩, -1, sg_P_kindOf (d := 38) ⟨_, c_P_has (by decide), ite_b (fun _ => rfl) (fun t => absurd t.1 (by decide))⟩, 0, sg_P_isUnder (d := 38) (sg_P_isUnder_4 (ite_i (fun t => absurd t (by decide)) (fun _ => ⟨_, c_P_isKind (by decide), ite_b (fun _ => rfl) (fun t => absurd t.1 (by decide))⟩))), ite_i (fun _ => rfl) (fun t => absurd rfl t)⟩) (fun t => absurd rfl t)⟩) (fun t => absurd y t)⟩)⟩, sg_M_taken (d := 39) ⟨_, c_M_isShelf (by decide), ite_b (fun t => absurd z t) (fun _ => ⟨_, c_M_within (by decide), ite_bn (fun _ => ⟨z, ite_i (fun _ => ⟨_, c_M_isRow z, ite_b (fun t => absurd (by omega) t) (fun _ => rfl)⟩) (fun t => absurd t (by omega))⟩) (fun t => absurd y7 t)⟩)⟩⟩
    · exact ⟨-1, sg_X_taken (d := 39) ⟨_, c_S_has (by decide), ite_b (fun _ => rfl) (fun _ => ⟨_, c_P_isKind (by decide), ite_bn (fun t => absurd t y) (fun _ => rfl)⟩)⟩, sg_M_taken (d := 39) ⟨_, c_M_isShelf (by decide), ite_b (fun _ => rfl) (fun _ => ⟨_, c_M_within (by decide), ite_bn (fun t => absurd ⟨t.1, by omega⟩ y) (fun _ => rfl)⟩)⟩⟩
  · exact ⟨-1, sg_X_taken (d := 39) ⟨_, c_S_has (by decide), ite_b (fun _ => rfl) (fun t => absurd t z)⟩, sg_M_taken (d := 39) ⟨_, c_M_isShelf (by decide), ite_b (fun _ => rfl) (fun t => absurd t z)⟩⟩
end P22
