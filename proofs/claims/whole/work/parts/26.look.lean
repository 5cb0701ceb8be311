/-! promises look and oneMan, and the finger half of same -/
section P11
variable {M : Mem} {a b c m x : Int}
theorem pr_look (h1 : R1 M) (h3 : R3 M) (hb : c32 b) : Bo m_X_look m_M_look [(0, a), (0, b)] M := by
  have e1 := h1.1; have e2 := h1.2.1; have e3 := h1.2.2.1
  by_cases z : 0 ≤ a ∧ a < M 64 0
  · by_cases w : 0 ≤ b ∧ b ≤ 1
    · let P : Nat → Bool := fun c => decide (¬ (c : Int) = a ∧ iand (iand (ixor (M 28 (c : Int)) (M 28 a)) (ixor (M 29 (c : Int)) (-1))) (ixor (M 29 a) (-1)) = 0)
      refine ⟨if ¬ b = 0 then setB P (M 64 0).toNat else bc (setB P (M 64 0).toNat), sg_X_look (d := 39) ⟨_, c_C_has (by decide), ite_b (fun q => absurd ((has_iff h1).mpr z) q) (fun _ => ite_i (fun q => absurd q (by omega)) (fun _ => ite_i (fun _ => ?_) (fun q => absurd w.2 q)))⟩, sg_M_look (d := 39) ⟨_, c_M_isCard h1 (by decide), ite_b (fun q => absurd z q) (fun _ => ⟨_, c_M_within (by decide), ite_bn (fun _ => ?_) (fun q => absurd w q)⟩)⟩⟩
      · refine loop_up (fun v i => at_X_look_16 39 a b v i M _) (setB P) (M 64 0).toNat ?_ ?_
        · refine sg_X_look_16 (ite_i (fun _ => ite_i (fun q => ?_) (fun q => ⟨_, c_J_bitCount (by decide), ?_⟩)) (fun q => absurd (by omega) q))
          · rw [if_pos q]
          · rw [if_neg q]
        · intro k hk ih
          refine sg_X_look_16 (ite_i (fun q => absurd q (by omega)) (fun _ => ?_))
          rw [w32_k (by omega)]
          refine ite_i (fun q => ?_) (fun q => ⟨_, c_C_shareDrawer h1 (by omega) (by omega) z.1 z.2 (by decide), ite_b (fun z2 => ?_) (fun z2 => ?_)⟩)
          · rw [setB_f (dec_f (fun y => y.1 q))] at ih; exact ih
          · rw [setB_f (dec_f (fun y => z2 y.2))] at ih; exact ih
          · rw [setB_t (dec_t ⟨q, z2⟩)] at ih; exact ih
      · refine loop_up (fun v i => ∀ w, at_M_look_15 39 a b v i w M _) (setB P) (M 64 0).toNat ?_ ?_ _
        · refine fun w => sg_M_look_15 (ite_i (fun _ => ite_i (fun q => ?_) (fun q => ⟨_, c_J_bitCount (by decide), ?_⟩)) (fun q => absurd (by omega) q))
          · rw [if_pos q]
          · rw [if_neg q]
        · intro k hk ih w
          have sh := share_eq (h3.dis (c := (k : Int)) (by omega) (by omega)) (h3.dis z.1 z.2)
          refine sg_M_look_15 (ite_i (fun q => absurd q (by omega)) (fun _ => ?_))
          rw [w32_k (by omega)]
          refine ⟨_, c_M_bits0 h1 h3 (by omega) (by omega) (by decide), _, c_M_bits1 h1 h3 z.1 z.2 (by decide), ite_i (fun y1 => ?_) (fun y1 => ⟨_, c_M_bits0 h1 h3 z.1 z.2 (by decide), _, c_M_bits1 h1 h3 (by omega) (by omega) (by decide), ite_i (fun y2 => ?_) (fun y2 => ite_i (fun q => ?_) (fun q => ?_))⟩)⟩
          · rw [setB_f (dec_f (fun y => y1 (sh.mpr y.2).1))] at ih
            exact ite_i (fun _ => ih _) (fun _ => ih _)
          · rw [setB_f (dec_f (fun y => y2 (sh.mpr y.2).2))] at ih
            exact ite_i (fun _ => ih _) (fun _ => ih _)
          · rw [setB_f (dec_f (fun y => y.1 q))] at ih; exact ih _
          · rw [setB_t (dec_t ⟨q, sh.mp ⟨Classical.not_not.mp y1, Classical.not_not.mp y2⟩⟩)] at ih; exact ih _
    · exact ⟨-1, sg_X_look (d := 39) ⟨_, c_C_has (by decide), ite_b (fun _ => rfl) (fun _ => ite_i (fun _ => rfl) (fun q => ite_i (fun q2 => absurd ⟨by omega, q2⟩ w) (fun _ => rfl)))⟩, sg_M_look (d := 39) ⟨_, c_M_isCard h1 (by decide), ite_b (fun _ => rfl) (fun _ => ⟨_, c_M_within (by decide), ite_bn (fun q => absurd q w) (fun _ => rfl)⟩)⟩⟩
  · exact ⟨-1, sg_X_look (d := 39) ⟨_, c_C_has (by decide), ite_b (fun _ => rfl) (fun q => absurd ((has_iff h1).mp q) z)⟩, sg_M_look (d := 39) ⟨_, c_M_isCard h1 (by decide), ite_b (fun _ => rfl) (fun q => absurd q z)⟩⟩
theorem sameF (h1 : R1 M) (h2 : R2 M) (a0 : 0 ≤ a) (an : a < M 64 0) (c0 : 0 ≤ c) (cn : c < M 64 0) : ∃ v u : Int, Cl 39 m_X_likeFingers [(2, 0), (0, a), (0, c)] M (rI v M) ∧ Cl 39 m_M_sameFingers [(2, 64), (0, a), (0, c)] M (rI u M) ∧ u = bc v ∧ (v = 1023 ↔ 10 ≤ u) :=
  ⟨_, _, c_X_likeFingers h1 h2 a0 an c0 cn (by decide), c_M_sameFingers h1 h2 a0 an c0 cn (by decide), (bc_setB10 _).symm, setB_1023 _⟩
theorem man_in (h1 : R1 M) (h2 : R2 M) {p k : Int} (k0 : 0 ≤ k) (kn : k < M 64 0)
    (out : ∀ l2 l3 : Int, 0 ≤ l2 → l2 ≤ 20 * k + 12 → (l2 = 0 ↔ l3 = -2) → ∃ v, (∀ w, at_X_oneMan_13 39 p l2 l3 (k + 1) w M (rI v M)) ∧ (∀ w, at_M_oneMan_13 39 p l2 l3 (k + 1) w M (rI v M))) :
    ∀ (j : Nat) (l l2 l3 : Int), l + j = M 64 0 → k < l → 0 ≤ l2 → l2 ≤ 20 * k + l → (l2 = 0 ↔ l3 = -2) → ∃ v, at_X_oneMan_22 39 p l2 l3 k l M (rI v M) ∧ at_M_oneMan_21 39 p l2 l3 k l M (rI v M)
  | 0, l, l2, l3, hl, kl, i1, i2, i3 => by
    have e1 := h1.1; have e3 := h1.2.2.1
    obtain ⟨v, hx, hm⟩ := out l2 l3 i1 (by omega) i3
    refine ⟨v, sg_X_oneMan_22 (ite_i (fun _ => ?_) (fun q => absurd (by omega) q)), sg_M_oneMan_21 (ite_i (fun _ => ?_) (fun q => absurd (by omega) q))⟩
    · rw [w32_i (by omega) (by omega)]; exact hx _
    · rw [w32_i (by omega) (by omega)]; exact hm _
  | j + 1, l, l2, l3, hl, kl, i1, i2, i3 => by
    have e1 := h1.1; have e3 := h1.2.2.1
    obtain ⟨f, u, fx, fm, -, fu⟩ := sameF h1 h2 k0 kn (a := k) (c := l) (by omega) (by omega)
    have w1 : w32 (l + 1) = l + 1 := w32_i (by omega) (by omega)
    have w2 : w32 (l2 + 1) = l2 + 1 := w32_i (by omega) (by omega)
    have w3 : w32 ((w32 (20 * k)) + l) = 20 * k + l := by rw [w32_i (x := 20 * k) (by omega) (by omega), w32_i (by omega) (by omega)]
    by_cases q : f = 1023
    · by_cases q2 : l2 = 0
      · obtain ⟨v, hx, hm⟩ := man_in h1 h2 k0 kn out j (l + 1) (l2 + 1) (20 * k + l) (by omega) (by omega) (by omega) (by omega) (by omega)
        refine ⟨v, sg_X_oneMan_22 (ite_i (fun q => absurd q (by omega)) (fun _ => ⟨_, fx, ite_i (fun z => absurd q z) (fun _ => ite_i (fun z => absurd q2 z) (fun _ => ?_))⟩)), sg_M_oneMan_21 (ite_i (fun q => absurd q (by omega)) (fun _ => ⟨_, fm, ite_i (fun _ => ite_i (fun z => absurd (i3.mp q2) z) (fun _ => ?_)) (fun z => absurd (fu.mp q) z)⟩))⟩
        · rw [w1, w2, w3]; exact hx
        · rw [w1, w2, w3]; exact hm
      · obtain ⟨v, hx, hm⟩ := man_in h1 h2 k0 kn out j (l + 1) (l2 + 1) l3 (by omega) (by omega) (by omega) (by omega) (by omega)
        refine ⟨v, sg_X_oneMan_22 (ite_i (fun q => absurd q (by omega)) (fun _ => ⟨_, fx, ite_i (fun z => absurd q z) (fun _ => ite_i (fun _ => ?_) (fun z => z.elim q2))⟩)), sg_M_oneMan_21 (ite_i (fun q => absurd q (by omega)) (fun _ => ⟨_, fm, ite_i (fun _ => ite_i (fun _ => ?_) (fun z => z.elim (fun y => q2 (i3.mpr y)))) (fun z => absurd (fu.mp q) z)⟩))⟩
        · rw [w1, w2]; exact hx
        · rw [w1, w2]; exact hm
    · obtain ⟨v, hx, hm⟩ := man_in h1 h2 k0 kn out j (l + 1) l2 l3 (by omega) (by omega) (by omega) (by omega) i3
      refine ⟨v, sg_X_oneMan_22 (ite_i (fun q => absurd q (by omega)) (fun _ => ⟨_, fx, ite_i (fun _ => ?_) (fun z => z.elim q)⟩)), sg_M_oneMan_21 (ite_i (fun q => absurd q (by omega)) (fun _ => ⟨_, fm, ite_i (fun z => absurd (fu.mpr z) q) (fun _ => ?_)⟩))⟩
      · rw [w1]; exact hx
      · rw [w1]; exact hm
theorem man_out (h1 : R1 M) (h2 : R2 M) {p : Int} : ∀ (j : Nat) (k l2 l3 : Int), k + j = M 64 0 → 0 ≤ k → 0 ≤ l2 → l2 ≤ 20 * k → (l2 = 0 ↔ l3 = -2) → ∃ v, (∀ w, at_X_oneMan_13 39 p l2 l3 k w M (rI v M)) ∧ (∀ w, at_M_oneMan_13 39 p l2 l3 k w M (rI v M))
  | 0, k, l2, l3, hk, k0, i1, i2, i3 => by
    have e1 := h1.1
    refine ⟨if ¬ p = 0 then l3 else l2, fun w => sg_X_oneMan_13 (ite_i (fun _ => ite_i (fun q => ?_) (fun q => ?_)) (fun q => absurd (by omega) q)), fun w => sg_M_oneMan_13 (ite_i (fun _ => ite_i (fun q => ?_) (fun q => ?_)) (fun q => absurd (by omega) q))⟩
    · rw [if_pos q]
    · rw [if_neg q]
    · rw [if_pos q]
    · rw [if_neg q]
  | j + 1, k, l2, l3, hk, k0, i1, i2, i3 => by
    have e1 := h1.1; have e3 := h1.2.2.1
    obtain ⟨v, hx, hm⟩ := man_in h1 h2 (p := p) (k := k) k0 (by omega) (fun l2 l3 y1 y2 y3 => man_out h1 h2 j (k + 1) l2 l3 (by omega) (by omega) y1 (by omega) y3) j (k + 1) l2 l3 (by omega) (by omega) i1 (by omega) i3
    have w1 : w32 (k + 1) = k + 1 := w32_i (by omega) (by omega)
    refine ⟨v, fun w => sg_X_oneMan_13 (ite_i (fun q => absurd q (by omega)) (fun _ => ?_)), fun w => sg_M_oneMan_13 (ite_i (fun q => absurd q (by omega)) (fun _ => ?_))⟩
    · rw [w1]; exact hx
    · rw [w1]; exact hm
theorem pr_oneMan (h1 : R1 M) (h2 : R2 M) : Bo m_X_oneMan m_M_oneMan [(0, a)] M := by
  have e2 := h1.2.1
  by_cases z : 0 ≤ a ∧ a ≤ 1
  · obtain ⟨v, hx, hm⟩ := man_out h1 h2 (p := a) (M 64 0).toNat 0 0 (-2) (by omega) (by decide) (by decide) (by decide) (by decide)
    exact ⟨v, sg_X_oneMan (d := 39) (ite_i (fun q => absurd q (by omega)) (fun _ => ite_i (fun _ => hx _) (fun q => absurd z.2 q))), sg_M_oneMan (d := 39) ⟨_, c_M_within (by decide), ite_bn (fun _ => hm _) (fun q => absurd z q)⟩⟩
  · exact ⟨-1, sg_X_oneMan (d := 39) (ite_i (fun _ => rfl) (fun q => ite_i (fun q2 => absurd ⟨by omega, q2⟩ z) (fun _ => rfl))), sg_M_oneMan (d := 39) ⟨_, c_M_within (by decide), ite_bn (fun q => absurd q z) (fun _ => rfl)⟩⟩
end P11
