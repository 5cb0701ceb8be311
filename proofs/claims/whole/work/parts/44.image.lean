/-! promises image, back -/
theorem cpy_n {M : Mem} {a b c : Nat} {i j n q : Int} (h : ¬ (c = b ∧ j ≤ q ∧ q < j + n)) : cpy M a b i j n c q = M c q := if_neg h
theorem cpy_i {M : Mem} {a b : Nat} {i j n q : Int} (h : j ≤ q) (h2 : q < j + n) : cpy M a b i j n b q = M a (i + (q - j)) := if_pos ⟨rfl, h, h2⟩
section P28
variable {M N : Mem} {a b c j n p s u v x y : Int}
theorem pk_image (i : INV M) : Pk m_X_image m_M_image [] M := by
  obtain ⟨e1, e2, e3, -⟩ := i.1
  have r9 := i.2.2.2.2.2.2.2.1
  have r10 := i.2.2.2.2.2.2.2.2.1
  obtain ⟨B, hB⟩ : ∃ B, B = up (up (cpy (cpy M 43 44 0 0 5) 30 45 0 0 12) 42 3 ((cpy (cpy M 43 44 0 0 5) 30 45 0 0 12) 1 5)) 42 4 1 := ⟨_, rfl⟩
  have bM : ∀ (o : Nat) (k : Int), ¬ o = 44 → ¬ o = 45 → ¬ (o = 42 ∧ (k = 3 ∨ k = 4)) → B o k = M o k := fun o k h1 h2 h3 => by
    rw [hB, up_n (by omega), up_n (by omega), cpy_n (by omega), cpy_n (by omega)]
  have b42 : B 42 3 = M 64 0 := by rw [hB, up_n (by omega), up_eq, cpy_n (by omega), cpy_n (by omega), e1]
  have b42b : B 42 4 = 1 := by rw [hB, up_eq]
  have b44 : ∀ k : Int, 0 ≤ k → k < 5 → B 44 k = M 43 k := fun k k0 k5 => by
    rw [hB, up_n (by omega), up_n (by omega), cpy_n (by omega), cpy_i (by omega) (by omega)]
    exact congrArg (M 43) (by omega)
  have b45 : ∀ k : Int, 0 ≤ k → k < 12 → B 45 k = M 30 k := fun k k0 k5 => by
    rw [hB, up_n (by omega), up_n (by omega), cpy_i (by omega) (by omega), cpy_n (by omega)]
    exact congrArg (M 30) (by omega)
  have hx : Cl 40 m_X_image [(2, 0)] M (rI (M 78 2) B) := sg_X_image (d := 39) ⟨B, sg_D_keepImage (d := 38) (by rw [hB]), by rw [bM 43 2 (by decide) (by decide) (by decide), r9 2 (by decide) (by decide)]⟩
  obtain ⟨C, hC⟩ : ∃ C, C = up (up B 64 23 1) 64 25 (M 64 0) := ⟨_, rfl⟩
  obtain ⟨D, hD⟩ : ∃ D, D = fil C 79 0 (fun k => M 67 k) 12 := ⟨_, rfl⟩
  obtain ⟨E, hE⟩ : ∃ E, E = fil D 80 0 (fun k => M 78 k) 5 := ⟨_, rfl⟩
  have eM : ∀ (o : Nat) (k : Int), ¬ o = 44 → ¬ o = 45 → ¬ (o = 42 ∧ (k = 3 ∨ k = 4)) → ¬ (o = 64 ∧ (k = 23 ∨ k = 25)) → ¬ o = 79 → ¬ o = 80 → E o k = M o k := fun o k h1 h2 h3 h4 h5 h6 => by
    rw [hE, fil_n (by omega), hD, fil_n (by omega), hC, up_n (by omega), up_n (by omega), bM o k h1 h2 h3]
  have hm : Cl 40 m_M_image [(2, 64)] B (rI (M 78 2) E) := by
    refine sg_M_image (d := 39) ?_
    rw [up_n (b := 64) (j := 0) (by omega), bM 64 0 (by decide) (by decide) (by decide), ← hC]
    have l2 := loop_up (fun Mx k => at_M_image_24 39 k Mx (rI (M 78 2) E)) (fil D 80 0 (fun k => M 78 k)) 5 (sg_M_image_24 (ite_i (fun _ => by rw [← hE, eM 78 2 (by decide) (by decide) (by decide) (by decide) (by decide) (by decide)]) (fun t => absurd (by decide) t))) (fun k hk ih => sg_M_image_24 (ite_i (fun t => absurd t (by omega)) (fun _ => ⟨⟨by omega, by omega⟩, ⟨by omega, by omega⟩, by rw [w32_k (by omega), fil_s (by omega) (by rw [fil_n (by omega), hD, fil_n (by omega), hC, up_n (by omega), up_n (by omega), bM 78 _ (by omega) (by omega) (by omega)])]; exact ih⟩)))
    rw [fil_0] at l2
    have l1 := loop_up (fun Mx k => at_M_image_9 39 k Mx (rI (M 78 2) E)) (fil C 79 0 (fun k => M 67 k)) 12 (sg_M_image_9 (ite_i (fun _ => by rw [← hD]; exact l2) (fun t => absurd (by decide) t))) (fun k hk ih => sg_M_image_9 (ite_i (fun t => absurd t (by omega)) (fun _ => ⟨⟨by omega, by omega⟩, ⟨by omega, by omega⟩, by rw [w32_k (by omega), fil_s (by omega) (by rw [fil_n (by omega), hC, up_n (by omega), up_n (by omega), bM 67 _ (by omega) (by omega) (by omega)])]; exact ih⟩)))
    rw [fil_0] at l1
    exact l1
  refine Pk.of hx hm (i.deeds (fun o k q => eM o k (fun t => q (by unfold TD; omega)) (fun t => q (by unfold TD; omega)) (fun t => q (by unfold TD; omega)) (fun t => q (by unfold TD; omega)) (fun t => q (by unfold TD; omega)) (fun t => q (by unfold TD; omega))) (i.2.2.2.1.ag fun o k q => by unfold K4 at q; exact eM o k (by omega) (by omega) (by omega) (by omega) (by omega) (by omega)) (r9.ag fun o k q => by unfold K9 at q; exact eM o k (by omega) (by omega) (by omega) (by omega) (by omega) (by omega)) ?_)
  have c1 : E 42 4 = 1 := by rw [hE, fil_n (by omega), hD, fil_n (by omega), hC, up_n (by omega), up_n (by omega), b42b]
  have c2 : E 42 3 = M 64 0 := by rw [hE, fil_n (by omega), hD, fil_n (by omega), hC, up_n (by omega), up_n (by omega), b42]
  have c3 : E 64 23 = 1 := by rw [hE, fil_n (by omega), hD, fil_n (by omega), hC, up_n (by omega), up_eq]
  have c4 : E 64 25 = M 64 0 := by rw [hE, fil_n (by omega), hD, fil_n (by omega), hC, up_eq]
  unfold R10
  rw [c1, c2, c3, c4, eM 64 0 (by decide) (by decide) (by decide) (by decide) (by decide) (by decide)]
  refine ⟨rfl, Or.inr ⟨rfl, rfl, e2, Int.le_refl _, fun k k0 k5 => ?_, fun k k0 k1 => ?_⟩⟩
  · rw [hE, fil_n (by omega), fil_i (by omega) (by omega), hD, fil_n (by omega), hC, up_n (by omega), up_n (by omega), b44 k k0 k5, r9 k k0 k5]
  · rw [show E 79 k = M 67 k by rw [hE, fil_n (by omega), hD, fil_i (by omega) (by omega)], show E 45 k = M 30 k by rw [hE, fil_n (by omega), hD, fil_n (by omega), hC, up_n (by omega), up_n (by omega), b45 k k0 (by omega)]]
    exact i.2.2.2.1 k k0 k1
theorem pk_back (i : INV M) : Pk m_X_back m_M_back [] M := by
  obtain ⟨e1, e2, e3, -⟩ := i.1
  have r4 := i.2.2.2.1
  have r9 := i.2.2.2.2.2.2.2.1
  have r10 := i.2.2.2.2.2.2.2.2.1
  obtain ⟨q0, q1⟩ := r10
  rcases q1 with q1 | ⟨q1, q2, q3, q4, q5, q6⟩
  · exact Pk.of (v := -5) (sg_X_back (d := 39) (ite_i (fun t => absurd (by rw [q0, q1]) t) (fun _ => rfl))) (sg_M_back (d := 39) (ite_i (fun t => absurd q1 t) (fun _ => rfl))) i
  · obtain ⟨A, hA⟩ : ∃ A, A = cpy M 44 43 0 0 5 := ⟨_, rfl⟩
    obtain ⟨B, hB⟩ : ∃ B, B = fil A 30 0 (fun c => if M 64 25 ≤ c then -2000000000 else M 45 c) 12 := ⟨_, rfl⟩
    have bM : ∀ (o : Nat) (k : Int), ¬ o = 43 → ¬ o = 30 → B o k = M o k := fun o k h1 h2 => by
      rw [hB, fil_n (by omega), hA, cpy_n (by omega)]
    have b43 : ∀ k : Int, 0 ≤ k → k < 5 → B 43 k = M 80 k := fun k k0 k5 => by
      rw [hB, fil_n (by omega), hA, cpy_i (by omega) (by omega), ← q5 k k0 k5]
      exact congrArg (M 44) (by omega)
    have hx : Cl 40 m_X_back [(2, 0)] M (rI (M 80 2) B) := by
      refine sg_X_back (d := 39) (ite_i (fun _ => ⟨B, sg_D_layBack (d := 38) ?_, by rw [b43 2 (by decide) (by decide)]⟩) (fun t => absurd (by omega) t))
      rw [← hA]
      have l1 := loop_up (fun Mx k => at_D_layBack_10 38 k Mx (rV B)) (fil A 30 0 (fun c => if M 64 25 ≤ c then -2000000000 else M 45 c)) 12 (sg_D_layBack_10 (ite_i (fun _ => by rw [hB]) (fun t => absurd (by decide) t))) (fun k hk ih => sg_D_layBack_10 (ite_i (fun t => absurd t (by omega)) (fun _ => by
        have a42 : fil A 30 0 (fun c => if M 64 25 ≤ c then -2000000000 else M 45 c) k 42 3 = M 64 25 := by rw [fil_n (by omega), hA, cpy_n (by omega), q2]
        rw [a42, w32_k (by omega)]
        refine ite_i (fun t => ⟨⟨by omega, by omega⟩, ?_⟩) (fun t => ⟨⟨by omega, by omega⟩, ⟨by omega, by omega⟩, ?_⟩)
        · rw [fil_s (by omega) (by rw [if_pos t])]; exact ih
        · rw [fil_s (by omega) (by rw [if_neg t, fil_n (by omega), hA, cpy_n (by omega)])]; exact ih)))
      rw [fil_0] at l1
      exact l1
    obtain ⟨D, hD⟩ : ∃ D, D = fil B 67 0 (fun c => if M 64 25 ≤ c then -2000000000 else M 79 c) 12 := ⟨_, rfl⟩
    obtain ⟨E, hE⟩ : ∃ E, E = fil D 78 0 (fun k => M 80 k) 5 := ⟨_, rfl⟩
    have eM : ∀ (o : Nat) (k : Int), ¬ o = 43 → ¬ o = 30 → ¬ o = 67 → ¬ o = 78 → E o k = M o k := fun o k h1 h2 h3 h4 => by
      rw [hE, fil_n (by omega), hD, fil_n (by omega), bM o k h1 h2]
    have hm : Cl 40 m_M_back [(2, 64)] B (rI (M 80 2) E) := by
      refine sg_M_back (d := 39) (ite_i (fun _ => ?_) (fun t => absurd (by rw [bM 64 23 (by decide) (by decide)]; omega) t))
      have l2 := loop_up (fun Mx k => at_M_back_28 39 k Mx (rI (M 80 2) E)) (fil D 78 0 (fun k => M 80 k)) 5 (sg_M_back_28 (ite_i (fun _ => by rw [fil_i (by decide) (by decide), hE]) (fun t => absurd (by decide) t))) (fun k hk ih => sg_M_back_28 (ite_i (fun t => absurd t (by omega)) (fun _ => ⟨⟨by omega, by omega⟩, ⟨by omega, by omega⟩, by rw [w32_k (by omega), fil_s (by omega) (by rw [fil_n (by omega), hD, fil_n (by omega), bM 80 _ (by decide) (by decide)])]; exact ih⟩)))
      rw [fil_0] at l2
      have l1 := loop_up (fun Mx k => at_M_back_7 39 k Mx (rI (M 80 2) E)) (fil B 67 0 (fun c => if M 64 25 ≤ c then -2000000000 else M 79 c)) 12 (sg_M_back_7 (ite_i (fun _ => by rw [← hD]; exact l2) (fun t => absurd (by decide) t))) (fun k hk ih => sg_M_back_7 (ite_i (fun t => absurd t (by omega)) (fun _ => by
        have a64 : fil B 67 0 (fun c => if M 64 25 ≤ c then -2000000000 else M 79 c) k 64 25 = M 64 25 := by rw [fil_n (by omega), bM 64 25 (by decide) (by decide)]
        rw [a64, w32_k (by omega)]
        refine ite_i (fun t => ⟨⟨by omega, by omega⟩, ?_⟩) (fun t => ⟨⟨by omega, by omega⟩, ⟨by omega, by omega⟩, ?_⟩)
        · rw [fil_s (by omega) (by rw [if_pos t])]; exact ih
        · rw [fil_s (by omega) (by rw [if_neg t, fil_n (by omega), bM 79 _ (by decide) (by decide)])]; exact ih)))
      rw [fil_0] at l1
      exact l1
    refine Pk.of hx hm (i.deeds (fun o k q => eM o k (fun t => q (by unfold TD; omega)) (fun t => q (by unfold TD; omega)) (fun t => q (by unfold TD; omega)) (fun t => q (by unfold TD; omega))) ?_ ?_ (i.2.2.2.2.2.2.2.2.1.ag fun o k q => by unfold K10 at q; exact eM o k (by omega) (by omega) (by omega) (by omega)))
    · intro c c0 cn
      rw [eM 64 0 (by decide) (by decide) (by decide) (by decide)] at cn
      rw [show E 30 c = (if M 64 25 ≤ c then -2000000000 else M 45 c) by rw [hE, fil_n (by omega), hD, fil_n (by omega), hB, fil_i (by omega) (by omega)], show E 67 c = (if M 64 25 ≤ c then -2000000000 else M 79 c) by rw [hE, fil_n (by omega), hD, fil_i (by omega) (by omega)]]
      by_cases t : M 64 25 ≤ c
      · rw [if_pos t, if_pos t]; exact ⟨rfl, Or.inl rfl⟩
      · rw [if_neg t, if_neg t]; exact q6 c c0 (by omega)
    · intro k k0 k5
      rw [show E 43 k = M 80 k by rw [hE, fil_n (by omega), hD, fil_n (by omega), b43 k k0 k5], show E 78 k = M 80 k by rw [hE, fil_i (by omega) (by omega)]]
end P28
