/-! promises 9 to 14: class and reference answer alike -/
def R4 (M : Mem) : Prop := ∀ c : Int, 0 ≤ c → c < M 64 0 → M 30 c = M 67 c ∧ (M 67 c = -2000000000 ∨ (0 ≤ M 67 c ∧ M 67 c < 1024))
/-- both give v, nothing is written -/
def Bo (x y : Nat) (as : List AV) (M : Mem) : Prop := ∃ v : Int, Cl 40 x ((2, 0) :: as) M (rI v M) ∧ Cl 40 y ((2, 64) :: as) M (rI v M)
theorem cntB_or {P Q : Nat → Bool} : ∀ (k : Nat), (∀ i, i < k → ¬ (P i = true ∧ Q i = true)) → cntB (fun i => P i || Q i) k = cntB P k + cntB Q k
  | 0, _ => rfl
  | k + 1, h => by
    have ih := cntB_or (P := P) (Q := Q) k (fun i hi => h i (by omega))
    have hk := h k (by omega)
    unfold cntB
    rw [ih]
    cases hp : P k <;> cases hq : Q k <;> simp [hp, hq] at hk ⊢ <;> omega
theorem bc_or {S O : Int} (hS : 0 ≤ S ∧ S < 1024) (hO : 0 ≤ O ∧ O < 1024) (hSO : 0 ≤ ior S O ∧ ior S O < 1024) (hd : ∀ i, i < 32 → ¬ (bt S i = true ∧ bt O i = true)) : bc (ior S O) = bc S + bc O ∧ 0 ≤ bc S ∧ bc S ≤ 10 ∧ 0 ≤ bc O ∧ bc O ≤ 10 := by
  have key : ∀ x : Int, 0 ≤ x ∧ x < 1024 → bc x = cntB (fun i => bt x i) 10 := fun x hx => by
    obtain ⟨n, rfl⟩ : ∃ n : Nat, x = n := ⟨x.toNat, by omega⟩
    exact bc_10 n (by omega)
  have l1 := cntB_le (bt S) 10
  have l2 := cntB_le (bt O) 10
  rw [key _ hS, key _ hO, key _ hSO]
  have e : cntB (fun i => bt (ior S O) i) 10 = cntB (fun i => bt S i || bt O i) 10 := cntB_congr (fun j _ => bt_or S O j)
  rw [e, cntB_or 10 (fun i hi => hd i (by omega))]
  change cntB (bt S) 10 + cntB (bt O) 10 = cntB (bt S) 10 + cntB (bt O) 10 ∧ 0 ≤ cntB (bt S) 10 ∧ cntB (bt S) 10 ≤ 10 ∧ 0 ≤ cntB (bt O) 10 ∧ cntB (bt O) 10 ≤ 10
  refine ⟨rfl, ?_, ?_, ?_, ?_⟩ <;> omega
section P9
variable {M : Mem} {a b c x : Int}
theorem has_iff (h1 : R1 M) : (0 ≤ a ∧ a < M 1 5) ↔ (0 ≤ a ∧ a < M 64 0) := by rw [h1.1]
theorem pr_drawer (h1 : R1 M) (h3 : R3 M) : Bo m_X_drawer m_M_drawer [(0, a), (0, b)] M := by
  have e1 := h1.1; have e3 := h1.2.2.1
  by_cases z : 0 ≤ a ∧ a < M 64 0
  · obtain ⟨r1, r2, r3⟩ := h3.rng z.1 z.2
    obtain ⟨b1, b2, b3, b4, b5⟩ := bc_or r1 r2 r3 (h3.dis z.1 z.2)
    have X : ∀ v, (if b = 0 then rI v M = (some (0, M 28 a), M) else (if b = 1 then rI v M = (some (0, ior (M 28 a) (M 29 a)), M) else (if b = 2 then rI v M = rI (ishl 1 (bc (M 29 a))) M else (if b = 3 then rI v M = rI (bc (M 28 a)) M else (if b = 4 then rI v M = rI (bc (ior (M 28 a) (M 29 a))) M else rI v M = rI (-1) M))))) → Cl 40 m_X_drawer [(2, 0), (0, a), (0, b)] M (rI v M) := fun v hv => by
      refine sg_X_drawer (d := 39) ⟨_, c_C_has (by decide), ite_bn (fun _ => ⟨⟨z.1, by omega⟩, ⟨z.1, by omega⟩, ?_⟩) (fun q => absurd ⟨z.1, by omega⟩ q)⟩
      revert hv
      repeat' split
      all_goals first | exact id | exact fun h => ⟨_, c_J_bitCount (by decide), h⟩
    have Y : ∀ v, (if 0 ≤ b ∧ b ≤ 4 then (if b = 0 then rI v M = (some (0, M 28 a), M) else (if b = 1 then rI v M = (some (0, ior (M 28 a) (M 29 a)), M) else (if b = 2 then rI v M = rI (ishl 1 (bc (M 29 a))) M else (if b = 3 then rI v M = rI (bc (M 28 a)) M else rI v M = rI (bc (ior (M 28 a) (M 29 a))) M)))) else rI v M = rI (-1) M) → Cl 40 m_M_drawer [(2, 64), (0, a), (0, b)] M (rI v M) := fun v hv => by
      refine sg_M_drawer (d := 39) ⟨_, c_M_isCard h1 (by decide), ite_b (fun q => absurd z q) (fun _ => ⟨_, c_M_within (by decide), ite_bn (fun q => ⟨_, c_M_bits0 h1 h3 z.1 z.2 (by decide), _, c_M_bits1 h1 h3 z.1 z.2 (by decide), ?_⟩) (fun q => ?_)⟩)⟩
      · rw [if_pos q] at hv
        revert hv
        repeat' split
        all_goals first | exact id | exact fun h => ⟨_, c_J_bitCount (by decide), h⟩ | skip
        exact fun h => ⟨_, c_J_bitCount (by decide), _, c_J_bitCount (by decide), by rw [w32_i (by omega) (by omega), b1, show bc (M 28 a) + bc (M 29 a) - bc (M 28 a) = bc (M 29 a) by omega]; exact h⟩
      · rw [if_neg q] at hv; exact hv
    by_cases q0 : b = 0
    · exact ⟨_, X _ (by rw [if_pos q0]), Y _ (by rw [if_pos (by omega), if_pos q0])⟩
    by_cases q1 : b = 1
    · exact ⟨_, X _ (by rw [if_neg q0, if_pos q1]), Y _ (by rw [if_pos (by omega), if_neg q0, if_pos q1])⟩
    by_cases q2 : b = 2
    · exact ⟨_, X _ (by rw [if_neg q0, if_neg q1, if_pos q2]), Y _ (by rw [if_pos (by omega), if_neg q0, if_neg q1, if_pos q2])⟩
    by_cases q3 : b = 3
    · exact ⟨_, X _ (by rw [if_neg q0, if_neg q1, if_neg q2, if_pos q3]), Y _ (by rw [if_pos (by omega), if_neg q0, if_neg q1, if_neg q2, if_pos q3])⟩
    by_cases q4 : b = 4
    · exact ⟨_, X _ (by rw [if_neg q0, if_neg q1, if_neg q2, if_neg q3, if_pos q4]), Y _ (by rw [if_pos (by omega), if_neg q0, if_neg q1, if_neg q2, if_neg q3])⟩
    · exact ⟨_, X _ (by rw [if_neg q0, if_neg q1, if_neg q2, if_neg q3, if_neg q4]), Y _ (by rw [if_neg (by omega)])⟩
  · refine ⟨-1, sg_X_drawer (d := 39) ⟨_, c_C_has (by decide), ite_bn (fun q => absurd ((has_iff h1).mp q) z) (fun _ => rfl)⟩, sg_M_drawer (d := 39) ⟨_, c_M_isCard h1 (by decide), ite_b (fun _ => rfl) (fun q => absurd q z)⟩⟩
theorem pr_may (h1 : R1 M) (h3 : R3 M) : Bo m_X_may m_M_may [(0, a), (0, b)] M := by
  by_cases z : 0 ≤ a ∧ a < M 64 0
  · by_cases w : 0 ≤ b ∧ b < 1024
    · refine ⟨bI (LIE M a b), sg_X_may (d := 39) ⟨_, c_C_has (by decide), ite_b (fun q => absurd ((has_iff h1).mpr z) q) (fun _ => ⟨_, c_X_isDrawer (by decide), ite_bn (fun _ => ⟨_, c_C_mayLie h1 z.1 z.2 (by decide), _, c_X_truth (by decide), rfl⟩) (fun q => absurd w q)⟩)⟩, sg_M_may (d := 39) ⟨_, c_M_isCard h1 (by decide), ite_b (fun q => absurd z q) (fun _ => ⟨_, c_M_isDrawer (by decide), ite_b (fun q => absurd w q) (fun _ => ⟨_, c_M_isIn h1 h3 z.1 z.2 (by decide), ite_b (fun q => ?_) (fun q => ?_)⟩)⟩)⟩⟩
      · rw [bI_f q]
      · rw [bI_t q]
    · exact ⟨-1, sg_X_may (d := 39) ⟨_, c_C_has (by decide), ite_b (fun q => absurd ((has_iff h1).mpr z) q) (fun _ => ⟨_, c_X_isDrawer (by decide), ite_bn (fun q => absurd q w) (fun _ => rfl)⟩)⟩, sg_M_may (d := 39) ⟨_, c_M_isCard h1 (by decide), ite_b (fun q => absurd z q) (fun _ => ⟨_, c_M_isDrawer (by decide), ite_b (fun _ => rfl) (fun q => absurd q w)⟩)⟩⟩
  · exact ⟨-1, sg_X_may (d := 39) ⟨_, c_C_has (by decide), ite_b (fun _ => rfl) (fun q => absurd ((has_iff h1).mp q) z)⟩, sg_M_may (d := 39) ⟨_, c_M_isCard h1 (by decide), ite_b (fun _ => rfl) (fun q => absurd q z)⟩⟩
theorem pr_misfiled (h1 : R1 M) (h3 : R3 M) (h4 : R4 M) : Bo m_X_misfiled m_M_misfiled [] M := by
  have e1 := h1.1; have e2 := h1.2.1; have e3 := h1.2.2.1
  refine ⟨setB (fun c => decide (¬ M 67 (c : Int) = -2000000000 ∧ ¬ LIE M (c : Int) (M 67 (c : Int)))) (M 64 0).toNat, sg_X_misfiled (d := 39) ?_, sg_M_misfiled (d := 39) ?_⟩
  · refine loop_up (fun v i => ∀ w, at_X_misfiled_4 39 v i w M _) (setB (fun c => decide (¬ M 67 (c : Int) = -2000000000 ∧ ¬ LIE M (c : Int) (M 67 (c : Int))))) (M 64 0).toNat ?_ ?_ _
    · exact fun w => sg_X_misfiled_4 (ite_i (fun _ => rfl) (fun q => absurd (by omega) q))
    · intro k hk ih w
      obtain ⟨f1, f2⟩ := h4 k (by omega) (by omega)
      refine sg_X_misfiled_4 (ite_i (fun q => absurd q (by omega)) (fun _ => ?_))
      rw [w32_k (by omega), f1]
      refine ⟨⟨by omega, by omega⟩, _, c_X_isDrawer (by decide), ite_b (fun z => ?_) (fun z => ⟨_, c_C_mayLie h1 (by omega) (by omega) (by decide), ite_bn (fun z2 => ?_) (fun z2 => ?_)⟩)⟩
      · rw [setB_f (dec_f (fun q => z (by omega)))] at ih; exact ih _
      · rw [setB_f (dec_f (fun q => q.2 z2))] at ih; exact ih _
      · rw [setB_t (dec_t ⟨by omega, z2⟩)] at ih; exact ih _
  · refine loop_up (fun v i => at_M_misfiled_4 39 v i M _) (setB (fun c => decide (¬ M 67 (c : Int) = -2000000000 ∧ ¬ LIE M (c : Int) (M 67 (c : Int))))) (M 64 0).toNat ?_ ?_
    · exact sg_M_misfiled_4 (ite_i (fun _ => rfl) (fun q => absurd (by omega) q))
    · intro k hk ih
      refine sg_M_misfiled_4 (ite_i (fun q => absurd q (by omega)) (fun _ => ?_))
      rw [w32_k (by omega)]
      refine ⟨⟨by omega, by omega⟩, ite_i (fun z => ?_) (fun z => ⟨⟨by omega, by omega⟩, _, c_M_isIn h1 h3 (by omega) (by omega) (by decide), ite_bn (fun z2 => ?_) (fun z2 => ?_)⟩)⟩
      · rw [setB_f (dec_f (fun q => q.1 z))] at ih; exact ih
      · rw [setB_f (dec_f (fun q => q.2 z2))] at ih; exact ih
      · rw [setB_t (dec_t ⟨z, z2⟩)] at ih; exact ih
theorem found_loop (h1 : R1 M) (h3 : R3 M) (a0 : 0 ≤ a) (an : a < M 64 0) {g : Int} (hg : M 67 a = g) (g0 : 0 ≤ g) (g1 : g < 1024) (hg2 : ¬ LIE M a g) :
    ∀ (j k : Nat) (acc : Int), k + j = 1024 → 1 ≤ k → 0 ≤ acc → acc ≤ 2 * k → (∀ i : Nat, 1 ≤ i → i < k → ((g + i < 1024 → ¬ LIE M a (g + i)) ∧ (0 ≤ g - i → ¬ LIE M a (g - i)))) → ∃ v, at_X_found_30 39 a g acc k M (rI v M) ∧ at_M_found_28 39 a acc k M (rI v M)
  | 0, k, acc, hk, k1, hacc, hacc2, hno => by
    exfalso
    obtain ⟨r1, -, -⟩ := h3.rng a0 an
    have hS : LIE M a (M 28 a) := (lie_eq (x := M 28 a) (h3 a a0 an).1 (h3.dis a0 an)).mp ⟨bt_ext (c_iand _ _) (h3 a a0 an).1 (fun i hi => by rw [bt_and, Bool.and_self]), bt_ext (c_iand _ _) c32_0 (fun i hi => by
      simp only [bt_and, bt_xor, bt_or, bt_n1 hi, bt_z]; cases bt (M 28 a) i <;> cases bt (M 29 a) i <;> rfl)⟩
    rcases Int.lt_trichotomy (M 28 a) g with q | q | q
    · exact (hno (g - M 28 a).toNat (by omega) (by omega)).2 (by omega) (by rw [show g - (((g - M 28 a).toNat : Nat) : Int) = M 28 a by omega]; exact hS)
    · exact hg2 (by rw [← q]; exact hS)
    · exact (hno (M 28 a - g).toNat (by omega) (by omega)).1 (by omega) (by rw [show g + (((M 28 a - g).toNat : Nat) : Int) = M 28 a by omega]; exact hS)
  | j + 1, k, acc, hk, k1, hacc, hacc2, hno => by
    have e3 := h1.2.2.1
    have go : ∀ acc' : Int, 0 ≤ acc' → acc' ≤ 2 * ((k : Int) + 1) → (g + (k : Int) < 1024 → ¬ LIE M a (g + (k : Int))) → (0 ≤ g - (k : Int) → ¬ LIE M a (g - (k : Int))) → ∃ v, at_X_found_30 39 a g acc' (w32 ((k : Int) + 1)) M (rI v M) ∧ at_M_found_28 39 a acc' (w32 ((k : Int) + 1)) M (rI v M) := fun acc' h5 h6 h7 h8 => by
      rw [w32_k (by omega)]
      exact found_loop h1 h3 a0 an hg g0 g1 hg2 j (k + 1) acc' (by omega) (by omega) h5 (by omega) (fun i i1 i2 => by
        by_cases q : i < k
        · exact hno i i1 q
        · have : i = k := by omega
          subst this; exact ⟨h7, h8⟩)
    have w1 : w32 (g + k) = g + k := w32_i (by omega) (by omega)
    have w2 : w32 (g - k) = g - k := w32_i (by omega) (by omega)
    have w3 : w32 (acc + 1) = acc + 1 := w32_i (by omega) (by omega)
    have w4 : w32 (acc + 1 + 1) = acc + 1 + 1 := w32_i (by omega) (by omega)
    -- up, then down
    by_cases u : g + k < 1024
    · by_cases lu : LIE M a (g + k)
      · refine ⟨acc + 1, sg_X_found_30 (ite_i (fun q => absurd q (by omega)) (fun _ => ?_)), sg_M_found_28 (ite_i (fun q => absurd q (by omega)) (fun _ => ?_))⟩
        · rw [w1, w3]
          exact ⟨_, c_X_isDrawer (by decide), ite_b (fun q => absurd ⟨by omega, u⟩ q) (fun _ => ⟨_, c_C_mayLie h1 a0 an (by decide), ite_b (fun q => absurd lu q) (fun _ => rfl)⟩)⟩
        · rw [hg, w1, w3]
          exact ⟨⟨a0, by omega⟩, _, c_M_isDrawer (by decide), ite_b (fun q => absurd ⟨by omega, u⟩ q) (fun _ => ⟨⟨a0, by omega⟩, _, c_M_isIn h1 h3 a0 an (by decide), ite_b (fun q => absurd lu q) (fun _ => rfl)⟩)⟩
      · by_cases dn : 0 ≤ g - k
        · by_cases ld : LIE M a (g - k)
          · refine ⟨acc + 1 + 1, sg_X_found_30 (ite_i (fun q => absurd q (by omega)) (fun _ => ?_)), sg_M_found_28 (ite_i (fun q => absurd q (by omega)) (fun _ => ?_))⟩
            · rw [w1, w2, w3, w4]
              exact ⟨_, c_X_isDrawer (by decide), ite_b (fun q => absurd ⟨by omega, u⟩ q) (fun _ => ⟨_, c_C_mayLie h1 a0 an (by decide), ite_b (fun _ => ⟨_, c_X_isDrawer (by decide), ite_b (fun q => absurd ⟨dn, by omega⟩ q) (fun _ => ⟨_, c_C_mayLie h1 a0 an (by decide), ite_b (fun q => absurd ld q) (fun _ => rfl)⟩)⟩) (fun q => absurd q lu)⟩)⟩
            · rw [hg, w1, w2, w3, w4]
              exact ⟨⟨a0, by omega⟩, _, c_M_isDrawer (by decide), ite_b (fun q => absurd ⟨by omega, u⟩ q) (fun _ => ⟨⟨a0, by omega⟩, _, c_M_isIn h1 h3 a0 an (by decide), ite_b (fun _ => ⟨⟨a0, by omega⟩, _, c_M_isDrawer (by decide), ite_b (fun q => absurd ⟨dn, by omega⟩ q) (fun _ => ⟨⟨a0, by omega⟩, _, c_M_isIn h1 h3 a0 an (by decide), ite_b (fun q => absurd ld q) (fun _ => rfl)⟩)⟩) (fun q => absurd q lu)⟩)⟩
          · obtain ⟨v, hx, hm⟩ := go (acc + 1 + 1) (by omega) (by omega) (fun _ => lu) (fun _ => ld)
            refine ⟨v, sg_X_found_30 (ite_i (fun q => absurd q (by omega)) (fun _ => ?_)), sg_M_found_28 (ite_i (fun q => absurd q (by omega)) (fun _ => ?_))⟩
            · rw [w1, w2, w3, w4]
              exact ⟨_, c_X_isDrawer (by decide), ite_b (fun q => absurd ⟨by omega, u⟩ q) (fun _ => ⟨_, c_C_mayLie h1 a0 an (by decide), ite_b (fun _ => ⟨_, c_X_isDrawer (by decide), ite_b (fun q => absurd ⟨dn, by omega⟩ q) (fun _ => ⟨_, c_C_mayLie h1 a0 an (by decide), ite_b (fun _ => hx) (fun q => absurd q ld)⟩)⟩) (fun q => absurd q lu)⟩)⟩
            · rw [hg, w1, w2, w3, w4]
              exact ⟨⟨a0, by omega⟩, _, c_M_isDrawer (by decide), ite_b (fun q => absurd ⟨by omega, u⟩ q) (fun _ => ⟨⟨a0, by omega⟩, _, c_M_isIn h1 h3 a0 an (by decide), ite_b (fun _ => ⟨⟨a0, by omega⟩, _, c_M_isDrawer (by decide), ite_b (fun q => absurd ⟨dn, by omega⟩ q) (fun _ => ⟨⟨a0, by omega⟩, _, c_M_isIn h1 h3 a0 an (by decide), ite_b (fun _ => hm) (fun q => absurd q ld)⟩)⟩) (fun q => absurd q lu)⟩)⟩
        · obtain ⟨v, hx, hm⟩ := go (acc + 1) (by omega) (by omega) (fun _ => lu) (fun q => absurd q dn)
          refine ⟨v, sg_X_found_30 (ite_i (fun q => absurd q (by omega)) (fun _ => ?_)), sg_M_found_28 (ite_i (fun q => absurd q (by omega)) (fun _ => ?_))⟩
          · rw [w1, w2, w3]
            exact ⟨_, c_X_isDrawer (by decide), ite_b (fun q => absurd ⟨by omega, u⟩ q) (fun _ => ⟨_, c_C_mayLie h1 a0 an (by decide), ite_b (fun _ => ⟨_, c_X_isDrawer (by decide), ite_b (fun _ => hx) (fun q => absurd q.1 dn)⟩) (fun q => absurd q lu)⟩)⟩
          · rw [hg, w1, w2, w3]
            exact ⟨⟨a0, by omega⟩, _, c_M_isDrawer (by decide), ite_b (fun q => absurd ⟨by omega, u⟩ q) (fun _ => ⟨⟨a0, by omega⟩, _, c_M_isIn h1 h3 a0 an (by decide), ite_b (fun _ => ⟨⟨a0, by omega⟩, _, c_M_isDrawer (by decide), ite_b (fun _ => hm) (fun q => absurd q.1 dn)⟩) (fun q => absurd q lu)⟩)⟩
    · by_cases dn : 0 ≤ g - k
      · by_cases ld : LIE M a (g - k)
        · refine ⟨acc + 1, sg_X_found_30 (ite_i (fun q => absurd q (by omega)) (fun _ => ?_)), sg_M_found_28 (ite_i (fun q => absurd q (by omega)) (fun _ => ?_))⟩
          · rw [w1, w2, w3]
            exact ⟨_, c_X_isDrawer (by decide), ite_b (fun _ => ⟨_, c_X_isDrawer (by decide), ite_b (fun q => absurd ⟨dn, by omega⟩ q) (fun _ => ⟨_, c_C_mayLie h1 a0 an (by decide), ite_b (fun q => absurd ld q) (fun _ => rfl)⟩)⟩) (fun q => absurd q.2 u)⟩
          · rw [hg, w1, w2, w3]
            exact ⟨⟨a0, by omega⟩, _, c_M_isDrawer (by decide), ite_b (fun _ => ⟨⟨a0, by omega⟩, _, c_M_isDrawer (by decide), ite_b (fun q => absurd ⟨dn, by omega⟩ q) (fun _ => ⟨⟨a0, by omega⟩, _, c_M_isIn h1 h3 a0 an (by decide), ite_b (fun q => absurd ld q) (fun _ => rfl)⟩)⟩) (fun q => absurd q.2 u)⟩
        · obtain ⟨v, hx, hm⟩ := go (acc + 1) (by omega) (by omega) (fun q => absurd q u) (fun _ => ld)
          refine ⟨v, sg_X_found_30 (ite_i (fun q => absurd q (by omega)) (fun _ => ?_)), sg_M_found_28 (ite_i (fun q => absurd q (by omega)) (fun _ => ?_))⟩
          · rw [w1, w2, w3]
            exact ⟨_, c_X_isDrawer (by decide), ite_b (fun _ => ⟨_, c_X_isDrawer (by decide), ite_b (fun q => absurd ⟨dn, by omega⟩ q) (fun _ => ⟨_, c_C_mayLie h1 a0 an (by decide), ite_b (fun _ => hx) (fun q => absurd q ld)⟩)⟩) (fun q => absurd q.2 u)⟩
          · rw [hg, w1, w2, w3]
            exact ⟨⟨a0, by omega⟩, _, c_M_isDrawer (by decide), ite_b (fun _ => ⟨⟨a0, by omega⟩, _, c_M_isDrawer (by decide), ite_b (fun q => absurd ⟨dn, by omega⟩ q) (fun _ => ⟨⟨a0, by omega⟩, _, c_M_isIn h1 h3 a0 an (by decide), ite_b (fun _ => hm) (fun q => absurd q ld)⟩)⟩) (fun q => absurd q.2 u)⟩
      · obtain ⟨v, hx, hm⟩ := go acc hacc (by omega) (fun q => absurd q u) (fun q => absurd q dn)
        refine ⟨v, sg_X_found_30 (ite_i (fun q => absurd q (by omega)) (fun _ => ?_)), sg_M_found_28 (ite_i (fun q => absurd q (by omega)) (fun _ => ?_))⟩
        · rw [w1, w2]
          exact ⟨_, c_X_isDrawer (by decide), ite_b (fun _ => ⟨_, c_X_isDrawer (by decide), ite_b (fun _ => hx) (fun q => absurd q.1 dn)⟩) (fun q => absurd q.2 u)⟩
        · rw [hg, w1, w2]
          exact ⟨⟨a0, by omega⟩, _, c_M_isDrawer (by decide), ite_b (fun _ => ⟨⟨a0, by omega⟩, _, c_M_isDrawer (by decide), ite_b (fun _ => hm) (fun q => absurd q.1 dn)⟩) (fun q => absurd q.2 u)⟩
theorem pr_found (h1 : R1 M) (h3 : R3 M) (h4 : R4 M) : Bo m_X_found m_M_found [(0, a)] M := by
  have e3 := h1.2.2.1
  by_cases z : 0 ≤ a ∧ a < M 64 0
  · obtain ⟨f1, f2⟩ := h4 a z.1 z.2
    have hasX : 0 ≤ a ∧ a < M 1 5 := (has_iff h1).mpr z
    rcases f2 with f2 | f2
    · refine ⟨-2, sg_X_found (d := 39) ⟨_, c_C_has (by decide), ite_bn (fun _ => ⟨⟨z.1, by omega⟩, _, c_X_isDrawer (by decide), ite_bn (fun q => absurd q (by rw [f1, f2]; omega)) (fun _ => rfl)⟩) (fun q => absurd hasX q)⟩, sg_M_found (d := 39) ⟨_, c_M_isCard h1 (by decide), ite_bn (fun _ => ⟨⟨z.1, by omega⟩, ite_i (fun q => absurd f2 q) (fun _ => rfl)⟩) (fun q => absurd z q)⟩⟩
    · have nv : ¬ M 67 a = -2000000000 := by omega
      by_cases l : LIE M a (M 67 a)
      · refine ⟨0, sg_X_found (d := 39) ⟨_, c_C_has (by decide), ite_bn (fun _ => ⟨⟨z.1, by omega⟩, _, c_X_isDrawer (by decide), ite_bn (fun _ => ⟨_, c_C_mayLie h1 z.1 z.2 (by decide), ite_b (fun q => absurd (by rw [f1]; exact l) q) (fun _ => rfl)⟩) (fun q => absurd (by rw [f1]; exact f2) q)⟩) (fun q => absurd hasX q)⟩, sg_M_found (d := 39) ⟨_, c_M_isCard h1 (by decide), ite_bn (fun _ => ⟨⟨z.1, by omega⟩, ite_i (fun _ => ⟨⟨z.1, by omega⟩, _, c_M_isIn h1 h3 z.1 z.2 (by decide), ite_b (fun q => absurd l q) (fun _ => rfl)⟩) (fun q => absurd nv q)⟩) (fun q => absurd z q)⟩⟩
      · obtain ⟨v, hx, hm⟩ := found_loop h1 h3 z.1 z.2 (g := M 67 a) rfl f2.1 f2.2 l 1023 1 0 (by decide) (by decide) (by decide) (by decide) (fun i i1 i2 => by omega)
        refine ⟨v, sg_X_found (d := 39) ⟨_, c_C_has (by decide), ite_bn (fun _ => ⟨⟨z.1, by omega⟩, _, c_X_isDrawer (by decide), ite_bn (fun _ => ⟨_, c_C_mayLie h1 z.1 z.2 (by decide), ite_b (fun _ => by rw [f1]; exact hx) (fun q => absurd q (by rw [f1]; exact l))⟩) (fun q => absurd (by rw [f1]; exact f2) q)⟩) (fun q => absurd hasX q)⟩, sg_M_found (d := 39) ⟨_, c_M_isCard h1 (by decide), ite_bn (fun _ => ⟨⟨z.1, by omega⟩, ite_i (fun _ => ⟨⟨z.1, by omega⟩, _, c_M_isIn h1 h3 z.1 z.2 (by decide), ite_b (fun _ => hm) (fun q => absurd q l)⟩) (fun q => absurd nv q)⟩) (fun q => absurd z q)⟩⟩
  · exact ⟨-1, sg_X_found (d := 39) ⟨_, c_C_has (by decide), ite_bn (fun q => absurd ((has_iff h1).mp q) z) (fun _ => rfl)⟩, sg_M_found (d := 39) ⟨_, c_M_isCard h1 (by decide), ite_bn (fun q => absurd q z) (fun _ => rfl)⟩⟩
end P9
