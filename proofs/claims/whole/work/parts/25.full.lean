/-! promises full, look, oneMan, and the counting of drawers -/
theorem cntB_pos {P : Nat → Bool} {k : Nat} (h : P k = true) : ∀ N : Nat, k < N → ¬ cntB P N = 0
  | 0, hk => absurd hk (by omega)
  | N + 1, hk => by
    have l := cntB_le P N
    by_cases q : k = N
    · subst q; rw [cntB_t h]; omega
    · have ih := cntB_pos h N (by omega)
      by_cases z : P N = true
      · rw [cntB_t z]; omega
      · rw [cntB_f z]; exact ih
theorem bc_setB10 (P : Nat → Bool) : bc (setB P 10) = cntB P 10 := by
  have hb : ∀ i, i < 32 → bt (setB P 10) i = (decide (i < 10) && P i) := bt_setB P 10 (by decide)
  have hs := bt_small (setB_c32 P 10) (fun i a b => by rw [hb i b]; simp; omega)
  obtain ⟨n, hn⟩ : ∃ n : Nat, setB P 10 = n := ⟨(setB P 10).toNat, by omega⟩
  rw [hn, bc_10 n (by omega), ← hn]
  exact cntB_congr (fun j hj => by rw [hb j (by omega)]; simp [hj])
theorem cntB_all {P : Nat → Bool} : ∀ N : Nat, (N : Int) ≤ cntB P N → ∀ i, i < N → P i = true
  | 0, _, i, hi => absurd hi (by omega)
  | N + 1, h, i, hi => by
    have l := cntB_le P N
    by_cases z : P N = true
    · rw [cntB_t z] at h
      by_cases q : i = N
      · subst q; exact z
      · exact cntB_all N (by omega) i (by omega)
    · rw [cntB_f z] at h
      omega
theorem bt_1023 : ∀ i : Nat, i < 32 → bt 1023 i = decide (i < 10) := by decide +kernel
theorem cntB_full {P : Nat → Bool} : ∀ N : Nat, (∀ i, i < N → P i = true) → cntB P N = N
  | 0, _ => rfl
  | N + 1, h => by
    rw [cntB_t (h N (by omega)), cntB_full N (fun i hi => h i (by omega))]
    omega
theorem setB_1023 (P : Nat → Bool) : setB P 10 = 1023 ↔ 10 ≤ cntB P 10 := by
  have hb : ∀ i, i < 32 → bt (setB P 10) i = (decide (i < 10) && P i) := bt_setB P 10 (by decide)
  constructor
  · intro h
    rw [cntB_full 10 (fun i hi => ?_)]
    · decide
    · have e1 := hb i (by omega)
      rw [h, bt_1023 i (by omega)] at e1
      simp [hi] at e1
      exact e1
  · intro h
    have ha := cntB_all 10 h
    refine bt_ext (setB_c32 P 10) ⟨by decide, by decide⟩ (fun i hi => ?_)
    rw [hb i hi, bt_1023 i hi]
    by_cases z : i < 10
    · simp [z, ha i z]
    · simp [z]
/-- the first of the greatest -/
def bst (g : Nat → Int) : Nat → Nat
  | 0 => 0
  | k + 1 => if g (bst g k) < g k then k else bst g k
theorem bst_t {g : Nat → Int} {k : Nat} (h : g (bst g k) < g k) : bst g (k + 1) = k := if_pos h
theorem bst_f {g : Nat → Int} {k : Nat} (h : ¬ g (bst g k) < g k) : bst g (k + 1) = bst g k := if_neg h
/-- in how many drawers some card of a set may lie -/
def CDP (M : Mem) (m : Int) (x : Nat) : Bool := decide (¬ cntB (fun c => bt m c && decide (LIE M (c : Int) (x : Int))) (M 64 0).toNat = 0)
def CD (M : Mem) (m : Int) : Int := cntB (CDP M m) 1024
section P10
variable {d : Nat} {M : Mem} {a b c m x : Int}
theorem c_X_liesAny (h1 : R1 M) (hd : 2 ≤ d) : Cl d m_X_liesAny [(2, 0), (0, m), (0, x)] M (rI (bI (¬ cntB (fun c => bt m c && decide (LIE M (c : Int) x)) (M 64 0).toNat = 0)) M) := by
  have e1 := h1.1; have e2 := h1.2.1; have e3 := h1.2.2.1
  refine (sg_X_liesAny (d := 1) ?_).mono hd
  have key : ∀ (j k : Nat), k + j = (M 64 0).toNat → cntB (fun c => bt m c && decide (LIE M (c : Int) x)) k = 0 → at_X_liesAny_2 1 m x (k : Int) M (rI (bI (¬ cntB (fun c => bt m c && decide (LIE M (c : Int) x)) (M 64 0).toNat = 0)) M) := by
    intro j
    induction j with
    | zero =>
      intro k hk h0
      refine sg_X_liesAny_2 (ite_i (fun _ => ?_) (fun q => absurd (by omega) q))
      rw [bI_f (fun q => q (by rw [← hk]; exact h0))]
    | succ j ih =>
      intro k hk h0
      have hi := ih (k + 1) (by omega)
      rw [show (((k + 1 : Nat)) : Int) = (k : Int) + 1 by omega] at hi
      refine sg_X_liesAny_2 (ite_i (fun q => absurd q (by omega)) (fun _ => ?_))
      rw [w32_k (by omega)]
      refine ite_i (fun z => ?_) (fun z => ⟨_, c_C_mayLie h1 (by omega) (by omega) (by decide), ite_b (fun z2 => ?_) (fun z2 => ?_)⟩)
      · have nz := (shr1 (x := m) (k := k) (by omega)).mp z
        exact hi (by rw [cntB_f (by simp [nz])]; exact h0)
      · exact hi (by rw [cntB_f (by simp; exact fun _ => z2)]; exact h0)
      · have nz := (not_congr (shr1 (x := m) (k := k) (by omega))).mp z
        rw [bI_t (cntB_pos (k := k) (by simp; exact ⟨Classical.not_not.mp nz, z2⟩) _ (by omega))]
  exact key (M 64 0).toNat 0 (by omega) rfl
theorem c_X_countDrawers (h1 : R1 M) (hd : 3 ≤ d) : Cl d m_X_countDrawers [(2, 0), (0, m)] M (rI (CD M m) M) := by
  refine (sg_X_countDrawers (d := 2) ?_).mono hd
  refine loop_up (fun v i => at_X_countDrawers_4 2 m v i M (rI (CD M m) M)) (cntB (CDP M m)) 1024 ?_ ?_
  · exact sg_X_countDrawers_4 (ite_i (fun _ => rfl) (fun q => absurd (by decide) q))
  · intro k hk ih
    have hcn := cntB_le (CDP M m) k
    refine sg_X_countDrawers_4 (ite_i (fun q => absurd q (by omega)) (fun _ => ?_))
    rw [w32_k (by omega)]
    refine ⟨_, c_X_liesAny h1 (by decide), ite_b (fun z => ?_) (fun z => ?_)⟩
    · rw [cntB_f (dec_f z)] at ih; exact ih
    · rw [cntB_t (dec_t z)] at ih
      rw [w32_i (by omega) (by omega)]; exact ih
theorem c_X_allDrawers (h1 : R1 M) (hd : 3 ≤ d) : Cl d m_X_countDrawers [(2, 0), (0, w32 ((ishl 1 (M 1 5)) - 1))] M (rI (cntB (fun x => decide (¬ FL M (x : Int) = 0)) 1024) M) := by
  have e1 := h1.1; have e2 := h1.2.1; have e3 := h1.2.2.1
  have := c_X_countDrawers (m := w32 ((ishl 1 (M 1 5)) - 1)) h1 hd
  rwa [show CD M (w32 ((ishl 1 (M 1 5)) - 1)) = cntB (fun x => decide (¬ FL M (x : Int) = 0)) 1024 from cntB_congr (fun j _ => by
    show decide _ = decide _
    have : cntB (fun c => bt (w32 ((ishl 1 (M 1 5)) - 1)) c && decide (LIE M (c : Int) (j : Int))) (M 64 0).toNat = FL M (j : Int) := cntB_congr (fun c hc => by
      have := allC (M 64 0).toNat (by omega) c (by omega)
      rw [show (((M 64 0).toNat : Nat) : Int) = M 1 5 by omega] at this
      rw [this]; simp [hc])
    rw [this])] at this
theorem c_X_fullestDrawer (h1 : R1 M) (hd : 3 ≤ d) : Cl d m_X_fullestDrawer [(2, 0)] M (rI (bst (fun i => FL M (i : Int)) 1024 : Nat) M) := by
  refine (sg_X_fullestDrawer (d := 2) ?_).mono hd
  refine loop_up (fun (v : Int × Int) i => ∀ w, at_X_fullestDrawer_6 2 v.1 v.2 i w M _) (fun k => (((bst (fun i => FL M (i : Int)) k : Nat) : Int), if k = 0 then 0 else FL M ((bst (fun i => FL M (i : Int)) k : Nat) : Int))) 1024 ?_ ?_ _
  · exact fun w => sg_X_fullestDrawer_6 (ite_i (fun _ => rfl) (fun q => absurd (by decide) q))
  · intro k hk ih w
    refine sg_X_fullestDrawer_6 (ite_i (fun q => absurd q (by omega)) (fun _ => ?_))
    rw [w32_k (by omega)]
    refine ⟨_, c_X_cardsIn h1 (by decide), ?_⟩
    simp only [if_neg (show ¬ k + 1 = 0 by omega)] at ih
    by_cases q0 : k = 0
    · subst q0
      have hf := FL_le (x := ((0 : Nat) : Int)) h1
      have e0 : bst (fun i => FL M (i : Int)) (0 + 1) = 0 := bst_f (Int.lt_irrefl _)
      rw [e0] at ih
      rw [if_pos rfl]
      refine ite_i (fun z => ?_) (fun z => ih _)
      have := ih (0, FL M ((0 : Nat) : Int))
      have e : FL M ((0 : Nat) : Int) = 0 := by omega
      rw [e] at this ⊢
      exact this
    · rw [if_neg q0]
      refine ite_i (fun z => ?_) (fun z => ?_)
      · rw [bst_f (g := fun i => FL M (i : Int)) (Int.not_lt.mpr z)] at ih; exact ih _
      · rw [bst_t (g := fun i => FL M (i : Int)) (Int.not_le.mp z)] at ih; exact ih _
theorem pr_full (h1 : R1 M) (h3 : R3 M) : Bo m_X_full m_M_full [(0, a)] M := by
  have Y : ∀ v : Int, a < 0 → -2 ≤ a → (v = if ¬ a = -1 then cntB (fun x => decide (¬ FL M (x : Int) = 0)) 1024 else ((bst (fun i => FL M (i : Int)) 1024 : Nat) : Int)) → Cl 40 m_M_full [(2, 64), (0, a)] M (rI v M) := fun v a0 a2 hv => by
    refine sg_M_full (d := 39) ⟨_, c_M_within (by decide), ite_bn (fun _ => ite_i (fun _ => ?_) (fun q => absurd a0 q)) (fun q => absurd ⟨a2, by omega⟩ q)⟩
    refine loop_up (fun (v : Int × Int) i => ∀ w, at_M_full_19 39 a v.1 v.2 i w M _) (fun k => (((bst (fun i => FL M (i : Int)) k : Nat) : Int), cntB (fun x => decide (¬ FL M (x : Int) = 0)) k)) 1024 ?_ ?_ _
    · exact fun w => sg_M_full_19 (ite_i (fun _ => ite_i (fun q => by rw [hv, if_pos q]) (fun q => by rw [hv, if_neg q])) (fun q => absurd (by decide) q))
    · intro k hk ih w
      have hcn := cntB_le (fun x => decide (¬ FL M (x : Int) = 0)) k
      have hf := FL_le (x := (k : Int)) h1
      refine sg_M_full_19 (ite_i (fun q => absurd q (by omega)) (fun _ => ?_))
      rw [w32_k (by omega), w32_i (x := cntB (fun x => decide (¬ FL M (x : Int) = 0)) k + 1) (by omega) (by omega)]
      refine ⟨_, c_M_fullness h1 h3 (by decide), ite_i (fun z => ⟨_, c_M_fullness h1 h3 (by decide), ite_i (fun z2 => ?_) (fun z2 => ?_)⟩) (fun z => ⟨_, c_M_fullness h1 h3 (by decide), ite_i (fun z2 => ?_) (fun z2 => ?_)⟩)⟩
      · rw [bst_f (g := fun i => FL M (i : Int)) (Int.not_lt.mpr z2), cntB_f (dec_f (by omega))] at ih; exact ih _
      · rw [bst_t (g := fun i => FL M (i : Int)) (Int.not_le.mp z2), cntB_f (dec_f (by omega))] at ih; exact ih _
      · rw [bst_f (g := fun i => FL M (i : Int)) (Int.not_lt.mpr z2), cntB_t (dec_t (by omega))] at ih; exact ih _
      · rw [bst_t (g := fun i => FL M (i : Int)) (Int.not_le.mp z2), cntB_t (dec_t (by omega))] at ih; exact ih _
  by_cases q1 : a = -1
  · exact ⟨_, sg_X_full (d := 39) (ite_i (fun q => absurd q1 q) (fun _ => ⟨_, c_X_fullestDrawer h1 (by decide), rfl⟩)), Y _ (by omega) (by omega) (by rw [if_neg (by omega)])⟩
  by_cases q2 : a = -2
  · exact ⟨_, sg_X_full (d := 39) (ite_i (fun _ => ite_i (fun q => absurd q2 q) (fun _ => ⟨_, sg_X_allCards (d := 38) rfl, _, c_X_allDrawers h1 (by decide), rfl⟩)) (fun q => absurd q1 q)), Y _ (by omega) (by omega) (by rw [if_pos q1])⟩
  by_cases q3 : 0 ≤ a ∧ a < 1024
  · exact ⟨_, sg_X_full (d := 39) (ite_i (fun _ => ite_i (fun _ => ⟨_, c_X_isDrawer (by decide), ite_b (fun q => absurd q3 q) (fun _ => ⟨_, c_X_cardsIn h1 (by decide), rfl⟩)⟩) (fun q => absurd q2 q)) (fun q => absurd q1 q)), sg_M_full (d := 39) ⟨_, c_M_within (by decide), ite_bn (fun _ => ite_i (fun q => absurd q (by omega)) (fun _ => ⟨_, c_M_fullness h1 h3 (by decide), rfl⟩)) (fun q => absurd ⟨by omega, by omega⟩ q)⟩⟩
  · exact ⟨-1, sg_X_full (d := 39) (ite_i (fun _ => ite_i (fun _ => ⟨_, c_X_isDrawer (by decide), ite_b (fun _ => rfl) (fun q => absurd q q3)⟩) (fun q => absurd q2 q)) (fun q => absurd q1 q)), sg_M_full (d := 39) ⟨_, c_M_within (by decide), ite_bn (fun q => absurd q (by omega)) (fun _ => rfl)⟩⟩
end P10
