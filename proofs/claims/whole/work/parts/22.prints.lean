/-! prints and drawers -/
theorem loop_up {T : Type} (A : T → Int → Prop) (g : Nat → T) (N : Nat) (hend : A (g N) N) (hstep : ∀ k : Nat, k < N → A (g (k + 1)) ((k : Int) + 1) → A (g k) k) : A (g 0) 0 := by
  have key : ∀ j : Nat, j ≤ N → A (g (N - j)) ((N - j : Nat) : Int) := by
    intro j
    induction j with
    | zero => intro _; exact hend
    | succ j ih =>
      intro hj
      have h1 := ih (by omega)
      refine hstep (N - (j + 1)) (by omega) ?_
      rw [show N - (j + 1) + 1 = N - j by omega, show ((N - (j + 1) : Nat) : Int) + 1 = ((N - j : Nat) : Int) by omega]
      exact h1
  have := key N (Nat.le_refl _)
  rw [Nat.sub_self] at this
  exact this
theorem setB_t {P : Nat → Bool} {k : Nat} (h : P k = true) : setB P (k + 1) = ior (setB P k) (ishl 1 (k : Int)) := if_pos h
theorem setB_f {P : Nat → Bool} {k : Nat} (h : ¬ P k = true) : setB P (k + 1) = setB P k := if_neg h
theorem cntB_t {P : Nat → Bool} {k : Nat} (h : P k = true) : cntB P (k + 1) = cntB P k + 1 := if_pos h
theorem cntB_f {P : Nat → Bool} {k : Nat} (h : ¬ P k = true) : cntB P (k + 1) = cntB P k := if_neg h
theorem dec_t {P : Prop} [Decidable P] (h : P) : decide P = true := decide_eq_true h
theorem dec_f {P : Prop} [Decidable P] (h : ¬ P) : ¬ decide P = true := fun q => h (of_decide_eq_true q)
abbrev FIT (M : Mem) (s r c f : Int) : Prop := (¬ iand (stc 90 s) (stc 90 (M 65 (10 * c + f))) = 0) ∧ (if 0 ≤ r - M 66 (10 * c + f) then r - M 66 (10 * c + f) else -(r - M 66 (10 * c + f))) ≤ M 64 4
section PRINTS
variable {d : Nat} {M : Mem} {a b c f s r x y : Int}
theorem ix10 (h0 : 0 ≤ c) (h1 : c < 12) (g0 : 0 ≤ f) (g1 : f < 10) : w32 (w32 (10 * c) + f) = 10 * c + f := by
  rw [w32_i (x := 10 * c) (by omega) (by omega), w32_i (by omega) (by omega)]
theorem c_X_fits (h1 : R1 M) (h2 : R2 M) (s0 : 0 ≤ s) (s5 : s ≤ 5) (r0 : 0 ≤ r) (r30 : r ≤ 30) (c0 : 0 ≤ c) (cn : c < M 64 0) (f0 : 0 ≤ f) (f9 : f < 10) (hd : 3 ≤ d) : Cl d m_X_fits [(2, 0), (0, s), (0, r), (0, c), (0, f)] M (rI (bI (FIT M s r c f)) M) := by
  obtain ⟨e1, e2, e3, e4, e5, e6⟩ := h1
  obtain ⟨g1, g2, g3, g4, g5, g6⟩ := h2 c f c0 cn f0 f9
  refine (sg_X_fits (d := 2) ?_).mono hd
  rw [g1, g2, e4, absd (by omega) (by omega)]
  refine ⟨⟨c0, by omega⟩, ⟨f0, f9⟩, _, c_X_mayBeSame s0 s5 g3 g4 (by decide), ite_b (fun z => ?_) (fun z => ⟨⟨c0, by omega⟩, ⟨f0, f9⟩, ite_i (fun q => ?_) (fun q => ?_)⟩)⟩
  · rw [bI_f (fun q => z q.1)]
  · rw [bI_f (fun q2 => absurd q2.2 (Int.not_le.mpr q))]
  · rw [bI_t ⟨z, Int.not_lt.mp q⟩]
theorem c_M_isOn (h1 : R1 M) (h2 : R2 M) (hs : M 64 37 = s) (hr : M 64 38 = r) (s0 : 0 ≤ s) (s5 : s ≤ 5) (r0 : 0 ≤ r) (r30 : r ≤ 30) (c0 : 0 ≤ c) (cn : c < M 64 0) (f0 : 0 ≤ f) (f9 : f < 10) (hd : 3 ≤ d) : Cl d m_M_isOn [(2, 64), (0, c), (0, f)] M (rI (bI (FIT M s r c f)) M) := by
  obtain ⟨e1, e2, e3, e4, e5, e6⟩ := h1
  obtain ⟨g1, g2, g3, g4, g5, g6⟩ := h2 c f c0 cn f0 f9
  refine (sg_M_isOn (d := 2) ?_).mono hd
  rw [ix10 c0 (by omega) f0 f9, hs, hr, absd (by omega) (by omega)]
  refine ⟨⟨by omega, by omega⟩, _, c_M_maySame s0 s5 g3 g4 (by decide), ite_b (fun z => ?_) (fun z => ⟨⟨by omega, by omega⟩, ite_i (fun q => ?_) (fun q => ?_)⟩)⟩
  · rw [bI_f (fun q => z q.1)]
  · rw [bI_f (fun q2 => absurd q2.2 (Int.not_le.mpr q))]
  · rw [bI_t ⟨z, Int.not_lt.mp q⟩]
theorem c_M_isSame (h1 : R1 M) (h2 : R2 M) (a0 : 0 ≤ a) (an : a < M 64 0) (c0 : 0 ≤ c) (cn : c < M 64 0) (f0 : 0 ≤ f) (f9 : f < 10) (hd : 3 ≤ d) : Cl d m_M_isSame [(2, 64), (0, a), (0, c), (0, f)] M (rI (bI (FIT M (M 65 (10 * a + f)) (M 66 (10 * a + f)) c f)) M) := by
  obtain ⟨e1, e2, e3, e4, e5, e6⟩ := h1
  obtain ⟨g1, g2, g3, g4, g5, g6⟩ := h2 c f c0 cn f0 f9
  obtain ⟨k1, k2, k3, k4, k5, k6⟩ := h2 a f a0 an f0 f9
  refine (sg_M_isSame (d := 2) ?_).mono hd
  rw [ix10 c0 (by omega) f0 f9, ix10 a0 (by omega) f0 f9, absd (by omega) (by omega)]
  refine ⟨⟨by omega, by omega⟩, ⟨by omega, by omega⟩, _, c_M_maySame k3 k4 g3 g4 (by decide), ite_b (fun z => ?_) (fun z => ⟨⟨by omega, by omega⟩, ⟨by omega, by omega⟩, ite_i (fun q => ?_) (fun q => ?_)⟩)⟩
  · rw [bI_f (fun q => z q.1)]
  · rw [bI_f (fun q2 => absurd q2.2 (Int.not_le.mpr q))]
  · rw [bI_t ⟨z, Int.not_lt.mp q⟩]
/-- the fingers of a card that a print may be -/
def FO (M : Mem) (s r c : Int) : Int := setB (fun f => decide (FIT M s r c (f : Int))) 10
def CO (M : Mem) (s r : Int) : Int := setB (fun c => decide (¬ FO M s r (c : Int) = 0)) (M 64 0).toNat
theorem w32_k {k : Nat} (h : k < 1000000) : w32 ((k : Int) + 1) = (k : Int) + 1 := w32_i (by omega) (by omega)
/-- a glass told by one number -/
theorem gl (hg : 0 ≤ x ∧ x / 100 ≤ 4 ∧ x % 100 ≤ 30) : w32 (Int.tdiv x 100) = x / 100 ∧ w32 (Int.tmod x 100) = x % 100 ∧ 0 ≤ x / 100 ∧ 0 ≤ x % 100 := by
  have h1 := hg.1; have h2 := hg.2.1; have h3 := hg.2.2
  rw [td_nn h1, tm_nn h1, w32_i (by omega) (by omega), w32_i (by omega) (by omega)]
  exact ⟨rfl, rfl, by omega, by omega⟩
theorem c_X_glassFingers (h1 : R1 M) (h2 : R2 M) (hg : 0 ≤ x ∧ x / 100 ≤ 4 ∧ x % 100 ≤ 30) (c0 : 0 ≤ c) (cn : c < M 64 0) (hd : 4 ≤ d) : Cl d m_X_glassFingers [(2, 0), (0, x), (0, c)] M (rI (FO M (x / 100) (x % 100) c) M) := by
  obtain ⟨t1, t2, t3, t4⟩ := gl hg
  refine (sg_X_glassFingers (d := 3) ?_).mono hd
  refine loop_up (fun v i => at_X_glassFingers_4 3 x c v i M (rI (FO M (x / 100) (x % 100) c) M)) (setB (fun f => decide (FIT M (x / 100) (x % 100) c (f : Int)))) 10 ?_ ?_
  · exact sg_X_glassFingers_4 (ite_i (fun _ => rfl) (fun q => absurd (by decide) q))
  · intro k hk ih
    refine sg_X_glassFingers_4 (ite_i (fun q => absurd q (by omega)) (fun _ => ?_))
    rw [t1, t2, w32_k (by omega)]
    refine ⟨_, c_X_fits h1 h2 t3 (by omega) t4 (by omega) c0 cn (by omega) (by omega) (by decide), ite_b (fun z => ?_) (fun z => ?_)⟩
    · rw [setB_f (dec_f z)] at ih; exact ih
    · rw [setB_t (dec_t z)] at ih; exact ih
theorem c_M_fingersOn (h1 : R1 M) (h2 : R2 M) (hs : M 64 37 = s) (hr : M 64 38 = r) (s0 : 0 ≤ s) (s5 : s ≤ 5) (r0 : 0 ≤ r) (r30 : r ≤ 30) (c0 : 0 ≤ c) (cn : c < M 64 0) (hd : 4 ≤ d) : Cl d m_M_fingersOn [(2, 64), (0, c)] M (rI (FO M s r c) M) := by
  refine (sg_M_fingersOn (d := 3) ?_).mono hd
  refine loop_up (fun v i => at_M_fingersOn_4 3 c v i M (rI (FO M s r c) M)) (setB (fun f => decide (FIT M s r c (f : Int)))) 10 ?_ ?_
  · exact sg_M_fingersOn_4 (ite_i (fun _ => rfl) (fun q => absurd (by decide) q))
  · intro k hk ih
    refine sg_M_fingersOn_4 (ite_i (fun q => absurd q (by omega)) (fun _ => ?_))
    rw [w32_k (by omega)]
    refine ⟨_, c_M_isOn h1 h2 hs hr s0 s5 r0 r30 c0 cn (by omega) (by omega) (by decide), ite_b (fun z => ?_) (fun z => ?_)⟩
    · rw [setB_f (dec_f z)] at ih; exact ih
    · rw [setB_t (dec_t z)] at ih; exact ih
theorem c_X_glassCards (h1 : R1 M) (h2 : R2 M) (hg : 0 ≤ x ∧ x / 100 ≤ 4 ∧ x % 100 ≤ 30) (hd : 5 ≤ d) : Cl d m_X_glassCards [(2, 0), (0, x)] M (rI (CO M (x / 100) (x % 100)) M) := by
  have e1 := h1.1; have e2 := h1.2.1; have e3 := h1.2.2.1
  refine (sg_X_glassCards (d := 4) ?_).mono hd
  refine loop_up (fun v i => at_X_glassCards_4 4 x v i M (rI (CO M (x / 100) (x % 100)) M)) (setB (fun c => decide (¬ FO M (x / 100) (x % 100) (c : Int) = 0))) (M 64 0).toNat ?_ ?_
  · exact sg_X_glassCards_4 (ite_i (fun _ => rfl) (fun q => absurd (by omega) q))
  · intro k hk ih
    refine sg_X_glassCards_4 (ite_i (fun q => absurd q (by omega)) (fun _ => ?_))
    rw [w32_k (by omega)]
    refine ⟨_, c_X_glassFingers h1 h2 hg (by omega) (by omega) (by decide), ite_i (fun z => ?_) (fun z => ?_)⟩
    · rw [setB_f (dec_f (fun q => q z))] at ih; exact ih
    · rw [setB_t (dec_t z)] at ih; exact ih
theorem c_M_cardsOn (h1 : R1 M) (h2 : R2 M) (hs : M 64 37 = s) (hr : M 64 38 = r) (s0 : 0 ≤ s) (s5 : s ≤ 5) (r0 : 0 ≤ r) (r30 : r ≤ 30) (hd : 5 ≤ d) : Cl d m_M_cardsOn [(2, 64)] M (rI (CO M s r) M) := by
  have e2 := h1.2.1; have e3 := h1.2.2.1
  refine (sg_M_cardsOn (d := 4) ?_).mono hd
  refine loop_up (fun v i => at_M_cardsOn_4 4 v i M (rI (CO M s r) M)) (setB (fun c => decide (¬ FO M s r (c : Int) = 0))) (M 64 0).toNat ?_ ?_
  · exact sg_M_cardsOn_4 (ite_i (fun _ => rfl) (fun q => absurd (by omega) q))
  · intro k hk ih
    refine sg_M_cardsOn_4 (ite_i (fun q => absurd q (by omega)) (fun _ => ?_))
    rw [w32_k (by omega)]
    refine ⟨_, c_M_fingersOn h1 h2 hs hr s0 s5 r0 r30 (by omega) (by omega) (by decide), ite_i (fun z => ?_) (fun z => ?_)⟩
    · rw [setB_f (dec_f (fun q => q z))] at ih; exact ih
    · rw [setB_t (dec_t z)] at ih; exact ih
theorem c_X_likeFingers (h1 : R1 M) (h2 : R2 M) (a0 : 0 ≤ a) (an : a < M 64 0) (c0 : 0 ≤ c) (cn : c < M 64 0) (hd : 4 ≤ d) : Cl d m_X_likeFingers [(2, 0), (0, a), (0, c)] M (rI (setB (fun f => decide (FIT M (M 65 (10 * a + (f : Int))) (M 66 (10 * a + (f : Int))) c (f : Int))) 10) M) := by
  have e3 := h1.2.2.1
  refine (sg_X_likeFingers (d := 3) ?_).mono hd
  refine loop_up (fun v i => at_X_likeFingers_4 3 a c v i M _) (setB (fun f => decide (FIT M (M 65 (10 * a + (f : Int))) (M 66 (10 * a + (f : Int))) c (f : Int)))) 10 ?_ ?_
  · exact sg_X_likeFingers_4 (ite_i (fun _ => rfl) (fun q => absurd (by decide) q))
  · intro k hk ih
    obtain ⟨k1, k2, k3, k4, k5, k6⟩ := h2 a k a0 an (by omega) (by omega)
    refine sg_X_likeFingers_4 (ite_i (fun q => absurd q (by omega)) (fun _ => ?_))
    rw [w32_k (by omega), k1, k2]
    refine ⟨⟨a0, by omega⟩, ⟨by omega, by omega⟩, ⟨a0, by omega⟩, ⟨by omega, by omega⟩, _, c_X_fits h1 h2 k3 k4 k5 k6 c0 cn (by omega) (by omega) (by decide), ite_b (fun z => ?_) (fun z => ?_)⟩
    · rw [setB_f (dec_f z)] at ih; exact ih
    · rw [setB_t (dec_t z)] at ih; exact ih
theorem c_M_sameFingers (h1 : R1 M) (h2 : R2 M) (a0 : 0 ≤ a) (an : a < M 64 0) (c0 : 0 ≤ c) (cn : c < M 64 0) (hd : 4 ≤ d) : Cl d m_M_sameFingers [(2, 64), (0, a), (0, c)] M (rI (cntB (fun f => decide (FIT M (M 65 (10 * a + (f : Int))) (M 66 (10 * a + (f : Int))) c (f : Int))) 10) M) := by
  refine (sg_M_sameFingers (d := 3) ?_).mono hd
  refine loop_up (fun v i => at_M_sameFingers_4 3 a c v i M _) (cntB (fun f => decide (FIT M (M 65 (10 * a + (f : Int))) (M 66 (10 * a + (f : Int))) c (f : Int)))) 10 ?_ ?_
  · exact sg_M_sameFingers_4 (ite_i (fun _ => rfl) (fun q => absurd (by decide) q))
  · intro k hk ih
    have hcn := cntB_le (fun f => decide (FIT M (M 65 (10 * a + (f : Int))) (M 66 (10 * a + (f : Int))) c (f : Int))) k
    refine sg_M_sameFingers_4 (ite_i (fun q => absurd q (by omega)) (fun _ => ?_))
    rw [w32_k (by omega)]
    refine ⟨_, c_M_isSame h1 h2 a0 an c0 cn (by omega) (by omega) (by decide), ite_b (fun z => ?_) (fun z => ?_)⟩
    · rw [cntB_f (dec_f z)] at ih; exact ih
    · rw [cntB_t (dec_t z)] at ih
      rw [w32_i (by omega) (by omega)]; exact ih
end PRINTS
