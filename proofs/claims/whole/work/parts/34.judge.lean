/-! promises judge, clerk -/
abbrev VA (M : Mem) (p j : Int) : Int := w32 (M 86 (60 * p + j))
abbrev SO (M : Mem) (p i x : Int) : Prop := 2 * i + 1 < M 85 p ∧ (0 ≤ VA M p (2 * i) ∧ VA M p (2 * i) < M 64 0) ∧ (0 ≤ VA M p (2 * i + 1) ∧ VA M p (2 * i + 1) < 1024) ∧ LIE M (VA M p (2 * i)) (ixor (VA M p (2 * i + 1)) x)
section P19
variable {M : Mem} {a b c m p s x : Int}
theorem c_X_isSo (h1 : R1 M) (h : R13 M) (z : 0 ≤ p ∧ p < 6) (q : M 50 p = 2) {i : Int} (i0 : 0 ≤ i) (i6 : i < 60) : Cl 38 m_X_isSo [(2, 0), (0, p), (0, i), (0, x)] M (rI (bI (SO M p i x)) M) := by
  obtain ⟨-, -, -, -, r5, r6, -⟩ := h.row z q
  have n1 := h1.1
  refine sg_X_isSo (d := 37) ⟨_, c_S_lengthOf h z q (by decide), ?_⟩
  rw [w32_i (x := 2 * i) (by omega) (by omega), w32_i (x := 2 * i + 1) (by omega) (by omega)]
  refine ite_i (fun y => ⟨_, c_S_valueAt h z q (by omega) (by omega) (by decide), _, c_S_valueAt h z q (by omega) y (by decide), _, c_C_has (by decide), ite_b (fun t => ?_) (fun t => ⟨_, c_X_isDrawer (by decide), ite_b (fun t2 => ?_) (fun t2 => ⟨_, c_C_mayLie h1 t.1 (by rw [← n1]; exact t.2) (by decide), ite_b (fun t3 => ?_) (fun t3 => ?_)⟩)⟩)⟩) (fun y => ?_)
  · rw [bI_f (fun g => t ((has_iff h1).mpr g.2.1))]
  · rw [bI_f (fun g => t2 g.2.2.1)]
  · rw [bI_f (fun g => t3 g.2.2.2)]
  · rw [bI_t ⟨y, (has_iff h1).mp t, t2, t3⟩]
  · rw [bI_f (fun g => y g.1)]
theorem wrong_two (h1 : R1 M) (h3 : R3 M) (h : R13 M) (z : 0 ≤ p ∧ p < 6) (q : M 50 p = 2) :
    ∀ (j k : Nat), (k : Int) + j = (M 85 p + 1) / 2 → ∃ v, at_X_firstWrong_11 38 p x ((M 85 p + 1) / 2) (k : Int) M (rI v M) ∧ at_M_wrongTwo_2 38 p x (2 * (k : Int)) M (rI v M)
  | 0, k, hk => by
    exact ⟨-2, sg_X_firstWrong_11 (ite_i (fun _ => rfl) (fun y => absurd (by omega) y)), sg_M_wrongTwo_2 ⟨z, ite_i (fun _ => rfl) (fun y => absurd (by omega) y)⟩⟩
  | j + 1, k, hk => by
    obtain ⟨-, -, -, -, r5, r6, -⟩ := h.row z q
    obtain ⟨v, hx, hm⟩ := wrong_two h1 h3 h z q j (k + 1) (by omega)
    rw [show (((k + 1 : Nat)) : Int) = (k : Int) + 1 by omega] at hx hm
    have k3 : (k : Int) < 31 := by omega
    have w2 : True → w32 (2 * (k : Int) + 1) = 2 * (k : Int) + 1 := fun _ => w32_i (by omega) (by omega)
    have w3 : True → w32 (2 * (k : Int) + 2) = 2 * ((k : Int) + 1) := fun _ => by rw [w32_i (by omega) (by omega)]; omega
    have wd : True → w32 (Int.tdiv (2 * (k : Int)) 2) = (k : Int) := fun _ => by rw [td_nn (by omega), w32_i (by omega) (by omega)]; omega
    have w1 : True → w32 ((k : Int) + 1) = (k : Int) + 1 := fun _ => w32_k (by omega)
    have so := c_X_isSo (x := x) h1 h z q (i := (k : Int)) (by omega) (by omega)
    have t0 : 2 * (k : Int) < 60 → Cl 38 m_M_told [(2, 64), (0, p), (0, 2 * (k : Int))] M (rI (VA M p (2 * (k : Int))) M) := fun g => c_M_told z (by omega) g (by decide)
    have t1 : 2 * (k : Int) + 1 < 60 → Cl 38 m_M_told [(2, 64), (0, p), (0, 2 * (k : Int) + 1)] M (rI (VA M p (2 * (k : Int) + 1)) M) := fun g => c_M_told z (by omega) g (by decide)
    have X : ∀ v0, (SO M p (k : Int) x → v0 = v) → (¬ SO M p (k : Int) x → v0 = k) → at_X_firstWrong_11 38 p x ((M 85 p + 1) / 2) (k : Int) M (rI v0 M) := fun v0 g1 g2 => by
      refine sg_X_firstWrong_11 (ite_i (fun y => absurd y (by omega)) (fun _ => ⟨_, so, ite_bn (fun y => ?_) (fun y => ?_)⟩))
      · rw [w1 trivial, g1 y]; exact hx
      · rw [g2 y]
    have Y : ∀ v0, (SO M p (k : Int) x → v0 = v) → (¬ SO M p (k : Int) x → v0 = k) → at_M_wrongTwo_2 38 p x (2 * (k : Int)) M (rI v0 M) := fun v0 g1 g2 => by
      refine sg_M_wrongTwo_2 ⟨z, ite_i (fun y => absurd y (by omega)) (fun _ => ⟨z, ?_⟩)⟩
      rw [w2 trivial, w3 trivial, wd trivial]
      refine ite_i (fun y => ?_) (fun y => ⟨_, t0 (by omega), _, c_M_isCard h1 (by decide), ite_b (fun t => ?_) (fun t => ⟨_, t1 (by omega), _, c_M_isDrawer (by decide), ite_b (fun t2 => ?_) (fun t2 => ⟨_, t0 (by omega), _, t1 (by omega), _, c_M_isIn h1 h3 t.1 t.2 (by decide), ite_bn (fun t3 => ?_) (fun t3 => ?_)⟩)⟩)⟩)
      · rw [g2 (fun g => absurd g.1 (by omega))]
      · rw [g2 (fun g => t g.2.1)]
      · rw [g2 (fun g => t2 g.2.2.1)]
      · rw [g1 ⟨by omega, t, t2, t3⟩]; exact hm
      · rw [g2 (fun g => t3 g.2.2.2)]
    by_cases y : SO M p (k : Int) x
    · exact ⟨v, X _ (fun _ => rfl) (fun t => absurd y t), Y _ (fun _ => rfl) (fun t => absurd y t)⟩
    · exact ⟨k, X _ (fun t => absurd t y) (fun _ => rfl), Y _ (fun t => absurd t y) (fun _ => rfl)⟩
theorem wrong_eq (h1 : R1 M) (h3 : R3 M) (h : R13 M) (z : 0 ≤ p ∧ p < 6) (q : M 50 p = 2) (x : Int) : ∃ v : Int, Cl 39 m_X_firstWrong [(2, 0), (0, p), (0, x)] M (rI v M) ∧ Cl 39 m_M_wrongTwo [(2, 64), (0, p), (0, x)] M (rI v M) := by
  obtain ⟨-, -, -, -, r5, r6, -⟩ := h.row z q
  obtain ⟨v, hx, hm⟩ := wrong_two (x := x) h1 h3 h z q ((M 85 p + 1) / 2).toNat 0 (by omega)
  refine ⟨v, sg_X_firstWrong (d := 38) ⟨_, c_S_lengthOf h z q (by decide), ?_⟩, sg_M_wrongTwo (d := 38) hm⟩
  rw [w32_i (x := M 85 p + 1) (by omega) (by omega), td_nn (by omega), w32_i (by omega) (by omega)]
  exact hx
theorem pr_judge (h1 : R1 M) (h3 : R3 M) (h : R13 M) : Bo m_X_judge m_M_judge [(0, a)] M := by
  rcases rowTwo h (s := 1) (by decide) a with ⟨v, v0, rx, q | ⟨z, rm⟩⟩ | ⟨z, q1, q2, rx, rm⟩
  · exact ⟨v, sg_X_judge (d := 39) ⟨_, rx, ite_i (fun t => absurd t (by omega)) (fun _ => rfl)⟩, sg_M_judge (d := 39) ⟨_, c_M_isShelf (by decide), ite_bn (fun t => absurd t q.1) (fun _ => by rw [q.2])⟩⟩
  · exact ⟨v, sg_X_judge (d := 39) ⟨_, rx, ite_i (fun t => absurd t (by omega)) (fun _ => rfl)⟩, sg_M_judge (d := 39) ⟨_, c_M_isShelf (by decide), ite_bn (fun _ => ⟨_, rm, ite_i (fun t => absurd t (by omega)) (fun _ => rfl)⟩) (fun t => absurd z t)⟩⟩
  · obtain ⟨v, hx, hm⟩ := wrong_eq h1 h3 h z q1 0
    exact ⟨v, sg_X_judge (d := 39) ⟨_, rx, ite_i (fun _ => ⟨_, hx, rfl⟩) (fun t => absurd rfl t)⟩, sg_M_judge (d := 39) ⟨_, c_M_isShelf (by decide), ite_bn (fun _ => ⟨_, rm, ite_i (fun _ => ⟨_, hm, rfl⟩) (fun t => absurd (by decide) t)⟩) (fun t => absurd z t)⟩⟩
theorem clerk_loop (h1 : R1 M) (h3 : R3 M) (h : R13 M) (z : 0 ≤ p ∧ p < 6) (q : M 50 p = 2) : ∀ (j k : Nat), k + j = 10 → ∃ v, at_X_clerk_20 39 p (0, 0) (k : Int) M (rI v M) ∧ at_M_clerk_24 39 p (0, 0) (k : Int) M (rI v M)
  | 0, k, hk => ⟨-2, sg_X_clerk_20 w01 (ite_i (fun _ => rfl) (fun y => absurd (by omega) y)), sg_M_clerk_24 w01 (ite_i (fun _ => rfl) (fun y => absurd (by omega) y))⟩
  | j + 1, k, hk => by
    obtain ⟨u, ux, um⟩ := wrong_eq h1 h3 h z q (dbit k)
    obtain ⟨v, hx, hm⟩ := clerk_loop h1 h3 h z q j (k + 1) (by omega)
    rw [show (((k + 1 : Nat)) : Int) = (k : Int) + 1 by omega] at hx hm
    by_cases y : u = -2
    · exact ⟨k, sg_X_clerk_20 w01 (ite_i (fun t => absurd t (by omega)) (fun _ => ⟨_, c_X_drawerBit (by omega) (by decide), _, ux, ite_i (fun t => absurd y t) (fun _ => rfl)⟩)), sg_M_clerk_24 w01 (ite_i (fun t => absurd t (by omega)) (fun _ => ⟨_, c_M_bitOf (by omega) (by decide), _, um, ite_i (fun t => absurd y t) (fun _ => rfl)⟩))⟩
    · refine ⟨v, sg_X_clerk_20 w01 (ite_i (fun t => absurd t (by omega)) (fun _ => ⟨_, c_X_drawerBit (by omega) (by decide), _, ux, ite_i (fun _ => ?_) (fun t => t.elim y)⟩)), sg_M_clerk_24 w01 (ite_i (fun t => absurd t (by omega)) (fun _ => ⟨_, c_M_bitOf (by omega) (by decide), _, um, ite_i (fun _ => ?_) (fun t => t.elim y)⟩))⟩
      · rw [w32_k (by omega)]; exact hx
      · rw [w32_k (by omega)]; exact hm
theorem pr_clerk (h1 : R1 M) (h3 : R3 M) (h : R13 M) : Bo m_X_clerk m_M_clerk [(0, a)] M := by
  rcases rowTwo h (s := 1) (by decide) a with ⟨v, v0, rx, q | ⟨z, rm⟩⟩ | ⟨z, q1, q2, rx, rm⟩
  · exact ⟨v, sg_X_clerk (d := 39) ⟨_, rx, ite_i (fun t => absurd t (by omega)) (fun _ => rfl)⟩, sg_M_clerk (d := 39) ⟨_, c_M_isShelf (by decide), ite_bn (fun t => absurd t q.1) (fun _ => by rw [q.2])⟩⟩
  · exact ⟨v, sg_X_clerk (d := 39) ⟨_, rx, ite_i (fun t => absurd t (by omega)) (fun _ => rfl)⟩, sg_M_clerk (d := 39) ⟨_, c_M_isShelf (by decide), ite_bn (fun _ => ⟨_, rm, ite_i (fun t => absurd t (by omega)) (fun _ => rfl)⟩) (fun t => absurd z t)⟩⟩
  · obtain ⟨u, ux, um⟩ := wrong_eq h1 h3 h z q1 0
    obtain ⟨v, hx, hm⟩ := clerk_loop h1 h3 h z q1 10 0 rfl
    by_cases y : u = -2
    · exact ⟨-3, sg_X_clerk (d := 39) ⟨_, rx, ite_i (fun _ => ⟨_, ux, ite_i (fun t => absurd y t) (fun _ => rfl)⟩) (fun t => absurd rfl t)⟩, sg_M_clerk (d := 39) ⟨_, c_M_isShelf (by decide), ite_bn (fun _ => ⟨_, rm, ite_i (fun _ => ⟨_, um, ite_i (fun t => absurd y t) (fun _ => rfl)⟩) (fun t => absurd (by decide) t)⟩) (fun t => absurd z t)⟩⟩
    · exact ⟨v, sg_X_clerk (d := 39) ⟨_, rx, ite_i (fun _ => ⟨_, ux, ite_i (fun _ => hx) (fun t => t.elim y)⟩) (fun t => absurd rfl t)⟩, sg_M_clerk (d := 39) ⟨_, c_M_isShelf (by decide), ite_bn (fun _ => ⟨_, rm, ite_i (fun _ => ⟨_, um, ite_i (fun _ => hm) (fun t => t.elim y)⟩) (fun t => absurd (by decide) t)⟩) (fun t => absurd z t)⟩⟩
end P19
