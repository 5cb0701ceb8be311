/-! promises isTrue, who, element -/
/-- both give the long v, nothing is written -/
def BoL (x y : Nat) (as : List AV) (M : Mem) : Prop := ∃ v : Int, Cl 40 x ((2, 0) :: as) M (rL v M) ∧ Cl 40 y ((2, 64) :: as) M (rL v M)
section P18
variable {M : Mem} {a b c m p s x : Int}
theorem pr_isTrue (h1 : R1 M) (h2 : R2 M) (h : R13 M) : Bo m_X_isTrue m_M_isTrue [(0, a), (0, b)] M := by
  by_cases y : 0 ≤ b ∧ b < M 64 0
  · rcases rowTwo h (s := 0) (by decide) a with ⟨v, v0, rx, q | ⟨z, rm⟩⟩ | ⟨z, q1, q2, rx, rm⟩
    · exact ⟨v, sg_X_isTrue (d := 39) ⟨_, c_C_has (by decide), ite_bn (fun _ => ⟨_, rx, ite_i (fun t => absurd t (by omega)) (fun _ => rfl)⟩) (fun t => absurd ((has_iff h1).mpr y) t)⟩, sg_M_isTrue (d := 39) ⟨_, c_M_isShelf (by decide), ite_b (fun _ => by rw [q.2]) (fun t => absurd t q.1)⟩⟩
    · exact ⟨v, sg_X_isTrue (d := 39) ⟨_, c_C_has (by decide), ite_bn (fun _ => ⟨_, rx, ite_i (fun t => absurd t (by omega)) (fun _ => rfl)⟩) (fun t => absurd ((has_iff h1).mpr y) t)⟩, sg_M_isTrue (d := 39) ⟨_, c_M_isShelf (by decide), ite_b (fun t => absurd z t) (fun _ => ⟨_, c_M_isCard h1 (by decide), ite_bn (fun _ => ⟨_, rm, ite_i (fun t => absurd t (by omega)) (fun _ => rfl)⟩) (fun t => absurd y t)⟩)⟩⟩
    · obtain ⟨v, hx, hm⟩ := unlike_eq h1 h2 h z q1 q2 y.1 y.2
      exact ⟨v, sg_X_isTrue (d := 39) ⟨_, c_C_has (by decide), ite_bn (fun _ => ⟨_, rx, ite_i (fun _ => ⟨_, hx, rfl⟩) (fun t => absurd rfl t)⟩) (fun t => absurd ((has_iff h1).mpr y) t)⟩, sg_M_isTrue (d := 39) ⟨_, c_M_isShelf (by decide), ite_b (fun t => absurd z t) (fun _ => ⟨_, c_M_isCard h1 (by decide), ite_bn (fun _ => ⟨_, rm, ite_i (fun _ => ⟨_, hm, rfl⟩) (fun t => absurd (by decide) t)⟩) (fun t => absurd y t)⟩)⟩⟩
  · exact ⟨-1, sg_X_isTrue (d := 39) ⟨_, c_C_has (by decide), ite_bn (fun t => absurd ((has_iff h1).mp t) y) (fun _ => rfl)⟩, sg_M_isTrue (d := 39) ⟨_, c_M_isShelf (by decide), ite_b (fun _ => rfl) (fun _ => ⟨_, c_M_isCard h1 (by decide), ite_bn (fun t => absurd t y) (fun _ => rfl)⟩)⟩⟩
theorem who_loop (h1 : R1 M) (h2 : R2 M) (h : R13 M) (z : 0 ≤ p ∧ p < 6) (q : M 50 p = 2) (qs : M 52 p = 0) : ∀ (j k : Nat) (acc : Int), (k : Int) + j = M 64 0 → ∃ v, at_X_who_14 39 p (0, 0) acc (k : Int) M (rI v M) ∧ at_M_who_18 39 p (0, 0) acc (k : Int) M (rI v M)
  | 0, k, acc, hk => by
    have e1 := h1.1
    exact ⟨acc, sg_X_who_14 w01 (ite_i (fun _ => rfl) (fun y => absurd (by omega) y)), sg_M_who_18 w01 (ite_i (fun _ => rfl) (fun y => absurd (by omega) y))⟩
  | j + 1, k, acc, hk => by
    have e1 := h1.1; have e3 := h1.2.2.1
    obtain ⟨u, ux, um⟩ := unlike_eq h1 h2 h z q qs (c := (k : Int)) (by omega) (by omega)
    obtain ⟨v1, x1, m1⟩ := who_loop h1 h2 h z q qs j (k + 1) acc (by omega)
    obtain ⟨v2, x2, m2⟩ := who_loop h1 h2 h z q qs j (k + 1) (ior acc (ishl 1 (k : Int))) (by omega)
    rw [show (((k + 1 : Nat)) : Int) = (k : Int) + 1 by omega] at x1 m1 x2 m2
    by_cases y : u = -2
    · refine ⟨v2, sg_X_who_14 w01 (ite_i (fun t => absurd t (by omega)) (fun _ => ⟨_, ux, ite_i (fun t => absurd y t) (fun _ => ?_)⟩)), sg_M_who_18 w01 (ite_i (fun t => absurd t (by omega)) (fun _ => ⟨_, um, ite_i (fun t => absurd y t) (fun _ => ?_)⟩))⟩
      · rw [w32_k (by omega)]; exact x2
      · rw [w32_k (by omega)]; exact m2
    · refine ⟨v1, sg_X_who_14 w01 (ite_i (fun t => absurd t (by omega)) (fun _ => ⟨_, ux, ite_i (fun _ => ?_) (fun t => t.elim y)⟩)), sg_M_who_18 w01 (ite_i (fun t => absurd t (by omega)) (fun _ => ⟨_, um, ite_i (fun _ => ?_) (fun t => t.elim y)⟩))⟩
      · rw [w32_k (by omega)]; exact x1
      · rw [w32_k (by omega)]; exact m1
theorem pr_who (h1 : R1 M) (h2 : R2 M) (h : R13 M) : Bo m_X_who m_M_who [(0, a)] M := by
  have e2 := h1.2.1
  rcases rowTwo h (s := 0) (by decide) a with ⟨v, v0, rx, q | ⟨z, rm⟩⟩ | ⟨z, q1, q2, rx, rm⟩
  · exact ⟨v, sg_X_who (d := 39) ⟨_, rx, ite_i (fun t => absurd t (by omega)) (fun _ => rfl)⟩, sg_M_who (d := 39) ⟨_, c_M_isShelf (by decide), ite_bn (fun t => absurd t q.1) (fun _ => by rw [q.2])⟩⟩
  · exact ⟨v, sg_X_who (d := 39) ⟨_, rx, ite_i (fun t => absurd t (by omega)) (fun _ => rfl)⟩, sg_M_who (d := 39) ⟨_, c_M_isShelf (by decide), ite_bn (fun _ => ⟨_, rm, ite_i (fun t => absurd t (by omega)) (fun _ => rfl)⟩) (fun t => absurd z t)⟩⟩
  · obtain ⟨v, hx, hm⟩ := who_loop h1 h2 h z q1 q2 (M 64 0).toNat 0 0 (by omega)
    exact ⟨v, sg_X_who (d := 39) ⟨_, rx, ite_i (fun _ => hx) (fun t => absurd rfl t)⟩, sg_M_who (d := 39) ⟨_, c_M_isShelf (by decide), ite_bn (fun _ => ⟨_, rm, ite_i (fun _ => hm) (fun t => absurd (by decide) t)⟩) (fun t => absurd z t)⟩⟩
/-- a row of any sort -/
theorem rowAny (h : R13 M) (p : Int) :
    (∃ v : Int, v < 0 ∧ Cl 38 m_S_rowRefusal [(2, 49), (0, p), (0, -1)] M (rI v M) ∧ ((¬ (0 ≤ p ∧ p < 6) ∧ v = -1) ∨ ((0 ≤ p ∧ p < 6) ∧ M 84 p = -1 ∧ v = -11) ∨ ((0 ≤ p ∧ p < 6) ∧ 4 < M 84 p ∧ v = -12))) ∨
    ((0 ≤ p ∧ p < 6) ∧ M 50 p = 2 ∧ 0 ≤ M 84 p ∧ M 84 p ≤ 4 ∧ Cl 38 m_S_rowRefusal [(2, 49), (0, p), (0, -1)] M (rI 0 M)) := by
  by_cases z : 0 ≤ p ∧ p < 6
  · rcases h p z.1 z.2 with ⟨q1, q2⟩ | ⟨q1, q2, q3, q4⟩ | ⟨q1, q2, q3, q4, -⟩
    · exact Or.inl ⟨-11, by decide, sg_S_rowRefusal (d := 37) ⟨_, c_S_has (by decide), ite_bn (fun _ => ⟨z, ite_i (fun q => absurd q1 q) (fun _ => rfl)⟩) (fun q => absurd z q)⟩, Or.inr (Or.inl ⟨z, q2, rfl⟩)⟩
    · exact Or.inl ⟨-12, by decide, sg_S_rowRefusal (d := 37) ⟨_, c_S_has (by decide), ite_bn (fun _ => ⟨z, ite_i (fun _ => ⟨z, ite_i (fun _ => rfl) (fun q => absurd (by omega) q)⟩) (fun q => absurd (by omega) q)⟩) (fun q => absurd z q)⟩, Or.inr (Or.inr ⟨z, by omega, rfl⟩)⟩
    · exact Or.inr ⟨z, q1, by omega, by omega, sg_S_rowRefusal (d := 37) ⟨_, c_S_has (by decide), ite_bn (fun _ => ⟨z, ite_i (fun _ => ⟨z, ite_i (fun q => absurd q1 q) (fun _ => ite_i (fun _ => rfl) (fun q => absurd rfl q))⟩) (fun q => absurd (by omega) q)⟩) (fun q => absurd z q)⟩⟩
  · exact Or.inl ⟨-1, by decide, sg_S_rowRefusal (d := 37) ⟨_, c_S_has (by decide), ite_bn (fun q => absurd q z) (fun _ => rfl)⟩, Or.inl ⟨z, rfl⟩⟩
theorem c_M_isRow (z : 0 ≤ p ∧ p < 6) : Cl 39 m_M_isRow [(2, 64), (0, p)] M (rI (bI (0 ≤ M 84 p ∧ M 84 p ≤ 4)) M) :=
  sg_M_isRow (d := 38) ⟨z, _, c_M_within (by decide), bI_01, rfl⟩
theorem pr_element (h : R13 M) : BoL m_X_element m_M_element [(0, a), (0, b)] M := by
  have no : ∀ v : Int, ¬ v = 0 → Cl 39 m_X_placeRefusal [(2, 0), (0, a), (0, b)] M (rI v M) → Cl 40 m_X_element [(2, 0), (0, a), (0, b)] M (rL (-9223372036854775808) M) := fun v v0 r =>
    sg_X_element (d := 39) ⟨_, r, ite_i (fun _ => rfl) (fun t => t.elim v0)⟩
  rcases rowAny h a with ⟨v, v0, rx, q⟩ | ⟨z, q1, q2, q3, rx⟩
  · refine ⟨_, no v (by omega) (sg_X_placeRefusal (d := 38) ⟨_, rx, ite_i (fun t => absurd t (by omega)) (fun _ => rfl)⟩), sg_M_element (d := 39) ⟨_, c_M_isShelf (by decide), ite_b (fun _ => rfl) (fun z => ⟨_, c_M_isRow z, ite_b (fun _ => rfl) (fun t => absurd q (by omega))⟩)⟩⟩
  · obtain ⟨-, -, -, -, r5, r6, r⟩ := h.row z q1
    have ww : w32 (M 85 a - 1) = M 85 a - 1 := w32_i (by omega) (by omega)
    by_cases y : 0 ≤ b ∧ b < M 85 a
    · refine ⟨M 86 (60 * a + b), sg_X_element (d := 39) ⟨_, sg_X_placeRefusal (d := 38) ⟨_, rx, ite_i (fun _ => ite_i (fun t => absurd t (by omega)) (fun _ => ⟨_, c_S_lengthOf h z q1 (by decide), ite_i (fun _ => rfl) (fun t => absurd y.2 t)⟩)) (fun t => absurd rfl t)⟩, ite_i (fun t => absurd rfl t) (fun _ => ⟨_, c_S_valueAt h z q1 y.1 y.2 (by decide), rfl⟩)⟩, sg_M_element (d := 39) ⟨_, c_M_isShelf (by decide), ite_b (fun t => absurd z t) (fun _ => ⟨_, c_M_isRow z, ite_b (fun t => absurd ⟨q2, q3⟩ t) (fun _ => ⟨z, _, c_M_within (by decide), ite_b (fun t => absurd ⟨y.1, by omega⟩ t) (fun _ => ?_)⟩)⟩)⟩⟩
      rw [ix60 z y.1 (by omega)]
      exact ⟨⟨by omega, by omega⟩, rfl⟩
    · refine ⟨_, no (-13) (by decide) (sg_X_placeRefusal (d := 38) ⟨_, rx, ite_i (fun _ => ite_i (fun _ => rfl) (fun t => ⟨_, c_S_lengthOf h z q1 (by decide), ite_i (fun t2 => absurd ⟨by omega, t2⟩ y) (fun _ => rfl)⟩)) (fun t => absurd rfl t)⟩), sg_M_element (d := 39) ⟨_, c_M_isShelf (by decide), ite_b (fun _ => rfl) (fun _ => ⟨_, c_M_isRow z, ite_b (fun _ => rfl) (fun _ => ⟨z, _, c_M_within (by decide), ite_b (fun _ => rfl) (fun t => absurd ⟨t.1, by omega⟩ y)⟩)⟩)⟩⟩
end P18
