/-! promise taken -/
def R11 (M : Mem) : Prop := M 46 2 = M 64 30 ∧ 0 ≤ M 64 30 ∧ M 64 30 ≤ 50 ∧ ∀ i : Int, 0 ≤ i → i < M 64 30 → M 47 i = M 82 i ∧ 0 ≤ M 82 i ∧ M 82 i < 8
def abv (l : Int) : Int := if l = 3 then 2 else if l = 4 then 1 else if l = 5 then 3 else if l = 6 then 0 else if l = 7 then 4 else 0
def rk (l : Int) : Nat := if l = 0 then 0 else if l = 3 then 2 else if l = 4 then 2 else if l = 5 then 3 else if l = 7 then 3 else 1
theorem abv_ok : ∀ l : Nat, l < 8 → ¬ l = 0 → stc 91 (l : Int) = abv (l : Int) ∧ 0 ≤ abv (l : Int) ∧ abv (l : Int) < 8 ∧ rk (abv (l : Int)) < rk (l : Int) := by decide +kernel
theorem abv_0 : stc 91 0 = -1 := by decide +kernel
theorem rk_3 : ∀ l : Nat, l < 8 → rk (l : Int) ≤ 3 := by decide +kernel
section P21
variable {M : Mem} {a b c m p s x : Int}
theorem c_M_above {d : Nat} (hd : 1 ≤ d) : Cl d m_M_above [(0, a)] M (rI (abv a) M) := by
  refine (sg_M_above (d := 0) ?_).mono hd
  unfold abv
  repeat' split
  all_goals rfl
theorem under_two {t k : Int} {w1 v0 v1 : AV} (t0 : 0 ≤ t ∧ t < 8) :
    ∀ (n l i : Nat), l < 8 → rk (l : Int) ≤ n → i + n ≤ 6 → ∃ v : Int, at_P_isUnder_4 38 w1 t (l : Int) (i : Int) M (rI v M) ∧ at_M_taken_36 39 v0 v1 t k (l : Int) M (rI (if v = 0 then -12 else k) M) := by
  intro n
  induction n with
  | zero =>
    intro l i hl hr hi
    have l0 : l = 0 := by
      refine Classical.byContradiction fun q => ?_
      have := (abv_ok l hl q).2.2.2
      omega
    subst l0
    by_cases q : ((0 : Nat) : Int) = t
    · exact ⟨1, sg_P_isUnder_4 (ite_i (fun y => absurd y (by omega)) (fun _ => ⟨_, c_P_isKind (by decide), ite_b (fun y => absurd (by omega) y) (fun _ => ite_i (fun y => absurd q y) (fun _ => rfl))⟩)), sg_M_taken_36 (ite_i (fun _ => ite_i (fun y => absurd q y) (fun _ => rfl)) (fun y => absurd q y))⟩
    · refine ⟨0, sg_P_isUnder_4 (ite_i (fun y => absurd y (by omega)) (fun _ => ⟨_, c_P_isKind (by decide), ite_b (fun y => absurd (by omega) y) (fun _ => ite_i (fun _ => ⟨⟨by omega, by omega⟩, ?_⟩) (fun y => y.elim q))⟩)), sg_M_taken_36 (ite_i (fun y => absurd y q) (fun _ => ite_i (fun _ => ite_i (fun _ => rfl) (fun y => y.elim q)) (fun y => absurd (by decide) y)))⟩
      rw [show stc 91 ((0 : Nat) : Int) = -1 from abv_0, w32_k (by omega)]
      exact sg_P_isUnder_4 (ite_i (fun y => absurd y (by omega)) (fun _ => ⟨_, c_P_isKind (by decide), ite_b (fun _ => rfl) (fun y => absurd y (by decide))⟩))
  | succ n ih =>
    intro l i hl hr hi
    by_cases q : (l : Int) = t
    · exact ⟨1, sg_P_isUnder_4 (ite_i (fun y => absurd y (by omega)) (fun _ => ⟨_, c_P_isKind (by decide), ite_b (fun y => absurd (by omega) y) (fun _ => ite_i (fun y => absurd q y) (fun _ => rfl))⟩)), sg_M_taken_36 (ite_i (fun _ => ite_i (fun y => absurd q y) (fun _ => rfl)) (fun y => absurd q y))⟩
    · by_cases l0 : l = 0
      · subst l0
        refine ⟨0, sg_P_isUnder_4 (ite_i (fun y => absurd y (by omega)) (fun _ => ⟨_, c_P_isKind (by decide), ite_b (fun y => absurd (by omega) y) (fun _ => ite_i (fun _ => ⟨⟨by omega, by omega⟩, ?_⟩) (fun y => y.elim q))⟩)), sg_M_taken_36 (ite_i (fun y => absurd y q) (fun _ => ite_i (fun _ => ite_i (fun _ => rfl) (fun y => y.elim q)) (fun y => absurd (by decide) y)))⟩
        rw [show stc 91 ((0 : Nat) : Int) = -1 from abv_0, w32_k (by omega)]
        exact sg_P_isUnder_4 (ite_i (fun y => absurd y (by omega)) (fun _ => ⟨_, c_P_isKind (by decide), ite_b (fun _ => rfl) (fun y => absurd y (by decide))⟩))
      · obtain ⟨g1, g2, g3, g4⟩ := abv_ok l hl l0
        obtain ⟨l', hl'⟩ : ∃ l' : Nat, abv (l : Int) = l' := ⟨(abv (l : Int)).toNat, by omega⟩
        rw [hl'] at g1 g2 g3 g4
        obtain ⟨v, hx, hm⟩ := ih l' (i + 1) (by omega) (by omega) (by omega)
        refine ⟨v, sg_P_isUnder_4 (ite_i (fun y => absurd y (by omega)) (fun _ => ⟨_, c_P_isKind (by decide), ite_b (fun y => absurd (by omega) y) (fun _ => ite_i (fun _ => ⟨⟨by omega, by omega⟩, ?_⟩) (fun y => y.elim q))⟩)), sg_M_taken_36 (ite_i (fun y => absurd y q) (fun _ => ite_i (fun y => absurd y (by omega)) (fun _ => ⟨_, c_M_above (by decide), ?_⟩)))⟩
        · rw [g1, w32_k (by omega)]; exact hx
        · rw [hl']; exact hm
end P21
