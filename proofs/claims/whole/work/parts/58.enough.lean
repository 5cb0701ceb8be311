/-! promise enough -/
section P42
variable {M : Mem} {a b n S : Int} {p c : Nat}
theorem M_ways_WA (hp : p < 13) (p1 : 1 ≤ p) (hc : c < 10) (c2 : 2 ≤ c) {k : Nat} (hk : k ≤ p) : Cl 79 m_M_ways [(0, (p : Int)), (0, (c : Int)), (0, (k : Int))] M (rL (WA p c k) M) := by
  have := c_M_ways (M := M) (d := 79) hp hc hk (by decide)
  rwa [(wa_all p hp c hc k (by omega) p1 c2 hk).1] at this
theorem enough_tail (hp : p < 13) (p1 : 1 ≤ p) (hc : c < 10) (c2 : 2 ≤ c) (n1 : 1 ≤ n) (n9 : n ≤ 9999) {w0 w1 : AV} : ∀ (m : Nat) (S found : Int) (w : AV), m ≤ p + 1 → 0 ≤ S → S ≤ 282429536481 * ((p : Int) + 1 - m) → powF (c : Int) 1 p ≤ n * S → at_M_enough_24 79 w0 w1 n (p : Int) (c : Int) S w found ((m : Int) - 1) M (rI found M)
  | 0, S, found, w, hm, s0, s1, h => sg_M_enough_24 (ite_i (fun _ => rfl) (fun t => absurd (by omega) t))
  | m + 1, S, found, w, hm, s0, s1, h => by
    obtain ⟨g1, g2, g3⟩ := wa_all p hp c hc m (by omega) p1 c2 (by omega)
    obtain ⟨h1, h2⟩ := al_all p hp c hc p1 c2
    have nS : n * (S + WA p c m) = n * S + n * WA p c m := Int.mul_add _ _ _
    have l1 : 0 ≤ n * WA p c m := Int.mul_nonneg (by omega) (by omega)
    have l2 : n * (S + WA p c m) ≤ 9999 * (282429536481 * 13) := by
      have q1 : n * (S + WA p c m) ≤ 9999 * (S + WA p c m) := Int.mul_le_mul_of_nonneg_right n9 (by omega)
      omega
    refine sg_M_enough_24 (ite_i (fun t => absurd t (by omega)) (fun _ => ?_))
    rw [show (((m + 1 : Nat) : Int) - 1) = (m : Int) by omega]
    refine ⟨_, M_ways_WA hp p1 hc c2 (by omega), _, c_M_all (by omega) (by decide), ?_⟩
    rw [w64_i (x := S + WA p c m) (by omega) (by omega), Int.mul_comm (S + WA p c m) n, w64_i (x := n * (S + WA p c m)) (by omega) (by omega), w32_i (x := (m : Int) + -1) (by omega) (by omega), show (m : Int) + -1 = (m : Int) - 1 by omega]
    refine ite_i (fun _ => ?_) (fun t => absurd (Int.not_lt.mp ((not_congr lcmp_lt).mpr (by omega))) t)
    exact enough_tail hp p1 hc c2 n1 n9 m (S + WA p c m) found _ (by omega) (by omega) (by omega) (by omega)
theorem enough_two (hp : p < 13) (p1 : 1 ≤ p) (hc : c < 10) (c2 : 2 ≤ c) (n1 : 1 ≤ n) (n9 : n ≤ 9999) {w0 w1 u0 u1 : AV} : ∀ (m : Nat) (S found : Int) (w w6 w8 : AV), ¬ w6.1 = 1 → m ≤ p + 1 → 0 ≤ S → S ≤ 282429536481 * ((p : Int) + 1 - m) → ∃ v : Int, at_X_enough_29 79 u0 u1 n (p : Int) (c : Int) (powF (c : Int) 1 p) w6 S w8 found ((m : Int) - 1) M (rI v M) ∧ at_M_enough_24 79 w0 w1 n (p : Int) (c : Int) S w found ((m : Int) - 1) M (rI v M)
  | 0, S, found, w, w6, w8, hw, hm, s0, s1 => ⟨found, sg_X_enough_29 hw (ite_i (fun _ => rfl) (fun t => absurd (by omega) t)), sg_M_enough_24 (ite_i (fun _ => rfl) (fun t => absurd (by omega) t))⟩
  | m + 1, S, found, w, w6, w8, hw, hm, s0, s1 => by
    obtain ⟨g1, g2, g3⟩ := wa_all p hp c hc m (by omega) p1 c2 (by omega)
    obtain ⟨h1, h2⟩ := al_all p hp c hc p1 c2
    have l2 : n * (S + WA p c m) ≤ 9999 * (282429536481 * 13) := by
      have q1 : n * (S + WA p c m) ≤ 9999 * (S + WA p c m) := Int.mul_le_mul_of_nonneg_right n9 (by omega)
      omega
    have l0 : 0 ≤ n * (S + WA p c m) := Int.mul_nonneg (by omega) (by omega)
    have X : ∀ v, (if lcmpI (n * (S + WA p c m)) (powF (c : Int) 1 p) < 0 then at_X_enough_29 79 u0 u1 n (p : Int) (c : Int) (powF (c : Int) 1 p) w6 (S + WA p c m) (3, 0) (m : Int) ((m : Int) - 1) M (rI v M) else rI v M = (some (0, found), M)) → at_X_enough_29 79 u0 u1 n (p : Int) (c : Int) (powF (c : Int) 1 p) w6 S w8 found (((m + 1 : Nat) : Int) - 1) M (rI v M) := fun v hv => by
      refine sg_X_enough_29 hw (ite_i (fun t => absurd t (by omega)) (fun _ => ?_))
      rw [show (((m + 1 : Nat) : Int) - 1) = (m : Int) by omega]
      refine ⟨_, c_X_waysAlike hp hc (by omega) (by decide), ?_⟩
      rw [w64_i (x := S + WA p c m) (by omega) (by omega), w64_i (x := n * (S + WA p c m)) (by omega) (by omega), w32_i (x := (m : Int) + -1) (by omega) (by omega), show (m : Int) + -1 = (m : Int) - 1 by omega]
      exact hv
    have Y : ∀ v, (if 0 ≤ lcmpI (n * (S + WA p c m)) (powF (c : Int) 1 p) then at_M_enough_24 79 w0 w1 n (p : Int) (c : Int) (S + WA p c m) (3, 0) found ((m : Int) - 1) M (rI v M) else at_M_enough_24 79 w0 w1 n (p : Int) (c : Int) (S + WA p c m) (3, 0) (m : Int) ((m : Int) - 1) M (rI v M)) → at_M_enough_24 79 w0 w1 n (p : Int) (c : Int) S w found (((m + 1 : Nat) : Int) - 1) M (rI v M) := fun v hv => by
      refine sg_M_enough_24 (ite_i (fun t => absurd t (by omega)) (fun _ => ?_))
      rw [show (((m + 1 : Nat) : Int) - 1) = (m : Int) by omega]
      refine ⟨_, M_ways_WA hp p1 hc c2 (by omega), _, c_M_all (by omega) (by decide), ?_⟩
      rw [w64_i (x := S + WA p c m) (by omega) (by omega), Int.mul_comm (S + WA p c m) n, w64_i (x := n * (S + WA p c m)) (by omega) (by omega), w32_i (x := (m : Int) + -1) (by omega) (by omega), show (m : Int) + -1 = (m : Int) - 1 by omega]
      exact hv
    by_cases q : lcmpI (n * (S + WA p c m)) (powF (c : Int) 1 p) < 0
    · obtain ⟨v, x, y⟩ := enough_two hp p1 hc c2 n1 n9 (w0 := w0) (w1 := w1) (u0 := u0) (u1 := u1) m (S + WA p c m) (m : Int) (3, 0) w6 (3, 0) hw (by omega) (by omega) (by omega)
      exact ⟨v, X v (by rw [if_pos q]; exact x), Y v (by rw [if_neg (by omega)]; exact y)⟩
    · refine ⟨found, X found (by rw [if_neg q]), Y found ?_⟩
      rw [if_pos (by omega)]
      have q := (not_congr lcmp_lt).mp q
      exact enough_tail hp p1 hc c2 n1 n9 m (S + WA p c m) found _ (by omega) (by omega) (by omega) (by omega)
theorem pk_enough (i : INV M) (ha : c32 a) : Pk m_X_enough m_M_enough [(0, a), (0, b)] M := by
  by_cases y : PTS a
  · obtain ⟨d1, d2⟩ := dm100 ha (by unfold PTS at y; omega)
    obtain ⟨p, hp⟩ : ∃ p : Nat, (p : Int) = a / 100 := ⟨(a / 100).toNat, by unfold PTS at y; omega⟩
    obtain ⟨q, hq⟩ : ∃ q : Nat, (q : Int) = a % 100 := ⟨(a % 100).toNat, by unfold PTS at y; omega⟩
    have y := id y
    unfold PTS at y
    by_cases w : 1 ≤ b ∧ b ≤ 9999
    · obtain ⟨v, x1, m1⟩ := enough_two (M := M) (p := p) (c := q) (n := b) (w0 := (2, 64)) (w1 := (0, a)) (u0 := (2, 0)) (u1 := (0, a)) (by omega) (by omega) (by omega) (by omega) w.1 w.2 (p + 1) 0 (-2) (3, 0) (3, 0) (3, 0) w30 (by omega) (by decide) (by omega)
      rw [show (((p + 1 : Nat) : Int) - 1) = (p : Int) by omega] at x1 m1
      refine ⟨v, M, M, sg_X_enough (d := 79) ⟨_, c_X_arePoints ha (by decide), ite_b (fun t => absurd ‹PTS a› t) (fun _ => ite_i (fun t => absurd t (by omega)) (fun _ => ite_i (fun _ => ?_) (fun t => absurd w.2 t)))⟩, sg_M_enough (d := 79) ⟨_, c_M_isPoints ha (by decide), ite_b (fun t => absurd ‹PTS a› t) (fun _ => ⟨_, c_M_within (by decide), ite_bn (fun _ => ?_) (fun t => absurd w t)⟩)⟩, i⟩
      · rw [d1, d2, ← hp, ← hq]
        exact ⟨_, c_X_power (by omega) (by decide), x1⟩
      · rw [d1, d2, ← hp, ← hq]
        exact m1
    · exact ⟨-1, M, M, sg_X_enough (d := 79) ⟨_, c_X_arePoints ha (by decide), ite_b (fun t => absurd ‹PTS a› t) (fun _ => ite_i (fun _ => rfl) (fun t => ite_i (fun t2 => absurd ⟨by omega, t2⟩ w) (fun _ => rfl)))⟩, sg_M_enough (d := 79) ⟨_, c_M_isPoints ha (by decide), ite_b (fun t => absurd ‹PTS a› t) (fun _ => ⟨_, c_M_within (by decide), ite_bn (fun t => absurd t w) (fun _ => rfl)⟩)⟩, i⟩
  · exact ⟨-1, M, M, sg_X_enough (d := 79) ⟨_, c_X_arePoints ha (by decide), ite_b (fun _ => rfl) (fun t => absurd t y)⟩, sg_M_enough (d := 79) ⟨_, c_M_isPoints ha (by decide), ite_b (fun _ => rfl) (fun t => absurd t y)⟩, i⟩
end P42
