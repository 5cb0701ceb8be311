/-! promise card; the invariant behind new cards -/
def TCc (n : Int) (o : Nat) (i : Int) : Prop := (o = 1 ∧ i = 5) ∨ ((o = 28 ∨ o = 29 ∨ o = 30) ∧ n ≤ i) ∨ (3 ≤ o ∧ o ≤ 14 ∧ 3 + n ≤ (o : Int)) ∨ (16 ≤ o ∧ o ≤ 27 ∧ 16 + n ≤ (o : Int))
def TMm (n : Int) (o : Nat) (i : Int) : Prop := (o = 64 ∧ i = 0) ∨ ((o = 65 ∨ o = 66) ∧ 10 * n ≤ i) ∨ (o = 67 ∧ n ≤ i)
/-- the class with k cards more than M -/
def CC (M : Mem) (k : Int) (sv rv : Int → Int → Int) (C : Mem) : Prop := To (TCc (M 64 0)) M C ∧ C 1 5 = M 64 0 + k ∧ (∀ j : Int, 0 ≤ j → j < k → C 30 (M 64 0 + j) = -2000000000 ∧ CK C (M 64 0 + j) (sv j) (rv j)) ∧ ∀ c : Int, M 64 0 + k ≤ c → c < 12 → C 28 c = 0 ∧ C 29 c = 0
/-- the model with k cards more than M -/
def MM (M : Mem) (k : Int) (sv rv : Int → Int → Int) (N : Mem) : Prop := N 64 0 = M 64 0 + k ∧ ∀ j : Int, 0 ≤ j → j < k → N 67 (M 64 0 + j) = -2000000000 ∧ ∀ f : Int, 0 ≤ f → f < 10 → N 65 (10 * (M 64 0 + j) + f) = sv j f ∧ N 66 (10 * (M 64 0 + j) + f) = rv j f
theorem VC_mono {n n' a b c : Int} (h : VC n a b c) (l : n ≤ n') : VC n' a b c := by
  unfold VC at h ⊢
  omega
section P32
variable {M N C : Mem} {a b c j n p s u v x y T k : Int} {sv rv : Int → Int → Int}
theorem cards_inv (i : INV M) (k0 : 0 ≤ k) (k12 : M 64 0 + k ≤ 12) (hC : CC M k sv rv C) (t : To (TMm (M 64 0)) C N) (hN : MM M k sv rv N) (ok : ∀ j f : Int, 0 ≤ j → j < k → 0 ≤ f → f < 10 → (0 ≤ sv j f ∧ sv j f ≤ 5) ∧ (0 ≤ rv j f ∧ rv j f ≤ 30)) : INV N := by
  obtain ⟨c1, c2, c3, c4⟩ := hC
  obtain ⟨n1, n2⟩ := hN
  obtain ⟨e1, e2, e3, e4, e5, e6⟩ := i.1
  have tt : ∀ (o : Nat) (i : Int), ¬ TCc (M 64 0) o i → ¬ TMm (M 64 0) o i → N o i = M o i := fun o i q1 q2 => by rw [t o i q2, c1 o i q1]
  refine i.cardsx (fun o i q => tt o i (fun z => q (by unfold TCc at z; unfold TC; omega)) (fun z => q (by unfold TMm at z; unfold TC; omega))) ?_ ?_ ?_ ?_ ?_ ?_ ?_
  · unfold R1
    rw [t 1 5 (by unfold TMm; omega), c2, n1, tt 1 6 (by unfold TCc; omega) (by unfold TMm; omega), tt 64 4 (by unfold TCc; omega) (by unfold TMm; omega)]
    exact ⟨rfl, by omega, by omega, e4, e5, e6⟩
  · intro c f c0 cn f0 f9
    rw [n1] at cn
    by_cases q : c < M 64 0
    · rw [tt ((3 + c).toNat) f (by unfold TCc; omega) (by unfold TMm; omega), tt ((16 + c).toNat) f (by unfold TCc; omega) (by unfold TMm; omega), tt 65 (10 * c + f) (by unfold TCc; omega) (by unfold TMm; omega), tt 66 (10 * c + f) (by unfold TCc; omega) (by unfold TMm; omega)]
      exact i.2.1 c f c0 q f0 f9
    · obtain ⟨-, -, h2⟩ := c3 (c - M 64 0) (by omega) (by omega)
      obtain ⟨-, g2⟩ := n2 (c - M 64 0) (by omega) (by omega)
      have o := ok (c - M 64 0) f (by omega) (by omega) f0 f9
      have h2 := h2 f f0 f9
      have g2 := g2 f f0 f9
      rw [show M 64 0 + (c - M 64 0) = c by omega] at h2 g2
      rw [t ((3 + c).toNat) f (by unfold TMm; omega), t ((16 + c).toNat) f (by unfold TMm; omega), h2.1, h2.2, g2.1, g2.2]
      exact ⟨rfl, rfl, o.1.1, o.1.2, o.2.1, o.2.2⟩
  · intro c c0 cn
    rw [n1] at cn
    by_cases q : c < M 64 0
    · rw [tt 28 c (by unfold TCc; omega) (by unfold TMm; omega), tt 29 c (by unfold TCc; omega) (by unfold TMm; omega)]
      obtain ⟨g1, g2, g3⟩ := i.2.2.1 c c0 q
      refine ⟨g1, g2, fun b hb => ?_⟩
      by_cases z : b < 10
      · have := fp_lt z
        rw [tt 65 (10 * c + (fp b : Int)) (by unfold TCc; omega) (by unfold TMm; omega)]
        exact g3 b hb
      · have := g3 b hb
        simp [z] at this ⊢
        exact this
    · obtain ⟨-, h1, h2⟩ := c3 (c - M 64 0) (by omega) (by omega)
      obtain ⟨-, g2⟩ := n2 (c - M 64 0) (by omega) (by omega)
      rw [show M 64 0 + (c - M 64 0) = c by omega] at h1 h2 g2
      rw [t 28 c (by unfold TMm; omega), t 29 c (by unfold TMm; omega)]
      have := h1.congr (g' := fun f => N 65 (10 * c + f)) (fun f f0 f9 => by rw [(h2 f f0 f9).1, (g2 f f0 f9).1])
      exact this
  · intro c c0 cn
    rw [n1] at cn
    by_cases q : c < M 64 0
    · rw [tt 30 c (by unfold TCc; omega) (by unfold TMm; omega), tt 67 c (by unfold TCc; omega) (by unfold TMm; omega)]
      exact i.2.2.2.1 c c0 q
    · obtain ⟨h1, -⟩ := c3 (c - M 64 0) (by omega) (by omega)
      obtain ⟨g1, -⟩ := n2 (c - M 64 0) (by omega) (by omega)
      rw [show M 64 0 + (c - M 64 0) = c by omega] at h1 g1
      rw [t 30 c (by unfold TMm; omega), h1, g1]
      exact ⟨rfl, Or.inl rfl⟩
  · obtain ⟨r1, r2, r3, r4, r5, r6⟩ := i.2.2.2.2.2.2.1
    unfold R8
    rw [tt 37 4 (by unfold TCc; omega) (by unfold TMm; omega), tt 37 5 (by unfold TCc; omega) (by unfold TMm; omega), tt 64 28 (by unfold TCc; omega) (by unfold TMm; omega), tt 64 27 (by unfold TCc; omega) (by unfold TMm; omega), n1, show N 81 = M 81 from funext fun i => tt 81 i (by unfold TCc; omega) (by unfold TMm; omega), show N 38 = M 38 from funext fun i => tt 38 i (by unfold TCc; omega) (by unfold TMm; omega), show N 39 = M 39 from funext fun i => tt 39 i (by unfold TCc; omega) (by unfold TMm; omega), show N 40 = M 40 from funext fun i => tt 40 i (by unfold TCc; omega) (by unfold TMm; omega), show N 41 = M 41 from funext fun i => tt 41 i (by unfold TCc; omega) (by unfold TMm; omega)]
    refine ⟨r1, r2, r3, r4, r5, fun q q0 q1 => ?_⟩
    obtain ⟨s1, s2, s3, s4, s5, s6⟩ := r6 q q0 q1
    exact ⟨s1, s2, s3, s4, VC_mono s5 (by omega), VC_mono s6 (by omega)⟩
  · obtain ⟨r1, r2⟩ := i.2.2.2.2.2.2.2.2.1
    unfold R10
    rw [tt 42 4 (by unfold TCc; omega) (by unfold TMm; omega), tt 42 3 (by unfold TCc; omega) (by unfold TMm; omega), tt 64 23 (by unfold TCc; omega) (by unfold TMm; omega), tt 64 25 (by unfold TCc; omega) (by unfold TMm; omega), n1, show N 44 = M 44 from funext fun i => tt 44 i (by unfold TCc; omega) (by unfold TMm; omega), show N 45 = M 45 from funext fun i => tt 45 i (by unfold TCc; omega) (by unfold TMm; omega), show N 79 = M 79 from funext fun i => tt 79 i (by unfold TCc; omega) (by unfold TMm; omega), show N 80 = M 80 from funext fun i => tt 80 i (by unfold TCc; omega) (by unfold TMm; omega)]
    refine ⟨r1, r2.imp id (fun q => ⟨q.1, q.2.1, q.2.2.1, by have := q.2.2.2.1; omega, q.2.2.2.2⟩)⟩
  · intro c c0 cn
    rw [n1] at c0
    rw [t 28 c (by unfold TMm; omega), t 29 c (by unfold TMm; omega)]
    exact c4 c c0 cn
/-- one plain card more in the class -/
theorem CC_plain (e2 : 0 ≤ M 64 0) (k0 : 0 ≤ k) (k12 : M 64 0 + k < 12) (hC : CC M k sv rv C) : ∃ C', Cl 39 m_C_addPlain [(2, 1)] C (rI (M 64 0 + k) C') ∧ To (TCc (M 64 0)) M C' ∧ C' 1 5 = M 64 0 + (k + 1) ∧ (∀ j : Int, 0 ≤ j → j < k → C' 30 (M 64 0 + j) = -2000000000 ∧ CK C' (M 64 0 + j) (sv j) (rv j)) ∧ C' 30 (M 64 0 + k) = -2000000000 ∧ CK C' (M 64 0 + k) (fun _ => 1) (fun _ => 10) ∧ ∀ c : Int, M 64 0 + (k + 1) ≤ c → c < 12 → C' 28 c = 0 ∧ C' 29 c = 0 := by
  obtain ⟨c1, c2, c3, c4⟩ := hC
  obtain ⟨C', g1, g2, g3, g4, g5⟩ := c_C_addPlain (M := C) (by omega) (by omega) (by rw [c2]; exact (c4 _ (Int.le_refl _) k12).1) (by rw [c2]; exact (c4 _ (Int.le_refl _) k12).2)
  rw [c2] at g1 g2 g3 g4 g5
  refine ⟨C', g1, ?_, by omega, fun j j0 j1 => ?_, g4, g5, fun c h1 h2 => ?_⟩
  · intro o i q
    rw [g2 o i (fun t => q (by unfold TPc at t; unfold TCc; omega)), c1 o i q]
  · obtain ⟨a1, a2, a3⟩ := c3 j j0 j1
    have w : ∀ (o : Nat) (i : Int), (o = 28 ∨ o = 29 ∨ o = 30) → i = M 64 0 + j → C' o i = C o i := fun o i q1 q2 => g2 o i (by unfold TPc; omega)
    have w2 : ∀ i : Int, C' ((3 + (M 64 0 + j)).toNat) i = C ((3 + (M 64 0 + j)).toNat) i := fun i => g2 _ i (by unfold TPc; omega)
    have w3 : ∀ i : Int, C' ((16 + (M 64 0 + j)).toNat) i = C ((16 + (M 64 0 + j)).toNat) i := fun i => g2 _ i (by unfold TPc; omega)
    refine ⟨by rw [w 30 _ (by decide) rfl]; exact a1, ?_, fun f f0 f9 => by rw [w2, w3]; exact a3 f f0 f9⟩
    rw [w 28 _ (by decide) rfl, w 29 _ (by decide) rfl]
    exact a2.congr (fun f _ _ => w2 f)
  · rw [g2 28 c (by unfold TPc; omega), g2 29 c (by unfold TPc; omega)]
    exact c4 c (by omega) h2
/-- one plain card more in the model -/
theorem MM_plain (e2 : 0 ≤ M 64 0) (k0 : 0 ≤ k) (k12 : M 64 0 + k < 12) (hN : MM M k sv rv N) : ∃ N', Cl 39 m_M_newCard [(2, 64)] N (rI (M 64 0 + k) N') ∧ To (TMm (M 64 0)) N N' ∧ N' 64 0 = M 64 0 + (k + 1) ∧ (∀ j : Int, 0 ≤ j → j < k → N' 67 (M 64 0 + j) = -2000000000 ∧ ∀ f : Int, 0 ≤ f → f < 10 → N' 65 (10 * (M 64 0 + j) + f) = sv j f ∧ N' 66 (10 * (M 64 0 + j) + f) = rv j f) ∧ N' 67 (M 64 0 + k) = -2000000000 ∧ ∀ f : Int, 0 ≤ f → f < 10 → N' 65 (10 * (M 64 0 + k) + f) = 1 ∧ N' 66 (10 * (M 64 0 + k) + f) = 10 := by
  obtain ⟨n1, n2⟩ := hN
  obtain ⟨N', g1, g2, g3, g4, g5⟩ := c_M_newCard (M := N) (by omega) (by omega)
  rw [n1] at g1 g2 g3 g4 g5
  refine ⟨N', g1, g2.wk (by intro o i; unfold TPm TMm; omega), by omega, fun j j0 j1 => ?_, g4, g5⟩
  obtain ⟨a1, a2⟩ := n2 j j0 j1
  refine ⟨by rw [g2 67 _ (by unfold TPm; omega)]; exact a1, fun f f0 f9 => ?_⟩
  rw [g2 65 _ (by unfold TPm; omega), g2 66 _ (by unfold TPm; omega)]
  exact a2 f f0 f9
theorem CC_0 (i : INV M) : CC M 0 sv rv M := ⟨To.refl _ M, by rw [i.1.1]; omega, fun j j0 j1 => absurd j1 (by omega), fun c c0 cn => i.2.2.2.2.2.2.2.2.2.2.2.2 c (by omega) cn⟩
theorem MM_0 (h : N 64 0 = M 64 0) : MM M 0 sv rv N := ⟨by rw [h]; omega, fun j j0 j1 => absurd j1 (by omega)⟩
theorem pk_card (i : INV M) : Pk m_X_card m_M_card [] M := by
  obtain ⟨e1, e2, e3, -⟩ := i.1
  by_cases z : M 64 0 < 12
  · obtain ⟨C, g1, g2, g3, -, g5, g6, g7⟩ := CC_plain e2 (Int.le_refl 0) (by omega) (CC_0 (sv := fun _ _ => 1) (rv := fun _ _ => 10) i)
    have c0 : C 64 0 = M 64 0 := g2 64 0 (by unfold TCc; omega)
    obtain ⟨N, k1, k2, k3, -, k5, k6⟩ := MM_plain e2 (Int.le_refl 0) (by omega) (MM_0 (sv := fun _ _ => 1) (rv := fun _ _ => 10) c0)
    rw [Int.add_zero] at g1 k1
    have hx : Cl 40 m_X_card [(2, 0)] M (rI (M 64 0) C) := sg_X_card (d := 39) (ite_i (fun _ => ⟨_, C, g1, rfl⟩) (fun t => absurd (by omega) t))
    have hm : Cl 40 m_M_card [(2, 64)] C (rI (M 64 0) N) := sg_M_card (d := 39) (ite_i (fun _ => ⟨_, N, k1, rfl⟩) (fun t => absurd (by omega) t))
    refine Pk.of hx hm (cards_inv (k := 1) (sv := fun _ _ => 1) (rv := fun _ _ => 10) i (by decide) (by omega) ⟨g2, g3, fun j j0 j1 => ?_, g7⟩ k2 ⟨k3, fun j j0 j1 => ?_⟩ (fun j f _ _ _ _ => ⟨⟨by decide, by decide⟩, ⟨by decide, by decide⟩⟩))
    · rw [show j = 0 by omega]; exact ⟨g5, g6⟩
    · rw [show j = 0 by omega]; exact ⟨k5, k6⟩
  · exact Pk.of (v := -3) (sg_X_card (d := 39) (ite_i (fun t => absurd t (by omega)) (fun _ => rfl))) (sg_M_card (d := 39) (ite_i (fun t => absurd (by omega) t) (fun _ => rfl))) i
end P32
