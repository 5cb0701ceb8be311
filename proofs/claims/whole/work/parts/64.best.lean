/-! promise best -/
section P48
variable {M N : Mem} {a b c x y z v s r f : Int} {L : Option (List LN)}
abbrev GLS (x : Int) : Prop := 0 ≤ x ∧ x / 100 ≤ 4 ∧ x % 100 ≤ 30
/-- how alike a glass and a finger are; -1 if it may not be it -/
def GA (L : Option (List LN)) (M : Mem) (s r c f : Int) : Int := if FIT M s r c f then ALV L M s r c f else -1
theorem GA_rng : -1 ≤ GA L M s r c f ∧ GA L M s r c f ≤ 99 := by
  unfold GA
  have := ALV_rng (L := L) (M := M) (s := s) (r := r) (c := c) (f := f)
  split <;> omega
theorem GA_fr {M' : Mem} (h : Fr M M') : GA L M' s r c f = GA L M s r c f := by
  unfold GA
  rw [ALV_fr h]
  by_cases q : FIT M s r c f
  · rw [if_pos q, if_pos ((FIT_fr h).mpr q)]
  · rw [if_neg q, if_neg (fun t => q ((FIT_fr h).mp t))]
theorem c_X_glassAlikeness (h1 : R1 M) (h2 : R2 M) (hl : LAW M L) (hg : GLS x) (c0 : 0 ≤ c) (cn : c < M 64 0) (f0 : 0 ≤ f) (f9 : f < 10) : ∃ M', To TXa M M' ∧ Cl 11 m_X_glassAlikeness [(2, 0), (0, x), (0, c), (0, f)] M (rI (GA L M (x / 100) (x % 100) c f) M') := by
  obtain ⟨t1, t2, t3, t4⟩ := gl hg
  obtain ⟨M', k1, k2⟩ := c_X_alikeness h1 h2 hl t3 (by omega) t4 (by omega) c0 cn f0 f9
  have fits := c_X_fits (d := 10) h1 h2 t3 (by omega) t4 (by omega) c0 cn f0 f9 (by decide)
  unfold GA
  by_cases q : FIT M (x / 100) (x % 100) c f
  · rw [if_pos q]
    refine ⟨M', k1, sg_X_glassAlikeness (d := 10) ?_⟩
    rw [t1, t2]
    exact ⟨_, fits, ite_b (fun t => absurd q t) (fun _ => ⟨_, _, k2, rfl⟩)⟩
  · rw [if_neg q]
    refine ⟨M, To.refl _ M, sg_X_glassAlikeness (d := 10) ?_⟩
    rw [t1, t2]
    exact ⟨_, fits, ite_b (fun _ => rfl) (fun t => absurd t q)⟩
/-- from a place on both come to the same -/
def BST (M : Mem) (x : Int) (X : Mem → Res → Prop) (Y : Mem → Res → Prop) : Prop := ∃ v : Int, (v = -2 ∨ (0 ≤ v ∧ v < 240)) ∧ (∀ C, Fr M C → ∃ C', Fr M C' ∧ X C (rI v C')) ∧ (∀ N, Fr M N → N 64 37 = x / 100 → N 64 38 = x % 100 → ∃ N', To TV N N' ∧ Y N (rI v N'))
theorem best_in (h1 : R1 M) (h2 : R2 M) (hl : LAW M L) (hg : GLS x) {c : Nat} (cn : (c : Int) < M 64 0) (nxt : ∀ z y, (z = -2 ∨ (0 ≤ z ∧ z < 240)) → -1 ≤ y → ∀ w5 w6 u4 u5, BST M x (fun C r => at_X_bestFinger_6 20 x z y ((c : Int) + 1) w5 w6 C r) (fun N r => at_M_bestOf_6 20 z y ((c : Int) + 1) u4 u5 N r)) :
    ∀ (m k : Nat) (z y : Int) (w6 u5 : AV), k + m = 10 → (z = -2 ∨ (0 ≤ z ∧ z < 240)) → -1 ≤ y → BST M x (fun C r => at_X_bestFinger_13 20 x z y c k w6 C r) (fun N r => at_M_bestOf_12 20 z y c k u5 N r)
  | 0, k, z, y, w6, u5, hk, hz, hy => by
    have e3 := h1.2.2.1
    obtain ⟨v, v0, hX, hM⟩ := nxt z y hz hy (0, (k : Int)) w6 (0, (k : Int)) u5
    refine ⟨v, v0, fun C t => ?_, fun N t p1 p2 => ?_⟩
    · obtain ⟨C', q1, q2⟩ := hX C t
      exact ⟨C', q1, sg_X_bestFinger_13 (ite_i (fun _ => by rw [w32_k (by omega)]; exact q2) (fun q => absurd (by omega) q))⟩
    · obtain ⟨N', q1, q2⟩ := hM N t p1 p2
      exact ⟨N', q1, sg_M_bestOf_12 (ite_i (fun _ => by rw [w32_k (by omega)]; exact q2) (fun q => absurd (by omega) q))⟩
  | m + 1, k, z, y, w6, u5, hk, hz, hy => by
    have e3 := h1.2.2.1
    have k1 : (((k + 1 : Nat)) : Int) = (k : Int) + 1 := by omega
    have w20 : w32 (w32 (20 * (c : Int)) + k) = 20 * (c : Int) + k := by rw [w32_i (x := 20 * (c : Int)) (by omega) (by omega), w32_i (by omega) (by omega)]
    have gr := GA_rng (L := L) (M := M) (s := x / 100) (r := x % 100) (c := (c : Int)) (f := (k : Int))
    have aX : ∀ {C : Mem}, Fr M C → ∃ C1, Fr M C1 ∧ Cl 20 m_X_glassAlikeness [(2, 0), (0, x), (0, (c : Int)), (0, (k : Int))] C (rI (GA L M (x / 100) (x % 100) c k) C1) := fun {C} t => by
      have n0 : C 64 0 = M 64 0 := t.f64 (by decide)
      obtain ⟨C1, q1, q2⟩ := c_X_glassAlikeness (h1.fr t) (h2.fr h1 t) (hl.fr t) hg (c := (c : Int)) (f := (k : Int)) (by omega) (by rw [n0]; exact cn) (by omega) (by omega)
      rw [GA_fr t] at q2
      exact ⟨C1, t.trans (TXa_fr q1), q2.mono (by decide)⟩
    have cM : ∀ {N : Mem} {res : Res}, Fr M N → N 64 37 = x / 100 → N 64 38 = x % 100 → (if ¬ bI (FIT M (x / 100) (x % 100) c k) = 0 then ∃ v6 M7, Cl 20 m_M_alikeTo [(2, 64), (0, x / 100), (0, x % 100), (0, (c : Int)), (0, (k : Int))] N (some (0, v6), M7) ∧ (if y < v6 then at_M_bestOf_12 20 (20 * (c : Int) + k) v6 c ((k : Int) + 1) (0, v6) M7 res else at_M_bestOf_12 20 z y c ((k : Int) + 1) (0, v6) M7 res) else at_M_bestOf_12 20 z y c ((k : Int) + 1) u5 N res) → at_M_bestOf_12 20 z y c k u5 N res := fun {N res} t p1 p2 hv => by
      have on := c_M_isOn (d := 20) (h1.fr t) (h2.fr h1 t) p1 p2 (c := (c : Int)) (f := (k : Int)) (by omega) (by omega) (by omega) (by omega) (by omega) (by rw [t.f64 (by decide)]; exact cn) (by omega) (by omega) (by decide)
      rw [bI_c (FIT_fr t)] at on
      refine sg_M_bestOf_12 (ite_i (fun q => absurd q (by omega)) (fun _ => ?_))
      rw [w20, w32_k (by omega), p1, p2]
      exact ⟨_, on, hv⟩
    by_cases q : FIT M (x / 100) (x % 100) c k
    · have g : GA L M (x / 100) (x % 100) c k = ALV L M (x / 100) (x % 100) c k := if_pos q
      have aM : ∀ {N : Mem}, Fr M N → ∃ N1, To TV N N1 ∧ Cl 20 m_M_alikeTo [(2, 64), (0, x / 100), (0, x % 100), (0, (c : Int)), (0, (k : Int))] N (rI (GA L M (x / 100) (x % 100) c k) N1) := fun {N} t => by
        have n0 : N 64 0 = M 64 0 := t.f64 (by decide)
        obtain ⟨N1, q1, q2⟩ := c_M_alikeTo (h1.fr t) (h2.fr h1 t) (hl.fr t) (s := x / 100) (r := x % 100) (c := (c : Int)) (f := (k : Int)) (by omega) (by omega) (by omega) (by omega) (by omega) (by rw [n0]; exact cn) (by omega) (by omega)
        rw [ALV_fr t] at q2
        rw [g]
        exact ⟨N1, q1, q2.mono (by decide)⟩
      by_cases l : y < GA L M (x / 100) (x % 100) c k
      · obtain ⟨v, v0, hX, hM⟩ := best_in h1 h2 hl hg cn nxt m (k + 1) (20 * (c : Int) + k) (GA L M (x / 100) (x % 100) c k) (0, GA L M (x / 100) (x % 100) c k) (0, GA L M (x / 100) (x % 100) c k) (by omega) (Or.inr ⟨by omega, by omega⟩) gr.1
        rw [k1] at hX hM
        refine ⟨v, v0, fun C t => ?_, fun N t p1 p2 => ?_⟩
        · obtain ⟨C1, j1, j2⟩ := aX t
          obtain ⟨C', i1, i2⟩ := hX C1 j1
          refine ⟨C', i1, sg_X_bestFinger_13 (ite_i (fun q => absurd q (by omega)) (fun _ => ⟨_, _, j2, ite_i (fun q => absurd q (by omega)) (fun _ => ?_)⟩))⟩
          rw [w20, w32_k (by omega)]
          exact i2
        · obtain ⟨N1, j1, j2⟩ := aM t
          obtain ⟨N', i1, i2⟩ := hM N1 (t.trans (TV_fr j1)) (by rw [j1 64 37 (by unfold TV; omega)]; exact p1) (by rw [j1 64 38 (by unfold TV; omega)]; exact p2)
          exact ⟨N', j1.trans i1, cM t p1 p2 (ite_bn (fun _ => ⟨_, _, j2, by rw [if_pos l]; exact i2⟩) (fun q2 => absurd q q2))⟩
      · obtain ⟨v, v0, hX, hM⟩ := best_in h1 h2 hl hg cn nxt m (k + 1) z y (0, GA L M (x / 100) (x % 100) c k) (0, GA L M (x / 100) (x % 100) c k) (by omega) hz hy
        rw [k1] at hX hM
        refine ⟨v, v0, fun C t => ?_, fun N t p1 p2 => ?_⟩
        · obtain ⟨C1, j1, j2⟩ := aX t
          obtain ⟨C', i1, i2⟩ := hX C1 j1
          refine ⟨C', i1, sg_X_bestFinger_13 (ite_i (fun q => absurd q (by omega)) (fun _ => ⟨_, _, j2, ite_i (fun _ => ?_) (fun q => absurd (by omega) q)⟩))⟩
          rw [w32_k (by omega)]
          exact i2
        · obtain ⟨N1, j1, j2⟩ := aM t
          obtain ⟨N', i1, i2⟩ := hM N1 (t.trans (TV_fr j1)) (by rw [j1 64 37 (by unfold TV; omega)]; exact p1) (by rw [j1 64 38 (by unfold TV; omega)]; exact p2)
          exact ⟨N', j1.trans i1, cM t p1 p2 (ite_bn (fun _ => ⟨_, _, j2, by rw [if_neg l]; exact i2⟩) (fun q2 => absurd q q2))⟩
    · have g : GA L M (x / 100) (x % 100) c k = -1 := if_neg q
      obtain ⟨v, v0, hX, -⟩ := best_in h1 h2 hl hg cn nxt m (k + 1) z y (0, -1) u5 (by omega) hz hy
      obtain ⟨v', v0', -, hM⟩ := best_in h1 h2 hl hg cn nxt m (k + 1) z y (0, -1) u5 (by omega) hz hy
      obtain ⟨v, v0, hX, hM⟩ := best_in h1 h2 hl hg cn nxt m (k + 1) z y (0, -1) u5 (by omega) hz hy
      rw [k1] at hX hM
      refine ⟨v, v0, fun C t => ?_, fun N t p1 p2 => ?_⟩
      · obtain ⟨C1, j1, j2⟩ := aX t
        rw [g] at j2
        obtain ⟨C', i1, i2⟩ := hX C1 j1
        refine ⟨C', i1, sg_X_bestFinger_13 (ite_i (fun q => absurd q (by omega)) (fun _ => ⟨_, _, j2, ite_i (fun _ => ?_) (fun q => absurd hy q)⟩))⟩
        rw [w32_k (by omega)]
        exact i2
      · obtain ⟨N', i1, i2⟩ := hM N t p1 p2
        exact ⟨N', i1, cM t p1 p2 (ite_bn (fun q2 => absurd q2 q) (fun _ => i2))⟩
theorem best_out (h1 : R1 M) (h2 : R2 M) (hl : LAW M L) (hg : GLS x) : ∀ (m k : Nat) (z y : Int) (w5 w6 u4 u5 : AV), (k : Int) + m = M 64 0 → (z = -2 ∨ (0 ≤ z ∧ z < 240)) → -1 ≤ y → BST M x (fun C r => at_X_bestFinger_6 20 x z y k w5 w6 C r) (fun N r => at_M_bestOf_6 20 z y k u4 u5 N r)
  | 0, k, z, y, w5, w6, u4, u5, hk, hz, hy => ⟨z, hz, fun C t => ⟨C, t, sg_X_bestFinger_6 (ite_i (fun _ => rfl) (fun q => absurd (by rw [(h1.fr t).1, t.f64 (by decide)]; omega) q))⟩, fun N t _ _ => ⟨N, To.refl _ N, sg_M_bestOf_6 (ite_i (fun _ => rfl) (fun q => absurd (by rw [t.f64 (by decide)]; omega) q))⟩⟩
  | m + 1, k, z, y, w5, w6, u4, u5, hk, hz, hy => by
    have k1 : (((k + 1 : Nat)) : Int) = (k : Int) + 1 := by omega
    obtain ⟨v, v0, hX, hM⟩ := best_in h1 h2 hl hg (c := k) (by omega) (fun z y hz hy w5 w6 u4 u5 => by
      have := best_out h1 h2 hl hg m (k + 1) z y w5 w6 u4 u5 (by omega) hz hy
      rwa [k1] at this) 10 0 z y w6 u5 rfl hz hy
    refine ⟨v, v0, fun C t => ?_, fun N t p1 p2 => ?_⟩
    · obtain ⟨C', q1, q2⟩ := hX C t
      exact ⟨C', q1, sg_X_bestFinger_6 (ite_i (fun q => absurd q (by rw [(h1.fr t).1, t.f64 (by decide)]; omega)) (fun _ => q2))⟩
    · obtain ⟨N', q1, q2⟩ := hM N t p1 p2
      exact ⟨N', q1, sg_M_bestOf_6 (ite_i (fun q => absurd q (by rw [t.f64 (by decide)]; omega)) (fun _ => q2))⟩
theorem best_two (h1 : R1 M) (h2 : R2 M) (hl : LAW M L) (hg : GLS x) : BST M x (fun C r => Cl 21 m_X_bestFinger [(2, 0), (0, x)] C r) (fun N r => Cl 21 m_M_bestOf [(2, 64)] N r) := by
  have e2 := h1.2.1
  obtain ⟨v, v0, hX, hM⟩ := best_out h1 h2 hl hg (M 64 0).toNat 0 (-2) (-1) (3, 0) (3, 0) (3, 0) (3, 0) (by omega) (Or.inl rfl) (by decide)
  refine ⟨v, v0, fun C t => ?_, fun N t p1 p2 => ?_⟩
  · obtain ⟨C', q1, q2⟩ := hX C t
    exact ⟨C', q1, sg_X_bestFinger (d := 20) q2⟩
  · obtain ⟨N', q1, q2⟩ := hM N t p1 p2
    exact ⟨N', q1, sg_M_bestOf (d := 20) q2⟩
theorem pk_best (i : INV M) (ha : c32 a) : Pk m_X_best m_M_best [(0, a)] M := by
  obtain ⟨L, hl⟩ := i.2.2.2.2.2.1.law
  by_cases hg : 0 ≤ a ∧ a / 100 ≤ 4 ∧ a % 100 ≤ 30
  · obtain ⟨v, v0, hX, hM⟩ := best_two i.1 i.2.1 hl hg
    obtain ⟨C, q1, q2⟩ := hX M (Fr.refl M)
    obtain ⟨N, r1, r2⟩ := hM (tk C a) (q1.trans tk_fr) tk_s tk_r
    exact ⟨v, C, N, sg_X_best (d := 79) ⟨_, c_X_isGlass ha (by decide), ite_b (fun t => absurd hg t) (fun _ => ⟨_, _, q2.mono (by decide), rfl⟩)⟩, sg_M_best (d := 79) ⟨_, c_M_isGlass ha (by decide), ite_bn (fun _ => ⟨_, (c_M_takes hg).mono (by decide), _, _, r2.mono (by decide), rfl⟩) (fun t => absurd hg t)⟩, (i.fr (q1.trans tk_fr)).fr (TV_fr r1)⟩
  · exact ⟨-1, M, M, sg_X_best (d := 79) ⟨_, c_X_isGlass ha (by decide), ite_b (fun _ => rfl) (fun t => absurd t hg)⟩, sg_M_best (d := 79) ⟨_, c_M_isGlass ha (by decide), ite_bn (fun t => absurd t hg) (fun _ => rfl)⟩, i⟩
end P48
