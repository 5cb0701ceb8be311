/-! promises same, nearest -/
section P47
variable {M N : Mem} {a b c x y v s r f : Int} {L : Option (List LN)}
theorem AL2_rng : 0 ≤ AL2 L M a c f ∧ AL2 L M a c f ≤ 99 := ALV_rng
def SUMA (L : Option (List LN)) (M : Mem) (a c : Int) : Int := sumB (fun f => AL2 L M a c (f : Int)) 10
theorem SUMA_rng : 0 ≤ SUMA L M a c ∧ SUMA L M a c ≤ 990 := by
  have := sumB_le (g := fun f => AL2 L M a c (f : Int)) (b := 99) (by decide) (fun i => AL2_rng) 10
  unfold SUMA
  exact ⟨this.1, by have := this.2; omega⟩
theorem SUMA_fr {M' : Mem} (h : Fr M M') : SUMA L M' a c = SUMA L M a c := by
  unfold SUMA
  exact congrArg (fun g => sumB g 10) (funext fun f => AL2_fr h)
theorem c_X_alikeCards (h1 : R1 M) (h2 : R2 M) (hl : LAW M L) (a0 : 0 ≤ a) (an : a < M 64 0) (c0 : 0 ≤ c) (cn : c < M 64 0) : ∃ M', Fr M M' ∧ Cl 13 m_X_alikeCards [(2, 0), (0, a), (0, c)] M (rI (SUMA L M a c) M') := by
  have key : ∀ (j k : Nat) (C : Mem), k + j = 10 → Fr M C → ∃ M', Fr M M' ∧ at_X_alikeCards_4 12 a c (sumB (fun f => AL2 L M a c (f : Int)) k) (k : Int) C (rI (SUMA L M a c) M') := by
    intro j
    induction j with
    | zero =>
      intro k C hk t
      rw [show k = 10 by omega]
      exact ⟨C, t, sg_X_alikeCards_4 (ite_i (fun _ => rfl) (fun q => absurd (by decide) q))⟩
    | succ j ih =>
      intro k C hk t
      have n0 : C 64 0 = M 64 0 := t.f64 (by decide)
      obtain ⟨C1, k1, k2⟩ := c_X_alikePrints (h1.fr t) (h2.fr h1 t) (hl.fr t) a0 (by rw [n0]; exact an) c0 (by rw [n0]; exact cn) (f := (k : Int)) (by omega) (by omega)
      rw [AL2_fr t] at k2
      obtain ⟨M', j1, j2⟩ := ih (k + 1) C1 (by omega) (t.trans k1)
      refine ⟨M', j1, sg_X_alikeCards_4 (ite_i (fun q => absurd q (by omega)) (fun _ => ⟨_, _, k2.mono (by decide), ?_⟩))⟩
      have l1 := sumB_le (g := fun f => AL2 L M a c (f : Int)) (b := 99) (by decide) (fun i => AL2_rng) k
      have l2 := AL2_rng (L := L) (M := M) (a := a) (c := c) (f := (k : Int))
      rw [w32_k (by omega), w32_i (by omega) (by omega)]
      rw [show (((k + 1 : Nat)) : Int) = (k : Int) + 1 by omega] at j2
      exact j2
  obtain ⟨M', j1, j2⟩ := key 10 0 M rfl (Fr.refl M)
  exact ⟨M', j1, sg_X_alikeCards (d := 12) j2⟩
theorem c_M_alikeAll (h1 : R1 M) (h2 : R2 M) (hl : LAW M L) (a0 : 0 ≤ a) (an : a < M 64 0) (c0 : 0 ≤ c) (cn : c < M 64 0) : ∃ M', To TV M M' ∧ Cl 13 m_M_alikeAll [(2, 64), (0, a), (0, c)] M (rI (SUMA L M a c) M') := by
  have key : ∀ (j k : Nat) (C : Mem), k + j = 10 → To TV M C → ∃ M', To TV M M' ∧ at_M_alikeAll_4 12 a c (sumB (fun f => AL2 L M a c (f : Int)) k) (k : Int) C (rI (SUMA L M a c) M') := by
    intro j
    induction j with
    | zero =>
      intro k C hk t
      rw [show k = 10 by omega]
      exact ⟨C, t, sg_M_alikeAll_4 (ite_i (fun _ => rfl) (fun q => absurd (by decide) q))⟩
    | succ j ih =>
      intro k C hk t
      have tf := TV_fr t
      have n0 : C 64 0 = M 64 0 := tf.f64 (by decide)
      obtain ⟨C1, k1, k2⟩ := c_M_alikeTwo (h1.fr tf) (h2.fr h1 tf) (hl.fr tf) a0 (by rw [n0]; exact an) c0 (by rw [n0]; exact cn) (f := (k : Int)) (by omega) (by omega)
      rw [AL2_fr tf] at k2
      obtain ⟨M', j1, j2⟩ := ih (k + 1) C1 (by omega) (t.trans k1)
      refine ⟨M', j1, sg_M_alikeAll_4 (ite_i (fun q => absurd q (by omega)) (fun _ => ⟨_, _, k2.mono (by decide), ?_⟩))⟩
      have l1 := sumB_le (g := fun f => AL2 L M a c (f : Int)) (b := 99) (by decide) (fun i => AL2_rng) k
      have l2 := AL2_rng (L := L) (M := M) (a := a) (c := c) (f := (k : Int))
      rw [w32_k (by omega), w32_i (by omega) (by omega)]
      rw [show (((k + 1 : Nat)) : Int) = (k : Int) + 1 by omega] at j2
      exact j2
  obtain ⟨M', j1, j2⟩ := key 10 0 M rfl (To.refl _ M)
  exact ⟨M', j1, sg_M_alikeAll (d := 12) j2⟩
theorem pk_same (i : INV M) (ha : c32 a) : Pk m_X_same m_M_same [(0, a), (0, b)] M := by
  obtain ⟨L, hl⟩ := i.2.2.2.2.2.1.law
  have h1 := i.1; have h2 := i.2.1
  by_cases z : 0 ≤ a ∧ a / 100 < M 64 0 ∧ a % 100 < M 64 0
  · obtain ⟨d1, d2⟩ := dm100 ha (by omega)
    have X : ∀ {r : Res}, (if w32 (Int.tdiv a 100) = w32 (Int.tmod a 100) then r = (some (0, (-1)), M) else (if b < 0 then r = (some (0, (-1)), M) else (if b ≤ 1 then (if ¬ b = 0 then ∃ v9 M10, Cl 79 m_X_alikeCards [(2, 0), (0, w32 (Int.tdiv a 100)), (0, w32 (Int.tmod a 100))] M (some (0, v9), M10) ∧ r = (some (0, v9), M10) else ∃ v12, Cl 79 m_X_likeFingers [(2, 0), (0, w32 (Int.tdiv a 100)), (0, w32 (Int.tmod a 100))] M (some (0, v12), M) ∧ ∃ v14, Cl 79 m_J_bitCount [(0, v12)] M (some (0, v14), M) ∧ r = (some (0, v14), M)) else r = (some (0, (-1)), M)))) → Cl 80 m_X_same [(2, 0), (0, a), (0, b)] M r := fun {r} hv => sg_X_same (d := 79) ⟨_, c_X_areCards h1 ha (by decide), ite_b (fun t => absurd z t) (fun _ => hv)⟩
    have Y : ∀ {N : Mem} {r : Res}, Fr M N → (if w32 (Int.tdiv a 100) = w32 (Int.tmod a 100) then r = (some (0, (-1)), N) else (if 0 ≤ b ∧ b ≤ 1 then (if ¬ b = 0 then ∃ v10 M11, Cl 79 m_M_alikeAll [(2, 64), (0, w32 (Int.tdiv a 100)), (0, w32 (Int.tmod a 100))] N (some (0, v10), M11) ∧ r = (some (0, v10), M11) else ∃ v13, Cl 79 m_M_sameFingers [(2, 64), (0, w32 (Int.tdiv a 100)), (0, w32 (Int.tmod a 100))] N (some (0, v13), N) ∧ r = (some (0, v13), N)) else r = (some (0, (-1)), N))) → Cl 80 m_M_same [(2, 64), (0, a), (0, b)] N r := fun {N r} f hv => by
      refine sg_M_same (d := 79) ⟨_, c_M_areTwo (h1.fr f) ha (by decide), ite_b (fun t => absurd (by rw [f.f64 (by decide)]; exact z) t) (fun _ => ite_i (fun t => ?_) (fun t => ⟨_, c_M_within (by decide), ite_bn (fun t2 => ?_) (fun t2 => ?_)⟩))⟩
      · rw [if_pos t] at hv; exact hv
      · rw [if_neg t, if_pos t2] at hv; exact hv
      · rw [if_neg t, if_neg t2] at hv; exact hv
    rw [d1, d2] at X Y
    by_cases e : a / 100 = a % 100
    · exact ⟨-1, M, M, X (by rw [if_pos e]), Y (Fr.refl M) (by rw [if_pos e]), i⟩
    · by_cases y : 0 ≤ b ∧ b ≤ 1
      · by_cases q : b = 0
        · obtain ⟨v, u, k1, k2, k3, -⟩ := sameF h1 h2 (a := a / 100) (c := a % 100) (by omega) z.2.1 (by omega) z.2.2
          refine ⟨u, M, M, X ?_, Y (Fr.refl M) ?_, i⟩
          · rw [if_neg e, if_neg (by omega), if_pos y.2, if_neg (fun t => t q)]
            exact ⟨_, k1.mono (by decide), _, c_J_bitCount (by decide), by rw [k3]⟩
          · rw [if_neg e, if_pos y, if_neg (fun t => t q)]
            exact ⟨_, k2.mono (by decide), rfl⟩
        · obtain ⟨M1, k1, k2⟩ := c_X_alikeCards h1 h2 hl (a := a / 100) (c := a % 100) (by omega) z.2.1 (by omega) z.2.2
          have n0 : M1 64 0 = M 64 0 := k1.f64 (by decide)
          obtain ⟨M2, j1, j2⟩ := c_M_alikeAll (h1.fr k1) (h2.fr h1 k1) (hl.fr k1) (a := a / 100) (c := a % 100) (by omega) (by rw [n0]; exact z.2.1) (by omega) (by rw [n0]; exact z.2.2)
          rw [SUMA_fr k1] at j2
          refine ⟨SUMA L M (a / 100) (a % 100), M1, M2, X ?_, Y k1 ?_, (i.fr k1).fr (TV_fr j1)⟩
          · rw [if_neg e, if_neg (by omega), if_pos y.2, if_pos q]
            exact ⟨_, _, k2.mono (by decide), rfl⟩
          · rw [if_neg e, if_pos y, if_pos q]
            exact ⟨_, _, j2.mono (by decide), rfl⟩
      · refine ⟨-1, M, M, X ?_, Y (Fr.refl M) ?_, i⟩
        · rw [if_neg e]
          exact ite_i (fun _ => rfl) (fun t => ite_i (fun t2 => absurd ⟨by omega, t2⟩ y) (fun _ => rfl))
        · rw [if_neg e, if_neg y]
  · exact ⟨-1, M, M, sg_X_same (d := 79) ⟨_, c_X_areCards h1 ha (by decide), ite_b (fun _ => rfl) (fun t => absurd t z)⟩, sg_M_same (d := 79) ⟨_, c_M_areTwo h1 ha (by decide), ite_b (fun _ => rfl) (fun t => absurd t z)⟩, i⟩
theorem nearest_two (h1 : R1 M) (h2 : R2 M) (hl : LAW M L) (a0 : 0 ≤ a) (an : a < M 64 0) : ∀ (m k : Nat) (z : Int), (k : Int) + m = M 64 0 → (z = -2 ∨ (0 ≤ z ∧ z < M 64 0)) → ∃ v : Int, (∀ C, Fr M C → ∀ w5, ∃ C', Fr M C' ∧ at_X_nearest_13 79 a z (if z = -2 then -1 else SUMA L M a z) (k : Int) w5 C (rI v C')) ∧ (∀ N, Fr M N → ∃ N', Fr M N' ∧ at_M_nearest_10 79 a z (k : Int) N (rI v N'))
  | 0, k, z, hk, hz => ⟨z, fun C t w5 => ⟨C, t, sg_X_nearest_13 (ite_i (fun _ => rfl) (fun q => absurd (by rw [(h1.fr t).1, t.f64 (by decide)]; omega) q))⟩, fun N t => ⟨N, t, sg_M_nearest_10 (ite_i (fun _ => rfl) (fun q => absurd (by rw [t.f64 (by decide)]; omega) q))⟩⟩
  | m + 1, k, z, hk, hz => by
    have e3 := h1.2.2.1
    have k1 : (((k + 1 : Nat)) : Int) = (k : Int) + 1 := by omega
    have most : -1 ≤ (if z = -2 then -1 else SUMA L M a z) := by
      split
      · decide
      · have := SUMA_rng (L := L) (M := M) (a := a) (c := z); omega
    have cX : ∀ {C : Mem} {r : Res} {w5 : AV}, Fr M C → (if ¬ (k : Int) = a then ∃ v4 M5, Cl 79 m_X_alikeCards [(2, 0), (0, a), (0, (k : Int))] C (some (0, v4), M5) ∧ (if v4 ≤ (if z = -2 then -1 else SUMA L M a z) then at_X_nearest_13 79 a z (if z = -2 then -1 else SUMA L M a z) ((k : Int) + 1) (0, v4) M5 r else at_X_nearest_13 79 a (k : Int) v4 ((k : Int) + 1) (0, v4) M5 r) else at_X_nearest_13 79 a z (if z = -2 then -1 else SUMA L M a z) ((k : Int) + 1) (0, (-1)) C r) → at_X_nearest_13 79 a z (if z = -2 then -1 else SUMA L M a z) (k : Int) w5 C r := fun {C r w5} t hv => by
      refine sg_X_nearest_13 (ite_i (fun q => absurd q (by rw [(h1.fr t).1, t.f64 (by decide)]; omega)) (fun _ => ?_))
      rw [w32_k (by omega)]
      refine ite_i (fun q => ?_) (fun q => ?_)
      · rw [if_pos q] at hv; exact hv
      · rw [if_neg q] at hv; exact ite_i (fun _ => hv) (fun q2 => absurd most q2)
    have cM : ∀ {N : Mem} {r : Res}, Fr M N → (if (k : Int) = a then at_M_nearest_10 79 a z ((k : Int) + 1) N r else (if z = (-2) then at_M_nearest_10 79 a (k : Int) ((k : Int) + 1) N r else ∃ v5 M6, Cl 79 m_M_alikeAll [(2, 64), (0, a), (0, (k : Int))] N (some (0, v5), M6) ∧ ∃ v8 M9, Cl 79 m_M_alikeAll [(2, 64), (0, a), (0, z)] M6 (some (0, v8), M9) ∧ (if v5 ≤ v8 then at_M_nearest_10 79 a z ((k : Int) + 1) M9 r else at_M_nearest_10 79 a (k : Int) ((k : Int) + 1) M9 r))) → at_M_nearest_10 79 a z (k : Int) N r := fun {N r} t hv => by
      refine sg_M_nearest_10 (ite_i (fun q => absurd q (by rw [t.f64 (by decide)]; omega)) (fun _ => ?_))
      rw [w32_k (by omega)]
      exact hv
    have aX : ∀ {C : Mem}, Fr M C → ∃ C1, Fr M C1 ∧ Cl 79 m_X_alikeCards [(2, 0), (0, a), (0, (k : Int))] C (rI (SUMA L M a (k : Int)) C1) := fun {C} t => by
      have n0 : C 64 0 = M 64 0 := t.f64 (by decide)
      obtain ⟨C1, q1, q2⟩ := c_X_alikeCards (h1.fr t) (h2.fr h1 t) (hl.fr t) a0 (by rw [n0]; exact an) (c := (k : Int)) (by omega) (by rw [n0]; omega)
      rw [SUMA_fr t] at q2
      exact ⟨C1, t.trans q1, q2.mono (by decide)⟩
    have aM : ∀ {N : Mem} {c : Int}, Fr M N → 0 ≤ c → c < M 64 0 → ∃ N1, Fr M N1 ∧ Cl 79 m_M_alikeAll [(2, 64), (0, a), (0, c)] N (rI (SUMA L M a c) N1) := fun {N c} t c0 cn => by
      have n0 : N 64 0 = M 64 0 := t.f64 (by decide)
      obtain ⟨N1, q1, q2⟩ := c_M_alikeAll (h1.fr t) (h2.fr h1 t) (hl.fr t) a0 (by rw [n0]; exact an) (c := c) c0 (by rw [n0]; omega)
      rw [SUMA_fr t] at q2
      exact ⟨N1, t.trans (TV_fr q1), q2.mono (by decide)⟩
    by_cases e : (k : Int) = a
    · obtain ⟨v, hX, hM⟩ := nearest_two h1 h2 hl a0 an m (k + 1) z (by omega) hz
      rw [k1] at hX hM
      refine ⟨v, fun C t w5 => ?_, fun N t => ?_⟩
      · obtain ⟨C', q1, q2⟩ := hX C t (0, -1)
        exact ⟨C', q1, cX t (by rw [if_neg (fun q => q e)]; exact q2)⟩
      · obtain ⟨N', q1, q2⟩ := hM N t
        exact ⟨N', q1, cM t (by rw [if_pos e]; exact q2)⟩
    · have sr := SUMA_rng (L := L) (M := M) (a := a) (c := (k : Int))
      by_cases z2 : z = -2
      · obtain ⟨v, hX, hM⟩ := nearest_two h1 h2 hl a0 an m (k + 1) (k : Int) (by omega) (Or.inr ⟨by omega, by omega⟩)
        rw [k1, if_neg (by omega)] at hX
        rw [k1] at hM
        refine ⟨v, fun C t w5 => ?_, fun N t => ?_⟩
        · obtain ⟨C1, p1, p2⟩ := aX t
          obtain ⟨C', q1, q2⟩ := hX C1 p1 (0, SUMA L M a (k : Int))
          exact ⟨C', q1, cX t (by rw [if_pos e]; exact ⟨_, _, p2, by rw [if_neg (by rw [if_pos z2]; omega)]; exact q2⟩)⟩
        · obtain ⟨N', q1, q2⟩ := hM N t
          exact ⟨N', q1, cM t (by rw [if_neg e, if_pos z2]; exact q2)⟩
      · have zr := hz.resolve_left z2
        by_cases l : SUMA L M a (k : Int) ≤ SUMA L M a z
        · obtain ⟨v, hX, hM⟩ := nearest_two h1 h2 hl a0 an m (k + 1) z (by omega) hz
          rw [k1] at hX hM
          refine ⟨v, fun C t w5 => ?_, fun N t => ?_⟩
          · obtain ⟨C1, p1, p2⟩ := aX t
            obtain ⟨C', q1, q2⟩ := hX C1 p1 (0, SUMA L M a (k : Int))
            exact ⟨C', q1, cX t (by rw [if_pos e]; exact ⟨_, _, p2, by rw [if_pos (by rw [if_neg z2]; exact l)]; exact q2⟩)⟩
          · obtain ⟨N1, p1, p2⟩ := aM t (c := (k : Int)) (by omega) (by omega)
            obtain ⟨N2, r1, r2⟩ := aM p1 zr.1 zr.2
            obtain ⟨N', q1, q2⟩ := hM N2 r1
            exact ⟨N', q1, cM t (by rw [if_neg e, if_neg z2]; exact ⟨_, _, p2, _, _, r2, by rw [if_pos l]; exact q2⟩)⟩
        · obtain ⟨v, hX, hM⟩ := nearest_two h1 h2 hl a0 an m (k + 1) (k : Int) (by omega) (Or.inr ⟨by omega, by omega⟩)
          rw [k1, if_neg (by omega)] at hX
          rw [k1] at hM
          refine ⟨v, fun C t w5 => ?_, fun N t => ?_⟩
          · obtain ⟨C1, p1, p2⟩ := aX t
            obtain ⟨C', q1, q2⟩ := hX C1 p1 (0, SUMA L M a (k : Int))
            exact ⟨C', q1, cX t (by rw [if_pos e]; exact ⟨_, _, p2, by rw [if_neg (by rw [if_neg z2]; exact l)]; exact q2⟩)⟩
          · obtain ⟨N1, p1, p2⟩ := aM t (c := (k : Int)) (by omega) (by omega)
            obtain ⟨N2, r1, r2⟩ := aM p1 zr.1 zr.2
            obtain ⟨N', q1, q2⟩ := hM N2 r1
            exact ⟨N', q1, cM t (by rw [if_neg e, if_neg z2]; exact ⟨_, _, p2, _, _, r2, by rw [if_neg l]; exact q2⟩)⟩
theorem pk_nearest (i : INV M) : Pk m_X_nearest m_M_nearest [(0, a)] M := by
  obtain ⟨L, hl⟩ := i.2.2.2.2.2.1.law
  have h1 := i.1; have h2 := i.2.1; have e2 := i.1.2.1
  by_cases z : 0 ≤ a ∧ a < M 64 0
  · obtain ⟨v, hX, hM⟩ := nearest_two h1 h2 hl z.1 z.2 (M 64 0).toNat 0 (-2) (by omega) (Or.inl rfl)
    obtain ⟨C, q1, q2⟩ := hX M (Fr.refl M) (3, 0)
    obtain ⟨N, r1, r2⟩ := hM C q1
    exact ⟨v, C, N, sg_X_nearest (d := 79) ⟨_, c_C_has (by decide), ite_bn (fun _ => q2) (fun t => absurd ((has_iff h1).mpr z) t)⟩, sg_M_nearest (d := 79) ⟨_, c_M_isCard (h1.fr q1) (by decide), ite_bn (fun _ => r2) (fun t => absurd (by rw [q1.f64 (by decide)]; exact z) t)⟩, i.fr r1⟩
  · exact ⟨-1, M, M, sg_X_nearest (d := 79) ⟨_, c_C_has (by decide), ite_bn (fun t => absurd ((has_iff h1).mp t) z) (fun _ => rfl)⟩, sg_M_nearest (d := 79) ⟨_, c_M_isCard h1 (by decide), ite_bn (fun t => absurd t z) (fun _ => rfl)⟩, i⟩
end P47
