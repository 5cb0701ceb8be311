/-! promise drawn -/
theorem ushr_rng (x : Int) : (0 ≤ iushr x 8 ∧ iushr x 8 < 16777216) ∧ (0 ≤ iushr x 16 ∧ iushr x 16 < 65536) := by
  have h8 : ((Int32.ofInt 8).toUInt32 &&& Int32.toUInt32 31) = 8 := by decide +kernel
  have h16 : ((Int32.ofInt 16).toUInt32 &&& Int32.toUInt32 31) = 16 := by decide +kernel
  have key : ∀ u : UInt32, u.toNat < 2147483648 → u.toInt32.toInt = (u.toNat : Int) := fun u hu => by
    show u.toBitVec.toInt = _
    rw [BitVec.toInt_eq_toNat_of_lt (by show 2 * u.toNat < 2 ^ 32; omega)]
    rfl
  have lt := (Int32.ofInt x).toUInt32.toNat_lt
  constructor
  · unfold iushr
    rw [h8]
    have e : ((Int32.ofInt x).toUInt32 >>> 8).toNat = (Int32.ofInt x).toUInt32.toNat / 256 := by
      rw [UInt32.toNat_shiftRight]
      show _ >>> (8 % 32) = _
      rw [Nat.shiftRight_eq_div_pow]
    rw [key _ (by rw [e]; omega), e]
    omega
  · unfold iushr
    rw [h16]
    have e : ((Int32.ofInt x).toUInt32 >>> 16).toNat = (Int32.ofInt x).toUInt32.toNat / 65536 := by
      rw [UInt32.toNat_shiftRight]
      show _ >>> (16 % 32) = _
      rw [Nat.shiftRight_eq_div_pow]
    rw [key _ (by rw [e]; omega), e]
    omega
section P49
variable {M N : Mem} {a b c x y z v s r f n : Int} {L : Option (List LN)}
theorem drawn_two (h1 : R1 M) (h2 : R2 M) (hl : LAW M L) (n0 : 0 < M 64 0) {w1 w1' : AV} (n50 : n ≤ 50) : ∀ (m k : Nat) (z R A : Int), (k : Int) + m = n → 0 ≤ R → R ≤ k → ∃ v : Int, (∀ C, Fr M C → ∀ w7 w8, ∃ C', Fr M C' ∧ at_X_drawn_25 79 w1 n b z (if b = 0 then R else A) k w7 w8 C (rI v C')) ∧ (∀ N, Fr M N → ∀ w8 w9 w10, ∃ N', Fr M N' ∧ at_M_drawn_25 79 w1' n b z R A k w8 w9 w10 N (rI v N'))
  | 0, k, z, R, A, hk, r0, rk => ⟨if b = 0 then R else A, fun C t w7 w8 => ⟨C, t, sg_X_drawn_25 (ite_i (fun _ => rfl) (fun q => absurd (by omega) q))⟩, fun N t w8 w9 w10 => ⟨N, t, sg_M_drawn_25 (ite_i (fun _ => ite_i (fun q => by rw [if_neg q]) (fun q => by rw [if_pos (Classical.not_not.mp q)])) (fun q => absurd (by omega) q))⟩⟩
  | m + 1, k, z, R, A, hk, r0, rk => by
    have e3 := h1.2.2.1
    have k1 : (((k + 1 : Nat)) : Int) = (k : Int) + 1 := by omega
    obtain ⟨z', hz⟩ : ∃ z', w32 (w32 (z * 1103515245) + 12345) = z' := ⟨_, rfl⟩
    obtain ⟨u1, u2⟩ := ushr_rng z'
    obtain ⟨c, hc⟩ : ∃ c, w32 (Int.tmod (iushr z' 8) (M 64 0)) = c := ⟨_, rfl⟩
    obtain ⟨f, hf⟩ : ∃ f, w32 (Int.tmod (iushr z' 16) 10) = f := ⟨_, rfl⟩
    have c0 : 0 ≤ c ∧ c < M 64 0 := by
      have g1 := Int.emod_nonneg (iushr z' 8) (show M 64 0 ≠ 0 by omega)
      have g2 := Int.emod_lt_of_pos (iushr z' 8) n0
      rw [← hc, tm_nn u1.1, w32_i (by omega) (by omega)]
      exact ⟨g1, g2⟩
    have f0 : 0 ≤ f ∧ f < 10 := by
      rw [← hf, tm_nn u2.1, w32_i (by omega) (by omega)]
      omega
    obtain ⟨g1, g2, g3, g4, g5, g6⟩ := h2 c f c0.1 c0.2 f0.1 f0.2
    obtain ⟨s, hs⟩ : ∃ s, (if M 65 (10 * c + f) = 5 then 0 else M 65 (10 * c + f)) = s := ⟨_, rfl⟩
    have s4 : 0 ≤ s ∧ s ≤ 4 := by rw [← hs]; split <;> omega
    obtain ⟨x, hx⟩ : ∃ x, x = 100 * s + M 66 (10 * c + f) := ⟨_, rfl⟩
    have xs : x / 100 = s := by omega
    have xr : x % 100 = M 66 (10 * c + f) := by omega
    have hg : GLS x := ⟨by omega, by omega, by omega⟩
    obtain ⟨v, v0, bX, bM⟩ := best_two h1 h2 hl hg
    -- a step of the class
    have gof : ∀ {C : Mem}, Fr M C → Cl 79 m_X_glassOf [(2, 0), (0, c), (0, f)] C (rI x C) := fun {C} t => by
      have t' : To Scr M C := t
      have rc : 0 ≤ c ∧ c < 12 := ⟨c0.1, by omega⟩
      refine sg_X_glassOf (d := 78) ⟨rc, f0, ?_⟩
      rw [t' ((3 + c).toNat) f (by unfold Scr; omega), t' ((16 + c).toNat) f (by unfold Scr; omega), g1, g2]
      refine ite_i (fun q => ⟨rc, f0, ?_⟩) (fun q => ⟨rc, f0, ?_⟩)
      · rw [if_neg q] at hs
        rw [hs, w32_i (x := 100 * s) (by omega) (by omega), w32_i (by omega) (by omega), hx]
      · rw [if_pos (Classical.not_not.mp q)] at hs
        rw [w32_i (x := 100 * 0) (by omega) (by omega), w32_i (by omega) (by omega), hx, ← hs]
    have pX : ∀ {C : Mem} {w7 w8 : AV} {res : Res}, Fr M C → (if ¬ b = 0 then ∃ v7, Cl 79 m_X_glassCards [(2, 0), (0, x)] C (some (0, v7), C) ∧ ∃ v9, Cl 79 m_J_bitCount [(0, v7)] C (some (0, v9), C) ∧ at_X_drawn_25 79 w1 n b z' (w32 ((if b = 0 then R else A) + v9)) ((k : Int) + 1) (0, c) (0, x) C res else ∃ v11 M12, Cl 79 m_X_isBest [(2, 0), (0, x), (0, c)] C (some (0, v11), M12) ∧ ∃ v14, Cl 79 m_X_truth [(0, v11)] M12 (some (0, v14), M12) ∧ at_X_drawn_25 79 w1 n b z' (w32 ((if b = 0 then R else A) + v14)) ((k : Int) + 1) (0, c) (0, x) M12 res) → at_X_drawn_25 79 w1 n b z (if b = 0 then R else A) k w7 w8 C res := fun {C w7 w8 res} t hv => by
      have c15 : C 1 5 = M 64 0 := by rw [(h1.fr t).1, t.f64 (by decide)]
      refine sg_X_drawn_25 (ite_i (fun q => absurd q (by omega)) (fun _ => ?_))
      rw [c15, hz, hc, hf, w32_k (by omega)]
      exact ⟨by omega, _, gof t, hv⟩
    have pM : ∀ {N : Mem} {w8 w9 w10 : AV} {res : Res}, Fr M N → (∃ v11 M12, Cl 79 m_M_bestOf [(2, 64)] (tk N x) (some (0, v11), M12) ∧ (if v11 = (-2) then ∃ v15, Cl 79 m_M_cardsOn [(2, 64)] M12 (some (0, v15), M12) ∧ ∃ v17, Cl 79 m_J_bitCount [(0, v15)] M12 (some (0, v17), M12) ∧ at_M_drawn_25 79 w1' n b z' R (w32 (A + v17)) ((k : Int) + 1) (0, c) (0, f) (0, v11) M12 res else (if ¬ w32 (Int.tdiv v11 20) = c then ∃ v20, Cl 79 m_M_cardsOn [(2, 64)] M12 (some (0, v20), M12) ∧ ∃ v22, Cl 79 m_J_bitCount [(0, v20)] M12 (some (0, v22), M12) ∧ at_M_drawn_25 79 w1' n b z' R (w32 (A + v22)) ((k : Int) + 1) (0, c) (0, f) (0, v11) M12 res else ∃ v24, Cl 79 m_M_cardsOn [(2, 64)] M12 (some (0, v24), M12) ∧ ∃ v26, Cl 79 m_J_bitCount [(0, v24)] M12 (some (0, v26), M12) ∧ at_M_drawn_25 79 w1' n b z' (w32 (R + 1)) (w32 (A + v26)) ((k : Int) + 1) (0, c) (0, f) (0, v11) M12 res))) → at_M_drawn_25 79 w1' n b z R A k w8 w9 w10 N res := fun {N w8 w9 w10 res} t hv => by
      have t' : To Scr M N := t
      refine sg_M_drawn_25 (ite_i (fun q => absurd q (by omega)) (fun _ => ?_))
      rw [t.f64 (by decide), hz, hc, hf, ix10 c0.1 (by omega) f0.1 f0.2, w32_k (by omega), t' 65 _ (by unfold Scr; omega), t' 66 _ (by unfold Scr; omega)]
      have ri : 0 ≤ 10 * c + f ∧ 10 * c + f < 120 := ⟨by omega, by omega⟩
      refine ⟨by omega, ri, ite_i (fun q => ⟨ri, ri, tk N x, ?_, ?_⟩) (fun q => ⟨ri, tk N x, ?_, ?_⟩)⟩
      · rw [if_neg q] at hs
        refine sg_M_takes (d := 78) ?_
        unfold tk; rw [xs, xr, hs]
      · exact hv
      · rw [if_pos (Classical.not_not.mp q)] at hs
        refine sg_M_takes (d := 78) ?_
        unfold tk; rw [xs, xr, hs]
      · exact hv
    obtain ⟨q, hq⟩ : ∃ q : Int, (if v = -2 then 0 else if ¬ w32 (Int.tdiv v 20) = c then 0 else 1) = q := ⟨_, rfl⟩
    have q01 : q = 0 ∨ q = 1 := by
      rw [← hq]
      split
      · exact Or.inl rfl
      · split
        · exact Or.inl rfl
        · exact Or.inr rfl
    obtain ⟨res, hX, hM⟩ := drawn_two h1 h2 hl n0 (w1 := w1) (w1' := w1') n50 m (k + 1) z' (R + q) (w32 (A + bc (CO M s (M 66 (10 * c + f))))) (by omega) (by omega) (by omega)
    rw [k1] at hX hM
    refine ⟨res, fun C t w7 w8 => ?_, fun N t w8 w9 w10 => ?_⟩
    · by_cases b0 : b = 0
      · rw [if_pos b0] at hX
        obtain ⟨C1, j1, j2⟩ := bX C t
        obtain ⟨C', i1, i2⟩ := hX C1 j1 (0, c) (0, x)
        refine ⟨C', i1, pX t (by
          rw [if_neg (fun y => y b0), if_pos b0]
          refine ⟨q, C1, sg_X_isBest (d := 78) ⟨_, _, j2.mono (by decide), ?_⟩, q, ?_, ?_⟩
          · refine ite_i (fun y => ?_) (fun y => ite_i (fun y2 => ?_) (fun y2 => ?_))
            · rw [← hq, if_pos (by omega)]
            · rw [← hq, if_neg (by omega), if_pos y2]
            · rw [← hq, if_neg (by omega), if_neg y2]
          · refine sg_X_truth (d := 78) (ite_i (fun y => ?_) (fun y => ?_))
            · rw [show q = 0 from y]
            · rw [show q = 1 by omega]
          · rw [w32_i (x := R + q) (by omega) (by omega)]
            exact i2)⟩
      · rw [if_neg b0] at hX
        obtain ⟨C', i1, i2⟩ := hX C t (0, c) (0, x)
        refine ⟨C', i1, pX t (by
          rw [if_pos b0, if_neg b0]
          have gc := c_X_glassCards (d := 79) (h1.fr t) (h2.fr h1 t) hg (by decide)
          rw [CO_fr t, xs, xr] at gc
          exact ⟨_, gc, _, c_J_bitCount (by decide), i2⟩)⟩
    · have tt : Fr M (tk N x) := t.trans tk_fr
      obtain ⟨N1, j1, j2⟩ := bM (tk N x) tt tk_s tk_r
      have t1 : Fr M N1 := tt.trans (TV_fr j1)
      have co := c_M_cardsOn (M := N1) (d := 79) (h1.fr t1) (h2.fr h1 t1) (s := s) (r := M 66 (10 * c + f)) (by rw [j1 64 37 (by unfold TV; omega), tk_s, xs]) (by rw [j1 64 38 (by unfold TV; omega), tk_r, xr]) s4.1 (by omega) g5 g6 (by decide)
      rw [CO_fr t1] at co
      obtain ⟨N', i1, i2⟩ := hM N1 t1 (0, c) (0, f) (0, v)
      refine ⟨N', i1, pM t ⟨v, N1, j2.mono (by decide), ite_i (fun y => ⟨_, co, _, c_J_bitCount (by decide), ?_⟩) (fun y => ite_i (fun y2 => ⟨_, co, _, c_J_bitCount (by decide), ?_⟩) (fun y2 => ⟨_, co, _, c_J_bitCount (by decide), ?_⟩))⟩⟩
      · rw [if_pos y] at hq
        rw [← hq, Int.add_zero] at i2; exact i2
      · rw [if_neg y, if_pos y2] at hq
        rw [← hq, Int.add_zero] at i2; exact i2
      · rw [if_neg y, if_neg y2] at hq
        rw [w32_i (x := R + 1) (by omega) (by omega)]
        rw [← hq] at i2; exact i2
theorem pk_drawn (i : INV M) : Pk m_X_drawn m_M_drawn [(0, a), (0, n), (0, b)] M := by
  obtain ⟨L, hl⟩ := i.2.2.2.2.2.1.law
  obtain ⟨e1, e2, e3, -⟩ := id i.1
  by_cases y : 1 ≤ n ∧ n ≤ 50
  · by_cases w : 0 ≤ b ∧ b ≤ 1
    · by_cases z : 0 < M 64 0
      · obtain ⟨v, hX, hM⟩ := drawn_two i.1 i.2.1 hl z (w1 := (0, a)) (w1' := (0, a)) (b := b) y.2 n.toNat 0 a 0 0 (by omega) (by decide) (by omega)
        rw [show (if b = 0 then (0 : Int) else 0) = 0 by split <;> rfl] at hX
        obtain ⟨C, q1, q2⟩ := hX M (Fr.refl M) (3, 0) (3, 0)
        obtain ⟨N, r1, r2⟩ := hM C q1 (3, 0) (3, 0) (3, 0)
        exact ⟨v, C, N, sg_X_drawn (d := 79) (ite_i (fun t => absurd t (by omega)) (fun _ => ite_i (fun t => absurd t (by omega)) (fun _ => ite_i (fun t => absurd t (by omega)) (fun _ => ite_i (fun _ => ite_i (fun _ => q2) (fun t => absurd (by omega) t)) (fun t => absurd w.2 t))))), sg_M_drawn (d := 79) ⟨_, c_M_within (by decide), ite_b (fun t => absurd y t) (fun _ => ⟨_, c_M_within (by decide), ite_bn (fun _ => ite_i (fun _ => r2) (fun t => absurd (by rw [q1.f64 (by decide)]; omega) t)) (fun t => absurd w t)⟩)⟩, i.fr r1⟩
      · exact ⟨-5, M, M, sg_X_drawn (d := 79) (ite_i (fun t => absurd t (by omega)) (fun _ => ite_i (fun t => absurd t (by omega)) (fun _ => ite_i (fun t => absurd t (by omega)) (fun _ => ite_i (fun _ => ite_i (fun t => absurd t (by omega)) (fun _ => rfl)) (fun t => absurd w.2 t))))), sg_M_drawn (d := 79) ⟨_, c_M_within (by decide), ite_b (fun t => absurd y t) (fun _ => ⟨_, c_M_within (by decide), ite_bn (fun _ => ite_i (fun t => absurd (by omega) t) (fun _ => rfl)) (fun t => absurd w t)⟩)⟩, i⟩
    · exact ⟨-1, M, M, sg_X_drawn (d := 79) (ite_i (fun t => absurd t (by omega)) (fun _ => ite_i (fun t => absurd t (by omega)) (fun _ => ite_i (fun _ => rfl) (fun t => ite_i (fun t2 => absurd ⟨by omega, t2⟩ w) (fun _ => rfl))))), sg_M_drawn (d := 79) ⟨_, c_M_within (by decide), ite_b (fun t => absurd y t) (fun _ => ⟨_, c_M_within (by decide), ite_bn (fun t => absurd t w) (fun _ => rfl)⟩)⟩, i⟩
  · exact ⟨-1, M, M, sg_X_drawn (d := 79) (ite_i (fun _ => rfl) (fun t => ite_i (fun _ => rfl) (fun t2 => absurd ⟨by omega, by omega⟩ y))), sg_M_drawn (d := 79) ⟨_, c_M_within (by decide), ite_b (fun _ => rfl) (fun t => absurd t y)⟩, i⟩
end P49
