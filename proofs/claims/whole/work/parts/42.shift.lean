/-! promise shift -/
section P26
variable {M N : Mem} {a b c j n p s u v x y : Int}
theorem c_X_shiftRef (z0 : ¬ (u = 0 ∧ v = 0)) (hx : Cl 38 m_S_rowRefusal [(2, 49), (0, a), (0, -1)] M (rI u M)) (hy : Cl 38 m_S_rowRefusal [(2, 49), (0, c), (0, -1)] M (rI v M)) : Cl 39 m_X_shiftRefusal [(2, 0), (0, a), (0, c)] M (rI (if u = 0 then v else if v = 0 then u else if v ≤ u then u else v) M) := by
  refine sg_X_shiftRefusal (d := 38) ⟨_, hx, _, hy, ite_i (fun t => ite_i (fun t2 => absurd ⟨t, t2⟩ z0) (fun t2 => ?_)) (fun t => ite_i (fun t2 => ite_i (fun t3 => absurd t3 t) (fun _ => ?_)) (fun t2 => ite_i (fun t3 => ite_i (fun t4 => absurd t4 t) (fun _ => ?_)) (fun t3 => ite_i (fun t4 => absurd t4 t2) (fun _ => ?_))))⟩
  · rw [if_pos t]
  · rw [if_neg t, if_pos t2]
  · rw [if_neg t, if_neg t2, if_pos t3]
  · rw [if_neg t, if_neg t2, if_neg t3]
theorem c_M_shiftNo (h : ((¬ (0 ≤ a ∧ a < 6) ∨ ¬ (0 ≤ c ∧ c < 6)) ∧ u = -1) ∨ ((0 ≤ a ∧ a < 6) ∧ (0 ≤ c ∧ c < 6) ∧ ((N 84 a = -1 ∨ N 84 c = -1) ∧ u = -11)) ∨ ((0 ≤ a ∧ a < 6) ∧ (0 ≤ c ∧ c < 6) ∧ ¬ N 84 a = -1 ∧ ¬ N 84 c = -1 ∧ (¬ (0 ≤ N 84 a ∧ N 84 a ≤ 4) ∨ ¬ (0 ≤ N 84 c ∧ N 84 c ≤ 4) ∨ ¬ N 84 a = N 84 c) ∧ u = -12)) : Cl 40 m_M_shift [(2, 64), (0, a), (0, b), (0, c), (0, j), (0, n)] N (rI u N) := by
  refine sg_M_shift (d := 39) ⟨_, c_M_isShelf (by decide), ite_b (fun t => ?_) (fun t => ⟨_, c_M_isShelf (by decide), ite_bn (fun t2 => ⟨t, ite_i (fun t3 => ?_) (fun t3 => ⟨t2, ite_i (fun t4 => ⟨_, c_M_isRow t, ite_b (fun t5 => ?_) (fun t5 => ⟨_, c_M_isRow t2, ite_b (fun t6 => ?_) (fun t6 => ⟨t, t2, ite_i (fun t7 => ?_) (fun t7 => ?_)⟩)⟩)⟩) (fun t4 => ?_)⟩)⟩) (fun t2 => ?_)⟩)⟩
  · rw [show u = -1 by omega]
  · rw [show u = -11 by omega]
  · rw [show u = -12 by omega]
  · rw [show u = -12 by omega]
  · omega
  · rw [show u = -12 by omega]
  · rw [show u = -11 by omega]
  · rw [show u = -1 by omega]
theorem c_S_isStretch (h : R13 M) (z : 0 ≤ a ∧ a < 6) (q : M 50 a = 2) (hn : c32 n) : Cl 39 m_S_isStretch [(2, 49), (0, a), (0, b), (0, n)] M (rI (bI (0 ≤ b ∧ 0 ≤ n ∧ b + n ≤ M 85 a)) M) := by
  obtain ⟨-, -, -, -, r5, r6, -⟩ := h.row z q
  refine sg_S_isStretch (d := 38) (ite_i (fun t => ?_) (fun t => ite_i (fun t2 => ?_) (fun t2 => ⟨_, c_S_lengthOf h z q (by decide), ?_⟩)))
  · rw [bI_f (by omega)]
  · rw [bI_f (by omega)]
  · rw [w32_i (x := M 85 a - n) (by omega) (by omega)]
    refine ite_i (fun t3 => ?_) (fun t3 => ?_)
    · rw [bI_f (by omega)]
    · rw [bI_t (by omega)]
theorem ix60b (z : 0 ≤ p ∧ p < 6) {i k : Int} (i0 : 0 ≤ i) (k0 : 0 ≤ k) (i6 : i + k ≤ 60) : w32 ((w32 ((w32 (60 * p)) + i)) + k) = 60 * p + i + k := by
  rw [w32_i (x := 60 * p) (by omega) (by omega), w32_i (x := 60 * p + i) (by omega) (by omega), w32_i (by omega) (by omega)]
theorem lcmp_le {x y : Int} : lcmpI x y ≤ 0 ↔ x ≤ y := by
  have := @lcmp_gt x y
  omega
theorem c_M_shiftYes (za : 0 ≤ a ∧ a < 6) (zc : 0 ≤ c ∧ c < 6) (h1 : 0 ≤ N 84 a ∧ N 84 a ≤ 4) (h2 : N 84 c = N 84 a) (b0 : 0 ≤ b) (j0 : 0 ≤ j) (n0 : 0 ≤ n) (l1 : b + n ≤ N 85 a) (l2 : j + n ≤ N 85 c) (l3 : N 85 a ≤ 60) (l4 : N 85 c ≤ 60) : Cl 40 m_M_shift [(2, 64), (0, a), (0, b), (0, c), (0, j), (0, n)] N (rI n (fil N 86 (60 * c + j) (fun i => N 86 (i - (60 * c + j) + (60 * a + b))) n.toNat)) := by
  obtain ⟨k, rfl⟩ : ∃ k : Nat, n = k := ⟨n.toNat, by omega⟩
  rw [Int.toNat_natCast]
  have fwd : (¬ a = c ∨ j ≤ b) → at_M_shift_110 39 a b c j (k : Int) 0 N (rI (k : Int) (fil N 86 (60 * c + j) (fun i => N 86 (i - (60 * c + j) + (60 * a + b))) k)) := fun hc => by
    have := loop_up (fun Mx i => at_M_shift_110 39 a b c j (k : Int) i Mx (rI (k : Int) (fil N 86 (60 * c + j) (fun i => N 86 (i - (60 * c + j) + (60 * a + b))) k))) (fil N 86 (60 * c + j) (fun i => N 86 (i - (60 * c + j) + (60 * a + b)))) k (sg_M_shift_110 (ite_i (fun _ => rfl) (fun t => absurd (Int.le_refl _) t))) (fun m hm ih => sg_M_shift_110 (ite_i (fun t => absurd t (by omega)) (fun _ => by
      rw [ix60b za b0 (by omega) (by omega), ix60b zc j0 (by omega) (by omega)]
      refine ⟨⟨by omega, by omega⟩, ⟨by omega, by omega⟩, ?_⟩
      rw [w32_k (by omega), fil_s (by omega) (by rw [fil_n (by omega)]; exact congrArg (N 86) (by omega))]
      exact ih)))
    rw [fil_0] at this
    exact this
  have bwd : a = c → b < j → ∀ m : Nat, m ≤ k → at_M_shift_83 39 a b c j (k : Int) ((m : Int) - 1) (fil N 86 (60 * c + j + m) (fun i => N 86 (i - (60 * c + j) + (60 * a + b))) (k - m)) (rI (k : Int) (fil N 86 (60 * c + j) (fun i => N 86 (i - (60 * c + j) + (60 * a + b))) k)) := fun hac hbj m => by
    induction m with
    | zero =>
      intro _
      refine sg_M_shift_83 (ite_i (fun _ => ?_) (fun t => absurd (by decide) t))
      rw [show 60 * c + j + ((0 : Nat) : Int) = 60 * c + j by omega]
      rfl
    | succ m ih =>
      intro hm
      refine sg_M_shift_83 (ite_i (fun t => absurd t (by omega)) (fun _ => ?_))
      rw [show ((m + 1 : Nat) : Int) - 1 = (m : Int) by omega]
      rw [ix60b za b0 (by omega) (by omega), ix60b zc j0 (by omega) (by omega)]
      refine ⟨⟨by omega, by omega⟩, ⟨by omega, by omega⟩, ?_⟩
      rw [w32_i (x := (m : Int) + -1) (by omega) (by omega), show (m : Int) + -1 = (m : Int) - 1 by omega]
      rw [fil_d (i := 60 * c + j + m) (by omega) (by rw [fil_n (by omega)]; exact congrArg (N 86) (by omega)), show k - (m + 1) + 1 = k - m by omega]
      exact ih (by omega)
  refine sg_M_shift (d := 39) ⟨_, c_M_isShelf (by decide), ite_b (fun t => absurd za t) (fun t => ⟨_, c_M_isShelf (by decide), ite_bn (fun t2 => ⟨t, ite_i (fun t3 => absurd t3 (by omega)) (fun t3 => ⟨t2, ite_i (fun t4 => ⟨_, c_M_isRow t, ite_b (fun t5 => absurd h1 t5) (fun t5 => ⟨_, c_M_isRow t2, ite_b (fun t6 => absurd (by omega) t6) (fun t6 => ⟨t, t2, ite_i (fun t7 => ?_) (fun t7 => absurd h2.symm t7)⟩)⟩)⟩) (fun t4 => absurd (by omega) t4)⟩)⟩) (fun t2 => absurd zc t2)⟩)⟩
  refine ite_i (fun t => absurd t (by omega)) (fun _ => ite_i (fun t => absurd t (by omega)) (fun _ => ite_i (fun t => absurd t (by omega)) (fun _ => ⟨za, ?_⟩)))
  rw [w64_i (x := b + (k : Int)) (by omega) (by omega), w64_i (x := j + (k : Int)) (by omega) (by omega)]
  refine ite_i (fun t => absurd (lcmp_gt.mp t) (by omega)) (fun _ => ⟨zc, ite_i (fun _ => ?_) (fun t => absurd (lcmp_le.mpr l2) t)⟩)
  refine ite_i (fun t => fwd (Or.inl t)) (fun t => ite_i (fun t2 => fwd (Or.inr t2)) (fun t2 => ?_))
  have := bwd (Classical.not_not.mp t) (by omega) k (Nat.le_refl _)
  rw [Nat.sub_self, fil_0] at this
  rw [w32_i (x := (k : Int) - 1) (by omega) (by omega)]
  exact this
theorem c_M_shiftPl (za : 0 ≤ a ∧ a < 6) (zc : 0 ≤ c ∧ c < 6) (h1 : 0 ≤ N 84 a ∧ N 84 a ≤ 4) (h2 : N 84 c = N 84 a) (hb : c32 b) (hj : c32 j) (hn : c32 n) (no : ¬ (0 ≤ b ∧ 0 ≤ n ∧ b + n ≤ N 85 a) ∨ ¬ (0 ≤ j ∧ 0 ≤ n ∧ j + n ≤ N 85 c)) : Cl 40 m_M_shift [(2, 64), (0, a), (0, b), (0, c), (0, j), (0, n)] N (rI (-13) N) := by
  refine sg_M_shift (d := 39) ⟨_, c_M_isShelf (by decide), ite_b (fun t => absurd za t) (fun t => ⟨_, c_M_isShelf (by decide), ite_bn (fun t2 => ⟨t, ite_i (fun t3 => absurd t3 (by omega)) (fun t3 => ⟨t2, ite_i (fun t4 => ⟨_, c_M_isRow t, ite_b (fun t5 => absurd h1 t5) (fun t5 => ⟨_, c_M_isRow t2, ite_b (fun t6 => absurd (by omega) t6) (fun t6 => ⟨t, t2, ite_i (fun t7 => ?_) (fun t7 => absurd h2.symm t7)⟩)⟩)⟩) (fun t4 => absurd (by omega) t4)⟩)⟩) (fun t2 => absurd zc t2)⟩)⟩
  refine ite_i (fun t => rfl) (fun _ => ite_i (fun t => rfl) (fun _ => ite_i (fun t => rfl) (fun _ => ⟨za, ?_⟩)))
  have := hb.1; have := hb.2; have := hj.1; have := hj.2; have := hn.1; have := hn.2
  rw [w64_i (x := b + n) (by omega) (by omega), w64_i (x := j + n) (by omega) (by omega)]
  refine ite_i (fun _ => rfl) (fun t => ⟨zc, ite_i (fun t2 => ?_) (fun _ => rfl)⟩)
  have t := (not_congr lcmp_gt).mp t
  have t2 := lcmp_le.mp t2
  omega
theorem pk_shift (i : INV M) (hb : c32 b) (hj : c32 j) (hn : c32 n) : Pk m_X_shift m_M_shift [(0, a), (0, b), (0, c), (0, j), (0, n)] M := by
  have h := i.2.2.2.2.2.2.2.2.2.2.2.1
  have no : ∀ w : Int, ¬ w = 0 → Cl 39 m_X_shiftRefusal [(2, 0), (0, a), (0, c)] M (rI w M) → Cl 40 m_X_shift [(2, 0), (0, a), (0, b), (0, c), (0, j), (0, n)] M (rI w M) := fun w hw r => sg_X_shift (d := 39) ⟨_, r, ite_i (fun t => absurd t hw) (fun _ => rfl)⟩
  rcases rowAny h a with ⟨u, u0, rx, q⟩ | ⟨za, q1, q2, q3, rx⟩
  · rcases rowAny h c with ⟨v, v0, ry, q'⟩ | ⟨zc, q1', q2', q3', ry⟩
    · have e : (if u = 0 then v else if v = 0 then u else if v ≤ u then u else v) = if v ≤ u then u else v := by rw [if_neg (by omega), if_neg (by omega)]
      refine Pk.of (no _ ?_ (c_X_shiftRef (by omega) rx ry)) (c_M_shiftNo ?_) i
      · rw [e]; split <;> omega
      · rw [e]; split <;> omega
    · have e : (if u = 0 then (0 : Int) else if (0 : Int) = 0 then u else if 0 ≤ u then u else 0) = u := by rw [if_neg (by omega), if_pos rfl]
      refine Pk.of (no _ ?_ (c_X_shiftRef (by omega) rx ry)) (c_M_shiftNo ?_) i
      · rw [e]; omega
      · rw [e]; omega
  · rcases rowAny h c with ⟨v, v0, ry, q'⟩ | ⟨zc, q1', q2', q3', ry⟩
    · have e : (if (0 : Int) = 0 then v else if v = 0 then 0 else if v ≤ 0 then 0 else v) = v := by rw [if_pos rfl]
      refine Pk.of (no _ ?_ (c_X_shiftRef (by omega) rx ry)) (c_M_shiftNo ?_) i
      · rw [e]; omega
      · rw [e]; omega
    · obtain ⟨r1, r2, r3, r4, r5, r6, r7⟩ := h.row za q1
      obtain ⟨t1, t2, t3, t4, t5, t6, t7⟩ := h.row zc q1'
      have so : ∀ p : Int, 0 ≤ p ∧ p < 6 → Cl 38 m_S_sortOf [(2, 49), (0, p)] M (rI (M 52 p) M) := fun p z => sg_S_sortOf (d := 37) ⟨_, c_S_has (by decide), ite_b (fun t => absurd z t) (fun _ => ⟨z, rfl⟩)⟩
      by_cases s : M 52 a = M 52 c
      · have ok : Cl 39 m_X_shiftRefusal [(2, 0), (0, a), (0, c)] M (rI 0 M) := sg_X_shiftRefusal (d := 38) ⟨_, rx, _, ry, ite_i (fun _ => ite_i (fun _ => ⟨_, so a za, _, so c zc, ite_i (fun t => absurd s t) (fun _ => rfl)⟩) (fun t => absurd rfl t)) (fun t => absurd rfl t)⟩
        by_cases w1 : 0 ≤ b ∧ 0 ≤ n ∧ b + n ≤ M 85 a
        · by_cases w2 : 0 ≤ j ∧ 0 ≤ n ∧ j + n ≤ M 85 c
          · have hM1 : ∀ (o : Nat), 84 ≤ o → cpy M ((55 + a).toNat) ((55 + c).toNat) b j n o = M o := fun o ho => funext fun i => if_neg (by omega)
            have m := c_M_shiftYes (N := cpy M ((55 + a).toNat) ((55 + c).toNat) b j n) (a := a) (b := b) (c := c) (j := j) (n := n) za zc (by rw [hM1 84 (by decide)]; omega) (by rw [hM1 84 (by decide)]; omega) w1.1 w2.1 w1.2.1 (by rw [hM1 85 (by decide)]; exact w1.2.2) (by rw [hM1 85 (by decide)]; exact w2.2.2) (by rw [hM1 85 (by decide)]; exact r6) (by rw [hM1 85 (by decide)]; exact t6)
            refine Pk.of (sg_X_shift (d := 39) ⟨_, ok, ite_i (fun _ => ⟨_, c_S_isStretch h za q1 hn, ite_b (fun t => absurd w1 t) (fun _ => ⟨_, c_S_isStretch h zc q1' hn, ite_bn (fun _ => ⟨za, zc, ⟨w1.1, w2.1, w1.2.1, by omega, by omega⟩, rfl⟩) (fun t => absurd w2 t)⟩)⟩) (fun t => absurd rfl t)⟩) m (i.shelves (((To.refl TS M).cpy (fun q _ _ => by unfold TS; omega)).fil (fun q _ _ => by unfold TS; omega)) ?_)
            rw [hM1 86 (by decide)]
            obtain ⟨B, hB⟩ : ∃ B, B = fil (cpy M ((55 + a).toNat) ((55 + c).toNat) b j n) 86 (60 * c + j) (fun i => M 86 (i - (60 * c + j) + (60 * a + b))) n.toNat := ⟨_, rfl⟩
            rw [← hB]
            have hM : ∀ (o : Nat) (q : Int), ¬ (o = (55 + c).toNat ∧ j ≤ q ∧ q < j + n) → ¬ (o = 86 ∧ 60 * c + j ≤ q ∧ q < 60 * c + j + n) → B o q = M o q := fun o q h1 h2 => by
              rw [hB, fil_n (by omega)]; exact if_neg h1
            intro p p0 p6
            have hp := h p p0 p6
            rw [hM 50 p (by omega) (by omega), hM 51 p (by omega) (by omega), hM 52 p (by omega) (by omega), hM 53 p (by omega) (by omega), hM 84 p (by omega) (by omega), hM 85 p (by omega) (by omega), hM 64 30 (by omega) (by omega)]
            rcases hp with hp | hp | ⟨g1, g2, g3, g4, g5, g6, g7, g8⟩
            · exact Or.inl hp
            · exact Or.inr (Or.inl hp)
            · refine Or.inr (Or.inr ⟨g1, g2, g3, g4, g5, g6, g7, fun q j0 j1 => ?_⟩)
              by_cases e : p = c ∧ j ≤ q ∧ q < j + n
              · obtain ⟨rfl, e1, e2⟩ := e
                have c1 : B ((55 + p).toNat) q = M ((55 + a).toNat) (b + (q - j)) := by
                  rw [hB, fil_n (by omega)]
                  exact if_pos ⟨rfl, e1, e2⟩
                have c2 : B 86 (60 * p + q) = M 86 (60 * a + (b + (q - j))) := by
                  rw [hB, fil_i (by omega) (by omega)]
                  exact congrArg (M 86) (by omega)
                rw [c1, c2, ← s]
                exact r7 (b + (q - j)) (by omega) (by omega)
              · rw [hM ((55 + p).toNat) q (by omega) (by omega), hM 86 (60 * p + q) (by omega) (by omega)]
                exact g8 q j0 j1
          · exact Pk.of (sg_X_shift (d := 39) ⟨_, ok, ite_i (fun _ => ⟨_, c_S_isStretch h za q1 hn, ite_b (fun t => rfl) (fun _ => ⟨_, c_S_isStretch h zc q1' hn, ite_bn (fun t => absurd t w2) (fun t => rfl)⟩)⟩) (fun t => absurd rfl t)⟩) (c_M_shiftPl za zc ⟨q2, q3⟩ (by omega) hb hj hn (Or.inr w2)) i
        · exact Pk.of (sg_X_shift (d := 39) ⟨_, ok, ite_i (fun _ => ⟨_, c_S_isStretch h za q1 hn, ite_b (fun t => rfl) (fun t => absurd t w1)⟩) (fun t => absurd rfl t)⟩) (c_M_shiftPl za zc ⟨q2, q3⟩ (by omega) hb hj hn (Or.inl w1)) i
      · have bad : Cl 39 m_X_shiftRefusal [(2, 0), (0, a), (0, c)] M (rI (-12) M) := sg_X_shiftRefusal (d := 38) ⟨_, rx, _, ry, ite_i (fun _ => ite_i (fun _ => ⟨_, so a za, _, so c zc, ite_i (fun _ => rfl) (fun t => absurd t (fun y => y s))⟩) (fun t => absurd rfl t)) (fun t => absurd rfl t)⟩
        exact Pk.of (no _ (by decide) bad) (c_M_shiftNo (Or.inr (Or.inr ⟨za, zc, by omega, by omega, Or.inr (Or.inr (by omega)), rfl⟩))) i
end P26
