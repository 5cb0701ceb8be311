/-! promise order, to its end -/
section P51
variable {M N : Mem} {a b c x y z v s r f n l : Int} {L : Option (List LN)} {W K : Int → Int}
theorem M_weight (h1 : R1 M) (h2 : R2 M) (hl : LAW M L) (hg : GLS x) (c0 : 0 ≤ c) (cn : c < M 64 0) (t : Fr M N) (g : N 64 37 = x / 100 ∧ N 64 38 = x % 100) (z : N 87 c = 0) : ∃ N', To (fun o i => o = 77 ∨ (o = 87 ∧ i = c)) N N' ∧ N' 87 c = WT L M x c ∧ ∀ r, at_M_orders_16 22 c 10 N' r → at_M_orders_16 22 c 0 N r := by
  have e3 := h1.2.2.1
  have key : ∀ (j k : Nat) (D : Mem), k + j = 10 → To (fun o i => o = 77 ∨ (o = 87 ∧ i = c)) N D → D 87 c = mxB (fun f => GA L M (x / 100) (x % 100) c (f : Int)) k → ∃ N', To (fun o i => o = 77 ∨ (o = 87 ∧ i = c)) N N' ∧ N' 87 c = WT L M x c ∧ ∀ r, at_M_orders_16 22 c 10 N' r → at_M_orders_16 22 c k D r := by
    intro j
    induction j with
    | zero =>
      intro k D hk q w
      obtain rfl : k = 10 := by omega
      exact ⟨D, q, w, fun r hr => hr⟩
    | succ j ih =>
      intro k D hk q w
      have tD : Fr M D := t.trans (q.wk (by intro o i; unfold Scr; omega))
      have n0 : D 64 0 = M 64 0 := tD.f64 (by decide)
      have p1 : D 64 37 = x / 100 := by rw [q 64 37 (by omega)]; exact g.1
      have p2 : D 64 38 = x % 100 := by rw [q 64 38 (by omega)]; exact g.2
      have on := c_M_isOn (d := 22) (h1.fr tD) (h2.fr h1 tD) p1 p2 (c := c) (f := (k : Int)) (by omega) (by omega) (by omega) (by omega) c0 (by rw [n0]; exact cn) (by omega) (by omega) (by decide)
      rw [bI_c (FIT_fr tD)] at on
      have k1 : (((k + 1 : Nat)) : Int) = (k : Int) + 1 := by omega
      by_cases fit : FIT M (x / 100) (x % 100) c k
      · obtain ⟨D1, j1, j2⟩ := c_M_alikeTo (h1.fr tD) (h2.fr h1 tD) (hl.fr tD) (s := x / 100) (r := x % 100) (c := c) (f := (k : Int)) (by omega) (by omega) (by omega) (by omega) c0 (by rw [n0]; exact cn) (by omega) (by omega)
        rw [ALV_fr tD] at j2
        have ga : GA L M (x / 100) (x % 100) c k = ALV L M (x / 100) (x % 100) c k := if_pos fit
        rw [← ga] at j2
        obtain ⟨N', i1, i2, i3⟩ := ih (k + 1) (up D1 87 c (if D 87 c < GA L M (x / 100) (x % 100) c k then GA L M (x / 100) (x % 100) c k else D 87 c)) (by omega) ((q.trans (j1.wk (by intro o i; unfold TV; omega))).upd (Or.inr ⟨rfl, rfl⟩)) (by rw [up_eq, w]; rfl)
        rw [k1] at i3
        refine ⟨N', i1, i2, fun r hr => sg_M_orders_16 (ite_i (fun y => absurd y (by omega)) (fun _ => ⟨_, on, ite_b (fun y => absurd fit y) (fun _ => ⟨⟨c0, by omega⟩, ?_⟩)⟩))⟩
        rw [p1, p2, w32_k (by omega)]
        exact ⟨_, _, j2.mono (by decide), ⟨c0, by omega⟩, i3 r hr⟩
      · have ga : GA L M (x / 100) (x % 100) c k = -1 := if_neg fit
        have mr := mxB_rng (fun i => (GA_rng (L := L) (M := M) (s := x / 100) (r := x % 100) (c := c) (f := (i : Int))).2) k
        obtain ⟨N', i1, i2, i3⟩ := ih (k + 1) D (by omega) q (by
          rw [w]
          show _ = if mxB _ k < GA L M (x / 100) (x % 100) c k then _ else _
          rw [ga, if_neg (by omega)])
        rw [k1] at i3
        refine ⟨N', i1, i2, fun r hr => sg_M_orders_16 (ite_i (fun y => absurd y (by omega)) (fun _ => ⟨_, on, ite_b (fun _ => ?_) (fun y => absurd y fit)⟩))⟩
        rw [w32_k (by omega)]
        exact i3 r hr
  exact key 10 0 N rfl (To.refl _ N) z
theorem lines_two (h1 : R1 M) (h2 : R2 M) (hl : LAW M L) (hg : GLS x) : ∀ (m k : Nat) (l : Int) (W K : Int → Int), (k : Int) + m = M 64 0 → 0 ≤ l → l ≤ k → OKl k l W K → ∃ (l' : Int) (W' K' : Int → Int), 0 ≤ l' ∧ l' ≤ M 64 0 ∧ OKl (M 64 0) l' W' K' ∧ (∀ C, CXl M C k l W K → ∀ w4, ∃ C', CXl M C' (M 64 0) l' W' K' ∧ at_X_lineUp_4 22 x l k w4 C (rI l' C')) ∧ (∀ N, NXl M N x k l W K → ∀ w2, ∃ N', NXl M N' x (M 64 0) l' W' K' ∧ at_M_orders_5 22 k w2 N (rV N'))
  | 0, k, l, W, K, hk, l0, lk, ok => by
    have e : (k : Int) = M 64 0 := by omega
    refine ⟨l, W, K, l0, by omega, by rw [← e]; exact ok, fun C h w4 => ⟨C, by rw [← e]; exact h, sg_X_lineUp_4 (ite_i (fun _ => rfl) (fun q => absurd (by rw [(h1.fr h.1).1, h.1.f64 (by decide)]; omega) q))⟩, fun N h w2 => ⟨N, by rw [← e]; exact h, sg_M_orders_5 (ite_i (fun _ => rfl) (fun q => absurd (by rw [h.1.f64 (by decide)]; omega) q))⟩⟩
  | m + 1, k, l, W, K, hk, l0, lk, ok => by
    have e3 := h1.2.2.1
    have k1 : (((k + 1 : Nat)) : Int) = (k : Int) + 1 := by omega
    obtain ⟨v, hv⟩ : ∃ v, WT L M x (k : Int) = v := ⟨_, rfl⟩
    have vr := WT_rng (L := L) (M := M) (x := x) (c := (k : Int))
    rw [hv] at vr
    obtain ⟨W1, hW⟩ : ∃ W1 : Int → Int, W1 = fun j => if j = (k : Int) then v else W j := ⟨_, rfl⟩
    have w1k : W1 (k : Int) = v := by rw [hW]; simp
    have w1n : ∀ j : Int, ¬ j = (k : Int) → W1 j = W j := fun j q => by rw [hW]; simp [q]
    have ok1 : ∀ j : Int, 0 ≤ j → j < (k : Int) + 1 → 0 ≤ W1 j ∧ W1 j ≤ 99 := fun j j0 j1 => by
      by_cases q : j = (k : Int)
      · rw [q, w1k]; exact vr
      · rw [w1n j q]; exact ok.1 j j0 (by omega)
    have okK : ∀ j : Int, 0 ≤ j → j < l → (0 ≤ K j ∧ K j < k) ∧ 0 < W1 (K j) := fun j j0 j1 => by
      have := ok.2 j j0 j1
      refine ⟨this.1, ?_⟩
      rw [w1n (K j) (by omega)]; exact this.2
    -- the class comes to its weight
    have sX : ∀ {C : Mem}, CXl M C k l W K → ∃ C1, Fr M C1 ∧ (∀ j : Int, 0 ≤ j → j ≤ k → C1 61 j = W1 j) ∧ (∀ j : Int, 0 ≤ j → j < l → C1 62 j = K j) ∧ ∀ w4 r, (if v ≤ 0 then at_X_lineUp_4 22 x l ((k : Int) + 1) w4 C1 r else at_X_lineUp_24 22 x l k l C1 r) → at_X_lineUp_4 22 x l k w4 C r := fun {C} h => by
      obtain ⟨t, g1, g2⟩ := h
      obtain ⟨C0, j1, j2⟩ := c_X_likelihood h1 h2 hl hg (c := (k : Int)) (by omega) (by omega) t
      rw [hv] at j2
      refine ⟨up C0 61 (k : Int) v, (t.trans (TXa_fr j1)).upd (by unfold Scr; omega), fun j j0 j1' => ?_, fun j j0 j1' => ?_, fun w4 r hr => sg_X_lineUp_4 (ite_i (fun q => absurd q (by rw [(h1.fr t).1, t.f64 (by decide)]; omega)) (fun _ => ⟨_, _, j2.mono (by decide), ⟨by omega, by omega⟩, ⟨by omega, by omega⟩, ?_⟩))⟩
      · by_cases q : j = (k : Int)
        · rw [q, up_eq, w1k]
        · rw [up_n (by omega), j1 61 j (by unfold TXa; omega), w1n j q]; exact g1 j j0 (by omega)
      · rw [up_n (by omega), j1 62 j (by unfold TXa; omega)]; exact g2 j j0 j1'
      · rw [up_eq, w32_k (by omega)]; exact hr
    have sM : ∀ {N : Mem}, NXl M N x k l W K → ∃ N1, Fr M N1 ∧ (N1 64 37 = x / 100 ∧ N1 64 38 = x % 100) ∧ N1 64 41 = l ∧ (∀ j : Int, 0 ≤ j → j ≤ k → N1 87 j = W1 j) ∧ (∀ j : Int, 0 ≤ j → j < l → N1 88 j = K j) ∧ ∀ w2 r, (if ¬ v = 0 then at_M_orders_57 22 k l (up N1 64 41 (l + 1)) r else at_M_orders_5 22 ((k : Int) + 1) (0, 10) N1 r) → at_M_orders_5 22 k w2 N r := fun {N} h => by
      obtain ⟨t, g0, g1, g2, g3⟩ := h
      have t0 : Fr M (up N 87 (k : Int) 0) := t.upd (by unfold Scr; omega)
      obtain ⟨N1, j1, j2, j3⟩ := M_weight h1 h2 hl hg (c := (k : Int)) (by omega) (by omega) t0 ⟨by rw [up_n (by omega)]; exact g0.1, by rw [up_n (by omega)]; exact g0.2⟩ up_eq
      rw [hv] at j2
      have n41 : N1 64 41 = l := by rw [j1 64 41 (by omega), up_n (by omega)]; exact g1
      refine ⟨N1, t0.trans (j1.wk (by intro o i; unfold Scr; omega)), ⟨by rw [j1 64 37 (by omega), up_n (by omega)]; exact g0.1, by rw [j1 64 38 (by omega), up_n (by omega)]; exact g0.2⟩, n41, fun j j0 j1' => ?_, fun j j0 j1' => ?_, fun w2 r hr => sg_M_orders_5 (ite_i (fun q => absurd q (by rw [t.f64 (by decide)]; omega)) (fun _ => ⟨⟨by omega, by omega⟩, j3 r (sg_M_orders_16 (ite_i (fun _ => ⟨⟨by omega, by omega⟩, ?_⟩) (fun q => absurd (by decide) q)))⟩))⟩
      · by_cases q : j = (k : Int)
        · rw [q, j2, w1k]
        · rw [j1 87 j (by omega), up_n (by omega), w1n j q]; exact g2 j j0 (by omega)
      · rw [j1 88 j (by omega), up_n (by omega)]; exact g3 j j0 j1'
      · rw [j2, n41, w32_i (x := l + 1) (by omega) (by omega), w32_k (by omega)]
        exact hr
    by_cases q : v ≤ 0
    · obtain ⟨l', W', K', y1, y2, y3, hX, hM⟩ := lines_two h1 h2 hl hg m (k + 1) l W1 K (by omega) l0 (by omega) ⟨by rw [k1]; exact ok1, fun j j0 j1 => ⟨⟨(okK j j0 j1).1.1, by have := (okK j j0 j1).1.2; omega⟩, (okK j j0 j1).2⟩⟩
      rw [k1] at hX hM
      refine ⟨l', W', K', y1, y2, y3, fun C h w4 => ?_, fun N h w2 => ?_⟩
      · obtain ⟨C1, a1, a2, a3, a4⟩ := sX h
        obtain ⟨C', b1, b2⟩ := hX C1 ⟨a1, fun j j0 j1 => a2 j j0 (by omega), a3⟩ w4
        exact ⟨C', b1, a4 w4 _ (by rw [if_pos q]; exact b2)⟩
      · obtain ⟨N1, a1, a0, a5, a2, a3, a4⟩ := sM h
        obtain ⟨N', b1, b2⟩ := hM N1 ⟨a1, a0, a5, fun j j0 j1 => a2 j j0 (by omega), a3⟩ (0, 10)
        exact ⟨N', b1, a4 w2 _ (by rw [if_neg (by omega)]; exact b2)⟩
    · obtain ⟨ln, hln⟩ : ∃ ln : Nat, (ln : Int) = l := ⟨l.toNat, by omega⟩
      obtain ⟨K1, okK1, iX, iM⟩ := insert_two (M := M) (x := x) (c := (k : Int)) (l := l) (W := W1) (by omega) (by omega) e3 l0 lk (by rw [w1k]; omega) ln K (by omega) (fun j j0 j1 jn => by have := okK j j0 (by omega); exact ⟨⟨this.1.1, by omega⟩, this.2⟩)
      obtain ⟨l', W', K', y1, y2, y3, hX, hM⟩ := lines_two h1 h2 hl hg m (k + 1) (l + 1) W1 K1 (by omega) (by omega) (by omega) ⟨by rw [k1]; exact ok1, fun j j0 j1 => ⟨⟨(okK1 j j0 (by omega)).1.1, by have := (okK1 j j0 (by omega)).1.2; omega⟩, (okK1 j j0 (by omega)).2⟩⟩
      rw [k1] at hX hM
      rw [hln] at iX iM
      refine ⟨l', W', K', y1, y2, y3, fun C h w4 => ?_, fun N h w2 => ?_⟩
      · obtain ⟨C1, a1, a2, a3, a4⟩ := sX h
        obtain ⟨C2, u4, c1, c2⟩ := iX C1 a1 a2 (fun j j0 j1 jn => a3 j j0 (by omega))
        obtain ⟨C', b1, b2⟩ := hX C2 c1 u4
        exact ⟨C', b1, a4 w4 _ (by rw [if_neg q]; exact c2 _ b2)⟩
      · obtain ⟨N1, a1, a0, a5, a2, a3, a4⟩ := sM h
        obtain ⟨N2, u2, c1, c2⟩ := iM (up N1 64 41 (l + 1)) (a1.upd (by unfold Scr; omega)) ⟨by rw [up_n (by omega)]; exact a0.1, by rw [up_n (by omega)]; exact a0.2⟩ up_eq (fun j j0 j1 => by rw [up_n (by omega)]; exact a2 j j0 j1) (fun j j0 j1 jn => by rw [up_n (by omega)]; exact a3 j j0 (by omega))
        obtain ⟨N', b1, b2⟩ := hM N2 c1 u2
        exact ⟨N', b1, a4 w2 _ (by rw [if_pos (by omega)]; exact c2 _ b2)⟩
/-- the places times how alike; how alike -/
abbrev TPs (W K : Int → Int) : Nat → Int := sumB (fun i => ((i : Int) + 1) * W (K (i : Int)))
abbrev BTs (W K : Int → Int) : Nat → Int := sumB (fun i => W (K (i : Int)))
theorem sums_rng {lN : Nat} (h12 : lN ≤ 12) (h : ∀ i : Nat, i < lN → 1 ≤ W (K (i : Int)) ∧ W (K (i : Int)) ≤ 99) : ∀ k : Nat, k ≤ lN → (0 ≤ TPs W K k ∧ TPs W K k ≤ 1188 * k) ∧ ((k : Int) ≤ BTs W K k ∧ BTs W K k ≤ 99 * k)
  | 0, _ => ⟨⟨Int.le_refl _, show (0 : Int) ≤ 1188 * ((0 : Nat) : Int) by decide⟩, ⟨Int.le_refl _, show (0 : Int) ≤ 99 * ((0 : Nat) : Int) by decide⟩⟩
  | k + 1, hk => by
    obtain ⟨a, b⟩ := sums_rng h12 h k (by omega)
    obtain ⟨h1, h2⟩ := h k (by omega)
    have e : 0 ≤ ((k : Int) + 1) * W (K (k : Int)) ∧ ((k : Int) + 1) * W (K (k : Int)) ≤ 1188 := by
      refine ⟨Int.mul_nonneg (by omega) (by omega), ?_⟩
      have := Int.mul_le_mul (show (k : Int) + 1 ≤ 12 by omega) h2 (by omega) (by decide)
      omega
    show (0 ≤ TPs W K k + ((k : Int) + 1) * W (K (k : Int)) ∧ TPs W K k + ((k : Int) + 1) * W (K (k : Int)) ≤ 1188 * ((k + 1 : Nat) : Int)) ∧ (((k + 1 : Nat) : Int) ≤ BTs W K k + W (K (k : Int)) ∧ BTs W K k + W (K (k : Int)) ≤ 99 * ((k + 1 : Nat) : Int))
    omega
theorem pk_order (i : INV M) (ha : c32 a) : PkL m_X_order m_M_order [(0, a), (0, b)] M := by
  obtain ⟨L, hl⟩ := i.2.2.2.2.2.1.law
  obtain ⟨e1, e2, e3, -⟩ := id i.1
  by_cases hg : 0 ≤ a ∧ a / 100 ≤ 4 ∧ a % 100 ≤ 30
  · by_cases y : -2 ≤ b
    · obtain ⟨l, W, K, l0, ln, ok, hX, hM⟩ := lines_two i.1 i.2.1 hl hg (M 64 0).toNat 0 0 (fun _ => 0) (fun _ => 0) (by omega) (by decide) (by decide) ⟨fun j j0 j1 => absurd j1 (by omega), fun j j0 j1 => absurd j1 (by omega)⟩
      obtain ⟨C, c1, c2⟩ := hX M ⟨Fr.refl M, fun j j0 j1 => absurd j1 (by omega), fun j j0 j1 => absurd j1 (by omega)⟩ (3, 0)
      have tC : Fr M (up (tk C a) 64 41 0) := (c1.1.trans tk_fr).upd (by unfold Scr; omega)
      obtain ⟨N, n1, n2⟩ := hM (up (tk C a) 64 41 0) ⟨tC, ⟨by rw [up_n (by omega), tk_s], by rw [up_n (by omega), tk_r]⟩, up_eq, fun j j0 j1 => absurd j1 (by omega), fun j j0 j1 => absurd j1 (by omega)⟩ (3, 0)
      have inv := i.fr n1.1
      obtain ⟨-, -, n41, n87, n88⟩ := n1
      obtain ⟨-, c61, c62⟩ := c1
      have X : ∀ {r : Res}, (if l = 0 then r = (some (1, (-2)), C) else (if b < l then (if b < 0 then (if ¬ b = (-2) then ∃ v13, Cl 79 m_X_meanPart [(2, 0), (0, l), (0, 0)] C (some (1, v13), C) ∧ r = (some (1, v13), C) else ∃ v15, Cl 79 m_X_meanPart [(2, 0), (0, l), (0, 1)] C (some (1, v15), C) ∧ r = (some (1, v15), C)) else (0 ≤ b ∧ b < 12) ∧ r = (some (1, C 62 b), C)) else r = (some (1, (-2)), C))) → Cl 80 m_X_order [(2, 0), (0, a), (0, b)] M r := fun {r} hv =>
        sg_X_order (d := 79) ⟨_, c_X_isGlass ha (by decide), ite_b (fun t => absurd hg t) (fun _ => ite_i (fun _ => ⟨l, C, (sg_X_lineUp (d := 22) c2).mono (by decide), hv⟩) (fun t => absurd y t))⟩
      have Y : ∀ {r : Res}, (if l = 0 then r = (some (1, (-2)), N) else (if b < l then (if b < 0 then at_M_order_41 79 (0, a) b 0 (3, 0) 0 (3, 0) 0 N r else (0 ≤ b ∧ b < 12) ∧ r = (some (1, N 88 b), N)) else r = (some (1, (-2)), N))) → Cl 80 m_M_order [(2, 64), (0, a), (0, b)] C r := fun {r} hv => by
        refine sg_M_order (d := 79) ⟨_, c_M_isGlass ha (by decide), ite_b (fun t => absurd hg t) (fun _ => ite_i (fun _ => ⟨tk C a, (c_M_takes hg).mono (by decide), N, (sg_M_orders (d := 22) n2).mono (by decide), ?_⟩) (fun t => absurd y t))⟩
        rw [n41]; exact hv
      by_cases lz : l = 0
      · exact ⟨-2, C, N, X (by rw [if_pos lz]), Y (by rw [if_pos lz]), inv⟩
      · by_cases bl : b < l
        · by_cases b0 : b < 0
          · obtain ⟨lN, hlN⟩ : ∃ lN : Nat, (lN : Int) = l := ⟨l.toNat, by omega⟩
            have wr : ∀ i : Nat, i < lN → 1 ≤ W (K (i : Int)) ∧ W (K (i : Int)) ≤ 99 := fun i hi => by
              have := ok.2 (i : Int) (by omega) (by omega)
              have := ok.1 (K (i : Int)) this.1.1 this.1.2
              omega
            have sr := sums_rng (W := W) (K := K) (by omega) wr lN (Nat.le_refl _)
            have kr : ∀ i : Nat, i < lN → 0 ≤ K (i : Int) ∧ K (i : Int) < M 64 0 := fun i hi => (ok.2 (i : Int) (by omega) (by omega)).1
            have mean : ∀ (ab : Int) (w : Int), (if ab = 0 then Cl 78 m_X_lowest [(1, BTs W K lN), (1, TPs W K lN)] C (rL w C) else Cl 78 m_X_lowest [(1, TPs W K lN), (1, BTs W K lN)] C (rL w C)) → Cl 79 m_X_meanPart [(2, 0), (0, l), (0, ab)] C (rL w C) := fun ab w hw => by
              have key : ∀ (j k : Nat) (w4 w6 w8 w9 : AV), k + j = lN → at_X_meanPart_6 78 l ab (TPs W K k) w4 (BTs W K k) w6 (k : Int) w8 w9 C (rL w C) := by
                intro j
                induction j with
                | zero =>
                  intro k w4 w6 w8 w9 hk
                  obtain rfl : k = lN := by omega
                  refine sg_X_meanPart_6 (ite_i (fun _ => ite_i (fun q => ?_) (fun q => ?_)) (fun q => absurd (by omega) q))
                  · rw [if_pos q] at hw; exact ⟨_, hw, rfl⟩
                  · rw [if_neg q] at hw; exact ⟨_, hw, rfl⟩
                | succ j ih =>
                  intro k w4 w6 w8 w9 hk
                  have kk := kr k (by omega)
                  have ww := wr k (by omega)
                  have s2 := sums_rng (W := W) (K := K) (by omega) wr k (by omega)
                  have e : 0 ≤ ((k : Int) + 1) * W (K (k : Int)) ∧ ((k : Int) + 1) * W (K (k : Int)) ≤ 1188 := by
                    refine ⟨Int.mul_nonneg (by omega) (by omega), ?_⟩
                    have := Int.mul_le_mul (show (k : Int) + 1 ≤ 12 by omega) ww.2 (by omega) (by decide)
                    omega
                  refine sg_X_meanPart_6 (ite_i (fun q => absurd q (by omega)) (fun _ => ?_))
                  rw [c62 (k : Int) (by omega) (by omega), c61 _ kk.1 kk.2, w32_k (by omega), w64_i (x := ((k : Int) + 1) * W (K (k : Int))) (by omega) (by omega), w64_i (x := TPs W K k + ((k : Int) + 1) * W (K (k : Int))) (by omega) (by omega), w64_i (x := BTs W K k + W (K (k : Int))) (by omega) (by omega)]
                  have := ih (k + 1) (3, 0) (3, 0) (1, W (K (k : Int))) (3, 0) (by omega)
                  rw [show (((k + 1 : Nat)) : Int) = (k : Int) + 1 by omega] at this
                  exact ⟨⟨by omega, by omega⟩, ⟨kk.1, by omega⟩, this⟩
              exact sg_X_meanPart (d := 78) (key lN 0 _ _ _ _ (by omega))
            have part : ∀ w : Int, Cl 79 m_M_part [(1, TPs W K lN), (1, BTs W K lN), (0, b + 2)] N (rL w N) → at_M_order_41 79 (0, a) b 0 (3, 0) 0 (3, 0) 0 N (rL w N) := fun w hw => by
              have key : ∀ (j k : Nat) (w4 w6 : AV), k + j = lN → at_M_order_41 79 (0, a) b (BTs W K k) w4 (TPs W K k) w6 (k : Int) N (rL w N) := by
                intro j
                induction j with
                | zero =>
                  intro k w4 w6 hk
                  obtain rfl : k = lN := by omega
                  refine sg_M_order_41 (ite_i (fun _ => ?_) (fun q => absurd (by rw [n41]; omega) q))
                  rw [w32_i (x := b + 2) (by omega) (by omega)]
                  exact ⟨_, hw, rfl⟩
                | succ j ih =>
                  intro k w4 w6 hk
                  have kk := kr k (by omega)
                  have ww := wr k (by omega)
                  have s2 := sums_rng (W := W) (K := K) (by omega) wr k (by omega)
                  have e : 0 ≤ ((k : Int) + 1) * W (K (k : Int)) ∧ ((k : Int) + 1) * W (K (k : Int)) ≤ 1188 := by
                    refine ⟨Int.mul_nonneg (by omega) (by omega), ?_⟩
                    have := Int.mul_le_mul (show (k : Int) + 1 ≤ 12 by omega) ww.2 (by omega) (by decide)
                    omega
                  refine sg_M_order_41 (ite_i (fun q => absurd q (by rw [n41]; omega)) (fun _ => ?_))
                  rw [n88 (k : Int) (by omega) (by omega), n87 _ kk.1 kk.2, w32_k (by omega), w32_i (x := ((k : Int) + 1) * W (K (k : Int))) (by omega) (by omega), w64_i (x := TPs W K k + ((k : Int) + 1) * W (K (k : Int))) (by omega) (by omega), w64_i (x := BTs W K k + W (K (k : Int))) (by omega) (by omega)]
                  have := ih (k + 1) (3, 0) (3, 0) (by omega)
                  rw [show (((k + 1 : Nat)) : Int) = (k : Int) + 1 by omega] at this
                  exact ⟨⟨by omega, by omega⟩, ⟨kk.1, by omega⟩, ⟨by omega, by omega⟩, ⟨kk.1, by omega⟩, this⟩
              exact key lN 0 _ _ (by omega)
            have cp := c_M_part (M := N) (d := 79) (x := TPs W K lN) (y := BTs W K lN) (p := b + 2) ⟨by omega, by omega⟩ ⟨by omega, by omega⟩ (Or.inr (by omega)) (by decide)
            have yy := Y (r := rL _ N) (by rw [if_neg lz, if_pos bl, if_pos b0]; exact part _ cp)
            refine ⟨_, C, N, X ?_, yy, inv⟩
            rw [if_neg lz, if_pos bl, if_pos b0]
            refine ite_i (fun q => ⟨_, mean 0 _ (by rw [if_pos rfl]; exact c_X_lowest ⟨by omega, by omega⟩ ⟨by omega, by omega⟩ (Or.inl (by omega)) (by decide)), ?_⟩) (fun q => ⟨_, mean 1 _ (by rw [if_neg (by decide)]; exact c_X_lowest ⟨by omega, by omega⟩ ⟨by omega, by omega⟩ (Or.inr (by omega)) (by decide)), ?_⟩)
            · rw [if_neg (by omega), Nat.gcd_comm]
            · rw [if_pos (by omega)]
          · have kb := ok.2 b (by omega) bl
            refine ⟨K b, C, N, X ?_, Y ?_, inv⟩
            · rw [if_neg lz, if_pos bl, if_neg b0, c62 b (by omega) bl]; exact ⟨⟨by omega, by omega⟩, rfl⟩
            · rw [if_neg lz, if_pos bl, if_neg b0, n88 b (by omega) bl]; exact ⟨⟨by omega, by omega⟩, rfl⟩
        · exact ⟨-2, C, N, X (by rw [if_neg lz, if_neg bl]), Y (by rw [if_neg lz, if_neg bl]), inv⟩
    · exact ⟨-9223372036854775808, M, M, sg_X_order (d := 79) ⟨_, c_X_isGlass ha (by decide), ite_b (fun t => absurd hg t) (fun _ => ite_i (fun t => absurd t y) (fun _ => rfl))⟩, sg_M_order (d := 79) ⟨_, c_M_isGlass ha (by decide), ite_b (fun t => absurd hg t) (fun _ => ite_i (fun t => absurd t y) (fun _ => rfl))⟩, i⟩
  · exact ⟨-9223372036854775808, M, M, sg_X_order (d := 79) ⟨_, c_X_isGlass ha (by decide), ite_b (fun _ => rfl) (fun t => absurd t hg)⟩, sg_M_order (d := 79) ⟨_, c_M_isGlass ha (by decide), ite_b (fun _ => rfl) (fun t => absurd t hg)⟩, i⟩
end P51
