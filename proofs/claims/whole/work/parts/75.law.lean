/-! promise law, to its end -/
section P59
variable {M N C : Mem} {n k q c v x : Int} {T : Int → Int} {d : Nat}
theorem ML_copy {M' : Mem} : ∀ {Ls : List LN} {i o : Int}, ML (fun a => N (a + 4)) i o Ls → (∀ j : Int, i ≤ j → j < i + Ls.length → M' 69 j = N 73 j ∧ M' 70 j = N 74 j ∧ M' 71 j = N 75 j) → (∀ j : Int, o ≤ j → j < o + tl Ls → M' 72 j = N 76 j) → ML M' i o Ls
  | [], _, _, _, _, _ => trivial
  | l :: r, i, o, ⟨a, b, c, e, f⟩, h1, h2 => by
    have h2' : ∀ j : Int, o ≤ j → j < o + ((l.1.length + l.2.length + tl r : Nat) : Int) → M' 72 j = N 76 j := h2
    simp only [List.length_cons] at h1
    obtain ⟨g1, g2, g3⟩ := h1 i (Int.le_refl _) (by omega)
    refine ⟨g1.trans a, g2.trans b, g3.trans c, At_congr (fun j j0 j1 => ?_) e, ML_copy f (fun j j0 j1 => h1 j (by omega) (by omega)) (fun j j0 j1 => h2' j (by omega) (by omega))⟩
    rw [List.length_map, List.length_append] at j1
    exact h2' j j0 (by omega)
/-- the model's lines and codes are kept -/
theorem M_copy {lN cN : Nat} (l60 : lN ≤ 60) (c120 : cN ≤ 120) (h8 : N 64 8 = lN) (h15 : N 64 15 = cN) {w1 w2 : AV} (hw : ¬ w2.1 = 1) : ∃ N2, To (fun o _ => 69 ≤ o ∧ o ≤ 72) N N2 ∧ (∀ j : Int, 0 ≤ j → j < lN → N2 69 j = N 73 j ∧ N2 70 j = N 74 j ∧ N2 71 j = N 75 j) ∧ (∀ j : Int, 0 ≤ j → j < cN → N2 72 j = N 76 j) ∧ at_M_law_55 d w1 w2 0 N (rI 1 N2) := by
  have first : ∀ (j k : Nat) (D : Mem), k + j = lN → To (fun o _ => 69 ≤ o ∧ o ≤ 71) N D → (∀ i : Int, 0 ≤ i → i < k → D 69 i = N 73 i ∧ D 70 i = N 74 i ∧ D 71 i = N 75 i) → ∃ D2, To (fun o _ => 69 ≤ o ∧ o ≤ 71) N D2 ∧ (∀ i : Int, 0 ≤ i → i < lN → D2 69 i = N 73 i ∧ D2 70 i = N 74 i ∧ D2 71 i = N 75 i) ∧ ∀ r, at_M_law_87 d w1 w2 0 D2 r → at_M_law_55 d w1 w2 k D r := by
    intro j
    induction j with
    | zero =>
      intro k D hk t h
      refine ⟨D, t, fun i i0 i1 => h i i0 (by omega), fun r hr => sg_M_law_55 hw (ite_i (fun _ => hr) (fun q => absurd (by rw [t 64 8 (by omega), h8]; omega) q))⟩
    | succ j ih =>
      intro k D hk t h
      have k1 : (((k + 1 : Nat)) : Int) = (k : Int) + 1 := by omega
      obtain ⟨D2, a1, a2, a3⟩ := ih (k + 1) (up (up (up D 69 k (N 73 k)) 70 k (N 74 k)) 71 k (N 75 k)) (by omega) (((t.upd (by omega)).upd (by omega)).upd (by omega)) (fun i i0 i1 => by
        by_cases e : i = (k : Int)
        · rw [e, up_eq, up_n (by omega), up_n (by omega), up_eq, up_n (by omega), up_eq]; exact ⟨rfl, rfl, rfl⟩
        · rw [up_n (b := 69) (by omega), up_n (b := 69) (by omega), up_n (b := 69) (by omega), up_n (b := 70) (by omega), up_n (b := 70) (by omega), up_n (b := 70) (by omega), up_n (b := 71) (by omega), up_n (b := 71) (by omega), up_n (b := 71) (by omega)]
          exact h i i0 (by omega))
      rw [k1] at a3
      have rg : 0 ≤ (k : Int) ∧ (k : Int) < 61 := ⟨by omega, by omega⟩
      have rg2 : 0 ≤ (k : Int) ∧ (k : Int) < 60 := ⟨by omega, by omega⟩
      refine ⟨D2, a1, a2, fun r hr => sg_M_law_55 hw (ite_i (fun q => absurd q (by rw [t 64 8 (by omega), h8]; omega)) (fun _ => ⟨rg, rg2, rg, rg2, rg, rg2, ?_⟩))⟩
      rw [t 73 k (by omega), up_n (b := 74) (a := 69) (by omega), t 74 k (by omega), up_n (b := 75) (a := 70) (by omega), up_n (b := 75) (a := 69) (by omega), t 75 k (by omega), w32_k (by omega)]
      exact a3 r hr
  obtain ⟨D, t1, e1, f1⟩ := first lN 0 N (by omega) (To.refl _ N) (fun i i0 i1 => absurd i1 (by omega))
  have second := loop_up (fun Mx i => at_M_law_87 d w1 w2 i Mx (rI 1 (fil D 72 0 (fun i => N 76 i) cN))) (fil D 72 0 (fun i => N 76 i)) cN (sg_M_law_87 hw (ite_i (fun _ => rfl) (fun q => absurd (by rw [fil_n (by omega), t1 64 15 (by omega), h15]; exact Int.le_refl _) q))) (fun k hk ih => sg_M_law_87 hw (ite_i (fun q => absurd q (by rw [fil_n (by omega), t1 64 15 (by omega), h15]; omega)) (fun _ => ⟨⟨by omega, by omega⟩, ⟨by omega, by omega⟩, by
    rw [w32_k (by omega), fil_s (by omega) (by rw [fil_n (by omega), t1 76 _ (by omega)])]
    exact ih⟩)))
  rw [fil_0] at second
  refine ⟨_, (t1.wk (by intro o i; omega)).fil (fun _ _ _ => by omega), fun j j0 j1 => ?_, fun j j0 j1 => by rw [fil_i (by omega) (by omega)], f1 _ second⟩
  rw [fil_n (by omega), fil_n (by omega), fil_n (by omega)]
  exact e1 j j0 j1
theorem pk_law (i : INV M) : Pk m_X_law m_M_law [] M := by
  obtain ⟨t1, t2, t3, t4⟩ := i.2.2.2.2.1
  obtain ⟨n, hn⟩ : ∃ n, n = M 64 5 := ⟨_, rfl⟩
  rw [← hn] at t1 t2 t3 t4
  have hT : ∀ j : Int, 0 ≤ j → j < n → 0 ≤ M 68 j ∧ M 68 j ≤ 255 := fun j j0 j1 => (t4 j j0 j1).2
  obtain ⟨B, hB⟩ : ∃ B, B = up (up (up M 31 8 0) 31 9 (-1)) 31 7 0 := ⟨_, rfl⟩
  have sB : SC n (M 68) B 0 0 := ⟨by rw [hB, up_n (by omega), up_n (by omega), up_n (by omega), t1], by rw [hB, up_n (by omega), up_n (by omega), up_eq], by rw [hB, up_n (by omega), up_eq], by rw [hB, up_eq], fun j j0 j1 => by rw [hB, up_n (by omega), up_n (by omega), up_n (by omega)]; exact (t4 j j0 j1).1⟩
  have tB : To (LX 0) M B := by rw [hB]; exact (((To.refl _ M).upd (by unfold LX; omega)).upd (by unfold LX; omega)).upd (by unfold LX; omega)
  obtain ⟨b1, l, p1, ⟨r1, r2⟩, ok1, hX1, hM1⟩ := read_line (T := M 68) t3 hT (p := 0) (by decide) t2
  -- the model's start
  have mB : ∀ {N1 : Mem}, To (fun o i => (o = 31 ∧ 5 ≤ i ∧ i ≤ 10) ∨ o = 34 ∨ o = 35) M N1 → SN n (M 68) 0 (up (up (up (up N1 64 13 0) 64 14 0) 64 15 0) 64 16 0) 0 0 ∧ up (up (up (up N1 64 13 0) 64 14 0) 64 15 0) 64 16 0 64 16 = 0 ∧ To (fun o i => (o = 31 ∧ 5 ≤ i ∧ i ≤ 10) ∨ o = 34 ∨ o = 35 ∨ (o = 64 ∧ 13 ≤ i ∧ i ≤ 16)) M (up (up (up (up N1 64 13 0) 64 14 0) 64 15 0) 64 16 0) := fun {N1} t => by
    refine ⟨⟨by rw [up_n (by omega), up_n (by omega), up_n (by omega), up_n (by omega), t 64 5 (by omega), hn], by rw [up_n (by omega), up_n (by omega), up_n (by omega), up_eq], by rw [up_n (by omega), up_eq], by rw [up_n (by omega), up_n (by omega), up_eq], fun j j0 j1 => by rw [up_n (by omega), up_n (by omega), up_n (by omega), up_n (by omega), t 68 j (by omega)]⟩, up_eq, ((((t.wk (by intro o i; omega)).upd (by omega)).upd (by omega)).upd (by omega)).upd (by omega)⟩
  -- the class's end
  have xBad : ∀ {C2 : Mem} {p : Int}, Cl 77 m_L_readText [(2, 31)] B (rV C2) → C2 31 9 = p → 0 ≤ p → p ≤ 120 → Cl 80 m_X_law [(2, 0)] M (rI (-100 - p) (up C2 31 5 0)) := fun {C2 p} a e p0 p1 => by
    have e9 : up C2 31 5 0 31 9 = p := by rw [up_n (by omega), e]
    have rt : Cl 78 m_L_readTape [(2, 31)] M (rI p (up C2 31 5 0)) := by
      refine sg_L_readTape (d := 77) ?_
      rw [← hB]
      refine ⟨C2, a, ?_⟩
      rw [e9]
      exact ite_i (fun _ => rfl) (fun t => absurd (Classical.not_not.mp t) (by omega))
    refine sg_X_law (d := 79) ⟨p, _, rt.mono (by decide), ite_i (fun _ => ?_) (fun t => absurd p0 t)⟩
    rw [w32_i (x := (-100) - p) (by omega) (by omega)]
  have xGood : ∀ {C2 : Mem} {q : Int}, Cl 77 m_L_readText [(2, 31)] B (rV C2) → SC n (M 68) C2 n q → Cl 80 m_X_law [(2, 0)] M (rI 1 (up (cpy (up C2 31 5 0) 35 34 0 0 256) 31 6 q)) := fun {C2 q} a sc => by
    have e9 : up C2 31 5 0 31 9 = -1 := by rw [up_n (by omega), sc.2.2.1]
    have rt : Cl 78 m_L_readTape [(2, 31)] M (rI (-1) (up (cpy (up C2 31 5 0) 35 34 0 0 256) 31 6 q)) := by
      refine sg_L_readTape (d := 77) ?_
      rw [← hB]
      refine ⟨C2, a, ?_⟩
      refine ite_i (fun t => absurd e9 t) (fun _ => ?_)
      rw [cpy_n (c := 31) (by omega), up_n (b := 31) (j := 7) (by omega), sc.2.2.2.1, up_n (b := 31) (j := 9) (i := 6) (by omega), cpy_n (c := 31) (by omega), e9]
    exact sg_X_law (d := 79) ⟨-1, _, rt.mono (by decide), ite_i (fun t => absurd t (by decide)) (fun _ => rfl)⟩
  have mIn : ∀ {N1 N2 : Mem} {v : Int} {r : Res}, Cl 53 m_M_isLine [(2, 64)] (up (up (up (up N1 64 13 0) 64 14 0) 64 15 0) 64 16 0) (rI v N2) → (∀ w2 w3, at_M_law_15 53 v w2 w3 N2 r) → Cl 80 m_M_law [(2, 64)] N1 r := fun {N1 N2 v r} a h => (sg_M_law (d := 53) ⟨v, N2, a, h _ _⟩).mono (by decide)
  -- what is left of the invariant when it is refused
  have invBad : ∀ {N : Mem}, To (fun o i => (o = 31 ∧ 7 ≤ i ∧ i ≤ 10) ∨ o = 35 ∨ (o = 64 ∧ 13 ≤ i ∧ i ≤ 16) ∨ (73 ≤ o ∧ o ≤ 76) ∨ (o = 31 ∧ i = 5) ∨ (o = 64 ∧ i = 5)) M N → N 31 5 = 0 → N 64 5 = 0 → INV N := fun {N} t a b => i.lawx (t.wk (by intro o i; unfold TLw Scr; omega)) ⟨by rw [a, b], by rw [b]; decide, by rw [b]; decide, fun j j0 j1 => absurd j1 (by rw [b]; omega)⟩ (i.2.2.2.2.2.1.ag (t.ag (by intro o i; unfold K7; omega)))
  have tC : ∀ {C2 : Mem}, To (LX 0) B C2 → To (fun o i => (o = 31 ∧ 7 ≤ i ∧ i ≤ 10) ∨ o = 35) M C2 := fun t => (tB.trans t).wk (by intro o i; unfold LX; omega)
  cases b1 with
  | false =>
    obtain ⟨C1, x1, y1, -, bad1⟩ := hX1 B 0 sB (by decide) (by decide)
    have f1 := (bad1 rfl).1
    have fl : ¬ C1 31 9 = -1 := by omega
    have en : at_L_readText_4 54 0 C1 (rV C1) := by
      have e : (if C1 31 5 ≤ C1 31 8 then rV C1 = (none, C1) else ∃ M4, Cl 54 m_L_fail [(2, 31)] C1 (none, M4) ∧ rV C1 = (none, M4)) := ite_i (fun _ => rfl) (fun _ => ⟨C1, c_L_failF fl (by decide), rfl⟩)
      exact sg_L_readText_4 (ite_i (fun _ => e) (fun _ => ⟨_, c_L_nextF fl (by decide), ite_i (fun _ => e) (fun t => absurd (by decide) t)⟩))
    have rt : Cl 77 m_L_readText [(2, 31)] B (rV C1) := (sg_L_readText (d := 54) ⟨C1, x1, en⟩).mono (by decide)
    have hx := xBad rt f1 (by omega) (by omega)
    have tc := tC y1
    obtain ⟨s0, z0, tN0⟩ := mB (N1 := up C1 31 5 0) ((tc.wk (by intro o i; omega)).upd (by omega))
    obtain ⟨N2, x2, y2, -, bad2⟩ := hM1 _ 0 0 s0 (by decide) (by decide) z0 (by decide) (by decide)
    have hm : Cl 80 m_M_law [(2, 64)] (up C1 31 5 0) (rI (-100 - p1) (up N2 64 5 0)) := by
      refine mIn x2 (fun w2 w3 => sg_M_law_15 (ite_i (fun _ => ite_i (fun _ => ?_) (fun t => absurd rfl t)) (fun t => absurd rfl t)))
      rw [up_n (b := 64) (j := 13) (by omega), bad2 rfl, w32_i (by omega) (by omega)]
    refine ⟨_, _, _, hx, hm, invBad ?_ ?_ up_eq⟩
    · refine ((To.trans ?_ (y2.wk ?_)).upd (by omega))
      · exact (((((tc.wk (by intro o i; omega)).upd (by omega)).upd (by omega)).upd (by omega)).upd (by omega)).upd (by omega)
      · intro o i; unfold MXG; omega
    · rw [up_n (by omega), y2 31 5 (by unfold MXG; omega), up_n (by omega), up_n (by omega), up_n (by omega), up_n (by omega), up_eq]
  | true =>
    obtain ⟨o1, o2, o3, o4⟩ := ok1 rfl
    have o4 := o4 0
    obtain ⟨b2, Ls, p2, ⟨s1, s2⟩, ok2, hX2, hM2⟩ := text_two (T := M 68) t3 hT (n - p1).toNat p1 1 (by omega) r2 (by omega) (by decide) (by omega)
    obtain ⟨C1, x1, y1, okC, -⟩ := hX1 B 0 sB (by decide) (by decide)
    obtain ⟨sc1, a1⟩ := okC rfl
    obtain ⟨C2, x2, y2, okC2, badC2⟩ := hX2 C1 _ sc1 (by omega) (by omega)
    have rt : Cl 77 m_L_readText [(2, 31)] B (rV C2) := (sg_L_readText (d := 54) ⟨C1, x1, x2 0 (by decide) (by omega)⟩).mono (by decide)
    have tc := tC (y1.trans (y2.wk (LX_le (by omega))))
    cases b2 with
    | false =>
      have hx := xBad rt (badC2 rfl) (by omega) (by omega)
      obtain ⟨s0, z0, tN0⟩ := mB (N1 := up C2 31 5 0) ((tc.wk (by intro o i; omega)).upd (by omega))
      obtain ⟨N2, w2, v2, okN, -⟩ := hM1 _ 0 0 s0 (by decide) (by decide) z0 (by decide) (by decide)
      obtain ⟨sn, n16, m1, m2, m3, m4⟩ := okN rfl
      obtain ⟨N3, v3, -, bad3⟩ := hM2 N2 _ sn (by omega) (by omega) n16
      refine ⟨_, _, _, hx, mIn w2 (fun a b => bad3 rfl a b), invBad ?_ ?_ up_eq⟩
      · refine ((To.trans ?_ ((v2.wk ?_).trans (v3.wk ?_))).upd (by omega))
        · exact (((((tc.wk (by intro o i; omega)).upd (by omega)).upd (by omega)).upd (by omega)).upd (by omega)).upd (by omega)
        · intro o i; unfold MXG; omega
        · intro o i; unfold MXG; omega
      · rw [up_n (by omega), v3 31 5 (by unfold MXG; omega), v2 31 5 (by unfold MXG; omega), up_n (by omega), up_n (by omega), up_n (by omega), up_n (by omega), up_eq]
    | true =>
      obtain ⟨g1, g2, g3⟩ := ok2 rfl
      obtain ⟨q', y3, y4, y5⟩ := okC2 rfl
      have hx := xGood rt y3
      obtain ⟨F, hF⟩ : ∃ F, F = up (cpy (up C2 31 5 0) 35 34 0 0 256) 31 6 q' := ⟨_, rfl⟩
      rw [← hF] at hx
      have tF : To (fun o i => (o = 31 ∧ 5 ≤ i ∧ i ≤ 10) ∨ o = 34 ∨ o = 35) M F := by rw [hF]; exact (((tc.wk (by intro o i; omega)).upd (by omega)).cpy (fun _ _ _ => by omega)).upd (by omega)
      obtain ⟨s0, z0, tN0⟩ := mB tF
      obtain ⟨N2, w2, v2, okN, -⟩ := hM1 _ 0 0 s0 (by decide) (by decide) z0 (by decide) (by decide)
      obtain ⟨sn, n16, m1, m2, m3, m4⟩ := okN rfl
      obtain ⟨N3, v3, ok3, -⟩ := hM2 N2 _ sn (by omega) (by omega) n16
      obtain ⟨sn3, n316, ml3, fin3⟩ := ok3 rfl
      have ql := CL_le y5
      have cl : CL (C2 35) 0 (l :: Ls) q' := ⟨At_congr (fun j j0 j1 => y2 35 j (by unfold LX; omega)) a1, by rw [show (0 : Int) + ((lcode 0 l).length : Int) = 0 + ((lcode 0 l).length : Nat) by rfl]; exact y5⟩
      have l1 : 1 ≤ (lcode 0 l).length := by
        unfold lcode
        split <;> simp
        omega
      -- the lines and codes of the model, kept
      obtain ⟨G, hG⟩ : ∃ G, G = up (up (up N3 64 5 0) 64 7 1) 64 8 (1 + Ls.length) := ⟨_, rfl⟩
      have tG : To (fun o i => o = 64 ∧ (i = 5 ∨ i = 7 ∨ i = 8)) N3 G := by rw [hG]; exact (((To.refl _ N3).upd (by omega)).upd (by omega)).upd (by omega)
      have tlT : ((tl (l :: Ls) : Nat) : Int) = l.1.length + l.2.length + tl Ls := by show ((l.1.length + l.2.length + tl Ls : Nat) : Int) = _; omega
      obtain ⟨H, tH, h1, h2, h3⟩ := M_copy (N := G) (d := 53) (lN := (l :: Ls).length) (cN := tl (l :: Ls)) (w1 := (0, 1)) (w2 := (0, 1)) (by simp only [List.length_cons]; omega) (by omega) (by rw [hG, up_eq]; simp only [List.length_cons]; omega) (by rw [tG 64 15 (by omega), sn3.2.2.1]; omega) w01
      have hm : Cl 80 m_M_law [(2, 64)] F (rI 1 H) := mIn w2 (fun a b => fin3 a b _ (by rw [← hG]; exact h3))
      have tA : To (fun o i => (o = 31 ∧ 5 ≤ i ∧ i ≤ 10) ∨ o = 34 ∨ o = 35 ∨ (o = 64 ∧ ((13 ≤ i ∧ i ≤ 16) ∨ i = 5 ∨ i = 7 ∨ i = 8)) ∨ (69 ≤ o ∧ o ≤ 76)) M H := (((tN0.wk (by intro o i; omega)).trans ((v2.wk (by intro o i; unfold MXG; omega)).trans (v3.wk (by intro o i; unfold MXG; omega)))).trans (tG.wk (by intro o i; omega))).trans (tH.wk (by intro o i; omega))
      have back : ∀ (o : Nat) (j : Int), (o = 31 ∨ o = 34) → H o j = F o j := fun o j q => by
        rw [tH o j (by omega), tG o j (by omega), v3 o j (by unfold MXG; omega), v2 o j (by unfold MXG; omega), up_n (by omega), up_n (by omega), up_n (by omega), up_n (by omega)]
      have b5 : H 31 5 = 0 := by rw [back 31 5 (by decide), hF, up_n (by omega), cpy_n (by omega), up_eq]
      have b6 : H 31 6 = q' := by rw [back 31 6 (by decide), hF, up_eq]
      have m5 : H 64 5 = 0 := by rw [tH 64 5 (by omega), hG, up_n (by omega), up_n (by omega), up_eq]
      have m7 : H 64 7 = 1 := by rw [tH 64 7 (by omega), hG, up_n (by omega), up_eq]
      have m8 : H 64 8 = ((l :: Ls).length : Int) := by rw [tH 64 8 (by omega), hG, up_eq]; simp only [List.length_cons]; omega
      refine ⟨1, F, H, hx, hm, i.lawx (tA.wk (by intro o i; unfold TLw Scr; omega)) ⟨by rw [b5, m5], by rw [m5]; decide, by rw [m5]; decide, fun j j0 j1 => absurd j1 (by rw [m5]; omega)⟩ (Or.inr ⟨m7, by rw [b6]; omega, by rw [b6]; omega, l :: Ls, ?_, ?_, m8, by simp only [List.length_cons]; omega, ⟨o3.1, o3.2, g1⟩, by omega⟩)⟩
      · rw [b6]
        refine CL_congr cl (fun j j0 j1 => ?_)
        rw [back 34 j (by decide), hF, up_n (by omega), cpy_i (by omega) (by omega), up_n (by omega)]
        exact congrArg (C2 35) (by omega)
      · refine ML_copy (N := G) ⟨?_, ?_, ?_, ?_, ?_⟩ (fun j j0 j1 => h1 j j0 (by omega)) (fun j j0 j1 => h2 j j0 (by omega))
        · show G 73 0 = 0
          rw [tG 73 0 (by omega), v3 73 0 (by unfold MXG; omega)]; exact m1
        · show G 74 0 = 0 + l.1.length
          rw [tG 74 0 (by omega), v3 74 0 (by unfold MXG; omega)]; exact m2
        · show G 75 0 = 0 + l.1.length + l.2.length
          rw [tG 75 0 (by omega), v3 75 0 (by unfold MXG; omega)]; exact m3
        · show At (G 76) 0 ((l.1 ++ l.2).map phi)
          exact At_congr (fun j j0 j1 => by
            rw [List.length_map, List.length_append] at j1
            rw [tG 76 j (by omega), v3 76 j (by unfold MXG; omega)]) m4
        · have e : ∀ o : Nat, 73 ≤ o → o ≤ 76 → G o = N3 o := fun o a b => funext fun j => tG o j (by omega)
          exact ML_ag (e 73 (by decide) (by decide)) (e 74 (by decide) (by decide)) (e 75 (by decide) (by decide)) (e 76 (by decide) (by decide)) ml3
end P59
