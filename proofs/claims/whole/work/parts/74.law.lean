/-! a whole text read; promise law -/
section P58
variable {M N C : Mem} {n k q c v x : Int} {T : Int → Int} {d : Nat}
theorem CL_congr {g g' : Int → Int} : ∀ {Ls : List LN} {p q : Int}, CL g p Ls q → (∀ i, p ≤ i → i < q → g' i = g i) → CL g' p Ls q
  | [], p, q, h, _ => h
  | l :: r, p, q, ⟨h1, h2⟩, e => by
    have := CL_le h2
    exact ⟨At_congr (fun i i0 i1 => e i i0 (by omega)) h1, CL_congr h2 (fun i i0 i1 => e i (by omega) i1)⟩
theorem text_two (n120 : n ≤ 120) (hT : ∀ i : Int, 0 ≤ i → i < n → 0 ≤ T i ∧ T i ≤ 255) : ∀ (m : Nat) (p i : Int), 0 ≤ p → p ≤ n → n - p ≤ m → 0 ≤ i → 2 * i ≤ p + 1 → ∃ (b : Bool) (Ls : List LN) (p' : Int), (p ≤ p' ∧ p' ≤ n) ∧ (b = true → GL Ls ∧ (tl Ls : Int) ≤ n - p ∧ 2 * (i + Ls.length) ≤ n + 1) ∧
    (∀ C q, SC n T C p q → 0 ≤ q → q ≤ 2 * p → ∃ C', (∀ l1, 0 ≤ l1 → l1 ≤ p → at_L_readText_4 54 l1 C (rV C')) ∧ To (LX q) C C' ∧ (b = true → ∃ q', SC n T C' n q' ∧ q' ≤ 2 * n ∧ CL (C' 35) q Ls q') ∧ (b = false → C' 31 9 = p')) ∧
    (∀ N c, SN n T 0 N p c → 0 ≤ c → c ≤ p → N 64 16 = i → ∃ N', To (MXG c i) N N' ∧ (b = true → SN n T 0 N' n (c + tl Ls) ∧ N' 64 16 = i + Ls.length ∧ ML (fun o => N' (o + 4)) i c Ls ∧ ∀ w2 w3 r, at_M_law_55 53 (0, 1) (0, 1) 0 (up (up (up N' 64 5 0) 64 7 1) 64 8 (i + Ls.length)) r → at_M_law_15 53 1 w2 w3 N r) ∧ (b = false → ∀ w2 w3, at_M_law_15 53 1 w2 w3 N (rI (-100 - p') (up N' 64 5 0)))) := by
  intro m
  -- no further line
  have stop : ∀ (p i : Int), 0 ≤ p → p ≤ n → 0 ≤ i → 2 * i ≤ p + 1 → ¬ nxb n T p = 59 → ∃ (b : Bool) (Ls : List LN) (p' : Int), (p ≤ p' ∧ p' ≤ n) ∧ (b = true → GL Ls ∧ (tl Ls : Int) ≤ n - p ∧ 2 * (i + Ls.length) ≤ n + 1) ∧
    (∀ C q, SC n T C p q → 0 ≤ q → q ≤ 2 * p → ∃ C', (∀ l1, 0 ≤ l1 → l1 ≤ p → at_L_readText_4 54 l1 C (rV C')) ∧ To (LX q) C C' ∧ (b = true → ∃ q', SC n T C' n q' ∧ q' ≤ 2 * n ∧ CL (C' 35) q Ls q') ∧ (b = false → C' 31 9 = p')) ∧
    (∀ N c, SN n T 0 N p c → 0 ≤ c → c ≤ p → N 64 16 = i → ∃ N', To (MXG c i) N N' ∧ (b = true → SN n T 0 N' n (c + tl Ls) ∧ N' 64 16 = i + Ls.length ∧ ML (fun o => N' (o + 4)) i c Ls ∧ ∀ w2 w3 r, at_M_law_55 53 (0, 1) (0, 1) 0 (up (up (up N' 64 5 0) 64 7 1) 64 8 (i + Ls.length)) r → at_M_law_15 53 1 w2 w3 N r) ∧ (b = false → ∀ w2 w3, at_M_law_15 53 1 w2 w3 N (rI (-100 - p') (up N' 64 5 0)))) := fun p i p0 pn i0 i2 hv => by
    by_cases e : p = n
    · subst e
      refine ⟨true, [], p, ⟨Int.le_refl _, Int.le_refl _⟩, fun _ => ⟨trivial, by show ((0 : Nat) : Int) ≤ p - p; omega, by simp; omega⟩, fun C q hC q0 q2 => ⟨C, fun l1 _ _ => ?_, To.refl _ C, fun _ => ⟨q, hC, q2, rfl⟩, fun e => (by cases e)⟩, fun N c hN c0 cp hi => ⟨N, To.refl _ N, fun _ => ⟨by simpa [tl] using hN, by simpa using hi, trivial, fun w2 w3 r hr => ?_⟩, fun e => (by cases e)⟩⟩
      · refine sg_L_readText_4 (ite_i (fun _ => ite_i (fun _ => rfl) (fun t => absurd (by rw [hC.1, hC.2.1]; exact Int.le_refl _) t)) (fun _ => ⟨_, c_L_next hC p0 n120 (by decide), ite_i (fun _ => ite_i (fun _ => rfl) (fun t => absurd (by rw [hC.1, hC.2.1]; exact Int.le_refl _) t)) (fun t => absurd (Classical.not_not.mp t) hv)⟩))
      · refine sg_M_law_15 (ite_i (fun t => absurd t (by decide)) (fun _ => ⟨0, N, c_M_is_f hN p0 n120 hv (by decide), ite_i (fun _ => ite_i (fun t => absurd t (by decide)) (fun _ => ite_i (fun t => absurd (by rw [hN.1, hN.2.1]) t) (fun _ => ?_))) (fun t => absurd rfl t)⟩))
        rw [up_n (b := 64) (j := 16) (by omega), up_n (b := 64) (j := 16) (by omega), hi]
        simp only [List.length_nil] at hr
        rw [show i + ((0 : Nat) : Int) = i by omega] at hr
        exact hr
    · refine ⟨false, [], p, ⟨Int.le_refl _, pn⟩, fun e => (by cases e), fun C q hC q0 q2 => ⟨up C 31 9 p, fun l1 _ _ => ?_, (To.refl _ C).upd (by unfold LX; omega), fun e => (by cases e), fun _ => up_eq⟩, fun N c hN c0 cp hi => ⟨N, To.refl _ N, fun e => (by cases e), fun _ w2 w3 => ?_⟩⟩
      · have fl := c_L_fail (C := C) (p := p) (d := 54) hC.2.2.1 hC.2.1 (by decide)
        refine sg_L_readText_4 (ite_i (fun _ => ite_i (fun t => absurd (by rw [hC.1, hC.2.1] at t; omega) e) (fun _ => ⟨_, fl, rfl⟩)) (fun _ => ⟨_, c_L_next hC p0 n120 (by decide), ite_i (fun _ => ite_i (fun t => absurd (by rw [hC.1, hC.2.1] at t; omega) e) (fun _ => ⟨_, fl, rfl⟩)) (fun t => absurd (Classical.not_not.mp t) hv)⟩))
      · refine sg_M_law_15 (ite_i (fun t => absurd t (by decide)) (fun _ => ⟨0, N, c_M_is_f hN p0 n120 hv (by decide), ite_i (fun _ => ite_i (fun t => absurd t (by decide)) (fun _ => ite_i (fun _ => ?_) (fun t => absurd (by rw [← hN.1, ← Classical.not_not.mp t]; exact hN.2.1.symm) e))) (fun t => absurd rfl t)⟩))
        rw [up_n (b := 64) (j := 13) (by omega), hN.2.1, w32_i (by omega) (by omega)]
  induction m with
  | zero =>
    intro p i p0 pn hm i0 i2
    exact stop p i p0 pn i0 i2 (fun t => by
      unfold nxb at t
      rw [if_neg (by omega)] at t
      exact absurd t (by decide))
  | succ m ih =>
    intro p i p0 pn hm i0 i2
    by_cases hv : nxb n T p = 59
    rotate_left
    · exact stop p i p0 pn i0 i2 hv
    have pl : p < n := by
      refine Classical.byContradiction fun t => ?_
      unfold nxb at hv
      rw [if_neg t] at hv
      exact absurd hv (by decide)
    obtain ⟨b1, l, p1, ⟨r1, r2⟩, ok1, hX1, hM1⟩ := read_line n120 hT (p := p + 1) (by omega) (by omega)
    have mIn : ∀ {N : Mem} {c : Int} {v : Int} {N1 : Mem} {w2 w3 : AV} {r : Res}, SN n T 0 N p c → Cl 53 m_M_isLine [(2, 64)] (up N 64 13 (p + 1)) (rI v N1) → at_M_law_15 53 v w2 w3 N1 r → at_M_law_15 53 1 w2 w3 N r := fun {N c v N1 w2 w3 r} hN a h =>
      sg_M_law_15 (ite_i (fun t => absurd t (by decide)) (fun _ => ⟨1, _, c_M_is_t hN p0 pn n120 hv (by decide), ite_i (fun t => absurd t (by decide)) (fun _ => ⟨v, N1, a, h⟩)⟩))
    have xIn : ∀ {C : Mem} {q l1 : Int} {C1 : Mem} {r : Res}, SC n T C p q → 0 ≤ l1 → l1 ≤ p → Cl 54 m_L_readLine [(2, 31)] (up C 31 8 (p + 1)) (rV C1) → at_L_readText_4 54 (l1 + 1) C1 r → at_L_readText_4 54 l1 C r := fun {C q l1 C1 r} hC l0 lp a h => by
      refine sg_L_readText_4 (ite_i (fun t => absurd t (by omega)) (fun _ => ⟨_, c_L_next hC p0 n120 (by decide), ite_i (fun t => absurd hv t) (fun _ => ?_)⟩))
      rw [hC.2.1, w32_i (x := p + 1) (by omega) (by omega), w32_i (x := l1 + 1) (by omega) (by omega)]
      exact ⟨C1, a, h⟩
    cases b1 with
    | false =>
      refine ⟨false, [], p1, ⟨by omega, r2⟩, fun e => (by cases e), fun C q hC q0 q2 => ?_, fun N c hN c0 cp hi => ?_⟩
      · obtain ⟨C1, x1, t1, -, bad⟩ := hX1 _ q hC.on q0 (by omega)
        have f1 := (bad rfl).1
        have fl : ¬ C1 31 9 = -1 := by omega
        have en : ∀ l1, at_L_readText_4 54 l1 C1 (rV C1) := fun l1 => by
          have e : (if C1 31 5 ≤ C1 31 8 then rV C1 = (none, C1) else ∃ M4, Cl 54 m_L_fail [(2, 31)] C1 (none, M4) ∧ rV C1 = (none, M4)) := ite_i (fun _ => rfl) (fun _ => ⟨C1, c_L_failF fl (by decide), rfl⟩)
          exact sg_L_readText_4 (ite_i (fun _ => e) (fun _ => ⟨_, c_L_nextF fl (by decide), ite_i (fun _ => e) (fun t => absurd (by decide) t)⟩))
        exact ⟨C1, fun l1 l0 lp => xIn hC l0 lp x1 (en _), ((To.refl _ C).upd (by unfold LX; omega)).trans t1, fun e => (by cases e), fun _ => f1⟩
      · obtain ⟨N1, x1, t1, -, bad⟩ := hM1 _ c i hN.on c0 (by omega) (by rw [up_n (by omega)]; exact hi) i0 (by omega)
        refine ⟨N1, ((To.refl _ N).upd (by unfold MXG; omega)).trans t1, fun e => (by cases e), fun _ w2 w3 => mIn hN x1 (sg_M_law_15 (ite_i (fun _ => ite_i (fun _ => ?_) (fun t => absurd rfl t)) (fun t => absurd rfl t)))⟩
        rw [up_n (b := 64) (j := 13) (by omega), bad rfl, w32_i (by omega) (by omega)]
    | true =>
      obtain ⟨o1, o2, o3, o4⟩ := ok1 rfl
      obtain ⟨b2, Ls, p2, ⟨s1, s2⟩, ok2, hX2, hM2⟩ := ih p1 (i + 1) (by omega) r2 (by omega) (by omega) (by omega)
      refine ⟨b2, l :: Ls, p2, ⟨by omega, s2⟩, fun e => ?_, fun C q hC q0 q2 => ?_, fun N c hN c0 cp hi => ?_⟩
      · obtain ⟨a1, a2, a3⟩ := ok2 e
        refine ⟨⟨o3.1, o3.2, a1⟩, ?_, by simp only [List.length_cons]; omega⟩
        show ((l.1.length + l.2.length + tl Ls : Nat) : Int) ≤ n - p
        omega
      · obtain ⟨C1, x1, t1, okC, -⟩ := hX1 _ q hC.on q0 (by omega)
        obtain ⟨sc, a1⟩ := okC rfl
        have o4 := o4 q
        obtain ⟨C2, x2, t2, ok2', bad2⟩ := hX2 C1 _ sc (by omega) (by omega)
        refine ⟨C2, fun l1 l0 lp => xIn hC l0 lp x1 (x2 (l1 + 1) (by omega) (by omega)), ((To.refl _ C).upd (by unfold LX; omega)).trans (t1.trans (t2.wk (LX_le (by omega)))), fun e => ?_, bad2⟩
        obtain ⟨q', y1, y2, y3⟩ := ok2' e
        exact ⟨q', y1, y2, At_congr (fun j j0 j1 => t2 35 j (by unfold LX; omega)) a1, y3⟩
      · obtain ⟨N1, x1, t1, okN, -⟩ := hM1 _ c i hN.on c0 (by omega) (by rw [up_n (by omega)]; exact hi) i0 (by omega)
        obtain ⟨sn, n16, m1, m2, m3, m4⟩ := okN rfl
        obtain ⟨N2, t2, ok2', bad2⟩ := hM2 N1 _ sn (by omega) (by omega) n16
        refine ⟨N2, ((To.refl _ N).upd (by unfold MXG; omega)).trans (t1.trans (t2.wk (by intro o j; unfold MXG; omega))), fun e => ?_, fun e w2 w3 => mIn hN x1 (bad2 e w2 w3)⟩
        obtain ⟨y1, y2, y3, y4⟩ := ok2' e
        refine ⟨?_, ?_, ⟨?_, ?_, ?_, ?_, ?_⟩, fun w2 w3 r hr => mIn hN x1 (y4 w2 w3 r ?_)⟩
        · show SN n T 0 N2 n (c + ((l.1.length + l.2.length + tl Ls : Nat) : Int))
          rw [show c + ((l.1.length + l.2.length + tl Ls : Nat) : Int) = c + l.1.length + l.2.length + tl Ls by omega]
          exact y1
        · rw [y2]; simp only [List.length_cons]; omega
        · show N2 73 i = c
          rw [t2 73 i (by unfold MXG; omega)]; exact m1
        · show N2 74 i = c + l.1.length
          rw [t2 74 i (by unfold MXG; omega)]; exact m2
        · show N2 75 i = c + l.1.length + l.2.length
          rw [t2 75 i (by unfold MXG; omega)]; exact m3
        · show At (N2 76) c ((l.1 ++ l.2).map phi)
          exact At_congr (fun j j0 j1 => by
            rw [List.length_map, List.length_append] at j1
            exact t2 76 j (by unfold MXG; omega)) m4
        · exact y3
        · have e : i + ((l :: Ls).length : Int) = i + 1 + Ls.length := by simp only [List.length_cons]; omega
          rw [← e]; exact hr
end P58
