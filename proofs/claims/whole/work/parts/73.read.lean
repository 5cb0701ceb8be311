/-! all layers at all depths; a line -/
section P57
variable {M N C : Mem} {n k q c v x : Int} {T : Int → Int} {d : Nat}
theorem PRO.mono {y z d' : Nat} {p : Int} (h : PRO n T k y z d p) (hd : d ≤ d') : PRO n T k y z d' p := by
  obtain ⟨b, cs, p', r, ok, hX, hM⟩ := h
  refine ⟨b, cs, p', r, ok, fun C q hC q0 q2 => ?_, fun N c hN c0 cp => ?_⟩
  · obtain ⟨C', x, cp⟩ := hX C q hC q0 q2
    exact ⟨C', x.mono hd, cp⟩
  · obtain ⟨N', x, np⟩ := hM N c hN c0 cp
    exact ⟨N', x.mono hd, np⟩
theorem tower (n120 : n ≤ 120) (hT : ∀ i : Int, 0 ≤ i → i < n → 0 ≤ T i ∧ T i ≤ 255) : ∀ (j : Nat) (k : Int), k + j = 6 → 0 ≤ k → (∀ p, 0 ≤ p → p ≤ n → PRO n T k m_L_readO m_M_isO (5 + 7 * j) p) ∧ (∀ p, 0 ≤ p → p ≤ n → PRO n T k m_L_readE m_M_isE (10 + 7 * j) p) := by
  have up5 : ∀ (k : Int) (d : Nat), 2 ≤ d → (∀ p, 0 ≤ p → p ≤ n → PRO n T k m_L_readO m_M_isO d p) → ∀ p, 0 ≤ p → p ≤ n → PRO n T k m_L_readE m_M_isE (d + 5) p := fun k d hd h =>
    lay_E n120 (by omega) (lay_A n120 (by omega) (lay_B n120 (by omega) (lay_S n120 (by omega) (lay_P n120 hd h))))
  intro j
  induction j with
  | zero =>
    intro k hk k0
    have hO := lay_O (d := 3) (k := k) n120 hT (by decide) k0 (by omega) (fun t => absurd t (by omega)) (fun t => absurd t (by omega))
    exact ⟨hO, up5 k 5 (by decide) hO⟩
  | succ j ih =>
    intro k hk k0
    obtain ⟨iO, iE⟩ := ih (k + 1) (by omega) (by omega)
    have hO := lay_O (d := 10 + 7 * j) (k := k) n120 hT (by omega) k0 (by omega) (fun _ => iE) (fun _ p p0 pn => (iO p p0 pn).mono (by omega))
    have e : 10 + 7 * j + 2 = 5 + 7 * (j + 1) := by omega
    rw [e] at hO
    have hE := up5 k (5 + 7 * (j + 1)) (by omega) hO
    have e2 : 5 + 7 * (j + 1) + 5 = 10 + 7 * (j + 1) := by omega
    rw [e2] at hE
    exact ⟨hO, hE⟩
theorem read_E (n120 : n ≤ 120) (hT : ∀ i : Int, 0 ≤ i → i < n → 0 ≤ T i ∧ T i ≤ 255) : ∀ p, 0 ≤ p → p ≤ n → PRO n T 0 m_L_readE m_M_isE 52 p := (tower n120 hT 6 0 (by decide) (by decide)).2
theorem HG1_ne {cs : List Int} (h : HG1 cs) : cs ≠ [] := fun e => by
  subst e
  have := h 0
  cases this
/-- what a line writes in the model -/
def MXG (c i : Int) (o : Nat) (j : Int) : Prop := (o = 64 ∧ 13 ≤ j ∧ j ≤ 16) ∨ (o = 76 ∧ c ≤ j) ∨ ((o = 73 ∨ o = 74 ∨ o = 75) ∧ i ≤ j)
theorem lcode_0 {p : Int} {S : List Int} : lcode p ([], S) = S ++ [-59] := rfl
theorem lcode_1 {p : Int} {A S : List Int} (h : A ≠ []) : lcode p (A, S) = A ++ (-63) :: (p + A.length + S.length + 3) :: (S ++ [-59]) := by
  cases A with
  | nil => exact absurd rfl h
  | cons a A => rfl
theorem read_line (n120 : n ≤ 120) (hT : ∀ i : Int, 0 ≤ i → i < n → 0 ≤ T i ∧ T i ≤ 255) {p : Int} (p0 : 0 ≤ p) (pn : p ≤ n) : ∃ (b : Bool) (l : LN) (p' : Int), (p ≤ p' ∧ p' ≤ n) ∧ (b = true → p < p' ∧ (l.1.length : Int) + l.2.length ≤ p' - p ∧ ((l.1 = [] ∨ hg l.1 0 = some 1) ∧ hg l.2 0 = some 1) ∧ ∀ q, ((lcode q l).length : Int) ≤ 2 * (p' - p)) ∧
    (∀ C q, SC n T C p q → 0 ≤ q → q ≤ 2 * p → ∃ C', Cl 54 m_L_readLine [(2, 31)] C (rV C') ∧ CP n T C q b (lcode q l) p' C') ∧
    (∀ N c i, SN n T 0 N p c → 0 ≤ c → c ≤ p → N 64 16 = i → 0 ≤ i → i ≤ 60 → ∃ N', Cl 53 m_M_isLine [(2, 64)] N (rI (bv b) N') ∧ To (MXG c i) N N' ∧ (b = true → SN n T 0 N' p' (c + l.1.length + l.2.length) ∧ N' 64 16 = i + 1 ∧ N' 73 i = c ∧ N' 74 i = c + l.1.length ∧ N' 75 i = c + l.1.length + l.2.length ∧ At (N' 76) c ((l.1 ++ l.2).map phi)) ∧ (b = false → N' 64 13 = p')) := by
  obtain ⟨b1, A, p1, ⟨r1, r2⟩, ok1, hX1, hM1⟩ := read_E n120 hT p p0 pn
  have s73 : ∀ {N : Mem} {c i : Int}, SN n T 0 N p c → SN n T 0 (up N 73 i c) p c := fun {N c i} h => h.at (up_n (by omega)) (funext fun j => up_n (by omega)) (by rw [up_n (by omega)]; exact h.2.1) (by rw [up_n (by omega)]; exact h.2.2.1) (by rw [up_n (by omega)]; exact h.2.2.2.1)
  cases b1 with
  | false =>
    refine ⟨false, ([], []), p1, ⟨r1, r2⟩, fun e => (by cases e), fun C q hC q0 q2 => ?_, fun N c i hN c0 cp hi i0 i6 => ?_⟩
    · obtain ⟨C1, x1, cp1⟩ := hX1 C q hC q0 q2
      have fl : ¬ C1 31 9 = -1 := by have := (cp1.2.2 rfl).1; omega
      obtain ⟨C2, x2, cp2⟩ := CP_emitF (v := -59) (d := 53) q0 (by omega) cp1 (by decide)
      exact ⟨C2, sg_L_readLine (d := 53) ⟨C1, x1.mono (by decide), _, c_L_nextF fl (by decide), ite_i (fun t => absurd t (by decide)) (fun _ => ⟨C2, x2, rfl⟩)⟩, cp2 _⟩
    · obtain ⟨N1, x1, np1⟩ := hM1 (up N 73 i c) c (s73 hN) c0 cp
      refine ⟨N1, sg_M_isLine (d := 52) ?_, ((To.refl _ N).upd (by unfold MXG; omega)).trans (np1.1.wk (by intro o j; unfold MX MXG; omega)), fun e => (by cases e), np1.2.2⟩
      rw [hi, hN.2.2.1]
      exact ⟨⟨i0, by omega⟩, _, N1, x1, ite_i (fun t => absurd rfl t) (fun _ => rfl)⟩
  | true =>
    obtain ⟨o1, o2, o3⟩ := ok1 rfl
    have An := HG1_ne o3
    have Al : 1 ≤ A.length := by
      cases A with
      | nil => exact absurd rfl An
      | cons a A => simp
    by_cases ask : nxb n T p1 = 63
    rotate_left
    · -- no question
      refine ⟨true, ([], A), p1, ⟨r1, r2⟩, fun _ => ⟨o1, by simp; omega, ⟨Or.inl rfl, o3 0⟩, fun q => by rw [lcode_0]; simp; omega⟩, fun C q hC q0 q2 => ?_, fun N c i hN c0 cp hi i0 i6 => ?_⟩
      · obtain ⟨C1, x1, cp1⟩ := hX1 C q hC q0 q2
        have sc := (cp1.2.1 rfl).1
        obtain ⟨C2, x2, cp2⟩ := CP_emit (v := -59) (d := 53) q0 cp1 (by omega) (by decide)
        exact ⟨C2, sg_L_readLine (d := 53) ⟨C1, x1.mono (by decide), _, c_L_next sc (by omega) n120 (by decide), ite_i (fun t => absurd t ask) (fun _ => ⟨C2, x2, rfl⟩)⟩, cp2⟩
      · obtain ⟨N1, x1, t1, okN, -⟩ := hM1 (up N 73 i c) c (s73 hN) c0 cp
        obtain ⟨sn, a1⟩ := okN rfl
        have n16 : N1 64 16 = i := by rw [t1 64 16 (by unfold MX; omega), up_n (by omega), hi]
        have n73 : N1 73 i = c := by rw [t1 73 i (by unfold MX; omega), up_eq]
        have sn2 : SN n T 0 (up N1 74 i c) p1 (c + A.length) := sn.at (up_n (by omega)) (funext fun j => up_n (by omega)) (by rw [up_n (by omega)]; exact sn.2.1) (by rw [up_n (by omega)]; exact sn.2.2.1) (by rw [up_n (by omega)]; exact sn.2.2.2.1)
        refine ⟨up (up (up N1 74 i c) 64 16 (i + 1)) 75 i (c + A.length), sg_M_isLine (d := 52) ?_, (((((To.refl _ N).upd (by unfold MXG; omega)).trans (t1.wk (by intro o j; unfold MX MXG; omega))).upd (by unfold MXG; omega)).upd (by unfold MXG; omega)).upd (by unfold MXG; omega), fun _ => ⟨?_, ?_, ?_, ?_, ?_, ?_⟩, fun e => (by cases e)⟩
        · rw [hi, hN.2.2.1]
          refine ⟨⟨i0, by omega⟩, _, N1, x1, ite_i (fun _ => ?_) (fun t => absurd (by decide) t)⟩
          rw [n16, n73]
          refine ⟨⟨i0, by omega⟩, ⟨i0, by omega⟩, 0, _, c_M_is_f sn2 (by omega) n120 ask (by decide), ite_i (fun _ => ?_) (fun t => absurd rfl t)⟩
          rw [up_n (b := 64) (j := 16) (by omega), n16, w32_i (x := i + 1) (by omega) (by omega), up_n (b := 64) (j := 15) (by omega), sn2.2.2.1]
          exact ⟨⟨i0, by omega⟩, rfl⟩
        · refine sn2.at (by rw [up_n (by omega), up_n (by omega)]) (funext fun j => by rw [up_n (by omega), up_n (by omega)]) (by rw [up_n (by omega), up_n (by omega)]; exact sn2.2.1) (by rw [up_n (by omega), up_n (by omega)]; simp; exact sn2.2.2.1) (by rw [up_n (by omega), up_n (by omega)]; exact sn2.2.2.2.1)
        · rw [up_n (by omega), up_eq]
        · rw [up_n (by omega), up_n (by omega), up_n (by omega), n73]
        · rw [up_n (by omega), up_n (by omega), up_eq]; simp
        · rw [up_eq]; simp
        · have e : up (up (up N1 74 i c) 64 16 (i + 1)) 75 i (c + A.length) 76 = N1 76 := funext fun j => by rw [up_n (by omega), up_n (by omega), up_n (by omega)]
          rw [e]; exact a1
    · have pl1 : p1 < n := by
        refine Classical.byContradiction fun t => ?_
        unfold nxb at ask
        rw [if_neg t] at ask
        omega
      obtain ⟨b2, S, p2, ⟨s1, s2⟩, ok2, hX2, hM2⟩ := read_E n120 hT (p1 + 1) (by omega) (by omega)
      -- the class behind the question
      have xIn : ∀ {C : Mem} {q : Int}, SC n T C p q → 0 ≤ q → q ≤ 2 * p → ∃ C1 C3, CP n T C q true A p1 C1 ∧ C3 = up (up (up (up (up C1 31 8 (p1 + 1)) 35 (q + A.length) (-63)) 31 7 (q + A.length + 1)) 35 (q + A.length + 1) 0) 31 7 (q + A.length + 2) ∧ SC n T C3 (p1 + 1) (q + A.length + 2) ∧ ∀ {M11 M13 : Mem}, Cl 53 m_L_readE [(2, 31), (0, 0)] C3 (rV M11) → Cl 53 m_L_emit [(2, 31), (0, -59)] M11 (rV M13) → Cl 54 m_L_readLine [(2, 31)] C (rV (up M13 35 (q + A.length + 1) (M13 31 7))) := fun {C q} hC q0 q2 => by
        obtain ⟨C1, x1, cp1⟩ := hX1 C q hC q0 q2
        have sc := (cp1.2.1 rfl).1
        have e1 := c_L_emit (C := up C1 31 8 (p1 + 1)) (q := q + A.length) (v := -63) (d := 53) sc.on.2.2.2.1 (by omega) (by omega) (by decide)
        have e2 := c_L_emit (C := up (up (up C1 31 8 (p1 + 1)) 35 (q + A.length) (-63)) 31 7 (q + A.length + 1)) (q := q + A.length + 1) (v := 0) (d := 53) up_eq (by omega) (by omega) (by decide)
        rw [show q + (A.length : Int) + 1 + 1 = q + A.length + 2 by omega] at e2
        refine ⟨C1, _, cp1, rfl, sc.on.at (by rw [up_n (by omega), up_n (by omega), up_n (by omega), up_n (by omega)]) (by rw [up_n (by omega), up_n (by omega), up_n (by omega), up_n (by omega)]) (funext fun j => by rw [up_n (by omega), up_n (by omega), up_n (by omega), up_n (by omega)]) (by rw [up_n (by omega), up_n (by omega), up_n (by omega), up_n (by omega), up_eq]) up_eq, fun {M11 M13} a e => ?_⟩
        refine sg_L_readLine (d := 53) ⟨C1, x1.mono (by decide), _, c_L_next sc (by omega) n120 (by decide), ite_i (fun _ => ?_) (fun t => absurd ask t)⟩
        rw [sc.2.1, w32_i (x := p1 + 1) (by omega) (by omega)]
        refine ⟨_, e1, _, e2, M11, a, M13, e, ?_⟩
        rw [up_eq]
        exact ite_i (fun t => absurd t (by omega)) (fun _ => ⟨⟨by omega, by omega⟩, rfl⟩)
      -- the model behind the question
      have mIn : ∀ {N : Mem} {c i : Int}, SN n T 0 N p c → 0 ≤ c → c ≤ p → N 64 16 = i → 0 ≤ i → i ≤ 60 → ∃ N3, To (MXG c i) N N3 ∧ SN n T 0 N3 (p1 + 1) (c + A.length) ∧ N3 64 16 = i ∧ N3 73 i = c ∧ N3 74 i = c + A.length ∧ At (N3 76) c (A.map phi) ∧ ∀ {v : Int} {M16 : Mem} {r : Res}, Cl 52 m_M_isE [(2, 64)] N3 (rI v M16) → (if ¬ v = 0 then (0 ≤ M16 64 16 ∧ M16 64 16 < 61) ∧ r = (some (0, 1), up (up M16 64 16 (w32 ((M16 64 16) + 1))) 75 (M16 64 16) ((up M16 64 16 (w32 ((M16 64 16) + 1))) 64 15)) else r = (some (0, 0), M16)) → Cl 53 m_M_isLine [(2, 64)] N r := fun {N c i} hN c0 cp hi i0 i6 => by
        obtain ⟨N1, x1, t1, okN, -⟩ := hM1 (up N 73 i c) c (s73 hN) c0 cp
        obtain ⟨sn, a1⟩ := okN rfl
        have n16 : N1 64 16 = i := by rw [t1 64 16 (by unfold MX; omega), up_n (by omega), hi]
        have n73 : N1 73 i = c := by rw [t1 73 i (by unfold MX; omega), up_eq]
        have sn2 : SN n T 0 (up N1 74 i c) p1 (c + A.length) := sn.at (up_n (by omega)) (funext fun j => up_n (by omega)) (by rw [up_n (by omega)]; exact sn.2.1) (by rw [up_n (by omega)]; exact sn.2.2.1) (by rw [up_n (by omega)]; exact sn.2.2.2.1)
        refine ⟨up (up (up N1 74 i c) 64 13 (p1 + 1)) 74 i (c + A.length), (((((To.refl _ N).upd (by unfold MXG; omega)).trans (t1.wk (by intro o j; unfold MX MXG; omega))).upd (by unfold MXG; omega)).upd (by unfold MXG; omega)).upd (by unfold MXG; omega), sn2.on.at (up_n (by omega)) (funext fun j => up_n (by omega)) (by rw [up_n (by omega), up_eq]) (by rw [up_n (by omega)]; exact sn2.on.2.2.1) (by rw [up_n (by omega)]; exact sn2.on.2.2.2.1), by rw [up_n (by omega), up_n (by omega), up_n (by omega), n16], by rw [up_n (by omega), up_n (by omega), up_n (by omega), n73], up_eq, ?_, fun {v M16 r} a hv => sg_M_isLine (d := 52) ?_⟩
        · have e : up (up (up N1 74 i c) 64 13 (p1 + 1)) 74 i (c + A.length) 76 = N1 76 := funext fun j => by rw [up_n (by omega), up_n (by omega), up_n (by omega)]
          rw [e]; exact a1
        · rw [hi, hN.2.2.1]
          refine ⟨⟨i0, by omega⟩, _, N1, x1, ite_i (fun _ => ?_) (fun t => absurd (by decide) t)⟩
          rw [n16, n73]
          refine ⟨⟨i0, by omega⟩, ⟨i0, by omega⟩, 1, _, c_M_is_t sn2 (by omega) (by omega) n120 ask (by decide), ite_i (fun t => absurd t (by decide)) (fun _ => ?_)⟩
          rw [up_n (b := 64) (a := 64) (j := 16) (by omega), up_n (b := 64) (a := 74) (by omega), n16, up_n (b := 64) (a := 64) (j := 15) (by omega), up_n (b := 64) (a := 74) (by omega), sn.2.2.1]
          exact ⟨⟨i0, by omega⟩, v, M16, a, hv⟩
      cases b2 with
      | false =>
        refine ⟨false, ([], []), p2, ⟨by omega, s2⟩, fun e => (by cases e), fun C q hC q0 q2 => ?_, fun N c i hN c0 cp hi i0 i6 => ?_⟩
        · obtain ⟨C1, C3, cp1, h3, sc3, fin⟩ := xIn hC q0 q2
          obtain ⟨C4, x4, cp4⟩ := hX2 C3 _ sc3 (by omega) (by omega)
          obtain ⟨C5, x5, cp5⟩ := CP_emitF (v := -59) (d := 53) (by omega) (by omega) cp4 (by decide)
          have c5 := cp5 []
          refine ⟨_, fin (x4.mono (by decide)) x5, (((cp1.1.trans ?_).trans (c5.1.wk (LX_le (by omega)))).upd (by unfold LX; omega)), fun e => (by cases e), fun _ => ⟨by rw [up_n (by omega)]; exact (c5.2.2 rfl).1, by rw [up_n (by omega)]; have := (c5.2.2 rfl).2; omega⟩⟩
          rw [h3]
          exact (((((To.refl _ C1).upd (by unfold LX; omega)).upd (by unfold LX; omega)).upd (by unfold LX; omega)).upd (by unfold LX; omega)).upd (by unfold LX; omega)
        · obtain ⟨N3, t3, sn3, n16, n73, n74, a3, fin⟩ := mIn hN c0 cp hi i0 i6
          obtain ⟨N4, x4, np4⟩ := hM2 N3 _ sn3 (by omega) (by omega)
          exact ⟨N4, fin x4 (ite_i (fun t => absurd rfl t) (fun _ => rfl)), t3.trans (np4.1.wk (by intro o j; unfold MX MXG; omega)), fun e => (by cases e), np4.2.2⟩
      | true =>
        obtain ⟨u1, u2, u3⟩ := ok2 rfl
        refine ⟨true, (A, S), p2, ⟨by omega, s2⟩, fun _ => ⟨by omega, by dsimp only; omega, ⟨Or.inr (o3 0), u3 0⟩, fun q => by rw [lcode_1 An]; simp only [List.length_append, List.length_cons, List.length_nil]; omega⟩, fun C q hC q0 q2 => ?_, fun N c i hN c0 cp hi i0 i6 => ?_⟩
        · obtain ⟨C1, C3, cp1, h3, sc3, fin⟩ := xIn hC q0 q2
          obtain ⟨C4, x4, cp4⟩ := hX2 C3 _ sc3 (by omega) (by omega)
          obtain ⟨C5, x5, t5, ok5, -⟩ := CP_emit (v := -59) (d := 53) (by omega) cp4 (by omega) (by decide)
          obtain ⟨sc5, a5⟩ := ok5 rfl
          have t3 : To (LX (q + A.length)) C1 C3 := by
            rw [h3]
            exact (((((To.refl _ C1).upd (by unfold LX; omega)).upd (by unfold LX; omega)).upd (by unfold LX; omega)).upd (by unfold LX; omega)).upd (by unfold LX; omega)
          have l5 : ((S ++ [-59]).length : Int) = S.length + 1 := by simp
          have d5 : C5 31 7 = q + A.length + S.length + 3 := by rw [sc5.2.2.2.1, l5]; omega
          rw [l5] at sc5
          refine ⟨_, fin (x4.mono (by decide)) x5, (((cp1.1.trans (t3.wk (LX_le (by omega)))).trans (t5.wk (LX_le (by omega)))).upd (by unfold LX; omega)), fun _ => ⟨?_, ?_⟩, fun e => (by cases e)⟩
          · refine sc5.at (by rw [up_n (by omega)]) (by rw [up_n (by omega)]) (funext fun j => by rw [up_n (by omega)]) (by rw [up_n (by omega)]; exact sc5.2.1) ?_
            rw [up_n (by omega), d5, lcode_1 An]
            simp only [List.length_append, List.length_cons, List.length_nil]
            omega
          · rw [lcode_1 An, d5]
            refine At_app.mpr ⟨At_congr (fun j j0 j1 => ?_) (cp1.2.1 rfl).2, ?_, ?_, ?_⟩
            · rw [up_n (by omega), t5 35 j (by unfold LX; omega), t3 35 j (by unfold LX; omega)]
            · rw [up_n (by omega), t5 35 _ (by unfold LX; omega), h3, up_n (by omega), up_n (by omega), up_n (by omega), up_eq]
            · rw [up_eq]
            · rw [show q + (A.length : Int) + 1 + 1 = q + A.length + 2 by omega]
              exact At_congr (fun j j0 j1 => by rw [up_n (by omega)]) a5
        · obtain ⟨N3, t3, sn3, n16, n73, n74, a3, fin⟩ := mIn hN c0 cp hi i0 i6
          obtain ⟨N4, x4, t4, ok4, -⟩ := hM2 N3 _ sn3 (by omega) (by omega)
          obtain ⟨sn4, a4⟩ := ok4 rfl
          have m16 : N4 64 16 = i := by rw [t4 64 16 (by unfold MX; omega), n16]
          refine ⟨up (up N4 64 16 (i + 1)) 75 i (c + A.length + S.length), fin x4 (ite_i (fun _ => ?_) (fun t => absurd (by decide) t)), ((t3.trans (t4.wk (by intro o j; unfold MX MXG; omega))).upd (by unfold MXG; omega)).upd (by unfold MXG; omega), fun _ => ⟨?_, ?_, ?_, ?_, ?_, ?_⟩, fun e => (by cases e)⟩
          · rw [m16, w32_i (x := i + 1) (by omega) (by omega), up_n (b := 64) (j := 15) (by omega), sn4.2.2.1]
            exact ⟨⟨i0, by omega⟩, rfl⟩
          · exact sn4.at (by rw [up_n (by omega), up_n (by omega)]) (funext fun j => by rw [up_n (by omega), up_n (by omega)]) (by rw [up_n (by omega), up_n (by omega)]; exact sn4.2.1) (by rw [up_n (by omega), up_n (by omega)]; exact sn4.2.2.1) (by rw [up_n (by omega), up_n (by omega)]; exact sn4.2.2.2.1)
          · rw [up_n (by omega), up_eq]
          · rw [up_n (by omega), up_n (by omega), t4 73 i (by unfold MX; omega), n73]
          · rw [up_n (by omega), up_n (by omega), t4 74 i (by unfold MX; omega), n74]
          · rw [up_eq]
          · have e : up (up N4 64 16 (i + 1)) 75 i (c + A.length + S.length) 76 = N4 76 := funext fun j => by rw [up_n (by omega), up_n (by omega)]
            rw [e]
            show At (N4 76) c ((A ++ S).map phi)
            rw [List.map_append]
            refine At_app.mpr ⟨At_congr (fun j j0 j1 => ?_) a3, ?_⟩
            · rw [List.length_map] at j1
              exact t4 76 j (by unfold MX; omega)
            · rw [List.length_map]; exact a4
end P57
