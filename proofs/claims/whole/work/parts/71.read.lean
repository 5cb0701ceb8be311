/-! the layers B and O of the reader */ -/
section P55
variable {M N C : Mem} {n k q c v x : Int} {T : Int → Int} {d : Nat}
theorem lay_B (n120 : n ≤ 120) (hd : 2 ≤ d) (hY : ∀ p, 0 ≤ p → p ≤ n → PRO n T k m_L_readS m_M_isS d p) : ∀ p, 0 ≤ p → p ≤ n → PRO n T k m_L_readB m_M_isB (d + 1) p := by
  intro p p0 pn
  obtain ⟨b1, cs1, p1, ⟨r1, r2⟩, ok1, hX1, hM1⟩ := hY p p0 pn
  cases b1 with
  | false =>
    refine ⟨false, [], p1, ⟨r1, r2⟩, fun e => (by cases e), fun C q hC q0 q2 => ?_, fun N c hN c0 cp => ?_⟩
    · obtain ⟨C1, x1, cp1⟩ := hX1 C q hC q0 q2
      have fl : ¬ C1 31 9 = -1 := by have := (cp1.2.2 rfl).1; omega
      exact ⟨C1, sg_L_readB ⟨C1, x1, _, c_L_nextF fl (by omega), ite_i (fun t => absurd t (by decide)) (fun _ => ite_i (fun t => absurd t (by decide)) (fun _ => ite_i (fun _ => rfl) (fun t => absurd (by decide) t)))⟩, CP_F cp1⟩
    · obtain ⟨N1, x1, np1⟩ := hM1 N c hN c0 cp
      exact ⟨N1, sg_M_isB ⟨_, N1, x1, ite_i (fun t => absurd rfl t) (fun _ => rfl)⟩, NP_F np1⟩
  | true =>
    obtain ⟨o1, o2, o3⟩ := ok1 rfl
    have tX : ∀ {C1 : Mem} {q1 : Int} {r : Res}, SC n T C1 p1 q1 → (nxb n T p1 = 60 ∨ nxb n T p1 = 61 ∨ nxb n T p1 = 62) → p1 < n → (∃ M7, Cl d m_L_readS [(2, 31), (0, k)] (up C1 31 8 (p1 + 1)) (rV M7) ∧ ∃ M9, Cl d m_L_emit [(2, 31), (0, -nxb n T p1)] M7 (rV M9) ∧ r = rV M9) → ∃ v4, Cl d m_L_next [(2, 31)] C1 (some (0, v4), C1) ∧ (if v4 = 60 then ∃ M7, Cl d m_L_readS [(2, 31), (0, k)] (up C1 31 8 (w32 ((C1 31 8) + 1))) (none, M7) ∧ ∃ M9, Cl d m_L_emit [(2, 31), (0, w32 (-v4))] M7 (none, M9) ∧ r = (none, M9) else (if v4 = 61 then ∃ M12, Cl d m_L_readS [(2, 31), (0, k)] (up C1 31 8 (w32 ((C1 31 8) + 1))) (none, M12) ∧ ∃ M14, Cl d m_L_emit [(2, 31), (0, w32 (-v4))] M12 (none, M14) ∧ r = (none, M14) else (if ¬ v4 = 62 then r = (none, C1) else ∃ M17, Cl d m_L_readS [(2, 31), (0, k)] (up C1 31 8 (w32 ((C1 31 8) + 1))) (none, M17) ∧ ∃ M19, Cl d m_L_emit [(2, 31), (0, w32 (-v4))] M17 (none, M19) ∧ r = (none, M19)))) := fun {C1 q1 r} sc h pn hv => by
      have wp : w32 (C1 31 8 + 1) = p1 + 1 := by rw [sc.2.1]; exact w32_i (by omega) (by omega)
      have wv : w32 (-nxb n T p1) = -nxb n T p1 := wneg (by rcases h with h | h | h <;> rw [h] <;> decide)
      refine ⟨_, c_L_next sc (by omega) n120 (by omega), ?_⟩
      rw [wp, wv]
      exact ite_i (fun _ => hv) (fun q0 => ite_i (fun _ => hv) (fun q1 => ite_i (fun q2 => absurd h (by omega)) (fun _ => hv)))
    have tM : ∀ {N1 : Mem} {c1 : Int} {r : Res}, SN n T k N1 p1 c1 → (nxb n T p1 = 60 ∨ nxb n T p1 = 61 ∨ nxb n T p1 = 62) → p1 < n → (∃ v M9, Cl d m_M_isS [(2, 64)] (up N1 64 13 (p1 + 1)) (rI v M9) ∧ (if v = 0 then r = rI 0 M9 else ∃ v2 M13, Cl d m_M_codes [(2, 64), (0, phi (-nxb n T p1))] M9 (rI v2 M13) ∧ (if v2 = 0 then r = rI 0 M13 else r = rI 1 M13))) → ∃ v6, Cl d m_M_sign [(2, 64)] N1 (some (0, v6), N1) ∧ (if ¬ v6 = 60 then ∃ v9, Cl d m_M_sign [(2, 64)] N1 (some (0, v9), N1) ∧ (if ¬ v9 = 61 then ∃ v12, Cl d m_M_sign [(2, 64)] N1 (some (0, v12), N1) ∧ (if ¬ v12 = 62 then r = (some (0, 1), N1) else ∃ v15 M16, Cl d m_M_isS [(2, 64)] (up N1 64 13 (w32 ((N1 64 13) + 1))) (some (0, v15), M16) ∧ (if v15 = 0 then r = (some (0, 0), M16) else ∃ v19 M20, Cl d m_M_codes [(2, 64), (0, 10)] M16 (some (0, v19), M20) ∧ (if v19 = 0 then r = (some (0, 0), M20) else r = (some (0, 1), M20)))) else ∃ v23 M24, Cl d m_M_isS [(2, 64)] (up N1 64 13 (w32 ((N1 64 13) + 1))) (some (0, v23), M24) ∧ (if v23 = 0 then r = (some (0, 0), M24) else ∃ v27 M28, Cl d m_M_codes [(2, 64), (0, 9)] M24 (some (0, v27), M28) ∧ (if v27 = 0 then r = (some (0, 0), M28) else r = (some (0, 1), M28)))) else ∃ v31 M32, Cl d m_M_isS [(2, 64)] (up N1 64 13 (w32 ((N1 64 13) + 1))) (some (0, v31), M32) ∧ (if v31 = 0 then r = (some (0, 0), M32) else ∃ v35 M36, Cl d m_M_codes [(2, 64), (0, 8)] M32 (some (0, v35), M36) ∧ (if v35 = 0 then r = (some (0, 0), M36) else r = (some (0, 1), M36)))) := fun {N1 c1 r} sn h pn hv => by
      have wp : w32 (N1 64 13 + 1) = p1 + 1 := by rw [sn.2.1]; exact w32_i (by omega) (by omega)
      have sg := c_M_sign (d := d) sn (by omega) n120 (by omega)
      rw [wp]
      refine ⟨_, sg, ite_i (fun q0 => ⟨_, sg, ite_i (fun q1 => ⟨_, sg, ite_i (fun q2 => absurd h (by omega)) (fun q2 => ?_)⟩) (fun q1 => ?_)⟩) (fun q0 => ?_)⟩
      · rw [show phi (-nxb n T p1) = 10 by rw [show nxb n T p1 = 62 from Classical.not_not.mp q2]; decide +kernel] at hv; exact hv
      · rw [show phi (-nxb n T p1) = 9 by rw [show nxb n T p1 = 61 from Classical.not_not.mp q1]; decide +kernel] at hv; exact hv
      · rw [show phi (-nxb n T p1) = 8 by rw [show nxb n T p1 = 60 from Classical.not_not.mp q0]; decide +kernel] at hv; exact hv
    by_cases hop : nxb n T p1 = 60 ∨ nxb n T p1 = 61 ∨ nxb n T p1 = 62
    · have pl : p1 < n := by
        refine Classical.byContradiction fun t => ?_
        unfold nxb at hop
        rw [if_neg t] at hop
        omega
      have hb : bop (-nxb n T p1) := by unfold bop; omega
      obtain ⟨b2, cs2, p2, ⟨s1, s2⟩, ok2, hX2, hM2⟩ := hY (p1 + 1) (by omega) (by omega)
      cases b2 with
      | false =>
        refine ⟨false, [], p2, ⟨by omega, s2⟩, fun e => (by cases e), fun C q hC q0 q2 => ?_, fun N c hN c0 cp => ?_⟩
        · obtain ⟨C1, x1, t1, okC, -⟩ := hX1 C q hC q0 q2
          obtain ⟨sc, a1⟩ := okC rfl
          obtain ⟨C2, x2, cp2⟩ := hX2 _ _ sc.on (by omega) (by omega)
          obtain ⟨C3, x3, cp3⟩ := CP_emitF (v := -nxb n T p1) (by omega) (by omega) cp2 (show 1 ≤ d by omega)
          refine ⟨C3, sg_L_readB ⟨C1, x1, tX sc hop pl ⟨C2, x2, C3, x3, rfl⟩⟩, ?_⟩
          have := cp3 []
          exact ⟨(t1.upd (by unfold LX; omega)).trans (this.1.wk (LX_le (by omega))), fun e => (by cases e), fun _ => ⟨(this.2.2 rfl).1, by have := (this.2.2 rfl).2; omega⟩⟩
        · obtain ⟨N1, x1, t1, okN, -⟩ := hM1 N c hN c0 cp
          obtain ⟨sn, a1⟩ := okN rfl
          obtain ⟨N2, x2, np2⟩ := hM2 _ _ sn.on (by omega) (by omega)
          exact ⟨N2, sg_M_isB ⟨_, N1, x1, ite_i (fun _ => tM sn hop pl ⟨_, N2, x2, ite_i (fun _ => rfl) (fun t => absurd rfl t)⟩) (fun t => absurd (by decide) t)⟩, (t1.upd (by unfold MX; omega)).trans (np2.1.wk (MX_le (by omega))), fun e => (by cases e), np2.2.2⟩
      | true =>
        obtain ⟨u1, u2, u3⟩ := ok2 rfl
        have l : ((cs1 ++ (cs2 ++ [-nxb n T p1])).length : Int) = cs1.length + cs2.length + 1 := by simp; omega
        have hg2 : HG1 (cs1 ++ (cs2 ++ [-nxb n T p1])) := fun h => by
          rw [hg_app, o3 h]
          show hg (cs2 ++ [-nxb n T p1]) (h + 1) = _
          rw [hg_app, u3 (h + 1)]
          have := HG_op (v := -nxb n T p1) (cs1 := []) (cs2 := [])
          show hg [-nxb n T p1] (h + 1 + 1) = _
          have v6 : ¬ (-6 ≤ -nxb n T p1 ∧ -nxb n T p1 ≤ 9999) := by unfold bop at hb; omega
          have vu : ¬ (-nxb n T p1 = -33 ∨ -nxb n T p1 = -126) := by unfold bop at hb; omega
          unfold hg
          rw [if_neg v6, if_neg vu, if_pos hb, if_pos (by omega)]
          rfl
        refine ⟨true, cs1 ++ (cs2 ++ [-nxb n T p1]), p2, ⟨by omega, s2⟩, fun _ => ⟨by omega, by rw [l]; omega, hg2⟩, fun C q hC q0 q2 => ?_, fun N c hN c0 cp => ?_⟩
        · obtain ⟨C1, x1, t1, okC, -⟩ := hX1 C q hC q0 q2
          obtain ⟨sc, a1⟩ := okC rfl
          obtain ⟨C2, x2, cp2⟩ := hX2 _ _ sc.on (by omega) (by omega)
          obtain ⟨C3, x3, cp3⟩ := CP_emit (v := -nxb n T p1) (by omega) cp2 (by omega) (show 1 ≤ d by omega)
          refine ⟨C3, sg_L_readB ⟨C1, x1, tX sc hop pl ⟨C2, x2, C3, x3, rfl⟩⟩, CP_app q0 (t1.upd (by unfold LX; omega)) ?_ cp3⟩
          have e : up C1 31 8 (p1 + 1) 35 = C1 35 := funext fun j => up_n (by omega)
          rw [e]; exact a1
        · obtain ⟨N1, x1, t1, okN, -⟩ := hM1 N c hN c0 cp
          obtain ⟨sn, a1⟩ := okN rfl
          obtain ⟨N2, x2, np2⟩ := hM2 _ _ sn.on (by omega) (by omega)
          obtain ⟨N3, x3, np3⟩ := NP_emit (v := -nxb n T p1) (by omega) np2 (by omega) (show 1 ≤ d by omega)
          refine ⟨N3, sg_M_isB ⟨_, N1, x1, ite_i (fun _ => tM sn hop pl ⟨_, N2, x2, ite_i (fun t => absurd t (by decide)) (fun _ => ⟨_, N3, x3, ite_i (fun t => absurd t (by decide)) (fun _ => rfl)⟩)⟩) (fun t => absurd (by decide) t)⟩, NP_app c0 (t1.upd (by unfold MX; omega)) ?_ np3⟩
          have e : up N1 64 13 (p1 + 1) 76 = N1 76 := funext fun j => up_n (by omega)
          rw [e]; exact a1
    · refine ⟨true, cs1, p1, ⟨r1, r2⟩, fun _ => ⟨o1, o2, o3⟩, fun C q hC q0 q2 => ?_, fun N c hN c0 cp => ?_⟩
      · obtain ⟨C1, x1, cp1⟩ := hX1 C q hC q0 q2
        have sc := (cp1.2.1 rfl).1
        exact ⟨C1, sg_L_readB ⟨C1, x1, _, c_L_next sc (by omega) n120 (by omega), ite_i (fun t => absurd (Or.inl t) hop) (fun _ => ite_i (fun t => absurd (Or.inr (Or.inl t)) hop) (fun _ => ite_i (fun _ => rfl) (fun t => absurd (Or.inr (Or.inr (Classical.not_not.mp t))) hop)))⟩, cp1⟩
      · obtain ⟨N1, x1, np1⟩ := hM1 N c hN c0 cp
        have sn := (np1.2.1 rfl).1
        have sg := c_M_sign (d := d) sn (by omega) n120 (by omega)
        exact ⟨N1, sg_M_isB ⟨_, N1, x1, ite_i (fun _ => ⟨_, sg, ite_i (fun _ => ⟨_, sg, ite_i (fun _ => ⟨_, sg, ite_i (fun _ => rfl) (fun t => absurd (Or.inr (Or.inr (Classical.not_not.mp t))) hop)⟩) (fun t => absurd (Or.inr (Or.inl (Classical.not_not.mp t))) hop)⟩) (fun t => absurd (Or.inl (Classical.not_not.mp t)) hop)⟩) (fun t => absurd (by decide) t)⟩, np1⟩
theorem c_L_isDigit (hd : 1 ≤ d) : Cl d m_L_isDigit [(0, v)] M (rI (bI (48 ≤ v ∧ v ≤ 57)) M) := by
  refine (sg_L_isDigit (d := 0) (ite_i (fun t => ?_) (fun t => ite_i (fun t2 => ?_) (fun t2 => ?_)))).mono hd
  · rw [bI_f (by omega)]
  · rw [bI_f (by omega)]
  · rw [bI_t (by omega)]
theorem c_M_isDigit {p : Int} (h : SN n T k N p c) (p0 : 0 ≤ p) (n120 : n ≤ 120) (hd : 2 ≤ d) : Cl d m_M_isDigit [(2, 64)] N (rI (bI (48 ≤ nxb n T p ∧ nxb n T p ≤ 57)) N) := by
  have sg := c_M_sign (d := 1) h p0 n120 (by decide)
  refine (sg_M_isDigit (d := 1) ⟨_, sg, ite_i (fun t => ?_) (fun t => ⟨_, sg, ite_i (fun t2 => ?_) (fun t2 => ?_)⟩)⟩).mono hd
  · rw [bI_f (by omega)]
  · rw [bI_f (by omega)]
  · rw [bI_t (by omega)]
def NMv (p1 : Int) : Int := if p1 = 102 then 0 else if p1 = 103 then -1 else if p1 = 104 then -1 else if p1 = 105 then -1 else if p1 = 106 then -1 else if p1 = 107 then 4 else if p1 = 108 then -1 else if p1 = 109 then -1 else if p1 = 110 then 5 else if p1 = 111 then -1 else if p1 = 112 then -1 else if p1 = 113 then -1 else if p1 = 114 then 3 else if p1 = 115 then 1 else if p1 = 116 then 2 else -1
theorem NMv_rng : -1 ≤ NMv v ∧ NMv v ≤ 5 := by
  by_cases h102 : v = 102
  · subst h102; decide +kernel
  by_cases h103 : v = 103
  · subst h103; decide +kernel
  by_cases h104 : v = 104
  · subst h104; decide +kernel
  by_cases h105 : v = 105
  · subst h105; decide +kernel
  by_cases h106 : v = 106
  · subst h106; decide +kernel
  by_cases h107 : v = 107
  · subst h107; decide +kernel
  by_cases h108 : v = 108
  · subst h108; decide +kernel
  by_cases h109 : v = 109
  · subst h109; decide +kernel
  by_cases h110 : v = 110
  · subst h110; decide +kernel
  by_cases h111 : v = 111
  · subst h111; decide +kernel
  by_cases h112 : v = 112
  · subst h112; decide +kernel
  by_cases h113 : v = 113
  · subst h113; decide +kernel
  by_cases h114 : v = 114
  · subst h114; decide +kernel
  by_cases h115 : v = 115
  · subst h115; decide +kernel
  by_cases h116 : v = 116
  · subst h116; decide +kernel
  have e : NMv v = -1 := by
    unfold NMv
    rw [if_neg h102, if_neg h103, if_neg h104, if_neg h105, if_neg h106, if_neg h107, if_neg h108, if_neg h109, if_neg h110, if_neg h111, if_neg h112, if_neg h113, if_neg h114, if_neg h115, if_neg h116]
  rw [e]; decide
theorem c_L_nameIndex (hd : 1 ≤ d) : Cl d m_L_nameIndex [(0, v)] M (rI (NMv v) M) := by
  refine (sg_L_nameIndex (d := 0) ?_).mono hd
  by_cases h102 : v = 102
  · subst h102
    rw [show NMv 102 = 0 by decide +kernel, if_pos rfl]
  by_cases h103 : v = 103
  · subst h103
    rw [show NMv 103 = (-1) by decide +kernel, if_neg (by decide), if_pos rfl]
  by_cases h104 : v = 104
  · subst h104
    rw [show NMv 104 = (-1) by decide +kernel, if_neg (by decide), if_neg (by decide), if_pos rfl]
  by_cases h105 : v = 105
  · subst h105
    rw [show NMv 105 = (-1) by decide +kernel, if_neg (by decide), if_neg (by decide), if_neg (by decide), if_pos rfl]
  by_cases h106 : v = 106
  · subst h106
    rw [show NMv 106 = (-1) by decide +kernel, if_neg (by decide), if_neg (by decide), if_neg (by decide), if_neg (by decide), if_pos rfl]
  by_cases h107 : v = 107
  · subst h107
    rw [show NMv 107 = 4 by decide +kernel, if_neg (by decide), if_neg (by decide), if_neg (by decide), if_neg (by decide), if_neg (by decide), if_pos rfl]
  by_cases h108 : v = 108
  · subst h108
    rw [show NMv 108 = (-1) by decide +kernel, if_neg (by decide), if_neg (by decide), if_neg (by decide), if_neg (by decide), if_neg (by decide), if_neg (by decide), if_pos rfl]
  by_cases h109 : v = 109
  · subst h109
    rw [show NMv 109 = (-1) by decide +kernel, if_neg (by decide), if_neg (by decide), if_neg (by decide), if_neg (by decide), if_neg (by decide), if_neg (by decide), if_neg (by decide), if_pos rfl]
  by_cases h110 : v = 110
  · subst h110
    rw [show NMv 110 = 5 by decide +kernel, if_neg (by decide), if_neg (by decide), if_neg (by decide), if_neg (by decide), if_neg (by decide), if_neg (by decide), if_neg (by decide), if_neg (by decide), if_pos rfl]
  by_cases h111 : v = 111
  · subst h111
    rw [show NMv 111 = (-1) by decide +kernel, if_neg (by decide), if_neg (by decide), if_neg (by decide), if_neg (by decide), if_neg (by decide), if_neg (by decide), if_neg (by decide), if_neg (by decide), if_neg (by decide), if_pos rfl]
  by_cases h112 : v = 112
  · subst h112
    rw [show NMv 112 = (-1) by decide +kernel, if_neg (by decide), if_neg (by decide), if_neg (by decide), if_neg (by decide), if_neg (by decide), if_neg (by decide), if_neg (by decide), if_neg (by decide), if_neg (by decide), if_neg (by decide), if_pos rfl]
  by_cases h113 : v = 113
  · subst h113
    rw [show NMv 113 = (-1) by decide +kernel, if_neg (by decide), if_neg (by decide), if_neg (by decide), if_neg (by decide), if_neg (by decide), if_neg (by decide), if_neg (by decide), if_neg (by decide), if_neg (by decide), if_neg (by decide), if_neg (by decide), if_pos rfl]
  by_cases h114 : v = 114
  · subst h114
    rw [show NMv 114 = 3 by decide +kernel, if_neg (by decide), if_neg (by decide), if_neg (by decide), if_neg (by decide), if_neg (by decide), if_neg (by decide), if_neg (by decide), if_neg (by decide), if_neg (by decide), if_neg (by decide), if_neg (by decide), if_neg (by decide), if_pos rfl]
  by_cases h115 : v = 115
  · subst h115
    rw [show NMv 115 = 1 by decide +kernel, if_neg (by decide), if_neg (by decide), if_neg (by decide), if_neg (by decide), if_neg (by decide), if_neg (by decide), if_neg (by decide), if_neg (by decide), if_neg (by decide), if_neg (by decide), if_neg (by decide), if_neg (by decide), if_neg (by decide), if_pos rfl]
  by_cases h116 : v = 116
  · subst h116
    rw [show NMv 116 = 2 by decide +kernel, if_neg (by decide), if_neg (by decide), if_neg (by decide), if_neg (by decide), if_neg (by decide), if_neg (by decide), if_neg (by decide), if_neg (by decide), if_neg (by decide), if_neg (by decide), if_neg (by decide), if_neg (by decide), if_neg (by decide), if_neg (by decide), if_pos rfl]
  have e : NMv v = -1 := by
    unfold NMv
    rw [if_neg h102, if_neg h103, if_neg h104, if_neg h105, if_neg h106, if_neg h107, if_neg h108, if_neg h109, if_neg h110, if_neg h111, if_neg h112, if_neg h113, if_neg h114, if_neg h115, if_neg h116]
  rw [e, if_neg h102, if_neg h103, if_neg h104, if_neg h105, if_neg h106, if_neg h107, if_neg h108, if_neg h109, if_neg h110, if_neg h111, if_neg h112, if_neg h113, if_neg h114, if_neg h115, if_neg h116]
theorem c_M_nameOf (hd : 1 ≤ d) : Cl d m_M_nameOf [(0, v)] M (rI (NMv v) M) := by
  refine (sg_M_nameOf (d := 0) ?_).mono hd
  by_cases h102 : v = 102
  · subst h102
    rw [show NMv 102 = 0 by decide +kernel, if_pos rfl]
  by_cases h103 : v = 103
  · subst h103
    rw [show NMv 103 = (-1) by decide +kernel, if_neg (by decide), if_pos rfl]
  by_cases h104 : v = 104
  · subst h104
    rw [show NMv 104 = (-1) by decide +kernel, if_neg (by decide), if_neg (by decide), if_pos rfl]
  by_cases h105 : v = 105
  · subst h105
    rw [show NMv 105 = (-1) by decide +kernel, if_neg (by decide), if_neg (by decide), if_neg (by decide), if_pos rfl]
  by_cases h106 : v = 106
  · subst h106
    rw [show NMv 106 = (-1) by decide +kernel, if_neg (by decide), if_neg (by decide), if_neg (by decide), if_neg (by decide), if_pos rfl]
  by_cases h107 : v = 107
  · subst h107
    rw [show NMv 107 = 4 by decide +kernel, if_neg (by decide), if_neg (by decide), if_neg (by decide), if_neg (by decide), if_neg (by decide), if_pos rfl]
  by_cases h108 : v = 108
  · subst h108
    rw [show NMv 108 = (-1) by decide +kernel, if_neg (by decide), if_neg (by decide), if_neg (by decide), if_neg (by decide), if_neg (by decide), if_neg (by decide), if_pos rfl]
  by_cases h109 : v = 109
  · subst h109
    rw [show NMv 109 = (-1) by decide +kernel, if_neg (by decide), if_neg (by decide), if_neg (by decide), if_neg (by decide), if_neg (by decide), if_neg (by decide), if_neg (by decide), if_pos rfl]
  by_cases h110 : v = 110
  · subst h110
    rw [show NMv 110 = 5 by decide +kernel, if_neg (by decide), if_neg (by decide), if_neg (by decide), if_neg (by decide), if_neg (by decide), if_neg (by decide), if_neg (by decide), if_neg (by decide), if_pos rfl]
  by_cases h111 : v = 111
  · subst h111
    rw [show NMv 111 = (-1) by decide +kernel, if_neg (by decide), if_neg (by decide), if_neg (by decide), if_neg (by decide), if_neg (by decide), if_neg (by decide), if_neg (by decide), if_neg (by decide), if_neg (by decide), if_pos rfl]
  by_cases h112 : v = 112
  · subst h112
    rw [show NMv 112 = (-1) by decide +kernel, if_neg (by decide), if_neg (by decide), if_neg (by decide), if_neg (by decide), if_neg (by decide), if_neg (by decide), if_neg (by decide), if_neg (by decide), if_neg (by decide), if_neg (by decide), if_pos rfl]
  by_cases h113 : v = 113
  · subst h113
    rw [show NMv 113 = (-1) by decide +kernel, if_neg (by decide), if_neg (by decide), if_neg (by decide), if_neg (by decide), if_neg (by decide), if_neg (by decide), if_neg (by decide), if_neg (by decide), if_neg (by decide), if_neg (by decide), if_neg (by decide), if_pos rfl]
  by_cases h114 : v = 114
  · subst h114
    rw [show NMv 114 = 3 by decide +kernel, if_neg (by decide), if_neg (by decide), if_neg (by decide), if_neg (by decide), if_neg (by decide), if_neg (by decide), if_neg (by decide), if_neg (by decide), if_neg (by decide), if_neg (by decide), if_neg (by decide), if_neg (by decide), if_pos rfl]
  by_cases h115 : v = 115
  · subst h115
    rw [show NMv 115 = 1 by decide +kernel, if_neg (by decide), if_neg (by decide), if_neg (by decide), if_neg (by decide), if_neg (by decide), if_neg (by decide), if_neg (by decide), if_neg (by decide), if_neg (by decide), if_neg (by decide), if_neg (by decide), if_neg (by decide), if_neg (by decide), if_pos rfl]
  by_cases h116 : v = 116
  · subst h116
    rw [show NMv 116 = 2 by decide +kernel, if_neg (by decide), if_neg (by decide), if_neg (by decide), if_neg (by decide), if_neg (by decide), if_neg (by decide), if_neg (by decide), if_neg (by decide), if_neg (by decide), if_neg (by decide), if_neg (by decide), if_neg (by decide), if_neg (by decide), if_neg (by decide), if_pos rfl]
  have e : NMv v = -1 := by
    unfold NMv
    rw [if_neg h102, if_neg h103, if_neg h104, if_neg h105, if_neg h106, if_neg h107, if_neg h108, if_neg h109, if_neg h110, if_neg h111, if_neg h112, if_neg h113, if_neg h114, if_neg h115, if_neg h116]
  rw [e, if_neg h102, if_neg h103, if_neg h104, if_neg h105, if_neg h106, if_neg h107, if_neg h108, if_neg h109, if_neg h110, if_neg h111, if_neg h112, if_neg h113, if_neg h114, if_neg h115, if_neg h116]
/-- the digits of a number, four at most -/
theorem num_two (n120 : n ≤ 120) (hT : ∀ i : Int, 0 ≤ i → i < n → 0 ≤ T i ∧ T i ≤ 255) (hd : 2 ≤ d) : ∀ (m : Nat) (i v p : Int), i + m = 4 → 0 ≤ i → 0 ≤ v → (v + 1) * 10 ^ m ≤ 10000 → 0 ≤ p → p ≤ n → ∃ w p' : Int, (p ≤ p' ∧ p' ≤ n) ∧ (0 ≤ w ∧ w ≤ 9999) ∧ (i < 4 → 48 ≤ nxb n T p ∧ nxb n T p ≤ 57 → p + 1 ≤ p') ∧ (∀ C q, SC n T C p q → 0 ≤ q → q ≤ 2 * p → ∃ C', at_L_readNumber_4 d v i C (rV C') ∧ CP n T C q true [w] p' C') ∧ (∀ N c, SN n T k N p c → 0 ≤ c → c ≤ p → ∃ N', at_M_isO_7 d v i N (rI 1 N') ∧ NP n T k N c true [w] p' N') := by
  intro m
  have stop : ∀ (i v p : Int), 0 ≤ v → v ≤ 9999 → 0 ≤ p → p ≤ n → (4 ≤ i ∨ ¬ (48 ≤ nxb n T p ∧ nxb n T p ≤ 57)) → ∃ w p' : Int, (p ≤ p' ∧ p' ≤ n) ∧ (0 ≤ w ∧ w ≤ 9999) ∧ (i < 4 → 48 ≤ nxb n T p ∧ nxb n T p ≤ 57 → p + 1 ≤ p') ∧ (∀ C q, SC n T C p q → 0 ≤ q → q ≤ 2 * p → ∃ C', at_L_readNumber_4 d v i C (rV C') ∧ CP n T C q true [w] p' C') ∧ (∀ N c, SN n T k N p c → 0 ≤ c → c ≤ p → ∃ N', at_M_isO_7 d v i N (rI 1 N') ∧ NP n T k N c true [w] p' N') := fun i v p v0 v9 p0 pn hs => by
    refine ⟨v, p, ⟨Int.le_refl _, pn⟩, ⟨v0, v9⟩, fun h1 h2 => absurd h2 (hs.resolve_left (by omega)), fun C q hC q0 q2 => ?_, fun N c hN c0 cp => ?_⟩
    · obtain ⟨C2, x, cp⟩ := CP_emit (cs := []) (C1 := C) (v := v) (T := T) (n := n) (p := p) q0 ⟨To.refl _ C, fun _ => ⟨by simpa using hC, trivial⟩, fun e => by cases e⟩ (by simp; omega) (show 1 ≤ d by omega)
      exact ⟨C2, sg_L_readNumber_4 (ite_i (fun _ => ⟨C2, x, rfl⟩) (fun t => ⟨_, c_L_next hC p0 n120 (by omega), _, c_L_isDigit (by omega), ite_b (fun _ => ⟨C2, x, rfl⟩) (fun y => absurd y (hs.resolve_left t))⟩)), cp⟩
    · obtain ⟨N2, x, np⟩ := NP_emit (cs := []) (N1 := N) (v := v) (T := T) (n := n) (k := k) (p := p) c0 ⟨To.refl _ N, fun _ => ⟨by simpa using hN, trivial⟩, fun e => by cases e⟩ (by simp; omega) (show 1 ≤ d by omega)
      have ph : w32 (18 + v) = phi v := by rw [phi_num v0, w32_i (by omega) (by omega)]; omega
      refine ⟨N2, sg_M_isO_7 ?_, np⟩
      rw [ph]
      exact ite_i (fun _ => ⟨1, N2, x, Or.inr rfl, rfl⟩) (fun t => ⟨_, c_M_isDigit hN p0 n120 hd, ite_b (fun _ => ⟨1, N2, x, Or.inr rfl, rfl⟩) (fun y => absurd y (hs.resolve_left t))⟩)
  induction m with
  | zero =>
    intro i v p hi i0 v0 hv p0 pn
    exact stop i v p v0 (by simp at hv; omega) p0 pn (Or.inl (by omega))
  | succ m ih =>
    intro i v p hi i0 v0 hv p0 pn
    have pw : (1 : Int) ≤ 10 ^ m := by
      have : (0 : Int) < 10 ^ m := Int.pow_pos (by decide)
      omega
    have hv2 : (v + 1) * 10 * 10 ^ m ≤ 10000 := by
      rw [Int.pow_succ, ← Int.mul_assoc, Int.mul_right_comm] at hv
      exact hv
    have v9 : v ≤ 999 := by
      have := Int.mul_le_mul_of_nonneg_left pw (show 0 ≤ (v + 1) * 10 by omega)
      omega
    by_cases g : 48 ≤ nxb n T p ∧ nxb n T p ≤ 57
    · have pl : p < n := by
        refine Classical.byContradiction fun t => ?_
        unfold nxb at g
        rw [if_neg t] at g
        omega
      have ex : nxb n T p = T p := if_pos pl
      obtain ⟨w, p', ⟨r1, r2⟩, wr, -, hX, hM⟩ := ih (i + 1) (10 * v + nxb n T p - 48) (p + 1) (by omega) (by omega) (by omega) (by
        have := Int.mul_le_mul_of_nonneg_right (show 10 * v + nxb n T p - 48 + 1 ≤ (v + 1) * 10 by omega) (show (0 : Int) ≤ 10 ^ m by omega)
        omega) (by omega) (by omega)
      have wv : w32 (w32 (w32 (10 * v) + nxb n T p) - 48) = 10 * v + nxb n T p - 48 := by rw [w32_i (x := 10 * v) (by omega) (by omega), w32_i (x := 10 * v + nxb n T p) (by omega) (by omega), w32_i (by omega) (by omega)]
      have wi : w32 (i + 1) = i + 1 := w32_i (by omega) (by omega)
      refine ⟨w, p', ⟨by omega, r2⟩, wr, fun _ _ => r1, fun C q hC q0 q2 => ?_, fun N c hN c0 cp => ?_⟩
      · obtain ⟨C', x, t, ok, -⟩ := hX _ q hC.on q0 (by omega)
        refine ⟨C', sg_L_readNumber_4 (ite_i (fun t => absurd t (by omega)) (fun _ => ⟨_, c_L_next hC p0 n120 (by omega), _, c_L_isDigit (by omega), ite_b (fun y => absurd g y) (fun _ => ⟨_, c_L_next hC p0 n120 (by omega), ?_⟩)⟩)), ((To.refl _ C).upd (by unfold LX; omega)).trans t, ok, fun e => by cases e⟩
        rw [wv, wi, hC.2.1, w32_i (x := p + 1) (by omega) (by omega)]
        exact x
      · obtain ⟨N', x, t, ok, -⟩ := hM _ c hN.on c0 (by omega)
        refine ⟨N', sg_M_isO_7 (ite_i (fun t => absurd t (by omega)) (fun _ => ⟨_, c_M_isDigit hN p0 n120 hd, ite_b (fun y => absurd g y) (fun _ => ?_)⟩)), ((To.refl _ N).upd (by unfold MX; omega)).trans t, ok, fun e => by cases e⟩
        rw [hN.2.1, hN.2.2.2.2 p p0 pl, ← ex, wv, wi, w32_i (x := p + 1) (by omega) (by omega)]
        exact ⟨⟨p0, by omega⟩, x⟩
    · exact stop i v p v0 (by omega) p0 pn (Or.inr g)
end P55
