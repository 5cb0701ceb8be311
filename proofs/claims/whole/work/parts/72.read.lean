/-! the layer O of the reader, and the tower of all layers */ -/
section P56
variable {M N C : Mem} {n k q c v x : Int} {T : Int → Int} {d : Nat}
theorem NP_close {b : Bool} {cs : List Int} {N1 N2 : Mem} {p : Int} (k0 : 0 ≤ k) (k6 : k ≤ 6) (h1 : To (MX c) N N1) (h : NP n T (k + 1) N1 c b cs p N2) : NP n T k N c b cs p (up N2 64 14 (w32 (N2 64 14 - 1))) := by
  obtain ⟨t, ok, bad⟩ := h
  refine ⟨(h1.trans t).upd (by unfold MX; omega), fun e => ?_, fun e => by rw [up_n (by omega)]; exact bad e⟩
  obtain ⟨s, a⟩ := ok e
  have e14 : w32 (N2 64 14 - 1) = k := by rw [s.2.2.2.1, w32_i (by omega) (by omega)]; omega
  rw [e14]
  refine ⟨s.at (up_n (by omega)) (funext fun j => up_n (by omega)) (by rw [up_n (by omega)]; exact s.2.1) (by rw [up_n (by omega)]; exact s.2.2.1) up_eq, ?_⟩
  have e : up N2 64 14 k 76 = N2 76 := funext fun j => up_n (by omega)
  rw [e]; exact a
theorem HG_una {cs : List Int} (h1 : HG1 cs) (hv : v = -33 ∨ v = -126) : HG1 (cs ++ [v]) := fun h => by
  rw [hg_app, h1 h]
  show hg [v] (h + 1) = _
  unfold hg
  rw [if_neg (by omega), if_pos hv, if_pos (by omega)]
  rfl
theorem HG_num (h : -6 ≤ v ∧ v ≤ 9999) : HG1 [v] := fun g => by
  unfold hg
  rw [if_pos h]
  rfl
set_option maxHeartbeats 1000000 in
theorem lay_O (n120 : n ≤ 120) (hT : ∀ i : Int, 0 ≤ i → i < n → 0 ≤ T i ∧ T i ≤ 255) (hd : 3 ≤ d) (k0 : 0 ≤ k) (k6 : k ≤ 6) (hE : k < 6 → ∀ p, 0 ≤ p → p ≤ n → PRO n T (k + 1) m_L_readE m_M_isE d p) (hO : k < 6 → ∀ p, 0 ≤ p → p ≤ n → PRO n T (k + 1) m_L_readO m_M_isO d p) : ∀ p, 0 ≤ p → p ≤ n → PRO n T k m_L_readO m_M_isO (d + 2) p := by
  intro p p0 pn
  have wk : w32 (k + 1) = k + 1 := w32_i (by omega) (by omega)
  by_cases g : 48 ≤ nxb n T p ∧ nxb n T p ≤ 57
  · obtain ⟨w, p', ⟨r1, r2⟩, wr, r3, hX, hM⟩ := num_two (k := k) (d := d) n120 hT (by omega) 4 0 0 p (by decide) (by decide) (by decide) (by decide) p0 pn
    have r3 := r3 (by decide) g
    refine ⟨true, [w], p', ⟨r1, r2⟩, fun _ => ⟨r3, by simp; omega, HG_num (by omega)⟩, fun C q hC q0 q2 => ?_, fun N c hN c0 cp => ?_⟩
    · obtain ⟨C', x, cp⟩ := hX C q hC q0 q2
      exact ⟨C', sg_L_readO (d := d + 1) ⟨_, c_L_next hC p0 n120 (by omega), _, c_L_isDigit (by omega), ite_b (fun t => absurd g t) (fun _ => ⟨C', sg_L_readNumber x, rfl⟩)⟩, cp⟩
    · obtain ⟨N', x, np⟩ := hM N c hN c0 cp
      exact ⟨N', (sg_M_isO (d := d) ⟨_, c_M_isDigit hN p0 n120 (by omega), ite_b (fun t => absurd g t) (fun _ => x)⟩).mono (by omega), np⟩
  have n5 := NMv_rng (v := nxb n T p)
  -- the class and the model when it is no digit
  have rX : ∀ {C : Mem} {q : Int} {r : Res}, SC n T C p q → (if NMv (nxb n T p) < 0 then (if nxb n T p = 40 ∨ nxb n T p = 33 ∨ nxb n T p = 45 then (if 6 ≤ k then r = rV (up C 31 9 p) else ∃ M14, Cl (d + 1) m_L_readOpened [(2, 31), (0, nxb n T p), (0, k + 1)] (up C 31 8 (p + 1)) (rV M14) ∧ r = rV M14) else r = rV (up C 31 9 p)) else ∃ M32, Cl (d + 1) m_L_emit [(2, 31), (0, w32 ((-1) - NMv (nxb n T p)))] (up C 31 8 (w32 (p + 1))) (rV M32) ∧ r = rV M32) → Cl (d + 2) m_L_readO [(2, 31), (0, k)] C r := fun {C q r} hC hv => by
    have fl := c_L_fail (C := C) (p := p) (d := d + 1) hC.2.2.1 hC.2.1 (by omega)
    refine sg_L_readO (d := d + 1) ⟨_, c_L_next hC p0 n120 (by omega), _, c_L_isDigit (by omega), ite_b (fun _ => ⟨_, c_L_nameIndex (by omega), ite_i (fun t => ?_) (fun t => ?_)⟩) (fun t => absurd t g)⟩
    · rw [if_pos t] at hv
      have pw : nxb n T p = 40 ∨ nxb n T p = 33 ∨ nxb n T p = 45 → w32 (C 31 8 + 1) = p + 1 := fun h => by rw [hC.2.1]; exact w32_i (by omega) (by omega)
      rw [wk]
      refine ite_i (fun q0 => ?_) (fun q0 => ite_i (fun q1 => ?_) (fun q1 => ite_i (fun q2 => ?_) (fun q2 => ?_)))
      · rw [if_pos (Or.inl q0)] at hv
        rw [pw (Or.inl q0)]
        refine ite_i (fun y => ?_) (fun y => ?_)
        · rw [if_pos y] at hv; exact ⟨_, fl, hv⟩
        · rw [if_neg y] at hv; exact hv
      · rw [if_pos (Or.inr (Or.inl q1))] at hv
        rw [pw (Or.inr (Or.inl q1))]
        refine ite_i (fun y => ?_) (fun y => ?_)
        · rw [if_pos y] at hv; exact ⟨_, fl, hv⟩
        · rw [if_neg y] at hv; exact hv
      · rw [if_neg (fun y => y.elim q0 (fun y => y.elim q1 q2))] at hv
        exact ⟨_, fl, hv⟩
      · have q2 := Classical.not_not.mp q2
        rw [if_pos (Or.inr (Or.inr q2))] at hv
        rw [pw (Or.inr (Or.inr q2))]
        refine ite_i (fun y => ?_) (fun y => ?_)
        · rw [if_pos y] at hv; exact ⟨_, fl, hv⟩
        · rw [if_neg y] at hv; exact hv
    · rw [if_neg t] at hv
      rw [hC.2.1]
      exact ⟨_, c_L_nameIndex (by omega), hv⟩
  by_cases nm : NMv (nxb n T p) < 0
  rotate_left
  · -- a name
    have pl : p < n := by
      refine Classical.byContradiction fun t => nm ?_
      have e : nxb n T p = -1 := if_neg t
      rw [e]; decide +kernel
    have ph : phi (-1 - NMv (nxb n T p)) = NMv (nxb n T p) := by rw [phi_name (by omega) (by omega)]; omega
    refine ⟨true, [-1 - NMv (nxb n T p)], p + 1, ⟨by omega, by omega⟩, fun _ => ⟨by omega, by simp only [List.length_cons, List.length_nil]; omega, HG_num (by omega)⟩, fun C q hC q0 q2 => ?_, fun N c hN c0 cp => ?_⟩
    · obtain ⟨C2, x, cp⟩ := CP_emit (C := C) (q := q) (cs := []) (C1 := up C 31 8 (p + 1)) (v := -1 - NMv (nxb n T p)) (T := T) (n := n) (p := p + 1) q0 ⟨(To.refl _ C).upd (by unfold LX; omega), fun _ => ⟨by simpa using hC.on, trivial⟩, fun e => by cases e⟩ (by simp; omega) (show 1 ≤ d + 1 by omega)
      refine ⟨C2, rX hC ?_, cp⟩
      rw [if_neg nm, w32_i (x := p + 1) (by omega) (by omega), w32_i (x := (-1) - NMv (nxb n T p)) (by omega) (by omega)]
      exact ⟨C2, x, rfl⟩
    · obtain ⟨N2, x, np⟩ := NP_emit (N := N) (c := c) (cs := []) (N1 := up N 64 13 (p + 1)) (v := -1 - NMv (nxb n T p)) (T := T) (n := n) (k := k) (p := p + 1) c0 ⟨(To.refl _ N).upd (by unfold MX; omega), fun _ => ⟨by simpa using hN.on, trivial⟩, fun e => by cases e⟩ (by simp; omega) (show 1 ≤ d by omega)
      rw [ph] at x
      refine ⟨N2, (sg_M_isO (d := d) ⟨_, c_M_isDigit hN p0 n120 (by omega), ite_b (fun _ => ⟨_, c_M_sign hN p0 n120 (by omega), _, c_M_nameOf (by omega), ite_i (fun t => absurd t nm) (fun _ => ?_)⟩) (fun t => absurd t g)⟩).mono (by omega), np⟩
      rw [hN.2.1, w32_i (x := p + 1) (by omega) (by omega)]
      exact ⟨1, N2, x, Or.inr rfl, rfl⟩
  -- the model when it is an opening
  have badOut : (¬ (nxb n T p = 40 ∨ nxb n T p = 33 ∨ nxb n T p = 45) ∨ 6 ≤ k) → (∀ N c, SN n T k N p c → ∃ N', Cl (d + 1) m_M_isO [(2, 64)] N (rI 0 N') ∧ To (MX c) N N' ∧ N' 64 13 = p) → PRO n T k m_L_readO m_M_isO (d + 2) p := fun hb hm => by
    refine ⟨false, [], p, ⟨Int.le_refl _, pn⟩, fun e => (by cases e), fun C q hC q0 q2 => ⟨up C 31 9 p, rX hC ?_, (To.refl _ C).upd (by unfold LX; omega), fun e => (by cases e), fun _ => ⟨up_eq, by rw [up_n (by omega), hC.2.2.2.1]; exact Int.le_refl _⟩⟩, fun N c hN c0 cp => ?_⟩
    · rw [if_pos nm]
      rcases hb with hb | hb
      · rw [if_neg hb]
      · exact ite_i (fun _ => ite_i (fun _ => rfl) (fun t => absurd hb t)) (fun _ => rfl)
    · obtain ⟨N', x, t, e⟩ := hm N c hN
      exact ⟨N', x.mono (by omega), t, fun e => (by cases e), fun _ => e⟩
  have rM : ∀ {N : Mem} {c : Int} {r : Res}, SN n T k N p c → (if ¬ k = 6 then ∃ v11 M12, Cl d m_M_is [(2, 64), (0, 33)] (up N 64 14 (k + 1)) (some (0, v11), M12) ∧ (if v11 = 0 then ∃ v15 M16, Cl d m_M_is [(2, 64), (0, 45)] M12 (some (0, v15), M16) ∧ (if v15 = 0 then ∃ v19 M20, Cl d m_M_is [(2, 64), (0, 40)] M16 (some (0, v19), M20) ∧ (if v19 = 0 then r = (some (0, 0), up M20 64 14 (w32 ((M20 64 14) - 1))) else ∃ v23 M24, Cl d m_M_isE [(2, 64)] M20 (some (0, v23), M24) ∧ (if v23 = 0 then r = (some (0, 0), up M24 64 14 (w32 ((M24 64 14) - 1))) else ∃ v27 M28, Cl d m_M_is [(2, 64), (0, 41)] M24 (some (0, v27), M28) ∧ (if v27 = 0 then r = (some (0, 0), up M28 64 14 (w32 ((M28 64 14) - 1))) else r = (some (0, 1), up M28 64 14 (w32 ((M28 64 14) - 1)))))) else ∃ v31 M32, Cl d m_M_isO [(2, 64)] M16 (some (0, v31), M32) ∧ (if v31 = 0 then r = (some (0, 0), up M32 64 14 (w32 ((M32 64 14) - 1))) else ∃ v35 M36, Cl d m_M_codes [(2, 64), (0, 17)] M32 (some (0, v35), M36) ∧ (if v35 = 0 then r = (some (0, 0), up M36 64 14 (w32 ((M36 64 14) - 1))) else r = (some (0, 1), up M36 64 14 (w32 ((M36 64 14) - 1)))))) else ∃ v39 M40, Cl d m_M_isO [(2, 64)] M12 (some (0, v39), M40) ∧ (if v39 = 0 then r = (some (0, 0), up M40 64 14 (w32 ((M40 64 14) - 1))) else ∃ v43 M44, Cl d m_M_codes [(2, 64), (0, 16)] M40 (some (0, v43), M44) ∧ (if v43 = 0 then r = (some (0, 0), up M44 64 14 (w32 ((M44 64 14) - 1))) else r = (some (0, 1), up M44 64 14 (w32 ((M44 64 14) - 1)))))) else r = (some (0, 0), N)) → Cl (d + 1) m_M_isO [(2, 64)] N r := fun {N c r} hN hv => by
    refine sg_M_isO (d := d) ⟨_, c_M_isDigit hN p0 n120 (by omega), ite_b (fun _ => ⟨_, c_M_sign hN p0 n120 (by omega), _, c_M_nameOf (by omega), ite_i (fun _ => ?_) (fun t => absurd nm t)⟩) (fun t => absurd t g)⟩
    rw [hN.2.2.2.1, wk]
    exact hv
  by_cases kk : k = 6
  · exact badOut (Or.inr (by omega)) (fun N c hN => ⟨N, rM hN (by rw [if_neg (fun t => t kk)]), To.refl _ N, hN.2.1⟩)
  have k5 : k < 6 := by omega
  by_cases hop : nxb n T p = 40 ∨ nxb n T p = 33 ∨ nxb n T p = 45
  rotate_left
  · refine badOut (Or.inl hop) (fun N c hN => ?_)
    have s1 := hN.opn (k + 1)
    refine ⟨_, rM hN (ite_i (fun _ => ⟨0, _, c_M_is_f s1 p0 n120 (fun t => hop (Or.inr (Or.inl t))) (by omega), ite_i (fun _ => ⟨0, _, c_M_is_f s1 p0 n120 (fun t => hop (Or.inr (Or.inr t))) (by omega), ite_i (fun _ => ⟨0, _, c_M_is_f s1 p0 n120 (fun t => hop (Or.inl t)) (by omega), ite_i (fun _ => rfl) (fun t => absurd rfl t)⟩) (fun t => absurd rfl t)⟩) (fun t => absurd rfl t)⟩) (fun t => absurd kk t)), ((To.refl _ N).upd (by unfold MX; omega)).upd (by unfold MX; omega), by rw [up_n (by omega), up_n (by omega)]; exact hN.2.1⟩
  have pl : p < n := by
    refine Classical.byContradiction fun t => ?_
    unfold nxb at hop
    rw [if_neg t] at hop
    omega
  have oX : ∀ {C : Mem} {q : Int} {r : Res}, SC n T C p q → (∃ M14, Cl (d + 1) m_L_readOpened [(2, 31), (0, nxb n T p), (0, k + 1)] (up C 31 8 (p + 1)) (rV M14) ∧ r = rV M14) → Cl (d + 2) m_L_readO [(2, 31), (0, k)] C r := fun {C q r} hC hv => rX hC (by rw [if_pos nm, if_pos hop, if_neg (by omega)]; exact hv)
  by_cases h40 : nxb n T p = 40
  · -- ( E )
    obtain ⟨b, cs, p1, ⟨r1, r2⟩, ok, hX, hM⟩ := hE k5 (p + 1) (by omega) (by omega)
    -- the model's way to E
    have mIn : ∀ {N : Mem} {c : Int} {r : Res}, SN n T k N p c → (∃ v23 M24, Cl d m_M_isE [(2, 64)] (up (up N 64 14 (k + 1)) 64 13 (p + 1)) (some (0, v23), M24) ∧ (if v23 = 0 then r = (some (0, 0), up M24 64 14 (w32 ((M24 64 14) - 1))) else ∃ v27 M28, Cl d m_M_is [(2, 64), (0, 41)] M24 (some (0, v27), M28) ∧ (if v27 = 0 then r = (some (0, 0), up M28 64 14 (w32 ((M28 64 14) - 1))) else r = (some (0, 1), up M28 64 14 (w32 ((M28 64 14) - 1)))))) → Cl (d + 1) m_M_isO [(2, 64)] N r := fun {N c r} hN hv => by
      have s1 := hN.opn (k + 1)
      exact rM hN (ite_i (fun _ => ⟨0, _, c_M_is_f s1 p0 n120 (by rw [h40]; decide) (by omega), ite_i (fun _ => ⟨0, _, c_M_is_f s1 p0 n120 (by rw [h40]; decide) (by omega), ite_i (fun _ => ⟨1, _, c_M_is_t s1 p0 pn n120 h40 (by omega), ite_i (fun t => absurd t (by decide)) (fun _ => hv)⟩) (fun t => absurd rfl t)⟩) (fun t => absurd rfl t)⟩) (fun t => absurd kk t))
    have tN : ∀ {N : Mem} {c : Int}, To (MX c) N (up (up N 64 14 (k + 1)) 64 13 (p + 1)) := fun {N c} => ((To.refl _ N).upd (by unfold MX; omega)).upd (by unfold MX; omega)
    cases b with
    | false =>
      refine ⟨false, [], p1, ⟨by omega, r2⟩, fun e => (by cases e), fun C q hC q0 q2 => ?_, fun N c hN c0 cp => ?_⟩
      · obtain ⟨C1, x1, t1, -, bad⟩ := hX _ q hC.on q0 (by omega)
        obtain ⟨f1, f2⟩ := bad rfl
        have fl : ¬ C1 31 9 = -1 := by omega
        exact ⟨C1, oX hC ⟨C1, sg_L_readOpened (ite_i (fun _ => ⟨C1, x1, _, c_L_nextF fl (by omega), ite_i (fun _ => ⟨C1, c_L_failF fl (by omega), rfl⟩) (fun t => absurd (by decide) t)⟩) (fun t => absurd h40 t)), rfl⟩, ((To.refl _ C).upd (by unfold LX; omega)).trans t1, fun e => (by cases e), fun _ => ⟨f1, f2⟩⟩
      · obtain ⟨N1, x1, np1⟩ := hM _ c (hN.opn (k + 1)).on c0 (by omega)
        exact ⟨_, (mIn hN ⟨_, N1, x1, ite_i (fun _ => rfl) (fun t => absurd rfl t)⟩).mono (by omega), NP_F (NP_close k0 k6 tN np1)⟩
    | true =>
      obtain ⟨o1, o2, o3⟩ := ok rfl
      by_cases cl : nxb n T p1 = 41
      · have pl1 : p1 < n := by
          refine Classical.byContradiction fun t => ?_
          unfold nxb at cl
          rw [if_neg t] at cl
          omega
        refine ⟨true, cs, p1 + 1, ⟨by omega, by omega⟩, fun _ => ⟨by omega, by omega, o3⟩, fun C q hC q0 q2 => ?_, fun N c hN c0 cp => ?_⟩
        · obtain ⟨C1, x1, t1, okC, -⟩ := hX _ q hC.on q0 (by omega)
          obtain ⟨sc, a1⟩ := okC rfl
          refine ⟨up C1 31 8 (p1 + 1), oX hC ⟨_, sg_L_readOpened (ite_i (fun _ => ⟨C1, x1, _, c_L_next sc (by omega) n120 (by omega), ite_i (fun t => absurd cl t) (fun _ => ?_)⟩) (fun t => absurd h40 t)), rfl⟩, (((To.refl _ C).upd (by unfold LX; omega)).trans t1).upd (by unfold LX; omega), fun _ => ⟨sc.on, ?_⟩, fun e => (by cases e)⟩
          · rw [sc.2.1, w32_i (x := p1 + 1) (by omega) (by omega)]
          · have e : up C1 31 8 (p1 + 1) 35 = C1 35 := funext fun j => up_n (by omega)
            rw [e]; exact a1
        · obtain ⟨N1, x1, t1, okN, -⟩ := hM _ c (hN.opn (k + 1)).on c0 (by omega)
          obtain ⟨sn, a1⟩ := okN rfl
          have np2 : NP n T (k + 1) (up (up N 64 14 (k + 1)) 64 13 (p + 1)) c true cs (p1 + 1) (up N1 64 13 (p1 + 1)) := ⟨t1.upd (by unfold MX; omega), fun _ => ⟨sn.on, by
            have e : up N1 64 13 (p1 + 1) 76 = N1 76 := funext fun j => up_n (by omega)
            rw [e]; exact a1⟩, fun e => (by cases e)⟩
          exact ⟨_, (mIn hN ⟨_, N1, x1, ite_i (fun t => absurd t (by decide)) (fun _ => ⟨1, _, c_M_is_t sn (by omega) (by omega) n120 cl (by omega), ite_i (fun t => absurd t (by decide)) (fun _ => rfl)⟩)⟩).mono (by omega), NP_close k0 k6 tN np2⟩
      · refine ⟨false, [], p1, ⟨by omega, r2⟩, fun e => (by cases e), fun C q hC q0 q2 => ?_, fun N c hN c0 cp => ?_⟩
        · obtain ⟨C1, x1, t1, okC, -⟩ := hX _ q hC.on q0 (by omega)
          obtain ⟨sc, a1⟩ := okC rfl
          exact ⟨up C1 31 9 p1, oX hC ⟨_, sg_L_readOpened (ite_i (fun _ => ⟨C1, x1, _, c_L_next sc (by omega) n120 (by omega), ite_i (fun _ => ⟨_, c_L_fail sc.2.2.1 sc.2.1 (by omega), rfl⟩) (fun t => absurd (Classical.not_not.mp t) cl)⟩) (fun t => absurd h40 t)), rfl⟩, (((To.refl _ C).upd (by unfold LX; omega)).trans t1).upd (by unfold LX; omega), fun e => (by cases e), fun _ => ⟨up_eq, by rw [up_n (by omega), sc.2.2.2.1]; omega⟩⟩
        · obtain ⟨N1, x1, t1, okN, -⟩ := hM _ c (hN.opn (k + 1)).on c0 (by omega)
          obtain ⟨sn, a1⟩ := okN rfl
          refine ⟨_, (mIn hN ⟨_, N1, x1, ite_i (fun t => absurd t (by decide)) (fun _ => ⟨0, _, c_M_is_f sn (by omega) n120 cl (by omega), ite_i (fun _ => rfl) (fun t => absurd rfl t)⟩)⟩).mono (by omega), (tN.trans t1).upd (by unfold MX; omega), fun e => (by cases e), fun _ => by rw [up_n (by omega)]; exact sn.2.1⟩
  · -- ! O, - O
    obtain ⟨cd, hcd⟩ : ∃ cd : Int, (if nxb n T p = 33 then -33 else -126) = cd := ⟨_, rfl⟩
    have cdu : cd = -33 ∨ cd = -126 := by
      by_cases h33 : nxb n T p = 33
      · rw [if_pos h33] at hcd; exact Or.inl hcd.symm
      · rw [if_neg h33] at hcd; exact Or.inr hcd.symm
    obtain ⟨b, cs, p1, ⟨r1, r2⟩, ok, hX, hM⟩ := hO k5 (p + 1) (by omega) (by omega)
    have xIn : ∀ {C : Mem} {q : Int} {M10 M13 : Mem}, SC n T C p q → Cl d m_L_readO [(2, 31), (0, k + 1)] (up C 31 8 (p + 1)) (rV M10) → Cl d m_L_emit [(2, 31), (0, cd)] M10 (rV M13) → Cl (d + 2) m_L_readO [(2, 31), (0, k)] C (rV M13) := fun {C q M10 M13} hC a e => by
      refine oX hC ⟨M13, sg_L_readOpened (ite_i (fun t => absurd t h40) (fun _ => ⟨M10, a, ite_i (fun t => ⟨M13, ?_, rfl⟩) (fun t => ⟨M13, ?_, rfl⟩)⟩)), rfl⟩
      · rw [if_neg t] at hcd; rw [hcd]; exact e
      · rw [if_pos (Classical.not_not.mp t)] at hcd; rw [hcd]; exact e
    have mIn : ∀ {N : Mem} {c : Int} {r : Res}, SN n T k N p c → (∃ v31 M32, Cl d m_M_isO [(2, 64)] (up (up N 64 14 (k + 1)) 64 13 (p + 1)) (some (0, v31), M32) ∧ (if v31 = 0 then r = (some (0, 0), up M32 64 14 (w32 ((M32 64 14) - 1))) else ∃ v35 M36, Cl d m_M_codes [(2, 64), (0, phi cd)] M32 (some (0, v35), M36) ∧ (if v35 = 0 then r = (some (0, 0), up M36 64 14 (w32 ((M36 64 14) - 1))) else r = (some (0, 1), up M36 64 14 (w32 ((M36 64 14) - 1)))))) → Cl (d + 1) m_M_isO [(2, 64)] N r := fun {N c r} hN hv => by
      have s1 := hN.opn (k + 1)
      by_cases h33 : nxb n T p = 33
      · rw [if_pos h33] at hcd
        rw [← hcd, show phi (-33) = 16 by decide +kernel] at hv
        exact rM hN (ite_i (fun _ => ⟨1, _, c_M_is_t s1 p0 pn n120 h33 (by omega), ite_i (fun t => absurd t (by decide)) (fun _ => hv)⟩) (fun t => absurd kk t))
      · have h45 := (hop.resolve_left h40).resolve_left h33
        rw [if_neg h33] at hcd
        rw [← hcd, show phi (-126) = 17 by decide +kernel] at hv
        exact rM hN (ite_i (fun _ => ⟨0, _, c_M_is_f s1 p0 n120 h33 (by omega), ite_i (fun _ => ⟨1, _, c_M_is_t s1 p0 pn n120 h45 (by omega), ite_i (fun t => absurd t (by decide)) (fun _ => hv)⟩) (fun t => absurd rfl t)⟩) (fun t => absurd kk t))
    have tN : ∀ {N : Mem} {c : Int}, To (MX c) N (up (up N 64 14 (k + 1)) 64 13 (p + 1)) := fun {N c} => ((To.refl _ N).upd (by unfold MX; omega)).upd (by unfold MX; omega)
    cases b with
    | false =>
      refine ⟨false, [], p1, ⟨by omega, r2⟩, fun e => (by cases e), fun C q hC q0 q2 => ?_, fun N c hN c0 cp => ?_⟩
      · obtain ⟨C1, x1, cp1⟩ := hX _ q hC.on q0 (by omega)
        obtain ⟨C2, x2, cp2⟩ := CP_emitF (v := cd) q0 (by omega) cp1 (show 1 ≤ d by omega)
        have := cp2 []
        exact ⟨C2, xIn hC x1 x2, ((To.refl _ C).upd (by unfold LX; omega)).trans this.1, this.2⟩
      · obtain ⟨N1, x1, np1⟩ := hM _ c (hN.opn (k + 1)).on c0 (by omega)
        exact ⟨_, (mIn hN ⟨_, N1, x1, ite_i (fun _ => rfl) (fun t => absurd rfl t)⟩).mono (by omega), NP_F (NP_close k0 k6 tN np1)⟩
    | true =>
      obtain ⟨o1, o2, o3⟩ := ok rfl
      have l : ((cs ++ [cd]).length : Int) = cs.length + 1 := by simp
      refine ⟨true, cs ++ [cd], p1, ⟨by omega, r2⟩, fun _ => ⟨by omega, by rw [l]; omega, HG_una o3 cdu⟩, fun C q hC q0 q2 => ?_, fun N c hN c0 cp => ?_⟩
      · obtain ⟨C1, x1, cp1⟩ := hX _ q hC.on q0 (by omega)
        obtain ⟨C2, x2, cp2⟩ := CP_emit (v := cd) q0 cp1 (by omega) (show 1 ≤ d by omega)
        exact ⟨C2, xIn hC x1 x2, ((To.refl _ C).upd (by unfold LX; omega)).trans cp2.1, cp2.2⟩
      · obtain ⟨N1, x1, np1⟩ := hM _ c (hN.opn (k + 1)).on c0 (by omega)
        obtain ⟨N2, x2, np2⟩ := NP_emit (v := cd) c0 np1 (by omega) (show 1 ≤ d by omega)
        exact ⟨_, (mIn hN ⟨_, N1, x1, ite_i (fun t => absurd t (by decide)) (fun _ => ⟨_, N2, x2, ite_i (fun t => absurd t (by decide)) (fun _ => rfl)⟩)⟩).mono (by omega), NP_close k0 k6 tN np2⟩
end P56
