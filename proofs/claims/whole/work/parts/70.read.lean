/-! the layers P, S, B, A, E of the reader */ -/
section P54
variable {M N C : Mem} {n k q c v x : Int} {T : Int → Int} {d : Nat}
theorem CP_app {cs1 cs2 : List Int} {C1 C3 : Mem} {p2 : Int} {b : Bool} (q0 : 0 ≤ q) (h1 : To (LX q) C C1) (a1 : At (C1 35) q cs1) (h3 : CP n T C1 (q + cs1.length) b cs2 p2 C3) : CP n T C q b (cs1 ++ cs2) p2 C3 := by
  obtain ⟨t3, ok, bad⟩ := h3
  have l : ((cs1 ++ cs2).length : Int) = cs1.length + cs2.length := by simp
  refine ⟨h1.trans (t3.wk (LX_le (by omega))), fun e => ?_, fun e => ?_⟩
  · obtain ⟨s, a3⟩ := ok e
    rw [l, show q + ((cs1.length : Int) + cs2.length) = q + cs1.length + cs2.length by omega]
    exact ⟨s, At_app.mpr ⟨At_congr (fun i i0 i1 => t3 35 i (by unfold LX; omega)) a1, a3⟩⟩
  · obtain ⟨e1, e2⟩ := bad e
    exact ⟨e1, by omega⟩
theorem NP_app {cs1 cs2 : List Int} {N1 N3 : Mem} {p2 : Int} {b : Bool} (c0 : 0 ≤ c) (h1 : To (MX c) N N1) (a1 : At (N1 76) c (cs1.map phi)) (h3 : NP n T k N1 (c + cs1.length) b cs2 p2 N3) : NP n T k N c b (cs1 ++ cs2) p2 N3 := by
  obtain ⟨t3, ok, bad⟩ := h3
  have l : ((cs1 ++ cs2).length : Int) = cs1.length + cs2.length := by simp
  refine ⟨h1.trans (t3.wk (MX_le (by omega))), fun e => ?_, bad⟩
  obtain ⟨s, a3⟩ := ok e
  rw [l, show c + ((cs1.length : Int) + cs2.length) = c + cs1.length + cs2.length by omega]
  refine ⟨s, ?_⟩
  rw [List.map_append]
  refine At_app.mpr ⟨At_congr (fun i i0 i1 => ?_) a1, ?_⟩
  · rw [List.length_map] at i1
    exact t3 76 i (by unfold MX; omega)
  · rw [List.length_map]; exact a3
/-- a code told behind -/
theorem CP_emit {cs : List Int} {C1 : Mem} {p : Int} (q0 : 0 ≤ q) (h : CP n T C q true cs p C1) (l : q + cs.length < 256) (hd : 1 ≤ d) : ∃ C2, Cl d m_L_emit [(2, 31), (0, v)] C1 (rV C2) ∧ CP n T C q true (cs ++ [v]) p C2 := by
  obtain ⟨t, ok, -⟩ := h
  obtain ⟨s, a⟩ := ok rfl
  refine ⟨_, c_L_emit s.2.2.2.1 (by omega) l hd, CP_app q0 t a ⟨((To.refl _ C1).upd (by unfold LX; omega)).upd (by unfold LX; omega), fun _ => ⟨s.at (by rw [up_n (by omega), up_n (by omega)]) (by rw [up_n (by omega), up_n (by omega)]) (funext fun j => by rw [up_n (by omega), up_n (by omega)]) (by rw [up_n (by omega), up_n (by omega)]; exact s.2.1) (by rw [up_eq]; rfl), by rw [up_n (by omega), up_eq], trivial⟩, fun e => by cases e⟩⟩
theorem NP_emit {cs : List Int} {N1 : Mem} {p : Int} (c0 : 0 ≤ c) (h : NP n T k N c true cs p N1) (l : c + cs.length < 200) (hd : 1 ≤ d) : ∃ N2, Cl d m_M_codes [(2, 64), (0, phi v)] N1 (rI 1 N2) ∧ NP n T k N c true (cs ++ [v]) p N2 := by
  obtain ⟨t, ok, -⟩ := h
  obtain ⟨s, a⟩ := ok rfl
  refine ⟨_, c_M_codes s.2.2.1 (by omega) l hd, NP_app c0 t a ⟨((To.refl _ N1).upd (by unfold MX; omega)).upd (by unfold MX; omega), fun _ => ⟨s.at (by rw [up_n (by omega), up_n (by omega)]) (funext fun j => by rw [up_n (by omega), up_n (by omega)]) (by rw [up_n (by omega), up_n (by omega)]; exact s.2.1) (by rw [up_n (by omega), up_eq]; rfl) (by rw [up_n (by omega), up_n (by omega)]; exact s.2.2.2.1), by rw [up_eq], trivial⟩, fun e => by cases e⟩⟩
theorem CP_emitF {cs : List Int} {C1 : Mem} {p : Int} (q0 : 0 ≤ q) (p0 : 0 ≤ p) (h : CP n T C q false cs p C1) (hd : 1 ≤ d) : ∃ C2, Cl d m_L_emit [(2, 31), (0, v)] C1 (rV C2) ∧ ∀ cs', CP n T C q false cs' p C2 := by
  obtain ⟨t, -, bad⟩ := h
  obtain ⟨f1, f2⟩ := bad rfl
  obtain ⟨C2, y1, y2, y3, y4⟩ := c_L_emitF (v := v) q0 f2 hd
  exact ⟨C2, y1, fun cs' => ⟨t.trans y2, fun e => (by cases e), fun _ => ⟨by rw [y3]; exact f1, y4⟩⟩⟩
theorem CP_F {cs cs' : List Int} {C1 : Mem} {p : Int} (h : CP n T C q false cs p C1) : CP n T C q false cs' p C1 := ⟨h.1, fun e => (by cases e), h.2.2⟩
theorem NP_F {cs cs' : List Int} {N1 : Mem} {p : Int} (h : NP n T k N c false cs p N1) : NP n T k N c false cs' p N1 := ⟨h.1, fun e => (by cases e), h.2.2⟩
theorem wneg {v : Int} (h : 0 ≤ v ∧ v ≤ 255) : w32 (-v) = -v := w32_i (by omega) (by omega)
abbrev PRO (n : Int) (T : Int → Int) (k : Int) (y z d : Nat) (p : Int) : Prop := PRG n T k HG1 (fun C r => Cl d y [(2, 31), (0, k)] C r) (fun N r => Cl d z [(2, 64)] N r) 1 p
theorem lay_P (n120 : n ≤ 120) (hd : 2 ≤ d) (hY : ∀ p, 0 ≤ p → p ≤ n → PRO n T k m_L_readO m_M_isO d p) : ∀ p, 0 ≤ p → p ≤ n → PRO n T k m_L_readP m_M_isP (d + 1) p := by
  have xFault : ∀ (C : Mem) (l2 : Int) (w3 : AV), ¬ C 31 9 = -1 → (fun l2 w3 C r => at_L_readP_5 d k l2 w3 C r) l2 w3 C (rV C) := fun C l2 w3 h => sg_L_readP_5 (ite_i (fun _ => rfl) (fun _ => ⟨_, c_L_nextF h (by omega), ite_i (fun q0 => absurd q0 (by decide)) (fun q0 => ⟨_, c_L_nextF h (by omega), ite_i (fun q1 => absurd q1 (by decide)) (fun q1 => ⟨_, c_L_nextF h (by omega), ite_i (fun q2 => rfl) (fun q2 => absurd (by decide) q2)⟩)⟩)⟩))
  have hL := loop_gen (n := n) (T := T) (k := k) (mY := m_L_readO) (mY' := m_M_isO) (ops := fun v => v = 42 ∨ v = 47 ∨ v = 37) (XL := (fun l2 w3 C r => at_L_readP_5 d k l2 w3 C r)) (ML := (fun w N r => at_M_isP_5 d w N r)) n120 hd ?_ (fun v => Classical.em _) ?_ xFault ?_ ?_ ?_ hY
  · intro p p0 pn
    refine full_gen (d := d) (XL := (fun l2 w3 C r => at_L_readP_5 d k l2 w3 C r)) (ML := (fun w N r => at_M_isP_5 d w N r)) p0 pn xFault (fun C r ⟨M2, a, b⟩ => sg_L_readP ⟨M2, a, b (3, 0)⟩) (fun N r ⟨v, M3, a, b⟩ => sg_M_isP ⟨v, M3, a, ?_⟩) (hY p p0 pn) (fun p p0 pn => hL (n - p).toNat p p0 pn (by omega))
    exact ite_i (fun q => by rw [if_pos q] at b; exact b (3, 0)) (fun q => by rw [if_neg q] at b; exact b)
  · intro v hv
    rcases hv with rfl | rfl | rfl <;> exact ⟨by decide, by unfold bop; decide⟩
  · intro C p q l2 w3 hC p0 h
    exact sg_L_readP_5 (ite_i (fun _ => rfl) (fun _ => ⟨_, c_L_next hC p0 n120 (by omega), ite_i (fun q0 => absurd (Or.inl q0) h) (fun q0 => ⟨_, c_L_next hC p0 n120 (by omega), ite_i (fun q1 => absurd (Or.inr (Or.inl q1)) h) (fun q1 => ⟨_, c_L_next hC p0 n120 (by omega), ite_i (fun q2 => rfl) (fun q2 => absurd (Or.inr (Or.inr (Classical.not_not.mp q2))) h)⟩)⟩)⟩))
  · intro C p q l2 w3 r hC p0 pn h l0 l1 hv
    obtain ⟨M8, a, M10, b, e⟩ := hv
    have wl : w32 (l2 + 1) = l2 + 1 := w32_i (by omega) (by omega)
    have wp : w32 (C 31 8 + 1) = p + 1 := by rw [hC.2.1]; exact w32_i (by omega) (by omega)
    have wv : w32 (-nxb n T p) = -nxb n T p := wneg (by rcases h with h | h | h <;> rw [h] <;> decide)
    refine sg_L_readP_5 (ite_i (fun t => absurd t (by omega)) (fun _ => ⟨_, c_L_next hC p0 n120 (by omega), ite_i (fun q0 => ⟨_, c_L_next hC p0 n120 (by omega), ?_⟩) (fun q0 => ⟨_, c_L_next hC p0 n120 (by omega), ite_i (fun q1 => ⟨_, c_L_next hC p0 n120 (by omega), ?_⟩) (fun q1 => ⟨_, c_L_next hC p0 n120 (by omega), ite_i (fun q2 => absurd h (by omega)) (fun q2 => ⟨_, c_L_next hC p0 n120 (by omega), ?_⟩)⟩)⟩)⟩))
    all_goals
      rw [wl, wp, wv]
      exact ⟨M8, a, M10, b, e _⟩
  · intro N p c w hN p0 h
    exact sg_M_isP_5 ⟨_, c_M_sign hN p0 n120 (by omega), ite_i (fun q0 => ⟨_, c_M_sign hN p0 n120 (by omega), ite_i (fun q1 => ⟨_, c_M_sign hN p0 n120 (by omega), ite_i (fun q2 => rfl) (fun q2 => absurd (Or.inr (Or.inr (Classical.not_not.mp q2))) h)⟩) (fun q1 => absurd (Or.inr (Or.inl (Classical.not_not.mp q1))) h)⟩) (fun q0 => absurd (Or.inl (Classical.not_not.mp q0)) h)⟩
  · intro N p c w r hN p0 pn h hv
    obtain ⟨v, M9, a, b⟩ := hv
    have wp : w32 (N 64 13 + 1) = p + 1 := by rw [hN.2.1]; exact w32_i (by omega) (by omega)
    have fin : ∀ cd : Int, phi (-nxb n T p) = cd → ∃ v M9, Cl d m_M_isO [(2, 64)] (up N 64 13 (w32 (N 64 13 + 1))) (rI v M9) ∧ (if ¬ v = 0 then ∃ v2 M13, Cl d m_M_codes [(2, 64), (0, cd)] M9 (rI v2 M13) ∧ at_M_isP_5 d (0, cd) M13 r else r = rI 0 M9) := fun cd hcd => by
      rw [wp, ← hcd]
      exact ⟨v, M9, a, ite_i (fun q => by rw [if_pos q] at b; obtain ⟨v2, M13, y, e⟩ := b; exact ⟨v2, M13, y, e _⟩) (fun q => by rw [if_neg q] at b; exact b)⟩
    exact sg_M_isP_5 ⟨_, c_M_sign hN p0 n120 (by omega), ite_i (fun q0 => ⟨_, c_M_sign hN p0 n120 (by omega), ite_i (fun q1 => ⟨_, c_M_sign hN p0 n120 (by omega), ite_i (fun q2 => absurd h (by omega)) (fun q2 => fin 15 (by rw [show nxb n T p = 37 from Classical.not_not.mp q2]; decide +kernel))⟩) (fun q1 => fin 14 (by rw [show nxb n T p = 47 from Classical.not_not.mp q1]; decide +kernel))⟩) (fun q0 => fin 13 (by rw [show nxb n T p = 42 from Classical.not_not.mp q0]; decide +kernel))⟩
theorem lay_S (n120 : n ≤ 120) (hd : 2 ≤ d) (hY : ∀ p, 0 ≤ p → p ≤ n → PRO n T k m_L_readP m_M_isP d p) : ∀ p, 0 ≤ p → p ≤ n → PRO n T k m_L_readS m_M_isS (d + 1) p := by
  have xFault : ∀ (C : Mem) (l2 : Int) (w3 : AV), ¬ C 31 9 = -1 → (fun l2 w3 C r => at_L_readS_5 d k l2 w3 C r) l2 w3 C (rV C) := fun C l2 w3 h => sg_L_readS_5 (ite_i (fun _ => rfl) (fun _ => ⟨_, c_L_nextF h (by omega), ite_i (fun q0 => absurd q0 (by decide)) (fun q0 => ⟨_, c_L_nextF h (by omega), ite_i (fun q1 => rfl) (fun q1 => absurd (by decide) q1)⟩)⟩))
  have hL := loop_gen (n := n) (T := T) (k := k) (mY := m_L_readP) (mY' := m_M_isP) (ops := fun v => v = 43 ∨ v = 45) (XL := (fun l2 w3 C r => at_L_readS_5 d k l2 w3 C r)) (ML := (fun w N r => at_M_isS_5 d w N r)) n120 hd ?_ (fun v => Classical.em _) ?_ xFault ?_ ?_ ?_ hY
  · intro p p0 pn
    refine full_gen (d := d) (XL := (fun l2 w3 C r => at_L_readS_5 d k l2 w3 C r)) (ML := (fun w N r => at_M_isS_5 d w N r)) p0 pn xFault (fun C r ⟨M2, a, b⟩ => sg_L_readS ⟨M2, a, b (3, 0)⟩) (fun N r ⟨v, M3, a, b⟩ => sg_M_isS ⟨v, M3, a, ?_⟩) (hY p p0 pn) (fun p p0 pn => hL (n - p).toNat p p0 pn (by omega))
    exact ite_i (fun q => by rw [if_pos q] at b; exact b (3, 0)) (fun q => by rw [if_neg q] at b; exact b)
  · intro v hv
    rcases hv with rfl | rfl <;> exact ⟨by decide, by unfold bop; decide⟩
  · intro C p q l2 w3 hC p0 h
    exact sg_L_readS_5 (ite_i (fun _ => rfl) (fun _ => ⟨_, c_L_next hC p0 n120 (by omega), ite_i (fun q0 => absurd (Or.inl q0) h) (fun q0 => ⟨_, c_L_next hC p0 n120 (by omega), ite_i (fun q1 => rfl) (fun q1 => absurd (Or.inr (Classical.not_not.mp q1)) h)⟩)⟩))
  · intro C p q l2 w3 r hC p0 pn h l0 l1 hv
    obtain ⟨M8, a, M10, b, e⟩ := hv
    have wl : w32 (l2 + 1) = l2 + 1 := w32_i (by omega) (by omega)
    have wp : w32 (C 31 8 + 1) = p + 1 := by rw [hC.2.1]; exact w32_i (by omega) (by omega)
    have wv : w32 (-nxb n T p) = -nxb n T p := wneg (by rcases h with h | h <;> rw [h] <;> decide)
    refine sg_L_readS_5 (ite_i (fun t => absurd t (by omega)) (fun _ => ⟨_, c_L_next hC p0 n120 (by omega), ite_i (fun q0 => ⟨_, c_L_next hC p0 n120 (by omega), ?_⟩) (fun q0 => ⟨_, c_L_next hC p0 n120 (by omega), ite_i (fun q1 => absurd h (by omega)) (fun q1 => ⟨_, c_L_next hC p0 n120 (by omega), ?_⟩)⟩)⟩))
    all_goals
      rw [wl, wp, wv]
      exact ⟨M8, a, M10, b, e _⟩
  · intro N p c w hN p0 h
    exact sg_M_isS_5 ⟨_, c_M_sign hN p0 n120 (by omega), ite_i (fun q0 => ⟨_, c_M_sign hN p0 n120 (by omega), ite_i (fun q1 => rfl) (fun q1 => absurd (Or.inr (Classical.not_not.mp q1)) h)⟩) (fun q0 => absurd (Or.inl (Classical.not_not.mp q0)) h)⟩
  · intro N p c w r hN p0 pn h hv
    obtain ⟨v, M9, a, b⟩ := hv
    have wp : w32 (N 64 13 + 1) = p + 1 := by rw [hN.2.1]; exact w32_i (by omega) (by omega)
    have fin : ∀ cd : Int, phi (-nxb n T p) = cd → ∃ v M9, Cl d m_M_isP [(2, 64)] (up N 64 13 (w32 (N 64 13 + 1))) (rI v M9) ∧ (if ¬ v = 0 then ∃ v2 M13, Cl d m_M_codes [(2, 64), (0, cd)] M9 (rI v2 M13) ∧ at_M_isS_5 d (0, cd) M13 r else r = rI 0 M9) := fun cd hcd => by
      rw [wp, ← hcd]
      exact ⟨v, M9, a, ite_i (fun q => by rw [if_pos q] at b; obtain ⟨v2, M13, y, e⟩ := b; exact ⟨v2, M13, y, e _⟩) (fun q => by rw [if_neg q] at b; exact b)⟩
    exact sg_M_isS_5 ⟨_, c_M_sign hN p0 n120 (by omega), ite_i (fun q0 => ⟨_, c_M_sign hN p0 n120 (by omega), ite_i (fun q1 => absurd h (by omega)) (fun q1 => fin 12 (by rw [show nxb n T p = 45 from Classical.not_not.mp q1]; decide +kernel))⟩) (fun q0 => fin 11 (by rw [show nxb n T p = 43 from Classical.not_not.mp q0]; decide +kernel))⟩
theorem lay_A (n120 : n ≤ 120) (hd : 2 ≤ d) (hY : ∀ p, 0 ≤ p → p ≤ n → PRO n T k m_L_readB m_M_isB d p) : ∀ p, 0 ≤ p → p ≤ n → PRO n T k m_L_readA m_M_isA (d + 1) p := by
  have xFault : ∀ (C : Mem) (l2 : Int) (w3 : AV), ¬ C 31 9 = -1 → (fun l2 _ C r => at_L_readA_5 d k l2 C r) l2 w3 C (rV C) := fun C l2 w3 h => sg_L_readA_5 (ite_i (fun _ => rfl) (fun _ => ⟨_, c_L_nextF h (by omega), ite_i (fun q0 => rfl) (fun q0 => absurd (by decide) q0)⟩))
  have hL := loop_gen (n := n) (T := T) (k := k) (mY := m_L_readB) (mY' := m_M_isB) (ops := fun v => v = 38) (XL := (fun l2 _ C r => at_L_readA_5 d k l2 C r)) (ML := (fun _ N r => at_M_isA_5 d N r)) n120 hd ?_ (fun v => Classical.em _) ?_ xFault ?_ ?_ ?_ hY
  · intro p p0 pn
    refine full_gen (d := d) (XL := (fun l2 _ C r => at_L_readA_5 d k l2 C r)) (ML := (fun _ N r => at_M_isA_5 d N r)) p0 pn xFault (fun C r ⟨M2, a, b⟩ => sg_L_readA ⟨M2, a, b (3, 0)⟩) (fun N r ⟨v, M3, a, b⟩ => sg_M_isA ⟨v, M3, a, ?_⟩) (hY p p0 pn) (fun p p0 pn => hL (n - p).toNat p p0 pn (by omega))
    exact ite_i (fun q => by rw [if_pos q] at b; exact b (3, 0)) (fun q => by rw [if_neg q] at b; exact b)
  · intro v hv
    subst hv
    exact ⟨by decide, by unfold bop; decide⟩
  · intro C p q l2 w3 hC p0 h
    exact sg_L_readA_5 (ite_i (fun _ => rfl) (fun _ => ⟨_, c_L_next hC p0 n120 (by omega), ite_i (fun q0 => rfl) (fun q0 => absurd (Classical.not_not.mp q0) h)⟩))
  · intro C p q l2 w3 r hC p0 pn h l0 l1 hv
    obtain ⟨M8, a, M10, b, e⟩ := hv
    have wl : w32 (l2 + 1) = l2 + 1 := w32_i (by omega) (by omega)
    have wp : w32 (C 31 8 + 1) = p + 1 := by rw [hC.2.1]; exact w32_i (by omega) (by omega)
    have wv : w32 (-nxb n T p) = -nxb n T p := wneg (by rw [h]; decide)
    refine sg_L_readA_5 (ite_i (fun t => absurd t (by omega)) (fun _ => ⟨_, c_L_next hC p0 n120 (by omega), ite_i (fun t => absurd h t) (fun _ => ?_)⟩))
    rw [wl, wp]
    rw [h] at b
    exact ⟨M8, a, M10, b, e w3⟩
  · intro N p c w hN p0 h
    exact sg_M_isA_5 ⟨0, N, c_M_is_f hN p0 n120 h (by omega), ite_i (fun _ => rfl) (fun t => absurd rfl t)⟩
  · intro N p c w r hN p0 pn h hv
    obtain ⟨v, M9, a, b⟩ := hv
    have e : phi (-nxb n T p) = 7 := by rw [h]; decide +kernel
    rw [e] at b
    exact sg_M_isA_5 ⟨1, _, c_M_is_t hN p0 (by omega) n120 h (by omega), ite_i (fun t => absurd t (by decide)) (fun _ => ⟨v, M9, a, ite_i (fun q => by rw [if_pos q] at b; obtain ⟨v2, M13, y, e⟩ := b; exact ⟨v2, M13, y, e w⟩) (fun q => by rw [if_neg q] at b; exact b)⟩)⟩
theorem lay_E (n120 : n ≤ 120) (hd : 2 ≤ d) (hY : ∀ p, 0 ≤ p → p ≤ n → PRO n T k m_L_readA m_M_isA d p) : ∀ p, 0 ≤ p → p ≤ n → PRO n T k m_L_readE m_M_isE (d + 1) p := by
  have xFault : ∀ (C : Mem) (l2 : Int) (w3 : AV), ¬ C 31 9 = -1 → (fun l2 _ C r => at_L_readE_5 d k l2 C r) l2 w3 C (rV C) := fun C l2 w3 h => sg_L_readE_5 (ite_i (fun _ => rfl) (fun _ => ⟨_, c_L_nextF h (by omega), ite_i (fun q0 => rfl) (fun q0 => absurd (by decide) q0)⟩))
  have hL := loop_gen (n := n) (T := T) (k := k) (mY := m_L_readA) (mY' := m_M_isA) (ops := fun v => v = 124) (XL := (fun l2 _ C r => at_L_readE_5 d k l2 C r)) (ML := (fun _ N r => at_M_isE_5 d N r)) n120 hd ?_ (fun v => Classical.em _) ?_ xFault ?_ ?_ ?_ hY
  · intro p p0 pn
    refine full_gen (d := d) (XL := (fun l2 _ C r => at_L_readE_5 d k l2 C r)) (ML := (fun _ N r => at_M_isE_5 d N r)) p0 pn xFault (fun C r ⟨M2, a, b⟩ => sg_L_readE ⟨M2, a, b (3, 0)⟩) (fun N r ⟨v, M3, a, b⟩ => sg_M_isE ⟨v, M3, a, ?_⟩) (hY p p0 pn) (fun p p0 pn => hL (n - p).toNat p p0 pn (by omega))
    exact ite_i (fun q => by rw [if_pos q] at b; exact b (3, 0)) (fun q => by rw [if_neg q] at b; exact b)
  · intro v hv
    subst hv
    exact ⟨by decide, by unfold bop; decide⟩
  · intro C p q l2 w3 hC p0 h
    exact sg_L_readE_5 (ite_i (fun _ => rfl) (fun _ => ⟨_, c_L_next hC p0 n120 (by omega), ite_i (fun q0 => rfl) (fun q0 => absurd (Classical.not_not.mp q0) h)⟩))
  · intro C p q l2 w3 r hC p0 pn h l0 l1 hv
    obtain ⟨M8, a, M10, b, e⟩ := hv
    have wl : w32 (l2 + 1) = l2 + 1 := w32_i (by omega) (by omega)
    have wp : w32 (C 31 8 + 1) = p + 1 := by rw [hC.2.1]; exact w32_i (by omega) (by omega)
    have wv : w32 (-nxb n T p) = -nxb n T p := wneg (by rw [h]; decide)
    refine sg_L_readE_5 (ite_i (fun t => absurd t (by omega)) (fun _ => ⟨_, c_L_next hC p0 n120 (by omega), ite_i (fun t => absurd h t) (fun _ => ?_)⟩))
    rw [wl, wp]
    rw [h] at b
    exact ⟨M8, a, M10, b, e w3⟩
  · intro N p c w hN p0 h
    exact sg_M_isE_5 ⟨0, N, c_M_is_f hN p0 n120 h (by omega), ite_i (fun _ => rfl) (fun t => absurd rfl t)⟩
  · intro N p c w r hN p0 pn h hv
    obtain ⟨v, M9, a, b⟩ := hv
    have e : phi (-nxb n T p) = 6 := by rw [h]; decide +kernel
    rw [e] at b
    exact sg_M_isE_5 ⟨1, _, c_M_is_t hN p0 (by omega) n120 h (by omega), ite_i (fun t => absurd t (by decide)) (fun _ => ⟨v, M9, a, ite_i (fun q => by rw [if_pos q] at b; obtain ⟨v2, M13, y, e⟩ := b; exact ⟨v2, M13, y, e w⟩) (fun q => by rw [if_neg q] at b; exact b)⟩)⟩
end P54
