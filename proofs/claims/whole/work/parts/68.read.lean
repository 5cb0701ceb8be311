/-! the law read: the two readers side by side -/
/-- the byte at a place; -1 behind the end -/
abbrev nxb (n : Int) (T : Int → Int) (p : Int) : Int := if p < n then T p else -1
/-- the class's reader at place p, q codes drafted, no fault -/
def SC (n : Int) (T : Int → Int) (C : Mem) (p q : Int) : Prop := C 31 5 = n ∧ C 31 8 = p ∧ C 31 9 = -1 ∧ C 31 7 = q ∧ ∀ i : Int, 0 ≤ i → i < n → C 32 i = T i
/-- the model's reader at place p, c codes, k open -/
def SN (n : Int) (T : Int → Int) (k : Int) (N : Mem) (p c : Int) : Prop := N 64 5 = n ∧ N 64 13 = p ∧ N 64 15 = c ∧ N 64 14 = k ∧ ∀ i : Int, 0 ≤ i → i < n → N 68 i = T i
def LX (q : Int) (o : Nat) (i : Int) : Prop := (o = 31 ∧ 7 ≤ i ∧ i ≤ 9) ∨ (o = 35 ∧ q ≤ i)
def MX (c : Int) (o : Nat) (i : Int) : Prop := (o = 64 ∧ 13 ≤ i ∧ i ≤ 15) ∨ (o = 76 ∧ c ≤ i)
def CP (n : Int) (T : Int → Int) (C : Mem) (q : Int) (b : Bool) (cs : List Int) (p' : Int) (C' : Mem) : Prop := To (LX q) C C' ∧ (b = true → SC n T C' p' (q + cs.length) ∧ At (C' 35) q cs) ∧ (b = false → C' 31 9 = p' ∧ q ≤ C' 31 7)
def NP (n : Int) (T : Int → Int) (k : Int) (N : Mem) (c : Int) (b : Bool) (cs : List Int) (p' : Int) (N' : Mem) : Prop := To (MX c) N N' ∧ (b = true → SN n T k N' p' (c + cs.length) ∧ At (N' 76) c (cs.map phi)) ∧ (b = false → N' 64 13 = p')
def HG1 (cs : List Int) : Prop := ∀ h : Nat, hg cs h = some (h + 1)
def HG0 (cs : List Int) : Prop := ∀ h : Nat, hg cs (h + 1) = some (h + 1)
abbrev bv (b : Bool) : Int := if b = true then 1 else 0
def PRG (n : Int) (T : Int → Int) (k : Int) (HG : List Int → Prop) (XR MR : Mem → Res → Prop) (e p : Int) : Prop := ∃ (b : Bool) (cs : List Int) (p' : Int), (p ≤ p' ∧ p' ≤ n) ∧ (b = true → p + e ≤ p' ∧ (cs.length : Int) ≤ p' - p ∧ HG cs) ∧ (∀ C q, SC n T C p q → 0 ≤ q → q ≤ 2 * p → ∃ C', XR C (rV C') ∧ CP n T C q b cs p' C') ∧ (∀ N c, SN n T k N p c → 0 ≤ c → c ≤ p → ∃ N', MR N (rI (bv b) N') ∧ NP n T k N c b cs p' N')
section P52
variable {M N C : Mem} {n k p q c v x : Int} {T : Int → Int} {d : Nat}
theorem SC.at {C' : Mem} (h : SC n T C p q) (a5 : C' 31 5 = C 31 5) (a9 : C' 31 9 = C 31 9) (a32 : C' 32 = C 32) {p' q' : Int} (a8 : C' 31 8 = p') (a7 : C' 31 7 = q') : SC n T C' p' q' := ⟨by rw [a5]; exact h.1, a8, by rw [a9]; exact h.2.2.1, a7, fun i i0 i1 => by rw [a32]; exact h.2.2.2.2 i i0 i1⟩
theorem SN.at {N' : Mem} (h : SN n T k N p c) (a5 : N' 64 5 = N 64 5) (a68 : N' 68 = N 68) {p' c' k' : Int} (a13 : N' 64 13 = p') (a15 : N' 64 15 = c') (a14 : N' 64 14 = k') : SN n T k' N' p' c' := ⟨by rw [a5]; exact h.1, a13, a15, a14, fun i i0 i1 => by rw [a68]; exact h.2.2.2.2 i i0 i1⟩
theorem SC.on (h : SC n T C p q) : SC n T (up C 31 8 (p + 1)) (p + 1) q := h.at (up_n (by omega)) (up_n (by omega)) (funext fun j => up_n (by omega)) up_eq (by rw [up_n (by omega)]; exact h.2.2.2.1)
theorem SN.on (h : SN n T k N p c) : SN n T k (up N 64 13 (p + 1)) (p + 1) c := h.at (up_n (by omega)) (funext fun j => up_n (by omega)) up_eq (by rw [up_n (by omega)]; exact h.2.2.1) (by rw [up_n (by omega)]; exact h.2.2.2.1)
theorem SN.opn (h : SN n T k N p c) (k' : Int) : SN n T k' (up N 64 14 k') p c := h.at (up_n (by omega)) (funext fun j => up_n (by omega)) (by rw [up_n (by omega)]; exact h.2.1) (by rw [up_n (by omega)]; exact h.2.2.1) up_eq
theorem c_L_next (h : SC n T C p q) (p0 : 0 ≤ p) (n120 : n ≤ 120) (hd : 1 ≤ d) : Cl d m_L_next [(2, 31)] C (rI (nxb n T p) C) := by
  obtain ⟨h1, h2, h3, h4, h5⟩ := h
  refine (sg_L_next (d := 0) ?_).mono hd
  rw [h1, h2, h3]
  refine ite_i (fun t => absurd rfl t) (fun _ => ite_i (fun t => ?_) (fun t => ite_i (fun t2 => absurd t2 (by omega)) (fun _ => ⟨⟨p0, by omega⟩, ?_⟩)))
  · unfold nxb; rw [if_neg (by omega)]
  · unfold nxb; rw [if_pos (by omega), h5 p p0 (by omega)]
theorem c_L_nextF (h : ¬ C 31 9 = -1) (hd : 1 ≤ d) : Cl d m_L_next [(2, 31)] C (rI (-1) C) := (sg_L_next (d := 0) (ite_i (fun _ => rfl) (fun t => t.elim h))).mono hd
theorem c_L_failF (h : ¬ C 31 9 = -1) (hd : 1 ≤ d) : Cl d m_L_fail [(2, 31)] C (rV C) := (sg_L_fail (d := 0) (ite_i (fun _ => rfl) (fun t => t.elim h))).mono hd
theorem c_L_fail (h : C 31 9 = -1) (hp : C 31 8 = p) (hd : 1 ≤ d) : Cl d m_L_fail [(2, 31)] C (rV (up C 31 9 p)) := (sg_L_fail (d := 0) (ite_i (fun t => absurd h t) (fun _ => by rw [hp]))).mono hd
theorem c_L_emit (h : C 31 7 = q) (q0 : 0 ≤ q) (q1 : q < 256) (hd : 1 ≤ d) : Cl d m_L_emit [(2, 31), (0, v)] C (rV (up (up C 35 q v) 31 7 (q + 1))) := by
  refine (sg_L_emit (d := 0) ?_).mono hd
  rw [h, up_n (b := 31) (a := 35) (by omega), h, w32_i (x := q + 1) (by omega) (by omega)]
  exact ite_i (fun t => absurd t (by omega)) (fun _ => ⟨⟨q0, q1⟩, rfl⟩)
theorem c_L_emitF (q0 : 0 ≤ q) (h : q ≤ C 31 7) (hd : 1 ≤ d) : ∃ C', Cl d m_L_emit [(2, 31), (0, v)] C (rV C') ∧ To (LX q) C C' ∧ C' 31 9 = C 31 9 ∧ q ≤ C' 31 7 := by
  by_cases z : 256 ≤ C 31 7
  · exact ⟨C, (sg_L_emit (d := 0) (ite_i (fun _ => rfl) (fun t => absurd z t))).mono hd, To.refl _ C, rfl, h⟩
  · refine ⟨_, c_L_emit rfl (by omega) (by omega) hd, ((To.refl _ C).upd (by unfold LX; omega)).upd (by unfold LX; omega), by rw [up_n (by omega), up_n (by omega)], by rw [up_eq]; omega⟩
theorem c_M_sign (h : SN n T k N p c) (p0 : 0 ≤ p) (n120 : n ≤ 120) (hd : 1 ≤ d) : Cl d m_M_sign [(2, 64)] N (rI (nxb n T p) N) := by
  obtain ⟨h1, h2, h3, h4, h5⟩ := h
  refine (sg_M_sign (d := 0) ?_).mono hd
  rw [h1, h2]
  refine ite_i (fun t => ?_) (fun t => ⟨⟨p0, by omega⟩, ?_⟩)
  · unfold nxb; rw [if_neg (by omega)]
  · unfold nxb; rw [if_pos (by omega), h5 p p0 (by omega)]
theorem c_M_is_t (h : SN n T k N p c) (p0 : 0 ≤ p) (pn : p ≤ n) (n120 : n ≤ 120) (e : nxb n T p = x) (hd : 2 ≤ d) : Cl d m_M_is [(2, 64), (0, x)] N (rI 1 (up N 64 13 (p + 1))) := by
  refine (sg_M_is (d := 1) ⟨_, c_M_sign h p0 n120 (by decide), ite_i (fun _ => ?_) (fun t => absurd e t)⟩).mono hd
  rw [h.2.1, w32_i (x := p + 1) (by omega) (by omega)]
theorem c_M_is_f (h : SN n T k N p c) (p0 : 0 ≤ p) (n120 : n ≤ 120) (e : ¬ nxb n T p = x) (hd : 2 ≤ d) : Cl d m_M_is [(2, 64), (0, x)] N (rI 0 N) :=
  (sg_M_is (d := 1) ⟨_, c_M_sign h p0 n120 (by decide), ite_i (fun t => absurd t e) (fun _ => rfl)⟩).mono hd
theorem c_M_codes (h : N 64 15 = c) (c0 : 0 ≤ c) (c1 : c < 200) (hd : 1 ≤ d) : Cl d m_M_codes [(2, 64), (0, v)] N (rI 1 (up (up N 64 15 (c + 1)) 76 c v)) := by
  refine (sg_M_codes (d := 0) ?_).mono hd
  rw [h, w32_i (x := c + 1) (by omega) (by omega)]
  exact ⟨⟨c0, c1⟩, rfl⟩
theorem LX_le {q q' : Int} (h : q ≤ q') : ∀ o i, LX q' o i → LX q o i := by intro o i; unfold LX; omega
theorem MX_le {q q' : Int} (h : q ≤ q') : ∀ o i, MX q' o i → MX q o i := by intro o i; unfold MX; omega
/-- codes behind codes, in the class -/
theorem CP_then {cs1 cs2 : List Int} {C1 C2 C3 : Mem} {p2 : Int} {b : Bool} (q0 : 0 ≤ q) (h1 : To (LX q) C C1) (a1 : At (C1 35) q cs1) (h2 : To (LX (q + cs1.length)) C1 C2) (a2 : At (C2 35) (q + cs1.length) [v]) (h3 : CP n T C2 (q + cs1.length + 1) b cs2 p2 C3) : CP n T C q b (cs1 ++ v :: cs2) p2 C3 := by
  obtain ⟨t3, ok, bad⟩ := h3
  have l : ((cs1 ++ v :: cs2).length : Int) = cs1.length + 1 + cs2.length := by simp; omega
  refine ⟨(h1.trans (h2.wk (LX_le (by omega)))).trans (t3.wk (LX_le (by omega))), fun e => ?_, fun e => ?_⟩
  · obtain ⟨s, a3⟩ := ok e
    rw [l, show q + ((cs1.length : Int) + 1 + cs2.length) = q + cs1.length + 1 + cs2.length by omega]
    refine ⟨s, At_app.mpr ⟨At_congr (fun i i0 i1 => ?_) a1, ?_, a3⟩⟩
    · rw [t3 35 i (by unfold LX; omega), h2 35 i (by unfold LX; omega)]
    · rw [t3 35 _ (by unfold LX; omega)]; exact a2.1
  · obtain ⟨e1, e2⟩ := bad e
    exact ⟨e1, by omega⟩
theorem NP_then {cs1 cs2 : List Int} {N1 N2 N3 : Mem} {p2 : Int} {b : Bool} (c0 : 0 ≤ c) (h1 : To (MX c) N N1) (a1 : At (N1 76) c (cs1.map phi)) (h2 : To (MX (c + cs1.length)) N1 N2) (a2 : At (N2 76) (c + cs1.length) [phi v]) (h3 : NP n T k N2 (c + cs1.length + 1) b cs2 p2 N3) : NP n T k N c b (cs1 ++ v :: cs2) p2 N3 := by
  obtain ⟨t3, ok, bad⟩ := h3
  have l : ((cs1 ++ v :: cs2).length : Int) = cs1.length + 1 + cs2.length := by simp; omega
  refine ⟨(h1.trans (h2.wk (MX_le (by omega)))).trans (t3.wk (MX_le (by omega))), fun e => ?_, fun e => ?_⟩
  · obtain ⟨s, a3⟩ := ok e
    rw [l, show c + ((cs1.length : Int) + 1 + cs2.length) = c + cs1.length + 1 + cs2.length by omega]
    refine ⟨s, ?_⟩
    rw [List.map_append]
    refine At_app.mpr ⟨At_congr (fun i i0 i1 => ?_) a1, ?_⟩
    · rw [List.length_map] at i1
      rw [t3 76 i (by unfold MX; omega), h2 76 i (by unfold MX; omega)]
    · rw [List.length_map]
      refine ⟨?_, a3⟩
      rw [t3 76 _ (by unfold MX; omega)]; exact a2.1
  · exact bad e
theorem HG_op {cs1 cs2 : List Int} (h1 : HG1 cs1) (hb : bop v) (h2 : HG0 cs2) : HG0 (cs1 ++ v :: cs2) := fun h => by
  rw [hg_app, h1 (h + 1)]
  show hg (v :: cs2) (h + 1 + 1) = _
  have v6 : ¬ (-6 ≤ v ∧ v ≤ 9999) := by unfold bop at hb; omega
  have vu : ¬ (v = -33 ∨ v = -126) := by unfold bop at hb; omega
  unfold hg
  rw [if_neg v6, if_neg vu, if_pos hb, if_pos (by omega)]
  exact h2 h
theorem HG_then {cs1 cs2 : List Int} (h1 : HG1 cs1) (h2 : HG0 cs2) : HG1 (cs1 ++ cs2) := fun h => by
  rw [hg_app, h1 h]
  exact h2 h
end P52
