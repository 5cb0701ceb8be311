/-! the law worked out by the class -/
def TE (o : Nat) (i : Int) : Prop := (o = 31 ∧ i = 10) ∨ o = 33
def hd0 : List Int → Int
  | [] => 0
  | x :: _ => x
abbrev clampV (v : Int) : Int := if 0 < (if v < 99 then v else 99) then (if v < 99 then v else 99) else 0
def lawV (env : Int → Int) : List LN → Int
  | [] => 0
  | l :: r => if l.1.length = 0 ∨ ¬ hd0 (ev env l.1 []) = 0 then clampV (hd0 (ev env l.2 [])) else lawV env r
theorem SK_up {g : Mem} {o : Nat} {st : List Int} {i v : Int} (h : SK (g o) st) (hi : (st.length : Int) ≤ i) : SK (up g o i v o) st := SK_congr (fun j j0 j1 => up_n (by omega)) h
theorem SK_push {g : Mem} {o : Nat} {st : List Int} {v : Int} (h : SK (g o) st) : SK (up g o (st.length : Int) v o) (v :: st) := ⟨up_eq, SK_up h (Int.le_refl _)⟩
section P44
variable {M N : Mem} {a b c x y v : Int} {d : Nat} {r : Res} {env : Int → Int}
theorem X_ev (hd : 1 ≤ d) : ∀ (cs st : List Int) (p s : Int) (M : Mem) (w3 w4 w5 : AV) (h : Nat), At (M 34) p cs → hg cs st.length = some h → st.length + cs.length ≤ 120 → 0 ≤ p → p + cs.length < M 31 6 → M 31 6 ≤ 256 → 0 ≤ s → s ≤ p → M 31 10 = st.length → SK (M 33) st → (∀ j : Int, 0 ≤ j → j < 6 → M 36 j = env j) → ∃ (M' : Mem) (s' : Int) (x3 x4 x5 : AV), To TE M M' ∧ M' 31 10 = h ∧ SK (M' 33) (ev env cs st) ∧ 0 ≤ s' ∧ s' ≤ p + cs.length ∧ ∀ r, at_L_alikeness_24 d (p + cs.length) s' x3 x4 x5 M' r → at_L_alikeness_24 d p s w3 w4 w5 M r
  | [], st, p, s, M, w3, w4, w5, h, hA, hh, hl, p0, pq, q256, s0, sp, hs, sk, he => by
    cases hh
    refine ⟨M, s, w3, w4, w5, To.refl _ M, hs, sk, s0, by simpa using sp, fun r hr => ?_⟩
    rw [show p + (([] : List Int).length : Int) = p by simp] at hr
    exact hr
  | c :: cs, st, p, s, M, w3, w4, w5, h, hA, hh, hl, p0, pq, q256, s0, sp, hs, sk, he => by
    obtain ⟨hc, hA⟩ := hA
    have lc : ((c :: cs).length : Int) = cs.length + 1 := by simp
    have lc' : (c :: cs).length = cs.length + 1 := rfl
    have go : ∀ (M1 : Mem) (st1 : List Int) (w3 w4 w5 : AV), To TE M M1 → M1 31 10 = st1.length → SK (M1 33) st1 → hg cs st1.length = some h → st1.length ≤ st.length + 1 → ev env cs st1 = ev env (c :: cs) st → ∃ (M' : Mem) (s' : Int) (x3 x4 x5 : AV), To TE M M' ∧ M' 31 10 = h ∧ SK (M' 33) (ev env (c :: cs) st) ∧ 0 ≤ s' ∧ s' ≤ p + (c :: cs).length ∧ ∀ r, at_L_alikeness_24 d (p + (c :: cs).length) s' x3 x4 x5 M' r → at_L_alikeness_24 d (w32 (p + 1)) (w32 (s + 1)) w3 w4 w5 M1 r := fun M1 st1 w3 w4 w5 t g1 g2 g3 g4 g5 => by
      rw [w32_i (x := p + 1) (by omega) (by omega), w32_i (x := s + 1) (by omega) (by omega)]
      have e34 : M1 34 = M 34 := funext fun j => t 34 j (by unfold TE; omega)
      have e6 : M1 31 6 = M 31 6 := t 31 6 (by unfold TE; omega)
      obtain ⟨M', s', x3, x4, x5, t', k1, k2, k3, k4, k5⟩ := X_ev hd cs st1 (p + 1) (s + 1) M1 w3 w4 w5 h (by rw [e34]; exact hA) g3 (by omega) (by omega) (by rw [e6]; omega) (by rw [e6]; exact q256) (by omega) (by omega) g1 g2 (fun j j0 j6 => by rw [t 36 j (by unfold TE; omega)]; exact he j j0 j6)
      refine ⟨M', s', x3, x4, x5, t.trans t', k1, by rw [← g5]; exact k2, k3, by omega, fun r hr => k5 r ?_⟩
      rw [lc] at hr
      rw [show p + 1 + (cs.length : Int) = p + ((cs.length : Int) + 1) by omega]
      exact hr
    unfold hg at hh
    have pre : ∀ {r : Res}, (if c < 0 then (if c < (-6) then (if ¬ c = (-59) then (if ¬ c = (-63) then ∃ v11 M12, Cl d m_L_pop [(2, 31)] M (some (0, v11), M12) ∧ (if c = (-33) then ∃ v15, Cl d m_L_worked [(0, w32 (-(c))), (0, 0), (0, v11)] M12 (some (0, v15), M12) ∧ ∃ M17, Cl d m_L_push [(2, 31), (0, v15)] M12 (none, M17) ∧ at_L_alikeness_24 d (w32 (p + 1)) (w32 (s + 1)) (0, c) (0, v11) (0, 0) M17 r else (if ¬ c = (-126) then ∃ v20 M21, Cl d m_L_pop [(2, 31)] M12 (some (0, v20), M21) ∧ ∃ v23, Cl d m_L_worked [(0, w32 (-(c))), (0, v20), (0, v11)] M21 (some (0, v23), M21) ∧ ∃ M25, Cl d m_L_push [(2, 31), (0, v23)] M21 (none, M25) ∧ at_L_alikeness_24 d (w32 (p + 1)) (w32 (s + 1)) (0, c) (0, v11) (0, v20) M25 r else ∃ v27, Cl d m_L_worked [(0, w32 (-(c))), (0, 0), (0, v11)] M12 (some (0, v27), M12) ∧ ∃ M29, Cl d m_L_push [(2, 31), (0, v27)] M12 (none, M29) ∧ at_L_alikeness_24 d (w32 (p + 1)) (w32 (s + 1)) (0, c) (0, v11) (0, 0) M29 r)) else False) else False) else ∃ M45, Cl d m_L_push [(2, 31), (0, env (-c - 1))] M (none, M45) ∧ at_L_alikeness_24 d (w32 (p + 1)) (w32 (s + 1)) (0, c) w4 w5 M45 r) else ∃ M47, Cl d m_L_push [(2, 31), (0, c)] M (none, M47) ∧ at_L_alikeness_24 d (w32 (p + 1)) (w32 (s + 1)) (0, c) w4 w5 M47 r) → at_L_alikeness_24 d p s w3 w4 w5 M r := fun {r} hv => by
      refine sg_L_alikeness_24 (ite_i (fun t => absurd t (by omega)) (fun _ => ite_i (fun t => absurd t (by omega)) (fun _ => ite_i (fun t => absurd t (by omega)) (fun _ => ite_i (fun t => absurd t (by omega)) (fun _ => ⟨⟨p0, by omega⟩, ?_⟩)))))
      rw [hc]
      refine ite_i (fun t => ?_) (fun t => ?_)
      · rw [if_pos t] at hv
        refine ite_i (fun t2 => ?_) (fun t2 => ?_)
        · rw [if_pos t2] at hv
          refine ite_i (fun t3 => ?_) (fun t3 => ?_)
          · rw [if_pos t3] at hv
            refine ite_i (fun t4 => ?_) (fun t4 => ?_)
            · rw [if_pos t4] at hv; exact hv
            · rw [if_neg t4] at hv; exact hv.elim
          · rw [if_neg t3] at hv; exact hv.elim
        · rw [if_neg t2] at hv
          rw [w32_i (x := -c) (by omega) (by omega), w32_i (x := -c - 1) (by omega) (by omega), he (-c - 1) (by omega) (by omega)]
          exact ⟨⟨by omega, by omega⟩, hv⟩
      · rw [if_neg t] at hv; exact hv
    by_cases q : -6 ≤ c ∧ c ≤ 9999
    · rw [if_pos q] at hh
      obtain ⟨v, hv⟩ : ∃ v, (if 0 ≤ c then c else env (-c - 1)) = v := ⟨_, rfl⟩
      obtain ⟨M', s', x3, x4, x5, k1, k2, k3, k4, k5, k6⟩ := go (up (up M 33 (st.length : Int) v) 31 10 ((st.length : Int) + 1)) (v :: st) (0, c) w4 w5 (((To.refl _ M).upd (by unfold TE; omega)).upd (by unfold TE; omega)) (by rw [up_eq]; simp) (by
          have e : up (up M 33 (st.length : Int) v) 31 10 ((st.length : Int) + 1) 33 = up M 33 (st.length : Int) v 33 := funext fun j => up_n (by omega)
          rw [e]; exact SK_push sk) hh (by simp) (by
          rw [← hv]
          conv => rhs; unfold ev
          rw [if_pos q.1])
      refine ⟨M', s', x3, x4, x5, k1, k2, k3, k4, k5, fun r hr => pre ?_⟩
      refine ite_i (fun t => ite_i (fun t2 => absurd t2 (by omega)) (fun _ => ?_)) (fun t => ?_)
      · rw [if_neg (by omega)] at hv
        rw [hv]
        exact ⟨_, c_L_push hs (by omega) (by omega) hd, k6 r hr⟩
      · rw [if_pos (by omega)] at hv
        rw [hv] at k6 ⊢
        exact ⟨_, c_L_push hs (by omega) (by omega) hd, k6 r hr⟩
    · rw [if_neg q] at hh
      have cn : ¬ -6 ≤ c := fun t => by
        by_cases u : c = -33 ∨ c = -126
        · omega
        · rw [if_neg u] at hh
          by_cases v : bop c
          · unfold bop at v; omega
          · rw [if_neg v] at hh; cases hh
      by_cases u : c = -33 ∨ c = -126
      · rw [if_pos u] at hh
        cases st with
        | nil => simp at hh
        | cons b st =>
          rw [if_pos (by simp)] at hh
          obtain ⟨sb, sk⟩ := sk
          have pop : Cl d m_L_pop [(2, 31)] M (rI b (up M 31 10 (st.length : Int))) := by
            have := c_L_pop (M := M) (x := (st.length : Int)) (by rw [hs]; simp) (by omega) (by simp at hl; omega) hd
            rwa [sb] at this
          obtain ⟨M', s', x3, x4, x5, k1, k2, k3, k4, k5, k6⟩ := go (up (up (up M 31 10 (st.length : Int)) 33 (st.length : Int) (opu c b)) 31 10 ((st.length : Int) + 1)) (opu c b :: st) (0, c) (0, b) (0, 0) ((((To.refl _ M).upd (by unfold TE; omega)).upd (by unfold TE; omega)).upd (by unfold TE; omega)) (by rw [up_eq]; simp) (by
              have e : up (up (up M 31 10 (st.length : Int)) 33 (st.length : Int) (opu c b)) 31 10 ((st.length : Int) + 1) 33 = up M 33 (st.length : Int) (opu c b) 33 := funext fun j => by
                rw [up_n (by omega)]; unfold up; split
                · rfl
                · rw [if_neg (by omega)]
              rw [e]; exact SK_push sk) hh (by simp) (by
              conv => rhs; unfold ev
              rw [if_neg cn, if_pos u])
          refine ⟨M', s', x3, x4, x5, k1, k2, k3, k4, k5, fun r hr => pre ?_⟩
          refine ite_i (fun _ => ite_i (fun _ => ite_i (fun _ => ite_i (fun _ => ?_) (fun t => absurd (Classical.not_not.mp t) (by omega))) (fun t => absurd (Classical.not_not.mp t) (by omega))) (fun t => absurd t (by omega))) (fun t => absurd t (by omega))
          have psh := c_L_push (M := up M 31 10 (st.length : Int)) (x := (st.length : Int)) (v := opu c b) (d := d) up_eq (by omega) (by simp at hl; omega) hd
          exact ⟨b, _, pop, ite_i (fun t => ⟨_, c_L_worked1 u hd, _, psh, k6 r hr⟩) (fun t => ite_i (fun t2 => absurd (u.resolve_left t) t2) (fun _ => ⟨_, c_L_worked1 u hd, _, psh, k6 r hr⟩))⟩
      · rw [if_neg u] at hh
        by_cases v : bop c
        · rw [if_pos v] at hh
          have v' := v
          unfold bop at v'
          cases st with
          | nil => simp at hh
          | cons b st =>
            cases st with
            | nil => simp at hh
            | cons a st =>
              rw [if_pos (by simp)] at hh
              obtain ⟨sb, sa, sk⟩ := sk
              have pop : Cl d m_L_pop [(2, 31)] M (rI b (up M 31 10 ((a :: st).length : Int))) := by
                have := c_L_pop (M := M) (x := ((a :: st).length : Int)) (by rw [hs]; simp) (by omega) (by simp at hl ⊢; omega) hd
                rwa [sb] at this
              have pop2 : Cl d m_L_pop [(2, 31)] (up M 31 10 ((a :: st).length : Int)) (rI a (up (up M 31 10 ((a :: st).length : Int)) 31 10 (st.length : Int))) := by
                have := c_L_pop (M := up M 31 10 ((a :: st).length : Int)) (x := (st.length : Int)) (by rw [up_eq]; simp) (by omega) (by simp at hl; omega) hd
                rwa [up_n (b := 33) (by omega), sa] at this
              have psh := c_L_push (M := up (up M 31 10 ((a :: st).length : Int)) 31 10 (st.length : Int)) (x := (st.length : Int)) (v := opv c a b) (d := d) up_eq (by omega) (by simp at hl; omega) hd
              obtain ⟨M', s', x3, x4, x5, k1, k2, k3, k4, k5, k6⟩ := go (up (up (up (up M 31 10 ((a :: st).length : Int)) 31 10 (st.length : Int)) 33 (st.length : Int) (opv c a b)) 31 10 ((st.length : Int) + 1)) (opv c a b :: st) (0, c) (0, b) (0, a) (((((To.refl _ M).upd (by unfold TE; omega)).upd (by unfold TE; omega)).upd (by unfold TE; omega)).upd (by unfold TE; omega)) (by rw [up_eq]; simp) (by
                have e : up (up (up (up M 31 10 ((a :: st).length : Int)) 31 10 (st.length : Int)) 33 (st.length : Int) (opv c a b)) 31 10 ((st.length : Int) + 1) 33 = up M 33 (st.length : Int) (opv c a b) 33 := funext fun j => by
                  rw [up_n (by omega)]; unfold up; split
                  · rfl
                  · rw [if_neg (by omega), if_neg (by omega)]
                rw [e]; exact SK_push sk) hh (by simp) (by
                conv => rhs; unfold ev
                rw [if_neg cn, if_neg u])
              refine ⟨M', s', x3, x4, x5, k1, k2, k3, k4, k5, fun r hr => pre ?_⟩
              refine ite_i (fun _ => ite_i (fun _ => ite_i (fun _ => ite_i (fun _ => ?_) (fun t => absurd (Classical.not_not.mp t) (by omega))) (fun t => absurd (Classical.not_not.mp t) (by omega))) (fun t => absurd t (by omega))) (fun t => absurd t (by omega))
              exact ⟨b, _, pop, ite_i (fun t => absurd (Or.inl t) u) (fun _ => ite_i (fun _ => ⟨a, _, pop2, _, c_L_worked2 v hd, _, psh, k6 r hr⟩) (fun t => absurd (Or.inr (Classical.not_not.mp t)) u))⟩
        · rw [if_neg v] at hh; cases hh
theorem CL_le {g : Int → Int} : ∀ {Ls : List LN} {p q : Int}, CL g p Ls q → p ≤ q
  | [], p, q, h => by have : p = q := h; omega
  | l :: r, p, q, h => by have := CL_le h.2; omega
theorem hg1 {env : Int → Int} {cs : List Int} (h : hg cs 0 = some 1) : ev env cs [] = [hd0 (ev env cs [])] := by
  have := ev_len env cs [] 1 h
  match hq : ev env cs [], this with
  | [x], _ => rfl
/-- what counts, and the clamp -/
theorem X_count (hd : 1 ≤ d) {p s : Int} {w3 w4 w5 : AV} (hc : M 34 p = -59) (p0 : 0 ≤ p) (pq : p < M 31 6) (q256 : M 31 6 ≤ 256) (s0 : 0 ≤ s) (sp : s ≤ p) (hs : M 31 10 = 1) (sk : SK (M 33) [v]) : at_L_alikeness_24 d p s w3 w4 w5 M (rI (clampV v) (up M 31 10 0)) := by
  refine sg_L_alikeness_24 (ite_i (fun t => absurd t (by omega)) (fun _ => ite_i (fun t => absurd t (by omega)) (fun _ => ite_i (fun t => absurd t (by omega)) (fun _ => ite_i (fun t => absurd t (by omega)) (fun _ => ⟨⟨p0, by omega⟩, ?_⟩)))))
  rw [hc]
  have pop := c_L_pop (M := M) (x := 0) (d := d) (by rw [hs]; rfl) (by decide) (by decide) hd
  rw [show M 33 0 = v from sk.1] at pop
  exact ite_i (fun _ => ite_i (fun _ => ite_i (fun t => absurd rfl t) (fun _ => ⟨v, _, pop, rfl⟩)) (fun t => absurd (by decide) t)) (fun t => absurd (by decide) t)
theorem X_lines (hd : 1 ≤ d) : ∀ (Ls : List LN) (p s : Int) (M : Mem) (w3 w4 w5 : AV), CL (M 34) p Ls (M 31 6) → GL Ls → tl Ls ≤ 120 → 0 ≤ p → M 31 6 ≤ 256 → 0 ≤ s → s ≤ p → M 31 10 = 0 → (∀ j : Int, 0 ≤ j → j < 6 → M 36 j = env j) → ∃ M', To TE M M' ∧ at_L_alikeness_24 d p s w3 w4 w5 M (rI (lawV env Ls) M')
  | [], p, s, M, w3, w4, w5, hC, hG, hT, p0, q256, s0, sp, hs, he => by
    have e : p = M 31 6 := hC
    exact ⟨M, To.refl _ M, sg_L_alikeness_24 (ite_i (fun _ => rfl) (fun _ => ite_i (fun _ => rfl) (fun _ => ite_i (fun _ => rfl) (fun t => absurd (by omega) t))))⟩
  | (A, S) :: Ls, p, s, M, w3, w4, w5, hC, hG, hT, p0, q256, s0, sp, hs, he => by
    obtain ⟨hA, hC⟩ := hC
    obtain ⟨g1, g2, g3⟩ := hG
    have le := CL_le hC
    have hT : A.length + S.length + tl Ls ≤ 120 := hT
    -- the second part, from a place on
    have second : ∀ (p1 : Int) (s1 : Int) (M1 : Mem) (w3 w4 w5 : AV), To TE M M1 → At (M 34) p1 (S ++ [-59]) → 0 ≤ p1 → p1 + S.length < M 31 6 → 0 ≤ s1 → s1 ≤ p1 → M1 31 10 = 0 → ∃ M', To TE M M' ∧ at_L_alikeness_24 d p1 s1 w3 w4 w5 M1 (rI (clampV (hd0 (ev env S []))) M') := fun p1 s1 M1 w3 w4 w5 t h1 h2 h3 h4 h5 h6 => by
      obtain ⟨a1, a2⟩ := At_app.mp h1
      have e34 : M1 34 = M 34 := funext fun j => t 34 j (by unfold TE; omega)
      have e6 : M1 31 6 = M 31 6 := t 31 6 (by unfold TE; omega)
      obtain ⟨M', s', x3, x4, x5, k1, k2, k3, k4, k5, k6⟩ := X_ev (env := env) hd S [] p1 s1 M1 w3 w4 w5 1 (by rw [e34]; exact a1) g2 (by simp; omega) h2 (by rw [e6]; exact h3) (by rw [e6]; exact q256) h4 h5 (by rw [h6]; rfl) trivial (fun j j0 j6 => by rw [t 36 j (by unfold TE; omega)]; exact he j j0 j6)
      rw [hg1 g2] at k3
      exact ⟨_, (t.trans k1).upd (by unfold TE; omega), k6 _ (X_count hd (by rw [k1 34 _ (by unfold TE; omega), e34]; exact a2.1) (by omega) (by rw [k1 31 6 (by unfold TE; omega), e6]; exact h3) (by rw [k1 31 6 (by unfold TE; omega), e6]; exact q256) k4 k5 k2 k3)⟩
    cases A with
    | nil =>
      rw [show lawV env (([], S) :: Ls) = clampV (hd0 (ev env S [])) from if_pos (Or.inl rfl)]
      have lc : ((lcode p (([] : List Int), S)).length : Int) = S.length + 1 := by simp [lcode]
      exact second p s M w3 w4 w5 (To.refl _ M) hA p0 (by omega) s0 sp hs
    | cons a A =>
      have lc : ((lcode p (a :: A, S)).length : Int) = (a :: A).length + S.length + 3 := by simp [lcode]; omega
      have hA : At (M 34) p ((a :: A) ++ (-63) :: (p + (a :: A).length + S.length + 3) :: (S ++ [-59])) := hA
      obtain ⟨a1, a2, a3, a4⟩ := At_app.mp hA
      have hgA := g1.resolve_left (by simp)
      obtain ⟨M', s', x3, x4, x5, k1, k2, k3, k4, k5, k6⟩ := X_ev (env := env) hd (a :: A) [] p s M w3 w4 w5 1 a1 hgA (by simp at hT ⊢; omega) p0 (by omega) q256 s0 sp (by rw [hs]; rfl) trivial he
      rw [hg1 hgA] at k3
      obtain ⟨p1, hp1⟩ : ∃ p1, p1 = p + ((a :: A).length : Int) := ⟨_, rfl⟩
      rw [← hp1] at a2 a3 a4 k5 k6
      have e34 : M' 34 = M 34 := funext fun j => k1 34 j (by unfold TE; omega)
      have e6 : M' 31 6 = M 31 6 := k1 31 6 (by unfold TE; omega)
      have pop := c_L_pop (M := M') (x := 0) (d := d) (by rw [k2]; rfl) (by decide) (by decide) hd
      rw [show M' 33 0 = hd0 (ev env (a :: A) []) from k3.1] at pop
      have ask : ∀ {r : Res}, (if hd0 (ev env (a :: A) []) = 0 then at_L_alikeness_24 d (p1 + S.length + 3) (s' + 1) (0, -63) (0, p1 + S.length + 3) x5 (up M' 31 10 0) r else at_L_alikeness_24 d (p1 + 2) (s' + 1) (0, -63) (0, p1 + S.length + 3) x5 (up M' 31 10 0) r) → at_L_alikeness_24 d p1 s' x3 x4 x5 M' r := fun {r} hv => by
        refine sg_L_alikeness_24 (ite_i (fun t => absurd t (by omega)) (fun _ => ite_i (fun t => absurd t (by omega)) (fun _ => ite_i (fun t => absurd t (by omega)) (fun _ => ite_i (fun t => absurd t (by omega)) (fun _ => ⟨⟨by omega, by omega⟩, ?_⟩)))))
        rw [e34, a2, w32_i (x := p1 + 1) (by omega) (by omega), a3, w32_i (x := p1 + 1 + 1) (by omega) (by omega), w32_i (x := s' + 1) (by omega) (by omega), show p1 + 1 + 1 = p1 + 2 by omega]
        refine ite_i (fun _ => ite_i (fun _ => ite_i (fun _ => ite_i (fun t => absurd rfl t) (fun _ => ite_i (fun t => absurd t (by omega)) (fun _ => ⟨⟨by omega, by omega⟩, _, _, pop, ?_⟩))) (fun t => absurd (by decide) t)) (fun t => absurd (by decide) t)) (fun t => absurd (by decide) t)
        refine ite_i (fun t => ?_) (fun t => ?_)
        · rw [if_pos t] at hv
          exact hv
        · rw [if_neg t] at hv; exact hv
      by_cases z : hd0 (ev env (a :: A) []) = 0
      · rw [show lawV env ((a :: A, S) :: Ls) = lawV env Ls from if_neg (fun t => t.elim (by simp) (fun y => y z))]
        have t2 : To TE M (up M' 31 10 0) := k1.upd (by unfold TE; omega)
        have f34 : up M' 31 10 0 34 = M 34 := funext fun j => t2 34 j (by unfold TE; omega)
        have f6 : up M' 31 10 0 31 6 = M 31 6 := t2 31 6 (by unfold TE; omega)
        have q : p1 + S.length + 3 = p + ((lcode p (a :: A, S)).length : Int) := by rw [lc]; omega
        obtain ⟨M2, y1, y2⟩ := X_lines hd Ls (p1 + S.length + 3) (s' + 1) (up M' 31 10 0) (0, -63) (0, p1 + S.length + 3) x5 (by rw [f34, f6, q]; exact hC) g3 (by omega) (by omega) (by rw [f6]; exact q256) (by omega) (by omega) up_eq (fun j j0 j6 => by rw [t2 36 j (by unfold TE; omega)]; exact he j j0 j6)
        exact ⟨M2, t2.trans y1, k6 _ (ask (by rw [if_pos z]; exact y2))⟩
      · rw [show lawV env ((a :: A, S) :: Ls) = clampV (hd0 (ev env S [])) from if_pos (Or.inr z)]
        obtain ⟨M2, y1, y2⟩ := second (p1 + 2) (s' + 1) (up M' 31 10 0) (0, -63) (0, p1 + S.length + 3) x5 (k1.upd (by unfold TE; omega)) (by rw [show p1 + 2 = p1 + 1 + 1 by omega]; exact a4) (by omega) (by omega) (by omega) (by omega) up_eq
        exact ⟨M2, y1, k6 _ (ask (by rw [if_neg z]; exact y2))⟩
end P44
