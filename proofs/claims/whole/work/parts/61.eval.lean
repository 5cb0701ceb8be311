/-! the law worked out by the model -/
def TV (o : Nat) (_ : Int) : Prop := o = 77
section P45
variable {M N : Mem} {a b c x y v : Int} {d : Nat} {r : Res} {env : Int → Int} {to f s t q : Int}
/-- what the names stand for -/
abbrev ENV (M : Mem) (f s t q : Int) : Int → Int := fun j => if j = 0 then f else if j = 1 then s else if j = 2 then t else if j = 3 then q else if j = 4 then bI (¬ iand (stc 90 s) (stc 90 t) = 0) else M 64 4
theorem phi_num (h0 : 0 ≤ c) : phi c = c + 18 := if_pos h0
theorem phi_name (h : ¬ 0 ≤ c) (h6 : -6 ≤ c) : phi c = -1 - c := by unfold phi; rw [if_neg h, if_pos h6]
theorem phi_bop (h : bop c) : 6 ≤ phi c ∧ phi c ≤ 15 := by
  unfold bop at h
  rcases h with rfl | rfl | rfl | rfl | rfl | rfl | rfl | rfl | rfl | rfl <;> decide +kernel
theorem M_ev (hd : 2 ≤ d) (s0 : 0 ≤ s) (s5 : s ≤ 5) (t0 : 0 ≤ t) (t5 : t ≤ 5) {w1 : AV} (hto : to ≤ 120) : ∀ (cs st : List Int) (i : Int) (M : Mem) (w9 : AV) (h : Nat), At (M 72) i (cs.map phi) → hg cs st.length = some h → st.length + cs.length ≤ 120 → 0 ≤ i → i + cs.length ≤ to → SK (M 77) st → ∃ (M' : Mem) (x9 : AV), To TV M M' ∧ SK (M' 77) (ev (ENV M f s t q) cs st) ∧ ∀ r, at_M_worked_4 d w1 to f s t q (h : Int) (i + cs.length) x9 M' r → at_M_worked_4 d w1 to f s t q (st.length : Int) i w9 M r
  | [], st, i, M, w9, h, hA, hh, hl, i0, it, sk => by
    cases hh
    refine ⟨M, w9, To.refl _ M, sk, fun r hr => ?_⟩
    rw [show i + (([] : List Int).length : Int) = i by simp] at hr
    exact hr
  | c :: cs, st, i, M, w9, h, hA, hh, hl, i0, it, sk => by
    obtain ⟨hc, hA⟩ := hA
    have lc : ((c :: cs).length : Int) = cs.length + 1 := by simp
    have lc' : (c :: cs).length = cs.length + 1 := rfl
    have go : ∀ (M1 : Mem) (st1 : List Int) (w9 : AV), To TV M M1 → SK (M1 77) st1 → hg cs st1.length = some h → st1.length ≤ st.length + 1 → ev (ENV M f s t q) cs st1 = ev (ENV M f s t q) (c :: cs) st → ∃ (M' : Mem) (x9 : AV), To TV M M' ∧ SK (M' 77) (ev (ENV M f s t q) (c :: cs) st) ∧ ∀ r, at_M_worked_4 d w1 to f s t q (h : Int) (i + (c :: cs).length) x9 M' r → at_M_worked_4 d w1 to f s t q (st1.length : Int) (w32 (i + 1)) w9 M1 r := fun M1 st1 w9 tt g2 g3 g4 g5 => by
      rw [w32_i (x := i + 1) (by omega) (by omega)]
      have e72 : M1 72 = M 72 := funext fun j => tt 72 j (by unfold TV; omega)
      have e64 : M1 64 4 = M 64 4 := tt 64 4 (by unfold TV; omega)
      obtain ⟨M', x9, t', k2, k5⟩ := M_ev hd s0 s5 t0 t5 hto cs st1 (i + 1) M1 w9 h (by rw [e72]; exact hA) g3 (by omega) (by omega) (by omega) g2
      refine ⟨M', x9, tt.trans t', ?_, fun r hr => k5 r ?_⟩
      · rw [← g5]
        have : ENV M1 f s t q = ENV M f s t q := by unfold ENV; rw [e64]
        rw [this] at k2; exact k2
      · rw [lc] at hr
        rw [show i + 1 + (cs.length : Int) = i + ((cs.length : Int) + 1) by omega]
        exact hr
    have hc : M 72 i = phi c := hc
    unfold hg at hh
    have ri : 0 ≤ i ∧ i < 200 := ⟨i0, by omega⟩
    by_cases z : -6 ≤ c ∧ c ≤ 9999
    · rw [if_pos z] at hh
      have rt : 0 ≤ (st.length : Int) ∧ (st.length : Int) < 200 := ⟨by omega, by omega⟩
      obtain ⟨v, hv⟩ : ∃ v, (if 0 ≤ c then c else ENV M f s t q (-c - 1)) = v := ⟨_, rfl⟩
      obtain ⟨M', x9, k1, k2, k6⟩ := go (up M 77 (st.length : Int) v) (v :: st) (0, phi c) ((To.refl _ M).upd rfl) (SK_push sk) hh (by simp) (by
          rw [← hv]
          conv => rhs; unfold ev
          rw [if_pos z.1])
      have l1 : w32 ((st.length : Int) + 1) = ((v :: st).length : Int) := by rw [w32_i (by omega) (by omega)]; simp
      refine ⟨M', x9, k1, k2, fun r hr => sg_M_worked_4 (ite_i (fun y => absurd y (by omega)) (fun _ => ⟨ri, ?_⟩))⟩
      have k6 := k6 r hr
      rw [← l1] at k6
      rw [hc]
      by_cases n : 0 ≤ c
      · rw [if_pos n] at hv
        subst hv
        have e : w32 (phi c - 18) = c := by rw [phi_num n, w32_i (by omega) (by omega)]; omega
        refine ite_i (fun _ => ite_i (fun y => absurd y (by rw [phi_num n]; omega)) (fun _ => ⟨rt, ?_⟩)) (fun y => absurd (by rw [phi_num n]; omega) y)
        rw [e]; exact k6
      · rw [if_neg n] at hv
        have e := phi_name n z.1
        refine ite_i (fun y => absurd y (by omega)) (fun _ => ite_i (fun y => absurd y (by omega)) (fun _ => ite_i (fun _ => ?_) (fun y => absurd (by omega) y)))
        unfold ENV at hv
        refine ite_i (fun q0 => ite_i (fun q1 => ite_i (fun q2 => ite_i (fun q3 => ite_i (fun q4 => ?_) (fun q4 => ?_)) (fun q3 => ?_)) (fun q2 => ?_)) (fun q1 => ?_)) (fun q0 => ?_)
        · rw [if_neg (by omega), if_neg (by omega), if_neg (by omega), if_neg (by omega), if_neg (by omega)] at hv
          subst hv; exact ⟨rt, k6⟩
        · rw [if_neg (by omega), if_neg (by omega), if_neg (by omega), if_neg (by omega), if_pos (by omega)] at hv
          refine ⟨_, c_M_maySame s0 s5 t0 t5 hd, ite_b (fun y => ⟨rt, ?_⟩) (fun y => ⟨rt, ?_⟩)⟩
          · rw [bI_f y] at hv; subst hv; exact k6
          · rw [bI_t y] at hv; subst hv; exact k6
        · rw [if_neg (by omega), if_neg (by omega), if_neg (by omega), if_pos (by omega)] at hv
          subst hv; exact ⟨rt, k6⟩
        · rw [if_neg (by omega), if_neg (by omega), if_pos (by omega)] at hv
          subst hv; exact ⟨rt, k6⟩
        · rw [if_neg (by omega), if_pos (by omega)] at hv
          subst hv; exact ⟨rt, k6⟩
        · rw [if_pos (by omega)] at hv
          subst hv; exact ⟨rt, k6⟩
    · rw [if_neg z] at hh
      have cn : ¬ -6 ≤ c := fun t => by
        by_cases u : c = -33 ∨ c = -126
        · omega
        · rw [if_neg u] at hh
          by_cases v : bop c
          · unfold bop at v; omega
          · rw [if_neg v] at hh; cases hh
      by_cases u : c = -33 ∨ c = -126
      · rw [if_pos u] at hh
        cases st with
        | nil => simp at hh
        | cons b st =>
          rw [if_pos (by simp)] at hh
          obtain ⟨sb, sk⟩ := sk
          have l1 : w32 (((b :: st).length : Int) - 1) = (st.length : Int) := by simp only [List.length_cons] at hl ⊢; rw [w32_i (by omega) (by omega)]; omega
          have rt : 0 ≤ (st.length : Int) ∧ (st.length : Int) < 200 := by simp only [List.length_cons] at hl; exact ⟨by omega, by omega⟩
          obtain ⟨M', x9, k1, k2, k6⟩ := go (up M 77 (st.length : Int) (opu c b)) (opu c b :: st) (0, phi c) ((To.refl _ M).upd rfl) (SK_push sk) hh (by simp) (by
              conv => rhs; unfold ev
              rw [if_neg cn, if_pos u])
          refine ⟨M', x9, k1, k2, fun r hr => sg_M_worked_4 (ite_i (fun y => absurd y (by omega)) (fun _ => ⟨ri, ?_⟩))⟩
          have k6 := k6 r hr
          rw [show ((opu c b :: st).length : Int) = ((b :: st).length : Int) by simp] at k6
          rw [hc, l1, sb]
          rcases u with rfl | rfl
          · rw [show phi (-33) = 16 by decide +kernel] at k6 ⊢
            refine ite_i (fun y => absurd y (by decide)) (fun _ => ite_i (fun _ => ite_i (fun _ => ite_i (fun _ => ⟨rt, ?_⟩) (fun y => absurd (by decide) y)) (fun y => absurd rfl y)) (fun y => absurd (by decide) y))
            unfold opu at k6
            rw [if_pos rfl] at k6
            refine ite_i (fun y => ⟨rt, ?_⟩) (fun y => ⟨rt, ?_⟩)
            · rw [if_pos y] at k6; exact k6
            · rw [if_neg y] at k6; exact k6
          · rw [show phi (-126) = 17 by decide +kernel] at k6 ⊢
            refine ite_i (fun y => absurd y (by decide)) (fun _ => ite_i (fun _ => ite_i (fun y => absurd y (by decide)) (fun _ => ite_i (fun y => absurd rfl y) (fun _ => ite_i (fun y => absurd rfl y) (fun _ => ⟨rt, rt, ?_⟩)))) (fun y => absurd (by decide) y))
            unfold opu at k6
            rw [if_neg (by decide)] at k6
            exact k6
      · rw [if_neg u] at hh
        by_cases v : bop c
        · rw [if_pos v] at hh
          have pb := phi_bop v
          cases st with
          | nil => simp at hh
          | cons b st =>
            cases st with
            | nil => simp at hh
            | cons a st =>
              rw [if_pos (by simp)] at hh
              obtain ⟨sb, sa, sk⟩ := sk
              have l1 : w32 (((b :: a :: st).length : Int) + -1) = ((a :: st).length : Int) := by simp only [List.length_cons] at hl ⊢; rw [w32_i (by omega) (by omega)]; omega
              have l2 : w32 (((a :: st).length : Int) - 1) = (st.length : Int) := by simp only [List.length_cons] at hl ⊢; rw [w32_i (by omega) (by omega)]; omega
              have rt : 0 ≤ (st.length : Int) ∧ (st.length : Int) < 200 := by simp only [List.length_cons] at hl; exact ⟨by omega, by omega⟩
              have rt2 : 0 ≤ ((a :: st).length : Int) ∧ ((a :: st).length : Int) < 200 := by simp only [List.length_cons] at hl ⊢; exact ⟨by omega, by omega⟩
              obtain ⟨M', x9, k1, k2, k6⟩ := go (up M 77 (st.length : Int) (opv c a b)) (opv c a b :: st) (0, phi c) ((To.refl _ M).upd rfl) (SK_push sk) hh (by simp) (by
                conv => rhs; unfold ev
                rw [if_neg cn, if_neg u])
              refine ⟨M', x9, k1, k2, fun r hr => sg_M_worked_4 (ite_i (fun y => absurd y (by omega)) (fun _ => ⟨ri, ?_⟩))⟩
              have k6 := k6 r hr
              rw [show ((opv c a b :: st).length : Int) = ((a :: st).length : Int) by simp] at k6
              rw [hc, l1, l2, sb, sa]
              exact ite_i (fun y => absurd y (by omega)) (fun _ => ite_i (fun _ => ite_i (fun y => absurd y (by omega)) (fun _ => ite_i (fun _ => ⟨rt, rt2, _, c_M_both v (by omega), rt, k6⟩) (fun y => absurd (by omega) y))) (fun y => absurd (by omega) y))
        · rw [if_neg v] at hh; cases hh
theorem c_M_worked (hd : 3 ≤ d) (s0 : 0 ≤ s) (s5 : s ≤ 5) (t0 : 0 ≤ t) (t5 : t ≤ 5) {cs : List Int} {i : Int} (hA : At (M 72) i (cs.map phi)) (hh : hg cs 0 = some 1) (i0 : 0 ≤ i) (it : i + cs.length = to) (hto : to ≤ 120) : ∃ M', To TV M M' ∧ Cl d m_M_worked [(2, 64), (0, i), (0, to), (0, f), (0, s), (0, t), (0, q)] M (rI (hd0 (ev (ENV M f s t q) cs [])) M') := by
  obtain ⟨M', x9, k1, k2, k3⟩ := M_ev (d := 2) (f := f) (q := q) (w1 := (0, i)) (by decide) s0 s5 t0 t5 hto cs [] i M (3, 0) 1 hA hh (by simp; omega) i0 (by omega) trivial
  rw [hg1 hh] at k2
  refine ⟨M', k1, (sg_M_worked (d := 2) (k3 _ (sg_M_worked_4 (ite_i (fun _ => ?_) (fun y => absurd (by omega) y))))).mono hd⟩
  rw [show M' 77 0 = hd0 (ev (ENV M f s t q) cs []) from k2.1]
theorem M_lines (hd : 3 ≤ d) (s0 : 0 ≤ s) (s5 : s ≤ 5) (t0 : 0 ≤ t) (t5 : t ≤ 5) {w2 w3 : AV} : ∀ (Ls : List LN) (i o : Int) (M : Mem), ML M i o Ls → GL Ls → 0 ≤ o → o + tl Ls ≤ 120 → 0 ≤ i → i + Ls.length ≤ 60 → M 64 8 = i + Ls.length → ∃ M', To TV M M' ∧ at_M_alikeTo_38 d s w2 w3 f t q i M (rI (lawV (ENV M f s t q) Ls) M')
  | [], i, o, M, hM, hG, o0, oT, i0, i6, h8 => ⟨M, To.refl _ M, sg_M_alikeTo_38 (ite_i (fun _ => rfl) (fun y => absurd (by simp at h8; omega) y))⟩
  | (A, S) :: Ls, i, o, M, hM, hG, o0, oT, i0, i6, h8 => by
    obtain ⟨m1, m2, m3, m4, m5⟩ := hM
    obtain ⟨g1, g2, g3⟩ := hG
    have oT : o + ((A.length + S.length + tl Ls : Nat) : Int) ≤ 120 := oT
    have m2 : M 70 i = o + A.length := m2
    have m3 : M 71 i = o + A.length + S.length := m3
    have m4 : At (M 72) o ((A ++ S).map phi) := m4
    rw [List.map_append] at m4
    obtain ⟨a1, a2⟩ := At_app.mp m4
    rw [List.length_map] at a2
    simp only [List.length_cons] at h8 i6
    have ri : 0 ≤ i ∧ i < 60 := ⟨i0, by omega⟩
    have say : ∀ (M1 : Mem), To TV M M1 → ∃ M', To TV M M' ∧ Cl d m_M_worked [(2, 64), (0, M1 70 i), (0, M1 71 i), (0, f), (0, s), (0, t), (0, q)] M1 (rI (hd0 (ev (ENV M f s t q) S [])) M') := fun M1 t1 => by
      rw [t1 70 i (by unfold TV; omega), t1 71 i (by unfold TV; omega), m2, m3]
      have e72 : M1 72 = M 72 := funext fun j => t1 72 j (by unfold TV; omega)
      have e64 : M1 64 4 = M 64 4 := t1 64 4 (by unfold TV; omega)
      obtain ⟨M', k1, k2⟩ := c_M_worked (M := M1) (to := o + A.length + S.length) (f := f) (q := q) hd s0 s5 t0 t5 (by rw [e72]; exact a2) g2 (by omega) (by omega) (by omega)
      have : ENV M1 f s t q = ENV M f s t q := by unfold ENV; rw [e64]
      rw [this] at k2
      exact ⟨M', t1.trans k1, k2⟩
    cases A with
    | nil =>
      obtain ⟨M', k1, k2⟩ := say M (To.refl _ M)
      rw [show lawV (ENV M f s t q) (([], S) :: Ls) = clampV (hd0 (ev (ENV M f s t q) S [])) from if_pos (Or.inl rfl)]
      refine ⟨M', k1, sg_M_alikeTo_38 (ite_i (fun y => absurd y (by omega)) (fun _ => ⟨ri, ri, ite_i (fun _ => ⟨ri, ri, _, _, k2, rfl⟩) (fun y => absurd (by rw [m1, m2]; simp) y)⟩))⟩
    | cons a A =>
      have hgA := g1.resolve_left (by simp)
      have la : ((a :: A).length : Int) = A.length + 1 := by simp
      obtain ⟨M1, j1, j2⟩ := c_M_worked (M := M) (i := o) (to := o + (a :: A).length) (f := f) (q := q) hd s0 s5 t0 t5 a1 hgA o0 rfl (by omega)
      have pre : ∀ {r : Res}, (if ¬ hd0 (ev (ENV M f s t q) (a :: A) []) = 0 then ∃ v19 M20, Cl d m_M_worked [(2, 64), (0, M1 70 i), (0, M1 71 i), (0, f), (0, s), (0, t), (0, q)] M1 (some (0, v19), M20) ∧ r = (some (0, clampV v19), M20) else at_M_alikeTo_38 d s w2 w3 f t q (i + 1) M1 r) → at_M_alikeTo_38 d s w2 w3 f t q i M r := fun {r} hv => by
        refine sg_M_alikeTo_38 (ite_i (fun y => absurd y (by omega)) (fun _ => ⟨ri, ri, ite_i (fun y => absurd y (by rw [m1, m2, la]; omega)) (fun _ => ⟨ri, ri, ?_⟩)⟩))
        rw [m1, m2, w32_i (x := i + 1) (by omega) (by omega)]
        refine ⟨_, _, j2, ite_i (fun y => ?_) (fun y => ?_)⟩
        · rw [if_pos y] at hv; exact ⟨ri, ri, hv⟩
        · rw [if_neg y] at hv; exact hv
      by_cases z : hd0 (ev (ENV M f s t q) (a :: A) []) = 0
      · rw [show lawV (ENV M f s t q) ((a :: A, S) :: Ls) = lawV (ENV M f s t q) Ls from if_neg (fun y => y.elim (by simp) (fun y => y z))]
        have e : ∀ o' : Nat, ¬ o' = 77 → M1 o' = M o' := fun o' h => funext fun j => j1 o' j h
        obtain ⟨M', k1, k2⟩ := M_lines hd s0 s5 t0 t5 (w2 := w2) (w3 := w3) Ls (i + 1) (o + (a :: A).length + S.length) M1 (ML_ag (e 69 (by decide)) (e 70 (by decide)) (e 71 (by decide)) (e 72 (by decide)) m5) g3 (by omega) (by omega) (by omega) (by omega) (by rw [e 64 (by decide)]; omega)
        have : ENV M1 f s t q = ENV M f s t q := by unfold ENV; rw [e 64 (by decide)]
        rw [this] at k2
        exact ⟨M', j1.trans k1, pre (by rw [if_neg (fun y => y z)]; exact k2)⟩
      · rw [show lawV (ENV M f s t q) ((a :: A, S) :: Ls) = clampV (hd0 (ev (ENV M f s t q) S [])) from if_pos (Or.inr z)]
        obtain ⟨M', k1, k2⟩ := say M1 j1
        exact ⟨M', k1, pre (by rw [if_pos z]; exact ⟨_, _, k2, rfl⟩)⟩
end P45
