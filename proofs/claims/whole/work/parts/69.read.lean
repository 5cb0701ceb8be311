/-! a layer of the reader: Y { op Y } -/
section P53
variable {M N C : Mem} {n k q c v x : Int} {T : Int → Int} {d mX mX' mY mY' : Nat} {ops : Int → Prop} {XL : Int → AV → Mem → Res → Prop} {ML : AV → Mem → Res → Prop}
/-- the loop behind the first Y -/
theorem loop_gen (n120 : n ≤ 120) (hd : 2 ≤ d) (opr : ∀ v, ops v → 0 ≤ v ∧ bop (-v)) (opd : ∀ v, ops v ∨ ¬ ops v)
    (xStop : ∀ C p q l2 w3, SC n T C p q → 0 ≤ p → ¬ ops (nxb n T p) → XL l2 w3 C (rV C))
    (xFault : ∀ C l2 w3, ¬ C 31 9 = -1 → XL l2 w3 C (rV C))
    (xOp : ∀ C p q l2 w3 r, SC n T C p q → 0 ≤ p → p < n → ops (nxb n T p) → 0 ≤ l2 → l2 < 120 → (∃ M8, Cl d mY [(2, 31), (0, k)] (up C 31 8 (p + 1)) (rV M8) ∧ ∃ M10, Cl d m_L_emit [(2, 31), (0, -nxb n T p)] M8 (rV M10) ∧ ∀ w, XL (l2 + 1) w M10 r) → XL l2 w3 C r)
    (mStop : ∀ N p c w, SN n T k N p c → 0 ≤ p → ¬ ops (nxb n T p) → ML w N (rI 1 N))
    (mOp : ∀ N p c w r, SN n T k N p c → 0 ≤ p → p < n → ops (nxb n T p) → (∃ v M9, Cl d mY' [(2, 64)] (up N 64 13 (p + 1)) (rI v M9) ∧ (if ¬ v = 0 then ∃ v2 M13, Cl d m_M_codes [(2, 64), (0, phi (-nxb n T p))] M9 (rI v2 M13) ∧ ∀ w, ML w M13 r else r = rI 0 M9)) → ML w N r)
    (hY : ∀ p, 0 ≤ p → p ≤ n → PRG n T k HG1 (fun C r => Cl d mY [(2, 31), (0, k)] C r) (fun N r => Cl d mY' [(2, 64)] N r) 1 p) :
    ∀ (m : Nat) (p : Int), 0 ≤ p → p ≤ n → n - p ≤ m → PRG n T k HG0 (fun C r => ∀ l2 w3, 0 ≤ l2 → l2 ≤ p → XL l2 w3 C r) (fun N r => ∀ w, ML w N r) 0 p := by
  intro m
  have stop : ∀ p : Int, 0 ≤ p → p ≤ n → ¬ ops (nxb n T p) → PRG n T k HG0 (fun C r => ∀ l2 w3, 0 ≤ l2 → l2 ≤ p → XL l2 w3 C r) (fun N r => ∀ w, ML w N r) 0 p := fun p p0 pn hn => by
    refine ⟨true, [], p, ⟨Int.le_refl _, pn⟩, fun _ => ⟨by omega, by simp, fun h => rfl⟩, fun C q hC q0 q2 => ⟨C, fun l2 w3 _ _ => xStop C p q l2 w3 hC p0 hn, To.refl _ C, fun _ => ⟨by simpa using hC, trivial⟩, fun e => by cases e⟩, fun N c hN c0 cp => ⟨N, fun w => mStop N p c w hN p0 hn, To.refl _ N, fun _ => ⟨by simpa using hN, trivial⟩, fun e => by cases e⟩⟩
  induction m with
  | zero =>
    intro p p0 pn hm
    refine stop p p0 pn (fun t => ?_)
    have := (opr _ t).1
    unfold nxb at this
    rw [if_neg (by omega)] at this
    omega
  | succ m ih =>
    intro p p0 pn hm
    rcases opd (nxb n T p) with hop | hop
    rotate_left
    · exact stop p p0 pn hop
    have p1 : p < n := by
      have := (opr _ hop).1
      unfold nxb at this
      refine Classical.byContradiction fun t => ?_
      rw [if_neg t] at this
      omega
    have hb := (opr _ hop).2
    obtain ⟨b1, cs1, p1', ⟨r1, r2⟩, ok1, hX1, hM1⟩ := hY (p + 1) (by omega) (by omega)
    cases b1 with
    | false =>
      refine ⟨false, [], p1', ⟨by omega, r2⟩, fun e => (by cases e), fun C q hC q0 q2 => ?_, fun N c hN c0 cp => ?_⟩
      · obtain ⟨C1, x1, t1, -, bad⟩ := hX1 _ q hC.on q0 (by omega)
        obtain ⟨f1, f2⟩ := bad rfl
        obtain ⟨C2, y1, y2, y3, y4⟩ := c_L_emitF (C := C1) (v := -nxb n T p) (d := d) q0 f2 (by omega)
        have fl : ¬ C2 31 9 = -1 := by omega
        refine ⟨C2, fun l2 w3 l0 lp => xOp C p q l2 w3 _ hC p0 p1 hop l0 (by omega) ⟨C1, x1, C2, y1, fun w => xFault C2 _ w fl⟩, ((((To.refl _ C).upd (by unfold LX; omega)).trans t1).trans y2), fun e => (by cases e), fun _ => ⟨by omega, y4⟩⟩
      · obtain ⟨N1, x1, t1, -, bad⟩ := hM1 _ c hN.on c0 (by omega)
        exact ⟨N1, fun w => mOp N p c w _ hN p0 p1 hop ⟨0, N1, x1, by rw [if_neg (by decide)]; rfl⟩, ((To.refl _ N).upd (by unfold MX; omega)).trans t1, fun e => (by cases e), fun _ => bad rfl⟩
    | true =>
      obtain ⟨o1, o2, o3⟩ := ok1 rfl
      obtain ⟨b2, cs2, p2', ⟨s1, s2⟩, ok2, hX2, hM2⟩ := ih p1' (by omega) r2 (by omega)
      have l : ((cs1 ++ (-nxb n T p) :: cs2).length : Int) = cs1.length + 1 + cs2.length := by simp; omega
      refine ⟨b2, cs1 ++ (-nxb n T p) :: cs2, p2', ⟨by omega, s2⟩, fun e => ⟨by omega, by rw [l]; have := (ok2 e).2.1; omega, HG_op o3 hb (ok2 e).2.2⟩, fun C q hC q0 q2 => ?_, fun N c hN c0 cp => ?_⟩
      · obtain ⟨C1, x1, t1, okC, -⟩ := hX1 _ q hC.on q0 (by omega)
        obtain ⟨sc, a1⟩ := okC rfl
        have em := c_L_emit (C := C1) (q := q + cs1.length) (v := -nxb n T p) (d := d) sc.2.2.2.1 (by omega) (by omega) (by omega)
        obtain ⟨C2, hC2⟩ : ∃ C2, C2 = up (up C1 35 (q + cs1.length) (-nxb n T p)) 31 7 (q + cs1.length + 1) := ⟨_, rfl⟩
        rw [← hC2] at em
        have sc2 : SC n T C2 p1' (q + cs1.length + 1) := sc.at (by rw [hC2, up_n (by omega), up_n (by omega)]) (by rw [hC2, up_n (by omega), up_n (by omega)]) (funext fun j => by rw [hC2, up_n (by omega), up_n (by omega)]) (by rw [hC2, up_n (by omega), up_n (by omega)]; exact sc.2.1) (by rw [hC2, up_eq])
        obtain ⟨C3, x3, cp3⟩ := hX2 C2 _ sc2 (by omega) (by omega)
        refine ⟨C3, fun l2 w3 l0 lp => xOp C p q l2 w3 _ hC p0 p1 hop l0 (by omega) ⟨C1, x1, C2, em, fun w => x3 (l2 + 1) w (by omega) (by omega)⟩, CP_then q0 (((To.refl _ C).upd (by unfold LX; omega)).trans t1) a1 (by rw [hC2]; exact ((To.refl _ C1).upd (by unfold LX; omega)).upd (by unfold LX; omega)) ⟨by rw [hC2, up_n (by omega), up_eq], trivial⟩ cp3⟩
      · obtain ⟨N1, x1, t1, okN, -⟩ := hM1 _ c hN.on c0 (by omega)
        obtain ⟨sn, a1⟩ := okN rfl
        have em := c_M_codes (N := N1) (c := c + cs1.length) (v := phi (-nxb n T p)) (d := d) sn.2.2.1 (by omega) (by omega) (by omega)
        obtain ⟨N2, hN2⟩ : ∃ N2, N2 = up (up N1 64 15 (c + cs1.length + 1)) 76 (c + cs1.length) (phi (-nxb n T p)) := ⟨_, rfl⟩
        rw [← hN2] at em
        have sn2 : SN n T k N2 p1' (c + cs1.length + 1) := sn.at (by rw [hN2, up_n (by omega), up_n (by omega)]) (funext fun j => by rw [hN2, up_n (by omega), up_n (by omega)]) (by rw [hN2, up_n (by omega), up_n (by omega)]; exact sn.2.1) (by rw [hN2, up_n (by omega), up_eq]) (by rw [hN2, up_n (by omega), up_n (by omega)]; exact sn.2.2.2.1)
        obtain ⟨N3, x3, cp3⟩ := hM2 N2 _ sn2 (by omega) (by omega)
        refine ⟨N3, fun w => mOp N p c w _ hN p0 p1 hop ⟨1, N1, x1, by rw [if_pos (by decide)]; exact ⟨1, N2, em, fun w => x3 w⟩⟩, NP_then c0 (((To.refl _ N).upd (by unfold MX; omega)).trans t1) a1 (by rw [hN2]; exact ((To.refl _ N1).upd (by unfold MX; omega)).upd (by unfold MX; omega)) ⟨by rw [hN2, up_eq], trivial⟩ cp3⟩
/-- the whole layer -/
theorem full_gen {p : Int} (p0 : 0 ≤ p) (pn : p ≤ n)
    (xFault : ∀ C l2 w3, ¬ C 31 9 = -1 → XL l2 w3 C (rV C))
    (xIn : ∀ C r, (∃ M2, Cl d mY [(2, 31), (0, k)] C (rV M2) ∧ ∀ w, XL 0 w M2 r) → Cl (d + 1) mX [(2, 31), (0, k)] C r)
    (mIn : ∀ N r, (∃ v M3, Cl d mY' [(2, 64)] N (rI v M3) ∧ (if ¬ v = 0 then ∀ w, ML w M3 r else r = rI 0 M3)) → Cl (d + 1) mX' [(2, 64)] N r)
    (hY : PRG n T k HG1 (fun C r => Cl d mY [(2, 31), (0, k)] C r) (fun N r => Cl d mY' [(2, 64)] N r) 1 p)
    (hL : ∀ p, 0 ≤ p → p ≤ n → PRG n T k HG0 (fun C r => ∀ l2 w3, 0 ≤ l2 → l2 ≤ p → XL l2 w3 C r) (fun N r => ∀ w, ML w N r) 0 p) :
    PRG n T k HG1 (fun C r => Cl (d + 1) mX [(2, 31), (0, k)] C r) (fun N r => Cl (d + 1) mX' [(2, 64)] N r) 1 p := by
  obtain ⟨b1, cs1, p1', ⟨r1, r2⟩, ok1, hX1, hM1⟩ := hY
  cases b1 with
  | false =>
    refine ⟨false, [], p1', ⟨r1, r2⟩, fun e => (by cases e), fun C q hC q0 q2 => ?_, fun N c hN c0 cp => ?_⟩
    · obtain ⟨C1, x1, t1, -, bad⟩ := hX1 C q hC q0 q2
      obtain ⟨f1, f2⟩ := bad rfl
      exact ⟨C1, xIn C _ ⟨C1, x1, fun w => xFault C1 0 w (by omega)⟩, t1, fun e => (by cases e), fun _ => ⟨f1, f2⟩⟩
    · obtain ⟨N1, x1, t1, -, bad⟩ := hM1 N c hN c0 cp
      exact ⟨N1, mIn N _ ⟨0, N1, x1, by rw [if_neg (by decide)]; rfl⟩, t1, fun e => (by cases e), bad⟩
  | true =>
    obtain ⟨o1, o2, o3⟩ := ok1 rfl
    obtain ⟨b2, cs2, p2', ⟨s1, s2⟩, ok2, hX2, hM2⟩ := hL p1' (by omega) r2
    have l : ((cs1 ++ cs2).length : Int) = cs1.length + cs2.length := by simp
    refine ⟨b2, cs1 ++ cs2, p2', ⟨by omega, s2⟩, fun e => ⟨by omega, by rw [l]; have := (ok2 e).2.1; omega, HG_then o3 (ok2 e).2.2⟩, fun C q hC q0 q2 => ?_, fun N c hN c0 cp => ?_⟩
    · obtain ⟨C1, x1, t1, okC, -⟩ := hX1 C q hC q0 q2
      obtain ⟨sc, a1⟩ := okC rfl
      obtain ⟨C3, x3, t3, ok3, bad3⟩ := hX2 C1 _ sc (by omega) (by omega)
      refine ⟨C3, xIn C _ ⟨C1, x1, fun w => x3 0 w (by decide) (by omega)⟩, t1.trans (t3.wk (LX_le (by omega))), fun e => ?_, fun e => ?_⟩
      · obtain ⟨s, a3⟩ := ok3 e
        rw [l, show q + ((cs1.length : Int) + cs2.length) = q + cs1.length + cs2.length by omega]
        exact ⟨s, At_app.mpr ⟨At_congr (fun i i0 i1 => t3 35 i (by unfold LX; omega)) a1, a3⟩⟩
      · obtain ⟨e1, e2⟩ := bad3 e
        exact ⟨e1, by omega⟩
    · obtain ⟨N1, x1, t1, okN, -⟩ := hM1 N c hN c0 cp
      obtain ⟨sn, a1⟩ := okN rfl
      obtain ⟨N3, x3, t3, ok3, bad3⟩ := hM2 N1 _ sn (by omega) (by omega)
      refine ⟨N3, mIn N _ ⟨1, N1, x1, by rw [if_pos (by decide)]; exact fun w => x3 w⟩, t1.trans (t3.wk (MX_le (by omega))), fun e => ?_, bad3⟩
      obtain ⟨s, a3⟩ := ok3 e
      rw [l, show c + ((cs1.length : Int) + cs2.length) = c + cs1.length + cs2.length by omega]
      refine ⟨s, ?_⟩
      rw [List.map_append]
      refine At_app.mpr ⟨At_congr (fun i i0 i1 => ?_) a1, ?_⟩
      · rw [List.length_map] at i1
        exact t3 76 i (by unfold MX; omega)
      · rw [List.length_map]; exact a3
end P53
