/-! the scratch cells; promises whose, drawers, sign -/
def Scr (o : Nat) (i : Int) : Prop := (o = 33 ∨ o = 35 ∨ o = 36 ∨ o = 61 ∨ o = 62 ∨ o = 63 ∨ (73 ≤ o ∧ o ≤ 77) ∨ o = 87 ∨ o = 88) ∨ (o = 31 ∧ 7 ≤ i ∧ i ≤ 10) ∨ (o = 46 ∧ (i = 4 ∨ i = 5)) ∨ (o = 64 ∧ ((13 ≤ i ∧ i ≤ 16) ∨ i = 37 ∨ i = 38 ∨ i = 41))
/-- only scratch cells differ -/
def Fr (M M' : Mem) : Prop := ∀ (o : Nat) (i : Int), ¬ Scr o i → M' o i = M o i
theorem Fr.refl (M : Mem) : Fr M M := fun _ _ _ => rfl
theorem Fr.trans {M M1 M2 : Mem} (h : Fr M M1) (g : Fr M1 M2) : Fr M M2 := fun o i q => (g o i q).trans (h o i q)
theorem Fr.upd {M M' : Mem} {o : Nat} {i v : Int} (h : Fr M M') (s : Scr o i) : Fr M (up M' o i v) := fun b j q => by
  have : ¬ (b = o ∧ j = i) := fun z => q (by rw [z.1, z.2]; exact s)
  unfold up
  rw [if_neg this]
  exact h b j q
theorem Fr.f64 {M M' : Mem} (h : Fr M M') {i : Int} (hi : i ≤ 12) : M' 64 i = M 64 i := h 64 i (by unfold Scr; omega)
theorem R1.fr {M M' : Mem} (r : R1 M) (h : Fr M M') : R1 M' := by
  unfold R1 at r ⊢
  rw [h 1 5 (by unfold Scr; omega), h 1 6 (by unfold Scr; omega), h.f64 (by decide), h.f64 (by decide)]
  exact r
theorem R2.fr {M M' : Mem} (r1 : R1 M) (r : R2 M) (h : Fr M M') : R2 M' := fun c f c0 cn f0 f9 => by
  rw [h.f64 (by decide)] at cn
  have e3 := r1.2.2.1
  rw [h 65 _ (by unfold Scr; omega), h 66 _ (by unfold Scr; omega), h ((3 + c).toNat) f (by unfold Scr; omega), h ((16 + c).toNat) f (by unfold Scr; omega)]
  exact r c f c0 cn f0 f9
theorem R3.fr {M M' : Mem} (r : R3 M) (h : Fr M M') : R3 M' := fun c c0 cn => by
  rw [h.f64 (by decide)] at cn
  rw [h 28 _ (by unfold Scr; omega), h 29 _ (by unfold Scr; omega)]
  obtain ⟨x, y, z⟩ := r c c0 cn
  refine ⟨x, y, fun i hi => ?_⟩
  rw [h 65 _ (by unfold Scr; omega)]
  exact z i hi
theorem R4.fr {M M' : Mem} (r : R4 M) (h : Fr M M') : R4 M' := fun c c0 cn => by
  rw [h.f64 (by decide)] at cn
  rw [h 30 _ (by unfold Scr; omega), h 67 _ (by unfold Scr; omega)]
  exact r c c0 cn
theorem FIT_fr {M M' : Mem} (h : Fr M M') {s r c f : Int} : FIT M' s r c f ↔ FIT M s r c f := by
  unfold FIT
  rw [h 65 _ (by unfold Scr; omega), h 66 _ (by unfold Scr; omega), h.f64 (by decide)]
theorem FO_fr {M M' : Mem} (h : Fr M M') {s r c : Int} : FO M' s r c = FO M s r c := setB_congr (fun _ _ => decide_eq_decide.mpr (FIT_fr h))
theorem CO_fr {M M' : Mem} (h : Fr M M') {s r : Int} : CO M' s r = CO M s r := by
  unfold CO
  rw [h.f64 (by decide)]
  exact setB_congr (fun _ _ => decide_eq_decide.mpr (by rw [FO_fr h]))
theorem LIE_fr {M M' : Mem} (h : Fr M M') {c x : Int} : LIE M' c x ↔ LIE M c x := by
  unfold LIE
  rw [h 28 _ (by unfold Scr; omega), h 29 _ (by unfold Scr; omega)]
theorem CD_fr {M M' : Mem} (h : Fr M M') {m : Int} : CD M' m = CD M m := cntB_congr (fun j _ => decide_eq_decide.mpr (by
  rw [h.f64 (by decide)]
  rw [show cntB (fun c => bt m c && decide (LIE M' (c : Int) (j : Int))) (M 64 0).toNat = cntB (fun c => bt m c && decide (LIE M (c : Int) (j : Int))) (M 64 0).toNat from cntB_congr (fun c _ => by rw [decide_eq_decide.mpr (LIE_fr h)])]))
/-- both give v; only scratch cells are written -/
def Bw (x y : Nat) (as : List AV) (M : Mem) : Prop := ∃ (v : Int) (M1 M2 : Mem), Cl 40 x ((2, 0) :: as) M (rI v M1) ∧ Fr M M1 ∧ Cl 40 y ((2, 64) :: as) M1 (rI v M2) ∧ Fr M1 M2
def sumB (g : Nat → Int) : Nat → Int
  | 0 => 0
  | k + 1 => sumB g k + g k
theorem sumB_le {g : Nat → Int} {b : Int} (b0 : 0 ≤ b) (h : ∀ i, 0 ≤ g i ∧ g i ≤ b) : ∀ k : Nat, 0 ≤ sumB g k ∧ sumB g k ≤ b * k
  | 0 => ⟨Int.le_refl _, by simp [sumB]⟩
  | k + 1 => by
    have ih := sumB_le b0 h k
    have hk := h k
    show 0 ≤ sumB g k + g k ∧ sumB g k + g k ≤ b * ((k + 1 : Nat) : Int)
    rw [Int.natCast_add, Int.mul_add]
    omega
theorem and1 (x : Int) : iand x 1 = 0 ∨ iand x 1 = 1 := by
  by_cases q : bt x 0 = true
  · refine Or.inr (bt_ext (c_iand _ _) ⟨by decide, by decide⟩ fun i hi => ?_)
    rw [bt_and, bt_one i hi]
    by_cases z : i = 0
    · subst z; rw [q]; rfl
    · simp [z]
  · refine Or.inl (bt_ext (c_iand _ _) c32_0 fun i hi => ?_)
    rw [bt_and, bt_one i hi, bt_z]
    by_cases z : i = 0
    · subst z; simp at q; simp [q]
    · simp [z]
theorem bc_FO {M : Mem} {s r c : Int} : 0 ≤ bc (FO M s r c) ∧ bc (FO M s r c) ≤ 10 := by
  have := cntB_le (fun f => decide (FIT M s r c (f : Int))) 10
  unfold FO
  rw [bc_setB10]
  exact this
theorem w01 {b : Int} : ¬ ((0, b) : AV).1 = 1 := show ¬ ((0 : Nat) = 1) by decide
section P12
variable {M : Mem} {a b c m x : Int}
theorem c_X_countGlassFingers (h1 : R1 M) (h2 : R2 M) (hg : 0 ≤ x ∧ x / 100 ≤ 4 ∧ x % 100 ≤ 30) : Cl 39 m_X_countGlassFingers [(2, 0), (0, x)] M (rI (sumB (fun c => bc (FO M (x / 100) (x % 100) (c : Int))) (M 64 0).toNat) M) := by
  have e1 := h1.1; have e2 := h1.2.1; have e3 := h1.2.2.1
  refine (sg_X_countGlassFingers (d := 38) ?_)
  refine loop_up (fun v i => at_X_countGlassFingers_4 38 x v i M _) (sumB (fun c => bc (FO M (x / 100) (x % 100) (c : Int)))) (M 64 0).toNat ?_ ?_
  · exact sg_X_countGlassFingers_4 (ite_i (fun _ => rfl) (fun q => absurd (by omega) q))
  · intro k hk ih
    have hs := sumB_le (b := 10) (by decide) (fun i => bc_FO (M := M) (s := x / 100) (r := x % 100) (c := (i : Int))) k
    have hb := bc_FO (M := M) (s := x / 100) (r := x % 100) (c := (k : Int))
    refine sg_X_countGlassFingers_4 (ite_i (fun q => absurd q (by omega)) (fun _ => ?_))
    rw [w32_k (by omega)]
    refine ⟨_, c_X_glassFingers h1 h2 hg (by omega) (by omega) (by decide), _, c_J_bitCount (by decide), ?_⟩
    rw [w32_i (by omega) (by omega)]
    exact ih
/-- the reference keeps the glass in two scratch cells -/
def tk (M : Mem) (x : Int) : Mem := up (up M 64 37 (x / 100)) 64 38 (x % 100)
theorem tk_fr : Fr M (tk M x) := ((Fr.refl M).upd (by unfold Scr; omega)).upd (by unfold Scr; omega)
theorem tk_s : tk M x 64 37 = x / 100 := by unfold tk; rw [up_ne2 (by decide), up_eq]
theorem tk_r : tk M x 64 38 = x % 100 := by unfold tk; rw [up_eq]
theorem c_M_takes (hg : 0 ≤ x ∧ x / 100 ≤ 4 ∧ x % 100 ≤ 30) : Cl 39 m_M_takes [(2, 64), (0, w32 (Int.tdiv x 100)), (0, w32 (Int.tmod x 100))] M (none, tk M x) := by
  obtain ⟨t1, t2, t3, t4⟩ := gl hg
  rw [t1, t2]
  exact sg_M_takes (d := 38) rfl
theorem pr_whose (h1 : R1 M) (h2 : R2 M) (ha : c32 a) : Bw m_X_whose m_M_whose [(0, a), (0, b)] M := by
  have e1 := h1.1; have e2 := h1.2.1; have e3 := h1.2.2.1
  by_cases hg : 0 ≤ a ∧ a / 100 ≤ 4 ∧ a % 100 ≤ 30
  · have g1 := h1.fr (tk_fr (x := a)); have g2 := h2.fr h1 (tk_fr (x := a))
    have n0 : tk M a 64 0 = M 64 0 := (tk_fr (x := a)).f64 (by decide)
    have ww : w32 (M 64 0 - 1) = M 64 0 - 1 := w32_i (by omega) (by omega)
    by_cases w : -2 ≤ b ∧ b < M 64 0
    · have Y : ∀ v, (if b < 0 then (if ¬ b = (-1) then at_M_whose_37 39 (0, a) (0, b) 0 0 (tk M a) (rI v (tk M a)) else ∃ v12, Cl 39 m_M_cardsOn [(2, 64)] (tk M a) (some (0, v12), tk M a) ∧ rI v (tk M a) = (some (0, v12), tk M a)) else ∃ v14, Cl 39 m_M_fingersOn [(2, 64), (0, b)] (tk M a) (some (0, v14), tk M a) ∧ rI v (tk M a) = (some (0, v14), tk M a)) → Cl 40 m_M_whose [(2, 64), (0, a), (0, b)] M (rI v (tk M a)) := fun v hv => by
        refine sg_M_whose (d := 39) ⟨_, c_M_isGlass ha (by decide), ite_b (fun q => absurd hg q) (fun _ => ⟨_, c_M_within (by decide), ite_bn (fun _ => ⟨_, c_M_takes hg, hv⟩) (fun q => absurd ⟨w.1, by omega⟩ q)⟩)⟩
      have X : ∀ v, (if b < 0 then (if ¬ b = (-1) then ∃ v9, Cl 39 m_X_countGlassFingers [(2, 0), (0, a)] M (some (0, v9), M) ∧ rI v M = (some (0, v9), M) else ∃ v11, Cl 39 m_X_glassCards [(2, 0), (0, a)] M (some (0, v11), M) ∧ rI v M = (some (0, v11), M)) else ∃ v13, Cl 39 m_X_glassFingers [(2, 0), (0, a), (0, b)] M (some (0, v13), M) ∧ rI v M = (some (0, v13), M)) → Cl 40 m_X_whose [(2, 0), (0, a), (0, b)] M (rI v M) := fun v hv => by
        refine sg_X_whose (d := 39) ⟨_, c_X_isGlass ha (by decide), ite_b (fun q => absurd hg q) (fun _ => ite_i (fun q => absurd q (by omega)) (fun _ => ite_i (fun _ => hv) (fun q => absurd (by omega) q)))⟩
      by_cases q0 : b < 0
      · by_cases q1 : b = -1
        · refine ⟨CO M (a / 100) (a % 100), M, tk M a, X _ ?_, Fr.refl M, Y _ ?_, tk_fr⟩
          · rw [if_pos q0, if_neg (fun q => q q1)]
            exact ⟨_, c_X_glassCards h1 h2 hg (by decide), rfl⟩
          · rw [if_pos q0, if_neg (fun q => q q1)]
            have := c_M_cardsOn (d := 39) g1 g2 tk_s tk_r (by omega) (by omega) (by omega) (by omega) (by decide)
            rw [CO_fr (tk_fr (x := a))] at this
            exact ⟨_, this, rfl⟩
        · refine ⟨sumB (fun c => bc (FO M (a / 100) (a % 100) (c : Int))) (M 64 0).toNat, M, tk M a, X _ ?_, Fr.refl M, Y _ ?_, tk_fr⟩
          · rw [if_pos q0, if_pos q1]
            exact ⟨_, c_X_countGlassFingers h1 h2 hg, rfl⟩
          · rw [if_pos q0, if_pos q1]
            refine loop_up (fun v i => at_M_whose_37 39 (0, a) (0, b) v i (tk M a) _) (sumB (fun c => bc (FO M (a / 100) (a % 100) (c : Int)))) (M 64 0).toNat ?_ ?_
            · exact sg_M_whose_37 w01 (ite_i (fun _ => rfl) (fun q => absurd (by omega) q))
            · intro k hk ih
              have hs := sumB_le (b := 10) (by decide) (fun i => bc_FO (M := M) (s := a / 100) (r := a % 100) (c := (i : Int))) k
              have hb := bc_FO (M := M) (s := a / 100) (r := a % 100) (c := (k : Int))
              refine sg_M_whose_37 w01 (ite_i (fun q => absurd q (by omega)) (fun _ => ?_))
              rw [w32_k (by omega)]
              refine ⟨_, c_M_fingersOn g1 g2 tk_s tk_r (by omega) (by omega) (by omega) (by omega) (by omega) (by omega) (by decide), _, c_J_bitCount (by decide), ?_⟩
              rw [FO_fr (tk_fr (x := a)), w32_i (by omega) (by omega)]
              exact ih
      · refine ⟨FO M (a / 100) (a % 100) b, M, tk M a, X _ ?_, Fr.refl M, Y _ ?_, tk_fr⟩
        · rw [if_neg q0]
          exact ⟨_, c_X_glassFingers h1 h2 hg (by omega) w.2 (by decide), rfl⟩
        · rw [if_neg q0]
          have := c_M_fingersOn (d := 39) (c := b) g1 g2 tk_s tk_r (by omega) (by omega) (by omega) (by omega) (by omega) (by omega) (by decide)
          rw [FO_fr (tk_fr (x := a))] at this
          exact ⟨_, this, rfl⟩
    · refine ⟨-1, M, M, sg_X_whose (d := 39) ⟨_, c_X_isGlass ha (by decide), ite_b (fun _ => rfl) (fun _ => ite_i (fun _ => rfl) (fun q => ite_i (fun q2 => absurd ⟨by omega, by omega⟩ w) (fun _ => rfl)))⟩, Fr.refl M, sg_M_whose (d := 39) ⟨_, c_M_isGlass ha (by decide), ite_b (fun _ => rfl) (fun _ => ⟨_, c_M_within (by decide), ite_bn (fun q => absurd ⟨q.1, by omega⟩ w) (fun _ => rfl)⟩)⟩, Fr.refl M⟩
  · exact ⟨-1, M, M, sg_X_whose (d := 39) ⟨_, c_X_isGlass ha (by decide), ite_b (fun _ => rfl) (fun q => absurd q hg)⟩, Fr.refl M, sg_M_whose (d := 39) ⟨_, c_M_isGlass ha (by decide), ite_b (fun _ => rfl) (fun q => absurd q hg)⟩, Fr.refl M⟩
theorem c_M_drawers_in (h1 : R1 M) (h3 : R3 M) {s : AV} {l3 : Int} {k : Nat} {r : Res} (h : (if cntB (fun c => bt m c && decide (LIE M (c : Int) (k : Int))) (M 64 0).toNat = 0 then ∀ w5 w6, at_M_drawers_20 39 s m l3 (w32 ((k : Int) + 1)) w5 w6 M r else ∀ w5 w6, at_M_drawers_20 39 s m (w32 (l3 + 1)) (w32 ((k : Int) + 1)) w5 w6 M r)) : at_M_drawers_27 39 s m l3 k 0 0 M r := by
  have e2 := h1.2.1; have e3 := h1.2.2.1
  refine loop_up (fun v i => at_M_drawers_27 39 s m l3 k v i M r) (fun j => if cntB (fun c => bt m c && decide (LIE M (c : Int) (k : Int))) j = 0 then 0 else 1) (M 64 0).toNat ?_ ?_
  · refine sg_M_drawers_27 (ite_i (fun _ => ?_) (fun q => absurd (by omega) q))
    by_cases q : cntB (fun c => bt m c && decide (LIE M (c : Int) (k : Int))) (M 64 0).toNat = 0
    · rw [if_pos q] at h ⊢
      rw [if_pos rfl]
      exact h _ _
    · rw [if_neg q] at h ⊢
      rw [if_neg (by decide)]
      exact h _ _
  · intro j hj ih
    refine sg_M_drawers_27 (ite_i (fun q => absurd q (by omega)) (fun _ => ?_))
    rw [w32_k (by omega)]
    have l := cntB_le (fun c => bt m c && decide (LIE M (c : Int) (k : Int))) j
    refine ite_i (fun z => ?_) (fun z => ⟨_, c_M_isIn h1 h3 (by omega) (by omega) (by decide), ite_b (fun z2 => ?_) (fun z2 => ?_)⟩)
    · have nz := (shr1 (x := m) (k := j) (by omega)).mp ((and1 _).resolve_right z)
      rw [cntB_f (by simp [nz])] at ih; exact ih
    · rw [cntB_f (by simp; exact fun _ => z2)] at ih; exact ih
    · have nz : ¬ iand (ishr m (j : Int)) 1 = 0 := fun q => z (fun q2 => by omega)
      have nz := (not_congr (shr1 (x := m) (k := j) (by omega))).mp nz
      rw [cntB_t (by simp; exact ⟨Classical.not_not.mp nz, z2⟩), if_neg (by omega)] at ih; exact ih
theorem pr_drawers (h1 : R1 M) (h2 : R2 M) (h3 : R3 M) (ha : c32 a) : Bw m_X_drawers m_M_drawers [(0, a)] M := by
  by_cases hg : 0 ≤ a ∧ a / 100 ≤ 4 ∧ a % 100 ≤ 30
  · have g1 := h1.fr (tk_fr (x := a)); have g2 := h2.fr h1 (tk_fr (x := a)); have g3 := h3.fr (tk_fr (x := a))
    refine ⟨CD M (CO M (a / 100) (a % 100)), M, tk M a, sg_X_drawers (d := 39) ⟨_, c_X_isGlass ha (by decide), ite_b (fun q => absurd hg q) (fun _ => ⟨_, c_X_glassCards h1 h2 hg (by decide), _, c_X_countDrawers h1 (by decide), rfl⟩)⟩, Fr.refl M, sg_M_drawers (d := 39) ⟨_, c_M_isGlass ha (by decide), ite_bn (fun _ => ⟨_, c_M_takes hg, _, c_M_cardsOn g1 g2 tk_s tk_r (by omega) (by omega) (by omega) (by omega) (by decide), ?_⟩) (fun q => absurd hg q)⟩, tk_fr⟩
    rw [CO_fr (tk_fr (x := a)), ← CD_fr (tk_fr (x := a))]
    refine loop_up (fun v i => ∀ w5 w6, at_M_drawers_20 39 (0, a) (CO M (a / 100) (a % 100)) v i w5 w6 (tk M a) _) (cntB (CDP (tk M a) (CO M (a / 100) (a % 100)))) 1024 ?_ ?_ _ _
    · exact fun w5 w6 => sg_M_drawers_20 (ite_i (fun _ => rfl) (fun q => absurd (by decide) q))
    · intro k hk ih w5 w6
      have hcn := cntB_le (CDP (tk M a) (CO M (a / 100) (a % 100))) k
      refine sg_M_drawers_20 (ite_i (fun q => absurd q (by omega)) (fun _ => c_M_drawers_in g1 g3 ?_))
      rw [w32_k (by omega), w32_i (x := cntB (CDP (tk M a) (CO M (a / 100) (a % 100))) k + 1) (by omega) (by omega)]
      refine ite_i (fun z => ?_) (fun z => ?_)
      · rw [cntB_f (dec_f (fun q => q z))] at ih; exact ih
      · rw [cntB_t (dec_t z)] at ih; exact ih
  · exact ⟨-1, M, M, sg_X_drawers (d := 39) ⟨_, c_X_isGlass ha (by decide), ite_b (fun _ => rfl) (fun q => absurd q hg)⟩, Fr.refl M, sg_M_drawers (d := 39) ⟨_, c_M_isGlass ha (by decide), ite_bn (fun q => absurd q hg) (fun _ => rfl)⟩, Fr.refl M⟩
end P12
