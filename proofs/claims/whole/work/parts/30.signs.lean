/-! promise signs -/
section P15
variable {M : Mem} {a b c m x : Int}
abbrev UN (M : Mem) (a c f : Int) : Prop := iand (stc 90 (M 65 (10 * a + f))) (stc 90 (M 65 (10 * c + f))) = 0
/-- the fingers that tell two cards apart -/
def US (M : Mem) (a c : Int) : Int := setB (fun f => decide (UN M a c (f : Int))) 10
theorem c_X_unlikeSorts (h1 : R1 M) (h2 : R2 M) (a0 : 0 ≤ a) (an : a < M 64 0) (c0 : 0 ≤ c) (cn : c < M 64 0) : Cl 38 m_X_unlikeSorts [(2, 0), (0, a), (0, c)] M (rI (US M a c) M) := by
  have e3 := h1.2.2.1
  refine (sg_X_unlikeSorts (d := 37) ?_)
  refine loop_up (fun v i => at_X_unlikeSorts_4 37 a c v i M (rI (US M a c) M)) (setB (fun f => decide (UN M a c (f : Int)))) 10 ?_ ?_
  · exact sg_X_unlikeSorts_4 (ite_i (fun _ => rfl) (fun q => absurd (by decide) q))
  · intro k hk ih
    obtain ⟨g1, g2, g3, g4, g5, g6⟩ := h2 a k a0 an (by omega) (by omega)
    obtain ⟨k1, k2, k3, k4, k5, k6⟩ := h2 c k c0 cn (by omega) (by omega)
    refine sg_X_unlikeSorts_4 (ite_i (fun q => absurd q (by omega)) (fun _ => ?_))
    rw [g1, k1, w32_k (by omega)]
    refine ⟨⟨by omega, by omega⟩, ⟨by omega, by omega⟩, ⟨by omega, by omega⟩, ⟨by omega, by omega⟩, _, c_X_mayBeSame g3 g4 k3 k4 (by decide), ite_bn (fun z => ?_) (fun z => ?_)⟩
    · rw [setB_f (dec_f z)] at ih; exact ih
    · rw [setB_t (dec_t (Classical.not_not.mp z))] at ih; exact ih
theorem UN_sym {a c f : Int} : UN M a c f ↔ UN M c a f := by
  unfold UN
  rw [show iand (stc 90 (M 65 (10 * a + f))) (stc 90 (M 65 (10 * c + f))) = iand (stc 90 (M 65 (10 * c + f))) (stc 90 (M 65 (10 * a + f))) from bt_ext (c_iand _ _) (c_iand _ _) (fun i _ => by rw [bt_and, bt_and, Bool.and_comm])]
/-- a set of fingers tells two cards apart -/
abbrev TL (M : Mem) (x a c : Int) : Prop := ¬ iand (US M a c) x = 0
theorem TL_iff {a c : Int} : TL M x a c ↔ ∃ f : Nat, f < 10 ∧ bt x f = true ∧ UN M a c (f : Int) := by
  have hb : ∀ i, i < 32 → bt (US M a c) i = (decide (i < 10) && decide (UN M a c (i : Int))) := bt_setB _ 10 (by decide)
  constructor
  · intro h
    refine Classical.byContradiction fun q => h (bt_ext (c_iand _ _) c32_0 fun i hi => ?_)
    rw [bt_and, bt_z, hb i hi]
    by_cases z : i < 10
    · by_cases w : bt x i = true
      · have : ¬ UN M a c (i : Int) := fun y => q ⟨i, z, w, y⟩
        rw [decide_eq_false this]; simp
      · simp at w; simp [w]
    · simp [z]
  · intro ⟨f, f1, f2, f3⟩ h
    have := congrArg (fun y => bt y f) h
    simp only [bt_and, bt_z, hb f (by omega), f2] at this
    rw [dec_t f1, dec_t f3] at this
    exact absurd this (by decide)
theorem TL_sym {a c : Int} : TL M x a c ↔ TL M x c a := by
  rw [TL_iff, TL_iff]
  exact ⟨fun ⟨f, h1, h2, h3⟩ => ⟨f, h1, h2, UN_sym.mp h3⟩, fun ⟨f, h1, h2, h3⟩ => ⟨f, h1, h2, UN_sym.mp h3⟩⟩
theorem c_M_isApart (h1 : R1 M) (h2 : R2 M) (a0 : 0 ≤ a) (an : a < M 64 0) (c0 : 0 ≤ c) (cn : c < M 64 0) : Cl 38 m_M_isApart [(2, 64), (0, a), (0, c), (0, x)] M (rI (bI (TL M x a c)) M) := by
  have e3 := h1.2.2.1
  refine (sg_M_isApart (d := 37) ?_)
  have key : ∀ (j k : Nat), k + j = 10 → (∀ f : Nat, f < k → ¬ (bt x f = true ∧ UN M a c (f : Int))) → at_M_isApart_2 37 a c x (k : Int) M (rI (bI (TL M x a c)) M) := by
    intro j
    induction j with
    | zero =>
      intro k hk h0
      refine sg_M_isApart_2 (ite_i (fun _ => ?_) (fun q => absurd (by omega) q))
      rw [bI_f (fun q => by
        obtain ⟨f, f1, f2, f3⟩ := TL_iff.mp q
        exact h0 f (by omega) ⟨f2, f3⟩)]
    | succ j ih =>
      intro k hk h0
      have nx : ¬ (bt x k = true ∧ UN M a c (k : Int)) → at_M_isApart_2 37 a c x ((k : Int) + 1) M (rI (bI (TL M x a c)) M) := fun hn => by
        have := ih (k + 1) (by omega) (fun f hf => by
          by_cases q : f = k
          · subst q; exact hn
          · exact h0 f (by omega))
        rwa [show (((k + 1 : Nat)) : Int) = (k : Int) + 1 by omega] at this
      obtain ⟨g1, g2, g3, g4, g5, g6⟩ := h2 a k a0 an (by omega) (by omega)
      obtain ⟨k1, k2, k3, k4, k5, k6⟩ := h2 c k c0 cn (by omega) (by omega)
      refine sg_M_isApart_2 (ite_i (fun q => absurd q (by omega)) (fun _ => ?_))
      rw [w32_k (by omega), ix10 a0 (by omega) (by omega) (by omega), ix10 c0 (by omega) (by omega) (by omega)]
      refine ite_i (fun z => ?_) (fun z => ⟨⟨by omega, by omega⟩, ⟨by omega, by omega⟩, _, c_M_maySame g3 g4 k3 k4 (by decide), ite_bn (fun z2 => ?_) (fun z2 => ?_)⟩)
      · exact nx (fun q => (shr1 (x := x) (k := k) (by omega)).mp ((and1 _).resolve_right z) q.1)
      · exact nx (fun q => z2 q.2)
      · have nz : ¬ iand (ishr x (k : Int)) 1 = 0 := fun q => z (fun q2 => by omega)
        have nz := (not_congr (shr1 (x := x) (k := k) (by omega))).mp nz
        rw [bI_t (TL_iff.mpr ⟨k, by omega, Classical.not_not.mp nz, Classical.not_not.mp z2⟩)]
  exact key 10 0 rfl (fun f hf => absurd hf (by omega))
/-- a set of fingers tells all cards apart -/
abbrev TA (M : Mem) (x : Int) : Prop := ∀ j, j < (M 64 0).toNat → ∀ i, i < j → TL M x ((i : Nat) : Int) ((j : Nat) : Int)
theorem c_M_areApart (h1 : R1 M) (h2 : R2 M) : Cl 39 m_M_areApart [(2, 64), (0, x)] M (rI (bI (TA M x)) M) := by
  have e2 := h1.2.1; have e3 := h1.2.2.1
  refine (sg_M_areApart (d := 38) ?_)
  have out : ∀ (n k : Nat), (k : Int) + n = M 64 0 → (∀ j : Nat, j < k → ∀ i : Nat, i < j → TL M x (i : Int) (j : Int)) → ∀ w, at_M_areApart_2 38 x (k : Int) w M (rI (bI (TA M x)) M) := by
    intro n
    induction n with
    | zero =>
      intro k hk h0 w
      refine sg_M_areApart_2 (ite_i (fun _ => ?_) (fun q => absurd (by omega) q))
      rw [bI_t (fun j h i h2 => h0 j (by omega) i h2)]
    | succ n ih =>
      intro k hk h0 w
      refine sg_M_areApart_2 (ite_i (fun q => absurd q (by omega)) (fun _ => ?_))
      have inn : ∀ (t l : Nat), l + t = k → (∀ i : Nat, i < l → TL M x (i : Int) (k : Int)) → at_M_areApart_8 38 x (k : Int) (l : Int) M (rI (bI (TA M x)) M) := by
        intro t
        induction t with
        | zero =>
          intro l hl hi
          refine sg_M_areApart_8 (ite_i (fun _ => ?_) (fun q => absurd (by omega) q))
          rw [w32_k (by omega)]
          have := ih (k + 1) (by omega) (fun j hj i hij => by
            by_cases q : j = k
            · subst q; exact hi i (by omega)
            · exact h0 j (by omega) i hij)
          rw [show (((k + 1 : Nat)) : Int) = (k : Int) + 1 by omega] at this
          exact this _
        | succ t iht =>
          intro l hl hi
          refine sg_M_areApart_8 (ite_i (fun q => absurd q (by omega)) (fun _ => ⟨_, c_M_isApart h1 h2 (by omega) (by omega) (by omega) (by omega), ite_bn (fun z => ?_) (fun z => ?_)⟩))
          · rw [w32_k (by omega)]
            have := iht (l + 1) (by omega) (fun i hil => by
              by_cases q : i = l
              · subst q; exact TL_sym.mp z
              · exact hi i (by omega))
            rwa [show (((l + 1 : Nat)) : Int) = (l : Int) + 1 by omega] at this
          · rw [bI_f (fun q => z (TL_sym.mp (q k (by omega) l (by omega))))]
      exact inn k 0 (by omega) (fun i hi => absurd hi (by omega))
  exact out (M 64 0).toNat 0 (by omega) (fun j hj => absurd hj (by omega)) _
end P15
