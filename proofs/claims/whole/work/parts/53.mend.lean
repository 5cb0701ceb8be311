/-! promises mend, undo, redo, to their ends -/
section P37
variable {M N C : Mem} {a b c D n num what v was x : Int}
abbrev LIM (b : Int) : Int := if b = 0 then 5 else if b = 1 then 30 else 9
theorem c_X_isValue (hb : b = 0 ∨ b = 1 ∨ b = 2) : Cl 39 m_X_isValue [(0, b), (0, v)] M (rI (bI (0 ≤ v ∧ v ≤ LIM b)) M) := by
  refine sg_X_isValue (d := 38) (ite_i (fun q0 => ite_i (fun q1 => ite_i (fun q2 => ?_) (fun q2 => ite_i (fun q3 => ?_) (fun q3 => ?_))) (fun q1 => ⟨_, c_X_isRidges (by decide), bI_01, ?_⟩)) (fun q0 => ⟨_, c_X_isSort (by decide), bI_01, ?_⟩))
  · rw [bI_f (by omega)]
  · rw [bI_f (by unfold LIM; rw [if_neg q0, if_neg q1]; omega)]
  · rw [bI_t (by unfold LIM; rw [if_neg q0, if_neg q1]; omega)]
  · exact rI_c (by unfold LIM; rw [if_neg q0, if_pos (Classical.not_not.mp q1)])
  · exact rI_c (by unfold LIM; rw [if_pos (Classical.not_not.mp q0)])
theorem c_M_isOf' (n0 : 0 ≤ N 64 0) (n12 : N 64 0 ≤ 12) (ha : c32 a) : Cl 39 m_M_isOf [(2, 64), (0, a), (0, b)] N (rI (bI (NV (N 64 0) a b)) N) := by
  have card : ∀ {x : Int}, Cl 37 m_M_isCard [(2, 64), (0, x)] N (rI (bI (0 ≤ x ∧ x < N 64 0)) N) := by
    intro x
    refine (sg_M_isCard (d := 36) ⟨_, c_M_within (by decide), bI_01, ?_⟩)
    rw [w32_i (by omega) (by omega)]
    exact rI_c (by omega)
  have fing : Cl 38 m_M_isFinger [(2, 64), (0, a)] N (rI (bI (0 ≤ a ∧ a / 100 < N 64 0 ∧ a % 100 < 10)) N) := by
    refine (sg_M_isFinger (d := 37) ?_)
    refine ite_i (fun q => ?_) (fun q => ?_)
    · rw [bI_f (by omega)]
    · rw [(dm100 ha q).1, (dm100 ha q).2]
      refine ⟨_, card, ite_b (fun z => ?_) (fun z => ite_i (fun q2 => ?_) (fun q2 => ?_))⟩
      · rw [bI_f (by omega)]
      · rw [bI_f (by omega)]
      · rw [bI_t (by omega)]
  refine sg_M_isOf (d := 38) ⟨_, c_M_within (by decide), ite_b (fun q => ite_i (fun q2 => ?_) (fun q2 => ite_i (fun q3 => ?_) (fun q3 => ?_))) (fun q => ⟨_, fing, bI_01, rI_c (by unfold NV; omega)⟩)⟩
  · rw [bI_f (by unfold NV; omega)]
  · rw [bI_f (by unfold NV; omega)]
  · rw [bI_t (by unfold NV; omega)]
theorem VAL_VC (h1 : R1 M) (h2 : R2 M) (h : NV (M 64 0) num what) : VC (M 64 0) num what (VAL M num what) := by
  obtain ⟨-, -, -, -, e5, e6⟩ := h1
  unfold NV at h
  unfold VC VAL
  by_cases w : what = 2
  · rw [if_pos w]; omega
  · rw [if_neg w]
    obtain ⟨-, -, g3, g4, g5, g6⟩ := h2 (num / 100) (num % 100) (by omega) (by omega) (by omega) (by omega)
    by_cases y0 : what = 0
    · rw [if_pos y0]; omega
    · rw [if_neg y0]; omega
theorem mend_inv (i : INV M) (y : NV (M 64 0) a b) (w : VC (M 64 0) a b v) {C1' N1' : Mem} {D' off : Int} (hD : (M 64 28 < 40 ∧ D' = M 64 28 ∧ off = 0) ∨ (M 64 28 = 40 ∧ D' = 39 ∧ off = 1)) (tC : To TH (tellX M a b v) C1') (tN : To TN (becM (CFx C1' D' a b (VAL M a b) v) a b v) N1')
    (o : ∀ k : Int, 0 ≤ k → k < D' → C1' 38 k = M 38 (k + off) ∧ C1' 39 k = M 39 (k + off) ∧ C1' 40 k = M 40 (k + off) ∧ C1' 41 k = M 41 (k + off) ∧ ∀ j : Int, 0 ≤ j → j < 4 → N1' 81 (4 * k + j) = M 81 (4 * (k + off) + j)) : INV (NFx N1' D' a b (VAL M a b) v) := by
  have e3 := i.1.2.2.1
  have r8 := i.2.2.2.2.2.2.1
  obtain ⟨s1, s2, s3, s4, s5, -⟩ := id r8
  have d0 : 0 ≤ D' := by omega
  obtain ⟨B1, B2, B3, B5⟩ := tell_R i.1 i.2.1 i.2.2.1 i.2.2.2.2.2.2.2.2.2.2.2.2 w
  have tX := tellX_to (M := M) (v := v) y e3
  have at2 : ∀ (o : Nat) (k : Int), ¬ TH o k → ¬ TN o k → NFx N1' D' a b (VAL M a b) v o k = becM (tellX M a b v) a b v o k := fun o k q1 q2 => by
    rw [NFx_to o k q2, tN o k q2]
    exact becM_at (by rw [CFx_to o k q1, tC o k q1])
  refine i.mends (fun o k q => ?_) (B1.ag fun o k q => at2 o k (by unfold K1 at q; unfold TH; omega) (by unfold K1 at q; unfold TN; omega)) (B2.ag B1 fun o k q => at2 o k (by unfold K2 at q; unfold TH; omega) (by unfold K2 at q; unfold TN; omega)) (B3.ag fun o k q => at2 o k (by unfold K3 at q; unfold TH; omega) (by unfold K3 at q; unfold TN; omega)) ?_ (B5.ag fun o k q => at2 o k (by unfold K5 at q; unfold TH; omega) (by unfold K5 at q; unfold TN; omega))
  · rw [at2 o k (fun t => q (by unfold TH at t; unfold TM; omega)) (fun t => q (by unfold TN at t; unfold TM; omega)), becM_to o k (fun t => q (by unfold TW at t; unfold TM; omega)), tX o k (fun t => q (by unfold TX at t; unfold TM; omega))]
  · have c2 : ∀ (o : Nat) (k : Int), (37 ≤ o ∧ o ≤ 41) → NFx N1' D' a b (VAL M a b) v o k = CFx C1' D' a b (VAL M a b) v o k := fun o k q => by
      rw [NFx_to o k (by unfold TN; omega), tN o k (by unfold TN; omega), becM_to o k (by unfold TW; omega)]
    refine note_R8 r8 hD ?_ ?_ ?_ ?_ ?_ (fun k k0 k1 => ?_) ⟨?_, ?_, ?_, ?_, ?_, ?_, ?_, ?_⟩ (VAL_VC i.1 i.2.1 y) w
    · rw [c2 37 4 (by decide)]; unfold CFx; rw [up_n (by omega), up_eq]
    · rw [c2 37 5 (by decide)]; unfold CFx; rw [up_eq]
    · unfold NFx; rw [up_n (by omega), up_eq]
    · unfold NFx; rw [up_eq]
    · rw [at2 64 0 (by unfold TH; omega) (by unfold TN; omega), becM_to 64 0 (by unfold TW; omega), tX 64 0 (by unfold TX; omega)]
    · obtain ⟨o1, o2, o3, o4, o5⟩ := o k k0 k1
      rw [c2 38 k (by decide), c2 39 k (by decide), c2 40 k (by decide), c2 41 k (by decide)]
      unfold CFx
      rw [up_n (by omega), up_n (by omega), up_n (by omega), up_n (by omega), up_n (by omega), up_n (by omega), up_n (by omega), up_n (by omega), up_n (by omega), up_n (by omega), up_n (by omega), up_n (by omega), up_n (by omega), up_n (by omega), up_n (by omega), up_n (by omega), up_n (by omega), up_n (by omega), up_n (by omega), up_n (by omega), up_n (by omega), up_n (by omega), up_n (by omega), up_n (by omega)]
      refine ⟨o1, o2, o3, o4, fun j j0 j4 => ?_⟩
      unfold NFx
      rw [up_n (by omega), up_n (by omega), up_n (by omega), up_n (by omega), up_n (by omega), up_n (by omega)]
      exact o5 j j0 j4
    · rw [c2 38 _ (by decide)]; unfold CFx; rw [up_n (by omega), up_n (by omega), up_n (by omega), up_n (by omega), up_n (by omega), up_eq]
    · rw [c2 39 _ (by decide)]; unfold CFx; rw [up_n (by omega), up_n (by omega), up_n (by omega), up_n (by omega), up_eq]
    · rw [c2 40 _ (by decide)]; unfold CFx; rw [up_n (by omega), up_n (by omega), up_n (by omega), up_eq]
    · rw [c2 41 _ (by decide)]; unfold CFx; rw [up_n (by omega), up_n (by omega), up_eq]
    · unfold NFx; rw [up_n (by omega), up_n (by omega), up_n (by omega), up_n (by omega), up_n (by omega), up_eq]
    · unfold NFx; rw [up_n (by omega), up_n (by omega), up_n (by omega), up_n (by omega), up_eq]
    · unfold NFx; rw [up_n (by omega), up_n (by omega), up_n (by omega), up_eq]
    · unfold NFx; rw [up_n (by omega), up_n (by omega), up_eq]
theorem pk_mend (i : INV M) (ha : c32 a) : Pk m_X_mend m_M_mend [(0, a), (0, b), (0, v)] M := by
  obtain ⟨e1, e2, e3, e4, e5, e6⟩ := i.1
  obtain ⟨s1, s2, s3, s4, s5, -⟩ := i.2.2.2.2.2.2.1
  have told : Cl 39 m_X_isTold [(2, 0), (0, a), (0, b)] M (rI (bI (NV (M 64 0) a b)) M) := c_X_isTold i.1 ha
  by_cases y : NV (M 64 0) a b
  · have b3 : b = 0 ∨ b = 1 ∨ b = 2 := by unfold NV at y; omega
    have X : ∀ {r : Res}, (0 ≤ v ∧ v ≤ LIM b) → (if VAL M a b = v then r = (some (0, VAL M a b), M) else ∃ M11, Cl 39 m_C_tell [(2, 1), (0, a), (0, b), (0, v)] M (none, M11) ∧ ∃ M13, Cl 39 m_H_note [(2, 37), (0, a), (0, b), (0, VAL M a b), (0, v)] M11 (none, M13) ∧ r = (some (0, VAL M a b), M13)) → Cl 40 m_X_mend [(2, 0), (0, a), (0, b), (0, v)] M r := fun {r} w hv =>
      sg_X_mend (d := 39) ⟨_, told, ite_b (fun t => absurd y t) (fun _ => ⟨_, c_X_isValue b3, ite_bn (fun _ => ⟨_, c_C_told i.1 i.2.1 y, hv⟩) (fun t => absurd w t)⟩)⟩
    have Y : ∀ {N : Mem} {r : Res}, N 64 0 = M 64 0 → N 64 4 = M 64 4 → N 65 = M 65 → N 66 = M 66 → N 64 28 = M 64 28 → (∀ k, k = v → (0 ≤ k ∧ k ≤ LIM b) → (if ¬ VAL M a b = v then r = rI (VAL M a b) (if M 64 28 < 40 then NFx (becM N a b v) (M 64 28) a b (VAL M a b) v else NFx (NFy (becM N a b v)) 39 a b (VAL M a b) v) else r = rI (VAL M a b) N)) → (¬ (0 ≤ v ∧ v ≤ LIM b) → r = rI (-1) N) → Cl 40 m_M_mend [(2, 64), (0, a), (0, b), (0, v)] N r := fun {N r} n0 n4 n65 n66 n28 hv hw => by
      have get : Cl 39 m_M_get [(2, 64), (0, a), (0, b)] N (rI (VAL M a b) N) := c_M_get e3 y n4 n65 n66
      have bec : Cl 39 m_M_becomes [(2, 64), (0, a), (0, b), (0, v)] N (rV (becM N a b v)) := c_M_becomes y e3
      have b28 : becM N a b v 64 28 = M 64 28 := by rw [becM_to 64 28 (by unfold TW; omega), n28]
      have app := c_M_app (N := becM N a b v) (num := a) (what := b) (v := v) (was := VAL M a b) b28 s3 (by omega)
      have isO := c_M_isOf' (N := N) (a := a) (b := b) (by omega) (by omega) ha
      rw [n0] at isO
      by_cases w : 0 ≤ v ∧ v ≤ LIM b
      · have hv := hv v rfl w
        unfold LIM at w
        refine sg_M_mend (d := 39) ⟨_, isO, ite_b (fun t => absurd y t) (fun _ => ite_i (fun q0 => ite_i (fun q1 => ⟨_, c_M_within (by decide), ite_bn (fun _ => ⟨_, get, ?_⟩) (fun t => absurd (by rw [if_neg q0, if_neg q1] at w; exact w) t)⟩) (fun q1 => ⟨_, c_M_within (by decide), ite_bn (fun _ => ⟨_, get, ?_⟩) (fun t => absurd (by rw [if_neg q0, if_pos (Classical.not_not.mp q1)] at w; exact w) t)⟩)) (fun q0 => ⟨_, c_M_within (by decide), ite_bn (fun _ => ⟨_, get, ?_⟩) (fun t => absurd (by rw [if_pos (Classical.not_not.mp q0)] at w; exact w) t)⟩))⟩
        all_goals
          refine ite_i (fun q => ?_) (fun q => ?_)
          · rw [if_pos q] at hv
            rw [hv]
            exact ⟨_, bec, app⟩
          · rw [if_neg q] at hv
            exact hv
      · have hw := hw w
        unfold LIM at w
        exact sg_M_mend (d := 39) ⟨_, isO, ite_b (fun t => absurd y t) (fun _ => ite_i (fun q0 => ite_i (fun q1 => ⟨_, c_M_within (by decide), ite_bn (fun t => absurd t (by rw [if_neg q0, if_neg q1] at w; exact w)) (fun _ => hw)⟩) (fun q1 => ⟨_, c_M_within (by decide), ite_bn (fun t => absurd t (by rw [if_neg q0, if_pos (Classical.not_not.mp q1)] at w; exact w)) (fun _ => hw)⟩)) (fun q0 => ⟨_, c_M_within (by decide), ite_bn (fun t => absurd t (by rw [if_pos (Classical.not_not.mp q0)] at w; exact w)) (fun _ => hw)⟩))⟩
    by_cases w : 0 ≤ v ∧ v ≤ LIM b
    · by_cases e : VAL M a b = v
      · exact Pk.of (X w (by rw [if_pos e])) (Y (r := rI (VAL M a b) M) rfl rfl rfl rfl rfl (fun _ _ _ => by rw [if_neg (fun t => t e)]) (fun t => absurd w t)) i
      · have vc : VC (M 64 0) a b v := by unfold NV at y; unfold LIM at w; unfold VC; split at w <;> omega
        have tell := c_C_tell (C := M) (v := v) (by rw [e1]; exact y) (by omega)
        have t37 : tellX M a b v 37 4 = M 64 28 := by rw [tellX_to y e3 37 4 (by unfold TX; omega), s1]
        have note := c_H_note (C := tellX M a b v) (num := a) (what := b) (v := v) (was := VAL M a b) t37 s3 (by omega)
        have hx := X (r := rI (VAL M a b) _) w (by rw [if_neg e]; exact ⟨_, tell, _, note, rfl⟩)
        have cAt : ∀ (o : Nat) (k : Int), ¬ TX o k → ¬ TH o k → (if M 64 28 < 40 then CFx (tellX M a b v) (M 64 28) a b (VAL M a b) v else CFx (CFy (tellX M a b v)) 39 a b (VAL M a b) v) o k = M o k := fun o k q1 q2 => by
          split
          · rw [CFx_to o k q2, tellX_to y e3 o k q1]
          · rw [CFx_to o k q2, CFy_to o k q2, tellX_to y e3 o k q1]
        have hm := Y (r := rI (VAL M a b) _) (cAt 64 0 (by unfold TX; omega) (by unfold TH; omega)) (cAt 64 4 (by unfold TX; omega) (by unfold TH; omega)) (funext fun k => cAt 65 k (by unfold TX; omega) (by unfold TH; omega)) (funext fun k => cAt 66 k (by unfold TX; omega) (by unfold TH; omega)) (cAt 64 28 (by unfold TX; omega) (by unfold TH; omega)) (fun _ _ _ => by rw [if_pos e]) (fun t => absurd w t)
        refine Pk.of hx hm ?_
        by_cases q : M 64 28 < 40
        · rw [if_pos q, if_pos q]
          refine mend_inv i y vc (Or.inl ⟨q, rfl, rfl⟩) (To.refl _ _) (To.refl _ _) (fun k k0 k1 => ?_)
          have tt : ∀ o : Nat, 38 ≤ o → o ≤ 41 → tellX M a b v o k = M o (k + 0) := fun o q1 q2 => by rw [tellX_to y e3 o k (by unfold TX; omega), Int.add_zero]
          refine ⟨tt 38 (by decide) (by decide), tt 39 (by decide) (by decide), tt 40 (by decide) (by decide), tt 41 (by decide) (by decide), fun j j0 j4 => ?_⟩
          rw [becM_to 81 _ (by unfold TW; omega), CFx_to 81 _ (by unfold TH; omega), tellX_to y e3 81 _ (by unfold TX; omega), Int.add_zero]
        · rw [if_neg q, if_neg q]
          refine mend_inv i y vc (Or.inr ⟨by omega, rfl, rfl⟩) CFy_to NFy_to (fun k k0 k1 => ?_)
          have tt : ∀ o : Nat, 38 ≤ o → o ≤ 41 → tellX M a b v o (1 + (k - 0)) = M o (k + 1) := fun o q1 q2 => by rw [tellX_to y e3 o _ (by unfold TX; omega)]; exact congrArg (M o) (by omega)
          unfold CFy
          rw [up_n (by omega), up_n (by omega), up_n (by omega), up_n (by omega)]
          refine ⟨?_, ?_, ?_, ?_, fun j j0 j4 => ?_⟩
          · rw [cpy_n (by omega), cpy_n (by omega), cpy_n (by omega), cpy_i (by omega) (by omega)]; exact tt 38 (by decide) (by decide)
          · rw [cpy_n (by omega), cpy_n (by omega), cpy_i (by omega) (by omega), cpy_n (by omega)]; exact tt 39 (by decide) (by decide)
          · rw [cpy_n (by omega), cpy_i (by omega) (by omega), cpy_n (by omega), cpy_n (by omega)]; exact tt 40 (by decide) (by decide)
          · rw [cpy_i (by omega) (by omega), cpy_n (by omega), cpy_n (by omega), cpy_n (by omega)]; exact tt 41 (by decide) (by decide)
          · unfold NFy
            rw [up_n (by omega), fil_i (by omega) (by omega), becM_to 81 _ (by unfold TW; omega), CFx_to 81 _ (by unfold TH; omega), up_n (by omega), cpy_n (by omega), cpy_n (by omega), cpy_n (by omega), cpy_n (by omega), tellX_to y e3 81 _ (by unfold TX; omega)]
            exact congrArg (M 81) (by omega)
    · have hx : Cl 40 m_X_mend [(2, 0), (0, a), (0, b), (0, v)] M (rI (-1) M) := sg_X_mend (d := 39) ⟨_, told, ite_b (fun t => absurd y t) (fun _ => ⟨_, c_X_isValue b3, ite_bn (fun t => absurd t w) (fun _ => rfl)⟩)⟩
      exact Pk.of hx (Y (r := rI (-1) M) rfl rfl rfl rfl rfl (fun k hk t => absurd (by rw [← hk]; exact t) w) (fun _ => rfl)) i
  · have isO := c_M_isOf' (N := M) (a := a) (b := b) (by omega) (by omega) ha
    exact Pk.of (v := -1) (sg_X_mend (d := 39) ⟨_, told, ite_b (fun _ => rfl) (fun t => absurd t y)⟩) (sg_M_mend (d := 39) ⟨_, isO, ite_b (fun _ => rfl) (fun t => absurd t y)⟩) i
end P37
