/-! promises undo, redo -/
section P38
variable {M N C : Mem} {a b c D n num what v was x : Int}
theorem up_comm {a b : Nat} {i j v w : Int} (h : ¬ (a = b ∧ i = j)) : up (up M a i v) b j w = up (up M b j w) a i v := funext fun o => funext fun k => by
  unfold up
  by_cases q : o = b ∧ k = j
  · rw [if_pos q, if_neg (by omega), if_pos q]
  · rw [if_neg q]
    by_cases q2 : o = a ∧ k = i
    · rw [if_pos q2, if_pos q2]
    · rw [if_neg q2, if_neg q2, if_neg q]
theorem becM_up {o : Nat} {i : Int} (h : ¬ TW o i) : becM (up N o i x) num what v = up (becM N num what v) o i x := by
  unfold TW at h
  unfold becM
  split
  · exact up_comm (by omega)
  · split
    · exact up_comm (by omega)
    · exact up_comm (by omega)
theorem undo_inv (i : INV M) {D' : Int} (d0 : 0 ≤ D') (d1 : D' ≤ M 64 27) (vc : VC (M 64 0) num what v) : INV (becM (up (tellX (up M 37 4 D') num what v) 64 28 D') num what v) := by
  obtain ⟨e1, e2, e3, -⟩ := id i.1
  have r8 := i.2.2.2.2.2.2.1
  have y := vc.nv
  have tX : To TX (up M 37 4 D') (tellX (up M 37 4 D') num what v) := tellX_to y e3
  have h : ∀ (o : Nat) (k : Int), ¬ (o = 37 ∧ k = 4) → up M 37 4 D' o k = M o k := fun o k q => up_n q
  obtain ⟨B1, B2, B3, B5⟩ := tell_R (M := up M 37 4 D') (num := num) (what := what) (v := v) (i.1.ag fun o k q => h o k (by unfold K1 at q; omega)) (i.2.1.ag i.1 fun o k q => h o k (by unfold K2 at q; omega)) (i.2.2.1.ag fun o k q => h o k (by unfold K3 at q; omega)) (i.2.2.2.2.2.2.2.2.2.2.2.2.ag fun o k q => h o k (by unfold K5 at q; omega)) (by rw [h 64 0 (by omega)]; exact vc)
  rw [becM_up (by unfold TW; omega)]
  have at2 : ∀ (o : Nat) (k : Int), ¬ (o = 64 ∧ k = 28) → up (becM (tellX (up M 37 4 D') num what v) num what v) 64 28 D' o k = becM (tellX (up M 37 4 D') num what v) num what v o k := fun o k q => up_n q
  have at3 : ∀ (o : Nat) (k : Int), ¬ (o = 64 ∧ k = 28) → ¬ TW o k → ¬ TX o k → up (becM (tellX (up M 37 4 D') num what v) num what v) 64 28 D' o k = up M 37 4 D' o k := fun o k q q2 q3 => by rw [at2 o k q, becM_to o k q2, tX o k q3]
  refine i.mends (fun o k q => ?_) (B1.ag fun o k q => at2 o k (by unfold K1 at q; omega)) (B2.ag B1 fun o k q => at2 o k (by unfold K2 at q; omega)) (B3.ag fun o k q => at2 o k (by unfold K3 at q; omega)) ?_ (B5.ag fun o k q => at2 o k (by unfold K5 at q; omega))
  · rw [at3 o k (fun t => q (by unfold TM; omega)) (fun t => q (by unfold TW at t; unfold TM; omega)) (fun t => q (by unfold TX at t; unfold TM; omega)), h o k (fun t => q (by unfold TM; omega))]
  · obtain ⟨s1, s2, s3, s4, s5, s6⟩ := r8
    have at4 : ∀ (o : Nat) (k : Int), ¬ (o = 64 ∧ k = 28) → ¬ (o = 37 ∧ k = 4) → ¬ TW o k → ¬ TX o k → up (becM (tellX (up M 37 4 D') num what v) num what v) 64 28 D' o k = M o k := fun o k q q1 q2 q3 => by rw [at3 o k q q2 q3, h o k q1]
    have f : ∀ o : Nat, (38 ≤ o ∧ o ≤ 41) ∨ o = 81 → up (becM (tellX (up M 37 4 D') num what v) num what v) 64 28 D' o = M o := fun o q => funext fun k => at4 o k (by omega) (by omega) (by unfold TW; omega) (by unfold TX; omega)
    unfold R8
    rw [at3 37 4 (by omega) (by unfold TW; omega) (by unfold TX; omega), up_eq, up_eq, at4 37 5 (by omega) (by omega) (by unfold TW; omega) (by unfold TX; omega), at4 64 27 (by omega) (by omega) (by unfold TW; omega) (by unfold TX; omega), at4 64 0 (by omega) (by omega) (by unfold TW; omega) (by unfold TX; omega), f 38 (by decide), f 39 (by decide), f 40 (by decide), f 41 (by decide), f 81 (by decide)]
    exact ⟨rfl, s2, d0, d1, s5, s6⟩
theorem pk_undo (i : INV M) : Pk m_X_undo m_M_undo [] M := by
  obtain ⟨e1, e2, e3, -⟩ := id i.1
  obtain ⟨s1, s2, s3, s4, s5, s6⟩ := i.2.2.2.2.2.2.1
  by_cases z : M 64 28 = 0
  · exact Pk.of (v := -5) (sg_X_undo (d := 39) ⟨-1, M, sg_H_stepBack (d := 38) (ite_i (fun t => absurd t (by omega)) (fun _ => rfl)), ite_i (fun t => absurd t (by decide)) (fun _ => rfl)⟩) (sg_M_undo (d := 39) (ite_i (fun t => absurd z t) (fun _ => rfl))) i
  · obtain ⟨t1, t2, t3, t4, t5, t6⟩ := s6 (M 64 28 - 1) (by omega) (by omega)
    have w1 : w32 (M 64 28 - 1) = M 64 28 - 1 := w32_i (by omega) (by omega)
    have y := t5.nv
    have hx : Cl 40 m_X_undo [(2, 0)] M (rI (M 64 28 - 1) (tellX (up M 37 4 (M 64 28 - 1)) (M 81 (4 * (M 64 28 - 1))) (M 81 (4 * (M 64 28 - 1) + 1)) (M 81 (4 * (M 64 28 - 1) + 2)))) := by
      refine sg_X_undo (d := 39) ⟨M 64 28 - 1, up M 37 4 (M 64 28 - 1), sg_H_stepBack (d := 38) (ite_i (fun _ => by rw [s1, w1, up_eq]) (fun t => absurd (by omega) t)), ite_i (fun _ => ⟨⟨by omega, by omega⟩, ⟨by omega, by omega⟩, ⟨by omega, by omega⟩, ?_⟩) (fun t => absurd (by omega) t)⟩
      rw [up_n (b := 38) (by omega), up_n (b := 39) (by omega), up_n (b := 40) (by omega), t1, t2, t3]
      refine ⟨_, c_C_tell (by rw [up_n (by omega), e1]; exact y) (by rw [up_n (by omega)]; omega), ?_⟩
      rw [tellX_to y e3 37 4 (by unfold TX; omega), up_eq]
    have hm : Cl 40 m_M_undo [(2, 64)] (tellX (up M 37 4 (M 64 28 - 1)) (M 81 (4 * (M 64 28 - 1))) (M 81 (4 * (M 64 28 - 1) + 1)) (M 81 (4 * (M 64 28 - 1) + 2))) (rI (M 64 28 - 1) (becM (up (tellX (up M 37 4 (M 64 28 - 1)) (M 81 (4 * (M 64 28 - 1))) (M 81 (4 * (M 64 28 - 1) + 1)) (M 81 (4 * (M 64 28 - 1) + 2))) 64 28 (M 64 28 - 1)) (M 81 (4 * (M 64 28 - 1))) (M 81 (4 * (M 64 28 - 1) + 1)) (M 81 (4 * (M 64 28 - 1) + 2)))) := by
      have n28 : tellX (up M 37 4 (M 64 28 - 1)) (M 81 (4 * (M 64 28 - 1))) (M 81 (4 * (M 64 28 - 1) + 1)) (M 81 (4 * (M 64 28 - 1) + 2)) 64 28 = M 64 28 := by rw [tellX_to y e3 64 28 (by unfold TX; omega), up_n (by omega)]
      have n81 : ∀ k, tellX (up M 37 4 (M 64 28 - 1)) (M 81 (4 * (M 64 28 - 1))) (M 81 (4 * (M 64 28 - 1) + 1)) (M 81 (4 * (M 64 28 - 1) + 2)) 81 k = M 81 k := fun k => by rw [tellX_to y e3 81 k (by unfold TX; omega), up_n (by omega)]
      refine sg_M_undo (d := 39) (ite_i (fun _ => ?_) (fun t => absurd (by rw [n28]; exact z) t))
      rw [n28, w1, up_eq, w32_i (x := 4 * (M 64 28 - 1)) (by omega) (by omega), w32_i (x := 4 * (M 64 28 - 1) + 1) (by omega) (by omega), w32_i (x := 4 * (M 64 28 - 1) + 2) (by omega) (by omega), up_n (b := 81) (by omega), up_n (b := 81) (by omega), up_n (b := 81) (by omega), n81, n81, n81]
      refine ⟨⟨by omega, by omega⟩, ⟨by omega, by omega⟩, ⟨by omega, by omega⟩, _, c_M_becomes y e3, ?_⟩
      rw [becM_to 64 28 (by unfold TW; omega), up_eq]
    exact Pk.of hx hm (undo_inv i (by omega) (by omega) t5)
theorem pk_redo (i : INV M) : Pk m_X_redo m_M_redo [] M := by
  obtain ⟨e1, e2, e3, -⟩ := id i.1
  obtain ⟨s1, s2, s3, s4, s5, s6⟩ := i.2.2.2.2.2.2.1
  by_cases z : M 64 28 = M 64 27
  · exact Pk.of (v := -5) (sg_X_redo (d := 39) ⟨-1, M, sg_H_stepOn (d := 38) (ite_i (fun t => absurd t (by omega)) (fun _ => rfl)), ite_i (fun t => absurd t (by decide)) (fun _ => rfl)⟩) (sg_M_redo (d := 39) (ite_i (fun t => absurd z t) (fun _ => rfl))) i
  · obtain ⟨t1, t2, t3, t4, t5, t6⟩ := s6 (M 64 28) (by omega) (by omega)
    have w1 : w32 (M 64 28 + 1) = M 64 28 + 1 := w32_i (by omega) (by omega)
    have y := t6.nv
    obtain ⟨E, hE⟩ : ∃ E, E = tellX (up M 37 4 (M 64 28 + 1)) (M 81 (4 * (M 64 28))) (M 81 (4 * (M 64 28) + 1)) (M 81 (4 * (M 64 28) + 3)) := ⟨_, rfl⟩
    have eE : ∀ (o : Nat) (k : Int), ¬ TX o k → ¬ (o = 37 ∧ k = 4) → E o k = M o k := fun o k q1 q2 => by rw [hE, tellX_to y e3 o k q1, up_n q2]
    have hx : Cl 40 m_X_redo [(2, 0)] M (rI (M 64 27 - (M 64 28 + 1)) E) := by
      refine sg_X_redo (d := 39) ⟨M 64 28, up M 37 4 (M 64 28 + 1), sg_H_stepOn (d := 38) (ite_i (fun _ => by rw [s1, w1, up_eq, w32_i (x := M 64 28 + 1 - 1) (by omega) (by omega), show M 64 28 + 1 - 1 = M 64 28 by omega]) (fun t => absurd (by omega) t)), ite_i (fun _ => ⟨⟨by omega, by omega⟩, ⟨by omega, by omega⟩, ⟨by omega, by omega⟩, ?_⟩) (fun t => absurd (by omega) t)⟩
      rw [up_n (b := 38) (by omega), up_n (b := 39) (by omega), up_n (b := 41) (by omega), t1, t2, t4]
      refine ⟨_, c_C_tell (by rw [up_n (by omega), e1]; exact y) (by rw [up_n (by omega)]; omega), ?_⟩
      rw [tellX_to y e3 37 4 (by unfold TX; omega), tellX_to y e3 37 5 (by unfold TX; omega), up_eq, up_n (by omega), s2, w32_i (by omega) (by omega), hE]
    have hm : Cl 40 m_M_redo [(2, 64)] E (rI (M 64 27 - (M 64 28 + 1)) (becM (up E 64 28 (M 64 28 + 1)) (M 81 (4 * (M 64 28))) (M 81 (4 * (M 64 28) + 1)) (M 81 (4 * (M 64 28) + 3)))) := by
      refine sg_M_redo (d := 39) (ite_i (fun _ => ?_) (fun t => absurd (by rw [eE 64 28 (by unfold TX; omega) (by omega), eE 64 27 (by unfold TX; omega) (by omega)]; exact z) t))
      rw [eE 64 28 (by unfold TX; omega) (by omega), w32_i (x := 4 * (M 64 28)) (by omega) (by omega), w32_i (x := 4 * (M 64 28) + 1) (by omega) (by omega), w32_i (x := 4 * (M 64 28) + 3) (by omega) (by omega), eE 81 _ (by unfold TX; omega) (by omega), eE 81 _ (by unfold TX; omega) (by omega), eE 81 _ (by unfold TX; omega) (by omega)]
      refine ⟨⟨by omega, by omega⟩, ⟨by omega, by omega⟩, ⟨by omega, by omega⟩, _, c_M_becomes y e3, ?_⟩
      rw [becM_to 64 28 (by unfold TW; omega), eE 64 28 (by unfold TX; omega) (by omega), w1, up_eq, up_n (by omega), becM_to 64 27 (by unfold TW; omega), eE 64 27 (by unfold TX; omega) (by omega), w32_i (by omega) (by omega), becM_up (by unfold TW; omega)]
    refine Pk.of hx hm ?_
    rw [hE]
    exact undo_inv i (by omega) (by omega) t6
end P38
