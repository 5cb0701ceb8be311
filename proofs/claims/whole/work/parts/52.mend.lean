/-! promises mend, undo, redo -/
def appP (N : Mem) (num what v was : Int) (r : Res) : Prop := (0 ≤ w32 (4 * (N 64 28)) ∧ w32 (4 * (N 64 28)) < 160) ∧ (0 ≤ w32 ((w32 (4 * ((up N 81 (w32 (4 * (N 64 28))) num) 64 28))) + 1) ∧ w32 ((w32 (4 * ((up N 81 (w32 (4 * (N 64 28))) num) 64 28))) + 1) < 160) ∧ (0 ≤ w32 ((w32 (4 * ((up (up N 81 (w32 (4 * (N 64 28))) num) 81 (w32 ((w32 (4 * ((up N 81 (w32 (4 * (N 64 28))) num) 64 28))) + 1)) what) 64 28))) + 2) ∧ w32 ((w32 (4 * ((up (up N 81 (w32 (4 * (N 64 28))) num) 81 (w32 ((w32 (4 * ((up N 81 (w32 (4 * (N 64 28))) num) 64 28))) + 1)) what) 64 28))) + 2) < 160) ∧ (0 ≤ w32 ((w32 (4 * ((up (up (up N 81 (w32 (4 * (N 64 28))) num) 81 (w32 ((w32 (4 * ((up N 81 (w32 (4 * (N 64 28))) num) 64 28))) + 1)) what) 81 (w32 ((w32 (4 * ((up (up N 81 (w32 (4 * (N 64 28))) num) 81 (w32 ((w32 (4 * ((up N 81 (w32 (4 * (N 64 28))) num) 64 28))) + 1)) what) 64 28))) + 2)) was) 64 28))) + 3) ∧ w32 ((w32 (4 * ((up (up (up N 81 (w32 (4 * (N 64 28))) num) 81 (w32 ((w32 (4 * ((up N 81 (w32 (4 * (N 64 28))) num) 64 28))) + 1)) what) 81 (w32 ((w32 (4 * ((up (up N 81 (w32 (4 * (N 64 28))) num) 81 (w32 ((w32 (4 * ((up N 81 (w32 (4 * (N 64 28))) num) 64 28))) + 1)) what) 64 28))) + 2)) was) 64 28))) + 3) < 160) ∧ r = (some (0, was), up (up (up (up (up (up N 81 (w32 (4 * (N 64 28))) num) 81 (w32 ((w32 (4 * ((up N 81 (w32 (4 * (N 64 28))) num) 64 28))) + 1)) what) 81 (w32 ((w32 (4 * ((up (up N 81 (w32 (4 * (N 64 28))) num) 81 (w32 ((w32 (4 * ((up N 81 (w32 (4 * (N 64 28))) num) 64 28))) + 1)) what) 64 28))) + 2)) was) 81 (w32 ((w32 (4 * ((up (up (up N 81 (w32 (4 * (N 64 28))) num) 81 (w32 ((w32 (4 * ((up N 81 (w32 (4 * (N 64 28))) num) 64 28))) + 1)) what) 81 (w32 ((w32 (4 * ((up (up N 81 (w32 (4 * (N 64 28))) num) 81 (w32 ((w32 (4 * ((up N 81 (w32 (4 * (N 64 28))) num) 64 28))) + 1)) what) 64 28))) + 2)) was) 64 28))) + 3)) v) 64 28 (w32 (((up (up (up (up N 81 (w32 (4 * (N 64 28))) num) 81 (w32 ((w32 (4 * ((up N 81 (w32 (4 * (N 64 28))) num) 64 28))) + 1)) what) 81 (w32 ((w32 (4 * ((up (up N 81 (w32 (4 * (N 64 28))) num) 81 (w32 ((w32 (4 * ((up N 81 (w32 (4 * (N 64 28))) num) 64 28))) + 1)) what) 64 28))) + 2)) was) 81 (w32 ((w32 (4 * ((up (up (up N 81 (w32 (4 * (N 64 28))) num) 81 (w32 ((w32 (4 * ((up N 81 (w32 (4 * (N 64 28))) num) 64 28))) + 1)) what) 81 (w32 ((w32 (4 * ((up (up N 81 (w32 (4 * (N 64 28))) num) 81 (w32 ((w32 (4 * ((up N 81 (w32 (4 * (N 64 28))) num) 64 28))) + 1)) what) 64 28))) + 2)) was) 64 28))) + 3)) v) 64 28) + 1))) 64 27 ((up (up (up (up (up N 81 (w32 (4 * (N 64 28))) num) 81 (w32 ((w32 (4 * ((up N 81 (w32 (4 * (N 64 28))) num) 64 28))) + 1)) what) 81 (w32 ((w32 (4 * ((up (up N 81 (w32 (4 * (N 64 28))) num) 81 (w32 ((w32 (4 * ((up N 81 (w32 (4 * (N 64 28))) num) 64 28))) + 1)) what) 64 28))) + 2)) was) 81 (w32 ((w32 (4 * ((up (up (up N 81 (w32 (4 * (N 64 28))) num) 81 (w32 ((w32 (4 * ((up N 81 (w32 (4 * (N 64 28))) num) 64 28))) + 1)) what) 81 (w32 ((w32 (4 * ((up (up N 81 (w32 (4 * (N 64 28))) num) 81 (w32 ((w32 (4 * ((up N 81 (w32 (4 * (N 64 28))) num) 64 28))) + 1)) what) 64 28))) + 2)) was) 64 28))) + 3)) v) 64 28 (w32 (((up (up (up (up N 81 (w32 (4 * (N 64 28))) num) 81 (w32 ((w32 (4 * ((up N 81 (w32 (4 * (N 64 28))) num) 64 28))) + 1)) what) 81 (w32 ((w32 (4 * ((up (up N 81 (w32 (4 * (N 64 28))) num) 81 (w32 ((w32 (4 * ((up N 81 (w32 (4 * (N 64 28))) num) 64 28))) + 1)) what) 64 28))) + 2)) was) 81 (w32 ((w32 (4 * ((up (up (up N 81 (w32 (4 * (N 64 28))) num) 81 (w32 ((w32 (4 * ((up N 81 (w32 (4 * (N 64 28))) num) 64 28))) + 1)) what) 81 (w32 ((w32 (4 * ((up (up N 81 (w32 (4 * (N 64 28))) num) 81 (w32 ((w32 (4 * ((up N 81 (w32 (4 * (N 64 28))) num) 64 28))) + 1)) what) 64 28))) + 2)) was) 64 28))) + 3)) v) 64 28) + 1))) 64 28))
def NFx (N : Mem) (D num what was v : Int) : Mem := up (up (up (up (up (up N 81 (4 * D) num) 81 (4 * D + 1) what) 81 (4 * D + 2) was) 81 (4 * D + 3) v) 64 28 (D + 1)) 64 27 (D + 1)
def CFx (C : Mem) (D num what was v : Int) : Mem := up (up (up (up (up (up C 38 D num) 39 D what) 40 D was) 41 D v) 37 4 (D + 1)) 37 5 (D + 1)
def NFy (N : Mem) : Mem := up (fil N 81 0 (fun i => N 81 (i + 4)) 156) 64 28 39
def CFy (C : Mem) : Mem := up (cpy (cpy (cpy (cpy C 38 38 1 0 39) 39 39 1 0 39) 40 40 1 0 39) 41 41 1 0 39) 37 4 39
section P36
variable {M N C : Mem} {a b c D n num what v was x : Int}
theorem u81 {i : Int} : up N 81 i v 64 28 = N 64 28 := up_n (by omega)
theorem u38 {i : Int} : up N 38 i v 37 4 = N 37 4 := up_n (by omega)
theorem u39 {i : Int} : up N 39 i v 37 4 = N 37 4 := up_n (by omega)
theorem u40 {i : Int} : up N 40 i v 37 4 = N 37 4 := up_n (by omega)
theorem u41 {i : Int} : up N 41 i v 37 4 = N 37 4 := up_n (by omega)
theorem app_ok (h : N 64 28 = D) (d0 : 0 ≤ D) (d1 : D < 40) : appP N num what v was (rI was (NFx N D num what was v)) := by
  have e0 : w32 (4 * D) = 4 * D := w32_i (by omega) (by omega)
  have e1 : w32 (4 * D + 1) = 4 * D + 1 := w32_i (by omega) (by omega)
  have e2 : w32 (4 * D + 2) = 4 * D + 2 := w32_i (by omega) (by omega)
  have e3 : w32 (4 * D + 3) = 4 * D + 3 := w32_i (by omega) (by omega)
  have e4 : w32 (D + 1) = D + 1 := w32_i (by omega) (by omega)
  unfold appP
  simp only [u81, h, e0, e1, e2, e3, e4, up_eq]
  exact ⟨⟨by omega, by omega⟩, ⟨by omega, by omega⟩, ⟨by omega, by omega⟩, ⟨by omega, by omega⟩, rfl⟩
theorem c_M_app (h : N 64 28 = D) (d0 : 0 ≤ D) (d1 : D ≤ 40) : (if ¬ N 64 28 = 40 then appP N num what v was (rI was (if D < 40 then NFx N D num what was v else NFx (NFy N) 39 num what was v)) else at_M_mend_42 39 num what v was 0 N (rI was (if D < 40 then NFx N D num what was v else NFx (NFy N) 39 num what was v))) := by
  by_cases q : D < 40
  · rw [if_pos q]
    exact ite_i (fun _ => app_ok h d0 q) (fun t => absurd (by omega) t)
  · rw [if_neg q]
    refine ite_i (fun t => absurd (by omega) t) (fun _ => ?_)
    have l1 := loop_up (fun Mx k => at_M_mend_42 39 num what v was k Mx (rI was (NFx (NFy N) 39 num what was v))) (fil N 81 0 (fun i => N 81 (i + 4))) 156 (sg_M_mend_42 (ite_i (fun _ => by
        rw [show fil N 81 0 (fun i => N 81 (i + 4)) 156 64 28 = 40 by rw [fil_n (by omega), h]; omega, show w32 (40 - 1) = 39 by decide +kernel]
        exact app_ok (N := NFy N) (D := 39) (by unfold NFy; rw [up_eq]) (by decide) (by decide)) (fun t => absurd (by decide) t))) (fun k hk ih => sg_M_mend_42 (ite_i (fun t => absurd t (by omega)) (fun _ => by
        rw [w32_i (x := (k : Int) + 4) (by omega) (by omega), w32_k (by omega), fil_s (by omega) (by rw [fil_n (by omega)])]
        exact ⟨⟨by omega, by omega⟩, ⟨by omega, by omega⟩, ih⟩)))
    rw [fil_0] at l1
    exact l1
theorem c_H_note (h : C 37 4 = D) (d0 : 0 ≤ D) (d1 : D ≤ 40) : Cl 39 m_H_note [(2, 37), (0, num), (0, what), (0, was), (0, v)] C (rV (if D < 40 then CFx C D num what was v else CFx (CFy C) 39 num what was v)) := by
  have e4 : True → w32 (D + 1) = D + 1 := fun _ => w32_i (by omega) (by omega)
  by_cases q : D < 40
  · rw [if_pos q]
    refine sg_H_note (d := 38) (ite_i (fun _ => ?_) (fun t => absurd (by omega) t))
    simp only [u38, u39, u40, u41, h, e4 trivial, up_eq]
    exact ⟨⟨by omega, by omega⟩, ⟨by omega, by omega⟩, ⟨by omega, by omega⟩, ⟨by omega, by omega⟩, rfl⟩
  · rw [if_neg q]
    refine sg_H_note (d := 38) (ite_i (fun t => absurd t (by omega)) (fun _ => ⟨CFy C, sg_H_forgetOldest (d := 37) rfl, ?_⟩))
    have h39 : CFy C 37 4 = 39 := by unfold CFy; rw [up_eq]
    simp only [u38, u39, u40, u41, h39, up_eq]
    exact ⟨⟨by omega, by omega⟩, ⟨by omega, by omega⟩, ⟨by omega, by omega⟩, ⟨by omega, by omega⟩, rfl⟩
theorem note_R8 {M' : Mem} {D' off : Int} (r : R8 M) (hD : (M 64 28 < 40 ∧ D' = M 64 28 ∧ off = 0) ∨ (M 64 28 = 40 ∧ D' = 39 ∧ off = 1)) (g1 : M' 37 4 = D' + 1) (g2 : M' 37 5 = D' + 1) (g3 : M' 64 28 = D' + 1) (g4 : M' 64 27 = D' + 1) (g5 : M' 64 0 = M 64 0)
    (o : ∀ i : Int, 0 ≤ i → i < D' → M' 38 i = M 38 (i + off) ∧ M' 39 i = M 39 (i + off) ∧ M' 40 i = M 40 (i + off) ∧ M' 41 i = M 41 (i + off) ∧ ∀ j : Int, 0 ≤ j → j < 4 → M' 81 (4 * i + j) = M 81 (4 * (i + off) + j))
    (w : M' 38 D' = num ∧ M' 39 D' = what ∧ M' 40 D' = was ∧ M' 41 D' = v ∧ M' 81 (4 * D') = num ∧ M' 81 (4 * D' + 1) = what ∧ M' 81 (4 * D' + 2) = was ∧ M' 81 (4 * D' + 3) = v) (v1 : VC (M 64 0) num what was) (v2 : VC (M 64 0) num what v) : R8 M' := by
  obtain ⟨r1, r2, r3, r4, r5, r6⟩ := r
  unfold R8
  rw [g1, g2, g3, g4, g5]
  refine ⟨rfl, rfl, by omega, by omega, by omega, fun i i0 i1 => ?_⟩
  by_cases q : i < D'
  · obtain ⟨o1, o2, o3, o4, o5⟩ := o i i0 q
    obtain ⟨s1, s2, s3, s4, s5, s6⟩ := r6 (i + off) (by omega) (by omega)
    have p0 := o5 0 (by decide) (by decide)
    rw [Int.add_zero, Int.add_zero] at p0
    rw [o1, o2, o3, o4, p0, o5 1 (by decide) (by decide), o5 2 (by decide) (by decide), o5 3 (by decide) (by decide)]
    exact ⟨s1, s2, s3, s4, s5, s6⟩
  · obtain ⟨w1, w2, w3, w4, w5, w6, w7, w8⟩ := w
    rw [show i = D' by omega, w1, w2, w3, w4, w5, w6, w7, w8]
    exact ⟨rfl, rfl, rfl, rfl, v1, v2⟩
def TH (o : Nat) (i : Int) : Prop := (o = 37 ∧ (i = 4 ∨ i = 5)) ∨ (38 ≤ o ∧ o ≤ 41)
def TN (o : Nat) (i : Int) : Prop := o = 81 ∨ (o = 64 ∧ (i = 27 ∨ i = 28))
theorem CFx_to : To TH C (CFx C D num what was v) := ((((((To.refl _ C).upd (by unfold TH; omega)).upd (by unfold TH; omega)).upd (by unfold TH; omega)).upd (by unfold TH; omega)).upd (by unfold TH; omega)).upd (by unfold TH; omega)
theorem CFy_to : To TH C (CFy C) := (((((To.refl _ C).cpy (fun _ _ _ => by unfold TH; omega)).cpy (fun _ _ _ => by unfold TH; omega)).cpy (fun _ _ _ => by unfold TH; omega)).cpy (fun _ _ _ => by unfold TH; omega)).upd (by unfold TH; omega)
theorem NFx_to : To TN N (NFx N D num what was v) := ((((((To.refl _ N).upd (by unfold TN; omega)).upd (by unfold TN; omega)).upd (by unfold TN; omega)).upd (by unfold TN; omega)).upd (by unfold TN; omega)).upd (by unfold TN; omega)
theorem NFy_to : To TN N (NFy N) := ((To.refl _ N).fil (fun _ _ _ => by unfold TN; omega)).upd (by unfold TN; omega)
theorem becM_at {C1 C2 : Mem} {o : Nat} {i : Int} (h : C2 o i = C1 o i) : becM C2 num what v o i = becM C1 num what v o i := by
  unfold becM
  have u : ∀ (b : Nat) (j : Int), up C2 b j v o i = up C1 b j v o i := fun b j => by
    unfold up
    split
    · rfl
    · exact h
  split
  · exact u _ _
  · split
    · exact u _ _
    · exact u _ _
end P36
