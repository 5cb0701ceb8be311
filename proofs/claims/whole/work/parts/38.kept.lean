/-! what a row keeps of a long -/
def KP (s v : Int) : Int := if s = 0 then Int.bmod (w32 v) 256 else if s = 1 then Int.bmod (w32 v) 65536 else if s = 2 then w32 v else if s = 3 then v else if v = 0 then 0 else 1
section P23
variable {M : Mem} {s v : Int}
theorem c_M_kept {d : Nat} (hd : 1 ≤ d) : Cl d m_M_kept [(0, s), (1, v)] M (rL (KP s v) M) := by
  refine (sg_M_kept (d := 0) ?_).mono hd
  unfold KP
  by_cases q0 : s = 0
  · rw [if_pos q0, if_pos q0]
  by_cases q1 : s = 1
  · rw [if_neg q0, if_neg q0, if_pos q1, if_pos q1]
  by_cases q2 : s = 2
  · rw [if_neg q0, if_neg q0, if_neg q1, if_neg q1, if_pos q2, if_pos q2]
  by_cases q3 : s = 3
  · rw [if_neg q0, if_neg q0, if_neg q1, if_neg q1, if_neg q2, if_neg q2, if_pos q3, if_pos q3]
  · rw [if_neg q0, if_neg q0, if_neg q1, if_neg q1, if_neg q2, if_neg q2, if_neg q3, if_neg q3]
    refine ite_i (fun t => ?_) (fun t => ?_)
    · rw [if_pos (lcmp_eq.mp t)]
    · rw [if_neg (fun y => t (lcmp_eq.mpr y))]
theorem c_S_lowestBits {d : Nat} (hd : 2 ≤ d) : Cl d m_S_lowestBits [(0, s), (1, v)] M (rL (KP s v) M) := by
  refine (sg_S_lowestBits (d := 1) ?_).mono hd
  unfold KP
  by_cases q0 : s = 0
  · rw [if_pos q0, if_pos q0]
  by_cases q1 : s = 1
  · rw [if_neg q0, if_neg q0, if_pos q1, if_pos q1]
  by_cases q2 : s = 2
  · rw [if_neg q0, if_neg q0, if_neg q1, if_neg q1, if_pos q2, if_pos q2]
  by_cases q3 : s = 3
  · rw [if_neg q0, if_neg q0, if_neg q1, if_neg q1, if_neg q2, if_neg q2, if_pos q3, if_pos q3]
  · rw [if_neg q0, if_neg q0, if_neg q1, if_neg q1, if_neg q2, if_neg q2, if_neg q3, if_neg q3]
    refine ite_i (fun t => ⟨0, sg_X_truth (d := 0) (ite_i (fun _ => rfl) (fun y => absurd rfl y)), ?_⟩) (fun t => ⟨1, sg_X_truth (d := 0) (ite_i (fun y => absurd y (by decide)) (fun _ => rfl)), ?_⟩)
    · rw [if_pos (lcmp_eq.mp t)]
    · rw [if_neg (fun y => t (lcmp_eq.mpr y))]
end P23
