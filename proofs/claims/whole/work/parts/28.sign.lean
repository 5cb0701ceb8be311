/-! promises sign and mended -/
section P13
variable {M : Mem} {a b c m x : Int}
/-- how many cards have an arch on a finger -/
def GP (M : Mem) (f : Int) : Int := if cntB (fun c => decide (M 65 (10 * (c : Int) + f) = 3)) (M 64 0).toNat < M 64 0 - cntB (fun c => decide (M 65 (10 * (c : Int) + f) = 3)) (M 64 0).toNat then M 64 0 - cntB (fun c => decide (M 65 (10 * (c : Int) + f) = 3)) (M 64 0).toNat else cntB (fun c => decide (M 65 (10 * (c : Int) + f) = 3)) (M 64 0).toNat
theorem GP_le (h1 : R1 M) {f : Int} : 0 ≤ GP M f ∧ GP M f ≤ 12 := by
  have e2 := h1.2.1; have e3 := h1.2.2.1
  have := cntB_le (fun c => decide (M 65 (10 * (c : Int) + f) = 3)) (M 64 0).toNat
  unfold GP
  split <;> omega
theorem c_X_greaterPart (h1 : R1 M) (h2 : R2 M) {f : Int} (f0 : 0 ≤ f) (f9 : f < 10) : Cl 39 m_X_greaterPart [(2, 0), (0, f)] M (rI (GP M f) M) := by
  have e1 := h1.1; have e2 := h1.2.1; have e3 := h1.2.2.1
  refine (sg_X_greaterPart (d := 38) ?_)
  refine loop_up (fun v i => at_X_greaterPart_4 38 f v i M (rI (GP M f) M)) (cntB (fun c => decide (M 65 (10 * (c : Int) + f) = 3))) (M 64 0).toNat ?_ ?_
  · have := cntB_le (fun c => decide (M 65 (10 * (c : Int) + f) = 3)) (M 64 0).toNat
    refine sg_X_greaterPart_4 (ite_i (fun _ => ?_) (fun q => absurd (by omega) q))
    rw [e1, w32_i (by omega) (by omega)]
    rfl
  · intro k hk ih
    have hcn := cntB_le (fun c => decide (M 65 (10 * (c : Int) + f) = 3)) k
    obtain ⟨k1, -⟩ := h2 k f (by omega) (by omega) f0 f9
    refine sg_X_greaterPart_4 (ite_i (fun q => absurd q (by omega)) (fun _ => ?_))
    rw [w32_k (by omega), k1]
    refine ⟨⟨by omega, by omega⟩, ⟨f0, f9⟩, ite_i (fun z => ?_) (fun z => ?_)⟩
    · rw [cntB_f (dec_f z)] at ih; exact ih
    · rw [cntB_t (dec_t (Classical.not_not.mp z))] at ih
      rw [w32_i (by omega) (by omega)]; exact ih
theorem c_M_sign_in (h1 : R1 M) {p l2 l3 : Int} {k : Nat} (hk : k < 10) {r : Res} (h : if GP M (k : Int) < l3 then ∀ w5 w6, at_M_sign__13 39 p k (GP M (k : Int)) (w32 ((k : Int) + 1)) w5 w6 M r else ∀ w5 w6, at_M_sign__13 39 p l2 l3 (w32 ((k : Int) + 1)) w5 w6 M r) : at_M_sign__20 39 p l2 l3 k 0 0 M r := by
  have e2 := h1.2.1; have e3 := h1.2.2.1
  refine loop_up (fun v i => at_M_sign__20 39 p l2 l3 k v i M r) (cntB (fun c => decide (M 65 (10 * (c : Int) + (k : Int)) = 3))) (M 64 0).toNat ?_ ?_
  · have := cntB_le (fun c => decide (M 65 (10 * (c : Int) + (k : Int)) = 3)) (M 64 0).toNat
    refine sg_M_sign__20 (ite_i (fun _ => ?_) (fun q => absurd (by omega) q))
    rw [w32_i (x := M 64 0 - _) (by omega) (by omega)]
    change if GP M (k : Int) < l3 then at_M_sign__13 39 p k (GP M (k : Int)) (w32 ((k : Int) + 1)) _ (0, GP M (k : Int)) M r else at_M_sign__13 39 p l2 l3 (w32 ((k : Int) + 1)) _ (0, GP M (k : Int)) M r
    by_cases q : GP M (k : Int) < l3
    · rw [if_pos q] at h ⊢; exact h _ _
    · rw [if_neg q] at h ⊢; exact h _ _
  · intro j hj ih
    have hcn := cntB_le (fun c => decide (M 65 (10 * (c : Int) + (k : Int)) = 3)) j
    refine sg_M_sign__20 (ite_i (fun q => absurd q (by omega)) (fun _ => ?_))
    rw [w32_k (by omega), ix10 (by omega) (by omega) (by omega) (by omega)]
    refine ⟨⟨by omega, by omega⟩, ite_i (fun z => ?_) (fun z => ?_)⟩
    · rw [cntB_f (dec_f z)] at ih; exact ih
    · rw [cntB_t (dec_t (Classical.not_not.mp z))] at ih
      rw [w32_i (by omega) (by omega)]; exact ih
theorem pr_sign (h1 : R1 M) (h2 : R2 M) : Bo m_X_sign m_M_sign_ [(0, a)] M := by
  by_cases z : 0 ≤ a ∧ a ≤ 1
  · obtain ⟨B, B0, Bt, Bf⟩ : ∃ B : Nat → Nat, B 0 = 0 ∧ (∀ k : Nat, GP M (k : Int) < GP M (B k : Int) → B (k + 1) = k) ∧ (∀ k : Nat, ¬ GP M (k : Int) < GP M (B k : Int) → B (k + 1) = B k) :=
      ⟨bst (fun i => -(GP M (i : Int))), rfl, fun k h => bst_t (g := fun i => -(GP M (i : Int))) (Int.neg_lt_neg h), fun k h => bst_f (g := fun i => -(GP M (i : Int))) (fun q => h (Int.lt_of_neg_lt_neg q))⟩
    have B1 : B (0 + 1) = 0 := (Bf 0 (by rw [B0]; exact Int.lt_irrefl _)).trans B0
    refine ⟨if ¬ a = 0 then GP M (B 10 : Int) else (B 10 : Int), sg_X_sign (d := 39) (ite_i (fun q => absurd q (by omega)) (fun _ => ite_i (fun _ => ?_) (fun q => absurd z.2 q))), sg_M_sign_ (d := 39) ⟨_, c_M_within (by decide), ite_bn (fun _ => ?_) (fun q => absurd z q)⟩⟩
    · refine loop_up (fun (v : Int × Int) i => ∀ w, at_X_sign_13 39 a v.1 v.2 i w M _) (fun k => (if k = 0 then 0 else (B k : Int), if k = 0 then 13 else GP M (B k : Int))) 10 ?_ ?_ _
      · refine fun w => sg_X_sign_13 (ite_i (fun _ => ite_i (fun q => ?_) (fun q => ?_)) (fun q => absurd (by decide) q))
        · rw [if_pos q]; rfl
        · rw [if_neg q]; rfl
      · intro k hk ih w
        refine sg_X_sign_13 (ite_i (fun q => absurd q (by omega)) (fun _ => ?_))
        rw [w32_k (by omega)]
        simp only [if_neg (show ¬ k + 1 = 0 by omega)] at ih
        refine ⟨_, c_X_greaterPart h1 h2 (by omega) (by omega), ?_⟩
        by_cases q0 : k = 0
        · subst q0
          have hf := GP_le (f := ((0 : Nat) : Int)) h1
          rw [if_pos rfl, if_pos rfl]
          rw [B1] at ih
          exact ite_i (fun q => absurd q (by omega)) (fun _ => ih _)
        · rw [if_neg q0, if_neg q0]
          refine ite_i (fun q => ?_) (fun q => ?_)
          · rw [Bf k (Int.not_lt.mpr q)] at ih; exact ih _
          · rw [Bt k (Int.not_le.mp q)] at ih; exact ih _
    · refine loop_up (fun (v : Int × Int) i => ∀ w5 w6, at_M_sign__13 39 a v.1 v.2 i w5 w6 M _) (fun k => (if k = 0 then 0 else (B k : Int), if k = 0 then 99 else GP M (B k : Int))) 10 ?_ ?_ _ _
      · refine fun w5 w6 => sg_M_sign__13 (ite_i (fun _ => ite_i (fun q => ?_) (fun q => ?_)) (fun q => absurd (by decide) q))
        · rw [if_pos q]; rfl
        · rw [if_neg q]; rfl
      · intro k hk ih w5 w6
        refine sg_M_sign__13 (ite_i (fun q => absurd q (by omega)) (fun _ => c_M_sign_in h1 hk ?_))
        rw [w32_k (by omega)]
        simp only [if_neg (show ¬ k + 1 = 0 by omega)] at ih
        by_cases q0 : k = 0
        · subst q0
          have hf := GP_le (f := ((0 : Nat) : Int)) h1
          rw [if_pos rfl, if_pos rfl]
          rw [B1] at ih
          exact ite_i (fun _ => ih) (fun q => absurd (by omega) q)
        · rw [if_neg q0, if_neg q0]
          refine ite_i (fun q => ?_) (fun q => ?_)
          · rw [Bt k q] at ih; exact ih
          · rw [Bf k q] at ih; exact ih
  · exact ⟨-1, sg_X_sign (d := 39) (ite_i (fun _ => rfl) (fun q => ite_i (fun q2 => absurd ⟨by omega, q2⟩ z) (fun _ => rfl))), sg_M_sign_ (d := 39) ⟨_, c_M_within (by decide), ite_bn (fun q => absurd q z) (fun _ => rfl)⟩⟩
end P13
