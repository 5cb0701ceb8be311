/-! what each method owes, point by point (by program) -/
def at_W_law_8 (sx : SX) (d : Nat) (w3 : AV) (M : Mem) (r : Res) : Prop := Ex sx d k_W_law 3 8 [(2, 93), (2, 0), (2, 64), w3] [] M r
def at_W_law_10 (sx : SX) (d : Nat) (l3 : Int) (M : Mem) (r : Res) : Prop := Ex sx d k_W_law 3 10 [(2, 93), (2, 0), (2, 64), (0, l3)] [] M r
def at_W_law_22 (sx : SX) (d : Nat) (l3 : Int) (M : Mem) (r : Res) : Prop := Ex sx d k_W_law 3 22 [(2, 93), (2, 0), (2, 64), (0, l3)] [] M r
def at_W_law_29 (sx : SX) (d : Nat) (l3 : Int) (M : Mem) (r : Res) : Prop := Ex sx d k_W_law 3 29 [(2, 93), (2, 0), (2, 64), (0, l3)] [] M r
def at_W_law_66 (sx : SX) (d : Nat) (l3 : Int) (M : Mem) (r : Res) : Prop := Ex sx d k_W_law 3 66 [(2, 93), (2, 0), (2, 64), (0, l3)] [] M r
def at_W_law_103 (sx : SX) (d : Nat) (l3 : Int) (M : Mem) (r : Res) : Prop := Ex sx d k_W_law 3 103 [(2, 93), (2, 0), (2, 64), (0, l3)] [] M r
def at_W_law_130 (sx : SX) (d : Nat) (l3 : Int) (M : Mem) (r : Res) : Prop := Ex sx d k_W_law 3 130 [(2, 93), (2, 0), (2, 64), (0, l3)] [] M r
def at_W_law_147 (sx : SX) (d : Nat) (l3 : Int) (M : Mem) (r : Res) : Prop := Ex sx d k_W_law 3 147 [(2, 93), (2, 0), (2, 64), (0, l3)] [] M r
def at_W_law_154 (sx : SX) (d : Nat) (l3 : Int) (M : Mem) (r : Res) : Prop := Ex sx d k_W_law 3 154 [(2, 93), (2, 0), (2, 64), (0, l3)] [] M r
def at_W_law_181 (sx : SX) (d : Nat) (l3 : Int) (M : Mem) (r : Res) : Prop := Ex sx d k_W_law 3 181 [(2, 93), (2, 0), (2, 64), (0, l3)] [] M r
def at_W_law_208 (sx : SX) (d : Nat) (l3 : Int) (M : Mem) (r : Res) : Prop := Ex sx d k_W_law 3 208 [(2, 93), (2, 0), (2, 64), (0, l3)] [] M r
def at_W_law_235 (sx : SX) (d : Nat) (l3 : Int) (M : Mem) (r : Res) : Prop := Ex sx d k_W_law 3 235 [(2, 93), (2, 0), (2, 64), (0, l3)] [] M r
def at_W_law_242 (sx : SX) (d : Nat) (l3 : Int) (M : Mem) (r : Res) : Prop := Ex sx d k_W_law 3 242 [(2, 93), (2, 0), (2, 64), (0, l3)] [] M r
def at_W_law_259 (sx : SX) (d : Nat) (l3 : Int) (M : Mem) (r : Res) : Prop := Ex sx d k_W_law 3 259 [(2, 93), (2, 0), (2, 64), (0, l3)] [] M r
def at_W_law_276 (sx : SX) (d : Nat) (l3 : Int) (M : Mem) (r : Res) : Prop := Ex sx d k_W_law 3 276 [(2, 93), (2, 0), (2, 64), (0, l3)] [] M r
def at_W_law_303 (sx : SX) (d : Nat) (l3 : Int) (M : Mem) (r : Res) : Prop := Ex sx d k_W_law 3 303 [(2, 93), (2, 0), (2, 64), (0, l3)] [] M r
def at_W_law_330 (sx : SX) (d : Nat) (l3 : Int) (M : Mem) (r : Res) : Prop := Ex sx d k_W_law 3 330 [(2, 93), (2, 0), (2, 64), (0, l3)] [] M r
def at_W_law_347 (sx : SX) (d : Nat) (l3 : Int) (M : Mem) (r : Res) : Prop := Ex sx d k_W_law 3 347 [(2, 93), (2, 0), (2, 64), (0, l3)] [] M r
def at_W_law_364 (sx : SX) (d : Nat) (l3 : Int) (M : Mem) (r : Res) : Prop := Ex sx d k_W_law 3 364 [(2, 93), (2, 0), (2, 64), (0, l3)] [] M r
def at_W_law_391 (sx : SX) (d : Nat) (l3 : Int) (M : Mem) (r : Res) : Prop := Ex sx d k_W_law 3 391 [(2, 93), (2, 0), (2, 64), (0, l3)] [] M r
def at_W_law_408 (sx : SX) (d : Nat) (l3 : Int) (M : Mem) (r : Res) : Prop := Ex sx d k_W_law 3 408 [(2, 93), (2, 0), (2, 64), (0, l3)] [] M r
def at_W_law_425 (sx : SX) (d : Nat) (l3 : Int) (M : Mem) (r : Res) : Prop := Ex sx d k_W_law 3 425 [(2, 93), (2, 0), (2, 64), (0, l3)] [] M r
def at_W_law_453 (sx : SX) (d : Nat) (l3 : Int) (M : Mem) (r : Res) : Prop := Ex sx d k_W_law 3 453 [(2, 93), (2, 0), (2, 64), (0, l3)] [] M r
def at_W_law_470 (sx : SX) (d : Nat) (l3 : Int) (M : Mem) (r : Res) : Prop := Ex sx d k_W_law 3 470 [(2, 93), (2, 0), (2, 64), (0, l3)] [] M r
def at_W_law_487 (sx : SX) (d : Nat) (l3 : Int) (M : Mem) (r : Res) : Prop := Ex sx d k_W_law 3 487 [(2, 93), (2, 0), (2, 64), (0, l3)] [] M r
def at_W_law_514 (sx : SX) (d : Nat) (l3 : Int) (M : Mem) (r : Res) : Prop := Ex sx d k_W_law 3 514 [(2, 93), (2, 0), (2, 64), (0, l3)] [] M r
def at_W_law_552 (sx : SX) (d : Nat) (l3 : Int) (M : Mem) (r : Res) : Prop := Ex sx d k_W_law 3 552 [(2, 93), (2, 0), (2, 64), (0, l3)] [] M r
def at_W_law_569 (sx : SX) (d : Nat) (l3 : Int) (M : Mem) (r : Res) : Prop := Ex sx d k_W_law 3 569 [(2, 93), (2, 0), (2, 64), (0, l3)] [] M r
def at_W_law_596 (sx : SX) (d : Nat) (l3 : Int) (M : Mem) (r : Res) : Prop := Ex sx d k_W_law 3 596 [(2, 93), (2, 0), (2, 64), (0, l3)] [] M r
def at_W_law_633 (sx : SX) (d : Nat) (l3 : Int) (M : Mem) (r : Res) : Prop := Ex sx d k_W_law 3 633 [(2, 93), (2, 0), (2, 64), (0, l3)] [] M r
def at_W_law_650 (sx : SX) (d : Nat) (l3 : Int) (M : Mem) (r : Res) : Prop := Ex sx d k_W_law 3 650 [(2, 93), (2, 0), (2, 64), (0, l3)] [] M r
def at_W_law_667 (sx : SX) (d : Nat) (l3 : Int) (M : Mem) (r : Res) : Prop := Ex sx d k_W_law 3 667 [(2, 93), (2, 0), (2, 64), (0, l3)] [] M r
def at_W_law_704 (sx : SX) (d : Nat) (l3 : Int) (M : Mem) (r : Res) : Prop := Ex sx d k_W_law 3 704 [(2, 93), (2, 0), (2, 64), (0, l3)] [] M r
def at_W_law_731 (sx : SX) (d : Nat) (l3 : Int) (M : Mem) (r : Res) : Prop := Ex sx d k_W_law 3 731 [(2, 93), (2, 0), (2, 64), (0, l3)] [] M r
def at_W_law_748 (sx : SX) (d : Nat) (l3 : Int) (M : Mem) (r : Res) : Prop := Ex sx d k_W_law 3 748 [(2, 93), (2, 0), (2, 64), (0, l3)] [] M r
def at_W_law_765 (sx : SX) (d : Nat) (l3 : Int) (M : Mem) (r : Res) : Prop := Ex sx d k_W_law 3 765 [(2, 93), (2, 0), (2, 64), (0, l3)] [] M r
def at_W_law_782 (sx : SX) (d : Nat) (l3 : Int) (M : Mem) (r : Res) : Prop := Ex sx d k_W_law 3 782 [(2, 93), (2, 0), (2, 64), (0, l3)] [] M r
def at_W_law_789 (sx : SX) (d : Nat) (l3 : Int) (M : Mem) (r : Res) : Prop := Ex sx d k_W_law 3 789 [(2, 93), (2, 0), (2, 64), (0, l3)] [] M r
def at_W_law_796 (sx : SX) (d : Nat) (l3 : Int) (M : Mem) (r : Res) : Prop := Ex sx d k_W_law 3 796 [(2, 93), (2, 0), (2, 64), (0, l3)] [] M r
def at_W_law_803 (sx : SX) (d : Nat) (l3 : Int) (M : Mem) (r : Res) : Prop := Ex sx d k_W_law 3 803 [(2, 93), (2, 0), (2, 64), (0, l3)] [] M r
def at_W_law_810 (sx : SX) (d : Nat) (l3 : Int) (M : Mem) (r : Res) : Prop := Ex sx d k_W_law 3 810 [(2, 93), (2, 0), (2, 64), (0, l3)] [] M r
def at_W_law_827 (sx : SX) (d : Nat) (l3 : Int) (M : Mem) (r : Res) : Prop := Ex sx d k_W_law 3 827 [(2, 93), (2, 0), (2, 64), (0, l3)] [] M r
def at_W_law_864 (sx : SX) (d : Nat) (l3 : Int) (M : Mem) (r : Res) : Prop := Ex sx d k_W_law 3 864 [(2, 93), (2, 0), (2, 64), (0, l3)] [] M r
def at_W_law_881 (sx : SX) (d : Nat) (l3 : Int) (M : Mem) (r : Res) : Prop := Ex sx d k_W_law 3 881 [(2, 93), (2, 0), (2, 64), (0, l3)] [] M r
def at_W_law_908 (sx : SX) (d : Nat) (l3 : Int) (M : Mem) (r : Res) : Prop := Ex sx d k_W_law 3 908 [(2, 93), (2, 0), (2, 64), (0, l3)] [] M r
def at_W_law_945 (sx : SX) (d : Nat) (l3 : Int) (M : Mem) (r : Res) : Prop := Ex sx d k_W_law 3 945 [(2, 93), (2, 0), (2, 64), (0, l3)] [] M r
def at_W_law_1006 (sx : SX) (d : Nat) (l3 : Int) (M : Mem) (r : Res) : Prop := Ex sx d k_W_law 3 1006 [(2, 93), (2, 0), (2, 64), (0, l3)] [] M r
def at_W_law_1034 (sx : SX) (d : Nat) (l3 : Int) (M : Mem) (r : Res) : Prop := Ex sx d k_W_law 3 1034 [(2, 93), (2, 0), (2, 64), (0, l3)] [] M r
def at_W_law_1091 (sx : SX) (d : Nat) (l3 : Int) (M : Mem) (r : Res) : Prop := Ex sx d k_W_law 3 1091 [(2, 93), (2, 0), (2, 64), (0, l3)] [] M r
def at_W_law_1118 (sx : SX) (d : Nat) (l3 : Int) (M : Mem) (r : Res) : Prop := Ex sx d k_W_law 3 1118 [(2, 93), (2, 0), (2, 64), (0, l3)] [] M r
def at_W_law_1135 (sx : SX) (d : Nat) (l3 : Int) (M : Mem) (r : Res) : Prop := Ex sx d k_W_law 3 1135 [(2, 93), (2, 0), (2, 64), (0, l3)] [] M r
set_option maxRecDepth 20000 in
theorem sg_W_law_8 {sx : SX} {d : Nat} {w3 : AV} {M : Mem} {r : Res} (h : at_W_law_10 sx d 0 M r) : at_W_law_8 sx d w3 M r := by
  unfold at_W_law_8
  refine x_c (pc' := 9) rfl rfl ?_
  refine x_is (pc' := 10) (ls' := [(2, 93), (2, 0), (2, 64), (0, 0)]) rfl rfl rfl rfl ?_
  exact h
set_option maxRecDepth 20000 in
theorem sg_W_law_10 {sx : SX} {d : Nat} {l3 : Int} {M : Mem} {r : Res} (h : (0 ≤ sx.1) ∧ (if w32 ((sx.1) - 6) < l3 then r = (some (0, 1), M) else (0 ≤ l3 ∧ l3 < sx.1) ∧ (if iand (sx.2 l3) 63 = 0 then at_W_law_22 sx d l3 M r else (if iand (sx.2 l3) 63 = 1 then at_W_law_29 sx d l3 M r else (if iand (sx.2 l3) 63 = 2 then at_W_law_66 sx d l3 M r else (if iand (sx.2 l3) 63 = 3 then at_W_law_103 sx d l3 M r else (if iand (sx.2 l3) 63 = 4 then at_W_law_130 sx d l3 M r else (if iand (sx.2 l3) 63 = 5 then at_W_law_147 sx d l3 M r else (if iand (sx.2 l3) 63 = 6 then at_W_law_154 sx d l3 M r else (if iand (sx.2 l3) 63 = 7 then at_W_law_181 sx d l3 M r else (if iand (sx.2 l3) 63 = 8 then at_W_law_208 sx d l3 M r else (if iand (sx.2 l3) 63 = 9 then at_W_law_235 sx d l3 M r else (if iand (sx.2 l3) 63 = 10 then at_W_law_242 sx d l3 M r else (if iand (sx.2 l3) 63 = 11 then at_W_law_259 sx d l3 M r else (if iand (sx.2 l3) 63 = 12 then at_W_law_276 sx d l3 M r else (if iand (sx.2 l3) 63 = 13 then at_W_law_303 sx d l3 M r else (if iand (sx.2 l3) 63 = 14 then at_W_law_330 sx d l3 M r else (if iand (sx.2 l3) 63 = 15 then at_W_law_347 sx d l3 M r else (if iand (sx.2 l3) 63 = 16 then at_W_law_364 sx d l3 M r else (if iand (sx.2 l3) 63 = 17 then at_W_law_391 sx d l3 M r else (if iand (sx.2 l3) 63 = 18 then at_W_law_408 sx d l3 M r else (if iand (sx.2 l3) 63 = 19 then at_W_law_425 sx d l3 M r else (if iand (sx.2 l3) 63 = 20 then at_W_law_453 sx d l3 M r else (if iand (sx.2 l3) 63 = 21 then at_W_law_470 sx d l3 M r else (if iand (sx.2 l3) 63 = 22 then at_W_law_487 sx d l3 M r else (if iand (sx.2 l3) 63 = 23 then at_W_law_514 sx d l3 M r else (if iand (sx.2 l3) 63 = 24 then at_W_law_552 sx d l3 M r else (if iand (sx.2 l3) 63 = 25 then at_W_law_569 sx d l3 M r else (if iand (sx.2 l3) 63 = 26 then at_W_law_596 sx d l3 M r else (if iand (sx.2 l3) 63 = 27 then at_W_law_633 sx d l3 M r else (if iand (sx.2 l3) 63 = 28 then at_W_law_650 sx d l3 M r else (if iand (sx.2 l3) 63 = 29 then at_W_law_667 sx d l3 M r else (if iand (sx.2 l3) 63 = 30 then at_W_law_704 sx d l3 M r else (if iand (sx.2 l3) 63 = 31 then at_W_law_731 sx d l3 M r else (if iand (sx.2 l3) 63 = 32 then at_W_law_748 sx d l3 M r else (if iand (sx.2 l3) 63 = 33 then at_W_law_765 sx d l3 M r else (if iand (sx.2 l3) 63 = 34 then at_W_law_782 sx d l3 M r else (if iand (sx.2 l3) 63 = 35 then at_W_law_789 sx d l3 M r else (if iand (sx.2 l3) 63 = 36 then at_W_law_796 sx d l3 M r else (if iand (sx.2 l3) 63 = 37 then at_W_law_803 sx d l3 M r else (if iand (sx.2 l3) 63 = 38 then at_W_law_810 sx d l3 M r else (if iand (sx.2 l3) 63 = 39 then at_W_law_827 sx d l3 M r else (if iand (sx.2 l3) 63 = 40 then at_W_law_864 sx d l3 M r else (if iand (sx.2 l3) 63 = 41 then at_W_law_881 sx d l3 M r else (if iand (sx.2 l3) 63 = 42 then at_W_law_908 sx d l3 M r else (if iand (sx.2 l3) 63 = 43 then at_W_law_945 sx d l3 M r else (if iand (sx.2 l3) 63 = 44 then at_W_law_1006 sx d l3 M r else (if iand (sx.2 l3) 63 = 45 then at_W_law_1034 sx d l3 M r else (if iand (sx.2 l3) 63 = 46 then at_W_law_1091 sx d l3 M r else (if iand (sx.2 l3) 63 = 47 then at_W_law_1118 sx d l3 M r else at_W_law_1135 sx d l3 M r)))))))))))))))))))))))))))))))))))))))))))))))))) : at_W_law_10 sx d l3 M r := by
  unfold at_W_law_10
  refine x_il (pc' := 11) rfl rfl rfl ?_
  refine x_al (pc' := 12) rfl rfl (by decide) rfl ?_
  obtain ⟨q1, h⟩ := h
  refine x_len (pc' := 13) rfl q1 rfl ?_
  refine x_c (pc' := 14) rfl rfl ?_
  refine x_ib (pc' := 15) (v := w32 ((sx.1) - 6)) rfl rfl rfl ?_
  refine x_icgt (pc' := 16) (t' := 1137) rfl rfl rfl (fun q2 => ?_) (fun q2 => ?_)
  · replace h := ite_t q2 h
    refine x_c (pc' := 1138) rfl rfl ?_
    exact x_zret rfl (by decide) h
  · replace h := ite_f q2 h
    refine x_al (pc' := 17) rfl rfl (by decide) rfl ?_
    refine x_il (pc' := 18) rfl rfl rfl ?_
    obtain ⟨q3, h⟩ := h
    refine x_iav (pc' := 19) (v := sx.2 l3) rfl (ld_sx q3) rfl ?_
    refine x_c (pc' := 20) rfl rfl ?_
    refine x_ib (pc' := 21) (v := iand (sx.2 l3) 63) rfl rfl rfl ?_
    by_cases q4 : iand (sx.2 l3) 63 = 0
    · replace h := ite_t q4 h
      refine x_tswv (t' := 22) 0 rfl q4 rfl rfl ?_
      exact h
    replace h := ite_f q4 h
    by_cases q5 : iand (sx.2 l3) 63 = 1
    · replace h := ite_t q5 h
      refine x_tswv (t' := 29) 1 rfl q5 rfl rfl ?_
      exact h
    replace h := ite_f q5 h
    by_cases q6 : iand (sx.2 l3) 63 = 2
    · replace h := ite_t q6 h
      refine x_tswv (t' := 66) 2 rfl q6 rfl rfl ?_
      exact h
    replace h := ite_f q6 h
    by_cases q7 : iand (sx.2 l3) 63 = 3
    · replace h := ite_t q7 h
      refine x_tswv (t' := 103) 3 rfl q7 rfl rfl ?_
      exact h
    replace h := ite_f q7 h
    by_cases q8 : iand (sx.2 l3) 63 = 4
    · replace h := ite_t q8 h
      refine x_tswv (t' := 130) 4 rfl q8 rfl rfl ?_
      exact h
    replace h := ite_f q8 h
    by_cases q9 : iand (sx.2 l3) 63 = 5
    · replace h := ite_t q9 h
      refine x_tswv (t' := 147) 5 rfl q9 rfl rfl ?_
      exact h
    replace h := ite_f q9 h
    by_cases q10 : iand (sx.2 l3) 63 = 6
    · replace h := ite_t q10 h
      refine x_tswv (t' := 154) 6 rfl q10 rfl rfl ?_
      exact h
    replace h := ite_f q10 h
    by_cases q11 : iand (sx.2 l3) 63 = 7
    · replace h := ite_t q11 h
      refine x_tswv (t' := 181) 7 rfl q11 rfl rfl ?_
      exact h
    replace h := ite_f q11 h
    by_cases q12 : iand (sx.2 l3) 63 = 8
    · replace h := ite_t q12 h
      refine x_tswv (t' := 208) 8 rfl q12 rfl rfl ?_
      exact h
    replace h := ite_f q12 h
    by_cases q13 : iand (sx.2 l3) 63 = 9
    · replace h := ite_t q13 h
      refine x_tswv (t' := 235) 9 rfl q13 rfl rfl ?_
      exact h
    replace h := ite_f q13 h
    by_cases q14 : iand (sx.2 l3) 63 = 10
    · replace h := ite_t q14 h
      refine x_tswv (t' := 242) 10 rfl q14 rfl rfl ?_
      exact h
    replace h := ite_f q14 h
    by_cases q15 : iand (sx.2 l3) 63 = 11
    · replace h := ite_t q15 h
      refine x_tswv (t' := 259) 11 rfl q15 rfl rfl ?_
      exact h
    replace h := ite_f q15 h
    by_cases q16 : iand (sx.2 l3) 63 = 12
    · replace h := ite_t q16 h
      refine x_tswv (t' := 276) 12 rfl q16 rfl rfl ?_
      exact h
    replace h := ite_f q16 h
    by_cases q17 : iand (sx.2 l3) 63 = 13
    · replace h := ite_t q17 h
      refine x_tswv (t' := 303) 13 rfl q17 rfl rfl ?_
      exact h
    replace h := ite_f q17 h
    by_cases q18 : iand (sx.2 l3) 63 = 14
    · replace h := ite_t q18 h
      refine x_tswv (t' := 330) 14 rfl q18 rfl rfl ?_
      exact h
    replace h := ite_f q18 h
    by_cases q19 : iand (sx.2 l3) 63 = 15
    · replace h := ite_t q19 h
      refine x_tswv (t' := 347) 15 rfl q19 rfl rfl ?_
      exact h
    replace h := ite_f q19 h
    by_cases q20 : iand (sx.2 l3) 63 = 16
    · replace h := ite_t q20 h
      refine x_tswv (t' := 364) 16 rfl q20 rfl rfl ?_
      exact h
    replace h := ite_f q20 h
    by_cases q21 : iand (sx.2 l3) 63 = 17
    · replace h := ite_t q21 h
      refine x_tswv (t' := 391) 17 rfl q21 rfl rfl ?_
      exact h
    replace h := ite_f q21 h
    by_cases q22 : iand (sx.2 l3) 63 = 18
    · replace h := ite_t q22 h
      refine x_tswv (t' := 408) 18 rfl q22 rfl rfl ?_
      exact h
    replace h := ite_f q22 h
    by_cases q23 : iand (sx.2 l3) 63 = 19
    · replace h := ite_t q23 h
      refine x_tswv (t' := 425) 19 rfl q23 rfl rfl ?_
      exact h
    replace h := ite_f q23 h
    by_cases q24 : iand (sx.2 l3) 63 = 20
    · replace h := ite_t q24 h
      refine x_tswv (t' := 453) 20 rfl q24 rfl rfl ?_
      exact h
    replace h := ite_f q24 h
    by_cases q25 : iand (sx.2 l3) 63 = 21
    · replace h := ite_t q25 h
      refine x_tswv (t' := 470) 21 rfl q25 rfl rfl ?_
      exact h
    replace h := ite_f q25 h
    by_cases q26 : iand (sx.2 l3) 63 = 22
    · replace h := ite_t q26 h
      refine x_tswv (t' := 487) 22 rfl q26 rfl rfl ?_
      exact h
    replace h := ite_f q26 h
    by_cases q27 : iand (sx.2 l3) 63 = 23
    · replace h := ite_t q27 h
      refine x_tswv (t' := 514) 23 rfl q27 rfl rfl ?_
      exact h
    replace h := ite_f q27 h
    by_cases q28 : iand (sx.2 l3) 63 = 24
    · replace h := ite_t q28 h
      refine x_tswv (t' := 552) 24 rfl q28 rfl rfl ?_
      exact h
    replace h := ite_f q28 h
    by_cases q29 : iand (sx.2 l3) 63 = 25
    · replace h := ite_t q29 h
      refine x_tswv (t' := 569) 25 rfl q29 rfl rfl ?_
      exact h
    replace h := ite_f q29 h
    by_cases q30 : iand (sx.2 l3) 63 = 26
    · replace h := ite_t q30 h
      refine x_tswv (t' := 596) 26 rfl q30 rfl rfl ?_
      exact h
    replace h := ite_f q30 h
    by_cases q31 : iand (sx.2 l3) 63 = 27
    · replace h := ite_t q31 h
      refine x_tswv (t' := 633) 27 rfl q31 rfl rfl ?_
      exact h
    replace h := ite_f q31 h
    by_cases q32 : iand (sx.2 l3) 63 = 28
    · replace h := ite_t q32 h
      refine x_tswv (t' := 650) 28 rfl q32 rfl rfl ?_
      exact h
    replace h := ite_f q32 h
    by_cases q33 : iand (sx.2 l3) 63 = 29
    · replace h := ite_t q33 h
      refine x_tswv (t' := 667) 29 rfl q33 rfl rfl ?_
      exact h
    replace h := ite_f q33 h
    by_cases q34 : iand (sx.2 l3) 63 = 30
    · replace h := ite_t q34 h
      refine x_tswv (t' := 704) 30 rfl q34 rfl rfl ?_
      exact h
    replace h := ite_f q34 h
    by_cases q35 : iand (sx.2 l3) 63 = 31
    · replace h := ite_t q35 h
      refine x_tswv (t' := 731) 31 rfl q35 rfl rfl ?_
      exact h
    replace h := ite_f q35 h
    by_cases q36 : iand (sx.2 l3) 63 = 32
    · replace h := ite_t q36 h
      refine x_tswv (t' := 748) 32 rfl q36 rfl rfl ?_
      exact h
    replace h := ite_f q36 h
    by_cases q37 : iand (sx.2 l3) 63 = 33
    · replace h := ite_t q37 h
      refine x_tswv (t' := 765) 33 rfl q37 rfl rfl ?_
      exact h
    replace h := ite_f q37 h
    by_cases q38 : iand (sx.2 l3) 63 = 34
    · replace h := ite_t q38 h
      refine x_tswv (t' := 782) 34 rfl q38 rfl rfl ?_
      exact h
    replace h := ite_f q38 h
    by_cases q39 : iand (sx.2 l3) 63 = 35
    · replace h := ite_t q39 h
      refine x_tswv (t' := 789) 35 rfl q39 rfl rfl ?_
      exact h
    replace h := ite_f q39 h
    by_cases q40 : iand (sx.2 l3) 63 = 36
    · replace h := ite_t q40 h
      refine x_tswv (t' := 796) 36 rfl q40 rfl rfl ?_
      exact h
    replace h := ite_f q40 h
    by_cases q41 : iand (sx.2 l3) 63 = 37
    · replace h := ite_t q41 h
      refine x_tswv (t' := 803) 37 rfl q41 rfl rfl ?_
      exact h
    replace h := ite_f q41 h
    by_cases q42 : iand (sx.2 l3) 63 = 38
    · replace h := ite_t q42 h
      refine x_tswv (t' := 810) 38 rfl q42 rfl rfl ?_
      exact h
    replace h := ite_f q42 h
    by_cases q43 : iand (sx.2 l3) 63 = 39
    · replace h := ite_t q43 h
      refine x_tswv (t' := 827) 39 rfl q43 rfl rfl ?_
      exact h
    replace h := ite_f q43 h
    by_cases q44 : iand (sx.2 l3) 63 = 40
    · replace h := ite_t q44 h
      refine x_tswv (t' := 864) 40 rfl q44 rfl rfl ?_
      exact h
    replace h := ite_f q44 h
    by_cases q45 : iand (sx.2 l3) 63 = 41
    · replace h := ite_t q45 h
      refine x_tswv (t' := 881) 41 rfl q45 rfl rfl ?_
      exact h
    replace h := ite_f q45 h
    by_cases q46 : iand (sx.2 l3) 63 = 42
    · replace h := ite_t q46 h
      refine x_tswv (t' := 908) 42 rfl q46 rfl rfl ?_
      exact h
    replace h := ite_f q46 h
    by_cases q47 : iand (sx.2 l3) 63 = 43
    · replace h := ite_t q47 h
      refine x_tswv (t' := 945) 43 rfl q47 rfl rfl ?_
      exact h
    replace h := ite_f q47 h
    by_cases q48 : iand (sx.2 l3) 63 = 44
    · replace h := ite_t q48 h
      refine x_tswv (t' := 1006) 44 rfl q48 rfl rfl ?_
      exact h
    replace h := ite_f q48 h
    by_cases q49 : iand (sx.2 l3) 63 = 45
    · replace h := ite_t q49 h
      refine x_tswv (t' := 1034) 45 rfl q49 rfl rfl ?_
      exact h
    replace h := ite_f q49 h
    by_cases q50 : iand (sx.2 l3) 63 = 46
    · replace h := ite_t q50 h
      refine x_tswv (t' := 1091) 46 rfl q50 rfl rfl ?_
      exact h
    replace h := ite_f q50 h
    by_cases q51 : iand (sx.2 l3) 63 = 47
    · replace h := ite_t q51 h
      refine x_tswv (t' := 1118) 47 rfl q51 rfl rfl ?_
      exact h
    replace h := ite_f q51 h
    refine x_tswd (t' := 1135) rfl (show iand (sx.2 l3) 63 < 0 ∨ 0 + ((48 : Nat) : Int) ≤ iand (sx.2 l3) 63 by omega) rfl ?_
    exact h
set_option maxRecDepth 20000 in
theorem sg_W_law_22 {sx : SX} {d : Nat} {l3 : Int} {M : Mem} {r : Res} (h : ∃ v2 M3, Cl d m_X_card [(2, 0)] M (some (0, v2), M3) ∧ ∃ v5 M6, Cl d m_M_card [(2, 64)] M3 (some (0, v5), M6) ∧ (if v2 = v5 then at_W_law_1135 sx d l3 M6 r else r = (some (0, 0), M6))) : at_W_law_22 sx d l3 M r := by
  unfold at_W_law_22
  refine x_al (pc' := 23) rfl rfl (by decide) rfl ?_
  obtain ⟨v2, M3, q1, h⟩ := h
  refine x_call (pc' := 24) (as := [(2, 0)]) (rest := []) rfl rfl rfl rfl rfl rfl q1 ?_
  refine x_al (pc' := 25) rfl rfl (by decide) rfl ?_
  obtain ⟨v5, M6, q4, h⟩ := h
  refine x_call (pc' := 26) (as := [(2, 64)]) (rest := [(0, v2)]) rfl rfl rfl rfl rfl rfl q4 ?_
  refine x_iceq (pc' := 27) (t' := 1135) rfl rfl rfl (fun q7 => ?_) (fun q7 => ?_)
  · replace h := ite_t q7 h
    exact h
  · replace h := ite_f q7 h
    refine x_c (pc' := 28) rfl rfl ?_
    exact x_zret rfl (by decide) h
set_option maxRecDepth 20000 in
theorem sg_W_law_29 {sx : SX} {d : Nat} {l3 : Int} {M : Mem} {r : Res} (h : (0 ≤ w32 (l3 + 1) ∧ w32 (l3 + 1) < sx.1) ∧ (0 ≤ w32 (l3 + 2) ∧ w32 (l3 + 2) < sx.1) ∧ (0 ≤ w32 (l3 + 3) ∧ w32 (l3 + 3) < sx.1) ∧ ∃ v5 M6, Cl d m_X_cards [(2, 0), (0, sx.2 (w32 (l3 + 1))), (0, sx.2 (w32 (l3 + 2))), (0, sx.2 (w32 (l3 + 3)))] M (some (0, v5), M6) ∧ (0 ≤ w32 (l3 + 1) ∧ w32 (l3 + 1) < sx.1) ∧ (0 ≤ w32 (l3 + 2) ∧ w32 (l3 + 2) < sx.1) ∧ (0 ≤ w32 (l3 + 3) ∧ w32 (l3 + 3) < sx.1) ∧ ∃ v11 M12, Cl d m_M_cards [(2, 64), (0, sx.2 (w32 (l3 + 1))), (0, sx.2 (w32 (l3 + 2))), (0, sx.2 (w32 (l3 + 3)))] M6 (some (0, v11), M12) ∧ (if v5 = v11 then at_W_law_1135 sx d l3 M12 r else r = (some (0, 0), M12))) : at_W_law_29 sx d l3 M r := by
  unfold at_W_law_29
  refine x_al (pc' := 30) rfl rfl (by decide) rfl ?_
  refine x_al (pc' := 31) rfl rfl (by decide) rfl ?_
  refine x_il (pc' := 32) rfl rfl rfl ?_
  refine x_c (pc' := 33) rfl rfl ?_
  refine x_ib (pc' := 34) (v := w32 (l3 + 1)) rfl rfl rfl ?_
  obtain ⟨q1, h⟩ := h
  refine x_iav (pc' := 35) (v := sx.2 (w32 (l3 + 1))) rfl (ld_sx q1) rfl ?_
  refine x_al (pc' := 36) rfl rfl (by decide) rfl ?_
  refine x_il (pc' := 37) rfl rfl rfl ?_
  refine x_c (pc' := 38) rfl rfl ?_
  refine x_ib (pc' := 39) (v := w32 (l3 + 2)) rfl rfl rfl ?_
  obtain ⟨q2, h⟩ := h
  refine x_iav (pc' := 40) (v := sx.2 (w32 (l3 + 2))) rfl (ld_sx q2) rfl ?_
  refine x_al (pc' := 41) rfl rfl (by decide) rfl ?_
  refine x_il (pc' := 42) rfl rfl rfl ?_
  refine x_c (pc' := 43) rfl rfl ?_
  refine x_ib (pc' := 44) (v := w32 (l3 + 3)) rfl rfl rfl ?_
  obtain ⟨q3, h⟩ := h
  refine x_iav (pc' := 45) (v := sx.2 (w32 (l3 + 3))) rfl (ld_sx q3) rfl ?_
  obtain ⟨v5, M6, q4, h⟩ := h
  refine x_call (pc' := 46) (as := [(2, 0), (0, sx.2 (w32 (l3 + 1))), (0, sx.2 (w32 (l3 + 2))), (0, sx.2 (w32 (l3 + 3)))]) (rest := []) rfl rfl rfl rfl rfl rfl q4 ?_
  refine x_al (pc' := 47) rfl rfl (by decide) rfl ?_
  refine x_al (pc' := 48) rfl rfl (by decide) rfl ?_
  refine x_il (pc' := 49) rfl rfl rfl ?_
  refine x_c (pc' := 50) rfl rfl ?_
  refine x_ib (pc' := 51) (v := w32 (l3 + 1)) rfl rfl rfl ?_
  obtain ⟨q7, h⟩ := h
  refine x_iav (pc' := 52) (v := sx.2 (w32 (l3 + 1))) rfl (ld_sx q7) rfl ?_
  refine x_al (pc' := 53) rfl rfl (by decide) rfl ?_
  refine x_il (pc' := 54) rfl rfl rfl ?_
  refine x_c (pc' := 55) rfl rfl ?_
  refine x_ib (pc' := 56) (v := w32 (l3 + 2)) rfl rfl rfl ?_
  obtain ⟨q8, h⟩ := h
  refine x_iav (pc' := 57) (v := sx.2 (w32 (l3 + 2))) rfl (ld_sx q8) rfl ?_
  refine x_al (pc' := 58) rfl rfl (by decide) rfl ?_
  refine x_il (pc' := 59) rfl rfl rfl ?_
  refine x_c (pc' := 60) rfl rfl ?_
  refine x_ib (pc' := 61) (v := w32 (l3 + 3)) rfl rfl rfl ?_
  obtain ⟨q9, h⟩ := h
  refine x_iav (pc' := 62) (v := sx.2 (w32 (l3 + 3))) rfl (ld_sx q9) rfl ?_
  obtain ⟨v11, M12, q10, h⟩ := h
  refine x_call (pc' := 63) (as := [(2, 64), (0, sx.2 (w32 (l3 + 1))), (0, sx.2 (w32 (l3 + 2))), (0, sx.2 (w32 (l3 + 3)))]) (rest := [(0, v5)]) rfl rfl rfl rfl rfl rfl q10 ?_
  refine x_iceq (pc' := 64) (t' := 1135) rfl rfl rfl (fun q13 => ?_) (fun q13 => ?_)
  · replace h := ite_t q13 h
    exact h
  · replace h := ite_f q13 h
    refine x_c (pc' := 65) rfl rfl ?_
    exact x_zret rfl (by decide) h
set_option maxRecDepth 20000 in
theorem sg_W_law_66 {sx : SX} {d : Nat} {l3 : Int} {M : Mem} {r : Res} (h : (0 ≤ w32 (l3 + 1) ∧ w32 (l3 + 1) < sx.1) ∧ (0 ≤ w32 (l3 + 2) ∧ w32 (l3 + 2) < sx.1) ∧ (0 ≤ w32 (l3 + 3) ∧ w32 (l3 + 3) < sx.1) ∧ ∃ v5 M6, Cl d m_X_mend [(2, 0), (0, sx.2 (w32 (l3 + 1))), (0, sx.2 (w32 (l3 + 2))), (0, sx.2 (w32 (l3 + 3)))] M (some (0, v5), M6) ∧ (0 ≤ w32 (l3 + 1) ∧ w32 (l3 + 1) < sx.1) ∧ (0 ≤ w32 (l3 + 2) ∧ w32 (l3 + 2) < sx.1) ∧ (0 ≤ w32 (l3 + 3) ∧ w32 (l3 + 3) < sx.1) ∧ ∃ v11 M12, Cl d m_M_mend [(2, 64), (0, sx.2 (w32 (l3 + 1))), (0, sx.2 (w32 (l3 + 2))), (0, sx.2 (w32 (l3 + 3)))] M6 (some (0, v11), M12) ∧ (if v5 = v11 then at_W_law_1135 sx d l3 M12 r else r = (some (0, 0), M12))) : at_W_law_66 sx d l3 M r := by
  unfold at_W_law_66
  refine x_al (pc' := 67) rfl rfl (by decide) rfl ?_
  refine x_al (pc' := 68) rfl rfl (by decide) rfl ?_
  refine x_il (pc' := 69) rfl rfl rfl ?_
  refine x_c (pc' := 70) rfl rfl ?_
  refine x_ib (pc' := 71) (v := w32 (l3 + 1)) rfl rfl rfl ?_
  obtain ⟨q1, h⟩ := h
  refine x_iav (pc' := 72) (v := sx.2 (w32 (l3 + 1))) rfl (ld_sx q1) rfl ?_
  refine x_al (pc' := 73) rfl rfl (by decide) rfl ?_
  refine x_il (pc' := 74) rfl rfl rfl ?_
  refine x_c (pc' := 75) rfl rfl ?_
  refine x_ib (pc' := 76) (v := w32 (l3 + 2)) rfl rfl rfl ?_
  obtain ⟨q2, h⟩ := h
  refine x_iav (pc' := 77) (v := sx.2 (w32 (l3 + 2))) rfl (ld_sx q2) rfl ?_
  refine x_al (pc' := 78) rfl rfl (by decide) rfl ?_
  refine x_il (pc' := 79) rfl rfl rfl ?_
  refine x_c (pc' := 80) rfl rfl ?_
  refine x_ib (pc' := 81) (v := w32 (l3 + 3)) rfl rfl rfl ?_
  obtain ⟨q3, h⟩ := h
  refine x_iav (pc' := 82) (v := sx.2 (w32 (l3 + 3))) rfl (ld_sx q3) rfl ?_
  obtain ⟨v5, M6, q4, h⟩ := h
  refine x_call (pc' := 83) (as := [(2, 0), (0, sx.2 (w32 (l3 + 1))), (0, sx.2 (w32 (l3 + 2))), (0, sx.2 (w32 (l3 + 3)))]) (rest := []) rfl rfl rfl rfl rfl rfl q4 ?_
  refine x_al (pc' := 84) rfl rfl (by decide) rfl ?_
  refine x_al (pc' := 85) rfl rfl (by decide) rfl ?_
  refine x_il (pc' := 86) rfl rfl rfl ?_
  refine x_c (pc' := 87) rfl rfl ?_
  refine x_ib (pc' := 88) (v := w32 (l3 + 1)) rfl rfl rfl ?_
  obtain ⟨q7, h⟩ := h
  refine x_iav (pc' := 89) (v := sx.2 (w32 (l3 + 1))) rfl (ld_sx q7) rfl ?_
  refine x_al (pc' := 90) rfl rfl (by decide) rfl ?_
  refine x_il (pc' := 91) rfl rfl rfl ?_
  refine x_c (pc' := 92) rfl rfl ?_
  refine x_ib (pc' := 93) (v := w32 (l3 + 2)) rfl rfl rfl ?_
  obtain ⟨q8, h⟩ := h
  refine x_iav (pc' := 94) (v := sx.2 (w32 (l3 + 2))) rfl (ld_sx q8) rfl ?_
  refine x_al (pc' := 95) rfl rfl (by decide) rfl ?_
  refine x_il (pc' := 96) rfl rfl rfl ?_
  refine x_c (pc' := 97) rfl rfl ?_
  refine x_ib (pc' := 98) (v := w32 (l3 + 3)) rfl rfl rfl ?_
  obtain ⟨q9, h⟩ := h
  refine x_iav (pc' := 99) (v := sx.2 (w32 (l3 + 3))) rfl (ld_sx q9) rfl ?_
  obtain ⟨v11, M12, q10, h⟩ := h
  refine x_call (pc' := 100) (as := [(2, 64), (0, sx.2 (w32 (l3 + 1))), (0, sx.2 (w32 (l3 + 2))), (0, sx.2 (w32 (l3 + 3)))]) (rest := [(0, v5)]) rfl rfl rfl rfl rfl rfl q10 ?_
  refine x_iceq (pc' := 101) (t' := 1135) rfl rfl rfl (fun q13 => ?_) (fun q13 => ?_)
  · replace h := ite_t q13 h
    exact h
  · replace h := ite_f q13 h
    refine x_c (pc' := 102) rfl rfl ?_
    exact x_zret rfl (by decide) h
set_option maxRecDepth 20000 in
theorem sg_W_law_103 {sx : SX} {d : Nat} {l3 : Int} {M : Mem} {r : Res} (h : (0 ≤ w32 (l3 + 1) ∧ w32 (l3 + 1) < sx.1) ∧ (0 ≤ w32 (l3 + 2) ∧ w32 (l3 + 2) < sx.1) ∧ ∃ v4, Cl d m_X_of [(2, 0), (0, sx.2 (w32 (l3 + 1))), (0, sx.2 (w32 (l3 + 2)))] M (some (0, v4), M) ∧ (0 ≤ w32 (l3 + 1) ∧ w32 (l3 + 1) < sx.1) ∧ (0 ≤ w32 (l3 + 2) ∧ w32 (l3 + 2) < sx.1) ∧ ∃ v8, Cl d m_M_of [(2, 64), (0, sx.2 (w32 (l3 + 1))), (0, sx.2 (w32 (l3 + 2)))] M (some (0, v8), M) ∧ (if v4 = v8 then at_W_law_1135 sx d l3 M r else r = (some (0, 0), M))) : at_W_law_103 sx d l3 M r := by
  unfold at_W_law_103
  refine x_al (pc' := 104) rfl rfl (by decide) rfl ?_
  refine x_al (pc' := 105) rfl rfl (by decide) rfl ?_
  refine x_il (pc' := 106) rfl rfl rfl ?_
  refine x_c (pc' := 107) rfl rfl ?_
  refine x_ib (pc' := 108) (v := w32 (l3 + 1)) rfl rfl rfl ?_
  obtain ⟨q1, h⟩ := h
  refine x_iav (pc' := 109) (v := sx.2 (w32 (l3 + 1))) rfl (ld_sx q1) rfl ?_
  refine x_al (pc' := 110) rfl rfl (by decide) rfl ?_
  refine x_il (pc' := 111) rfl rfl rfl ?_
  refine x_c (pc' := 112) rfl rfl ?_
  refine x_ib (pc' := 113) (v := w32 (l3 + 2)) rfl rfl rfl ?_
  obtain ⟨q2, h⟩ := h
  refine x_iav (pc' := 114) (v := sx.2 (w32 (l3 + 2))) rfl (ld_sx q2) rfl ?_
  obtain ⟨v4, q3, h⟩ := h
  refine x_call (pc' := 115) (as := [(2, 0), (0, sx.2 (w32 (l3 + 1))), (0, sx.2 (w32 (l3 + 2)))]) (rest := []) rfl rfl rfl rfl rfl rfl q3 ?_
  refine x_al (pc' := 116) rfl rfl (by decide) rfl ?_
  refine x_al (pc' := 117) rfl rfl (by decide) rfl ?_
  refine x_il (pc' := 118) rfl rfl rfl ?_
  refine x_c (pc' := 119) rfl rfl ?_
  refine x_ib (pc' := 120) (v := w32 (l3 + 1)) rfl rfl rfl ?_
  obtain ⟨q5, h⟩ := h
  refine x_iav (pc' := 121) (v := sx.2 (w32 (l3 + 1))) rfl (ld_sx q5) rfl ?_
  refine x_al (pc' := 122) rfl rfl (by decide) rfl ?_
  refine x_il (pc' := 123) rfl rfl rfl ?_
  refine x_c (pc' := 124) rfl rfl ?_
  refine x_ib (pc' := 125) (v := w32 (l3 + 2)) rfl rfl rfl ?_
  obtain ⟨q6, h⟩ := h
  refine x_iav (pc' := 126) (v := sx.2 (w32 (l3 + 2))) rfl (ld_sx q6) rfl ?_
  obtain ⟨v8, q7, h⟩ := h
  refine x_call (pc' := 127) (as := [(2, 64), (0, sx.2 (w32 (l3 + 1))), (0, sx.2 (w32 (l3 + 2)))]) (rest := [(0, v4)]) rfl rfl rfl rfl rfl rfl q7 ?_
  refine x_iceq (pc' := 128) (t' := 1135) rfl rfl rfl (fun q9 => ?_) (fun q9 => ?_)
  · replace h := ite_t q9 h
    exact h
  · replace h := ite_f q9 h
    refine x_c (pc' := 129) rfl rfl ?_
    exact x_zret rfl (by decide) h
set_option maxRecDepth 20000 in
theorem sg_W_law_130 {sx : SX} {d : Nat} {l3 : Int} {M : Mem} {r : Res} (h : (0 ≤ w32 (l3 + 1) ∧ w32 (l3 + 1) < sx.1) ∧ ∃ v3 M4, Cl d m_X_feed [(2, 0), (0, sx.2 (w32 (l3 + 1)))] M (some (0, v3), M4) ∧ (0 ≤ w32 (l3 + 1) ∧ w32 (l3 + 1) < sx.1) ∧ ∃ v7 M8, Cl d m_M_feed [(2, 64), (0, sx.2 (w32 (l3 + 1)))] M4 (some (0, v7), M8) ∧ (if v3 = v7 then at_W_law_1135 sx d l3 M8 r else r = (some (0, 0), M8))) : at_W_law_130 sx d l3 M r := by
  unfold at_W_law_130
  refine x_al (pc' := 131) rfl rfl (by decide) rfl ?_
  refine x_al (pc' := 132) rfl rfl (by decide) rfl ?_
  refine x_il (pc' := 133) rfl rfl rfl ?_
  refine x_c (pc' := 134) rfl rfl ?_
  refine x_ib (pc' := 135) (v := w32 (l3 + 1)) rfl rfl rfl ?_
  obtain ⟨q1, h⟩ := h
  refine x_iav (pc' := 136) (v := sx.2 (w32 (l3 + 1))) rfl (ld_sx q1) rfl ?_
  obtain ⟨v3, M4, q2, h⟩ := h
  refine x_call (pc' := 137) (as := [(2, 0), (0, sx.2 (w32 (l3 + 1)))]) (rest := []) rfl rfl rfl rfl rfl rfl q2 ?_
  refine x_al (pc' := 138) rfl rfl (by decide) rfl ?_
  refine x_al (pc' := 139) rfl rfl (by decide) rfl ?_
  refine x_il (pc' := 140) rfl rfl rfl ?_
  refine x_c (pc' := 141) rfl rfl ?_
  refine x_ib (pc' := 142) (v := w32 (l3 + 1)) rfl rfl rfl ?_
  obtain ⟨q5, h⟩ := h
  refine x_iav (pc' := 143) (v := sx.2 (w32 (l3 + 1))) rfl (ld_sx q5) rfl ?_
  obtain ⟨v7, M8, q6, h⟩ := h
  refine x_call (pc' := 144) (as := [(2, 64), (0, sx.2 (w32 (l3 + 1)))]) (rest := [(0, v3)]) rfl rfl rfl rfl rfl rfl q6 ?_
  refine x_iceq (pc' := 145) (t' := 1135) rfl rfl rfl (fun q9 => ?_) (fun q9 => ?_)
  · replace h := ite_t q9 h
    exact h
  · replace h := ite_f q9 h
    refine x_c (pc' := 146) rfl rfl ?_
    exact x_zret rfl (by decide) h
set_option maxRecDepth 20000 in
theorem sg_W_law_147 {sx : SX} {d : Nat} {l3 : Int} {M : Mem} {r : Res} (h : ∃ v2 M3, Cl d m_X_law [(2, 0)] M (some (0, v2), M3) ∧ ∃ v5 M6, Cl d m_M_law [(2, 64)] M3 (some (0, v5), M6) ∧ (if v2 = v5 then at_W_law_1135 sx d l3 M6 r else r = (some (0, 0), M6))) : at_W_law_147 sx d l3 M r := by
  unfold at_W_law_147
  refine x_al (pc' := 148) rfl rfl (by decide) rfl ?_
  obtain ⟨v2, M3, q1, h⟩ := h
  refine x_call (pc' := 149) (as := [(2, 0)]) (rest := []) rfl rfl rfl rfl rfl rfl q1 ?_
  refine x_al (pc' := 150) rfl rfl (by decide) rfl ?_
  obtain ⟨v5, M6, q4, h⟩ := h
  refine x_call (pc' := 151) (as := [(2, 64)]) (rest := [(0, v2)]) rfl rfl rfl rfl rfl rfl q4 ?_
  refine x_iceq (pc' := 152) (t' := 1135) rfl rfl rfl (fun q7 => ?_) (fun q7 => ?_)
  · replace h := ite_t q7 h
    exact h
  · replace h := ite_f q7 h
    refine x_c (pc' := 153) rfl rfl ?_
    exact x_zret rfl (by decide) h
set_option maxRecDepth 20000 in
theorem sg_W_law_154 {sx : SX} {d : Nat} {l3 : Int} {M : Mem} {r : Res} (h : (0 ≤ w32 (l3 + 1) ∧ w32 (l3 + 1) < sx.1) ∧ (0 ≤ w32 (l3 + 2) ∧ w32 (l3 + 2) < sx.1) ∧ ∃ v4 M5, Cl d m_X_alike [(2, 0), (0, sx.2 (w32 (l3 + 1))), (0, sx.2 (w32 (l3 + 2)))] M (some (0, v4), M5) ∧ (0 ≤ w32 (l3 + 1) ∧ w32 (l3 + 1) < sx.1) ∧ (0 ≤ w32 (l3 + 2) ∧ w32 (l3 + 2) < sx.1) ∧ ∃ v9 M10, Cl d m_M_alike [(2, 64), (0, sx.2 (w32 (l3 + 1))), (0, sx.2 (w32 (l3 + 2)))] M5 (some (0, v9), M10) ∧ (if v4 = v9 then at_W_law_1135 sx d l3 M10 r else r = (some (0, 0), M10))) : at_W_law_154 sx d l3 M r := by
  unfold at_W_law_154
  refine x_al (pc' := 155) rfl rfl (by decide) rfl ?_
  refine x_al (pc' := 156) rfl rfl (by decide) rfl ?_
  refine x_il (pc' := 157) rfl rfl rfl ?_
  refine x_c (pc' := 158) rfl rfl ?_
  refine x_ib (pc' := 159) (v := w32 (l3 + 1)) rfl rfl rfl ?_
  obtain ⟨q1, h⟩ := h
  refine x_iav (pc' := 160) (v := sx.2 (w32 (l3 + 1))) rfl (ld_sx q1) rfl ?_
  refine x_al (pc' := 161) rfl rfl (by decide) rfl ?_
  refine x_il (pc' := 162) rfl rfl rfl ?_
  refine x_c (pc' := 163) rfl rfl ?_
  refine x_ib (pc' := 164) (v := w32 (l3 + 2)) rfl rfl rfl ?_
  obtain ⟨q2, h⟩ := h
  refine x_iav (pc' := 165) (v := sx.2 (w32 (l3 + 2))) rfl (ld_sx q2) rfl ?_
  obtain ⟨v4, M5, q3, h⟩ := h
  refine x_call (pc' := 166) (as := [(2, 0), (0, sx.2 (w32 (l3 + 1))), (0, sx.2 (w32 (l3 + 2)))]) (rest := []) rfl rfl rfl rfl rfl rfl q3 ?_
  refine x_al (pc' := 167) rfl rfl (by decide) rfl ?_
  refine x_al (pc' := 168) rfl rfl (by decide) rfl ?_
  refine x_il (pc' := 169) rfl rfl rfl ?_
  refine x_c (pc' := 170) rfl rfl ?_
  refine x_ib (pc' := 171) (v := w32 (l3 + 1)) rfl rfl rfl ?_
  obtain ⟨q6, h⟩ := h
  refine x_iav (pc' := 172) (v := sx.2 (w32 (l3 + 1))) rfl (ld_sx q6) rfl ?_
  refine x_al (pc' := 173) rfl rfl (by decide) rfl ?_
  refine x_il (pc' := 174) rfl rfl rfl ?_
  refine x_c (pc' := 175) rfl rfl ?_
  refine x_ib (pc' := 176) (v := w32 (l3 + 2)) rfl rfl rfl ?_
  obtain ⟨q7, h⟩ := h
  refine x_iav (pc' := 177) (v := sx.2 (w32 (l3 + 2))) rfl (ld_sx q7) rfl ?_
  obtain ⟨v9, M10, q8, h⟩ := h
  refine x_call (pc' := 178) (as := [(2, 64), (0, sx.2 (w32 (l3 + 1))), (0, sx.2 (w32 (l3 + 2)))]) (rest := [(0, v4)]) rfl rfl rfl rfl rfl rfl q8 ?_
  refine x_iceq (pc' := 179) (t' := 1135) rfl rfl rfl (fun q11 => ?_) (fun q11 => ?_)
  · replace h := ite_t q11 h
    exact h
  · replace h := ite_f q11 h
    refine x_c (pc' := 180) rfl rfl ?_
    exact x_zret rfl (by decide) h
set_option maxRecDepth 20000 in
theorem sg_W_law_181 {sx : SX} {d : Nat} {l3 : Int} {M : Mem} {r : Res} (h : (0 ≤ w32 (l3 + 1) ∧ w32 (l3 + 1) < sx.1) ∧ (0 ≤ w32 (l3 + 2) ∧ w32 (l3 + 2) < sx.1) ∧ ∃ v4, Cl d m_X_drawer [(2, 0), (0, sx.2 (w32 (l3 + 1))), (0, sx.2 (w32 (l3 + 2)))] M (some (0, v4), M) ∧ (0 ≤ w32 (l3 + 1) ∧ w32 (l3 + 1) < sx.1) ∧ (0 ≤ w32 (l3 + 2) ∧ w32 (l3 + 2) < sx.1) ∧ ∃ v8, Cl d m_M_drawer [(2, 64), (0, sx.2 (w32 (l3 + 1))), (0, sx.2 (w32 (l3 + 2)))] M (some (0, v8), M) ∧ (if v4 = v8 then at_W_law_1135 sx d l3 M r else r = (some (0, 0), M))) : at_W_law_181 sx d l3 M r := by
  unfold at_W_law_181
  refine x_al (pc' := 182) rfl rfl (by decide) rfl ?_
  refine x_al (pc' := 183) rfl rfl (by decide) rfl ?_
  refine x_il (pc' := 184) rfl rfl rfl ?_
  refine x_c (pc' := 185) rfl rfl ?_
  refine x_ib (pc' := 186) (v := w32 (l3 + 1)) rfl rfl rfl ?_
  obtain ⟨q1, h⟩ := h
  refine x_iav (pc' := 187) (v := sx.2 (w32 (l3 + 1))) rfl (ld_sx q1) rfl ?_
  refine x_al (pc' := 188) rfl rfl (by decide) rfl ?_
  refine x_il (pc' := 189) rfl rfl rfl ?_
  refine x_c (pc' := 190) rfl rfl ?_
  refine x_ib (pc' := 191) (v := w32 (l3 + 2)) rfl rfl rfl ?_
  obtain ⟨q2, h⟩ := h
  refine x_iav (pc' := 192) (v := sx.2 (w32 (l3 + 2))) rfl (ld_sx q2) rfl ?_
  obtain ⟨v4, q3, h⟩ := h
  refine x_call (pc' := 193) (as := [(2, 0), (0, sx.2 (w32 (l3 + 1))), (0, sx.2 (w32 (l3 + 2)))]) (rest := []) rfl rfl rfl rfl rfl rfl q3 ?_
  refine x_al (pc' := 194) rfl rfl (by decide) rfl ?_
  refine x_al (pc' := 195) rfl rfl (by decide) rfl ?_
  refine x_il (pc' := 196) rfl rfl rfl ?_
  refine x_c (pc' := 197) rfl rfl ?_
  refine x_ib (pc' := 198) (v := w32 (l3 + 1)) rfl rfl rfl ?_
  obtain ⟨q5, h⟩ := h
  refine x_iav (pc' := 199) (v := sx.2 (w32 (l3 + 1))) rfl (ld_sx q5) rfl ?_
  refine x_al (pc' := 200) rfl rfl (by decide) rfl ?_
  refine x_il (pc' := 201) rfl rfl rfl ?_
  refine x_c (pc' := 202) rfl rfl ?_
  refine x_ib (pc' := 203) (v := w32 (l3 + 2)) rfl rfl rfl ?_
  obtain ⟨q6, h⟩ := h
  refine x_iav (pc' := 204) (v := sx.2 (w32 (l3 + 2))) rfl (ld_sx q6) rfl ?_
  obtain ⟨v8, q7, h⟩ := h
  refine x_call (pc' := 205) (as := [(2, 64), (0, sx.2 (w32 (l3 + 1))), (0, sx.2 (w32 (l3 + 2)))]) (rest := [(0, v4)]) rfl rfl rfl rfl rfl rfl q7 ?_
  refine x_iceq (pc' := 206) (t' := 1135) rfl rfl rfl (fun q9 => ?_) (fun q9 => ?_)
  · replace h := ite_t q9 h
    exact h
  · replace h := ite_f q9 h
    refine x_c (pc' := 207) rfl rfl ?_
    exact x_zret rfl (by decide) h
set_option maxRecDepth 20000 in
theorem sg_W_law_208 {sx : SX} {d : Nat} {l3 : Int} {M : Mem} {r : Res} (h : (0 ≤ w32 (l3 + 1) ∧ w32 (l3 + 1) < sx.1) ∧ (0 ≤ w32 (l3 + 2) ∧ w32 (l3 + 2) < sx.1) ∧ ∃ v4, Cl d m_X_may [(2, 0), (0, sx.2 (w32 (l3 + 1))), (0, sx.2 (w32 (l3 + 2)))] M (some (0, v4), M) ∧ (0 ≤ w32 (l3 + 1) ∧ w32 (l3 + 1) < sx.1) ∧ (0 ≤ w32 (l3 + 2) ∧ w32 (l3 + 2) < sx.1) ∧ ∃ v8, Cl d m_M_may [(2, 64), (0, sx.2 (w32 (l3 + 1))), (0, sx.2 (w32 (l3 + 2)))] M (some (0, v8), M) ∧ (if v4 = v8 then at_W_law_1135 sx d l3 M r else r = (some (0, 0), M))) : at_W_law_208 sx d l3 M r := by
  unfold at_W_law_208
  refine x_al (pc' := 209) rfl rfl (by decide) rfl ?_
  refine x_al (pc' := 210) rfl rfl (by decide) rfl ?_
  refine x_il (pc' := 211) rfl rfl rfl ?_
  refine x_c (pc' := 212) rfl rfl ?_
  refine x_ib (pc' := 213) (v := w32 (l3 + 1)) rfl rfl rfl ?_
  obtain ⟨q1, h⟩ := h
  refine x_iav (pc' := 214) (v := sx.2 (w32 (l3 + 1))) rfl (ld_sx q1) rfl ?_
  refine x_al (pc' := 215) rfl rfl (by decide) rfl ?_
  refine x_il (pc' := 216) rfl rfl rfl ?_
  refine x_c (pc' := 217) rfl rfl ?_
  refine x_ib (pc' := 218) (v := w32 (l3 + 2)) rfl rfl rfl ?_
  obtain ⟨q2, h⟩ := h
  refine x_iav (pc' := 219) (v := sx.2 (w32 (l3 + 2))) rfl (ld_sx q2) rfl ?_
  obtain ⟨v4, q3, h⟩ := h
  refine x_call (pc' := 220) (as := [(2, 0), (0, sx.2 (w32 (l3 + 1))), (0, sx.2 (w32 (l3 + 2)))]) (rest := []) rfl rfl rfl rfl rfl rfl q3 ?_
  refine x_al (pc' := 221) rfl rfl (by decide) rfl ?_
  refine x_al (pc' := 222) rfl rfl (by decide) rfl ?_
  refine x_il (pc' := 223) rfl rfl rfl ?_
  refine x_c (pc' := 224) rfl rfl ?_
  refine x_ib (pc' := 225) (v := w32 (l3 + 1)) rfl rfl rfl ?_
  obtain ⟨q5, h⟩ := h
  refine x_iav (pc' := 226) (v := sx.2 (w32 (l3 + 1))) rfl (ld_sx q5) rfl ?_
  refine x_al (pc' := 227) rfl rfl (by decide) rfl ?_
  refine x_il (pc' := 228) rfl rfl rfl ?_
  refine x_c (pc' := 229) rfl rfl ?_
  refine x_ib (pc' := 230) (v := w32 (l3 + 2)) rfl rfl rfl ?_
  obtain ⟨q6, h⟩ := h
  refine x_iav (pc' := 231) (v := sx.2 (w32 (l3 + 2))) rfl (ld_sx q6) rfl ?_
  obtain ⟨v8, q7, h⟩ := h
  refine x_call (pc' := 232) (as := [(2, 64), (0, sx.2 (w32 (l3 + 1))), (0, sx.2 (w32 (l3 + 2)))]) (rest := [(0, v4)]) rfl rfl rfl rfl rfl rfl q7 ?_
  refine x_iceq (pc' := 233) (t' := 1135) rfl rfl rfl (fun q9 => ?_) (fun q9 => ?_)
  · replace h := ite_t q9 h
    exact h
  · replace h := ite_f q9 h
    refine x_c (pc' := 234) rfl rfl ?_
    exact x_zret rfl (by decide) h
set_option maxRecDepth 20000 in
theorem sg_W_law_235 {sx : SX} {d : Nat} {l3 : Int} {M : Mem} {r : Res} (h : ∃ v2, Cl d m_X_misfiled [(2, 0)] M (some (0, v2), M) ∧ ∃ v4, Cl d m_M_misfiled [(2, 64)] M (some (0, v4), M) ∧ (if v2 = v4 then at_W_law_1135 sx d l3 M r else r = (some (0, 0), M))) : at_W_law_235 sx d l3 M r := by
  unfold at_W_law_235
  refine x_al (pc' := 236) rfl rfl (by decide) rfl ?_
  obtain ⟨v2, q1, h⟩ := h
  refine x_call (pc' := 237) (as := [(2, 0)]) (rest := []) rfl rfl rfl rfl rfl rfl q1 ?_
  refine x_al (pc' := 238) rfl rfl (by decide) rfl ?_
  obtain ⟨v4, q3, h⟩ := h
  refine x_call (pc' := 239) (as := [(2, 64)]) (rest := [(0, v2)]) rfl rfl rfl rfl rfl rfl q3 ?_
  refine x_iceq (pc' := 240) (t' := 1135) rfl rfl rfl (fun q5 => ?_) (fun q5 => ?_)
  · replace h := ite_t q5 h
    exact h
  · replace h := ite_f q5 h
    refine x_c (pc' := 241) rfl rfl ?_
    exact x_zret rfl (by decide) h
set_option maxRecDepth 20000 in
theorem sg_W_law_242 {sx : SX} {d : Nat} {l3 : Int} {M : Mem} {r : Res} (h : (0 ≤ w32 (l3 + 1) ∧ w32 (l3 + 1) < sx.1) ∧ ∃ v3, Cl d m_X_found [(2, 0), (0, sx.2 (w32 (l3 + 1)))] M (some (0, v3), M) ∧ (0 ≤ w32 (l3 + 1) ∧ w32 (l3 + 1) < sx.1) ∧ ∃ v6, Cl d m_M_found [(2, 64), (0, sx.2 (w32 (l3 + 1)))] M (some (0, v6), M) ∧ (if v3 = v6 then at_W_law_1135 sx d l3 M r else r = (some (0, 0), M))) : at_W_law_242 sx d l3 M r := by
  unfold at_W_law_242
  refine x_al (pc' := 243) rfl rfl (by decide) rfl ?_
  refine x_al (pc' := 244) rfl rfl (by decide) rfl ?_
  refine x_il (pc' := 245) rfl rfl rfl ?_
  refine x_c (pc' := 246) rfl rfl ?_
  refine x_ib (pc' := 247) (v := w32 (l3 + 1)) rfl rfl rfl ?_
  obtain ⟨q1, h⟩ := h
  refine x_iav (pc' := 248) (v := sx.2 (w32 (l3 + 1))) rfl (ld_sx q1) rfl ?_
  obtain ⟨v3, q2, h⟩ := h
  refine x_call (pc' := 249) (as := [(2, 0), (0, sx.2 (w32 (l3 + 1)))]) (rest := []) rfl rfl rfl rfl rfl rfl q2 ?_
  refine x_al (pc' := 250) rfl rfl (by decide) rfl ?_
  refine x_al (pc' := 251) rfl rfl (by decide) rfl ?_
  refine x_il (pc' := 252) rfl rfl rfl ?_
  refine x_c (pc' := 253) rfl rfl ?_
  refine x_ib (pc' := 254) (v := w32 (l3 + 1)) rfl rfl rfl ?_
  obtain ⟨q4, h⟩ := h
  refine x_iav (pc' := 255) (v := sx.2 (w32 (l3 + 1))) rfl (ld_sx q4) rfl ?_
  obtain ⟨v6, q5, h⟩ := h
  refine x_call (pc' := 256) (as := [(2, 64), (0, sx.2 (w32 (l3 + 1)))]) (rest := [(0, v3)]) rfl rfl rfl rfl rfl rfl q5 ?_
  refine x_iceq (pc' := 257) (t' := 1135) rfl rfl rfl (fun q7 => ?_) (fun q7 => ?_)
  · replace h := ite_t q7 h
    exact h
  · replace h := ite_f q7 h
    refine x_c (pc' := 258) rfl rfl ?_
    exact x_zret rfl (by decide) h
set_option maxRecDepth 20000 in
theorem sg_W_law_259 {sx : SX} {d : Nat} {l3 : Int} {M : Mem} {r : Res} (h : (0 ≤ w32 (l3 + 1) ∧ w32 (l3 + 1) < sx.1) ∧ ∃ v3, Cl d m_X_full [(2, 0), (0, sx.2 (w32 (l3 + 1)))] M (some (0, v3), M) ∧ (0 ≤ w32 (l3 + 1) ∧ w32 (l3 + 1) < sx.1) ∧ ∃ v6, Cl d m_M_full [(2, 64), (0, sx.2 (w32 (l3 + 1)))] M (some (0, v6), M) ∧ (if v3 = v6 then at_W_law_1135 sx d l3 M r else r = (some (0, 0), M))) : at_W_law_259 sx d l3 M r := by
  unfold at_W_law_259
  refine x_al (pc' := 260) rfl rfl (by decide) rfl ?_
  refine x_al (pc' := 261) rfl rfl (by decide) rfl ?_
  refine x_il (pc' := 262) rfl rfl rfl ?_
  refine x_c (pc' := 263) rfl rfl ?_
  refine x_ib (pc' := 264) (v := w32 (l3 + 1)) rfl rfl rfl ?_
  obtain ⟨q1, h⟩ := h
  refine x_iav (pc' := 265) (v := sx.2 (w32 (l3 + 1))) rfl (ld_sx q1) rfl ?_
  obtain ⟨v3, q2, h⟩ := h
  refine x_call (pc' := 266) (as := [(2, 0), (0, sx.2 (w32 (l3 + 1)))]) (rest := []) rfl rfl rfl rfl rfl rfl q2 ?_
  refine x_al (pc' := 267) rfl rfl (by decide) rfl ?_
  refine x_al (pc' := 268) rfl rfl (by decide) rfl ?_
  refine x_il (pc' := 269) rfl rfl rfl ?_
  refine x_c (pc' := 270) rfl rfl ?_
  refine x_ib (pc' := 271) (v := w32 (l3 + 1)) rfl rfl rfl ?_
  obtain ⟨q4, h⟩ := h
  refine x_iav (pc' := 272) (v := sx.2 (w32 (l3 + 1))) rfl (ld_sx q4) rfl ?_
  obtain ⟨v6, q5, h⟩ := h
  refine x_call (pc' := 273) (as := [(2, 64), (0, sx.2 (w32 (l3 + 1)))]) (rest := [(0, v3)]) rfl rfl rfl rfl rfl rfl q5 ?_
  refine x_iceq (pc' := 274) (t' := 1135) rfl rfl rfl (fun q7 => ?_) (fun q7 => ?_)
  · replace h := ite_t q7 h
    exact h
  · replace h := ite_f q7 h
    refine x_c (pc' := 275) rfl rfl ?_
    exact x_zret rfl (by decide) h
set_option maxRecDepth 20000 in
theorem sg_W_law_276 {sx : SX} {d : Nat} {l3 : Int} {M : Mem} {r : Res} (h : (0 ≤ w32 (l3 + 1) ∧ w32 (l3 + 1) < sx.1) ∧ (0 ≤ w32 (l3 + 2) ∧ w32 (l3 + 2) < sx.1) ∧ ∃ v4, Cl d m_X_look [(2, 0), (0, sx.2 (w32 (l3 + 1))), (0, sx.2 (w32 (l3 + 2)))] M (some (0, v4), M) ∧ (0 ≤ w32 (l3 + 1) ∧ w32 (l3 + 1) < sx.1) ∧ (0 ≤ w32 (l3 + 2) ∧ w32 (l3 + 2) < sx.1) ∧ ∃ v8, Cl d m_M_look [(2, 64), (0, sx.2 (w32 (l3 + 1))), (0, sx.2 (w32 (l3 + 2)))] M (some (0, v8), M) ∧ (if v4 = v8 then at_W_law_1135 sx d l3 M r else r = (some (0, 0), M))) : at_W_law_276 sx d l3 M r := by
  unfold at_W_law_276
  refine x_al (pc' := 277) rfl rfl (by decide) rfl ?_
  refine x_al (pc' := 278) rfl rfl (by decide) rfl ?_
  refine x_il (pc' := 279) rfl rfl rfl ?_
  refine x_c (pc' := 280) rfl rfl ?_
  refine x_ib (pc' := 281) (v := w32 (l3 + 1)) rfl rfl rfl ?_
  obtain ⟨q1, h⟩ := h
  refine x_iav (pc' := 282) (v := sx.2 (w32 (l3 + 1))) rfl (ld_sx q1) rfl ?_
  refine x_al (pc' := 283) rfl rfl (by decide) rfl ?_
  refine x_il (pc' := 284) rfl rfl rfl ?_
  refine x_c (pc' := 285) rfl rfl ?_
  refine x_ib (pc' := 286) (v := w32 (l3 + 2)) rfl rfl rfl ?_
  obtain ⟨q2, h⟩ := h
  refine x_iav (pc' := 287) (v := sx.2 (w32 (l3 + 2))) rfl (ld_sx q2) rfl ?_
  obtain ⟨v4, q3, h⟩ := h
  refine x_call (pc' := 288) (as := [(2, 0), (0, sx.2 (w32 (l3 + 1))), (0, sx.2 (w32 (l3 + 2)))]) (rest := []) rfl rfl rfl rfl rfl rfl q3 ?_
  refine x_al (pc' := 289) rfl rfl (by decide) rfl ?_
  refine x_al (pc' := 290) rfl rfl (by decide) rfl ?_
  refine x_il (pc' := 291) rfl rfl rfl ?_
  refine x_c (pc' := 292) rfl rfl ?_
  refine x_ib (pc' := 293) (v := w32 (l3 + 1)) rfl rfl rfl ?_
  obtain ⟨q5, h⟩ := h
  refine x_iav (pc' := 294) (v := sx.2 (w32 (l3 + 1))) rfl (ld_sx q5) rfl ?_
  refine x_al (pc' := 295) rfl rfl (by decide) rfl ?_
  refine x_il (pc' := 296) rfl rfl rfl ?_
  refine x_c (pc' := 297) rfl rfl ?_
  refine x_ib (pc' := 298) (v := w32 (l3 + 2)) rfl rfl rfl ?_
  obtain ⟨q6, h⟩ := h
  refine x_iav (pc' := 299) (v := sx.2 (w32 (l3 + 2))) rfl (ld_sx q6) rfl ?_
  obtain ⟨v8, q7, h⟩ := h
  refine x_call (pc' := 300) (as := [(2, 64), (0, sx.2 (w32 (l3 + 1))), (0, sx.2 (w32 (l3 + 2)))]) (rest := [(0, v4)]) rfl rfl rfl rfl rfl rfl q7 ?_
  refine x_iceq (pc' := 301) (t' := 1135) rfl rfl rfl (fun q9 => ?_) (fun q9 => ?_)
  · replace h := ite_t q9 h
    exact h
  · replace h := ite_f q9 h
    refine x_c (pc' := 302) rfl rfl ?_
    exact x_zret rfl (by decide) h
set_option maxRecDepth 20000 in
theorem sg_W_law_303 {sx : SX} {d : Nat} {l3 : Int} {M : Mem} {r : Res} (h : (0 ≤ w32 (l3 + 1) ∧ w32 (l3 + 1) < sx.1) ∧ (0 ≤ w32 (l3 + 2) ∧ w32 (l3 + 2) < sx.1) ∧ ∃ v4 M5, Cl d m_X_same [(2, 0), (0, sx.2 (w32 (l3 + 1))), (0, sx.2 (w32 (l3 + 2)))] M (some (0, v4), M5) ∧ (0 ≤ w32 (l3 + 1) ∧ w32 (l3 + 1) < sx.1) ∧ (0 ≤ w32 (l3 + 2) ∧ w32 (l3 + 2) < sx.1) ∧ ∃ v9 M10, Cl d m_M_same [(2, 64), (0, sx.2 (w32 (l3 + 1))), (0, sx.2 (w32 (l3 + 2)))] M5 (some (0, v9), M10) ∧ (if v4 = v9 then at_W_law_1135 sx d l3 M10 r else r = (some (0, 0), M10))) : at_W_law_303 sx d l3 M r := by
  unfold at_W_law_303
  refine x_al (pc' := 304) rfl rfl (by decide) rfl ?_
  refine x_al (pc' := 305) rfl rfl (by decide) rfl ?_
  refine x_il (pc' := 306) rfl rfl rfl ?_
  refine x_c (pc' := 307) rfl rfl ?_
  refine x_ib (pc' := 308) (v := w32 (l3 + 1)) rfl rfl rfl ?_
  obtain ⟨q1, h⟩ := h
  refine x_iav (pc' := 309) (v := sx.2 (w32 (l3 + 1))) rfl (ld_sx q1) rfl ?_
  refine x_al (pc' := 310) rfl rfl (by decide) rfl ?_
  refine x_il (pc' := 311) rfl rfl rfl ?_
  refine x_c (pc' := 312) rfl rfl ?_
  refine x_ib (pc' := 313) (v := w32 (l3 + 2)) rfl rfl rfl ?_
  obtain ⟨q2, h⟩ := h
  refine x_iav (pc' := 314) (v := sx.2 (w32 (l3 + 2))) rfl (ld_sx q2) rfl ?_
  obtain ⟨v4, M5, q3, h⟩ := h
  refine x_call (pc' := 315) (as := [(2, 0), (0, sx.2 (w32 (l3 + 1))), (0, sx.2 (w32 (l3 + 2)))]) (rest := []) rfl rfl rfl rfl rfl rfl q3 ?_
  refine x_al (pc' := 316) rfl rfl (by decide) rfl ?_
  refine x_al (pc' := 317) rfl rfl (by decide) rfl ?_
  refine x_il (pc' := 318) rfl rfl rfl ?_
  refine x_c (pc' := 319) rfl rfl ?_
  refine x_ib (pc' := 320) (v := w32 (l3 + 1)) rfl rfl rfl ?_
  obtain ⟨q6, h⟩ := h
  refine x_iav (pc' := 321) (v := sx.2 (w32 (l3 + 1))) rfl (ld_sx q6) rfl ?_
  refine x_al (pc' := 322) rfl rfl (by decide) rfl ?_
  refine x_il (pc' := 323) rfl rfl rfl ?_
  refine x_c (pc' := 324) rfl rfl ?_
  refine x_ib (pc' := 325) (v := w32 (l3 + 2)) rfl rfl rfl ?_
  obtain ⟨q7, h⟩ := h
  refine x_iav (pc' := 326) (v := sx.2 (w32 (l3 + 2))) rfl (ld_sx q7) rfl ?_
  obtain ⟨v9, M10, q8, h⟩ := h
  refine x_call (pc' := 327) (as := [(2, 64), (0, sx.2 (w32 (l3 + 1))), (0, sx.2 (w32 (l3 + 2)))]) (rest := [(0, v4)]) rfl rfl rfl rfl rfl rfl q8 ?_
  refine x_iceq (pc' := 328) (t' := 1135) rfl rfl rfl (fun q11 => ?_) (fun q11 => ?_)
  · replace h := ite_t q11 h
    exact h
  · replace h := ite_f q11 h
    refine x_c (pc' := 329) rfl rfl ?_
    exact x_zret rfl (by decide) h
set_option maxRecDepth 20000 in
theorem sg_W_law_330 {sx : SX} {d : Nat} {l3 : Int} {M : Mem} {r : Res} (h : (0 ≤ w32 (l3 + 1) ∧ w32 (l3 + 1) < sx.1) ∧ ∃ v3, Cl d m_X_oneMan [(2, 0), (0, sx.2 (w32 (l3 + 1)))] M (some (0, v3), M) ∧ (0 ≤ w32 (l3 + 1) ∧ w32 (l3 + 1) < sx.1) ∧ ∃ v6, Cl d m_M_oneMan [(2, 64), (0, sx.2 (w32 (l3 + 1)))] M (some (0, v6), M) ∧ (if v3 = v6 then at_W_law_1135 sx d l3 M r else r = (some (0, 0), M))) : at_W_law_330 sx d l3 M r := by
  unfold at_W_law_330
  refine x_al (pc' := 331) rfl rfl (by decide) rfl ?_
  refine x_al (pc' := 332) rfl rfl (by decide) rfl ?_
  refine x_il (pc' := 333) rfl rfl rfl ?_
  refine x_c (pc' := 334) rfl rfl ?_
  refine x_ib (pc' := 335) (v := w32 (l3 + 1)) rfl rfl rfl ?_
  obtain ⟨q1, h⟩ := h
  refine x_iav (pc' := 336) (v := sx.2 (w32 (l3 + 1))) rfl (ld_sx q1) rfl ?_
  obtain ⟨v3, q2, h⟩ := h
  refine x_call (pc' := 337) (as := [(2, 0), (0, sx.2 (w32 (l3 + 1)))]) (rest := []) rfl rfl rfl rfl rfl rfl q2 ?_
  refine x_al (pc' := 338) rfl rfl (by decide) rfl ?_
  refine x_al (pc' := 339) rfl rfl (by decide) rfl ?_
  refine x_il (pc' := 340) rfl rfl rfl ?_
  refine x_c (pc' := 341) rfl rfl ?_
  refine x_ib (pc' := 342) (v := w32 (l3 + 1)) rfl rfl rfl ?_
  obtain ⟨q4, h⟩ := h
  refine x_iav (pc' := 343) (v := sx.2 (w32 (l3 + 1))) rfl (ld_sx q4) rfl ?_
  obtain ⟨v6, q5, h⟩ := h
  refine x_call (pc' := 344) (as := [(2, 64), (0, sx.2 (w32 (l3 + 1)))]) (rest := [(0, v3)]) rfl rfl rfl rfl rfl rfl q5 ?_
  refine x_iceq (pc' := 345) (t' := 1135) rfl rfl rfl (fun q7 => ?_) (fun q7 => ?_)
  · replace h := ite_t q7 h
    exact h
  · replace h := ite_f q7 h
    refine x_c (pc' := 346) rfl rfl ?_
    exact x_zret rfl (by decide) h
set_option maxRecDepth 20000 in
theorem sg_W_law_347 {sx : SX} {d : Nat} {l3 : Int} {M : Mem} {r : Res} (h : (0 ≤ w32 (l3 + 1) ∧ w32 (l3 + 1) < sx.1) ∧ ∃ v3 M4, Cl d m_X_nearest [(2, 0), (0, sx.2 (w32 (l3 + 1)))] M (some (0, v3), M4) ∧ (0 ≤ w32 (l3 + 1) ∧ w32 (l3 + 1) < sx.1) ∧ ∃ v7 M8, Cl d m_M_nearest [(2, 64), (0, sx.2 (w32 (l3 + 1)))] M4 (some (0, v7), M8) ∧ (if v3 = v7 then at_W_law_1135 sx d l3 M8 r else r = (some (0, 0), M8))) : at_W_law_347 sx d l3 M r := by
  unfold at_W_law_347
  refine x_al (pc' := 348) rfl rfl (by decide) rfl ?_
  refine x_al (pc' := 349) rfl rfl (by decide) rfl ?_
  refine x_il (pc' := 350) rfl rfl rfl ?_
  refine x_c (pc' := 351) rfl rfl ?_
  refine x_ib (pc' := 352) (v := w32 (l3 + 1)) rfl rfl rfl ?_
  obtain ⟨q1, h⟩ := h
  refine x_iav (pc' := 353) (v := sx.2 (w32 (l3 + 1))) rfl (ld_sx q1) rfl ?_
  obtain ⟨v3, M4, q2, h⟩ := h
  refine x_call (pc' := 354) (as := [(2, 0), (0, sx.2 (w32 (l3 + 1)))]) (rest := []) rfl rfl rfl rfl rfl rfl q2 ?_
  refine x_al (pc' := 355) rfl rfl (by decide) rfl ?_
  refine x_al (pc' := 356) rfl rfl (by decide) rfl ?_
  refine x_il (pc' := 357) rfl rfl rfl ?_
  refine x_c (pc' := 358) rfl rfl ?_
  refine x_ib (pc' := 359) (v := w32 (l3 + 1)) rfl rfl rfl ?_
  obtain ⟨q5, h⟩ := h
  refine x_iav (pc' := 360) (v := sx.2 (w32 (l3 + 1))) rfl (ld_sx q5) rfl ?_
  obtain ⟨v7, M8, q6, h⟩ := h
  refine x_call (pc' := 361) (as := [(2, 64), (0, sx.2 (w32 (l3 + 1)))]) (rest := [(0, v3)]) rfl rfl rfl rfl rfl rfl q6 ?_
  refine x_iceq (pc' := 362) (t' := 1135) rfl rfl rfl (fun q9 => ?_) (fun q9 => ?_)
  · replace h := ite_t q9 h
    exact h
  · replace h := ite_f q9 h
    refine x_c (pc' := 363) rfl rfl ?_
    exact x_zret rfl (by decide) h
set_option maxRecDepth 20000 in
theorem sg_W_law_364 {sx : SX} {d : Nat} {l3 : Int} {M : Mem} {r : Res} (h : (0 ≤ w32 (l3 + 1) ∧ w32 (l3 + 1) < sx.1) ∧ (0 ≤ w32 (l3 + 2) ∧ w32 (l3 + 2) < sx.1) ∧ ∃ v4, Cl d m_X_whose [(2, 0), (0, sx.2 (w32 (l3 + 1))), (0, sx.2 (w32 (l3 + 2)))] M (some (0, v4), M) ∧ (0 ≤ w32 (l3 + 1) ∧ w32 (l3 + 1) < sx.1) ∧ (0 ≤ w32 (l3 + 2) ∧ w32 (l3 + 2) < sx.1) ∧ ∃ v8 M9, Cl d m_M_whose [(2, 64), (0, sx.2 (w32 (l3 + 1))), (0, sx.2 (w32 (l3 + 2)))] M (some (0, v8), M9) ∧ (if v4 = v8 then at_W_law_1135 sx d l3 M9 r else r = (some (0, 0), M9))) : at_W_law_364 sx d l3 M r := by
  unfold at_W_law_364
  refine x_al (pc' := 365) rfl rfl (by decide) rfl ?_
  refine x_al (pc' := 366) rfl rfl (by decide) rfl ?_
  refine x_il (pc' := 367) rfl rfl rfl ?_
  refine x_c (pc' := 368) rfl rfl ?_
  refine x_ib (pc' := 369) (v := w32 (l3 + 1)) rfl rfl rfl ?_
  obtain ⟨q1, h⟩ := h
  refine x_iav (pc' := 370) (v := sx.2 (w32 (l3 + 1))) rfl (ld_sx q1) rfl ?_
  refine x_al (pc' := 371) rfl rfl (by decide) rfl ?_
  refine x_il (pc' := 372) rfl rfl rfl ?_
  refine x_c (pc' := 373) rfl rfl ?_
  refine x_ib (pc' := 374) (v := w32 (l3 + 2)) rfl rfl rfl ?_
  obtain ⟨q2, h⟩ := h
  refine x_iav (pc' := 375) (v := sx.2 (w32 (l3 + 2))) rfl (ld_sx q2) rfl ?_
  obtain ⟨v4, q3, h⟩ := h
  refine x_call (pc' := 376) (as := [(2, 0), (0, sx.2 (w32 (l3 + 1))), (0, sx.2 (w32 (l3 + 2)))]) (rest := []) rfl rfl rfl rfl rfl rfl q3 ?_
  refine x_al (pc' := 377) rfl rfl (by decide) rfl ?_
  refine x_al (pc' := 378) rfl rfl (by decide) rfl ?_
  refine x_il (pc' := 379) rfl rfl rfl ?_
  refine x_c (pc' := 380) rfl rfl ?_
  refine x_ib (pc' := 381) (v := w32 (l3 + 1)) rfl rfl rfl ?_
  obtain ⟨q5, h⟩ := h
  refine x_iav (pc' := 382) (v := sx.2 (w32 (l3 + 1))) rfl (ld_sx q5) rfl ?_
  refine x_al (pc' := 383) rfl rfl (by decide) rfl ?_
  refine x_il (pc' := 384) rfl rfl rfl ?_
  refine x_c (pc' := 385) rfl rfl ?_
  refine x_ib (pc' := 386) (v := w32 (l3 + 2)) rfl rfl rfl ?_
  obtain ⟨q6, h⟩ := h
  refine x_iav (pc' := 387) (v := sx.2 (w32 (l3 + 2))) rfl (ld_sx q6) rfl ?_
  obtain ⟨v8, M9, q7, h⟩ := h
  refine x_call (pc' := 388) (as := [(2, 64), (0, sx.2 (w32 (l3 + 1))), (0, sx.2 (w32 (l3 + 2)))]) (rest := [(0, v4)]) rfl rfl rfl rfl rfl rfl q7 ?_
  refine x_iceq (pc' := 389) (t' := 1135) rfl rfl rfl (fun q10 => ?_) (fun q10 => ?_)
  · replace h := ite_t q10 h
    exact h
  · replace h := ite_f q10 h
    refine x_c (pc' := 390) rfl rfl ?_
    exact x_zret rfl (by decide) h
set_option maxRecDepth 20000 in
theorem sg_W_law_391 {sx : SX} {d : Nat} {l3 : Int} {M : Mem} {r : Res} (h : (0 ≤ w32 (l3 + 1) ∧ w32 (l3 + 1) < sx.1) ∧ ∃ v3 M4, Cl d m_X_best [(2, 0), (0, sx.2 (w32 (l3 + 1)))] M (some (0, v3), M4) ∧ (0 ≤ w32 (l3 + 1) ∧ w32 (l3 + 1) < sx.1) ∧ ∃ v7 M8, Cl d m_M_best [(2, 64), (0, sx.2 (w32 (l3 + 1)))] M4 (some (0, v7), M8) ∧ (if v3 = v7 then at_W_law_1135 sx d l3 M8 r else r = (some (0, 0), M8))) : at_W_law_391 sx d l3 M r := by
  unfold at_W_law_391
  refine x_al (pc' := 392) rfl rfl (by decide) rfl ?_
  refine x_al (pc' := 393) rfl rfl (by decide) rfl ?_
  refine x_il (pc' := 394) rfl rfl rfl ?_
  refine x_c (pc' := 395) rfl rfl ?_
  refine x_ib (pc' := 396) (v := w32 (l3 + 1)) rfl rfl rfl ?_
  obtain ⟨q1, h⟩ := h
  refine x_iav (pc' := 397) (v := sx.2 (w32 (l3 + 1))) rfl (ld_sx q1) rfl ?_
  obtain ⟨v3, M4, q2, h⟩ := h
  refine x_call (pc' := 398) (as := [(2, 0), (0, sx.2 (w32 (l3 + 1)))]) (rest := []) rfl rfl rfl rfl rfl rfl q2 ?_
  refine x_al (pc' := 399) rfl rfl (by decide) rfl ?_
  refine x_al (pc' := 400) rfl rfl (by decide) rfl ?_
  refine x_il (pc' := 401) rfl rfl rfl ?_
  refine x_c (pc' := 402) rfl rfl ?_
  refine x_ib (pc' := 403) (v := w32 (l3 + 1)) rfl rfl rfl ?_
  obtain ⟨q5, h⟩ := h
  refine x_iav (pc' := 404) (v := sx.2 (w32 (l3 + 1))) rfl (ld_sx q5) rfl ?_
  obtain ⟨v7, M8, q6, h⟩ := h
  refine x_call (pc' := 405) (as := [(2, 64), (0, sx.2 (w32 (l3 + 1)))]) (rest := [(0, v3)]) rfl rfl rfl rfl rfl rfl q6 ?_
  refine x_iceq (pc' := 406) (t' := 1135) rfl rfl rfl (fun q9 => ?_) (fun q9 => ?_)
  · replace h := ite_t q9 h
    exact h
  · replace h := ite_f q9 h
    refine x_c (pc' := 407) rfl rfl ?_
    exact x_zret rfl (by decide) h
set_option maxRecDepth 20000 in
theorem sg_W_law_408 {sx : SX} {d : Nat} {l3 : Int} {M : Mem} {r : Res} (h : (0 ≤ w32 (l3 + 1) ∧ w32 (l3 + 1) < sx.1) ∧ ∃ v3, Cl d m_X_drawers [(2, 0), (0, sx.2 (w32 (l3 + 1)))] M (some (0, v3), M) ∧ (0 ≤ w32 (l3 + 1) ∧ w32 (l3 + 1) < sx.1) ∧ ∃ v6 M7, Cl d m_M_drawers [(2, 64), (0, sx.2 (w32 (l3 + 1)))] M (some (0, v6), M7) ∧ (if v3 = v6 then at_W_law_1135 sx d l3 M7 r else r = (some (0, 0), M7))) : at_W_law_408 sx d l3 M r := by
  unfold at_W_law_408
  refine x_al (pc' := 409) rfl rfl (by decide) rfl ?_
  refine x_al (pc' := 410) rfl rfl (by decide) rfl ?_
  refine x_il (pc' := 411) rfl rfl rfl ?_
  refine x_c (pc' := 412) rfl rfl ?_
  refine x_ib (pc' := 413) (v := w32 (l3 + 1)) rfl rfl rfl ?_
  obtain ⟨q1, h⟩ := h
  refine x_iav (pc' := 414) (v := sx.2 (w32 (l3 + 1))) rfl (ld_sx q1) rfl ?_
  obtain ⟨v3, q2, h⟩ := h
  refine x_call (pc' := 415) (as := [(2, 0), (0, sx.2 (w32 (l3 + 1)))]) (rest := []) rfl rfl rfl rfl rfl rfl q2 ?_
  refine x_al (pc' := 416) rfl rfl (by decide) rfl ?_
  refine x_al (pc' := 417) rfl rfl (by decide) rfl ?_
  refine x_il (pc' := 418) rfl rfl rfl ?_
  refine x_c (pc' := 419) rfl rfl ?_
  refine x_ib (pc' := 420) (v := w32 (l3 + 1)) rfl rfl rfl ?_
  obtain ⟨q4, h⟩ := h
  refine x_iav (pc' := 421) (v := sx.2 (w32 (l3 + 1))) rfl (ld_sx q4) rfl ?_
  obtain ⟨v6, M7, q5, h⟩ := h
  refine x_call (pc' := 422) (as := [(2, 64), (0, sx.2 (w32 (l3 + 1)))]) (rest := [(0, v3)]) rfl rfl rfl rfl rfl rfl q5 ?_
  refine x_iceq (pc' := 423) (t' := 1135) rfl rfl rfl (fun q8 => ?_) (fun q8 => ?_)
  · replace h := ite_t q8 h
    exact h
  · replace h := ite_f q8 h
    refine x_c (pc' := 424) rfl rfl ?_
    exact x_zret rfl (by decide) h
set_option maxRecDepth 20000 in
theorem sg_W_law_425 {sx : SX} {d : Nat} {l3 : Int} {M : Mem} {r : Res} (h : (0 ≤ w32 (l3 + 1) ∧ w32 (l3 + 1) < sx.1) ∧ (0 ≤ w32 (l3 + 2) ∧ w32 (l3 + 2) < sx.1) ∧ ∃ v4 M5, Cl d m_X_order [(2, 0), (0, sx.2 (w32 (l3 + 1))), (0, sx.2 (w32 (l3 + 2)))] M (some (1, v4), M5) ∧ (0 ≤ w32 (l3 + 1) ∧ w32 (l3 + 1) < sx.1) ∧ (0 ≤ w32 (l3 + 2) ∧ w32 (l3 + 2) < sx.1) ∧ ∃ v9 M10, Cl d m_M_order [(2, 64), (0, sx.2 (w32 (l3 + 1))), (0, sx.2 (w32 (l3 + 2)))] M5 (some (1, v9), M10) ∧ (if lcmpI v4 v9 = 0 then at_W_law_1135 sx d l3 M10 r else r = (some (0, 0), M10))) : at_W_law_425 sx d l3 M r := by
  unfold at_W_law_425
  refine x_al (pc' := 426) rfl rfl (by decide) rfl ?_
  refine x_al (pc' := 427) rfl rfl (by decide) rfl ?_
  refine x_il (pc' := 428) rfl rfl rfl ?_
  refine x_c (pc' := 429) rfl rfl ?_
  refine x_ib (pc' := 430) (v := w32 (l3 + 1)) rfl rfl rfl ?_
  obtain ⟨q1, h⟩ := h
  refine x_iav (pc' := 431) (v := sx.2 (w32 (l3 + 1))) rfl (ld_sx q1) rfl ?_
  refine x_al (pc' := 432) rfl rfl (by decide) rfl ?_
  refine x_il (pc' := 433) rfl rfl rfl ?_
  refine x_c (pc' := 434) rfl rfl ?_
  refine x_ib (pc' := 435) (v := w32 (l3 + 2)) rfl rfl rfl ?_
  obtain ⟨q2, h⟩ := h
  refine x_iav (pc' := 436) (v := sx.2 (w32 (l3 + 2))) rfl (ld_sx q2) rfl ?_
  obtain ⟨v4, M5, q3, h⟩ := h
  refine x_call (pc' := 437) (as := [(2, 0), (0, sx.2 (w32 (l3 + 1))), (0, sx.2 (w32 (l3 + 2)))]) (rest := []) rfl rfl rfl rfl rfl rfl q3 ?_
  refine x_al (pc' := 438) rfl rfl (by decide) rfl ?_
  refine x_al (pc' := 439) rfl rfl (by decide) rfl ?_
  refine x_il (pc' := 440) rfl rfl rfl ?_
  refine x_c (pc' := 441) rfl rfl ?_
  refine x_ib (pc' := 442) (v := w32 (l3 + 1)) rfl rfl rfl ?_
  obtain ⟨q6, h⟩ := h
  refine x_iav (pc' := 443) (v := sx.2 (w32 (l3 + 1))) rfl (ld_sx q6) rfl ?_
  refine x_al (pc' := 444) rfl rfl (by decide) rfl ?_
  refine x_il (pc' := 445) rfl rfl rfl ?_
  refine x_c (pc' := 446) rfl rfl ?_
  refine x_ib (pc' := 447) (v := w32 (l3 + 2)) rfl rfl rfl ?_
  obtain ⟨q7, h⟩ := h
  refine x_iav (pc' := 448) (v := sx.2 (w32 (l3 + 2))) rfl (ld_sx q7) rfl ?_
  obtain ⟨v9, M10, q8, h⟩ := h
  refine x_call (pc' := 449) (as := [(2, 64), (0, sx.2 (w32 (l3 + 1))), (0, sx.2 (w32 (l3 + 2)))]) (rest := [(1, v4)]) rfl rfl rfl rfl rfl rfl q8 ?_
  refine x_lcmp (pc' := 450) rfl rfl ?_
  refine x_ifeq (pc' := 451) (t' := 1135) rfl rfl rfl (fun q11 => ?_) (fun q11 => ?_)
  · replace h := ite_t q11 h
    exact h
  · replace h := ite_f q11 h
    refine x_c (pc' := 452) rfl rfl ?_
    exact x_zret rfl (by decide) h
set_option maxRecDepth 20000 in
theorem sg_W_law_453 {sx : SX} {d : Nat} {l3 : Int} {M : Mem} {r : Res} (h : (0 ≤ w32 (l3 + 1) ∧ w32 (l3 + 1) < sx.1) ∧ ∃ v3, Cl d m_X_sign [(2, 0), (0, sx.2 (w32 (l3 + 1)))] M (some (0, v3), M) ∧ (0 ≤ w32 (l3 + 1) ∧ w32 (l3 + 1) < sx.1) ∧ ∃ v6, Cl d m_M_sign_ [(2, 64), (0, sx.2 (w32 (l3 + 1)))] M (some (0, v6), M) ∧ (if v3 = v6 then at_W_law_1135 sx d l3 M r else r = (some (0, 0), M))) : at_W_law_453 sx d l3 M r := by
  unfold at_W_law_453
  refine x_al (pc' := 454) rfl rfl (by decide) rfl ?_
  refine x_al (pc' := 455) rfl rfl (by decide) rfl ?_
  refine x_il (pc' := 456) rfl rfl rfl ?_
  refine x_c (pc' := 457) rfl rfl ?_
  refine x_ib (pc' := 458) (v := w32 (l3 + 1)) rfl rfl rfl ?_
  obtain ⟨q1, h⟩ := h
  refine x_iav (pc' := 459) (v := sx.2 (w32 (l3 + 1))) rfl (ld_sx q1) rfl ?_
  obtain ⟨v3, q2, h⟩ := h
  refine x_call (pc' := 460) (as := [(2, 0), (0, sx.2 (w32 (l3 + 1)))]) (rest := []) rfl rfl rfl rfl rfl rfl q2 ?_
  refine x_al (pc' := 461) rfl rfl (by decide) rfl ?_
  refine x_al (pc' := 462) rfl rfl (by decide) rfl ?_
  refine x_il (pc' := 463) rfl rfl rfl ?_
  refine x_c (pc' := 464) rfl rfl ?_
  refine x_ib (pc' := 465) (v := w32 (l3 + 1)) rfl rfl rfl ?_
  obtain ⟨q4, h⟩ := h
  refine x_iav (pc' := 466) (v := sx.2 (w32 (l3 + 1))) rfl (ld_sx q4) rfl ?_
  obtain ⟨v6, q5, h⟩ := h
  refine x_call (pc' := 467) (as := [(2, 64), (0, sx.2 (w32 (l3 + 1)))]) (rest := [(0, v3)]) rfl rfl rfl rfl rfl rfl q5 ?_
  refine x_iceq (pc' := 468) (t' := 1135) rfl rfl rfl (fun q7 => ?_) (fun q7 => ?_)
  · replace h := ite_t q7 h
    exact h
  · replace h := ite_f q7 h
    refine x_c (pc' := 469) rfl rfl ?_
    exact x_zret rfl (by decide) h
set_option maxRecDepth 20000 in
theorem sg_W_law_470 {sx : SX} {d : Nat} {l3 : Int} {M : Mem} {r : Res} (h : (0 ≤ w32 (l3 + 1) ∧ w32 (l3 + 1) < sx.1) ∧ ∃ v3 M4, Cl d m_X_signs [(2, 0), (0, sx.2 (w32 (l3 + 1)))] M (some (0, v3), M4) ∧ (0 ≤ w32 (l3 + 1) ∧ w32 (l3 + 1) < sx.1) ∧ ∃ v7, Cl d m_M_signs [(2, 64), (0, sx.2 (w32 (l3 + 1)))] M4 (some (0, v7), M4) ∧ (if v3 = v7 then at_W_law_1135 sx d l3 M4 r else r = (some (0, 0), M4))) : at_W_law_470 sx d l3 M r := by
  unfold at_W_law_470
  refine x_al (pc' := 471) rfl rfl (by decide) rfl ?_
  refine x_al (pc' := 472) rfl rfl (by decide) rfl ?_
  refine x_il (pc' := 473) rfl rfl rfl ?_
  refine x_c (pc' := 474) rfl rfl ?_
  refine x_ib (pc' := 475) (v := w32 (l3 + 1)) rfl rfl rfl ?_
  obtain ⟨q1, h⟩ := h
  refine x_iav (pc' := 476) (v := sx.2 (w32 (l3 + 1))) rfl (ld_sx q1) rfl ?_
  obtain ⟨v3, M4, q2, h⟩ := h
  refine x_call (pc' := 477) (as := [(2, 0), (0, sx.2 (w32 (l3 + 1)))]) (rest := []) rfl rfl rfl rfl rfl rfl q2 ?_
  refine x_al (pc' := 478) rfl rfl (by decide) rfl ?_
  refine x_al (pc' := 479) rfl rfl (by decide) rfl ?_
  refine x_il (pc' := 480) rfl rfl rfl ?_
  refine x_c (pc' := 481) rfl rfl ?_
  refine x_ib (pc' := 482) (v := w32 (l3 + 1)) rfl rfl rfl ?_
  obtain ⟨q5, h⟩ := h
  refine x_iav (pc' := 483) (v := sx.2 (w32 (l3 + 1))) rfl (ld_sx q5) rfl ?_
  obtain ⟨v7, q6, h⟩ := h
  refine x_call (pc' := 484) (as := [(2, 64), (0, sx.2 (w32 (l3 + 1)))]) (rest := [(0, v3)]) rfl rfl rfl rfl rfl rfl q6 ?_
  refine x_iceq (pc' := 485) (t' := 1135) rfl rfl rfl (fun q8 => ?_) (fun q8 => ?_)
  · replace h := ite_t q8 h
    exact h
  · replace h := ite_f q8 h
    refine x_c (pc' := 486) rfl rfl ?_
    exact x_zret rfl (by decide) h
set_option maxRecDepth 20000 in
theorem sg_W_law_487 {sx : SX} {d : Nat} {l3 : Int} {M : Mem} {r : Res} (h : (0 ≤ w32 (l3 + 1) ∧ w32 (l3 + 1) < sx.1) ∧ (0 ≤ w32 (l3 + 2) ∧ w32 (l3 + 2) < sx.1) ∧ ∃ v4, Cl d m_X_enough [(2, 0), (0, sx.2 (w32 (l3 + 1))), (0, sx.2 (w32 (l3 + 2)))] M (some (0, v4), M) ∧ (0 ≤ w32 (l3 + 1) ∧ w32 (l3 + 1) < sx.1) ∧ (0 ≤ w32 (l3 + 2) ∧ w32 (l3 + 2) < sx.1) ∧ ∃ v8, Cl d m_M_enough [(2, 64), (0, sx.2 (w32 (l3 + 1))), (0, sx.2 (w32 (l3 + 2)))] M (some (0, v8), M) ∧ (if v4 = v8 then at_W_law_1135 sx d l3 M r else r = (some (0, 0), M))) : at_W_law_487 sx d l3 M r := by
  unfold at_W_law_487
  refine x_al (pc' := 488) rfl rfl (by decide) rfl ?_
  refine x_al (pc' := 489) rfl rfl (by decide) rfl ?_
  refine x_il (pc' := 490) rfl rfl rfl ?_
  refine x_c (pc' := 491) rfl rfl ?_
  refine x_ib (pc' := 492) (v := w32 (l3 + 1)) rfl rfl rfl ?_
  obtain ⟨q1, h⟩ := h
  refine x_iav (pc' := 493) (v := sx.2 (w32 (l3 + 1))) rfl (ld_sx q1) rfl ?_
  refine x_al (pc' := 494) rfl rfl (by decide) rfl ?_
  refine x_il (pc' := 495) rfl rfl rfl ?_
  refine x_c (pc' := 496) rfl rfl ?_
  refine x_ib (pc' := 497) (v := w32 (l3 + 2)) rfl rfl rfl ?_
  obtain ⟨q2, h⟩ := h
  refine x_iav (pc' := 498) (v := sx.2 (w32 (l3 + 2))) rfl (ld_sx q2) rfl ?_
  obtain ⟨v4, q3, h⟩ := h
  refine x_call (pc' := 499) (as := [(2, 0), (0, sx.2 (w32 (l3 + 1))), (0, sx.2 (w32 (l3 + 2)))]) (rest := []) rfl rfl rfl rfl rfl rfl q3 ?_
  refine x_al (pc' := 500) rfl rfl (by decide) rfl ?_
  refine x_al (pc' := 501) rfl rfl (by decide) rfl ?_
  refine x_il (pc' := 502) rfl rfl rfl ?_
  refine x_c (pc' := 503) rfl rfl ?_
  refine x_ib (pc' := 504) (v := w32 (l3 + 1)) rfl rfl rfl ?_
  obtain ⟨q5, h⟩ := h
  refine x_iav (pc' := 505) (v := sx.2 (w32 (l3 + 1))) rfl (ld_sx q5) rfl ?_
  refine x_al (pc' := 506) rfl rfl (by decide) rfl ?_
  refine x_il (pc' := 507) rfl rfl rfl ?_
  refine x_c (pc' := 508) rfl rfl ?_
  refine x_ib (pc' := 509) (v := w32 (l3 + 2)) rfl rfl rfl ?_
  obtain ⟨q6, h⟩ := h
  refine x_iav (pc' := 510) (v := sx.2 (w32 (l3 + 2))) rfl (ld_sx q6) rfl ?_
  obtain ⟨v8, q7, h⟩ := h
  refine x_call (pc' := 511) (as := [(2, 64), (0, sx.2 (w32 (l3 + 1))), (0, sx.2 (w32 (l3 + 2)))]) (rest := [(0, v4)]) rfl rfl rfl rfl rfl rfl q7 ?_
  refine x_iceq (pc' := 512) (t' := 1135) rfl rfl rfl (fun q9 => ?_) (fun q9 => ?_)
  · replace h := ite_t q9 h
    exact h
  · replace h := ite_f q9 h
    refine x_c (pc' := 513) rfl rfl ?_
    exact x_zret rfl (by decide) h
set_option maxRecDepth 20000 in
theorem sg_W_law_514 {sx : SX} {d : Nat} {l3 : Int} {M : Mem} {r : Res} (h : (0 ≤ w32 (l3 + 1) ∧ w32 (l3 + 1) < sx.1) ∧ (0 ≤ w32 (l3 + 2) ∧ w32 (l3 + 2) < sx.1) ∧ (0 ≤ w32 (l3 + 3) ∧ w32 (l3 + 3) < sx.1) ∧ ∃ v5, Cl d m_X_chance [(2, 0), (0, sx.2 (w32 (l3 + 1))), (0, sx.2 (w32 (l3 + 2))), (0, sx.2 (w32 (l3 + 3)))] M (some (1, v5), M) ∧ (0 ≤ w32 (l3 + 1) ∧ w32 (l3 + 1) < sx.1) ∧ (0 ≤ w32 (l3 + 2) ∧ w32 (l3 + 2) < sx.1) ∧ (0 ≤ w32 (l3 + 3) ∧ w32 (l3 + 3) < sx.1) ∧ ∃ v10, Cl d m_M_chance [(2, 64), (0, sx.2 (w32 (l3 + 1))), (0, sx.2 (w32 (l3 + 2))), (0, sx.2 (w32 (l3 + 3)))] M (some (1, v10), M) ∧ (if lcmpI v5 v10 = 0 then at_W_law_1135 sx d l3 M r else r = (some (0, 0), M))) : at_W_law_514 sx d l3 M r := by
  unfold at_W_law_514
  refine x_al (pc' := 515) rfl rfl (by decide) rfl ?_
  refine x_al (pc' := 516) rfl rfl (by decide) rfl ?_
  refine x_il (pc' := 517) rfl rfl rfl ?_
  refine x_c (pc' := 518) rfl rfl ?_
  refine x_ib (pc' := 519) (v := w32 (l3 + 1)) rfl rfl rfl ?_
  obtain ⟨q1, h⟩ := h
  refine x_iav (pc' := 520) (v := sx.2 (w32 (l3 + 1))) rfl (ld_sx q1) rfl ?_
  refine x_al (pc' := 521) rfl rfl (by decide) rfl ?_
  refine x_il (pc' := 522) rfl rfl rfl ?_
  refine x_c (pc' := 523) rfl rfl ?_
  refine x_ib (pc' := 524) (v := w32 (l3 + 2)) rfl rfl rfl ?_
  obtain ⟨q2, h⟩ := h
  refine x_iav (pc' := 525) (v := sx.2 (w32 (l3 + 2))) rfl (ld_sx q2) rfl ?_
  refine x_al (pc' := 526) rfl rfl (by decide) rfl ?_
  refine x_il (pc' := 527) rfl rfl rfl ?_
  refine x_c (pc' := 528) rfl rfl ?_
  refine x_ib (pc' := 529) (v := w32 (l3 + 3)) rfl rfl rfl ?_
  obtain ⟨q3, h⟩ := h
  refine x_iav (pc' := 530) (v := sx.2 (w32 (l3 + 3))) rfl (ld_sx q3) rfl ?_
  obtain ⟨v5, q4, h⟩ := h
  refine x_call (pc' := 531) (as := [(2, 0), (0, sx.2 (w32 (l3 + 1))), (0, sx.2 (w32 (l3 + 2))), (0, sx.2 (w32 (l3 + 3)))]) (rest := []) rfl rfl rfl rfl rfl rfl q4 ?_
  refine x_al (pc' := 532) rfl rfl (by decide) rfl ?_
  refine x_al (pc' := 533) rfl rfl (by decide) rfl ?_
  refine x_il (pc' := 534) rfl rfl rfl ?_
  refine x_c (pc' := 535) rfl rfl ?_
  refine x_ib (pc' := 536) (v := w32 (l3 + 1)) rfl rfl rfl ?_
  obtain ⟨q6, h⟩ := h
  refine x_iav (pc' := 537) (v := sx.2 (w32 (l3 + 1))) rfl (ld_sx q6) rfl ?_
  refine x_al (pc' := 538) rfl rfl (by decide) rfl ?_
  refine x_il (pc' := 539) rfl rfl rfl ?_
  refine x_c (pc' := 540) rfl rfl ?_
  refine x_ib (pc' := 541) (v := w32 (l3 + 2)) rfl rfl rfl ?_
  obtain ⟨q7, h⟩ := h
  refine x_iav (pc' := 542) (v := sx.2 (w32 (l3 + 2))) rfl (ld_sx q7) rfl ?_
  refine x_al (pc' := 543) rfl rfl (by decide) rfl ?_
  refine x_il (pc' := 544) rfl rfl rfl ?_
  refine x_c (pc' := 545) rfl rfl ?_
  refine x_ib (pc' := 546) (v := w32 (l3 + 3)) rfl rfl rfl ?_
  obtain ⟨q8, h⟩ := h
  refine x_iav (pc' := 547) (v := sx.2 (w32 (l3 + 3))) rfl (ld_sx q8) rfl ?_
  obtain ⟨v10, q9, h⟩ := h
  refine x_call (pc' := 548) (as := [(2, 64), (0, sx.2 (w32 (l3 + 1))), (0, sx.2 (w32 (l3 + 2))), (0, sx.2 (w32 (l3 + 3)))]) (rest := [(1, v5)]) rfl rfl rfl rfl rfl rfl q9 ?_
  refine x_lcmp (pc' := 549) rfl rfl ?_
  refine x_ifeq (pc' := 550) (t' := 1135) rfl rfl rfl (fun q11 => ?_) (fun q11 => ?_)
  · replace h := ite_t q11 h
    exact h
  · replace h := ite_f q11 h
    refine x_c (pc' := 551) rfl rfl ?_
    exact x_zret rfl (by decide) h
set_option maxRecDepth 20000 in
theorem sg_W_law_552 {sx : SX} {d : Nat} {l3 : Int} {M : Mem} {r : Res} (h : (0 ≤ w32 (l3 + 1) ∧ w32 (l3 + 1) < sx.1) ∧ ∃ v3, Cl d m_X_who [(2, 0), (0, sx.2 (w32 (l3 + 1)))] M (some (0, v3), M) ∧ (0 ≤ w32 (l3 + 1) ∧ w32 (l3 + 1) < sx.1) ∧ ∃ v6, Cl d m_M_who [(2, 64), (0, sx.2 (w32 (l3 + 1)))] M (some (0, v6), M) ∧ (if v3 = v6 then at_W_law_1135 sx d l3 M r else r = (some (0, 0), M))) : at_W_law_552 sx d l3 M r := by
  unfold at_W_law_552
  refine x_al (pc' := 553) rfl rfl (by decide) rfl ?_
  refine x_al (pc' := 554) rfl rfl (by decide) rfl ?_
  refine x_il (pc' := 555) rfl rfl rfl ?_
  refine x_c (pc' := 556) rfl rfl ?_
  refine x_ib (pc' := 557) (v := w32 (l3 + 1)) rfl rfl rfl ?_
  obtain ⟨q1, h⟩ := h
  refine x_iav (pc' := 558) (v := sx.2 (w32 (l3 + 1))) rfl (ld_sx q1) rfl ?_
  obtain ⟨v3, q2, h⟩ := h
  refine x_call (pc' := 559) (as := [(2, 0), (0, sx.2 (w32 (l3 + 1)))]) (rest := []) rfl rfl rfl rfl rfl rfl q2 ?_
  refine x_al (pc' := 560) rfl rfl (by decide) rfl ?_
  refine x_al (pc' := 561) rfl rfl (by decide) rfl ?_
  refine x_il (pc' := 562) rfl rfl rfl ?_
  refine x_c (pc' := 563) rfl rfl ?_
  refine x_ib (pc' := 564) (v := w32 (l3 + 1)) rfl rfl rfl ?_
  obtain ⟨q4, h⟩ := h
  refine x_iav (pc' := 565) (v := sx.2 (w32 (l3 + 1))) rfl (ld_sx q4) rfl ?_
  obtain ⟨v6, q5, h⟩ := h
  refine x_call (pc' := 566) (as := [(2, 64), (0, sx.2 (w32 (l3 + 1)))]) (rest := [(0, v3)]) rfl rfl rfl rfl rfl rfl q5 ?_
  refine x_iceq (pc' := 567) (t' := 1135) rfl rfl rfl (fun q7 => ?_) (fun q7 => ?_)
  · replace h := ite_t q7 h
    exact h
  · replace h := ite_f q7 h
    refine x_c (pc' := 568) rfl rfl ?_
    exact x_zret rfl (by decide) h
set_option maxRecDepth 20000 in
theorem sg_W_law_569 {sx : SX} {d : Nat} {l3 : Int} {M : Mem} {r : Res} (h : (0 ≤ w32 (l3 + 1) ∧ w32 (l3 + 1) < sx.1) ∧ (0 ≤ w32 (l3 + 2) ∧ w32 (l3 + 2) < sx.1) ∧ ∃ v4, Cl d m_X_isTrue [(2, 0), (0, sx.2 (w32 (l3 + 1))), (0, sx.2 (w32 (l3 + 2)))] M (some (0, v4), M) ∧ (0 ≤ w32 (l3 + 1) ∧ w32 (l3 + 1) < sx.1) ∧ (0 ≤ w32 (l3 + 2) ∧ w32 (l3 + 2) < sx.1) ∧ ∃ v8, Cl d m_M_isTrue [(2, 64), (0, sx.2 (w32 (l3 + 1))), (0, sx.2 (w32 (l3 + 2)))] M (some (0, v8), M) ∧ (if v4 = v8 then at_W_law_1135 sx d l3 M r else r = (some (0, 0), M))) : at_W_law_569 sx d l3 M r := by
  unfold at_W_law_569
  refine x_al (pc' := 570) rfl rfl (by decide) rfl ?_
  refine x_al (pc' := 571) rfl rfl (by decide) rfl ?_
  refine x_il (pc' := 572) rfl rfl rfl ?_
  refine x_c (pc' := 573) rfl rfl ?_
  refine x_ib (pc' := 574) (v := w32 (l3 + 1)) rfl rfl rfl ?_
  obtain ⟨q1, h⟩ := h
  refine x_iav (pc' := 575) (v := sx.2 (w32 (l3 + 1))) rfl (ld_sx q1) rfl ?_
  refine x_al (pc' := 576) rfl rfl (by decide) rfl ?_
  refine x_il (pc' := 577) rfl rfl rfl ?_
  refine x_c (pc' := 578) rfl rfl ?_
  refine x_ib (pc' := 579) (v := w32 (l3 + 2)) rfl rfl rfl ?_
  obtain ⟨q2, h⟩ := h
  refine x_iav (pc' := 580) (v := sx.2 (w32 (l3 + 2))) rfl (ld_sx q2) rfl ?_
  obtain ⟨v4, q3, h⟩ := h
  refine x_call (pc' := 581) (as := [(2, 0), (0, sx.2 (w32 (l3 + 1))), (0, sx.2 (w32 (l3 + 2)))]) (rest := []) rfl rfl rfl rfl rfl rfl q3 ?_
  refine x_al (pc' := 582) rfl rfl (by decide) rfl ?_
  refine x_al (pc' := 583) rfl rfl (by decide) rfl ?_
  refine x_il (pc' := 584) rfl rfl rfl ?_
  refine x_c (pc' := 585) rfl rfl ?_
  refine x_ib (pc' := 586) (v := w32 (l3 + 1)) rfl rfl rfl ?_
  obtain ⟨q5, h⟩ := h
  refine x_iav (pc' := 587) (v := sx.2 (w32 (l3 + 1))) rfl (ld_sx q5) rfl ?_
  refine x_al (pc' := 588) rfl rfl (by decide) rfl ?_
  refine x_il (pc' := 589) rfl rfl rfl ?_
  refine x_c (pc' := 590) rfl rfl ?_
  refine x_ib (pc' := 591) (v := w32 (l3 + 2)) rfl rfl rfl ?_
  obtain ⟨q6, h⟩ := h
  refine x_iav (pc' := 592) (v := sx.2 (w32 (l3 + 2))) rfl (ld_sx q6) rfl ?_
  obtain ⟨v8, q7, h⟩ := h
  refine x_call (pc' := 593) (as := [(2, 64), (0, sx.2 (w32 (l3 + 1))), (0, sx.2 (w32 (l3 + 2)))]) (rest := [(0, v4)]) rfl rfl rfl rfl rfl rfl q7 ?_
  refine x_iceq (pc' := 594) (t' := 1135) rfl rfl rfl (fun q9 => ?_) (fun q9 => ?_)
  · replace h := ite_t q9 h
    exact h
  · replace h := ite_f q9 h
    refine x_c (pc' := 595) rfl rfl ?_
    exact x_zret rfl (by decide) h
set_option maxRecDepth 20000 in
theorem sg_W_law_596 {sx : SX} {d : Nat} {l3 : Int} {M : Mem} {r : Res} (h : (0 ≤ w32 (l3 + 1) ∧ w32 (l3 + 1) < sx.1) ∧ (0 ≤ w32 (l3 + 2) ∧ w32 (l3 + 2) < sx.1) ∧ (0 ≤ w32 (l3 + 3) ∧ w32 (l3 + 3) < sx.1) ∧ ∃ v5, Cl d m_X_mended [(2, 0), (0, sx.2 (w32 (l3 + 1))), (0, sx.2 (w32 (l3 + 2))), (0, sx.2 (w32 (l3 + 3)))] M (some (0, v5), M) ∧ (0 ≤ w32 (l3 + 1) ∧ w32 (l3 + 1) < sx.1) ∧ (0 ≤ w32 (l3 + 2) ∧ w32 (l3 + 2) < sx.1) ∧ (0 ≤ w32 (l3 + 3) ∧ w32 (l3 + 3) < sx.1) ∧ ∃ v10, Cl d m_M_mended [(2, 64), (0, sx.2 (w32 (l3 + 1))), (0, sx.2 (w32 (l3 + 2))), (0, sx.2 (w32 (l3 + 3)))] M (some (0, v10), M) ∧ (if v5 = v10 then at_W_law_1135 sx d l3 M r else r = (some (0, 0), M))) : at_W_law_596 sx d l3 M r := by
  unfold at_W_law_596
  refine x_al (pc' := 597) rfl rfl (by decide) rfl ?_
  refine x_al (pc' := 598) rfl rfl (by decide) rfl ?_
  refine x_il (pc' := 599) rfl rfl rfl ?_
  refine x_c (pc' := 600) rfl rfl ?_
  refine x_ib (pc' := 601) (v := w32 (l3 + 1)) rfl rfl rfl ?_
  obtain ⟨q1, h⟩ := h
  refine x_iav (pc' := 602) (v := sx.2 (w32 (l3 + 1))) rfl (ld_sx q1) rfl ?_
  refine x_al (pc' := 603) rfl rfl (by decide) rfl ?_
  refine x_il (pc' := 604) rfl rfl rfl ?_
  refine x_c (pc' := 605) rfl rfl ?_
  refine x_ib (pc' := 606) (v := w32 (l3 + 2)) rfl rfl rfl ?_
  obtain ⟨q2, h⟩ := h
  refine x_iav (pc' := 607) (v := sx.2 (w32 (l3 + 2))) rfl (ld_sx q2) rfl ?_
  refine x_al (pc' := 608) rfl rfl (by decide) rfl ?_
  refine x_il (pc' := 609) rfl rfl rfl ?_
  refine x_c (pc' := 610) rfl rfl ?_
  refine x_ib (pc' := 611) (v := w32 (l3 + 3)) rfl rfl rfl ?_
  obtain ⟨q3, h⟩ := h
  refine x_iav (pc' := 612) (v := sx.2 (w32 (l3 + 3))) rfl (ld_sx q3) rfl ?_
  obtain ⟨v5, q4, h⟩ := h
  refine x_call (pc' := 613) (as := [(2, 0), (0, sx.2 (w32 (l3 + 1))), (0, sx.2 (w32 (l3 + 2))), (0, sx.2 (w32 (l3 + 3)))]) (rest := []) rfl rfl rfl rfl rfl rfl q4 ?_
  refine x_al (pc' := 614) rfl rfl (by decide) rfl ?_
  refine x_al (pc' := 615) rfl rfl (by decide) rfl ?_
  refine x_il (pc' := 616) rfl rfl rfl ?_
  refine x_c (pc' := 617) rfl rfl ?_
  refine x_ib (pc' := 618) (v := w32 (l3 + 1)) rfl rfl rfl ?_
  obtain ⟨q6, h⟩ := h
  refine x_iav (pc' := 619) (v := sx.2 (w32 (l3 + 1))) rfl (ld_sx q6) rfl ?_
  refine x_al (pc' := 620) rfl rfl (by decide) rfl ?_
  refine x_il (pc' := 621) rfl rfl rfl ?_
  refine x_c (pc' := 622) rfl rfl ?_
  refine x_ib (pc' := 623) (v := w32 (l3 + 2)) rfl rfl rfl ?_
  obtain ⟨q7, h⟩ := h
  refine x_iav (pc' := 624) (v := sx.2 (w32 (l3 + 2))) rfl (ld_sx q7) rfl ?_
  refine x_al (pc' := 625) rfl rfl (by decide) rfl ?_
  refine x_il (pc' := 626) rfl rfl rfl ?_
  refine x_c (pc' := 627) rfl rfl ?_
  refine x_ib (pc' := 628) (v := w32 (l3 + 3)) rfl rfl rfl ?_
  obtain ⟨q8, h⟩ := h
  refine x_iav (pc' := 629) (v := sx.2 (w32 (l3 + 3))) rfl (ld_sx q8) rfl ?_
  obtain ⟨v10, q9, h⟩ := h
  refine x_call (pc' := 630) (as := [(2, 64), (0, sx.2 (w32 (l3 + 1))), (0, sx.2 (w32 (l3 + 2))), (0, sx.2 (w32 (l3 + 3)))]) (rest := [(0, v5)]) rfl rfl rfl rfl rfl rfl q9 ?_
  refine x_iceq (pc' := 631) (t' := 1135) rfl rfl rfl (fun q11 => ?_) (fun q11 => ?_)
  · replace h := ite_t q11 h
    exact h
  · replace h := ite_f q11 h
    refine x_c (pc' := 632) rfl rfl ?_
    exact x_zret rfl (by decide) h
set_option maxRecDepth 20000 in
theorem sg_W_law_633 {sx : SX} {d : Nat} {l3 : Int} {M : Mem} {r : Res} (h : (0 ≤ w32 (l3 + 1) ∧ w32 (l3 + 1) < sx.1) ∧ ∃ v3, Cl d m_X_judge [(2, 0), (0, sx.2 (w32 (l3 + 1)))] M (some (0, v3), M) ∧ (0 ≤ w32 (l3 + 1) ∧ w32 (l3 + 1) < sx.1) ∧ ∃ v6, Cl d m_M_judge [(2, 64), (0, sx.2 (w32 (l3 + 1)))] M (some (0, v6), M) ∧ (if v3 = v6 then at_W_law_1135 sx d l3 M r else r = (some (0, 0), M))) : at_W_law_633 sx d l3 M r := by
  unfold at_W_law_633
  refine x_al (pc' := 634) rfl rfl (by decide) rfl ?_
  refine x_al (pc' := 635) rfl rfl (by decide) rfl ?_
  refine x_il (pc' := 636) rfl rfl rfl ?_
  refine x_c (pc' := 637) rfl rfl ?_
  refine x_ib (pc' := 638) (v := w32 (l3 + 1)) rfl rfl rfl ?_
  obtain ⟨q1, h⟩ := h
  refine x_iav (pc' := 639) (v := sx.2 (w32 (l3 + 1))) rfl (ld_sx q1) rfl ?_
  obtain ⟨v3, q2, h⟩ := h
  refine x_call (pc' := 640) (as := [(2, 0), (0, sx.2 (w32 (l3 + 1)))]) (rest := []) rfl rfl rfl rfl rfl rfl q2 ?_
  refine x_al (pc' := 641) rfl rfl (by decide) rfl ?_
  refine x_al (pc' := 642) rfl rfl (by decide) rfl ?_
  refine x_il (pc' := 643) rfl rfl rfl ?_
  refine x_c (pc' := 644) rfl rfl ?_
  refine x_ib (pc' := 645) (v := w32 (l3 + 1)) rfl rfl rfl ?_
  obtain ⟨q4, h⟩ := h
  refine x_iav (pc' := 646) (v := sx.2 (w32 (l3 + 1))) rfl (ld_sx q4) rfl ?_
  obtain ⟨v6, q5, h⟩ := h
  refine x_call (pc' := 647) (as := [(2, 64), (0, sx.2 (w32 (l3 + 1)))]) (rest := [(0, v3)]) rfl rfl rfl rfl rfl rfl q5 ?_
  refine x_iceq (pc' := 648) (t' := 1135) rfl rfl rfl (fun q7 => ?_) (fun q7 => ?_)
  · replace h := ite_t q7 h
    exact h
  · replace h := ite_f q7 h
    refine x_c (pc' := 649) rfl rfl ?_
    exact x_zret rfl (by decide) h
set_option maxRecDepth 20000 in
theorem sg_W_law_650 {sx : SX} {d : Nat} {l3 : Int} {M : Mem} {r : Res} (h : (0 ≤ w32 (l3 + 1) ∧ w32 (l3 + 1) < sx.1) ∧ ∃ v3, Cl d m_X_clerk [(2, 0), (0, sx.2 (w32 (l3 + 1)))] M (some (0, v3), M) ∧ (0 ≤ w32 (l3 + 1) ∧ w32 (l3 + 1) < sx.1) ∧ ∃ v6, Cl d m_M_clerk [(2, 64), (0, sx.2 (w32 (l3 + 1)))] M (some (0, v6), M) ∧ (if v3 = v6 then at_W_law_1135 sx d l3 M r else r = (some (0, 0), M))) : at_W_law_650 sx d l3 M r := by
  unfold at_W_law_650
  refine x_al (pc' := 651) rfl rfl (by decide) rfl ?_
  refine x_al (pc' := 652) rfl rfl (by decide) rfl ?_
  refine x_il (pc' := 653) rfl rfl rfl ?_
  refine x_c (pc' := 654) rfl rfl ?_
  refine x_ib (pc' := 655) (v := w32 (l3 + 1)) rfl rfl rfl ?_
  obtain ⟨q1, h⟩ := h
  refine x_iav (pc' := 656) (v := sx.2 (w32 (l3 + 1))) rfl (ld_sx q1) rfl ?_
  obtain ⟨v3, q2, h⟩ := h
  refine x_call (pc' := 657) (as := [(2, 0), (0, sx.2 (w32 (l3 + 1)))]) (rest := []) rfl rfl rfl rfl rfl rfl q2 ?_
  refine x_al (pc' := 658) rfl rfl (by decide) rfl ?_
  refine x_al (pc' := 659) rfl rfl (by decide) rfl ?_
  refine x_il (pc' := 660) rfl rfl rfl ?_
  refine x_c (pc' := 661) rfl rfl ?_
  refine x_ib (pc' := 662) (v := w32 (l3 + 1)) rfl rfl rfl ?_
  obtain ⟨q4, h⟩ := h
  refine x_iav (pc' := 663) (v := sx.2 (w32 (l3 + 1))) rfl (ld_sx q4) rfl ?_
  obtain ⟨v6, q5, h⟩ := h
  refine x_call (pc' := 664) (as := [(2, 64), (0, sx.2 (w32 (l3 + 1)))]) (rest := [(0, v3)]) rfl rfl rfl rfl rfl rfl q5 ?_
  refine x_iceq (pc' := 665) (t' := 1135) rfl rfl rfl (fun q7 => ?_) (fun q7 => ?_)
  · replace h := ite_t q7 h
    exact h
  · replace h := ite_f q7 h
    refine x_c (pc' := 666) rfl rfl ?_
    exact x_zret rfl (by decide) h
set_option maxRecDepth 20000 in
theorem sg_W_law_667 {sx : SX} {d : Nat} {l3 : Int} {M : Mem} {r : Res} (h : (0 ≤ w32 (l3 + 1) ∧ w32 (l3 + 1) < sx.1) ∧ (0 ≤ w32 (l3 + 2) ∧ w32 (l3 + 2) < sx.1) ∧ (0 ≤ w32 (l3 + 3) ∧ w32 (l3 + 3) < sx.1) ∧ ∃ v5 M6, Cl d m_X_drawn [(2, 0), (0, sx.2 (w32 (l3 + 1))), (0, sx.2 (w32 (l3 + 2))), (0, sx.2 (w32 (l3 + 3)))] M (some (0, v5), M6) ∧ (0 ≤ w32 (l3 + 1) ∧ w32 (l3 + 1) < sx.1) ∧ (0 ≤ w32 (l3 + 2) ∧ w32 (l3 + 2) < sx.1) ∧ (0 ≤ w32 (l3 + 3) ∧ w32 (l3 + 3) < sx.1) ∧ ∃ v11 M12, Cl d m_M_drawn [(2, 64), (0, sx.2 (w32 (l3 + 1))), (0, sx.2 (w32 (l3 + 2))), (0, sx.2 (w32 (l3 + 3)))] M6 (some (0, v11), M12) ∧ (if v5 = v11 then at_W_law_1135 sx d l3 M12 r else r = (some (0, 0), M12))) : at_W_law_667 sx d l3 M r := by
  unfold at_W_law_667
  refine x_al (pc' := 668) rfl rfl (by decide) rfl ?_
  refine x_al (pc' := 669) rfl rfl (by decide) rfl ?_
  refine x_il (pc' := 670) rfl rfl rfl ?_
  refine x_c (pc' := 671) rfl rfl ?_
  refine x_ib (pc' := 672) (v := w32 (l3 + 1)) rfl rfl rfl ?_
  obtain ⟨q1, h⟩ := h
  refine x_iav (pc' := 673) (v := sx.2 (w32 (l3 + 1))) rfl (ld_sx q1) rfl ?_
  refine x_al (pc' := 674) rfl rfl (by decide) rfl ?_
  refine x_il (pc' := 675) rfl rfl rfl ?_
  refine x_c (pc' := 676) rfl rfl ?_
  refine x_ib (pc' := 677) (v := w32 (l3 + 2)) rfl rfl rfl ?_
  obtain ⟨q2, h⟩ := h
  refine x_iav (pc' := 678) (v := sx.2 (w32 (l3 + 2))) rfl (ld_sx q2) rfl ?_
  refine x_al (pc' := 679) rfl rfl (by decide) rfl ?_
  refine x_il (pc' := 680) rfl rfl rfl ?_
  refine x_c (pc' := 681) rfl rfl ?_
  refine x_ib (pc' := 682) (v := w32 (l3 + 3)) rfl rfl rfl ?_
  obtain ⟨q3, h⟩ := h
  refine x_iav (pc' := 683) (v := sx.2 (w32 (l3 + 3))) rfl (ld_sx q3) rfl ?_
  obtain ⟨v5, M6, q4, h⟩ := h
  refine x_call (pc' := 684) (as := [(2, 0), (0, sx.2 (w32 (l3 + 1))), (0, sx.2 (w32 (l3 + 2))), (0, sx.2 (w32 (l3 + 3)))]) (rest := []) rfl rfl rfl rfl rfl rfl q4 ?_
  refine x_al (pc' := 685) rfl rfl (by decide) rfl ?_
  refine x_al (pc' := 686) rfl rfl (by decide) rfl ?_
  refine x_il (pc' := 687) rfl rfl rfl ?_
  refine x_c (pc' := 688) rfl rfl ?_
  refine x_ib (pc' := 689) (v := w32 (l3 + 1)) rfl rfl rfl ?_
  obtain ⟨q7, h⟩ := h
  refine x_iav (pc' := 690) (v := sx.2 (w32 (l3 + 1))) rfl (ld_sx q7) rfl ?_
  refine x_al (pc' := 691) rfl rfl (by decide) rfl ?_
  refine x_il (pc' := 692) rfl rfl rfl ?_
  refine x_c (pc' := 693) rfl rfl ?_
  refine x_ib (pc' := 694) (v := w32 (l3 + 2)) rfl rfl rfl ?_
  obtain ⟨q8, h⟩ := h
  refine x_iav (pc' := 695) (v := sx.2 (w32 (l3 + 2))) rfl (ld_sx q8) rfl ?_
  refine x_al (pc' := 696) rfl rfl (by decide) rfl ?_
  refine x_il (pc' := 697) rfl rfl rfl ?_
  refine x_c (pc' := 698) rfl rfl ?_
  refine x_ib (pc' := 699) (v := w32 (l3 + 3)) rfl rfl rfl ?_
  obtain ⟨q9, h⟩ := h
  refine x_iav (pc' := 700) (v := sx.2 (w32 (l3 + 3))) rfl (ld_sx q9) rfl ?_
  obtain ⟨v11, M12, q10, h⟩ := h
  refine x_call (pc' := 701) (as := [(2, 64), (0, sx.2 (w32 (l3 + 1))), (0, sx.2 (w32 (l3 + 2))), (0, sx.2 (w32 (l3 + 3)))]) (rest := [(0, v5)]) rfl rfl rfl rfl rfl rfl q10 ?_
  refine x_iceq (pc' := 702) (t' := 1135) rfl rfl rfl (fun q13 => ?_) (fun q13 => ?_)
  · replace h := ite_t q13 h
    exact h
  · replace h := ite_f q13 h
    refine x_c (pc' := 703) rfl rfl ?_
    exact x_zret rfl (by decide) h
set_option maxRecDepth 20000 in
theorem sg_W_law_704 {sx : SX} {d : Nat} {l3 : Int} {M : Mem} {r : Res} (h : (0 ≤ w32 (l3 + 1) ∧ w32 (l3 + 1) < sx.1) ∧ (0 ≤ w32 (l3 + 2) ∧ w32 (l3 + 2) < sx.1) ∧ ∃ v4 M5, Cl d m_X_file [(2, 0), (0, sx.2 (w32 (l3 + 1))), (0, sx.2 (w32 (l3 + 2)))] M (some (0, v4), M5) ∧ (0 ≤ w32 (l3 + 1) ∧ w32 (l3 + 1) < sx.1) ∧ (0 ≤ w32 (l3 + 2) ∧ w32 (l3 + 2) < sx.1) ∧ ∃ v9 M10, Cl d m_M_file [(2, 64), (0, sx.2 (w32 (l3 + 1))), (0, sx.2 (w32 (l3 + 2)))] M5 (some (0, v9), M10) ∧ (if v4 = v9 then at_W_law_1135 sx d l3 M10 r else r = (some (0, 0), M10))) : at_W_law_704 sx d l3 M r := by
  unfold at_W_law_704
  refine x_al (pc' := 705) rfl rfl (by decide) rfl ?_
  refine x_al (pc' := 706) rfl rfl (by decide) rfl ?_
  refine x_il (pc' := 707) rfl rfl rfl ?_
  refine x_c (pc' := 708) rfl rfl ?_
  refine x_ib (pc' := 709) (v := w32 (l3 + 1)) rfl rfl rfl ?_
  obtain ⟨q1, h⟩ := h
  refine x_iav (pc' := 710) (v := sx.2 (w32 (l3 + 1))) rfl (ld_sx q1) rfl ?_
  refine x_al (pc' := 711) rfl rfl (by decide) rfl ?_
  refine x_il (pc' := 712) rfl rfl rfl ?_
  refine x_c (pc' := 713) rfl rfl ?_
  refine x_ib (pc' := 714) (v := w32 (l3 + 2)) rfl rfl rfl ?_
  obtain ⟨q2, h⟩ := h
  refine x_iav (pc' := 715) (v := sx.2 (w32 (l3 + 2))) rfl (ld_sx q2) rfl ?_
  obtain ⟨v4, M5, q3, h⟩ := h
  refine x_call (pc' := 716) (as := [(2, 0), (0, sx.2 (w32 (l3 + 1))), (0, sx.2 (w32 (l3 + 2)))]) (rest := []) rfl rfl rfl rfl rfl rfl q3 ?_
  refine x_al (pc' := 717) rfl rfl (by decide) rfl ?_
  refine x_al (pc' := 718) rfl rfl (by decide) rfl ?_
  refine x_il (pc' := 719) rfl rfl rfl ?_
  refine x_c (pc' := 720) rfl rfl ?_
  refine x_ib (pc' := 721) (v := w32 (l3 + 1)) rfl rfl rfl ?_
  obtain ⟨q6, h⟩ := h
  refine x_iav (pc' := 722) (v := sx.2 (w32 (l3 + 1))) rfl (ld_sx q6) rfl ?_
  refine x_al (pc' := 723) rfl rfl (by decide) rfl ?_
  refine x_il (pc' := 724) rfl rfl rfl ?_
  refine x_c (pc' := 725) rfl rfl ?_
  refine x_ib (pc' := 726) (v := w32 (l3 + 2)) rfl rfl rfl ?_
  obtain ⟨q7, h⟩ := h
  refine x_iav (pc' := 727) (v := sx.2 (w32 (l3 + 2))) rfl (ld_sx q7) rfl ?_
  obtain ⟨v9, M10, q8, h⟩ := h
  refine x_call (pc' := 728) (as := [(2, 64), (0, sx.2 (w32 (l3 + 1))), (0, sx.2 (w32 (l3 + 2)))]) (rest := [(0, v4)]) rfl rfl rfl rfl rfl rfl q8 ?_
  refine x_iceq (pc' := 729) (t' := 1135) rfl rfl rfl (fun q11 => ?_) (fun q11 => ?_)
  · replace h := ite_t q11 h
    exact h
  · replace h := ite_f q11 h
    refine x_c (pc' := 730) rfl rfl ?_
    exact x_zret rfl (by decide) h
set_option maxRecDepth 20000 in
theorem sg_W_law_731 {sx : SX} {d : Nat} {l3 : Int} {M : Mem} {r : Res} (h : (0 ≤ w32 (l3 + 1) ∧ w32 (l3 + 1) < sx.1) ∧ ∃ v3 M4, Cl d m_X_take [(2, 0), (0, sx.2 (w32 (l3 + 1)))] M (some (0, v3), M4) ∧ (0 ≤ w32 (l3 + 1) ∧ w32 (l3 + 1) < sx.1) ∧ ∃ v7 M8, Cl d m_M_take [(2, 64), (0, sx.2 (w32 (l3 + 1)))] M4 (some (0, v7), M8) ∧ (if v3 = v7 then at_W_law_1135 sx d l3 M8 r else r = (some (0, 0), M8))) : at_W_law_731 sx d l3 M r := by
  unfold at_W_law_731
  refine x_al (pc' := 732) rfl rfl (by decide) rfl ?_
  refine x_al (pc' := 733) rfl rfl (by decide) rfl ?_
  refine x_il (pc' := 734) rfl rfl rfl ?_
  refine x_c (pc' := 735) rfl rfl ?_
  refine x_ib (pc' := 736) (v := w32 (l3 + 1)) rfl rfl rfl ?_
  obtain ⟨q1, h⟩ := h
  refine x_iav (pc' := 737) (v := sx.2 (w32 (l3 + 1))) rfl (ld_sx q1) rfl ?_
  obtain ⟨v3, M4, q2, h⟩ := h
  refine x_call (pc' := 738) (as := [(2, 0), (0, sx.2 (w32 (l3 + 1)))]) (rest := []) rfl rfl rfl rfl rfl rfl q2 ?_
  refine x_al (pc' := 739) rfl rfl (by decide) rfl ?_
  refine x_al (pc' := 740) rfl rfl (by decide) rfl ?_
  refine x_il (pc' := 741) rfl rfl rfl ?_
  refine x_c (pc' := 742) rfl rfl ?_
  refine x_ib (pc' := 743) (v := w32 (l3 + 1)) rfl rfl rfl ?_
  obtain ⟨q5, h⟩ := h
  refine x_iav (pc' := 744) (v := sx.2 (w32 (l3 + 1))) rfl (ld_sx q5) rfl ?_
  obtain ⟨v7, M8, q6, h⟩ := h
  refine x_call (pc' := 745) (as := [(2, 64), (0, sx.2 (w32 (l3 + 1)))]) (rest := [(0, v3)]) rfl rfl rfl rfl rfl rfl q6 ?_
  refine x_iceq (pc' := 746) (t' := 1135) rfl rfl rfl (fun q9 => ?_) (fun q9 => ?_)
  · replace h := ite_t q9 h
    exact h
  · replace h := ite_f q9 h
    refine x_c (pc' := 747) rfl rfl ?_
    exact x_zret rfl (by decide) h
set_option maxRecDepth 20000 in
theorem sg_W_law_748 {sx : SX} {d : Nat} {l3 : Int} {M : Mem} {r : Res} (h : (0 ≤ w32 (l3 + 1) ∧ w32 (l3 + 1) < sx.1) ∧ ∃ v3 M4, Cl d m_X_search [(2, 0), (0, sx.2 (w32 (l3 + 1)))] M (some (0, v3), M4) ∧ (0 ≤ w32 (l3 + 1) ∧ w32 (l3 + 1) < sx.1) ∧ ∃ v7 M8, Cl d m_M_search [(2, 64), (0, sx.2 (w32 (l3 + 1)))] M4 (some (0, v7), M8) ∧ (if v3 = v7 then at_W_law_1135 sx d l3 M8 r else r = (some (0, 0), M8))) : at_W_law_748 sx d l3 M r := by
  unfold at_W_law_748
  refine x_al (pc' := 749) rfl rfl (by decide) rfl ?_
  refine x_al (pc' := 750) rfl rfl (by decide) rfl ?_
  refine x_il (pc' := 751) rfl rfl rfl ?_
  refine x_c (pc' := 752) rfl rfl ?_
  refine x_ib (pc' := 753) (v := w32 (l3 + 1)) rfl rfl rfl ?_
  obtain ⟨q1, h⟩ := h
  refine x_iav (pc' := 754) (v := sx.2 (w32 (l3 + 1))) rfl (ld_sx q1) rfl ?_
  obtain ⟨v3, M4, q2, h⟩ := h
  refine x_call (pc' := 755) (as := [(2, 0), (0, sx.2 (w32 (l3 + 1)))]) (rest := []) rfl rfl rfl rfl rfl rfl q2 ?_
  refine x_al (pc' := 756) rfl rfl (by decide) rfl ?_
  refine x_al (pc' := 757) rfl rfl (by decide) rfl ?_
  refine x_il (pc' := 758) rfl rfl rfl ?_
  refine x_c (pc' := 759) rfl rfl ?_
  refine x_ib (pc' := 760) (v := w32 (l3 + 1)) rfl rfl rfl ?_
  obtain ⟨q5, h⟩ := h
  refine x_iav (pc' := 761) (v := sx.2 (w32 (l3 + 1))) rfl (ld_sx q5) rfl ?_
  obtain ⟨v7, M8, q6, h⟩ := h
  refine x_call (pc' := 762) (as := [(2, 64), (0, sx.2 (w32 (l3 + 1)))]) (rest := [(0, v3)]) rfl rfl rfl rfl rfl rfl q6 ?_
  refine x_iceq (pc' := 763) (t' := 1135) rfl rfl rfl (fun q9 => ?_) (fun q9 => ?_)
  · replace h := ite_t q9 h
    exact h
  · replace h := ite_f q9 h
    refine x_c (pc' := 764) rfl rfl ?_
    exact x_zret rfl (by decide) h
set_option maxRecDepth 20000 in
theorem sg_W_law_765 {sx : SX} {d : Nat} {l3 : Int} {M : Mem} {r : Res} (h : (0 ≤ w32 (l3 + 1) ∧ w32 (l3 + 1) < sx.1) ∧ ∃ v3, Cl d m_X_led [(2, 0), (0, sx.2 (w32 (l3 + 1)))] M (some (0, v3), M) ∧ (0 ≤ w32 (l3 + 1) ∧ w32 (l3 + 1) < sx.1) ∧ ∃ v6, Cl d m_M_led [(2, 64), (0, sx.2 (w32 (l3 + 1)))] M (some (0, v6), M) ∧ (if v3 = v6 then at_W_law_1135 sx d l3 M r else r = (some (0, 0), M))) : at_W_law_765 sx d l3 M r := by
  unfold at_W_law_765
  refine x_al (pc' := 766) rfl rfl (by decide) rfl ?_
  refine x_al (pc' := 767) rfl rfl (by decide) rfl ?_
  refine x_il (pc' := 768) rfl rfl rfl ?_
  refine x_c (pc' := 769) rfl rfl ?_
  refine x_ib (pc' := 770) (v := w32 (l3 + 1)) rfl rfl rfl ?_
  obtain ⟨q1, h⟩ := h
  refine x_iav (pc' := 771) (v := sx.2 (w32 (l3 + 1))) rfl (ld_sx q1) rfl ?_
  obtain ⟨v3, q2, h⟩ := h
  refine x_call (pc' := 772) (as := [(2, 0), (0, sx.2 (w32 (l3 + 1)))]) (rest := []) rfl rfl rfl rfl rfl rfl q2 ?_
  refine x_al (pc' := 773) rfl rfl (by decide) rfl ?_
  refine x_al (pc' := 774) rfl rfl (by decide) rfl ?_
  refine x_il (pc' := 775) rfl rfl rfl ?_
  refine x_c (pc' := 776) rfl rfl ?_
  refine x_ib (pc' := 777) (v := w32 (l3 + 1)) rfl rfl rfl ?_
  obtain ⟨q4, h⟩ := h
  refine x_iav (pc' := 778) (v := sx.2 (w32 (l3 + 1))) rfl (ld_sx q4) rfl ?_
  obtain ⟨v6, q5, h⟩ := h
  refine x_call (pc' := 779) (as := [(2, 64), (0, sx.2 (w32 (l3 + 1)))]) (rest := [(0, v3)]) rfl rfl rfl rfl rfl rfl q5 ?_
  refine x_iceq (pc' := 780) (t' := 1135) rfl rfl rfl (fun q7 => ?_) (fun q7 => ?_)
  · replace h := ite_t q7 h
    exact h
  · replace h := ite_f q7 h
    refine x_c (pc' := 781) rfl rfl ?_
    exact x_zret rfl (by decide) h
set_option maxRecDepth 20000 in
theorem sg_W_law_782 {sx : SX} {d : Nat} {l3 : Int} {M : Mem} {r : Res} (h : ∃ v2 M3, Cl d m_X_image [(2, 0)] M (some (0, v2), M3) ∧ ∃ v5 M6, Cl d m_M_image [(2, 64)] M3 (some (0, v5), M6) ∧ (if v2 = v5 then at_W_law_1135 sx d l3 M6 r else r = (some (0, 0), M6))) : at_W_law_782 sx d l3 M r := by
  unfold at_W_law_782
  refine x_al (pc' := 783) rfl rfl (by decide) rfl ?_
  obtain ⟨v2, M3, q1, h⟩ := h
  refine x_call (pc' := 784) (as := [(2, 0)]) (rest := []) rfl rfl rfl rfl rfl rfl q1 ?_
  refine x_al (pc' := 785) rfl rfl (by decide) rfl ?_
  obtain ⟨v5, M6, q4, h⟩ := h
  refine x_call (pc' := 786) (as := [(2, 64)]) (rest := [(0, v2)]) rfl rfl rfl rfl rfl rfl q4 ?_
  refine x_iceq (pc' := 787) (t' := 1135) rfl rfl rfl (fun q7 => ?_) (fun q7 => ?_)
  · replace h := ite_t q7 h
    exact h
  · replace h := ite_f q7 h
    refine x_c (pc' := 788) rfl rfl ?_
    exact x_zret rfl (by decide) h
set_option maxRecDepth 20000 in
theorem sg_W_law_789 {sx : SX} {d : Nat} {l3 : Int} {M : Mem} {r : Res} (h : ∃ v2 M3, Cl d m_X_back [(2, 0)] M (some (0, v2), M3) ∧ ∃ v5 M6, Cl d m_M_back [(2, 64)] M3 (some (0, v5), M6) ∧ (if v2 = v5 then at_W_law_1135 sx d l3 M6 r else r = (some (0, 0), M6))) : at_W_law_789 sx d l3 M r := by
  unfold at_W_law_789
  refine x_al (pc' := 790) rfl rfl (by decide) rfl ?_
  obtain ⟨v2, M3, q1, h⟩ := h
  refine x_call (pc' := 791) (as := [(2, 0)]) (rest := []) rfl rfl rfl rfl rfl rfl q1 ?_
  refine x_al (pc' := 792) rfl rfl (by decide) rfl ?_
  obtain ⟨v5, M6, q4, h⟩ := h
  refine x_call (pc' := 793) (as := [(2, 64)]) (rest := [(0, v2)]) rfl rfl rfl rfl rfl rfl q4 ?_
  refine x_iceq (pc' := 794) (t' := 1135) rfl rfl rfl (fun q7 => ?_) (fun q7 => ?_)
  · replace h := ite_t q7 h
    exact h
  · replace h := ite_f q7 h
    refine x_c (pc' := 795) rfl rfl ?_
    exact x_zret rfl (by decide) h
set_option maxRecDepth 20000 in
theorem sg_W_law_796 {sx : SX} {d : Nat} {l3 : Int} {M : Mem} {r : Res} (h : ∃ v2 M3, Cl d m_X_undo [(2, 0)] M (some (0, v2), M3) ∧ ∃ v5 M6, Cl d m_M_undo [(2, 64)] M3 (some (0, v5), M6) ∧ (if v2 = v5 then at_W_law_1135 sx d l3 M6 r else r = (some (0, 0), M6))) : at_W_law_796 sx d l3 M r := by
  unfold at_W_law_796
  refine x_al (pc' := 797) rfl rfl (by decide) rfl ?_
  obtain ⟨v2, M3, q1, h⟩ := h
  refine x_call (pc' := 798) (as := [(2, 0)]) (rest := []) rfl rfl rfl rfl rfl rfl q1 ?_
  refine x_al (pc' := 799) rfl rfl (by decide) rfl ?_
  obtain ⟨v5, M6, q4, h⟩ := h
  refine x_call (pc' := 800) (as := [(2, 64)]) (rest := [(0, v2)]) rfl rfl rfl rfl rfl rfl q4 ?_
  refine x_iceq (pc' := 801) (t' := 1135) rfl rfl rfl (fun q7 => ?_) (fun q7 => ?_)
  · replace h := ite_t q7 h
    exact h
  · replace h := ite_f q7 h
    refine x_c (pc' := 802) rfl rfl ?_
    exact x_zret rfl (by decide) h
set_option maxRecDepth 20000 in
theorem sg_W_law_803 {sx : SX} {d : Nat} {l3 : Int} {M : Mem} {r : Res} (h : ∃ v2 M3, Cl d m_X_redo [(2, 0)] M (some (0, v2), M3) ∧ ∃ v5 M6, Cl d m_M_redo [(2, 64)] M3 (some (0, v5), M6) ∧ (if v2 = v5 then at_W_law_1135 sx d l3 M6 r else r = (some (0, 0), M6))) : at_W_law_803 sx d l3 M r := by
  unfold at_W_law_803
  refine x_al (pc' := 804) rfl rfl (by decide) rfl ?_
  obtain ⟨v2, M3, q1, h⟩ := h
  refine x_call (pc' := 805) (as := [(2, 0)]) (rest := []) rfl rfl rfl rfl rfl rfl q1 ?_
  refine x_al (pc' := 806) rfl rfl (by decide) rfl ?_
  obtain ⟨v5, M6, q4, h⟩ := h
  refine x_call (pc' := 807) (as := [(2, 64)]) (rest := [(0, v2)]) rfl rfl rfl rfl rfl rfl q4 ?_
  refine x_iceq (pc' := 808) (t' := 1135) rfl rfl rfl (fun q7 => ?_) (fun q7 => ?_)
  · replace h := ite_t q7 h
    exact h
  · replace h := ite_f q7 h
    refine x_c (pc' := 809) rfl rfl ?_
    exact x_zret rfl (by decide) h
set_option maxRecDepth 20000 in
theorem sg_W_law_810 {sx : SX} {d : Nat} {l3 : Int} {M : Mem} {r : Res} (h : (0 ≤ w32 (l3 + 1) ∧ w32 (l3 + 1) < sx.1) ∧ ∃ v3 M4, Cl d m_X_body [(2, 0), (0, sx.2 (w32 (l3 + 1)))] M (some (0, v3), M4) ∧ (0 ≤ w32 (l3 + 1) ∧ w32 (l3 + 1) < sx.1) ∧ ∃ v7 M8, Cl d m_M_body [(2, 64), (0, sx.2 (w32 (l3 + 1)))] M4 (some (0, v7), M8) ∧ (if v3 = v7 then at_W_law_1135 sx d l3 M8 r else r = (some (0, 0), M8))) : at_W_law_810 sx d l3 M r := by
  unfold at_W_law_810
  refine x_al (pc' := 811) rfl rfl (by decide) rfl ?_
  refine x_al (pc' := 812) rfl rfl (by decide) rfl ?_
  refine x_il (pc' := 813) rfl rfl rfl ?_
  refine x_c (pc' := 814) rfl rfl ?_
  refine x_ib (pc' := 815) (v := w32 (l3 + 1)) rfl rfl rfl ?_
  obtain ⟨q1, h⟩ := h
  refine x_iav (pc' := 816) (v := sx.2 (w32 (l3 + 1))) rfl (ld_sx q1) rfl ?_
  obtain ⟨v3, M4, q2, h⟩ := h
  refine x_call (pc' := 817) (as := [(2, 0), (0, sx.2 (w32 (l3 + 1)))]) (rest := []) rfl rfl rfl rfl rfl rfl q2 ?_
  refine x_al (pc' := 818) rfl rfl (by decide) rfl ?_
  refine x_al (pc' := 819) rfl rfl (by decide) rfl ?_
  refine x_il (pc' := 820) rfl rfl rfl ?_
  refine x_c (pc' := 821) rfl rfl ?_
  refine x_ib (pc' := 822) (v := w32 (l3 + 1)) rfl rfl rfl ?_
  obtain ⟨q5, h⟩ := h
  refine x_iav (pc' := 823) (v := sx.2 (w32 (l3 + 1))) rfl (ld_sx q5) rfl ?_
  obtain ⟨v7, M8, q6, h⟩ := h
  refine x_call (pc' := 824) (as := [(2, 64), (0, sx.2 (w32 (l3 + 1)))]) (rest := [(0, v3)]) rfl rfl rfl rfl rfl rfl q6 ?_
  refine x_iceq (pc' := 825) (t' := 1135) rfl rfl rfl (fun q9 => ?_) (fun q9 => ?_)
  · replace h := ite_t q9 h
    exact h
  · replace h := ite_f q9 h
    refine x_c (pc' := 826) rfl rfl ?_
    exact x_zret rfl (by decide) h
set_option maxRecDepth 20000 in
theorem sg_W_law_827 {sx : SX} {d : Nat} {l3 : Int} {M : Mem} {r : Res} (h : (0 ≤ w32 (l3 + 1) ∧ w32 (l3 + 1) < sx.1) ∧ (0 ≤ w32 (l3 + 2) ∧ w32 (l3 + 2) < sx.1) ∧ (0 ≤ w32 (l3 + 3) ∧ w32 (l3 + 3) < sx.1) ∧ ∃ v5 M6, Cl d m_X_act [(2, 0), (0, sx.2 (w32 (l3 + 1))), (0, sx.2 (w32 (l3 + 2))), (0, sx.2 (w32 (l3 + 3)))] M (some (0, v5), M6) ∧ (0 ≤ w32 (l3 + 1) ∧ w32 (l3 + 1) < sx.1) ∧ (0 ≤ w32 (l3 + 2) ∧ w32 (l3 + 2) < sx.1) ∧ (0 ≤ w32 (l3 + 3) ∧ w32 (l3 + 3) < sx.1) ∧ ∃ v11 M12, Cl d m_M_act [(2, 64), (0, sx.2 (w32 (l3 + 1))), (0, sx.2 (w32 (l3 + 2))), (0, sx.2 (w32 (l3 + 3)))] M6 (some (0, v11), M12) ∧ (if v5 = v11 then at_W_law_1135 sx d l3 M12 r else r = (some (0, 0), M12))) : at_W_law_827 sx d l3 M r := by
  unfold at_W_law_827
  refine x_al (pc' := 828) rfl rfl (by decide) rfl ?_
  refine x_al (pc' := 829) rfl rfl (by decide) rfl ?_
  refine x_il (pc' := 830) rfl rfl rfl ?_
  refine x_c (pc' := 831) rfl rfl ?_
  refine x_ib (pc' := 832) (v := w32 (l3 + 1)) rfl rfl rfl ?_
  obtain ⟨q1, h⟩ := h
  refine x_iav (pc' := 833) (v := sx.2 (w32 (l3 + 1))) rfl (ld_sx q1) rfl ?_
  refine x_al (pc' := 834) rfl rfl (by decide) rfl ?_
  refine x_il (pc' := 835) rfl rfl rfl ?_
  refine x_c (pc' := 836) rfl rfl ?_
  refine x_ib (pc' := 837) (v := w32 (l3 + 2)) rfl rfl rfl ?_
  obtain ⟨q2, h⟩ := h
  refine x_iav (pc' := 838) (v := sx.2 (w32 (l3 + 2))) rfl (ld_sx q2) rfl ?_
  refine x_al (pc' := 839) rfl rfl (by decide) rfl ?_
  refine x_il (pc' := 840) rfl rfl rfl ?_
  refine x_c (pc' := 841) rfl rfl ?_
  refine x_ib (pc' := 842) (v := w32 (l3 + 3)) rfl rfl rfl ?_
  obtain ⟨q3, h⟩ := h
  refine x_iav (pc' := 843) (v := sx.2 (w32 (l3 + 3))) rfl (ld_sx q3) rfl ?_
  obtain ⟨v5, M6, q4, h⟩ := h
  refine x_call (pc' := 844) (as := [(2, 0), (0, sx.2 (w32 (l3 + 1))), (0, sx.2 (w32 (l3 + 2))), (0, sx.2 (w32 (l3 + 3)))]) (rest := []) rfl rfl rfl rfl rfl rfl q4 ?_
  refine x_al (pc' := 845) rfl rfl (by decide) rfl ?_
  refine x_al (pc' := 846) rfl rfl (by decide) rfl ?_
  refine x_il (pc' := 847) rfl rfl rfl ?_
  refine x_c (pc' := 848) rfl rfl ?_
  refine x_ib (pc' := 849) (v := w32 (l3 + 1)) rfl rfl rfl ?_
  obtain ⟨q7, h⟩ := h
  refine x_iav (pc' := 850) (v := sx.2 (w32 (l3 + 1))) rfl (ld_sx q7) rfl ?_
  refine x_al (pc' := 851) rfl rfl (by decide) rfl ?_
  refine x_il (pc' := 852) rfl rfl rfl ?_
  refine x_c (pc' := 853) rfl rfl ?_
  refine x_ib (pc' := 854) (v := w32 (l3 + 2)) rfl rfl rfl ?_
  obtain ⟨q8, h⟩ := h
  refine x_iav (pc' := 855) (v := sx.2 (w32 (l3 + 2))) rfl (ld_sx q8) rfl ?_
  refine x_al (pc' := 856) rfl rfl (by decide) rfl ?_
  refine x_il (pc' := 857) rfl rfl rfl ?_
  refine x_c (pc' := 858) rfl rfl ?_
  refine x_ib (pc' := 859) (v := w32 (l3 + 3)) rfl rfl rfl ?_
  obtain ⟨q9, h⟩ := h
  refine x_iav (pc' := 860) (v := sx.2 (w32 (l3 + 3))) rfl (ld_sx q9) rfl ?_
  obtain ⟨v11, M12, q10, h⟩ := h
  refine x_call (pc' := 861) (as := [(2, 64), (0, sx.2 (w32 (l3 + 1))), (0, sx.2 (w32 (l3 + 2))), (0, sx.2 (w32 (l3 + 3)))]) (rest := [(0, v5)]) rfl rfl rfl rfl rfl rfl q10 ?_
  refine x_iceq (pc' := 862) (t' := 1135) rfl rfl rfl (fun q13 => ?_) (fun q13 => ?_)
  · replace h := ite_t q13 h
    exact h
  · replace h := ite_f q13 h
    refine x_c (pc' := 863) rfl rfl ?_
    exact x_zret rfl (by decide) h
set_option maxRecDepth 20000 in
theorem sg_W_law_864 {sx : SX} {d : Nat} {l3 : Int} {M : Mem} {r : Res} (h : (0 ≤ w32 (l3 + 1) ∧ w32 (l3 + 1) < sx.1) ∧ ∃ v3, Cl d m_X_trace [(2, 0), (0, sx.2 (w32 (l3 + 1)))] M (some (0, v3), M) ∧ (0 ≤ w32 (l3 + 1) ∧ w32 (l3 + 1) < sx.1) ∧ ∃ v6, Cl d m_M_trace [(2, 64), (0, sx.2 (w32 (l3 + 1)))] M (some (0, v6), M) ∧ (if v3 = v6 then at_W_law_1135 sx d l3 M r else r = (some (0, 0), M))) : at_W_law_864 sx d l3 M r := by
  unfold at_W_law_864
  refine x_al (pc' := 865) rfl rfl (by decide) rfl ?_
  refine x_al (pc' := 866) rfl rfl (by decide) rfl ?_
  refine x_il (pc' := 867) rfl rfl rfl ?_
  refine x_c (pc' := 868) rfl rfl ?_
  refine x_ib (pc' := 869) (v := w32 (l3 + 1)) rfl rfl rfl ?_
  obtain ⟨q1, h⟩ := h
  refine x_iav (pc' := 870) (v := sx.2 (w32 (l3 + 1))) rfl (ld_sx q1) rfl ?_
  obtain ⟨v3, q2, h⟩ := h
  refine x_call (pc' := 871) (as := [(2, 0), (0, sx.2 (w32 (l3 + 1)))]) (rest := []) rfl rfl rfl rfl rfl rfl q2 ?_
  refine x_al (pc' := 872) rfl rfl (by decide) rfl ?_
  refine x_al (pc' := 873) rfl rfl (by decide) rfl ?_
  refine x_il (pc' := 874) rfl rfl rfl ?_
  refine x_c (pc' := 875) rfl rfl ?_
  refine x_ib (pc' := 876) (v := w32 (l3 + 1)) rfl rfl rfl ?_
  obtain ⟨q4, h⟩ := h
  refine x_iav (pc' := 877) (v := sx.2 (w32 (l3 + 1))) rfl (ld_sx q4) rfl ?_
  obtain ⟨v6, q5, h⟩ := h
  refine x_call (pc' := 878) (as := [(2, 64), (0, sx.2 (w32 (l3 + 1)))]) (rest := [(0, v3)]) rfl rfl rfl rfl rfl rfl q5 ?_
  refine x_iceq (pc' := 879) (t' := 1135) rfl rfl rfl (fun q7 => ?_) (fun q7 => ?_)
  · replace h := ite_t q7 h
    exact h
  · replace h := ite_f q7 h
    refine x_c (pc' := 880) rfl rfl ?_
    exact x_zret rfl (by decide) h
set_option maxRecDepth 20000 in
theorem sg_W_law_881 {sx : SX} {d : Nat} {l3 : Int} {M : Mem} {r : Res} (h : (0 ≤ w32 (l3 + 1) ∧ w32 (l3 + 1) < sx.1) ∧ (0 ≤ w32 (l3 + 2) ∧ w32 (l3 + 2) < sx.1) ∧ ∃ v4 M5, Cl d m_X_keep [(2, 0), (0, sx.2 (w32 (l3 + 1))), (0, sx.2 (w32 (l3 + 2)))] M (some (0, v4), M5) ∧ (0 ≤ w32 (l3 + 1) ∧ w32 (l3 + 1) < sx.1) ∧ (0 ≤ w32 (l3 + 2) ∧ w32 (l3 + 2) < sx.1) ∧ ∃ v9 M10, Cl d m_M_keep [(2, 64), (0, sx.2 (w32 (l3 + 1))), (0, sx.2 (w32 (l3 + 2)))] M5 (some (0, v9), M10) ∧ (if v4 = v9 then at_W_law_1135 sx d l3 M10 r else r = (some (0, 0), M10))) : at_W_law_881 sx d l3 M r := by
  unfold at_W_law_881
  refine x_al (pc' := 882) rfl rfl (by decide) rfl ?_
  refine x_al (pc' := 883) rfl rfl (by decide) rfl ?_
  refine x_il (pc' := 884) rfl rfl rfl ?_
  refine x_c (pc' := 885) rfl rfl ?_
  refine x_ib (pc' := 886) (v := w32 (l3 + 1)) rfl rfl rfl ?_
  obtain ⟨q1, h⟩ := h
  refine x_iav (pc' := 887) (v := sx.2 (w32 (l3 + 1))) rfl (ld_sx q1) rfl ?_
  refine x_al (pc' := 888) rfl rfl (by decide) rfl ?_
  refine x_il (pc' := 889) rfl rfl rfl ?_
  refine x_c (pc' := 890) rfl rfl ?_
  refine x_ib (pc' := 891) (v := w32 (l3 + 2)) rfl rfl rfl ?_
  obtain ⟨q2, h⟩ := h
  refine x_iav (pc' := 892) (v := sx.2 (w32 (l3 + 2))) rfl (ld_sx q2) rfl ?_
  obtain ⟨v4, M5, q3, h⟩ := h
  refine x_call (pc' := 893) (as := [(2, 0), (0, sx.2 (w32 (l3 + 1))), (0, sx.2 (w32 (l3 + 2)))]) (rest := []) rfl rfl rfl rfl rfl rfl q3 ?_
  refine x_al (pc' := 894) rfl rfl (by decide) rfl ?_
  refine x_al (pc' := 895) rfl rfl (by decide) rfl ?_
  refine x_il (pc' := 896) rfl rfl rfl ?_
  refine x_c (pc' := 897) rfl rfl ?_
  refine x_ib (pc' := 898) (v := w32 (l3 + 1)) rfl rfl rfl ?_
  obtain ⟨q6, h⟩ := h
  refine x_iav (pc' := 899) (v := sx.2 (w32 (l3 + 1))) rfl (ld_sx q6) rfl ?_
  refine x_al (pc' := 900) rfl rfl (by decide) rfl ?_
  refine x_il (pc' := 901) rfl rfl rfl ?_
  refine x_c (pc' := 902) rfl rfl ?_
  refine x_ib (pc' := 903) (v := w32 (l3 + 2)) rfl rfl rfl ?_
  obtain ⟨q7, h⟩ := h
  refine x_iav (pc' := 904) (v := sx.2 (w32 (l3 + 2))) rfl (ld_sx q7) rfl ?_
  obtain ⟨v9, M10, q8, h⟩ := h
  refine x_call (pc' := 905) (as := [(2, 64), (0, sx.2 (w32 (l3 + 1))), (0, sx.2 (w32 (l3 + 2)))]) (rest := [(0, v4)]) rfl rfl rfl rfl rfl rfl q8 ?_
  refine x_iceq (pc' := 906) (t' := 1135) rfl rfl rfl (fun q11 => ?_) (fun q11 => ?_)
  · replace h := ite_t q11 h
    exact h
  · replace h := ite_f q11 h
    refine x_c (pc' := 907) rfl rfl ?_
    exact x_zret rfl (by decide) h
set_option maxRecDepth 20000 in
theorem sg_W_law_908 {sx : SX} {d : Nat} {l3 : Int} {M : Mem} {r : Res} (h : (0 ≤ w32 (l3 + 1) ∧ w32 (l3 + 1) < sx.1) ∧ (0 ≤ w32 (l3 + 2) ∧ w32 (l3 + 2) < sx.1) ∧ (0 ≤ w32 (l3 + 3) ∧ w32 (l3 + 3) < sx.1) ∧ ∃ v5 M6, Cl d m_X_row [(2, 0), (0, sx.2 (w32 (l3 + 1))), (0, sx.2 (w32 (l3 + 2))), (0, sx.2 (w32 (l3 + 3)))] M (some (0, v5), M6) ∧ (0 ≤ w32 (l3 + 1) ∧ w32 (l3 + 1) < sx.1) ∧ (0 ≤ w32 (l3 + 2) ∧ w32 (l3 + 2) < sx.1) ∧ (0 ≤ w32 (l3 + 3) ∧ w32 (l3 + 3) < sx.1) ∧ ∃ v11 M12, Cl d m_M_row [(2, 64), (0, sx.2 (w32 (l3 + 1))), (0, sx.2 (w32 (l3 + 2))), (0, sx.2 (w32 (l3 + 3)))] M6 (some (0, v11), M12) ∧ (if v5 = v11 then at_W_law_1135 sx d l3 M12 r else r = (some (0, 0), M12))) : at_W_law_908 sx d l3 M r := by
  unfold at_W_law_908
  refine x_al (pc' := 909) rfl rfl (by decide) rfl ?_
  refine x_al (pc' := 910) rfl rfl (by decide) rfl ?_
  refine x_il (pc' := 911) rfl rfl rfl ?_
  refine x_c (pc' := 912) rfl rfl ?_
  refine x_ib (pc' := 913) (v := w32 (l3 + 1)) rfl rfl rfl ?_
  obtain ⟨q1, h⟩ := h
  refine x_iav (pc' := 914) (v := sx.2 (w32 (l3 + 1))) rfl (ld_sx q1) rfl ?_
  refine x_al (pc' := 915) rfl rfl (by decide) rfl ?_
  refine x_il (pc' := 916) rfl rfl rfl ?_
  refine x_c (pc' := 917) rfl rfl ?_
  refine x_ib (pc' := 918) (v := w32 (l3 + 2)) rfl rfl rfl ?_
  obtain ⟨q2, h⟩ := h
  refine x_iav (pc' := 919) (v := sx.2 (w32 (l3 + 2))) rfl (ld_sx q2) rfl ?_
  refine x_al (pc' := 920) rfl rfl (by decide) rfl ?_
  refine x_il (pc' := 921) rfl rfl rfl ?_
  refine x_c (pc' := 922) rfl rfl ?_
  refine x_ib (pc' := 923) (v := w32 (l3 + 3)) rfl rfl rfl ?_
  obtain ⟨q3, h⟩ := h
  refine x_iav (pc' := 924) (v := sx.2 (w32 (l3 + 3))) rfl (ld_sx q3) rfl ?_
  obtain ⟨v5, M6, q4, h⟩ := h
  refine x_call (pc' := 925) (as := [(2, 0), (0, sx.2 (w32 (l3 + 1))), (0, sx.2 (w32 (l3 + 2))), (0, sx.2 (w32 (l3 + 3)))]) (rest := []) rfl rfl rfl rfl rfl rfl q4 ?_
  refine x_al (pc' := 926) rfl rfl (by decide) rfl ?_
  refine x_al (pc' := 927) rfl rfl (by decide) rfl ?_
  refine x_il (pc' := 928) rfl rfl rfl ?_
  refine x_c (pc' := 929) rfl rfl ?_
  refine x_ib (pc' := 930) (v := w32 (l3 + 1)) rfl rfl rfl ?_
  obtain ⟨q7, h⟩ := h
  refine x_iav (pc' := 931) (v := sx.2 (w32 (l3 + 1))) rfl (ld_sx q7) rfl ?_
  refine x_al (pc' := 932) rfl rfl (by decide) rfl ?_
  refine x_il (pc' := 933) rfl rfl rfl ?_
  refine x_c (pc' := 934) rfl rfl ?_
  refine x_ib (pc' := 935) (v := w32 (l3 + 2)) rfl rfl rfl ?_
  obtain ⟨q8, h⟩ := h
  refine x_iav (pc' := 936) (v := sx.2 (w32 (l3 + 2))) rfl (ld_sx q8) rfl ?_
  refine x_al (pc' := 937) rfl rfl (by decide) rfl ?_
  refine x_il (pc' := 938) rfl rfl rfl ?_
  refine x_c (pc' := 939) rfl rfl ?_
  refine x_ib (pc' := 940) (v := w32 (l3 + 3)) rfl rfl rfl ?_
  obtain ⟨q9, h⟩ := h
  refine x_iav (pc' := 941) (v := sx.2 (w32 (l3 + 3))) rfl (ld_sx q9) rfl ?_
  obtain ⟨v11, M12, q10, h⟩ := h
  refine x_call (pc' := 942) (as := [(2, 64), (0, sx.2 (w32 (l3 + 1))), (0, sx.2 (w32 (l3 + 2))), (0, sx.2 (w32 (l3 + 3)))]) (rest := [(0, v5)]) rfl rfl rfl rfl rfl rfl q10 ?_
  refine x_iceq (pc' := 943) (t' := 1135) rfl rfl rfl (fun q13 => ?_) (fun q13 => ?_)
  · replace h := ite_t q13 h
    exact h
  · replace h := ite_f q13 h
    refine x_c (pc' := 944) rfl rfl ?_
    exact x_zret rfl (by decide) h
set_option maxRecDepth 20000 in
theorem sg_W_law_945 {sx : SX} {d : Nat} {l3 : Int} {M : Mem} {r : Res} (h : (0 ≤ w32 (l3 + 1) ∧ w32 (l3 + 1) < sx.1) ∧ (0 ≤ w32 (l3 + 2) ∧ w32 (l3 + 2) < sx.1) ∧ (0 ≤ w32 (l3 + 3) ∧ w32 (l3 + 3) < sx.1) ∧ (0 ≤ w32 (l3 + 4) ∧ w32 (l3 + 4) < sx.1) ∧ ∃ v6 M7, Cl d m_X_put [(2, 0), (0, sx.2 (w32 (l3 + 1))), (0, sx.2 (w32 (l3 + 2))), (1, lor (lshl (sx.2 (w32 (l3 + 3))) 32) (land (sx.2 (w32 (l3 + 4))) 4294967295))] M (some (0, v6), M7) ∧ (0 ≤ w32 (l3 + 1) ∧ w32 (l3 + 1) < sx.1) ∧ (0 ≤ w32 (l3 + 2) ∧ w32 (l3 + 2) < sx.1) ∧ (0 ≤ w32 (l3 + 3) ∧ w32 (l3 + 3) < sx.1) ∧ (0 ≤ w32 (l3 + 4) ∧ w32 (l3 + 4) < sx.1) ∧ ∃ v13 M14, Cl d m_M_put [(2, 64), (0, sx.2 (w32 (l3 + 1))), (0, sx.2 (w32 (l3 + 2))), (1, lor (lshl (sx.2 (w32 (l3 + 3))) 32) (land (sx.2 (w32 (l3 + 4))) 4294967295))] M7 (some (0, v13), M14) ∧ (if v6 = v13 then at_W_law_1135 sx d l3 M14 r else r = (some (0, 0), M14))) : at_W_law_945 sx d l3 M r := by
  unfold at_W_law_945
  refine x_al (pc' := 946) rfl rfl (by decide) rfl ?_
  refine x_al (pc' := 947) rfl rfl (by decide) rfl ?_
  refine x_il (pc' := 948) rfl rfl rfl ?_
  refine x_c (pc' := 949) rfl rfl ?_
  refine x_ib (pc' := 950) (v := w32 (l3 + 1)) rfl rfl rfl ?_
  obtain ⟨q1, h⟩ := h
  refine x_iav (pc' := 951) (v := sx.2 (w32 (l3 + 1))) rfl (ld_sx q1) rfl ?_
  refine x_al (pc' := 952) rfl rfl (by decide) rfl ?_
  refine x_il (pc' := 953) rfl rfl rfl ?_
  refine x_c (pc' := 954) rfl rfl ?_
  refine x_ib (pc' := 955) (v := w32 (l3 + 2)) rfl rfl rfl ?_
  obtain ⟨q2, h⟩ := h
  refine x_iav (pc' := 956) (v := sx.2 (w32 (l3 + 2))) rfl (ld_sx q2) rfl ?_
  refine x_al (pc' := 957) rfl rfl (by decide) rfl ?_
  refine x_il (pc' := 958) rfl rfl rfl ?_
  refine x_c (pc' := 959) rfl rfl ?_
  refine x_ib (pc' := 960) (v := w32 (l3 + 3)) rfl rfl rfl ?_
  obtain ⟨q3, h⟩ := h
  refine x_iav (pc' := 961) (v := sx.2 (w32 (l3 + 3))) rfl (ld_sx q3) rfl ?_
  refine x_i2l (pc' := 962) rfl rfl ?_
  refine x_c (pc' := 963) rfl rfl ?_
  refine x_lsh (pc' := 964) rfl rfl ?_
  refine x_al (pc' := 965) rfl rfl (by decide) rfl ?_
  refine x_il (pc' := 966) rfl rfl rfl ?_
  refine x_c (pc' := 967) rfl rfl ?_
  refine x_ib (pc' := 968) (v := w32 (l3 + 4)) rfl rfl rfl ?_
  obtain ⟨q4, h⟩ := h
  refine x_iav (pc' := 969) (v := sx.2 (w32 (l3 + 4))) rfl (ld_sx q4) rfl ?_
  refine x_i2l (pc' := 970) rfl rfl ?_
  refine x_lc (pc' := 971) rfl rfl ?_
  refine x_lb (pc' := 972) (v := land (sx.2 (w32 (l3 + 4))) 4294967295) rfl rfl rfl ?_
  refine x_lb (pc' := 973) (v := lor (lshl (sx.2 (w32 (l3 + 3))) 32) (land (sx.2 (w32 (l3 + 4))) 4294967295)) rfl rfl rfl ?_
  obtain ⟨v6, M7, q5, h⟩ := h
  refine x_call (pc' := 974) (as := [(2, 0), (0, sx.2 (w32 (l3 + 1))), (0, sx.2 (w32 (l3 + 2))), (1, lor (lshl (sx.2 (w32 (l3 + 3))) 32) (land (sx.2 (w32 (l3 + 4))) 4294967295))]) (rest := []) rfl rfl rfl rfl rfl rfl q5 ?_
  refine x_al (pc' := 975) rfl rfl (by decide) rfl ?_
  refine x_al (pc' := 976) rfl rfl (by decide) rfl ?_
  refine x_il (pc' := 977) rfl rfl rfl ?_
  refine x_c (pc' := 978) rfl rfl ?_
  refine x_ib (pc' := 979) (v := w32 (l3 + 1)) rfl rfl rfl ?_
  obtain ⟨q8, h⟩ := h
  refine x_iav (pc' := 980) (v := sx.2 (w32 (l3 + 1))) rfl (ld_sx q8) rfl ?_
  refine x_al (pc' := 981) rfl rfl (by decide) rfl ?_
  refine x_il (pc' := 982) rfl rfl rfl ?_
  refine x_c (pc' := 983) rfl rfl ?_
  refine x_ib (pc' := 984) (v := w32 (l3 + 2)) rfl rfl rfl ?_
  obtain ⟨q9, h⟩ := h
  refine x_iav (pc' := 985) (v := sx.2 (w32 (l3 + 2))) rfl (ld_sx q9) rfl ?_
  refine x_al (pc' := 986) rfl rfl (by decide) rfl ?_
  refine x_il (pc' := 987) rfl rfl rfl ?_
  refine x_c (pc' := 988) rfl rfl ?_
  refine x_ib (pc' := 989) (v := w32 (l3 + 3)) rfl rfl rfl ?_
  obtain ⟨q10, h⟩ := h
  refine x_iav (pc' := 990) (v := sx.2 (w32 (l3 + 3))) rfl (ld_sx q10) rfl ?_
  refine x_i2l (pc' := 991) rfl rfl ?_
  refine x_c (pc' := 992) rfl rfl ?_
  refine x_lsh (pc' := 993) rfl rfl ?_
  refine x_al (pc' := 994) rfl rfl (by decide) rfl ?_
  refine x_il (pc' := 995) rfl rfl rfl ?_
  refine x_c (pc' := 996) rfl rfl ?_
  refine x_ib (pc' := 997) (v := w32 (l3 + 4)) rfl rfl rfl ?_
  obtain ⟨q11, h⟩ := h
  refine x_iav (pc' := 998) (v := sx.2 (w32 (l3 + 4))) rfl (ld_sx q11) rfl ?_
  refine x_i2l (pc' := 999) rfl rfl ?_
  refine x_lc (pc' := 1000) rfl rfl ?_
  refine x_lb (pc' := 1001) (v := land (sx.2 (w32 (l3 + 4))) 4294967295) rfl rfl rfl ?_
  refine x_lb (pc' := 1002) (v := lor (lshl (sx.2 (w32 (l3 + 3))) 32) (land (sx.2 (w32 (l3 + 4))) 4294967295)) rfl rfl rfl ?_
  obtain ⟨v13, M14, q12, h⟩ := h
  refine x_call (pc' := 1003) (as := [(2, 64), (0, sx.2 (w32 (l3 + 1))), (0, sx.2 (w32 (l3 + 2))), (1, lor (lshl (sx.2 (w32 (l3 + 3))) 32) (land (sx.2 (w32 (l3 + 4))) 4294967295))]) (rest := [(0, v6)]) rfl rfl rfl rfl rfl rfl q12 ?_
  refine x_iceq (pc' := 1004) (t' := 1135) rfl rfl rfl (fun q15 => ?_) (fun q15 => ?_)
  · replace h := ite_t q15 h
    exact h
  · replace h := ite_f q15 h
    refine x_c (pc' := 1005) rfl rfl ?_
    exact x_zret rfl (by decide) h
set_option maxRecDepth 20000 in
theorem sg_W_law_1006 {sx : SX} {d : Nat} {l3 : Int} {M : Mem} {r : Res} (h : (0 ≤ w32 (l3 + 1) ∧ w32 (l3 + 1) < sx.1) ∧ (0 ≤ w32 (l3 + 2) ∧ w32 (l3 + 2) < sx.1) ∧ ∃ v4, Cl d m_X_element [(2, 0), (0, sx.2 (w32 (l3 + 1))), (0, sx.2 (w32 (l3 + 2)))] M (some (1, v4), M) ∧ (0 ≤ w32 (l3 + 1) ∧ w32 (l3 + 1) < sx.1) ∧ (0 ≤ w32 (l3 + 2) ∧ w32 (l3 + 2) < sx.1) ∧ ∃ v8, Cl d m_M_element [(2, 64), (0, sx.2 (w32 (l3 + 1))), (0, sx.2 (w32 (l3 + 2)))] M (some (1, v8), M) ∧ (if lcmpI v4 v8 = 0 then at_W_law_1135 sx d l3 M r else r = (some (0, 0), M))) : at_W_law_1006 sx d l3 M r := by
  unfold at_W_law_1006
  refine x_al (pc' := 1007) rfl rfl (by decide) rfl ?_
  refine x_al (pc' := 1008) rfl rfl (by decide) rfl ?_
  refine x_il (pc' := 1009) rfl rfl rfl ?_
  refine x_c (pc' := 1010) rfl rfl ?_
  refine x_ib (pc' := 1011) (v := w32 (l3 + 1)) rfl rfl rfl ?_
  obtain ⟨q1, h⟩ := h
  refine x_iav (pc' := 1012) (v := sx.2 (w32 (l3 + 1))) rfl (ld_sx q1) rfl ?_
  refine x_al (pc' := 1013) rfl rfl (by decide) rfl ?_
  refine x_il (pc' := 1014) rfl rfl rfl ?_
  refine x_c (pc' := 1015) rfl rfl ?_
  refine x_ib (pc' := 1016) (v := w32 (l3 + 2)) rfl rfl rfl ?_
  obtain ⟨q2, h⟩ := h
  refine x_iav (pc' := 1017) (v := sx.2 (w32 (l3 + 2))) rfl (ld_sx q2) rfl ?_
  obtain ⟨v4, q3, h⟩ := h
  refine x_call (pc' := 1018) (as := [(2, 0), (0, sx.2 (w32 (l3 + 1))), (0, sx.2 (w32 (l3 + 2)))]) (rest := []) rfl rfl rfl rfl rfl rfl q3 ?_
  refine x_al (pc' := 1019) rfl rfl (by decide) rfl ?_
  refine x_al (pc' := 1020) rfl rfl (by decide) rfl ?_
  refine x_il (pc' := 1021) rfl rfl rfl ?_
  refine x_c (pc' := 1022) rfl rfl ?_
  refine x_ib (pc' := 1023) (v := w32 (l3 + 1)) rfl rfl rfl ?_
  obtain ⟨q5, h⟩ := h
  refine x_iav (pc' := 1024) (v := sx.2 (w32 (l3 + 1))) rfl (ld_sx q5) rfl ?_
  refine x_al (pc' := 1025) rfl rfl (by decide) rfl ?_
  refine x_il (pc' := 1026) rfl rfl rfl ?_
  refine x_c (pc' := 1027) rfl rfl ?_
  refine x_ib (pc' := 1028) (v := w32 (l3 + 2)) rfl rfl rfl ?_
  obtain ⟨q6, h⟩ := h
  refine x_iav (pc' := 1029) (v := sx.2 (w32 (l3 + 2))) rfl (ld_sx q6) rfl ?_
  obtain ⟨v8, q7, h⟩ := h
  refine x_call (pc' := 1030) (as := [(2, 64), (0, sx.2 (w32 (l3 + 1))), (0, sx.2 (w32 (l3 + 2)))]) (rest := [(1, v4)]) rfl rfl rfl rfl rfl rfl q7 ?_
  refine x_lcmp (pc' := 1031) rfl rfl ?_
  refine x_ifeq (pc' := 1032) (t' := 1135) rfl rfl rfl (fun q9 => ?_) (fun q9 => ?_)
  · replace h := ite_t q9 h
    exact h
  · replace h := ite_f q9 h
    refine x_c (pc' := 1033) rfl rfl ?_
    exact x_zret rfl (by decide) h
set_option maxRecDepth 20000 in
theorem sg_W_law_1034 {sx : SX} {d : Nat} {l3 : Int} {M : Mem} {r : Res} (h : (0 ≤ w32 (l3 + 1) ∧ w32 (l3 + 1) < sx.1) ∧ (0 ≤ w32 (l3 + 2) ∧ w32 (l3 + 2) < sx.1) ∧ (0 ≤ w32 (l3 + 3) ∧ w32 (l3 + 3) < sx.1) ∧ (0 ≤ w32 (l3 + 4) ∧ w32 (l3 + 4) < sx.1) ∧ (0 ≤ w32 (l3 + 5) ∧ w32 (l3 + 5) < sx.1) ∧ ∃ v7 M8, Cl d m_X_shift [(2, 0), (0, sx.2 (w32 (l3 + 1))), (0, sx.2 (w32 (l3 + 2))), (0, sx.2 (w32 (l3 + 3))), (0, sx.2 (w32 (l3 + 4))), (0, sx.2 (w32 (l3 + 5)))] M (some (0, v7), M8) ∧ (0 ≤ w32 (l3 + 1) ∧ w32 (l3 + 1) < sx.1) ∧ (0 ≤ w32 (l3 + 2) ∧ w32 (l3 + 2) < sx.1) ∧ (0 ≤ w32 (l3 + 3) ∧ w32 (l3 + 3) < sx.1) ∧ (0 ≤ w32 (l3 + 4) ∧ w32 (l3 + 4) < sx.1) ∧ (0 ≤ w32 (l3 + 5) ∧ w32 (l3 + 5) < sx.1) ∧ ∃ v15 M16, Cl d m_M_shift [(2, 64), (0, sx.2 (w32 (l3 + 1))), (0, sx.2 (w32 (l3 + 2))), (0, sx.2 (w32 (l3 + 3))), (0, sx.2 (w32 (l3 + 4))), (0, sx.2 (w32 (l3 + 5)))] M8 (some (0, v15), M16) ∧ (if v7 = v15 then at_W_law_1135 sx d l3 M16 r else r = (some (0, 0), M16))) : at_W_law_1034 sx d l3 M r := by
  unfold at_W_law_1034
  refine x_al (pc' := 1035) rfl rfl (by decide) rfl ?_
  refine x_al (pc' := 1036) rfl rfl (by decide) rfl ?_
  refine x_il (pc' := 1037) rfl rfl rfl ?_
  refine x_c (pc' := 1038) rfl rfl ?_
  refine x_ib (pc' := 1039) (v := w32 (l3 + 1)) rfl rfl rfl ?_
  obtain ⟨q1, h⟩ := h
  refine x_iav (pc' := 1040) (v := sx.2 (w32 (l3 + 1))) rfl (ld_sx q1) rfl ?_
  refine x_al (pc' := 1041) rfl rfl (by decide) rfl ?_
  refine x_il (pc' := 1042) rfl rfl rfl ?_
  refine x_c (pc' := 1043) rfl rfl ?_
  refine x_ib (pc' := 1044) (v := w32 (l3 + 2)) rfl rfl rfl ?_
  obtain ⟨q2, h⟩ := h
  refine x_iav (pc' := 1045) (v := sx.2 (w32 (l3 + 2))) rfl (ld_sx q2) rfl ?_
  refine x_al (pc' := 1046) rfl rfl (by decide) rfl ?_
  refine x_il (pc' := 1047) rfl rfl rfl ?_
  refine x_c (pc' := 1048) rfl rfl ?_
  refine x_ib (pc' := 1049) (v := w32 (l3 + 3)) rfl rfl rfl ?_
  obtain ⟨q3, h⟩ := h
  refine x_iav (pc' := 1050) (v := sx.2 (w32 (l3 + 3))) rfl (ld_sx q3) rfl ?_
  refine x_al (pc' := 1051) rfl rfl (by decide) rfl ?_
  refine x_il (pc' := 1052) rfl rfl rfl ?_
  refine x_c (pc' := 1053) rfl rfl ?_
  refine x_ib (pc' := 1054) (v := w32 (l3 + 4)) rfl rfl rfl ?_
  obtain ⟨q4, h⟩ := h
  refine x_iav (pc' := 1055) (v := sx.2 (w32 (l3 + 4))) rfl (ld_sx q4) rfl ?_
  refine x_al (pc' := 1056) rfl rfl (by decide) rfl ?_
  refine x_il (pc' := 1057) rfl rfl rfl ?_
  refine x_c (pc' := 1058) rfl rfl ?_
  refine x_ib (pc' := 1059) (v := w32 (l3 + 5)) rfl rfl rfl ?_
  obtain ⟨q5, h⟩ := h
  refine x_iav (pc' := 1060) (v := sx.2 (w32 (l3 + 5))) rfl (ld_sx q5) rfl ?_
  obtain ⟨v7, M8, q6, h⟩ := h
  refine x_call (pc' := 1061) (as := [(2, 0), (0, sx.2 (w32 (l3 + 1))), (0, sx.2 (w32 (l3 + 2))), (0, sx.2 (w32 (l3 + 3))), (0, sx.2 (w32 (l3 + 4))), (0, sx.2 (w32 (l3 + 5)))]) (rest := []) rfl rfl rfl rfl rfl rfl q6 ?_
  refine x_al (pc' := 1062) rfl rfl (by decide) rfl ?_
  refine x_al (pc' := 1063) rfl rfl (by decide) rfl ?_
  refine x_il (pc' := 1064) rfl rfl rfl ?_
  refine x_c (pc' := 1065) rfl rfl ?_
  refine x_ib (pc' := 1066) (v := w32 (l3 + 1)) rfl rfl rfl ?_
  obtain ⟨q9, h⟩ := h
  refine x_iav (pc' := 1067) (v := sx.2 (w32 (l3 + 1))) rfl (ld_sx q9) rfl ?_
  refine x_al (pc' := 1068) rfl rfl (by decide) rfl ?_
  refine x_il (pc' := 1069) rfl rfl rfl ?_
  refine x_c (pc' := 1070) rfl rfl ?_
  refine x_ib (pc' := 1071) (v := w32 (l3 + 2)) rfl rfl rfl ?_
  obtain ⟨q10, h⟩ := h
  refine x_iav (pc' := 1072) (v := sx.2 (w32 (l3 + 2))) rfl (ld_sx q10) rfl ?_
  refine x_al (pc' := 1073) rfl rfl (by decide) rfl ?_
  refine x_il (pc' := 1074) rfl rfl rfl ?_
  refine x_c (pc' := 1075) rfl rfl ?_
  refine x_ib (pc' := 1076) (v := w32 (l3 + 3)) rfl rfl rfl ?_
  obtain ⟨q11, h⟩ := h
  refine x_iav (pc' := 1077) (v := sx.2 (w32 (l3 + 3))) rfl (ld_sx q11) rfl ?_
  refine x_al (pc' := 1078) rfl rfl (by decide) rfl ?_
  refine x_il (pc' := 1079) rfl rfl rfl ?_
  refine x_c (pc' := 1080) rfl rfl ?_
  refine x_ib (pc' := 1081) (v := w32 (l3 + 4)) rfl rfl rfl ?_
  obtain ⟨q12, h⟩ := h
  refine x_iav (pc' := 1082) (v := sx.2 (w32 (l3 + 4))) rfl (ld_sx q12) rfl ?_
  refine x_al (pc' := 1083) rfl rfl (by decide) rfl ?_
  refine x_il (pc' := 1084) rfl rfl rfl ?_
  refine x_c (pc' := 1085) rfl rfl ?_
  refine x_ib (pc' := 1086) (v := w32 (l3 + 5)) rfl rfl rfl ?_
  obtain ⟨q13, h⟩ := h
  refine x_iav (pc' := 1087) (v := sx.2 (w32 (l3 + 5))) rfl (ld_sx q13) rfl ?_
  obtain ⟨v15, M16, q14, h⟩ := h
  refine x_call (pc' := 1088) (as := [(2, 64), (0, sx.2 (w32 (l3 + 1))), (0, sx.2 (w32 (l3 + 2))), (0, sx.2 (w32 (l3 + 3))), (0, sx.2 (w32 (l3 + 4))), (0, sx.2 (w32 (l3 + 5)))]) (rest := [(0, v7)]) rfl rfl rfl rfl rfl rfl q14 ?_
  refine x_iceq (pc' := 1089) (t' := 1135) rfl rfl rfl (fun q17 => ?_) (fun q17 => ?_)
  · replace h := ite_t q17 h
    exact h
  · replace h := ite_f q17 h
    refine x_c (pc' := 1090) rfl rfl ?_
    exact x_zret rfl (by decide) h
set_option maxRecDepth 20000 in
theorem sg_W_law_1091 {sx : SX} {d : Nat} {l3 : Int} {M : Mem} {r : Res} (h : (0 ≤ w32 (l3 + 1) ∧ w32 (l3 + 1) < sx.1) ∧ (0 ≤ w32 (l3 + 2) ∧ w32 (l3 + 2) < sx.1) ∧ ∃ v4, Cl d m_X_taken [(2, 0), (0, sx.2 (w32 (l3 + 1))), (0, sx.2 (w32 (l3 + 2)))] M (some (0, v4), M) ∧ (0 ≤ w32 (l3 + 1) ∧ w32 (l3 + 1) < sx.1) ∧ (0 ≤ w32 (l3 + 2) ∧ w32 (l3 + 2) < sx.1) ∧ ∃ v8, Cl d m_M_taken [(2, 64), (0, sx.2 (w32 (l3 + 1))), (0, sx.2 (w32 (l3 + 2)))] M (some (0, v8), M) ∧ (if v4 = v8 then at_W_law_1135 sx d l3 M r else r = (some (0, 0), M))) : at_W_law_1091 sx d l3 M r := by
  unfold at_W_law_1091
  refine x_al (pc' := 1092) rfl rfl (by decide) rfl ?_
  refine x_al (pc' := 1093) rfl rfl (by decide) rfl ?_
  refine x_il (pc' := 1094) rfl rfl rfl ?_
  refine x_c (pc' := 1095) rfl rfl ?_
  refine x_ib (pc' := 1096) (v := w32 (l3 + 1)) rfl rfl rfl ?_
  obtain ⟨q1, h⟩ := h
  refine x_iav (pc' := 1097) (v := sx.2 (w32 (l3 + 1))) rfl (ld_sx q1) rfl ?_
  refine x_al (pc' := 1098) rfl rfl (by decide) rfl ?_
  refine x_il (pc' := 1099) rfl rfl rfl ?_
  refine x_c (pc' := 1100) rfl rfl ?_
  refine x_ib (pc' := 1101) (v := w32 (l3 + 2)) rfl rfl rfl ?_
  obtain ⟨q2, h⟩ := h
  refine x_iav (pc' := 1102) (v := sx.2 (w32 (l3 + 2))) rfl (ld_sx q2) rfl ?_
  obtain ⟨v4, q3, h⟩ := h
  refine x_call (pc' := 1103) (as := [(2, 0), (0, sx.2 (w32 (l3 + 1))), (0, sx.2 (w32 (l3 + 2)))]) (rest := []) rfl rfl rfl rfl rfl rfl q3 ?_
  refine x_al (pc' := 1104) rfl rfl (by decide) rfl ?_
  refine x_al (pc' := 1105) rfl rfl (by decide) rfl ?_
  refine x_il (pc' := 1106) rfl rfl rfl ?_
  refine x_c (pc' := 1107) rfl rfl ?_
  refine x_ib (pc' := 1108) (v := w32 (l3 + 1)) rfl rfl rfl ?_
  obtain ⟨q5, h⟩ := h
  refine x_iav (pc' := 1109) (v := sx.2 (w32 (l3 + 1))) rfl (ld_sx q5) rfl ?_
  refine x_al (pc' := 1110) rfl rfl (by decide) rfl ?_
  refine x_il (pc' := 1111) rfl rfl rfl ?_
  refine x_c (pc' := 1112) rfl rfl ?_
  refine x_ib (pc' := 1113) (v := w32 (l3 + 2)) rfl rfl rfl ?_
  obtain ⟨q6, h⟩ := h
  refine x_iav (pc' := 1114) (v := sx.2 (w32 (l3 + 2))) rfl (ld_sx q6) rfl ?_
  obtain ⟨v8, q7, h⟩ := h
  refine x_call (pc' := 1115) (as := [(2, 64), (0, sx.2 (w32 (l3 + 1))), (0, sx.2 (w32 (l3 + 2)))]) (rest := [(0, v4)]) rfl rfl rfl rfl rfl rfl q7 ?_
  refine x_iceq (pc' := 1116) (t' := 1135) rfl rfl rfl (fun q9 => ?_) (fun q9 => ?_)
  · replace h := ite_t q9 h
    exact h
  · replace h := ite_f q9 h
    refine x_c (pc' := 1117) rfl rfl ?_
    exact x_zret rfl (by decide) h
set_option maxRecDepth 20000 in
theorem sg_W_law_1118 {sx : SX} {d : Nat} {l3 : Int} {M : Mem} {r : Res} (h : (0 ≤ w32 (l3 + 1) ∧ w32 (l3 + 1) < sx.1) ∧ ∃ v3, Cl d m_X_count [(2, 0), (0, sx.2 (w32 (l3 + 1)))] M (some (0, v3), M) ∧ (0 ≤ w32 (l3 + 1) ∧ w32 (l3 + 1) < sx.1) ∧ ∃ v6, Cl d m_M_count [(2, 64), (0, sx.2 (w32 (l3 + 1)))] M (some (0, v6), M) ∧ (if v3 = v6 then at_W_law_1135 sx d l3 M r else r = (some (0, 0), M))) : at_W_law_1118 sx d l3 M r := by
  unfold at_W_law_1118
  refine x_al (pc' := 1119) rfl rfl (by decide) rfl ?_
  refine x_al (pc' := 1120) rfl rfl (by decide) rfl ?_
  refine x_il (pc' := 1121) rfl rfl rfl ?_
  refine x_c (pc' := 1122) rfl rfl ?_
  refine x_ib (pc' := 1123) (v := w32 (l3 + 1)) rfl rfl rfl ?_
  obtain ⟨q1, h⟩ := h
  refine x_iav (pc' := 1124) (v := sx.2 (w32 (l3 + 1))) rfl (ld_sx q1) rfl ?_
  obtain ⟨v3, q2, h⟩ := h
  refine x_call (pc' := 1125) (as := [(2, 0), (0, sx.2 (w32 (l3 + 1)))]) (rest := []) rfl rfl rfl rfl rfl rfl q2 ?_
  refine x_al (pc' := 1126) rfl rfl (by decide) rfl ?_
  refine x_al (pc' := 1127) rfl rfl (by decide) rfl ?_
  refine x_il (pc' := 1128) rfl rfl rfl ?_
  refine x_c (pc' := 1129) rfl rfl ?_
  refine x_ib (pc' := 1130) (v := w32 (l3 + 1)) rfl rfl rfl ?_
  obtain ⟨q4, h⟩ := h
  refine x_iav (pc' := 1131) (v := sx.2 (w32 (l3 + 1))) rfl (ld_sx q4) rfl ?_
  obtain ⟨v6, q5, h⟩ := h
  refine x_call (pc' := 1132) (as := [(2, 64), (0, sx.2 (w32 (l3 + 1)))]) (rest := [(0, v3)]) rfl rfl rfl rfl rfl rfl q5 ?_
  refine x_iceq (pc' := 1133) (t' := 1135) rfl rfl rfl (fun q7 => ?_) (fun q7 => ?_)
  · replace h := ite_t q7 h
    exact h
  · replace h := ite_f q7 h
    refine x_c (pc' := 1134) rfl rfl ?_
    exact x_zret rfl (by decide) h
set_option maxRecDepth 20000 in
theorem sg_W_law_1135 {sx : SX} {d : Nat} {l3 : Int} {M : Mem} {r : Res} (h : at_W_law_10 sx d (w32 (l3 + 6)) M r) : at_W_law_1135 sx d l3 M r := by
  unfold at_W_law_1135
  refine x_inc (pc' := 1136) (ls' := [(2, 93), (2, 0), (2, 64), (0, w32 (l3 + 6))]) rfl rfl rfl rfl ?_
  refine x_goto (t' := 10) rfl rfl ?_
  exact h
