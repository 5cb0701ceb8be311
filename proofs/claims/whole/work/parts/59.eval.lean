/-! the law worked out: codes on a stack, by class and model -/
def opu (c b : Int) : Int := if c = -33 then (if ¬ b = 0 then 0 else 1) else w32 (-b)
def opv (c a b : Int) : Int :=
  if c = -124 then (if ¬ a = 0 then 1 else if b = 0 then 0 else 1) else if c = -38 then (if a = 0 then 0 else if b = 0 then 0 else 1)
  else if c = -60 then (if b ≤ a then 0 else 1) else if c = -61 then (if ¬ a = b then 0 else 1) else if c = -62 then (if a ≤ b then 0 else 1)
  else if c = -43 then w32 (a + b) else if c = -45 then w32 (a - b) else if c = -42 then w32 (a * b)
  else if c = -47 then (if ¬ b = 0 then w32 (Int.tdiv a b) else 0) else (if ¬ b = 0 then w32 (Int.tmod a b) else 0)
/-- codes worked out: the stack, top first -/
def ev (env : Int → Int) : List Int → List Int → List Int
  | [], st => st
  | c :: cs, st => if -6 ≤ c then ev env cs ((if 0 ≤ c then c else env (-c - 1)) :: st) else if c = -33 ∨ c = -126 then (match st with
      | b :: r => ev env cs (opu c b :: r)
      | [] => []) else (match st with
      | b :: a :: r => ev env cs (opv c a b :: r)
      | _ => [])
def SK (g : Int → Int) : List Int → Prop
  | [] => True
  | x :: r => g r.length = x ∧ SK g r
theorem SK_congr {g g' : Int → Int} : ∀ {st : List Int}, (∀ i : Int, 0 ≤ i → i < st.length → g' i = g i) → SK g st → SK g' st
  | [], _, _ => trivial
  | x :: r, h, ⟨a, b⟩ => ⟨(h r.length (by omega) (by simp; omega)).trans a, SK_congr (fun i i0 i1 => h i i0 (by simp; omega)) b⟩
theorem ev_len (env : Int → Int) : ∀ (cs st : List Int) (h : Nat), hg cs st.length = some h → (ev env cs st).length = h
  | [], st, h, e => by cases e; rfl
  | c :: cs, st, h, e => by
    unfold hg at e
    unfold ev
    by_cases q : -6 ≤ c ∧ c ≤ 9999
    · rw [if_pos q] at e
      rw [if_pos q.1]
      exact ev_len env cs _ h e
    · rw [if_neg q] at e
      by_cases u : c = -33 ∨ c = -126
      · rw [if_pos u] at e
        rw [if_neg (by omega), if_pos u]
        cases st with
        | nil => simp at e
        | cons b r =>
          rw [if_pos (by simp)] at e
          exact ev_len env cs _ h e
      · rw [if_neg u] at e
        by_cases v : bop c
        · rw [if_pos v] at e
          have n6 : ¬ -6 ≤ c := by unfold bop at v; omega
          rw [if_neg n6, if_neg u]
          cases st with
          | nil => simp at e
          | cons b r =>
            cases r with
            | nil => simp at e
            | cons a r =>
              rw [if_pos (by simp)] at e
              exact ev_len env cs _ h e
        · rw [if_neg v] at e
          cases e
section P43
variable {M N : Mem} {a b c x y v : Int} {d : Nat} {r : Res} {env : Int → Int}
theorem dv {q : Prop} [Decidable q] : if q then q ∧ rI (if q then x else y) M = (some (0, x), M) else rI (if q then x else y) M = (some (0, y), M) := by
  by_cases h : q
  · rw [if_pos h, if_pos h]; exact ⟨h, rfl⟩
  · rw [if_neg h, if_neg h]
theorem c_L_worked2 (h : bop c) (hd : 1 ≤ d) : Cl d m_L_worked [(0, w32 (-c)), (0, a), (0, b)] M (rI (opv c a b) M) := by
  unfold bop at h
  refine (sg_L_worked (d := 0) ?_).mono hd
  unfold opv
  rcases h with rfl | rfl | rfl | rfl | rfl | rfl | rfl | rfl | rfl | rfl
  · rw [show w32 (-(-124)) = 124 by decide +kernel]
    simp only [show ¬ (124 : Int) = 33 by decide, show ¬ (124 : Int) = 37 by decide, show ¬ (124 : Int) = 38 by decide, show ¬ (124 : Int) = 42 by decide, show ¬ (124 : Int) = 43 by decide, show ¬ (124 : Int) = 45 by decide, show ¬ (124 : Int) = 47 by decide, show ¬ (124 : Int) = 60 by decide, show ¬ (124 : Int) = 61 by decide, show ¬ (124 : Int) = 62 by decide, if_false, if_true]
    repeat' split
    all_goals rfl
  · rw [show w32 (-(-38)) = 38 by decide +kernel]
    simp only [show ¬ (38 : Int) = 33 by decide, show ¬ (38 : Int) = 37 by decide, show ¬ (-38 : Int) = -124 by decide, if_false, if_true]
    repeat' split
    all_goals rfl
  · rw [show w32 (-(-60)) = 60 by decide +kernel]
    simp only [show ¬ (60 : Int) = 33 by decide, show ¬ (60 : Int) = 37 by decide, show ¬ (60 : Int) = 38 by decide, show ¬ (60 : Int) = 42 by decide, show ¬ (60 : Int) = 43 by decide, show ¬ (60 : Int) = 45 by decide, show ¬ (60 : Int) = 47 by decide, show ¬ (-60 : Int) = -124 by decide, show ¬ (-60 : Int) = -38 by decide, if_false, if_true]
    repeat' split
    all_goals rfl
  · rw [show w32 (-(-61)) = 61 by decide +kernel]
    simp only [show ¬ (61 : Int) = 33 by decide, show ¬ (61 : Int) = 37 by decide, show ¬ (61 : Int) = 38 by decide, show ¬ (61 : Int) = 42 by decide, show ¬ (61 : Int) = 43 by decide, show ¬ (61 : Int) = 45 by decide, show ¬ (61 : Int) = 47 by decide, show ¬ (61 : Int) = 60 by decide, show ¬ (-61 : Int) = -124 by decide, show ¬ (-61 : Int) = -38 by decide, show ¬ (-61 : Int) = -60 by decide, if_false, if_true]
    repeat' split
    all_goals rfl
  · rw [show w32 (-(-62)) = 62 by decide +kernel]
    simp only [show ¬ (62 : Int) = 33 by decide, show ¬ (62 : Int) = 37 by decide, show ¬ (62 : Int) = 38 by decide, show ¬ (62 : Int) = 42 by decide, show ¬ (62 : Int) = 43 by decide, show ¬ (62 : Int) = 45 by decide, show ¬ (62 : Int) = 47 by decide, show ¬ (62 : Int) = 60 by decide, show ¬ (62 : Int) = 61 by decide, show ¬ (-62 : Int) = -124 by decide, show ¬ (-62 : Int) = -38 by decide, show ¬ (-62 : Int) = -60 by decide, show ¬ (-62 : Int) = -61 by decide, if_false, if_true]
    repeat' split
    all_goals rfl
  · rw [show w32 (-(-43)) = 43 by decide +kernel]
    rw [if_neg (by decide), if_neg (by decide), if_neg (by decide), if_neg (by decide), if_pos rfl, if_neg (by decide), if_neg (by decide), if_neg (by decide), if_neg (by decide), if_neg (by decide), if_pos rfl]
  · rw [show w32 (-(-45)) = 45 by decide +kernel]
    rw [if_neg (by decide), if_neg (by decide), if_neg (by decide), if_neg (by decide), if_neg (by decide), if_pos rfl, if_neg (by decide), if_neg (by decide), if_neg (by decide), if_neg (by decide), if_neg (by decide), if_neg (by decide), if_pos rfl]
  · rw [show w32 (-(-42)) = 42 by decide +kernel]
    rw [if_neg (by decide), if_neg (by decide), if_neg (by decide), if_pos rfl, if_neg (by decide), if_neg (by decide), if_neg (by decide), if_neg (by decide), if_neg (by decide), if_neg (by decide), if_neg (by decide), if_pos rfl]
  · rw [show w32 (-(-47)) = 47 by decide +kernel]
    simp only [show ¬ (47 : Int) = 33 by decide, show ¬ (47 : Int) = 37 by decide, show ¬ (47 : Int) = 38 by decide, show ¬ (47 : Int) = 42 by decide, show ¬ (47 : Int) = 43 by decide, show ¬ (47 : Int) = 45 by decide, show ¬ (-47 : Int) = -124 by decide, show ¬ (-47 : Int) = -38 by decide, show ¬ (-47 : Int) = -60 by decide, show ¬ (-47 : Int) = -61 by decide, show ¬ (-47 : Int) = -62 by decide, show ¬ (-47 : Int) = -43 by decide, show ¬ (-47 : Int) = -45 by decide, show ¬ (-47 : Int) = -42 by decide, if_false, if_true]
    exact dv
  · rw [show w32 (-(-37)) = 37 by decide +kernel]
    simp only [show ¬ (37 : Int) = 33 by decide, show ¬ (-37 : Int) = -124 by decide, show ¬ (-37 : Int) = -38 by decide, show ¬ (-37 : Int) = -60 by decide, show ¬ (-37 : Int) = -61 by decide, show ¬ (-37 : Int) = -62 by decide, show ¬ (-37 : Int) = -43 by decide, show ¬ (-37 : Int) = -45 by decide, show ¬ (-37 : Int) = -42 by decide, show ¬ (-37 : Int) = -47 by decide, if_false, if_true]
    exact dv
theorem c_L_worked1 (h : c = -33 ∨ c = -126) (hd : 1 ≤ d) : Cl d m_L_worked [(0, w32 (-c)), (0, a), (0, b)] M (rI (opu c b) M) := by
  refine (sg_L_worked (d := 0) ?_).mono hd
  unfold opu
  rcases h with rfl | rfl
  · rw [show w32 (-(-33)) = 33 by decide +kernel, if_pos rfl, if_pos rfl]
    refine ite_i (fun q => ?_) (fun q => ?_)
    · rw [if_pos q]
    · rw [if_neg q]
  · rw [show w32 (-(-126)) = 126 by decide +kernel]
    rw [if_neg (by decide), if_neg (by decide), if_neg (by decide), if_neg (by decide), if_neg (by decide), if_neg (by decide), if_neg (by decide), if_neg (by decide), if_neg (by decide), if_neg (by decide), if_neg (by decide), if_pos rfl, if_neg (by decide)]
theorem c_M_both (h : bop c) (hd : 1 ≤ d) : Cl d m_M_both [(0, phi c), (0, a), (0, b)] M (rI (opv c a b) M) := by
  unfold bop at h
  refine (sg_M_both (d := 0) ?_).mono hd
  unfold opv
  rcases h with rfl | rfl | rfl | rfl | rfl | rfl | rfl | rfl | rfl | rfl
  · rw [show phi (-124) = 6 by decide +kernel, if_pos rfl, if_pos rfl]
    repeat' split
    all_goals rfl
  · rw [show phi (-38) = 7 by decide +kernel]
    simp only [show ¬ (7 : Int) = 6 by decide, show ¬ (-38 : Int) = -124 by decide, if_false, if_true]
    repeat' split
    all_goals rfl
  · rw [show phi (-60) = 8 by decide +kernel]
    simp only [show ¬ (8 : Int) = 6 by decide, show ¬ (8 : Int) = 7 by decide, show ¬ (-60 : Int) = -124 by decide, show ¬ (-60 : Int) = -38 by decide, if_false, if_true]
    repeat' split
    all_goals rfl
  · rw [show phi (-61) = 9 by decide +kernel]
    simp only [show ¬ (9 : Int) = 6 by decide, show ¬ (9 : Int) = 7 by decide, show ¬ (9 : Int) = 8 by decide, show ¬ (-61 : Int) = -124 by decide, show ¬ (-61 : Int) = -38 by decide, show ¬ (-61 : Int) = -60 by decide, if_false, if_true]
    repeat' split
    all_goals rfl
  · rw [show phi (-62) = 10 by decide +kernel]
    simp only [show ¬ (10 : Int) = 6 by decide, show ¬ (10 : Int) = 7 by decide, show ¬ (10 : Int) = 8 by decide, show ¬ (10 : Int) = 9 by decide, show ¬ (-62 : Int) = -124 by decide, show ¬ (-62 : Int) = -38 by decide, show ¬ (-62 : Int) = -60 by decide, show ¬ (-62 : Int) = -61 by decide, if_false, if_true]
    repeat' split
    all_goals rfl
  · rw [show phi (-43) = 11 by decide +kernel]
    rw [if_neg (by decide), if_neg (by decide), if_neg (by decide), if_neg (by decide), if_neg (by decide), if_pos rfl, if_neg (by decide), if_neg (by decide), if_neg (by decide), if_neg (by decide), if_neg (by decide), if_pos rfl]
  · rw [show phi (-45) = 12 by decide +kernel]
    rw [if_neg (by decide), if_neg (by decide), if_neg (by decide), if_neg (by decide), if_neg (by decide), if_neg (by decide), if_pos rfl, if_neg (by decide), if_neg (by decide), if_neg (by decide), if_neg (by decide), if_neg (by decide), if_neg (by decide), if_pos rfl]
  · rw [show phi (-42) = 13 by decide +kernel]
    rw [if_neg (by decide), if_neg (by decide), if_neg (by decide), if_neg (by decide), if_neg (by decide), if_neg (by decide), if_neg (by decide), if_pos rfl, if_neg (by decide), if_neg (by decide), if_neg (by decide), if_neg (by decide), if_neg (by decide), if_neg (by decide), if_neg (by decide), if_pos rfl]
  · rw [show phi (-47) = 14 by decide +kernel]
    simp only [show ¬ (14 : Int) = 6 by decide, show ¬ (14 : Int) = 7 by decide, show ¬ (14 : Int) = 8 by decide, show ¬ (14 : Int) = 9 by decide, show ¬ (14 : Int) = 10 by decide, show ¬ (14 : Int) = 11 by decide, show ¬ (14 : Int) = 12 by decide, show ¬ (14 : Int) = 13 by decide, show ¬ (-47 : Int) = -124 by decide, show ¬ (-47 : Int) = -38 by decide, show ¬ (-47 : Int) = -60 by decide, show ¬ (-47 : Int) = -61 by decide, show ¬ (-47 : Int) = -62 by decide, show ¬ (-47 : Int) = -43 by decide, show ¬ (-47 : Int) = -45 by decide, show ¬ (-47 : Int) = -42 by decide, if_false, if_true]
    exact dv
  · rw [show phi (-37) = 15 by decide +kernel]
    simp only [show ¬ (15 : Int) = 6 by decide, show ¬ (15 : Int) = 7 by decide, show ¬ (15 : Int) = 8 by decide, show ¬ (15 : Int) = 9 by decide, show ¬ (15 : Int) = 10 by decide, show ¬ (15 : Int) = 11 by decide, show ¬ (15 : Int) = 12 by decide, show ¬ (15 : Int) = 13 by decide, show ¬ (15 : Int) = 14 by decide, show ¬ (-37 : Int) = -124 by decide, show ¬ (-37 : Int) = -38 by decide, show ¬ (-37 : Int) = -60 by decide, show ¬ (-37 : Int) = -61 by decide, show ¬ (-37 : Int) = -62 by decide, show ¬ (-37 : Int) = -43 by decide, show ¬ (-37 : Int) = -45 by decide, show ¬ (-37 : Int) = -42 by decide, show ¬ (-37 : Int) = -47 by decide, if_false, if_true]
    exact dv
theorem c_L_push (h : M 31 10 = x) (x0 : 0 ≤ x) (x1 : x < 128) (hd : 1 ≤ d) : Cl d m_L_push [(2, 31), (0, v)] M (rV (up (up M 33 x v) 31 10 (x + 1))) := by
  refine (sg_L_push (d := 0) ?_).mono hd
  rw [h, up_n (b := 31) (a := 33) (by omega), h, w32_i (x := x + 1) (by omega) (by omega)]
  exact ite_i (fun t => absurd t (by omega)) (fun _ => ite_i (fun t => absurd t (by omega)) (fun _ => ⟨⟨x0, x1⟩, rfl⟩))
theorem c_L_pop (h : M 31 10 = x + 1) (x0 : 0 ≤ x) (x1 : x < 128) (hd : 1 ≤ d) : Cl d m_L_pop [(2, 31)] M (rI (M 33 x) (up M 31 10 x)) := by
  refine (sg_L_pop (d := 0) ?_).mono hd
  rw [h, w32_i (x := x + 1 - 1) (by omega) (by omega), show x + 1 - 1 = x by omega, up_eq, up_n (b := 33) (by omega)]
  exact ite_i (fun t => absurd t (by omega)) (fun _ => ite_i (fun _ => ⟨⟨x0, x1⟩, rfl⟩) (fun t => absurd (by omega) t))
end P43
