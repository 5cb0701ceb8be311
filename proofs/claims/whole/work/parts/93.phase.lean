/-! the two makings, by counting: what stands behind them -/
section P61
def ZM : Mem := fun _ _ => 0
def GOOD (M : Mem) : Bool := chkM M && decide (M 1 5 = 0) && decide (M 64 0 = 0) && decide (M 1 6 = M 64 4) && decide (0 ≤ M 64 4) && decide (M 64 4 ≤ 9) && decide (M 31 5 = 0) && decide (M 64 5 = 0) && decide (M 31 6 = 0) && decide (M 64 7 = 0) && decide (M 37 4 = 0) && decide (M 64 28 = 0) && decide (M 37 5 = 0) && decide (M 64 27 = 0) && (List.range 5).all (fun i => decide (M 43 (i : Int) = M 78 (i : Int))) && decide (M 42 4 = 0) && decide (M 64 23 = 0) && decide (M 46 2 = 0) && decide (M 64 30 = 0) && decide (M 46 3 = 0) && decide (M 64 32 = 0) && (List.range 6).all (fun i => decide (M 50 (i : Int) = 0) && decide (M 84 (i : Int) = -1)) && (List.range 12).all (fun i => decide (M 28 (i : Int) = 0) && decide (M 29 (i : Int) = 0))
def ph1B : Bool := match callD true 20 5000 0 [(2, 0)] (newM ZM 0 0) with
  | some (none, M3) => decide (M3 9999 0 = 64) && decide (0 ≤ M3 9999 1) && recvOK true (newM M3 7 64) (rcv 164) [(2, 64)] && (match callD true 20 5000 164 [(2, 64)] (newM M3 7 64) with
    | some (none, M8) => GOOD M8
    | _ => false)
  | _ => false
set_option maxRecDepth 1000000 in
theorem ph1B_ok : ph1B = true := by decide +kernel
theorem ph1_ok : ∃ M3 M8 : Mem, callD true 20 5000 0 [(2, 0)] (newM ZM 0 0) = some (none, M3) ∧ M3 9999 0 = 64 ∧ 0 ≤ M3 9999 1 ∧ recvOK true (newM M3 7 64) (rcv 164) [(2, 64)] = true ∧ callD true 20 5000 164 [(2, 64)] (newM M3 7 64) = some (none, M8) ∧ GOOD M8 = true := by
  have h := ph1B_ok
  unfold ph1B at h
  split at h
  · rename_i M3 e
    rw [Bool.and_eq_true, Bool.and_eq_true, Bool.and_eq_true] at h
    obtain ⟨⟨⟨a, b⟩, c⟩, f⟩ := h
    split at f
    · rename_i M8 e2
      exact ⟨M3, M8, e, of_decide_eq_true a, of_decide_eq_true b, c, e2, f⟩
    · cases f
  · cases h
theorem good_inv {M : Mem} (h : GOOD M = true) : INV M := by
  unfold GOOD at h
  simp only [Bool.and_eq_true, decide_eq_true_eq, List.all_eq_true, List.mem_range] at h
  obtain ⟨⟨⟨⟨⟨⟨⟨⟨⟨⟨⟨⟨⟨⟨⟨⟨⟨⟨⟨⟨⟨⟨-, a1⟩, a2⟩, a3⟩, a4⟩, a5⟩, b1⟩, b2⟩, b3⟩, b4⟩, c1⟩, c2⟩, c3⟩, c4⟩, f9⟩, d1⟩, d2⟩, e1⟩, e2⟩, e3⟩, e4⟩, f13⟩, f5⟩ := h
  have nn : ∀ {i : Int} {n : Nat}, 0 ≤ i → i < n → ∃ k : Nat, k < n ∧ (k : Int) = i := fun {i n} h0 h1 => ⟨i.toNat, by omega, by omega⟩
  refine ⟨⟨a1.trans a2.symm, by omega, by omega, a3, a4, a5⟩, fun c f c0 c1 => by omega, fun c c0 c1 => by omega, fun c c0 c1 => by omega, ⟨b1.trans b2.symm, by omega, by omega, fun i i0 i1 => by omega⟩, Or.inl ⟨b3, b4⟩, ⟨c1.trans c2.symm, c3.trans c4.symm, by omega, by omega, by omega, fun i i0 i1 => by omega⟩, fun i i0 i1 => ?_, ⟨d1.trans d2.symm, Or.inl d2⟩, ⟨e1.trans e2.symm, by omega, by omega, fun i i0 i1 => by omega⟩, ⟨e3.trans e4.symm, by omega, fun i i0 i1 i2 => by omega⟩, fun p p0 p1 => ?_, fun c c0 c1 => ?_⟩
  · obtain ⟨k, k1, rfl⟩ := nn (n := 5) i0 i1
    exact f9 k k1
  · obtain ⟨k, k1, rfl⟩ := nn (n := 6) p0 p1
    exact Or.inl (f13 k k1)
  · obtain ⟨k, k1, rfl⟩ := nn (n := 12) (i := c) (by omega) c1
    exact f5 k k1
theorem run_s {call : Nat → List AV → Mem → Option Res} {ph : Bool} {sx : Int × (Int → Int)} {code : List Row} {rz stop n pc op : Nat} {ks : List AV → List AV → Mem → Option Res} {ls st : List AV} {M : Mem} {o : List Int} (hp : ¬ pc = stop) (hc : code[pc]? = some (op, o)) : run call rcv ph sx code rz stop ks (n + 1) pc ls st M = act call rcv ph sx rz op o pc ls st M (run call rcv ph sx code rz stop ks n) := by
  rw [run, if_neg hp, hc]
theorem ph_go {call : Nat → List AV → Mem → Option Res} {sx : Int × (Int → Int)} {ks : List AV → List AV → Mem → Option Res} {n : Nat} {M3 M8 : Mem} (hA : call 0 [(2, 0)] (newM ZM 0 0) = some (none, M3)) (h3 : M3 9999 0 = 64) (h31 : 0 ≤ M3 9999 1) (hr : recvOK true (newM M3 7 64) (rcv 164) [(2, 64)] = true) (hB : call 164 [(2, 64)] (newM M3 7 64) = some (none, M8)) : run call rcv true sx k_W_law 3 8 ks (n + 9) 0 [(2, 93), (3, 0), (3, 0), (3, 0)] [] ZM = ks [(2, 93), (2, 0), (2, 64), (3, 0)] [] M8 := by
  rw [run_s (op := 36) (o := [0]) (by decide) rfl, act_36]
  refine (if_pos ⟨rfl, by decide, by decide, by decide, by decide, by decide⟩).trans ?_
  show run call rcv true sx k_W_law 3 8 ks (n + 8) 1 [(2, 93), (3, 0), (3, 0), (3, 0)] [(2, 0)] (newM ZM 0 0) = _
  rw [run_s (op := 23) (o := []) (by decide) rfl, act_23]
  show run call rcv true sx k_W_law 3 8 ks (n + 7) 2 [(2, 93), (3, 0), (3, 0), (3, 0)] [(2, 0), (2, 0)] (newM ZM 0 0) = _
  rw [run_s (op := 39) (o := [0, 1]) (by decide) rfl, act_39]
  refine (if_pos ⟨by decide, by decide, by decide⟩).trans ?_
  show (match call 0 [(2, 0)] (newM ZM 0 0) with | some (some v, M') => run call rcv true sx k_W_law 3 8 ks (n + 6) 3 [(2, 93), (3, 0), (3, 0), (3, 0)] [v, (2, 0)] M' | some (none, M') => run call rcv true sx k_W_law 3 8 ks (n + 6) 3 [(2, 93), (3, 0), (3, 0), (3, 0)] [(2, 0)] M' | none => none) = _
  rw [hA]
  show run call rcv true sx k_W_law 3 8 ks (n + 6) 3 [(2, 93), (3, 0), (3, 0), (3, 0)] [(2, 0)] M3 = _
  rw [run_s (op := 7) (o := [1]) (by decide) rfl, act_7]
  refine (if_pos ⟨by decide, by decide⟩).trans ?_
  show run call rcv true sx k_W_law 3 8 ks (n + 5) 4 [(2, 93), (2, 0), (3, 0), (3, 0)] [] M3 = _
  rw [run_s (op := 36) (o := [7]) (by decide) rfl, act_36, h3]
  refine (if_pos ⟨rfl, by decide, h31, by decide, by decide, by decide⟩).trans ?_
  show run call rcv true sx k_W_law 3 8 ks (n + 4) 5 [(2, 93), (2, 0), (3, 0), (3, 0)] [(2, 64)] (newM M3 7 64) = _
  rw [run_s (op := 23) (o := []) (by decide) rfl, act_23]
  show run call rcv true sx k_W_law 3 8 ks (n + 3) 6 [(2, 93), (2, 0), (3, 0), (3, 0)] [(2, 64), (2, 64)] (newM M3 7 64) = _
  rw [run_s (op := 39) (o := [164, 1]) (by decide) rfl, act_39]
  refine (if_pos ⟨by decide, by decide, hr⟩).trans ?_
  show (match call 164 [(2, 64)] (newM M3 7 64) with | some (some v, M') => run call rcv true sx k_W_law 3 8 ks (n + 2) 7 [(2, 93), (2, 0), (3, 0), (3, 0)] [v, (2, 64)] M' | some (none, M') => run call rcv true sx k_W_law 3 8 ks (n + 2) 7 [(2, 93), (2, 0), (3, 0), (3, 0)] [(2, 64)] M' | none => none) = _
  rw [hB]
  show run call rcv true sx k_W_law 3 8 ks (n + 2) 7 [(2, 93), (2, 0), (3, 0), (3, 0)] [(2, 64)] M8 = _
  rw [run_s (op := 7) (o := [2]) (by decide) rfl, act_7]
  refine (if_pos ⟨by decide, by decide⟩).trans ?_
  show run call rcv true sx k_W_law 3 8 ks (n + 1) 8 [(2, 93), (2, 0), (2, 64), (3, 0)] [] M8 = _
  rw [run, if_pos rfl]
end P61
