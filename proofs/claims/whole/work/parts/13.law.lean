/-! THE CLAIM OUT OF ONE WALK OF THE LAW'S BODY. Your part is whole_start (and what it stands on); all else here is the same for every law, but numbers. -/
def R_law : String := "TenInDrawersLaw"
def lw_P (b : Addr) (xs : List Int32) (args : Array Value) (s : State) : Prop := args = #[.ref b] ∧ s.IntsAt b xs ∧ xs.length ≤ 3072 ∧ (Jvm.Cond.and given_1 narrow_1).before args s = true
def lw_Q (_ : Array Value) (s : State) (o : Outcome) (t : State) : Prop := o = .returned (some (.int 1)) ∧ Framed s o t [] 600000 7302250
def lw_Z (below : List Frame) (a : Array Value) (s : State) : State → Prop := fun t => ∃ o, t.status = .running ∧ Ended t below o ∧ lw_Q a s o t
/-- the law's own end, with 1 on the stack, nothing written that was there before, its room as the claim has it -/
theorem lw_ret {p : Program} {l : Launch} {e : Env} {s : State} {m : MethodId} {below : List Frame} {meth : Method} {c : Code} {b : Nat} (hx : p.tables.exec = Jvm.exec) (hb : c.code = code) (hr : meth.sig.returnType = ret) (hlocks : meth.locks = false) {pc : Nat} {H : Heap} {ls : Array Slot} (hdg : decode code pc = .ok (.ireturn, 1)) : W p l e room_1 s m #[Value.ref b] below meth c H [] 600000 7302250 (lw_Z below #[Value.ref b] s) (F0 m pc ls [.int 1]) := by
  intro T hT X
  obtain ⟨fs, hret, hrun, hended, hW, hframe⟩ := X.leave (v := some (.int 1)) (hlocks := hlocks) (fun h => by rw [hr] at h; cases h)
  have hmeth' : T.vm.method? m = some meth := X.method'
  refine ⟨T.setFrames fs, ?_, .returned (some (.int 1)), hrun, hended, rfl, ⟨_, rfl⟩, hW, hframe⟩
  jvm_step X.here [X.here.top, hx, hb, hdg, hmeth', hr, ret, narrow_b1]
  (try refine ⟨rfl, ?_⟩); (try refine ⟨rfl, ?_⟩)
  first | (intro acts; rw [hret _ acts rfl rfl rfl]) | rw [hret _ _ rfl rfl rfl]
  exact Steps.refl _
/-- what holds at the law's entry: the machine, the code, the tables' words (any of lw_tbl by 'hts w (by decide +kernel)'), the script of L ints xs at the cell b, what the Statement gives of the start (any of its parts by flat_of_before) -/
def lw_At (p : Program) (s : State) (m : MethodId) (meth : Method) (c : Code) (b L : Nat) (xs : Nat → Int32) : Prop :=
  p.tables.exec = Jvm.exec ∧ c.code = code ∧ meth.sig.returnType = ret ∧ c.maxLocals = 4 ∧ s.vm.findClass R_law = some m.cls ∧ (∀ w ∈ lw_tbl, w.before #[Value.ref b] s = true) ∧ va_X b L xs s s.heap ∧ b < s.heap.size ∧ meth.locks = false ∧ (Jvm.Cond.and given_1 narrow_1).before #[Value.ref b] s = true

/-- once all is made, the counts stay -/
theorem act_keep {call : Nat → List AV → Mem → Option Res} {sx : Int × (Int → Int)} {rz op : Nat} {o : List Int} {pc : Nat} {ls st : List AV} {M : Mem} {k : Nat → List AV → List AV → Mem → Option Res} {r : Res}
    (hcall : ∀ y as M v M1, call y as M = some (v, M1) → ∀ j, M1 9999 j = M 9999 j) (h : act call rcv false sx rz op o pc ls st M k = some r) :
    (∃ pc' ls' st' M', (∀ j, M' 9999 j = M 9999 j) ∧ k pc' ls' st' M' = some r) ∨ r.2 = M := by
  have key : ∀ {pc' ls' st' M'}, (∀ j, M' 9999 j = M 9999 j) → k pc' ls' st' M' = some r → (∃ pc' ls' st' M', (∀ j, M' 9999 j = M 9999 j) ∧ k pc' ls' st' M' = some r) ∨ r.2 = M := fun h1 h2 => Or.inl ⟨_, _, _, _, h1, h2⟩
  have same : ∀ j, M 9999 j = M 9999 j := fun _ => rfl
  unfold act at h
  split at h
  · repeat' split at h
    all_goals first | (cases h; done) | exact key same h
  · repeat' split at h
    all_goals first | (cases h; done) | exact key same h
  · repeat' split at h
    all_goals first | (cases h; done) | exact key same h
  · repeat' split at h
    all_goals first | (cases h; done) | exact key same h
  · repeat' split at h
    all_goals first | (cases h; done) | exact key same h
  · repeat' split at h
    all_goals first | (cases h; done) | exact key same h
  · repeat' split at h
    all_goals first | (cases h; done) | exact key same h
  · repeat' split at h
    all_goals first | (cases h; done) | exact key same h
  · repeat' split at h
    all_goals first | (cases h; done) | exact key same h
  · repeat' split at h
    all_goals first | (cases h; done) | exact key same h
  · repeat' split at h
    all_goals first | (cases h; done) | exact key same h
  · repeat' split at h
    all_goals first | (cases h; done) | exact key same h
  · repeat' split at h
    all_goals first | (cases h; done) | exact key same h
  · repeat' split at h
    all_goals first | (cases h; done) | exact key same h
  · repeat' split at h
    all_goals first | (cases h; done) | exact key same h
  · repeat' split at h
    all_goals first | (cases h; done) | exact key same h
  · repeat' split at h
    all_goals first | (cases h; done) | exact key same h
  · repeat' split at h
    all_goals first | (cases h; done) | exact key same h
  · repeat' split at h
    all_goals first | (cases h; done) | exact key same h
  · repeat' split at h
    all_goals first | (cases h; done) | exact key same h
  · repeat' split at h
    all_goals first | (cases h; done) | exact key same h
  · repeat' split at h
    all_goals first | (cases h; done) | exact key same h
  · repeat' split at h
    all_goals first | (cases h; done) | exact key same h
  · repeat' split at h
    all_goals first | (cases h; done) | exact key same h
  · repeat' split at h
    all_goals first | (cases h; done) | exact key same h
  · repeat' split at h
    all_goals first | (cases h; done) | exact key same h
  · repeat' split at h
    all_goals first | (cases h; done) | exact key same h
  · repeat' split at h
    all_goals first | (cases h; done) | exact key same h
  · split at h
    · split at h
      · rename_i hc
        refine key (fun j => up_ne ?_) h
        have := isObj_lt hc.1
        omega
      · cases h
    · split at h
      · rename_i hc
        refine key (fun j => up_ne ?_) h
        have := isObj_lt hc.1
        omega
      · cases h
    · cases h
  · repeat' split at h
    all_goals first | (cases h; done) | exact key same h
  · repeat' split at h
    all_goals first | (cases h; done) | exact key same h
  · repeat' split at h
    all_goals first | (cases h; done) | exact key same h
  · split at h
    · split at h
      · rename_i hc
        refine key (fun j => up_ne ?_) h
        have := inArr_lt hc (by decide)
        omega
      · cases h
    · cases h
  · split at h
    · split at h
      · rename_i hc
        refine key (fun j => up_ne ?_) h
        have := inArr_lt hc (by decide)
        omega
      · cases h
    · cases h
  · repeat' split at h
    all_goals first | (cases h; done) | exact key same h
  · repeat' split at h
    all_goals first | (cases h; done) | exact key same h
  · split at h
    · split at h
      · rename_i hc
        cases hc.1
      · cases h
    · cases h
  · split at h
    · split at h
      · rename_i hc
        cases hc.1
      · cases h
    · cases h
  · split at h
    · split at h
      · rename_i hc
        cases hc.1
      · cases h
    · cases h
  · split at h
    · split at h
      · split at h
        · rename_i hc
          exact key (hcall _ _ _ _ _ hc) h
        · rename_i hc
          exact key (hcall _ _ _ _ _ hc) h
        · cases h
      · cases h
    · cases h
  · repeat' split at h
    all_goals first | (cases h; done) | exact key same h
  · split at h
    · split at h
      · rename_i hc
        refine key (fun j => ?_) h
        have h1 : _ < 89 := (live_eq hc.2.2.2.1).2
        unfold cpy
        rw [if_neg (fun z => by have := z.1; omega)]
      · cases h
    · cases h
  · split at h
    · cases h; exact Or.inr rfl
    · cases h
  · split at h
    · split at h
      · cases h; exact Or.inr rfl
      · cases h
    · cases h
  · split at h
    · split at h
      · cases h; exact Or.inr rfl
      · cases h
    · cases h
  · repeat' split at h
    all_goals first | (cases h; done) | exact key same h
  · repeat' split at h
    all_goals first | (cases h; done) | exact key same h
  · repeat' split at h
    all_goals first | (cases h; done) | exact key same h
  · cases h
theorem runG_keep {call : Nat → List AV → Mem → Option Res} {sx : Int × (Int → Int)} {code : List Row} {rz stop : Nat} {r : Res} (hcall : ∀ y as M v M1, call y as M = some (v, M1) → ∀ j, M1 9999 j = M 9999 j) :
    ∀ (n pc : Nat) (ls st : List AV) (M : Mem), run call rcv false sx code rz stop (fun _ _ _ => none) n pc ls st M = some r → ∀ j, r.2 9999 j = M 9999 j
  | 0, pc, ls, st, M, h => by cases h
  | n + 1, pc, ls, st, M, h => by
    unfold run at h
    split at h
    · cases h
    · split at h
      · cases h
      · rcases act_keep hcall h with ⟨pc', ls', st', M', h1, h2⟩ | h1
        · intro j
          rw [runG_keep hcall n pc' ls' st' M' h2 j, h1 j]
        · rw [h1]; exact fun _ => rfl
theorem callD_keep : ∀ (d n y : Nat) (as : List AV) (M : Mem) (v : Option AV) (M1 : Mem), callD false d n y as M = some (v, M1) → ∀ j, M1 9999 j = M 9999 j
  | 0, n, y, as, M, v, M1, h => by cases h
  | d + 1, n, y, as, M, v, M1, h => by
    unfold callD at h
    split at h
    · cases h
    · split at h
      · exact runG_keep (r := (v, M1)) (callD_keep d n) n _ _ _ _ h
      · cases h
theorem run_keep (d n0 n : Nat) {sx : Int × (Int → Int)} {code : List Row} {rz stop : Nat} {r : Res} (pc : Nat) (ls st : List AV) (M : Mem) (h : run (callD false d n0) rcv false sx code rz stop (fun _ _ _ => none) n pc ls st M = some r) : naOf true M ≤ naOf true r.2 ∧ slOf true M ≤ slOf true r.2 := by
  have := runG_keep (callD_keep d n0) n pc ls st M h
  unfold naOf slOf
  rw [this 0, this 1]
  exact ⟨Nat.le_refl _, Nat.le_refl _⟩
def chkM (M : Mem) : Bool := decide (M 9999 0 = 89) && decide (0 ≤ M 9999 1) && decide (M 9999 1 ≤ 100000) && (List.range 89).all (fun a => match shp a with
  | (4, ci) => (List.range (nfl ci)).all (fun k => if fk ci k = 2 then decide (M a k = rfc a k) else true)
  | (2, n) => (List.range n).all (fun k => decide (M a k = rfc a k))
  | (3, n) => (List.range n).all (fun k => decide (M a k = rfc a k))
  | _ => true)
def xsI (xs : Nat → Int32) (j : Int) : Int := (xs j.toNat).toInt
def lawRun (L : Int) (X : Int → Int) (d n : Nat) : Option Res := run (callD true d n) rcv true (L, X) k_W_law 3 8 (fun ls st M => if chkM M = true then run (callD false d n) rcv false (L, X) k_W_law 3 100000 (fun _ _ _ => none) n 8 ls st M else none) n 0 [(2, 93), (3, 0), (3, 0), (3, 0)] [] (fun _ _ => 0)
theorem arrV_ext2 {cI : ClassId} {N : Nat} {f g : Nat → Value} (h : ∀ j, j < N → f j = g j) : arrV cI N f = arrV cI N g := arrV_ext h
theorem chk_at {D : va_G} {c4 : C4} {ad : Nat → Nat} {M : Mem} {H : Heap} (h : chkM M = true) {a : Nat} (ha : a < 89) (hat : va_at D am_cl (ad a, cE c4 ad true M a) H) : va_at D am_cl (ad a, cE c4 ad false M a) H := by
  unfold chkM at h
  simp only [Bool.and_eq_true] at h
  have h2 := List.all_eq_true.mp h.2 a (List.mem_range.mpr ha)
  obtain ⟨x, hx⟩ : ∃ x, shp a = x := ⟨_, rfl⟩
  obtain ⟨k, n⟩ := x
  rw [hx] at h2
  have hk : k = 0 ∨ k = 1 ∨ k = 2 ∨ k = 3 ∨ k = 4 := by
    have : ∀ a, a < 89 → (shp a).1 ≤ 4 := by decide +kernel
    have := this a ha
    rw [hx] at this
    dsimp only at this
    omega
  rcases hk with rfl | rfl | rfl | rfl | rfl
  · rw [cE_int hx] at hat ⊢; exact hat
  · rw [cE_long hx] at hat ⊢; exact hat
  · rw [cE_ri hx] at hat ⊢
    replace hat : H[ad a]? = some (vp_cell _ _) := hat
    show H[ad a]? = some (vp_cell _ _)
    rw [hat, vp_cell_q, vp_cell_q]
    refine congrArg some (arrV_ext fun j hj => ?_)
    have h3 := of_decide_eq_true (List.all_eq_true.mp h2 j (List.mem_range.mpr hj))
    unfold gr
    rw [if_pos rfl, if_neg (by decide), h3]
  · rw [cE_rl hx] at hat ⊢
    replace hat : H[ad a]? = some (vp_cell _ _) := hat
    show H[ad a]? = some (vp_cell _ _)
    rw [hat, vp_cell_q, vp_cell_q]
    refine congrArg some (arrV_ext fun j hj => ?_)
    have h3 := of_decide_eq_true (List.all_eq_true.mp h2 j (List.mem_range.mpr hj))
    unfold gr
    rw [if_pos rfl, if_neg (by decide), h3]
  · rw [cE_obj hx] at hat ⊢
    have e : (List.range (nfl n)).map (fun k => vfk ad true M n a k) = (List.range (nfl n)).map (fun k => vfk ad false M n a k) := by
      refine List.map_congr_left fun j hj => ?_
      have h3 := List.all_eq_true.mp h2 j hj
      unfold vfk
      by_cases z : fk n j = 2
      · rw [if_pos z, if_pos z]
        rw [if_pos z] at h3
        have h4 : gr true M a j = gr false M a j := of_decide_eq_true h3
        rw [h4]
      · rw [if_neg z, if_neg z]
    rw [← e]
    exact hat
set_option maxRecDepth 100000 in
theorem law_statics {b : Nat} {s : State} (hts : ∀ w ∈ lw_tbl, w.before #[Value.ref b] s = true) (hgv : (Jvm.Cond.and given_1 narrow_1).before #[Value.ref b] s = true) :
    (∃ t : Nat, va_Z (sC 0) (sN 0) "[I" (.ref t) (fun q : Nat => s.heap.size ≤ q) s s.heap ∧ va_T .int t (shp (90 + 0)).2 (fun i => .int (Int32.ofInt (stc (90 + 0) i))) (fun q : Nat => s.heap.size ≤ q) s s.heap) ∧
    (∃ t : Nat, va_Z (sC 1) (sN 1) "[I" (.ref t) (fun q : Nat => s.heap.size ≤ q) s s.heap ∧ va_T .int t (shp (90 + 1)).2 (fun i => .int (Int32.ofInt (stc (90 + 1) i))) (fun q : Nat => s.heap.size ≤ q) s s.heap) ∧
    (∃ t : Nat, va_Z (sC 2) (sN 2) "[I" (.ref t) (fun q : Nat => s.heap.size ≤ q) s s.heap ∧ va_T .int t (shp (90 + 2)).2 (fun i => .int (Int32.ofInt (stc (90 + 2) i))) (fun q : Nat => s.heap.size ≤ q) s s.heap) := by
  have hs := flat_of_before _ hgv
  have hA : ∀ a : Nat, a < s.heap.size → ¬ (fun q : Nat => s.heap.size ≤ q) a := fun a h1 h2 => by omega
  refine ⟨?_, ?_, ?_⟩
  · have hel : ∀ j : Nat, j < 6 → (Term.elem (.static "TenInDrawers" "MAY_BE" "[I") (.int (Int32.ofNat j))).eval #[Value.ref b] s none [] s = some (.int (Int32.ofInt (stc (90 + 0) j))) := fun j hj => by
      rcases (show j = 0 ∨ j = 1 ∨ j = 2 ∨ j = 3 ∨ j = 4 ∨ j = 5 by omega) with rfl | rfl | rfl | rfl | rfl | rfl
      all_goals exact va_eqt (hs _ (by decide +kernel))
    obtain ⟨t, ht, hT⟩ := va_Tof (ty := .int) (tm := .static "TenInDrawers" "MAY_BE" "[I") (N := 6) (f := fun i => .int (Int32.ofInt (stc (90 + 0) i))) (A := fun q : Nat => s.heap.size ≤ q) (by decide) (hs _ (by decide +kernel)) (va_eqt (hs _ (by decide +kernel))) hel hA
    exact ⟨t, va_Zof (hts (.laysStatic "TenInDrawers" "MAY_BE" "[I") (by decide +kernel)) (hts (.initialized "TenInDrawers") (by decide +kernel)) ht hA, hT⟩
  · have hel : ∀ j : Nat, j < 8 → (Term.elem (.static "TenInDrawers$Prints" "ABOVE" "[I") (.int (Int32.ofNat j))).eval #[Value.ref b] s none [] s = some (.int (Int32.ofInt (stc (90 + 1) j))) := fun j hj => by
      rcases (show j = 0 ∨ j = 1 ∨ j = 2 ∨ j = 3 ∨ j = 4 ∨ j = 5 ∨ j = 6 ∨ j = 7 by omega) with rfl | rfl | rfl | rfl | rfl | rfl | rfl | rfl
      all_goals exact va_eqt (hs _ (by decide +kernel))
    obtain ⟨t, ht, hT⟩ := va_Tof (ty := .int) (tm := .static "TenInDrawers$Prints" "ABOVE" "[I") (N := 8) (f := fun i => .int (Int32.ofInt (stc (90 + 1) i))) (A := fun q : Nat => s.heap.size ≤ q) (by decide) (hs _ (by decide +kernel)) (va_eqt (hs _ (by decide +kernel))) hel hA
    exact ⟨t, va_Zof (hts (.laysStatic "TenInDrawers$Prints" "ABOVE" "[I") (by decide +kernel)) (hts (.initialized "TenInDrawers$Prints") (by decide +kernel)) ht hA, hT⟩
  · have hel : ∀ j : Nat, j < 32 → (Term.elem (.static "TenInDrawers$Prints" "OWN" "[I") (.int (Int32.ofNat j))).eval #[Value.ref b] s none [] s = some (.int (Int32.ofInt (stc (90 + 2) j))) := fun j hj => by
      rcases (show j = 0 ∨ j = 1 ∨ j = 2 ∨ j = 3 ∨ j = 4 ∨ j = 5 ∨ j = 6 ∨ j = 7 ∨ j = 8 ∨ j = 9 ∨ j = 10 ∨ j = 11 ∨ j = 12 ∨ j = 13 ∨ j = 14 ∨ j = 15 ∨ j = 16 ∨ j = 17 ∨ j = 18 ∨ j = 19 ∨ j = 20 ∨ j = 21 ∨ j = 22 ∨ j = 23 ∨ j = 24 ∨ j = 25 ∨ j = 26 ∨ j = 27 ∨ j = 28 ∨ j = 29 ∨ j = 30 ∨ j = 31 by omega) with rfl | rfl | rfl | rfl | rfl | rfl | rfl | rfl | rfl | rfl | rfl | rfl | rfl | rfl | rfl | rfl | rfl | rfl | rfl | rfl | rfl | rfl | rfl | rfl | rfl | rfl | rfl | rfl | rfl | rfl | rfl | rfl
      all_goals exact va_eqt (hs _ (by decide +kernel))
    obtain ⟨t, ht, hT⟩ := va_Tof (ty := .int) (tm := .static "TenInDrawers$Prints" "OWN" "[I") (N := 32) (f := fun i => .int (Int32.ofInt (stc (90 + 2) i))) (A := fun q : Nat => s.heap.size ≤ q) (by decide) (hs _ (by decide +kernel)) (va_eqt (hs _ (by decide +kernel))) hel hA
    exact ⟨t, va_Zof (hts (.laysStatic "TenInDrawers$Prints" "OWN" "[I") (by decide +kernel)) (hts (.initialized "TenInDrawers$Prints") (by decide +kernel)) ht hA, hT⟩
theorem w_inst : ∀ k, k < 8 → ∃ n, Cond.instantiable (cN k) n ∈ lw_tbl := by
  intro k hk
  rcases (show k = 0 ∨ k = 1 ∨ k = 2 ∨ k = 3 ∨ k = 4 ∨ k = 5 ∨ k = 6 ∨ k = 7 by omega) with rfl | rfl | rfl | rfl | rfl | rfl | rfl | rfl
  · exact ⟨9, am_pl_mem (c := 13) (by decide +kernel)⟩
  · exact ⟨7, am_pl_mem (c := 21) (by decide +kernel)⟩
  · exact ⟨11, am_pl_mem (c := 61) (by decide +kernel)⟩
  · exact ⟨6, am_pl_mem (c := 102) (by decide +kernel)⟩
  · exact ⟨5, am_pl_mem (c := 133) (by decide +kernel)⟩
  · exact ⟨6, am_pl_mem (c := 157) (by decide +kernel)⟩
  · exact ⟨5, am_pl_mem (c := 185) (by decide +kernel)⟩
  · exact ⟨42, am_pl_mem (c := 3180) (by decide +kernel)⟩
theorem law_classes {b : Nat} {s : State} (hts : ∀ w ∈ lw_tbl, w.before #[Value.ref b] s = true) : ∃ (D : va_G), ∀ (k : Nat) (q : vw_C), am_cl[k]? = some q → u_Kn s q.1 q.2.1 q.2.2 (D.1 k) (D.2 k) := by
  have key : ∀ k : Nat, ∃ (cC : ClassId) (iS : Nat → Nat), ∀ q : vw_C, am_cl[k]? = some q → u_Kn s q.1 q.2.1 q.2.2 cC iS := by
    intro k
    cases h : am_cl[k]? with
    | none => exact ⟨0, fun _ => 0, fun q hq => by cases hq⟩
    | some q =>
      have hk : k < 8 := (List.getElem?_eq_some_iff.mp h).1
      obtain ⟨ty, hin, -, -, -, -, hcn, -⟩ := clOK_all h
      obtain ⟨n, hn⟩ := w_inst k hk
      rw [hcn] at hn
      obtain ⟨cC, iS, hK⟩ := u_known (ws := lw_tbl) hts (fun w hw => (gT_mem.mp (hin w hw)).1) (hts _ hn)
      exact ⟨cC, iS, fun q' hq' => by cases hq'; exact hK⟩
  refine ⟨(fun k => (key k).choose, fun k => (key k).choose_spec.choose), fun k q hq => ?_⟩
  exact (key k).choose_spec.choose_spec q hq
theorem law_arrays {b : Nat} {s : State} (hts : ∀ w ∈ lw_tbl, w.before #[Value.ref b] s = true) : ∃ c4 : C4, ∀ (k : Nat) (q : ClassId × FieldType), ([(c4.1, .int), (c4.2.1, .long), (c4.2.2.1, .array .int), (c4.2.2.2, .array .long)] : List (ClassId × FieldType))[k]? = some q → ArrOfT s q.1 q.2 ∧ va_RA s q.1 q.2 := by
  obtain ⟨cI, kI, pI, a1, a2, a3⟩ := Cond.arrayClass_spec (hts _ (am_pl_mem aw_int))
  obtain ⟨cJ, kJ, pJ, b1, b2, b3⟩ := Cond.arrayClass_spec (hts _ (am_pl_mem aw_long))
  obtain ⟨pII, cII, kII, d0, d2, d3, d1⟩ := Cond.arrayOver_specA (hts _ (am_pl_mem (c := 27) (w := .arrayOver (.array .int)) (by decide +kernel)))
  obtain ⟨pJJ, cJJ, kJJ, e0, e2, e3, e1⟩ := Cond.arrayOver_specA (hts _ (am_pl_mem (c := 191) (w := .arrayOver (.array .long)) (by decide +kernel)))
  refine ⟨(cI, cJ, cII, cJJ), fun k q hq => ?_⟩
  match k with
  | 0 => cases hq; exact ⟨fun n z => ⟨fun k h => (by cases h), kI, a2, pI, a3⟩, a1⟩
  | 1 => cases hq; exact ⟨fun n z => ⟨fun k h => (by cases h), kJ, b2, pJ, b3⟩, b1⟩
  | 2 => cases hq; exact ⟨fun n z => ⟨fun k h => (by cases h), kII, d2, pII, d3⟩, d1⟩
  | 3 => cases hq; exact ⟨fun n z => ⟨fun k h => (by cases h), kJJ, e2, pJJ, e3⟩, e1⟩
  | k + 4 => cases hq
theorem act_ret_eq {call : Nat → List AV → Mem → Option Res} {ph : Bool} {sx : Int × (Int → Int)} {rz op : Nat} {o : List Int} {pc : Nat} {ls st : List AV} {M : Mem} {r : Res} (hop : op = 42 ∨ op = 43 ∨ op = 44) (h : act call rcv ph sx rz op o pc ls st M (fun _ _ _ _ => none) = some r) : r.2 = M := by
  rcases hop with rfl | rfl | rfl
  · rw [act_42] at h
    split at h
    · cases h; rfl
    · cases h
  · rw [act_43] at h
    split at h
    · split at h
      · cases h; rfl
      · cases h
    · cases h
  · rw [act_44] at h
    split at h
    · split at h
      · cases h; rfl
      · cases h
    · cases h
set_option maxHeartbeats 4000000 in
/-- the law's walk out of the abstract run -/
theorem am_law (hok : ∀ y, y < 276 → y ≠ 274 → okM y = true) (hrows : ∀ (i : Nat) (r : Row), k_W_law[i]? = some r → ∃ ax, okRow "TenInDrawersLaw" false code p_W_law i r ax = true) {p : Program} {e : Env} {s : State} {m : MethodId} {below : List Frame} {meth : Method} {c : Code} (l : Launch) {b L : Nat} {xs : Nat → Int32} (hL : L ≤ 3072) (C0 : lw_At p s m meth c b L xs) {d n : Nat} (hd : d ≤ 2000) {M1 : Mem} (hM1 : 0 ≤ M1 9999 0 ∧ M1 9999 0 ≤ 100000 ∧ M1 9999 1 ≤ 100000) (hrun : lawRun L (xsI xs) d n = some (some (0, 1), M1)) : W p l e room_1 s m #[Value.ref b] below meth c s.heap [] 0 0 (lw_Z below #[Value.ref b] s) (entryFrame m ([Value.ref b] : List Value).toArray 4) := by
  obtain ⟨hx, hb, hr, hml, hown, hts, hX, hbl, hlocks, hgv⟩ := id C0
  obtain ⟨D, hD⟩ := law_classes hts
  obtain ⟨c4, hc4⟩ := law_arrays hts
  obtain ⟨⟨t0, z0, y0⟩, ⟨t1, z1, y1⟩, ⟨t2, z2, y2⟩⟩ := law_statics hts hgv
  obtain ⟨ad, had⟩ : ∃ ad : Nat → Nat, ad = fun k => if k < 90 then s.heap.size + k else if k = 90 then t0 else if k = 91 then t1 else if k = 92 then t2 else b := ⟨_, rfl⟩
  have ad1 : ∀ a, a < 89 → ad a = s.heap.size + a := fun a h => by rw [had]; dsimp only; rw [if_pos (by omega)]
  have ad90 : ad 90 = t0 := by rw [had]; rfl
  have ad91 : ad 91 = t1 := by rw [had]; rfl
  have ad92 : ad 92 = t2 := by rw [had]; rfl
  have ad93 : ad 93 = b := by rw [had]; rfl
  have hKx : Kx D c4 ad s.heap.size s s.heap := by
    refine ⟨⟨hD, hc4⟩, fun w hw hn => ?_, ⟨?_, ?_⟩, ad1, fun j hj => ?_⟩
    · cases w <;> first | (cases hn; done) | exact va_Nw.of rfl (hts _ hw)
    · exact hts _ (am_pl_mem (c := 27) (w := .arrayOver (.array .int)) (by decide +kernel))
    · exact hts _ (am_pl_mem (c := 191) (w := .arrayOver (.array .long)) (by decide +kernel))
    · rcases (show j = 0 ∨ j = 1 ∨ j = 2 by omega) with rfl | rfl | rfl
      · rw [show ad (90 + 0) = t0 from ad90]; exact ⟨z0, y0⟩
      · rw [show ad (90 + 1) = t1 from ad91]; exact ⟨z1, y1⟩
      · rw [show ad (90 + 2) = t2 from ad92]; exact ⟨z2, y2⟩
  have hBx : Bx p s m #[Value.ref b] meth c code 4 "TenInDrawersLaw" false D c4 ad s.heap.size := ⟨hx, hb, hml, hown, fun w hw _ => hts w hw, fun h => by (cases h), hKx⟩
  have hHX : HX ad s.heap.size s ((L : Int), xsI xs) := fun _ => ⟨b, L, xs, ad93, hX, hbl, by omega, rfl, fun j _ _ => rfl, by omega⟩
  have hRf : d + 2 ≤ room_1.frames ∧ 40 * (d + 1) + 100 ≤ room_1.locals := ⟨by show d + 2 ≤ 2048; omega, by show 40 * (d + 1) + 100 ≤ 84000; omega⟩
  have hls : lsrel ad 4 [(2, 93), (3, 0), (3, 0), (3, 0)] ((lg_sl ([.ref b]) ++ List.replicate (4 - (lg_sl ([.ref b])).length) Slot.unset).toArray) := by
    have := lsrel_entry (ad := ad) (as := [(2, 93)]) (n := 4) (by decide)
    rw [show ([((2 : Nat), (93 : Int))] : List AV).map (rv ad) = [Value.ref b] by rw [← ad93]; rfl] at this
    exact this
  rw [lg_entry_eq]
  generalize (lg_sl ([.ref b]) ++ List.replicate (4 - (lg_sl ([.ref b])).length) Slot.unset).toArray = lsr at hls ⊢
  have h00 : naOf true (fun _ _ => 0) = 0 := rfl
  have hret : ∀ (ph : Bool) (nal sll : Nat) (i op : Nat) (o : List Int) (ls st : List AV) (M : Mem) (H : Heap) (locs : List Loc) (lsr : Array Slot) (cells slots : Nat) (ax : List Nat) (call : Nat → List AV → Mem → Option Res), cells ≤ 600000 → slots ≤ 7302250 → okRow "TenInDrawersLaw" false code p_W_law i (op, o) ax = true → op = 42 ∨ op = 43 ∨ op = 44 → act call rcv ph ((L : Int), xsI xs) 3 op o i ls st M (fun _ _ _ _ => none) = some (some (0, 1), M1) → Iv D c4 ad ph s.heap.size s 4 nal sll ls st M H locs lsr cells slots → W p l e room_1 s m #[Value.ref b] below meth c H locs cells slots (lw_Z below #[Value.ref b] s) (F0 m (p_W_law.getD i 0) lsr (st.map (rv ad))) := by
    intro ph nal sll i op o ls st M H locs lsr cells slots ax call hc1 hc2 hrow hop hact I
    obtain ⟨ins, n', hd', ho⟩ := okRow_dec hrow
    have hS := I.2.2.2.2.1
    rcases hop with rfl | rfl | rfl
    · rw [act_42] at hact
      rw [if_neg (fun z => absurd z.1 (by decide))] at hact
      cases hact
    · rw [act_43] at hact
      split at hact
      rotate_left
      · cases hact
      rename_i x
      split at hact
      rotate_left
      · cases hact
      cases hact
      simp only [okI, Bool.and_eq_true, decide_eq_true_eq] at ho
      obtain ⟨rfl, rfl⟩ := ho
      refine va_forget (fun q hq => hS.2.2 q hq) (W.widen (k := 600000) (n := 7302250) hc1 hc2 ?_)
      exact lw_ret hx hb hr hlocks hd'
    · rw [act_44] at hact
      split at hact
      rotate_left
      · cases hact
      rw [if_neg (by decide)] at hact
      cases hact
  unfold lawRun at hrun
  have I0 : Iv D c4 ad true s.heap.size s 4 0 0 [(2, 93), (3, 0), (3, 0), (3, 0)] [] (fun _ _ => 0) s.heap [] lsr 0 0 := by
    refine ⟨fun a ha => by rw [h00] at ha; omega, fun a i ha => ?_, by rw [h00]; omega, fun _ => by rw [h00]; rfl, va_S.rf, hls, fun v hv => ?_, fun v hv => by (cases hv), rfl, rfl⟩
    · dsimp only
      split
      · exact ⟨by decide, by decide⟩
      · exact c32_0
    · simp only [List.mem_cons, List.not_mem_nil, or_false] at hv
      rcases hv with rfl | rfl | rfl | rfl
      · show (0 : Int) ≤ 93; decide
      · trivial
      · trivial
      · trivial
  have hcapT : ∀ (n' i : Nat) (ls st : List AV) (M : Mem), run (callD true d n) rcv true ((L : Int), xsI xs) k_W_law 3 8 (fun ls st M => if chkM M = true then run (callD false d n) rcv false ((L : Int), xsI xs) k_W_law 3 100000 (fun _ _ _ => none) n 8 ls st M else none) n' i ls st M = some (some (0, 1), M1) → naOf true M ≤ room_1.cells + 0 ∧ slOf true M ≤ room_1.slots + 0 := fun n' i ls st M h => by
    have hm := run_na (callD_na d n) (fun ls st M h => ?_) n' i ls st M h
    · have h1 : naOf true M1 ≤ 100000 := by unfold naOf; rw [if_pos rfl]; omega
      have h2 : slOf true M1 ≤ 100000 := by unfold slOf; rw [if_pos rfl]; omega
      refine ⟨by show _ ≤ 600000 + 0; have := hm.1; dsimp only at this; omega, by show _ ≤ 7302250 + 0; have := hm.2; dsimp only at this; omega⟩
    · split at h
      · exact run_keep d n n _ _ _ _ h
      · cases h
  have hh := am_run (Q := lw_Z below #[Value.ref b] s) (R := room_1) (l := l) (e := e) (below := below) (P := p_W_law) (code := k_W_law) (stop := 8) (rz := 3) (nal := 0) (sll := 0) hBx (callD_ok hok d n) hRf hHX hrows hcapT
    (fun i op o ls st M H locs lsr cells slots ax hrow hop hact I => hret true 0 0 i op o ls st M H locs lsr cells slots ax _ (by have h1 := I.2.2.2.2.2.2.2.2.1; have h2 := I.2.2.1; omega) (by have h1 := I.2.2.2.2.2.2.2.2.2; have h2 := act_ret_eq hop hact; dsimp only at h2; have h3 : slOf true M ≤ 100000 := (by unfold slOf; rw [if_pos rfl, ← h2]; omega); omega) hrow hop hact I)
    (fun ls st M H locs lsr cells slots hks I => ?_) n 0 _ _ _ _ _ _ _ _ hrun I0
  · exact hh
  · split at hks
    rotate_left
    · cases hks
    rename_i hchk
    have hchk2 := hchk
    unfold chkM at hchk2
    simp only [Bool.and_eq_true, decide_eq_true_eq] at hchk2
    have hna : naOf true M = 89 := by unfold naOf; rw [if_pos rfl, hchk2.1.1.1]; rfl
    have hsl : slOf true M ≤ 100000 := by unfold slOf; rw [if_pos rfl]; omega
    have h1 := I.2.2.2.2.2.2.2.2.1
    have h2 := I.2.2.2.2.2.2.2.2.2
    have I2 : Iv D c4 ad false s.heap.size s 4 0 (1000000 - slots) ls st M H locs lsr cells slots := ⟨fun a ha => chk_at hchk ha (I.1 a (by rw [hna]; exact ha)), I.2.1, Nat.le_refl _, fun h => by (cases h), I.2.2.2.2.1, I.2.2.2.2.2.1, I.2.2.2.2.2.2.1, I.2.2.2.2.2.2.2.1, by rw [h1, hna]; rfl, by show slots + (1000000 - slots) = 1000000; omega⟩
    exact am_run (Q := lw_Z below #[Value.ref b] s) (R := room_1) (l := l) (e := e) (below := below) (P := p_W_law) (code := k_W_law) (stop := 100000) (rz := 3) (nal := 0) (sll := 1000000 - slots) hBx (callD_ok hok d n) hRf hHX hrows (fun _ _ _ _ _ _ => ⟨by show 89 ≤ 600000 + 0; omega, by show 1000000 ≤ 7302250 + _; omega⟩)
      (fun i op o ls st M H locs lsr cells' slots' ax hrow hop hact I => hret false 0 _ i op o ls st M H locs lsr cells' slots' ax _ (by have h1 : cells' + 0 = 89 := I.2.2.2.2.2.2.2.2.1; omega) (by have h1 : slots' + (1000000 - slots) = 1000000 := I.2.2.2.2.2.2.2.2.2; omega) hrow hop hact I)
      (fun _ _ _ _ _ _ _ _ h => by cases h) n 8 _ _ _ _ _ _ _ _ hks I2
