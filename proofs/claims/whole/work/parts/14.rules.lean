/-! from here on: nothing but the abstract machine. Ex: from this point the method ends with r. Cl: the call gives r. -/
abbrev KT : Type := Nat → List AV → List AV → Mem → Option Res
theorem act_mono {call call' : Nat → List AV → Mem → Option Res} {rcv : Nat → Nat} {ph : Bool} {sx : Int × (Int → Int)} {rz op : Nat} {o : List Int} {pc : Nat} {ls st : List AV} {M : Mem} {k k' : KT} {r : Res}
    (hc : ∀ y as M r, call y as M = some r → call' y as M = some r) (hk : ∀ pc ls st M, k pc ls st M = some r → k' pc ls st M = some r) : act call rcv ph sx rz op o pc ls st M k = some r → act call' rcv ph sx rz op o pc ls st M k' = some r := by
  intro h
  by_cases h48 : op < 48
  · rcases (show op = 0 ∨ op = 1 ∨ op = 2 ∨ op = 3 ∨ op = 4 ∨ op = 5 ∨ op = 6 ∨ op = 7 ∨ op = 8 ∨ op = 9 ∨ op = 10 ∨ op = 11 ∨ op = 12 ∨ op = 13 ∨ op = 14 ∨ op = 15 ∨ op = 16 ∨ op = 17 ∨ op = 18 ∨ op = 19 ∨ op = 20 ∨ op = 21 ∨ op = 22 ∨ op = 23 ∨ op = 24 ∨ op = 25 ∨ op = 26 ∨ op = 27 ∨ op = 28 ∨ op = 29 ∨ op = 30 ∨ op = 31 ∨ op = 32 ∨ op = 33 ∨ op = 34 ∨ op = 35 ∨ op = 36 ∨ op = 37 ∨ op = 38 ∨ op = 39 ∨ op = 40 ∨ op = 41 ∨ op = 42 ∨ op = 43 ∨ op = 44 ∨ op = 45 ∨ op = 46 ∨ op = 47 by omega) with rfl | rfl | rfl | rfl | rfl | rfl | rfl | rfl | rfl | rfl | rfl | rfl | rfl | rfl | rfl | rfl | rfl | rfl | rfl | rfl | rfl | rfl | rfl | rfl | rfl | rfl | rfl | rfl | rfl | rfl | rfl | rfl | rfl | rfl | rfl | rfl | rfl | rfl | rfl | rfl | rfl | rfl | rfl | rfl | rfl | rfl | rfl | rfl
    · rw [act_0] at h ⊢
      revert h
      repeat' split
      all_goals first | exact hk _ _ _ _ | exact id | (intro h; cases h; done)
    · rw [act_1] at h ⊢
      revert h
      repeat' split
      all_goals first | exact hk _ _ _ _ | exact id | (intro h; cases h; done)
    · rw [act_2] at h ⊢
      revert h
      repeat' split
      all_goals first | exact hk _ _ _ _ | exact id | (intro h; cases h; done)
    · rw [act_3] at h ⊢
      revert h
      repeat' split
      all_goals first | exact hk _ _ _ _ | exact id | (intro h; cases h; done)
    · rw [act_4] at h ⊢
      revert h
      repeat' split
      all_goals first | exact hk _ _ _ _ | exact id | (intro h; cases h; done)
    · rw [act_5] at h ⊢
      revert h
      repeat' split
      all_goals first | exact hk _ _ _ _ | exact id | (intro h; cases h; done)
    · rw [act_6] at h ⊢
      revert h
      repeat' split
      all_goals first | exact hk _ _ _ _ | exact id | (intro h; cases h; done)
    · rw [act_7] at h ⊢
      revert h
      repeat' split
      all_goals first | exact hk _ _ _ _ | exact id | (intro h; cases h; done)
    · rw [act_8] at h ⊢
      revert h
      repeat' split
      all_goals first | exact hk _ _ _ _ | exact id | (intro h; cases h; done)
    · rw [act_9] at h ⊢
      revert h
      repeat' split
      all_goals first | exact hk _ _ _ _ | exact id | (intro h; cases h; done)
    · rw [act_10] at h ⊢
      revert h
      repeat' split
      all_goals first | exact hk _ _ _ _ | exact id | (intro h; cases h; done)
    · rw [act_11] at h ⊢
      revert h
      repeat' split
      all_goals first | exact hk _ _ _ _ | exact id | (intro h; cases h; done)
    · rw [act_12] at h ⊢
      revert h
      repeat' split
      all_goals first | exact hk _ _ _ _ | exact id | (intro h; cases h; done)
    · rw [act_13] at h ⊢
      revert h
      repeat' split
      all_goals first | exact hk _ _ _ _ | exact id | (intro h; cases h; done)
    · rw [act_14] at h ⊢
      revert h
      repeat' split
      all_goals first | exact hk _ _ _ _ | exact id | (intro h; cases h; done)
    · rw [act_15] at h ⊢
      revert h
      repeat' split
      all_goals first | exact hk _ _ _ _ | exact id | (intro h; cases h; done)
    · rw [act_16] at h ⊢
      revert h
      repeat' split
      all_goals first | exact hk _ _ _ _ | exact id | (intro h; cases h; done)
    · rw [act_17] at h ⊢
      revert h
      repeat' split
      all_goals first | exact hk _ _ _ _ | exact id | (intro h; cases h; done)
    · rw [act_18] at h ⊢
      revert h
      repeat' split
      all_goals first | exact hk _ _ _ _ | exact id | (intro h; cases h; done)
    · rw [act_19] at h ⊢
      revert h
      repeat' split
      all_goals first | exact hk _ _ _ _ | exact id | (intro h; cases h; done)
    · rw [act_20] at h ⊢
      revert h
      repeat' split
      all_goals first | exact hk _ _ _ _ | exact id | (intro h; cases h; done)
    · rw [act_21] at h ⊢
      revert h
      repeat' split
      all_goals first | exact hk _ _ _ _ | exact id | (intro h; cases h; done)
    · rw [act_22] at h ⊢
      revert h
      repeat' split
      all_goals first | exact hk _ _ _ _ | exact id | (intro h; cases h; done)
    · rw [act_23] at h ⊢
      revert h
      repeat' split
      all_goals first | exact hk _ _ _ _ | exact id | (intro h; cases h; done)
    · rw [act_24] at h ⊢
      revert h
      repeat' split
      all_goals first | exact hk _ _ _ _ | exact id | (intro h; cases h; done)
    · rw [act_25] at h ⊢
      revert h
      repeat' split
      all_goals first | exact hk _ _ _ _ | exact id | (intro h; cases h; done)
    · rw [act_26] at h ⊢
      revert h
      repeat' split
      all_goals first | exact hk _ _ _ _ | exact id | (intro h; cases h; done)
    · rw [act_27] at h ⊢
      revert h
      repeat' split
      all_goals first | exact hk _ _ _ _ | exact id | (intro h; cases h; done)
    · rw [act_28] at h ⊢
      revert h
      repeat' split
      all_goals first | exact hk _ _ _ _ | exact id | (intro h; cases h; done)
    · rw [act_29] at h ⊢
      revert h
      repeat' split
      all_goals first | exact hk _ _ _ _ | exact id | (intro h; cases h; done)
    · rw [act_30] at h ⊢
      revert h
      repeat' split
      all_goals first | exact hk _ _ _ _ | exact id | (intro h; cases h; done)
    · rw [act_31] at h ⊢
      revert h
      repeat' split
      all_goals first | exact hk _ _ _ _ | exact id | (intro h; cases h; done)
    · rw [act_32] at h ⊢
      revert h
      repeat' split
      all_goals first | exact hk _ _ _ _ | exact id | (intro h; cases h; done)
    · rw [act_33] at h ⊢
      revert h
      repeat' split
      all_goals first | exact hk _ _ _ _ | exact id | (intro h; cases h; done)
    · rw [act_34] at h ⊢
      revert h
      repeat' split
      all_goals first | exact hk _ _ _ _ | exact id | (intro h; cases h; done)
    · rw [act_35] at h ⊢
      revert h
      repeat' split
      all_goals first | exact hk _ _ _ _ | exact id | (intro h; cases h; done)
    · rw [act_36] at h ⊢
      revert h
      repeat' split
      all_goals first | exact hk _ _ _ _ | exact id | (intro h; cases h; done)
    · rw [act_37] at h ⊢
      revert h
      repeat' split
      all_goals first | exact hk _ _ _ _ | exact id | (intro h; cases h; done)
    · rw [act_38] at h ⊢
      revert h
      repeat' split
      all_goals first | exact hk _ _ _ _ | exact id | (intro h; cases h; done)
    · rw [act_39] at h ⊢
      split at h
      · split at h
        · rename_i y n hcond
          rw [if_pos hcond]
          split at h
          · rename_i v M1 hq
            rw [hc _ _ _ _ hq]; exact hk _ _ _ _ h
          · rename_i M1 hq
            rw [hc _ _ _ _ hq]; exact hk _ _ _ _ h
          · cases h
        · cases h
      · cases h
    · rw [act_40] at h ⊢
      revert h
      repeat' split
      all_goals first | exact hk _ _ _ _ | exact id | (intro h; cases h; done)
    · rw [act_41] at h ⊢
      revert h
      repeat' split
      all_goals first | exact hk _ _ _ _ | exact id | (intro h; cases h; done)
    · rw [act_42] at h ⊢
      revert h
      repeat' split
      all_goals first | exact hk _ _ _ _ | exact id | (intro h; cases h; done)
    · rw [act_43] at h ⊢
      revert h
      repeat' split
      all_goals first | exact hk _ _ _ _ | exact id | (intro h; cases h; done)
    · rw [act_44] at h ⊢
      revert h
      repeat' split
      all_goals first | exact hk _ _ _ _ | exact id | (intro h; cases h; done)
    · rw [act_45] at h ⊢
      revert h
      repeat' split
      all_goals first | exact hk _ _ _ _ | exact id | (intro h; cases h; done)
    · rw [act_46] at h ⊢
      revert h
      repeat' split
      all_goals first | exact hk _ _ _ _ | exact id | (intro h; cases h; done)
    · rw [act_47] at h ⊢
      revert h
      repeat' split
      all_goals first | exact hk _ _ _ _ | exact id | (intro h; cases h; done)
  · exfalso
    unfold act at h
    split at h
    all_goals first | omega | cases h
theorem run_mono {call call' : Nat → List AV → Mem → Option Res} {rcv : Nat → Nat} {ph : Bool} {sx : Int × (Int → Int)} {rz stop : Nat} {code : List Row} {ks : List AV → List AV → Mem → Option Res} {r : Res} (hc : ∀ y as M r, call y as M = some r → call' y as M = some r) :
    ∀ (n n' pc : Nat) (ls st : List AV) (M : Mem), n ≤ n' → run call rcv ph sx code rz stop ks n pc ls st M = some r → run call' rcv ph sx code rz stop ks n' pc ls st M = some r
  | 0, n', pc, ls, st, M, hn, h => by cases h
  | n + 1, 0, pc, ls, st, M, hn, h => by omega
  | n + 1, n' + 1, pc, ls, st, M, hn, h => by
    unfold run at h ⊢
    split at h
    · rename_i q
      rw [if_pos q]; exact h
    · rename_i q
      rw [if_neg q]
      split at h
      · cases h
      · rename_i row hrow
        exact act_mono hc (fun pc ls st M h => run_mono hc n n' pc ls st M (by omega) h) h
theorem callD_mono {ph : Bool} : ∀ (d d' n n' y : Nat) (as : List AV) (M : Mem) (r : Res), d ≤ d' → n ≤ n' → callD ph d n y as M = some r → callD ph d' n' y as M = some r
  | 0, d', n, n', y, as, M, r, hd, hn, h => by cases h
  | d + 1, 0, n, n', y, as, M, r, hd, hn, h => by omega
  | d + 1, d' + 1, n, n', y, as, M, r, hd, hn, h => by
    unfold callD at h ⊢
    split at h
    · cases h
    · split at h
      · rename_i q hq hl
        rw [if_pos hl]
        exact run_mono (fun y as M r h => callD_mono d d' n n' y as M r (by omega) hn h) n n' _ _ _ _ hn h
      · cases h
abbrev SX : Type := Int × (Int → Int)
def Ex (sx : SX) (d : Nat) (c : List Row) (rz pc : Nat) (ls st : List AV) (M : Mem) (r : Res) : Prop := ∃ n, run (callD false d n) rcv false sx c rz 100000 (fun _ _ _ => none) n pc ls st M = some r
def Cl (d y : Nat) (as : List AV) (M : Mem) (r : Res) : Prop := ∃ n, callD false d n y as M = some r
theorem Cl.mono {d d' y : Nat} {as : List AV} {M : Mem} {r : Res} (h : Cl d y as M r) (hd : d ≤ d') : Cl d' y as M r := by
  obtain ⟨n, h⟩ := h
  exact ⟨n, callD_mono d d' n n y as M r hd (Nat.le_refl _) h⟩
/-- the row at a place -/
def cg (c : List Row) (pc : Nat) : Option Row := if Nat.beq pc 100000 = true then none else c[pc]?
theorem cl_of {d y mL rz rc : Nat} {as ls : List AV} {c : List Row} {M : Mem} {r : Res} (hi : inf y = some (c, mL, rz, rc)) (hl : Nat.ble (lay as).length mL = true) (he : entryL mL as = ls) (h : Ex sx0 d c rz 0 ls [] M r) : Cl (d + 1) y as M r := by
  obtain ⟨n, h⟩ := h
  refine ⟨n, ?_⟩
  unfold callD
  rw [hi]
  dsimp only
  rw [if_pos (Nat.le_of_ble_eq_true hl), he]
  exact h
section X
variable {sx : SX} {d rz pc pc' : Nat} {c : List Row} {ls st : List AV} {M : Mem} {r : Res}
theorem x_of {op : Nat} {o : List Int} (hc : cg c pc = some (op, o)) (h : ∃ n, act (callD false d n) rcv false sx rz op o pc ls st M (run (callD false d n) rcv false sx c rz 100000 (fun _ _ _ => none) n) = some r) : Ex sx d c rz pc ls st M r := by
  obtain ⟨n, h⟩ := h
  refine ⟨n + 1, ?_⟩
  unfold cg at hc
  split at hc
  · cases hc
  · rename_i hb
    unfold run
    rw [if_neg (fun q => hb (by rw [q]; rfl)), hc]
    exact act_mono (fun y as M r h => callD_mono d d n (n + 1) y as M r (Nat.le_refl _) (by omega) h) (fun pc ls st M h => run_mono (fun y as M r h => callD_mono d d n (n + 1) y as M r (Nat.le_refl _) (by omega) h) n n pc ls st M (Nat.le_refl _) h) h
theorem x_c {v : Int} (hc : cg c pc = some (0, [v])) (hp : pc + 1 = pc') (k : Ex sx d c rz pc' ls ((0, v) :: st) M r) : Ex sx d c rz pc ls st M r := by
  subst hp
  obtain ⟨n, k⟩ := k
  refine x_of hc ⟨n, ?_⟩
  generalize run (callD false d n) rcv false sx c rz 100000 (fun _ _ _ => none) n = K at k ⊢
  rw [act_0]
  exact k
theorem x_lc {v : Int} (hc : cg c pc = some (1, [v])) (hp : pc + 1 = pc') (k : Ex sx d c rz pc' ls ((1, v) :: st) M r) : Ex sx d c rz pc ls st M r := by
  subst hp
  obtain ⟨n, k⟩ := k
  refine x_of hc ⟨n, ?_⟩
  generalize run (callD false d n) rcv false sx c rz 100000 (fun _ _ _ => none) n = K at k ⊢
  rw [act_1]
  exact k
theorem x_il {i x : Int} (hc : cg c pc = some (2, [i])) (hl : ls[i.toNat]? = some (0, x)) (hp : pc + 1 = pc') (k : Ex sx d c rz pc' ls ((0, x) :: st) M r) : Ex sx d c rz pc ls st M r := by
  subst hp
  obtain ⟨n, k⟩ := k
  refine x_of hc ⟨n, ?_⟩
  generalize run (callD false d n) rcv false sx c rz 100000 (fun _ _ _ => none) n = K at k ⊢
  rw [act_2]
  show (match ls[i.toNat]? with | some (0, x) => K (pc + 1) ls ((0, x) :: st) M | _ => none) = some r
  rw [hl]; exact k
theorem x_ll {i x : Int} (hc : cg c pc = some (3, [i])) (hl : ls[i.toNat]? = some (1, x)) (hp : pc + 1 = pc') (k : Ex sx d c rz pc' ls ((1, x) :: st) M r) : Ex sx d c rz pc ls st M r := by
  subst hp
  obtain ⟨n, k⟩ := k
  refine x_of hc ⟨n, ?_⟩
  generalize run (callD false d n) rcv false sx c rz 100000 (fun _ _ _ => none) n = K at k ⊢
  rw [act_3]
  show (match ls[i.toNat]? with | some (1, x) => K (pc + 1) ls ((1, x) :: st) M | _ => none) = some r
  rw [hl]; exact k
theorem x_al {i x : Int} (hc : cg c pc = some (4, [i])) (hl : ls[i.toNat]? = some (2, x)) (h0 : 0 ≤ x) (hp : pc + 1 = pc') (k : Ex sx d c rz pc' ls ((2, x) :: st) M r) : Ex sx d c rz pc ls st M r := by
  subst hp
  obtain ⟨n, k⟩ := k
  refine x_of hc ⟨n, ?_⟩
  generalize run (callD false d n) rcv false sx c rz 100000 (fun _ _ _ => none) n = K at k ⊢
  rw [act_4]
  show (match ls[i.toNat]? with | some (2, x) => (if 0 ≤ x then K (pc + 1) ls ((2, x) :: st) M else none) | _ => none) = some r
  rw [hl]
  exact (if_pos h0).trans k
theorem x_is {i x : Int} {ls' : List AV} (hc : cg c pc = some (5, [i])) (hl : Nat.blt i.toNat ls.length = true) (he : setL ls i.toNat (0, x) = ls') (hp : pc + 1 = pc') (k : Ex sx d c rz pc' ls' st M r) : Ex sx d c rz pc ls ((0, x) :: st) M r := by
  subst hp
  obtain ⟨n, k⟩ := k
  refine x_of hc ⟨n, ?_⟩
  generalize run (callD false d n) rcv false sx c rz 100000 (fun _ _ _ => none) n = K at k ⊢
  rw [act_5]
  subst he
  exact (if_pos (show i.toNat < ls.length from Nat.le_of_ble_eq_true hl)).trans k
theorem x_ls {i x : Int} {ls' : List AV} (hc : cg c pc = some (6, [i])) (hl : Nat.blt (i.toNat + 1) ls.length = true) (he : (setL ls i.toNat (1, x)).set (i.toNat + 1) (3, 0) = ls') (hp : pc + 1 = pc') (k : Ex sx d c rz pc' ls' st M r) : Ex sx d c rz pc ls ((1, x) :: st) M r := by
  subst hp
  obtain ⟨n, k⟩ := k
  refine x_of hc ⟨n, ?_⟩
  generalize run (callD false d n) rcv false sx c rz 100000 (fun _ _ _ => none) n = K at k ⊢
  rw [act_6]
  subst he
  exact (if_pos (show i.toNat + 1 < ls.length from Nat.le_of_ble_eq_true hl)).trans k
theorem x_as {i x : Int} {ls' : List AV} (hc : cg c pc = some (7, [i])) (hl : Nat.blt i.toNat ls.length = true) (h0 : 0 ≤ x) (he : setL ls i.toNat (2, x) = ls') (hp : pc + 1 = pc') (k : Ex sx d c rz pc' ls' st M r) : Ex sx d c rz pc ls ((2, x) :: st) M r := by
  subst hp
  obtain ⟨n, k⟩ := k
  refine x_of hc ⟨n, ?_⟩
  generalize run (callD false d n) rcv false sx c rz 100000 (fun _ _ _ => none) n = K at k ⊢
  rw [act_7]
  subst he
  exact (if_pos (show i.toNat < ls.length ∧ 0 ≤ x from ⟨Nat.le_of_ble_eq_true hl, h0⟩)).trans k
theorem x_inc {i x cst : Int} {ls' : List AV} (hc : cg c pc = some (8, [i, cst])) (hl : ls[i.toNat]? = some (0, x)) (he : setL ls i.toNat (0, w32 (x + cst)) = ls') (hp : pc + 1 = pc') (k : Ex sx d c rz pc' ls' st M r) : Ex sx d c rz pc ls st M r := by
  subst hp
  obtain ⟨n, k⟩ := k
  refine x_of hc ⟨n, ?_⟩
  generalize run (callD false d n) rcv false sx c rz 100000 (fun _ _ _ => none) n = K at k ⊢
  rw [act_8]
  subst he
  show (match ls[i.toNat]? with | some (0, x) => K (pc + 1) (setL ls i.toNat (0, w32 (x + cst))) st M | _ => none) = some r
  rw [hl]; exact k
theorem x_ib {b x y v : Int} (hc : cg c pc = some (9, [b])) (hv : ibin b x y = some v) (hp : pc + 1 = pc') (k : Ex sx d c rz pc' ls ((0, v) :: st) M r) : Ex sx d c rz pc ls ((0, y) :: (0, x) :: st) M r := by
  subst hp
  obtain ⟨n, k⟩ := k
  refine x_of hc ⟨n, ?_⟩
  generalize run (callD false d n) rcv false sx c rz 100000 (fun _ _ _ => none) n = K at k ⊢
  rw [act_9]
  show (match ibin b x y with | some v => K (pc + 1) ls ((0, v) :: st) M | none => none) = some r
  rw [hv]; exact k
theorem x_lb {b x y v : Int} (hc : cg c pc = some (10, [b])) (hv : lbin b x y = some v) (hp : pc + 1 = pc') (k : Ex sx d c rz pc' ls ((1, v) :: st) M r) : Ex sx d c rz pc ls ((1, y) :: (1, x) :: st) M r := by
  subst hp
  obtain ⟨n, k⟩ := k
  refine x_of hc ⟨n, ?_⟩
  generalize run (callD false d n) rcv false sx c rz 100000 (fun _ _ _ => none) n = K at k ⊢
  rw [act_10]
  show (match lbin b x y with | some v => K (pc + 1) ls ((1, v) :: st) M | none => none) = some r
  rw [hv]; exact k
theorem x_neg {x : Int} {o : List Int} (hc : cg c pc = some (11, o)) (hp : pc + 1 = pc') (k : Ex sx d c rz pc' ls ((0, w32 (-x)) :: st) M r) : Ex sx d c rz pc ls ((0, x) :: st) M r := by
  subst hp
  obtain ⟨n, k⟩ := k
  refine x_of hc ⟨n, ?_⟩
  generalize run (callD false d n) rcv false sx c rz 100000 (fun _ _ _ => none) n = K at k ⊢
  rw [act_11]
  exact k
theorem x_i2l {x : Int} {o : List Int} (hc : cg c pc = some (12, o)) (hp : pc + 1 = pc') (k : Ex sx d c rz pc' ls ((1, x) :: st) M r) : Ex sx d c rz pc ls ((0, x) :: st) M r := by
  subst hp
  obtain ⟨n, k⟩ := k
  refine x_of hc ⟨n, ?_⟩
  generalize run (callD false d n) rcv false sx c rz 100000 (fun _ _ _ => none) n = K at k ⊢
  rw [act_12]
  exact k
theorem x_l2i {x : Int} {o : List Int} (hc : cg c pc = some (13, o)) (hp : pc + 1 = pc') (k : Ex sx d c rz pc' ls ((0, w32 x) :: st) M r) : Ex sx d c rz pc ls ((1, x) :: st) M r := by
  subst hp
  obtain ⟨n, k⟩ := k
  refine x_of hc ⟨n, ?_⟩
  generalize run (callD false d n) rcv false sx c rz 100000 (fun _ _ _ => none) n = K at k ⊢
  rw [act_13]
  exact k
theorem x_i2b {x : Int} {o : List Int} (hc : cg c pc = some (14, o)) (hp : pc + 1 = pc') (k : Ex sx d c rz pc' ls ((0, Int.bmod x 256) :: st) M r) : Ex sx d c rz pc ls ((0, x) :: st) M r := by
  subst hp
  obtain ⟨n, k⟩ := k
  refine x_of hc ⟨n, ?_⟩
  generalize run (callD false d n) rcv false sx c rz 100000 (fun _ _ _ => none) n = K at k ⊢
  rw [act_14]
  exact k
theorem x_i2s {x : Int} {o : List Int} (hc : cg c pc = some (15, o)) (hp : pc + 1 = pc') (k : Ex sx d c rz pc' ls ((0, Int.bmod x 65536) :: st) M r) : Ex sx d c rz pc ls ((0, x) :: st) M r := by
  subst hp
  obtain ⟨n, k⟩ := k
  refine x_of hc ⟨n, ?_⟩
  generalize run (callD false d n) rcv false sx c rz 100000 (fun _ _ _ => none) n = K at k ⊢
  rw [act_15]
  exact k
theorem x_lcmp {x y : Int} {o : List Int} (hc : cg c pc = some (16, o)) (hp : pc + 1 = pc') (k : Ex sx d c rz pc' ls ((0, lcmpI x y) :: st) M r) : Ex sx d c rz pc ls ((1, y) :: (1, x) :: st) M r := by
  subst hp
  obtain ⟨n, k⟩ := k
  refine x_of hc ⟨n, ?_⟩
  generalize run (callD false d n) rcv false sx c rz 100000 (fun _ _ _ => none) n = K at k ⊢
  rw [act_16]
  exact k
theorem x_lsh {x y : Int} {o : List Int} (hc : cg c pc = some (17, o)) (hp : pc + 1 = pc') (k : Ex sx d c rz pc' ls ((1, lshl x y) :: st) M r) : Ex sx d c rz pc ls ((0, y) :: (1, x) :: st) M r := by
  subst hp
  obtain ⟨n, k⟩ := k
  refine x_of hc ⟨n, ?_⟩
  generalize run (callD false d n) rcv false sx c rz 100000 (fun _ _ _ => none) n = K at k ⊢
  rw [act_17]
  exact k
theorem x_ifeq {t x : Int} {t' : Nat} (hc : cg c pc = some (18, [0, t])) (ht : t.toNat = t') (hp : pc + 1 = pc') (kt : x = 0 → Ex sx d c rz t' ls st M r) (kf : ¬ (x = 0) → Ex sx d c rz pc' ls st M r) : Ex sx d c rz pc ls ((0, x) :: st) M r := by
  subst hp
  subst ht
  by_cases q : x = 0
  · obtain ⟨n, k⟩ := kt q
    refine x_of hc ⟨n, ?_⟩
    rw [act_18]
    exact (if_pos (show icond 0 x 0 = true from decide_eq_true q)).trans k
  · obtain ⟨n, k⟩ := kf q
    refine x_of hc ⟨n, ?_⟩
    rw [act_18]
    exact (if_neg (show ¬ icond 0 x 0 = true from fun z => q (of_decide_eq_true z))).trans k
theorem x_iceq {t x y : Int} {t' : Nat} (hc : cg c pc = some (19, [0, t])) (ht : t.toNat = t') (hp : pc + 1 = pc') (kt : x = y → Ex sx d c rz t' ls st M r) (kf : ¬ (x = y) → Ex sx d c rz pc' ls st M r) : Ex sx d c rz pc ls ((0, y) :: (0, x) :: st) M r := by
  subst hp
  subst ht
  by_cases q : x = y
  · obtain ⟨n, k⟩ := kt q
    refine x_of hc ⟨n, ?_⟩
    rw [act_19]
    exact (if_pos (show icond 0 x y = true from decide_eq_true q)).trans k
  · obtain ⟨n, k⟩ := kf q
    refine x_of hc ⟨n, ?_⟩
    rw [act_19]
    exact (if_neg (show ¬ icond 0 x y = true from fun z => q (of_decide_eq_true z))).trans k
theorem x_ifne {t x : Int} {t' : Nat} (hc : cg c pc = some (18, [1, t])) (ht : t.toNat = t') (hp : pc + 1 = pc') (kt : ¬ x = 0 → Ex sx d c rz t' ls st M r) (kf : ¬ (¬ x = 0) → Ex sx d c rz pc' ls st M r) : Ex sx d c rz pc ls ((0, x) :: st) M r := by
  subst hp
  subst ht
  by_cases q : ¬ x = 0
  · obtain ⟨n, k⟩ := kt q
    refine x_of hc ⟨n, ?_⟩
    rw [act_18]
    exact (if_pos (show icond 1 x 0 = true from decide_eq_true q)).trans k
  · obtain ⟨n, k⟩ := kf q
    refine x_of hc ⟨n, ?_⟩
    rw [act_18]
    exact (if_neg (show ¬ icond 1 x 0 = true from fun z => q (of_decide_eq_true z))).trans k
theorem x_icne {t x y : Int} {t' : Nat} (hc : cg c pc = some (19, [1, t])) (ht : t.toNat = t') (hp : pc + 1 = pc') (kt : ¬ x = y → Ex sx d c rz t' ls st M r) (kf : ¬ (¬ x = y) → Ex sx d c rz pc' ls st M r) : Ex sx d c rz pc ls ((0, y) :: (0, x) :: st) M r := by
  subst hp
  subst ht
  by_cases q : ¬ x = y
  · obtain ⟨n, k⟩ := kt q
    refine x_of hc ⟨n, ?_⟩
    rw [act_19]
    exact (if_pos (show icond 1 x y = true from decide_eq_true q)).trans k
  · obtain ⟨n, k⟩ := kf q
    refine x_of hc ⟨n, ?_⟩
    rw [act_19]
    exact (if_neg (show ¬ icond 1 x y = true from fun z => q (of_decide_eq_true z))).trans k
theorem x_iflt {t x : Int} {t' : Nat} (hc : cg c pc = some (18, [2, t])) (ht : t.toNat = t') (hp : pc + 1 = pc') (kt : x < 0 → Ex sx d c rz t' ls st M r) (kf : ¬ (x < 0) → Ex sx d c rz pc' ls st M r) : Ex sx d c rz pc ls ((0, x) :: st) M r := by
  subst hp
  subst ht
  by_cases q : x < 0
  · obtain ⟨n, k⟩ := kt q
    refine x_of hc ⟨n, ?_⟩
    rw [act_18]
    exact (if_pos (show icond 2 x 0 = true from decide_eq_true q)).trans k
  · obtain ⟨n, k⟩ := kf q
    refine x_of hc ⟨n, ?_⟩
    rw [act_18]
    exact (if_neg (show ¬ icond 2 x 0 = true from fun z => q (of_decide_eq_true z))).trans k
theorem x_iclt {t x y : Int} {t' : Nat} (hc : cg c pc = some (19, [2, t])) (ht : t.toNat = t') (hp : pc + 1 = pc') (kt : x < y → Ex sx d c rz t' ls st M r) (kf : ¬ (x < y) → Ex sx d c rz pc' ls st M r) : Ex sx d c rz pc ls ((0, y) :: (0, x) :: st) M r := by
  subst hp
  subst ht
  by_cases q : x < y
  · obtain ⟨n, k⟩ := kt q
    refine x_of hc ⟨n, ?_⟩
    rw [act_19]
    exact (if_pos (show icond 2 x y = true from decide_eq_true q)).trans k
  · obtain ⟨n, k⟩ := kf q
    refine x_of hc ⟨n, ?_⟩
    rw [act_19]
    exact (if_neg (show ¬ icond 2 x y = true from fun z => q (of_decide_eq_true z))).trans k
theorem x_ifge {t x : Int} {t' : Nat} (hc : cg c pc = some (18, [3, t])) (ht : t.toNat = t') (hp : pc + 1 = pc') (kt : 0 ≤ x → Ex sx d c rz t' ls st M r) (kf : ¬ (0 ≤ x) → Ex sx d c rz pc' ls st M r) : Ex sx d c rz pc ls ((0, x) :: st) M r := by
  subst hp
  subst ht
  by_cases q : 0 ≤ x
  · obtain ⟨n, k⟩ := kt q
    refine x_of hc ⟨n, ?_⟩
    rw [act_18]
    exact (if_pos (show icond 3 x 0 = true from decide_eq_true q)).trans k
  · obtain ⟨n, k⟩ := kf q
    refine x_of hc ⟨n, ?_⟩
    rw [act_18]
    exact (if_neg (show ¬ icond 3 x 0 = true from fun z => q (of_decide_eq_true z))).trans k
theorem x_icge {t x y : Int} {t' : Nat} (hc : cg c pc = some (19, [3, t])) (ht : t.toNat = t') (hp : pc + 1 = pc') (kt : y ≤ x → Ex sx d c rz t' ls st M r) (kf : ¬ (y ≤ x) → Ex sx d c rz pc' ls st M r) : Ex sx d c rz pc ls ((0, y) :: (0, x) :: st) M r := by
  subst hp
  subst ht
  by_cases q : y ≤ x
  · obtain ⟨n, k⟩ := kt q
    refine x_of hc ⟨n, ?_⟩
    rw [act_19]
    exact (if_pos (show icond 3 x y = true from decide_eq_true q)).trans k
  · obtain ⟨n, k⟩ := kf q
    refine x_of hc ⟨n, ?_⟩
    rw [act_19]
    exact (if_neg (show ¬ icond 3 x y = true from fun z => q (of_decide_eq_true z))).trans k
theorem x_ifgt {t x : Int} {t' : Nat} (hc : cg c pc = some (18, [4, t])) (ht : t.toNat = t') (hp : pc + 1 = pc') (kt : 0 < x → Ex sx d c rz t' ls st M r) (kf : ¬ (0 < x) → Ex sx d c rz pc' ls st M r) : Ex sx d c rz pc ls ((0, x) :: st) M r := by
  subst hp
  subst ht
  by_cases q : 0 < x
  · obtain ⟨n, k⟩ := kt q
    refine x_of hc ⟨n, ?_⟩
    rw [act_18]
    exact (if_pos (show icond 4 x 0 = true from decide_eq_true q)).trans k
  · obtain ⟨n, k⟩ := kf q
    refine x_of hc ⟨n, ?_⟩
    rw [act_18]
    exact (if_neg (show ¬ icond 4 x 0 = true from fun z => q (of_decide_eq_true z))).trans k
theorem x_icgt {t x y : Int} {t' : Nat} (hc : cg c pc = some (19, [4, t])) (ht : t.toNat = t') (hp : pc + 1 = pc') (kt : y < x → Ex sx d c rz t' ls st M r) (kf : ¬ (y < x) → Ex sx d c rz pc' ls st M r) : Ex sx d c rz pc ls ((0, y) :: (0, x) :: st) M r := by
  subst hp
  subst ht
  by_cases q : y < x
  · obtain ⟨n, k⟩ := kt q
    refine x_of hc ⟨n, ?_⟩
    rw [act_19]
    exact (if_pos (show icond 4 x y = true from decide_eq_true q)).trans k
  · obtain ⟨n, k⟩ := kf q
    refine x_of hc ⟨n, ?_⟩
    rw [act_19]
    exact (if_neg (show ¬ icond 4 x y = true from fun z => q (of_decide_eq_true z))).trans k
theorem x_ifle {t x : Int} {t' : Nat} (hc : cg c pc = some (18, [5, t])) (ht : t.toNat = t') (hp : pc + 1 = pc') (kt : x ≤ 0 → Ex sx d c rz t' ls st M r) (kf : ¬ (x ≤ 0) → Ex sx d c rz pc' ls st M r) : Ex sx d c rz pc ls ((0, x) :: st) M r := by
  subst hp
  subst ht
  by_cases q : x ≤ 0
  · obtain ⟨n, k⟩ := kt q
    refine x_of hc ⟨n, ?_⟩
    rw [act_18]
    exact (if_pos (show icond 5 x 0 = true from decide_eq_true q)).trans k
  · obtain ⟨n, k⟩ := kf q
    refine x_of hc ⟨n, ?_⟩
    rw [act_18]
    exact (if_neg (show ¬ icond 5 x 0 = true from fun z => q (of_decide_eq_true z))).trans k
theorem x_icle {t x y : Int} {t' : Nat} (hc : cg c pc = some (19, [5, t])) (ht : t.toNat = t') (hp : pc + 1 = pc') (kt : x ≤ y → Ex sx d c rz t' ls st M r) (kf : ¬ (x ≤ y) → Ex sx d c rz pc' ls st M r) : Ex sx d c rz pc ls ((0, y) :: (0, x) :: st) M r := by
  subst hp
  subst ht
  by_cases q : x ≤ y
  · obtain ⟨n, k⟩ := kt q
    refine x_of hc ⟨n, ?_⟩
    rw [act_19]
    exact (if_pos (show icond 5 x y = true from decide_eq_true q)).trans k
  · obtain ⟨n, k⟩ := kf q
    refine x_of hc ⟨n, ?_⟩
    rw [act_19]
    exact (if_neg (show ¬ icond 5 x y = true from fun z => q (of_decide_eq_true z))).trans k
theorem x_goto {t : Int} {t' : Nat} (hc : cg c pc = some (20, [t])) (ht : t.toNat = t') (k : Ex sx d c rz t' ls st M r) : Ex sx d c rz pc ls st M r := by
  subst ht
  obtain ⟨n, k⟩ := k
  refine x_of hc ⟨n, ?_⟩
  rw [act_20]
  exact k
theorem x_tswv {df lo x : Int} {ts : List Int} {t' : Nat} (v : Int) (hc : cg c pc = some (21, df :: lo :: ts)) (hx : x = v) (hi : (decide (v < lo) || decide (lo + ts.length ≤ v)) = false) (ht : (ts.getD (v - lo).toNat 0).toNat = t') (k : Ex sx d c rz t' ls st M r) : Ex sx d c rz pc ls ((0, x) :: st) M r := by
  subst hx
  subst ht
  obtain ⟨n, k⟩ := k
  refine x_of hc ⟨n, ?_⟩
  rw [act_21]
  simp only [Bool.or_eq_false_iff, decide_eq_false_iff_not] at hi
  exact (if_neg (fun z => z.elim hi.1 hi.2)).trans k
theorem x_tswd {df lo x : Int} {ts : List Int} {t' : Nat} (hc : cg c pc = some (21, df :: lo :: ts)) (hx : x < lo ∨ lo + ts.length ≤ x) (ht : df.toNat = t') (k : Ex sx d c rz t' ls st M r) : Ex sx d c rz pc ls ((0, x) :: st) M r := by
  subst ht
  obtain ⟨n, k⟩ := k
  refine x_of hc ⟨n, ?_⟩
  rw [act_21]
  exact (if_pos hx).trans k
theorem x_lsw {df x : Int} {rr : List Int} {t' : Nat} (hc : cg c pc = some (22, df :: rr)) (ht : (lswT rr df x).toNat = t') (k : Ex sx d c rz t' ls st M r) : Ex sx d c rz pc ls ((0, x) :: st) M r := by
  subst ht
  obtain ⟨n, k⟩ := k
  refine x_of hc ⟨n, ?_⟩
  rw [act_22]
  exact k
theorem x_dupi {x : Int} {o : List Int} (hc : cg c pc = some (23, o)) (hp : pc + 1 = pc') (k : Ex sx d c rz pc' ls ((0, x) :: (0, x) :: st) M r) : Ex sx d c rz pc ls ((0, x) :: st) M r := by
  subst hp
  obtain ⟨n, k⟩ := k
  refine x_of hc ⟨n, ?_⟩
  generalize run (callD false d n) rcv false sx c rz 100000 (fun _ _ _ => none) n = K at k ⊢
  rw [act_23]
  exact k
theorem x_dupa {x : Int} {o : List Int} (hc : cg c pc = some (23, o)) (hp : pc + 1 = pc') (k : Ex sx d c rz pc' ls ((2, x) :: (2, x) :: st) M r) : Ex sx d c rz pc ls ((2, x) :: st) M r := by
  subst hp
  obtain ⟨n, k⟩ := k
  refine x_of hc ⟨n, ?_⟩
  generalize run (callD false d n) rcv false sx c rz 100000 (fun _ _ _ => none) n = K at k ⊢
  rw [act_23]
  exact k
theorem x_pop {x : Int} {o : List Int} (hc : cg c pc = some (24, o)) (hp : pc + 1 = pc') (k : Ex sx d c rz pc' ls st M r) : Ex sx d c rz pc ls ((0, x) :: st) M r := by
  subst hp
  obtain ⟨n, k⟩ := k
  refine x_of hc ⟨n, ?_⟩
  generalize run (callD false d n) rcv false sx c rz 100000 (fun _ _ _ => none) n = K at k ⊢
  rw [act_24]
  exact k
theorem x_dupx1 {x y : Int} {o : List Int} (hc : cg c pc = some (25, o)) (hp : pc + 1 = pc') (k : Ex sx d c rz pc' ls ((0, y) :: (2, x) :: (0, y) :: st) M r) : Ex sx d c rz pc ls ((0, y) :: (2, x) :: st) M r := by
  subst hp
  obtain ⟨n, k⟩ := k
  refine x_of hc ⟨n, ?_⟩
  generalize run (callD false d n) rcv false sx c rz 100000 (fun _ _ _ => none) n = K at k ⊢
  rw [act_25]
  exact k
theorem x_dup2 {x y : Int} {o : List Int} (hc : cg c pc = some (26, o)) (hp : pc + 1 = pc') (k : Ex sx d c rz pc' ls ((0, y) :: (2, x) :: (0, y) :: (2, x) :: st) M r) : Ex sx d c rz pc ls ((0, y) :: (2, x) :: st) M r := by
  subst hp
  obtain ⟨n, k⟩ := k
  refine x_of hc ⟨n, ?_⟩
  generalize run (callD false d n) rcv false sx c rz 100000 (fun _ _ _ => none) n = K at k ⊢
  rw [act_26]
  exact k
/-- an object of this number and kind -/
def obK (a : Int) (ci : Nat) : Bool := decide (0 ≤ a) && Nat.blt a.toNat 89 && decide (shp a.toNat = (4, ci))
theorem obK_is {M : Mem} {a : Int} {ci : Nat} (h : obK a ci = true) : isObj false M ci a = true := by
  unfold obK at h
  simp only [Bool.and_eq_true] at h
  unfold isObj live
  simp only [Bool.and_eq_true]
  exact ⟨⟨h.1.1, decide_eq_true (Nat.le_of_ble_eq_true h.1.2)⟩, h.2⟩
theorem x_gf {f ci kd a v : Int} (hc : cg c pc = some (27, [f, ci, kd])) (ho : obK a ci.toNat = true) (hk : decide (kd = 2) = false) (hv : M a.toNat f = v) (hp : pc + 1 = pc') (k : Ex sx d c rz pc' ls ((0, v) :: st) M r) : Ex sx d c rz pc ls ((2, a) :: st) M r := by
  subst hp
  obtain ⟨n, k⟩ := k
  refine x_of hc ⟨n, ?_⟩
  generalize run (callD false d n) rcv false sx c rz 100000 (fun _ _ _ => none) n = K at k ⊢
  rw [act_27]
  subst hv
  exact (if_pos (obK_is ho)).trans ((if_neg (of_decide_eq_false hk)).trans k)
theorem x_gr {f ci v a : Int} (hc : cg c pc = some (27, [f, ci, 2])) (ho : obK a ci.toNat = true) (hv : rfc a.toNat f = v) (h0 : 0 ≤ v) (hp : pc + 1 = pc') (k : Ex sx d c rz pc' ls ((2, v) :: st) M r) : Ex sx d c rz pc ls ((2, a) :: st) M r := by
  subst hp
  obtain ⟨n, k⟩ := k
  refine x_of hc ⟨n, ?_⟩
  generalize run (callD false d n) rcv false sx c rz 100000 (fun _ _ _ => none) n = K at k ⊢
  rw [act_27]
  subst hv
  exact (if_pos (obK_is ho)).trans ((if_pos rfl).trans ((if_pos (show 0 ≤ gr false M a.toNat f from h0)).trans k))
theorem x_pf {f ci v a : Int} {M2 : Mem} (hc : cg c pc = some (28, [f, ci, 0])) (hM : up M a.toNat f v = M2) (ho : obK a ci.toNat = true) (hp : pc + 1 = pc') (k : Ex sx d c rz pc' ls st M2 r) : Ex sx d c rz pc ls ((0, v) :: (2, a) :: st) M r := by
  subst hp
  obtain ⟨n, k⟩ := k
  refine x_of hc ⟨n, ?_⟩
  generalize run (callD false d n) rcv false sx c rz 100000 (fun _ _ _ => none) n = K at k ⊢
  rw [act_28]
  subst hM
  exact (if_pos (show isObj false M ci.toNat a = true ∧ ((0 : Int) = 0 ∨ ((0 : Int) = 1 ∧ (v = 0 ∨ v = 1))) from ⟨obK_is ho, Or.inl rfl⟩)).trans k
theorem x_pz {f ci v a : Int} {M2 : Mem} (hc : cg c pc = some (28, [f, ci, 1])) (hM : up M a.toNat f v = M2) (ho : obK a ci.toNat = true) (hz : v = 0 ∨ v = 1) (hp : pc + 1 = pc') (k : Ex sx d c rz pc' ls st M2 r) : Ex sx d c rz pc ls ((0, v) :: (2, a) :: st) M r := by
  subst hp
  obtain ⟨n, k⟩ := k
  refine x_of hc ⟨n, ?_⟩
  generalize run (callD false d n) rcv false sx c rz 100000 (fun _ _ _ => none) n = K at k ⊢
  rw [act_28]
  subst hM
  exact (if_pos (show isObj false M ci.toNat a = true ∧ ((1 : Int) = 0 ∨ ((1 : Int) = 1 ∧ (v = 0 ∨ v = 1))) from ⟨obK_is ho, Or.inr ⟨rfl, hz⟩⟩)).trans k
/-- a row of this kind and length -/
def arK (a : Int) (kd n : Nat) : Bool := decide (0 ≤ a) && Nat.blt a.toNat 89 && decide (shp a.toNat = (kd, n))
theorem arK_in {M : Mem} {a i : Int} {kd n : Nat} (h : arK a kd n = true) (h0 : 0 ≤ i) (h1 : i < (n : Int)) : inArr false M kd a i = true := by
  unfold arK at h
  simp only [Bool.and_eq_true] at h
  have hs := of_decide_eq_true h.2
  unfold inArr live
  rw [hs]
  simp only [Bool.and_eq_true, decide_eq_true_eq]
  exact ⟨⟨of_decide_eq_true h.1.1, Nat.le_of_ble_eq_true h.1.2⟩, ⟨trivial, h0⟩, h1⟩
theorem arK_ld {sx : SX} {M : Mem} {a i : Int} {n : Nat} (h : arK a 0 n = true) (h0 : 0 ≤ i) (h1 : i < (n : Int)) : ldI false sx M a i = some (M a.toNat i) := by
  unfold arK at h
  simp only [Bool.and_eq_true] at h
  have hs := of_decide_eq_true h.2
  have h2 := of_decide_eq_true h.1.1
  have h3 : a.toNat < 89 := Nat.le_of_ble_eq_true h.1.2
  unfold ldI
  have hlv : live false M a = true := by
    unfold live
    simp only [Bool.and_eq_true, decide_eq_true_eq]
    exact ⟨h2, h3⟩
  rw [if_neg (by omega), hs]
  exact (if_pos (show 0 ≤ i ∧ i < (n : Int) from ⟨h0, h1⟩)).trans ((if_neg (by omega)).trans (if_pos hlv))
theorem arK_2d {a i : Int} (h0 : 0 ≤ i) (h1 : i < 12) (ha : a = 3 ∨ a = 16) : arK (a + i) 0 10 = true := by
  obtain ⟨j, rfl⟩ : ∃ j : Nat, i = j := ⟨i.toNat, by omega⟩
  have : ∀ j : Nat, j < 12 → arK (3 + (j : Int)) 0 10 = true ∧ arK (16 + (j : Int)) 0 10 = true := by decide +kernel
  rcases ha with rfl | rfl
  · exact (this j (by omega)).1
  · exact (this j (by omega)).2
theorem arK_2l {i : Int} (h0 : 0 ≤ i) (h1 : i < 6) : arK (55 + i) 1 60 = true := by
  obtain ⟨j, rfl⟩ : ∃ j : Nat, i = j := ⟨i.toNat, by omega⟩
  have : ∀ j : Nat, j < 6 → arK (55 + (j : Int)) 1 60 = true := by decide +kernel
  exact this j (by omega)
theorem x_ia {i a v : Int} {o : List Int} (n : Nat) (hc : cg c pc = some (29, o)) (hv : M a.toNat i = v) (ha : arK a 0 n = true) (h0 : 0 ≤ i) (h1 : i < (n : Int)) (hp : pc + 1 = pc') (k : Ex sx d c rz pc' ls ((0, v) :: st) M r) : Ex sx d c rz pc ls ((0, i) :: (2, a) :: st) M r := by
  subst hp
  obtain ⟨n, k⟩ := k
  refine x_of hc ⟨n, ?_⟩
  generalize run (callD false d n) rcv false sx c rz 100000 (fun _ _ _ => none) n = K at k ⊢
  rw [act_29]
  subst hv
  show (match ldI false sx M a i with | some v => K (pc + 1) ls ((0, v) :: st) M | none => none) = some r
  rw [arK_ld ha h0 h1]; exact k
theorem x_iav {i a v : Int} {o : List Int} (hc : cg c pc = some (29, o)) (hv : ldI false sx M a i = some v) (hp : pc + 1 = pc') (k : Ex sx d c rz pc' ls ((0, v) :: st) M r) : Ex sx d c rz pc ls ((0, i) :: (2, a) :: st) M r := by
  subst hp
  obtain ⟨n, k⟩ := k
  refine x_of hc ⟨n, ?_⟩
  generalize run (callD false d n) rcv false sx c rz 100000 (fun _ _ _ => none) n = K at k ⊢
  rw [act_29]
  show (match ldI false sx M a i with | some v => K (pc + 1) ls ((0, v) :: st) M | none => none) = some r
  rw [hv]; exact k
theorem x_la {i a v : Int} {o : List Int} (n : Nat) (hc : cg c pc = some (30, o)) (hv : M a.toNat i = v) (ha : arK a 1 n = true) (h0 : 0 ≤ i) (h1 : i < (n : Int)) (hp : pc + 1 = pc') (k : Ex sx d c rz pc' ls ((1, v) :: st) M r) : Ex sx d c rz pc ls ((0, i) :: (2, a) :: st) M r := by
  subst hp
  obtain ⟨n, k⟩ := k
  refine x_of hc ⟨n, ?_⟩
  generalize run (callD false d n) rcv false sx c rz 100000 (fun _ _ _ => none) n = K at k ⊢
  rw [act_30]
  subst hv
  exact (if_pos (arK_in ha h0 h1)).trans k
theorem x_aa {i a v : Int} {o : List Int} (kd n : Nat) (hc : cg c pc = some (31, o)) (ha : arK a kd n = true) (hk : kd = 2 ∨ kd = 3) (h0 : 0 ≤ i) (h1 : i < (n : Int)) (hv : rfc a.toNat i = v) (hv0 : 0 ≤ v) (hp : pc + 1 = pc') (k : Ex sx d c rz pc' ls ((2, v) :: st) M r) : Ex sx d c rz pc ls ((0, i) :: (2, a) :: st) M r := by
  subst hp
  obtain ⟨n, k⟩ := k
  refine x_of hc ⟨n, ?_⟩
  generalize run (callD false d n) rcv false sx c rz 100000 (fun _ _ _ => none) n = K at k ⊢
  rw [act_31]
  subst hv
  refine (if_pos (show (inArr false M 2 a i = true ∨ inArr false M 3 a i = true) ∧ 0 ≤ gr false M a.toNat i from ⟨?_, hv0⟩)).trans k
  rcases hk with rfl | rfl
  · exact Or.inl (arK_in ha h0 h1)
  · exact Or.inr (arK_in ha h0 h1)
theorem x_ist {i a v : Int} {o : List Int} {M2 : Mem} (n : Nat) (hc : cg c pc = some (32, o)) (hM : up M a.toNat i v = M2) (ha : arK a 0 n = true) (h0 : 0 ≤ i) (h1 : i < (n : Int)) (hp : pc + 1 = pc') (k : Ex sx d c rz pc' ls st M2 r) : Ex sx d c rz pc ls ((0, v) :: (0, i) :: (2, a) :: st) M r := by
  subst hp
  obtain ⟨n, k⟩ := k
  refine x_of hc ⟨n, ?_⟩
  generalize run (callD false d n) rcv false sx c rz 100000 (fun _ _ _ => none) n = K at k ⊢
  rw [act_32]
  subst hM
  exact (if_pos (arK_in ha h0 h1)).trans k
theorem x_lst {i a v : Int} {o : List Int} {M2 : Mem} (n : Nat) (hc : cg c pc = some (33, o)) (hM : up M a.toNat i v = M2) (ha : arK a 1 n = true) (h0 : 0 ≤ i) (h1 : i < (n : Int)) (hp : pc + 1 = pc') (k : Ex sx d c rz pc' ls st M2 r) : Ex sx d c rz pc ls ((1, v) :: (0, i) :: (2, a) :: st) M r := by
  subst hp
  obtain ⟨n, k⟩ := k
  refine x_of hc ⟨n, ?_⟩
  generalize run (callD false d n) rcv false sx c rz 100000 (fun _ _ _ => none) n = K at k ⊢
  rw [act_33]
  subst hM
  exact (if_pos (arK_in ha h0 h1)).trans k
theorem x_len {o : List Int} (hc : cg c pc = some (34, o)) (h0 : 0 ≤ sx.1) (hp : pc + 1 = pc') (k : Ex sx d c rz pc' ls ((0, sx.1) :: st) M r) : Ex sx d c rz pc ls ((2, 93) :: st) M r := by
  subst hp
  obtain ⟨n, k⟩ := k
  refine x_of hc ⟨n, ?_⟩
  generalize run (callD false d n) rcv false sx c rz 100000 (fun _ _ _ => none) n = K at k ⊢
  rw [act_34]
  exact (if_pos (show (93 : Int) = 93 ∧ 0 ≤ sx.1 from ⟨rfl, h0⟩)).trans k
theorem x_gs {a : Int} (hc : cg c pc = some (35, [a])) (h : (decide (90 ≤ a) && decide (a ≤ 92)) = true) (hp : pc + 1 = pc') (k : Ex sx d c rz pc' ls ((2, a) :: st) M r) : Ex sx d c rz pc ls st M r := by
  subst hp
  obtain ⟨n, k⟩ := k
  refine x_of hc ⟨n, ?_⟩
  generalize run (callD false d n) rcv false sx c rz 100000 (fun _ _ _ => none) n = K at k ⊢
  rw [act_35]
  simp only [Bool.and_eq_true, decide_eq_true_eq] at h
  exact (if_pos h).trans k
/-- what a call's receiver must be -/
def rcK (rc : Nat) (as : List AV) : Bool := if Nat.beq rc 99 = true then true else match as with
  | (2, a) :: _ => obK a rc
  | _ => false
theorem rcK_is {M : Mem} {rc : Nat} {as : List AV} (h : rcK rc as = true) : recvOK false M rc as = true := by
  unfold rcK at h
  unfold recvOK
  by_cases q : rc = 99
  · rw [if_pos q]
  · rw [if_neg q]
    rw [if_neg (fun z => q (Nat.eq_of_beq_eq_true z))] at h
    split at h
    · exact obK_is h
    · cases h
theorem x_call {y n v : Int} {t : Nat} {as rest : List AV} {M' : Mem} (hc : cg c pc = some (39, [y, n])) (hs : (Nat.ble n.toNat st.length && Nat.ble (wsum (st.drop n.toNat)) 8) = true) (ha : (st.take n.toNat).reverse = as) (hr : rcK (rcv y.toNat) as = true) (hd : st.drop n.toNat = rest) (hp : pc + 1 = pc') (q : Cl d y.toNat as M (some (t, v), M')) (k : Ex sx d c rz pc' ls ((t, v) :: rest) M' r) : Ex sx d c rz pc ls st M r := by
  subst hp
  obtain ⟨n1, q⟩ := q
  obtain ⟨n2, k⟩ := k
  have k' := run_mono (fun y as M r h => callD_mono d d n2 (n1 + n2) y as M r (Nat.le_refl _) (by omega) h) n2 (n1 + n2) _ _ _ _ (by omega) k
  have q' := callD_mono d d n1 (n1 + n2) _ _ _ _ (Nat.le_refl _) (by omega) q
  refine x_of hc ⟨n1 + n2, ?_⟩
  rw [act_39]
  simp only [Bool.and_eq_true] at hs
  dsimp only
  rw [if_pos ⟨Nat.le_of_ble_eq_true hs.1, Nat.le_of_ble_eq_true hs.2, by rw [ha]; exact rcK_is hr⟩, ha, hd, q']
  exact k'
theorem x_callv {y n : Int} {as rest : List AV} {M' : Mem} (hc : cg c pc = some (39, [y, n])) (hs : (Nat.ble n.toNat st.length && Nat.ble (wsum (st.drop n.toNat)) 8) = true) (ha : (st.take n.toNat).reverse = as) (hr : rcK (rcv y.toNat) as = true) (hd : st.drop n.toNat = rest) (hp : pc + 1 = pc') (q : Cl d y.toNat as M (none, M')) (k : Ex sx d c rz pc' ls rest M' r) : Ex sx d c rz pc ls st M r := by
  subst hp
  obtain ⟨n1, q⟩ := q
  obtain ⟨n2, k⟩ := k
  have k' := run_mono (fun y as M r h => callD_mono d d n2 (n1 + n2) y as M r (Nat.le_refl _) (by omega) h) n2 (n1 + n2) _ _ _ _ (by omega) k
  have q' := callD_mono d d n1 (n1 + n2) _ _ _ _ (Nat.le_refl _) (by omega) q
  refine x_of hc ⟨n1 + n2, ?_⟩
  rw [act_39]
  simp only [Bool.and_eq_true] at hs
  dsimp only
  rw [if_pos ⟨Nat.le_of_ble_eq_true hs.1, Nat.le_of_ble_eq_true hs.2, by rw [ha]; exact rcK_is hr⟩, ha, hd, q']
  exact k'
theorem x_cpy {n j b i a : Int} {o : List Int} {ka na nb : Nat} (hc : cg c pc = some (41, o)) (hs : Nat.ble st.length 3 = true) (ha : arK a ka na = true) (hb : arK b ka nb = true) (hk : ka = 0 ∨ ka = 1) (hi : 0 ≤ i) (hj : 0 ≤ j) (hn : 0 ≤ n) (h1 : i + n ≤ (na : Int)) (h2 : j + n ≤ (nb : Int)) {M2 : Mem} (hM : cpy M a.toNat b.toNat i j n = M2) (hp : pc + 1 = pc') (k : Ex sx d c rz pc' ls st M2 r) : Ex sx d c rz pc ls ((0, n) :: (0, j) :: (2, b) :: (0, i) :: (2, a) :: st) M r := by
  subst hp; subst hM
  obtain ⟨n2, k⟩ := k
  refine x_of hc ⟨n2, ?_⟩
  rw [act_41]
  unfold arK at ha hb
  simp only [Bool.and_eq_true] at ha hb
  have hsa := of_decide_eq_true ha.2
  have hsb := of_decide_eq_true hb.2
  have lv : ∀ {a : Int}, decide (0 ≤ a) = true → Nat.blt a.toNat 89 = true → live false M a = true := fun h1 h2 => by
    unfold live
    simp only [Bool.and_eq_true]
    exact ⟨h1, decide_eq_true (Nat.le_of_ble_eq_true h2)⟩
  exact (if_pos (show false = false ∧ st.length ≤ 3 ∧ live false M a = true ∧ live false M b = true ∧ 0 ≤ i ∧ 0 ≤ j ∧ 0 ≤ n ∧ ((shp a.toNat).1 = 0 ∨ (shp a.toNat).1 = 1) ∧ (shp a.toNat).1 = (shp b.toNat).1 ∧ i + n ≤ ((shp a.toNat).2 : Int) ∧ j + n ≤ ((shp b.toNat).2 : Int) from ⟨rfl, Nat.le_of_ble_eq_true hs, lv ha.1.1 ha.1.2, lv hb.1.1 hb.1.2, hi, hj, hn, by rw [hsa]; exact hk, by rw [hsa, hsb], by rw [hsa]; exact h1, by rw [hsb]; exact h2⟩)).trans k
theorem x_abs {x : Int} {o : List Int} (hc : cg c pc = some (45, o)) (hs : Nat.ble st.length 3 = true) (hp : pc + 1 = pc') (k : Ex sx d c rz pc' ls ((0, if 0 ≤ x then x else w32 (0 - x)) :: st) M r) : Ex sx d c rz pc ls ((0, x) :: st) M r := by
  subst hp
  obtain ⟨n, k⟩ := k
  refine x_of hc ⟨n, ?_⟩
  generalize run (callD false d n) rcv false sx c rz 100000 (fun _ _ _ => none) n = K at k ⊢
  rw [act_45]
  exact (if_pos (Nat.le_of_ble_eq_true hs)).trans k
theorem x_max {x y : Int} {o : List Int} (hc : cg c pc = some (46, o)) (hs : Nat.ble st.length 3 = true) (hp : pc + 1 = pc') (k : Ex sx d c rz pc' ls ((0, if x < y then y else x) :: st) M r) : Ex sx d c rz pc ls ((0, y) :: (0, x) :: st) M r := by
  subst hp
  obtain ⟨n, k⟩ := k
  refine x_of hc ⟨n, ?_⟩
  generalize run (callD false d n) rcv false sx c rz 100000 (fun _ _ _ => none) n = K at k ⊢
  rw [act_46]
  exact (if_pos (Nat.le_of_ble_eq_true hs)).trans k
theorem x_min {x y : Int} {o : List Int} (hc : cg c pc = some (47, o)) (hs : Nat.ble st.length 3 = true) (hp : pc + 1 = pc') (k : Ex sx d c rz pc' ls ((0, if y < x then y else x) :: st) M r) : Ex sx d c rz pc ls ((0, y) :: (0, x) :: st) M r := by
  subst hp
  obtain ⟨n, k⟩ := k
  refine x_of hc ⟨n, ?_⟩
  generalize run (callD false d n) rcv false sx c rz 100000 (fun _ _ _ => none) n = K at k ⊢
  rw [act_47]
  exact (if_pos (Nat.le_of_ble_eq_true hs)).trans k
theorem x_ret {o : List Int} (hc : cg c pc = some (42, o)) (h : r = (none, M)) : Ex sx d c 0 pc ls [] M r := by
  refine x_of hc ⟨0, ?_⟩
  rw [act_42, h]
  rfl
theorem ld_st {sx : SX} {M : Mem} {i : Int} (a : Int) (n : Nat) (ha : (decide (90 ≤ a) && decide (a ≤ 92) && decide (shp a.toNat = (0, n))) = true) (h : 0 ≤ i ∧ i < (n : Int)) : ldI false sx M a i = some (stc a.toNat i) := by
  simp only [Bool.and_eq_true, decide_eq_true_eq] at ha
  unfold ldI
  rw [if_neg (by omega), ha.2]
  exact (if_pos h).trans (if_pos ha.1.1)
theorem ld_sx {sx : SX} {M : Mem} {i : Int} (h : 0 ≤ i ∧ i < sx.1) : ldI false sx M 93 i = some (sx.2 i) := by
  unfold ldI
  rw [if_pos rfl, if_pos h]
theorem x_iret {o : List Int} {v : Int} (hc : cg c pc = some (43, o)) (h : r = (some (0, v), M)) : Ex sx d c 1 pc ls [(0, v)] M r := by
  refine x_of hc ⟨0, ?_⟩
  rw [act_43, h]
  rfl
theorem x_zret {o : List Int} {v : Int} (hc : cg c pc = some (43, o)) (hz : v = 0 ∨ v = 1) (h : r = (some (0, v), M)) : Ex sx d c 3 pc ls [(0, v)] M r := by
  refine x_of hc ⟨0, ?_⟩
  rw [act_43, h]
  exact if_pos (Or.inr ⟨rfl, hz⟩)
theorem x_lret {o : List Int} {v : Int} (hc : cg c pc = some (44, o)) (h : r = (some (1, v), M)) : Ex sx d c 2 pc ls [(1, v)] M r := by
  refine x_of hc ⟨0, ?_⟩
  rw [act_44, h]
  rfl
theorem ite_t {q : Prop} [Decidable q] {A B : Prop} (h : q) (k : if q then A else B) : A := by rw [if_pos h] at k; exact k
theorem ite_f {q : Prop} [Decidable q] {A B : Prop} (h : ¬ q) (k : if q then A else B) : B := by rw [if_neg h] at k; exact k
end X
