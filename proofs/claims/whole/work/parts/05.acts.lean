/-! act, op by op -/
section ACT
variable {call : Nat → List AV → Mem → Option Res} {rcv : Nat → Nat} {ph : Bool} {sx : Int × (Int → Int)} {rz : Nat} {o : List Int} {pc : Nat} {ls st : List AV} {M : Mem} {k : Nat → List AV → List AV → Mem → Option Res}
theorem act_0 : act call rcv ph sx rz 0 o pc ls st M k = (match o with | [v] => k (pc + 1) ls ((0, v) :: st) M | _ => none) := rfl
theorem act_1 : act call rcv ph sx rz 1 o pc ls st M k = (match o with | [v] => k (pc + 1) ls ((1, v) :: st) M | _ => none) := rfl
theorem act_2 : act call rcv ph sx rz 2 o pc ls st M k = (match o with | [i] => (match ls[i.toNat]? with | some (0, x) => k (pc + 1) ls ((0, x) :: st) M | _ => none) | _ => none) := rfl
theorem act_3 : act call rcv ph sx rz 3 o pc ls st M k = (match o with | [i] => (match ls[i.toNat]? with | some (1, x) => k (pc + 1) ls ((1, x) :: st) M | _ => none) | _ => none) := rfl
theorem act_4 : act call rcv ph sx rz 4 o pc ls st M k = (match o with | [i] => (match ls[i.toNat]? with | some (2, x) => (if 0 ≤ x then k (pc + 1) ls ((2, x) :: st) M else none) | _ => none) | _ => none) := rfl
theorem act_5 : act call rcv ph sx rz 5 o pc ls st M k = (match o, st with | [i], (0, x) :: st => (if i.toNat < ls.length then k (pc + 1) (setL ls i.toNat (0, x)) st M else none) | _, _ => none) := rfl
theorem act_6 : act call rcv ph sx rz 6 o pc ls st M k = (match o, st with | [i], (1, x) :: st => (if i.toNat + 1 < ls.length then k (pc + 1) ((setL ls i.toNat (1, x)).set (i.toNat + 1) (3, 0)) st M else none) | _, _ => none) := rfl
theorem act_7 : act call rcv ph sx rz 7 o pc ls st M k = (match o, st with | [i], (2, x) :: st => (if i.toNat < ls.length ∧ 0 ≤ x then k (pc + 1) (setL ls i.toNat (2, x)) st M else none) | _, _ => none) := rfl
theorem act_8 : act call rcv ph sx rz 8 o pc ls st M k = (match o with | [i, c] => (match ls[i.toNat]? with | some (0, x) => k (pc + 1) (setL ls i.toNat (0, w32 (x + c))) st M | _ => none) | _ => none) := rfl
theorem act_9 : act call rcv ph sx rz 9 o pc ls st M k = (match o, st with | [b], (0, y) :: (0, x) :: st => (match ibin b x y with | some v => k (pc + 1) ls ((0, v) :: st) M | none => none) | _, _ => none) := rfl
theorem act_10 : act call rcv ph sx rz 10 o pc ls st M k = (match o, st with | [b], (1, y) :: (1, x) :: st => (match lbin b x y with | some v => k (pc + 1) ls ((1, v) :: st) M | none => none) | _, _ => none) := rfl
theorem act_11 : act call rcv ph sx rz 11 o pc ls st M k = (match st with | (0, x) :: st => k (pc + 1) ls ((0, w32 (-x)) :: st) M | _ => none) := rfl
theorem act_12 : act call rcv ph sx rz 12 o pc ls st M k = (match st with | (0, x) :: st => k (pc + 1) ls ((1, x) :: st) M | _ => none) := rfl
theorem act_13 : act call rcv ph sx rz 13 o pc ls st M k = (match st with | (1, x) :: st => k (pc + 1) ls ((0, w32 x) :: st) M | _ => none) := rfl
theorem act_14 : act call rcv ph sx rz 14 o pc ls st M k = (match st with | (0, x) :: st => k (pc + 1) ls ((0, Int.bmod x 256) :: st) M | _ => none) := rfl
theorem act_15 : act call rcv ph sx rz 15 o pc ls st M k = (match st with | (0, x) :: st => k (pc + 1) ls ((0, Int.bmod x 65536) :: st) M | _ => none) := rfl
theorem act_16 : act call rcv ph sx rz 16 o pc ls st M k = (match st with | (1, y) :: (1, x) :: st => k (pc + 1) ls ((0, lcmpI x y) :: st) M | _ => none) := rfl
theorem act_17 : act call rcv ph sx rz 17 o pc ls st M k = (match st with | (0, y) :: (1, x) :: st => k (pc + 1) ls ((1, lshl x y) :: st) M | _ => none) := rfl
theorem act_18 : act call rcv ph sx rz 18 o pc ls st M k = (match o, st with | [c, t], (0, x) :: st => (if icond c x 0 = true then k t.toNat ls st M else k (pc + 1) ls st M) | _, _ => none) := rfl
theorem act_19 : act call rcv ph sx rz 19 o pc ls st M k = (match o, st with | [c, t], (0, y) :: (0, x) :: st => (if icond c x y = true then k t.toNat ls st M else k (pc + 1) ls st M) | _, _ => none) := rfl
theorem act_20 : act call rcv ph sx rz 20 o pc ls st M k = (match o with | [t] => k t.toNat ls st M | _ => none) := rfl
theorem act_21 : act call rcv ph sx rz 21 o pc ls st M k = (match o, st with | d :: lo :: ts, (0, x) :: st => (if x < lo ∨ lo + ts.length ≤ x then k d.toNat ls st M else k (ts.getD (x - lo).toNat 0).toNat ls st M) | _, _ => none) := rfl
theorem act_22 : act call rcv ph sx rz 22 o pc ls st M k = (match o, st with | d :: r, (0, x) :: st => k (lswT r d x).toNat ls st M | _, _ => none) := rfl
theorem act_23 : act call rcv ph sx rz 23 o pc ls st M k = (match st with | (0, x) :: st => k (pc + 1) ls ((0, x) :: (0, x) :: st) M | (2, x) :: st => k (pc + 1) ls ((2, x) :: (2, x) :: st) M | _ => none) := rfl
theorem act_24 : act call rcv ph sx rz 24 o pc ls st M k = (match st with | (0, _) :: st => k (pc + 1) ls st M | _ => none) := rfl
theorem act_25 : act call rcv ph sx rz 25 o pc ls st M k = (match st with | (0, y) :: (2, x) :: st => k (pc + 1) ls ((0, y) :: (2, x) :: (0, y) :: st) M | _ => none) := rfl
theorem act_26 : act call rcv ph sx rz 26 o pc ls st M k = (match st with | (0, y) :: (2, x) :: st => k (pc + 1) ls ((0, y) :: (2, x) :: (0, y) :: (2, x) :: st) M | _ => none) := rfl
theorem act_27 : act call rcv ph sx rz 27 o pc ls st M k = (match o, st with | [f, ci, kd], (2, a) :: st => (if isObj ph M ci.toNat a = true then (if kd = 2 then (if 0 ≤ gr ph M a.toNat f then k (pc + 1) ls ((2, gr ph M a.toNat f) :: st) M else none) else k (pc + 1) ls ((0, M a.toNat f) :: st) M) else none) | _, _ => none) := rfl
theorem act_28 : act call rcv ph sx rz 28 o pc ls st M k = (match o, st with
    | [f, ci, kd], (0, v) :: (2, a) :: st => (if isObj ph M ci.toNat a = true ∧ (kd = 0 ∨ (kd = 1 ∧ (v = 0 ∨ v = 1))) then k (pc + 1) ls st (up M a.toNat f v) else none)
    | [f, ci, kd], (2, v) :: (2, a) :: st => (if isObj ph M ci.toNat a = true ∧ kd = 2 ∧ ph = true ∧ 0 ≤ v ∧ v < 89 then k (pc + 1) ls st (up M a.toNat f v) else none)
    | _, _ => none) := rfl
theorem act_29 : act call rcv ph sx rz 29 o pc ls st M k = (match st with | (0, i) :: (2, a) :: st => (match ldI ph sx M a i with | some v => k (pc + 1) ls ((0, v) :: st) M | none => none) | _ => none) := rfl
theorem act_30 : act call rcv ph sx rz 30 o pc ls st M k = (match st with | (0, i) :: (2, a) :: st => (if inArr ph M 1 a i = true then k (pc + 1) ls ((1, M a.toNat i) :: st) M else none) | _ => none) := rfl
theorem act_31 : act call rcv ph sx rz 31 o pc ls st M k = (match st with | (0, i) :: (2, a) :: st => (if (inArr ph M 2 a i = true ∨ inArr ph M 3 a i = true) ∧ 0 ≤ gr ph M a.toNat i then k (pc + 1) ls ((2, gr ph M a.toNat i) :: st) M else none) | _ => none) := rfl
theorem act_32 : act call rcv ph sx rz 32 o pc ls st M k = (match st with | (0, v) :: (0, i) :: (2, a) :: st => (if inArr ph M 0 a i = true then k (pc + 1) ls st (up M a.toNat i v) else none) | _ => none) := rfl
theorem act_33 : act call rcv ph sx rz 33 o pc ls st M k = (match st with | (1, v) :: (0, i) :: (2, a) :: st => (if inArr ph M 1 a i = true then k (pc + 1) ls st (up M a.toNat i v) else none) | _ => none) := rfl
theorem act_34 : act call rcv ph sx rz 34 o pc ls st M k = (match st with | (2, a) :: st => (if a = 93 ∧ 0 ≤ sx.1 then k (pc + 1) ls ((0, sx.1) :: st) M else none) | _ => none) := rfl
theorem act_35 : act call rcv ph sx rz 35 o pc ls st M k = (match o with | [a] => (if 90 ≤ a ∧ a ≤ 92 then k (pc + 1) ls ((2, a) :: st) M else none) | _ => none) := rfl
theorem act_36 : act call rcv ph sx rz 36 o pc ls st M k = (match o with | [ci] => (if ph = true ∧ 0 ≤ M 9999 0 ∧ 0 ≤ M 9999 1 ∧ (M 9999 0).toNat < NA ∧ shp (M 9999 0).toNat = (4, ci.toNat) ∧ ci.toNat < 8 then k (pc + 1) ls ((2, M 9999 0) :: st) (newM M ci.toNat (M 9999 0).toNat) else none) | _ => none) := rfl
theorem act_37 : act call rcv ph sx rz 37 o pc ls st M k = (match o, st with | [kd], (0, n) :: st => (if ph = true ∧ 0 ≤ M 9999 0 ∧ 0 ≤ M 9999 1 ∧ (M 9999 0).toNat < NA ∧ shp (M 9999 0).toNat = (kd.toNat, n.toNat) ∧ (kd = 0 ∨ kd = 1) ∧ 0 ≤ n ∧ n ≤ 1000 then k (pc + 1) ls ((2, M 9999 0) :: st) (newA M n.toNat (M 9999 0).toNat) else none) | _, _ => none) := rfl
theorem act_38 : act call rcv ph sx rz 38 o pc ls st M k = (match o, st with | [kd], (0, l) :: (0, n) :: st => (if ph = true ∧ 0 ≤ M 9999 0 ∧ 0 ≤ M 9999 1 ∧ (M 9999 0).toNat + n.toNat < NA ∧ shp (M 9999 0).toNat = (kd.toNat + 2, n.toNat) ∧ (kd = 0 ∨ kd = 1) ∧ 0 ≤ n ∧ n ≤ 100 ∧ 0 ≤ l ∧ l ≤ 100 ∧ (List.range n.toNat).all (fun j => decide (shp ((M 9999 0).toNat + 1 + j) = (kd.toNat, l.toNat))) = true then k (pc + 1) ls ((2, M 9999 0) :: st) (newMul M n.toNat l.toNat (M 9999 0).toNat) else none) | _, _ => none) := rfl
theorem act_39 : act call rcv ph sx rz 39 o pc ls st M k = (match o with | [y, n] => (if n.toNat ≤ st.length ∧ wsum (st.drop n.toNat) ≤ 8 ∧ recvOK ph M (rcv y.toNat) (st.take n.toNat).reverse = true then
      (match call y.toNat (st.take n.toNat).reverse M with | some (some v, M') => k (pc + 1) ls (v :: st.drop n.toNat) M' | some (none, M') => k (pc + 1) ls (st.drop n.toNat) M' | none => none) else none) | _ => none) := rfl
theorem act_40 : act call rcv ph sx rz 40 o pc ls st M k = (match st with | (2, a) :: st => (if 0 ≤ a ∧ st.length ≤ 3 then k (pc + 1) ls st M else none) | _ => none) := rfl
theorem act_41 : act call rcv ph sx rz 41 o pc ls st M k = (match st with
    | (0, n) :: (0, j) :: (2, b) :: (0, i) :: (2, a) :: st => (if ph = false ∧ st.length ≤ 3 ∧ live ph M a = true ∧ live ph M b = true ∧ 0 ≤ i ∧ 0 ≤ j ∧ 0 ≤ n ∧ ((shp a.toNat).1 = 0 ∨ (shp a.toNat).1 = 1) ∧ (shp a.toNat).1 = (shp b.toNat).1 ∧ i + n ≤ ((shp a.toNat).2 : Int) ∧ j + n ≤ ((shp b.toNat).2 : Int) then k (pc + 1) ls st (cpy M a.toNat b.toNat i j n) else none)
    | _ => none) := rfl
theorem act_42 : act call rcv ph sx rz 42 o pc ls st M k = (if rz = 0 ∧ st = [] then some (none, M) else none) := rfl
theorem act_43 : act call rcv ph sx rz 43 o pc ls st M k = (match st with | [(0, v)] => (if rz = 1 ∨ (rz = 3 ∧ (v = 0 ∨ v = 1)) then some (some (0, v), M) else none) | _ => none) := rfl
theorem act_44 : act call rcv ph sx rz 44 o pc ls st M k = (match st with | [(1, v)] => (if rz = 2 then some (some (1, v), M) else none) | _ => none) := rfl
theorem act_45 : act call rcv ph sx rz 45 o pc ls st M k = (match st with | (0, x) :: st => (if st.length ≤ 3 then k (pc + 1) ls ((0, if 0 ≤ x then x else w32 (0 - x)) :: st) M else none) | _ => none) := rfl
theorem act_46 : act call rcv ph sx rz 46 o pc ls st M k = (match st with | (0, y) :: (0, x) :: st => (if st.length ≤ 3 then k (pc + 1) ls ((0, if x < y then y else x) :: st) M else none) | _ => none) := rfl
theorem act_47 : act call rcv ph sx rz 47 o pc ls st M k = (match st with | (0, y) :: (0, x) :: st => (if st.length ≤ 3 then k (pc + 1) ls ((0, if y < x then y else x) :: st) M else none) | _ => none) := rfl
end ACT
