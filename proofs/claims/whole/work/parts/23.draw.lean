/-! drawers: masks, in which a card may lie -/
def bc (x : Int) : Int := iand (w32 ((w32 ((iand (w32 ((w32 ((iand (w32 (x - (iand (iushr x 1) 1431655765))) 858993459) + (iand (iushr (w32 (x - (iand (iushr x 1) 1431655765))) 2) 858993459))) + (iushr (w32 ((iand (w32 (x - (iand (iushr x 1) 1431655765))) 858993459) + (iand (iushr (w32 (x - (iand (iushr x 1) 1431655765))) 2) 858993459))) 4))) 252645135) + (iushr (iand (w32 ((w32 ((iand (w32 (x - (iand (iushr x 1) 1431655765))) 858993459) + (iand (iushr (w32 (x - (iand (iushr x 1) 1431655765))) 2) 858993459))) + (iushr (w32 ((iand (w32 (x - (iand (iushr x 1) 1431655765))) 858993459) + (iand (iushr (w32 (x - (iand (iushr x 1) 1431655765))) 2) 858993459))) 4))) 252645135) 8))) + (iushr (w32 ((iand (w32 ((w32 ((iand (w32 (x - (iand (iushr x 1) 1431655765))) 858993459) + (iand (iushr (w32 (x - (iand (iushr x 1) 1431655765))) 2) 858993459))) + (iushr (w32 ((iand (w32 (x - (iand (iushr x 1) 1431655765))) 858993459) + (iand (iushr (w32 (x - (iand (iushr x 1) 1431655765))) 2) 858993459))) 4))) 252645135) + (iushr (iand (w32 ((w32 ((iand (w32 (x - (iand (iushr x 1) 1431655765))) 858993459) + (iand (iushr (w32 (x - (iand (iushr x 1) 1431655765))) 2) 858993459))) + (iushr (w32 ((iand (w32 (x - (iand (iushr x 1) 1431655765))) 858993459) + (iand (iushr (w32 (x - (iand (iushr x 1) 1431655765))) 2) 858993459))) 4))) 252645135) 8))) 16))) 63
theorem bc_10 : ∀ n : Nat, n < 1024 → bc (n : Int) = cntB (fun i => bt (n : Int) i) 10 := by decide +kernel
def R3 (M : Mem) : Prop := ∀ c : Int, 0 ≤ c → c < M 64 0 → c32 (M 28 c) ∧ c32 (M 29 c) ∧ ∀ i : Nat, i < 32 → bt (M 28 c) i = (decide (i < 10) && decide (M 65 (10 * c + (fp i : Int)) = 3)) ∧ bt (M 29 c) i = (decide (i < 10) && decide (4 ≤ M 65 (10 * c + (fp i : Int))))
/-- a mask by fingers -/
def mk (Q : Nat → Bool) : Nat → Int
  | 0 => 0
  | k + 1 => if Q k = true then ior (mk Q k) (dbit k) else mk Q k
theorem mk_t {Q : Nat → Bool} {k : Nat} (h : Q k = true) : mk Q (k + 1) = ior (mk Q k) (dbit k) := if_pos h
theorem mk_f {Q : Nat → Bool} {k : Nat} (h : ¬ Q k = true) : mk Q (k + 1) = mk Q k := if_neg h
theorem mk_c32 (Q : Nat → Bool) : ∀ k : Nat, c32 (mk Q k)
  | 0 => c32_0
  | k + 1 => by
    unfold mk
    split
    · exact c_ior _ _
    · exact mk_c32 Q k
theorem bt_mk (Q : Nat → Bool) : ∀ (k : Nat), k ≤ 10 → ∀ i, i < 32 → bt (mk Q k) i = (decide (i < 10) && (decide (fp i < k) && Q (fp i)))
  | 0, _, i, hi => by rw [show mk Q 0 = 0 from rfl, bt_z]; simp
  | k + 1, hk, i, hi => by
    have ih := bt_mk Q k (by omega) i hi
    by_cases q : Q k = true
    · rw [mk_t q, bt_or, ih, bt_dbit k (by omega) i hi]
      by_cases e : fp i = k
      · rw [e]; simp [q]
      · have : decide (fp i < k + 1) = decide (fp i < k) := by
          by_cases z : fp i < k
          · simp [z]; omega
          · simp [z]; omega
        rw [this]; simp [e]
    · rw [mk_f q, ih]
      by_cases e : fp i = k
      · rw [e]; simp [q]
      · have : decide (fp i < k + 1) = decide (fp i < k) := by
          by_cases z : fp i < k
          · simp [z]; omega
          · simp [z]; omega
        rw [this]
theorem bitOf_eq : ∀ f : Nat, f < 10 → (if ¬ w32 (Int.tmod (f : Int) 2) = 0 then ishr 16 (w32 (Int.tdiv (f : Int) 2)) else ishr 512 (w32 (Int.tdiv (f : Int) 2))) = dbit f := by decide +kernel
theorem drBit_eq : ∀ f : Nat, f < 10 → (if ¬ w32 (Int.tmod (f : Int) 2) = 0 then ishr 16 (w32 (Int.tdiv (f : Int) 2)) else w32 (32 * (ishr 16 (w32 (Int.tdiv (f : Int) 2))))) = dbit f := by decide +kernel
theorem bt_shr0 {x : Int} {k : Nat} (hk : k < 32) : bt (ishr x (k : Int)) 0 = bt x k := by
  have e1 : ∀ k : Nat, k < 32 → (Int32.ofInt (k : Int) &&& 31) = Int32.ofInt (k : Int) ∧ ((Int32.ofInt (k : Int)).toBitVec.smod 32).toNat = k := by decide +kernel
  unfold bt
  rw [n_ishr, (e1 k hk).1]
  rw [Int32.toBitVec_shiftRight, BitVec.sshiftRight_eq', (e1 k hk).2, BitVec.getLsbD_sshiftRight]
  simp [hk]
theorem bt_one : ∀ i : Nat, i < 32 → bt 1 i = decide (i = 0) := by decide +kernel
theorem shr1 {x : Int} {k : Nat} (hk : k < 32) : iand (ishr x (k : Int)) 1 = 0 ↔ ¬ bt x k = true := by
  constructor
  · intro h q
    have := congrArg (fun z => bt z 0) h
    simp only [bt_and, bt_z, bt_shr0 hk, q, bt_one 0 (by decide)] at this
    exact absurd this (by decide)
  · intro h
    refine bt_ext (c_iand _ _) c32_0 fun i hi => ?_
    rw [bt_and, bt_z, bt_one i hi]
    by_cases z : i = 0
    · subst z
      rw [bt_shr0 hk]
      simp at h
      simp [h]
    · simp [z]
theorem allC : ∀ n : Nat, n ≤ 12 → ∀ c : Nat, c < 12 → bt (w32 ((ishl 1 (n : Int)) - 1)) c = decide (c < n) := by decide +kernel
abbrev LIE (M : Mem) (c x : Int) : Prop := iand x (ixor (M 29 c) (-1)) = M 28 c
theorem eq_bt {x y : Int} (hx : c32 x) (hy : c32 y) : x = y ↔ ∀ i, i < 32 → bt x i = bt y i := ⟨fun h i _ => by rw [h], bt_ext hx hy⟩
/-- the reference's question and the class's are one -/
theorem lie_eq {x S O : Int} (hS : c32 S) (hdis : ∀ i, i < 32 → ¬ (bt S i = true ∧ bt O i = true)) : (iand x S = S ∧ iand x (ixor (ior S O) (-1)) = 0) ↔ iand x (ixor O (-1)) = S := by
  rw [eq_bt (c_iand _ _) hS, eq_bt (c_iand _ _) c32_0, eq_bt (c_iand _ _) hS]
  constructor
  · intro ⟨h1, h2⟩ i hi
    have a := h1 i hi
    have b := h2 i hi
    have e := hdis i hi
    simp only [bt_and, bt_xor, bt_or, bt_n1 hi, bt_z] at a b ⊢
    revert a b e
    cases bt x i <;> cases bt S i <;> cases bt O i <;> simp
  · intro h
    refine ⟨fun i hi => ?_, fun i hi => ?_⟩
    · have a := h i hi
      have e := hdis i hi
      simp only [bt_and, bt_xor, bt_or, bt_n1 hi, bt_z] at a ⊢
      revert a e
      cases bt x i <;> cases bt S i <;> cases bt O i <;> simp
    · have a := h i hi
      have e := hdis i hi
      simp only [bt_and, bt_xor, bt_or, bt_n1 hi, bt_z] at a ⊢
      revert a e
      cases bt x i <;> cases bt S i <;> cases bt O i <;> simp
/-- two cards share a drawer: the reference's two questions are the class's one -/
theorem share_eq {S1 O1 S2 O2 : Int} (h1 : ∀ i, i < 32 → ¬ (bt S1 i = true ∧ bt O1 i = true)) (h2 : ∀ i, i < 32 → ¬ (bt S2 i = true ∧ bt O2 i = true)) : (iand S1 (ixor (ior S2 O2) (-1)) = 0 ∧ iand S2 (ixor (ior S1 O1) (-1)) = 0) ↔ iand (iand (ixor S1 S2) (ixor O1 (-1))) (ixor O2 (-1)) = 0 := by
  rw [eq_bt (c_iand _ _) c32_0, eq_bt (c_iand _ _) c32_0, eq_bt (c_iand _ _) c32_0]
  constructor
  · intro ⟨a, b⟩ i hi
    have a := a i hi; have b := b i hi; have e := h1 i hi; have e2 := h2 i hi
    simp only [bt_and, bt_xor, bt_or, bt_n1 hi, bt_z] at a b ⊢
    revert a b e e2
    cases bt S1 i <;> cases bt O1 i <;> cases bt S2 i <;> cases bt O2 i <;> simp
  · intro h
    refine ⟨fun i hi => ?_, fun i hi => ?_⟩
    · have a := h i hi; have e := h1 i hi; have e2 := h2 i hi
      simp only [bt_and, bt_xor, bt_or, bt_n1 hi, bt_z] at a ⊢
      revert a e e2
      cases bt S1 i <;> cases bt O1 i <;> cases bt S2 i <;> cases bt O2 i <;> simp
    · have a := h i hi; have e := h1 i hi; have e2 := h2 i hi
      simp only [bt_and, bt_xor, bt_or, bt_n1 hi, bt_z] at a ⊢
      revert a e e2
      cases bt S1 i <;> cases bt O1 i <;> cases bt S2 i <;> cases bt O2 i <;> simp
section DRAW
variable {d : Nat} {M : Mem} {a b c x y : Int}
theorem R3.dis (h : R3 M) (c0 : 0 ≤ c) (cn : c < M 64 0) : ∀ i, i < 32 → ¬ (bt (M 28 c) i = true ∧ bt (M 29 c) i = true) := fun i hi ⟨q1, q2⟩ => by
  obtain ⟨-, -, hb⟩ := h c c0 cn
  rw [(hb i hi).1] at q1
  rw [(hb i hi).2] at q2
  simp only [Bool.and_eq_true, decide_eq_true_eq] at q1 q2
  omega
theorem R3.rng (h : R3 M) (c0 : 0 ≤ c) (cn : c < M 64 0) : (0 ≤ M 28 c ∧ M 28 c < 1024) ∧ (0 ≤ M 29 c ∧ M 29 c < 1024) ∧ (0 ≤ ior (M 28 c) (M 29 c) ∧ ior (M 28 c) (M 29 c) < 1024) := by
  obtain ⟨h1, h2, hb⟩ := h c c0 cn
  have k1 : ∀ i, 10 ≤ i → i < 32 → bt (M 28 c) i = false := fun i a b => by rw [(hb i b).1]; simp; omega
  have k2 : ∀ i, 10 ≤ i → i < 32 → bt (M 29 c) i = false := fun i a b => by rw [(hb i b).2]; simp; omega
  exact ⟨bt_small h1 k1, bt_small h2 k2, bt_small (c_ior _ _) (fun i a b => by rw [bt_or, k1 i a b, k2 i a b]; rfl)⟩
set_option maxRecDepth 10000 in
theorem c_M_bitOf {k : Nat} (hk : k < 10) (hd : 1 ≤ d) : Cl d m_M_bitOf [(0, (k : Int))] M (rI (dbit k) M) := by
  refine (sg_M_bitOf (d := 0) ?_).mono hd
  have e := bitOf_eq k hk
  revert e
  generalize ishr 512 (w32 (Int.tdiv (k : Int) 2)) = z3
  generalize ishr 16 (w32 (Int.tdiv (k : Int) 2)) = z2
  generalize w32 (Int.tmod (k : Int) 2) = z1
  generalize dbit k = z4
  intro e
  by_cases q : ¬ z1 = 0
  · rw [if_pos q] at e ⊢
    rw [e]
  · rw [if_neg q] at e ⊢
    rw [e]
set_option maxRecDepth 10000 in
theorem c_X_drawerBit {k : Nat} (hk : k < 10) (hd : 1 ≤ d) : Cl d m_X_drawerBit [(0, (k : Int))] M (rI (dbit k) M) := by
  refine (sg_X_drawerBit (d := 0) ?_).mono hd
  have e := drBit_eq k hk
  revert e
  generalize w32 (32 * (ishr 16 (w32 (Int.tdiv (k : Int) 2)))) = z3
  generalize ishr 16 (w32 (Int.tdiv (k : Int) 2)) = z2
  generalize w32 (Int.tmod (k : Int) 2) = z1
  generalize dbit k = z4
  intro e
  by_cases q : ¬ z1 = 0
  · rw [if_pos q] at e ⊢
    rw [e]
  · rw [if_neg q] at e ⊢
    rw [e]
theorem c_M_bitsQ (h1 : R1 M) (c0 : 0 ≤ c) (cn : c < M 64 0) (hd : 2 ≤ d) : Cl d m_M_bits [(2, 64), (0, c), (0, x)] M (rI (mk (fun f => decide (M 65 (10 * c + (f : Int)) = 3 ∨ (x = 1 ∧ 3 < M 65 (10 * c + (f : Int))))) 10) M) := by
  have e3 := h1.2.2.1
  refine (sg_M_bits (d := 1) ?_).mono hd
  refine loop_up (fun v i => at_M_bits_4 1 c x v i M _) (mk (fun f => decide (M 65 (10 * c + (f : Int)) = 3 ∨ (x = 1 ∧ 3 < M 65 (10 * c + (f : Int)))))) 10 ?_ ?_
  · exact sg_M_bits_4 (ite_i (fun _ => rfl) (fun q => absurd (by decide) q))
  · intro k hk ih
    refine sg_M_bits_4 (ite_i (fun q => absurd q (by omega)) (fun _ => ?_))
    rw [ix10 c0 (by omega) (by omega) (by omega), w32_k (by omega)]
    refine ⟨⟨by omega, by omega⟩, ite_i (fun z => ⟨_, c_M_bitOf hk (by decide), ?_⟩) (fun z => ite_i (fun z2 => ?_) (fun z2 => ⟨⟨by omega, by omega⟩, ite_i (fun z3 => ?_) (fun z3 => ⟨_, c_M_bitOf hk (by decide), ?_⟩)⟩))⟩
    · rw [mk_t (dec_t (Or.inl z))] at ih; exact ih
    · rw [mk_f (dec_f (fun q => q.elim z (fun w => z2 w.1)))] at ih; exact ih
    · rw [mk_f (dec_f (fun q => q.elim z (fun w => absurd w.2 (by omega))))] at ih; exact ih
    · rw [mk_t (dec_t (Or.inr ⟨by omega, by omega⟩))] at ih; exact ih
theorem c_M_bits0 (h1 : R1 M) (h3 : R3 M) (c0 : 0 ≤ c) (cn : c < M 64 0) (hd : 2 ≤ d) : Cl d m_M_bits [(2, 64), (0, c), (0, 0)] M (rI (M 28 c) M) := by
  have := c_M_bitsQ (x := 0) h1 c0 cn hd
  obtain ⟨k1, k2, hb⟩ := h3 c c0 cn
  rwa [show mk (fun f => decide (M 65 (10 * c + (f : Int)) = 3 ∨ ((0 : Int) = 1 ∧ 3 < M 65 (10 * c + (f : Int))))) 10 = M 28 c from bt_ext (mk_c32 _ _) k1 (fun i hi => by
    rw [bt_mk _ 10 (by decide) i hi, (hb i hi).1]
    by_cases z : i < 10
    · have := fp_lt z; simp [z, this]
    · simp [z])] at this
theorem c_M_bits1 (h1 : R1 M) (h3 : R3 M) (c0 : 0 ≤ c) (cn : c < M 64 0) (hd : 2 ≤ d) : Cl d m_M_bits [(2, 64), (0, c), (0, 1)] M (rI (ior (M 28 c) (M 29 c)) M) := by
  have := c_M_bitsQ (x := 1) h1 c0 cn hd
  obtain ⟨k1, k2, hb⟩ := h3 c c0 cn
  rwa [show mk (fun f => decide (M 65 (10 * c + (f : Int)) = 3 ∨ ((1 : Int) = 1 ∧ 3 < M 65 (10 * c + (f : Int))))) 10 = ior (M 28 c) (M 29 c) from bt_ext (mk_c32 _ _) (c_ior _ _) (fun i hi => by
    rw [bt_mk _ 10 (by decide) i hi, bt_or, (hb i hi).1, (hb i hi).2]
    by_cases z : i < 10
    · have := fp_lt z
      have e : (3 < M 65 (10 * c + (fp i : Int))) = (4 ≤ M 65 (10 * c + (fp i : Int))) := propext ⟨fun h => by omega, fun h => by omega⟩
      simp [z, this, e]
    · simp [z])] at this
theorem c_C_mayLie (h1 : R1 M) (c0 : 0 ≤ c) (cn : c < M 64 0) (hd : 1 ≤ d) : Cl d m_C_mayLie [(2, 1), (0, c), (0, x)] M (rI (bI (LIE M c x)) M) := by
  have e3 := h1.2.2.1
  refine (sg_C_mayLie (d := 0) ⟨⟨c0, by omega⟩, ⟨c0, by omega⟩, ite_i (fun q => ?_) (fun q => ?_)⟩).mono hd
  · rw [bI_f q]
  · rw [bI_t (Classical.not_not.mp q)]
theorem c_M_isIn (h1 : R1 M) (h3 : R3 M) (c0 : 0 ≤ c) (cn : c < M 64 0) (hd : 3 ≤ d) : Cl d m_M_isIn [(2, 64), (0, c), (0, x)] M (rI (bI (LIE M c x)) M) := by
  have hl := lie_eq (x := x) (h3 c c0 cn).1 (h3.dis c0 cn)
  refine (sg_M_isIn (d := 2) ⟨_, c_M_bits0 h1 h3 c0 cn (by decide), ite_i (fun q => ?_) (fun q => ⟨_, c_M_bits1 h1 h3 c0 cn (by decide), ite_i (fun q2 => ?_) (fun q2 => ?_)⟩)⟩).mono hd
  · rw [bI_f (fun z => q (hl.mpr z).1)]
  · rw [bI_f (fun z => q2 (hl.mpr z).2)]
  · rw [bI_t (hl.mp ⟨Classical.not_not.mp q, Classical.not_not.mp q2⟩)]
theorem c_J_bitCount (hd : 1 ≤ d) : Cl d m_J_bitCount [(0, x)] M (rI (bc x) M) := (sg_J_bitCount (d := 0) rfl).mono hd
theorem c_C_shareDrawer (h1 : R1 M) (a0 : 0 ≤ a) (an : a < M 64 0) (c0 : 0 ≤ c) (cn : c < M 64 0) (hd : 1 ≤ d) : Cl d m_C_shareDrawer [(2, 1), (0, a), (0, c)] M (rI (bI (iand (iand (ixor (M 28 a) (M 28 c)) (ixor (M 29 a) (-1))) (ixor (M 29 c) (-1)) = 0)) M) := by
  have e3 := h1.2.2.1
  refine (sg_C_shareDrawer (d := 0) ⟨⟨a0, by omega⟩, ⟨c0, by omega⟩, ⟨a0, by omega⟩, ⟨c0, by omega⟩, ite_i (fun q => ?_) (fun q => ?_)⟩).mono hd
  · rw [bI_f q]
  · rw [bI_t (Classical.not_not.mp q)]
/-- how many cards may lie in a drawer -/
def FL (M : Mem) (x : Int) : Int := cntB (fun c => decide (LIE M (c : Int) x)) (M 64 0).toNat
theorem FL_le (h1 : R1 M) : 0 ≤ FL M x ∧ FL M x ≤ 12 := by
  have := cntB_le (fun c => decide (LIE M (c : Int) x)) (M 64 0).toNat
  have e2 := h1.2.1; have e3 := h1.2.2.1
  unfold FL
  omega
theorem c_X_cardsIn (h1 : R1 M) (hd : 2 ≤ d) : Cl d m_X_cardsIn [(2, 0), (0, x)] M (rI (FL M x) M) := by
  have e1 := h1.1; have e2 := h1.2.1; have e3 := h1.2.2.1
  refine (sg_X_cardsIn (d := 1) ?_).mono hd
  refine loop_up (fun v i => at_X_cardsIn_4 1 x v i M (rI (FL M x) M)) (cntB (fun c => decide (LIE M (c : Int) x))) (M 64 0).toNat ?_ ?_
  · exact sg_X_cardsIn_4 (ite_i (fun _ => rfl) (fun q => absurd (by omega) q))
  · intro k hk ih
    have hcn := cntB_le (fun c => decide (LIE M (c : Int) x)) k
    refine sg_X_cardsIn_4 (ite_i (fun q => absurd q (by omega)) (fun _ => ?_))
    rw [w32_k (by omega)]
    refine ⟨_, c_C_mayLie h1 (by omega) (by omega) (by decide), ite_b (fun z => ?_) (fun z => ?_)⟩
    · rw [cntB_f (dec_f z)] at ih; exact ih
    · rw [cntB_t (dec_t z)] at ih
      rw [w32_i (by omega) (by omega)]; exact ih
theorem c_M_fullness (h1 : R1 M) (h3 : R3 M) (hd : 4 ≤ d) : Cl d m_M_fullness [(2, 64), (0, x)] M (rI (FL M x) M) := by
  have e2 := h1.2.1; have e3 := h1.2.2.1
  refine (sg_M_fullness (d := 3) ?_).mono hd
  refine loop_up (fun v i => at_M_fullness_4 3 x v i M (rI (FL M x) M)) (cntB (fun c => decide (LIE M (c : Int) x))) (M 64 0).toNat ?_ ?_
  · exact sg_M_fullness_4 (ite_i (fun _ => rfl) (fun q => absurd (by omega) q))
  · intro k hk ih
    have hcn := cntB_le (fun c => decide (LIE M (c : Int) x)) k
    refine sg_M_fullness_4 (ite_i (fun q => absurd q (by omega)) (fun _ => ?_))
    rw [w32_k (by omega)]
    refine ⟨_, c_M_isIn h1 h3 (by omega) (by omega) (by decide), ite_b (fun z => ?_) (fun z => ?_)⟩
    · rw [cntB_f (dec_f z)] at ih; exact ih
    · rw [cntB_t (dec_t z)] at ih
      rw [w32_i (by omega) (by omega)]; exact ih
end DRAW
