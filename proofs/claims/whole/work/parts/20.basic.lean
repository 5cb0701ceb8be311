/-! from here on by hand: what each method answers */ -/
abbrev rI (v : Int) (M : Mem) : Res := (some (0, v), M)
abbrev rL (v : Int) (M : Mem) : Res := (some (1, v), M)
abbrev rV (M : Mem) : Res := (none, M)
def bI (P : Prop) [Decidable P] : Int := if P then 1 else 0
theorem bI_t {P : Prop} [Decidable P] (h : P) : bI P = 1 := if_pos h
theorem bI_f {P : Prop} [Decidable P] (h : ¬ P) : bI P = 0 := if_neg h
theorem bI_01 {P : Prop} [Decidable P] : bI P = 0 ∨ bI P = 1 := by
  unfold bI; split
  · exact Or.inr rfl
  · exact Or.inl rfl
theorem bI_c {P Q : Prop} [Decidable P] [Decidable Q] (h : P ↔ Q) : bI P = bI Q := by
  unfold bI
  by_cases q : P
  · rw [if_pos q, if_pos (h.mp q)]
  · rw [if_neg q, if_neg (fun z => q (h.mpr z))]
theorem w32_i {x : Int} (h1 : -2147483648 ≤ x) (h2 : x < 2147483648) : w32 x = x := w32_id ⟨h1, h2⟩
theorem w64_i {x : Int} (h1 : -9223372036854775808 ≤ x) (h2 : x < 9223372036854775808) : w64 x = x := w64_id ⟨h1, h2⟩
theorem td_nn {x y : Int} (h : 0 ≤ x) : Int.tdiv x y = x / y := Int.tdiv_eq_ediv_of_nonneg h
theorem tm_nn {x y : Int} (h : 0 ≤ x) : Int.tmod x y = x % y := Int.tmod_eq_emod_of_nonneg h
/-- bit i of an int -/
def bt (x : Int) (i : Nat) : Bool := (Int32.ofInt x).toBitVec.getLsbD i
theorem bt_and (x y : Int) (i : Nat) : bt (iand x y) i = (bt x i && bt y i) := by
  unfold bt
  rw [n_iand]
  simp
theorem bt_or (x y : Int) (i : Nat) : bt (ior x y) i = (bt x i || bt y i) := by
  unfold bt
  rw [n_ior]
  simp
theorem bt_xor (x y : Int) (i : Nat) : bt (ixor x y) i = (bt x i ^^ bt y i) := by
  unfold bt
  rw [n_ixor]
  simp
theorem bt_z (i : Nat) : bt 0 i = false := by
  unfold bt
  rw [show Int32.ofInt 0 = 0 from rfl]
  simp
theorem bt_n1 {i : Nat} (h : i < 32) : bt (-1) i = true := by
  have : ∀ i, i < 32 → bt (-1) i = true := by decide +kernel
  exact this i h
theorem bt_ext {x y : Int} (hx : c32 x) (hy : c32 y) (h : ∀ i, i < 32 → bt x i = bt y i) : x = y := by
  have : Int32.ofInt x = Int32.ofInt y := Int32.toBitVec.inj (BitVec.eq_of_getLsbD_eq (fun i hi => h i hi))
  exact (n_eq hx hy).mp this
theorem c_iand (x y : Int) : c32 (iand x y) := c_t32 _
theorem c_ior (x y : Int) : c32 (ior x y) := c_t32 _
theorem c_ixor (x y : Int) : c32 (ixor x y) := c_t32 _
theorem c_ishl (x y : Int) : c32 (ishl x y) := c_t32 _
theorem bt_pow : ∀ k : Nat, k < 32 → ∀ i : Nat, i < 32 → bt (ishl 1 (k : Int)) i = decide (i = k) := by decide +kernel
/-- the finger whose bit in a drawer's number is bit i -/
def fpL : List Nat := [9, 7, 5, 3, 1, 8, 6, 4, 2, 0]
def fp (i : Nat) : Nat := fpL.getD i 99
theorem fp_lt {i : Nat} (h : i < 10) : fp i < 10 := by
  have : ∀ i, i < 10 → fp i < 10 := by decide
  exact this i h
theorem fp_inj {i j : Nat} (hi : i < 10) (hj : j < 10) (h : fp i = fp j) : i = j := by
  have : ∀ i, i < 10 → ∀ j, j < 10 → fp i = fp j → i = j := by decide
  exact this i hi j hj h
theorem fp_sur {f : Nat} (h : f < 10) : ∃ i, i < 10 ∧ fp i = f := by
  have : ∀ f, f < 10 → ∃ i, i < 10 ∧ fp i = f := by decide
  exact this f h
/-- the drawer's bit of a finger -/
def dbit (f : Nat) : Int := ([512, 16, 256, 8, 128, 4, 64, 2, 32, 1] : List Int).getD f 0
theorem bt_dbit : ∀ f : Nat, f < 10 → ∀ i : Nat, i < 32 → bt (dbit f) i = (decide (i < 10) && decide (fp i = f)) := by decide +kernel
theorem bt_hi {x : Int} (h0 : 0 ≤ x) (h1 : x < 1024) {i : Nat} (hi : 10 ≤ i) (h32 : i < 32) : bt x i = false := by
  obtain ⟨n, rfl⟩ : ∃ n : Nat, x = n := ⟨x.toNat, by omega⟩
  unfold bt
  have e : (Int32.ofInt (n : Int)).toBitVec = BitVec.ofNat 32 n := by
    rw [Int32.ofInt_eq_ofNat]; rfl
  rw [e, BitVec.getLsbD_ofNat]
  rw [Nat.testBit_lt_two_pow (Nat.lt_of_lt_of_le (show n < 2 ^ 10 by omega) (Nat.pow_le_pow_right (by decide) hi))]
  simp
theorem bt_small {x : Int} (hx : c32 x) (h : ∀ i, 10 ≤ i → i < 32 → bt x i = false) : 0 ≤ x ∧ x < 1024 := by
  have key : (Int32.ofInt x).toBitVec.toNat < 2 ^ 10 := by
    apply Nat.lt_pow_two_of_testBit
    intro i hi
    by_cases q : i < 32
    · exact h i hi q
    · exact Nat.testBit_lt_two_pow (Nat.lt_of_lt_of_le (Int32.ofInt x).toBitVec.isLt (Nat.pow_le_pow_right (by decide) (by omega)))
  have e := n_t32 hx
  have e2 : (Int32.ofInt x).toInt = (Int32.ofInt x).toBitVec.toInt := rfl
  rw [e2, BitVec.toInt_eq_toNat_of_lt (by omega)] at e
  omega
/-- sets of bits, and how many, out of a test of each -/
def setB (P : Nat → Bool) : Nat → Int
  | 0 => 0
  | k + 1 => if P k = true then ior (setB P k) (ishl 1 (k : Int)) else setB P k
def cntB (P : Nat → Bool) : Nat → Int
  | 0 => 0
  | k + 1 => if P k = true then cntB P k + 1 else cntB P k
theorem cntB_le (P : Nat → Bool) : ∀ k : Nat, 0 ≤ cntB P k ∧ cntB P k ≤ k
  | 0 => ⟨Int.le_refl _, Int.le_refl _⟩
  | k + 1 => by
    have := cntB_le P k
    unfold cntB
    split <;> omega
theorem setB_congr {P Q : Nat → Bool} : ∀ {k : Nat}, (∀ j, j < k → P j = Q j) → setB P k = setB Q k
  | 0, _ => rfl
  | k + 1, h => by
    unfold setB
    rw [h k (by omega), setB_congr (fun j hj => h j (by omega))]
theorem cntB_congr {P Q : Nat → Bool} : ∀ {k : Nat}, (∀ j, j < k → P j = Q j) → cntB P k = cntB Q k
  | 0, _ => rfl
  | k + 1, h => by
    unfold cntB
    rw [h k (by omega), cntB_congr (fun j hj => h j (by omega))]
theorem setB_c32 (P : Nat → Bool) : ∀ k : Nat, c32 (setB P k)
  | 0 => c32_0
  | k + 1 => by
    unfold setB
    split
    · exact c_ior _ _
    · exact setB_c32 P k
theorem bt_setB (P : Nat → Bool) : ∀ (k : Nat), k ≤ 32 → ∀ i, i < 32 → bt (setB P k) i = (decide (i < k) && P i)
  | 0, _, i, hi => by rw [show setB P 0 = 0 from rfl, bt_z]; simp
  | k + 1, hk, i, hi => by
    have ih := bt_setB P k (by omega) i hi
    unfold setB
    by_cases q : P k = true
    · rw [if_pos q, bt_or, ih, bt_pow k (by omega) i hi]
      by_cases e : i = k
      · subst e; simp [q]
      · have : decide (i < k + 1) = decide (i < k) := by
          by_cases z : i < k <;> simp [z] <;> omega
        rw [this]; simp [e]
    · rw [if_neg q, ih]
      by_cases e : i = k
      · subst e; simp [q]
      · have : decide (i < k + 1) = decide (i < k) := by
          by_cases z : i < k <;> simp [z] <;> omega
        rw [this]
