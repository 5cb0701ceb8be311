/-! numbers: Int beside Int32, Int64 -/
abbrev c32 (x : Int) : Prop := -2147483648 ≤ x ∧ x < 2147483648
abbrev c64 (x : Int) : Prop := -9223372036854775808 ≤ x ∧ x < 9223372036854775808
theorem n_t32 {x : Int} (h : c32 x) : (Int32.ofInt x).toInt = x := Int32.toInt_ofInt_of_le (by have := h.1; omega) (by have := h.2; omega)
theorem n_t64 {x : Int} (h : c64 x) : (Int64.ofInt x).toInt = x := Int64.toInt_ofInt_of_le (by have := h.1; omega) (by have := h.2; omega)
theorem c_t32 (x : Int32) : c32 x.toInt := ⟨by have := Int32.le_toInt x; omega, by have := Int32.toInt_lt x; omega⟩
theorem c_t64 (x : Int64) : c64 x.toInt := ⟨by have := Int64.le_toInt x; omega, by have := Int64.toInt_lt x; omega⟩
theorem n_w32' (z : Int) : w32 z = (Int32.ofInt z).toInt := by rw [Int32.toInt_ofInt]; rfl
theorem n_w64' (z : Int) : w64 z = (Int64.ofInt z).toInt := by rw [Int64.toInt_ofInt]; rfl
theorem c_w32 (z : Int) : c32 (w32 z) := by rw [n_w32']; exact c_t32 _
theorem c_w64 (z : Int) : c64 (w64 z) := by rw [n_w64']; exact c_t64 _
theorem n_w32 (z : Int) : Int32.ofInt (w32 z) = Int32.ofInt z := by rw [n_w32', Int32.ofInt_toInt]
theorem n_w64 (z : Int) : Int64.ofInt (w64 z) = Int64.ofInt z := by rw [n_w64', Int64.ofInt_toInt]
theorem w32_id {x : Int} (h : c32 x) : w32 x = x := by rw [n_w32', n_t32 h]
theorem w64_id {x : Int} (h : c64 x) : w64 x = x := by rw [n_w64', n_t64 h]
theorem n_eq {x y : Int} (hx : c32 x) (hy : c32 y) : Int32.ofInt x = Int32.ofInt y ↔ x = y :=
  ⟨fun h => by have := congrArg Int32.toInt h; rwa [n_t32 hx, n_t32 hy] at this, fun h => by rw [h]⟩
theorem n_lt {x y : Int} (hx : c32 x) (hy : c32 y) : Int32.ofInt x < Int32.ofInt y ↔ x < y := by rw [Int32.lt_iff_toInt_lt, n_t32 hx, n_t32 hy]
theorem n_le {x y : Int} (hx : c32 x) (hy : c32 y) : Int32.ofInt x ≤ Int32.ofInt y ↔ x ≤ y := by rw [Int32.le_iff_toInt_le, n_t32 hx, n_t32 hy]
theorem n_eq64 {x y : Int} (hx : c64 x) (hy : c64 y) : Int64.ofInt x = Int64.ofInt y ↔ x = y :=
  ⟨fun h => by have := congrArg Int64.toInt h; rwa [n_t64 hx, n_t64 hy] at this, fun h => by rw [h]⟩
theorem n_lt64 {x y : Int} (hx : c64 x) (hy : c64 y) : Int64.ofInt x < Int64.ofInt y ↔ x < y := by rw [Int64.lt_iff_toInt_lt, n_t64 hx, n_t64 hy]
theorem c32_0 : c32 0 := ⟨by decide, by decide⟩
theorem n_div {x y : Int} (hx : c32 x) (hy : c32 y) : Int32.ofInt (w32 (x.tdiv y)) = Int32.ofInt x / Int32.ofInt y := by
  rw [n_w32]
  exact Int32.ofInt_tdiv (by show (-2147483648 : Int) ≤ x; exact hx.1) (by show x ≤ (2147483647 : Int); have := hx.2; omega) (by show (-2147483648 : Int) ≤ y; exact hy.1) (by show y ≤ (2147483647 : Int); have := hy.2; omega)
theorem n_rem {x y : Int} (hx : c32 x) (hy : c32 y) : Int32.ofInt (w32 (x.tmod y)) = Int32.ofInt x - Int32.ofInt x / Int32.ofInt y * Int32.ofInt y := by
  rw [n_w32, Int.tmod_def, Int32.ofInt_sub, Int32.ofInt_mul, Int32.mul_comm]
  rw [Int32.ofInt_tdiv (by show (-2147483648 : Int) ≤ x; exact hx.1) (by show x ≤ (2147483647 : Int); have := hx.2; omega) (by show (-2147483648 : Int) ≤ y; exact hy.1) (by show y ≤ (2147483647 : Int); have := hy.2; omega)]
theorem n_div64 {x y : Int} (hx : c64 x) (hy : c64 y) : Int64.ofInt (w64 (x.tdiv y)) = Int64.ofInt x / Int64.ofInt y := by
  rw [n_w64]
  exact Int64.ofInt_tdiv (by show (-9223372036854775808 : Int) ≤ x; exact hx.1) (by show x ≤ (9223372036854775807 : Int); have := hx.2; omega) (by show (-9223372036854775808 : Int) ≤ y; exact hy.1) (by show y ≤ (9223372036854775807 : Int); have := hy.2; omega)
theorem n_rem64 {x y : Int} (hx : c64 x) (hy : c64 y) : Int64.ofInt (w64 (x.tmod y)) = Int64.ofInt x - Int64.ofInt x / Int64.ofInt y * Int64.ofInt y := by
  rw [n_w64, Int.tmod_def, Int64.ofInt_sub, Int64.ofInt_mul, Int64.mul_comm]
  rw [Int64.ofInt_tdiv (by show (-9223372036854775808 : Int) ≤ x; exact hx.1) (by show x ≤ (9223372036854775807 : Int); have := hx.2; omega) (by show (-9223372036854775808 : Int) ≤ y; exact hy.1) (by show y ≤ (9223372036854775807 : Int); have := hy.2; omega)]
theorem n_idx {i : Int} (h : c32 i) : (Int32.ofInt i).toNatClampNeg = i.toNat := Int32.toNatClampNeg_ofInt_of_le (by have := h.1; omega) (by have := h.2; omega)
theorem n_in {i : Int} {n : Nat} (hc : c32 i) (h0 : 0 ≤ i) (h1 : i < (n : Int)) : vp_in (Int32.ofInt i) n := by
  unfold vp_in
  rw [n_idx hc]
  rintro (h | h)
  · rw [show (0 : Int32) = Int32.ofInt 0 from rfl, n_lt hc c32_0] at h; omega
  · omega
theorem n_i2l (x : Int) (h : c32 x) : (Int32.ofInt x).toInt64 = Int64.ofInt x := by
  apply Int64.toInt_inj.mp
  rw [Int32.toInt_toInt64, n_t32 h, n_t64 ⟨by have := h.1; omega, by have := h.2; omega⟩]
theorem n_l2i (x : Int) (h : c64 x) : (Int64.ofInt x).toInt32 = Int32.ofInt (w32 x) := by
  apply Int32.toInt_inj.mp
  rw [Int64.toInt_toInt32, n_t64 h, n_t32 (c_w32 x)]; rfl
theorem c_b8 (x : Int) : c32 (Int.bmod x 256) := by
  have h1 := Int.le_bmod (x := x) (m := 256) (by decide)
  have h2 := Int.bmod_lt (x := x) (m := 256) (by decide)
  constructor <;> omega
theorem c_b16 (x : Int) : c32 (Int.bmod x 65536) := by
  have h1 := Int.le_bmod (x := x) (m := 65536) (by decide)
  have h2 := Int.bmod_lt (x := x) (m := 65536) (by decide)
  constructor <;> omega
theorem n_i2b (x : Int) (h : c32 x) : (Int32.ofInt x).toInt8.toInt32 = Int32.ofInt (Int.bmod x 256) := by
  apply Int32.toInt_inj.mp
  rw [Int8.toInt_toInt32, Int32.toInt_toInt8, n_t32 h, n_t32 (c_b8 x)]
theorem n_i2s (x : Int) (h : c32 x) : (Int32.ofInt x).toInt16.toInt32 = Int32.ofInt (Int.bmod x 65536) := by
  apply Int32.toInt_inj.mp
  rw [Int16.toInt_toInt32, Int32.toInt_toInt16, n_t32 h, n_t32 (c_b16 x)]
theorem n_lcmp {x y : Int} (hx : c64 x) (hy : c64 y) : lg_cmp (Int64.ofInt x) (Int64.ofInt y) = Int32.ofInt (lcmpI x y) := by
  unfold lg_cmp lcmpI
  show (if Int64.ofInt y < Int64.ofInt x then (1 : Int32) else if Int64.ofInt x = Int64.ofInt y then 0 else -1) = _
  rcases Int.lt_trichotomy x y with h | h | h
  · rw [if_neg (by rw [n_lt64 hy hx]; omega), if_neg (by rw [n_eq64 hx hy]; omega), if_pos h]; rfl
  · rw [if_neg (by rw [n_lt64 hy hx]; omega), if_pos (by rw [n_eq64 hx hy]; omega), if_neg (by omega), if_pos h]; rfl
  · rw [if_pos (by rw [n_lt64 hy hx]; omega), if_neg (by omega), if_neg (by omega)]; rfl
theorem c_lcmp (x y : Int) : c32 (lcmpI x y) := by
  unfold lcmpI
  split
  · exact ⟨by decide, by decide⟩
  · split <;> exact ⟨by decide, by decide⟩
theorem n_iand (x y : Int) : Int32.ofInt (iand x y) = Int32.ofInt x &&& Int32.ofInt y := Int32.ofInt_toInt _
theorem n_ior (x y : Int) : Int32.ofInt (ior x y) = Int32.ofInt x ||| Int32.ofInt y := Int32.ofInt_toInt _
theorem n_ixor (x y : Int) : Int32.ofInt (ixor x y) = Int32.ofInt x ^^^ Int32.ofInt y := Int32.ofInt_toInt _
theorem n_ishl (x y : Int) : Int32.ofInt (ishl x y) = Int32.ofInt x <<< (Int32.ofInt y &&& 31) := Int32.ofInt_toInt _
theorem n_ishr (x y : Int) : Int32.ofInt (ishr x y) = Int32.ofInt x >>> (Int32.ofInt y &&& 31) := Int32.ofInt_toInt _
theorem n_iushr (x y : Int) : Int32.ofInt (iushr x y) = ((Int32.ofInt x).toUInt32 >>> ((Int32.ofInt y).toUInt32 &&& Int32.toUInt32 31)).toInt32 := Int32.ofInt_toInt _
theorem n_land (x y : Int) : Int64.ofInt (land x y) = Int64.ofInt x &&& Int64.ofInt y := Int64.ofInt_toInt _
theorem n_lor (x y : Int) : Int64.ofInt (lor x y) = Int64.ofInt x ||| Int64.ofInt y := Int64.ofInt_toInt _
theorem n_lshl (x y : Int) : Int64.ofInt (lshl x y) = Int64.ofInt x <<< ((Int32.ofInt y).toInt64 &&& 63) := Int64.ofInt_toInt _
theorem c_ibin {k x y v : Int} (h : ibin k x y = some v) : c32 v := by
  unfold ibin at h
  repeat' split at h
  all_goals first | (cases h; done) | (cases h; first | exact c_w32 _ | exact c_t32 _)
theorem c_lbin {k x y v : Int} (h : lbin k x y = some v) : c64 v := by
  unfold lbin at h
  repeat' split at h
  all_goals first | (cases h; done) | (cases h; first | exact c_w64 _ | exact c_t64 _)
