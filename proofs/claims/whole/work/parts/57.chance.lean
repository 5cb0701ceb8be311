/-! promises enough, chance; the common divisor -/
def powF (b : Int) : Int → Nat → Int
  | v, 0 => v
  | v, n + 1 => powF b (w64 (v * b)) n
def chX (q : Int) : Int → Int → Nat → Int
  | v, _, 0 => v
  | v, i, n + 1 => chX q (w64 (Int.tdiv (w64 (v * w32 (q + i))) i)) (i + 1) n
def chM (p : Int) : Int → Int → Nat → Int
  | v, _, 0 => v
  | v, k, n + 1 => chM p (w64 (Int.tdiv (w64 (v * w32 (p - k))) (k + 1))) (k + 1) n
def WA (p c a : Nat) : Int := w64 (chX ((p : Int) - a) 1 1 a * powF ((c : Int) - 1) 1 (p - a))
def wa_ok (p c a : Nat) : Bool := decide (p = 0) || decide (c < 2) || decide (p < a) || (decide (powF ((c : Int) - 1) (chM (p : Int) 1 0 a) (p - a) = WA p c a) && decide (1 ≤ WA p c a) && decide (WA p c a ≤ 282429536481))
theorem wa_chk : ((List.range 13).all fun p => (List.range 10).all fun c => (List.range 13).all fun a => wa_ok p c a) = true := by decide +kernel
theorem wa_all : ∀ p : Nat, p < 13 → ∀ c : Nat, c < 10 → ∀ a : Nat, a < 13 → 1 ≤ p → 2 ≤ c → a ≤ p → powF ((c : Int) - 1) (chM (p : Int) 1 0 a) (p - a) = WA p c a ∧ 1 ≤ WA p c a ∧ WA p c a ≤ 282429536481 := fun p hp c hc a ha h1 h2 h3 => by
  have h := List.all_eq_true.mp (List.all_eq_true.mp (List.all_eq_true.mp wa_chk p (List.mem_range.mpr hp)) c (List.mem_range.mpr hc)) a (List.mem_range.mpr ha)
  unfold wa_ok at h
  simp only [Bool.or_eq_true, Bool.and_eq_true, decide_eq_true_eq] at h
  rcases h with ((h | h) | h) | h
  · omega
  · omega
  · omega
  · exact ⟨h.1.1, h.1.2, h.2⟩
theorem al_all : ∀ p : Nat, p < 13 → ∀ c : Nat, c < 10 → 1 ≤ p → 2 ≤ c → 1 ≤ powF (c : Int) 1 p ∧ powF (c : Int) 1 p ≤ 282429536481 := by decide +kernel
def gcdF : Nat → Int → Int → Option Int
  | 0, _, _ => none
  | n + 1, x, y => if y = 0 then some x else gcdF n y (w64 (Int.tmod x y))
theorem gcdF_nat : ∀ (n x y : Nat), y ≤ x → x * y < 2 ^ n → x < 2 ^ 62 → gcdF (n + 1) (x : Int) (y : Int) = some ((Nat.gcd x y : Nat) : Int)
  | n, x, y, hxy, hp, hx => by
    unfold gcdF
    by_cases q : y = 0
    · subst q
      rw [if_pos (by decide), Nat.gcd_zero_right]
    · rw [if_neg (by omega), tm_nn (by omega), w64_i (by omega) (by have := Int.emod_lt_of_pos (x : Int) (show (0 : Int) < (y : Int) by omega); omega)]
      have yp : 0 < y := by omega
      have e : ((x : Int) % (y : Int)) = ((x % y : Nat) : Int) := by omega
      rw [e]
      cases n with
      | zero =>
        have : 1 ≤ x * y := Nat.mul_pos (by omega) yp
        simp at hp
        omega
      | succ m =>
        have l1 : x % y < y := Nat.mod_lt x yp
        have l2 : 2 * (x % y) ≤ x := by
          have := Nat.mod_add_div x y
          have d1 : 1 ≤ x / y := (Nat.one_le_div_iff yp).mpr hxy
          have := Nat.mul_le_mul_left y d1
          omega
        have l3 : 2 * (y * (x % y)) ≤ x * y := by
          have := Nat.mul_le_mul_right y l2
          rw [Nat.mul_assoc, Nat.mul_comm (x % y) y] at this
          exact this
        have l4 : y * (x % y) < 2 ^ m := by
          rw [Nat.pow_succ] at hp
          omega
        rw [gcdF_nat m y (x % y) (by omega) l4 (by omega), Nat.gcd_comm y (x % y), ← Nat.gcd_rec, Nat.gcd_comm]
theorem gcdF_100 (x y : Nat) (hx : x < 2 ^ 48) (hy : y < 2 ^ 48) : gcdF 100 (x : Int) (y : Int) = some ((Nat.gcd x y : Nat) : Int) := by
  have hp : x * y < 2 ^ 98 := by
    have h1 : x * y ≤ 2 ^ 48 * 2 ^ 48 := Nat.mul_le_mul (by omega) (by omega)
    have h2 : (2 : Nat) ^ 48 * 2 ^ 48 < 2 ^ 98 := by decide +kernel
    omega
  by_cases q : y ≤ x
  · exact gcdF_nat 99 x y q (Nat.lt_of_lt_of_le hp (Nat.pow_le_pow_right (by decide) (by decide))) (Nat.lt_of_lt_of_le hx (by decide +kernel))
  · unfold gcdF
    rw [if_neg (by omega), tm_nn (by omega), Int.emod_eq_of_lt (by omega) (by omega), w64_i (by omega) (by omega), gcdF_nat 98 y x (by omega) (by rw [Nat.mul_comm]; exact hp) (Nat.lt_of_lt_of_le hy (by decide +kernel)), Nat.gcd_comm]
section P41
variable {M : Mem} {a b c g n p x y v k : Int} {d : Nat}
theorem w30 {b : Int} : ¬ ((3, b) : AV).1 = 1 := show ¬ ((3 : Nat) = 1) by decide
theorem X_cd : ∀ (n : Nat) (x y i : Int) (w0 w1 w2 w3 w5 w7 w9 w10 : AV), ¬ w3.1 = 1 → i + n = 100 → 0 ≤ i → gcdF n x y = some g → at_X_commonDivisor_6 d w0 w1 w2 w3 x w5 y w7 i w9 w10 M (rL g M)
  | 0, x, y, i, w0, w1, w2, w3, w5, w7, w9, w10, hw, hi, i0, h => by cases h
  | n + 1, x, y, i, w0, w1, w2, w3, w5, w7, w9, w10, hw, hi, i0, h => by
    unfold gcdF at h
    refine sg_X_commonDivisor_6 hw (ite_i (fun t => absurd t (by omega)) (fun _ => ite_i (fun t => ?_) (fun t => ?_)))
    · rw [if_pos (lcmp_eq.mp t)] at h
      cases h; rfl
    · have t := (not_congr lcmp_eq).mp t
      rw [if_neg t] at h
      rw [w32_i (x := i + 1) (by omega) (by omega)]
      exact ⟨t, X_cd n _ _ (i + 1) _ _ _ _ _ _ _ _ hw (by omega) (by omega) h⟩
theorem M_cd {l0 l2 l4 : Int} : ∀ (n : Nat) (x y : Int) (w1 w3 w6 w8 w9 w10 : AV), ¬ w8.1 = 1 → gcdF n x y = some g → ¬ g = 0 → at_M_part_4 d l0 w1 l2 w3 l4 x w6 y w8 w9 w10 M (rL (w64 (Int.tdiv (if l4 = 0 then l0 else l2) g)) M)
  | 0, x, y, w1, w3, w6, w8, w9, w10, hw, h, hg => by cases h
  | n + 1, x, y, w1, w3, w6, w8, w9, w10, hw, h, hg => by
    unfold gcdF at h
    refine sg_M_part_4 hw (ite_i (fun t => ?_) (fun t => ?_))
    · rw [if_pos (lcmp_eq.mp t)] at h
      cases h
      refine ite_i (fun q => ⟨hg, ?_⟩) (fun q => ⟨hg, ?_⟩)
      · rw [if_neg q]
      · rw [if_pos (Classical.not_not.mp q)]
    · have t := (not_congr lcmp_eq).mp t
      rw [if_neg t] at h
      exact ⟨t, M_cd n _ _ _ _ _ _ _ _ w30 h hg⟩
theorem c_X_lowest (hx : 0 ≤ x ∧ x < 281474976710656) (hy : 0 ≤ y ∧ y < 281474976710656) (h0 : 0 < x ∨ 0 < y) (hd : 2 ≤ d) : Cl d m_X_lowest [(1, x), (1, y)] M (rL (w64 (Int.tdiv x ((Nat.gcd x.toNat y.toNat : Nat) : Int))) M) := by
  have e := gcdF_100 x.toNat y.toNat (by omega) (by omega)
  rw [Int.toNat_of_nonneg hx.1, Int.toNat_of_nonneg hy.1] at e
  have g0 : ¬ ((Nat.gcd x.toNat y.toNat : Nat) : Int) = 0 := by
    have : 0 < Nat.gcd x.toNat y.toNat := Nat.gcd_pos_iff.mpr (by omega)
    omega
  exact (sg_X_lowest (d := 1) ⟨_, sg_X_commonDivisor (d := 0) (X_cd 100 x y 0 _ _ _ _ _ _ _ _ w30 (by decide) (by decide) e), ite_i (fun _ => ⟨g0, rfl⟩) (fun t => absurd (Classical.not_not.mp (fun q => t (fun z => q z))) (fun z => g0 (lcmp_eq.mp z)))⟩).mono hd
theorem c_M_part (hx : 0 ≤ x ∧ x < 281474976710656) (hy : 0 ≤ y ∧ y < 281474976710656) (h0 : 0 < x ∨ 0 < y) (hd : 1 ≤ d) : Cl d m_M_part [(1, x), (1, y), (0, p)] M (rL (w64 (Int.tdiv (if p = 0 then x else y) ((Nat.gcd x.toNat y.toNat : Nat) : Int))) M) := by
  have e := gcdF_100 x.toNat y.toNat (by omega) (by omega)
  rw [Int.toNat_of_nonneg hx.1, Int.toNat_of_nonneg hy.1] at e
  have g0 : ¬ ((Nat.gcd x.toNat y.toNat : Nat) : Int) = 0 := by
    have : 0 < Nat.gcd x.toNat y.toNat := Nat.gcd_pos_iff.mpr (by omega)
    omega
  exact (sg_M_part (d := 0) (M_cd 100 x y _ _ _ _ _ _ w30 e g0)).mono hd
theorem c_X_power {t : Nat} (ht : t < 100) (hd : 1 ≤ d) : Cl d m_X_power [(0, b), (0, (t : Int))] M (rL (powF b 1 t) M) := by
  have key : ∀ (n k : Nat) (v : Int) (w : AV), k + n = t → at_X_power_4 0 b (t : Int) v w (k : Int) M (rL (powF b v n) M) := by
    intro n
    induction n with
    | zero => intro k v w hk; exact sg_X_power_4 (ite_i (fun _ => rfl) (fun q => absurd (by omega) q))
    | succ n ih =>
      intro k v w hk
      refine sg_X_power_4 (ite_i (fun q => absurd q (by omega)) (fun _ => ?_))
      have := ih (k + 1) (w64 (v * b)) (3, 0) (by omega)
      rw [show (((k + 1 : Nat)) : Int) = (k : Int) + 1 by omega] at this
      rw [w32_k (by omega)]
      exact this
  exact (sg_X_power (d := 0) (key t 0 1 _ (by omega))).mono hd
theorem c_M_all {t : Nat} (ht : t < 100) (hd : 1 ≤ d) : Cl d m_M_all [(0, (t : Int)), (0, b)] M (rL (powF b 1 t) M) := by
  have key : ∀ (n k : Nat) (v : Int) (w : AV), k + n = t → at_M_all_4 0 (t : Int) b v w (k : Int) M (rL (powF b v n) M) := by
    intro n
    induction n with
    | zero => intro k v w hk; exact sg_M_all_4 (ite_i (fun _ => rfl) (fun q => absurd (by omega) q))
    | succ n ih =>
      intro k v w hk
      refine sg_M_all_4 (ite_i (fun q => absurd q (by omega)) (fun _ => ?_))
      have := ih (k + 1) (w64 (v * b)) (3, 0) (by omega)
      rw [show (((k + 1 : Nat)) : Int) = (k : Int) + 1 by omega] at this
      rw [w32_k (by omega)]
      exact this
  exact (sg_M_all (d := 0) (key t 0 1 _ (by omega))).mono hd
theorem c_X_waysAlike {p c a : Nat} (hp : p < 13) (hc : c < 10) (ha : a ≤ p) (hd : 2 ≤ d) : Cl d m_X_waysAlike [(0, (p : Int)), (0, (c : Int)), (0, (a : Int))] M (rL (WA p c a) M) := by
  have key : ∀ (n i : Nat) (v : Int) (w : AV), i + n = a + 1 → 1 ≤ i → at_X_waysAlike_4 1 (p : Int) (c : Int) (a : Int) v w (i : Int) M (rL (w64 (chX ((p : Int) - a) v i n * powF ((c : Int) - 1) 1 (p - a))) M) := by
    intro n
    induction n with
    | zero =>
      intro i v w hi i1
      refine sg_X_waysAlike_4 (ite_i (fun _ => ?_) (fun q => absurd (by omega) q))
      rw [w32_i (x := (c : Int) - 1) (by omega) (by omega), w32_i (x := (p : Int) - a) (by omega) (by omega), show (p : Int) - a = ((p - a : Nat) : Int) by omega]
      exact ⟨_, c_X_power (by omega) (by decide), rfl⟩
    | succ n ih =>
      intro i v w hi i1
      refine sg_X_waysAlike_4 (ite_i (fun q => absurd q (by omega)) (fun _ => ⟨by omega, ?_⟩))
      rw [w32_i (x := (p : Int) - a) (by omega) (by omega), w32_k (by omega)]
      have := ih (i + 1) (w64 (Int.tdiv (w64 (v * w32 ((p : Int) - a + i))) i)) (3, 0) (by omega) (by omega)
      rw [show (((i + 1 : Nat)) : Int) = (i : Int) + 1 by omega] at this
      exact this
  exact (sg_X_waysAlike (d := 1) (key a 1 1 _ (by omega) (by decide))).mono hd
theorem c_M_ways {p c a : Nat} (hp : p < 13) (hc : c < 10) (ha : a ≤ p) (hd : 1 ≤ d) : Cl d m_M_ways [(0, (p : Int)), (0, (c : Int)), (0, (a : Int))] M (rL (powF ((c : Int) - 1) (chM (p : Int) 1 0 a) (p - a)) M) := by
  have k2 : ∀ (n k : Nat) (v : Int) (w2 w : AV), ¬ w2.1 = 1 → k + n = p → at_M_ways_23 0 (p : Int) (c : Int) w2 v w (k : Int) M (rL (powF ((c : Int) - 1) v n) M) := by
    intro n
    induction n with
    | zero => intro k v w2 w hw hk; exact sg_M_ways_23 hw (ite_i (fun _ => rfl) (fun q => absurd (by omega) q))
    | succ n ih =>
      intro k v w2 w hw hk
      refine sg_M_ways_23 hw (ite_i (fun q => absurd q (by omega)) (fun _ => ?_))
      have := ih (k + 1) (w64 (v * ((c : Int) - 1))) w2 (3, 0) hw (by omega)
      rw [show (((k + 1 : Nat)) : Int) = (k : Int) + 1 by omega] at this
      rw [w32_k (by omega), w32_i (x := (c : Int) - 1) (by omega) (by omega)]
      exact this
  have key : ∀ (n k : Nat) (v : Int), k + n = a → at_M_ways_4 0 (p : Int) (c : Int) (a : Int) v (3, 0) (k : Int) M (rL (powF ((c : Int) - 1) (chM (p : Int) v k n) (p - a)) M) := by
    intro n
    induction n with
    | zero =>
      intro k v hk
      exact sg_M_ways_4 w30 (ite_i (fun _ => k2 (p - a) a v _ _ w01 (by omega)) (fun q => absurd (by omega) q))
    | succ n ih =>
      intro k v hk
      refine sg_M_ways_4 w30 (ite_i (fun q => absurd q (by omega)) (fun _ => ?_))
      rw [w32_k (by omega)]
      refine ⟨by omega, ?_⟩
      have := ih (k + 1) (w64 (Int.tdiv (w64 (v * w32 ((p : Int) - k))) ((k : Int) + 1))) (by omega)
      rw [show (((k + 1 : Nat)) : Int) = (k : Int) + 1 by omega] at this
      exact this
  exact (sg_M_ways (d := 0) (key a 0 1 (by omega))).mono hd
abbrev PTS (x : Int) : Prop := 0 ≤ x ∧ (1 ≤ x / 100 ∧ x / 100 ≤ 12) ∧ (2 ≤ x % 100 ∧ x % 100 ≤ 9)
theorem c_X_arePoints (hx : c32 x) (hd : 1 ≤ d) : Cl d m_X_arePoints [(0, x)] M (rI (bI (PTS x)) M) := by
  refine (sg_X_arePoints (d := 0) (ite_i (fun q => ?_) (fun q => ?_))).mono hd
  · rw [bI_f (by unfold PTS; omega)]
  · rw [(dm100 hx (by omega)).1, (dm100 hx (by omega)).2]
    refine ite_i (fun t => ?_) (fun t => ite_i (fun t2 => ?_) (fun t2 => ite_i (fun t3 => ?_) (fun t3 => ?_)))
    · rw [bI_f (by unfold PTS; omega)]
    · rw [bI_f (by unfold PTS; omega)]
    · rw [bI_f (by unfold PTS; omega)]
    · rw [bI_t (by unfold PTS; omega)]
theorem c_M_isPoints (hx : c32 x) (hd : 2 ≤ d) : Cl d m_M_isPoints [(0, x)] M (rI (bI (PTS x)) M) := by
  refine (sg_M_isPoints (d := 1) (ite_i (fun q => ?_) (fun q => ?_))).mono hd
  · rw [bI_f (by unfold PTS; omega)]
  · rw [(dm100 hx (by omega)).1, (dm100 hx (by omega)).2]
    refine ⟨_, c_M_within (by decide), ite_b (fun t => ?_) (fun t => ⟨_, c_M_within (by decide), ite_b (fun t2 => ?_) (fun t2 => ?_)⟩)⟩
    · rw [bI_f (by unfold PTS; omega)]
    · rw [bI_f (by unfold PTS; omega)]
    · rw [bI_t (by unfold PTS; omega)]
theorem pk_chance (i : INV M) (ha : c32 a) : PkL m_X_chance m_M_chance [(0, a), (0, b), (0, c)] M := by
  by_cases y : PTS a
  · obtain ⟨d1, d2⟩ := dm100 ha (by unfold PTS at y; omega)
    obtain ⟨p, hp⟩ : ∃ p : Nat, (p : Int) = a / 100 := ⟨(a / 100).toNat, by unfold PTS at y; omega⟩
    obtain ⟨q, hq⟩ : ∃ q : Nat, (q : Int) = a % 100 := ⟨(a % 100).toNat, by unfold PTS at y; omega⟩
    have y := id y
    unfold PTS at y
    by_cases w : 0 ≤ b ∧ b ≤ (p : Int)
    · obtain ⟨k, hk⟩ : ∃ k : Nat, (k : Int) = b := ⟨b.toNat, by omega⟩
      by_cases z : 0 ≤ c ∧ c ≤ 1
      · obtain ⟨g1, g2, g3⟩ := wa_all p (by omega) q (by omega) k (by omega) (by omega) (by omega) (by omega)
        obtain ⟨h1, h2⟩ := al_all p (by omega) q (by omega) (by omega) (by omega)
        have X : ∀ r, (if ¬ c = 0 then ∃ v14, Cl 79 m_X_lowest [(1, powF (q : Int) 1 p), (1, WA p q k)] M (some (1, v14), M) ∧ r = (some (1, v14), M) else ∃ v16, Cl 79 m_X_lowest [(1, WA p q k), (1, powF (q : Int) 1 p)] M (some (1, v16), M) ∧ r = (some (1, v16), M)) → Cl 80 m_X_chance [(2, 0), (0, a), (0, b), (0, c)] M r := fun r hv => by
          refine sg_X_chance (d := 79) ⟨_, c_X_arePoints ha (by decide), ite_b (fun t => absurd ‹PTS a› t) (fun _ => ite_i (fun t => absurd t (by omega)) (fun _ => ite_i (fun t => absurd t (by rw [d1]; omega)) (fun _ => ite_i (fun t => absurd t (by omega)) (fun _ => ite_i (fun _ => ?_) (fun t => absurd z.2 t)))))⟩
          rw [d1, d2, ← hp, ← hq, ← hk]
          exact ⟨_, c_X_waysAlike (by omega) (by omega) (by omega) (by decide), _, c_X_power (by omega) (by decide), hv⟩
        have Y : Cl 80 m_M_chance [(2, 64), (0, a), (0, b), (0, c)] M (rL (w64 (Int.tdiv (if c = 0 then WA p q k else powF (q : Int) 1 p) ((Nat.gcd (WA p q k).toNat (powF (q : Int) 1 p).toNat : Nat) : Int))) M) := by
          refine sg_M_chance (d := 79) ⟨_, c_M_isPoints ha (by decide), ite_b (fun t => absurd ‹PTS a› t) (fun _ => ⟨_, c_M_within (by decide), ite_b (fun t => absurd ⟨w.1, by rw [d1]; omega⟩ t) (fun _ => ⟨_, c_M_within (by decide), ite_bn (fun _ => ?_) (fun t => absurd z t)⟩)⟩)⟩
          rw [d1, d2, ← hp, ← hq, ← hk]
          refine ⟨_, by have := c_M_ways (M := M) (d := 79) (p := p) (c := q) (a := k) (by omega) (by omega) (by omega) (by decide); rw [g1] at this; exact this, _, c_M_all (by omega) (by decide), _, c_M_part ⟨by omega, by omega⟩ ⟨by omega, by omega⟩ (Or.inl (by omega)) (by decide), rfl⟩
        refine ⟨_, M, M, X _ (ite_i (fun t => ⟨_, c_X_lowest ⟨by omega, by omega⟩ ⟨by omega, by omega⟩ (Or.inl (by omega)) (by decide), ?_⟩) (fun t => ⟨_, c_X_lowest ⟨by omega, by omega⟩ ⟨by omega, by omega⟩ (Or.inl (by omega)) (by decide), ?_⟩)), Y, i⟩
        · rw [if_neg t, Nat.gcd_comm]
        · rw [if_pos (Classical.not_not.mp t)]
      · exact ⟨-9223372036854775808, M, M, sg_X_chance (d := 79) ⟨_, c_X_arePoints ha (by decide), ite_b (fun t => absurd ‹PTS a› t) (fun _ => ite_i (fun t => absurd t (by omega)) (fun _ => ite_i (fun t => absurd t (by rw [d1]; omega)) (fun _ => ite_i (fun _ => rfl) (fun t => ite_i (fun t2 => absurd ⟨by omega, t2⟩ z) (fun _ => rfl)))))⟩, sg_M_chance (d := 79) ⟨_, c_M_isPoints ha (by decide), ite_b (fun t => absurd ‹PTS a› t) (fun _ => ⟨_, c_M_within (by decide), ite_b (fun t => absurd ⟨w.1, by rw [d1]; omega⟩ t) (fun _ => ⟨_, c_M_within (by decide), ite_bn (fun t => absurd t z) (fun _ => rfl)⟩)⟩)⟩, i⟩
    · exact ⟨-9223372036854775808, M, M, sg_X_chance (d := 79) ⟨_, c_X_arePoints ha (by decide), ite_b (fun t => absurd ‹PTS a› t) (fun _ => ite_i (fun _ => rfl) (fun t => ite_i (fun _ => rfl) (fun t2 => absurd ⟨by omega, by rw [d1] at t2; omega⟩ w)))⟩, sg_M_chance (d := 79) ⟨_, c_M_isPoints ha (by decide), ite_b (fun t => absurd ‹PTS a› t) (fun _ => ⟨_, c_M_within (by decide), ite_b (fun _ => rfl) (fun t => absurd ⟨t.1, by rw [d1] at t; omega⟩ w)⟩)⟩, i⟩
  · exact ⟨-9223372036854775808, M, M, sg_X_chance (d := 79) ⟨_, c_X_arePoints ha (by decide), ite_b (fun _ => rfl) (fun t => absurd t y)⟩, sg_M_chance (d := 79) ⟨_, c_M_isPoints ha (by decide), ite_b (fun _ => rfl) (fun t => absurd t y)⟩, i⟩
end P41
