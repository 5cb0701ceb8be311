/-! promises put, keep, row: what they write, and the invariant behind it -/
theorem up_n {M : Mem} {a b : Nat} {i j v : Int} (h : ¬ (b = a ∧ j = i)) : up M a i v b j = M b j := if_neg h
/-- cells of a row from b on, k of them, told by f -/
def fil (M : Mem) (a : Nat) (b : Int) (f : Int → Int) (k : Nat) : Mem := fun o j => if o = a ∧ b ≤ j ∧ j < b + k then f j else M o j
section P25
variable {M : Mem} {a b c p s v x : Int}
theorem fil_0 {a : Nat} {f : Int → Int} : fil M a b f 0 = M := funext fun o => funext fun j => if_neg (by omega)
theorem fil_n {a : Nat} {f : Int → Int} {k o : Nat} {j : Int} (h : ¬ (o = a ∧ b ≤ j ∧ j < b + k)) : fil M a b f k o j = M o j := if_neg h
theorem fil_i {a : Nat} {f : Int → Int} {k : Nat} {j : Int} (h : b ≤ j) (h2 : j < b + k) : fil M a b f k a j = f j := if_pos ⟨rfl, h, h2⟩
theorem fil_s {a : Nat} {f : Int → Int} {k : Nat} {i : Int} (hi : i = b + k) (hv : v = f i) : up (fil M a b f k) a i v = fil M a b f (k + 1) := by
  subst hi hv
  refine funext fun o => funext fun j => ?_
  unfold up fil
  by_cases q : o = a ∧ j = b + k
  · rw [if_pos q, if_pos (by omega), q.2]
  · rw [if_neg q]
    by_cases q2 : o = a ∧ b ≤ j ∧ j < b + k
    · rw [if_pos q2, if_pos (by omega)]
    · rw [if_neg q2, if_neg (by omega)]
theorem fil_d {a : Nat} {f : Int → Int} {k : Nat} {i : Int} (hi : i + 1 = b) (hv : v = f i) : up (fil M a b f k) a i v = fil M a i f (k + 1) := by
  subst hi hv
  refine funext fun o => funext fun j => ?_
  unfold up fil
  by_cases q : o = a ∧ j = i
  · rw [if_pos q, if_pos (by omega), q.2]
  · rw [if_neg q]
    by_cases q2 : o = a ∧ i + 1 ≤ j ∧ j < i + 1 + k
    · rw [if_pos q2, if_pos (by omega)]
    · rw [if_neg q2, if_neg (by omega)]
theorem To.fil {T : Nat → Int → Prop} {M' : Mem} {a : Nat} {f : Int → Int} {k : Nat} (h : To T M M') (s : ∀ q, b ≤ q → q < b + k → T a q) : To T M (fil M' a b f k) := fun o j z => by
  rw [fil_n (fun q => z (by rw [q.1]; exact s j q.2.1 q.2.2))]
  exact h o j z
theorem KP_VR (hv : c64 v) : VR s (KP s v) := by
  unfold VR KP
  refine ⟨fun q => ?_, fun q => ?_, fun q => ?_, fun q => ?_, fun q => ?_⟩
  · rw [if_pos q]
    have h1 := @Int.le_bmod (w32 v) 256 (by decide)
    have h2 := @Int.bmod_lt (w32 v) 256 (by decide)
    omega
  · rw [if_neg (by omega), if_pos q]
    have h1 := @Int.le_bmod (w32 v) 65536 (by decide)
    have h2 := @Int.bmod_lt (w32 v) 65536 (by decide)
    omega
  · rw [if_neg (by omega), if_neg (by omega), if_pos q]
    exact c_w32 _
  · rw [if_neg (by omega), if_neg (by omega), if_neg (by omega), if_pos q]
    exact hv
  · rw [if_neg (by omega), if_neg (by omega), if_neg (by omega), if_neg (by omega)]
    split
    · exact Or.inl rfl
    · exact Or.inr rfl
/-- only the shelves' cells differ -/
def TS (o : Nat) (i : Int) : Prop := (50 ≤ o ∧ o ≤ 53) ∨ (55 ≤ o ∧ o ≤ 60) ∨ (84 ≤ o ∧ o ≤ 86)
theorem INV.shelves {M M' : Mem} (h : INV M) (f : To TS M M') (g : R13 M') : INV M' := by
  obtain ⟨a1, a2, a3, a4, a6, a7, a8, a9, a10, a11, a12, a13, a5⟩ := h
  exact ⟨a1.ag (f.ag (by intro o i; unfold TS K1; omega)), R2.ag a1 a2 (f.ag (by intro o i; unfold TS K2; omega)), a3.ag (f.ag (by intro o i; unfold TS K3; omega)), a4.ag (f.ag (by intro o i; unfold TS K4; omega)), a6.ag (f.ag (by intro o i; unfold TS K6; omega)), a7.ag (f.ag (by intro o i; unfold TS K7; omega)), a8.ag (f.ag (by intro o i; unfold TS K8; omega)), a9.ag (f.ag (by intro o i; unfold TS K9; omega)), a10.ag (f.ag (by intro o i; unfold TS K10; omega)), a11.ag (f.ag (by intro o i; unfold TS K11; omega)), a12.ag (f.ag (by intro o i; unfold TS K12; omega)), g, a5.ag (f.ag (by intro o i; unfold TS K5; omega))⟩
theorem pk_put (i : INV M) (hv : c64 v) : Pk m_X_put m_M_put [(0, a), (0, b), (1, v)] M := by
  have h := i.2.2.2.2.2.2.2.2.2.2.2.1
  rcases pr_put (a := a) (b := b) (v := v) h with ⟨u, x, m⟩ | ⟨z, q, b0, b1, x, m⟩
  · exact Pk.of x m i
  · refine Pk.of x m (i.shelves (((To.refl TS M).upd (by unfold TS; omega)).upd (by unfold TS; omega)) ?_)
    have r6 := (h.row z q).2.2.2.2.2.1
    have hM : ∀ (o : Nat) (j : Int), ¬ (o = (55 + a).toNat ∧ j = b) → ¬ (o = 86 ∧ j = 60 * a + b) → up (up M ((55 + a).toNat) b (KP (M 52 a) v)) 86 (60 * a + b) (KP (M 52 a) v) o j = M o j := fun o j h1 h2 => by rw [up_n h2, up_n h1]
    intro p p0 p6
    have hp := h p p0 p6
    rw [hM 50 p (by omega) (by omega), hM 51 p (by omega) (by omega), hM 52 p (by omega) (by omega), hM 53 p (by omega) (by omega), hM 84 p (by omega) (by omega), hM 85 p (by omega) (by omega), hM 64 30 (by omega) (by omega)]
    rcases hp with hp | hp | ⟨q1, q2, q3, q4, q5, q6, q7, q8⟩
    · exact Or.inl hp
    · exact Or.inr (Or.inl hp)
    · refine Or.inr (Or.inr ⟨q1, q2, q3, q4, q5, q6, q7, fun j j0 j1 => ?_⟩)
      by_cases e : p = a ∧ j = b
      · obtain ⟨rfl, rfl⟩ := e
        rw [up_eq, up_n (by omega), up_eq]
        exact ⟨rfl, KP_VR hv⟩
      · rw [hM ((55 + p).toNat) j (by omega) (by omega), hM 86 (60 * p + j) (by omega) (by omega)]
        exact q8 j j0 j1
theorem pk_keep (i : INV M) : Pk m_X_keep m_M_keep [(0, a), (0, b)] M := by
  have h := i.2.2.2.2.2.2.2.2.2.2.2.1
  obtain ⟨n1, n2, n3, n4⟩ := i.2.2.2.2.2.2.2.2.2.1
  by_cases z : 0 ≤ a ∧ a < 6
  · by_cases y : -1 ≤ b ∧ b < M 64 30
    · have wm : True → w32 (M 64 30 - 1) = M 64 30 - 1 := fun _ => w32_i (by omega) (by omega)
      have hX : ∀ k : Int, k = (if 0 ≤ b then 1 else 0) → Cl 39 m_S_keepBody [(2, 49), (0, a), (0, b)] M (rV (up (up M 50 a k) 51 a b)) := fun k hk => by
        subst hk
        refine sg_S_keepBody (d := 38) ⟨_, c_S_has (by decide), ite_b (fun t => absurd z t) (fun _ => ite_i (fun t => ⟨z, z, ?_⟩) (fun t => ⟨z, z, ?_⟩))⟩
        · rw [if_pos t]
        · rw [if_neg t]
      have hX2 : ∀ k : Int, k = (if 0 ≤ b then 1 else 0) → Cl 40 m_X_keep [(2, 0), (0, a), (0, b)] M (rI 1 (up (up M 50 a k) 51 a b)) := fun k hk => by
        refine sg_X_keep (d := 39) ⟨_, c_S_has (by decide), ite_b (fun t => absurd z t) (fun _ => ite_i (fun _ => ⟨_, hX k hk, rfl⟩) (fun t => ⟨_, c_P_has (by decide), ite_bn (fun _ => ⟨_, hX k hk, rfl⟩) (fun t2 => absurd (by omega) t2)⟩))⟩
      by_cases b0 : 0 ≤ b
      · have m : Cl 40 m_M_keep [(2, 64), (0, a), (0, b)] (up (up M 50 a 1) 51 a b) (rI 1 (up (up (up (up M 50 a 1) 51 a b) 84 a (10 + b)) 85 a 0)) := by
          refine sg_M_keep (d := 39) ⟨_, c_M_isShelf (by decide), ite_b (fun t => absurd z t) (fun _ => ⟨_, c_M_within (by decide), ite_bn (fun _ => ite_i (fun _ => ⟨z, z, ?_⟩) (fun t => absurd b0 t)) (fun t => absurd ⟨y.1, ?_⟩ t)⟩)⟩
          · rw [w32_i (x := 10 + b) (by omega) (by omega)]
          · rw [up_n (by omega), up_n (by omega), wm trivial]; omega
        refine Pk.of (hX2 1 (by rw [if_pos b0])) m (i.shelves (((((To.refl TS M).upd (by unfold TS; omega)).upd (by unfold TS; omega)).upd (by unfold TS; omega)).upd (by unfold TS; omega)) ?_)
        have hM : ∀ (o : Nat) (j : Int), ¬ ((o = 50 ∨ o = 51 ∨ o = 84 ∨ o = 85) ∧ j = a) → up (up (up (up M 50 a 1) 51 a b) 84 a (10 + b)) 85 a 0 o j = M o j := fun o j h1 => by rw [up_n (by omega), up_n (by omega), up_n (by omega), up_n (by omega)]
        intro p p0 p6
        by_cases e : p = a
        · subst e
          refine Or.inr (Or.inl ?_)
          rw [hM 64 30 (by omega), show up (up (up (up M 50 p 1) 51 p b) 84 p (10 + b)) 85 p 0 50 p = 1 by rw [up_n (by omega), up_n (by omega), up_n (by omega), up_eq], show up (up (up (up M 50 p 1) 51 p b) 84 p (10 + b)) 85 p 0 51 p = b by rw [up_n (by omega), up_n (by omega), up_eq], show up (up (up (up M 50 p 1) 51 p b) 84 p (10 + b)) 85 p 0 84 p = 10 + b by rw [up_n (by omega), up_eq]]
          exact ⟨rfl, rfl, b0, y.2⟩
        · have hp := h p p0 p6
          rw [hM 50 p (by omega), hM 51 p (by omega), hM 52 p (by omega), hM 53 p (by omega), hM 84 p (by omega), hM 85 p (by omega), hM 64 30 (by omega), show up (up (up (up M 50 a 1) 51 a b) 84 a (10 + b)) 85 a 0 86 = M 86 from funext fun j => hM 86 j (by omega), show up (up (up (up M 50 a 1) 51 a b) 84 a (10 + b)) 85 a 0 ((55 + p).toNat) = M ((55 + p).toNat) from funext fun j => hM _ j (by omega)]
          exact hp
      · have m : Cl 40 m_M_keep [(2, 64), (0, a), (0, b)] (up (up M 50 a 0) 51 a b) (rI 1 (up (up (up (up M 50 a 0) 51 a b) 84 a (-1)) 85 a 0)) := by
          refine sg_M_keep (d := 39) ⟨_, c_M_isShelf (by decide), ite_b (fun t => absurd z t) (fun _ => ⟨_, c_M_within (by decide), ite_bn (fun _ => ite_i (fun t => absurd t b0) (fun _ => ⟨z, z, rfl⟩)) (fun t => absurd ⟨y.1, ?_⟩ t)⟩)⟩
          rw [up_n (by omega), up_n (by omega), wm trivial]; omega
        refine Pk.of (hX2 0 (by rw [if_neg b0])) m (i.shelves (((((To.refl TS M).upd (by unfold TS; omega)).upd (by unfold TS; omega)).upd (by unfold TS; omega)).upd (by unfold TS; omega)) ?_)
        have hM : ∀ (o : Nat) (j : Int), ¬ ((o = 50 ∨ o = 51 ∨ o = 84 ∨ o = 85) ∧ j = a) → up (up (up (up M 50 a 0) 51 a b) 84 a (-1)) 85 a 0 o j = M o j := fun o j h1 => by rw [up_n (by omega), up_n (by omega), up_n (by omega), up_n (by omega)]
        intro p p0 p6
        by_cases e : p = a
        · subst e
          refine Or.inl ?_
          rw [show up (up (up (up M 50 p 0) 51 p b) 84 p (-1)) 85 p 0 50 p = 0 by rw [up_n (by omega), up_n (by omega), up_n (by omega), up_eq], show up (up (up (up M 50 p 0) 51 p b) 84 p (-1)) 85 p 0 84 p = -1 by rw [up_n (by omega), up_eq]]
          exact ⟨rfl, rfl⟩
        · have hp := h p p0 p6
          rw [hM 50 p (by omega), hM 51 p (by omega), hM 52 p (by omega), hM 53 p (by omega), hM 84 p (by omega), hM 85 p (by omega), hM 64 30 (by omega), show up (up (up (up M 50 a 0) 51 a b) 84 a (-1)) 85 a 0 86 = M 86 from funext fun j => hM 86 j (by omega), show up (up (up (up M 50 a 0) 51 a b) 84 a (-1)) 85 a 0 ((55 + p).toNat) = M ((55 + p).toNat) from funext fun j => hM _ j (by omega)]
          exact hp
    · have wm : True → w32 (M 64 30 - 1) = M 64 30 - 1 := fun _ => w32_i (by omega) (by omega)
      refine Pk.of (v := -1) (sg_X_keep (d := 39) ⟨_, c_S_has (by decide), ite_b (fun _ => rfl) (fun _ => ite_i (fun t => absurd ⟨by omega, by omega⟩ y) (fun t => ⟨_, c_P_has (by decide), ite_bn (fun t2 => absurd ⟨by omega, by omega⟩ y) (fun _ => rfl)⟩))⟩) (sg_M_keep (d := 39) ⟨_, c_M_isShelf (by decide), ite_b (fun _ => rfl) (fun _ => ⟨_, c_M_within (by decide), ite_bn (fun t => absurd ?_ y) (fun _ => rfl)⟩)⟩) i
      rw [wm trivial] at t
      exact ⟨t.1, by omega⟩
  · exact Pk.of (v := -1) (sg_X_keep (d := 39) ⟨_, c_S_has (by decide), ite_b (fun _ => rfl) (fun t => absurd t z)⟩) (sg_M_keep (d := 39) ⟨_, c_M_isShelf (by decide), ite_b (fun _ => rfl) (fun t => absurd t z)⟩) i
theorem pk_row (i : INV M) : Pk m_X_row m_M_row [(0, a), (0, b), (0, c)] M := by
  have h := i.2.2.2.2.2.2.2.2.2.2.2.1
  by_cases z : 0 ≤ a ∧ a < 6
  · by_cases y : 0 ≤ b ∧ b < 5
    · by_cases w : c ≤ 60
      · by_cases w0 : 0 ≤ c
        · obtain ⟨B, hB⟩ : ∃ B, B = up (up (up M 50 a 2) 52 a b) 53 a c := ⟨_, rfl⟩
          obtain ⟨B1, hB1⟩ : ∃ B1, B1 = fil B ((55 + a).toNat) 0 (fun _ => 0) 60 := ⟨_, rfl⟩
          obtain ⟨B2, hB2⟩ : ∃ B2, B2 = up (up B1 84 a b) 85 a c := ⟨_, rfl⟩
          have x : Cl 40 m_X_row [(2, 0), (0, a), (0, b), (0, c)] M (rI 1 B1) := by
            refine sg_X_row (d := 39) ⟨_, c_S_has (by decide), ite_b (fun t => absurd z t) (fun _ => ⟨_, c_S_isRowSort (by decide), ite_b (fun t => absurd y t) (fun _ => ite_i (fun _ => ite_i (fun _ => ⟨B1, ?_, rfl⟩) (fun t => absurd w0 t)) (fun t => absurd w t))⟩)⟩
            refine sg_S_keepRow (d := 38) ⟨_, c_S_has (by decide), ite_bn (fun _ => ⟨z, z, z, ?_⟩) (fun t => absurd z t)⟩
            rw [← hB]
            have := loop_up (fun Mx j => at_S_keepRow_22 38 a (0, b) (0, c) j Mx (rV B1)) (fil B ((55 + a).toNat) 0 (fun _ => 0)) 60 (sg_S_keepRow_22 w01 (ite_i (fun _ => by rw [hB1]) (fun t => absurd (by decide) t))) (fun k hk ih => sg_S_keepRow_22 w01 (ite_i (fun t => absurd t (by omega)) (fun _ => ⟨z, ⟨by omega, by omega⟩, by rw [w32_k (by omega), fil_s (by omega) rfl]; exact ih⟩)))
            rw [fil_0] at this
            exact this
          have m : Cl 40 m_M_row [(2, 64), (0, a), (0, b), (0, c)] B1 (rI 1 (fil B2 86 (60 * a) (fun _ => 0) 60)) := by
            refine sg_M_row (d := 39) ⟨_, c_M_isShelf (by decide), ite_b (fun t => absurd z t) (fun _ => ⟨_, c_M_within (by decide), ite_b (fun t => absurd (by omega) t) (fun _ => ite_i (fun _ => ite_i (fun _ => ⟨z, z, ?_⟩) (fun t => absurd w0 t)) (fun t => absurd w t))⟩)⟩
            rw [← hB2]
            have := loop_up (fun Mx j => at_M_row_29 39 a (0, b) (0, c) j Mx (rI 1 (fil B2 86 (60 * a) (fun _ => 0) 60))) (fil B2 86 (60 * a) (fun _ => 0)) 60 (sg_M_row_29 w01 (ite_i (fun _ => rfl) (fun t => absurd (by decide) t))) (fun k hk ih => sg_M_row_29 w01 (ite_i (fun t => absurd t (by omega)) (fun _ => by rw [ix60 z (by omega) (by omega)]; exact ⟨⟨by omega, by omega⟩, by rw [w32_k (by omega), fil_s (by omega) rfl]; exact ih⟩)))
            rw [fil_0] at this
            exact this
          have hM : ∀ (o : Nat) (j : Int), ¬ ((o = 50 ∨ o = 52 ∨ o = 53 ∨ o = 84 ∨ o = 85) ∧ j = a) → ¬ o = (55 + a).toNat → ¬ (o = 86 ∧ 60 * a ≤ j ∧ j < 60 * a + 60) → fil B2 86 (60 * a) (fun _ => 0) 60 o j = M o j := fun o j h1 h2 h3 => by
            rw [fil_n (by omega), hB2, up_n (by omega), up_n (by omega), hB1, fil_n (by omega), hB, up_n (by omega), up_n (by omega), up_n (by omega)]
          refine Pk.of x m (i.shelves ?_ ?_)
          · intro o j q
            exact hM o j (fun t => q (by unfold TS; omega)) (fun t => q (by unfold TS; omega)) (fun t => q (by unfold TS; omega))
          · intro p p0 p6
            by_cases e : p = a
            · subst e
              refine Or.inr (Or.inr ?_)
              have c50 : fil B2 86 (60 * p) (fun _ => 0) 60 50 p = 2 := by rw [fil_n (by omega), hB2, up_n (by omega), up_n (by omega), hB1, fil_n (by omega), hB, up_n (by omega), up_n (by omega), up_eq]
              have c52 : fil B2 86 (60 * p) (fun _ => 0) 60 52 p = b := by rw [fil_n (by omega), hB2, up_n (by omega), up_n (by omega), hB1, fil_n (by omega), hB, up_n (by omega), up_eq]
              have c53 : fil B2 86 (60 * p) (fun _ => 0) 60 53 p = c := by rw [fil_n (by omega), hB2, up_n (by omega), up_n (by omega), hB1, fil_n (by omega), hB, up_eq]
              have c84 : fil B2 86 (60 * p) (fun _ => 0) 60 84 p = b := by rw [fil_n (by omega), hB2, up_n (by omega), up_eq]
              have c85 : fil B2 86 (60 * p) (fun _ => 0) 60 85 p = c := by rw [fil_n (by omega), hB2, up_eq]
              rw [c50, c52, c53, c84, c85]
              refine ⟨rfl, rfl, y.1, y.2, rfl, w0, w, fun j j0 j1 => ?_⟩
              rw [fil_i (by omega) (by omega), fil_n (by omega), hB2, up_n (by omega), up_n (by omega), hB1, fil_i (by omega) (by omega)]
              exact ⟨rfl, fun _ => by decide, fun _ => by decide, fun _ => c32_0, fun _ => ⟨by decide, by decide⟩, fun _ => Or.inl rfl⟩
            · have hp := h p p0 p6
              rw [hM 50 p (by omega) (by omega) (by omega), hM 51 p (by omega) (by omega) (by omega), hM 52 p (by omega) (by omega) (by omega), hM 53 p (by omega) (by omega) (by omega), hM 84 p (by omega) (by omega) (by omega), hM 85 p (by omega) (by omega) (by omega), hM 64 30 (by omega) (by omega) (by omega), show fil B2 86 (60 * a) (fun _ => 0) 60 ((55 + p).toNat) = M ((55 + p).toNat) from funext fun j => hM _ j (by omega) (by omega) (by omega)]
              rcases hp with hp | hp | ⟨q1, q2, q3, q4, q5, q6, q7, q8⟩
              · exact Or.inl hp
              · exact Or.inr (Or.inl hp)
              · refine Or.inr (Or.inr ⟨q1, q2, q3, q4, q5, q6, q7, fun j j0 j1 => ?_⟩)
                rw [hM 86 (60 * p + j) (by omega) (by omega) (by omega)]
                exact q8 j j0 j1
        · exact Pk.of (v := -14) (sg_X_row (d := 39) ⟨_, c_S_has (by decide), ite_b (fun t => absurd z t) (fun _ => ⟨_, c_S_isRowSort (by decide), ite_b (fun t => absurd y t) (fun _ => ite_i (fun _ => ite_i (fun t => absurd t w0) (fun _ => rfl)) (fun t => absurd w t))⟩)⟩) (sg_M_row (d := 39) ⟨_, c_M_isShelf (by decide), ite_b (fun t => absurd z t) (fun _ => ⟨_, c_M_within (by decide), ite_b (fun t => absurd (by omega) t) (fun _ => ite_i (fun _ => ite_i (fun t => absurd t w0) (fun _ => rfl)) (fun t => absurd w t))⟩)⟩) i
      · exact Pk.of (v := -1) (sg_X_row (d := 39) ⟨_, c_S_has (by decide), ite_b (fun t => absurd z t) (fun _ => ⟨_, c_S_isRowSort (by decide), ite_b (fun t => absurd y t) (fun _ => ite_i (fun t => absurd t w) (fun _ => rfl))⟩)⟩) (sg_M_row (d := 39) ⟨_, c_M_isShelf (by decide), ite_b (fun t => absurd z t) (fun _ => ⟨_, c_M_within (by decide), ite_b (fun t => absurd (by omega) t) (fun _ => ite_i (fun t => absurd t w) (fun _ => rfl))⟩)⟩) i
    · exact Pk.of (v := -1) (sg_X_row (d := 39) ⟨_, c_S_has (by decide), ite_b (fun t => absurd z t) (fun _ => ⟨_, c_S_isRowSort (by decide), ite_b (fun _ => rfl) (fun t => absurd t y)⟩)⟩) (sg_M_row (d := 39) ⟨_, c_M_isShelf (by decide), ite_b (fun t => absurd z t) (fun _ => ⟨_, c_M_within (by decide), ite_b (fun _ => rfl) (fun t => absurd (by omega) y)⟩)⟩) i
  · exact Pk.of (v := -1) (sg_X_row (d := 39) ⟨_, c_S_has (by decide), ite_b (fun _ => rfl) (fun t => absurd t z)⟩) (sg_M_row (d := 39) ⟨_, c_M_isShelf (by decide), ite_b (fun _ => rfl) (fun t => absurd t z)⟩) i
end P25
