/-! promise card; what tells a print of a card -/
/-- the masks of a card are those of its sorts -/
def MKo (S O : Int) (g : Int → Int) : Prop := c32 S ∧ c32 O ∧ ∀ i : Nat, i < 32 → bt S i = (decide (i < 10) && decide (g (fp i : Int) = 3)) ∧ bt O i = (decide (i < 10) && decide (4 ≤ g (fp i : Int)))
abbrev mS (s S : Int) (f : Nat) : Int := if s = 3 then ior S (dbit f) else iand S (ixor (dbit f) (-1))
abbrev mO (s O : Int) (f : Nat) : Int := if s = 4 ∨ s = 5 then ior O (dbit f) else iand O (ixor (dbit f) (-1))
def tS (M : Mem) (c : Int) (f : Nat) (s : Int) : Mem := up (up (up M ((3 + c).toNat) f s) 28 c (mS s (M 28 c) f)) 29 c (mO s (M 29 c) f)
section P31
variable {M N : Mem} {a b c j n p s u v x y T : Int}
theorem MKo.set {S O : Int} {g : Int → Int} {f : Nat} (h : MKo S O g) (hf : f < 10) (s0 : 0 ≤ s) (s5 : s ≤ 5) : MKo (mS s S f) (mO s O f) (fun q => if q = (f : Int) then s else g q) := by
  obtain ⟨h1, h2, h3⟩ := h
  refine ⟨?_, ?_, fun i hi => ⟨?_, ?_⟩⟩
  · unfold mS; split
    · exact c_ior _ _
    · exact c_iand _ _
  · unfold mO; split
    · exact c_ior _ _
    · exact c_iand _ _
  · have h := (h3 i hi).1
    have hd := bt_dbit f hf i hi
    by_cases e : fp i = f
    · have e' : ((fp i : Int) = (f : Int)) := by omega
      unfold mS
      simp only [e', if_true]
      by_cases q : s = 3
      · rw [if_pos q, bt_or, hd, h]
        by_cases z : i < 10
        · simp [z, e, q]
        · simp [z]
      · rw [if_neg q, bt_and, bt_xor, bt_n1 hi, hd]
        by_cases z : i < 10
        · simp [z, e, q]
        · simp [h, z]
    · have e' : ¬ ((fp i : Int) = (f : Int)) := by omega
      unfold mS
      simp only [if_neg e']
      by_cases q : s = 3
      · rw [if_pos q, bt_or, hd, h]
        simp [e]
      · rw [if_neg q, bt_and, bt_xor, bt_n1 hi, hd, h]
        simp [e]
  · have h := (h3 i hi).2
    have hd := bt_dbit f hf i hi
    by_cases e : fp i = f
    · have e' : ((fp i : Int) = (f : Int)) := by omega
      unfold mO
      simp only [e', if_true]
      by_cases q : s = 4 ∨ s = 5
      · rw [if_pos q, bt_or, hd, h]
        have q4 : 4 ≤ s := by omega
        by_cases z : i < 10
        · simp [z, e, q4]
        · simp [z]
      · have q4 : ¬ 4 ≤ s := by omega
        rw [if_neg q, bt_and, bt_xor, bt_n1 hi, hd]
        by_cases z : i < 10
        · simp [z, e, q4]
        · simp [h, z]
    · have e' : ¬ ((fp i : Int) = (f : Int)) := by omega
      unfold mO
      simp only [if_neg e']
      by_cases q : s = 4 ∨ s = 5
      · rw [if_pos q, bt_or, hd, h]
        simp [e]
      · rw [if_neg q, bt_and, bt_xor, bt_n1 hi, hd, h]
        simp [e]
theorem MKo.congr {S O : Int} {g g' : Int → Int} (h : MKo S O g) (q : ∀ f : Int, 0 ≤ f → f < 10 → g' f = g f) : MKo S O g' := by
  refine ⟨h.1, h.2.1, fun i hi => ?_⟩
  by_cases z : i < 10
  · have := fp_lt z
    rw [q _ (by omega) (by omega)]
    exact h.2.2 i hi
  · have := h.2.2 i hi
    simp [z] at this ⊢
    exact this
theorem MKo.zero {g : Int → Int} (q : ∀ f : Int, 0 ≤ f → f < 10 → g f = 1) : MKo 0 0 g := by
  refine ⟨c32_0, c32_0, fun i hi => ?_⟩
  rw [bt_z]
  by_cases z : i < 10
  · have := fp_lt z
    rw [q _ (by omega) (by omega)]
    simp
  · simp [z]
theorem c_C_tellSort {f : Nat} {d : Nat} (cn : 0 ≤ c ∧ c < M 1 5) (h12 : M 1 5 ≤ 12) (hf : f < 10) (hd : 2 ≤ d) : Cl d m_C_tellSort [(2, 1), (0, c), (0, (f : Int)), (0, s)] M (rV (tS M c f s)) := by
  have r1 : 0 ≤ c ∧ c < 12 := ⟨cn.1, by omega⟩
  have a1 : up M ((3 + c).toNat) f s 28 c = M 28 c := up_n (by omega)
  have a2 : ∀ z, up (up M ((3 + c).toNat) f s) 28 c z 29 c = M 29 c := fun z => by rw [up_n (by omega), up_n (by omega)]
  refine (sg_C_tellSort (d := 1) ⟨_, c_C_has (by decide), ite_b (fun t => absurd cn t) (fun _ => ⟨_, c_X_isFinger (by decide), ite_bn (fun _ => ⟨_, c_X_drawerBit hf (by decide), r1, ⟨by omega, by omega⟩, ?_⟩) (fun t => absurd ⟨by omega, by omega⟩ t)⟩)⟩).mono hd
  rw [a1, a2, a2]
  unfold tS mS mO
  refine ite_i (fun q => ⟨r1, r1, ?_⟩) (fun q => ⟨r1, r1, ?_⟩)
  · rw [if_neg q]
    refine ite_i (fun q4 => ⟨r1, r1, ?_⟩) (fun q4 => ite_i (fun q5 => ⟨r1, r1, ?_⟩) (fun q5 => ⟨r1, r1, ?_⟩))
    · rw [if_pos (Or.inl q4)]
    · rw [if_neg (fun t => t.elim q4 q5)]
    · rw [if_pos (Or.inr (Classical.not_not.mp q5))]
  · have q := Classical.not_not.mp q
    rw [if_pos q]
    refine ite_i (fun q4 => ⟨r1, r1, ?_⟩) (fun q4 => ite_i (fun q5 => ⟨r1, r1, ?_⟩) (fun q5 => ⟨r1, r1, ?_⟩))
    · rw [if_pos (Or.inl q4)]
    · rw [if_neg (fun t => t.elim q4 q5)]
    · rw [if_pos (Or.inr (Classical.not_not.mp q5))]
theorem c_C_tellRidges {f : Nat} {d : Nat} (cn : 0 ≤ c ∧ c < M 1 5) (h12 : M 1 5 ≤ 12) (hf : f < 10) (hd : 2 ≤ d) : Cl d m_C_tellRidges [(2, 1), (0, c), (0, (f : Int)), (0, s)] M (rV (up M ((16 + c).toNat) f s)) := by
  have r1 : 0 ≤ c ∧ c < 12 := ⟨cn.1, by omega⟩
  exact (sg_C_tellRidges (d := 1) ⟨_, c_C_has (by decide), ite_b (fun t => absurd cn t) (fun _ => ⟨_, c_X_isFinger (by decide), ite_b (fun t => absurd ⟨by omega, by omega⟩ t) (fun _ => ⟨r1, ⟨by omega, by omega⟩, rfl⟩)⟩)⟩).mono hd
/-- the cells of one card in the class -/
def TPc (h : Int) (o : Nat) (i : Int) : Prop := ((o = 28 ∨ o = 29) ∧ i = h) ∨ o = (3 + h).toNat ∨ o = (16 + h).toNat
theorem tS_to {f : Nat} : To (TPc c) M (tS M c f s) := (((To.refl _ M).upd (by unfold TPc; omega)).upd (by unfold TPc; omega)).upd (by unfold TPc; omega)
theorem tS_n {f o : Nat} {i : Int} (h : ¬ TPc c o i) : tS M c f s o i = M o i := tS_to o i h
theorem tS_row {f : Nat} {q : Int} (c0 : 0 ≤ c) (c12 : c < 12) : tS M c f s ((3 + c).toNat) q = if q = (f : Int) then s else M ((3 + c).toNat) q := by
  unfold tS
  rw [up_n (by omega), up_n (by omega)]
  by_cases e : q = (f : Int)
  · rw [if_pos e, e, up_eq]
  · rw [if_neg e, up_n (by omega)]
theorem tS_28 {f : Nat} : tS M c f s 28 c = mS s (M 28 c) f := by
  unfold tS
  rw [up_n (by omega), up_eq]
theorem tS_29 {f : Nat} : tS M c f s 29 c = mO s (M 29 c) f := by
  unfold tS
  rw [up_eq]
/-- one finger told, sort and ridges -/
def tF (M : Mem) (c : Int) (f : Nat) (s r : Int) : Mem := up (tS M c f s) ((16 + c).toNat) f r
theorem tF_to {f : Nat} {r : Int} : To (TPc c) M (tF M c f s r) := tS_to.upd (by unfold TPc; omega)
theorem tF_s {f : Nat} {q r : Int} (c0 : 0 ≤ c) (c12 : c < 12) : tF M c f s r ((3 + c).toNat) q = if q = (f : Int) then s else M ((3 + c).toNat) q := by
  unfold tF
  rw [up_n (by omega), tS_row c0 c12]
theorem tF_r {f : Nat} {q r : Int} (c0 : 0 ≤ c) (c12 : c < 12) : tF M c f s r ((16 + c).toNat) q = if q = (f : Int) then r else M ((16 + c).toNat) q := by
  unfold tF
  by_cases e : q = (f : Int)
  · rw [if_pos e, e, up_eq]
  · rw [if_neg e, up_n (by omega)]
    unfold tS
    rw [up_n (by omega), up_n (by omega), up_n (by omega)]
theorem tF_28 {f : Nat} {r : Int} (c0 : 0 ≤ c) (c12 : c < 12) : tF M c f s r 28 c = mS s (M 28 c) f := by
  unfold tF
  rw [up_n (by omega), tS_28]
theorem tF_29 {f : Nat} {r : Int} (c0 : 0 ≤ c) (c12 : c < 12) : tF M c f s r 29 c = mO s (M 29 c) f := by
  unfold tF
  rw [up_n (by omega), tS_29]
/-- a card's cells in the class tell s and r -/
def CK (M : Mem) (c : Int) (sv rv : Int → Int) : Prop := MKo (M 28 c) (M 29 c) (fun f => M ((3 + c).toNat) f) ∧ ∀ f : Int, 0 ≤ f → f < 10 → M ((3 + c).toNat) f = sv f ∧ M ((16 + c).toNat) f = rv f
theorem iand_0 (x : Int) : iand 0 x = 0 := bt_ext (c_iand _ _) c32_0 fun i hi => by rw [bt_and, bt_z, Bool.false_and]
theorem c_C_addPlain (h0 : 0 ≤ M 1 5) (h12 : M 1 5 < 12) (z1 : M 28 (M 1 5) = 0) (z2 : M 29 (M 1 5) = 0) : ∃ M', Cl 39 m_C_addPlain [(2, 1)] M (rI (M 1 5) M') ∧ To (fun o i => TPc (M 1 5) o i ∨ (o = 1 ∧ i = 5) ∨ (o = 30 ∧ i = M 1 5)) M M' ∧ M' 1 5 = M 1 5 + 1 ∧ M' 30 (M 1 5) = -2000000000 ∧ CK M' (M 1 5) (fun _ => 1) (fun _ => 10) := by
  obtain ⟨h, hh⟩ : ∃ h, M 1 5 = h := ⟨_, rfl⟩
  rw [hh] at h0 h12 z1 z2 ⊢
  obtain ⟨B, hB⟩ : ∃ B, B = up (up M 1 5 (h + 1)) 30 h (-2000000000) := ⟨_, rfl⟩
  have hb : ∀ (o : Nat) (i : Int), ¬ (o = 1 ∧ i = 5) → ¬ (o = 30 ∧ i = h) → B o i = M o i := fun o i q1 q2 => by rw [hB, up_n (by omega), up_n (by omega)]
  have key : ∀ (j k : Nat) (C : Mem), k + j = 10 → To (TPc h) B C → C 28 h = 0 → C 29 h = 0 → (∀ f : Int, 0 ≤ f → f < k → C ((3 + h).toNat) f = 1 ∧ C ((16 + h).toNat) f = 10) → ∃ C', at_C_addPlain_22 38 h k C (rI h C') ∧ To (TPc h) B C' ∧ C' 28 h = 0 ∧ C' 29 h = 0 ∧ ∀ f : Int, 0 ≤ f → f < 10 → C' ((3 + h).toNat) f = 1 ∧ C' ((16 + h).toNat) f = 10 := by
    intro j
    induction j with
    | zero =>
      intro k C hk t y1 y2 y3
      exact ⟨C, sg_C_addPlain_22 (ite_i (fun _ => rfl) (fun t => absurd (by omega) t)), t, y1, y2, fun f f0 f9 => y3 f f0 (by omega)⟩
    | succ j ih =>
      intro k C hk t y1 y2 y3
      have c5 : C 1 5 = h + 1 := by rw [t 1 5 (by unfold TPc; omega), hB, up_n (by omega), up_eq]
      have t5 : tS C h k 1 1 5 = h + 1 := by rw [tS_n (by unfold TPc; omega), c5]
      obtain ⟨C', g1, g2⟩ := ih (k + 1) (tF C h k 1 10) (by omega) (t.trans tF_to) (by rw [tF_28 h0 h12, y1]; unfold mS; rw [if_neg (by decide), iand_0]) (by rw [tF_29 h0 h12, y2]; unfold mO; rw [if_neg (by decide), iand_0]) (fun f f0 fk => by
        rw [tF_s h0 h12, tF_r h0 h12]
        by_cases e : f = (k : Int)
        · rw [if_pos e, if_pos e]; exact ⟨rfl, rfl⟩
        · rw [if_neg e, if_neg e]; exact y3 f f0 (by omega))
      refine ⟨C', sg_C_addPlain_22 (ite_i (fun q => absurd q (by omega)) (fun _ => ⟨_, c_C_tellSort ⟨h0, by omega⟩ (by omega) (by omega) (by decide), _, c_C_tellRidges ⟨h0, by omega⟩ (by omega) (by omega) (by decide), ?_⟩)), g2⟩
      rw [w32_k (by omega)]
      rw [show (((k + 1 : Nat)) : Int) = (k : Int) + 1 by omega] at g1
      exact g1
  obtain ⟨C', g1, g2, g3, g4, g5⟩ := key 10 0 B rfl (To.refl _ B) (by rw [hb 28 h (by omega) (by omega), z1]) (by rw [hb 29 h (by omega) (by omega), z2]) (fun f f0 f1 => absurd f1 (by omega))
  refine ⟨C', sg_C_addPlain (d := 38) ?_, ?_, ?_, ?_, ?_, g5⟩
  · rw [hh]
    refine ite_i (fun _ => ⟨⟨h0, h12⟩, ?_⟩) (fun q => absurd h12 q)
    rw [w32_i (x := h + 1) (by omega) (by omega), ← hB]
    exact g1
  · intro o i q
    rw [g2 o i (fun t => q (Or.inl t)), hb o i (fun t => q (Or.inr (Or.inl t))) (fun t => q (Or.inr (Or.inr t)))]
  · rw [g2 1 5 (by unfold TPc; omega), hB, up_n (by omega), up_eq]
  · rw [g2 30 h (by unfold TPc; omega), hB, up_eq]
  · rw [g3, g4]
    exact MKo.zero (fun f f0 f9 => (g5 f f0 f9).1)
/-- a card's cells in the model -/
def TPm (h : Int) (o : Nat) (i : Int) : Prop := (o = 64 ∧ i = 0) ∨ ((o = 65 ∨ o = 66) ∧ 10 * h ≤ i ∧ i < 10 * h + 10) ∨ (o = 67 ∧ i = h)
theorem c_M_newCard (h0 : 0 ≤ M 64 0) (h12 : M 64 0 < 12) : ∃ M', Cl 39 m_M_newCard [(2, 64)] M (rI (M 64 0) M') ∧ To (TPm (M 64 0)) M M' ∧ M' 64 0 = M 64 0 + 1 ∧ M' 67 (M 64 0) = -2000000000 ∧ ∀ f : Int, 0 ≤ f → f < 10 → M' 65 (10 * M 64 0 + f) = 1 ∧ M' 66 (10 * M 64 0 + f) = 10 := by
  obtain ⟨h, hh⟩ : ∃ h, M 64 0 = h := ⟨_, rfl⟩
  rw [hh] at h0 h12 ⊢
  obtain ⟨G, hG⟩ : ∃ G : Nat → Mem, G = fun k => fil (fil M 65 (10 * h) (fun _ => 1) k) 66 (10 * h) (fun _ => 10) k := ⟨_, rfl⟩
  have g0 : ∀ k, G k 64 0 = h := fun k => by rw [hG]; dsimp only; rw [fil_n (by omega), fil_n (by omega), hh]
  have gs : ∀ k : Nat, up (up (G k) 65 (10 * h + k) 1) 66 (10 * h + k) 10 = G (k + 1) := fun k => by
    rw [hG]; dsimp only
    have e : up (fil (fil M 65 (10 * h) (fun _ => 1) k) 66 (10 * h) (fun _ => 10) k) 65 (10 * h + k) 1 = fil (fil M 65 (10 * h) (fun _ => 1) (k + 1)) 66 (10 * h) (fun _ => 10) k := funext fun o => funext fun i => by
      by_cases q : o = 65
      · subst q
        rw [fil_n (b := 10 * h) (a := 66) (by omega)]
        by_cases q2 : i = 10 * h + k
        · rw [q2, up_eq, fil_i (by omega) (by omega)]
        · rw [up_n (by omega), fil_n (a := 66) (by omega)]
          by_cases q3 : 10 * h ≤ i ∧ i < 10 * h + k
          · rw [fil_i q3.1 q3.2, fil_i q3.1 (by omega)]
          · rw [fil_n (by omega), fil_n (by omega)]
      · rw [up_n (by omega)]
        by_cases q3 : o = 66 ∧ 10 * h ≤ i ∧ i < 10 * h + k
        · rw [q3.1, fil_i q3.2.1 q3.2.2, fil_i q3.2.1 q3.2.2]
        · rw [fil_n q3, fil_n q3, fil_n (by omega), fil_n (by omega)]
    rw [e, fil_s rfl rfl]
  obtain ⟨E, hE⟩ : ∃ E, E = up (up (G 10) 67 h (-2000000000)) 64 0 (h + 1) := ⟨_, rfl⟩
  refine ⟨E, sg_M_newCard (d := 38) ?_, ?_, ?_, ?_, ?_⟩
  · have l1 := loop_up (fun Mx k => at_M_newCard_2 38 k Mx (rI h E)) G 10 (sg_M_newCard_2 (ite_i (fun _ => by
      rw [g0 10, up_n (b := 64) (by omega), g0 10, w32_i (x := h + 1) (by omega) (by omega), ← hE]
      exact ⟨⟨h0, h12⟩, rfl⟩) (fun t => absurd (by decide) t))) (fun k hk ih => sg_M_newCard_2 (ite_i (fun t => absurd t (by omega)) (fun _ => by
      rw [up_n (b := 64) (by omega), g0 k, ix10 h0 h12 (by omega) (by omega), w32_k (by omega), gs k]
      exact ⟨⟨by omega, by omega⟩, ⟨by omega, by omega⟩, ih⟩)))
    rw [show G 0 = M by rw [hG]; dsimp only; rw [fil_0, fil_0]] at l1
    exact l1
  · intro o i q
    unfold TPm at q
    rw [hE, up_n (by omega), up_n (by omega), hG]
    dsimp only
    rw [fil_n (by omega), fil_n (by omega)]
  · rw [hE, up_eq]
  · rw [hE, up_n (by omega), up_eq]
  · intro f f0 f9
    rw [hE, up_n (by omega), up_n (by omega), up_n (by omega), up_n (by omega), hG]
    dsimp only
    rw [fil_n (by omega), fil_i (by omega) (by omega), fil_i (by omega) (by omega)]
    exact ⟨rfl, rfl⟩
end P31
