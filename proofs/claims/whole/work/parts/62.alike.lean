/-! how alike: one value for class and model; promise alike -/
def LAW (M : Mem) : Option (List LN) → Prop
  | none => M 31 6 = 0 ∧ M 64 7 = 0
  | some Ls => M 64 7 = 1 ∧ 0 < M 31 6 ∧ M 31 6 ≤ 256 ∧ CL (M 34) 0 Ls (M 31 6) ∧ ML M 0 0 Ls ∧ M 64 8 = (Ls.length : Int) ∧ Ls.length ≤ 60 ∧ GL Ls ∧ tl Ls ≤ 120
theorem R7.law {M : Mem} (h : R7 M) : ∃ L, LAW M L := by
  rcases h with h | ⟨h1, h2, h3, Ls, h4, h5, h6, h7, h8, h9⟩
  · exact ⟨none, h⟩
  · exact ⟨some Ls, h1, h2, h3, h4, h5, h6, h7, h8, h9⟩
theorem LAW.fr {M M' : Mem} {L : Option (List LN)} (h : LAW M L) (f : Fr M M') : LAW M' L := by
  have f : To Scr M M' := f
  have e : ∀ o : Nat, o = 34 ∨ (69 ≤ o ∧ o ≤ 72) → M' o = M o := fun o q => funext fun j => f o j (by unfold Scr; omega)
  cases L with
  | none =>
    unfold LAW at h ⊢
    rw [f 31 6 (by unfold Scr; omega), f 64 7 (by unfold Scr; omega)]
    exact h
  | some Ls =>
    unfold LAW at h ⊢
    rw [f 31 6 (by unfold Scr; omega), f 64 7 (by unfold Scr; omega), f 64 8 (by unfold Scr; omega), e 34 (by decide)]
    obtain ⟨h1, h2, h3, h4, h5, h6⟩ := h
    exact ⟨h1, h2, h3, h4, ML_ag (e 69 (by decide)) (e 70 (by decide)) (e 71 (by decide)) (e 72 (by decide)) h5, h6⟩
/-- how many ridges they are apart -/
abbrev AP (M : Mem) (r c f : Int) : Int := if 0 ≤ r - M 66 (10 * c + f) then r - M 66 (10 * c + f) else -(r - M 66 (10 * c + f))
def ALV (L : Option (List LN)) (M : Mem) (s r c f : Int) : Int := match L with
  | none => if 0 < 10 * bI (¬ iand (stc 90 s) (stc 90 (M 65 (10 * c + f))) = 0) - AP M r c f then 10 * bI (¬ iand (stc 90 s) (stc 90 (M 65 (10 * c + f))) = 0) - AP M r c f else 0
  | some Ls => lawV (ENV M f s (M 65 (10 * c + f)) (AP M r c f)) Ls
theorem clamp_rng (v : Int) : 0 ≤ clampV v ∧ clampV v ≤ 99 := by
  unfold clampV
  split <;> split <;> omega
theorem lawV_rng (env : Int → Int) : ∀ Ls : List LN, 0 ≤ lawV env Ls ∧ lawV env Ls ≤ 99
  | [] => ⟨Int.le_refl _, show (0 : Int) ≤ 99 by decide⟩
  | l :: r => by
    unfold lawV
    split
    · exact clamp_rng _
    · exact lawV_rng env r
section P46
variable {M N : Mem} {a b c x y v s r f : Int} {L : Option (List LN)}
theorem ALV_rng : 0 ≤ ALV L M s r c f ∧ ALV L M s r c f ≤ 99 := by
  unfold ALV
  cases L with
  | none =>
    dsimp only
    have := bI_01 (P := ¬ iand (stc 90 s) (stc 90 (M 65 (10 * c + f))) = 0)
    have : 0 ≤ AP M r c f := by unfold AP; split <;> omega
    split <;> omega
  | some Ls => exact lawV_rng _ Ls
theorem ALV_fr {M' : Mem} (h : Fr M M') : ALV L M' s r c f = ALV L M s r c f := by
  have h : To Scr M M' := h
  have e5 : M' 65 = M 65 := funext fun j => h 65 j (by unfold Scr; omega)
  have e6 : M' 66 = M 66 := funext fun j => h 66 j (by unfold Scr; omega)
  have e4 : M' 64 4 = M 64 4 := h 64 4 (by unfold Scr; omega)
  unfold ALV AP ENV
  rw [e5, e6, e4]
def TXa (o : Nat) (i : Int) : Prop := (o = 31 ∧ i = 10) ∨ o = 33 ∨ o = 36
theorem TXa_fr {M M' : Mem} (h : To TXa M M') : Fr M M' := h.wk (by intro o i; unfold TXa Scr; omega)
theorem TV_fr {M M' : Mem} (h : To TV M M') : Fr M M' := h.wk (by intro o i; unfold TV Scr; omega)
theorem c_X_alikeness (h1 : R1 M) (h2 : R2 M) (hl : LAW M L) (s0 : 0 ≤ s) (s5 : s ≤ 5) (r0 : 0 ≤ r) (r30 : r ≤ 30) (c0 : 0 ≤ c) (cn : c < M 64 0) (f0 : 0 ≤ f) (f9 : f < 10) : ∃ M', To TXa M M' ∧ Cl 10 m_X_alikeness [(2, 0), (0, s), (0, r), (0, c), (0, f)] M (rI (ALV L M s r c f) M') := by
  obtain ⟨e1, e2, e3, e4, e5, e6⟩ := h1
  obtain ⟨g1, g2, g3, g4, g5, g6⟩ := h2 c f c0 cn f0 f9
  have rc : 0 ≤ c ∧ c < 12 := ⟨c0, by omega⟩
  obtain ⟨B, hB⟩ : ∃ B, B = up (up (up (up (up (up M 36 0 f) 36 1 s) 36 2 (M 65 (10 * c + f))) 36 3 (AP M r c f)) 36 4 (bI (¬ iand (stc 90 s) (stc 90 (M 65 (10 * c + f))) = 0))) 36 5 (M 64 4) := ⟨_, rfl⟩
  have tB : To TXa M B := by rw [hB]; exact ((((((To.refl _ M).upd (by unfold TXa; omega)).upd (by unfold TXa; omega)).upd (by unfold TXa; omega)).upd (by unfold TXa; omega)).upd (by unfold TXa; omega)).upd (by unfold TXa; omega)
  have b36 : ∀ j : Int, 0 ≤ j → j < 6 → B 36 j = ENV M f s (M 65 (10 * c + f)) (AP M r c f) j := fun j j0 j6 => by
    rw [hB]
    rcases (show j = 0 ∨ j = 1 ∨ j = 2 ∨ j = 3 ∨ j = 4 ∨ j = 5 by omega) with rfl | rfl | rfl | rfl | rfl | rfl
    · rw [up_n (by omega), up_n (by omega), up_n (by omega), up_n (by omega), up_n (by omega), up_eq]; rfl
    · rw [up_n (by omega), up_n (by omega), up_n (by omega), up_n (by omega), up_eq]; rfl
    · rw [up_n (by omega), up_n (by omega), up_n (by omega), up_eq]; rfl
    · rw [up_n (by omega), up_n (by omega), up_eq]; rfl
    · rw [up_n (by omega), up_eq]; rfl
    · rw [up_eq]; rfl
  have fin : ∀ {M' : Mem}, Cl 9 m_L_alikeness [(2, 31)] B (rI (ALV L M s r c f) M') → Cl 10 m_X_alikeness [(2, 0), (0, s), (0, r), (0, c), (0, f)] M (rI (ALV L M s r c f) M') := fun {M'} hc => by
    refine sg_X_alikeness (d := 9) ⟨rc, ⟨f0, f9⟩, rc, ⟨f0, f9⟩, ?_⟩
    rw [g1, g2, absd (by omega) (by omega), e4]
    refine ⟨_, c_X_mayBeSame s0 s5 g3 g4 (by decide), _, c_X_truth (by decide), B, sg_L_name (d := 8) (by rw [hB]), _, _, hc, rfl⟩
  unfold LAW at hl
  cases L with
  | none =>
    have b6 : B 31 6 = 0 := by rw [tB 31 6 (by unfold TXa; omega)]; exact hl.1
    refine ⟨B, tB, fin (sg_L_alikeness (d := 8) (ite_i (fun t => absurd b6 t) (fun _ => ?_)))⟩
    have ap : 0 ≤ AP M r c f ∧ AP M r c f ≤ 60 := by unfold AP; split <;> omega
    have k01 := bI_01 (P := ¬ iand (stc 90 s) (stc 90 (M 65 (10 * c + f))) = 0)
    rw [show B 36 4 = bI (¬ iand (stc 90 s) (stc 90 (M 65 (10 * c + f))) = 0) from b36 4 (by decide) (by decide), show B 36 3 = AP M r c f from b36 3 (by decide) (by decide), w32_i (x := 10 * bI (¬ iand (stc 90 s) (stc 90 (M 65 (10 * c + f))) = 0)) (by omega) (by omega), w32_i (x := 10 * bI (¬ iand (stc 90 s) (stc 90 (M 65 (10 * c + f))) = 0) - AP M r c f) (by omega) (by omega)]
    rfl
  | some Ls =>
    obtain ⟨l1, l2, l3, l4, l5, l6, l7, l8, l9⟩ := hl
    have tB2 : To TXa M (up B 31 10 0) := tB.upd (by unfold TXa; omega)
    have b6 : up B 31 10 0 31 6 = M 31 6 := tB2 31 6 (by unfold TXa; omega)
    have b34 : up B 31 10 0 34 = M 34 := funext fun j => tB2 34 j (by unfold TXa; omega)
    obtain ⟨M', k1, k2⟩ := X_lines (d := 8) (env := ENV M f s (M 65 (10 * c + f)) (AP M r c f)) (by decide) Ls 0 0 (up B 31 10 0) (3, 0) (3, 0) (3, 0) (by rw [b34, b6]; exact l4) l8 l9 (by decide) (by rw [b6]; exact l3) (by decide) (by decide) up_eq (fun j j0 j6 => by rw [up_n (by omega)]; exact b36 j j0 j6)
    refine ⟨M', tB2.trans (k1.wk (by intro o i; unfold TE TXa; omega)), fin (sg_L_alikeness (d := 8) (ite_i (fun _ => k2) (fun t => absurd t (fun z => ?_))))⟩
    rw [tB 31 6 (by unfold TXa; omega)] at z
    omega
theorem c_M_alikeTo (h1 : R1 M) (h2 : R2 M) (hl : LAW M L) (s0 : 0 ≤ s) (s5 : s ≤ 5) (r0 : 0 ≤ r) (r30 : r ≤ 30) (c0 : 0 ≤ c) (cn : c < M 64 0) (f0 : 0 ≤ f) (f9 : f < 10) : ∃ M', To TV M M' ∧ Cl 10 m_M_alikeTo [(2, 64), (0, s), (0, r), (0, c), (0, f)] M (rI (ALV L M s r c f) M') := by
  obtain ⟨e1, e2, e3, e4, e5, e6⟩ := h1
  obtain ⟨g1, g2, g3, g4, g5, g6⟩ := h2 c f c0 cn f0 f9
  have ap : 0 ≤ AP M r c f ∧ AP M r c f ≤ 60 := by unfold AP; split <;> omega
  have pre : ∀ {res : Res}, (if ¬ M 64 7 = 0 then at_M_alikeTo_38 9 s (0, r) (0, c) f (M 65 (10 * c + f)) (AP M r c f) 0 M res else res = (some (0, if 0 < 10 * bI (¬ iand (stc 90 s) (stc 90 (M 65 (10 * c + f))) = 0) - AP M r c f then 10 * bI (¬ iand (stc 90 s) (stc 90 (M 65 (10 * c + f))) = 0) - AP M r c f else 0), M)) → Cl 10 m_M_alikeTo [(2, 64), (0, s), (0, r), (0, c), (0, f)] M res := fun {res} hv => by
    refine sg_M_alikeTo (d := 9) ?_
    rw [ix10 c0 (by omega) f0 f9, absd (by omega) (by omega)]
    refine ⟨⟨by omega, by omega⟩, ⟨by omega, by omega⟩, ite_i (fun t => ?_) (fun t => ?_)⟩
    · rw [if_pos t] at hv; exact hv
    · rw [if_neg t] at hv
      refine ⟨_, c_M_maySame s0 s5 g3 g4 (by decide), ite_b (fun z => ?_) (fun z => ?_)⟩
      · rw [bI_f z] at hv
        rw [w32_i (x := 0 - AP M r c f) (by omega) (by omega)]
        exact hv
      · rw [bI_t z] at hv
        rw [w32_i (x := 10 - AP M r c f) (by omega) (by omega)]
        exact hv
  unfold LAW at hl
  cases L with
  | none => exact ⟨M, To.refl _ M, pre (by rw [if_neg (fun t => t hl.2)]; rfl)⟩
  | some Ls =>
    obtain ⟨l1, l2, l3, l4, l5, l6, l7, l8, l9⟩ := hl
    obtain ⟨M', k1, k2⟩ := M_lines (d := 9) (f := f) (q := AP M r c f) (w2 := (0, r)) (w3 := (0, c)) (by decide) s0 s5 g3 g4 Ls 0 0 M l5 l8 (by decide) (by omega) (by decide) (by omega) (by omega)
    exact ⟨M', k1, pre (by rw [if_pos (by omega)]; exact k2)⟩
/-- two prints of cards -/
abbrev AL2 (L : Option (List LN)) (M : Mem) (a c f : Int) : Int := ALV L M (M 65 (10 * a + f)) (M 66 (10 * a + f)) c f
theorem AL2_fr {M' : Mem} (h : Fr M M') : AL2 L M' a c f = AL2 L M a c f := by
  unfold AL2
  rw [ALV_fr h, h 65 _ (by unfold Scr; omega), h 66 _ (by unfold Scr; omega)]
theorem c_X_alikePrints (h1 : R1 M) (h2 : R2 M) (hl : LAW M L) (a0 : 0 ≤ a) (an : a < M 64 0) (c0 : 0 ≤ c) (cn : c < M 64 0) (f0 : 0 ≤ f) (f9 : f < 10) : ∃ M', Fr M M' ∧ Cl 11 m_X_alikePrints [(2, 0), (0, a), (0, c), (0, f)] M (rI (AL2 L M a c f) M') := by
  have e3 := h1.2.2.1
  obtain ⟨g1, g2, g3, g4, g5, g6⟩ := h2 a f a0 an f0 f9
  obtain ⟨M', k1, k2⟩ := c_X_alikeness h1 h2 hl g3 g4 g5 g6 c0 cn f0 f9
  refine ⟨M', TXa_fr k1, sg_X_alikePrints (d := 10) ⟨⟨a0, by omega⟩, ⟨f0, f9⟩, ⟨a0, by omega⟩, ⟨f0, f9⟩, ?_⟩⟩
  rw [g1, g2]
  exact ⟨_, _, k2, rfl⟩
theorem c_M_alikeTwo (h1 : R1 M) (h2 : R2 M) (hl : LAW M L) (a0 : 0 ≤ a) (an : a < M 64 0) (c0 : 0 ≤ c) (cn : c < M 64 0) (f0 : 0 ≤ f) (f9 : f < 10) : ∃ M', To TV M M' ∧ Cl 11 m_M_alikeTwo [(2, 64), (0, a), (0, c), (0, f)] M (rI (AL2 L M a c f) M') := by
  have e3 := h1.2.2.1
  obtain ⟨g1, g2, g3, g4, g5, g6⟩ := h2 a f a0 an f0 f9
  obtain ⟨M', k1, k2⟩ := c_M_alikeTo h1 h2 hl g3 g4 g5 g6 c0 cn f0 f9
  refine ⟨M', k1, sg_M_alikeTwo (d := 10) ?_⟩
  rw [ix10 a0 (by omega) f0 f9]
  exact ⟨⟨by omega, by omega⟩, ⟨by omega, by omega⟩, _, _, k2, rfl⟩
theorem pk_alike (i : INV M) (ha : c32 a) : Pk m_X_alike m_M_alike [(0, a), (0, b)] M := by
  obtain ⟨L, hl⟩ := i.2.2.2.2.2.1.law
  have h1 := i.1; have h2 := i.2.1
  by_cases z : 0 ≤ a ∧ a / 100 < M 64 0 ∧ a % 100 < M 64 0
  · obtain ⟨d1, d2⟩ := dm100 ha (by omega)
    by_cases y : 0 ≤ b ∧ b < 10
    · obtain ⟨M1, k1, k2⟩ := c_X_alikePrints h1 h2 hl (a := a / 100) (c := a % 100) (f := b) (by omega) z.2.1 (by omega) z.2.2 y.1 y.2
      have n0 : M1 64 0 = M 64 0 := k1.f64 (by decide)
      obtain ⟨M2, j1, j2⟩ := c_M_alikeTwo (h1.fr k1) (h2.fr h1 k1) (hl.fr k1) (a := a / 100) (c := a % 100) (f := b) (by omega) (by rw [n0]; exact z.2.1) (by omega) (by rw [n0]; exact z.2.2) y.1 y.2
      rw [AL2_fr k1] at j2
      refine ⟨AL2 L M (a / 100) (a % 100) b, M1, M2, sg_X_alike (d := 79) ⟨_, c_X_areCards h1 ha (by decide), ite_b (fun t => absurd z t) (fun _ => ⟨_, c_X_isFinger (by decide), ite_bn (fun _ => ?_) (fun t => absurd y t)⟩)⟩, sg_M_alike (d := 79) ⟨_, c_M_areTwo (h1.fr k1) ha (by decide), ite_b (fun t => absurd (by rw [n0]; exact z) t) (fun _ => ⟨_, c_M_within (by decide), ite_b (fun t => absurd (by omega) t) (fun _ => ?_)⟩)⟩, (i.fr k1).fr (TV_fr j1)⟩
      · rw [d1, d2]; exact ⟨_, _, k2.mono (by decide), rfl⟩
      · rw [d1, d2]; exact ⟨_, _, j2.mono (by decide), rfl⟩
    · exact ⟨-1, M, M, sg_X_alike (d := 79) ⟨_, c_X_areCards h1 ha (by decide), ite_b (fun t => absurd z t) (fun _ => ⟨_, c_X_isFinger (by decide), ite_bn (fun t => absurd t y) (fun _ => rfl)⟩)⟩, sg_M_alike (d := 79) ⟨_, c_M_areTwo h1 ha (by decide), ite_b (fun t => absurd z t) (fun _ => ⟨_, c_M_within (by decide), ite_b (fun _ => rfl) (fun t => absurd (by omega) y)⟩)⟩, i⟩
  · exact ⟨-1, M, M, sg_X_alike (d := 79) ⟨_, c_X_areCards h1 ha (by decide), ite_b (fun _ => rfl) (fun t => absurd t z)⟩, sg_M_alike (d := 79) ⟨_, c_M_areTwo h1 ha (by decide), ite_b (fun _ => rfl) (fun t => absurd t z)⟩, i⟩
end P46
