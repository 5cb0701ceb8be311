/-! by the cells that a call writes: what is left to show of the invariant -/
def TF (o : Nat) (i : Int) : Prop := (o = 31 ∧ i = 5) ∨ o = 32 ∨ (o = 64 ∧ i = 5) ∨ o = 68
theorem INV.tape {M M' : Mem} (h : INV M) (f : To TF M M') (g6 : R6 M') : INV M' := by
  obtain ⟨a1, a2, a3, a4, a6, a7, a8, a9, a10, a11, a12, a13, a5⟩ := h
  exact ⟨a1.ag (f.ag (by intro o i; unfold TF K1; omega)), R2.ag a1 a2 (f.ag (by intro o i; unfold TF K2; omega)), a3.ag (f.ag (by intro o i; unfold TF K3; omega)), a4.ag (f.ag (by intro o i; unfold TF K4; omega)), g6, a7.ag (f.ag (by intro o i; unfold TF K7; omega)), a8.ag (f.ag (by intro o i; unfold TF K8; omega)), a9.ag (f.ag (by intro o i; unfold TF K9; omega)), a10.ag (f.ag (by intro o i; unfold TF K10; omega)), a11.ag (f.ag (by intro o i; unfold TF K11; omega)), a12.ag (f.ag (by intro o i; unfold TF K12; omega)), a13.ag (f.ag (by intro o i; unfold TF K13; omega)), a5.ag (f.ag (by intro o i; unfold TF K5; omega))⟩
def TLw (o : Nat) (i : Int) : Prop := Scr o i ∨ (o = 31 ∧ 5 ≤ i ∧ i ≤ 10) ∨ o = 34 ∨ (o = 64 ∧ (i = 5 ∨ i = 7 ∨ i = 8)) ∨ (69 ≤ o ∧ o ≤ 72)
theorem INV.lawx {M M' : Mem} (h : INV M) (f : To TLw M M') (g6 : R6 M') (g7 : R7 M') : INV M' := by
  obtain ⟨a1, a2, a3, a4, a6, a7, a8, a9, a10, a11, a12, a13, a5⟩ := h
  exact ⟨a1.ag (f.ag (by intro o i; unfold TLw Scr K1; omega)), R2.ag a1 a2 (f.ag (by intro o i; unfold TLw Scr K2; omega)), a3.ag (f.ag (by intro o i; unfold TLw Scr K3; omega)), a4.ag (f.ag (by intro o i; unfold TLw Scr K4; omega)), g6, g7, a8.ag (f.ag (by intro o i; unfold TLw Scr K8; omega)), a9.ag (f.ag (by intro o i; unfold TLw Scr K9; omega)), a10.ag (f.ag (by intro o i; unfold TLw Scr K10; omega)), a11.ag (f.ag (by intro o i; unfold TLw Scr K11; omega)), a12.ag (f.ag (by intro o i; unfold TLw Scr K12; omega)), a13.ag (f.ag (by intro o i; unfold TLw Scr K13; omega)), a5.ag (f.ag (by intro o i; unfold TLw Scr K5; omega))⟩
def TD (o : Nat) (i : Int) : Prop := o = 30 ∨ o = 67 ∨ o = 43 ∨ o = 78 ∨ o = 44 ∨ o = 45 ∨ o = 79 ∨ o = 80 ∨ (o = 42 ∧ (i = 3 ∨ i = 4)) ∨ (o = 64 ∧ (i = 23 ∨ i = 25 ∨ i = 37 ∨ i = 38))
theorem INV.deeds {M M' : Mem} (h : INV M) (f : To TD M M') (g4 : R4 M') (g9 : R9 M') (g10 : R10 M') : INV M' := by
  obtain ⟨a1, a2, a3, a4, a6, a7, a8, a9, a10, a11, a12, a13, a5⟩ := h
  exact ⟨a1.ag (f.ag (by intro o i; unfold TD K1; omega)), R2.ag a1 a2 (f.ag (by intro o i; unfold TD K2; omega)), a3.ag (f.ag (by intro o i; unfold TD K3; omega)), g4, a6.ag (f.ag (by intro o i; unfold TD K6; omega)), a7.ag (f.ag (by intro o i; unfold TD K7; omega)), a8.ag (f.ag (by intro o i; unfold TD K8; omega)), g9, g10, a11.ag (f.ag (by intro o i; unfold TD K11; omega)), a12.ag (f.ag (by intro o i; unfold TD K12; omega)), a13.ag (f.ag (by intro o i; unfold TD K13; omega)), a5.ag (f.ag (by intro o i; unfold TD K5; omega))⟩
def TB (o : Nat) (i : Int) : Prop := (o = 46 ∧ i = 2) ∨ (o = 64 ∧ i = 30) ∨ o = 47 ∨ o = 82
theorem INV.bodies {M M' : Mem} (h : INV M) (f : To TB M M') (g11 : R11 M') (g13 : R13 M') : INV M' := by
  obtain ⟨a1, a2, a3, a4, a6, a7, a8, a9, a10, a11, a12, a13, a5⟩ := h
  exact ⟨a1.ag (f.ag (by intro o i; unfold TB K1; omega)), R2.ag a1 a2 (f.ag (by intro o i; unfold TB K2; omega)), a3.ag (f.ag (by intro o i; unfold TB K3; omega)), a4.ag (f.ag (by intro o i; unfold TB K4; omega)), a6.ag (f.ag (by intro o i; unfold TB K6; omega)), a7.ag (f.ag (by intro o i; unfold TB K7; omega)), a8.ag (f.ag (by intro o i; unfold TB K8; omega)), a9.ag (f.ag (by intro o i; unfold TB K9; omega)), a10.ag (f.ag (by intro o i; unfold TB K10; omega)), g11, a12.ag (f.ag (by intro o i; unfold TB K12; omega)), g13, a5.ag (f.ag (by intro o i; unfold TB K5; omega))⟩
def TAc (o : Nat) (i : Int) : Prop := (o = 46 ∧ 3 ≤ i ∧ i ≤ 5) ∨ (o = 64 ∧ i = 32) ∨ o = 48 ∨ o = 83
theorem INV.acts {M M' : Mem} (h : INV M) (f : To TAc M M') (g12 : R12 M') : INV M' := by
  obtain ⟨a1, a2, a3, a4, a6, a7, a8, a9, a10, a11, a12, a13, a5⟩ := h
  exact ⟨a1.ag (f.ag (by intro o i; unfold TAc K1; omega)), R2.ag a1 a2 (f.ag (by intro o i; unfold TAc K2; omega)), a3.ag (f.ag (by intro o i; unfold TAc K3; omega)), a4.ag (f.ag (by intro o i; unfold TAc K4; omega)), a6.ag (f.ag (by intro o i; unfold TAc K6; omega)), a7.ag (f.ag (by intro o i; unfold TAc K7; omega)), a8.ag (f.ag (by intro o i; unfold TAc K8; omega)), a9.ag (f.ag (by intro o i; unfold TAc K9; omega)), a10.ag (f.ag (by intro o i; unfold TAc K10; omega)), a11.ag (f.ag (by intro o i; unfold TAc K11; omega)), g12, a13.ag (f.ag (by intro o i; unfold TAc K13; omega)), a5.ag (f.ag (by intro o i; unfold TAc K5; omega))⟩
def TC (o : Nat) (i : Int) : Prop := (o = 1 ∧ i = 5) ∨ (3 ≤ o ∧ o ≤ 30) ∨ (65 ≤ o ∧ o ≤ 67) ∨ (o = 64 ∧ i = 0)
theorem INV.cardsx {M M' : Mem} (h : INV M) (f : To TC M M') (g1 : R1 M') (g2 : R2 M') (g3 : R3 M') (g4 : R4 M') (g8 : R8 M') (g10 : R10 M') (g5 : R5 M') : INV M' := by
  obtain ⟨a1, a2, a3, a4, a6, a7, a8, a9, a10, a11, a12, a13, a5⟩ := h
  exact ⟨g1, g2, g3, g4, a6.ag (f.ag (by intro o i; unfold TC K6; omega)), a7.ag (f.ag (by intro o i; unfold TC K7; omega)), g8, a9.ag (f.ag (by intro o i; unfold TC K9; omega)), g10, a11.ag (f.ag (by intro o i; unfold TC K11; omega)), a12.ag (f.ag (by intro o i; unfold TC K12; omega)), a13.ag (f.ag (by intro o i; unfold TC K13; omega)), g5⟩
def TM (o : Nat) (i : Int) : Prop := (o = 1 ∧ i = 6) ∨ (3 ≤ o ∧ o ≤ 29) ∨ (65 ≤ o ∧ o ≤ 66) ∨ (o = 64 ∧ (i = 4 ∨ i = 27 ∨ i = 28)) ∨ (37 ≤ o ∧ o ≤ 41) ∨ o = 81
theorem INV.mends {M M' : Mem} (h : INV M) (f : To TM M M') (g1 : R1 M') (g2 : R2 M') (g3 : R3 M') (g8 : R8 M') (g5 : R5 M') : INV M' := by
  obtain ⟨a1, a2, a3, a4, a6, a7, a8, a9, a10, a11, a12, a13, a5⟩ := h
  exact ⟨g1, g2, g3, a4.ag (f.ag (by intro o i; unfold TM K4; omega)), a6.ag (f.ag (by intro o i; unfold TM K6; omega)), a7.ag (f.ag (by intro o i; unfold TM K7; omega)), g8, a9.ag (f.ag (by intro o i; unfold TM K9; omega)), a10.ag (f.ag (by intro o i; unfold TM K10; omega)), a11.ag (f.ag (by intro o i; unfold TM K11; omega)), a12.ag (f.ag (by intro o i; unfold TM K12; omega)), a13.ag (f.ag (by intro o i; unfold TM K13; omega)), g5⟩
section P27
variable {M N : Mem} {a b c j n p s u v x y : Int}
theorem pk_feed (i : INV M) : Pk m_X_feed m_M_feed [(0, a)] M := by
  obtain ⟨t1, t2, t3, t4⟩ := i.2.2.2.2.1
  by_cases y : 0 ≤ a ∧ a ≤ 255
  · by_cases z : M 64 5 < 120
    · have hx : Cl 40 m_X_feed [(2, 0), (0, a)] M (rI (M 64 5 + 1) (up (up M 32 (M 64 5) a) 31 5 (M 64 5 + 1))) := by
        refine sg_X_feed (d := 39) (ite_i (fun t => absurd t (by omega)) (fun _ => ite_i (fun _ => ⟨M 64 5 + 1, up (up M 32 (M 64 5) a) 31 5 (M 64 5 + 1), ?_, rfl⟩) (fun t => absurd y.2 t)))
        refine sg_L_fed (d := 38) (ite_i (fun _ => ⟨⟨by omega, by omega⟩, ?_⟩) (fun t => absurd (by omega) t))
        rw [t1, up_eq, show up M 32 (M 64 5) a 31 5 = M 64 5 by rw [up_n (by omega), t1], w32_i (by omega) (by omega)]
      have hm : Cl 40 m_M_feed [(2, 64), (0, a)] (up (up M 32 (M 64 5) a) 31 5 (M 64 5 + 1)) (rI (M 64 5 + 1) (up (up (up (up M 32 (M 64 5) a) 31 5 (M 64 5 + 1)) 64 5 (M 64 5 + 1)) 68 (M 64 5) a)) := by
        have e : up (up M 32 (M 64 5) a) 31 5 (M 64 5 + 1) 64 5 = M 64 5 := by rw [up_n (by omega), up_n (by omega)]
        refine sg_M_feed (d := 39) ⟨_, c_M_within (by decide), ite_bn (fun _ => ite_i (fun _ => ⟨⟨by omega, by omega⟩, ?_⟩) (fun t => absurd (by omega) t)) (fun t => absurd y t)⟩
        rw [e, w32_i (x := M 64 5 + 1) (by omega) (by omega), up_n (b := 64) (a := 68) (by omega), up_eq]
      refine Pk.of hx hm (i.tape (((((To.refl TF M).upd (by unfold TF; omega)).upd (by unfold TF; omega)).upd (by unfold TF; omega)).upd (by unfold TF; omega)) ?_)
      have e31 : up (up (up (up M 32 (M 64 5) a) 31 5 (M 64 5 + 1)) 64 5 (M 64 5 + 1)) 68 (M 64 5) a 31 5 = M 64 5 + 1 := by rw [up_n (by omega), up_n (by omega), up_eq]
      have e64 : up (up (up (up M 32 (M 64 5) a) 31 5 (M 64 5 + 1)) 64 5 (M 64 5 + 1)) 68 (M 64 5) a 64 5 = M 64 5 + 1 := by rw [up_n (by omega), up_eq]
      unfold R6
      rw [e31, e64]
      refine ⟨rfl, by omega, by omega, fun k k0 k1 => ?_⟩
      by_cases e : k = M 64 5
      · rw [e, up_eq, up_n (by omega), up_n (by omega), up_n (by omega), up_eq]
        exact ⟨rfl, y⟩
      · rw [up_n (b := 68) (by omega), up_n (b := 68) (by omega), up_n (b := 68) (by omega), up_n (b := 68) (by omega), up_n (b := 32) (by omega), up_n (b := 32) (by omega), up_n (b := 32) (by omega), up_n (b := 32) (by omega)]
        exact t4 k k0 (by omega)
    · exact Pk.of (v := -3) (sg_X_feed (d := 39) (ite_i (fun t => absurd t (by omega)) (fun _ => ite_i (fun _ => ⟨-3, M, sg_L_fed (d := 38) (ite_i (fun t => absurd t (by omega)) (fun _ => rfl)), rfl⟩) (fun t => absurd y.2 t)))) (sg_M_feed (d := 39) ⟨_, c_M_within (by decide), ite_bn (fun _ => ite_i (fun t => absurd (by omega) t) (fun _ => rfl)) (fun t => absurd y t)⟩) i
  · exact Pk.of (v := -1) (sg_X_feed (d := 39) (ite_i (fun t => rfl) (fun _ => ite_i (fun t => absurd ⟨by omega, t⟩ y) (fun _ => rfl)))) (sg_M_feed (d := 39) ⟨_, c_M_within (by decide), ite_bn (fun t => absurd t y) (fun _ => rfl)⟩) i
theorem pk_body (i : INV M) : Pk m_X_body m_M_body [(0, a)] M := by
  have h13 := i.2.2.2.2.2.2.2.2.2.2.2.1
  obtain ⟨n1, n2, n3, n4⟩ := i.2.2.2.2.2.2.2.2.2.1
  by_cases y : 0 ≤ a ∧ a < 8
  · by_cases z : M 64 30 < 50
    · have hx : Cl 40 m_X_body [(2, 0), (0, a)] M (rI (M 64 30) (up (up M 47 (M 64 30) a) 46 2 (M 64 30 + 1))) := by
        refine sg_X_body (d := 39) ⟨_, c_P_isKind (by decide), ite_bn (fun _ => ⟨M 64 30, up (up M 47 (M 64 30) a) 46 2 (M 64 30 + 1), ?_, rfl⟩) (fun t => absurd y t)⟩
        refine sg_P_addBody (d := 38) (ite_i (fun _ => ⟨⟨by omega, by omega⟩, ?_⟩) (fun t => absurd (by omega) t))
        rw [n1, up_eq, show up M 47 (M 64 30) a 46 2 = M 64 30 by rw [up_n (by omega), n1], w32_i (x := M 64 30 + 1) (by omega) (by omega), w32_i (by omega) (by omega), show M 64 30 + 1 - 1 = M 64 30 by omega]
      have hm : Cl 40 m_M_body [(2, 64), (0, a)] (up (up M 47 (M 64 30) a) 46 2 (M 64 30 + 1)) (rI (M 64 30) (up (up (up (up M 47 (M 64 30) a) 46 2 (M 64 30 + 1)) 82 (M 64 30) a) 64 30 (M 64 30 + 1))) := by
        have e : up (up M 47 (M 64 30) a) 46 2 (M 64 30 + 1) 64 30 = M 64 30 := by rw [up_n (by omega), up_n (by omega)]
        refine sg_M_body (d := 39) ⟨_, c_M_within (by decide), ite_bn (fun _ => ite_i (fun _ => ⟨⟨by omega, by omega⟩, ?_⟩) (fun t => absurd (by omega) t)) (fun t => absurd (by omega) t)⟩
        rw [e, up_n (b := 64) (a := 82) (by omega), e, w32_i (x := M 64 30 + 1) (by omega) (by omega)]
      refine Pk.of hx hm (i.bodies (((((To.refl TB M).upd (by unfold TB; omega)).upd (by unfold TB; omega)).upd (by unfold TB; omega)).upd (by unfold TB; omega)) ?_ ?_)
      · have e46 : up (up (up (up M 47 (M 64 30) a) 46 2 (M 64 30 + 1)) 82 (M 64 30) a) 64 30 (M 64 30 + 1) 46 2 = M 64 30 + 1 := by rw [up_n (by omega), up_n (by omega), up_eq]
        have e64 : up (up (up (up M 47 (M 64 30) a) 46 2 (M 64 30 + 1)) 82 (M 64 30) a) 64 30 (M 64 30 + 1) 64 30 = M 64 30 + 1 := by rw [up_eq]
        unfold R11
        rw [e46, e64]
        refine ⟨rfl, by omega, by omega, fun k k0 k1 => ?_⟩
        by_cases e : k = M 64 30
        · rw [e, show up (up (up (up M 47 (M 64 30) a) 46 2 (M 64 30 + 1)) 82 (M 64 30) a) 64 30 (M 64 30 + 1) 82 (M 64 30) = a by rw [up_n (by omega), up_eq], show up (up (up (up M 47 (M 64 30) a) 46 2 (M 64 30 + 1)) 82 (M 64 30) a) 64 30 (M 64 30 + 1) 47 (M 64 30) = a by rw [up_n (by omega), up_n (by omega), up_n (by omega), up_eq]]
          exact ⟨rfl, y⟩
        · rw [up_n (b := 82) (by omega), up_n (b := 82) (by omega), up_n (b := 82) (by omega), up_n (b := 82) (by omega), up_n (b := 47) (by omega), up_n (b := 47) (by omega), up_n (b := 47) (by omega), up_n (b := 47) (by omega)]
          exact n4 k k0 (by omega)
      · obtain ⟨B, hB⟩ : ∃ B, B = up (up (up (up M 47 (M 64 30) a) 46 2 (M 64 30 + 1)) 82 (M 64 30) a) 64 30 (M 64 30 + 1) := ⟨_, rfl⟩
        rw [← hB]
        have hM : ∀ (o : Nat), 50 ≤ o → o ≤ 63 ∨ 83 ≤ o → B o = M o := fun o o1 o2 => funext fun k => by rw [hB, up_n (by omega), up_n (by omega), up_n (by omega), up_n (by omega)]
        intro p p0 p6
        have hp := h13 p p0 p6
        rw [hM 50 (by decide) (by decide), hM 51 (by decide) (by decide), hM 52 (by decide) (by decide), hM 53 (by decide) (by decide), hM 84 (by decide) (by decide), hM 85 (by decide) (by decide), hM 86 (by decide) (by decide), hM ((55 + p).toNat) (by omega) (by omega), show B 64 30 = M 64 30 + 1 by rw [hB, up_eq]]
        rcases hp with hp | ⟨g1, g2, g3, g4⟩ | hp
        · exact Or.inl hp
        · exact Or.inr (Or.inl ⟨g1, g2, g3, by omega⟩)
        · exact Or.inr (Or.inr hp)
    · exact Pk.of (v := -3) (sg_X_body (d := 39) ⟨_, c_P_isKind (by decide), ite_bn (fun _ => ⟨-3, M, sg_P_addBody (d := 38) (ite_i (fun t => absurd t (by omega)) (fun _ => rfl)), rfl⟩) (fun t => absurd y t)⟩) (sg_M_body (d := 39) ⟨_, c_M_within (by decide), ite_bn (fun _ => ite_i (fun t => absurd (by omega) t) (fun _ => rfl)) (fun t => absurd (by omega) t)⟩) i
  · exact Pk.of (v := -1) (sg_X_body (d := 39) ⟨_, c_P_isKind (by decide), ite_bn (fun t => absurd t y) (fun _ => rfl)⟩) (sg_M_body (d := 39) ⟨_, c_M_within (by decide), ite_bn (fun t => absurd (by omega) y) (fun _ => rfl)⟩) i
/-- a cell of the drawers and one of what is led: both ways -/
theorem file_inv (i : INV M) (z : 0 ≤ a ∧ a < M 64 0) (y : v = -2000000000 ∨ (0 ≤ v ∧ v < 1024)) (j0 : 0 ≤ j) (j5 : j < 5) : INV (up (up (up (up M 30 a v) 43 j (w32 (M 43 j + 1))) 67 a v) 78 j (w32 (M 78 j + 1))) := by
  have e3 := i.1.2.2.1
  have r4 := i.2.2.2.1
  have r9 := i.2.2.2.2.2.2.2.1
  refine i.deeds (((((To.refl TD M).upd (by unfold TD; omega)).upd (by unfold TD; omega)).upd (by unfold TD; omega)).upd (by unfold TD; omega)) ?_ ?_ (R10.ag i.2.2.2.2.2.2.2.2.1 ?_)
  · intro c c0 cn
    rw [up_n (b := 64) (by omega), up_n (b := 64) (by omega), up_n (b := 64) (by omega), up_n (b := 64) (by omega)] at cn
    by_cases e : c = a
    · rw [e, show up (up (up (up M 30 a v) 43 j (w32 (M 43 j + 1))) 67 a v) 78 j (w32 (M 78 j + 1)) 30 a = v by rw [up_n (by omega), up_n (by omega), up_n (by omega), up_eq], show up (up (up (up M 30 a v) 43 j (w32 (M 43 j + 1))) 67 a v) 78 j (w32 (M 78 j + 1)) 67 a = v by rw [up_n (by omega), up_eq]]
      exact ⟨rfl, y⟩
    · rw [up_n (b := 30) (by omega), up_n (b := 30) (by omega), up_n (b := 30) (by omega), up_n (b := 30) (by omega), up_n (b := 67) (by omega), up_n (b := 67) (by omega), up_n (b := 67) (by omega), up_n (b := 67) (by omega)]
      exact r4 c c0 cn
  · intro k k0 k5
    by_cases e : k = j
    · rw [e, show up (up (up (up M 30 a v) 43 j (w32 (M 43 j + 1))) 67 a v) 78 j (w32 (M 78 j + 1)) 43 j = w32 (M 43 j + 1) by rw [up_n (by omega), up_n (by omega), up_eq], up_eq, r9 j j0 j5]
    · rw [up_n (b := 43) (by omega), up_n (b := 43) (by omega), up_n (b := 43) (by omega), up_n (b := 43) (by omega), up_n (b := 78) (by omega), up_n (b := 78) (by omega), up_n (b := 78) (by omega), up_n (b := 78) (by omega)]
      exact r9 k k0 k5
  · intro o k q
    unfold K10 at q
    rw [up_n (by omega), up_n (by omega), up_n (by omega), up_n (by omega)]
theorem pk_file (i : INV M) : Pk m_X_file m_M_file [(0, a), (0, b)] M := by
  have h1 := i.1; have e3 := i.1.2.2.1
  by_cases z : 0 ≤ a ∧ a < M 64 0
  · by_cases y : 0 ≤ b ∧ b < 1024
    · have hx : Cl 40 m_X_file [(2, 0), (0, a), (0, b)] M (rI (M 67 a) (up (up M 30 a b) 43 0 (w32 (M 43 0 + 1)))) := by
        refine sg_X_file (d := 39) ⟨_, c_C_has (by decide), ite_b (fun t => absurd ((has_iff h1).mpr z) t) (fun _ => ⟨_, c_X_isDrawer (by decide), ite_bn (fun _ => ⟨⟨z.1, by omega⟩, ⟨z.1, by omega⟩, ?_⟩) (fun t => absurd y t)⟩)⟩
        rw [up_n (b := 43) (a := 30) (by omega), (i.2.2.2.1 a z.1 z.2).1]
      have hm : Cl 40 m_M_file [(2, 64), (0, a), (0, b)] (up (up M 30 a b) 43 0 (w32 (M 43 0 + 1))) (rI (M 67 a) (up (up (up (up M 30 a b) 43 0 (w32 (M 43 0 + 1))) 67 a b) 78 0 (w32 (M 78 0 + 1)))) := by
        have g1 : R1 (up (up M 30 a b) 43 0 (w32 (M 43 0 + 1))) := h1.ag fun o k q => by unfold K1 at q; rw [up_n (by omega), up_n (by omega)]
        have e0 : up (up M 30 a b) 43 0 (w32 (M 43 0 + 1)) 64 0 = M 64 0 := by rw [up_n (by omega), up_n (by omega)]
        refine sg_M_file (d := 39) ⟨_, c_M_isCard g1 (by decide), ite_b (fun t => absurd (by rw [e0]; exact z) t) (fun _ => ⟨_, c_M_isDrawer (by decide), ite_bn (fun _ => ⟨⟨z.1, by omega⟩, ⟨z.1, by omega⟩, ?_⟩) (fun t => absurd y t)⟩)⟩
        rw [up_n (b := 78) (a := 67) (by omega), up_n (b := 78) (a := 43) (by omega), up_n (b := 78) (a := 30) (by omega), up_n (b := 67) (a := 43) (by omega), up_n (b := 67) (a := 30) (by omega)]
      exact Pk.of hx hm (file_inv i z (Or.inr y) (by decide) (by decide))
    · exact Pk.of (v := -1) (sg_X_file (d := 39) ⟨_, c_C_has (by decide), ite_b (fun _ => rfl) (fun _ => ⟨_, c_X_isDrawer (by decide), ite_bn (fun t => absurd t y) (fun _ => rfl)⟩)⟩) (sg_M_file (d := 39) ⟨_, c_M_isCard h1 (by decide), ite_b (fun _ => rfl) (fun _ => ⟨_, c_M_isDrawer (by decide), ite_bn (fun t => absurd t y) (fun _ => rfl)⟩)⟩) i
  · exact Pk.of (v := -1) (sg_X_file (d := 39) ⟨_, c_C_has (by decide), ite_b (fun _ => rfl) (fun t => absurd ((has_iff h1).mp t) z)⟩) (sg_M_file (d := 39) ⟨_, c_M_isCard h1 (by decide), ite_b (fun _ => rfl) (fun t => absurd t z)⟩) i
theorem pk_take (i : INV M) : Pk m_X_take m_M_take [(0, a)] M := by
  have h1 := i.1; have e3 := i.1.2.2.1
  by_cases z : 0 ≤ a ∧ a < M 64 0
  · obtain ⟨f1, f2⟩ := i.2.2.2.1 a z.1 z.2
    by_cases y : 0 ≤ M 67 a ∧ M 67 a < 1024
    · have hx : Cl 40 m_X_take [(2, 0), (0, a)] M (rI (M 67 a) (up (up M 30 a (-2000000000)) 43 1 (w32 (M 43 1 + 1)))) := by
        refine sg_X_take (d := 39) ⟨_, c_C_has (by decide), ite_bn (fun _ => ⟨⟨z.1, by omega⟩, _, c_X_isDrawer (by decide), ite_bn (fun _ => ⟨⟨z.1, by omega⟩, ?_⟩) (fun t => absurd (by rw [f1]; exact y) t)⟩) (fun t => absurd ((has_iff h1).mpr z) t)⟩
        rw [up_n (b := 43) (a := 30) (by omega), f1]
      have hm : Cl 40 m_M_take [(2, 64), (0, a)] (up (up M 30 a (-2000000000)) 43 1 (w32 (M 43 1 + 1))) (rI (M 67 a) (up (up (up (up M 30 a (-2000000000)) 43 1 (w32 (M 43 1 + 1))) 67 a (-2000000000)) 78 1 (w32 (M 78 1 + 1)))) := by
        have g1 : R1 (up (up M 30 a (-2000000000)) 43 1 (w32 (M 43 1 + 1))) := h1.ag fun o k q => by unfold K1 at q; rw [up_n (by omega), up_n (by omega)]
        have e0 : up (up M 30 a (-2000000000)) 43 1 (w32 (M 43 1 + 1)) 64 0 = M 64 0 := by rw [up_n (by omega), up_n (by omega)]
        have e67 : up (up M 30 a (-2000000000)) 43 1 (w32 (M 43 1 + 1)) 67 a = M 67 a := by rw [up_n (by omega), up_n (by omega)]
        refine sg_M_take (d := 39) ⟨_, c_M_isCard g1 (by decide), ite_bn (fun _ => ⟨⟨z.1, by omega⟩, ite_i (fun _ => ⟨⟨z.1, by omega⟩, ⟨z.1, by omega⟩, ?_⟩) (fun t => absurd (by rw [e67]; omega) t)⟩) (fun t => absurd (by rw [e0]; exact z) t)⟩
        rw [up_n (b := 78) (a := 67) (by omega), up_n (b := 78) (a := 43) (by omega), up_n (b := 78) (a := 30) (by omega), e67]
      exact Pk.of hx hm (file_inv i z (Or.inl rfl) (by decide) (by decide))
    · exact Pk.of (v := -5) (sg_X_take (d := 39) ⟨_, c_C_has (by decide), ite_bn (fun _ => ⟨⟨z.1, by omega⟩, _, c_X_isDrawer (by decide), ite_bn (fun t => absurd (by rw [← f1]; exact t) y) (fun _ => rfl)⟩) (fun t => absurd ((has_iff h1).mpr z) t)⟩) (sg_M_take (d := 39) ⟨_, c_M_isCard h1 (by decide), ite_bn (fun _ => ⟨⟨z.1, by omega⟩, ite_i (fun t => absurd (f2.resolve_right y) t) (fun _ => rfl)⟩) (fun t => absurd z t)⟩) i
  · exact Pk.of (v := -1) (sg_X_take (d := 39) ⟨_, c_C_has (by decide), ite_bn (fun t => absurd ((has_iff h1).mp t) z) (fun _ => rfl)⟩) (sg_M_take (d := 39) ⟨_, c_M_isCard h1 (by decide), ite_bn (fun t => absurd t z) (fun _ => rfl)⟩) i
end P27
