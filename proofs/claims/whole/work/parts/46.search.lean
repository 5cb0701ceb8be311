/-! promise search, to its end -/
theorem cntB_0 : ∀ k : Nat, cntB (fun _ => false) k = 0
  | 0 => rfl
  | k + 1 => by rw [cntB_f (by decide)]; exact cntB_0 k
section P30
variable {M N : Mem} {a b c j n p s u v x y T : Int}
theorem search_out (h1 : R1 M) (h2 : R2 M) (h4 : R4 M) (hg : 0 ≤ a ∧ a / 100 ≤ 4 ∧ a % 100 ≤ 30) : ∀ (m d : Nat), d + m = 1024 → ∀ p i x, NX M (M 64 0) (12 * (d : Int) - 1) x → i = CNT M (12 * (d : Int) - 1) → SOx M a x i p (fun N r => ∀ w3, at_M_search_23 39 (0, a) (d : Int) w3 N r)
  | 0, d, hd, p, i, x, hx, hi => by
    have e3 := h1.2.2.1
    have x1 : x = -1 := by
      rcases hx with ⟨z1, z2⟩ | ⟨z1, z2, z3, z4⟩
      · exact z1
      · have := (h4 x z1.1 z1.2).2.resolve_left z2
        have z3 : 12 * (d : Int) - 1 < 12 * M 67 x + x := z3
        omega
    subst x1
    refine ⟨-2, p, false, fun C hC hp => sg_X_search_21 ?_, fun N hN hp w3 => sg_M_search_23 (ite_i (fun _ => ?_) (fun t => absurd (by omega) t))⟩
    · have e : sres 43 C false p = C := by unfold sres; rw [if_neg (by decide), up_self hp]
      rw [e]
      exact ite_i (fun _ => rfl) (fun _ => ite_i (fun _ => rfl) (fun t => absurd (by decide) t))
    · unfold sres; rw [if_neg (by decide), up_self hp]
  | m + 1, d, hd, p, i, x, hx, hi => by
    have e2 := h1.2.1
    have ih := search_out h1 h2 h4 hg m (d + 1) (by omega)
    rw [show (((d + 1 : Nat)) : Int) = (d : Int) + 1 by omega] at ih
    have := search_in h1 h2 h4 hg (d := d) (by omega) ih (M 64 0).toNat 0 p i x (by omega) (by rw [show 12 * (d : Int) + ((0 : Nat) : Int) - 1 = 12 * (d : Int) - 1 by omega]; exact hx) (by rw [show 12 * (d : Int) + ((0 : Nat) : Int) - 1 = 12 * (d : Int) - 1 by omega]; exact hi)
    obtain ⟨v, p', f, hX, hM⟩ := this
    exact ⟨v, p', f, hX, fun N hN hp w3 => sg_M_search_23 (ite_i (fun t => absurd t (by omega)) (fun _ => hM N hN hp))⟩
theorem sres_at {o : Nat} {C : Mem} {f : Bool} {p k : Int} : sres o C f p o k = if k = 4 ∧ f = true then w32 (C o 4 + 1) else if k = 3 then p else C o k := by
  unfold sres
  by_cases q : f = true
  · rw [if_pos q]
    by_cases k4 : k = 4
    · subst k4
      rw [up_eq, if_pos ⟨rfl, q⟩]
    · rw [up_n (by omega), if_neg (fun t => k4 t.1)]
      by_cases k3 : k = 3
      · subst k3; rw [up_eq, if_pos rfl]
      · rw [up_n (by omega), if_neg k3]
  · rw [if_neg q, if_neg (fun t => q t.2)]
    by_cases k3 : k = 3
    · subst k3; rw [up_eq, if_pos rfl]
    · rw [up_n (by omega), if_neg k3]
theorem sres_ne {o b : Nat} {C : Mem} {f : Bool} {p k : Int} (h : ¬ b = o) : sres o C f p b k = C b k := by
  unfold sres
  split
  · rw [up_n (by omega), up_n (by omega)]
  · rw [up_n (by omega)]
theorem pk_search (i : INV M) (ha : c32 a) : Pk m_X_search m_M_search [(0, a)] M := by
  have h1 := i.1; have h2 := i.2.1; have h4 := i.2.2.2.1
  have e2 := h1.2.1; have e3 := h1.2.2.1
  have r9 := i.2.2.2.2.2.2.2.1
  by_cases hg : 0 ≤ a ∧ a / 100 ≤ 4 ∧ a % 100 ≤ 30
  · obtain ⟨B, hB⟩ : ∃ B, B = up M 43 2 (w32 (M 43 2 + 1)) := ⟨_, rfl⟩
    have cB : CA M B := by rw [hB]; exact (To.refl _ M).upd rfl
    have gB1 : R1 B := h1.ag (cB.ag (by intro o i; unfold K1; omega))
    have gB4 : R4 B := h4.ag (cB.ag (by intro o i; unfold K4; omega))
    obtain ⟨x, y1, y2⟩ := c_nextFiled gB1 gB4 (y := -1) (T := -1) (Or.inl ⟨rfl, rfl⟩)
    rw [cB 64 0 (by omega)] at y1
    have y1 := NX_eq (funext fun c => cB 67 c (by omega)) y1
    have c0 : (0 : Int) = CNT M (12 * ((0 : Nat) : Int) - 1) := by
      rw [show 12 * ((0 : Nat) : Int) - 1 = -1 by decide]
      refine (cntB_0 (M 64 0).toNat).symm.trans (cntB_congr fun k hk => (decide_eq_false fun t => ?_).symm)
      have := (h4 k (by omega) (by omega)).2.resolve_left t.1
      have t2 : 12 * M 67 (k : Int) + k ≤ -1 := t.2
      omega
    obtain ⟨v, p', f, hX, hM⟩ := search_out h1 h2 h4 hg 1024 0 rfl (M 43 3) 0 x y1 c0
    have hx : Cl 40 m_X_search [(2, 0), (0, a)] M (rI v (sres 43 B f p')) := by
      refine sg_X_search (d := 39) ⟨_, c_X_isGlass ha (by decide), ite_bn (fun _ => ⟨x, ?_, ?_⟩) (fun t => absurd hg t)⟩
      · rw [← hB]; exact y2
      · rw [← hB]; exact hX B cB (by rw [hB, up_n (by omega)])
    obtain ⟨N, hN⟩ : ∃ N, N = up (tk (sres 43 B f p') a) 78 2 (w32 (M 78 2 + 1)) := ⟨_, rfl⟩
    have tn : ∀ (C : Mem) (o : Nat) (k : Int), ¬ (o = 64 ∧ (k = 37 ∨ k = 38)) → tk C a o k = C o k := fun C o k h => by
      unfold tk
      rw [up_n (by omega), up_n (by omega)]
    have nM : ∀ (o : Nat) (k : Int), ¬ o = 43 → ¬ o = 78 → ¬ (o = 64 ∧ (k = 37 ∨ k = 38)) → N o k = M o k := fun o k q1 q2 q3 => by
      rw [hN, up_n (by omega), tn _ o k q3, sres_ne q1, hB, up_n (by omega)]
    have n78 : ∀ k : Int, N 78 k = if k = 2 then w32 (M 78 2 + 1) else M 78 k := fun k => by
      rw [hN]
      by_cases q : k = 2
      · subst q; rw [up_eq, if_pos rfl]
      · rw [up_n (by omega), tn _ 78 k (by omega), sres_ne (by decide), hB, up_n (by omega), if_neg q]
    have b43 : ∀ k : Int, B 43 k = if k = 2 then w32 (M 43 2 + 1) else M 43 k := fun k => by
      rw [hB]
      by_cases q : k = 2
      · subst q; rw [up_eq, if_pos rfl]
      · rw [up_n (by omega), if_neg q]
    have dN : DA M N a := ⟨fun o k q => nM o k (by omega) (by omega) (by omega), by rw [hN, up_n (by omega), tk_s], by rw [hN, up_n (by omega), tk_r]⟩
    have hm : Cl 40 m_M_search [(2, 64), (0, a)] (sres 43 B f p') (rI v (sres 78 N f p')) := by
      refine sg_M_search (d := 39) ⟨_, c_M_isGlass ha (by decide), ite_bn (fun _ => ⟨_, c_M_takes hg, ?_⟩) (fun t => absurd hg t)⟩
      rw [show tk (sres 43 B f p') a 78 2 = M 78 2 by rw [tn _ 78 2 (by omega), sres_ne (by decide), hB, up_n (by omega)], ← hN]
      exact hM N dN (by rw [n78 3, if_neg (by decide), r9 3 (by decide) (by decide)]) _
    refine Pk.of hx hm (i.deeds (fun o k q => ?_) (h4.ag fun o k q => ?_) ?_ (i.2.2.2.2.2.2.2.2.1.ag fun o k q => ?_))
    · rw [sres_ne (fun t => q (by unfold TD; omega)), nM o k (fun t => q (by unfold TD; omega)) (fun t => q (by unfold TD; omega)) (fun t => q (by unfold TD; omega))]
    · unfold K4 at q
      rw [sres_ne (by omega), nM o k (by omega) (by omega) (by omega)]
    · intro k k0 k5
      rw [sres_at, sres_ne (by decide), show N 43 k = sres 43 B f p' 43 k by rw [hN, up_n (by omega), tn _ 43 k (by omega)], sres_at]
      have e : ∀ j : Int, 0 ≤ j → j < 5 → B 43 j = N 78 j := fun j j0 j5 => by rw [b43, n78, r9 j j0 j5, r9 2 (by decide) (by decide)]
      rw [e 4 (by decide) (by decide), e k k0 k5]
    · unfold K10 at q
      rw [sres_ne (by omega), nM o k (by omega) (by omega) (by omega)]
  · exact Pk.of (v := -1) (sg_X_search (d := 39) ⟨_, c_X_isGlass ha (by decide), ite_bn (fun t => absurd t hg) (fun _ => rfl)⟩) (sg_M_search (d := 39) ⟨_, c_M_isGlass ha (by decide), ite_bn (fun t => absurd t hg) (fun _ => rfl)⟩) i
end P30
