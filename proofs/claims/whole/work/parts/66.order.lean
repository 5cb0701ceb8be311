/-! promise order: the line of cards -/
def mxB (g : Nat → Int) : Nat → Int
  | 0 => 0
  | k + 1 => if mxB g k < g k then g k else mxB g k
theorem mxB_rng {g : Nat → Int} (h : ∀ i, g i ≤ 99) : ∀ k : Nat, 0 ≤ mxB g k ∧ mxB g k ≤ 99
  | 0 => ⟨Int.le_refl _, show (0 : Int) ≤ 99 by decide⟩
  | k + 1 => by
    have := mxB_rng h k
    have := h k
    unfold mxB
    split <;> omega
section P50
variable {M N : Mem} {a b c x y z v s r f n l : Int} {L : Option (List LN)} {W K : Int → Int}
/-- how likely a card is -/
def WT (L : Option (List LN)) (M : Mem) (x c : Int) : Int := mxB (fun f => GA L M (x / 100) (x % 100) c (f : Int)) 10
theorem WT_rng : 0 ≤ WT L M x c ∧ WT L M x c ≤ 99 := mxB_rng (fun _ => GA_rng.2) 10
def CXl (M C : Mem) (c l : Int) (W K : Int → Int) : Prop := Fr M C ∧ (∀ j : Int, 0 ≤ j → j < c → C 61 j = W j) ∧ ∀ j : Int, 0 ≤ j → j < l → C 62 j = K j
def NXl (M N : Mem) (x c l : Int) (W K : Int → Int) : Prop := Fr M N ∧ (N 64 37 = x / 100 ∧ N 64 38 = x % 100) ∧ N 64 41 = l ∧ (∀ j : Int, 0 ≤ j → j < c → N 87 j = W j) ∧ ∀ j : Int, 0 ≤ j → j < l → N 88 j = K j
def OKl (c l : Int) (W K : Int → Int) : Prop := (∀ j : Int, 0 ≤ j → j < c → 0 ≤ W j ∧ W j ≤ 99) ∧ ∀ j : Int, 0 ≤ j → j < l → (0 ≤ K j ∧ K j < c) ∧ 0 < W (K j)
theorem c_X_likelihood (h1 : R1 M) (h2 : R2 M) (hl : LAW M L) (hg : GLS x) (c0 : 0 ≤ c) (cn : c < M 64 0) {C : Mem} (t : Fr M C) : ∃ C', To TXa C C' ∧ Cl 21 m_X_likelihood [(2, 0), (0, x), (0, c)] C (rI (WT L M x c) C') := by
  have key : ∀ (j k : Nat) (D : Mem), k + j = 10 → To TXa C D → ∃ C', To TXa C C' ∧ at_X_likelihood_4 20 x c (mxB (fun f => GA L M (x / 100) (x % 100) c (f : Int)) k) (k : Int) D (rI (WT L M x c) C') := by
    intro j
    induction j with
    | zero =>
      intro k D hk q
      rw [show k = 10 by omega]
      exact ⟨D, q, sg_X_likelihood_4 (ite_i (fun _ => rfl) (fun q => absurd (by decide) q))⟩
    | succ j ih =>
      intro k D hk q
      have tD : Fr M D := t.trans (TXa_fr q)
      have n0 : D 64 0 = M 64 0 := tD.f64 (by decide)
      obtain ⟨D1, k1, k2⟩ := c_X_glassAlikeness (h1.fr tD) (h2.fr h1 tD) (hl.fr tD) hg c0 (by rw [n0]; exact cn) (f := (k : Int)) (by omega) (by omega)
      rw [GA_fr tD] at k2
      obtain ⟨C', j1, j2⟩ := ih (k + 1) D1 (by omega) (q.trans k1)
      refine ⟨C', j1, sg_X_likelihood_4 (ite_i (fun q => absurd q (by omega)) (fun _ => ⟨_, _, k2.mono (by decide), ?_⟩))⟩
      rw [show (((k + 1 : Nat)) : Int) = (k : Int) + 1 by omega] at j2
      rw [w32_k (by omega)]
      exact j2
  obtain ⟨C', j1, j2⟩ := key 10 0 C rfl (To.refl _ C)
  exact ⟨C', j1, sg_X_likelihood (d := 20) j2⟩
/-- a card comes into the line, from place i on: both shift the same -/
theorem insert_two (c0 : 0 ≤ c) (cn : c < M 64 0) (n12 : M 64 0 ≤ 12) (l0 : 0 ≤ l) (lc : l ≤ c) (wc : 0 < W c) : ∀ (i : Nat) (K : Int → Int), (i : Int) ≤ l → (∀ j : Int, 0 ≤ j → j ≤ l → ¬ j = (i : Int) → (0 ≤ K j ∧ K j ≤ c) ∧ 0 < W (K j)) → ∃ K' : Int → Int, (∀ j : Int, 0 ≤ j → j ≤ l → (0 ≤ K' j ∧ K' j ≤ c) ∧ 0 < W (K' j)) ∧
    (∀ C, Fr M C → (∀ j : Int, 0 ≤ j → j ≤ c → C 61 j = W j) → (∀ j : Int, 0 ≤ j → j ≤ l → ¬ j = (i : Int) → C 62 j = K j) → ∃ C' w4, CXl M C' (c + 1) (l + 1) W K' ∧ ∀ r, at_X_lineUp_4 22 x (l + 1) (c + 1) w4 C' r → at_X_lineUp_24 22 x l c (i : Int) C r) ∧
    (∀ N, Fr M N → N 64 37 = x / 100 ∧ N 64 38 = x % 100 → N 64 41 = l + 1 → (∀ j : Int, 0 ≤ j → j ≤ c → N 87 j = W j) → (∀ j : Int, 0 ≤ j → j ≤ l → ¬ j = (i : Int) → N 88 j = K j) → ∃ N' w2, NXl M N' x (c + 1) (l + 1) W K' ∧ ∀ r, at_M_orders_5 22 (c + 1) w2 N' r → at_M_orders_57 22 c (i : Int) N r) := by
  intro i
  have wl : w32 (l + 1) = l + 1 := w32_i (by omega) (by omega)
  have wcc : w32 (c + 1) = c + 1 := w32_i (by omega) (by omega)
  -- it ends here
  have stop : ∀ (i : Nat) (K : Int → Int), (i : Int) ≤ l → (∀ j : Int, 0 ≤ j → j ≤ l → ¬ j = (i : Int) → (0 ≤ K j ∧ K j ≤ c) ∧ 0 < W (K j)) → ((i : Int) ≤ 0 ∨ (0 < (i : Int) ∧ W c ≤ W (K ((i : Int) - 1)))) → ∃ K' : Int → Int, (∀ j : Int, 0 ≤ j → j ≤ l → (0 ≤ K' j ∧ K' j ≤ c) ∧ 0 < W (K' j)) ∧
    (∀ C, Fr M C → (∀ j : Int, 0 ≤ j → j ≤ c → C 61 j = W j) → (∀ j : Int, 0 ≤ j → j ≤ l → ¬ j = (i : Int) → C 62 j = K j) → ∃ C' w4, CXl M C' (c + 1) (l + 1) W K' ∧ ∀ r, at_X_lineUp_4 22 x (l + 1) (c + 1) w4 C' r → at_X_lineUp_24 22 x l c (i : Int) C r) ∧
    (∀ N, Fr M N → N 64 37 = x / 100 ∧ N 64 38 = x % 100 → N 64 41 = l + 1 → (∀ j : Int, 0 ≤ j → j ≤ c → N 87 j = W j) → (∀ j : Int, 0 ≤ j → j ≤ l → ¬ j = (i : Int) → N 88 j = K j) → ∃ N' w2, NXl M N' x (c + 1) (l + 1) W K' ∧ ∀ r, at_M_orders_5 22 (c + 1) w2 N' r → at_M_orders_57 22 c (i : Int) N r) := fun i K il hK hs => by
    refine ⟨fun j => if j = (i : Int) then c else K j, fun j j0 j1 => ?_, fun C t w1 w2 => ⟨up C 62 (i : Int) c, (0, (i : Int)), ⟨t.upd (by unfold Scr; omega), fun j j0 j1 => by rw [up_n (by omega)]; exact w1 j j0 (by omega), fun j j0 j1 => ?_⟩, fun r hr => ?_⟩, fun N t g w0 w1 w2 => ⟨up N 88 (i : Int) c, (0, (i : Int)), ⟨t.upd (by unfold Scr; omega), ⟨by rw [up_n (by omega)]; exact g.1, by rw [up_n (by omega)]; exact g.2⟩, by rw [up_n (by omega)]; exact w0, fun j j0 j1 => by rw [up_n (by omega)]; exact w1 j j0 (by omega), fun j j0 j1 => ?_⟩, fun r hr => ?_⟩⟩
    · by_cases e : j = (i : Int)
      · simp only [e, if_true]; exact ⟨⟨c0, Int.le_refl _⟩, wc⟩
      · simp only [if_neg e]; exact hK j j0 j1 e
    · by_cases e : j = (i : Int)
      · simp only [e, if_true]; rw [up_eq]
      · simp only [if_neg e]; rw [up_n (by omega)]; exact w2 j j0 (by omega) e
    · refine sg_X_lineUp_24 ?_
      rw [wl, wcc]
      refine ite_i (fun _ => ⟨⟨by omega, by omega⟩, hr⟩) (fun q => ?_)
      obtain ⟨h1, h2⟩ := hs.resolve_left q
      have k := hK ((i : Int) - 1) (by omega) (by omega) (by omega)
      rw [w32_i (x := (i : Int) - 1) (by omega) (by omega), w2 ((i : Int) - 1) (by omega) (by omega) (by omega), w1 c c0 (Int.le_refl _), w1 _ k.1.1 k.1.2]
      exact ⟨⟨by omega, by omega⟩, ⟨k.1.1, by omega⟩, ⟨c0, by omega⟩, ite_i (fun _ => ⟨⟨by omega, by omega⟩, hr⟩) (fun q => absurd h2 q)⟩
    · by_cases e : j = (i : Int)
      · simp only [e, if_true]; rw [up_eq]
      · simp only [if_neg e]; rw [up_n (by omega)]; exact w2 j j0 (by omega) e
    · refine sg_M_orders_57 ?_
      rw [wcc]
      refine ite_i (fun _ => ⟨⟨by omega, by omega⟩, hr⟩) (fun q => ?_)
      obtain ⟨h1, h2⟩ := hs.resolve_left q
      have k := hK ((i : Int) - 1) (by omega) (by omega) (by omega)
      rw [w32_i (x := (i : Int) - 1) (by omega) (by omega), w2 ((i : Int) - 1) (by omega) (by omega) (by omega), w1 c c0 (Int.le_refl _), w1 _ k.1.1 k.1.2]
      exact ⟨⟨by omega, by omega⟩, ⟨k.1.1, by omega⟩, ⟨c0, by omega⟩, ite_i (fun _ => ⟨⟨by omega, by omega⟩, hr⟩) (fun q => absurd h2 q)⟩
  induction i with
  | zero => exact fun K il hK => stop 0 K il hK (Or.inl (by decide))
  | succ i ih =>
    intro K il hK
    have e1 : (((i + 1 : Nat)) : Int) - 1 = (i : Int) := by omega
    by_cases q : W c ≤ W (K (i : Int))
    · exact stop (i + 1) K il hK (Or.inr ⟨by omega, by rw [e1]; exact q⟩)
    · obtain ⟨K', hK', hX, hM⟩ := ih (fun j => if j = ((i + 1 : Nat) : Int) then K (i : Int) else K j) (by omega) (fun j j0 j1 jn => by
        by_cases e : j = ((i + 1 : Nat) : Int)
        · simp only [e, if_true]; exact hK (i : Int) (by omega) (by omega) (by omega)
        · simp only [if_neg e]; exact hK j j0 j1 e)
      have k := hK (i : Int) (by omega) (by omega) (by omega)
      refine ⟨K', hK', fun C t w1 w2 => ?_, fun N t g w0 w1 w2 => ?_⟩
      · obtain ⟨C', w4, i1, i2⟩ := hX (up C 62 ((i + 1 : Nat) : Int) (K (i : Int))) (t.upd (by unfold Scr; omega)) (fun j j0 j1 => by rw [up_n (by omega)]; exact w1 j j0 j1) (fun j j0 j1 jn => by
          by_cases e : j = ((i + 1 : Nat) : Int)
          · simp only [e, if_true]; rw [up_eq]
          · simp only [if_neg e]; rw [up_n (by omega)]; exact w2 j j0 j1 e)
        refine ⟨C', w4, i1, fun r hr => sg_X_lineUp_24 (ite_i (fun q => absurd q (by omega)) (fun _ => ?_))⟩
        rw [w32_i (x := ((i + 1 : Nat) : Int) - 1) (by omega) (by omega), e1, w2 (i : Int) (by omega) (by omega) (by omega), w1 c c0 (Int.le_refl _), w1 _ k.1.1 k.1.2, w32_i (x := ((i + 1 : Nat) : Int) + -1) (by omega) (by omega), show ((i + 1 : Nat) : Int) + -1 = (i : Int) by omega]
        exact ⟨⟨by omega, by omega⟩, ⟨k.1.1, by omega⟩, ⟨c0, by omega⟩, ite_i (fun q2 => absurd q2 q) (fun _ => ⟨⟨by omega, by omega⟩, ⟨by omega, by omega⟩, i2 r hr⟩)⟩
      · obtain ⟨N', w4, i1, i2⟩ := hM (up N 88 ((i + 1 : Nat) : Int) (K (i : Int))) (t.upd (by unfold Scr; omega)) ⟨by rw [up_n (by omega)]; exact g.1, by rw [up_n (by omega)]; exact g.2⟩ (by rw [up_n (by omega)]; exact w0) (fun j j0 j1 => by rw [up_n (by omega)]; exact w1 j j0 j1) (fun j j0 j1 jn => by
          by_cases e : j = ((i + 1 : Nat) : Int)
          · simp only [e, if_true]; rw [up_eq]
          · simp only [if_neg e]; rw [up_n (by omega)]; exact w2 j j0 j1 e)
        refine ⟨N', w4, i1, fun r hr => sg_M_orders_57 (ite_i (fun q => absurd q (by omega)) (fun _ => ?_))⟩
        rw [w32_i (x := ((i + 1 : Nat) : Int) - 1) (by omega) (by omega), e1, w2 (i : Int) (by omega) (by omega) (by omega), w1 c c0 (Int.le_refl _), w1 _ k.1.1 k.1.2, w32_i (x := ((i + 1 : Nat) : Int) + -1) (by omega) (by omega), show ((i + 1 : Nat) : Int) + -1 = (i : Int) by omega]
        exact ⟨⟨by omega, by omega⟩, ⟨k.1.1, by omega⟩, ⟨c0, by omega⟩, ite_i (fun q2 => absurd q2 q) (fun _ => ⟨⟨by omega, by omega⟩, ⟨by omega, by omega⟩, i2 r hr⟩)⟩
end P50
