/-! what tells a print, a ridge, NEAR: both sides, and the invariant -/
def VAL (M : Mem) (num what : Int) : Int := if what = 2 then M 64 4 else if what = 0 then M 65 (10 * (num / 100) + num % 100) else M 66 (10 * (num / 100) + num % 100)
abbrev NV (n num what : Int) : Prop := (what = 2 ∧ num = 0) ∨ ((what = 0 ∨ what = 1) ∧ 0 ≤ num ∧ num / 100 < n ∧ num % 100 < 10)
def tellX (M : Mem) (num what v : Int) : Mem := if what = 2 then up M 1 6 v else if what = 0 then tS M (num / 100) (num % 100).toNat v else up M ((16 + num / 100).toNat) (num % 100) v
def becM (N : Mem) (num what v : Int) : Mem := if what = 2 then up N 64 4 v else if what = 0 then up N 65 (10 * (num / 100) + num % 100) v else up N 66 (10 * (num / 100) + num % 100) v
section P35
variable {M N C : Mem} {n num what v : Int}
theorem VC.nv (h : VC n num what v) : NV n num what := by
  unfold VC at h
  unfold NV
  omega
theorem NV.c32 (h : NV n num what) (hn : n ≤ 12) : c32 num := by
  unfold NV at h
  exact ⟨by omega, by omega⟩
theorem c_placeOf {d : Nat} (h : NV n num what) (w : ¬ what = 2) (hn : n ≤ 12) (hd : 1 ≤ d) : Cl d m_M_placeOf [(0, num)] N (rI (10 * (num / 100) + num % 100) N) := by
  have hc := h.c32 hn
  unfold NV at h
  obtain ⟨d1, d2⟩ := dm100 hc (by omega)
  refine (sg_M_placeOf (d := 0) ?_).mono hd
  rw [d1, d2, w32_i (x := num / 100 * 10) (by omega) (by omega), w32_i (by omega) (by omega), Int.mul_comm]
theorem c_C_told (h1 : R1 M) (h2 : R2 M) (h : NV (M 64 0) num what) : Cl 39 m_C_told [(2, 1), (0, num), (0, what)] M (rI (VAL M num what) M) := by
  have e1 := h1.1; have e2 := h1.2.1; have e3 := h1.2.2.1; have e4 := h1.2.2.2.1
  have hc := h.c32 e3
  unfold NV at h
  unfold VAL
  by_cases w : what = 2
  · rw [if_pos w]
    exact sg_C_told (d := 38) (ite_i (fun t => absurd w t) (fun _ => by rw [e4]))
  · obtain ⟨d1, d2⟩ := dm100 hc (by omega)
    obtain ⟨g1, g2, -⟩ := h2 (num / 100) (num % 100) (by omega) (by omega) (by omega) (by omega)
    rw [if_neg w]
    refine sg_C_told (d := 38) (ite_i (fun _ => ?_) (fun t => t.elim w))
    rw [d1, d2, g1, g2]
    by_cases y0 : what = 0
    · rw [if_pos y0]
      exact ⟨_, c_C_has (by decide), ite_b (fun t => absurd ⟨by omega, by omega⟩ t) (fun _ => ⟨_, c_X_isFinger (by decide), ite_bn (fun _ => ite_i (fun t => absurd y0 t) (fun _ => ⟨⟨by omega, by omega⟩, ⟨by omega, by omega⟩, rfl⟩)) (fun t => absurd ⟨by omega, by omega⟩ t)⟩)⟩
    · rw [if_neg y0]
      exact ⟨_, c_C_has (by decide), ite_b (fun t => absurd ⟨by omega, by omega⟩ t) (fun _ => ⟨_, c_X_isFinger (by decide), ite_bn (fun _ => ite_i (fun _ => ⟨⟨by omega, by omega⟩, ⟨by omega, by omega⟩, rfl⟩) (fun t => t.elim y0)) (fun t => absurd ⟨by omega, by omega⟩ t)⟩)⟩
theorem c_M_get (hn : M 64 0 ≤ 12) (h : NV (M 64 0) num what) (a4 : N 64 4 = M 64 4) (a65 : N 65 = M 65) (a66 : N 66 = M 66) : Cl 39 m_M_get [(2, 64), (0, num), (0, what)] N (rI (VAL M num what) N) := by
  unfold VAL
  by_cases w : what = 2
  · rw [if_pos w]
    exact sg_M_get (d := 38) (ite_i (fun _ => ite_i (fun _ => by rw [a4]) (fun t => absurd w (by omega))) (fun t => absurd w (by omega)))
  · have pl := c_placeOf (N := N) (d := 38) h w hn (by decide)
    unfold NV at h
    rw [if_neg w]
    by_cases y0 : what = 0
    · rw [if_pos y0]
      exact sg_M_get (d := 38) (ite_i (fun t => absurd y0 t) (fun _ => ⟨_, pl, ⟨by omega, by omega⟩, by rw [a65]⟩))
    · rw [if_neg y0]
      exact sg_M_get (d := 38) (ite_i (fun _ => ite_i (fun t => absurd (by omega) t) (fun _ => ⟨_, pl, ⟨by omega, by omega⟩, by rw [a66]⟩)) (fun t => t.elim y0))
theorem c_C_tell (h : NV (C 1 5) num what) (hn : C 1 5 ≤ 12) : Cl 39 m_C_tell [(2, 1), (0, num), (0, what), (0, v)] C (rV (tellX C num what v)) := by
  have hc := h.c32 hn
  unfold NV at h
  unfold tellX
  by_cases w : what = 2
  · rw [if_pos w]
    exact sg_C_tell (d := 38) (ite_i (fun t => absurd w t) (fun _ => rfl))
  · obtain ⟨d1, d2⟩ := dm100 hc (by omega)
    rw [if_neg w]
    refine sg_C_tell (d := 38) (ite_i (fun _ => ?_) (fun t => t.elim w))
    rw [d1, d2]
    by_cases y0 : what = 0
    · rw [if_pos y0]
      have := c_C_tellSort (M := C) (c := num / 100) (f := (num % 100).toNat) (s := v) (d := 38) ⟨by omega, by omega⟩ hn (by omega) (by decide)
      rw [Int.toNat_of_nonneg (show 0 ≤ num % 100 by omega)] at this
      exact ite_i (fun t => absurd y0 t) (fun _ => ⟨_, this, rfl⟩)
    · rw [if_neg y0]
      have := c_C_tellRidges (M := C) (c := num / 100) (f := (num % 100).toNat) (s := v) (d := 38) ⟨by omega, by omega⟩ hn (by omega) (by decide)
      rw [Int.toNat_of_nonneg (show 0 ≤ num % 100 by omega)] at this
      exact ite_i (fun _ => ⟨_, this, rfl⟩) (fun t => t.elim y0)
theorem c_M_becomes (h : NV n num what) (hn : n ≤ 12) : Cl 39 m_M_becomes [(2, 64), (0, num), (0, what), (0, v)] N (rV (becM N num what v)) := by
  unfold becM
  by_cases w : what = 2
  · rw [if_pos w]
    exact sg_M_becomes (d := 38) (ite_i (fun _ => ite_i (fun _ => rfl) (fun t => absurd w (by omega))) (fun t => absurd w (by omega)))
  · have pl := c_placeOf (N := N) (d := 38) h w hn (by decide)
    unfold NV at h
    rw [if_neg w]
    by_cases y0 : what = 0
    · rw [if_pos y0]
      exact sg_M_becomes (d := 38) (ite_i (fun t => absurd y0 t) (fun _ => ⟨_, pl, ⟨by omega, by omega⟩, rfl⟩))
    · rw [if_neg y0]
      exact sg_M_becomes (d := 38) (ite_i (fun _ => ite_i (fun t => absurd (by omega) t) (fun _ => ⟨_, pl, ⟨by omega, by omega⟩, rfl⟩)) (fun t => t.elim y0))
def TX (o : Nat) (i : Int) : Prop := (o = 1 ∧ i = 6) ∨ (3 ≤ o ∧ o ≤ 14) ∨ (16 ≤ o ∧ o ≤ 29)
def TW (o : Nat) (i : Int) : Prop := (o = 64 ∧ i = 4) ∨ o = 65 ∨ o = 66
theorem tellX_to (h : NV n num what) (hn : n ≤ 12) : To TX M (tellX M num what v) := by
  unfold NV at h
  unfold tellX
  by_cases w : what = 2
  · rw [if_pos w]
    exact (To.refl _ M).upd (by unfold TX; omega)
  · rw [if_neg w]
    by_cases y0 : what = 0
    · rw [if_pos y0]
      exact tS_to.wk (by intro o i; unfold TPc TX; omega)
    · rw [if_neg y0]
      exact (To.refl _ M).upd (by unfold TX; omega)
theorem becM_to : To TW N (becM N num what v) := by
  unfold becM
  split
  · exact (To.refl _ N).upd (by unfold TW; omega)
  · split
    · exact (To.refl _ N).upd (by unfold TW; omega)
    · exact (To.refl _ N).upd (by unfold TW; omega)
theorem tell_R (r1 : R1 M) (r2 : R2 M) (r3 : R3 M) (r5 : R5 M) (h : VC (M 64 0) num what v) : R1 (becM (tellX M num what v) num what v) ∧ R2 (becM (tellX M num what v) num what v) ∧ R3 (becM (tellX M num what v) num what v) ∧ R5 (becM (tellX M num what v) num what v) := by
  obtain ⟨e1, e2, e3, e4, e5, e6⟩ := id r1
  unfold VC at h
  unfold becM tellX
  by_cases w : what = 2
  · rw [if_pos w, if_pos w]
    have q : ∀ (o : Nat) (k : Int), ¬ (o = 1 ∧ k = 6) → ¬ (o = 64 ∧ k = 4) → up (up M 1 6 v) 64 4 v o k = M o k := fun o k q1 q2 => by rw [up_n q2, up_n q1]
    refine ⟨?_, r2.ag r1 (fun o k y => q o k (by unfold K2 at y; omega) (by unfold K2 at y; omega)), r3.ag (fun o k y => q o k (by unfold K3 at y; omega) (by unfold K3 at y; omega)), r5.ag (fun o k y => q o k (by unfold K5 at y; omega) (by unfold K5 at y; omega))⟩
    unfold R1
    rw [q 1 5 (by decide) (by decide), q 64 0 (by decide) (by decide), up_eq, up_n (b := 1) (a := 64) (by omega), up_eq]
    exact ⟨e1, e2, e3, rfl, by omega, by omega⟩
  · rw [if_neg w, if_neg w]
    obtain ⟨c, hc⟩ : ∃ c, c = num / 100 := ⟨_, rfl⟩
    obtain ⟨f, hf⟩ : ∃ f : Nat, (f : Int) = num % 100 := ⟨(num % 100).toNat, Int.toNat_of_nonneg (by omega)⟩
    have hf2 : (num % 100).toNat = f := by omega
    rw [← hc, hf2, ← hf]
    have c0 : 0 ≤ c := by omega
    have cn : c < M 64 0 := by omega
    have f9 : f < 10 := by omega
    by_cases y0 : what = 0
    · rw [if_pos y0, if_pos y0]
      obtain ⟨B, hB⟩ : ∃ B, B = up (tS M c f v) 65 (10 * c + f) v := ⟨_, rfl⟩
      rw [← hB]
      have q : ∀ (o : Nat) (k : Int), ¬ TPc c o k → ¬ (o = 65 ∧ k = 10 * c + f) → B o k = M o k := fun o k q1 q2 => by rw [hB, up_n q2, tS_n q1]
      have q65 : ∀ k : Int, B 65 k = if k = 10 * c + f then v else M 65 k := fun k => by
        by_cases e : k = 10 * c + f
        · rw [if_pos e, e, hB, up_eq]
        · rw [if_neg e, q 65 k (by unfold TPc; omega) (by omega)]
      refine ⟨r1.ag (fun o k y => q o k (by unfold K1 at y; unfold TPc; omega) (by unfold K1 at y; omega)), fun c' f' c0' cn' f0' f9' => ?_, fun c' c0' cn' => ?_, fun c' c0' cn' => ?_⟩
      · rw [q 64 0 (by unfold TPc; omega) (by omega)] at cn'
        obtain ⟨g1, g2, g3, g4, g5, g6⟩ := r2 c' f' c0' cn' f0' f9'
        rw [q65, q 66 _ (by unfold TPc; omega) (by omega)]
        have r16 : B ((16 + c').toNat) f' = M ((16 + c').toNat) f' := by
          rw [hB, up_n (by omega)]
          unfold tS
          rw [up_n (by omega), up_n (by omega), up_n (by omega)]
        rw [r16]
        by_cases e : c' = c
        · subst e
          have : B ((3 + c').toNat) f' = if f' = (f : Int) then v else M ((3 + c').toNat) f' := by rw [hB, up_n (by omega), tS_row c0 (by omega)]
          rw [this]
          by_cases e2 : f' = (f : Int)
          · rw [if_pos e2, if_pos (by omega)]
            exact ⟨rfl, g2, by omega, by omega, g5, g6⟩
          · rw [if_neg e2, if_neg (by omega)]
            exact ⟨g1, g2, g3, g4, g5, g6⟩
        · rw [if_neg (by omega), q ((3 + c').toNat) f' (by unfold TPc; omega) (by omega)]
          exact ⟨g1, g2, g3, g4, g5, g6⟩
      · rw [q 64 0 (by unfold TPc; omega) (by omega)] at cn'
        by_cases e : c' = c
        · subst e
          have m : MKo (M 28 c') (M 29 c') (fun k => M 65 (10 * c' + k)) := r3 c' c0' cn'
          rw [show B 28 c' = mS v (M 28 c') f by rw [hB, up_n (by omega), tS_28], show B 29 c' = mO v (M 29 c') f by rw [hB, up_n (by omega), tS_29]]
          have := (m.set f9 (s := v) (by omega) (by omega)).congr (g' := fun k => B 65 (10 * c' + k)) (fun k k0 k9 => by
            show B 65 (10 * c' + k) = if k = (f : Int) then v else M 65 (10 * c' + k)
            rw [q65]
            by_cases e2 : k = (f : Int)
            · rw [if_pos e2, if_pos (by omega)]
            · rw [if_neg e2, if_neg (by omega)])
          exact this
        · have m : MKo (M 28 c') (M 29 c') (fun k => M 65 (10 * c' + k)) := r3 c' c0' cn'
          rw [q 28 c' (by unfold TPc; omega) (by omega), q 29 c' (by unfold TPc; omega) (by omega)]
          have := m.congr (g' := fun k => B 65 (10 * c' + k)) (fun k k0 k9 => by
            show B 65 (10 * c' + k) = M 65 (10 * c' + k)
            rw [q65, if_neg (by omega)])
          exact this
      · rw [q 64 0 (by unfold TPc; omega) (by omega)] at c0'
        rw [q 28 c' (by unfold TPc; omega) (by omega), q 29 c' (by unfold TPc; omega) (by omega)]
        exact r5 c' c0' cn'
    · rw [if_neg y0, if_neg y0]
      have q : ∀ (o : Nat) (k : Int), ¬ (o = (16 + c).toNat ∧ k = f) → ¬ (o = 66 ∧ k = 10 * c + f) → up (up M ((16 + c).toNat) f v) 66 (10 * c + f) v o k = M o k := fun o k q1 q2 => by rw [up_n q2, up_n q1]
      refine ⟨r1.ag (fun o k y => q o k (by unfold K1 at y; omega) (by unfold K1 at y; omega)), fun c' f' c0' cn' f0' f9' => ?_, r3.ag (fun o k y => q o k (by unfold K3 at y; omega) (by unfold K3 at y; omega)), r5.ag (fun o k y => q o k (by unfold K5 at y; omega) (by unfold K5 at y; omega))⟩
      rw [q 64 0 (by omega) (by omega)] at cn'
      obtain ⟨g1, g2, g3, g4, g5, g6⟩ := r2 c' f' c0' cn' f0' f9'
      rw [q ((3 + c').toNat) f' (by omega) (by omega), q 65 _ (by omega) (by omega)]
      by_cases e : c' = c ∧ f' = f
      · obtain ⟨rfl, rfl⟩ := e
        rw [up_eq, up_n (b := (16 + c').toNat) (by omega), up_eq]
        exact ⟨g1, rfl, g3, g4, by omega, by omega⟩
      · rw [q ((16 + c').toNat) f' (by omega) (by omega), q 66 _ (by omega) (by omega)]
        exact ⟨g1, g2, g3, g4, g5, g6⟩
end P35
