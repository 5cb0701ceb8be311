/-! promise cards -/
section P33
variable {M N C : Mem} {a b c h i p r s x y : Int} {sv rv : Int → Int → Int}
abbrev VV (M : Mem) (p x : Int) : Int := M 86 (60 * p + x)
/-- finger f of a card told from a place on -/
abbrev OKf (M : Mem) (p x f : Int) : Prop := (0 ≤ VV M p (x + 2 * f) ∧ VV M p (x + 2 * f) ≤ 5) ∧ (0 ≤ VV M p (x + 2 * f + 1) ∧ VV M p (x + 2 * f + 1) ≤ 30)
theorem vA_len {d : Nat} (h13 : R13 M) (z : 0 ≤ p ∧ p < 6) (q : M 50 p = 2) (t : Ag K13 M C) (hd : 2 ≤ d) : Cl d m_S_lengthOf [(2, 49), (0, p)] C (rI (M 85 p) C) := by
  have := c_S_lengthOf (h13.ag t) z (by rw [t 50 p (by unfold K13; omega)]; exact q) hd
  rwa [t 85 p (by unfold K13; omega)] at this
theorem vA_val {d : Nat} (h13 : R13 M) (z : 0 ≤ p ∧ p < 6) (q : M 50 p = 2) (t : Ag K13 M C) (x0 : 0 ≤ x) (xl : x < M 85 p) (hd : 3 ≤ d) : Cl d m_S_valueAt [(2, 49), (0, p), (0, x)] C (rL (VV M p x) C) := by
  have := c_S_valueAt (h13.ag t) z (by rw [t 50 p (by unfold K13; omega)]; exact q) x0 (by rw [t 85 p (by unfold K13; omega)]; exact xl) hd
  rwa [t 86 _ (by unfold K13; omega)] at this
theorem vA_rng (h13 : R13 M) (z : 0 ≤ p ∧ p < 6) (q : M 50 p = 2) (qs : M 52 p = 0) (x0 : 0 ≤ x) (xl : x < M 85 p) : (True → w32 (VV M p x) = VV M p x) := by
  obtain ⟨-, -, -, -, -, -, r⟩ := h13.row z q
  have : -128 ≤ VV M p x ∧ VV M p x ≤ 127 := (r x x0 xl).2.1 qs
  exact fun _ => w32_i (by omega) (by omega)
theorem w32_2 {x : Int} {k : Nat} (x0 : 0 ≤ x) (xl : x + 20 ≤ 60) (hk : k < 10) : w32 (x + w32 (2 * (k : Int))) = x + 2 * k ∧ w32 (x + 2 * (k : Int) + 1) = x + 2 * k + 1 := by
  rw [w32_i (x := 2 * (k : Int)) (by omega) (by omega), w32_i (x := x + 2 * (k : Int)) (by omega) (by omega), w32_i (by omega) (by omega)]
  exact ⟨rfl, rfl⟩
theorem X_check (h13 : R13 M) (z : 0 ≤ p ∧ p < 6) (q : M 50 p = 2) (x0 : 0 ≤ x) (xl : x + 20 ≤ M 85 p) (t : Ag K13 M C) {w2 w3 : AV} {res : Res} :
    ∀ (j k : Nat), k + j = 10 → ((∃ f : Nat, k ≤ f ∧ f < 10 ∧ ¬ OKf M p x (f : Int)) → ∀ w6, at_X_cardComes_26 78 p w2 w3 x k w6 C (rI 0 C)) ∧ ((∀ f : Nat, k ≤ f → f < 10 → OKf M p x (f : Int)) → (∀ w6, at_X_cardComes_26 78 p w2 w3 x 10 w6 C res) → ∀ w6, at_X_cardComes_26 78 p w2 w3 x k w6 C res)
  | 0, k, hk => ⟨fun ⟨f, f1, f2, _⟩ => absurd f1 (by omega), fun _ g w6 => by
      have : (k : Int) = 10 := by omega
      rw [this]; exact g w6⟩
  | j + 1, k, hk => by
    obtain ⟨-, -, -, -, -, r6, -⟩ := h13.row z q
    obtain ⟨ih1, ih2⟩ := X_check h13 z q x0 xl t (w2 := w2) (w3 := w3) (res := res) j (k + 1) (by omega)
    rw [show (((k + 1 : Nat)) : Int) = (k : Int) + 1 by omega] at ih1 ih2
    obtain ⟨w1, w2'⟩ := w32_2 (k := k) x0 (by omega) (by omega)
    have v1 := vA_val (d := 78) h13 z q t (x := x + 2 * (k : Int)) (by omega) (by omega) (by decide)
    have v2 := vA_val (d := 78) h13 z q t (x := x + 2 * (k : Int) + 1) (by omega) (by omega) (by decide)
    have pre : ∀ {rr : Res} {w6 : AV}, (if bI (0 ≤ VV M p (x + 2 * (k : Int)) ∧ VV M p (x + 2 * (k : Int)) ≤ 5) = 0 then rr = (some (0, 0), C) else (if ¬ bI (0 ≤ VV M p (x + 2 * (k : Int) + 1) ∧ VV M p (x + 2 * (k : Int) + 1) ≤ 30) = 0 then at_X_cardComes_26 78 p w2 w3 x ((k : Int) + 1) w6 C rr else rr = (some (0, 0), C))) → at_X_cardComes_26 78 p w2 w3 x k w6 C rr := fun {rr w6} hv => by
      refine sg_X_cardComes_26 (ite_i (fun y => absurd y (by omega)) (fun _ => ?_))
      rw [w1, w2', w32_k (by omega)]
      refine ⟨_, v1, _, c_X_isSort (by decide), ?_⟩
      by_cases y : 0 ≤ VV M p (x + 2 * (k : Int)) ∧ VV M p (x + 2 * (k : Int)) ≤ 5
      · rw [bI_t y, if_neg (by decide)] at hv ⊢
        exact ⟨_, v2, _, c_X_isRidges (by decide), hv⟩
      · rw [bI_f y, if_pos rfl] at hv ⊢
        exact hv
    refine ⟨fun ⟨f, f1, f2, f3⟩ w6 => pre (ite_b (fun _ => rfl) (fun y => ite_bn (fun y2 => ih1 ⟨f, ?_, f2, f3⟩ _) (fun _ => rfl))), fun hf g w6 => pre (ite_b (fun y => absurd (hf k (by omega) (by omega)).1 y) (fun _ => ite_bn (fun _ => ih2 (fun f f1 f2 => hf f (by omega) f2) g _) (fun y => absurd (hf k (by omega) (by omega)).2 y)))⟩
    by_cases e : f = k
    · subst e; exact absurd ⟨y, y2⟩ f3
    · omega
theorem M_check (h13 : R13 M) (z : 0 ≤ p ∧ p < 6) (q : M 50 p = 2) (qs : M 52 p = 0) (x0 : 0 ≤ x) (xl : x + 20 ≤ M 85 p) (t : Ag K13 M N) {l2 l3 l4 l5 : Int} {w6 w7 w10 : AV} {res : Res} :
    ∀ (j k : Nat), k + j = 10 → ((∃ f : Nat, k ≤ f ∧ f < 10 ∧ ¬ OKf M p x (f : Int)) → at_M_cards_69 79 p l2 l3 l4 l5 w6 w7 (60 * p + x) k w10 N (rI l4 N)) ∧ ((∀ f : Nat, k ≤ f → f < 10 → OKf M p x (f : Int)) → at_M_cards_69 79 p l2 l3 l4 l5 w6 w7 (60 * p + x) 10 w10 N res → at_M_cards_69 79 p l2 l3 l4 l5 w6 w7 (60 * p + x) k w10 N res)
  | 0, k, hk => ⟨fun ⟨f, f1, f2, _⟩ => absurd f1 (by omega), fun _ g => by
      have : (k : Int) = 10 := by omega
      rw [this]; exact g⟩
  | j + 1, k, hk => by
    obtain ⟨-, -, -, -, -, r6, -⟩ := h13.row z q
    obtain ⟨ih1, ih2⟩ := M_check h13 z q qs x0 xl t (l2 := l2) (l3 := l3) (l4 := l4) (l5 := l5) (w6 := w6) (w7 := w7) (w10 := w10) (res := res) j (k + 1) (by omega)
    rw [show (((k + 1 : Nat)) : Int) = (k : Int) + 1 by omega] at ih1 ih2
    have w1 : w32 (60 * p + x + w32 (2 * (k : Int))) = 60 * p + (x + 2 * k) := by rw [w32_i (x := 2 * (k : Int)) (by omega) (by omega), w32_i (by omega) (by omega)]; omega
    have w2' : w32 (60 * p + (x + 2 * (k : Int)) + 1) = 60 * p + (x + 2 * k + 1) := by rw [w32_i (by omega) (by omega)]; omega
    have e1 : w32 (N 86 (60 * p + (x + 2 * (k : Int)))) = VV M p (x + 2 * (k : Int)) := by rw [t 86 _ (by unfold K13; omega)]; exact vA_rng h13 z q qs (by omega) (by omega) trivial
    have e2 : w32 (N 86 (60 * p + (x + 2 * (k : Int) + 1))) = VV M p (x + 2 * (k : Int) + 1) := by rw [t 86 _ (by unfold K13; omega)]; exact vA_rng h13 z q qs (by omega) (by omega) trivial
    have pre : ∀ {rr : Res}, (if bI (0 ≤ VV M p (x + 2 * (k : Int)) ∧ VV M p (x + 2 * (k : Int)) ≤ 5) = 0 then rr = (some (0, l4), N) else (if ¬ bI (0 ≤ VV M p (x + 2 * (k : Int) + 1) ∧ VV M p (x + 2 * (k : Int) + 1) ≤ 30) = 0 then at_M_cards_69 79 p l2 l3 l4 l5 w6 w7 (60 * p + x) ((k : Int) + 1) w10 N rr else rr = (some (0, l4), N))) → at_M_cards_69 79 p l2 l3 l4 l5 w6 w7 (60 * p + x) k w10 N rr := fun {rr} hv => by
      refine sg_M_cards_69 (ite_i (fun y => absurd y (by omega)) (fun _ => ?_))
      rw [w1, w2', w32_k (by omega), e1, e2]
      refine ⟨⟨by omega, by omega⟩, _, c_M_within (by decide), ?_⟩
      by_cases y : 0 ≤ VV M p (x + 2 * (k : Int)) ∧ VV M p (x + 2 * (k : Int)) ≤ 5
      · rw [bI_t y, if_neg (by decide)] at hv ⊢
        exact ⟨⟨by omega, by omega⟩, _, c_M_within (by decide), hv⟩
      · rw [bI_f y, if_pos rfl] at hv ⊢
        exact hv
    refine ⟨fun ⟨f, f1, f2, f3⟩ => pre (ite_b (fun _ => rfl) (fun y => ite_bn (fun y2 => ih1 ⟨f, ?_, f2, f3⟩) (fun _ => rfl))), fun hf g => pre (ite_b (fun y => absurd (hf k (by omega) (by omega)).1 y) (fun _ => ite_bn (fun _ => ih2 (fun f f1 f2 => hf f (by omega) f2) g) (fun y => absurd (hf k (by omega) (by omega)).2 y)))⟩
    by_cases e : f = k
    · subst e; exact absurd ⟨y, y2⟩ f3
    · omega
/-- the class tells the fingers of the new card h -/
theorem X_tells (h13 : R13 M) (z : 0 ≤ p ∧ p < 6) (q : M 50 p = 2) (qs : M 52 p = 0) (x0 : 0 ≤ x) (xl : x + 20 ≤ M 85 p) (hf : ∀ f : Nat, f < 10 → OKf M p x (f : Int)) (h0 : 0 ≤ h) (h12 : h < 12) {B : Mem} (tB : Ag K13 M B) (b5 : B 1 5 = h + 1) {w2 w3 : AV} :
    ∀ (j k : Nat) (C : Mem), k + j = 10 → To (TPc h) B C → MKo (C 28 h) (C 29 h) (fun f => C ((3 + h).toNat) f) → (∀ f : Int, 0 ≤ f → f < 10 → C ((3 + h).toNat) f = (if f < k then VV M p (x + 2 * f) else 1) ∧ C ((16 + h).toNat) f = (if f < k then VV M p (x + 2 * f + 1) else 10)) → ∃ C', at_X_cardComes_63 78 p w2 w3 x h k C (rI 1 C') ∧ To (TPc h) B C' ∧ CK C' h (fun f => VV M p (x + 2 * f)) (fun f => VV M p (x + 2 * f + 1))
  | 0, k, C, hk, t, m1, m2 => ⟨C, sg_X_cardComes_63 (ite_i (fun _ => rfl) (fun y => absurd (by omega) y)), t, m1, fun f f0 f9 => by
      have := m2 f f0 f9
      rw [if_pos (by omega), if_pos (by omega)] at this
      exact this⟩
  | j + 1, k, C, hk, t, m1, m2 => by
    obtain ⟨-, -, -, -, -, r6, -⟩ := h13.row z q
    obtain ⟨w1, w2'⟩ := w32_2 (k := k) x0 (by omega) (by omega)
    have tk : ∀ {C : Mem}, To (TPc h) B C → Ag K13 M C := fun {C} t o i y => by rw [t o i (by unfold K13 at y; unfold TPc; omega), tB o i y]
    have ok := hf k (by omega)
    have v1 := vA_val (d := 78) h13 z q (tk t) (x := x + 2 * (k : Int)) (by omega) (by omega) (by decide)
    have v2 := vA_val (d := 78) h13 z q (tk (t.trans (tS_to (f := k) (s := VV M p (x + 2 * (k : Int)))))) (x := x + 2 * (k : Int) + 1) (by omega) (by omega) (by decide)
    have c5 : C 1 5 = h + 1 := by rw [t 1 5 (by unfold TPc; omega), b5]
    have t5 : tS C h k (VV M p (x + 2 * (k : Int))) 1 5 = h + 1 := by rw [tS_n (by unfold TPc; omega), c5]
    obtain ⟨C', g1, g2⟩ := X_tells h13 z q qs x0 xl hf h0 h12 tB b5 (w2 := w2) (w3 := w3) j (k + 1) (tF C h k (VV M p (x + 2 * (k : Int))) (VV M p (x + 2 * (k : Int) + 1))) (by omega) (t.trans tF_to) (by
      rw [tF_28 h0 h12, tF_29 h0 h12]
      exact (m1.set (by omega) ok.1.1 ok.1.2).congr (fun f f0 f9 => tF_s h0 h12)) (fun f f0 f9 => by
      rw [tF_s h0 h12, tF_r h0 h12]
      have m := m2 f f0 f9
      by_cases e : f = (k : Int)
      · rw [if_pos e, if_pos e, if_pos (by omega), if_pos (by omega), e]; exact ⟨rfl, rfl⟩
      · rw [if_neg e, if_neg e]
        by_cases l : f < (k : Int)
        · rw [if_pos l, if_pos l] at m
          rw [if_pos (by omega), if_pos (by omega)]; exact m
        · rw [if_neg l, if_neg l] at m
          rw [if_neg (by omega), if_neg (by omega)]; exact m)
    refine ⟨C', sg_X_cardComes_63 (ite_i (fun y => absurd y (by omega)) (fun _ => ?_)), g2⟩
    rw [w1, w2', w32_k (by omega)]
    rw [show (((k + 1 : Nat)) : Int) = (k : Int) + 1 by omega] at g1
    refine ⟨_, v1, tS C h k (VV M p (x + 2 * (k : Int))), ?_, _, v2, tF C h k (VV M p (x + 2 * (k : Int))) (VV M p (x + 2 * (k : Int) + 1)), ?_, g1⟩
    · rw [vA_rng h13 z q qs (x := x + 2 * (k : Int)) (by omega) (by omega) trivial]
      exact c_C_tellSort ⟨h0, by omega⟩ (by omega) (by omega) (by decide)
    · rw [vA_rng h13 z q qs (x := x + 2 * (k : Int) + 1) (by omega) (by omega) trivial]
      exact c_C_tellRidges ⟨h0, by omega⟩ (by omega) (by omega) (by decide)
/-- the model tells the fingers of the new card h -/
theorem M_tells (h13 : R13 M) (z : 0 ≤ p ∧ p < 6) (q : M 50 p = 2) (qs : M 52 p = 0) (x0 : 0 ≤ x) (xl : x + 20 ≤ M 85 p) (h0 : 0 ≤ h) (h12 : h < 12) {B : Mem} (tB : Ag K13 M B) {l2 l3 l4 l5 : Int} {w6 w7 : AV} : ∃ N2, To (TPm h) B N2 ∧ N2 64 0 = B 64 0 ∧ N2 67 h = B 67 h ∧ (∀ f : Int, 0 ≤ f → f < 10 → N2 65 (10 * h + f) = VV M p (x + 2 * f) ∧ N2 66 (10 * h + f) = VV M p (x + 2 * f + 1)) ∧ ∀ res, at_M_cards_29 79 p l2 l3 (w32 (l4 + 1)) (w32 (l5 + 1)) w6 w7 (0, 60 * p + x) (0, h) (0, 10) N2 res → at_M_cards_109 79 p l2 l3 l4 l5 w6 w7 (60 * p + x) h 0 B res := by
  obtain ⟨-, -, -, -, -, r6, -⟩ := h13.row z q
  have key : ∀ (j k : Nat) (N : Mem), k + j = 10 → To (TPm h) B N → N 64 0 = B 64 0 → N 67 h = B 67 h → (∀ f : Int, 0 ≤ f → f < k → N 65 (10 * h + f) = VV M p (x + 2 * f) ∧ N 66 (10 * h + f) = VV M p (x + 2 * f + 1)) → ∃ N2, To (TPm h) B N2 ∧ N2 64 0 = B 64 0 ∧ N2 67 h = B 67 h ∧ (∀ f : Int, 0 ≤ f → f < 10 → N2 65 (10 * h + f) = VV M p (x + 2 * f) ∧ N2 66 (10 * h + f) = VV M p (x + 2 * f + 1)) ∧ ∀ res, at_M_cards_29 79 p l2 l3 (w32 (l4 + 1)) (w32 (l5 + 1)) w6 w7 (0, 60 * p + x) (0, h) (0, 10) N2 res → at_M_cards_109 79 p l2 l3 l4 l5 w6 w7 (60 * p + x) h k N res := by
    intro j
    induction j with
    | zero =>
      intro k N hk t y1 y2 y3
      refine ⟨N, t, y1, y2, fun f f0 f9 => y3 f f0 (by omega), fun res fin => sg_M_cards_109 (ite_i (fun _ => ?_) (fun y => absurd (by omega) y))⟩
      rw [show (k : Int) = 10 by omega]
      exact fin
    | succ j ih =>
      intro k N hk t y1 y2 y3
      have w1 : w32 (60 * p + x + w32 (2 * (k : Int))) = 60 * p + (x + 2 * k) := by rw [w32_i (x := 2 * (k : Int)) (by omega) (by omega), w32_i (by omega) (by omega)]; omega
      have w2' : w32 (60 * p + (x + 2 * (k : Int)) + 1) = 60 * p + (x + 2 * k + 1) := by rw [w32_i (by omega) (by omega)]; omega
      have tn : ∀ o i, K13 o i → N o i = M o i := fun o i y => by rw [t o i (by unfold K13 at y; unfold TPm; omega), tB o i y]
      obtain ⟨N2, a1, a2, a3, a4, a5⟩ := ih (k + 1) (up (up N 65 (10 * h + k) (VV M p (x + 2 * (k : Int)))) 66 (10 * h + k) (VV M p (x + 2 * (k : Int) + 1))) (by omega) ((t.upd (by unfold TPm; omega)).upd (by unfold TPm; omega)) (by rw [up_n (by omega), up_n (by omega)]; exact y1) (by rw [up_n (by omega), up_n (by omega)]; exact y2) (fun f f0 f9 => by
        by_cases e : f = (k : Int)
        · rw [e, up_eq, up_n (by omega), up_eq]; exact ⟨rfl, rfl⟩
        · rw [up_n (by omega), up_n (by omega), up_n (by omega), up_n (by omega)]; exact y3 f f0 (by omega))
      rw [show (((k + 1 : Nat)) : Int) = (k : Int) + 1 by omega] at a5
      refine ⟨N2, a1, a2, a3, a4, fun res fin => sg_M_cards_109 (ite_i (fun y => absurd y (by omega)) (fun _ => ?_))⟩
      rw [w1, w2', w32_k (by omega), ix10 h0 h12 (by omega) (by omega), up_n (b := 86) (a := 65) (by omega), tn 86 _ (by unfold K13; omega), tn 86 _ (by unfold K13; omega), vA_rng h13 z q qs (x := x + 2 * (k : Int)) (by omega) (by omega) trivial, vA_rng h13 z q qs (x := x + 2 * (k : Int) + 1) (by omega) (by omega) trivial]
      exact ⟨⟨by omega, by omega⟩, ⟨by omega, by omega⟩, ⟨by omega, by omega⟩, ⟨by omega, by omega⟩, a5 res fin⟩
  exact key 10 0 B rfl (To.refl _ B) rfl rfl (fun f f0 f9 => absurd f9 (by omega))
end P33
