/-! promise signs, to its end -/
def tri : Nat → Nat
  | 0 => 0
  | m + 1 => tri m + m
theorem tri_le : ∀ n : Nat, n ≤ 12 → tri n ≤ 66 := by decide
def RC (M M' : Mem) (l1 : Int) (S : Nat → Nat → Prop) : Prop := ∀ x : Int, (∀ i : Int, 0 ≤ i → i < l1 → ¬ iand (M' 63 i) x = 0) ↔ ∀ i j : Nat, S i j → TL M x (i : Int) (j : Int)
theorem RC.step {M M' : Mem} {l1 : Int} {S S' : Nat → Nat → Prop} {a c : Nat} (h : RC M M' l1 S) (l0 : 0 ≤ l1) (hs : ∀ i j, S' i j ↔ (S i j ∨ (i = a ∧ j = c))) : RC M (up M' 63 l1 (US M (a : Int) (c : Int))) (l1 + 1) S' := fun x => by
  constructor
  · intro g i j hij
    rcases (hs i j).mp hij with q | ⟨rfl, rfl⟩
    · exact (h x).mp (fun t t0 t1 => by
        have := g t t0 (by omega)
        rwa [up_ne2 (by omega)] at this) i j q
    · have := g l1 l0 (by omega)
      rwa [up_eq] at this
  · intro g t t0 t1
    by_cases q : t = l1
    · subst q
      rw [up_eq]
      exact g a c ((hs a c).mpr (Or.inr ⟨rfl, rfl⟩))
    · rw [up_ne2 q]
      exact (h x).mpr (fun i j y => g i j ((hs i j).mpr (Or.inl y))) t t0 (by omega)
theorem RC.eqv {M M' : Mem} {l1 : Int} {S S' : Nat → Nat → Prop} (h : RC M M' l1 S) (hs : ∀ i j, S' i j ↔ S i j) : RC M M' l1 S' := fun x => (h x).trans ⟨fun g i j y => g i j ((hs i j).mp y), fun g i j y => g i j ((hs i j).mpr y)⟩
theorem US_fr {M M' : Mem} (h : Fr M M') {a c : Int} : US M' a c = US M a c := setB_congr (fun j _ => decide_eq_decide.mpr (by
  unfold UN
  rw [h 65 _ (by unfold Scr; omega), h 65 _ (by unfold Scr; omega)]))
theorem TA_fr {M M' : Mem} (h : Fr M M') {x : Int} : TA M' x ↔ TA M x := by
  unfold TA TL
  rw [h.f64 (by decide)]
  exact ⟨fun g j hj i hi => by have := g j hj i hi; rwa [US_fr h] at this, fun g j hj i hi => by rw [US_fr h]; exact g j hj i hi⟩
section P16
variable {M : Mem} {a b c m x : Int}
theorem lt_in (h1 : R1 M) (h2 : R2 M) {n k rest : Nat} (hn : (n : Int) = M 64 0) (kn : k < n)
    (out : ∀ (l1 : Int) (M' : Mem), Fr M M' → 0 ≤ l1 → l1 + rest ≤ 66 → RC M M' l1 (fun i j => i < k + 1 ∧ i < j ∧ j < n) → ∃ (cnt : Int) (M1 : Mem), (∀ w, at_X_listTellers_4 38 l1 ((k : Int) + 1) w M' (rI cnt M1)) ∧ Fr M M1 ∧ 0 ≤ cnt ∧ cnt ≤ 66 ∧ RC M M1 cnt (fun i j => i < n ∧ i < j ∧ j < n)) :
    ∀ (t l : Nat) (l1 : Int) (M' : Mem), l + t = n → k < l → Fr M M' → 0 ≤ l1 → l1 + t + rest ≤ 66 → RC M M' l1 (fun i j => (i < k ∧ i < j ∧ j < n) ∨ (i = k ∧ k < j ∧ j < l)) → ∃ (cnt : Int) (M1 : Mem), at_X_listTellers_13 38 l1 (k : Int) (l : Int) M' (rI cnt M1) ∧ Fr M M1 ∧ 0 ≤ cnt ∧ cnt ≤ 66 ∧ RC M M1 cnt (fun i j => i < n ∧ i < j ∧ j < n)
  | 0, l, l1, M', hl, kl, hf, i0, i1, hr => by
    have e1 := h1.1; have e3 := h1.2.2.1
    have e1' : M' 1 5 = M 1 5 := hf 1 5 (by unfold Scr; omega)
    obtain ⟨cnt, M1, hx, r⟩ := out l1 M' hf i0 (by omega) (hr.eqv (fun i j => by omega))
    refine ⟨cnt, M1, sg_X_listTellers_13 (ite_i (fun _ => ?_) (fun q => absurd (by omega) q)), r⟩
    rw [w32_k (by omega)]; exact hx _
  | t + 1, l, l1, M', hl, kl, hf, i0, i1, hr => by
    have e1 := h1.1; have e3 := h1.2.2.1
    have e1' : M' 1 5 = M 1 5 := hf 1 5 (by unfold Scr; omega)
    have n0 : M' 64 0 = M 64 0 := hf.f64 (by decide)
    obtain ⟨cnt, M1, hx, r⟩ := lt_in h1 h2 hn kn out t (l + 1) (l1 + 1) (up M' 63 l1 (US M (k : Int) (l : Int))) (by omega) (by omega) (hf.upd (by unfold Scr; omega)) (by omega) (by omega) (hr.step i0 (fun i j => by omega))
    refine ⟨cnt, M1, sg_X_listTellers_13 (ite_i (fun q => absurd q (by omega)) (fun _ => ite_i (fun q => absurd q (by omega)) (fun _ => ⟨_, c_X_unlikeSorts (h1.fr hf) (h2.fr h1 hf) (by omega) (by omega) (by omega) (by omega), ⟨i0, by omega⟩, ?_⟩))), r⟩
    rw [w32_k (by omega), w32_i (by omega) (by omega), US_fr hf]
    rw [show (((l + 1 : Nat)) : Int) = (l : Int) + 1 by omega] at hx
    exact hx
theorem lt_out (h1 : R1 M) (h2 : R2 M) {n : Nat} (hn : (n : Int) = M 64 0) :
    ∀ (m k : Nat) (l1 : Int) (M' : Mem), k + m = n → Fr M M' → 0 ≤ l1 → l1 + tri m ≤ 66 → RC M M' l1 (fun i j => i < k ∧ i < j ∧ j < n) → ∃ (cnt : Int) (M1 : Mem), (∀ w, at_X_listTellers_4 38 l1 (k : Int) w M' (rI cnt M1)) ∧ Fr M M1 ∧ 0 ≤ cnt ∧ cnt ≤ 66 ∧ RC M M1 cnt (fun i j => i < n ∧ i < j ∧ j < n)
  | 0, k, l1, M', hk, hf, i0, i1, hr => by
    have e1 := h1.1; have e3 := h1.2.2.1
    have e1' : M' 1 5 = M 1 5 := hf 1 5 (by unfold Scr; omega)
    exact ⟨l1, M', fun w => sg_X_listTellers_4 (ite_i (fun _ => rfl) (fun q => absurd (by omega) q)), hf, i0, by omega, hr.eqv (fun i j => by omega)⟩
  | m + 1, k, l1, M', hk, hf, i0, i1, hr => by
    have e1 := h1.1; have e3 := h1.2.2.1
    have e1' : M' 1 5 = M 1 5 := hf 1 5 (by unfold Scr; omega)
    have i1' : l1 + ((tri m : Nat) : Int) + (m : Int) ≤ 66 := by
      have : tri (m + 1) = tri m + m := rfl
      rw [this] at i1
      omega
    obtain ⟨cnt, M1, hx, r⟩ := lt_in h1 h2 hn (k := k) (rest := tri m) (by omega) (fun l1 M' hf i0 i1 hr => by
      have := lt_out h1 h2 hn m (k + 1) l1 M' (by omega) hf i0 i1 hr
      rwa [show (((k + 1 : Nat)) : Int) = (k : Int) + 1 by omega] at this) m (k + 1) l1 M' (by omega) (by omega) hf i0 (by omega) (hr.eqv (fun i j => by omega))
    refine ⟨cnt, M1, fun w => sg_X_listTellers_4 (ite_i (fun q => absurd q (by omega)) (fun _ => ?_)), r⟩
    rw [w32_k (by omega)]
    rw [show (((k + 1 : Nat)) : Int) = (k : Int) + 1 by omega] at hx
    exact hx
theorem c_X_listTellers (h1 : R1 M) (h2 : R2 M) : ∃ (cnt : Int) (M1 : Mem), Cl 39 m_X_listTellers [(2, 0)] M (rI cnt M1) ∧ Fr M M1 ∧ 0 ≤ cnt ∧ cnt ≤ 66 ∧ ∀ x, (∀ i : Int, 0 ≤ i → i < cnt → ¬ iand (M1 63 i) x = 0) ↔ TA M x := by
  have e2 := h1.2.1; have e3 := h1.2.2.1
  have ht := tri_le (M 64 0).toNat (by omega)
  obtain ⟨cnt, M1, hx, hf, c0, c1, hr⟩ := lt_out h1 h2 (n := (M 64 0).toNat) (by omega) (M 64 0).toNat 0 0 M (by omega) (Fr.refl M) (by decide) (by omega) (fun x => ⟨fun _ i j h => absurd h.1 (by omega), fun _ i i0 i1 => absurd i1 (by omega)⟩)
  exact ⟨cnt, M1, sg_X_listTellers (d := 38) (hx _), hf, c0, c1, fun x => (hr x).trans ⟨fun g j hj i hi => g i j ⟨by omega, hi, hj⟩, fun g i j h => g j h.2.2 i h.2.1⟩⟩
theorem c_X_tellsAll {cnt : Int} (c0 : 0 ≤ cnt) (c1 : cnt ≤ 66) {P : Prop} [Decidable P] (hp : (∀ i : Int, 0 ≤ i → i < cnt → ¬ iand (M 63 i) x = 0) ↔ P) : Cl 39 m_X_tellsAll [(2, 0), (0, x), (0, cnt)] M (rI (bI P) M) := by
  refine (sg_X_tellsAll (d := 38) ?_)
  have key : ∀ (j k : Nat), (k : Int) + j = cnt → (∀ i : Int, 0 ≤ i → i < k → ¬ iand (M 63 i) x = 0) → at_X_tellsAll_2 38 x cnt (k : Int) M (rI (bI P) M) := by
    intro j
    induction j with
    | zero =>
      intro k hk h0
      refine sg_X_tellsAll_2 (ite_i (fun _ => ?_) (fun q => absurd (by omega) q))
      rw [bI_t (hp.mp (fun i i0 i1 => h0 i i0 (by omega)))]
    | succ j ih =>
      intro k hk h0
      refine sg_X_tellsAll_2 (ite_i (fun q => absurd q (by omega)) (fun _ => ite_i (fun q => absurd q (by omega)) (fun _ => ⟨⟨by omega, by omega⟩, ite_i (fun q => ?_) (fun q => ?_)⟩)))
      · rw [w32_k (by omega)]
        have := ih (k + 1) (by omega) (fun i i0 i1 => by
          by_cases z : i = k
          · subst z; exact q
          · exact h0 i i0 (by omega))
        rwa [show (((k + 1 : Nat)) : Int) = (k : Int) + 1 by omega] at this
      · rw [bI_f (fun z => q (hp.mpr z k (by omega) (by omega)))]
  exact key cnt.toNat 0 (by omega) (fun i i0 i1 => absurd i1 (by omega))
theorem signs_loop (h1 : R1 M) (h2 : R2 M) {p cnt : Int} (hp : 0 ≤ p ∧ p ≤ 1) (c0 : 0 ≤ cnt) (c1 : cnt ≤ 66) (hr : ∀ x, (∀ i : Int, 0 ≤ i → i < cnt → ¬ iand (M 63 i) x = 0) ↔ TA M x) :
    ∀ (j k : Nat) (best : Int), k + j = 1024 → (best = -2 ∨ (0 ≤ best ∧ best < 1024)) → ∃ v, (∀ w, at_X_signs_16 39 p cnt (if best = -2 then 11 else bc best) best (k : Int) w M (rI v M)) ∧ at_M_signs_11 39 p best (k : Int) M (rI v M)
  | 0, k, best, hk, hb => by
    by_cases q : best = -2
    · refine ⟨-2, fun w => sg_X_signs_16 (ite_i (fun _ => ite_i (fun z => absurd z (by omega)) (fun _ => rfl)) (fun z => absurd (by omega) z)), sg_M_signs_11 (ite_i (fun _ => ite_i (fun _ => by rw [q]) (fun z => absurd q z)) (fun z => absurd (by omega) z))⟩
    · by_cases q2 : p = 0
      · refine ⟨bc best, fun w => sg_X_signs_16 (ite_i (fun _ => ite_i (fun z => ite_i (fun y => absurd q2 y) (fun _ => by rw [if_neg q])) (fun z => absurd (by omega) z)) (fun z => absurd (by omega) z)), sg_M_signs_11 (ite_i (fun _ => ite_i (fun z => absurd z q) (fun z => ite_i (fun _ => ⟨_, c_J_bitCount (by decide), rfl⟩) (fun y => absurd (by omega) y))) (fun z => absurd (by omega) z))⟩
      · refine ⟨best, fun w => sg_X_signs_16 (ite_i (fun _ => ite_i (fun z => ite_i (fun y => rfl) (fun y => absurd q2 y)) (fun z => absurd (by omega) z)) (fun z => absurd (by omega) z)), sg_M_signs_11 (ite_i (fun _ => ite_i (fun z => absurd z q) (fun z => ite_i (fun y => absurd (by omega) y) (fun _ => rfl))) (fun z => absurd (by omega) z))⟩
  | j + 1, k, best, hk, hb => by
    have hc := cntB_le (fun i => bt (k : Int) i) 10
    rw [← bc_10 k (by omega)] at hc
    obtain ⟨v1, x1, m1⟩ := signs_loop h1 h2 hp c0 c1 hr j (k + 1) best (by omega) hb
    obtain ⟨v2, x2, m2⟩ := signs_loop h1 h2 hp c0 c1 hr j (k + 1) (k : Int) (by omega) (Or.inr ⟨by omega, by omega⟩)
    rw [show (((k + 1 : Nat)) : Int) = (k : Int) + 1 by omega] at x1 m1 x2 m2
    rw [if_neg (show ¬ (k : Int) = -2 by omega)] at x2
    have w1 : w32 ((k : Int) + 1) = (k : Int) + 1 := w32_k (by omega)
    by_cases lt : (if best = -2 then 11 else bc best) ≤ bc (k : Int)
    · have nb : ¬ best = -2 := fun q => by rw [if_pos q] at lt; omega
      rw [if_neg nb] at lt
      refine ⟨v1, fun w => sg_X_signs_16 (ite_i (fun z => absurd z (by omega)) (fun _ => ⟨_, c_J_bitCount (by decide), ite_i (fun _ => ?_) (fun z => absurd (by rw [if_neg nb]; exact lt) z)⟩)), sg_M_signs_11 (ite_i (fun z => absurd z (by omega)) (fun _ => ite_i (fun z => absurd z nb) (fun _ => ⟨_, c_J_bitCount (by decide), _, c_J_bitCount (by decide), ite_i (fun _ => ?_) (fun z => absurd lt z)⟩)))⟩
      · rw [w1]; exact x1 _
      · rw [w1]; exact m1
    · by_cases ta : TA M (k : Int)
      · refine ⟨v2, fun w => sg_X_signs_16 (ite_i (fun z => absurd z (by omega)) (fun _ => ⟨_, c_J_bitCount (by decide), ite_i (fun z => absurd z lt) (fun _ => ⟨_, c_X_tellsAll c0 c1 (hr _), ite_b (fun z => absurd ta z) (fun _ => ?_)⟩)⟩)), sg_M_signs_11 (ite_i (fun z => absurd z (by omega)) (fun _ => ite_i (fun z => ⟨_, c_M_areApart h1 h2, ite_b (fun z => absurd ta z) (fun _ => ?_)⟩) (fun nb => ⟨_, c_J_bitCount (by decide), _, c_J_bitCount (by decide), ite_i (fun z => absurd z (by rw [if_neg nb] at lt; exact lt)) (fun _ => ⟨_, c_M_areApart h1 h2, ite_b (fun z => absurd ta z) (fun _ => ?_)⟩)⟩)))⟩
        · rw [w1]; exact x2 _
        · rw [w1]; exact m2
        · rw [w1]; exact m2
      · refine ⟨v1, fun w => sg_X_signs_16 (ite_i (fun z => absurd z (by omega)) (fun _ => ⟨_, c_J_bitCount (by decide), ite_i (fun z => absurd z lt) (fun _ => ⟨_, c_X_tellsAll c0 c1 (hr _), ite_b (fun _ => ?_) (fun z => absurd z ta)⟩)⟩)), sg_M_signs_11 (ite_i (fun z => absurd z (by omega)) (fun _ => ite_i (fun z => ⟨_, c_M_areApart h1 h2, ite_b (fun _ => ?_) (fun z => absurd z ta)⟩) (fun nb => ⟨_, c_J_bitCount (by decide), _, c_J_bitCount (by decide), ite_i (fun z => absurd z (by rw [if_neg nb] at lt; exact lt)) (fun _ => ⟨_, c_M_areApart h1 h2, ite_b (fun _ => ?_) (fun z => absurd z ta)⟩)⟩)))⟩
        · rw [w1]; exact x1 _
        · rw [w1]; exact m1
        · rw [w1]; exact m1
theorem pr_signs (h1 : R1 M) (h2 : R2 M) : Bw m_X_signs m_M_signs [(0, a)] M := by
  by_cases z : 0 ≤ a ∧ a ≤ 1
  · obtain ⟨cnt, M1, hx, hf, c0, c1, hr⟩ := c_X_listTellers h1 h2
    obtain ⟨v, x, m⟩ := signs_loop (h1.fr hf) (h2.fr h1 hf) z c0 c1 (fun x => (hr x).trans (TA_fr hf).symm) 1024 0 (-2) rfl (Or.inl rfl)
    exact ⟨v, M1, M1, sg_X_signs (d := 39) (ite_i (fun q => absurd q (by omega)) (fun _ => ite_i (fun _ => ⟨_, _, hx, x _⟩) (fun q => absurd z.2 q))), hf, sg_M_signs (d := 39) ⟨_, c_M_within (by decide), ite_bn (fun _ => m) (fun q => absurd z q)⟩, Fr.refl _⟩
  · exact ⟨-1, M, M, sg_X_signs (d := 39) (ite_i (fun _ => rfl) (fun q => ite_i (fun q2 => absurd ⟨by omega, q2⟩ z) (fun _ => rfl))), Fr.refl M, sg_M_signs (d := 39) ⟨_, c_M_within (by decide), ite_bn (fun q => absurd q z) (fun _ => rfl)⟩, Fr.refl M⟩
end P16
