/-! promise act: what a body adds to the trace; the recursion of both sides -/
def psh (a : Nat) (i : Int) (o : Nat) (C : Mem) (t B : Int) : Mem := if 24 ≤ t then up C a i (t + 1) else up (up C o t B) a i (t + 1)
def addT (a : Nat) (i : Int) (o : Nat) : Mem → Int → List Int → Mem
  | C, _, [] => C
  | C, t, B :: L => addT a i o (psh a i o C t B) (t + 1) L
abbrev addC : Mem → Int → List Int → Mem := addT 46 3 48
abbrev addN : Mem → Int → List Int → Mem := addT 64 32 83
section P39
variable {a o : Nat} {i : Int} {C N M : Mem} {b K k x p t v B w : Int} {L L1 L2 : List Int} {d dC dM lb : Nat} {r : Res}
theorem psh_cnt : psh a i o C t B a i = t + 1 := by
  unfold psh
  split
  · rw [up_eq]
  · rw [up_eq]
theorem psh_n {c : Nat} {j : Int} (h : ¬ (c = a ∧ j = i)) (g : ¬ c = o) : psh a i o C t B c j = C c j := by
  unfold psh
  split
  · rw [up_n h]
  · rw [up_n h, up_n (fun q => g q.1)]
theorem addT_app : ∀ (L1 : List Int) (C : Mem) (t : Int), addT a i o C t (L1 ++ L2) = addT a i o (addT a i o C t L1) (t + L1.length) L2
  | [], C, t => by simp [addT]
  | B :: L1, C, t => by
    show addT a i o (psh a i o C t B) (t + 1) (L1 ++ L2) = addT a i o (addT a i o (psh a i o C t B) (t + 1) L1) (t + ((B :: L1).length : Nat)) L2
    rw [addT_app L1]
    congr 1
    simp
    omega
theorem addT_cnt : ∀ (L : List Int) (C : Mem) (t : Int), C a i = t → addT a i o C t L a i = t + L.length
  | [], C, t, h => by simp [addT, h]
  | B :: L, C, t, h => by
    show addT a i o (psh a i o C t B) (t + 1) L a i = _
    rw [addT_cnt L _ _ psh_cnt]
    simp
    omega
theorem addT_n {c : Nat} {j : Int} (h : ¬ (c = a ∧ j = i)) (g : ¬ c = o) : ∀ (L : List Int) (C : Mem) (t : Int), addT a i o C t L c j = C c j
  | [], C, t => rfl
  | B :: L, C, t => by
    show addT a i o (psh a i o C t B) (t + 1) L c j = _
    rw [addT_n h g L, psh_n h g]
theorem addT_tr : ∀ (L : List Int) (C N : Mem) (t : Int), 0 ≤ t → (∀ j : Int, 0 ≤ j → j < 24 → j < t → C 48 j = N 83 j) → ∀ j : Int, 0 ≤ j → j < 24 → j < t + L.length → addC C t L 48 j = addN N t L 83 j
  | [], C, N, t, t0, h, j, j0, j1, j2 => h j j0 j1 (by simpa using j2)
  | B :: L, C, N, t, t0, h, j, j0, j1, j2 => by
    refine addT_tr L (psh 46 3 48 C t B) (psh 64 32 83 N t B) (t + 1) (by omega) (fun q q0 q1 q2 => ?_) j j0 j1 (by simp at j2; omega)
    unfold psh
    by_cases z : 24 ≤ t
    · rw [if_pos z, if_pos z, up_n (b := 48) (by omega), up_n (b := 83) (by omega)]
      exact h q q0 q1 (by omega)
    · rw [if_neg z, if_neg z, up_n (b := 48) (a := 46) (by omega), up_n (b := 83) (a := 64) (by omega)]
      by_cases e : q = t
      · rw [e, up_eq, up_eq]
      · rw [up_n (b := 48) (by omega), up_n (b := 83) (by omega)]
        exact h q q0 q1 (by omega)
abbrev CS (C : Mem) (b K t : Int) : Prop := C 46 4 = b ∧ C 46 5 = K ∧ C 46 3 = t ∧ 0 ≤ t
abbrev NS (N : Mem) (b K t : Int) : Prop := N 82 b = K ∧ N 64 32 = t ∧ 0 ≤ t
theorem CS_psh (h : CS C b K t) : CS (psh 46 3 48 C t B) b K (t + 1) := ⟨by rw [psh_n (by omega) (by omega)]; exact h.1, by rw [psh_n (by omega) (by omega)]; exact h.2.1, psh_cnt, by have := h.2.2.2; omega⟩
theorem NS_psh (h : NS N b K t) : NS (psh 64 32 83 N t B) b K (t + 1) := ⟨by rw [psh_n (by omega) (by omega)]; exact h.1, psh_cnt, by have := h.2.2; omega⟩
theorem CS_add (h : CS C b K t) : CS (addC C t L) b K (t + L.length) := ⟨(addT_n (by omega) (by omega) L C t).trans h.1, (addT_n (by omega) (by omega) L C t).trans h.2.1, addT_cnt L C t h.2.2.1, by have := h.2.2.2; omega⟩
theorem NS_add (h : NS N b K t) : NS (addN N t L) b K (t + L.length) := ⟨(addT_n (by omega) (by omega) L N t).trans h.1, addT_cnt L N t h.2.1, by have := h.2.2; omega⟩
theorem Ex.mono {sx : SX} {d d' : Nat} {c : List Row} {rz pc : Nat} {ls st : List AV} {M : Mem} {r : Res} (h : Ex sx d c rz pc ls st M r) (hd : d ≤ d') : Ex sx d' c rz pc ls st M r := by
  obtain ⟨n, h⟩ := h
  exact ⟨n, run_mono (fun y as M r h => callD_mono d d' n n y as M r hd (Nat.le_refl _) h) n n pc ls st M (Nat.le_refl _) h⟩
/-- an act of a print, from a kind on: both sides give v and the same bodies run -/
def QA (y : Nat) (w : Int) (dC dM lb : Nat) (b K p k x : Int) : Prop := ∃ (v : Int) (L : List Int), L.length ≤ lb ∧ (∀ (C : Mem) (t : Int), CS C b K t → t + L.length ≤ 1000 → ∀ (i : Int) (w2 : AV), 0 ≤ i → i + rk k ≤ 7 → at_P_perform_4 dC w w2 x p k i C (rI v (addC C t L))) ∧ (∀ (N : Mem) (t : Int), NS N b K t → t + L.length ≤ 1000 → Cl dM y [(2, 64), (0, b), (0, k), (0, x)] N (rI v (addN N t L)))
theorem QA.mono {y dC' dM' lb' : Nat} (h : QA y w dC dM lb b K p k x) (h1 : dC ≤ dC') (h2 : dM ≤ dM') (h3 : lb ≤ lb') : QA y w dC' dM' lb' b K p k x := by
  obtain ⟨v, L, l, hc, hm⟩ := h
  refine ⟨v, L, by omega, fun C t a b i w2 c e => ?_, fun N t a b => (hm N t a b).mono h2⟩
  have := hc C t a b i w2 c e
  exact Ex.mono this h1
theorem P_step (k0 : 0 ≤ k) (k8 : k < 8) (kn : ¬ k = 0) (hi : 0 ≤ i) (hi2 : i + rk k ≤ 7) (w0 : 0 ≤ w) (w3 : w < 4) (hB : stc 92 (8 * w + k) = 0) {w2 : AV} (h : at_P_perform_4 dC w w2 x p (abv k) (i + 1) C r) (hd : 1 ≤ dC) : at_P_perform_4 dC w w2 x p k i C r := by
  have e : w32 (w32 (8 * w) + k) = 8 * w + k := by rw [w32_i (x := 8 * w) (by omega) (by omega), w32_i (by omega) (by omega)]
  refine sg_P_perform_4 (ite_i (fun t => absurd t (by omega)) (fun _ => ⟨_, c_P_isKind hd, ite_b (fun t => absurd ⟨k0, k8⟩ t) (fun _ => ?_)⟩))
  rw [e, hB]
  refine ⟨⟨by omega, by omega⟩, ite_i (fun t => absurd rfl t) (fun _ => ⟨⟨k0, k8⟩, ?_⟩)⟩
  have := (abv_ok k.toNat (by omega) (by omega)).1
  rw [Int.toNat_of_nonneg k0] at this
  rw [this, w32_i (x := i + 1) (by omega) (by omega)]
  exact h
theorem P_exit (k0 : 0 ≤ k) (k8 : k < 8) (hi : 0 ≤ i) (hi2 : i + rk k ≤ 7) (w0 : 0 ≤ w) (w3 : w < 4) (hB : stc 92 (8 * w + k) = B) (bn : ¬ B = 0) (p30 : p ≤ 30) (p0 : 0 ≤ p) (hc : C 46 3 = t) (t0 : 0 ≤ t) (t1 : t < 1000) {w2 : AV} {M' : Mem} (h : Cl dC m_P_outcome [(2, 46), (0, B), (0, k), (0, x), (0, p + 1)] (psh 46 3 48 C t B) (rI v M')) (hd : 1 ≤ dC) : at_P_perform_4 dC w w2 x p k i C (rI v M') := by
  have e : w32 (w32 (8 * w) + k) = 8 * w + k := by rw [w32_i (x := 8 * w) (by omega) (by omega), w32_i (by omega) (by omega)]
  refine sg_P_perform_4 (ite_i (fun t => absurd t (by omega)) (fun _ => ⟨_, c_P_isKind hd, ite_b (fun t => absurd ⟨k0, k8⟩ t) (fun _ => ?_)⟩))
  rw [e, hB]
  refine ⟨⟨by omega, by omega⟩, ite_i (fun _ => ⟨_, c_P_isKind hd, ite_b (fun t => absurd ⟨k0, k8⟩ t) (fun _ => ite_i (fun _ => ⟨⟨by omega, by omega⟩, ?_⟩) (fun t => absurd p30 t))⟩) (fun t => absurd bn t)⟩
  unfold psh at h
  rw [hc, w32_i (x := p + 1) (by omega) (by omega), w32_i (x := t + 1) (by omega) (by omega)]
  refine ite_i (fun q => ?_) (fun q => ?_)
  · rw [if_pos q] at h
    exact ⟨_, _, h, rfl⟩
  · rw [if_neg q] at h
    rw [up_n (b := 46) (a := 48) (by omega), hc, w32_i (x := t + 1) (by omega) (by omega)]
    exact ⟨⟨t0, by omega⟩, _, _, h, rfl⟩
theorem P_above {kk : Int} (k0 : 0 < kk) (k8 : kk < 8) (h : at_P_perform_4 dC w (0, abv kk) x p (abv kk) 0 C (rI v M)) (hd : 1 ≤ dC) : Cl (dC + 2) m_P_above [(2, 46), (0, w), (0, kk), (0, x), (0, p)] C (rI v M) := by
  refine sg_P_above (d := dC + 1) ⟨_, c_P_isKind (by omega), ite_b (fun t => absurd ⟨by omega, k8⟩ t) (fun _ => ⟨⟨by omega, k8⟩, ?_⟩)⟩
  have := (abv_ok kk.toNat (by omega) (by omega)).1
  rw [Int.toNat_of_nonneg (by omega)] at this
  rw [this]
  exact ⟨_, _, sg_P_perform h, rfl⟩
theorem P_own (hK : C 46 5 = K) (h : at_P_perform_4 dC w (0, K) x p K 0 C (rI v M)) : Cl (dC + 2) m_P_own [(2, 46), (0, w), (0, x), (0, p)] C (rI v M) := by
  refine sg_P_own (d := dC + 1) ?_
  rw [hK]
  exact ⟨_, _, sg_P_perform h, rfl⟩
theorem c_M_ran (h : N 64 32 = t) (t0 : 0 ≤ t) (t1 : t < 1000) (hd : 1 ≤ d) : Cl d m_M_ran [(2, 64), (0, B)] N (rV (psh 64 32 83 N t B)) := by
  refine (sg_M_ran (d := 0) ?_).mono hd
  unfold psh
  rw [h, w32_i (x := t + 1) (by omega) (by omega)]
  refine ite_i (fun q => ?_) (fun q => ?_)
  · rw [if_pos q]
  · rw [if_neg q, up_n (b := 64) (a := 83) (by omega), h, w32_i (x := t + 1) (by omega) (by omega)]
    exact ⟨⟨t0, by omega⟩, rfl⟩
theorem oc_1 (h : r = (some (0, w32 (x + (M 46 4))), M)) : Cl (d + 1) m_P_outcome [(2, 46), (0, 1), (0, k), (0, x), (0, p)] M r := sg_P_outcome (by rw [if_pos rfl]; exact h)
theorem oc_2 (h : ∃ v4 M5, Cl d m_P_own [(2, 46), (0, 1), (0, x), (0, p)] M (some (0, v4), M5) ∧ ∃ v7 M8, Cl d m_P_own [(2, 46), (0, 2), (0, 1), (0, p)] M5 (some (0, v7), M8) ∧ r = (some (0, w32 (v4 - v7)), M8)) : Cl (d + 1) m_P_outcome [(2, 46), (0, 2), (0, k), (0, x), (0, p)] M r := sg_P_outcome (by rw [if_neg (by decide), if_pos rfl]; exact h)
theorem oc_10 (h : ∃ v11 M12, Cl d m_P_own [(2, 46), (0, 0), (0, x), (0, p)] M (some (0, v11), M12) ∧ r = (some (0, w32 (v11 * 2)), M12)) : Cl (d + 1) m_P_outcome [(2, 46), (0, 10), (0, k), (0, x), (0, p)] M r := sg_P_outcome (by rw [if_neg (by decide), if_neg (by decide), if_pos rfl]; exact h)
theorem oc_11 (h : r = (some (0, ixor x (M 46 4)), M)) : Cl (d + 1) m_P_outcome [(2, 46), (0, 11), (0, k), (0, x), (0, p)] M r := sg_P_outcome (by rw [if_neg (by decide), if_neg (by decide), if_neg (by decide), if_pos rfl]; exact h)
theorem oc_20 (h : ∃ v16 M17, Cl d m_P_above [(2, 46), (0, 0), (0, k), (0, x), (0, p)] M (some (0, v16), M17) ∧ r = (some (0, w32 (v16 + 3)), M17)) : Cl (d + 1) m_P_outcome [(2, 46), (0, 20), (0, k), (0, x), (0, p)] M r := sg_P_outcome (by rw [if_neg (by decide), if_neg (by decide), if_neg (by decide), if_neg (by decide), if_pos rfl]; exact h)
theorem oc_30 (h : ∃ v20 M21, Cl d m_P_above [(2, 46), (0, 1), (0, k), (0, x), (0, p)] M (some (0, v20), M21) ∧ r = (some (0, w32 (-v20)), M21)) : Cl (d + 1) m_P_outcome [(2, 46), (0, 30), (0, k), (0, x), (0, p)] M r := sg_P_outcome (by rw [if_neg (by decide), if_neg (by decide), if_neg (by decide), if_neg (by decide), if_neg (by decide), if_pos rfl]; exact h)
theorem oc_40 (h : ∃ v24 M25, Cl d m_P_above [(2, 46), (0, 2), (0, k), (0, x), (0, p)] M (some (0, v24), M25) ∧ r = (some (0, w32 (v24 * 3)), M25)) : Cl (d + 1) m_P_outcome [(2, 46), (0, 40), (0, k), (0, x), (0, p)] M r := sg_P_outcome (by rw [if_neg (by decide), if_neg (by decide), if_neg (by decide), if_neg (by decide), if_neg (by decide), if_neg (by decide), if_pos rfl]; exact h)
theorem oc_41 (h : ∃ v28 M29, Cl d m_P_above [(2, 46), (0, 1), (0, k), (0, w32 (x + 1)), (0, p)] M (some (0, v28), M29) ∧ r = (some (0, v28), M29)) : Cl (d + 1) m_P_outcome [(2, 46), (0, 41), (0, k), (0, x), (0, p)] M r := sg_P_outcome (by rw [if_neg (by decide), if_neg (by decide), if_neg (by decide), if_neg (by decide), if_neg (by decide), if_neg (by decide), if_neg (by decide), if_pos rfl]; exact h)
theorem oc_50 (h : ∃ v32 M33, Cl d m_P_above [(2, 46), (0, 2), (0, k), (0, x), (0, p)] M (some (0, v32), M33) ∧ ∃ v35 M36, Cl d m_P_own [(2, 46), (0, 0), (0, 2), (0, p)] M33 (some (0, v35), M36) ∧ r = (some (0, w32 (v32 - v35)), M36)) : Cl (d + 1) m_P_outcome [(2, 46), (0, 50), (0, k), (0, x), (0, p)] M r := sg_P_outcome (by rw [if_neg (by decide), if_neg (by decide), if_neg (by decide), if_neg (by decide), if_neg (by decide), if_neg (by decide), if_neg (by decide), if_neg (by decide), if_pos rfl]; exact h)
theorem oc_60 (h : ∃ v39 M40, Cl d m_P_above [(2, 46), (0, 3), (0, k), (0, x), (0, p)] M (some (0, v39), M40) ∧ r = (some (0, ixor v39 5), M40)) : Cl (d + 1) m_P_outcome [(2, 46), (0, 60), (0, k), (0, x), (0, p)] M r := sg_P_outcome (by rw [if_neg (by decide), if_neg (by decide), if_neg (by decide), if_neg (by decide), if_neg (by decide), if_neg (by decide), if_neg (by decide), if_neg (by decide), if_neg (by decide), if_pos rfl]; exact h)
theorem oc_70 (h : ∃ v43 M44, Cl d m_P_above [(2, 46), (0, 0), (0, k), (0, x), (0, p)] M (some (0, v43), M44) ∧ r = (some (0, w32 (v43 * 2)), M44)) : Cl (d + 1) m_P_outcome [(2, 46), (0, 70), (0, k), (0, x), (0, p)] M r := sg_P_outcome (by rw [if_neg (by decide), if_neg (by decide), if_neg (by decide), if_neg (by decide), if_neg (by decide), if_neg (by decide), if_neg (by decide), if_neg (by decide), if_neg (by decide), if_neg (by decide), if_pos rfl]; exact h)
theorem oc_80 (h : ∃ v47 M48, Cl d m_P_above [(2, 46), (0, 1), (0, k), (0, x), (0, p)] M (some (0, v47), M48) ∧ ∃ v50 M51, Cl d m_P_own [(2, 46), (0, 2), (0, 2), (0, p)] M48 (some (0, v50), M51) ∧ r = (some (0, w32 (v47 + v50)), M51)) : Cl (d + 1) m_P_outcome [(2, 46), (0, 80), (0, k), (0, x), (0, p)] M r := sg_P_outcome (by rw [if_neg (by decide), if_neg (by decide), if_neg (by decide), if_neg (by decide), if_neg (by decide), if_neg (by decide), if_neg (by decide), if_neg (by decide), if_neg (by decide), if_neg (by decide), if_neg (by decide), if_pos rfl]; exact h)
theorem oc_81 (h : ∃ v54 M55, Cl d m_P_above [(2, 46), (0, 3), (0, k), (0, x), (0, p)] M (some (0, v54), M55) ∧ r = (some (0, w32 (v54 - 1)), M55)) : Cl (d + 1) m_P_outcome [(2, 46), (0, 81), (0, k), (0, x), (0, p)] M r := sg_P_outcome (by rw [if_neg (by decide), if_neg (by decide), if_neg (by decide), if_neg (by decide), if_neg (by decide), if_neg (by decide), if_neg (by decide), if_neg (by decide), if_neg (by decide), if_neg (by decide), if_neg (by decide), if_neg (by decide), if_pos rfl]; exact h)
end P39
