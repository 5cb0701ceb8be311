/-! shelves: rows; promises isTrue, who -/
def VR (s v : Int) : Prop := (s = 0 → -128 ≤ v ∧ v ≤ 127) ∧ (s = 1 → -32768 ≤ v ∧ v ≤ 32767) ∧ (s = 2 → c32 v) ∧ (s = 3 → c64 v) ∧ (s = 4 → v = 0 ∨ v = 1)
def R13 (M : Mem) : Prop := ∀ p : Int, 0 ≤ p → p < 6 → (M 50 p = 0 ∧ M 84 p = -1) ∨ (M 50 p = 1 ∧ M 84 p = 10 + M 51 p ∧ 0 ≤ M 51 p ∧ M 51 p < M 64 30) ∨ (M 50 p = 2 ∧ M 84 p = M 52 p ∧ 0 ≤ M 52 p ∧ M 52 p < 5 ∧ M 53 p = M 85 p ∧ 0 ≤ M 85 p ∧ M 85 p ≤ 60 ∧ ∀ i : Int, 0 ≤ i → i < M 85 p → M ((55 + p).toNat) i = M 86 (60 * p + i) ∧ VR (M 52 p) (M 86 (60 * p + i)))
section P17
variable {d : Nat} {M : Mem} {a b c m p s x : Int}
theorem rowTwo (h : R13 M) (hs : 0 ≤ s ∧ s ≤ 1) (p : Int) :
    (∃ v : Int, v < 0 ∧ Cl 39 m_S_rowRefusal [(2, 49), (0, p), (0, s)] M (rI v M) ∧ ((¬ (0 ≤ p ∧ p < 6) ∧ v = -1) ∨ ((0 ≤ p ∧ p < 6) ∧ Cl 39 m_M_noRow [(2, 64), (0, p), (0, s)] M (rI v M)))) ∨
    ((0 ≤ p ∧ p < 6) ∧ M 50 p = 2 ∧ M 52 p = s ∧ Cl 39 m_S_rowRefusal [(2, 49), (0, p), (0, s)] M (rI 0 M) ∧ Cl 39 m_M_noRow [(2, 64), (0, p), (0, s)] M (rI 0 M)) := by
  by_cases z : 0 ≤ p ∧ p < 6
  · rcases h p z.1 z.2 with ⟨q1, q2⟩ | ⟨q1, q2, q3, q4⟩ | ⟨q1, q2, q3, q4, -⟩
    · exact Or.inl ⟨-11, by decide, sg_S_rowRefusal (d := 38) ⟨_, c_S_has (by decide), ite_bn (fun _ => ⟨z, ite_i (fun q => absurd q1 q) (fun _ => rfl)⟩) (fun q => absurd z q)⟩, Or.inr ⟨z, sg_M_noRow (d := 38) ⟨z, ite_i (fun q => absurd q2 q) (fun _ => rfl)⟩⟩⟩
    · exact Or.inl ⟨-12, by decide, sg_S_rowRefusal (d := 38) ⟨_, c_S_has (by decide), ite_bn (fun _ => ⟨z, ite_i (fun _ => ⟨z, ite_i (fun _ => rfl) (fun q => absurd (by omega) q)⟩) (fun q => absurd (by omega) q)⟩) (fun q => absurd z q)⟩, Or.inr ⟨z, sg_M_noRow (d := 38) ⟨z, ite_i (fun _ => ⟨z, ite_i (fun q => absurd q (by omega)) (fun _ => rfl)⟩) (fun q => absurd (by omega) q)⟩⟩⟩
    · by_cases y : M 52 p = s
      · exact Or.inr ⟨z, q1, y, sg_S_rowRefusal (d := 38) ⟨_, c_S_has (by decide), ite_bn (fun _ => ⟨z, ite_i (fun _ => ⟨z, ite_i (fun q => absurd q1 q) (fun _ => ite_i (fun _ => rfl) (fun _ => ⟨z, ite_i (fun q => absurd y q) (fun _ => rfl)⟩))⟩) (fun q => absurd (by omega) q)⟩) (fun q => absurd z q)⟩, sg_M_noRow (d := 38) ⟨z, ite_i (fun _ => ⟨z, ite_i (fun _ => rfl) (fun q => absurd (by omega) q)⟩) (fun q => absurd (by omega) q)⟩⟩
      · exact Or.inl ⟨-12, by decide, sg_S_rowRefusal (d := 38) ⟨_, c_S_has (by decide), ite_bn (fun _ => ⟨z, ite_i (fun _ => ⟨z, ite_i (fun _ => rfl) (fun _ => ite_i (fun q => absurd q (by omega)) (fun _ => ⟨z, ite_i (fun _ => rfl) (fun q => absurd y q)⟩))⟩) (fun q => absurd (by omega) q)⟩) (fun q => absurd z q)⟩, Or.inr ⟨z, sg_M_noRow (d := 38) ⟨z, ite_i (fun _ => ⟨z, ite_i (fun q => absurd q (by omega)) (fun _ => rfl)⟩) (fun q => absurd (by omega) q)⟩⟩⟩
  · exact Or.inl ⟨-1, by decide, sg_S_rowRefusal (d := 38) ⟨_, c_S_has (by decide), ite_bn (fun q => absurd q z) (fun _ => rfl)⟩, Or.inl ⟨z, rfl⟩⟩
theorem R13.row (h : R13 M) (z : 0 ≤ p ∧ p < 6) (q : M 50 p = 2) : M 84 p = M 52 p ∧ 0 ≤ M 52 p ∧ M 52 p < 5 ∧ M 53 p = M 85 p ∧ 0 ≤ M 85 p ∧ M 85 p ≤ 60 ∧ ∀ i : Int, 0 ≤ i → i < M 85 p → M ((55 + p).toNat) i = M 86 (60 * p + i) ∧ VR (M 52 p) (M 86 (60 * p + i)) := by
  rcases h p z.1 z.2 with ⟨q1, -⟩ | ⟨q1, -⟩ | ⟨-, r⟩
  · omega
  · omega
  · exact r
theorem c_S_lengthOf (h : R13 M) (z : 0 ≤ p ∧ p < 6) (q : M 50 p = 2) (hd : 2 ≤ d) : Cl d m_S_lengthOf [(2, 49), (0, p)] M (rI (M 85 p) M) := by
  obtain ⟨-, -, -, r, -⟩ := h.row z q
  refine (sg_S_lengthOf (d := 1) ⟨_, c_S_has (by decide), ite_b (fun y => absurd z y) (fun _ => ⟨z, ite_i (fun y => absurd q y) (fun _ => ⟨z, ?_⟩)⟩)⟩).mono hd
  rw [r]
theorem c_S_valueAt (h : R13 M) (z : 0 ≤ p ∧ p < 6) (q : M 50 p = 2) {i : Int} (i0 : 0 ≤ i) (il : i < M 85 p) (hd : 3 ≤ d) : Cl d m_S_valueAt [(2, 49), (0, p), (0, i)] M (rL (M 86 (60 * p + i)) M) := by
  obtain ⟨-, -, -, -, -, r6, r⟩ := h.row z q
  refine (sg_S_valueAt (d := 2) (ite_i (fun y => absurd y (by omega)) (fun _ => ⟨_, c_S_lengthOf h z q (by decide), ite_i (fun y => absurd y (by omega)) (fun _ => ⟨z, ⟨i0, by omega⟩, ?_⟩)⟩))).mono hd
  rw [(r i i0 il).1]
theorem ix60 (z : 0 ≤ p ∧ p < 6) {i : Int} (i0 : 0 ≤ i) (i6 : i < 60) : w32 ((w32 (60 * p)) + i) = 60 * p + i := by
  rw [w32_i (x := 60 * p) (by omega) (by omega), w32_i (by omega) (by omega)]
theorem c_M_told (z : 0 ≤ p ∧ p < 6) {i : Int} (i0 : 0 ≤ i) (i6 : i < 60) (hd : 1 ≤ d) : Cl d m_M_told [(2, 64), (0, p), (0, i)] M (rI (w32 (M 86 (60 * p + i))) M) := by
  refine (sg_M_told (d := 0) ?_).mono hd
  rw [ix60 z i0 i6]
  exact ⟨⟨by omega, by omega⟩, rfl⟩
theorem unlike_two (h1 : R1 M) (h2 : R2 M) (h : R13 M) (z : 0 ≤ p ∧ p < 6) (q : M 50 p = 2) (qs : M 52 p = 0) (c0 : 0 ≤ c) (cn : c < M 64 0) :
    ∀ (j k : Nat), (k : Int) + j = (if M 85 p < 10 then M 85 p else 10) → ∃ v, (∀ w5 w6, at_X_firstUnlike_9 37 p c (if M 85 p < 10 then M 85 p else 10) (k : Int) w5 w6 M (rI v M)) ∧ at_M_wrongFinger_2 37 p c (k : Int) M (rI v M)
  | 0, k, hk => by
    refine ⟨-2, fun w5 w6 => sg_X_firstUnlike_9 (ite_i (fun _ => rfl) (fun y => absurd (by omega) y)), sg_M_wrongFinger_2 (ite_i (fun _ => rfl) (fun y => ⟨z, ite_i (fun _ => rfl) (fun y2 => absurd (by split at hk <;> omega) y2)⟩))⟩
  | j + 1, k, hk => by
    have e3 := h1.2.2.1
    have k10 : k < 10 ∧ (k : Int) < M 85 p := by split at hk <;> omega
    obtain ⟨-, -, -, -, r5, r6, r⟩ := h.row z q
    obtain ⟨-, vr⟩ := r k (by omega) k10.2
    have vr := vr.1 qs
    have wv : True → w32 (M 86 (60 * p + (k : Int))) = M 86 (60 * p + (k : Int)) := fun _ => w32_i (by omega) (by omega)
    obtain ⟨g1, g2, g3, g4, g5, g6⟩ := h2 c k c0 cn (by omega) (by omega)
    obtain ⟨v, hx, hm⟩ := unlike_two h1 h2 h z q qs c0 cn j (k + 1) (by omega)
    rw [show (((k + 1 : Nat)) : Int) = (k : Int) + 1 by omega] at hx hm
    have w1 : True → w32 ((k : Int) + 1) = (k : Int) + 1 := fun _ => w32_k (by omega)
    have told : Cl 37 m_M_told [(2, 64), (0, p), (0, (k : Int))] M (rI (M 86 (60 * p + (k : Int))) M) := by
      have := c_M_told (M := M) (d := 37) z (i := (k : Int)) (by omega) (by omega) (by decide)
      rwa [wv trivial] at this
    have XX : ∀ v0, (if bI (0 ≤ M 86 (60 * p + (k : Int)) ∧ M 86 (60 * p + (k : Int)) ≤ 5) = 0 then rI v0 M = (some (0, (k : Int)), M) else (0 ≤ c ∧ c < 12) ∧ (0 ≤ (k : Int) ∧ (k : Int) < 10) ∧ ∃ v10, Cl 37 m_X_mayBeSame [(0, w32 (M 86 (60 * p + (k : Int)))), (0, M ((3 + c).toNat) (k : Int))] M (some (0, v10), M) ∧ (if ¬ v10 = 0 then at_X_firstUnlike_9 37 p c (if M 85 p < 10 then M 85 p else 10) (w32 ((k : Int) + 1)) (1, M 86 (60 * p + (k : Int))) (3, 0) M (rI v0 M) else rI v0 M = (some (0, (k : Int)), M))) → ∀ w5 w6, at_X_firstUnlike_9 37 p c (if M 85 p < 10 then M 85 p else 10) (k : Int) w5 w6 M (rI v0 M) := fun v0 hv w5 w6 =>
      sg_X_firstUnlike_9 (ite_i (fun y => absurd y (by omega)) (fun _ => ⟨_, c_S_valueAt h z q (by omega) k10.2 (by decide), _, c_X_isSort (by decide), hv⟩))
    have MM : ∀ v0, (if bI (0 ≤ M 86 (60 * p + (k : Int)) ∧ M 86 (60 * p + (k : Int)) ≤ 5) = 0 then rI v0 M = (some (0, (k : Int)), M) else ∃ v13, Cl 37 m_M_maySame [(0, M 86 (60 * p + (k : Int))), (0, M 65 (10 * c + (k : Int)))] M (some (0, v13), M) ∧ (if ¬ v13 = 0 then at_M_wrongFinger_2 37 p c (w32 ((k : Int) + 1)) M (rI v0 M) else rI v0 M = (some (0, (k : Int)), M))) → at_M_wrongFinger_2 37 p c (k : Int) M (rI v0 M) := fun v0 hv => by
      refine sg_M_wrongFinger_2 (ite_i (fun y => absurd y (by omega)) (fun _ => ⟨z, ite_i (fun y => absurd y (by omega)) (fun _ => ⟨_, told, _, c_M_within (by decide), ?_⟩)⟩))
      rw [ix10 c0 (by omega) (by omega) (by omega)]
      by_cases y : 0 ≤ M 86 (60 * p + (k : Int)) ∧ M 86 (60 * p + (k : Int)) ≤ 5
      · rw [bI_t y, if_neg (by decide)] at hv ⊢
        exact ⟨_, told, ⟨by omega, by omega⟩, hv⟩
      · rw [bI_f y, if_pos rfl] at hv ⊢
        exact hv
    by_cases y : 0 ≤ M 86 (60 * p + (k : Int)) ∧ M 86 (60 * p + (k : Int)) ≤ 5
    · by_cases y2 : iand (stc 90 (M 86 (60 * p + (k : Int)))) (stc 90 (M 65 (10 * c + (k : Int)))) = 0
      · refine ⟨k, XX _ (ite_b (fun t => absurd y t) (fun _ => ⟨⟨c0, by omega⟩, ⟨by omega, by omega⟩, _, ?_, ite_bn (fun t => absurd y2 t) (fun _ => rfl)⟩)), MM _ (ite_b (fun t => absurd y t) (fun _ => ⟨_, c_M_maySame y.1 y.2 g3 g4 (by decide), ite_bn (fun t => absurd y2 t) (fun _ => rfl)⟩))⟩
        rw [wv trivial, g1]; exact c_X_mayBeSame y.1 y.2 g3 g4 (by decide)
      · refine ⟨v, XX _ (ite_b (fun t => absurd y t) (fun _ => ⟨⟨c0, by omega⟩, ⟨by omega, by omega⟩, _, ?_, ite_bn (fun _ => ?_) (fun t => absurd y2 t)⟩)), MM _ (ite_b (fun t => absurd y t) (fun _ => ⟨_, c_M_maySame y.1 y.2 g3 g4 (by decide), ite_bn (fun _ => ?_) (fun t => absurd y2 t)⟩))⟩
        · rw [wv trivial, g1]; exact c_X_mayBeSame y.1 y.2 g3 g4 (by decide)
        · rw [w1 trivial]; exact hx _ _
        · rw [w1 trivial]; exact hm
    · exact ⟨k, XX _ (ite_b (fun _ => rfl) (fun t => absurd t y)), MM _ (ite_b (fun _ => rfl) (fun t => absurd t y))⟩
theorem unlike_eq (h1 : R1 M) (h2 : R2 M) (h : R13 M) (z : 0 ≤ p ∧ p < 6) (q : M 50 p = 2) (qs : M 52 p = 0) (c0 : 0 ≤ c) (cn : c < M 64 0) : ∃ v : Int, Cl 39 m_X_firstUnlike [(2, 0), (0, p), (0, c)] M (rI v M) ∧ Cl 39 m_M_wrongFinger [(2, 64), (0, p), (0, c)] M (rI v M) := by
  obtain ⟨-, -, -, -, r5, r6, -⟩ := h.row z q
  obtain ⟨v, hx, hm⟩ := unlike_two h1 h2 h z q qs c0 cn (if M 85 p < 10 then M 85 p else 10).toNat 0 (by split <;> omega)
  exact ⟨v, (sg_X_firstUnlike (d := 37) ⟨_, c_S_lengthOf h z q (by decide), hx _ _⟩).mono (by decide), (sg_M_wrongFinger (d := 37) hm).mono (by decide)⟩
end P17
