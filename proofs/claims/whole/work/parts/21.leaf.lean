/-! the invariant's first parts, and the small methods -/
def R1 (M : Mem) : Prop := M 1 5 = M 64 0 ∧ 0 ≤ M 64 0 ∧ M 64 0 ≤ 12 ∧ M 1 6 = M 64 4 ∧ 0 ≤ M 64 4 ∧ M 64 4 ≤ 9
def R2 (M : Mem) : Prop := ∀ c f : Int, 0 ≤ c → c < M 64 0 → 0 ≤ f → f < 10 → M ((3 + c).toNat) f = M 65 (10 * c + f) ∧ M ((16 + c).toNat) f = M 66 (10 * c + f) ∧ 0 ≤ M 65 (10 * c + f) ∧ M 65 (10 * c + f) ≤ 5 ∧ 0 ≤ M 66 (10 * c + f) ∧ M 66 (10 * c + f) ≤ 30
theorem ite_b {P : Prop} [Decidable P] {A B : Prop} (hf : ¬ P → A) (ht : P → B) : if bI P = 0 then A else B := by
  by_cases q : P
  · rw [bI_t q, if_neg (by decide)]; exact ht q
  · rw [bI_f q, if_pos rfl]; exact hf q
theorem ite_bn {P : Prop} [Decidable P] {A B : Prop} (ht : P → A) (hf : ¬ P → B) : if ¬ bI P = 0 then A else B := by
  by_cases q : P
  · rw [bI_t q, if_pos (by decide)]; exact ht q
  · rw [bI_f q, if_neg (by decide)]; exact hf q
theorem ite_i {q : Prop} [Decidable q] {A B : Prop} (ht : q → A) (hf : ¬ q → B) : if q then A else B := by
  by_cases z : q
  · rw [if_pos z]; exact ht z
  · rw [if_neg z]; exact hf z
theorem lcmp_lt {x y : Int} : lcmpI x y < 0 ↔ x < y := by
  unfold lcmpI
  split
  · rename_i h; exact ⟨fun _ => h, fun _ => by decide⟩
  · split <;> (rename_i h1 h2; exact ⟨fun h => absurd h (by decide), fun h => by omega⟩)
theorem lcmp_gt {x y : Int} : 0 < lcmpI x y ↔ y < x := by
  unfold lcmpI
  split
  · rename_i h; exact ⟨fun h => absurd h (by decide), fun h => by omega⟩
  · split
    · rename_i h1 h2; exact ⟨fun h => absurd h (by decide), fun h => by omega⟩
    · rename_i h1 h2; exact ⟨fun _ => by omega, fun _ => by decide⟩
theorem lcmp_eq {x y : Int} : lcmpI x y = 0 ↔ x = y := by
  unfold lcmpI
  split
  · rename_i h; exact ⟨fun h => absurd h (by decide), fun h => by omega⟩
  · split
    · rename_i h1 h2; exact ⟨fun _ => h2, fun _ => rfl⟩
    · rename_i h1 h2; exact ⟨fun h => absurd h (by decide), fun h => absurd h h2⟩
section LEAF
variable {d : Nat} {M : Mem} {a b c x y : Int}
theorem c_M_within (hd : 1 ≤ d) : Cl d m_M_within [(0, a), (0, b), (0, c)] M (rI (bI (b ≤ a ∧ a ≤ c)) M) := by
  refine (sg_M_within (d := 0) ?_).mono hd
  refine ite_i (fun q => ?_) (fun q => ite_i (fun q2 => ?_) (fun q2 => ?_))
  · rw [bI_f (by omega)]
  · rw [bI_f (by omega)]
  · rw [bI_t (by omega)]
theorem c_C_has (hd : 1 ≤ d) : Cl d m_C_has [(2, 1), (0, a)] M (rI (bI (0 ≤ a ∧ a < M 1 5)) M) := by
  refine (sg_C_has (d := 0) ?_).mono hd
  refine ite_i (fun q => ?_) (fun q => ite_i (fun q2 => ?_) (fun q2 => ?_))
  · rw [bI_f (by omega)]
  · rw [bI_f (by omega)]
  · rw [bI_t (by omega)]
theorem c_X_isFinger (hd : 1 ≤ d) : Cl d m_X_isFinger [(0, a)] M (rI (bI (0 ≤ a ∧ a < 10)) M) := by
  refine (sg_X_isFinger (d := 0) ?_).mono hd
  refine ite_i (fun q => ?_) (fun q => ite_i (fun q2 => ?_) (fun q2 => ?_))
  · rw [bI_f (by omega)]
  · rw [bI_f (by omega)]
  · rw [bI_t (by omega)]
theorem c_S_has (hd : 1 ≤ d) : Cl d m_S_has [(2, 49), (0, a)] M (rI (bI (0 ≤ a ∧ a < 6)) M) := by
  refine (sg_S_has (d := 0) ?_).mono hd
  refine ite_i (fun q => ?_) (fun q => ite_i (fun q2 => ?_) (fun q2 => ?_))
  · rw [bI_f (by omega)]
  · rw [bI_f (by omega)]
  · rw [bI_t (by omega)]
theorem c_S_isRowSort (hd : 1 ≤ d) : Cl d m_S_isRowSort [(2, 49), (0, a)] M (rI (bI (0 ≤ a ∧ a < 5)) M) := by
  refine (sg_S_isRowSort (d := 0) ?_).mono hd
  refine ite_i (fun q => ?_) (fun q => ite_i (fun q2 => ?_) (fun q2 => ?_))
  · rw [bI_f (by omega)]
  · rw [bI_f (by omega)]
  · rw [bI_t (by omega)]
theorem c_P_has (hd : 1 ≤ d) : Cl d m_P_has [(2, 46), (0, a)] M (rI (bI (0 ≤ a ∧ a < M 46 2)) M) := by
  refine (sg_P_has (d := 0) ?_).mono hd
  refine ite_i (fun q => ?_) (fun q => ite_i (fun q2 => ?_) (fun q2 => ?_))
  · rw [bI_f (by omega)]
  · rw [bI_f (by omega)]
  · rw [bI_t (by omega)]
theorem c_P_isKind (hd : 1 ≤ d) : Cl d m_P_isKind [(2, 46), (0, a)] M (rI (bI (0 ≤ a ∧ a < 8)) M) := by
  refine (sg_P_isKind (d := 0) ?_).mono hd
  refine ite_i (fun q => ?_) (fun q => ite_i (fun q2 => ?_) (fun q2 => ?_))
  · rw [bI_f (by omega)]
  · rw [bI_f (by omega)]
  · rw [bI_t (by omega)]
theorem c_X_isDrawer (hd : 1 ≤ d) : Cl d m_X_isDrawer [(0, a)] M (rI (bI (0 ≤ a ∧ a < 1024)) M) := by
  refine (sg_X_isDrawer (d := 0) ?_).mono hd
  refine ite_i (fun q => ?_) (fun q => ite_i (fun q2 => ?_) (fun q2 => ?_))
  · rw [bI_f (by omega)]
  · rw [bI_f (by omega)]
  · rw [bI_t (by omega)]
theorem c_X_isSort (hd : 1 ≤ d) : Cl d m_X_isSort [(1, a)] M (rI (bI (0 ≤ a ∧ a ≤ 5)) M) := by
  refine (sg_X_isSort (d := 0) ?_).mono hd
  refine ite_i (fun q => ?_) (fun q => ite_i (fun q2 => ?_) (fun q2 => ?_))
  · rw [lcmp_lt] at q; rw [bI_f (by omega)]
  · rw [lcmp_gt] at q2; rw [bI_f (by omega)]
  · rw [lcmp_lt] at q; rw [lcmp_gt] at q2; rw [bI_t (by omega)]
theorem c_X_isRidges (hd : 1 ≤ d) : Cl d m_X_isRidges [(1, a)] M (rI (bI (0 ≤ a ∧ a ≤ 30)) M) := by
  refine (sg_X_isRidges (d := 0) ?_).mono hd
  refine ite_i (fun q => ?_) (fun q => ite_i (fun q2 => ?_) (fun q2 => ?_))
  · rw [lcmp_lt] at q; rw [bI_f (by omega)]
  · rw [lcmp_gt] at q2; rw [bI_f (by omega)]
  · rw [lcmp_lt] at q; rw [lcmp_gt] at q2; rw [bI_t (by omega)]
theorem rI_c {P Q : Prop} [Decidable P] [Decidable Q] (h : P ↔ Q) : rI (bI P) M = (some (0, bI Q), M) := by
  rw [bI_c h]
theorem c_M_isCard (h : R1 M) (hd : 2 ≤ d) : Cl d m_M_isCard [(2, 64), (0, a)] M (rI (bI (0 ≤ a ∧ a < M 64 0)) M) := by
  have h1 := h.2.1; have h2 := h.2.2.1
  refine (sg_M_isCard (d := 1) ⟨_, c_M_within (by decide), bI_01, ?_⟩).mono hd
  rw [w32_i (by omega) (by omega)]
  exact rI_c (by omega)
theorem c_M_isDrawer (hd : 2 ≤ d) : Cl d m_M_isDrawer [(0, a)] M (rI (bI (0 ≤ a ∧ a < 1024)) M) :=
  (sg_M_isDrawer (d := 1) ⟨_, c_M_within (by decide), bI_01, rI_c (by omega)⟩).mono hd
theorem c_M_isShelf (hd : 2 ≤ d) : Cl d m_M_isShelf [(0, a)] M (rI (bI (0 ≤ a ∧ a < 6)) M) :=
  (sg_M_isShelf (d := 1) ⟨_, c_M_within (by decide), bI_01, rI_c (by omega)⟩).mono hd
theorem dm100 (hc : c32 a) (h : ¬ a < 0) : w32 (Int.tdiv a 100) = a / 100 ∧ w32 (Int.tmod a 100) = a % 100 := by
  have := hc.2
  rw [td_nn (by omega), tm_nn (by omega), w32_i (by omega) (by omega), w32_i (by omega) (by omega)]
  exact ⟨rfl, rfl⟩
theorem c_M_isFinger (h : R1 M) (hc : c32 a) (hd : 3 ≤ d) : Cl d m_M_isFinger [(2, 64), (0, a)] M (rI (bI (0 ≤ a ∧ a / 100 < M 64 0 ∧ a % 100 < 10)) M) := by
  refine (sg_M_isFinger (d := 2) ?_).mono hd
  refine ite_i (fun q => ?_) (fun q => ?_)
  · rw [bI_f (by omega)]
  · rw [(dm100 hc q).1, (dm100 hc q).2]
    refine ⟨_, c_M_isCard h (by decide), ite_b (fun z => ?_) (fun z => ite_i (fun q2 => ?_) (fun q2 => ?_))⟩
    · rw [bI_f (by omega)]
    · rw [bI_f (by omega)]
    · rw [bI_t (by omega)]
theorem c_M_areTwo (h : R1 M) (hc : c32 a) (hd : 3 ≤ d) : Cl d m_M_areTwo [(2, 64), (0, a)] M (rI (bI (0 ≤ a ∧ a / 100 < M 64 0 ∧ a % 100 < M 64 0)) M) := by
  refine (sg_M_areTwo (d := 2) ?_).mono hd
  refine ite_i (fun q => ?_) (fun q => ?_)
  · rw [bI_f (by omega)]
  · rw [(dm100 hc q).1, (dm100 hc q).2]
    refine ⟨_, c_M_isCard h (by decide), ite_b (fun z => ?_) (fun z => ⟨_, c_M_isCard h (by decide), ite_b (fun z2 => ?_) (fun z2 => ?_)⟩)⟩
    · rw [bI_f (by omega)]
    · rw [bI_f (by omega)]
    · rw [bI_t (by omega)]
theorem c_X_areCards (h : R1 M) (hc : c32 a) (hd : 2 ≤ d) : Cl d m_X_areCards [(2, 0), (0, a)] M (rI (bI (0 ≤ a ∧ a / 100 < M 64 0 ∧ a % 100 < M 64 0)) M) := by
  have h0 := h.1
  refine (sg_X_areCards (d := 1) ?_).mono hd
  refine ite_i (fun q => ?_) (fun q => ?_)
  · rw [bI_f (by omega)]
  · rw [(dm100 hc q).1, (dm100 hc q).2]
    refine ⟨_, c_C_has (by decide), ite_b (fun z => ?_) (fun z => ⟨_, c_C_has (by decide), ite_b (fun z2 => ?_) (fun z2 => ?_)⟩)⟩
    · rw [bI_f (by omega)]
    · rw [bI_f (by omega)]
    · rw [bI_t (by omega)]
theorem c_M_isGlass (hc : c32 a) (hd : 2 ≤ d) : Cl d m_M_isGlass [(0, a)] M (rI (bI (0 ≤ a ∧ a / 100 ≤ 4 ∧ a % 100 ≤ 30)) M) := by
  refine (sg_M_isGlass (d := 1) ?_).mono hd
  refine ite_i (fun q => ?_) (fun q => ?_)
  · rw [bI_f (by omega)]
  · rw [(dm100 hc q).1, (dm100 hc q).2]
    refine ⟨_, c_M_within (by decide), ite_b (fun z => ?_) (fun z => ite_i (fun q2 => ?_) (fun q2 => ?_))⟩
    · rw [bI_f (by omega)]
    · rw [bI_f (by omega)]
    · rw [bI_t (by omega)]
theorem c_X_isGlass (hc : c32 a) (hd : 1 ≤ d) : Cl d m_X_isGlass [(0, a)] M (rI (bI (0 ≤ a ∧ a / 100 ≤ 4 ∧ a % 100 ≤ 30)) M) := by
  refine (sg_X_isGlass (d := 0) ?_).mono hd
  refine ite_i (fun q => ?_) (fun q => ?_)
  · rw [bI_f (by omega)]
  · rw [(dm100 hc q).1, (dm100 hc q).2]
    refine ite_i (fun z => ?_) (fun z => ite_i (fun q2 => ?_) (fun q2 => ?_))
    · rw [bI_f (by omega)]
    · rw [bI_f (by omega)]
    · rw [bI_t (by omega)]
/-- two sorts may be the same -/
def MS (s t : Int) : Prop := ¬ iand (stc 90 s) (stc 90 t) = 0
theorem MS_dec (s t : Int) : MS s t ∨ ¬ MS s t := Classical.em _
theorem sortsOf_eq : ∀ s : Nat, s < 6 → (if ¬ (s : Int) = 4 then (if ¬ (s : Int) = 5 then ishl 1 (s : Int) else 15) else 10) = stc 90 (s : Int) := by decide +kernel
theorem c_M_sortsOf (h0 : 0 ≤ a) (h1 : a ≤ 5) (hd : 1 ≤ d) : Cl d m_M_sortsOf [(0, a)] M (rI (stc 90 a) M) := by
  obtain ⟨s, rfl⟩ : ∃ s : Nat, a = s := ⟨a.toNat, by omega⟩
  have e := sortsOf_eq s (by omega)
  refine (sg_M_sortsOf (d := 0) ?_).mono hd
  rw [← e]
  refine ite_i (fun q => ite_i (fun q2 => ?_) (fun q2 => ?_)) (fun q => ?_)
  · rw [if_pos q, if_pos q2]
  · rw [if_pos q, if_neg q2]
  · rw [if_neg q]
theorem c_M_maySame (h0 : 0 ≤ a) (h1 : a ≤ 5) (g0 : 0 ≤ b) (g1 : b ≤ 5) (hd : 2 ≤ d) : Cl d m_M_maySame [(0, a), (0, b)] M (rI (bI (¬ iand (stc 90 a) (stc 90 b) = 0)) M) := by
  refine (sg_M_maySame (d := 1) ⟨_, c_M_sortsOf h0 h1 (by decide), _, c_M_sortsOf g0 g1 (by decide), ite_i (fun q => ?_) (fun q => ?_)⟩).mono hd
  · rw [bI_f (fun z => z q)]
  · rw [bI_t q]
theorem c_X_mayBeSame (h0 : 0 ≤ a) (h1 : a ≤ 5) (g0 : 0 ≤ b) (g1 : b ≤ 5) (hd : 2 ≤ d) : Cl d m_X_mayBeSame [(0, a), (0, b)] M (rI (bI (¬ iand (stc 90 a) (stc 90 b) = 0)) M) := by
  refine (sg_X_mayBeSame (d := 1) ⟨_, c_X_isSort (by decide), ite_b (fun z => absurd ⟨h0, h1⟩ z) (fun _ => ⟨_, c_X_isSort (by decide), ite_b (fun z => absurd ⟨g0, g1⟩ z) (fun _ => ⟨⟨h0, by omega⟩, ⟨g0, by omega⟩, ite_i (fun q => ?_) (fun q => ?_)⟩)⟩)⟩).mono hd
  · rw [bI_f (fun z => z q)]
  · rw [bI_t q]
theorem c_X_truth {P : Prop} [Decidable P] (hd : 1 ≤ d) : Cl d m_X_truth [(0, bI P)] M (rI (bI P) M) := by
  refine (sg_X_truth (d := 0) (ite_b (fun z => ?_) (fun z => ?_))).mono hd
  · rw [bI_f z]
  · rw [bI_t z]
/-- how far apart: the absolute difference -/
theorem absd (ha : -100 ≤ a) (ha2 : a ≤ 100) : (if 0 ≤ w32 a then w32 a else w32 (0 - (w32 a))) = (if 0 ≤ a then a else -a) := by
  rw [w32_i (by omega) (by omega)]
  split
  · rfl
  · rw [w32_i (by omega) (by omega)]; omega
end LEAF
