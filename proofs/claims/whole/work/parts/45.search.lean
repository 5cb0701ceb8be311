/-! promise search -/
theorem up_up {M : Mem} {a : Nat} {i u v : Int} : up (up M a i u) a i v = up M a i v := funext fun o => funext fun j => by
  unfold up
  split <;> rfl
theorem up_self {M : Mem} {a : Nat} {i v : Int} (h : M a i = v) : up M a i v = M := funext fun o => funext fun j => by
  unfold up
  split
  · rename_i q; rw [q.1, q.2, h]
  · rfl
theorem cntB_lt {P : Nat → Bool} {x : Nat} (hp : P x = false) : ∀ k : Nat, x < k → cntB P k < k
  | 0, h => absurd h (by omega)
  | k + 1, h => by
    have l := cntB_le P k
    by_cases q : x = k
    · subst q
      rw [cntB_f (by rw [hp]; decide)]; omega
    · have := cntB_lt hp k (by omega)
      unfold cntB
      split <;> omega
theorem cntB_one {P Q : Nat → Bool} {x : Nat} (hp : P x = false) (hq : Q x = true)   : ∀ k : Nat, (∀ j, j < k → ¬ j = x → P j = Q j) → x < k → cntB Q k = cntB P k + 1
  | 0, _, h => absurd h (by omega)
  | k + 1, ho, h => by
    by_cases q : x = k
    · subst q
      rw [cntB_t hq, cntB_f (by rw [hp]; decide), cntB_congr (fun j hj => ho j (by omega) (by omega))]
    · have := cntB_one hp hq k (fun j hj => ho j (by omega)) (by omega)
      unfold cntB
      rw [ho k (by omega) (fun e => q e.symm)]
      split <;> omega
abbrev FD (M : Mem) (c : Int) : Prop := ¬ M 67 c = -2000000000
abbrev PLc (M : Mem) (c : Int) : Int := 12 * M 67 c + c
/-- of the first n cards the filed one that is looked at next behind T -/
def NX (M : Mem) (n T x : Int) : Prop := (x = -1 ∧ ∀ c : Int, 0 ≤ c → c < n → FD M c → PLc M c ≤ T) ∨ ((0 ≤ x ∧ x < n) ∧ FD M x ∧ T < PLc M x ∧ ∀ c : Int, 0 ≤ c → c < n → FD M c → T < PLc M c → PLc M x ≤ PLc M c)
section P29
variable {M N : Mem} {a b c j n p s u v x y T : Int}
theorem NX.shift {T' : Int} (h : NX M n T x) (t : T ≤ T') (no : ∀ c : Int, 0 ≤ c → c < n → FD M c → ¬ (T < PLc M c ∧ PLc M c ≤ T')) : NX M n T' x := by
  rcases h with ⟨h1, h2⟩ | ⟨h1, h2, h3, h4⟩
  · exact Or.inl ⟨h1, fun c c0 cn f => Int.le_trans (h2 c c0 cn f) t⟩
  · have := no x h1.1 h1.2 h2
    exact Or.inr ⟨h1, h2, by omega, fun c c0 cn f q => h4 c c0 cn f (by omega)⟩
theorem NX_eq {C : Mem} (h : C 67 = M 67) (q : NX C n T x) : NX M n T x := by
  unfold NX FD PLc at q ⊢
  rw [h] at q
  exact q
theorem NX_uniq (hn : n ≤ 12) (h : NX M n T x) (g : NX M n T y) : x = y := by
  rcases h with ⟨h1, h2⟩ | ⟨h1, h2, h3, h4⟩
  · rcases g with ⟨g1, g2⟩ | ⟨g1, g2, g3, g4⟩
    · omega
    · have := h2 y g1.1 g1.2 g2; omega
  · rcases g with ⟨g1, g2⟩ | ⟨g1, g2, g3, g4⟩
    · have := g2 x h1.1 h1.2 h2; omega
    · have a1 : 12 * M 67 x + x ≤ 12 * M 67 y + y := h4 y g1.1 g1.2 g2 g3
      have a2 : 12 * M 67 y + y ≤ 12 * M 67 x + x := g4 x h1.1 h1.2 h2 h3
      omega
theorem c_placeInLine (h1 : R1 M) (h4 : R4 M) (c0 : 0 ≤ c) (cn : c < M 64 0) (f : FD M c) : Cl 37 m_C_placeInLine [(2, 1), (0, c)] M (rI (PLc M c) M) := by
  have e3 := h1.2.2.1
  obtain ⟨g1, g2⟩ := h4 c c0 cn
  have g2 := g2.resolve_left f
  refine sg_C_placeInLine (d := 36) ⟨⟨c0, by omega⟩, ?_⟩
  rw [g1, w32_i (x := 12 * M 67 c) (by omega) (by omega), w32_i (by omega) (by omega)]
theorem next_loop (h1 : R1 M) (h4 : R4 M) {w1 : AV} : ∀ (m k : Nat) (z : Int) (w5 : AV), (k : Int) + m = M 64 0 → NX M k T z → ∃ x, NX M (M 64 0) T x ∧ at_C_nextFiled_14 37 w1 T z k w5 M (rI x M)
  | 0, k, z, w5, hk, hz => ⟨z, by rw [show M 64 0 = (k : Int) by omega]; exact hz, sg_C_nextFiled_14 (ite_i (fun _ => rfl) (fun t => absurd (by have := h1.1; omega) t))⟩
  | m + 1, k, z, w5, hk, hz => by
    have e1 := h1.1; have e3 := h1.2.2.1
    obtain ⟨g1, g2⟩ := h4 k (by omega) (by omega)
    have go : ∀ z' w, NX M ((k : Int) + 1) T z' → ∃ x, NX M (M 64 0) T x ∧ at_C_nextFiled_14 37 w1 T z' (w32 ((k : Int) + 1)) w M (rI x M) := fun z' w hz' => by
      rw [w32_k (by omega)]
      have := next_loop h1 h4 (w1 := w1) m (k + 1) z' w (by omega) (by rw [show (((k + 1 : Nat)) : Int) = (k : Int) + 1 by omega]; exact hz')
      rwa [show (((k + 1 : Nat)) : Int) = (k : Int) + 1 by omega] at this
    have ext : (FD M (k : Int) → PLc M (k : Int) ≤ T) → NX M ((k : Int) + 1) T z := fun q => by
      rcases hz with ⟨z1, z2⟩ | ⟨z1, z2, z3, z4⟩
      · refine Or.inl ⟨z1, fun c c0 cn f => ?_⟩
        by_cases e : c = k
        · subst e; exact q f
        · exact z2 c c0 (by omega) f
      · refine Or.inr ⟨⟨z1.1, by omega⟩, z2, z3, fun c c0 cn f t => ?_⟩
        by_cases e : c = k
        · subst e; have := q f; omega
        · exact z4 c c0 (by omega) f t
    have pre : ∀ x, (if bI (0 ≤ M 30 (k : Int) ∧ M 30 (k : Int) < 1024) = 0 then at_C_nextFiled_14 37 w1 T z (w32 ((k : Int) + 1)) (0, 0) M (rI x M) else ∃ v7, Cl 37 m_C_placeInLine [(2, 1), (0, (k : Int))] M (some (0, v7), M) ∧ (if v7 ≤ T then at_C_nextFiled_14 37 w1 T z (w32 ((k : Int) + 1)) (0, 0) M (rI x M) else (if z < 0 then at_C_nextFiled_14 37 w1 T (k : Int) (w32 ((k : Int) + 1)) (0, 1) M (rI x M) else ∃ v11, Cl 37 m_C_placeInLine [(2, 1), (0, (k : Int))] M (some (0, v11), M) ∧ ∃ v13, Cl 37 m_C_placeInLine [(2, 1), (0, z)] M (some (0, v13), M) ∧ (if v13 ≤ v11 then at_C_nextFiled_14 37 w1 T z (w32 ((k : Int) + 1)) (0, 1) M (rI x M) else at_C_nextFiled_14 37 w1 T (k : Int) (w32 ((k : Int) + 1)) (0, 1) M (rI x M))))) → at_C_nextFiled_14 37 w1 T z k w5 M (rI x M) := fun x hv =>
      sg_C_nextFiled_14 (ite_i (fun t => absurd t (by omega)) (fun _ => ⟨⟨by omega, by omega⟩, _, c_X_isDrawer (by decide), hv⟩))
    by_cases f : FD M (k : Int)
    · have fd := g2.resolve_left f
      have pl := c_placeInLine h1 h4 (c := (k : Int)) (by omega) (by omega) f
      by_cases q : PLc M (k : Int) ≤ T
      · obtain ⟨x, x1, x2⟩ := go z (0, 0) (ext (fun _ => q))
        exact ⟨x, x1, pre x (ite_b (fun t => absurd (by rw [g1]; exact fd) t) (fun _ => ⟨_, pl, ite_i (fun _ => x2) (fun t => absurd q t)⟩))⟩
      · have new : NX M ((k : Int) + 1) T (k : Int) → ∃ x, NX M (M 64 0) T x ∧ at_C_nextFiled_14 37 w1 T (k : Int) (w32 ((k : Int) + 1)) (0, 1) M (rI x M) := go (k : Int) (0, 1)
        rcases hz with ⟨z1, z2⟩ | ⟨z1, z2, z3, z4⟩
        · obtain ⟨x, x1, x2⟩ := new (Or.inr ⟨⟨by omega, by omega⟩, f, by omega, fun c c0 cn f' t => by
            by_cases e : c = k
            · subst e; exact Int.le_refl _
            · have := z2 c c0 (by omega) f'; omega⟩)
          exact ⟨x, x1, pre x (ite_b (fun t => absurd (by rw [g1]; exact fd) t) (fun _ => ⟨_, pl, ite_i (fun t => absurd t q) (fun _ => ite_i (fun _ => x2) (fun t => absurd (by omega) t))⟩))⟩
        · have pz := c_placeInLine h1 h4 (c := z) z1.1 (by omega) z2
          by_cases l : PLc M z ≤ PLc M (k : Int)
          · obtain ⟨x, x1, x2⟩ := go z (0, 1) (Or.inr ⟨⟨z1.1, by omega⟩, z2, z3, fun c c0 cn f' t => by
              by_cases e : c = k
              · subst e; exact l
              · exact z4 c c0 (by omega) f' t⟩)
            exact ⟨x, x1, pre x (ite_b (fun t => absurd (by rw [g1]; exact fd) t) (fun _ => ⟨_, pl, ite_i (fun t => absurd t q) (fun _ => ite_i (fun t => absurd t (by omega)) (fun _ => ⟨_, pl, _, pz, ite_i (fun _ => x2) (fun t => absurd l t)⟩))⟩))⟩
          · obtain ⟨x, x1, x2⟩ := new (Or.inr ⟨⟨by omega, by omega⟩, f, by omega, fun c c0 cn f' t => by
              by_cases e : c = k
              · subst e; exact Int.le_refl _
              · have := z4 c c0 (by omega) f' t; omega⟩)
            exact ⟨x, x1, pre x (ite_b (fun t => absurd (by rw [g1]; exact fd) t) (fun _ => ⟨_, pl, ite_i (fun t => absurd t q) (fun _ => ite_i (fun t => absurd t (by omega)) (fun _ => ⟨_, pl, _, pz, ite_i (fun t => absurd t l) (fun _ => x2)⟩))⟩))⟩
    · obtain ⟨x, x1, x2⟩ := go z (0, 0) (ext (fun t => absurd t f))
      exact ⟨x, x1, pre x (ite_b (fun _ => x2) (fun t => absurd (by rw [g1] at t; omega) f))⟩
theorem c_nextFiled (h1 : R1 M) (h4 : R4 M) (hy : (y = -1 ∧ T = -1) ∨ ((0 ≤ y ∧ y < M 64 0) ∧ FD M y ∧ T = PLc M y)) : ∃ x, NX M (M 64 0) T x ∧ Cl 39 m_C_nextFiled [(2, 1), (0, y)] M (rI x M) := by
  have e1 := h1.1; have e2 := h1.2.1
  obtain ⟨x, x1, x2⟩ := next_loop h1 h4 (T := T) (w1 := (0, y)) (M 64 0).toNat 0 (-1) (3, 0) (by omega) (Or.inl ⟨rfl, fun c c0 cn => absurd cn (by omega)⟩)
  refine ⟨x, x1, (sg_C_nextFiled (d := 37) ⟨_, c_C_has (by decide), ?_⟩).mono (by decide)⟩
  rcases hy with ⟨y1, y2⟩ | ⟨y1, y2, y3⟩
  · subst y2
    exact ite_b (fun _ => x2) (fun t => absurd t.1 (by omega))
  · refine ite_b (fun t => absurd ((has_iff h1).mpr y1) t) (fun _ => ⟨_, c_placeInLine h1 h4 y1.1 y1.2 y2, ?_⟩)
    rw [← y3]; exact x2
theorem FO_eq {M M' : Mem} (h65 : M' 65 = M 65) (h66 : M' 66 = M 66) (h4 : M' 64 4 = M 64 4) {s r c : Int} : FO M' s r c = FO M s r c := setB_congr (fun _ _ => decide_eq_decide.mpr (by unfold FIT; rw [h65, h66, h4]))
/-- what search leaves: cards looked at, found -/
def sres (o : Nat) (C : Mem) (f : Bool) (p : Int) : Mem := if f = true then up (up C o 3 p) o 4 (w32 (C o 4 + 1)) else up C o 3 p
theorem sres_up {o : Nat} {C : Mem} {f : Bool} {p q : Int} : sres o (up C o 3 q) f p = sres o C f p := by
  unfold sres
  rw [up_up, up_n (b := o) (j := 4) (i := 3) (by omega)]
def CA (M C : Mem) : Prop := To (fun o _ => o = 43) M C
def DA (M N : Mem) (a : Int) : Prop := To (fun o i => o = 43 ∨ o = 78 ∨ (o = 64 ∧ (i = 37 ∨ i = 38))) M N ∧ N 64 37 = a / 100 ∧ N 64 38 = a % 100
/-- the outcome of both -/
def SOx (M : Mem) (a x i p : Int) (mod : Mem → Res → Prop) : Prop := ∃ (v p' : Int) (f : Bool), (∀ C, CA M C → C 43 3 = p → at_X_search_21 39 a x i C (rI v (sres 43 C f p'))) ∧ (∀ N, DA M N a → N 78 3 = p → mod N (rI v (sres 78 N f p')))
abbrev CNT (M : Mem) (T : Int) : Int := cntB (fun c => decide (FD M (c : Int) ∧ PLc M (c : Int) ≤ T)) (M 64 0).toNat
theorem CNT_shift {T' : Int} (h1 : R1 M) (t : T ≤ T') (no : ∀ c : Int, 0 ≤ c → c < M 64 0 → FD M c → ¬ (T < PLc M c ∧ PLc M c ≤ T')) : CNT M T' = CNT M T := cntB_congr fun k hk => decide_eq_decide.mpr ⟨fun q => ⟨q.1, by have := no k (by omega) (by have := h1.2.1; omega) q.1; omega⟩, fun q => ⟨q.1, by omega⟩⟩
theorem search_in (h1 : R1 M) (h2 : R2 M) (h4 : R4 M) (hg : 0 ≤ a ∧ a / 100 ≤ 4 ∧ a % 100 ≤ 30) {d : Nat} (d1 : d < 1024) (nxt : ∀ p i x, NX M (M 64 0) (12 * ((d : Int) + 1) - 1) x → i = CNT M (12 * ((d : Int) + 1) - 1) → SOx M a x i p (fun N r => ∀ w3, at_M_search_23 39 (0, a) ((d : Int) + 1) w3 N r)) :
    ∀ (m k : Nat) (p i x : Int), (k : Int) + m = M 64 0 → NX M (M 64 0) (12 * d + k - 1) x → i = CNT M (12 * d + k - 1) → SOx M a x i p (fun N r => at_M_search_28 39 (0, a) d k N r)
  | 0, k, p, i, x, hk, hx, hi => by
    have e3 := h1.2.2.1
    have no : ∀ c : Int, 0 ≤ c → c < M 64 0 → FD M c → ¬ (12 * (d : Int) + k - 1 < PLc M c ∧ PLc M c ≤ 12 * ((d : Int) + 1) - 1) := fun c c0 cn f => by
      have := (h4 c c0 cn).2.resolve_left f
      show ¬ (12 * (d : Int) + k - 1 < 12 * M 67 c + c ∧ 12 * M 67 c + c ≤ 12 * ((d : Int) + 1) - 1)
      omega
    obtain ⟨v, p', f, hX, hM⟩ := nxt p i x (hx.shift (by omega) no) (by rw [CNT_shift h1 (by omega) no]; exact hi)
    refine ⟨v, p', f, hX, fun N hN hp => sg_M_search_28 w01 (ite_i (fun _ => ?_) (fun t => absurd (by rw [hN.1 64 0 (by omega)]; omega) t))⟩
    rw [w32_k (by omega)]
    exact hM N hN hp _
  | m + 1, k, p, i, x, hk, hx, hi => by
    have e3 := h1.2.2.1
    have ih := search_in h1 h2 h4 hg d1 nxt m (k + 1)
    rw [show (((k + 1 : Nat)) : Int) = (k : Int) + 1 by omega, show 12 * (d : Int) + ((k : Int) + 1) - 1 = 12 * (d : Int) + k by omega] at ih
    have n0 : ∀ {N : Mem}, DA M N a → N 64 0 = M 64 0 ∧ N 67 = M 67 := fun hN => ⟨hN.1 64 0 (by omega), funext fun c => hN.1 67 c (by omega)⟩
    by_cases q : M 67 (k : Int) = d
    · have f : FD M (k : Int) := by unfold FD; omega
      have pk : PLc M (k : Int) = 12 * (d : Int) + k := by unfold PLc; omega
      have xk : x = k := by
        rcases hx with ⟨z1, z2⟩ | ⟨z1, z2, z3, z4⟩
        · have := z2 k (by omega) (by omega) f; omega
        · have g := z4 k (by omega) (by omega) f (by omega)
          have := (h4 x z1.1 z1.2).2.resolve_left z2
          rw [pk] at g
          have g : 12 * M 67 x + x ≤ 12 * (d : Int) + k := g
          have z3 : 12 * (d : Int) + k - 1 < 12 * M 67 x + x := z3
          omega
      subst xk
      have nc : decide (FD M (k : Int) ∧ PLc M (k : Int) ≤ 12 * (d : Int) + k - 1) = false := decide_eq_false (fun t => by have := t.2; omega)
      have i12 : i < 12 := by
        have := cntB_lt (P := fun c => decide (FD M (c : Int) ∧ PLc M (c : Int) ≤ 12 * (d : Int) + k - 1)) (x := k) nc (M 64 0).toNat (by omega)
        have hi : i = cntB (fun c => decide (FD M (c : Int) ∧ PLc M (c : Int) ≤ 12 * (d : Int) + k - 1)) (M 64 0).toNat := hi
        omega
      have i0 : 0 ≤ i := by
        have := cntB_le (fun c => decide (FD M (c : Int) ∧ PLc M (c : Int) ≤ 12 * (d : Int) + k - 1)) (M 64 0).toNat
        have hi : i = cntB (fun c => decide (FD M (c : Int) ∧ PLc M (c : Int) ≤ 12 * (d : Int) + k - 1)) (M 64 0).toNat := hi
        omega
      have i1 : i + 1 = CNT M (12 * (d : Int) + k) := by
        rw [hi]
        refine (cntB_one (x := k) nc (decide_eq_true ⟨f, by omega⟩) (M 64 0).toNat (fun j hn hj => decide_eq_decide.mpr ⟨fun t => ⟨t.1, by omega⟩, fun t => ⟨t.1, ?_⟩⟩) (by omega)).symm
        have t2 : 12 * M 67 (j : Int) + j ≤ 12 * (d : Int) + k := t.2
        have t3 := (h4 j (by omega) (by omega)).2.resolve_left t.1
        show 12 * M 67 (j : Int) + j ≤ 12 * (d : Int) + k - 1
        refine Classical.byContradiction fun w => hj ?_
        have e : M 67 (j : Int) = d := by omega
        omega
      have cC : ∀ {C : Mem} {z : Int}, CA M C → CA M (up C 43 3 z) := fun hC => To.upd hC rfl
      have rC : ∀ {C : Mem}, CA M C → R1 C ∧ R2 C ∧ R4 C ∧ FO C (a / 100) (a % 100) (k : Int) = FO M (a / 100) (a % 100) (k : Int) := fun {C} hC =>
        ⟨h1.ag (hC.ag (by intro o i; unfold K1; omega)), h2.ag h1 (hC.ag (by intro o i; unfold K2; omega)), h4.ag (hC.ag (by intro o i; unfold K4; omega)), FO_eq (funext fun c => hC 65 c (by omega)) (funext fun c => hC 66 c (by omega)) (hC 64 4 (by omega))⟩
      have rN : ∀ {N : Mem} {z : Int}, DA M N a → DA M (up N 78 3 z) a := fun hN => ⟨hN.1.upd (by omega), by rw [up_n (by omega)]; exact hN.2.1, by rw [up_n (by omega)]; exact hN.2.2⟩
      have rN2 : ∀ {N : Mem}, DA M N a → Cl 39 m_M_fingersOn [(2, 64), (0, (k : Int))] N (rI (FO M (a / 100) (a % 100) (k : Int)) N) := fun {N} hN => by
        have := c_M_fingersOn (M := N) (d := 39) (c := (k : Int)) (h1.ag (hN.1.ag (by intro o i; unfold K1; omega))) (h2.ag h1 (hN.1.ag (by intro o i; unfold K2; omega))) hN.2.1 hN.2.2 (by omega) (by omega) (by omega) (by omega) (by omega) (by rw [hN.1 64 0 (by omega)]; omega) (by decide)
        rwa [FO_eq (funext fun c => hN.1 65 c (by omega)) (funext fun c => hN.1 66 c (by omega)) (hN.1 64 4 (by omega))] at this
      have pX : ∀ {C : Mem} {r : Res}, CA M C → C 43 3 = p → (if FO M (a / 100) (a % 100) (k : Int) = 0 then ∃ v7, Cl 39 m_C_nextFiled [(2, 1), (0, (k : Int))] (up C 43 3 (w32 (p + 1))) (some (0, v7), up C 43 3 (w32 (p + 1))) ∧ at_X_search_21 39 a v7 (i + 1) (up C 43 3 (w32 (p + 1))) r else r = (some (0, (k : Int)), up (up C 43 3 (w32 (p + 1))) 43 4 (w32 (C 43 4 + 1)))) → at_X_search_21 39 a (k : Int) i C r := fun {C r} hC hp hv => by
        refine sg_X_search_21 (ite_i (fun t => absurd t (by omega)) (fun _ => ite_i (fun t => absurd t (by omega)) (fun _ => ?_)))
        rw [hp, up_n (b := 43) (j := 4) (by omega), w32_i (x := i + 1) (by omega) (by omega)]
        have g := rC (cC (z := w32 (p + 1)) hC)
        refine ⟨_, c_X_glassFingers (d := 39) g.1 g.2.1 hg (by omega) (by rw [(cC (z := w32 (p + 1)) hC) 64 0 (by omega)]; omega) (by decide), ?_⟩
        rw [g.2.2.2]
        exact hv
      have pM : ∀ {N : Mem} {r : Res}, DA M N a → N 78 3 = p → (if ¬ FO M (a / 100) (a % 100) (k : Int) = 0 then r = (some (0, (k : Int)), up (up N 78 3 (w32 (p + 1))) 78 4 (w32 (N 78 4 + 1))) else at_M_search_28 39 (0, a) d ((k : Int) + 1) (up N 78 3 (w32 (p + 1))) r) → at_M_search_28 39 (0, a) d k N r := fun {N r} hN hp hv => by
        refine sg_M_search_28 w01 (ite_i (fun t => absurd t (by rw [(n0 hN).1]; omega)) (fun _ => ⟨⟨by omega, by omega⟩, ite_i (fun _ => ?_) (fun t => absurd (by rw [(n0 hN).2]; exact q) t)⟩))
        rw [hp, up_n (b := 78) (j := 4) (by omega), w32_k (by omega)]
        exact ⟨_, rN2 (rN hN), hv⟩
      by_cases z : FO M (a / 100) (a % 100) (k : Int) = 0
      · obtain ⟨x', x1, -⟩ := c_nextFiled h1 h4 (y := (k : Int)) (T := 12 * (d : Int) + k) (Or.inr ⟨⟨by omega, by omega⟩, f, pk.symm⟩)
        obtain ⟨v, p', g, hX, hM⟩ := ih (w32 (p + 1)) (i + 1) x' (by omega) x1 i1
        refine ⟨v, p', g, fun C hC hp => pX hC hp (ite_i (fun _ => ?_) (fun t => absurd z t)), fun N hN hp => pM hN hp (ite_i (fun t => absurd z t) (fun _ => ?_))⟩
        · have gC := rC (cC (z := w32 (p + 1)) hC)
          have e67 : ∀ c, up C 43 3 (w32 (p + 1)) 67 c = M 67 c := fun c => (cC (z := w32 (p + 1)) hC) 67 c (by omega)
          have e0 : up C 43 3 (w32 (p + 1)) 64 0 = M 64 0 := (cC (z := w32 (p + 1)) hC) 64 0 (by omega)
          obtain ⟨x2, y1, y2⟩ := c_nextFiled gC.1 gC.2.2.1 (y := (k : Int)) (T := 12 * (d : Int) + k) (Or.inr ⟨⟨by omega, by rw [e0]; omega⟩, by unfold FD; rw [e67]; exact f, by unfold PLc; rw [e67]; omega⟩)
          have : x2 = x' := by
            rw [e0] at y1
            exact NX_uniq (by omega) (NX_eq (funext e67) y1) x1
          subst this
          have := hX _ (cC (z := w32 (p + 1)) hC) up_eq
          rw [sres_up] at this
          exact ⟨_, y2, this⟩
        · have := hM _ (rN (z := w32 (p + 1)) hN) up_eq
          rw [sres_up] at this
          exact this
      · refine ⟨k, w32 (p + 1), true, fun C hC hp => pX hC hp (ite_i (fun t => absurd t z) (fun _ => rfl)), fun N hN hp => pM hN hp (ite_i (fun _ => rfl) (fun t => absurd z t))⟩
    · have no : ∀ c : Int, 0 ≤ c → c < M 64 0 → FD M c → ¬ (12 * (d : Int) + k - 1 < PLc M c ∧ PLc M c ≤ 12 * (d : Int) + k) := fun c c0 cn f => by
        have := (h4 c c0 cn).2.resolve_left f
        show ¬ (12 * (d : Int) + k - 1 < 12 * M 67 c + c ∧ 12 * M 67 c + c ≤ 12 * (d : Int) + k)
        intro t
        have e : M 67 c = d := by omega
        have : c = k := by omega
        subst this
        exact q e
      obtain ⟨v, p', f, hX, hM⟩ := ih p i x (by omega) (hx.shift (by omega) no) (by rw [CNT_shift h1 (by omega) no]; exact hi)
      refine ⟨v, p', f, hX, fun N hN hp => sg_M_search_28 w01 (ite_i (fun t => absurd t (by rw [(n0 hN).1]; omega)) (fun _ => ⟨⟨by omega, by omega⟩, ite_i (fun t => absurd (by rw [← (n0 hN).2]; exact t) q) (fun _ => ?_)⟩))⟩
      rw [w32_k (by omega)]
      exact hM N hN hp
end P29
