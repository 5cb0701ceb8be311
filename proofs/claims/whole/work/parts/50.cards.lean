/-! promise cards, to its end -/
section P34
variable {M N C : Mem} {a b c h p r s x y : Int}
abbrev svR (M : Mem) (p b : Int) (j f : Int) : Int := VV M p (b + 20 * j + 2 * f)
abbrev rvR (M : Mem) (p b : Int) (j f : Int) : Int := VV M p (b + 20 * j + 2 * f + 1)
theorem cards_two (i : INV M) (z : 0 ≤ p ∧ p < 6) (q : M 50 p = 2) (qs : M 52 p = 0) (hb : c32 b) {n : Int} (n3 : n ≤ 3) {w4 : AV} (hw4 : ¬ w4.1 = 1) : ∀ (m k : Nat), (k : Int) + m = n → M 64 0 + k ≤ 12 → (∀ j f : Int, 0 ≤ j → j < k → 0 ≤ f → f < 10 → (0 ≤ svR M p b j f ∧ svR M p b j f ≤ 5) ∧ (0 ≤ rvR M p b j f ∧ rvR M p b j f ≤ 30)) → ∃ v : Int, 0 ≤ v ∧ M 64 0 + v ≤ 12 ∧ (∀ j f : Int, 0 ≤ j → j < v → 0 ≤ f → f < 10 → (0 ≤ svR M p b j f ∧ svR M p b j f ≤ 5) ∧ (0 ≤ rvR M p b j f ∧ rvR M p b j f ≤ 30)) ∧ (∀ C, CC M k (svR M p b) (rvR M p b) C → ∃ C', CC M v (svR M p b) (rvR M p b) C' ∧ at_X_cards_30 79 p b n w4 k C (rI v C')) ∧ (∀ C0 N, To (TCc (M 64 0)) M C0 → To (TMm (M 64 0)) C0 N → MM M k (svR M p b) (rvR M p b) N → ∀ w6 w7 w8 w9 w10, ∃ N', To (TMm (M 64 0)) C0 N' ∧ MM M v (svR M p b) (rvR M p b) N' ∧ at_M_cards_29 79 p b n k k w6 w7 w8 w9 w10 N (rI v N'))
  | 0, k, hk, h12, ok => ⟨k, by omega, h12, ok, fun C hC => ⟨C, hC, sg_X_cards_30 hw4 (ite_i (fun _ => rfl) (fun t => absurd (by omega) t))⟩, fun C0 N t0 t hN w6 w7 w8 w9 w10 => ⟨N, t, hN, sg_M_cards_29 (ite_i (fun _ => rfl) (fun t => absurd (by omega) t))⟩⟩
  | m + 1, k, hk, h12, ok => by
    have h13 := i.2.2.2.2.2.2.2.2.2.2.2.1
    obtain ⟨e1, e2, e3, -⟩ := i.1
    obtain ⟨-, -, -, -, r5, r6, -⟩ := h13.row z q
    have hb1 := hb.1; have hb2 := hb.2
    obtain ⟨x, hx⟩ : ∃ x, x = b + 20 * (k : Int) := ⟨_, rfl⟩
    have w1 : w64 (b + w64 (20 * (k : Int))) = x := by rw [w64_i (x := 20 * (k : Int)) (by omega) (by omega), w64_i (by omega) (by omega), hx]
    have w2 : w64 (x + 20) = x + 20 := w64_i (by omega) (by omega)
    have tC : ∀ {C : Mem}, To (TCc (M 64 0)) M C → Ag K13 M C := fun {C} t o y g => t o y (by unfold K13 at g; unfold TCc; omega)
    have tN : ∀ {C0 N : Mem}, To (TCc (M 64 0)) M C0 → To (TMm (M 64 0)) C0 N → Ag K13 M N := fun {C0 N} t0 t o y g => by rw [t o y (by unfold K13 at g; unfold TMm; omega), t0 o y (by unfold K13 at g; unfold TCc; omega)]
    have preX : ∀ {C : Mem} {rr : Res}, CC M k (svR M p b) (rvR M p b) C → (∃ v3 M4, Cl 79 m_X_cardComes [(2, 0), (0, p), (1, x)] C (some (0, v3), M4) ∧ (if v3 = 0 then rr = (some (0, (k : Int)), M4) else at_X_cards_30 79 p b n w4 ((k : Int) + 1) M4 rr)) → at_X_cards_30 79 p b n w4 k C rr := fun {C rr} hC hv => by
      refine sg_X_cards_30 hw4 (ite_i (fun y => absurd y (by omega)) (fun _ => ?_))
      rw [w1, w32_k (by omega)]
      exact hv
    have preM : ∀ {C0 N : Mem} {rr : Res} {w6 w7 w8 w9 w10 : AV}, To (TCc (M 64 0)) M C0 → To (TMm (M 64 0)) C0 N → MM M k (svR M p b) (rvR M p b) N → (if lcmpI x 0 < 0 then rr = (some (0, (k : Int)), N) else (if 0 < lcmpI (x + 20) (M 85 p) then rr = (some (0, (k : Int)), N) else (if ¬ M 64 0 + k = 12 then at_M_cards_69 79 p b n k k (1, x) (3, 0) (w32 (w32 (60 * p) + w32 x)) 0 w10 N rr else rr = (some (0, (k : Int)), N)))) → at_M_cards_29 79 p b n k k w6 w7 w8 w9 w10 N rr := fun {C0 N rr w6 w7 w8 w9 w10} t0 t hN hv => by
      refine sg_M_cards_29 (ite_i (fun y => absurd y (by omega)) (fun _ => ?_))
      rw [w1, w2, tN t0 t 85 p (by unfold K13; omega), hN.1]
      by_cases y : lcmpI x 0 < 0
      · rw [if_pos y] at hv ⊢; exact hv
      · rw [if_neg y] at hv ⊢; exact ⟨z, hv⟩
    have stop : (∀ C, CC M k (svR M p b) (rvR M p b) C → Cl 79 m_X_cardComes [(2, 0), (0, p), (1, x)] C (rI 0 C)) → (∀ C0 N w6 w7 w8 w9 w10, To (TCc (M 64 0)) M C0 → To (TMm (M 64 0)) C0 N → MM M k (svR M p b) (rvR M p b) N → at_M_cards_29 79 p b n k k w6 w7 w8 w9 w10 N (rI k N)) → ∃ v : Int, 0 ≤ v ∧ M 64 0 + v ≤ 12 ∧ (∀ j f : Int, 0 ≤ j → j < v → 0 ≤ f → f < 10 → (0 ≤ svR M p b j f ∧ svR M p b j f ≤ 5) ∧ (0 ≤ rvR M p b j f ∧ rvR M p b j f ≤ 30)) ∧ (∀ C, CC M k (svR M p b) (rvR M p b) C → ∃ C', CC M v (svR M p b) (rvR M p b) C' ∧ at_X_cards_30 79 p b n w4 k C (rI v C')) ∧ (∀ C0 N, To (TCc (M 64 0)) M C0 → To (TMm (M 64 0)) C0 N → MM M k (svR M p b) (rvR M p b) N → ∀ w6 w7 w8 w9 w10, ∃ N', To (TMm (M 64 0)) C0 N' ∧ MM M v (svR M p b) (rvR M p b) N' ∧ at_M_cards_29 79 p b n k k w6 w7 w8 w9 w10 N (rI v N')) := fun gX gM =>
      ⟨k, by omega, h12, ok, fun C hC => ⟨C, hC, preX hC ⟨0, C, gX C hC, ite_i (fun _ => rfl) (fun y => absurd rfl y)⟩⟩, fun C0 N t0 t hN w6 w7 w8 w9 w10 => ⟨N, t, hN, gM C0 N w6 w7 w8 w9 w10 t0 t hN⟩⟩
    by_cases y1 : 0 ≤ x
    · by_cases y2 : x + 20 ≤ M 85 p
      · have wx : w32 x = x := w32_i (by omega) (by omega)
        have wa : w32 (w32 (60 * p) + x) = 60 * p + x := by rw [w32_i (x := 60 * p) (by omega) (by omega), w32_i (by omega) (by omega)]
        by_cases y3 : M 64 0 + (k : Int) < 12
        · by_cases y4 : ∀ f : Nat, f < 10 → OKf M p x (f : Int)
          · have ok' : ∀ j f : Int, 0 ≤ j → j < ((k + 1 : Nat) : Int) → 0 ≤ f → f < 10 → (0 ≤ svR M p b j f ∧ svR M p b j f ≤ 5) ∧ (0 ≤ rvR M p b j f ∧ rvR M p b j f ≤ 30) := fun j f j0 j1 f0 f9 => by
              by_cases e : j < k
              · exact ok j f j0 e f0 f9
              · have := y4 f.toNat (by omega)
                rw [Int.toNat_of_nonneg f0] at this
                rw [show j = (k : Int) by omega]
                unfold svR rvR
                rw [← hx]
                exact this
            obtain ⟨v, v0, v12, vok, vX, vM⟩ := cards_two i z q qs hb n3 hw4 m (k + 1) (by omega) (by omega) ok'
            rw [show (((k + 1 : Nat)) : Int) = (k : Int) + 1 by omega] at vX vM
            refine ⟨v, v0, v12, vok, fun C hC => ?_, fun C0 N t0 t hN w6 w7 w8 w9 w10 => ?_⟩
            · obtain ⟨B, b1, b2, b3, b4, b5, b6, b7⟩ := CC_plain e2 (by omega) y3 hC
              have tB := tC b2
              obtain ⟨C', g1, g2, g3⟩ := X_tells h13 z q qs y1 y2 y4 (h := M 64 0 + k) (by omega) y3 tB (by omega) (w2 := (1, x)) (w3 := (3, 0)) 10 0 B rfl (To.refl _ B) b6.1 (fun f f0 f9 => by rw [if_neg (by omega), if_neg (by omega)]; exact b6.2 f f0 f9)
              have cc : CC M ((k : Int) + 1) (svR M p b) (rvR M p b) C' := by
                refine ⟨fun o j y => by rw [g2 o j (fun t => y (by unfold TPc at t; unfold TCc; omega)), b2 o j y], by rw [g2 1 5 (by unfold TPc; omega), b3], fun j j0 j1 => ?_, fun c c0 cn => by rw [g2 28 c (by unfold TPc; omega), g2 29 c (by unfold TPc; omega)]; exact b7 c c0 cn⟩
                by_cases e : j < k
                · obtain ⟨a1, a2, a3⟩ := b4 j j0 e
                  have u2 : ∀ f : Int, C' ((3 + (M 64 0 + j)).toNat) f = B ((3 + (M 64 0 + j)).toNat) f := fun f => g2 _ f (by unfold TPc; omega)
                  have u3 : ∀ f : Int, C' ((16 + (M 64 0 + j)).toNat) f = B ((16 + (M 64 0 + j)).toNat) f := fun f => g2 _ f (by unfold TPc; omega)
                  refine ⟨by rw [g2 30 _ (by unfold TPc; omega)]; exact a1, ?_, fun f f0 f9 => by rw [u2, u3]; exact a3 f f0 f9⟩
                  rw [g2 28 _ (by unfold TPc; omega), g2 29 _ (by unfold TPc; omega)]
                  exact a2.congr (fun f _ _ => u2 f)
                · rw [show j = (k : Int) by omega]
                  refine ⟨by rw [g2 30 _ (by unfold TPc; omega)]; exact b5, ?_⟩
                  unfold svR rvR
                  rw [← hx]
                  exact g3
              obtain ⟨C2, d1, d2⟩ := vX C' cc
              refine ⟨C2, d1, preX hC ⟨1, C', ?_, ite_i (fun y => absurd y (by decide)) (fun _ => d2)⟩⟩
              refine sg_X_cardComes (d := 78) (ite_i (fun y => absurd y (by rw [hC.2.1]; omega)) (fun _ => ite_i (fun y => absurd (lcmp_lt.mp y) (by omega)) (fun _ => ⟨_, vA_len h13 z q (tC hC.1) (by decide), ?_⟩)))
              rw [w2, wx]
              refine ite_i (fun _ => ?_) (fun y => absurd (lcmp_le.mpr y2) y)
              refine (X_check h13 z q y1 y2 (tC hC.1) 10 0 rfl).2 (fun f _ f9 => y4 f f9) (fun w6 => ?_) _
              exact sg_X_cardComes_26 (ite_i (fun _ => ⟨_, B, b1.mono (by decide), g1⟩) (fun y => absurd (by decide) y))
            · obtain ⟨B, b1, b2, b3, b4, b5, b6⟩ := MM_plain e2 (by omega) y3 hN
              have c064 : C0 64 0 = M 64 0 := t0 64 0 (by unfold TCc; omega)
              have fin : ∀ N2, To (TPm (M 64 0 + k)) B N2 → N2 64 0 = B 64 0 → N2 67 (M 64 0 + k) = B 67 (M 64 0 + k) → (∀ f : Int, 0 ≤ f → f < 10 → N2 65 (10 * (M 64 0 + k) + f) = VV M p (x + 2 * f) ∧ N2 66 (10 * (M 64 0 + k) + f) = VV M p (x + 2 * f + 1)) → To (TMm (M 64 0)) C0 N2 ∧ MM M ((k : Int) + 1) (svR M p b) (rvR M p b) N2 := fun N2 f1 f2 f3 f4 => by
                refine ⟨fun o j y => by rw [f1 o j (fun t => y (by unfold TPm at t; unfold TMm; omega)), b2 o j y, t o j y], by rw [f2, b3], fun j j0 j1 => ?_⟩
                by_cases e : j < k
                · obtain ⟨a1, a2⟩ := b4 j j0 e
                  refine ⟨by rw [f1 67 _ (by unfold TPm; omega)]; exact a1, fun f f0 f9 => ?_⟩
                  rw [f1 65 _ (by unfold TPm; omega), f1 66 _ (by unfold TPm; omega)]
                  exact a2 f f0 f9
                · rw [show j = (k : Int) by omega]
                  refine ⟨by rw [f3]; exact b5, fun f f0 f9 => ?_⟩
                  unfold svR rvR
                  rw [← hx]
                  exact f4 f f0 f9
              obtain ⟨N3, n1⟩ : ∃ N3, To (TMm (M 64 0)) C0 N3 ∧ MM M v (svR M p b) (rvR M p b) N3 ∧ at_M_cards_109 79 p b n k k (1, x) (3, 0) (60 * p + x) (M 64 0 + k) 0 B (rI v N3) := by
                obtain ⟨N2, hN2⟩ : ∃ N2, To (TPm (M 64 0 + k)) B N2 ∧ N2 64 0 = B 64 0 ∧ N2 67 (M 64 0 + k) = B 67 (M 64 0 + k) ∧ (∀ f : Int, 0 ≤ f → f < 10 → N2 65 (10 * (M 64 0 + k) + f) = VV M p (x + 2 * f) ∧ N2 66 (10 * (M 64 0 + k) + f) = VV M p (x + 2 * f + 1)) ∧ ∀ res, at_M_cards_29 79 p b n ((k : Int) + 1) ((k : Int) + 1) (1, x) (3, 0) (0, 60 * p + x) (0, M 64 0 + k) (0, 10) N2 res → at_M_cards_109 79 p b n k k (1, x) (3, 0) (60 * p + x) (M 64 0 + k) 0 B res := by
                  have tB : Ag K13 M B := fun o y g => by rw [b2 o y (by unfold K13 at g; unfold TMm; omega), tN t0 t o y g]
                  obtain ⟨N2, a1, a2, a3, a4, a5⟩ := M_tells h13 z q qs y1 y2 (h := M 64 0 + k) (by omega) y3 tB (l2 := b) (l3 := n) (l4 := (k : Int)) (l5 := (k : Int)) (w6 := (1, x)) (w7 := (3, 0))
                  rw [w32_k (by omega)] at a5
                  exact ⟨N2, a1, a2, a3, a4, a5⟩
                obtain ⟨f1, f2, f3, f4, f5⟩ := hN2
                obtain ⟨m1, m2⟩ := fin N2 f1 f2 f3 f4
                obtain ⟨N3, m3, m4, m5⟩ := vM C0 N2 t0 m1 m2 (1, x) (3, 0) (0, 60 * p + x) (0, M 64 0 + k) (0, 10)
                exact ⟨N3, m3, m4, f5 _ m5⟩
              obtain ⟨n1, n2, n3⟩ := n1
              refine ⟨N3, n1, n2, preM t0 t hN (ite_i (fun y => absurd (lcmp_lt.mp y) (by omega)) (fun _ => ite_i (fun y => absurd (lcmp_gt.mp y) (by omega)) (fun _ => ite_i (fun _ => ?_) (fun y => absurd (by omega) y))))⟩
              rw [wx, wa]
              refine (M_check h13 z q qs y1 y2 (tN t0 t) 10 0 rfl).2 (fun f _ f9 => y4 f f9) ?_
              exact sg_M_cards_69 (ite_i (fun _ => ⟨_, B, b1.mono (by decide), n3⟩) (fun y => absurd (by decide) y))
          · have bad : ∃ f : Nat, 0 ≤ f ∧ f < 10 ∧ ¬ OKf M p x (f : Int) := Classical.byContradiction fun no => y4 fun f f9 => Classical.byContradiction fun w => no ⟨f, Nat.zero_le f, f9, w⟩
            refine stop (fun C hC => ?_) (fun C0 N w6 w7 w8 w9 w10 t0 t hN => preM t0 t hN (ite_i (fun y => absurd (lcmp_lt.mp y) (by omega)) (fun _ => ite_i (fun y => absurd (lcmp_gt.mp y) (by omega)) (fun _ => ite_i (fun _ => ?_) (fun y => absurd (by omega) y)))))
            · refine sg_X_cardComes (d := 78) (ite_i (fun y => absurd y (by rw [hC.2.1]; omega)) (fun _ => ite_i (fun y => absurd (lcmp_lt.mp y) (by omega)) (fun _ => ⟨_, vA_len h13 z q (tC hC.1) (by decide), ?_⟩)))
              rw [w2, wx]
              exact ite_i (fun _ => (X_check (res := rI 0 C) h13 z q y1 y2 (tC hC.1) 10 0 rfl).1 bad _) (fun y => absurd (lcmp_le.mpr y2) y)
            · rw [wx, wa]
              exact (M_check (res := rI 0 N) h13 z q qs y1 y2 (tN t0 t) 10 0 rfl).1 bad
        · exact stop (fun C hC => sg_X_cardComes (d := 78) (ite_i (fun _ => rfl) (fun y => absurd (by rw [hC.2.1]; omega) y))) (fun C0 N w6 w7 w8 w9 w10 t0 t hN => preM t0 t hN (ite_i (fun y => rfl) (fun _ => ite_i (fun y => rfl) (fun _ => ite_i (fun y => absurd (by omega) y) (fun _ => rfl)))))
      · refine stop (fun C hC => sg_X_cardComes (d := 78) (ite_i (fun _ => rfl) (fun _ => ite_i (fun y => rfl) (fun _ => ⟨_, vA_len h13 z q (tC hC.1) (by decide), ?_⟩)))) (fun C0 N w6 w7 w8 w9 w10 t0 t hN => preM t0 t hN (ite_i (fun y => rfl) (fun _ => ite_i (fun y => rfl) (fun y => absurd (lcmp_gt.mpr (by omega)) y))))
        rw [w2]
        exact ite_i (fun y => absurd (lcmp_le.mp y) y2) (fun _ => rfl)
    · exact stop (fun C hC => sg_X_cardComes (d := 78) (ite_i (fun _ => rfl) (fun _ => ite_i (fun _ => rfl) (fun y => absurd (lcmp_lt.mpr (by omega)) y)))) (fun C0 N w6 w7 w8 w9 w10 t0 t hN => preM t0 t hN (ite_i (fun _ => rfl) (fun y => absurd (lcmp_lt.mpr (by omega)) y)))
theorem pk_cards (i : INV M) (hb : c32 b) {n : Int} : Pk m_X_cards m_M_cards [(0, p), (0, b), (0, n)] M := by
  have h13 := i.2.2.2.2.2.2.2.2.2.2.2.1
  obtain ⟨e1, e2, e3, -⟩ := i.1
  by_cases z : 0 ≤ p ∧ p < 6
  · by_cases y : 1 ≤ n ∧ n ≤ 3
    · have X : ∀ {v7 : Int} {rr : Res}, Cl 79 m_S_rowRefusal [(2, 49), (0, p), (0, 0)] M (rI v7 M) → (if ¬ v7 = (-11) then (if v7 = 0 then at_X_cards_30 79 p b n (0, v7) 0 M rr else rr = (some (0, v7), M)) else rr = (some (0, 0), M)) → Cl 80 m_X_cards [(2, 0), (0, p), (0, b), (0, n)] M rr := fun {v7 rr} rx hv =>
        sg_X_cards (d := 79) ⟨_, c_S_has (by decide), ite_b (fun t => absurd z t) (fun _ => ite_i (fun t => absurd t (by omega)) (fun _ => ite_i (fun _ => ⟨_, rx, hv⟩) (fun t => absurd y.2 t)))⟩
      have Y : ∀ {N : Mem} {rr : Res}, (if ¬ N 84 p = (-1) then (0 ≤ p ∧ p < 6) ∧ (if N 84 p = 0 then at_M_cards_29 79 p b n 0 0 (3, 0) (3, 0) (3, 0) (3, 0) (3, 0) N rr else rr = (some (0, (-12)), N)) else rr = (some (0, 0), N)) → Cl 80 m_M_cards [(2, 64), (0, p), (0, b), (0, n)] N rr := fun {N rr} hv =>
        sg_M_cards (d := 79) ⟨_, c_M_isShelf (by decide), ite_b (fun t => absurd z t) (fun _ => ⟨_, c_M_within (by decide), ite_bn (fun _ => ⟨z, hv⟩) (fun t => absurd y t)⟩)⟩
      have R : ∀ {v : Int}, (if M 50 p = 0 then v = -11 else if M 50 p = 2 ∧ M 52 p = 0 then v = 0 else v = -12) → Cl 79 m_S_rowRefusal [(2, 49), (0, p), (0, 0)] M (rI v M) := fun {v} hv => by
        refine sg_S_rowRefusal (d := 78) ⟨_, c_S_has (by decide), ite_bn (fun _ => ⟨z, ite_i (fun t => ?_) (fun t => ?_)⟩) (fun t => absurd z t)⟩
        · rw [if_neg t] at hv
          refine ⟨z, ite_i (fun t2 => ?_) (fun t2 => ite_i (fun t3 => absurd t3 (by decide)) (fun _ => ⟨z, ite_i (fun t3 => ?_) (fun t3 => ?_)⟩))⟩
          · rw [if_neg (by omega)] at hv; rw [hv]
          · rw [if_neg (by omega)] at hv; rw [hv]
          · rw [if_pos (by omega)] at hv; rw [hv]
        · rw [if_pos (Classical.not_not.mp t)] at hv; rw [hv]
      rcases h13 p z.1 z.2 with ⟨q1, q2⟩ | ⟨q1, q2, q3, q4⟩ | ⟨q1, q2, q3, q4, -⟩
      · exact ⟨0, M, M, X (R (v := -11) (by rw [if_pos q1])) (ite_i (fun t => absurd rfl t) (fun _ => rfl)), Y (ite_i (fun t => absurd q2 t) (fun _ => rfl)), i⟩
      · exact ⟨-12, M, M, X (R (v := -12) (by rw [if_neg (by omega), if_neg (by omega)])) (ite_i (fun _ => ite_i (fun t => absurd t (by decide)) (fun _ => rfl)) (fun t => absurd (by decide) t)), Y (ite_i (fun _ => ⟨z, ite_i (fun t => absurd t (by omega)) (fun _ => rfl)⟩) (fun t => absurd (by omega) t)), i⟩
      · by_cases qs : M 52 p = 0
        · obtain ⟨v, v0, v12, vok, vX, vM⟩ := cards_two i z q1 qs hb y.2 (w4 := (0, 0)) w01 n.toNat 0 (by omega) (by omega) (fun j f j0 j1 => absurd j1 (by omega))
          obtain ⟨C, hC, hx⟩ := vX M (CC_0 i)
          obtain ⟨N, n1, n2, hm⟩ := vM C C hC.1 (To.refl _ C) (MM_0 (hC.1 64 0 (by unfold TCc; omega))) (3, 0) (3, 0) (3, 0) (3, 0) (3, 0)
          have c84 : C 84 p = 0 := by rw [hC.1 84 p (by unfold TCc; omega)]; omega
          exact ⟨v, C, N, X (R (v := 0) (by rw [if_neg (by omega), if_pos ⟨q1, qs⟩])) (ite_i (fun _ => ite_i (fun _ => hx) (fun t => absurd rfl t)) (fun t => absurd (by decide) t)), Y (ite_i (fun _ => ⟨z, ite_i (fun _ => hm) (fun t => absurd c84 t)⟩) (fun t => absurd (by omega) t)), cards_inv i v0 v12 hC n1 n2 vok⟩
        · exact ⟨-12, M, M, X (R (v := -12) (by rw [if_neg (by omega), if_neg (by omega)])) (ite_i (fun _ => ite_i (fun t => absurd t (by decide)) (fun _ => rfl)) (fun t => absurd (by decide) t)), Y (ite_i (fun _ => ⟨z, ite_i (fun t => absurd t (by omega)) (fun _ => rfl)⟩) (fun t => absurd (by omega) t)), i⟩
    · exact ⟨-1, M, M, sg_X_cards (d := 79) ⟨_, c_S_has (by decide), ite_b (fun t => absurd z t) (fun _ => ite_i (fun _ => rfl) (fun t => ite_i (fun t2 => absurd ⟨by omega, t2⟩ y) (fun _ => rfl)))⟩, sg_M_cards (d := 79) ⟨_, c_M_isShelf (by decide), ite_b (fun t => absurd z t) (fun _ => ⟨_, c_M_within (by decide), ite_bn (fun t => absurd t y) (fun _ => rfl)⟩)⟩, i⟩
  · exact ⟨-1, M, M, sg_X_cards (d := 79) ⟨_, c_S_has (by decide), ite_b (fun _ => rfl) (fun t => absurd t z)⟩, sg_M_cards (d := 79) ⟨_, c_M_isShelf (by decide), ite_b (fun _ => rfl) (fun t => absurd t z)⟩, i⟩
end P34
