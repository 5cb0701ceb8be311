/-! the law's loop: every call of the script is answered alike, whatever was called before -/
section P60
variable {sx : SX} {l3 : Int} {M : Mem}
theorem lcmp_self (v : Int) : lcmpI v v = 0 := by
  unfold lcmpI
  rw [if_neg (by omega)]
  first | exact if_pos rfl | (rw [if_neg (by omega)])
def WG (sx : SX) (l3 : Int) (M : Mem) : Prop := INV M ∧ (∀ j : Int, c32 (sx.2 j)) ∧ (∀ N, INV N → ∃ R : Mem, at_W_law_1135 sx 80 l3 N (some (0, 1), R)) ∧ (0 ≤ w32 (l3 + 1) ∧ w32 (l3 + 1) < sx.1) ∧ (0 ≤ w32 (l3 + 2) ∧ w32 (l3 + 2) < sx.1) ∧ (0 ≤ w32 (l3 + 3) ∧ w32 (l3 + 3) < sx.1) ∧ (0 ≤ w32 (l3 + 4) ∧ w32 (l3 + 4) < sx.1) ∧ (0 ≤ w32 (l3 + 5) ∧ w32 (l3 + 5) < sx.1)
theorem wc_22 (w : WG sx l3 M) : ∃ R : Mem, at_W_law_22 sx 80 l3 M (some (0, 1), R) := by
  obtain ⟨i, hc, nx, g1, g2, g3, g4, g5⟩ := w
  obtain ⟨v, M1, M2, a, b, i2⟩ : Pk m_X_card m_M_card [] M := pk_card i
  obtain ⟨R, hR⟩ := nx M2 i2
  exact ⟨R, sg_W_law_22 ⟨v, M1, a, v, M2, b, ite_i (fun _ => hR) (fun q => absurd rfl q)⟩⟩
theorem wc_29 (w : WG sx l3 M) : ∃ R : Mem, at_W_law_29 sx 80 l3 M (some (0, 1), R) := by
  obtain ⟨i, hc, nx, g1, g2, g3, g4, g5⟩ := w
  obtain ⟨v, M1, M2, a, b, i2⟩ : Pk m_X_cards m_M_cards [(0, sx.2 (w32 (l3 + 1))), (0, sx.2 (w32 (l3 + 2))), (0, sx.2 (w32 (l3 + 3)))] M := pk_cards i (hc _)
  obtain ⟨R, hR⟩ := nx M2 i2
  exact ⟨R, sg_W_law_29 ⟨g1, g2, g3, v, M1, a, g1, g2, g3, v, M2, b, ite_i (fun _ => hR) (fun q => absurd rfl q)⟩⟩
theorem wc_66 (w : WG sx l3 M) : ∃ R : Mem, at_W_law_66 sx 80 l3 M (some (0, 1), R) := by
  obtain ⟨i, hc, nx, g1, g2, g3, g4, g5⟩ := w
  obtain ⟨v, M1, M2, a, b, i2⟩ : Pk m_X_mend m_M_mend [(0, sx.2 (w32 (l3 + 1))), (0, sx.2 (w32 (l3 + 2))), (0, sx.2 (w32 (l3 + 3)))] M := pk_mend i (hc _)
  obtain ⟨R, hR⟩ := nx M2 i2
  exact ⟨R, sg_W_law_66 ⟨g1, g2, g3, v, M1, a, g1, g2, g3, v, M2, b, ite_i (fun _ => hR) (fun q => absurd rfl q)⟩⟩
theorem wc_103 (w : WG sx l3 M) : ∃ R : Mem, at_W_law_103 sx 80 l3 M (some (0, 1), R) := by
  obtain ⟨i, hc, nx, g1, g2, g3, g4, g5⟩ := w
  obtain ⟨v, a, b⟩ : Bo m_X_of m_M_of [(0, sx.2 (w32 (l3 + 1))), (0, sx.2 (w32 (l3 + 2)))] M := pr_of i.1 i.2.1 i.2.2.2.1 (hc _)
  obtain ⟨R, hR⟩ := nx M i
  exact ⟨R, sg_W_law_103 ⟨g1, g2, v, a.mono (by decide), g1, g2, v, b.mono (by decide), ite_i (fun _ => hR) (fun q => absurd rfl q)⟩⟩
theorem wc_130 (w : WG sx l3 M) : ∃ R : Mem, at_W_law_130 sx 80 l3 M (some (0, 1), R) := by
  obtain ⟨i, hc, nx, g1, g2, g3, g4, g5⟩ := w
  obtain ⟨v, M1, M2, a, b, i2⟩ : Pk m_X_feed m_M_feed [(0, sx.2 (w32 (l3 + 1)))] M := pk_feed i
  obtain ⟨R, hR⟩ := nx M2 i2
  exact ⟨R, sg_W_law_130 ⟨g1, v, M1, a, g1, v, M2, b, ite_i (fun _ => hR) (fun q => absurd rfl q)⟩⟩
theorem wc_147 (w : WG sx l3 M) : ∃ R : Mem, at_W_law_147 sx 80 l3 M (some (0, 1), R) := by
  obtain ⟨i, hc, nx, g1, g2, g3, g4, g5⟩ := w
  obtain ⟨v, M1, M2, a, b, i2⟩ : Pk m_X_law m_M_law [] M := pk_law i
  obtain ⟨R, hR⟩ := nx M2 i2
  exact ⟨R, sg_W_law_147 ⟨v, M1, a, v, M2, b, ite_i (fun _ => hR) (fun q => absurd rfl q)⟩⟩
theorem wc_154 (w : WG sx l3 M) : ∃ R : Mem, at_W_law_154 sx 80 l3 M (some (0, 1), R) := by
  obtain ⟨i, hc, nx, g1, g2, g3, g4, g5⟩ := w
  obtain ⟨v, M1, M2, a, b, i2⟩ : Pk m_X_alike m_M_alike [(0, sx.2 (w32 (l3 + 1))), (0, sx.2 (w32 (l3 + 2)))] M := pk_alike i (hc _)
  obtain ⟨R, hR⟩ := nx M2 i2
  exact ⟨R, sg_W_law_154 ⟨g1, g2, v, M1, a, g1, g2, v, M2, b, ite_i (fun _ => hR) (fun q => absurd rfl q)⟩⟩
theorem wc_181 (w : WG sx l3 M) : ∃ R : Mem, at_W_law_181 sx 80 l3 M (some (0, 1), R) := by
  obtain ⟨i, hc, nx, g1, g2, g3, g4, g5⟩ := w
  obtain ⟨v, a, b⟩ : Bo m_X_drawer m_M_drawer [(0, sx.2 (w32 (l3 + 1))), (0, sx.2 (w32 (l3 + 2)))] M := pr_drawer i.1 i.2.2.1
  obtain ⟨R, hR⟩ := nx M i
  exact ⟨R, sg_W_law_181 ⟨g1, g2, v, a.mono (by decide), g1, g2, v, b.mono (by decide), ite_i (fun _ => hR) (fun q => absurd rfl q)⟩⟩
theorem wc_208 (w : WG sx l3 M) : ∃ R : Mem, at_W_law_208 sx 80 l3 M (some (0, 1), R) := by
  obtain ⟨i, hc, nx, g1, g2, g3, g4, g5⟩ := w
  obtain ⟨v, a, b⟩ : Bo m_X_may m_M_may [(0, sx.2 (w32 (l3 + 1))), (0, sx.2 (w32 (l3 + 2)))] M := pr_may i.1 i.2.2.1
  obtain ⟨R, hR⟩ := nx M i
  exact ⟨R, sg_W_law_208 ⟨g1, g2, v, a.mono (by decide), g1, g2, v, b.mono (by decide), ite_i (fun _ => hR) (fun q => absurd rfl q)⟩⟩
theorem wc_235 (w : WG sx l3 M) : ∃ R : Mem, at_W_law_235 sx 80 l3 M (some (0, 1), R) := by
  obtain ⟨i, hc, nx, g1, g2, g3, g4, g5⟩ := w
  obtain ⟨v, a, b⟩ : Bo m_X_misfiled m_M_misfiled [] M := pr_misfiled i.1 i.2.2.1 i.2.2.2.1
  obtain ⟨R, hR⟩ := nx M i
  exact ⟨R, sg_W_law_235 ⟨v, a.mono (by decide), v, b.mono (by decide), ite_i (fun _ => hR) (fun q => absurd rfl q)⟩⟩
theorem wc_242 (w : WG sx l3 M) : ∃ R : Mem, at_W_law_242 sx 80 l3 M (some (0, 1), R) := by
  obtain ⟨i, hc, nx, g1, g2, g3, g4, g5⟩ := w
  obtain ⟨v, a, b⟩ : Bo m_X_found m_M_found [(0, sx.2 (w32 (l3 + 1)))] M := pr_found i.1 i.2.2.1 i.2.2.2.1
  obtain ⟨R, hR⟩ := nx M i
  exact ⟨R, sg_W_law_242 ⟨g1, v, a.mono (by decide), g1, v, b.mono (by decide), ite_i (fun _ => hR) (fun q => absurd rfl q)⟩⟩
theorem wc_259 (w : WG sx l3 M) : ∃ R : Mem, at_W_law_259 sx 80 l3 M (some (0, 1), R) := by
  obtain ⟨i, hc, nx, g1, g2, g3, g4, g5⟩ := w
  obtain ⟨v, a, b⟩ : Bo m_X_full m_M_full [(0, sx.2 (w32 (l3 + 1)))] M := pr_full i.1 i.2.2.1
  obtain ⟨R, hR⟩ := nx M i
  exact ⟨R, sg_W_law_259 ⟨g1, v, a.mono (by decide), g1, v, b.mono (by decide), ite_i (fun _ => hR) (fun q => absurd rfl q)⟩⟩
theorem wc_276 (w : WG sx l3 M) : ∃ R : Mem, at_W_law_276 sx 80 l3 M (some (0, 1), R) := by
  obtain ⟨i, hc, nx, g1, g2, g3, g4, g5⟩ := w
  obtain ⟨v, a, b⟩ : Bo m_X_look m_M_look [(0, sx.2 (w32 (l3 + 1))), (0, sx.2 (w32 (l3 + 2)))] M := pr_look i.1 i.2.2.1 (hc _)
  obtain ⟨R, hR⟩ := nx M i
  exact ⟨R, sg_W_law_276 ⟨g1, g2, v, a.mono (by decide), g1, g2, v, b.mono (by decide), ite_i (fun _ => hR) (fun q => absurd rfl q)⟩⟩
theorem wc_303 (w : WG sx l3 M) : ∃ R : Mem, at_W_law_303 sx 80 l3 M (some (0, 1), R) := by
  obtain ⟨i, hc, nx, g1, g2, g3, g4, g5⟩ := w
  obtain ⟨v, M1, M2, a, b, i2⟩ : Pk m_X_same m_M_same [(0, sx.2 (w32 (l3 + 1))), (0, sx.2 (w32 (l3 + 2)))] M := pk_same i (hc _)
  obtain ⟨R, hR⟩ := nx M2 i2
  exact ⟨R, sg_W_law_303 ⟨g1, g2, v, M1, a, g1, g2, v, M2, b, ite_i (fun _ => hR) (fun q => absurd rfl q)⟩⟩
theorem wc_330 (w : WG sx l3 M) : ∃ R : Mem, at_W_law_330 sx 80 l3 M (some (0, 1), R) := by
  obtain ⟨i, hc, nx, g1, g2, g3, g4, g5⟩ := w
  obtain ⟨v, a, b⟩ : Bo m_X_oneMan m_M_oneMan [(0, sx.2 (w32 (l3 + 1)))] M := pr_oneMan i.1 i.2.1
  obtain ⟨R, hR⟩ := nx M i
  exact ⟨R, sg_W_law_330 ⟨g1, v, a.mono (by decide), g1, v, b.mono (by decide), ite_i (fun _ => hR) (fun q => absurd rfl q)⟩⟩
theorem wc_347 (w : WG sx l3 M) : ∃ R : Mem, at_W_law_347 sx 80 l3 M (some (0, 1), R) := by
  obtain ⟨i, hc, nx, g1, g2, g3, g4, g5⟩ := w
  obtain ⟨v, M1, M2, a, b, i2⟩ : Pk m_X_nearest m_M_nearest [(0, sx.2 (w32 (l3 + 1)))] M := pk_nearest i
  obtain ⟨R, hR⟩ := nx M2 i2
  exact ⟨R, sg_W_law_347 ⟨g1, v, M1, a, g1, v, M2, b, ite_i (fun _ => hR) (fun q => absurd rfl q)⟩⟩
set_option maxRecDepth 20000 in
theorem sk_W_law_364 {sx : SX} {d : Nat} {l3 : Int} {M : Mem} {r : Res} (h : (0 ≤ w32 (l3 + 1) ∧ w32 (l3 + 1) < sx.1) ∧ (0 ≤ w32 (l3 + 2) ∧ w32 (l3 + 2) < sx.1) ∧ ∃ v4 Ma, Cl d m_X_whose [(2, 0), (0, sx.2 (w32 (l3 + 1))), (0, sx.2 (w32 (l3 + 2)))] M (some (0, v4), Ma) ∧ (0 ≤ w32 (l3 + 1) ∧ w32 (l3 + 1) < sx.1) ∧ (0 ≤ w32 (l3 + 2) ∧ w32 (l3 + 2) < sx.1) ∧ ∃ v8 Mb, Cl d m_M_whose [(2, 64), (0, sx.2 (w32 (l3 + 1))), (0, sx.2 (w32 (l3 + 2)))] Ma (some (0, v8), Mb) ∧ (if v4 = v8 then at_W_law_1135 sx d l3 Mb r else r = (some (0, 0), Mb))) : at_W_law_364 sx d l3 M r := by
  unfold at_W_law_364
  refine x_al (pc' := 365) rfl rfl (by decide) rfl ?_
  refine x_al (pc' := 366) rfl rfl (by decide) rfl ?_
  refine x_il (pc' := 367) rfl rfl rfl ?_
  refine x_c (pc' := 368) rfl rfl ?_
  refine x_ib (pc' := 369) (v := w32 (l3 + 1)) rfl rfl rfl ?_
  obtain ⟨q1, h⟩ := h
  refine x_iav (pc' := 370) (v := sx.2 (w32 (l3 + 1))) rfl (ld_sx q1) rfl ?_
  refine x_al (pc' := 371) rfl rfl (by decide) rfl ?_
  refine x_il (pc' := 372) rfl rfl rfl ?_
  refine x_c (pc' := 373) rfl rfl ?_
  refine x_ib (pc' := 374) (v := w32 (l3 + 2)) rfl rfl rfl ?_
  obtain ⟨q2, h⟩ := h
  refine x_iav (pc' := 375) (v := sx.2 (w32 (l3 + 2))) rfl (ld_sx q2) rfl ?_
  obtain ⟨v4, Ma, q3, h⟩ := h
  refine x_call (pc' := 376) (as := [(2, 0), (0, sx.2 (w32 (l3 + 1))), (0, sx.2 (w32 (l3 + 2)))]) (rest := []) rfl rfl rfl rfl rfl rfl q3 ?_
  refine x_al (pc' := 377) rfl rfl (by decide) rfl ?_
  refine x_al (pc' := 378) rfl rfl (by decide) rfl ?_
  refine x_il (pc' := 379) rfl rfl rfl ?_
  refine x_c (pc' := 380) rfl rfl ?_
  refine x_ib (pc' := 381) (v := w32 (l3 + 1)) rfl rfl rfl ?_
  obtain ⟨q5, h⟩ := h
  refine x_iav (pc' := 382) (v := sx.2 (w32 (l3 + 1))) rfl (ld_sx q5) rfl ?_
  refine x_al (pc' := 383) rfl rfl (by decide) rfl ?_
  refine x_il (pc' := 384) rfl rfl rfl ?_
  refine x_c (pc' := 385) rfl rfl ?_
  refine x_ib (pc' := 386) (v := w32 (l3 + 2)) rfl rfl rfl ?_
  obtain ⟨q6, h⟩ := h
  refine x_iav (pc' := 387) (v := sx.2 (w32 (l3 + 2))) rfl (ld_sx q6) rfl ?_
  obtain ⟨v8, Mb, q7, h⟩ := h
  refine x_call (pc' := 388) (as := [(2, 64), (0, sx.2 (w32 (l3 + 1))), (0, sx.2 (w32 (l3 + 2)))]) (rest := [(0, v4)]) rfl rfl rfl rfl rfl rfl q7 ?_
  refine x_iceq (pc' := 389) (t' := 1135) rfl rfl rfl (fun q10 => ?_) (fun q10 => ?_)
  · replace h := ite_t q10 h
    exact h
  · replace h := ite_f q10 h
    refine x_c (pc' := 390) rfl rfl ?_
    exact x_zret rfl (by decide) h
theorem wc_364 (w : WG sx l3 M) : ∃ R : Mem, at_W_law_364 sx 80 l3 M (some (0, 1), R) := by
  obtain ⟨i, hc, nx, g1, g2, g3, g4, g5⟩ := w
  obtain ⟨v, M1, M2, a, b, i2⟩ : Pk m_X_whose m_M_whose [(0, sx.2 (w32 (l3 + 1))), (0, sx.2 (w32 (l3 + 2)))] M := (pr_whose i.1 i.2.1 (hc _)).pk i
  obtain ⟨R, hR⟩ := nx M2 i2
  exact ⟨R, sk_W_law_364 ⟨g1, g2, v, M1, a, g1, g2, v, M2, b, ite_i (fun _ => hR) (fun q => absurd rfl q)⟩⟩
theorem wc_391 (w : WG sx l3 M) : ∃ R : Mem, at_W_law_391 sx 80 l3 M (some (0, 1), R) := by
  obtain ⟨i, hc, nx, g1, g2, g3, g4, g5⟩ := w
  obtain ⟨v, M1, M2, a, b, i2⟩ : Pk m_X_best m_M_best [(0, sx.2 (w32 (l3 + 1)))] M := pk_best i (hc _)
  obtain ⟨R, hR⟩ := nx M2 i2
  exact ⟨R, sg_W_law_391 ⟨g1, v, M1, a, g1, v, M2, b, ite_i (fun _ => hR) (fun q => absurd rfl q)⟩⟩
set_option maxRecDepth 20000 in
theorem sk_W_law_408 {sx : SX} {d : Nat} {l3 : Int} {M : Mem} {r : Res} (h : (0 ≤ w32 (l3 + 1) ∧ w32 (l3 + 1) < sx.1) ∧ ∃ v3 Ma, Cl d m_X_drawers [(2, 0), (0, sx.2 (w32 (l3 + 1)))] M (some (0, v3), Ma) ∧ (0 ≤ w32 (l3 + 1) ∧ w32 (l3 + 1) < sx.1) ∧ ∃ v6 Mb, Cl d m_M_drawers [(2, 64), (0, sx.2 (w32 (l3 + 1)))] Ma (some (0, v6), Mb) ∧ (if v3 = v6 then at_W_law_1135 sx d l3 Mb r else r = (some (0, 0), Mb))) : at_W_law_408 sx d l3 M r := by
  unfold at_W_law_408
  refine x_al (pc' := 409) rfl rfl (by decide) rfl ?_
  refine x_al (pc' := 410) rfl rfl (by decide) rfl ?_
  refine x_il (pc' := 411) rfl rfl rfl ?_
  refine x_c (pc' := 412) rfl rfl ?_
  refine x_ib (pc' := 413) (v := w32 (l3 + 1)) rfl rfl rfl ?_
  obtain ⟨q1, h⟩ := h
  refine x_iav (pc' := 414) (v := sx.2 (w32 (l3 + 1))) rfl (ld_sx q1) rfl ?_
  obtain ⟨v3, Ma, q2, h⟩ := h
  refine x_call (pc' := 415) (as := [(2, 0), (0, sx.2 (w32 (l3 + 1)))]) (rest := []) rfl rfl rfl rfl rfl rfl q2 ?_
  refine x_al (pc' := 416) rfl rfl (by decide) rfl ?_
  refine x_al (pc' := 417) rfl rfl (by decide) rfl ?_
  refine x_il (pc' := 418) rfl rfl rfl ?_
  refine x_c (pc' := 419) rfl rfl ?_
  refine x_ib (pc' := 420) (v := w32 (l3 + 1)) rfl rfl rfl ?_
  obtain ⟨q4, h⟩ := h
  refine x_iav (pc' := 421) (v := sx.2 (w32 (l3 + 1))) rfl (ld_sx q4) rfl ?_
  obtain ⟨v6, Mb, q5, h⟩ := h
  refine x_call (pc' := 422) (as := [(2, 64), (0, sx.2 (w32 (l3 + 1)))]) (rest := [(0, v3)]) rfl rfl rfl rfl rfl rfl q5 ?_
  refine x_iceq (pc' := 423) (t' := 1135) rfl rfl rfl (fun q8 => ?_) (fun q8 => ?_)
  · replace h := ite_t q8 h
    exact h
  · replace h := ite_f q8 h
    refine x_c (pc' := 424) rfl rfl ?_
    exact x_zret rfl (by decide) h
theorem wc_408 (w : WG sx l3 M) : ∃ R : Mem, at_W_law_408 sx 80 l3 M (some (0, 1), R) := by
  obtain ⟨i, hc, nx, g1, g2, g3, g4, g5⟩ := w
  obtain ⟨v, M1, M2, a, b, i2⟩ : Pk m_X_drawers m_M_drawers [(0, sx.2 (w32 (l3 + 1)))] M := (pr_drawers i.1 i.2.1 i.2.2.1 (hc _)).pk i
  obtain ⟨R, hR⟩ := nx M2 i2
  exact ⟨R, sk_W_law_408 ⟨g1, v, M1, a, g1, v, M2, b, ite_i (fun _ => hR) (fun q => absurd rfl q)⟩⟩
theorem wc_425 (w : WG sx l3 M) : ∃ R : Mem, at_W_law_425 sx 80 l3 M (some (0, 1), R) := by
  obtain ⟨i, hc, nx, g1, g2, g3, g4, g5⟩ := w
  obtain ⟨v, M1, M2, a, b, i2⟩ : PkL m_X_order m_M_order [(0, sx.2 (w32 (l3 + 1))), (0, sx.2 (w32 (l3 + 2)))] M := pk_order i (hc _)
  obtain ⟨R, hR⟩ := nx M2 i2
  exact ⟨R, sg_W_law_425 ⟨g1, g2, v, M1, a, g1, g2, v, M2, b, ite_i (fun _ => hR) (fun q => absurd (lcmp_self _) q)⟩⟩
theorem wc_453 (w : WG sx l3 M) : ∃ R : Mem, at_W_law_453 sx 80 l3 M (some (0, 1), R) := by
  obtain ⟨i, hc, nx, g1, g2, g3, g4, g5⟩ := w
  obtain ⟨v, a, b⟩ : Bo m_X_sign m_M_sign_ [(0, sx.2 (w32 (l3 + 1)))] M := pr_sign i.1 i.2.1
  obtain ⟨R, hR⟩ := nx M i
  exact ⟨R, sg_W_law_453 ⟨g1, v, a.mono (by decide), g1, v, b.mono (by decide), ite_i (fun _ => hR) (fun q => absurd rfl q)⟩⟩
set_option maxRecDepth 20000 in
theorem sk_W_law_470 {sx : SX} {d : Nat} {l3 : Int} {M : Mem} {r : Res} (h : (0 ≤ w32 (l3 + 1) ∧ w32 (l3 + 1) < sx.1) ∧ ∃ v3 Ma, Cl d m_X_signs [(2, 0), (0, sx.2 (w32 (l3 + 1)))] M (some (0, v3), Ma) ∧ (0 ≤ w32 (l3 + 1) ∧ w32 (l3 + 1) < sx.1) ∧ ∃ v7 Mb, Cl d m_M_signs [(2, 64), (0, sx.2 (w32 (l3 + 1)))] Ma (some (0, v7), Mb) ∧ (if v3 = v7 then at_W_law_1135 sx d l3 Mb r else r = (some (0, 0), Mb))) : at_W_law_470 sx d l3 M r := by
  unfold at_W_law_470
  refine x_al (pc' := 471) rfl rfl (by decide) rfl ?_
  refine x_al (pc' := 472) rfl rfl (by decide) rfl ?_
  refine x_il (pc' := 473) rfl rfl rfl ?_
  refine x_c (pc' := 474) rfl rfl ?_
  refine x_ib (pc' := 475) (v := w32 (l3 + 1)) rfl rfl rfl ?_
  obtain ⟨q1, h⟩ := h
  refine x_iav (pc' := 476) (v := sx.2 (w32 (l3 + 1))) rfl (ld_sx q1) rfl ?_
  obtain ⟨v3, Ma, q2, h⟩ := h
  refine x_call (pc' := 477) (as := [(2, 0), (0, sx.2 (w32 (l3 + 1)))]) (rest := []) rfl rfl rfl rfl rfl rfl q2 ?_
  refine x_al (pc' := 478) rfl rfl (by decide) rfl ?_
  refine x_al (pc' := 479) rfl rfl (by decide) rfl ?_
  refine x_il (pc' := 480) rfl rfl rfl ?_
  refine x_c (pc' := 481) rfl rfl ?_
  refine x_ib (pc' := 482) (v := w32 (l3 + 1)) rfl rfl rfl ?_
  obtain ⟨q5, h⟩ := h
  refine x_iav (pc' := 483) (v := sx.2 (w32 (l3 + 1))) rfl (ld_sx q5) rfl ?_
  obtain ⟨v7, Mb, q6, h⟩ := h
  refine x_call (pc' := 484) (as := [(2, 64), (0, sx.2 (w32 (l3 + 1)))]) (rest := [(0, v3)]) rfl rfl rfl rfl rfl rfl q6 ?_
  refine x_iceq (pc' := 485) (t' := 1135) rfl rfl rfl (fun q8 => ?_) (fun q8 => ?_)
  · replace h := ite_t q8 h
    exact h
  · replace h := ite_f q8 h
    refine x_c (pc' := 486) rfl rfl ?_
    exact x_zret rfl (by decide) h
theorem wc_470 (w : WG sx l3 M) : ∃ R : Mem, at_W_law_470 sx 80 l3 M (some (0, 1), R) := by
  obtain ⟨i, hc, nx, g1, g2, g3, g4, g5⟩ := w
  obtain ⟨v, M1, M2, a, b, i2⟩ : Pk m_X_signs m_M_signs [(0, sx.2 (w32 (l3 + 1)))] M := (pr_signs i.1 i.2.1).pk i
  obtain ⟨R, hR⟩ := nx M2 i2
  exact ⟨R, sk_W_law_470 ⟨g1, v, M1, a, g1, v, M2, b, ite_i (fun _ => hR) (fun q => absurd rfl q)⟩⟩
set_option maxRecDepth 20000 in
theorem sk_W_law_487 {sx : SX} {d : Nat} {l3 : Int} {M : Mem} {r : Res} (h : (0 ≤ w32 (l3 + 1) ∧ w32 (l3 + 1) < sx.1) ∧ (0 ≤ w32 (l3 + 2) ∧ w32 (l3 + 2) < sx.1) ∧ ∃ v4 Ma, Cl d m_X_enough [(2, 0), (0, sx.2 (w32 (l3 + 1))), (0, sx.2 (w32 (l3 + 2)))] M (some (0, v4), Ma) ∧ (0 ≤ w32 (l3 + 1) ∧ w32 (l3 + 1) < sx.1) ∧ (0 ≤ w32 (l3 + 2) ∧ w32 (l3 + 2) < sx.1) ∧ ∃ v8 Mb, Cl d m_M_enough [(2, 64), (0, sx.2 (w32 (l3 + 1))), (0, sx.2 (w32 (l3 + 2)))] Ma (some (0, v8), Mb) ∧ (if v4 = v8 then at_W_law_1135 sx d l3 Mb r else r = (some (0, 0), Mb))) : at_W_law_487 sx d l3 M r := by
  unfold at_W_law_487
  refine x_al (pc' := 488) rfl rfl (by decide) rfl ?_
  refine x_al (pc' := 489) rfl rfl (by decide) rfl ?_
  refine x_il (pc' := 490) rfl rfl rfl ?_
  refine x_c (pc' := 491) rfl rfl ?_
  refine x_ib (pc' := 492) (v := w32 (l3 + 1)) rfl rfl rfl ?_
  obtain ⟨q1, h⟩ := h
  refine x_iav (pc' := 493) (v := sx.2 (w32 (l3 + 1))) rfl (ld_sx q1) rfl ?_
  refine x_al (pc' := 494) rfl rfl (by decide) rfl ?_
  refine x_il (pc' := 495) rfl rfl rfl ?_
  refine x_c (pc' := 496) rfl rfl ?_
  refine x_ib (pc' := 497) (v := w32 (l3 + 2)) rfl rfl rfl ?_
  obtain ⟨q2, h⟩ := h
  refine x_iav (pc' := 498) (v := sx.2 (w32 (l3 + 2))) rfl (ld_sx q2) rfl ?_
  obtain ⟨v4, Ma, q3, h⟩ := h
  refine x_call (pc' := 499) (as := [(2, 0), (0, sx.2 (w32 (l3 + 1))), (0, sx.2 (w32 (l3 + 2)))]) (rest := []) rfl rfl rfl rfl rfl rfl q3 ?_
  refine x_al (pc' := 500) rfl rfl (by decide) rfl ?_
  refine x_al (pc' := 501) rfl rfl (by decide) rfl ?_
  refine x_il (pc' := 502) rfl rfl rfl ?_
  refine x_c (pc' := 503) rfl rfl ?_
  refine x_ib (pc' := 504) (v := w32 (l3 + 1)) rfl rfl rfl ?_
  obtain ⟨q5, h⟩ := h
  refine x_iav (pc' := 505) (v := sx.2 (w32 (l3 + 1))) rfl (ld_sx q5) rfl ?_
  refine x_al (pc' := 506) rfl rfl (by decide) rfl ?_
  refine x_il (pc' := 507) rfl rfl rfl ?_
  refine x_c (pc' := 508) rfl rfl ?_
  refine x_ib (pc' := 509) (v := w32 (l3 + 2)) rfl rfl rfl ?_
  obtain ⟨q6, h⟩ := h
  refine x_iav (pc' := 510) (v := sx.2 (w32 (l3 + 2))) rfl (ld_sx q6) rfl ?_
  obtain ⟨v8, Mb, q7, h⟩ := h
  refine x_call (pc' := 511) (as := [(2, 64), (0, sx.2 (w32 (l3 + 1))), (0, sx.2 (w32 (l3 + 2)))]) (rest := [(0, v4)]) rfl rfl rfl rfl rfl rfl q7 ?_
  refine x_iceq (pc' := 512) (t' := 1135) rfl rfl rfl (fun q9 => ?_) (fun q9 => ?_)
  · replace h := ite_t q9 h
    exact h
  · replace h := ite_f q9 h
    refine x_c (pc' := 513) rfl rfl ?_
    exact x_zret rfl (by decide) h
theorem wc_487 (w : WG sx l3 M) : ∃ R : Mem, at_W_law_487 sx 80 l3 M (some (0, 1), R) := by
  obtain ⟨i, hc, nx, g1, g2, g3, g4, g5⟩ := w
  obtain ⟨v, M1, M2, a, b, i2⟩ : Pk m_X_enough m_M_enough [(0, sx.2 (w32 (l3 + 1))), (0, sx.2 (w32 (l3 + 2)))] M := pk_enough i (hc _)
  obtain ⟨R, hR⟩ := nx M2 i2
  exact ⟨R, sk_W_law_487 ⟨g1, g2, v, M1, a, g1, g2, v, M2, b, ite_i (fun _ => hR) (fun q => absurd rfl q)⟩⟩
set_option maxRecDepth 20000 in
theorem sk_W_law_514 {sx : SX} {d : Nat} {l3 : Int} {M : Mem} {r : Res} (h : (0 ≤ w32 (l3 + 1) ∧ w32 (l3 + 1) < sx.1) ∧ (0 ≤ w32 (l3 + 2) ∧ w32 (l3 + 2) < sx.1) ∧ (0 ≤ w32 (l3 + 3) ∧ w32 (l3 + 3) < sx.1) ∧ ∃ v5 Ma, Cl d m_X_chance [(2, 0), (0, sx.2 (w32 (l3 + 1))), (0, sx.2 (w32 (l3 + 2))), (0, sx.2 (w32 (l3 + 3)))] M (some (1, v5), Ma) ∧ (0 ≤ w32 (l3 + 1) ∧ w32 (l3 + 1) < sx.1) ∧ (0 ≤ w32 (l3 + 2) ∧ w32 (l3 + 2) < sx.1) ∧ (0 ≤ w32 (l3 + 3) ∧ w32 (l3 + 3) < sx.1) ∧ ∃ v10 Mb, Cl d m_M_chance [(2, 64), (0, sx.2 (w32 (l3 + 1))), (0, sx.2 (w32 (l3 + 2))), (0, sx.2 (w32 (l3 + 3)))] Ma (some (1, v10), Mb) ∧ (if lcmpI v5 v10 = 0 then at_W_law_1135 sx d l3 Mb r else r = (some (0, 0), Mb))) : at_W_law_514 sx d l3 M r := by
  unfold at_W_law_514
  refine x_al (pc' := 515) rfl rfl (by decide) rfl ?_
  refine x_al (pc' := 516) rfl rfl (by decide) rfl ?_
  refine x_il (pc' := 517) rfl rfl rfl ?_
  refine x_c (pc' := 518) rfl rfl ?_
  refine x_ib (pc' := 519) (v := w32 (l3 + 1)) rfl rfl rfl ?_
  obtain ⟨q1, h⟩ := h
  refine x_iav (pc' := 520) (v := sx.2 (w32 (l3 + 1))) rfl (ld_sx q1) rfl ?_
  refine x_al (pc' := 521) rfl rfl (by decide) rfl ?_
  refine x_il (pc' := 522) rfl rfl rfl ?_
  refine x_c (pc' := 523) rfl rfl ?_
  refine x_ib (pc' := 524) (v := w32 (l3 + 2)) rfl rfl rfl ?_
  obtain ⟨q2, h⟩ := h
  refine x_iav (pc' := 525) (v := sx.2 (w32 (l3 + 2))) rfl (ld_sx q2) rfl ?_
  refine x_al (pc' := 526) rfl rfl (by decide) rfl ?_
  refine x_il (pc' := 527) rfl rfl rfl ?_
  refine x_c (pc' := 528) rfl rfl ?_
  refine x_ib (pc' := 529) (v := w32 (l3 + 3)) rfl rfl rfl ?_
  obtain ⟨q3, h⟩ := h
  refine x_iav (pc' := 530) (v := sx.2 (w32 (l3 + 3))) rfl (ld_sx q3) rfl ?_
  obtain ⟨v5, Ma, q4, h⟩ := h
  refine x_call (pc' := 531) (as := [(2, 0), (0, sx.2 (w32 (l3 + 1))), (0, sx.2 (w32 (l3 + 2))), (0, sx.2 (w32 (l3 + 3)))]) (rest := []) rfl rfl rfl rfl rfl rfl q4 ?_
  refine x_al (pc' := 532) rfl rfl (by decide) rfl ?_
  refine x_al (pc' := 533) rfl rfl (by decide) rfl ?_
  refine x_il (pc' := 534) rfl rfl rfl ?_
  refine x_c (pc' := 535) rfl rfl ?_
  refine x_ib (pc' := 536) (v := w32 (l3 + 1)) rfl rfl rfl ?_
  obtain ⟨q6, h⟩ := h
  refine x_iav (pc' := 537) (v := sx.2 (w32 (l3 + 1))) rfl (ld_sx q6) rfl ?_
  refine x_al (pc' := 538) rfl rfl (by decide) rfl ?_
  refine x_il (pc' := 539) rfl rfl rfl ?_
  refine x_c (pc' := 540) rfl rfl ?_
  refine x_ib (pc' := 541) (v := w32 (l3 + 2)) rfl rfl rfl ?_
  obtain ⟨q7, h⟩ := h
  refine x_iav (pc' := 542) (v := sx.2 (w32 (l3 + 2))) rfl (ld_sx q7) rfl ?_
  refine x_al (pc' := 543) rfl rfl (by decide) rfl ?_
  refine x_il (pc' := 544) rfl rfl rfl ?_
  refine x_c (pc' := 545) rfl rfl ?_
  refine x_ib (pc' := 546) (v := w32 (l3 + 3)) rfl rfl rfl ?_
  obtain ⟨q8, h⟩ := h
  refine x_iav (pc' := 547) (v := sx.2 (w32 (l3 + 3))) rfl (ld_sx q8) rfl ?_
  obtain ⟨v10, Mb, q9, h⟩ := h
  refine x_call (pc' := 548) (as := [(2, 64), (0, sx.2 (w32 (l3 + 1))), (0, sx.2 (w32 (l3 + 2))), (0, sx.2 (w32 (l3 + 3)))]) (rest := [(1, v5)]) rfl rfl rfl rfl rfl rfl q9 ?_
  refine x_lcmp (pc' := 549) rfl rfl ?_
  refine x_ifeq (pc' := 550) (t' := 1135) rfl rfl rfl (fun q11 => ?_) (fun q11 => ?_)
  · replace h := ite_t q11 h
    exact h
  · replace h := ite_f q11 h
    refine x_c (pc' := 551) rfl rfl ?_
    exact x_zret rfl (by decide) h
theorem wc_514 (w : WG sx l3 M) : ∃ R : Mem, at_W_law_514 sx 80 l3 M (some (0, 1), R) := by
  obtain ⟨i, hc, nx, g1, g2, g3, g4, g5⟩ := w
  obtain ⟨v, M1, M2, a, b, i2⟩ : PkL m_X_chance m_M_chance [(0, sx.2 (w32 (l3 + 1))), (0, sx.2 (w32 (l3 + 2))), (0, sx.2 (w32 (l3 + 3)))] M := pk_chance i (hc _)
  obtain ⟨R, hR⟩ := nx M2 i2
  exact ⟨R, sk_W_law_514 ⟨g1, g2, g3, v, M1, a, g1, g2, g3, v, M2, b, ite_i (fun _ => hR) (fun q => absurd (lcmp_self _) q)⟩⟩
theorem wc_552 (w : WG sx l3 M) : ∃ R : Mem, at_W_law_552 sx 80 l3 M (some (0, 1), R) := by
  obtain ⟨i, hc, nx, g1, g2, g3, g4, g5⟩ := w
  obtain ⟨-, -, -, -, h6, h7, h8, h9, h10, h11, h12, h13, -⟩ := id i
  obtain ⟨v, a, b⟩ : Bo m_X_who m_M_who [(0, sx.2 (w32 (l3 + 1)))] M := pr_who i.1 i.2.1 h13
  obtain ⟨R, hR⟩ := nx M i
  exact ⟨R, sg_W_law_552 ⟨g1, v, a.mono (by decide), g1, v, b.mono (by decide), ite_i (fun _ => hR) (fun q => absurd rfl q)⟩⟩
theorem wc_569 (w : WG sx l3 M) : ∃ R : Mem, at_W_law_569 sx 80 l3 M (some (0, 1), R) := by
  obtain ⟨i, hc, nx, g1, g2, g3, g4, g5⟩ := w
  obtain ⟨-, -, -, -, h6, h7, h8, h9, h10, h11, h12, h13, -⟩ := id i
  obtain ⟨v, a, b⟩ : Bo m_X_isTrue m_M_isTrue [(0, sx.2 (w32 (l3 + 1))), (0, sx.2 (w32 (l3 + 2)))] M := pr_isTrue i.1 i.2.1 h13
  obtain ⟨R, hR⟩ := nx M i
  exact ⟨R, sg_W_law_569 ⟨g1, g2, v, a.mono (by decide), g1, g2, v, b.mono (by decide), ite_i (fun _ => hR) (fun q => absurd rfl q)⟩⟩
theorem wc_596 (w : WG sx l3 M) : ∃ R : Mem, at_W_law_596 sx 80 l3 M (some (0, 1), R) := by
  obtain ⟨i, hc, nx, g1, g2, g3, g4, g5⟩ := w
  obtain ⟨v, a, b⟩ : Bo m_X_mended m_M_mended [(0, sx.2 (w32 (l3 + 1))), (0, sx.2 (w32 (l3 + 2))), (0, sx.2 (w32 (l3 + 3)))] M := pr_mended i.1 i.2.2.1
  obtain ⟨R, hR⟩ := nx M i
  exact ⟨R, sg_W_law_596 ⟨g1, g2, g3, v, a.mono (by decide), g1, g2, g3, v, b.mono (by decide), ite_i (fun _ => hR) (fun q => absurd rfl q)⟩⟩
theorem wc_633 (w : WG sx l3 M) : ∃ R : Mem, at_W_law_633 sx 80 l3 M (some (0, 1), R) := by
  obtain ⟨i, hc, nx, g1, g2, g3, g4, g5⟩ := w
  obtain ⟨-, -, -, -, h6, h7, h8, h9, h10, h11, h12, h13, -⟩ := id i
  obtain ⟨v, a, b⟩ : Bo m_X_judge m_M_judge [(0, sx.2 (w32 (l3 + 1)))] M := pr_judge i.1 i.2.2.1 h13
  obtain ⟨R, hR⟩ := nx M i
  exact ⟨R, sg_W_law_633 ⟨g1, v, a.mono (by decide), g1, v, b.mono (by decide), ite_i (fun _ => hR) (fun q => absurd rfl q)⟩⟩
theorem wc_650 (w : WG sx l3 M) : ∃ R : Mem, at_W_law_650 sx 80 l3 M (some (0, 1), R) := by
  obtain ⟨i, hc, nx, g1, g2, g3, g4, g5⟩ := w
  obtain ⟨-, -, -, -, h6, h7, h8, h9, h10, h11, h12, h13, -⟩ := id i
  obtain ⟨v, a, b⟩ : Bo m_X_clerk m_M_clerk [(0, sx.2 (w32 (l3 + 1)))] M := pr_clerk i.1 i.2.2.1 h13
  obtain ⟨R, hR⟩ := nx M i
  exact ⟨R, sg_W_law_650 ⟨g1, v, a.mono (by decide), g1, v, b.mono (by decide), ite_i (fun _ => hR) (fun q => absurd rfl q)⟩⟩
theorem wc_667 (w : WG sx l3 M) : ∃ R : Mem, at_W_law_667 sx 80 l3 M (some (0, 1), R) := by
  obtain ⟨i, hc, nx, g1, g2, g3, g4, g5⟩ := w
  obtain ⟨v, M1, M2, a, b, i2⟩ : Pk m_X_drawn m_M_drawn [(0, sx.2 (w32 (l3 + 1))), (0, sx.2 (w32 (l3 + 2))), (0, sx.2 (w32 (l3 + 3)))] M := pk_drawn i
  obtain ⟨R, hR⟩ := nx M2 i2
  exact ⟨R, sg_W_law_667 ⟨g1, g2, g3, v, M1, a, g1, g2, g3, v, M2, b, ite_i (fun _ => hR) (fun q => absurd rfl q)⟩⟩
theorem wc_704 (w : WG sx l3 M) : ∃ R : Mem, at_W_law_704 sx 80 l3 M (some (0, 1), R) := by
  obtain ⟨i, hc, nx, g1, g2, g3, g4, g5⟩ := w
  obtain ⟨v, M1, M2, a, b, i2⟩ : Pk m_X_file m_M_file [(0, sx.2 (w32 (l3 + 1))), (0, sx.2 (w32 (l3 + 2)))] M := pk_file i
  obtain ⟨R, hR⟩ := nx M2 i2
  exact ⟨R, sg_W_law_704 ⟨g1, g2, v, M1, a, g1, g2, v, M2, b, ite_i (fun _ => hR) (fun q => absurd rfl q)⟩⟩
theorem wc_731 (w : WG sx l3 M) : ∃ R : Mem, at_W_law_731 sx 80 l3 M (some (0, 1), R) := by
  obtain ⟨i, hc, nx, g1, g2, g3, g4, g5⟩ := w
  obtain ⟨v, M1, M2, a, b, i2⟩ : Pk m_X_take m_M_take [(0, sx.2 (w32 (l3 + 1)))] M := pk_take i
  obtain ⟨R, hR⟩ := nx M2 i2
  exact ⟨R, sg_W_law_731 ⟨g1, v, M1, a, g1, v, M2, b, ite_i (fun _ => hR) (fun q => absurd rfl q)⟩⟩
theorem wc_748 (w : WG sx l3 M) : ∃ R : Mem, at_W_law_748 sx 80 l3 M (some (0, 1), R) := by
  obtain ⟨i, hc, nx, g1, g2, g3, g4, g5⟩ := w
  obtain ⟨v, M1, M2, a, b, i2⟩ : Pk m_X_search m_M_search [(0, sx.2 (w32 (l3 + 1)))] M := pk_search i (hc _)
  obtain ⟨R, hR⟩ := nx M2 i2
  exact ⟨R, sg_W_law_748 ⟨g1, v, M1, a, g1, v, M2, b, ite_i (fun _ => hR) (fun q => absurd rfl q)⟩⟩
theorem wc_765 (w : WG sx l3 M) : ∃ R : Mem, at_W_law_765 sx 80 l3 M (some (0, 1), R) := by
  obtain ⟨i, hc, nx, g1, g2, g3, g4, g5⟩ := w
  obtain ⟨-, -, -, -, h6, h7, h8, h9, h10, h11, h12, h13, -⟩ := id i
  obtain ⟨v, a, b⟩ : Bo m_X_led m_M_led [(0, sx.2 (w32 (l3 + 1)))] M := pr_led h9
  obtain ⟨R, hR⟩ := nx M i
  exact ⟨R, sg_W_law_765 ⟨g1, v, a.mono (by decide), g1, v, b.mono (by decide), ite_i (fun _ => hR) (fun q => absurd rfl q)⟩⟩
theorem wc_782 (w : WG sx l3 M) : ∃ R : Mem, at_W_law_782 sx 80 l3 M (some (0, 1), R) := by
  obtain ⟨i, hc, nx, g1, g2, g3, g4, g5⟩ := w
  obtain ⟨v, M1, M2, a, b, i2⟩ : Pk m_X_image m_M_image [] M := pk_image i
  obtain ⟨R, hR⟩ := nx M2 i2
  exact ⟨R, sg_W_law_782 ⟨v, M1, a, v, M2, b, ite_i (fun _ => hR) (fun q => absurd rfl q)⟩⟩
theorem wc_789 (w : WG sx l3 M) : ∃ R : Mem, at_W_law_789 sx 80 l3 M (some (0, 1), R) := by
  obtain ⟨i, hc, nx, g1, g2, g3, g4, g5⟩ := w
  obtain ⟨v, M1, M2, a, b, i2⟩ : Pk m_X_back m_M_back [] M := pk_back i
  obtain ⟨R, hR⟩ := nx M2 i2
  exact ⟨R, sg_W_law_789 ⟨v, M1, a, v, M2, b, ite_i (fun _ => hR) (fun q => absurd rfl q)⟩⟩
theorem wc_796 (w : WG sx l3 M) : ∃ R : Mem, at_W_law_796 sx 80 l3 M (some (0, 1), R) := by
  obtain ⟨i, hc, nx, g1, g2, g3, g4, g5⟩ := w
  obtain ⟨v, M1, M2, a, b, i2⟩ : Pk m_X_undo m_M_undo [] M := pk_undo i
  obtain ⟨R, hR⟩ := nx M2 i2
  exact ⟨R, sg_W_law_796 ⟨v, M1, a, v, M2, b, ite_i (fun _ => hR) (fun q => absurd rfl q)⟩⟩
theorem wc_803 (w : WG sx l3 M) : ∃ R : Mem, at_W_law_803 sx 80 l3 M (some (0, 1), R) := by
  obtain ⟨i, hc, nx, g1, g2, g3, g4, g5⟩ := w
  obtain ⟨v, M1, M2, a, b, i2⟩ : Pk m_X_redo m_M_redo [] M := pk_redo i
  obtain ⟨R, hR⟩ := nx M2 i2
  exact ⟨R, sg_W_law_803 ⟨v, M1, a, v, M2, b, ite_i (fun _ => hR) (fun q => absurd rfl q)⟩⟩
theorem wc_810 (w : WG sx l3 M) : ∃ R : Mem, at_W_law_810 sx 80 l3 M (some (0, 1), R) := by
  obtain ⟨i, hc, nx, g1, g2, g3, g4, g5⟩ := w
  obtain ⟨v, M1, M2, a, b, i2⟩ : Pk m_X_body m_M_body [(0, sx.2 (w32 (l3 + 1)))] M := pk_body i
  obtain ⟨R, hR⟩ := nx M2 i2
  exact ⟨R, sg_W_law_810 ⟨g1, v, M1, a, g1, v, M2, b, ite_i (fun _ => hR) (fun q => absurd rfl q)⟩⟩
theorem wc_827 (w : WG sx l3 M) : ∃ R : Mem, at_W_law_827 sx 80 l3 M (some (0, 1), R) := by
  obtain ⟨i, hc, nx, g1, g2, g3, g4, g5⟩ := w
  obtain ⟨v, M1, M2, a, b, i2⟩ : Pk m_X_act m_M_act [(0, sx.2 (w32 (l3 + 1))), (0, sx.2 (w32 (l3 + 2))), (0, sx.2 (w32 (l3 + 3)))] M := pk_act i
  obtain ⟨R, hR⟩ := nx M2 i2
  exact ⟨R, sg_W_law_827 ⟨g1, g2, g3, v, M1, a, g1, g2, g3, v, M2, b, ite_i (fun _ => hR) (fun q => absurd rfl q)⟩⟩
theorem wc_864 (w : WG sx l3 M) : ∃ R : Mem, at_W_law_864 sx 80 l3 M (some (0, 1), R) := by
  obtain ⟨i, hc, nx, g1, g2, g3, g4, g5⟩ := w
  obtain ⟨-, -, -, -, h6, h7, h8, h9, h10, h11, h12, h13, -⟩ := id i
  obtain ⟨v, a, b⟩ : Bo m_X_trace m_M_trace [(0, sx.2 (w32 (l3 + 1)))] M := pr_trace h12.1 h12.2.1 h12.2.2
  obtain ⟨R, hR⟩ := nx M i
  exact ⟨R, sg_W_law_864 ⟨g1, v, a.mono (by decide), g1, v, b.mono (by decide), ite_i (fun _ => hR) (fun q => absurd rfl q)⟩⟩
theorem wc_881 (w : WG sx l3 M) : ∃ R : Mem, at_W_law_881 sx 80 l3 M (some (0, 1), R) := by
  obtain ⟨i, hc, nx, g1, g2, g3, g4, g5⟩ := w
  obtain ⟨v, M1, M2, a, b, i2⟩ : Pk m_X_keep m_M_keep [(0, sx.2 (w32 (l3 + 1))), (0, sx.2 (w32 (l3 + 2)))] M := pk_keep i
  obtain ⟨R, hR⟩ := nx M2 i2
  exact ⟨R, sg_W_law_881 ⟨g1, g2, v, M1, a, g1, g2, v, M2, b, ite_i (fun _ => hR) (fun q => absurd rfl q)⟩⟩
theorem wc_908 (w : WG sx l3 M) : ∃ R : Mem, at_W_law_908 sx 80 l3 M (some (0, 1), R) := by
  obtain ⟨i, hc, nx, g1, g2, g3, g4, g5⟩ := w
  obtain ⟨v, M1, M2, a, b, i2⟩ : Pk m_X_row m_M_row [(0, sx.2 (w32 (l3 + 1))), (0, sx.2 (w32 (l3 + 2))), (0, sx.2 (w32 (l3 + 3)))] M := pk_row i
  obtain ⟨R, hR⟩ := nx M2 i2
  exact ⟨R, sg_W_law_908 ⟨g1, g2, g3, v, M1, a, g1, g2, g3, v, M2, b, ite_i (fun _ => hR) (fun q => absurd rfl q)⟩⟩
theorem wc_945 (w : WG sx l3 M) : ∃ R : Mem, at_W_law_945 sx 80 l3 M (some (0, 1), R) := by
  obtain ⟨i, hc, nx, g1, g2, g3, g4, g5⟩ := w
  obtain ⟨v, M1, M2, a, b, i2⟩ : Pk m_X_put m_M_put [(0, sx.2 (w32 (l3 + 1))), (0, sx.2 (w32 (l3 + 2))), (1, lor (lshl (sx.2 (w32 (l3 + 3))) 32) (land (sx.2 (w32 (l3 + 4))) 4294967295))] M := pk_put i (c_t64 _)
  obtain ⟨R, hR⟩ := nx M2 i2
  exact ⟨R, sg_W_law_945 ⟨g1, g2, g3, g4, v, M1, a, g1, g2, g3, g4, v, M2, b, ite_i (fun _ => hR) (fun q => absurd rfl q)⟩⟩
theorem wc_1006 (w : WG sx l3 M) : ∃ R : Mem, at_W_law_1006 sx 80 l3 M (some (0, 1), R) := by
  obtain ⟨i, hc, nx, g1, g2, g3, g4, g5⟩ := w
  obtain ⟨-, -, -, -, h6, h7, h8, h9, h10, h11, h12, h13, -⟩ := id i
  obtain ⟨v, a, b⟩ : BoL m_X_element m_M_element [(0, sx.2 (w32 (l3 + 1))), (0, sx.2 (w32 (l3 + 2)))] M := pr_element h13
  obtain ⟨R, hR⟩ := nx M i
  exact ⟨R, sg_W_law_1006 ⟨g1, g2, v, a.mono (by decide), g1, g2, v, b.mono (by decide), ite_i (fun _ => hR) (fun q => absurd (lcmp_self _) q)⟩⟩
theorem wc_1034 (w : WG sx l3 M) : ∃ R : Mem, at_W_law_1034 sx 80 l3 M (some (0, 1), R) := by
  obtain ⟨i, hc, nx, g1, g2, g3, g4, g5⟩ := w
  obtain ⟨v, M1, M2, a, b, i2⟩ : Pk m_X_shift m_M_shift [(0, sx.2 (w32 (l3 + 1))), (0, sx.2 (w32 (l3 + 2))), (0, sx.2 (w32 (l3 + 3))), (0, sx.2 (w32 (l3 + 4))), (0, sx.2 (w32 (l3 + 5)))] M := pk_shift i (hc _) (hc _) (hc _)
  obtain ⟨R, hR⟩ := nx M2 i2
  exact ⟨R, sg_W_law_1034 ⟨g1, g2, g3, g4, g5, v, M1, a, g1, g2, g3, g4, g5, v, M2, b, ite_i (fun _ => hR) (fun q => absurd rfl q)⟩⟩
theorem wc_1091 (w : WG sx l3 M) : ∃ R : Mem, at_W_law_1091 sx 80 l3 M (some (0, 1), R) := by
  obtain ⟨i, hc, nx, g1, g2, g3, g4, g5⟩ := w
  obtain ⟨-, -, -, -, h6, h7, h8, h9, h10, h11, h12, h13, -⟩ := id i
  obtain ⟨v, a, b⟩ : Bo m_X_taken m_M_taken [(0, sx.2 (w32 (l3 + 1))), (0, sx.2 (w32 (l3 + 2)))] M := pr_taken h11 h13
  obtain ⟨R, hR⟩ := nx M i
  exact ⟨R, sg_W_law_1091 ⟨g1, g2, v, a.mono (by decide), g1, g2, v, b.mono (by decide), ite_i (fun _ => hR) (fun q => absurd rfl q)⟩⟩
theorem wc_1118 (w : WG sx l3 M) : ∃ R : Mem, at_W_law_1118 sx 80 l3 M (some (0, 1), R) := by
  obtain ⟨i, hc, nx, g1, g2, g3, g4, g5⟩ := w
  obtain ⟨-, -, -, -, h6, h7, h8, h9, h10, h11, h12, h13, -⟩ := id i
  obtain ⟨v, a, b⟩ : Bo m_X_count m_M_count [(0, sx.2 (w32 (l3 + 1)))] M := pr_count i.1 i.2.2.2.1 h6.1 h8.1 h11.1 h12.1
  obtain ⟨R, hR⟩ := nx M i
  exact ⟨R, sg_W_law_1118 ⟨g1, v, a.mono (by decide), g1, v, b.mono (by decide), ite_i (fun _ => hR) (fun q => absurd rfl q)⟩⟩
theorem ex_ite {P : Prop} [Decidable P] {A B : Mem → Prop} (h : P → ∃ R, A R) (g : ¬ P → ∃ R, B R) : ∃ R, if P then A R else B R := by
  by_cases q : P
  · obtain ⟨R, r⟩ := h q
    exact ⟨R, by rw [if_pos q]; exact r⟩
  · obtain ⟨R, r⟩ := g q
    exact ⟨R, by rw [if_neg q]; exact r⟩
theorem wc_all (w : WG sx l3 M) : ∃ R : Mem, (if iand (sx.2 l3) 63 = 0 then at_W_law_22 sx 80 l3 M (some (0, 1), R) else (if iand (sx.2 l3) 63 = 1 then at_W_law_29 sx 80 l3 M (some (0, 1), R) else (if iand (sx.2 l3) 63 = 2 then at_W_law_66 sx 80 l3 M (some (0, 1), R) else (if iand (sx.2 l3) 63 = 3 then at_W_law_103 sx 80 l3 M (some (0, 1), R) else (if iand (sx.2 l3) 63 = 4 then at_W_law_130 sx 80 l3 M (some (0, 1), R) else (if iand (sx.2 l3) 63 = 5 then at_W_law_147 sx 80 l3 M (some (0, 1), R) else (if iand (sx.2 l3) 63 = 6 then at_W_law_154 sx 80 l3 M (some (0, 1), R) else (if iand (sx.2 l3) 63 = 7 then at_W_law_181 sx 80 l3 M (some (0, 1), R) else (if iand (sx.2 l3) 63 = 8 then at_W_law_208 sx 80 l3 M (some (0, 1), R) else (if iand (sx.2 l3) 63 = 9 then at_W_law_235 sx 80 l3 M (some (0, 1), R) else (if iand (sx.2 l3) 63 = 10 then at_W_law_242 sx 80 l3 M (some (0, 1), R) else (if iand (sx.2 l3) 63 = 11 then at_W_law_259 sx 80 l3 M (some (0, 1), R) else (if iand (sx.2 l3) 63 = 12 then at_W_law_276 sx 80 l3 M (some (0, 1), R) else (if iand (sx.2 l3) 63 = 13 then at_W_law_303 sx 80 l3 M (some (0, 1), R) else (if iand (sx.2 l3) 63 = 14 then at_W_law_330 sx 80 l3 M (some (0, 1), R) else (if iand (sx.2 l3) 63 = 15 then at_W_law_347 sx 80 l3 M (some (0, 1), R) else (if iand (sx.2 l3) 63 = 16 then at_W_law_364 sx 80 l3 M (some (0, 1), R) else (if iand (sx.2 l3) 63 = 17 then at_W_law_391 sx 80 l3 M (some (0, 1), R) else (if iand (sx.2 l3) 63 = 18 then at_W_law_408 sx 80 l3 M (some (0, 1), R) else (if iand (sx.2 l3) 63 = 19 then at_W_law_425 sx 80 l3 M (some (0, 1), R) else (if iand (sx.2 l3) 63 = 20 then at_W_law_453 sx 80 l3 M (some (0, 1), R) else (if iand (sx.2 l3) 63 = 21 then at_W_law_470 sx 80 l3 M (some (0, 1), R) else (if iand (sx.2 l3) 63 = 22 then at_W_law_487 sx 80 l3 M (some (0, 1), R) else (if iand (sx.2 l3) 63 = 23 then at_W_law_514 sx 80 l3 M (some (0, 1), R) else (if iand (sx.2 l3) 63 = 24 then at_W_law_552 sx 80 l3 M (some (0, 1), R) else (if iand (sx.2 l3) 63 = 25 then at_W_law_569 sx 80 l3 M (some (0, 1), R) else (if iand (sx.2 l3) 63 = 26 then at_W_law_596 sx 80 l3 M (some (0, 1), R) else (if iand (sx.2 l3) 63 = 27 then at_W_law_633 sx 80 l3 M (some (0, 1), R) else (if iand (sx.2 l3) 63 = 28 then at_W_law_650 sx 80 l3 M (some (0, 1), R) else (if iand (sx.2 l3) 63 = 29 then at_W_law_667 sx 80 l3 M (some (0, 1), R) else (if iand (sx.2 l3) 63 = 30 then at_W_law_704 sx 80 l3 M (some (0, 1), R) else (if iand (sx.2 l3) 63 = 31 then at_W_law_731 sx 80 l3 M (some (0, 1), R) else (if iand (sx.2 l3) 63 = 32 then at_W_law_748 sx 80 l3 M (some (0, 1), R) else (if iand (sx.2 l3) 63 = 33 then at_W_law_765 sx 80 l3 M (some (0, 1), R) else (if iand (sx.2 l3) 63 = 34 then at_W_law_782 sx 80 l3 M (some (0, 1), R) else (if iand (sx.2 l3) 63 = 35 then at_W_law_789 sx 80 l3 M (some (0, 1), R) else (if iand (sx.2 l3) 63 = 36 then at_W_law_796 sx 80 l3 M (some (0, 1), R) else (if iand (sx.2 l3) 63 = 37 then at_W_law_803 sx 80 l3 M (some (0, 1), R) else (if iand (sx.2 l3) 63 = 38 then at_W_law_810 sx 80 l3 M (some (0, 1), R) else (if iand (sx.2 l3) 63 = 39 then at_W_law_827 sx 80 l3 M (some (0, 1), R) else (if iand (sx.2 l3) 63 = 40 then at_W_law_864 sx 80 l3 M (some (0, 1), R) else (if iand (sx.2 l3) 63 = 41 then at_W_law_881 sx 80 l3 M (some (0, 1), R) else (if iand (sx.2 l3) 63 = 42 then at_W_law_908 sx 80 l3 M (some (0, 1), R) else (if iand (sx.2 l3) 63 = 43 then at_W_law_945 sx 80 l3 M (some (0, 1), R) else (if iand (sx.2 l3) 63 = 44 then at_W_law_1006 sx 80 l3 M (some (0, 1), R) else (if iand (sx.2 l3) 63 = 45 then at_W_law_1034 sx 80 l3 M (some (0, 1), R) else (if iand (sx.2 l3) 63 = 46 then at_W_law_1091 sx 80 l3 M (some (0, 1), R) else (if iand (sx.2 l3) 63 = 47 then at_W_law_1118 sx 80 l3 M (some (0, 1), R) else at_W_law_1135 sx 80 l3 M (some (0, 1), R))))))))))))))))))))))))))))))))))))))))))))))))) := by
  refine ex_ite (fun _ => wc_22 w) (fun _ => ?_)
  refine ex_ite (fun _ => wc_29 w) (fun _ => ?_)
  refine ex_ite (fun _ => wc_66 w) (fun _ => ?_)
  refine ex_ite (fun _ => wc_103 w) (fun _ => ?_)
  refine ex_ite (fun _ => wc_130 w) (fun _ => ?_)
  refine ex_ite (fun _ => wc_147 w) (fun _ => ?_)
  refine ex_ite (fun _ => wc_154 w) (fun _ => ?_)
  refine ex_ite (fun _ => wc_181 w) (fun _ => ?_)
  refine ex_ite (fun _ => wc_208 w) (fun _ => ?_)
  refine ex_ite (fun _ => wc_235 w) (fun _ => ?_)
  refine ex_ite (fun _ => wc_242 w) (fun _ => ?_)
  refine ex_ite (fun _ => wc_259 w) (fun _ => ?_)
  refine ex_ite (fun _ => wc_276 w) (fun _ => ?_)
  refine ex_ite (fun _ => wc_303 w) (fun _ => ?_)
  refine ex_ite (fun _ => wc_330 w) (fun _ => ?_)
  refine ex_ite (fun _ => wc_347 w) (fun _ => ?_)
  refine ex_ite (fun _ => wc_364 w) (fun _ => ?_)
  refine ex_ite (fun _ => wc_391 w) (fun _ => ?_)
  refine ex_ite (fun _ => wc_408 w) (fun _ => ?_)
  refine ex_ite (fun _ => wc_425 w) (fun _ => ?_)
  refine ex_ite (fun _ => wc_453 w) (fun _ => ?_)
  refine ex_ite (fun _ => wc_470 w) (fun _ => ?_)
  refine ex_ite (fun _ => wc_487 w) (fun _ => ?_)
  refine ex_ite (fun _ => wc_514 w) (fun _ => ?_)
  refine ex_ite (fun _ => wc_552 w) (fun _ => ?_)
  refine ex_ite (fun _ => wc_569 w) (fun _ => ?_)
  refine ex_ite (fun _ => wc_596 w) (fun _ => ?_)
  refine ex_ite (fun _ => wc_633 w) (fun _ => ?_)
  refine ex_ite (fun _ => wc_650 w) (fun _ => ?_)
  refine ex_ite (fun _ => wc_667 w) (fun _ => ?_)
  refine ex_ite (fun _ => wc_704 w) (fun _ => ?_)
  refine ex_ite (fun _ => wc_731 w) (fun _ => ?_)
  refine ex_ite (fun _ => wc_748 w) (fun _ => ?_)
  refine ex_ite (fun _ => wc_765 w) (fun _ => ?_)
  refine ex_ite (fun _ => wc_782 w) (fun _ => ?_)
  refine ex_ite (fun _ => wc_789 w) (fun _ => ?_)
  refine ex_ite (fun _ => wc_796 w) (fun _ => ?_)
  refine ex_ite (fun _ => wc_803 w) (fun _ => ?_)
  refine ex_ite (fun _ => wc_810 w) (fun _ => ?_)
  refine ex_ite (fun _ => wc_827 w) (fun _ => ?_)
  refine ex_ite (fun _ => wc_864 w) (fun _ => ?_)
  refine ex_ite (fun _ => wc_881 w) (fun _ => ?_)
  refine ex_ite (fun _ => wc_908 w) (fun _ => ?_)
  refine ex_ite (fun _ => wc_945 w) (fun _ => ?_)
  refine ex_ite (fun _ => wc_1006 w) (fun _ => ?_)
  refine ex_ite (fun _ => wc_1034 w) (fun _ => ?_)
  refine ex_ite (fun _ => wc_1091 w) (fun _ => ?_)
  refine ex_ite (fun _ => wc_1118 w) (fun _ => ?_)
  exact w.2.2.1 M w.1
theorem W_loop (hc : ∀ j : Int, c32 (sx.2 j)) (h0 : 0 ≤ sx.1) (h1 : sx.1 ≤ 3072) : ∀ (k : Nat) (l3 : Int) (M : Mem), INV M → 0 ≤ l3 → l3 ≤ sx.1 → sx.1 - l3 < k → ∃ R : Mem, at_W_law_10 sx 80 l3 M (some (0, 1), R) := by
  intro k
  induction k with
  | zero => intro l3 M i a b c; omega
  | succ k ih =>
    intro l3 M i a b c
    have e : w32 (sx.1 - 6) = sx.1 - 6 := w32_id ⟨by omega, by omega⟩
    by_cases q : w32 (sx.1 - 6) < l3
    · exact ⟨M, sg_W_law_10 ⟨h0, ite_i (fun _ => rfl) (fun z => absurd q z)⟩⟩
    · rw [e] at q
      have s : ∀ j : Int, 0 ≤ j → j ≤ 6 → w32 (l3 + j) = l3 + j := fun j j0 j1 => w32_id ⟨by omega, by omega⟩
      have g : ∀ j : Int, 0 ≤ j → j ≤ 5 → 0 ≤ w32 (l3 + j) ∧ w32 (l3 + j) < sx.1 := fun j j0 j1 => by rw [s j j0 (by omega)]; omega
      have nx : ∀ N, INV N → ∃ R : Mem, at_W_law_1135 sx 80 l3 N (some (0, 1), R) := fun N iN => by
        obtain ⟨R, hR⟩ := ih (l3 + 6) N iN (by omega) (by omega) (by omega)
        exact ⟨R, sg_W_law_1135 (by rw [s 6 (by decide) (by decide)]; exact hR)⟩
      obtain ⟨R, hR⟩ := wc_all (sx := sx) (l3 := l3) (M := M) ⟨i, hc, nx, g 1 (by decide) (by decide), g 2 (by decide) (by decide), g 3 (by decide) (by decide), g 4 (by decide) (by decide), g 5 (by decide) (by decide)⟩
      exact ⟨R, sg_W_law_10 ⟨h0, ite_i (fun z => absurd z (by rw [e]; omega)) (fun _ => ⟨⟨a, by omega⟩, hR⟩)⟩⟩
end P60
