/-! the whole run of the law, and its start -/
section P62
theorem law_run {L : Int} {xs : Nat → Int32} (h0 : 0 ≤ L) (h1 : L ≤ 3072) : ∃ (n : Nat) (M1 : Mem), lawRun L (xsI xs) 80 n = some (some (0, 1), M1) ∧ 0 ≤ M1 9999 0 ∧ M1 9999 0 ≤ 100000 ∧ M1 9999 1 ≤ 100000 := by
  obtain ⟨M3, M8, hA, h3, h31, hr, hB, hG⟩ := ph1_ok
  obtain ⟨R, hR⟩ := W_loop (sx := (L, xsI xs)) (fun j => c_t32 _) h0 h1 (L.toNat + 1) 0 M8 (good_inv hG) (Int.le_refl _) h0 (by show L - 0 < ((L.toNat + 1 : Nat) : Int); omega)
  have h8 : at_W_law_8 (L, xsI xs) 80 (3, 0) M8 (some (0, 1), R) := sg_W_law_8 hR
  unfold at_W_law_8 Ex at h8
  obtain ⟨n2, h8⟩ := h8
  have hc : chkM M8 = true := by
    unfold GOOD at hG
    simp only [Bool.and_eq_true] at hG
    exact hG.1.1.1.1.1.1.1.1.1.1.1.1.1.1.1.1.1.1.1.1.1.1
  have keep : ∀ j, R 9999 j = M8 9999 j := runG_keep (r := (some (0, 1), R)) (callD_keep 80 n2) n2 _ _ _ _ h8
  have hc2 := hc
  unfold chkM at hc2
  simp only [Bool.and_eq_true, decide_eq_true_eq] at hc2
  obtain ⟨⟨⟨k0, k1⟩, k2⟩, -⟩ := hc2
  refine ⟨n2 + 5000 + 9, R, ?_, by rw [keep, k0]; decide, by rw [keep, k0]; decide, by rw [keep]; exact k2⟩
  unfold lawRun
  refine (ph_go (n := n2 + 5000) (M3 := M3) (M8 := M8) (callD_mono 20 80 5000 _ _ _ _ _ (by decide) (by omega) hA) h3 h31 hr (callD_mono 20 80 5000 _ _ _ _ _ (by decide) (by omega) hB)).trans ?_
  refine (if_pos hc).trans ?_
  exact run_mono (fun y as M r h => callD_mono 80 80 n2 _ y as M r (Nat.le_refl _) (by omega) h) n2 _ _ _ _ _ (by omega) h8
end P62
theorem whole_start {p : Program} {e : Env} {s : State} {m : MethodId} {below : List Frame} {meth : Method} {c : Code} (l : Launch) (_ : l.flags = flags0) {b L : Nat} {xs : Nat → Int32} (hL : L ≤ 3072) (C0 : lw_At p s m meth c b L xs) : W p l e room_1 s m #[Value.ref b] below meth c s.heap [] 0 0 (lw_Z below #[Value.ref b] s) (entryFrame m ([Value.ref b] : List Value).toArray 4) := by
  obtain ⟨n, M1, h, hb⟩ := law_run (L := L) (xs := xs) (by omega) (by omega)
  exact am_law (fun y hy hn => okM_all hy hn) (fun i r hi => okLaw hi) l hL C0 (d := 80) (by decide) hb h
