/-! fields and arrays -/
def gT : List Cond := lw_tbl.filter goodWord
theorem gT_mem {w : Cond} : w ∈ gT ↔ w ∈ lw_tbl ∧ goodWord w = true := List.mem_filter
theorem gT_good : GoodIn gT gT := fun w hw => ⟨hw, good_of_word (gT_mem.mp hw).2⟩
theorem va_P_one {D : va_G} {cl : List vw_C} {q : Nat × va_E} {H : Heap} (h : va_at D cl q H) : va_P D cl [q] H := fun k x hx => by
  match k with
  | 0 => cases hx; exact h
  | k + 1 => cases hx
theorem ref_ok {t : FieldType} (h : t ≠ .int ∧ t ≠ .boolean ∧ t.isReference = true) (x : Nat) : narrow t (.ref x) = .ref x ∧ fits t (.ref x) = true := by
  cases t <;> first | exact ⟨rfl, rfl⟩ | (exfalso; exact absurd h.2.2 (by decide))
def clOK (ci : Nat) (q : vw_C) (ty : Nat → FieldType) : Prop :=
  (∀ w ∈ u_ws q.1 q.2.1 q.2.2, w ∈ gT) ∧ (∀ k, k < q.2.2 → parseFieldDescriptor (q.2.1 k).2.2.1 = some (ty k)) ∧ (∀ a, a < q.2.2 → ∀ b, b < q.2.2 → a ≠ b → (q.2.1 a).2.1 ≠ (q.2.1 b).2.1) ∧ nfl ci = q.2.2 ∧
  (∀ k, k < q.2.2 → (q.2.1 k).1 = q.1 ∧ fk ci k = (if ty k = .int then 0 else if ty k = .boolean then 1 else 2) ∧ ((q.2.1 k).2.2.2 = true ↔ fk ci k = 2)) ∧ cN ci = q.1 ∧ (∀ k, k < q.2.2 → fk ci k = 2 → (ty k).isReference = true)
theorem clOK_all {ci : Nat} {q : vw_C} (h : am_cl[ci]? = some q) : ∃ ty, clOK ci q ty := by
  have hl : ci < 8 := (List.getElem?_eq_some_iff.mp h).1
  rcases (show ci = 0 ∨ ci = 1 ∨ ci = 2 ∨ ci = 3 ∨ ci = 4 ∨ ci = 5 ∨ ci = 6 ∨ ci = 7 by omega) with rfl | rfl | rfl | rfl | rfl | rfl | rfl | rfl
  · cases h; exact ⟨TY_0, fun w hw => gT_mem.mpr (FT_in_0 w hw), FT_ty_0, FT_nm_0, by decide, FT_fk_0, by decide, by decide⟩
  · cases h; exact ⟨TY_1, fun w hw => gT_mem.mpr (FT_in_1 w hw), FT_ty_1, FT_nm_1, by decide, FT_fk_1, by decide, by decide⟩
  · cases h; exact ⟨TY_2, fun w hw => gT_mem.mpr (FT_in_2 w hw), FT_ty_2, FT_nm_2, by decide, FT_fk_2, by decide, by decide⟩
  · cases h; exact ⟨TY_3, fun w hw => gT_mem.mpr (FT_in_3 w hw), FT_ty_3, FT_nm_3, by decide, FT_fk_3, by decide, by decide⟩
  · cases h; exact ⟨TY_4, fun w hw => gT_mem.mpr (FT_in_4 w hw), FT_ty_4, FT_nm_4, by decide, FT_fk_4, by decide, by decide⟩
  · cases h; exact ⟨TY_5, fun w hw => gT_mem.mpr (FT_in_5 w hw), FT_ty_5, FT_nm_5, by decide, FT_fk_5, by decide, by decide⟩
  · cases h; exact ⟨TY_6, fun w hw => gT_mem.mpr (FT_in_6 w hw), FT_ty_6, FT_nm_6, by decide, FT_fk_6, by decide, by decide⟩
  · cases h; exact ⟨TY_7, fun w hw => gT_mem.mpr (FT_in_7 w hw), FT_ty_7, FT_nm_7, by decide, FT_fk_7, by decide +kernel, by decide +kernel⟩
theorem live_eq {ph : Bool} {M : Mem} {a : Int} (h : live ph M a = true) : 0 ≤ a ∧ a.toNat < naOf ph M := by
  unfold live at h
  simpa only [Bool.and_eq_true, decide_eq_true_eq] using h
theorem isObj_eq {ph : Bool} {M : Mem} {ci : Nat} {a : Int} (h : isObj ph M ci a = true) : (0 ≤ a ∧ a.toNat < naOf ph M) ∧ shp a.toNat = (4, ci) := by
  unfold isObj at h
  simp only [Bool.and_eq_true, decide_eq_true_eq] at h
  exact ⟨live_eq h.1, h.2⟩
theorem inArr_eq {ph : Bool} {M : Mem} {kd : Nat} {a i : Int} (h : inArr ph M kd a i = true) : (0 ≤ a ∧ a.toNat < naOf ph M) ∧ ∃ n, shp a.toNat = (kd, n) ∧ 0 ≤ i ∧ i < (n : Int) := by
  unfold inArr at h
  simp only [Bool.and_eq_true, decide_eq_true_eq] at h
  exact ⟨live_eq h.1, (shp a.toNat).2, by rw [← h.2.1.1], h.2.1.2, h.2.2⟩
theorem cE_obj {c4 : C4} {ad : Nat → Nat} {ph : Bool} {M : Mem} {a ci : Nat} (h : shp a = (4, ci)) : cE c4 ad ph M a = .inr (ci, (List.range (nfl ci)).map (fun k => vfk ad ph M ci a k)) := by
  unfold cE; rw [h]; first | done | rfl
theorem cE_int {c4 : C4} {ad : Nat → Nat} {ph : Bool} {M : Mem} {a n : Nat} (h : shp a = (0, n)) : cE c4 ad ph M a = .inl (c4.1, n, .inl (fun i => Int32.ofInt (M a i))) := by
  unfold cE; rw [h]; first | done | rfl
theorem cE_long {c4 : C4} {ad : Nat → Nat} {ph : Bool} {M : Mem} {a n : Nat} (h : shp a = (1, n)) : cE c4 ad ph M a = .inl (c4.2.1, n, .inr (.inl (fun i => Int64.ofInt (M a i)))) := by
  unfold cE; rw [h]; first | done | rfl
theorem cE_ri {c4 : C4} {ad : Nat → Nat} {ph : Bool} {M : Mem} {a n : Nat} (h : shp a = (2, n)) : cE c4 ad ph M a = .inl (c4.2.2.1, n, .inr (.inr (.inr (.inr (fun i => orf ad (gr ph M a i)))))) := by
  unfold cE; rw [h]; first | done | rfl
theorem cE_rl {c4 : C4} {ad : Nat → Nat} {ph : Bool} {M : Mem} {a n : Nat} (h : shp a = (3, n)) : cE c4 ad ph M a = .inl (c4.2.2.2, n, .inr (.inr (.inr (.inr (fun i => orf ad (gr ph M a i)))))) := by
  unfold cE; rw [h]; first | done | rfl
theorem up_ne {M : Mem} {a b : Nat} {i j v : Int} (h : b ≠ a) : up M a i v b j = M b j := by unfold up; rw [if_neg (fun q => h q.1)]
theorem up_ne2 {M : Mem} {a b : Nat} {i j v : Int} (h : j ≠ i) : up M a i v b j = M b j := by unfold up; rw [if_neg (fun q => h q.2)]
theorem up_eq {M : Mem} {a : Nat} {i v : Int} : up M a i v a i = v := by unfold up; rw [if_pos ⟨rfl, rfl⟩]
theorem gr_ne {ph : Bool} {M M' : Mem} {b : Nat} {j : Int} (h : M' b j = M b j) : gr ph M' b j = gr ph M b j := by
  unfold gr; rw [h]
theorem cE_ne {c4 : C4} {ad : Nat → Nat} {ph : Bool} {M M' : Mem} {b : Nat} (h : ∀ j, M' b j = M b j) : cE c4 ad ph M' b = cE c4 ad ph M b := by
  unfold cE vfk
  simp only [h, gr_ne (h _)]
theorem naOf_up {ph : Bool} {M : Mem} {a : Nat} {i v : Int} (h : a < 89) : naOf ph (up M a i v) = naOf ph M := by
  unfold naOf; rw [up_ne (by omega)]
theorem slOf_up {ph : Bool} {M : Mem} {a : Nat} {i v : Int} (h : a < 89) : slOf ph (up M a i v) = slOf ph M := by
  unfold slOf; rw [up_ne (by omega)]
theorem cM_up {M : Mem} {a : Nat} {i v : Int} (h : cM M) (hv : if (shp a).1 = 1 then c64 v else c32 v) : cM (up M a i v) := fun b j hb => by
  unfold up
  by_cases q : b = a ∧ j = i
  · rw [if_pos q, q.1]; exact hv
  · rw [if_neg q]; exact h b j hb
theorem map_range_set {α : Type} {n f : Nat} {g g' : Nat → α} {w : α} (h1 : g' f = w) (h2 : ∀ k, k ≠ f → g' k = g k) : (List.range n).map g' = ((List.range n).map g).set f w := by
  apply List.ext_getElem?
  intro k
  rw [List.getElem?_set, List.getElem?_map, List.getElem?_map, List.length_map, List.length_range]
  by_cases e : f = k
  · subst e
    rw [if_pos rfl]
    by_cases q : f < n
    · rw [if_pos q, List.getElem?_range q]; simp [h1]
    · rw [if_neg q, List.getElem?_eq_none (by simpa using q)]; rfl
  · rw [if_neg e]
    by_cases q : k < n
    · rw [List.getElem?_range q]; simp [h2 k (fun z => e z.symm)]
    · rw [List.getElem?_eq_none (by simpa using q)]; rfl
theorem wH_set {D : va_G} {c4 : C4} {ad : Nat → Nat} {ph : Bool} {M M' : Mem} {H H' : Heap} {h0 a : Nat} (hw : wH D c4 ad ph M H) (hna : naOf ph M' = naOf ph M) (h89 : naOf ph M ≤ 89) (had : ∀ a, a < 89 → ad a = h0 + a) (ha : a < 89) (he : va_at D am_cl (ad a, cE c4 ad ph M' a) H') (hne : ∀ b, b ≠ a → ∀ j, M' b j = M b j) (oq : ∀ q, q ≠ ad a → H'[q]? = H[q]?) : wH D c4 ad ph M' H' := fun b hb => by
  rw [hna] at hb
  by_cases q : b = a
  · subst q; exact he
  · rw [cE_ne (hne b q)]
    exact (hw b hb).kept (oq _ (by show ad b ≠ ad a; rw [had b (by omega), had a ha]; omega))
section PUT
variable {p : Program} {l : Launch} {e : Env} {R : Room} {s : State} {m : MethodId} {args : Array Value} {below : List Frame} {meth : Method} {c : Code} {H : Heap} {locs : List Loc} {cells slots : Nat} {Q : State → Prop}
variable {cc : ByteArray} {pc : Nat} {lsr : Array Slot} {rest : List Value} {D : va_G} {cl : List vw_C} {A : Nat → Prop} {a : Nat} {tys : List (ClassId × FieldType)} {H0 : Heap}
/-- putfield, with all that stays told -/
theorem am_put (hexec : p.tables.exec = Jvm.exec) (hb : c.code = cc) {own C : String} {T : u_T} {N ci index : Nat} {Ts : List Cond} (hts : ∀ w ∈ Ts, w.before args s = true) (hin : ∀ w ∈ u_ws C T N, w ∈ Ts) (ty0 : Nat → FieldType) (hty : ∀ k, k < N → parseFieldDescriptor (T k).2.2.1 = some (ty0 k)) (hnm : ∀ a, a < N → ∀ b, b < N → a ≠ b → (T a).2.1 ≠ (T b).2.1) (hown : s.vm.findClass own = some m.cls) (hK : va_K D cl tys s) (hS0 : va_S A H0 H locs) (hAa : A a) {fs : List Value} (hP : va_at D cl (a, .inr (ci, fs)) H) (hc : cl[ci]? = some (C, T, N)) (k : Nat) (hk : k < N) (hlink : (Cond.fieldLink own index (T k).1 (T k).2.1 (T k).2.2.1).before args s = true)
    (hfin : (T k).2.2.2 = false ∨ ((T k).2.2.2 = true ∧ meth.name = "<init>" ∧ (T k).1 = own)) {v : Value} (hn : narrow (ty0 k) v = v) (hfit : fits (ty0 k) v = true) (hl : k < fs.length) (hdg : decode cc pc = .ok (.putfield index, 3))
    (kk : ∀ (H1 : Heap) (locs1 : List Loc), va_at D cl (a, .inr (ci, fs.set k v)) H1 → H1.size = H.size → (∀ q, q ≠ a → H1[q]? = H[q]?) → va_S A H0 H1 locs1 → W p l e R s m args below meth c H1 locs1 cells slots Q (F0 m (pc + 3) lsr rest)) : W p l e R s m args below meth c H locs cells slots Q (F0 m pc lsr (v :: .ref a :: rest)) := by
  have hap := va_apart (own := own) hts hin ty0 hty hnm hK hc
  have hd := hty k hk
  obtain ⟨r, h1, cell, q1, q2, q3, q4⟩ := hP
  have hr : r = (C, T, N) := Option.some.inj (h1.symm.trans hc)
  subst hr
  obtain ⟨hS, hfc, kC, hkC, hkind⟩ := hK.1 ci _ hc
  obtain ⟨cf, kf, fi, f, hi, hsl⟩ := hS k hk
  have hlay := hts _ (hin _ (u_in_lay hk))
  have hst := (u_facts hfc hkC (u_lays hts hin hk) hi).1
  unfold u_lay at hlay
  rcases hfin with hfin | ⟨hfin, hinit, hdecl⟩
  · rw [if_neg (by rw [hfin]; decide)] at hlay
    have h6 := u_store hfc hkC hkind hlay hi hd hn hfit
    refine W.putK hexec hb (f := f) ⟨hown, hlink, ⟨_, _, _, hi⟩, hst⟩ (by rw [q2]; exact h6) q1 q3 (by rw [hsl]; exact k2_hasslot (q4 k hk)) rfl rfl hdg fun H' e1 e2 e3 => ?_
    rw [hsl] at e1 ⊢
    exact kk H' _ ⟨_, hc, t_OB.to (V := updV (vp_V fs) k v) ⟨_, e1, q2, q3, t_set q4 hap hk v⟩ (fun j _ => vp_updV_set hl v j)⟩ e2 e3 (hS0.put e2 e3 hAa)
  · rw [if_pos hfin] at hlay
    have hcf : m.cls = cf := by
      obtain ⟨_, _, c', _, _, _, -, -, hf', -, -, -, hown2, -⟩ := Cond.laysFinal_spec hlay
      have e1 : c' = cf := by have := hi.symm.trans hf'; simp at this; exact this.1.symm
      rw [hdecl] at hown2
      rw [← e1]; exact Option.some.inj (hown.symm.trans hown2)
    have h6 := u_fits hfc hkC hkind (Or.inr hlay) hi hd hn hfit
    refine W.putFinK hexec hb hown hlink hi hst hcf hinit (by rw [q2]; exact h6) q1 q3 (by rw [hsl]; exact k2_hasslot (q4 k hk)) rfl rfl hdg fun H' e1 e2 e3 => ?_
    rw [hsl] at e1 ⊢
    exact kk H' _ ⟨_, hc, t_OB.to (V := updV (vp_V fs) k v) ⟨_, e1, q2, q3, t_set q4 hap hk v⟩ (fun j _ => vp_updV_set hl v j)⟩ e2 e3 (hS0.put e2 e3 hAa)
end PUT
