/-! what makes objects; Math; the copying of rows -/
theorem aw_int : am_pl 59 = some (.arrayClass .int) := by decide +kernel
theorem aw_long : am_pl 209 = some (.arrayClass .long) := by decide +kernel
theorem dflt_ref {t : FieldType} (h : t.isReference = true) : defaultValue t = .null := by
  cases t <;> first | rfl | exact absurd h (by decide)
theorem outer_ref (c : ClassId) (N h0 : Nat) : ∀ i : Nat, Jvm.Free.Multi.outerC c N h0 i = arrV c N (fun j => va_rf (if j < i then some (h0 + 1 + j) else none))
  | 0 => by
    show ({ cls := c, slots := Array.replicate N .null, vm := .none } : Cell) = _
    rw [arrV_new]
    exact congrArg (arrV c N) (funext fun j => by simp [va_rf])
  | i + 1 => by
    show (Jvm.Free.Multi.outerC c N h0 i).setSlot i (.ref (h0 + 1 + i)) = _
    rw [outer_ref c N h0 i, arrV_store]
    refine congrArg (arrV c N) (funext fun j => ?_)
    by_cases e : j = i
    · subst e; simp [updV, va_rf]
    · by_cases h : j < i
      · simp [updV, e, h, Nat.lt_succ_of_lt h]
      · simp [updV, e, h, show ¬ j < i + 1 by omega]
theorem arrV_ext {cI : ClassId} {N : Nat} {f g : Nat → Value} (h : ∀ j, j < N → f j = g j) : arrV cI N f = arrV cI N g := by
  unfold arrV
  congr 1
  apply Array.ext
  · simp
  · intro i h1 h2
    simp only [Array.getElem_ofFn]
    exact h i (by simpa using h1)
theorem naOf_new {M : Mem} {a : Nat} {X : Mem} {y : Int} : naOf true (up (up X 9999 0 ((a : Int) + 1)) 9999 1 y) = a + 1 := by
  unfold naOf; rw [if_pos rfl, up_ne2 (by decide), up_eq]; omega
theorem slOf_new {X : Mem} {x y : Int} : slOf true (up (up X 9999 0 x) 9999 1 y) = y.toNat := by
  unfold slOf; rw [if_pos rfl, up_eq]
theorem up2_low {X : Mem} {b : Nat} {x y j : Int} (h : b < 89) : up (up X 9999 0 x) 9999 1 y b j = X b j := by
  rw [up_ne (by omega), up_ne (by omega)]
theorem st_sum {ad : Nat → Nat} : ∀ {st : List AV} {n : Nat}, st.length ≤ n → ((st.map (rv ad)).map fun v => v.category).sum ≤ 2 * n
  | [], _, _ => by simp
  | v :: st, n, h => by
    have h1 : st.length ≤ n - 1 := by simp only [List.length_cons] at h; omega
    have ih := st_sum (ad := ad) h1
    have hc : (rv ad v).category ≤ 2 := by unfold Value.category; split <;> decide
    simp only [List.map_cons, List.sum_cons]
    simp only [List.length_cons] at h
    omega
theorem va_tabs0 {ty : FieldType} {args : Array Value} {s : State} (h : (Cond.arrayOver ty).before #[] s = true) : (Cond.arrayOver ty).before args s = true := h
def wsA (c4 : C4) (ad : Nat → Nat) (M : Mem) : va_W := (List.range 89).map (fun a => (ad a, cE c4 ad false M a))
theorem wsA_get {c4 : C4} {ad : Nat → Nat} {M : Mem} {a : Nat} (h : a < 89) : (wsA c4 ad M)[a]? = some (ad a, cE c4 ad false M a) := by
  unfold wsA
  rw [List.getElem?_map, List.getElem?_range h]; rfl
theorem wsA_some {c4 : C4} {ad : Nat → Nat} {M : Mem} {a : Nat} {x : Nat × va_E} (h : (wsA c4 ad M)[a]? = some x) : a < 89 ∧ x = (ad a, cE c4 ad false M a) := by
  have hl : a < 89 := by
    have := (List.getElem?_eq_some_iff.mp h).1
    simpa [wsA] using this
  rw [wsA_get hl] at h
  exact ⟨hl, (Option.some.inj h).symm⟩
theorem wsA_P {D : va_G} {c4 : C4} {ad : Nat → Nat} {M : Mem} {H : Heap} (h : wH D c4 ad false M H) : va_P D am_cl (wsA c4 ad M) H := fun k q hk => by
  obtain ⟨hl, rfl⟩ := wsA_some hk
  exact h k hl
theorem wsA_D {c4 : C4} {ad : Nat → Nat} {M : Mem} {h0 : Nat} (had : ∀ a, a < 89 → ad a = h0 + a) : va_D (fun q : Nat => h0 ≤ q) (wsA c4 ad M) := by
  refine ⟨fun i j p q hi hj e => ?_, fun k q hk => ?_⟩
  · obtain ⟨h1, rfl⟩ := wsA_some hi
    obtain ⟨h2, rfl⟩ := wsA_some hj
    replace e : ad i = ad j := e
    rw [had i h1, had j h2] at e
    omega
  · obtain ⟨h1, rfl⟩ := wsA_some hk
    show h0 ≤ ad k
    rw [had k h1]; omega
theorem wsA_back {D : va_G} {c4 : C4} {ad : Nat → Nat} {M M' : Mem} {H : Heap} {b : Nat} {E : va_E} (hP : va_P D am_cl ((wsA c4 ad M).set b (ad b, E)) H) (hne : ∀ c, c ≠ b → ∀ q, M' c q = M c q) (he : cE c4 ad false M' b = E) : wH D c4 ad false M' H := fun a ha => by
  have ha' : a < 89 := ha
  by_cases q : a = b
  · subst q
    rw [he]
    refine hP a _ ?_
    rw [List.getElem?_set_self (by simpa [wsA] using ha')]
  · rw [cE_ne (hne a q)]
    refine hP a _ ?_
    rw [List.getElem?_set_ne (fun z => q z.symm), wsA_get ha']
section SND
variable {p : Program} {l : Launch} {e : Env} {R : Room} {s : State} {m : MethodId} {args : Array Value} {below : List Frame} {meth : Method} {c : Code} {Q : State → Prop}
variable {cc : ByteArray} {nL : Nat} {own : String} {ini : Bool} {P : List Nat} {D : va_G} {c4 : C4} {ad : Nat → Nat} {h0 : Nat} {ph : Bool} {sx : Int × (Int → Int)} {rz nal sll : Nat}
variable {call : Nat → List AV → Mem → Option Res} {k : Nat → List AV → List AV → Mem → Option Res} {r : Res}
variable {o : List Int} {i : Nat} {ls st : List AV} {M : Mem} {H : Heap} {locs : List Loc} {lsr : Array Slot} {cells slots : Nat} {ax : List Nat}
theorem am_36 (B : Bx p s m args meth c cc nL own ini D c4 ad h0) (hcap : ∀ i' ls' st' M', k i' ls' st' M' = some r → naOf ph M' ≤ R.cells + nal ∧ slOf ph M' ≤ R.slots + sll) (hrow : okRow own ini cc P i (36, o) ax = true) (hact : act call rcv ph sx rz 36 o i ls st M k = some r) (I : Iv D c4 ad ph h0 s nL nal sll ls st M H locs lsr cells slots) (K : KK p l e R s m args below meth c Q nL P D c4 ad h0 ph nal sll k r) : W p l e R s m args below meth c H locs cells slots Q (F0 m (P.getD i 0) lsr (st.map (rv ad))) := by
  obtain ⟨hx, hb, hml, hown, hts, hini, hK⟩ := B
  have hts' : ∀ w ∈ gT, w.before args s = true := fun w hw => hts w (gT_mem.mp hw).1 (gT_mem.mp hw).2
  obtain ⟨ins, n, hd, ho⟩ := okRow_dec hrow
  rw [act_36] at hact
  split at hact
  rotate_left
  · cases hact
  rename_i ci
  split at hact
  rotate_left
  · cases hact
  rename_i hcond
  obtain ⟨hph, h90, h91, hna, hsh, hci⟩ := hcond
  subst hph
  have h89 : (M 9999 0).toNat < 89 := hna
  simp only [okI, Bool.and_eq_true, decide_eq_true_eq] at ho
  obtain ⟨⟨⟨hn, rfl⟩, -⟩, ho⟩ := ho
  have hn := nx_eq hn
  split at ho
  all_goals first | (cases ho; done) | skip
  rename_i ix
  simp only [Bool.and_eq_true, decide_eq_true_eq] at ho
  obtain ⟨⟨hw1, hw2⟩, hw3⟩ := ho
  generalize hn0 : (M 9999 0).toNat = n0 at *
  have hq : ∃ q, am_cl[ci.toNat]? = some q := ⟨_, List.getElem?_eq_getElem hci⟩
  obtain ⟨q, hq⟩ := hq
  obtain ⟨ty, hin, hty, hnm, hnf, hfk, hcn, href⟩ := clOK_all hq
  have hKn := hK.1.1 ci.toNat _ hq
  have hnaM : naOf true M = n0 := hn0
  have hsz : H.size = h0 + n0 := by rw [I.2.2.2.1 rfl, hnaM]
  have hM' : newM M ci.toNat n0 = up (up (fun b j => if b = n0 then (if fk ci.toNat j.toNat = 2 then -1 else 0) else M b j) 9999 0 (n0 + 1)) 9999 1 (M 9999 1 + nfl ci.toNat) := rfl
  have hna' : naOf true (newM M ci.toNat n0) = n0 + 1 := naOf_new (M := M)
  have hsl' : slOf true (newM M ci.toNat n0) = slOf true M + nfl ci.toNat := by
    rw [hM', slOf_new]; unfold slOf; rw [if_pos rfl]; omega
  have hcp := hcap _ _ _ _ hact
  rw [hna', hsl'] at hcp
  have hc1 := I.2.2.2.2.2.2.2.2.1
  have hc2 := I.2.2.2.2.2.2.2.2.2
  rw [hnaM] at hc1
  refine W.newcK (C := q.1) (cC := D.1 ci.toNat) (h := h0 + n0) hx hb hown (by rw [← hcn]; exact hts _ (am_pl_mem hw1) rfl) (by rw [← hcn]; exact hts _ (am_pl_mem hw2) rfl) (by rw [← hcn]; exact hts _ (am_pl_mem hw3) rfl) rfl hd (by omega) (by omega) hKn.2.1 hsz fun H1 kC hkC e1 z1 o1 => ?_
  refine W.eq (g2 := F0 m (P.getD (i + 1) 0) lsr ((rv ad (2, M 9999 0)) :: st.map (rv ad))) ?_ ?_
  · rw [hn]
    show F0 m _ lsr (Value.ref (h0 + n0) :: _) = F0 m _ lsr (Value.ref (ad (M 9999 0).toNat) :: _)
    rw [hn0, hK.2.2.2.1 n0 h89]
  have hlow : ∀ b, b < 89 → ∀ j, newM M ci.toNat n0 b j = if b = n0 then (if fk ci.toNat j.toNat = 2 then -1 else 0) else M b j := fun b hb j => by rw [hM', up2_low hb]
  refine K _ _ _ _ H1 locs lsr (cells + 1) (slots + nfl ci.toNat) hact ⟨fun b hb => ?_, fun b j hb => ?_, by rw [hna']; omega, fun _ => by rw [z1, hna']; omega, ?_, I.lrel, I.lcv, stk_cons (v := (2, M 9999 0)) h90 (lt3 rfl) I.stk, by rw [hna']; omega, by rw [hsl']; omega⟩
  · rw [hna'] at hb
    by_cases hbn : b = n0
    · subst hbn
      rw [cE_obj hsh]
      refine ⟨_, hq, ?_⟩
      rw [hK.2.2.2.1 b h89]
      refine (u_born ty hts' hin hKn hkC e1 hty).to fun j hj => ?_
      unfold vp_V
      rw [List.getD_eq_getElem?_getD, List.getElem?_map, List.getElem?_range (by rw [hnf]; exact hj)]
      show _ = vfk ad true _ ci.toNat b j
      have hk := (hfk j hj).2.1
      unfold vfk orf gr
      rw [if_pos rfl, hlow b h89, if_pos rfl]
      rw [show ((j : Nat) : Int).toNat = j from rfl]
      by_cases z2 : fk ci.toNat j = 2
      · rw [if_pos z2, if_pos z2, if_neg (by decide), dflt_ref (href j hj z2)]; rfl
      · rw [if_neg z2, if_neg z2]
        by_cases z : ty j = .int
        · rw [z]; rfl
        · rw [if_neg z] at hk
          by_cases z3 : ty j = .boolean
          · rw [z3]; rfl
          · rw [if_neg z3] at hk; exact absurd hk z2
    · rw [cE_ne (M := M) (fun j => by rw [hlow b (by omega), if_neg hbn])]
      have hb2 : b < naOf true M := by rw [hnaM]; omega
      have h3 := I.1 b hb2
      exact h3.kept (o1 _ (by show ad b < _; rw [hK.2.2.2.1 b (by omega)]; omega))
  · rw [hlow b hb]
    by_cases hbn : b = n0
    · rw [if_pos hbn]
      subst hbn
      rw [hsh, if_neg (show ¬ (4 : Nat) = 1 by decide)]
      split
      · exact ⟨by decide, by decide⟩
      · exact c32_0
    · rw [if_neg hbn]
      exact I.2.1 b j hb
  · have hS := I.2.2.2.2.1
    exact ⟨Nat.le_trans hS.1 (by omega), fun x h1 h2 => (o1 x (by have := hS.1; omega)).trans (hS.2.1 x h1 h2), hS.2.2⟩
theorem am_37 (B : Bx p s m args meth c cc nL own ini D c4 ad h0) (hcap : ∀ i' ls' st' M', k i' ls' st' M' = some r → naOf ph M' ≤ R.cells + nal ∧ slOf ph M' ≤ R.slots + sll) (hrow : okRow own ini cc P i (37, o) ax = true) (hact : act call rcv ph sx rz 37 o i ls st M k = some r) (I : Iv D c4 ad ph h0 s nL nal sll ls st M H locs lsr cells slots) (K : KK p l e R s m args below meth c Q nL P D c4 ad h0 ph nal sll k r) : W p l e R s m args below meth c H locs cells slots Q (F0 m (P.getD i 0) lsr (st.map (rv ad))) := by
  obtain ⟨hx, hb, hml, hown, hts, hini, hK⟩ := B
  have hts' : ∀ w ∈ gT, w.before args s = true := fun w hw => hts w (gT_mem.mp hw).1 (gT_mem.mp hw).2
  obtain ⟨ins, n, hd, ho⟩ := okRow_dec hrow
  rw [act_37] at hact
  split at hact
  rotate_left
  · cases hact
  rename_i kd n st
  split at hact
  rotate_left
  · cases hact
  rename_i hcond
  obtain ⟨hph, h90, h91, hna, hsh, hkd, hn0', hn1⟩ := hcond
  subst hph
  have h89 : (M 9999 0).toNat < 89 := hna
  simp only [okI, Bool.and_eq_true] at ho
  generalize hn0 : (M 9999 0).toNat = n0 at *
  have hcn : c32 n := stk_hd I.stk
  have hnaM : naOf true M = n0 := hn0
  have hsz : H.size = h0 + n0 := by rw [I.2.2.2.1 rfl, hnaM]
  have hM' : newA M n.toNat n0 = up (up (fun b j => if b = n0 then 0 else M b j) 9999 0 (n0 + 1)) 9999 1 (M 9999 1 + n.toNat) := rfl
  have hna' : naOf true (newA M n.toNat n0) = n0 + 1 := naOf_new (M := M)
  have hsl' : slOf true (newA M n.toNat n0) = slOf true M + n.toNat := by
    rw [hM', slOf_new]; unfold slOf; rw [if_pos rfl]; omega
  have hcp := hcap _ _ _ _ hact
  rw [hna', hsl'] at hcp
  have hc1 := I.2.2.2.2.2.2.2.2.1
  have hc2 := I.2.2.2.2.2.2.2.2.2
  rw [hnaM] at hc1
  have hlow : ∀ b, b < 89 → ∀ j, newA M n.toNat n0 b j = if b = n0 then 0 else M b j := fun b hb j => by rw [hM', up2_low hb]
  rcases hkd with rfl | rfl
  · replace hsh : shp n0 = (0, n.toNat) := hsh
    simp only [if_pos, if_neg, decide_eq_true_eq, Bool.and_eq_true, if_true] at ho
    obtain ⟨⟨hn, rfl⟩, rfl⟩ := ho
    have hn := nx_eq hn
    refine va_newaK (h := h0 + n0) (N := n.toNat) hx hb (atype := .int) (hts _ (am_pl_mem aw_int) rfl) rfl hd rfl (by rw [show (0 : Int32) = Int32.ofInt 0 from rfl, n_lt hcn c32_0]; omega) (n_idx hcn) (by show n.toNat * 4 ≤ 536870912; omega) (by omega) (by omega) hsz fun H1 cA e1 z1 o1 hAr hfc => ?_
    have hcA : cA = c4.1 := Option.some.inj (hfc.symm.trans (hK.1.2 0 _ rfl).2)
    subst hcA
    refine W.eq (g2 := F0 m (P.getD (i + 1) 0) lsr ((rv ad (2, M 9999 0)) :: st.map (rv ad))) ?_ ?_
    · rw [hn]
      show F0 m _ lsr (Value.ref (h0 + n0) :: _) = F0 m _ lsr (Value.ref (ad (M 9999 0).toNat) :: _)
      rw [hn0, hK.2.2.2.1 n0 h89]
    refine K _ _ _ _ H1 locs lsr (cells + 1) (slots + n.toNat) hact ⟨fun b hb => ?_, fun b j hb => ?_, by rw [hna']; omega, fun _ => by rw [z1, hna']; omega, ?_, I.lrel, I.lcv, stk_cons (v := (2, M 9999 0)) h90 (lt3 rfl) (stk_tl I.stk), by rw [hna']; omega, by rw [hsl']; omega⟩
    · rw [hna'] at hb
      by_cases hbn : b = n0
      · subst hbn
        rw [cE_int hsh]
        show H1[ad b]? = some (vp_cell _ _)
        rw [hK.2.2.2.1 b h89, e1, vp_cell_i]
        refine congrArg some (arrV_ext fun j hj => ?_)
        rw [hlow b h89, if_pos rfl]; rfl
      · rw [cE_ne (M := M) (fun j => by rw [hlow b (by omega), if_neg hbn])]
        have hb2 : b < naOf true M := by rw [hnaM]; omega
        have h3 := I.1 b hb2
        exact h3.kept (o1 _ (by show ad b < _; rw [hK.2.2.2.1 b (by omega)]; omega))
    · rw [hlow b hb]
      by_cases hbn : b = n0
      · rw [if_pos hbn]
        split
        · exact ⟨by decide, by decide⟩
        · exact c32_0
      · rw [if_neg hbn]
        exact I.2.1 b j hb
    · have hS := I.2.2.2.2.1
      exact ⟨Nat.le_trans hS.1 (by omega), fun x h1 h2 => (o1 x (by have := hS.1; omega)).trans (hS.2.1 x h1 h2), hS.2.2⟩
  · replace hsh : shp n0 = (1, n.toNat) := hsh
    simp only [if_pos, if_neg, decide_eq_true_eq, Bool.and_eq_true, show ¬ (1 : Int) = 0 by decide, if_false, true_and] at ho
    obtain ⟨⟨hn, rfl⟩, rfl⟩ := ho
    have hn := nx_eq hn
    refine va_newaK (h := h0 + n0) (N := n.toNat) hx hb (atype := .long) (hts _ (am_pl_mem aw_long) rfl) rfl hd rfl (by rw [show (0 : Int32) = Int32.ofInt 0 from rfl, n_lt hcn c32_0]; omega) (n_idx hcn) (by show n.toNat * 8 ≤ 536870912; omega) (by omega) (by omega) hsz fun H1 cA e1 z1 o1 hAr hfc => ?_
    have hcA : cA = c4.2.1 := Option.some.inj (hfc.symm.trans (hK.1.2 1 _ rfl).2)
    subst hcA
    refine W.eq (g2 := F0 m (P.getD (i + 1) 0) lsr ((rv ad (2, M 9999 0)) :: st.map (rv ad))) ?_ ?_
    · rw [hn]
      show F0 m _ lsr (Value.ref (h0 + n0) :: _) = F0 m _ lsr (Value.ref (ad (M 9999 0).toNat) :: _)
      rw [hn0, hK.2.2.2.1 n0 h89]
    refine K _ _ _ _ H1 locs lsr (cells + 1) (slots + n.toNat) hact ⟨fun b hb => ?_, fun b j hb => ?_, by rw [hna']; omega, fun _ => by rw [z1, hna']; omega, ?_, I.lrel, I.lcv, stk_cons (v := (2, M 9999 0)) h90 (lt3 rfl) (stk_tl I.stk), by rw [hna']; omega, by rw [hsl']; omega⟩
    · rw [hna'] at hb
      by_cases hbn : b = n0
      · subst hbn
        rw [cE_long hsh]
        show H1[ad b]? = some (vp_cell _ _)
        rw [hK.2.2.2.1 b h89, e1, vp_cell_l]
        refine congrArg some (arrV_ext fun j hj => ?_)
        rw [hlow b h89, if_pos rfl]; rfl
      · rw [cE_ne (M := M) (fun j => by rw [hlow b (by omega), if_neg hbn])]
        have hb2 : b < naOf true M := by rw [hnaM]; omega
        have h3 := I.1 b hb2
        exact h3.kept (o1 _ (by show ad b < _; rw [hK.2.2.2.1 b (by omega)]; omega))
    · rw [hlow b hb]
      by_cases hbn : b = n0
      · rw [if_pos hbn]
        split
        · exact ⟨by decide, by decide⟩
        · exact c32_0
      · rw [if_neg hbn]
        exact I.2.1 b j hb
    · have hS := I.2.2.2.2.1
      exact ⟨Nat.le_trans hS.1 (by omega), fun x h1 h2 => (o1 x (by have := hS.1; omega)).trans (hS.2.1 x h1 h2), hS.2.2⟩
theorem am_38 (B : Bx p s m args meth c cc nL own ini D c4 ad h0) (hcap : ∀ i' ls' st' M', k i' ls' st' M' = some r → naOf ph M' ≤ R.cells + nal ∧ slOf ph M' ≤ R.slots + sll) (hrow : okRow own ini cc P i (38, o) ax = true) (hact : act call rcv ph sx rz 38 o i ls st M k = some r) (I : Iv D c4 ad ph h0 s nL nal sll ls st M H locs lsr cells slots) (K : KK p l e R s m args below meth c Q nL P D c4 ad h0 ph nal sll k r) : W p l e R s m args below meth c H locs cells slots Q (F0 m (P.getD i 0) lsr (st.map (rv ad))) := by
  obtain ⟨hx, hb, hml, hown, hts, hini, hK⟩ := B
  have hts' : ∀ w ∈ gT, w.before args s = true := fun w hw => hts w (gT_mem.mp hw).1 (gT_mem.mp hw).2
  obtain ⟨ins, n, hd, ho⟩ := okRow_dec hrow
  rw [act_38] at hact
  split at hact
  rotate_left
  · cases hact
  rename_i kd l2 n st
  split at hact
  rotate_left
  · cases hact
  rename_i hcond
  obtain ⟨hph, h90, h91, hna, hsh, hkd, hn0', hn1, hl0, hl1, hall⟩ := hcond
  subst hph
  have hall := fun (j : Nat) (hj : j < n.toNat) => of_decide_eq_true (List.all_eq_true.mp hall j (List.mem_range.mpr hj))
  have h89 : (M 9999 0).toNat + n.toNat < 89 := hna
  simp only [okI, Bool.and_eq_true, decide_eq_true_eq] at ho
  obtain ⟨⟨hn, rfl⟩, ho⟩ := ho
  have hn := nx_eq hn
  split at ho
  all_goals first | (cases ho; done) | skip
  rename_i ix dm
  generalize hn0 : (M 9999 0).toNat = n0 at *
  have hcn : c32 n := stk_hd (stk_tl I.stk)
  have hcl2 : c32 l2 := stk_hd I.stk
  have hnaM : naOf true M = n0 := hn0
  have hsz : H.size = h0 + n0 := by rw [I.2.2.2.1 rfl, hnaM]
  have hM' : newMul M n.toNat l2.toNat n0 = up (up (fun b j => if b = n0 then (if 0 ≤ j ∧ j < (n.toNat : Int) then n0 + 1 + j else 0) else if n0 < b ∧ b ≤ n0 + n.toNat then 0 else M b j) 9999 0 (n0 + 1 + n.toNat)) 9999 1 (M 9999 1 + n.toNat + n.toNat * l2.toNat) := rfl
  have hna' : naOf true (newMul M n.toNat l2.toNat n0) = n0 + 1 + n.toNat := by
    rw [hM']; unfold naOf; rw [if_pos rfl, up_ne2 (by decide), up_eq]; omega
  have hsl' : slOf true (newMul M n.toNat l2.toNat n0) = slOf true M + n.toNat + n.toNat * l2.toNat := by
    rw [hM', slOf_new]; unfold slOf; rw [if_pos rfl]
    have : ((n.toNat * l2.toNat : Nat) : Int) = (n.toNat : Int) * (l2.toNat : Int) := Int.natCast_mul _ _
    omega
  have hcp := hcap _ _ _ _ hact
  rw [hna', hsl'] at hcp
  have hc1 := I.2.2.2.2.2.2.2.2.1
  have hc2 := I.2.2.2.2.2.2.2.2.2
  rw [hnaM] at hc1
  have hlow : ∀ b, b < 89 → ∀ j, newMul M n.toNat l2.toNat n0 b j = if b = n0 then (if 0 ≤ j ∧ j < (n.toNat : Int) then n0 + 1 + j else 0) else if n0 < b ∧ b ≤ n0 + n.toNat then 0 else M b j := fun b hb j => by rw [hM', up2_low hb]
  rcases hkd with rfl | rfl
  · replace hsh : shp n0 = (2, n.toNat) := hsh
    replace hall : ∀ j, j < n.toNat → shp (n0 + 1 + j) = (0, l2.toNat) := hall
    simp only [if_pos, if_neg, decide_eq_true_eq, Bool.and_eq_true, if_true] at ho
    have hdm := ho.1
    subst hdm
    have hcl := ho.2
    intro T hT Xs
    obtain ⟨vm₁, cA, comp, -, fA, fC, -, -, X', step⟩ := Xs.multianewarray2F hx hown (ty := .int) (hts _ (am_pl_mem hcl) rfl) (va_tabs0 hK.2.2.1.1) (hts _ (am_pl_mem aw_int) rfl) (g := F0 m (P.getD i 0) lsr (.int (Int32.ofInt l2) :: .int (Int32.ofInt n) :: st.map (rv ad))) rfl (by rw [hb]; exact hd) rfl (by rw [show (0 : Int32) = Int32.ofInt 0 from rfl, n_lt hcn c32_0]; omega) (by rw [show (0 : Int32) = Int32.ofInt 0 from rfl, n_lt hcl2 c32_0]; omega) (by rw [n_idx hcn]; omega) (by rw [n_idx hcl2]; show l2.toNat * 4 ≤ 536870912; omega) (by rw [n_idx hcl2]; omega) rfl rfl (by rw [n_idx hcn]; omega) (by rw [n_idx hcn, n_idx hcl2]; omega)
    have ec : comp = c4.1 := Option.some.inj (fC.symm.trans (hK.1.2 0 _ rfl).2)
    have eo : cA = c4.2.2.1 := Option.some.inj (fA.symm.trans (hK.1.2 2 _ rfl).2)
    subst ec; subst eo
    rw [n_idx hcn, n_idx hcl2] at X' step
    have hTh : (T.setVm vm₁).heap = H := hT
    have f0 := Jvm.Free.Multi.fill_facts (T.setVm vm₁) c4.2.2.1 c4.1 n.toNat l2.toNat (defaultValue .int) n.toNat
    have f1 := f0.1
    have f2 := f0.2.1
    have hold := fun (x : Nat) (hx : x < (T.setVm vm₁).heap.size) => Jvm.Free.Multi.fill_old (T.setVm vm₁) c4.2.2.1 c4.1 n.toNat l2.toNat (defaultValue .int) (a := x) hx n.toNat
    have hrow := Jvm.Free.Multi.fill_inner (T.setVm vm₁) c4.2.2.1 c4.1 n.toNat l2.toNat (defaultValue .int) n.toNat
    rw [hTh] at f1 f2 hold hrow
    generalize hF : Jvm.Free.Multi.fill (T.setVm vm₁) c4.2.2.1 c4.1 n.toNat l2.toNat (defaultValue .int) n.toNat = F at X' step f1 f2 hold hrow
    have hTs : T.heap.size = h0 + n0 := by rw [hT]; exact hsz
    rw [hTs] at step
    rw [hsz] at f1 f2 hrow hold
    have KK' := K _ _ _ _ F.heap locs lsr (cells + 1 + n.toNat) (slots + n.toNat + n.toNat * l2.toNat) hact ⟨fun b hb => ?_, fun b j hb => ?_, by rw [hna']; omega, fun _ => by rw [f1, hna']; omega, ?_, I.lrel, I.lcv, stk_cons (v := (2, M 9999 0)) h90 (lt3 rfl) (stk_tl (stk_tl I.stk)), by rw [hna']; omega, by rw [hsl']; omega⟩
    · obtain ⟨t, a1, b1⟩ := KK' F rfl X'
      refine ⟨t, step t ?_, b1⟩
      have eg : F0 m (P.getD (i + 1) 0) lsr (((2, M 9999 0) :: st).map (rv ad)) = F0 m (P.getD i 0 + 4) lsr (Value.ref (h0 + n0) :: st.map (rv ad)) := by
        rw [hn]
        show F0 m _ lsr (Value.ref (ad (M 9999 0).toNat) :: _) = _
        rw [hn0, hK.2.2.2.1 n0 (by omega)]
      rw [eg] at a1
      exact a1
    · rw [hna'] at hb
      by_cases hbn : b = n0
      · subst hbn
        rw [cE_ri hsh]
        show F.heap[ad b]? = some (vp_cell _ _)
        rw [hK.2.2.2.1 b (by omega), f2, outer_ref, vp_cell_q]
        refine congrArg some (arrV_ext fun j hj => ?_)
        rw [if_pos hj]
        unfold orf gr
        rw [if_pos rfl, hlow b (by omega), if_pos rfl, if_pos (show 0 ≤ ((j : Nat) : Int) ∧ ((j : Nat) : Int) < (n.toNat : Int) by omega), if_pos (by omega), hK.2.2.2.1 _ (by omega)]
        congr 2
        omega
      · by_cases hbm : n0 < b
        · have hsb : shp b = (0, l2.toNat) := by
            have := hall (b - n0 - 1) (by omega)
            rw [show n0 + 1 + (b - n0 - 1) = b by omega] at this
            exact this
          rw [cE_int hsb]
          show F.heap[ad b]? = some (vp_cell _ _)
          have h4 := hrow (b - n0 - 1) (by omega)
          rw [hK.2.2.2.1 b (by omega), show h0 + b = h0 + n0 + 1 + (b - n0 - 1) by omega, h4, vp_cell_i]
          refine congrArg some ((arrV_new _ _ _).trans (arrV_ext fun j hj => ?_))
          rw [hlow b (by omega), if_neg hbn, if_pos ⟨hbm, by omega⟩]; rfl
        · rw [cE_ne (M := M) (fun j => by rw [hlow b (by omega), if_neg hbn, if_neg (by omega)])]
          have hb2 : b < naOf true M := by rw [hnaM]; omega
          exact (I.1 b hb2).kept (hold _ (by show ad b < _; rw [hK.2.2.2.1 b (by omega)]; omega))
    · rw [hlow b hb]
      by_cases hbn : b = n0
      · rw [if_pos hbn]
        subst hbn
        rw [hsh, if_neg (show ¬ (2 : Nat) = 1 by decide)]
        split
        · exact ⟨by omega, by omega⟩
        · exact c32_0
      · rw [if_neg hbn]
        by_cases hbm : n0 < b ∧ b ≤ n0 + n.toNat
        · rw [if_pos hbm]
          split
          · exact ⟨by decide, by decide⟩
          · exact c32_0
        · rw [if_neg hbm]
          exact I.2.1 b j hb
    · have hS := I.2.2.2.2.1
      exact ⟨Nat.le_trans hS.1 (by omega), fun x h1 h2 => (hold x (by have := hS.1; omega)).trans (hS.2.1 x h1 h2), hS.2.2⟩
  · replace hsh : shp n0 = (3, n.toNat) := hsh
    replace hall : ∀ j, j < n.toNat → shp (n0 + 1 + j) = (1, l2.toNat) := hall
    simp only [if_pos, if_neg, decide_eq_true_eq, Bool.and_eq_true, show ¬ (1 : Int) = 0 by decide, if_false, true_and] at ho
    have hdm := ho.1
    subst hdm
    have hcl := ho.2
    intro T hT Xs
    obtain ⟨vm₁, cA, comp, -, fA, fC, -, -, X', step⟩ := Xs.multianewarray2F hx hown (ty := .long) (hts _ (am_pl_mem hcl) rfl) (va_tabs0 hK.2.2.1.2) (hts _ (am_pl_mem aw_long) rfl) (g := F0 m (P.getD i 0) lsr (.int (Int32.ofInt l2) :: .int (Int32.ofInt n) :: st.map (rv ad))) rfl (by rw [hb]; exact hd) rfl (by rw [show (0 : Int32) = Int32.ofInt 0 from rfl, n_lt hcn c32_0]; omega) (by rw [show (0 : Int32) = Int32.ofInt 0 from rfl, n_lt hcl2 c32_0]; omega) (by rw [n_idx hcn]; omega) (by rw [n_idx hcl2]; show l2.toNat * 8 ≤ 536870912; omega) (by rw [n_idx hcl2]; omega) rfl rfl (by rw [n_idx hcn]; omega) (by rw [n_idx hcn, n_idx hcl2]; omega)
    have ec : comp = c4.2.1 := Option.some.inj (fC.symm.trans (hK.1.2 1 _ rfl).2)
    have eo : cA = c4.2.2.2 := Option.some.inj (fA.symm.trans (hK.1.2 3 _ rfl).2)
    subst ec; subst eo
    rw [n_idx hcn, n_idx hcl2] at X' step
    have hTh : (T.setVm vm₁).heap = H := hT
    have f0 := Jvm.Free.Multi.fill_facts (T.setVm vm₁) c4.2.2.2 c4.2.1 n.toNat l2.toNat (defaultValue .long) n.toNat
    have f1 := f0.1
    have f2 := f0.2.1
    have hold := fun (x : Nat) (hx : x < (T.setVm vm₁).heap.size) => Jvm.Free.Multi.fill_old (T.setVm vm₁) c4.2.2.2 c4.2.1 n.toNat l2.toNat (defaultValue .long) (a := x) hx n.toNat
    have hrow := Jvm.Free.Multi.fill_inner (T.setVm vm₁) c4.2.2.2 c4.2.1 n.toNat l2.toNat (defaultValue .long) n.toNat
    rw [hTh] at f1 f2 hold hrow
    generalize hF : Jvm.Free.Multi.fill (T.setVm vm₁) c4.2.2.2 c4.2.1 n.toNat l2.toNat (defaultValue .long) n.toNat = F at X' step f1 f2 hold hrow
    have hTs : T.heap.size = h0 + n0 := by rw [hT]; exact hsz
    rw [hTs] at step
    rw [hsz] at f1 f2 hrow hold
    have KK' := K _ _ _ _ F.heap locs lsr (cells + 1 + n.toNat) (slots + n.toNat + n.toNat * l2.toNat) hact ⟨fun b hb => ?_, fun b j hb => ?_, by rw [hna']; omega, fun _ => by rw [f1, hna']; omega, ?_, I.lrel, I.lcv, stk_cons (v := (2, M 9999 0)) h90 (lt3 rfl) (stk_tl (stk_tl I.stk)), by rw [hna']; omega, by rw [hsl']; omega⟩
    · obtain ⟨t, a1, b1⟩ := KK' F rfl X'
      refine ⟨t, step t ?_, b1⟩
      have eg : F0 m (P.getD (i + 1) 0) lsr (((2, M 9999 0) :: st).map (rv ad)) = F0 m (P.getD i 0 + 4) lsr (Value.ref (h0 + n0) :: st.map (rv ad)) := by
        rw [hn]
        show F0 m _ lsr (Value.ref (ad (M 9999 0).toNat) :: _) = _
        rw [hn0, hK.2.2.2.1 n0 (by omega)]
      rw [eg] at a1
      exact a1
    · rw [hna'] at hb
      by_cases hbn : b = n0
      · subst hbn
        rw [cE_rl hsh]
        show F.heap[ad b]? = some (vp_cell _ _)
        rw [hK.2.2.2.1 b (by omega), f2, outer_ref, vp_cell_q]
        refine congrArg some (arrV_ext fun j hj => ?_)
        rw [if_pos hj]
        unfold orf gr
        rw [if_pos rfl, hlow b (by omega), if_pos rfl, if_pos (show 0 ≤ ((j : Nat) : Int) ∧ ((j : Nat) : Int) < (n.toNat : Int) by omega), if_pos (by omega), hK.2.2.2.1 _ (by omega)]
        congr 2
        omega
      · by_cases hbm : n0 < b
        · have hsb : shp b = (1, l2.toNat) := by
            have := hall (b - n0 - 1) (by omega)
            rw [show n0 + 1 + (b - n0 - 1) = b by omega] at this
            exact this
          rw [cE_long hsb]
          show F.heap[ad b]? = some (vp_cell _ _)
          have h4 := hrow (b - n0 - 1) (by omega)
          rw [hK.2.2.2.1 b (by omega), show h0 + b = h0 + n0 + 1 + (b - n0 - 1) by omega, h4, vp_cell_l]
          refine congrArg some ((arrV_new _ _ _).trans (arrV_ext fun j hj => ?_))
          rw [hlow b (by omega), if_neg hbn, if_pos ⟨hbm, by omega⟩]; rfl
        · rw [cE_ne (M := M) (fun j => by rw [hlow b (by omega), if_neg hbn, if_neg (by omega)])]
          have hb2 : b < naOf true M := by rw [hnaM]; omega
          exact (I.1 b hb2).kept (hold _ (by show ad b < _; rw [hK.2.2.2.1 b (by omega)]; omega))
    · rw [hlow b hb]
      by_cases hbn : b = n0
      · rw [if_pos hbn]
        subst hbn
        rw [hsh, if_neg (show ¬ (3 : Nat) = 1 by decide)]
        split
        · exact ⟨by omega, by omega⟩
        · exact c32_0
      · rw [if_neg hbn]
        by_cases hbm : n0 < b ∧ b ≤ n0 + n.toNat
        · rw [if_pos hbm]
          split
          · exact ⟨by decide, by decide⟩
          · exact c32_0
        · rw [if_neg hbm]
          exact I.2.1 b j hb
    · have hS := I.2.2.2.2.1
      exact ⟨Nat.le_trans hS.1 (by omega), fun x h1 h2 => (hold x (by have := hS.1; omega)).trans (hS.2.1 x h1 h2), hS.2.2⟩
theorem am_40 (B : Bx p s m args meth c cc nL own ini D c4 ad h0) (hR : 1 ≤ R.frames ∧ 100 ≤ R.locals) (hrow : okRow own ini cc P i (40, o) ax = true) (hact : act call rcv ph sx rz 40 o i ls st M k = some r) (I : Iv D c4 ad ph h0 s nL nal sll ls st M H locs lsr cells slots) (K : KK p l e R s m args below meth c Q nL P D c4 ad h0 ph nal sll k r) : W p l e R s m args below meth c H locs cells slots Q (F0 m (P.getD i 0) lsr (st.map (rv ad))) := by
  obtain ⟨hx, hb, hml, hown, hts, hini, hK⟩ := B
  have hts' : ∀ w ∈ gT, w.before args s = true := fun w hw => hts w (gT_mem.mp hw).1 (gT_mem.mp hw).2
  obtain ⟨ins, n, hd, ho⟩ := okRow_dec hrow
  rw [act_40] at hact
  split at hact
  rotate_left
  · cases hact
  rename_i a st
  split at hact
  rotate_left
  · cases hact
  rename_i hcond
  simp only [okI, Bool.and_eq_true, decide_eq_true_eq] at ho
  obtain ⟨⟨hn, rfl⟩, ho⟩ := ho
  have hn := nx_eq hn
  split at ho
  all_goals first | (cases ho; done) | skip
  rename_i ix
  simp only [Bool.and_eq_true, decide_eq_true_eq] at ho
  have G := K _ _ _ _ H locs lsr cells slots hact (I.stN (stk_tl I.stk))
  rw [hn] at G
  have hst := st_sum (ad := ad) (st := st) hcond.2
  refine W.objInit hx hb hown (hts _ (am_pl_mem ho.1.1) rfl) (hts _ (am_pl_mem ho.1.2) rfl) (hts _ (am_pl_mem ho.2) rfl) rfl (by rw [hml]; exact I.lrel.2.1) rfl hd (by omega) ?_ (W.eq rfl G)
  have := lv_room (m := m) (pc := P.getD i 0) (ls := lsr) (rest := ([] : List Value)) (st := st.map (rv ad)) (by omega)
  show 2 * 0 + _ + 12 ≤ _
  omega
theorem am_41 (B : Bx p s m args meth c cc nL own ini D c4 ad h0) (hR : 1 ≤ R.frames ∧ 100 ≤ R.locals) (hrow : okRow own ini cc P i (41, o) ax = true) (hact : act call rcv ph sx rz 41 o i ls st M k = some r) (I : Iv D c4 ad ph h0 s nL nal sll ls st M H locs lsr cells slots) (K : KK p l e R s m args below meth c Q nL P D c4 ad h0 ph nal sll k r) : W p l e R s m args below meth c H locs cells slots Q (F0 m (P.getD i 0) lsr (st.map (rv ad))) := by
  obtain ⟨hx, hb, hml, hown, hts, hini, hK⟩ := B
  have hts' : ∀ w ∈ gT, w.before args s = true := fun w hw => hts w (gT_mem.mp hw).1 (gT_mem.mp hw).2
  obtain ⟨ins, n, hd, ho⟩ := okRow_dec hrow
  rw [act_41] at hact
  split at hact
  rotate_left
  · cases hact
  rename_i n j b i2 a st
  split at hact
  rotate_left
  · cases hact
  rename_i hcond
  obtain ⟨hph, hst3, hla, hlb, hi0, hj0, hn0, hk1, hk2, hi1, hj1⟩ := hcond
  subst hph
  simp only [okI, Bool.and_eq_true, decide_eq_true_eq] at ho
  obtain ⟨⟨hn, rfl⟩, ho⟩ := ho
  have hn := nx_eq hn
  split at ho
  all_goals first | (cases ho; done) | skip
  rename_i ix
  simp only [Bool.and_eq_true, decide_eq_true_eq] at ho
  obtain ⟨⟨⟨hw1, hw2⟩, hw3⟩, hw4⟩ := ho
  obtain ⟨ha0, ha1⟩ := live_eq hla
  obtain ⟨hb0, hb1⟩ := live_eq hlb
  have hcn : c32 n := stk_hd I.stk
  have hcj : c32 j := stk_hd (stk_tl I.stk)
  have hci : c32 i2 := stk_hd (stk_tl (stk_tl (stk_tl I.stk)))
  have ha89 : a.toNat < 89 := ha1
  have hb89 : b.toNat < 89 := hb1
  have hS := I.2.2.2.2.1
  have hwsP : va_P D am_cl (wsA c4 ad M) H := wsA_P I.1
  have hwsD : va_D (fun q : Nat => h0 ≤ q) (wsA c4 ad M) := wsA_D hK.2.2.2.1
  have hst := st_sum (ad := ad) (st := st) hst3
  have hnf : nativeFrameWords "java/lang/System" "arraycopy" 5 ≤ 60 := by decide
  have e1 : (Int32.ofInt i2).toNatClampNeg = i2.toNat := n_idx hci
  have e2 : (Int32.ofInt j).toNatClampNeg = j.toNat := n_idx hcj
  have e3 : (Int32.ofInt n).toNatClampNeg = n.toNat := n_idx hcn
  have ng : ∀ {z : Int}, c32 z → 0 ≤ z → ¬ Int32.ofInt z < 0 := fun {z} hc h => by rw [show (0 : Int32) = Int32.ofInt 0 from rfl, n_lt hc c32_0]; omega
  have hM : ∀ c q, cpy M a.toNat b.toNat i2 j n c q = if c = b.toNat ∧ j ≤ q ∧ q < j + n then M a.toNat (i2 + (q - j)) else M c q := fun c q => rfl
  have hIv : ∀ (H1 : Heap) (locs1 : List Loc), wH D c4 ad false (cpy M a.toNat b.toNat i2 j n) H1 → va_S (fun q : Nat => h0 ≤ q) s.heap H1 locs1 → W p l e R s m args below meth c H1 locs1 cells slots Q (F0 m (P.getD i 0 + 3) lsr (st.map (rv ad))) := fun H1 locs1 hw1 hS1 => by
    rw [← hn]
    refine K _ _ _ _ H1 locs1 lsr cells slots hact ⟨hw1, fun c q hc => ?_, Nat.le_refl _, fun h => by (cases h), hS1, I.lrel, I.lcv, stk_tl (stk_tl (stk_tl (stk_tl (stk_tl I.stk)))), I.2.2.2.2.2.2.2.2.1, I.2.2.2.2.2.2.2.2.2⟩
    rw [hM]
    by_cases hq : c = b.toNat ∧ j ≤ q ∧ q < j + n
    · rw [if_pos hq]
      have h5 := I.2.1 a.toNat (i2 + (q - j)) ha89
      rw [hq.1, ← hk2]
      exact h5
    · rw [if_neg hq]
      exact I.2.1 c q hc
  obtain ⟨sa, hsa⟩ : ∃ x, shp a.toNat = x := ⟨_, rfl⟩
  obtain ⟨sb, hsb⟩ : ∃ x, shp b.toNat = x := ⟨_, rfl⟩
  obtain ⟨ka, na⟩ := sa
  obtain ⟨kb, nb⟩ := sb
  rw [hsa, hsb] at hk2
  rw [hsa] at hk1 hi1
  rw [hsb] at hj1
  dsimp only at hk1 hk2 hi1 hj1
  subst hk2
  rcases hk1 with rfl | rfl
  · refine va_copyi (ws := wsA c4 ad M) (A := fun q : Nat => h0 ≤ q) hx hb (by rw [hml]; exact I.lrel.2.1.symm) hown (hts _ (am_pl_mem hw1) rfl) (hts _ (am_pl_mem hw2) rfl) (hts _ (am_pl_mem hw3) rfl) (hts _ (am_pl_mem hw4) rfl) hK.1 hwsP hwsD hS a.toNat b.toNat 0 0 (by rw [wsA_get ha89, cE_int hsa]) (by rw [wsA_get hb89, cE_int hsb]) rfl rfl rfl (ng hci hi0) (ng hcj hj0) (ng hcn hn0) (by rw [e1, e3]; omega) (by rw [e2, e3]; omega) (fun _ _ => rfl) (by omega) (by omega) hd fun H1 locs1 hP1 hD1 hS1 => ?_
    refine hIv H1 locs1 (wsA_back hP1 (fun c hc => ?_) ?_) hS1
    · exact fun q => by rw [hM, if_neg (fun z => hc z.1)]
    · rw [cE_int hsb]
      refine congrArg _ (congrArg _ (congrArg _ (congrArg _ (funext fun z => ?_))))
      rw [hM, e1, e2, e3]
      unfold va_cpy
      by_cases q : j.toNat ≤ z ∧ z < j.toNat + n.toNat
      · rw [if_pos q, if_pos ⟨rfl, by omega, by omega⟩]
        congr 2
        omega
      · rw [if_neg q, if_neg (by omega)]
  · refine va_copyl (ws := wsA c4 ad M) (A := fun q : Nat => h0 ≤ q) hx hb (by rw [hml]; exact I.lrel.2.1.symm) hown (hts _ (am_pl_mem hw1) rfl) (hts _ (am_pl_mem hw2) rfl) (hts _ (am_pl_mem hw3) rfl) (hts _ (am_pl_mem hw4) rfl) hK.1 hwsP hwsD hS a.toNat b.toNat 1 1 (by rw [wsA_get ha89, cE_long hsa]) (by rw [wsA_get hb89, cE_long hsb]) rfl rfl rfl (ng hci hi0) (ng hcj hj0) (ng hcn hn0) (by rw [e1, e3]; omega) (by rw [e2, e3]; omega) (fun _ _ => rfl) (by omega) (by omega) hd fun H1 locs1 hP1 hD1 hS1 => ?_
    refine hIv H1 locs1 (wsA_back hP1 (fun c hc => ?_) ?_) hS1
    · exact fun q => by rw [hM, if_neg (fun z => hc z.1)]
    · rw [cE_long hsb]
      refine congrArg _ (congrArg _ (congrArg _ (congrArg _ (congrArg _ (funext fun z => ?_)))))
      rw [hM, e1, e2, e3]
      unfold va_cpy
      by_cases q : j.toNat ≤ z ∧ z < j.toNat + n.toNat
      · rw [if_pos q, if_pos ⟨rfl, by omega, by omega⟩]
        congr 2
        omega
      · rw [if_neg q, if_neg (by omega)]
theorem am_45 (B : Bx p s m args meth c cc nL own ini D c4 ad h0) (hcap : ∀ i' ls' st' M', k i' ls' st' M' = some r → naOf ph M' ≤ R.cells + nal ∧ slOf ph M' ≤ R.slots + sll) (hR : 1 ≤ R.frames ∧ 100 ≤ R.locals) (hrow : okRow own ini cc P i (45, o) ax = true) (hact : act call rcv ph sx rz 45 o i ls st M k = some r) (I : Iv D c4 ad ph h0 s nL nal sll ls st M H locs lsr cells slots) (K : KK p l e R s m args below meth c Q nL P D c4 ad h0 ph nal sll k r) : W p l e R s m args below meth c H locs cells slots Q (F0 m (P.getD i 0) lsr (st.map (rv ad))) := by
  obtain ⟨hx, hb, hml, hown, hts, hini, hK⟩ := B
  have hts' : ∀ w ∈ gT, w.before args s = true := fun w hw => hts w (gT_mem.mp hw).1 (gT_mem.mp hw).2
  obtain ⟨ins, n, hd, ho⟩ := okRow_dec hrow
  rw [act_45] at hact
  split at hact
  rotate_left
  · cases hact
  rename_i x st
  split at hact
  rotate_left
  · cases hact
  rename_i hst3
  simp only [okI, Bool.and_eq_true, decide_eq_true_eq] at ho
  obtain ⟨⟨hn, rfl⟩, ho⟩ := ho
  have hn := nx_eq hn
  split at ho
  all_goals first | (cases ho; done) | skip
  rename_i ix
  simp only [Bool.and_eq_true, decide_eq_true_eq] at ho
  obtain ⟨⟨⟨hw1, hw2⟩, hw3⟩, hw4⟩ := ho
  have hcx : c32 x := stk_hd I.stk
  have hcp := hcap _ _ _ _ hact
  have hc1 := I.2.2.2.2.2.2.2.2.1
  have hc2 := I.2.2.2.2.2.2.2.2.2
  have hst := st_sum (ad := ad) (st := st) hst3
  have hcv : c32 (if 0 ≤ x then x else w32 (0 - x)) := by split <;> first | assumption | exact c_w32 _
  have G := K _ _ _ _ H locs lsr cells slots hact (I.stN (stk_cons (v := (0, if 0 ≤ x then x else w32 (0 - x))) hcv (lt3 rfl) (stk_tl I.stk)))
  rw [hn] at G
  refine va_mabs hx hb (by rw [hml]; exact I.lrel.2.1.symm) hown (hts _ (am_pl_mem hw1) rfl) (hts _ (am_pl_mem hw2) rfl) (hts _ (am_pl_mem hw4) rfl) (hts _ (am_pl_mem hw3) rfl) (by omega) (by omega) (by omega) (by omega) hd ?_
  have e1 : (if 0 ≤ Int32.ofInt x then Int32.ofInt x else 0 - Int32.ofInt x) = Int32.ofInt (if 0 ≤ x then x else w32 (0 - x)) := by
    by_cases q : 0 ≤ x
    · rw [if_pos q, if_pos (show (0 : Int32) ≤ Int32.ofInt x from (n_le c32_0 hcx).mpr q)]
    · rw [if_neg q, if_neg (show ¬ (0 : Int32) ≤ Int32.ofInt x from fun z => q ((n_le c32_0 hcx).mp z))]
      rw [n_w32, Int32.ofInt_sub]; rfl
  rw [e1]
  exact G
theorem am_46 (B : Bx p s m args meth c cc nL own ini D c4 ad h0) (hcap : ∀ i' ls' st' M', k i' ls' st' M' = some r → naOf ph M' ≤ R.cells + nal ∧ slOf ph M' ≤ R.slots + sll) (hR : 1 ≤ R.frames ∧ 100 ≤ R.locals) (hrow : okRow own ini cc P i (46, o) ax = true) (hact : act call rcv ph sx rz 46 o i ls st M k = some r) (I : Iv D c4 ad ph h0 s nL nal sll ls st M H locs lsr cells slots) (K : KK p l e R s m args below meth c Q nL P D c4 ad h0 ph nal sll k r) : W p l e R s m args below meth c H locs cells slots Q (F0 m (P.getD i 0) lsr (st.map (rv ad))) := by
  obtain ⟨hx, hb, hml, hown, hts, hini, hK⟩ := B
  have hts' : ∀ w ∈ gT, w.before args s = true := fun w hw => hts w (gT_mem.mp hw).1 (gT_mem.mp hw).2
  obtain ⟨ins, n, hd, ho⟩ := okRow_dec hrow
  rw [act_46] at hact
  split at hact
  rotate_left
  · cases hact
  rename_i y x st
  split at hact
  rotate_left
  · cases hact
  rename_i hst3
  simp only [okI, Bool.and_eq_true, decide_eq_true_eq] at ho
  obtain ⟨⟨hn, rfl⟩, ho⟩ := ho
  have hn := nx_eq hn
  split at ho
  all_goals first | (cases ho; done) | skip
  rename_i ix
  simp only [Bool.and_eq_true, decide_eq_true_eq] at ho
  obtain ⟨⟨⟨hw1, hw2⟩, hw3⟩, hw4⟩ := ho
  have hcy : c32 y := stk_hd I.stk
  have hcx : c32 x := stk_hd (stk_tl I.stk)
  have hcp := hcap _ _ _ _ hact
  have hc1 := I.2.2.2.2.2.2.2.2.1
  have hc2 := I.2.2.2.2.2.2.2.2.2
  have hst := st_sum (ad := ad) (st := st) hst3
  have hcv : c32 (if x < y then y else x) := by split <;> assumption
  have G := K _ _ _ _ H locs lsr cells slots hact (I.stN (stk_cons (v := (0, if x < y then y else x)) hcv (lt3 rfl) (stk_tl (stk_tl I.stk))))
  rw [hn] at G
  refine va_mmax hx hb (by rw [hml]; exact I.lrel.2.1.symm) hown (hts _ (am_pl_mem hw1) rfl) (hts _ (am_pl_mem hw2) rfl) (hts _ (am_pl_mem hw4) rfl) (hts _ (am_pl_mem hw3) rfl) (by omega) (by omega) (by omega) (by omega) hd ?_
  have e1 : (if Int32.ofInt x < Int32.ofInt y then Int32.ofInt y else Int32.ofInt x) = Int32.ofInt (if x < y then y else x) := by
    by_cases q : x < y
    · rw [if_pos q, if_pos ((n_lt hcx hcy).mpr q)]
    · rw [if_neg q, if_neg (fun z => q ((n_lt hcx hcy).mp z))]
  rw [e1]
  exact G
theorem am_47 (B : Bx p s m args meth c cc nL own ini D c4 ad h0) (hcap : ∀ i' ls' st' M', k i' ls' st' M' = some r → naOf ph M' ≤ R.cells + nal ∧ slOf ph M' ≤ R.slots + sll) (hR : 1 ≤ R.frames ∧ 100 ≤ R.locals) (hrow : okRow own ini cc P i (47, o) ax = true) (hact : act call rcv ph sx rz 47 o i ls st M k = some r) (I : Iv D c4 ad ph h0 s nL nal sll ls st M H locs lsr cells slots) (K : KK p l e R s m args below meth c Q nL P D c4 ad h0 ph nal sll k r) : W p l e R s m args below meth c H locs cells slots Q (F0 m (P.getD i 0) lsr (st.map (rv ad))) := by
  obtain ⟨hx, hb, hml, hown, hts, hini, hK⟩ := B
  have hts' : ∀ w ∈ gT, w.before args s = true := fun w hw => hts w (gT_mem.mp hw).1 (gT_mem.mp hw).2
  obtain ⟨ins, n, hd, ho⟩ := okRow_dec hrow
  rw [act_47] at hact
  split at hact
  rotate_left
  · cases hact
  rename_i y x st
  split at hact
  rotate_left
  · cases hact
  rename_i hst3
  simp only [okI, Bool.and_eq_true, decide_eq_true_eq] at ho
  obtain ⟨⟨hn, rfl⟩, ho⟩ := ho
  have hn := nx_eq hn
  split at ho
  all_goals first | (cases ho; done) | skip
  rename_i ix
  simp only [Bool.and_eq_true, decide_eq_true_eq] at ho
  obtain ⟨⟨⟨hw1, hw2⟩, hw3⟩, hw4⟩ := ho
  have hcy : c32 y := stk_hd I.stk
  have hcx : c32 x := stk_hd (stk_tl I.stk)
  have hcp := hcap _ _ _ _ hact
  have hc1 := I.2.2.2.2.2.2.2.2.1
  have hc2 := I.2.2.2.2.2.2.2.2.2
  have hst := st_sum (ad := ad) (st := st) hst3
  have hcv : c32 (if y < x then y else x) := by split <;> assumption
  have G := K _ _ _ _ H locs lsr cells slots hact (I.stN (stk_cons (v := (0, if y < x then y else x)) hcv (lt3 rfl) (stk_tl (stk_tl I.stk))))
  rw [hn] at G
  refine va_mmin hx hb (by rw [hml]; exact I.lrel.2.1.symm) hown (hts _ (am_pl_mem hw1) rfl) (hts _ (am_pl_mem hw2) rfl) (hts _ (am_pl_mem hw4) rfl) (hts _ (am_pl_mem hw3) rfl) (by omega) (by omega) (by omega) (by omega) hd ?_
  have e1 : (if Int32.ofInt y < Int32.ofInt x then Int32.ofInt y else Int32.ofInt x) = Int32.ofInt (if y < x then y else x) := by
    by_cases q : y < x
    · rw [if_pos q, if_pos ((n_lt hcy hcx).mpr q)]
    · rw [if_neg q, if_neg (fun z => q ((n_lt hcy hcx).mp z))]
  rw [e1]
  exact G
end SND
