/-! steps over fields, arrays, the switch over a list of numbers -/
section SND
variable {p : Program} {l : Launch} {e : Env} {R : Room} {s : State} {m : MethodId} {args : Array Value} {below : List Frame} {meth : Method} {c : Code} {Q : State → Prop}
variable {cc : ByteArray} {nL : Nat} {own : String} {ini : Bool} {P : List Nat} {D : va_G} {c4 : C4} {ad : Nat → Nat} {h0 : Nat} {ph : Bool} {sx : Int × (Int → Int)} {rz nal sll : Nat}
variable {call : Nat → List AV → Mem → Option Res} {k : Nat → List AV → List AV → Mem → Option Res} {r : Res}
variable {o : List Int} {i : Nat} {ls st : List AV} {M : Mem} {H : Heap} {locs : List Loc} {lsr : Array Slot} {cells slots : Nat} {ax : List Nat}
theorem am_22 (B : Bx p s m args meth c cc nL own ini D c4 ad h0) (hrow : okRow own ini cc P i (22, o) ax = true) (hact : act call rcv ph sx rz 22 o i ls st M k = some r) (I : Iv D c4 ad ph h0 s nL nal sll ls st M H locs lsr cells slots) (K : KK p l e R s m args below meth c Q nL P D c4 ad h0 ph nal sll k r) : W p l e R s m args below meth c H locs cells slots Q (F0 m (P.getD i 0) lsr (st.map (rv ad))) := by
  obtain ⟨hx, hb, hml, hown, hts, hini, hK⟩ := B
  have hts' : ∀ w ∈ gT, w.before args s = true := fun w hw => hts w (gT_mem.mp hw).1 (gT_mem.mp hw).2
  obtain ⟨ins, n, hd, ho⟩ := okRow_dec hrow
  rw [act_22] at hact
  split at hact
  rotate_left
  · cases hact
  rename_i df rr x st
  simp only [okI] at ho
  split at ho
  all_goals first | (cases ho; done) | skip
  simp only [Bool.and_eq_true, decide_eq_true_eq] at ho
  rename_i d2 ps
  obtain ⟨⟨⟨h1, h2⟩, h3⟩, h4⟩ := ho
  have hcx : c32 x := stk_hd I.stk
  have G := K _ _ _ _ H locs lsr cells slots hact (I.stN (stk_tl I.stk))
  refine lv_lookup (off := Op.lookupswitch.offset ps.toList d2 x) hx hb hd h1 (by rw [n_t32 hcx]) ?_ G
  rw [h3]
  have key : ∀ (qs : List (Int × Int)) (g : Int × Int → Int), (∀ q ∈ qs, tg P i q.2 (g q) = true) → ((P.getD i 0 : Nat) : Int) + Op.lookupswitch.offset qs d2 x = ((P.getD (lswT (qs.flatMap (fun q => [q.1, g q])) df x).toNat 0 : Nat) : Int) := by
    intro qs g
    induction qs with
    | nil => intro _; exact tg_eq h2
    | cons q qs ih =>
      intro hq
      have e1 : (q :: qs).flatMap (fun q => [q.1, g q]) = q.1 :: g q :: qs.flatMap (fun q => [q.1, g q]) := rfl
      rw [e1]
      unfold lswT
      by_cases z : x = q.1
      · rw [if_pos z]
        have e2 : Op.lookupswitch.offset (q :: qs) d2 x = q.2 := by
          simp [Op.lookupswitch.offset, z]
        rw [e2]
        exact tg_eq (hq q List.mem_cons_self)
      · rw [if_neg z]
        have e2 : Op.lookupswitch.offset (q :: qs) d2 x = Op.lookupswitch.offset qs d2 x := by
          simp only [Op.lookupswitch.offset]
          rw [if_neg (fun y => z y.symm)]
        rw [e2]
        exact ih (fun q' h' => hq q' (List.mem_cons_of_mem _ h'))
  exact key ps.toList _ (fun q hq => List.all_eq_true.mp h4 q hq)
theorem am_27 (B : Bx p s m args meth c cc nL own ini D c4 ad h0) (hrow : okRow own ini cc P i (27, o) ax = true) (hact : act call rcv ph sx rz 27 o i ls st M k = some r) (I : Iv D c4 ad ph h0 s nL nal sll ls st M H locs lsr cells slots) (K : KK p l e R s m args below meth c Q nL P D c4 ad h0 ph nal sll k r) : W p l e R s m args below meth c H locs cells slots Q (F0 m (P.getD i 0) lsr (st.map (rv ad))) := by
  obtain ⟨hx, hb, hml, hown, hts, hini, hK⟩ := B
  have hts' : ∀ w ∈ gT, w.before args s = true := fun w hw => hts w (gT_mem.mp hw).1 (gT_mem.mp hw).2
  obtain ⟨ins, n, hd, ho⟩ := okRow_dec hrow
  rw [act_27] at hact
  split at hact
  rotate_left
  · cases hact
  rename_i f ci kd a st
  split at hact
  rotate_left
  · cases hact
  rename_i hob
  simp only [okI, Bool.and_eq_true, decide_eq_true_eq] at ho
  obtain ⟨⟨⟨⟨⟨hn, rfl⟩, hf0⟩, hfn⟩, hkd⟩, ho⟩ := ho
  have hn := nx_eq hn
  split at ho
  all_goals first | (cases ho; done) | skip
  rename_i ix q hq
  simp only [decide_eq_true_eq] at ho
  obtain ⟨⟨ha0, hlt⟩, hsh⟩ := isObj_eq hob
  obtain ⟨ty, hin, hty, hnm, hnf, hfk, hcn, href⟩ := clOK_all hq
  rw [hnf] at hfn
  have hat := I.1 a.toNat hlt
  rw [cE_obj hsh] at hat
  have hfi : ((f.toNat : Nat) : Int) = f := by omega
  have ha89 : a.toNat < 89 := by have := I.2.2.1; omega
  have hcm := I.2.1 a.toNat f ha89
  rw [hsh] at hcm
  have hval : ((List.range (nfl ci.toNat)).map (fun k => vfk ad ph M ci.toNat a.toNat k))[f.toNat]? = some (vfk ad ph M ci.toNat a.toNat f.toNat) := by
    rw [List.getElem?_map, List.getElem?_range (by rw [hnf]; exact hfn)]; rfl
  have hgo : W p l e R s m args below meth c H locs cells slots Q (F0 m (P.getD i 0 + 3) lsr (vfk ad ph M ci.toNat a.toNat f.toNat :: st.map (rv ad))) := by
    rw [← hn]
    split at hact
    · rename_i h2
      split at hact
      rotate_left
      · cases hact
      rename_i hg
      have hf2 : fk ci.toNat f.toNat = 2 := by omega
      have e1 : vfk ad ph M ci.toNat a.toNat f.toNat = rv ad (2, gr ph M a.toNat f) := by
        unfold vfk orf; rw [if_pos hf2, hfi, if_pos hg]; rfl
      rw [e1]
      exact K _ _ _ _ H locs lsr cells slots hact (I.stN (stk_cons (v := (2, gr ph M a.toNat f)) hg (lt3 rfl) (stk_tl I.stk)))
    · rename_i h2
      have hf2 : ¬ fk ci.toNat f.toNat = 2 := by omega
      have e1 : vfk ad ph M ci.toNat a.toNat f.toNat = rv ad (0, M a.toNat f) := by
        unfold vfk; rw [if_neg hf2, hfi]; rfl
      rw [e1]
      exact K _ _ _ _ H locs lsr cells slots hact (I.stN (stk_cons (v := (0, M a.toNat f)) (by rw [if_neg (show ¬ (4 : Nat) = 1 by decide)] at hcm; exact hcm) (lt3 rfl) (stk_tl I.stk)))
  exact va_get (D := D) (cl := am_cl) (ci := ci.toNat) (C := q.1) (T := q.2.1) (N := q.2.2) (ws := [(ad a.toNat, .inr (ci.toNat, _))]) hx hb hts' hin hown hK.1 (va_P_one hat) 0 rfl hq f.toNat hfn (hts _ (am_pl_mem ho) rfl) (fun _ h => h) hval hd hgo
theorem am_28 (B : Bx p s m args meth c cc nL own ini D c4 ad h0) (hrow : okRow own ini cc P i (28, o) ax = true) (hact : act call rcv ph sx rz 28 o i ls st M k = some r) (I : Iv D c4 ad ph h0 s nL nal sll ls st M H locs lsr cells slots) (K : KK p l e R s m args below meth c Q nL P D c4 ad h0 ph nal sll k r) : W p l e R s m args below meth c H locs cells slots Q (F0 m (P.getD i 0) lsr (st.map (rv ad))) := by
  obtain ⟨hx, hb, hml, hown, hts, hini, hK⟩ := B
  have hts' : ∀ w ∈ gT, w.before args s = true := fun w hw => hts w (gT_mem.mp hw).1 (gT_mem.mp hw).2
  obtain ⟨ins, n, hd, ho⟩ := okRow_dec hrow
  rw [act_28] at hact
  split at hact
  rotate_left 2
  · cases hact
  · rename_i f ci kd v a st
    split at hact
    rotate_left
    · cases hact
    rename_i hcond
    simp only [okI, Bool.and_eq_true, decide_eq_true_eq] at ho
    obtain ⟨⟨⟨⟨⟨hn, rfl⟩, hf0⟩, hfn⟩, hkd⟩, ho⟩ := ho
    have hn := nx_eq hn
    split at ho
    all_goals first | (cases ho; done) | skip
    rename_i ix q hq
    simp only [Bool.and_eq_true, decide_eq_true_eq] at ho
    obtain ⟨⟨ha0, hlt⟩, hsh⟩ := isObj_eq hcond.1
    obtain ⟨ty, hin, hty, hnm, hnf, hfk, hcn, href⟩ := clOK_all hq
    rw [hnf] at hfn
    have hat := I.1 a.toNat hlt
    rw [cE_obj hsh] at hat
    have hfi : ((f.toNat : Nat) : Int) = f := by omega
    have ha89 : a.toNat < 89 := by have := I.2.2.1; omega
    have hcm := I.2.1 a.toNat f ha89
    rw [hsh] at hcm
    have hS := I.2.2.2.2.1
    have hld : a.toNat < 89 → ad a.toNat = h0 + a.toNat := fun h => hK.2.2.2.1 _ h
    have hlen : f.toNat < ((List.range (nfl ci.toNat)).map (fun k => vfk ad ph M ci.toNat a.toNat k)).length := by
      rw [List.length_map, List.length_range, hnf]; exact hfn
    have hfk' : fk ci.toNat f.toNat = 0 ∨ (fk ci.toNat f.toNat = 1 ∧ (v = 0 ∨ v = 1)) := by
      rcases hcond.2 with h | h
      · left; omega
      · right; exact ⟨by omega, h.2⟩
    have hf2 : ¬ fk ci.toNat f.toNat = 2 := by omega
    have hcv : c32 v := stk_hd I.stk
    have hk3 := hfk f.toNat hfn
    have hfinal : (q.2.1 f.toNat).2.2.2 = false := by
      have := hk3.2.2
      cases hz : (q.2.1 f.toNat).2.2.2 with
      | false => rfl
      | true => exact absurd (this.mp hz) hf2
    have htyp : narrow (ty f.toNat) (.int (Int32.ofInt v)) = .int (Int32.ofInt v) ∧ fits (ty f.toNat) (.int (Int32.ofInt v)) = true := by
      have h1 := hk3.2.1
      by_cases z1 : ty f.toNat = .int
      · rw [z1]; exact ⟨rfl, rfl⟩
      · rw [if_neg z1] at h1
        by_cases z2 : ty f.toNat = .boolean
        · rw [z2]
          rw [if_pos z2] at h1
          rcases hfk' with h | ⟨-, rfl | rfl⟩
          · omega
          · exact ⟨by decide, by decide⟩
          · exact ⟨by decide, by decide⟩
        · rw [if_neg z2] at h1; omega
    refine am_put (A := fun q : Nat => h0 ≤ q) (own := own) (C := q.1) (T := q.2.1) (N := q.2.2) hx hb hts' hin ty hty hnm hown hK.1 hS (by show h0 ≤ ad a.toNat; rw [hld ha89]; omega) hat hq f.toNat hfn (hts _ (am_pl_mem ho.1) rfl) (Or.inl hfinal) htyp.1 htyp.2 hlen hd (fun H1 locs1 hat1 z1 oq hS1 => ?_)
    rw [← hn]
    have hat2 : va_at D am_cl (ad a.toNat, cE c4 ad ph (up M a.toNat f v) a.toNat) H1 := by
      rw [cE_obj hsh, map_range_set (w := .int (Int32.ofInt v)) (f := f.toNat) (g := fun k => vfk ad ph M ci.toNat a.toNat k) ?_ ?_]
      · exact hat1
      · unfold vfk
        rw [hfi]
        rw [if_neg hf2, up_eq]
      · intro k hk
        have hkf : ((k : Nat) : Int) ≠ f := by omega
        unfold vfk
        rw [gr_ne (up_ne2 hkf), up_ne2 hkf]
    refine K _ _ _ _ H1 locs1 lsr cells slots hact ⟨wH_set I.1 (naOf_up ha89) I.2.2.1 hK.2.2.2.1 ha89 hat2 (fun b hb j => up_ne hb) oq, cM_up I.2.1 ?_, by rw [naOf_up ha89]; exact I.2.2.1, fun h => by rw [naOf_up ha89, z1]; exact I.2.2.2.1 h, hS1, I.lrel, I.lcv, stk_tl (stk_tl I.stk), by rw [naOf_up ha89]; exact I.2.2.2.2.2.2.2.2.1, by rw [slOf_up ha89]; exact I.2.2.2.2.2.2.2.2.2⟩
    rw [hsh, if_neg (show ¬ (4 : Nat) = 1 by decide)]
    exact hcv
  · rename_i f ci kd v a st
    split at hact
    rotate_left
    · cases hact
    rename_i hcond
    simp only [okI, Bool.and_eq_true, decide_eq_true_eq] at ho
    obtain ⟨⟨⟨⟨⟨hn, rfl⟩, hf0⟩, hfn⟩, hkd⟩, ho⟩ := ho
    have hn := nx_eq hn
    split at ho
    all_goals first | (cases ho; done) | skip
    rename_i ix q hq
    simp only [Bool.and_eq_true, decide_eq_true_eq] at ho
    obtain ⟨⟨ha0, hlt⟩, hsh⟩ := isObj_eq hcond.1
    obtain ⟨ty, hin, hty, hnm, hnf, hfk, hcn, href⟩ := clOK_all hq
    rw [hnf] at hfn
    have hat := I.1 a.toNat hlt
    rw [cE_obj hsh] at hat
    have hfi : ((f.toNat : Nat) : Int) = f := by omega
    have ha89 : a.toNat < 89 := by have := I.2.2.1; omega
    have hcm := I.2.1 a.toNat f ha89
    rw [hsh] at hcm
    have hS := I.2.2.2.2.1
    have hld : a.toNat < 89 → ad a.toNat = h0 + a.toNat := fun h => hK.2.2.2.1 _ h
    have hlen : f.toNat < ((List.range (nfl ci.toNat)).map (fun k => vfk ad ph M ci.toNat a.toNat k)).length := by
      rw [List.length_map, List.length_range, hnf]; exact hfn
    have hf2 : fk ci.toNat f.toNat = 2 := by omega
    have hcv : 0 ≤ v := stk_hd I.stk
    have hk3 := hfk f.toNat hfn
    have hph : ph = true := hcond.2.2.1
    have hsec := ho.2
    rw [if_pos hcond.2.1] at hsec
    simp only [Bool.and_eq_true, decide_eq_true_eq] at hsec
    have hv89 : c32 v := ⟨by omega, by have := hcond.2.2.2.2; omega⟩
    have hr := ref_ok (t := ty f.toNat) ⟨fun z => by have h1 := hk3.2.1; rw [if_pos z] at h1; omega, fun z => by have h1 := hk3.2.1; rw [if_neg (by rw [z]; decide), if_pos z] at h1; omega, href f.toNat hfn hf2⟩ (ad v.toNat)
    refine am_put (A := fun q : Nat => h0 ≤ q) (own := own) (C := q.1) (T := q.2.1) (N := q.2.2) hx hb hts' hin ty hty hnm hown hK.1 hS (by show h0 ≤ ad a.toNat; rw [hld ha89]; omega) hat hq f.toNat hfn (hts _ (am_pl_mem ho.1) rfl) (Or.inr ⟨hk3.2.2.mpr hf2, hini hsec.1, by rw [hk3.1]; exact hsec.2.symm⟩) hr.1 hr.2 hlen hd (fun H1 locs1 hat1 z1 oq hS1 => ?_)
    rw [← hn]
    have hat2 : va_at D am_cl (ad a.toNat, cE c4 ad ph (up M a.toNat f v) a.toNat) H1 := by
      rw [cE_obj hsh, map_range_set (w := .ref (ad v.toNat)) (f := f.toNat) (g := fun k => vfk ad ph M ci.toNat a.toNat k) ?_ ?_]
      · exact hat1
      · unfold vfk
        rw [hfi]
        rw [if_pos hf2]; unfold orf gr; rw [if_pos hph, up_eq, if_pos hcv]; rfl
      · intro k hk
        have hkf : ((k : Nat) : Int) ≠ f := by omega
        unfold vfk
        rw [gr_ne (up_ne2 hkf), up_ne2 hkf]
    refine K _ _ _ _ H1 locs1 lsr cells slots hact ⟨wH_set I.1 (naOf_up ha89) I.2.2.1 hK.2.2.2.1 ha89 hat2 (fun b hb j => up_ne hb) oq, cM_up I.2.1 ?_, by rw [naOf_up ha89]; exact I.2.2.1, fun h => by rw [naOf_up ha89, z1]; exact I.2.2.2.1 h, hS1, I.lrel, I.lcv, stk_tl (stk_tl I.stk), by rw [naOf_up ha89]; exact I.2.2.2.2.2.2.2.2.1, by rw [slOf_up ha89]; exact I.2.2.2.2.2.2.2.2.2⟩
    rw [hsh, if_neg (show ¬ (4 : Nat) = 1 by decide)]
    exact hv89
theorem am_29 (B : Bx p s m args meth c cc nL own ini D c4 ad h0) (hX : 0 ≤ sx.1 → ∃ (b L : Nat) (xs : Nat → Int32), ad 93 = b ∧ va_X b L xs s s.heap ∧ b < s.heap.size ∧ ¬ h0 ≤ b ∧ sx.1 = L ∧ (∀ j : Int, 0 ≤ j → j < sx.1 → sx.2 j = (xs j.toNat).toInt) ∧ L < 2147483648) (hrow : okRow own ini cc P i (29, o) ax = true) (hact : act call rcv ph sx rz 29 o i ls st M k = some r) (I : Iv D c4 ad ph h0 s nL nal sll ls st M H locs lsr cells slots) (K : KK p l e R s m args below meth c Q nL P D c4 ad h0 ph nal sll k r) : W p l e R s m args below meth c H locs cells slots Q (F0 m (P.getD i 0) lsr (st.map (rv ad))) := by
  obtain ⟨hx, hb, hml, hown, hts, hini, hK⟩ := B
  have hts' : ∀ w ∈ gT, w.before args s = true := fun w hw => hts w (gT_mem.mp hw).1 (gT_mem.mp hw).2
  obtain ⟨ins, n, hd, ho⟩ := okRow_dec hrow
  rw [act_29] at hact
  split at hact
  rotate_left
  · cases hact
  rename_i j a st
  split at hact
  rotate_left
  · cases hact
  rename_i v hv
  simp only [okI, Bool.and_eq_true, decide_eq_true_eq] at ho
  obtain ⟨⟨hn, rfl⟩, rfl⟩ := ho
  have hn := nx_eq hn
  have hcj : c32 j := stk_hd I.stk
  unfold ldI at hv
  split at hv
  · rename_i ha
    subst ha
    split at hv
    rotate_left
    · cases hv
    rename_i hj
    cases hv
    obtain ⟨b, L, xs, hb93, hX, hbl, hbh, hL, hxs, hLc⟩ := hX (by omega)
    have G := K _ _ _ _ H locs lsr cells slots hact (I.stN (stk_cons (v := (0, sx.2 j)) (by rw [hxs j hj.1 hj.2]; exact c_t32 _) (lt3 rfl) (stk_tl (stk_tl I.stk))))
    rw [hn] at G
    replace G : W p l e R s m args below meth c H locs cells slots Q (F0 m (P.getD i 0 + 1) lsr (.int (Int32.ofInt (sx.2 j)) :: st.map (rv ad))) := G
    rw [hxs j hj.1 hj.2, Int32.ofInt_toInt, ← n_idx hcj] at G
    show W p l e R s m args below meth c H locs cells slots Q (F0 m (P.getD i 0) lsr (.int (Int32.ofInt j) :: .ref (ad 93) :: st.map (rv ad)))
    rw [hb93]
    exact va_sld hx hb hX hbl (A := fun q : Nat => h0 ≤ q) hbh I.2.2.2.2.1 (n_in hcj hj.1 (by omega)) hd G
  · split at hv
    rotate_left
    · cases hv
    rename_i n hsh
    split at hv
    rotate_left
    · cases hv
    rename_i hj
    split at hv
    · rename_i h90
      cases hv
      have ha : a.toNat = 90 ∨ a.toNat = 91 ∨ a.toNat = 92 := by
        rcases Nat.lt_or_ge a.toNat 93 with q | q
        · omega
        · exfalso
          have : shp a.toNat = (9, 0) := by
            unfold shp
            rw [List.getD_eq_getElem?_getD, List.getElem?_eq_none (by show 93 ≤ _; exact q)]; rfl
          rw [this] at hsh; cases hsh
      have hT := (hK.2.2.2.2 (a.toNat - 90) (by omega)).2
      rw [show 90 + (a.toNat - 90) = a.toNat by omega, hsh] at hT
      have hc : c32 (stc a.toNat j) := by
        have h2 : j.toNat < n := by omega
        rcases ha with h | h | h <;> rw [h] at hsh ⊢ <;> cases hsh <;> revert h2 <;> (unfold stc; generalize j.toNat = z; intro h2; revert z; decide)
      have G := K _ _ _ _ H locs lsr cells slots hact (I.stN (stk_cons (v := (0, stc a.toNat j)) hc (lt3 rfl) (stk_tl (stk_tl I.stk))))
      rw [hn] at G
      exact va_ti hx hb hT I.2.2.2.2.1 (n_in hcj hj.1 hj.2) (by rw [n_idx hcj]; show Value.int (Int32.ofInt (stc a.toNat ((j.toNat : Nat) : Int))) = rv ad (0, stc a.toNat j); rw [show ((j.toNat : Nat) : Int) = j by omega]; rfl) hd G
    · split at hv
      rotate_left
      · cases hv
      rename_i hlv
      cases hv
      obtain ⟨ha0, hlt⟩ := live_eq hlv
      have ha89 : a.toNat < 89 := by have := I.2.2.1; omega
      have hcm := I.2.1 a.toNat j ha89
      rw [hsh, if_neg (show ¬ (0 : Nat) = 1 by decide)] at hcm
      have hat := I.1 a.toNat hlt
      rw [cE_int hsh] at hat
      have G := K _ _ _ _ H locs lsr cells slots hact (I.stN (stk_cons (v := (0, M a.toNat j)) hcm (lt3 rfl) (stk_tl (stk_tl I.stk))))
      rw [hn] at G
      replace G : W p l e R s m args below meth c H locs cells slots Q (F0 m (P.getD i 0 + 1) lsr (.int ((fun z : Nat => Int32.ofInt (M a.toNat z)) (Int32.ofInt j).toNatClampNeg) :: st.map (rv ad))) := by
        show W p l e R s m args below meth c H locs cells slots Q (F0 m (P.getD i 0 + 1) lsr (.int (Int32.ofInt (M a.toNat (((Int32.ofInt j).toNatClampNeg : Nat) : Int))) :: st.map (rv ad)))
        rw [n_idx hcj, show ((j.toNat : Nat) : Int) = j by omega]; exact G
      exact va_iald (ws := [(ad a.toNat, _)]) hx hb hK.1 (va_P_one hat) 0 0 rfl rfl (n_in hcj hj.1 hj.2) hd G
theorem am_30 (B : Bx p s m args meth c cc nL own ini D c4 ad h0) (hrow : okRow own ini cc P i (30, o) ax = true) (hact : act call rcv ph sx rz 30 o i ls st M k = some r) (I : Iv D c4 ad ph h0 s nL nal sll ls st M H locs lsr cells slots) (K : KK p l e R s m args below meth c Q nL P D c4 ad h0 ph nal sll k r) : W p l e R s m args below meth c H locs cells slots Q (F0 m (P.getD i 0) lsr (st.map (rv ad))) := by
  obtain ⟨hx, hb, hml, hown, hts, hini, hK⟩ := B
  have hts' : ∀ w ∈ gT, w.before args s = true := fun w hw => hts w (gT_mem.mp hw).1 (gT_mem.mp hw).2
  obtain ⟨ins, n, hd, ho⟩ := okRow_dec hrow
  rw [act_30] at hact
  split at hact
  rotate_left
  · cases hact
  rename_i j a st
  split at hact
  rotate_left
  · cases hact
  rename_i hin
  simp only [okI, Bool.and_eq_true, decide_eq_true_eq] at ho
  obtain ⟨⟨hn, rfl⟩, rfl⟩ := ho
  have hn := nx_eq hn
  have hcj : c32 j := stk_hd I.stk
  obtain ⟨⟨ha0, hlt⟩, n, hsh, hj0, hj1⟩ := inArr_eq hin
  have ha89 : a.toNat < 89 := by have := I.2.2.1; omega
  have hcm := I.2.1 a.toNat j ha89
  rw [hsh, if_pos rfl] at hcm
  have hat := I.1 a.toNat hlt
  rw [cE_long hsh] at hat
  have G := K _ _ _ _ H locs lsr cells slots hact (I.stN (stk_cons (v := (1, M a.toNat j)) hcm (lt3 rfl) (stk_tl (stk_tl I.stk))))
  rw [hn] at G
  replace G : W p l e R s m args below meth c H locs cells slots Q (F0 m (P.getD i 0 + 1) lsr (.long ((fun z : Nat => Int64.ofInt (M a.toNat z)) (Int32.ofInt j).toNatClampNeg) :: st.map (rv ad))) := by
    show W p l e R s m args below meth c H locs cells slots Q (F0 m (P.getD i 0 + 1) lsr (.long (Int64.ofInt (M a.toNat (((Int32.ofInt j).toNatClampNeg : Nat) : Int))) :: st.map (rv ad)))
    rw [n_idx hcj, show ((j.toNat : Nat) : Int) = j by omega]; exact G
  exact va_lald (ws := [(ad a.toNat, _)]) hx hb hK.1 (va_P_one hat) 0 1 rfl rfl (n_in hcj hj0 hj1) hd G
theorem am_31 (B : Bx p s m args meth c cc nL own ini D c4 ad h0) (hrow : okRow own ini cc P i (31, o) ax = true) (hact : act call rcv ph sx rz 31 o i ls st M k = some r) (I : Iv D c4 ad ph h0 s nL nal sll ls st M H locs lsr cells slots) (K : KK p l e R s m args below meth c Q nL P D c4 ad h0 ph nal sll k r) : W p l e R s m args below meth c H locs cells slots Q (F0 m (P.getD i 0) lsr (st.map (rv ad))) := by
  obtain ⟨hx, hb, hml, hown, hts, hini, hK⟩ := B
  have hts' : ∀ w ∈ gT, w.before args s = true := fun w hw => hts w (gT_mem.mp hw).1 (gT_mem.mp hw).2
  obtain ⟨ins, n, hd, ho⟩ := okRow_dec hrow
  rw [act_31] at hact
  split at hact
  rotate_left
  · cases hact
  rename_i j a st
  split at hact
  rotate_left
  · cases hact
  rename_i hcond
  simp only [okI, Bool.and_eq_true, decide_eq_true_eq] at ho
  obtain ⟨⟨hn, rfl⟩, rfl⟩ := ho
  have hn := nx_eq hn
  have hcj : c32 j := stk_hd I.stk
  have hg := hcond.2
  have G := K _ _ _ _ H locs lsr cells slots hact (I.stN (stk_cons (v := (2, gr ph M a.toNat j)) hg (lt3 rfl) (stk_tl (stk_tl I.stk))))
  rw [hn] at G
  rcases hcond.1 with hin | hin
  all_goals
    obtain ⟨⟨ha0, hlt⟩, n, hsh, hj0, hj1⟩ := inArr_eq hin
    have hat := I.1 a.toNat hlt
    have hsl : (arrV (if (shp a.toNat).1 = 2 then c4.2.2.1 else c4.2.2.2) n (fun z => va_rf (orf ad (gr ph M a.toNat z)))).slots[(Int32.ofInt j).toNatClampNeg]? = some (rv ad (2, gr ph M a.toNat j)) := by
      rw [arrV_read _ _ (by rw [n_idx hcj]; omega), n_idx hcj, show ((j.toNat : Nat) : Int) = j by omega]
      unfold orf; rw [if_pos hg]; rfl
    rw [hsh] at hsl
    have hsz : ¬ (Int32.ofInt j < 0 ∨ n ≤ (Int32.ofInt j).toNatClampNeg) := n_in hcj hj0 hj1
  · rw [cE_ri hsh] at hat
    exact W.aald (cell := arrV c4.2.2.1 n (fun z => va_rf (orf ad (gr ph M a.toNat z)))) (ty := .array .int) hx hb hat ((hK.1.2 2 _ rfl).1 n _) rfl (fun q => by cases q) (by rw [arrV_size]; exact hsz) hsl rfl rfl hd G
  · rw [cE_rl hsh] at hat
    exact W.aald (cell := arrV c4.2.2.2 n (fun z => va_rf (orf ad (gr ph M a.toNat z)))) (ty := .array .long) hx hb hat ((hK.1.2 3 _ rfl).1 n _) rfl (fun q => by cases q) (by rw [arrV_size]; exact hsz) hsl rfl rfl hd G
theorem am_32 (B : Bx p s m args meth c cc nL own ini D c4 ad h0) (hrow : okRow own ini cc P i (32, o) ax = true) (hact : act call rcv ph sx rz 32 o i ls st M k = some r) (I : Iv D c4 ad ph h0 s nL nal sll ls st M H locs lsr cells slots) (K : KK p l e R s m args below meth c Q nL P D c4 ad h0 ph nal sll k r) : W p l e R s m args below meth c H locs cells slots Q (F0 m (P.getD i 0) lsr (st.map (rv ad))) := by
  obtain ⟨hx, hb, hml, hown, hts, hini, hK⟩ := B
  have hts' : ∀ w ∈ gT, w.before args s = true := fun w hw => hts w (gT_mem.mp hw).1 (gT_mem.mp hw).2
  obtain ⟨ins, n, hd, ho⟩ := okRow_dec hrow
  rw [act_32] at hact
  split at hact
  rotate_left
  · cases hact
  rename_i v j a st
  split at hact
  rotate_left
  · cases hact
  rename_i hin
  simp only [okI, Bool.and_eq_true, decide_eq_true_eq] at ho
  obtain ⟨⟨hn, rfl⟩, rfl⟩ := ho
  have hn := nx_eq hn
  have hcv : c32 v := stk_hd I.stk
  have hcj : c32 j := stk_hd (stk_tl I.stk)
  obtain ⟨⟨ha0, hlt⟩, n, hsh, hj0, hj1⟩ := inArr_eq hin
  have ha89 : a.toNat < 89 := by have := I.2.2.1; omega
  have hat := I.1 a.toNat hlt
  rw [cE_int hsh] at hat
  have hS := I.2.2.2.2.1
  have hld := hK.2.2.2.1 a.toNat ha89
  refine W.iast hx hb (H := H) (a := ad a.toNat) hat ((hK.1.2 0 _ rfl).1 n _) (fun q => by cases q) (by show ¬ (Int32.ofInt j < 0 ∨ (arrV _ _ _).slots.size ≤ _); rw [arrV_size]; exact n_in hcj hj0 hj1) rfl rfl hd fun H1 e1 z oq => ?_
  refine W.eq (g2 := F0 m (P.getD (i + 1) 0) lsr (st.map (rv ad))) (by rw [hn]) ?_
  have hat2 : va_at D am_cl (ad a.toNat, cE c4 ad ph (up M a.toNat j v) a.toNat) H1 := by
    rw [cE_int hsh]
    show H1[ad a.toNat]? = some (vp_cell _ _)
    rw [e1, vp_cell_i, vp_cell_i, arrV_store, n_idx hcj]
    congr 2
    funext z
    by_cases hz : z = j.toNat
    · subst hz
      simp only [updV, if_true]
      rw [show ((j.toNat : Nat) : Int) = j by omega, up_eq]
    · simp only [updV, if_neg hz]
      rw [up_ne2 (by omega)]
  refine K _ _ _ _ H1 _ lsr cells slots hact ⟨wH_set I.1 (naOf_up ha89) I.2.2.1 hK.2.2.2.1 ha89 hat2 (fun b hb j => up_ne hb) oq, cM_up I.2.1 ?_, by rw [naOf_up ha89]; exact I.2.2.1, fun h => by rw [naOf_up ha89, z]; exact I.2.2.2.1 h, hS.put z oq (by show h0 ≤ ad a.toNat; rw [hld]; omega), I.lrel, I.lcv, stk_tl (stk_tl (stk_tl I.stk)), by rw [naOf_up ha89]; exact I.2.2.2.2.2.2.2.2.1, by rw [slOf_up ha89]; exact I.2.2.2.2.2.2.2.2.2⟩
  rw [hsh]
  exact hcv
theorem am_33 (B : Bx p s m args meth c cc nL own ini D c4 ad h0) (hrow : okRow own ini cc P i (33, o) ax = true) (hact : act call rcv ph sx rz 33 o i ls st M k = some r) (I : Iv D c4 ad ph h0 s nL nal sll ls st M H locs lsr cells slots) (K : KK p l e R s m args below meth c Q nL P D c4 ad h0 ph nal sll k r) : W p l e R s m args below meth c H locs cells slots Q (F0 m (P.getD i 0) lsr (st.map (rv ad))) := by
  obtain ⟨hx, hb, hml, hown, hts, hini, hK⟩ := B
  have hts' : ∀ w ∈ gT, w.before args s = true := fun w hw => hts w (gT_mem.mp hw).1 (gT_mem.mp hw).2
  obtain ⟨ins, n, hd, ho⟩ := okRow_dec hrow
  rw [act_33] at hact
  split at hact
  rotate_left
  · cases hact
  rename_i v j a st
  split at hact
  rotate_left
  · cases hact
  rename_i hin
  simp only [okI, Bool.and_eq_true, decide_eq_true_eq] at ho
  obtain ⟨⟨hn, rfl⟩, rfl⟩ := ho
  have hn := nx_eq hn
  have hcv : c64 v := stk_hd I.stk
  have hcj : c32 j := stk_hd (stk_tl I.stk)
  obtain ⟨⟨ha0, hlt⟩, n, hsh, hj0, hj1⟩ := inArr_eq hin
  have ha89 : a.toNat < 89 := by have := I.2.2.1; omega
  have hat := I.1 a.toNat hlt
  rw [cE_long hsh] at hat
  have hS := I.2.2.2.2.1
  have hld := hK.2.2.2.1 a.toNat ha89
  refine W.last hx hb (H := H) (a := ad a.toNat) hat ((hK.1.2 1 _ rfl).1 n _) (fun q => by cases q) (by show ¬ (Int32.ofInt j < 0 ∨ (arrV _ _ _).slots.size ≤ _); rw [arrV_size]; exact n_in hcj hj0 hj1) rfl rfl hd fun H1 e1 z oq => ?_
  refine W.eq (g2 := F0 m (P.getD (i + 1) 0) lsr (st.map (rv ad))) (by rw [hn]) ?_
  have hat2 : va_at D am_cl (ad a.toNat, cE c4 ad ph (up M a.toNat j v) a.toNat) H1 := by
    rw [cE_long hsh]
    show H1[ad a.toNat]? = some (vp_cell _ _)
    rw [e1, vp_cell_l, vp_cell_l, arrV_store, n_idx hcj]
    congr 2
    funext z
    by_cases hz : z = j.toNat
    · subst hz
      simp only [updV, if_true]
      rw [show ((j.toNat : Nat) : Int) = j by omega, up_eq]
    · simp only [updV, if_neg hz]
      rw [up_ne2 (by omega)]
  refine K _ _ _ _ H1 _ lsr cells slots hact ⟨wH_set I.1 (naOf_up ha89) I.2.2.1 hK.2.2.2.1 ha89 hat2 (fun b hb j => up_ne hb) oq, cM_up I.2.1 ?_, by rw [naOf_up ha89]; exact I.2.2.1, fun h => by rw [naOf_up ha89, z]; exact I.2.2.2.1 h, hS.put z oq (by show h0 ≤ ad a.toNat; rw [hld]; omega), I.lrel, I.lcv, stk_tl (stk_tl (stk_tl I.stk)), by rw [naOf_up ha89]; exact I.2.2.2.2.2.2.2.2.1, by rw [slOf_up ha89]; exact I.2.2.2.2.2.2.2.2.2⟩
  rw [hsh]
  exact hcv
theorem am_34 (B : Bx p s m args meth c cc nL own ini D c4 ad h0) (hX : 0 ≤ sx.1 → ∃ (b L : Nat) (xs : Nat → Int32), ad 93 = b ∧ va_X b L xs s s.heap ∧ b < s.heap.size ∧ ¬ h0 ≤ b ∧ sx.1 = L ∧ (∀ j : Int, 0 ≤ j → j < sx.1 → sx.2 j = (xs j.toNat).toInt) ∧ L < 2147483648) (hrow : okRow own ini cc P i (34, o) ax = true) (hact : act call rcv ph sx rz 34 o i ls st M k = some r) (I : Iv D c4 ad ph h0 s nL nal sll ls st M H locs lsr cells slots) (K : KK p l e R s m args below meth c Q nL P D c4 ad h0 ph nal sll k r) : W p l e R s m args below meth c H locs cells slots Q (F0 m (P.getD i 0) lsr (st.map (rv ad))) := by
  obtain ⟨hx, hb, hml, hown, hts, hini, hK⟩ := B
  have hts' : ∀ w ∈ gT, w.before args s = true := fun w hw => hts w (gT_mem.mp hw).1 (gT_mem.mp hw).2
  obtain ⟨ins, n, hd, ho⟩ := okRow_dec hrow
  rw [act_34] at hact
  split at hact
  rotate_left
  · cases hact
  rename_i a st
  split at hact
  rotate_left
  · cases hact
  rename_i hcond
  simp only [okI, Bool.and_eq_true, decide_eq_true_eq] at ho
  obtain ⟨⟨hn, rfl⟩, rfl⟩ := ho
  have hn := nx_eq hn
  obtain ⟨b, L, xs, hb93, hX, hbl, hbh, hL, hxs, hLc⟩ := hX hcond.2
  have hc : c32 sx.1 := ⟨by omega, by omega⟩
  have G := K _ _ _ _ H locs lsr cells slots hact (I.stN (stk_cons (v := (0, sx.1)) hc (lt3 rfl) (stk_tl I.stk)))
  rw [hn] at G
  rw [hcond.1]
  show W p l e R s m args below meth c H locs cells slots Q (F0 m (P.getD i 0) lsr (.ref (ad 93) :: st.map (rv ad)))
  rw [hb93]
  refine va_slen hx hb hX hbl (A := fun q : Nat => h0 ≤ q) hbh I.2.2.2.2.1 hd ?_
  rw [show Int32.ofNat L = Int32.ofInt sx.1 by rw [hL, Int32.ofInt_eq_ofNat]]
  exact G
theorem am_35 (B : Bx p s m args meth c cc nL own ini D c4 ad h0) (hrow : okRow own ini cc P i (35, o) ax = true) (hact : act call rcv ph sx rz 35 o i ls st M k = some r) (I : Iv D c4 ad ph h0 s nL nal sll ls st M H locs lsr cells slots) (K : KK p l e R s m args below meth c Q nL P D c4 ad h0 ph nal sll k r) : W p l e R s m args below meth c H locs cells slots Q (F0 m (P.getD i 0) lsr (st.map (rv ad))) := by
  obtain ⟨hx, hb, hml, hown, hts, hini, hK⟩ := B
  have hts' : ∀ w ∈ gT, w.before args s = true := fun w hw => hts w (gT_mem.mp hw).1 (gT_mem.mp hw).2
  obtain ⟨ins, n, hd, ho⟩ := okRow_dec hrow
  rw [act_35] at hact
  split at hact
  rotate_left
  · cases hact
  rename_i a
  split at hact
  rotate_left
  · cases hact
  rename_i hcond
  simp only [okI, Bool.and_eq_true, decide_eq_true_eq] at ho
  obtain ⟨⟨hn, rfl⟩, ho⟩ := ho
  have hn := nx_eq hn
  split at ho
  all_goals first | (cases ho; done) | skip
  rename_i ix
  have G := K _ _ _ _ H locs lsr cells slots hact (I.stN (stk_cons (v := (2, a)) (show 0 ≤ a by omega) (lt3 rfl) I.stk))
  rw [hn] at G
  have hS := I.2.2.2.2.1
  split at ho
  · rename_i h
    subst h
    simp only [decide_eq_true_eq] at ho
    exact va_gets hx hb (hK.2.2.2.2 0 (by decide)).1 hS hown (hts _ (am_pl_mem ho) rfl) (fun _ h => h) hd G
  · split at ho
    · rename_i h
      subst h
      simp only [decide_eq_true_eq] at ho
      exact va_gets hx hb (hK.2.2.2.2 1 (by decide)).1 hS hown (hts _ (am_pl_mem ho) rfl) (fun _ h => h) hd G
    · split at ho
      · rename_i h
        subst h
        simp only [decide_eq_true_eq] at ho
        exact va_gets hx hb (hK.2.2.2.2 2 (by decide)).1 hS hown (hts _ (am_pl_mem ho) rfl) (fun _ h => h) hd G
      · cases ho
end SND
