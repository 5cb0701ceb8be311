/-! one instruction of the abstract machine is one of the machine's -/
theorem okRow_dec {own : String} {ini : Bool} {cc : ByteArray} {P : List Nat} {i : Nat} {r : Row} {ax : List Nat} (h : okRow own ini cc P i r ax = true) : ∃ ins n, decode cc (P.getD i 0) = .ok (ins, n) ∧ okI own ini P i r.1 r.2 ax ins n = true := by
  unfold okRow at h
  simp only [Bool.and_eq_true] at h
  replace h := h.2
  split at h
  · rename_i ins n hd
    exact ⟨ins, n, hd, h⟩
  · cases h
theorem okRow_lt {own : String} {ini : Bool} {cc : ByteArray} {P : List Nat} {i : Nat} {r : Row} {ax : List Nat} (h : okRow own ini cc P i r ax = true) : r.1 < 48 := by
  unfold okRow at h
  simp only [Bool.and_eq_true, decide_eq_true_eq] at h
  exact h.1
theorem nx_eq {P : List Nat} {i n : Nat} (h : nx P i n = true) : P.getD (i + 1) 0 = P.getD i 0 + n := by
  unfold nx at h
  simp only [Bool.and_eq_true, decide_eq_true_eq] at h
  exact h.2
theorem tg_eq {P : List Nat} {i : Nat} {off t : Int} (h : tg P i off t = true) : ((P.getD i 0 : Nat) : Int) + off = ((P.getD t.toNat 0 : Nat) : Int) := by
  unfold tg at h
  simp only [Bool.and_eq_true, decide_eq_true_eq] at h
  exact h.2
theorem naOf_f (M : Mem) : naOf false M = 89 := rfl
def Iv (D : va_G) (c4 : C4) (ad : Nat → Nat) (ph : Bool) (h0 : Nat) (s : State) (nL nal sll : Nat) (ls st : List AV) (M : Mem) (H : Heap) (locs : List Loc) (lsr : Array Slot) (cells slots : Nat) : Prop :=
  wH D c4 ad ph M H ∧ cM M ∧ naOf ph M ≤ 89 ∧ (ph = true → H.size = h0 + naOf ph M) ∧ va_S (fun q : Nat => h0 ≤ q) s.heap H locs ∧ lsrel ad nL ls lsr ∧ (∀ v ∈ ls, cv v) ∧ (∀ v ∈ st, cv v ∧ v.1 < 3) ∧ cells + nal = naOf ph M ∧ slots + sll = slOf ph M
def Bx (p : Program) (s : State) (m : MethodId) (args : Array Value) (meth : Method) (c : Code) (cc : ByteArray) (nL : Nat) (own : String) (ini : Bool) (D : va_G) (c4 : C4) (ad : Nat → Nat) (h0 : Nat) : Prop :=
  p.tables.exec = Jvm.exec ∧ c.code = cc ∧ c.maxLocals = nL ∧ s.vm.findClass own = some m.cls ∧ (∀ w ∈ lw_tbl, goodWord w = true → w.before args s = true) ∧ (ini = true → meth.name = "<init>") ∧ Kx D c4 ad h0 s s.heap
theorem lt3 {n : Nat} (h : Nat.ble (n + 1) 3 = true) : n < 3 := Nat.le_of_ble_eq_true h
section SND
variable {p : Program} {l : Launch} {e : Env} {R : Room} {s : State} {m : MethodId} {args : Array Value} {below : List Frame} {meth : Method} {c : Code} {Q : State → Prop}
variable {cc : ByteArray} {nL : Nat} {own : String} {ini : Bool} {P : List Nat} {D : va_G} {c4 : C4} {ad : Nat → Nat} {h0 : Nat} {ph : Bool} {sx : Int × (Int → Int)} {rz nal sll : Nat}
variable {call : Nat → List AV → Mem → Option Res} {k : Nat → List AV → List AV → Mem → Option Res} {r : Res}
variable {o : List Int} {i : Nat} {ls st : List AV} {M : Mem} {H : Heap} {locs : List Loc} {lsr : Array Slot} {cells slots : Nat} {ax : List Nat}
def KK (p : Program) (l : Launch) (e : Env) (R : Room) (s : State) (m : MethodId) (args : Array Value) (below : List Frame) (meth : Method) (c : Code) (Q : State → Prop) (nL : Nat) (P : List Nat) (D : va_G) (c4 : C4) (ad : Nat → Nat) (h0 : Nat) (ph : Bool) (nal sll : Nat) (k : Nat → List AV → List AV → Mem → Option Res) (r : Res) : Prop :=
  ∀ i' ls' st' M' H' locs' lsr' cells' slots', k i' ls' st' M' = some r → Iv D c4 ad ph h0 s nL nal sll ls' st' M' H' locs' lsr' cells' slots' → W p l e R s m args below meth c H' locs' cells' slots' Q (F0 m (P.getD i' 0) lsr' (st'.map (rv ad)))
/-- the world stands, the stack is another one -/
theorem Iv.stN {st' : List AV} (I : Iv D c4 ad ph h0 s nL nal sll ls st M H locs lsr cells slots) (h : ∀ v ∈ st', cv v ∧ v.1 < 3) : Iv D c4 ad ph h0 s nL nal sll ls st' M H locs lsr cells slots :=
  ⟨I.1, I.2.1, I.2.2.1, I.2.2.2.1, I.2.2.2.2.1, I.2.2.2.2.2.1, I.2.2.2.2.2.2.1, h, I.2.2.2.2.2.2.2.2.1, I.2.2.2.2.2.2.2.2.2⟩
theorem Iv.lsst {ls' st' : List AV} {lsr' : Array Slot} (I : Iv D c4 ad ph h0 s nL nal sll ls st M H locs lsr cells slots) (hl : lsrel ad nL ls' lsr') (hv : ∀ v ∈ ls', cv v) (h : ∀ v ∈ st', cv v ∧ v.1 < 3) : Iv D c4 ad ph h0 s nL nal sll ls' st' M H locs lsr' cells slots :=
  ⟨I.1, I.2.1, I.2.2.1, I.2.2.2.1, I.2.2.2.2.1, hl, hv, h, I.2.2.2.2.2.2.2.2.1, I.2.2.2.2.2.2.2.2.2⟩
theorem Iv.stk (I : Iv D c4 ad ph h0 s nL nal sll ls st M H locs lsr cells slots) : ∀ v ∈ st, cv v ∧ v.1 < 3 := I.2.2.2.2.2.2.2.1
theorem Iv.lrel (I : Iv D c4 ad ph h0 s nL nal sll ls st M H locs lsr cells slots) : lsrel ad nL ls lsr := I.2.2.2.2.2.1
theorem Iv.lcv (I : Iv D c4 ad ph h0 s nL nal sll ls st M H locs lsr cells slots) : ∀ v ∈ ls, cv v := I.2.2.2.2.2.2.1
theorem stk_cons {v : AV} {st : List AV} (h1 : cv v) (h2 : v.1 < 3) (h : ∀ v ∈ st, cv v ∧ v.1 < 3) : ∀ w ∈ v :: st, cv w ∧ w.1 < 3 := fun w hw => by
  rcases List.mem_cons.mp hw with rfl | hw
  · exact ⟨h1, h2⟩
  · exact h w hw
theorem stk_tl {v : AV} {st : List AV} (h : ∀ w ∈ v :: st, cv w ∧ w.1 < 3) : ∀ w ∈ st, cv w ∧ w.1 < 3 := fun w hw => h w (List.mem_cons_of_mem _ hw)
theorem stk_hd {v : AV} {st : List AV} (h : ∀ w ∈ v :: st, cv w ∧ w.1 < 3) : cv v := (h v List.mem_cons_self).1
theorem setL_cv {ls : List AV} {j : Nat} {v : AV} (h : ∀ w ∈ ls, cv w) (hv : cv v) : ∀ w ∈ setL ls j v, cv w := fun w hw => by
  rcases setL_mem hw with hw | rfl | rfl
  · exact h w hw
  · exact hv
  · trivial
theorem set_cv {ls : List AV} {j : Nat} {v : AV} (h : ∀ w ∈ ls, cv w) (hv : cv v) : ∀ w ∈ ls.set j v, cv w := fun w hw => by
  rcases List.mem_or_eq_of_mem_set hw with hw | rfl
  · exact h w hw
  · exact hv
theorem am_0 (B : Bx p s m args meth c cc nL own ini D c4 ad h0) (hrow : okRow own ini cc P i (0, o) ax = true) (hact : act call rcv ph sx rz 0 o i ls st M k = some r) (I : Iv D c4 ad ph h0 s nL nal sll ls st M H locs lsr cells slots) (K : KK p l e R s m args below meth c Q nL P D c4 ad h0 ph nal sll k r) : W p l e R s m args below meth c H locs cells slots Q (F0 m (P.getD i 0) lsr (st.map (rv ad))) := by
  obtain ⟨hx, hb, hml, hown, hts, hini, hK⟩ := B
  obtain ⟨ins, n, hd, ho⟩ := okRow_dec hrow
  rw [act_0] at hact
  split at hact
  rotate_left
  · cases hact
  rename_i v
  simp only [okI, Bool.and_eq_true, decide_eq_true_eq] at ho
  obtain ⟨⟨hc, hn⟩, ho⟩ := ho
  have hn := nx_eq hn
  have G := K _ _ _ _ H locs lsr cells slots hact (I.stN (stk_cons hc (lt3 rfl) I.stk))
  rw [hn] at G
  split at ho
  all_goals first | (cases ho; done) | skip
  all_goals simp only [Bool.and_eq_true, decide_eq_true_eq] at ho
  · obtain ⟨rfl, hk⟩ := ho
    exact lv_iconst hx hb hd hk G
  · obtain ⟨rfl, hk⟩ := ho
    exact lv_bipush hx hb hd hk G
  · obtain ⟨rfl, hk⟩ := ho
    exact lv_sipush hx hb hd hk G
  · obtain ⟨rfl, hk⟩ := ho
    exact lv_ldc hx hb hown (hts _ (am_pl_mem hk) rfl) hd G
  · obtain ⟨rfl, hk⟩ := ho
    exact lv_ldcw hx hb hown (hts _ (am_pl_mem hk) rfl) hd G
theorem am_1 (B : Bx p s m args meth c cc nL own ini D c4 ad h0) (hrow : okRow own ini cc P i (1, o) ax = true) (hact : act call rcv ph sx rz 1 o i ls st M k = some r) (I : Iv D c4 ad ph h0 s nL nal sll ls st M H locs lsr cells slots) (K : KK p l e R s m args below meth c Q nL P D c4 ad h0 ph nal sll k r) : W p l e R s m args below meth c H locs cells slots Q (F0 m (P.getD i 0) lsr (st.map (rv ad))) := by
  obtain ⟨hx, hb, hml, hown, hts, hini, hK⟩ := B
  obtain ⟨ins, n, hd, ho⟩ := okRow_dec hrow
  rw [act_1] at hact
  split at hact
  rotate_left
  · cases hact
  rename_i v
  simp only [okI, Bool.and_eq_true, decide_eq_true_eq] at ho
  obtain ⟨⟨hc, hn⟩, ho⟩ := ho
  have hn := nx_eq hn
  have G := K _ _ _ _ H locs lsr cells slots hact (I.stN (stk_cons hc (lt3 rfl) I.stk))
  rw [hn] at G
  split at ho
  all_goals first | (cases ho; done) | skip
  all_goals simp only [Bool.and_eq_true, decide_eq_true_eq] at ho
  · obtain ⟨rfl, hk⟩ := ho
    exact lv_lconst hx hb hd hk G
  · obtain ⟨rfl, hk⟩ := ho
    exact lv_ldc2 hx hb hown (hts _ (am_pl_mem hk) rfl) hd G
theorem am_2 (B : Bx p s m args meth c cc nL own ini D c4 ad h0) (hrow : okRow own ini cc P i (2, o) ax = true) (hact : act call rcv ph sx rz 2 o i ls st M k = some r) (I : Iv D c4 ad ph h0 s nL nal sll ls st M H locs lsr cells slots) (K : KK p l e R s m args below meth c Q nL P D c4 ad h0 ph nal sll k r) : W p l e R s m args below meth c H locs cells slots Q (F0 m (P.getD i 0) lsr (st.map (rv ad))) := by
  obtain ⟨hx, hb, hml, hown, hts, hini, hK⟩ := B
  obtain ⟨ins, n, hd, ho⟩ := okRow_dec hrow
  rw [act_2] at hact
  split at hact
  rotate_left
  · cases hact
  rename_i j
  split at hact
  rotate_left
  · cases hact
  rename_i x hj
  simp only [okI, Bool.and_eq_true] at ho
  obtain ⟨hn, ho⟩ := ho
  have hn := nx_eq hn
  have hl := I.lrel.2.2.2 _ _ hj (lt3 rfl)
  have G := K _ _ _ _ H locs lsr cells slots hact (I.stN (stk_cons (I.lcv _ (List.mem_of_getElem? hj)) (lt3 rfl) I.stk))
  rw [hn] at G
  split at ho
  all_goals first | (cases ho; done) | skip
  all_goals simp only [Bool.and_eq_true, decide_eq_true_eq] at ho
  · obtain ⟨rfl, hk⟩ := ho
    exact lv_iload_n hx hb hd hk hl G
  · obtain ⟨rfl, rfl⟩ := ho
    exact lv_iload hx hb hd hl G
theorem am_3 (B : Bx p s m args meth c cc nL own ini D c4 ad h0) (hrow : okRow own ini cc P i (3, o) ax = true) (hact : act call rcv ph sx rz 3 o i ls st M k = some r) (I : Iv D c4 ad ph h0 s nL nal sll ls st M H locs lsr cells slots) (K : KK p l e R s m args below meth c Q nL P D c4 ad h0 ph nal sll k r) : W p l e R s m args below meth c H locs cells slots Q (F0 m (P.getD i 0) lsr (st.map (rv ad))) := by
  obtain ⟨hx, hb, hml, hown, hts, hini, hK⟩ := B
  obtain ⟨ins, n, hd, ho⟩ := okRow_dec hrow
  rw [act_3] at hact
  split at hact
  rotate_left
  · cases hact
  rename_i j
  split at hact
  rotate_left
  · cases hact
  rename_i x hj
  simp only [okI, Bool.and_eq_true] at ho
  obtain ⟨hn, ho⟩ := ho
  have hn := nx_eq hn
  have hl := I.lrel.2.2.2 _ _ hj (lt3 rfl)
  have G := K _ _ _ _ H locs lsr cells slots hact (I.stN (stk_cons (I.lcv _ (List.mem_of_getElem? hj)) (lt3 rfl) I.stk))
  rw [hn] at G
  split at ho
  all_goals first | (cases ho; done) | skip
  all_goals simp only [Bool.and_eq_true, decide_eq_true_eq] at ho
  · obtain ⟨rfl, hk⟩ := ho
    exact lv_lload_n hx hb hd hk hl G
  · obtain ⟨rfl, rfl⟩ := ho
    exact lv_lload hx hb hd hl G
theorem am_4 (B : Bx p s m args meth c cc nL own ini D c4 ad h0) (hrow : okRow own ini cc P i (4, o) ax = true) (hact : act call rcv ph sx rz 4 o i ls st M k = some r) (I : Iv D c4 ad ph h0 s nL nal sll ls st M H locs lsr cells slots) (K : KK p l e R s m args below meth c Q nL P D c4 ad h0 ph nal sll k r) : W p l e R s m args below meth c H locs cells slots Q (F0 m (P.getD i 0) lsr (st.map (rv ad))) := by
  obtain ⟨hx, hb, hml, hown, hts, hini, hK⟩ := B
  obtain ⟨ins, n, hd, ho⟩ := okRow_dec hrow
  rw [act_4] at hact
  split at hact
  rotate_left
  · cases hact
  rename_i j
  split at hact
  rotate_left
  · cases hact
  rename_i x hj
  split at hact
  rotate_left
  · cases hact
  simp only [okI, Bool.and_eq_true] at ho
  obtain ⟨hn, ho⟩ := ho
  have hn := nx_eq hn
  have hl := I.lrel.2.2.2 _ _ hj (lt3 rfl)
  have G := K _ _ _ _ H locs lsr cells slots hact (I.stN (stk_cons (I.lcv _ (List.mem_of_getElem? hj)) (lt3 rfl) I.stk))
  rw [hn] at G
  split at ho
  all_goals first | (cases ho; done) | skip
  all_goals simp only [Bool.and_eq_true, decide_eq_true_eq] at ho
  · obtain ⟨rfl, hk⟩ := ho
    exact lv_aload_n hx hb hd hk hl G
  · obtain ⟨rfl, rfl⟩ := ho
    exact lv_aload hx hb hd hl G
theorem am_5 (B : Bx p s m args meth c cc nL own ini D c4 ad h0) (hrow : okRow own ini cc P i (5, o) ax = true) (hact : act call rcv ph sx rz 5 o i ls st M k = some r) (I : Iv D c4 ad ph h0 s nL nal sll ls st M H locs lsr cells slots) (K : KK p l e R s m args below meth c Q nL P D c4 ad h0 ph nal sll k r) : W p l e R s m args below meth c H locs cells slots Q (F0 m (P.getD i 0) lsr (st.map (rv ad))) := by
  obtain ⟨hx, hb, hml, hown, hts, hini, hK⟩ := B
  obtain ⟨ins, n, hd, ho⟩ := okRow_dec hrow
  rw [act_5] at hact
  split at hact
  rotate_left
  · cases hact
  rename_i j x st
  split at hact
  rotate_left
  · cases hact
  rename_i hlt
  simp only [okI, Bool.and_eq_true] at ho
  obtain ⟨hn, ho⟩ := ho
  have hn := nx_eq hn
  have hj : j.toNat < nL := by rw [← I.lrel.1]; exact hlt
  have G : ∀ ls' : Array Slot, lv_has ls' nL ((j.toNat, rv ad (0, x)) :: (lvOf ad ls).filter (fun q => !(q.1 == j.toNat) && !(q.1 + 1 == j.toNat && q.2.category == 2))) → W p l e R s m args below meth c H locs cells slots Q (F0 m (P.getD i 0 + n) ls' (st.map (rv ad))) := fun ls' h' => by
    rw [← hn]
    exact K _ _ _ _ H locs ls' cells slots hact (I.lsst (I.lrel.set1 h') (setL_cv I.lcv (stk_hd I.stk)) (stk_tl I.stk))
  split at ho
  all_goals first | (cases ho; done) | skip
  all_goals simp only [Bool.and_eq_true, decide_eq_true_eq] at ho
  · obtain ⟨rfl, hk⟩ := ho
    exact lv_istore_n hx hb hd hk I.lrel.has hj rfl G
  · obtain ⟨rfl, rfl⟩ := ho
    exact lv_istore hx hb hd I.lrel.has hj rfl G
theorem am_7 (B : Bx p s m args meth c cc nL own ini D c4 ad h0) (hrow : okRow own ini cc P i (7, o) ax = true) (hact : act call rcv ph sx rz 7 o i ls st M k = some r) (I : Iv D c4 ad ph h0 s nL nal sll ls st M H locs lsr cells slots) (K : KK p l e R s m args below meth c Q nL P D c4 ad h0 ph nal sll k r) : W p l e R s m args below meth c H locs cells slots Q (F0 m (P.getD i 0) lsr (st.map (rv ad))) := by
  obtain ⟨hx, hb, hml, hown, hts, hini, hK⟩ := B
  obtain ⟨ins, n, hd, ho⟩ := okRow_dec hrow
  rw [act_7] at hact
  split at hact
  rotate_left
  · cases hact
  rename_i j x st
  split at hact
  rotate_left
  · cases hact
  rename_i hlt
  simp only [okI, Bool.and_eq_true] at ho
  obtain ⟨hn, ho⟩ := ho
  have hn := nx_eq hn
  have hj : j.toNat < nL := by rw [← I.lrel.1]; exact hlt.1
  have G : ∀ ls' : Array Slot, lv_has ls' nL ((j.toNat, rv ad (2, x)) :: (lvOf ad ls).filter (fun q => !(q.1 == j.toNat) && !(q.1 + 1 == j.toNat && q.2.category == 2))) → W p l e R s m args below meth c H locs cells slots Q (F0 m (P.getD i 0 + n) ls' (st.map (rv ad))) := fun ls' h' => by
    rw [← hn]
    exact K _ _ _ _ H locs ls' cells slots hact (I.lsst (I.lrel.set1 h') (setL_cv I.lcv (stk_hd I.stk)) (stk_tl I.stk))
  split at ho
  all_goals first | (cases ho; done) | skip
  all_goals simp only [Bool.and_eq_true, decide_eq_true_eq] at ho
  · obtain ⟨rfl, hk⟩ := ho
    exact lv_astore_n hx hb hd hk I.lrel.has hj rfl G
  · obtain ⟨rfl, rfl⟩ := ho
    exact lv_astore hx hb hd I.lrel.has hj rfl G
theorem am_6 (B : Bx p s m args meth c cc nL own ini D c4 ad h0) (hrow : okRow own ini cc P i (6, o) ax = true) (hact : act call rcv ph sx rz 6 o i ls st M k = some r) (I : Iv D c4 ad ph h0 s nL nal sll ls st M H locs lsr cells slots) (K : KK p l e R s m args below meth c Q nL P D c4 ad h0 ph nal sll k r) : W p l e R s m args below meth c H locs cells slots Q (F0 m (P.getD i 0) lsr (st.map (rv ad))) := by
  obtain ⟨hx, hb, hml, hown, hts, hini, hK⟩ := B
  obtain ⟨ins, n, hd, ho⟩ := okRow_dec hrow
  rw [act_6] at hact
  split at hact
  rotate_left
  · cases hact
  rename_i j x st
  split at hact
  rotate_left
  · cases hact
  rename_i hlt
  simp only [okI, Bool.and_eq_true] at ho
  obtain ⟨hn, ho⟩ := ho
  have hn := nx_eq hn
  have hj : j.toNat + 1 < nL := by rw [← I.lrel.1]; exact hlt
  have G : ∀ ls' : Array Slot, lv_has ls' nL ((j.toNat, rv ad (1, x)) :: (lvOf ad ls).filter (fun q => !(q.1 == j.toNat) && (!(q.1 == j.toNat + 1) && !(q.1 + 1 == j.toNat && q.2.category == 2)))) → W p l e R s m args below meth c H locs cells slots Q (F0 m (P.getD i 0 + n) ls' (st.map (rv ad))) := fun ls' h' => by
    rw [← hn]
    exact K _ _ _ _ H locs ls' cells slots hact (I.lsst (I.lrel.set2 h') (set_cv (setL_cv I.lcv (stk_hd I.stk)) trivial) (stk_tl I.stk))
  split at ho
  all_goals first | (cases ho; done) | skip
  all_goals simp only [Bool.and_eq_true, decide_eq_true_eq] at ho
  · obtain ⟨rfl, hk⟩ := ho
    exact lv_lstore_n hx hb hd hk I.lrel.has hj rfl G
  · obtain ⟨rfl, rfl⟩ := ho
    exact lv_lstore hx hb hd I.lrel.has hj rfl G
theorem am_8 (B : Bx p s m args meth c cc nL own ini D c4 ad h0) (hrow : okRow own ini cc P i (8, o) ax = true) (hact : act call rcv ph sx rz 8 o i ls st M k = some r) (I : Iv D c4 ad ph h0 s nL nal sll ls st M H locs lsr cells slots) (K : KK p l e R s m args below meth c Q nL P D c4 ad h0 ph nal sll k r) : W p l e R s m args below meth c H locs cells slots Q (F0 m (P.getD i 0) lsr (st.map (rv ad))) := by
  obtain ⟨hx, hb, hml, hown, hts, hini, hK⟩ := B
  obtain ⟨ins, n, hd, ho⟩ := okRow_dec hrow
  rw [act_8] at hact
  split at hact
  rotate_left
  · cases hact
  rename_i j cst
  split at hact
  rotate_left
  · cases hact
  rename_i x hj
  simp only [okI, Bool.and_eq_true] at ho
  obtain ⟨hn, ho⟩ := ho
  have hn := nx_eq hn
  have hlt : j.toNat < nL := by rw [← I.lrel.1]; exact (List.getElem?_eq_some_iff.mp hj).1
  have G : ∀ ls' : Array Slot, lv_has ls' nL ((j.toNat, rv ad (0, w32 (x + cst))) :: (lvOf ad ls).filter (fun q => !(q.1 == j.toNat) && !(q.1 + 1 == j.toNat && q.2.category == 2))) → W p l e R s m args below meth c H locs cells slots Q (F0 m (P.getD i 0 + n) ls' (st.map (rv ad))) := fun ls' h' => by
    rw [← hn]
    exact K _ _ _ _ H locs ls' cells slots hact (I.lsst (I.lrel.set1 h') (setL_cv I.lcv (c_w32 _)) I.stk)
  obtain ⟨q, hq⟩ := List.getElem?_of_mem (lvOf_mem (ad := ad) hj (lt3 rfl))
  split at ho
  all_goals first | (cases ho; done) | skip
  all_goals simp only [Bool.and_eq_true, decide_eq_true_eq] at ho
  · obtain ⟨⟨rfl, rfl⟩, hdc⟩ := ho
    rw [hdc] at hd
    exact lv_iinc (v := Int32.ofInt (w32 (x + cst))) hx hb hd I.lrel.has hq (by rw [n_w32, Int32.ofInt_add]) hlt rfl G
theorem am_9 (B : Bx p s m args meth c cc nL own ini D c4 ad h0) (hrow : okRow own ini cc P i (9, o) ax = true) (hact : act call rcv ph sx rz 9 o i ls st M k = some r) (I : Iv D c4 ad ph h0 s nL nal sll ls st M H locs lsr cells slots) (K : KK p l e R s m args below meth c Q nL P D c4 ad h0 ph nal sll k r) : W p l e R s m args below meth c H locs cells slots Q (F0 m (P.getD i 0) lsr (st.map (rv ad))) := by
  obtain ⟨hx, hb, hml, hown, hts, hini, hK⟩ := B
  obtain ⟨ins, n, hd, ho⟩ := okRow_dec hrow
  rw [act_9] at hact
  split at hact
  rotate_left
  · cases hact
  rename_i bk y x st
  split at hact
  rotate_left
  · cases hact
  rename_i v hv
  simp only [okI, Bool.and_eq_true, decide_eq_true_eq] at ho
  obtain ⟨⟨⟨⟨hn, rfl⟩, hi⟩, hk0⟩, hk1⟩ := ho
  have hn := nx_eq hn
  have hcy : c32 y := stk_hd I.stk
  have hcx : c32 x := stk_hd (stk_tl I.stk)
  have G := K _ _ _ _ H locs lsr cells slots hact (I.stN (stk_cons (v := (0, v)) (c_ibin hv) (lt3 rfl) (stk_tl (stk_tl I.stk))))
  rw [hn] at G
  replace G : W p l e R s m args below meth c H locs cells slots Q (F0 m (P.getD i 0 + 1) lsr (.int (Int32.ofInt v) :: st.map (rv ad))) := G
  show W p l e R s m args below meth c H locs cells slots Q (F0 m (P.getD i 0) lsr (.int (Int32.ofInt y) :: .int (Int32.ofInt x) :: st.map (rv ad)))
  rcases (show bk = 0 ∨ bk = 1 ∨ bk = 2 ∨ bk = 3 ∨ bk = 4 ∨ bk = 5 ∨ bk = 6 ∨ bk = 7 ∨ bk = 8 ∨ bk = 9 ∨ bk = 10 by omega) with rfl | rfl | rfl | rfl | rfl | rfl | rfl | rfl | rfl | rfl | rfl
  · have hi : ins = .iadd := hi
    subst hi
    have hv' : w32 (x + y) = v := Option.some.inj hv
    rw [← hv', n_w32, Int32.ofInt_add] at G
    exact lv_iadd hx hb hd G
  · have hi : ins = .isub := hi
    subst hi
    have hv' : w32 (x - y) = v := Option.some.inj hv
    rw [← hv', n_w32, Int32.ofInt_sub] at G
    exact lv_isub hx hb hd G
  · have hi : ins = .imul := hi
    subst hi
    have hv' : w32 (x * y) = v := Option.some.inj hv
    rw [← hv', n_w32, Int32.ofInt_mul] at G
    exact lv_imul hx hb hd G
  · have hi : ins = .idiv := hi
    subst hi
    have hv' : (if y = 0 then none else some (w32 (x.tdiv y))) = some v := hv
    split at hv'
    · cases hv'
    rename_i hy
    have hv' := Option.some.inj hv'
    rw [← hv', n_div hcx hcy] at G
    exact lv_idiv hx hb hd (fun q => hy ((n_eq hcy c32_0).mp q)) G
  · have hi : ins = .irem := hi
    subst hi
    have hv' : (if y = 0 then none else some (w32 (x.tmod y))) = some v := hv
    split at hv'
    · cases hv'
    rename_i hy
    have hv' := Option.some.inj hv'
    rw [← hv', n_rem hcx hcy] at G
    exact lv_irem hx hb hd (fun q => hy ((n_eq hcy c32_0).mp q)) G
  · have hi : ins = .iand := hi
    subst hi
    have hv' : iand x y = v := Option.some.inj hv
    rw [← hv', n_iand] at G
    exact lv_iand hx hb hd G
  · have hi : ins = .ior := hi
    subst hi
    have hv' : ior x y = v := Option.some.inj hv
    rw [← hv', n_ior] at G
    exact lv_ior hx hb hd G
  · have hi : ins = .ixor := hi
    subst hi
    have hv' : ixor x y = v := Option.some.inj hv
    rw [← hv', n_ixor] at G
    exact lv_ixor hx hb hd G
  · have hi : ins = .ishl := hi
    subst hi
    have hv' : ishl x y = v := Option.some.inj hv
    rw [← hv', n_ishl] at G
    exact lv_ishl hx hb hd G
  · have hi : ins = .ishr := hi
    subst hi
    have hv' : ishr x y = v := Option.some.inj hv
    rw [← hv', n_ishr] at G
    exact lv_ishr hx hb hd G
  · have hi : ins = .iushr := hi
    subst hi
    have hv' : iushr x y = v := Option.some.inj hv
    exact lv_iushr hx hb hd (by rw [← hv', n_iushr]) G
theorem am_10 (B : Bx p s m args meth c cc nL own ini D c4 ad h0) (hrow : okRow own ini cc P i (10, o) ax = true) (hact : act call rcv ph sx rz 10 o i ls st M k = some r) (I : Iv D c4 ad ph h0 s nL nal sll ls st M H locs lsr cells slots) (K : KK p l e R s m args below meth c Q nL P D c4 ad h0 ph nal sll k r) : W p l e R s m args below meth c H locs cells slots Q (F0 m (P.getD i 0) lsr (st.map (rv ad))) := by
  obtain ⟨hx, hb, hml, hown, hts, hini, hK⟩ := B
  obtain ⟨ins, n, hd, ho⟩ := okRow_dec hrow
  rw [act_10] at hact
  split at hact
  rotate_left
  · cases hact
  rename_i bk y x st
  split at hact
  rotate_left
  · cases hact
  rename_i v hv
  simp only [okI, Bool.and_eq_true, decide_eq_true_eq] at ho
  obtain ⟨⟨⟨⟨hn, rfl⟩, hi⟩, hk0⟩, hk1⟩ := ho
  have hn := nx_eq hn
  have hcy : c64 y := stk_hd I.stk
  have hcx : c64 x := stk_hd (stk_tl I.stk)
  have G := K _ _ _ _ H locs lsr cells slots hact (I.stN (stk_cons (v := (1, v)) (c_lbin hv) (lt3 rfl) (stk_tl (stk_tl I.stk))))
  rw [hn] at G
  replace G : W p l e R s m args below meth c H locs cells slots Q (F0 m (P.getD i 0 + 1) lsr (.long (Int64.ofInt v) :: st.map (rv ad))) := G
  show W p l e R s m args below meth c H locs cells slots Q (F0 m (P.getD i 0) lsr (.long (Int64.ofInt y) :: .long (Int64.ofInt x) :: st.map (rv ad)))
  rcases (show bk = 0 ∨ bk = 1 ∨ bk = 2 ∨ bk = 3 ∨ bk = 4 ∨ bk = 5 ∨ bk = 6 by omega) with rfl | rfl | rfl | rfl | rfl | rfl | rfl
  · have hi : ins = .ladd := hi
    subst hi
    have hv' : w64 (x + y) = v := Option.some.inj hv
    rw [← hv', n_w64, Int64.ofInt_add] at G
    exact lv_ladd hx hb hd G
  · have hi : ins = .lsub := hi
    subst hi
    have hv' : w64 (x - y) = v := Option.some.inj hv
    rw [← hv', n_w64, Int64.ofInt_sub] at G
    exact lv_lsub hx hb hd G
  · have hi : ins = .lmul := hi
    subst hi
    have hv' : w64 (x * y) = v := Option.some.inj hv
    rw [← hv', n_w64, Int64.ofInt_mul] at G
    exact lv_lmul hx hb hd G
  · have hi : ins = .ldiv := hi
    subst hi
    have hv' : (if y = 0 then none else some (w64 (x.tdiv y))) = some v := hv
    split at hv'
    · cases hv'
    rename_i hy
    have hv' := Option.some.inj hv'
    rw [← hv', n_div64 hcx hcy] at G
    exact lv_ldiv hx hb hd (fun q => hy ((n_eq64 hcy ⟨by decide, by decide⟩).mp q)) G
  · have hi : ins = .lrem := hi
    subst hi
    have hv' : (if y = 0 then none else some (w64 (x.tmod y))) = some v := hv
    split at hv'
    · cases hv'
    rename_i hy
    have hv' := Option.some.inj hv'
    rw [← hv', n_rem64 hcx hcy] at G
    exact lv_lrem hx hb hd (fun q => hy ((n_eq64 hcy ⟨by decide, by decide⟩).mp q)) G
  · have hi : ins = .land := hi
    subst hi
    have hv' : land x y = v := Option.some.inj hv
    rw [← hv', n_land] at G
    exact lv_land hx hb hd G
  · have hi : ins = .lor := hi
    subst hi
    have hv' : lor x y = v := Option.some.inj hv
    rw [← hv', n_lor] at G
    exact lv_lor hx hb hd G
theorem am_11 (B : Bx p s m args meth c cc nL own ini D c4 ad h0) (hrow : okRow own ini cc P i (11, o) ax = true) (hact : act call rcv ph sx rz 11 o i ls st M k = some r) (I : Iv D c4 ad ph h0 s nL nal sll ls st M H locs lsr cells slots) (K : KK p l e R s m args below meth c Q nL P D c4 ad h0 ph nal sll k r) : W p l e R s m args below meth c H locs cells slots Q (F0 m (P.getD i 0) lsr (st.map (rv ad))) := by
  obtain ⟨hx, hb, hml, hown, hts, hini, hK⟩ := B
  obtain ⟨ins, n, hd, ho⟩ := okRow_dec hrow
  rw [act_11] at hact
  split at hact
  rotate_left
  · cases hact
  rename_i x st
  simp only [okI, Bool.and_eq_true, decide_eq_true_eq] at ho
  obtain ⟨⟨hn, rfl⟩, rfl⟩ := ho
  have hn := nx_eq hn
  have hcx : c32 x := stk_hd I.stk
  have G := K _ _ _ _ H locs lsr cells slots hact (I.stN (stk_cons (v := (0, w32 (-x))) (c_w32 _) (lt3 rfl) (stk_tl I.stk)))
  rw [hn] at G
  exact by
    replace G : W p l e R s m args below meth c H locs cells slots Q (F0 m (P.getD i 0 + 1) lsr (.int (Int32.ofInt (w32 (-x))) :: st.map (rv ad))) := G
    rw [n_w32, Int32.ofInt_neg] at G
    exact lv_ineg hx hb hd G
theorem am_12 (B : Bx p s m args meth c cc nL own ini D c4 ad h0) (hrow : okRow own ini cc P i (12, o) ax = true) (hact : act call rcv ph sx rz 12 o i ls st M k = some r) (I : Iv D c4 ad ph h0 s nL nal sll ls st M H locs lsr cells slots) (K : KK p l e R s m args below meth c Q nL P D c4 ad h0 ph nal sll k r) : W p l e R s m args below meth c H locs cells slots Q (F0 m (P.getD i 0) lsr (st.map (rv ad))) := by
  obtain ⟨hx, hb, hml, hown, hts, hini, hK⟩ := B
  obtain ⟨ins, n, hd, ho⟩ := okRow_dec hrow
  rw [act_12] at hact
  split at hact
  rotate_left
  · cases hact
  rename_i x st
  simp only [okI, Bool.and_eq_true, decide_eq_true_eq] at ho
  obtain ⟨⟨hn, rfl⟩, rfl⟩ := ho
  have hn := nx_eq hn
  have hcx : c32 x := stk_hd I.stk
  have G := K _ _ _ _ H locs lsr cells slots hact (I.stN (stk_cons (v := (1, x)) (⟨by have := hcx.1; omega, by have := hcx.2; omega⟩) (lt3 rfl) (stk_tl I.stk)))
  rw [hn] at G
  exact lv_i2l hx hb hd (n_i2l x hcx) G
theorem am_13 (B : Bx p s m args meth c cc nL own ini D c4 ad h0) (hrow : okRow own ini cc P i (13, o) ax = true) (hact : act call rcv ph sx rz 13 o i ls st M k = some r) (I : Iv D c4 ad ph h0 s nL nal sll ls st M H locs lsr cells slots) (K : KK p l e R s m args below meth c Q nL P D c4 ad h0 ph nal sll k r) : W p l e R s m args below meth c H locs cells slots Q (F0 m (P.getD i 0) lsr (st.map (rv ad))) := by
  obtain ⟨hx, hb, hml, hown, hts, hini, hK⟩ := B
  obtain ⟨ins, n, hd, ho⟩ := okRow_dec hrow
  rw [act_13] at hact
  split at hact
  rotate_left
  · cases hact
  rename_i x st
  simp only [okI, Bool.and_eq_true, decide_eq_true_eq] at ho
  obtain ⟨⟨hn, rfl⟩, rfl⟩ := ho
  have hn := nx_eq hn
  have hcx : c64 x := stk_hd I.stk
  have G := K _ _ _ _ H locs lsr cells slots hact (I.stN (stk_cons (v := (0, w32 x)) (c_w32 _) (lt3 rfl) (stk_tl I.stk)))
  rw [hn] at G
  exact lv_l2i hx hb hd (n_l2i x hcx) G
theorem am_14 (B : Bx p s m args meth c cc nL own ini D c4 ad h0) (hrow : okRow own ini cc P i (14, o) ax = true) (hact : act call rcv ph sx rz 14 o i ls st M k = some r) (I : Iv D c4 ad ph h0 s nL nal sll ls st M H locs lsr cells slots) (K : KK p l e R s m args below meth c Q nL P D c4 ad h0 ph nal sll k r) : W p l e R s m args below meth c H locs cells slots Q (F0 m (P.getD i 0) lsr (st.map (rv ad))) := by
  obtain ⟨hx, hb, hml, hown, hts, hini, hK⟩ := B
  obtain ⟨ins, n, hd, ho⟩ := okRow_dec hrow
  rw [act_14] at hact
  split at hact
  rotate_left
  · cases hact
  rename_i x st
  simp only [okI, Bool.and_eq_true, decide_eq_true_eq] at ho
  obtain ⟨⟨hn, rfl⟩, rfl⟩ := ho
  have hn := nx_eq hn
  have hcx : c32 x := stk_hd I.stk
  have G := K _ _ _ _ H locs lsr cells slots hact (I.stN (stk_cons (v := (0, Int.bmod x 256)) (c_b8 _) (lt3 rfl) (stk_tl I.stk)))
  rw [hn] at G
  exact lv_i2b hx hb hd (n_i2b x hcx) G
theorem am_15 (B : Bx p s m args meth c cc nL own ini D c4 ad h0) (hrow : okRow own ini cc P i (15, o) ax = true) (hact : act call rcv ph sx rz 15 o i ls st M k = some r) (I : Iv D c4 ad ph h0 s nL nal sll ls st M H locs lsr cells slots) (K : KK p l e R s m args below meth c Q nL P D c4 ad h0 ph nal sll k r) : W p l e R s m args below meth c H locs cells slots Q (F0 m (P.getD i 0) lsr (st.map (rv ad))) := by
  obtain ⟨hx, hb, hml, hown, hts, hini, hK⟩ := B
  obtain ⟨ins, n, hd, ho⟩ := okRow_dec hrow
  rw [act_15] at hact
  split at hact
  rotate_left
  · cases hact
  rename_i x st
  simp only [okI, Bool.and_eq_true, decide_eq_true_eq] at ho
  obtain ⟨⟨hn, rfl⟩, rfl⟩ := ho
  have hn := nx_eq hn
  have hcx : c32 x := stk_hd I.stk
  have G := K _ _ _ _ H locs lsr cells slots hact (I.stN (stk_cons (v := (0, Int.bmod x 65536)) (c_b16 _) (lt3 rfl) (stk_tl I.stk)))
  rw [hn] at G
  exact lv_i2s hx hb hd (n_i2s x hcx) G
theorem am_16 (B : Bx p s m args meth c cc nL own ini D c4 ad h0) (hrow : okRow own ini cc P i (16, o) ax = true) (hact : act call rcv ph sx rz 16 o i ls st M k = some r) (I : Iv D c4 ad ph h0 s nL nal sll ls st M H locs lsr cells slots) (K : KK p l e R s m args below meth c Q nL P D c4 ad h0 ph nal sll k r) : W p l e R s m args below meth c H locs cells slots Q (F0 m (P.getD i 0) lsr (st.map (rv ad))) := by
  obtain ⟨hx, hb, hml, hown, hts, hini, hK⟩ := B
  obtain ⟨ins, n, hd, ho⟩ := okRow_dec hrow
  rw [act_16] at hact
  split at hact
  rotate_left
  · cases hact
  rename_i y x st
  simp only [okI, Bool.and_eq_true, decide_eq_true_eq] at ho
  obtain ⟨⟨hn, rfl⟩, rfl⟩ := ho
  have hn := nx_eq hn
  have hcy : c64 y := stk_hd I.stk
  have hcx : c64 x := stk_hd (stk_tl I.stk)
  have G := K _ _ _ _ H locs lsr cells slots hact (I.stN (stk_cons (v := (0, lcmpI x y)) (c_lcmp x y) (lt3 rfl) (stk_tl (stk_tl I.stk))))
  rw [hn] at G
  replace G : W p l e R s m args below meth c H locs cells slots Q (F0 m (P.getD i 0 + 1) lsr (.int (Int32.ofInt (lcmpI x y)) :: st.map (rv ad))) := G
  rw [← n_lcmp hcx hcy] at G
  exact W.lcmp hx hb hd G
theorem am_17 (B : Bx p s m args meth c cc nL own ini D c4 ad h0) (hrow : okRow own ini cc P i (17, o) ax = true) (hact : act call rcv ph sx rz 17 o i ls st M k = some r) (I : Iv D c4 ad ph h0 s nL nal sll ls st M H locs lsr cells slots) (K : KK p l e R s m args below meth c Q nL P D c4 ad h0 ph nal sll k r) : W p l e R s m args below meth c H locs cells slots Q (F0 m (P.getD i 0) lsr (st.map (rv ad))) := by
  obtain ⟨hx, hb, hml, hown, hts, hini, hK⟩ := B
  obtain ⟨ins, n, hd, ho⟩ := okRow_dec hrow
  rw [act_17] at hact
  split at hact
  rotate_left
  · cases hact
  rename_i y x st
  simp only [okI, Bool.and_eq_true, decide_eq_true_eq] at ho
  obtain ⟨⟨hn, rfl⟩, rfl⟩ := ho
  have hn := nx_eq hn
  have G := K _ _ _ _ H locs lsr cells slots hact (I.stN (stk_cons (v := (1, lshl x y)) (c_t64 _) (lt3 rfl) (stk_tl (stk_tl I.stk))))
  rw [hn] at G
  exact lv_lshl hx hb hd (by rw [n_lshl]) G
theorem am_18 (B : Bx p s m args meth c cc nL own ini D c4 ad h0) (hrow : okRow own ini cc P i (18, o) ax = true) (hact : act call rcv ph sx rz 18 o i ls st M k = some r) (I : Iv D c4 ad ph h0 s nL nal sll ls st M H locs lsr cells slots) (K : KK p l e R s m args below meth c Q nL P D c4 ad h0 ph nal sll k r) : W p l e R s m args below meth c H locs cells slots Q (F0 m (P.getD i 0) lsr (st.map (rv ad))) := by
  obtain ⟨hx, hb, hml, hown, hts, hini, hK⟩ := B
  obtain ⟨ins, n, hd, ho⟩ := okRow_dec hrow
  rw [act_18] at hact
  split at hact
  rotate_left
  · cases hact
  rename_i ck t x st
  simp only [okI, Bool.and_eq_true, decide_eq_true_eq] at ho
  obtain ⟨⟨hn, rfl⟩, ho⟩ := ho
  have hn := nx_eq hn
  split at ho
  all_goals first | (cases ho; done) | skip
  all_goals simp only [Bool.and_eq_true, decide_eq_true_eq] at ho
  obtain ⟨rfl, ht⟩ := ho
  have ht := tg_eq ht
  have hcx : c32 x := stk_hd I.stk
  have Gt : icond ck x 0 = true → W p l e R s m args below meth c H locs cells slots Q (F0 m (P.getD t.toNat 0) lsr (st.map (rv ad))) := fun q => by
    rw [if_pos q] at hact
    exact K _ _ _ _ H locs lsr cells slots hact (I.stN (stk_tl I.stk))
  have Gf : ¬ icond ck x 0 = true → W p l e R s m args below meth c H locs cells slots Q (F0 m (P.getD i 0 + 3) lsr (st.map (rv ad))) := fun q => by
    rw [if_neg q] at hact
    rw [← hn]
    exact K _ _ _ _ H locs lsr cells slots hact (I.stN (stk_tl I.stk))
  by_cases q0 : ck = 0
  · subst q0
    have hcd : cdI 0 = .eq := rfl
    have hic : icond 0 x 0 = decide (x = 0) := rfl
    rw [hcd] at hd
    rw [hic, decide_eq_true_eq] at Gt Gf
    exact lv_if_eq hx hb hd ht (fun z => Gt ((n_eq hcx c32_0).mp z)) (fun z => Gf (fun z2 => z ((n_eq hcx c32_0).mpr z2)))
  by_cases q1 : ck = 1
  · subst q1
    have hcd : cdI 1 = .ne := rfl
    have hic : icond 1 x 0 = decide (¬ x = 0) := rfl
    rw [hcd] at hd
    rw [hic, decide_eq_true_eq] at Gt Gf
    exact lv_if_ne hx hb hd ht (fun z => Gt ((not_congr (n_eq hcx c32_0)).mp z)) (fun z => Gf (fun z2 => z2 ((n_eq hcx c32_0).mp z)))
  by_cases q2 : ck = 2
  · subst q2
    have hcd : cdI 2 = .lt := rfl
    have hic : icond 2 x 0 = decide (x < 0) := rfl
    rw [hcd] at hd
    rw [hic, decide_eq_true_eq] at Gt Gf
    exact lv_if_lt hx hb hd ht (fun z => Gt ((n_lt hcx c32_0).mp z)) (fun z => Gf (fun z2 => z ((n_lt hcx c32_0).mpr z2)))
  by_cases q3 : ck = 3
  · subst q3
    have hcd : cdI 3 = .ge := rfl
    have hic : icond 3 x 0 = decide (0 ≤ x) := rfl
    rw [hcd] at hd
    rw [hic, decide_eq_true_eq] at Gt Gf
    exact lv_if_ge hx hb hd ht (fun z => Gt ((n_le c32_0 hcx).mp z)) (fun z => Gf (fun z2 => z ((n_le c32_0 hcx).mpr z2)))
  by_cases q4 : ck = 4
  · subst q4
    have hcd : cdI 4 = .gt := rfl
    have hic : icond 4 x 0 = decide (0 < x) := rfl
    rw [hcd] at hd
    rw [hic, decide_eq_true_eq] at Gt Gf
    exact lv_if_gt hx hb hd ht (fun z => Gt ((n_lt c32_0 hcx).mp z)) (fun z => Gf (fun z2 => z ((n_lt c32_0 hcx).mpr z2)))
  have hcd : cdI ck = .le := by unfold cdI; rw [if_neg q0, if_neg q1, if_neg q2, if_neg q3, if_neg q4]
  have hic : icond ck x 0 = decide (x ≤ 0) := by unfold icond; rw [if_neg q0, if_neg q1, if_neg q2, if_neg q3, if_neg q4]
  rw [hcd] at hd
  rw [hic, decide_eq_true_eq] at Gt Gf
  exact lv_if_le hx hb hd ht (fun z => Gt ((n_le hcx c32_0).mp z)) (fun z => Gf (fun z2 => z ((n_le hcx c32_0).mpr z2)))
theorem am_19 (B : Bx p s m args meth c cc nL own ini D c4 ad h0) (hrow : okRow own ini cc P i (19, o) ax = true) (hact : act call rcv ph sx rz 19 o i ls st M k = some r) (I : Iv D c4 ad ph h0 s nL nal sll ls st M H locs lsr cells slots) (K : KK p l e R s m args below meth c Q nL P D c4 ad h0 ph nal sll k r) : W p l e R s m args below meth c H locs cells slots Q (F0 m (P.getD i 0) lsr (st.map (rv ad))) := by
  obtain ⟨hx, hb, hml, hown, hts, hini, hK⟩ := B
  obtain ⟨ins, n, hd, ho⟩ := okRow_dec hrow
  rw [act_19] at hact
  split at hact
  rotate_left
  · cases hact
  rename_i ck t y x st
  simp only [okI, Bool.and_eq_true, decide_eq_true_eq] at ho
  obtain ⟨⟨hn, rfl⟩, ho⟩ := ho
  have hn := nx_eq hn
  split at ho
  all_goals first | (cases ho; done) | skip
  all_goals simp only [Bool.and_eq_true, decide_eq_true_eq] at ho
  obtain ⟨rfl, ht⟩ := ho
  have ht := tg_eq ht
  have hcy : c32 y := stk_hd I.stk
  have hcx : c32 x := stk_hd (stk_tl I.stk)
  have Gt : icond ck x y = true → W p l e R s m args below meth c H locs cells slots Q (F0 m (P.getD t.toNat 0) lsr (st.map (rv ad))) := fun q => by
    rw [if_pos q] at hact
    exact K _ _ _ _ H locs lsr cells slots hact (I.stN (stk_tl (stk_tl I.stk)))
  have Gf : ¬ icond ck x y = true → W p l e R s m args below meth c H locs cells slots Q (F0 m (P.getD i 0 + 3) lsr (st.map (rv ad))) := fun q => by
    rw [if_neg q] at hact
    rw [← hn]
    exact K _ _ _ _ H locs lsr cells slots hact (I.stN (stk_tl (stk_tl I.stk)))
  by_cases q0 : ck = 0
  · subst q0
    have hcd : cdI 0 = .eq := rfl
    have hic : icond 0 x y = decide (x = y) := rfl
    rw [hcd] at hd
    rw [hic, decide_eq_true_eq] at Gt Gf
    exact lv_icmp_eq hx hb hd ht (fun z => Gt ((n_eq hcx hcy).mp z)) (fun z => Gf (fun z2 => z ((n_eq hcx hcy).mpr z2)))
  by_cases q1 : ck = 1
  · subst q1
    have hcd : cdI 1 = .ne := rfl
    have hic : icond 1 x y = decide (¬ x = y) := rfl
    rw [hcd] at hd
    rw [hic, decide_eq_true_eq] at Gt Gf
    exact lv_icmp_ne hx hb hd ht (fun z => Gt ((not_congr (n_eq hcx hcy)).mp z)) (fun z => Gf (fun z2 => z2 ((n_eq hcx hcy).mp z)))
  by_cases q2 : ck = 2
  · subst q2
    have hcd : cdI 2 = .lt := rfl
    have hic : icond 2 x y = decide (x < y) := rfl
    rw [hcd] at hd
    rw [hic, decide_eq_true_eq] at Gt Gf
    exact lv_icmp_lt hx hb hd ht (fun z => Gt ((n_lt hcx hcy).mp z)) (fun z => Gf (fun z2 => z ((n_lt hcx hcy).mpr z2)))
  by_cases q3 : ck = 3
  · subst q3
    have hcd : cdI 3 = .ge := rfl
    have hic : icond 3 x y = decide (y ≤ x) := rfl
    rw [hcd] at hd
    rw [hic, decide_eq_true_eq] at Gt Gf
    exact lv_icmp_ge hx hb hd ht (fun z => Gt ((n_le hcy hcx).mp z)) (fun z => Gf (fun z2 => z ((n_le hcy hcx).mpr z2)))
  by_cases q4 : ck = 4
  · subst q4
    have hcd : cdI 4 = .gt := rfl
    have hic : icond 4 x y = decide (y < x) := rfl
    rw [hcd] at hd
    rw [hic, decide_eq_true_eq] at Gt Gf
    exact lv_icmp_gt hx hb hd ht (fun z => Gt ((n_lt hcy hcx).mp z)) (fun z => Gf (fun z2 => z ((n_lt hcy hcx).mpr z2)))
  have hcd : cdI ck = .le := by unfold cdI; rw [if_neg q0, if_neg q1, if_neg q2, if_neg q3, if_neg q4]
  have hic : icond ck x y = decide (x ≤ y) := by unfold icond; rw [if_neg q0, if_neg q1, if_neg q2, if_neg q3, if_neg q4]
  rw [hcd] at hd
  rw [hic, decide_eq_true_eq] at Gt Gf
  exact lv_icmp_le hx hb hd ht (fun z => Gt ((n_le hcx hcy).mp z)) (fun z => Gf (fun z2 => z ((n_le hcx hcy).mpr z2)))
theorem am_20 (B : Bx p s m args meth c cc nL own ini D c4 ad h0) (hrow : okRow own ini cc P i (20, o) ax = true) (hact : act call rcv ph sx rz 20 o i ls st M k = some r) (I : Iv D c4 ad ph h0 s nL nal sll ls st M H locs lsr cells slots) (K : KK p l e R s m args below meth c Q nL P D c4 ad h0 ph nal sll k r) : W p l e R s m args below meth c H locs cells slots Q (F0 m (P.getD i 0) lsr (st.map (rv ad))) := by
  obtain ⟨hx, hb, hml, hown, hts, hini, hK⟩ := B
  obtain ⟨ins, n, hd, ho⟩ := okRow_dec hrow
  rw [act_20] at hact
  split at hact
  rotate_left
  · cases hact
  rename_i t
  simp only [okI, Bool.and_eq_true, decide_eq_true_eq] at ho
  obtain ⟨rfl, ho⟩ := ho
  split at ho
  rotate_left
  · cases ho
  exact lv_goto hx hb hd (tg_eq ho) (K _ _ _ _ H locs lsr cells slots hact I)
theorem am_21 (B : Bx p s m args meth c cc nL own ini D c4 ad h0) (hrow : okRow own ini cc P i (21, o) ax = true) (hact : act call rcv ph sx rz 21 o i ls st M k = some r) (I : Iv D c4 ad ph h0 s nL nal sll ls st M H locs lsr cells slots) (K : KK p l e R s m args below meth c Q nL P D c4 ad h0 ph nal sll k r) : W p l e R s m args below meth c H locs cells slots Q (F0 m (P.getD i 0) lsr (st.map (rv ad))) := by
  obtain ⟨hx, hb, hml, hown, hts, hini, hK⟩ := B
  obtain ⟨ins, n, hd, ho⟩ := okRow_dec hrow
  rw [act_21] at hact
  split at hact
  rotate_left
  · cases hact
  rename_i df lo ts x st
  simp only [okI] at ho
  split at ho
  all_goals first | (cases ho; done) | skip
  all_goals simp only [Bool.and_eq_true, decide_eq_true_eq] at ho
  rename_i d2 l2 hh offs
  obtain ⟨⟨⟨⟨h1, rfl⟩, h2⟩, h3⟩, h4⟩ := ho
  have hcx : c32 x := stk_hd I.stk
  split at hact
  · rename_i q
    exact lv_tableOut hx hb hd (by rw [n_t32 hcx]; omega) (tg_eq h1) (K _ _ _ _ H locs lsr cells slots hact (I.stN (stk_tl I.stk)))
  · rename_i q
    have hj : (x - l2).toNat < ts.length := by omega
    have h5 := List.all_eq_true.mp h4 (x - l2).toNat (List.mem_range.mpr hj)
    have h6 : offs[(x - l2).toNat]? = some (offs.toList.getD (x - l2).toNat 0) := by
      rw [← Array.getElem?_toList, List.getD_eq_getElem?_getD, List.getElem?_eq_getElem (by omega)]; rfl
    refine lv_tableIn (off := offs.toList.getD (x - l2).toNat 0) hx hb hd (by rw [n_t32 hcx]; omega) (by rw [n_t32 hcx]; omega) (by rw [n_t32 hcx]; exact h6) (tg_eq h5) (K _ _ _ _ H locs lsr cells slots hact (I.stN (stk_tl I.stk)))
theorem am_23 (B : Bx p s m args meth c cc nL own ini D c4 ad h0) (hrow : okRow own ini cc P i (23, o) ax = true) (hact : act call rcv ph sx rz 23 o i ls st M k = some r) (I : Iv D c4 ad ph h0 s nL nal sll ls st M H locs lsr cells slots) (K : KK p l e R s m args below meth c Q nL P D c4 ad h0 ph nal sll k r) : W p l e R s m args below meth c H locs cells slots Q (F0 m (P.getD i 0) lsr (st.map (rv ad))) := by
  obtain ⟨hx, hb, hml, hown, hts, hini, hK⟩ := B
  obtain ⟨ins, n, hd, ho⟩ := okRow_dec hrow
  rw [act_23] at hact
  split at hact
  rotate_left 2
  · cases hact
  · rename_i x st
    simp only [okI, Bool.and_eq_true, decide_eq_true_eq] at ho
    obtain ⟨⟨hn, rfl⟩, rfl⟩ := ho
    have hn := nx_eq hn
    have G := K _ _ _ _ H locs lsr cells slots hact (I.stN (stk_cons (stk_hd I.stk) (lt3 rfl) I.stk))
    rw [hn] at G
    exact lv_dup hx hb hd rfl G
  · rename_i x st
    simp only [okI, Bool.and_eq_true, decide_eq_true_eq] at ho
    obtain ⟨⟨hn, rfl⟩, rfl⟩ := ho
    have hn := nx_eq hn
    have G := K _ _ _ _ H locs lsr cells slots hact (I.stN (stk_cons (stk_hd I.stk) (lt3 rfl) I.stk))
    rw [hn] at G
    exact lv_dup hx hb hd rfl G
theorem am_24 (B : Bx p s m args meth c cc nL own ini D c4 ad h0) (hrow : okRow own ini cc P i (24, o) ax = true) (hact : act call rcv ph sx rz 24 o i ls st M k = some r) (I : Iv D c4 ad ph h0 s nL nal sll ls st M H locs lsr cells slots) (K : KK p l e R s m args below meth c Q nL P D c4 ad h0 ph nal sll k r) : W p l e R s m args below meth c H locs cells slots Q (F0 m (P.getD i 0) lsr (st.map (rv ad))) := by
  obtain ⟨hx, hb, hml, hown, hts, hini, hK⟩ := B
  obtain ⟨ins, n, hd, ho⟩ := okRow_dec hrow
  rw [act_24] at hact
  split at hact
  rotate_left
  · cases hact
  rename_i x st
  simp only [okI, Bool.and_eq_true, decide_eq_true_eq] at ho
  obtain ⟨⟨hn, rfl⟩, rfl⟩ := ho
  have hn := nx_eq hn
  have G := K _ _ _ _ H locs lsr cells slots hact (I.stN (stk_tl I.stk))
  rw [hn] at G
  exact lv_pop hx hb hd rfl G
theorem am_25 (B : Bx p s m args meth c cc nL own ini D c4 ad h0) (hrow : okRow own ini cc P i (25, o) ax = true) (hact : act call rcv ph sx rz 25 o i ls st M k = some r) (I : Iv D c4 ad ph h0 s nL nal sll ls st M H locs lsr cells slots) (K : KK p l e R s m args below meth c Q nL P D c4 ad h0 ph nal sll k r) : W p l e R s m args below meth c H locs cells slots Q (F0 m (P.getD i 0) lsr (st.map (rv ad))) := by
  obtain ⟨hx, hb, hml, hown, hts, hini, hK⟩ := B
  obtain ⟨ins, n, hd, ho⟩ := okRow_dec hrow
  rw [act_25] at hact
  split at hact
  rotate_left
  · cases hact
  rename_i y x st
  simp only [okI, Bool.and_eq_true, decide_eq_true_eq] at ho
  obtain ⟨⟨hn, rfl⟩, rfl⟩ := ho
  have hn := nx_eq hn
  have h1 := stk_hd I.stk
  have h2 := stk_hd (stk_tl I.stk)
  have G := K _ _ _ _ H locs lsr cells slots hact (I.stN (stk_cons h1 (lt3 rfl) (stk_cons h2 (lt3 rfl) (stk_cons h1 (lt3 rfl) (stk_tl (stk_tl I.stk))))))
  rw [hn] at G
  exact lv_dup_x1 hx hb hd rfl rfl G
theorem am_26 (B : Bx p s m args meth c cc nL own ini D c4 ad h0) (hrow : okRow own ini cc P i (26, o) ax = true) (hact : act call rcv ph sx rz 26 o i ls st M k = some r) (I : Iv D c4 ad ph h0 s nL nal sll ls st M H locs lsr cells slots) (K : KK p l e R s m args below meth c Q nL P D c4 ad h0 ph nal sll k r) : W p l e R s m args below meth c H locs cells slots Q (F0 m (P.getD i 0) lsr (st.map (rv ad))) := by
  obtain ⟨hx, hb, hml, hown, hts, hini, hK⟩ := B
  obtain ⟨ins, n, hd, ho⟩ := okRow_dec hrow
  rw [act_26] at hact
  split at hact
  rotate_left
  · cases hact
  rename_i y x st
  simp only [okI, Bool.and_eq_true, decide_eq_true_eq] at ho
  obtain ⟨⟨hn, rfl⟩, rfl⟩ := ho
  have hn := nx_eq hn
  have h1 := stk_hd I.stk
  have h2 := stk_hd (stk_tl I.stk)
  have G := K _ _ _ _ H locs lsr cells slots hact (I.stN (stk_cons h1 (lt3 rfl) (stk_cons h2 (lt3 rfl) I.stk)))
  rw [hn] at G
  exact lv_dup2_11 hx hb hd rfl rfl G
end SND
