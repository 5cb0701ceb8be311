/-! calls, and the contract of every method, by the depth of the calls -/
def rmD (d mc ms : Nat) : Room := { frames := d + 1, cells := mc, slots := ms, locals := 40 * d + 100 }
def wsY (q : MD) : List Cond := .code q.1 q.2.1 q.2.2.1 q.2.2.2.1 :: gT
def wAll (D : va_G) (c4 : C4) (ad : Nat → Nat) (ph : Bool) (h0 : Nat) (M : Mem) (H : Heap) : Prop := wH D c4 ad ph M H ∧ (ph = true → H.size = h0 + naOf ph M)
def am_Pc (D : va_G) (c4 : C4) (ad : Nat → Nat) (ph : Bool) (h0 : Nat) (as : List AV) (M : Mem) : Array Value → State → Prop := fun v U => v = (as.map (rv ad)).toArray ∧ wAll D c4 ad ph h0 M U.heap ∧ Kx D c4 ad h0 U U.heap
def am_Qc (D : va_G) (c4 : C4) (ad : Nat → Nat) (ph : Bool) (h0 : Nat) (v : Option AV) (M : Mem) : Array Value → State → Outcome → State → Prop := fun _ st oc t => oc = .returned (v.map (rv ad)) ∧ wAll D c4 ad ph h0 M t.heap ∧ va_F (fun q : Nat => h0 ≤ q) st t ∧ cM M ∧ naOf ph M ≤ 89 ∧ (∀ w, v = some w → cv w ∧ w.1 < 3)
theorem aOver_vm {ty : FieldType} {u U : State} (h : u.vm = U.vm) (hb : (Cond.arrayOver ty).before #[] u = true) : (Cond.arrayOver ty).before #[] U = true := by
  have e : (Cond.arrayOver ty).before #[] u = (Cond.arrayOver ty).before #[] U := by
    simp only [Cond.before, Cond.holds, Cond.value, h]
  rw [← e]; exact hb
theorem Kx.moved {D : va_G} {c4 : C4} {ad : Nat → Nat} {h0 : Nat} {u U : State} {H0 H1 : Heap} (h : Kx D c4 ad h0 u H0) (hW : u.WarmedH U.vm) (hq : ∀ a : Nat, a < H0.size → ¬ h0 ≤ a → H1[a]? = H0[a]?) : Kx D c4 ad h0 U H1 := by
  obtain ⟨k1, k2, k3, k4, k5⟩ := h
  refine ⟨va_K.moved hW.alike k1, fun w hw hn => ?_, ⟨?_, ?_⟩, k4, fun j hj => ?_⟩
  · have := k2 w hw hn
    cases w <;> first | (cases hn; done) | exact va_Nw.warmM hW this
  · exact aOver_vm (u := u.setVm U.vm) rfl (by rw [Cond.arrayOver_setVmC hW.alike]; exact k3.1)
  · exact aOver_vm (u := u.setVm U.vm) rfl (by rw [Cond.arrayOver_setVmC hW.alike]; exact k3.2)
  · exact ⟨((k5 j hj).1.moved hW.alike).kept hq, ((k5 j hj).2.moved hW.alike).kept hq⟩
theorem Kx.call {D : va_G} {c4 : C4} {ad : Nat → Nat} {h0 : Nat} {u U : State} {H : Heap} (h : Kx D c4 ad h0 u H) (hv : u.vm = U.vm) : Kx D c4 ad h0 U H := by
  obtain ⟨k1, k2, k3, k4, k5⟩ := h
  have hal : u.vm.Alike U.vm := by rw [hv]; exact Vm.Alike.refl U.vm
  refine ⟨va_K.moved hal k1, fun w hw hn => ?_, ⟨aOver_vm hv k3.1, aOver_vm hv k3.2⟩, k4, fun j hj => ⟨(k5 j hj).1.moved hal, (k5 j hj).2.moved hal⟩⟩
  have := k2 w hw hn
  cases w <;> first | (cases hn; done) | exact va_Nw.same rfl hv this
theorem am_Pc_blind {D : va_G} {c4 : C4} {ad : Nat → Nat} {ph : Bool} {h0 : Nat} {as : List AV} {M : Mem} : FrameBlind (am_Pc D c4 ad ph h0 as M) := fun a U g mk h => ⟨h.1, h.2.1, Kx.call h.2.2 rfl⟩
def CallOK (l : Launch) (D : va_G) (c4 : C4) (ad : Nat → Nat) (ph : Bool) (h0 : Nat) (d : Nat) (call : Nat → List AV → Mem → Option Res) : Prop :=
  ∀ y as M v M1, call y as M = some (v, M1) → (∀ a ∈ as, cv a ∧ a.1 < 3) → cM M → naOf ph M ≤ 89 → ∃ q, md y = some q ∧ naOf ph M ≤ naOf ph M1 ∧ slOf ph M ≤ slOf ph M1 ∧ q.2.2.1 ≤ 11 ∧
    (q.1.cls ≠ "java/lang/invoke/MethodHandle" ∧ q.1.cls ≠ "java/lang/invoke/VarHandle" ∧ (parseMethodDescriptor q.1.desc).map (fun d => d.parameters.length) = some q.2.2.2.2.1) ∧ Cond.code q.1 q.2.1 q.2.2.1 q.2.2.2.1 ∈ gT ∧ (rcv y = 99 ∨ (rcv y < 8 ∧ cN (rcv y) = q.1.cls)) ∧
    Met l q.1 (wsY q) (rmD d (naOf ph M1 - naOf ph M) (slOf ph M1 - slOf ph M)) (am_Pc D c4 ad ph h0 as M) (am_Qc D c4 ad ph h0 v M1) (naOf ph M1 - naOf ph M) (slOf ph M1 - slOf ph M) (fun q : Nat => h0 ≤ q)
section CAL
variable {p : Program} {l : Launch} {e : Env} {R : Room} {s : State} {m : MethodId} {args : Array Value} {below : List Frame} {meth : Method} {c : Code} {Q : State → Prop}
variable {cc : ByteArray} {nL : Nat} {own : String} {ini : Bool} {P : List Nat} {D : va_G} {c4 : C4} {ad : Nat → Nat} {h0 : Nat} {ph : Bool} {sx : Int × (Int → Int)} {rz nal sll d : Nat}
variable {call : Nat → List AV → Mem → Option Res} {k : Nat → List AV → List AV → Mem → Option Res} {r : Res}
variable {o : List Int} {i : Nat} {ls st : List AV} {M M1 : Mem} {H : Heap} {locs : List Loc} {lsr : Array Slot} {cells slots : Nat} {ax : List Nat}
theorem am_callr {pc mc ms : Nat} {st0 rest : List Value} {v : Option AV} {a : Array Value} (hr : va_Run p l e R s m args below meth c H locs cells slots mc ms (F0 m pc lsr st0) rest (am_Qc D c4 ad ph h0 v M1 a) (fun q : Nat => h0 ≤ q)) (hS : va_S (fun q : Nat => h0 ≤ q) s.heap H locs)
    (kk : ∀ (H1 : Heap) (locs1 : List Loc), wAll D c4 ad ph h0 M1 H1 → (cM M1 ∧ naOf ph M1 ≤ 89 ∧ (∀ w, v = some w → cv w ∧ w.1 < 3)) → va_S (fun q : Nat => h0 ≤ q) s.heap H1 locs1 → W p l e R s m args below meth c H1 locs1 (cells + mc) (slots + ms) Q (F0 m (pc + 3) lsr ((v.map (rv ad)).toList ++ rest))) : W p l e R s m args below meth c H locs cells slots Q (F0 m pc lsr st0) := by
  intro T hT X
  obtain ⟨v', st₀, t, T', L, h0', X', hL, e1, e2, ⟨hv, hw, ⟨hz, hk⟩, hpf⟩, hst⟩ := hr T hT X
  have hv' : v' = v.map (rv ad) := by injection hv
  subst hv'
  rw [h0'] at hz hk
  obtain ⟨t2, a1, b1⟩ := kk T'.heap (locs ++ L) (by rw [e1]; exact hw) hpf ⟨Nat.le_trans hS.1 (by rw [e1]; exact hz), fun q h1 h2 => by rw [e1, hk q (Nat.lt_of_lt_of_le h1 hS.1) h2]; exact hS.2.1 q h1 h2, fun q hq => by
      rcases List.mem_append.mp hq with h | h
      · exact hS.2.2 q h
      · exact hL q h⟩ T' rfl X'
  exact ⟨t2, hst t2 a1, b1⟩
theorem st_wsum {ad : Nat → Nat} : ∀ (st : List AV), ((st.map (rv ad)).map fun v => v.category).sum ≤ wsum st
  | [] => Nat.le_refl _
  | v :: st => by
    have ih := st_wsum (ad := ad) st
    obtain ⟨t, x⟩ := v
    simp only [List.map_cons, List.sum_cons]
    match t with
    | 0 => show 1 + _ ≤ 1 + wsum st; omega
    | 1 => show 2 + _ ≤ 2 + wsum st; omega
    | 2 => show 1 + _ ≤ 1 + wsum st; omega
    | t + 3 => show 1 + _ ≤ 1 + wsum st; omega
theorem gT_pl {a : Nat} {w : Cond} (h : am_pl a = some w) (hg : goodWord w = true) : w ∈ gT := gT_mem.mpr ⟨am_pl_mem h, hg⟩
theorem am_39 (B : Bx p s m args meth c cc nL own ini D c4 ad h0) (hC : CallOK l D c4 ad ph h0 d call) (hRf : d + 2 ≤ R.frames ∧ 40 * (d + 1) + 100 ≤ R.locals) (hcap : ∀ i' ls' st' M', k i' ls' st' M' = some r → naOf ph M' ≤ R.cells + nal ∧ slOf ph M' ≤ R.slots + sll)
    (hrow : okRow own ini cc P i (39, o) ax = true) (hact : act call rcv ph sx rz 39 o i ls st M k = some r) (I : Iv D c4 ad ph h0 s nL nal sll ls st M H locs lsr cells slots) (K : KK p l e R s m args below meth c Q nL P D c4 ad h0 ph nal sll k r) : W p l e R s m args below meth c H locs cells slots Q (F0 m (P.getD i 0) lsr (st.map (rv ad))) := by
  obtain ⟨hx, hb, hml, hown, hts, hini, hK⟩ := B
  have hts' : ∀ w ∈ gT, w.before args s = true := fun w hw => hts w (gT_mem.mp hw).1 (gT_mem.mp hw).2
  obtain ⟨ins, n, hd, ho⟩ := okRow_dec hrow
  rw [act_39] at hact
  split at hact
  rotate_left
  · cases hact
  rename_i y nn
  split at hact
  rotate_left
  · cases hact
  rename_i hcond
  obtain ⟨hlen, hdrop, hrecv⟩ := hcond
  simp only [okI, Bool.and_eq_true, decide_eq_true_eq] at ho
  obtain ⟨⟨⟨hn, hy0⟩, hk0⟩, ho⟩ := ho
  have hn := nx_eq hn
  generalize has : (st.take nn.toNat).reverse = as at hact hrecv
  generalize hrest : st.drop nn.toNat = rest at hact hdrop
  have hst : st = as.reverse ++ rest := by rw [← has, ← hrest, List.reverse_reverse, List.take_append_drop]
  have hal : as.length = nn.toNat := by rw [← has, List.length_reverse, List.length_take]; omega
  have hasv : ∀ a ∈ as, cv a ∧ a.1 < 3 := fun a ha => I.stk a (by rw [hst]; exact List.mem_append_left _ (List.mem_reverse.mpr ha))
  have hrv : ∀ a ∈ rest, cv a ∧ a.1 < 3 := fun a ha => I.stk a (by rw [hst]; exact List.mem_append_right _ ha)
  have hsum := Nat.le_trans (st_wsum (ad := ad) rest) hdrop
  have hroom := lv_room (m := m) (pc := P.getD i 0) (ls := lsr) (rest := st.map (rv ad)) (st := rest.map (rv ad)) (by omega)
  have hS := I.2.2.2.2.1
  have key : ∃ v M1, call y.toNat as M = some (v, M1) ∧ k (i + 1) ls (v.toList ++ rest) M1 = some r := by
    split at hact
    · rename_i v M1 hc; exact ⟨some v, M1, hc, hact⟩
    · rename_i M1 hc; exact ⟨none, M1, hc, hact⟩
    · cases hact
  obtain ⟨v, M1, hcall, hgo⟩ := key
  obtain ⟨q, hq, hna1, hsl1, hmx, hcls, hcode, hrc, hMet⟩ := hC _ _ _ _ _ hcall hasv I.2.1 I.2.2.1
  have hY : mdY y.toNat = q.1 := by unfold mdY; rw [hq]
  have hN : mdN y.toNat = q.2.2.2.2.1 := by unfold mdN; rw [hq]
  have hRq : mdR y.toNat = q.2.2.2.1 := by unfold mdR; rw [hq]
  rw [hY, hN, hRq] at ho
  have hcp := hcap _ _ _ _ hgo
  have hc1 := I.2.2.2.2.2.2.2.2.1
  have hc2 := I.2.2.2.2.2.2.2.2.2
  have hcaps : cells + (naOf ph M1 - naOf ph M) ≤ R.cells ∧ slots + (slOf ph M1 - slOf ph M) ≤ R.slots := ⟨by omega, by omega⟩
  have hrooms : (rmD d (naOf ph M1 - naOf ph M) (slOf ph M1 - slOf ph M)).frames + 1 ≤ R.frames ∧ 8 + (q.2.2.1 + 11) + (rmD d (naOf ph M1 - naOf ph M) (slOf ph M1 - slOf ph M)).locals ≤ R.locals := by
    refine ⟨?_, ?_⟩
    · show d + 1 + 1 ≤ _; omega
    · show 8 + (q.2.2.1 + 11) + (40 * d + 100) ≤ _; omega
  have hG : GoodIn gT (wsY q) := fun w hw => by
    rcases List.mem_cons.mp hw with rfl | hw
    · exact ⟨hcode, good_of_word (gT_mem.mp hcode).2⟩
    · exact gT_good w hw
  have hpre : ∀ U : State, U.heap = H → s.WarmedH U.vm → am_Pc D c4 ad ph h0 as M (as.map (rv ad)).toArray U := fun U hU hW => ⟨rfl, by rw [hU]; exact ⟨I.1, I.2.2.2.1⟩, by rw [hU]; exact hK.moved hW (fun a h1 h2 => hS.2.1 a h1 h2)⟩
  have fin : ∀ a : Array Value, va_Run p l e R s m args below meth c H locs cells slots (naOf ph M1 - naOf ph M) (slOf ph M1 - slOf ph M) (F0 m (P.getD i 0) lsr (st.map (rv ad))) (rest.map (rv ad)) (am_Qc D c4 ad ph h0 v M1 a) (fun q : Nat => h0 ≤ q) → W p l e R s m args below meth c H locs cells slots Q (F0 m (P.getD i 0) lsr (st.map (rv ad))) := fun a hrun => by
    refine am_callr hrun hS fun H1 locs1 hw1 hpf hS1 => ?_
    obtain ⟨hcM1, hna2, hvv⟩ := hpf
    have G := K _ _ _ _ H1 locs1 lsr (cells + (naOf ph M1 - naOf ph M)) (slots + (slOf ph M1 - slOf ph M)) hgo ⟨hw1.1, hcM1, hna2, hw1.2, hS1, I.lrel, I.lcv, fun w hw => ?_, by omega, by omega⟩
    · rw [hn] at G
      have e9 : (v.map (rv ad)).toList ++ rest.map (rv ad) = (v.toList ++ rest).map (rv ad) := by cases v <;> rfl
      rw [e9]
      unfold okCall at ho
      simp only [Bool.and_eq_true, decide_eq_true_eq] at ho
      rw [ho.1.1] at G
      exact G
    · rcases List.mem_append.mp hw with h | h
      · cases v with
        | none => cases h
        | some z =>
          have : w = z := by simpa using h
          rw [this]; exact hvv z rfl
      · exact hrv w h
  unfold okCall at ho
  simp only [Bool.and_eq_true, decide_eq_true_eq] at ho
  obtain ⟨⟨rfl, hwi⟩, ho⟩ := ho
  have hinit := hts _ (am_pl_mem hwi) rfl
  have hFix : CallFix p m c cc nL s args gT own := ⟨hx, hb, hml, hown, hts'⟩
  have hlsz : lsr.size = nL := I.lrel.2.1
  have hstack : st.map (rv ad) = (as.map (rv ad)).reverse ++ rest.map (rv ad) := by rw [hst, List.map_append, List.map_reverse]
  have recvd : rcv y.toNat ≠ 99 → ∃ a as', as = (2, a) :: as' ∧ ∃ cellB : Cell, H[ad a.toNat]? = some cellB ∧ cellB.vm.isStatics = false ∧ s.vm.findClass q.1.cls = some cellB.cls := fun h99 => by
    unfold recvOK at hrecv
    rw [if_neg h99] at hrecv
    split at hrecv
    rotate_left
    · cases hrecv
    rename_i a as'
    obtain ⟨⟨ha0, hlt⟩, hsh⟩ := isObj_eq hrecv
    refine ⟨a, as', rfl, ?_⟩
    rcases hrc with h | ⟨h8, hcn⟩
    · exact absurd h h99
    have hat := I.1 a.toNat hlt
    rw [cE_obj hsh] at hat
    have hq2 : am_cl[rcv y.toNat]? = some (am_cl[rcv y.toNat]'h8) := List.getElem?_eq_getElem h8
    obtain ⟨ty, -, -, -, -, -, hcn2, -⟩ := clOK_all hq2
    have hr := va_recv (ci := rcv y.toNat) hK.1 (va_P_one hat) hq2 (q0 := 0) rfl
    rw [← hcn2, hcn] at hr
    exact hr
  split at ho
  all_goals first | (cases ho; done) | skip
  · rename_i ix
    simp only [Bool.and_eq_true, decide_eq_true_eq] at ho
    obtain ⟨⟨⟨⟨hkn, h99⟩, hw5⟩, hw6⟩, hw0⟩ := ho
    obtain ⟨a, as', rfl, hcell⟩ := recvd h99
    have hlen2 : (as'.map (rv ad)).length = q.2.2.2.2.1 := by rw [List.length_map]; simp only [List.length_cons] at hal; omega
    refine fin _ (va_runV (b := ad a.toNat) (As := as'.map (rv ad)) (g := F0 m (P.getD i 0) lsr (st.map (rv ad))) hFix hMet (cwV (C := q.1.cls) q.2.2.2.2.1 hts' (fun w hw => ?_) rfl rfl rfl ⟨rfl, hcls⟩ hrooms) ⟨am_Pc_blind, hcell, hpre⟩ rfl hlen2 hlsz (by show st.map (rv ad) = _; rw [hstack]; simp [rv]) hroom hd hcaps)
    rcases List.mem_append.mp hw with h | h
    · rcases List.mem_cons.mp h with rfl | h
      · exact ⟨gT_pl hw0 rfl, good_of_word rfl⟩
      rcases List.mem_cons.mp h with rfl | h
      · exact ⟨gT_pl hw5 rfl, good_of_word rfl⟩
      rcases List.mem_cons.mp h with rfl | h
      · exact ⟨gT_pl hw6 rfl, good_of_word rfl⟩
      rcases List.mem_cons.mp h with rfl | h
      · exact ⟨gT_pl hwi rfl, good_of_word rfl⟩
      · cases h
    · exact hG w h
  · rename_i ix
    simp only [Bool.and_eq_true, decide_eq_true_eq] at ho
    obtain ⟨⟨⟨hkn, h99⟩, hw5⟩, hw0⟩ := ho
    have hlen2 : (as.map (rv ad)).length = q.2.2.2.2.1 := by rw [List.length_map]; omega
    split at hw0
    · simp only [decide_eq_true_eq] at hw0
      refine fin _ (va_runS (As := as.map (rv ad)) (g := F0 m (P.getD i 0) lsr (st.map (rv ad))) hFix hMet (va_cwS q.2.2.2.2.1 hts' (fun w hw => ?_) rfl rfl rfl hcls hrooms) ⟨am_Pc_blind, hpre⟩ rfl hlen2 hlsz hstack hroom hd hcaps)
      rcases List.mem_append.mp hw with h | h
      · rcases List.mem_cons.mp h with rfl | h
        · exact ⟨gT_pl hw0 rfl, good_of_word rfl⟩
        rcases List.mem_cons.mp h with rfl | h
        · exact ⟨gT_pl hw5 rfl, good_of_word rfl⟩
        rcases List.mem_cons.mp h with rfl | h
        · exact ⟨gT_pl hwi rfl, good_of_word rfl⟩
        · cases h
      · exact hG w h
    · simp only [decide_eq_true_eq] at hw0
      exact fin _ (va_runSN (As := as.map (rv ad)) (g := F0 m (P.getD i 0) lsr (st.map (rv ad))) hFix hMet ⟨va_cnB q.2.2.2.2.1 hts' hG rfl rfl rfl (hK.2.1 _ (am_pl_mem hw0) rfl) hinit hcls hrooms, hts _ (am_pl_mem hw5) rfl, trivial⟩ ⟨am_Pc_blind, hpre⟩ rfl hlen2 hlsz hstack hroom hd hcaps)
  · rename_i ix
    simp only [Bool.and_eq_true, decide_eq_true_eq] at ho
    obtain ⟨⟨⟨⟨⟨hkn, h99⟩, hnm⟩, hrn⟩, hw5⟩, hw0⟩ := ho
    obtain ⟨a, as', rfl, hcell⟩ := recvd h99
    have hlen2 : (as'.map (rv ad)).length = q.2.2.2.2.1 := by rw [List.length_map]; simp only [List.length_cons] at hal; omega
    have hwq : wsY q = Cond.code q.1 q.2.1 q.2.2.1 none :: gT := by unfold wsY; rw [hrn]
    split at hw0
    · simp only [decide_eq_true_eq] at hw0
      exact fin _ (va_runI (b := ad a.toNat) (As := as'.map (rv ad)) (g := F0 m (P.getD i 0) lsr (st.map (rv ad))) hFix hMet (cwI q.2.2.2.2.1 hts' hG hwq rfl rfl hinit (hts _ (am_pl_mem hw0) rfl) (hts _ (am_pl_mem hw5) rfl) hnm hcls hrooms) ⟨am_Pc_blind, hpre⟩ rfl hlen2 hlsz (by show st.map (rv ad) = _; rw [hstack]; simp [rv]) hroom hd hcaps)
    · simp only [decide_eq_true_eq] at hw0
      exact fin _ (va_runIN (b := ad a.toNat) (As := as'.map (rv ad)) (g := F0 m (P.getD i 0) lsr (st.map (rv ad))) hFix hMet ⟨va_cnB q.2.2.2.2.1 hts' hG hwq rfl rfl (hK.2.1 _ (am_pl_mem hw0) rfl) hinit hcls hrooms, hnm, hts _ (am_pl_mem hw5) rfl⟩ ⟨am_Pc_blind, hpre⟩ rfl hlen2 hlsz (by show st.map (rv ad) = _; rw [hstack]; simp [rv]) hroom hd hcaps)
end CAL
