/-! runs; the contract of every method at every depth -/
theorem shp_lt {a k n : Nat} (h : shp a = (k, n)) (hk : k ≠ 9) : a < 93 := by
  rcases Nat.lt_or_ge a 93 with q | q
  · exact q
  · exfalso
    have : shp a = (9, 0) := by
      unfold shp
      rw [List.getD_eq_getElem?_getD, List.getElem?_eq_none (by show 93 ≤ _; exact q)]; rfl
    rw [this] at h
    cases h
    exact hk rfl
theorem naOf_upT {M : Mem} {a : Nat} {i v : Int} (h : a < 93) : naOf true (up M a i v) = naOf true M ∧ slOf true (up M a i v) = slOf true M := by
  unfold naOf slOf
  rw [up_ne (by omega), up_ne (by omega)]
  exact ⟨rfl, rfl⟩
theorem isObj_lt {ph : Bool} {M : Mem} {ci : Nat} {a : Int} (h : isObj ph M ci a = true) : a.toNat < 93 := shp_lt (isObj_eq h).2 (by decide)
theorem inArr_lt {ph : Bool} {M : Mem} {kd : Nat} {a i : Int} (h : inArr ph M kd a i = true) (hk : kd ≠ 9) : a.toNat < 93 := by
  obtain ⟨-, n, h1, -, -⟩ := inArr_eq h
  exact shp_lt h1 hk
/-- what is made is never fewer -/
theorem act_na {call : Nat → List AV → Mem → Option Res} {sx : Int × (Int → Int)} {rz op : Nat} {o : List Int} {pc : Nat} {ls st : List AV} {M : Mem} {k : Nat → List AV → List AV → Mem → Option Res} {r : Res}
    (hcall : ∀ y as M v M1, call y as M = some (v, M1) → naOf true M ≤ naOf true M1 ∧ slOf true M ≤ slOf true M1) (h : act call rcv true sx rz op o pc ls st M k = some r) :
    (∃ pc' ls' st' M', (naOf true M ≤ naOf true M' ∧ slOf true M ≤ slOf true M') ∧ k pc' ls' st' M' = some r) ∨ r.2 = M := by
  have key : ∀ {pc' ls' st' M'}, (naOf true M ≤ naOf true M' ∧ slOf true M ≤ slOf true M') → k pc' ls' st' M' = some r → (∃ pc' ls' st' M', (naOf true M ≤ naOf true M' ∧ slOf true M ≤ slOf true M') ∧ k pc' ls' st' M' = some r) ∨ r.2 = M := fun h1 h2 => Or.inl ⟨_, _, _, _, h1, h2⟩
  have same : naOf true M ≤ naOf true M ∧ slOf true M ≤ slOf true M := ⟨Nat.le_refl _, Nat.le_refl _⟩
  unfold act at h
  split at h
  · repeat' split at h
    all_goals first | (cases h; done) | exact key same h
  · repeat' split at h
    all_goals first | (cases h; done) | exact key same h
  · repeat' split at h
    all_goals first | (cases h; done) | exact key same h
  · repeat' split at h
    all_goals first | (cases h; done) | exact key same h
  · repeat' split at h
    all_goals first | (cases h; done) | exact key same h
  · repeat' split at h
    all_goals first | (cases h; done) | exact key same h
  · repeat' split at h
    all_goals first | (cases h; done) | exact key same h
  · repeat' split at h
    all_goals first | (cases h; done) | exact key same h
  · repeat' split at h
    all_goals first | (cases h; done) | exact key same h
  · repeat' split at h
    all_goals first | (cases h; done) | exact key same h
  · repeat' split at h
    all_goals first | (cases h; done) | exact key same h
  · repeat' split at h
    all_goals first | (cases h; done) | exact key same h
  · repeat' split at h
    all_goals first | (cases h; done) | exact key same h
  · repeat' split at h
    all_goals first | (cases h; done) | exact key same h
  · repeat' split at h
    all_goals first | (cases h; done) | exact key same h
  · repeat' split at h
    all_goals first | (cases h; done) | exact key same h
  · repeat' split at h
    all_goals first | (cases h; done) | exact key same h
  · repeat' split at h
    all_goals first | (cases h; done) | exact key same h
  · repeat' split at h
    all_goals first | (cases h; done) | exact key same h
  · repeat' split at h
    all_goals first | (cases h; done) | exact key same h
  · repeat' split at h
    all_goals first | (cases h; done) | exact key same h
  · repeat' split at h
    all_goals first | (cases h; done) | exact key same h
  · repeat' split at h
    all_goals first | (cases h; done) | exact key same h
  · repeat' split at h
    all_goals first | (cases h; done) | exact key same h
  · repeat' split at h
    all_goals first | (cases h; done) | exact key same h
  · repeat' split at h
    all_goals first | (cases h; done) | exact key same h
  · repeat' split at h
    all_goals first | (cases h; done) | exact key same h
  · repeat' split at h
    all_goals first | (cases h; done) | exact key same h
  · split at h
    · split at h
      · rename_i hc
        refine key ⟨Nat.le_of_eq ?_, Nat.le_of_eq ?_⟩ h
        · exact (naOf_upT (isObj_lt hc.1)).1.symm
        · exact (naOf_upT (isObj_lt hc.1)).2.symm
      · cases h
    · split at h
      · rename_i hc
        refine key ⟨Nat.le_of_eq ?_, Nat.le_of_eq ?_⟩ h
        · exact (naOf_upT (isObj_lt hc.1)).1.symm
        · exact (naOf_upT (isObj_lt hc.1)).2.symm
      · cases h
    · cases h
  · repeat' split at h
    all_goals first | (cases h; done) | exact key same h
  · repeat' split at h
    all_goals first | (cases h; done) | exact key same h
  · repeat' split at h
    all_goals first | (cases h; done) | exact key same h
  · split at h
    · split at h
      · rename_i hc
        refine key ⟨Nat.le_of_eq ?_, Nat.le_of_eq ?_⟩ h
        · exact (naOf_upT (inArr_lt hc (by decide))).1.symm
        · exact (naOf_upT (inArr_lt hc (by decide))).2.symm
      · cases h
    · cases h
  · split at h
    · split at h
      · rename_i hc
        refine key ⟨Nat.le_of_eq ?_, Nat.le_of_eq ?_⟩ h
        · exact (naOf_upT (inArr_lt hc (by decide))).1.symm
        · exact (naOf_upT (inArr_lt hc (by decide))).2.symm
      · cases h
    · cases h
  · repeat' split at h
    all_goals first | (cases h; done) | exact key same h
  · repeat' split at h
    all_goals first | (cases h; done) | exact key same h
  · split at h
    · split at h
      · rename_i hc
        obtain ⟨-, h90, h91, -⟩ := hc
        refine key ⟨?_, ?_⟩ h
        · unfold naOf newM
          rw [if_pos rfl, if_pos rfl, up_ne2 (by decide), up_eq]; omega
        · unfold slOf
          rw [if_pos rfl, if_pos rfl]
          unfold newM
          rw [up_eq]; omega
      · cases h
    · cases h
  · split at h
    · split at h
      · rename_i hc
        obtain ⟨-, h90, h91, -⟩ := hc
        refine key ⟨?_, ?_⟩ h
        · unfold naOf newA
          rw [if_pos rfl, if_pos rfl, up_ne2 (by decide), up_eq]; omega
        · unfold slOf
          rw [if_pos rfl, if_pos rfl]
          unfold newA
          rw [up_eq]; omega
      · cases h
    · cases h
  · split at h
    · split at h
      · rename_i hc
        obtain ⟨-, h90, h91, -⟩ := hc
        refine key ⟨?_, ?_⟩ h
        · unfold naOf newMul
          rw [if_pos rfl, if_pos rfl, up_ne2 (by decide), up_eq]; omega
        · unfold slOf
          rw [if_pos rfl, if_pos rfl]
          unfold newMul
          rw [up_eq]
          have : ∀ (x : Int) (a b : Nat), 0 ≤ x → x.toNat ≤ (x + (a : Int) + (a : Int) * (b : Int)).toNat := fun x a b hx => by
            have : (0 : Int) ≤ (a : Int) * (b : Int) := Int.mul_nonneg (Int.natCast_nonneg _) (Int.natCast_nonneg _)
            omega
          exact this _ _ _ h91
      · cases h
    · cases h
  · split at h
    · split at h
      · split at h
        · rename_i hc
          exact key (hcall _ _ _ _ _ hc) h
        · rename_i hc
          exact key (hcall _ _ _ _ _ hc) h
        · cases h
      · cases h
    · cases h
  · repeat' split at h
    all_goals first | (cases h; done) | exact key same h
  · split at h
    · split at h
      · rename_i hc
        cases hc.1
      · cases h
    · cases h
  · split at h
    · cases h; exact Or.inr rfl
    · cases h
  · split at h
    · split at h
      · cases h; exact Or.inr rfl
      · cases h
    · cases h
  · split at h
    · split at h
      · cases h; exact Or.inr rfl
      · cases h
    · cases h
  · repeat' split at h
    all_goals first | (cases h; done) | exact key same h
  · repeat' split at h
    all_goals first | (cases h; done) | exact key same h
  · repeat' split at h
    all_goals first | (cases h; done) | exact key same h
  · cases h
theorem run_na {call : Nat → List AV → Mem → Option Res} {sx : Int × (Int → Int)} {code : List Row} {rz stop : Nat} {ks : List AV → List AV → Mem → Option Res} {r : Res} (hcall : ∀ y as M v M1, call y as M = some (v, M1) → naOf true M ≤ naOf true M1 ∧ slOf true M ≤ slOf true M1) (hks : ∀ ls st M, ks ls st M = some r → naOf true M ≤ naOf true r.2 ∧ slOf true M ≤ slOf true r.2) :
    ∀ (n pc : Nat) (ls st : List AV) (M : Mem), run call rcv true sx code rz stop ks n pc ls st M = some r → naOf true M ≤ naOf true r.2 ∧ slOf true M ≤ slOf true r.2
  | 0, pc, ls, st, M, h => by cases h
  | n + 1, pc, ls, st, M, h => by
    unfold run at h
    split at h
    · exact hks _ _ _ h
    · split at h
      · cases h
      · rcases act_na hcall h with ⟨pc', ls', st', M', h1, h2⟩ | h1
        · have := run_na hcall hks n pc' ls' st' M' h2
          omega
        · rw [h1]; exact ⟨Nat.le_refl _, Nat.le_refl _⟩
theorem callD_na : ∀ (d n y : Nat) (as : List AV) (M : Mem) (v : Option AV) (M1 : Mem), callD true d n y as M = some (v, M1) → naOf true M ≤ naOf true M1 ∧ slOf true M ≤ slOf true M1
  | 0, n, y, as, M, v, M1, h => by cases h
  | d + 1, n, y, as, M, v, M1, h => by
    unfold callD at h
    split at h
    · cases h
    · split at h
      · exact run_na (r := (v, M1)) (callD_na d n) (fun _ _ _ h => by cases h) n _ _ _ _ h
      · cases h
theorem callD_naP (ph : Bool) (d n y : Nat) (as : List AV) (M : Mem) (v : Option AV) (M1 : Mem) (h : callD ph d n y as M = some (v, M1)) : naOf ph M ≤ naOf ph M1 ∧ slOf ph M ≤ slOf ph M1 := by
  cases ph with
  | true => exact callD_na d n y as M v M1 h
  | false => exact ⟨Nat.le_refl _, Nat.le_refl _⟩
theorem run_naP {ph : Bool} {d n0 : Nat} {sx : Int × (Int → Int)} {code : List Row} {rz stop : Nat} {r : Res} (n pc : Nat) (ls st : List AV) (M : Mem) (h : run (callD ph d n0) rcv ph sx code rz stop (fun _ _ _ => none) n pc ls st M = some r) : naOf ph M ≤ naOf ph r.2 ∧ slOf ph M ≤ slOf ph r.2 := by
  cases ph with
  | true => exact run_na (callD_na d n0) (fun _ _ _ h => by cases h) n pc ls st M h
  | false => exact ⟨Nat.le_refl _, Nat.le_refl _⟩
section RUN
variable {p : Program} {l : Launch} {e : Env} {R : Room} {s : State} {m : MethodId} {args : Array Value} {below : List Frame} {meth : Method} {c : Code} {Q : State → Prop}
variable {cc : ByteArray} {nL : Nat} {own : String} {ini : Bool} {P : List Nat} {D : va_G} {c4 : C4} {ad : Nat → Nat} {h0 : Nat} {ph : Bool} {sx : Int × (Int → Int)} {rz nal sll d stop : Nat} {code : List Row}
variable {call : Nat → List AV → Mem → Option Res} {ks : List AV → List AV → Mem → Option Res} {r : Res}
def HX (ad : Nat → Nat) (h0 : Nat) (s : State) (sx : Int × (Int → Int)) : Prop := 0 ≤ sx.1 → ∃ (b L : Nat) (xs : Nat → Int32), ad 93 = b ∧ va_X b L xs s s.heap ∧ b < s.heap.size ∧ ¬ h0 ≤ b ∧ sx.1 = L ∧ (∀ j : Int, 0 ≤ j → j < sx.1 → sx.2 j = (xs j.toNat).toInt) ∧ L < 2147483648
theorem am_run (B : Bx p s m args meth c cc nL own ini D c4 ad h0) (hC : CallOK l D c4 ad ph h0 d call) (hRf : d + 2 ≤ R.frames ∧ 40 * (d + 1) + 100 ≤ R.locals) (hX : HX ad h0 s sx) (hrows : ∀ i r, code[i]? = some r → ∃ ax, okRow own ini cc P i r ax = true)
    (hcap : ∀ n i ls st M, run call rcv ph sx code rz stop ks n i ls st M = some r → naOf ph M ≤ R.cells + nal ∧ slOf ph M ≤ R.slots + sll)
    (hret : ∀ (i op : Nat) (o : List Int) (ls st : List AV) (M : Mem) (H : Heap) (locs : List Loc) (lsr : Array Slot) (cells slots : Nat) (ax : List Nat), okRow own ini cc P i (op, o) ax = true → op = 42 ∨ op = 43 ∨ op = 44 → act call rcv ph sx rz op o i ls st M (fun _ _ _ _ => none) = some r → Iv D c4 ad ph h0 s nL nal sll ls st M H locs lsr cells slots → W p l e R s m args below meth c H locs cells slots Q (F0 m (P.getD i 0) lsr (st.map (rv ad))))
    (hstop : ∀ (ls st : List AV) (M : Mem) (H : Heap) (locs : List Loc) (lsr : Array Slot) (cells slots : Nat), ks ls st M = some r → Iv D c4 ad ph h0 s nL nal sll ls st M H locs lsr cells slots → W p l e R s m args below meth c H locs cells slots Q (F0 m (P.getD stop 0) lsr (st.map (rv ad)))) :
    ∀ (n i : Nat) (ls st : List AV) (M : Mem) (H : Heap) (locs : List Loc) (lsr : Array Slot) (cells slots : Nat), run call rcv ph sx code rz stop ks n i ls st M = some r → Iv D c4 ad ph h0 s nL nal sll ls st M H locs lsr cells slots → W p l e R s m args below meth c H locs cells slots Q (F0 m (P.getD i 0) lsr (st.map (rv ad)))
  | 0, i, ls, st, M, H, locs, lsr, cells, slots, h, I => by cases h
  | n + 1, i, ls, st, M, H, locs, lsr, cells, slots, h, I => by
    have ih := am_run B hC hRf hX hrows hcap hret hstop n
    unfold run at h
    split at h
    · rename_i hs
      rw [hs]
      exact hstop _ _ _ _ _ _ _ _ h I
    split at h
    · cases h
    rename_i row hrow
    obtain ⟨ax, hax⟩ := hrows _ _ hrow
    have h48 := okRow_lt hax
    obtain ⟨op, o⟩ := row
    dsimp only at h h48
    have K : KK p l e R s m args below meth c Q nL P D c4 ad h0 ph nal sll (run call rcv ph sx code rz stop ks n) r := fun i' ls' st' M' H' locs' lsr' cells' slots' h' I' => ih i' ls' st' M' H' locs' lsr' cells' slots' h' I'
    have hcap' : ∀ i' ls' st' M', run call rcv ph sx code rz stop ks n i' ls' st' M' = some r → naOf ph M' ≤ R.cells + nal ∧ slOf ph M' ≤ R.slots + sll := hcap n
    have hR1 : 1 ≤ R.frames ∧ 100 ≤ R.locals := ⟨by omega, by omega⟩
    rcases (show op = 0 ∨ op = 1 ∨ op = 2 ∨ op = 3 ∨ op = 4 ∨ op = 5 ∨ op = 6 ∨ op = 7 ∨ op = 8 ∨ op = 9 ∨ op = 10 ∨ op = 11 ∨ op = 12 ∨ op = 13 ∨ op = 14 ∨ op = 15 ∨ op = 16 ∨ op = 17 ∨ op = 18 ∨ op = 19 ∨ op = 20 ∨ op = 21 ∨ op = 22 ∨ op = 23 ∨ op = 24 ∨ op = 25 ∨ op = 26 ∨ op = 27 ∨ op = 28 ∨ op = 29 ∨ op = 30 ∨ op = 31 ∨ op = 32 ∨ op = 33 ∨ op = 34 ∨ op = 35 ∨ op = 36 ∨ op = 37 ∨ op = 38 ∨ op = 39 ∨ op = 40 ∨ op = 41 ∨ op = 42 ∨ op = 43 ∨ op = 44 ∨ op = 45 ∨ op = 46 ∨ op = 47 by omega) with rfl | rfl | rfl | rfl | rfl | rfl | rfl | rfl | rfl | rfl | rfl | rfl | rfl | rfl | rfl | rfl | rfl | rfl | rfl | rfl | rfl | rfl | rfl | rfl | rfl | rfl | rfl | rfl | rfl | rfl | rfl | rfl | rfl | rfl | rfl | rfl | rfl | rfl | rfl | rfl | rfl | rfl | rfl | rfl | rfl | rfl | rfl | rfl
    · exact am_0 B hax h I K
    · exact am_1 B hax h I K
    · exact am_2 B hax h I K
    · exact am_3 B hax h I K
    · exact am_4 B hax h I K
    · exact am_5 B hax h I K
    · exact am_6 B hax h I K
    · exact am_7 B hax h I K
    · exact am_8 B hax h I K
    · exact am_9 B hax h I K
    · exact am_10 B hax h I K
    · exact am_11 B hax h I K
    · exact am_12 B hax h I K
    · exact am_13 B hax h I K
    · exact am_14 B hax h I K
    · exact am_15 B hax h I K
    · exact am_16 B hax h I K
    · exact am_17 B hax h I K
    · exact am_18 B hax h I K
    · exact am_19 B hax h I K
    · exact am_20 B hax h I K
    · exact am_21 B hax h I K
    · exact am_22 B hax h I K
    · exact am_23 B hax h I K
    · exact am_24 B hax h I K
    · exact am_25 B hax h I K
    · exact am_26 B hax h I K
    · exact am_27 B hax h I K
    · exact am_28 B hax h I K
    · exact am_29 B hX hax h I K
    · exact am_30 B hax h I K
    · exact am_31 B hax h I K
    · exact am_32 B hax h I K
    · exact am_33 B hax h I K
    · exact am_34 B hX hax h I K
    · exact am_35 B hax h I K
    · exact am_36 B hcap' hax h I K
    · exact am_37 B hcap' hax h I K
    · exact am_38 B hcap' hax h I K
    · exact am_39 B hC hRf hcap' hax h I K
    · exact am_40 B hR1 hax h I K
    · exact am_41 B hR1 hax h I K
    · rw [act_42] at h
      exact hret i 42 o ls st M H locs lsr cells slots ax hax (by decide) (by rw [act_42]; exact h) I
    · rw [act_43] at h
      exact hret i 43 o ls st M H locs lsr cells slots ax hax (by decide) (by rw [act_43]; exact h) I
    · rw [act_44] at h
      exact hret i 44 o ls st M H locs lsr cells slots ax hax (by decide) (by rw [act_44]; exact h) I
    · exact am_45 B hcap' hR1 hax h I K
    · exact am_46 B hcap' hR1 hax h I K
    · exact am_47 B hcap' hR1 hax h I K
end RUN
theorem entryL_cv {n : Nat} {as : List AV} (h : ∀ a ∈ as, cv a ∧ a.1 < 3) : ∀ v ∈ entryL n as, cv v := fun v hv => by
  rcases List.mem_append.mp hv with h1 | h1
  · rcases lay_mem h1 with h2 | rfl
    · exact (h v h2).1
    · trivial
  · rw [(List.mem_replicate.mp h1).2]; trivial
theorem callD_ok {l : Launch} {D : va_G} {c4 : C4} {ad : Nat → Nat} {ph : Bool} {h0 : Nat} (hok : ∀ y, y < 276 → y ≠ 274 → okM y = true) : ∀ (d n : Nat), CallOK l D c4 ad ph h0 d (callD ph d n)
  | 0, n => fun y as M v M1 h => by cases h
  | d + 1, n => fun y as M v M1 h hasv hcM hna => by
    have hmono := callD_naP ph _ _ _ _ _ _ _ h
    have ih := callD_ok (l := l) (D := D) (c4 := c4) (ad := ad) (ph := ph) (h0 := h0) hok d n
    unfold callD at h
    split at h
    · cases h
    rename_i w hw
    split at h
    rotate_left
    · cases h
    rename_i hlay
    have hy : y < 276 := by
      unfold inf at hw
      split at hw
      · assumption
      · cases hw
    have hyl : y ≠ 274 := fun hz => by
      subst hz
      have : w = ([], 4, 3, 99) := by
        have := hw.symm.trans (show inf 274 = some ([], 4, 3, 99) by decide +kernel)
        exact Option.some.inj this
      rw [this] at h
      cases n with
      | zero => cases h
      | succ n => simp [run] at h
    have hk := hok y hy hyl
    unfold okM at hk
    rw [hw] at hk
    split at hk
    rotate_left
    · cases hk
    rename_i q w' hq hw'
    cases hw'
    simp only [Bool.and_eq_true, decide_eq_true_eq] at hk
    obtain ⟨⟨⟨⟨⟨⟨⟨⟨⟨⟨⟨⟨hk1, hk2⟩, hk3⟩, hk4⟩, hk5⟩, hk6⟩, hk7⟩, hk8⟩, hk9⟩, hk10⟩, hk11⟩, hk12⟩, hk13⟩ := hk
    have hcode : Cond.code q.1 q.2.1 q.2.2.1 q.2.2.2.1 ∈ gT := gT_pl hk5 rfl
    refine ⟨q, hq, hmono.1, hmono.2, by omega, ⟨hk2, hk3, hk4⟩, hcode, ?_, ?_⟩
    · have hr : rcv y = w.2.2.2 := by unfold rcv; rw [hw]
      rw [hr]
      split at hk11
      · left; assumption
      · simp only [Bool.and_eq_true, decide_eq_true_eq] at hk11
        exact Or.inr hk11
    refine Met.ofW (cc := q.2.1) (maxL := q.2.2.1) (ret := q.2.2.2.1) hk1 rfl ?_
    intro p e s m args below meth c s₁ B hml hv
    obtain ⟨rfl, hwA, hKx⟩ := hv
    have hts0 := atoms_spec (ws := wsY q) B.pre
    have hown : s.vm.findClass q.1.cls = some m.cls := findClass_of_methodNamed B.named
    have hlocks := B.notSynchronized
    have hnm : meth.name = q.1.name := (name_of_methodNamed B.named B.method).1
    have hBx : Bx p s m (as.map (rv ad)).toArray meth c q.2.1 q.2.2.1 q.1.cls (decide (q.1.name = "<init>")) D c4 ad h0 := ⟨B.exec, B.bytes, hml, hown, fun w hw hg => hts0 w (List.mem_cons_of_mem _ (gT_mem.mpr ⟨hw, hg⟩)), fun hz => by rw [hnm]; exact of_decide_eq_true hz, hKx⟩
    rw [lg_entry_eq]
    rw [hk6] at hlay
    have hls := lsrel_entry (ad := ad) (as := as) (n := q.2.2.1) hlay
    generalize (lg_sl (as.map (rv ad)) ++ List.replicate (q.2.2.1 - (lg_sl (as.map (rv ad))).length) Slot.unset).toArray = lsr at hls ⊢
    rw [hk6] at h
    have I : Iv D c4 ad ph h0 s q.2.2.1 (naOf ph M) (slOf ph M) (entryL q.2.2.1 as) [] M s.heap [] lsr 0 0 := ⟨hwA.1, hcM, hna, hwA.2, va_S.rf, hls, entryL_cv hasv, fun v hv => (by cases hv), Nat.zero_add _, Nat.zero_add _⟩
    have hR : (headSpec (wsY q) (rmD (d + 1) (naOf ph M1 - naOf ph M) (slOf ph M1 - slOf ph M))).room = rmD (d + 1) (naOf ph M1 - naOf ph M) (slOf ph M1 - slOf ph M) := rfl
    have hrun := am_run (Q := MQ below (am_Qc D c4 ad ph h0 v M1) (as.map (rv ad)).toArray s (naOf ph M1 - naOf ph M) (slOf ph M1 - slOf ph M) (fun q : Nat => h0 ≤ q)) (R := (headSpec (wsY q) (rmD (d + 1) (naOf ph M1 - naOf ph M) (slOf ph M1 - slOf ph M))).room) (e := e) (below := below) (P := q.2.2.2.2.2.1) (code := w.1) (sx := sx0) (rz := w.2.2.1) (stop := 100000) (ks := fun _ _ _ => none) (r := (v, M1)) (nal := naOf ph M) (sll := slOf ph M) (nL := q.2.2.1)
      hBx ih (by rw [hR]; exact ⟨by show d + 2 ≤ d + 1 + 1; omega, by show _ ≤ 40 * (d + 1) + 100; omega⟩) (fun h => absurd h (by decide)) (fun i r hi => by have := okRows_get _ _ _ hk13 i r hi; simpa using this)
      (fun n' i ls st M' h' => by
        have := run_naP n' i ls st M' h'
        rw [hR]
        show naOf ph M' ≤ (naOf ph M1 - naOf ph M) + naOf ph M ∧ slOf ph M' ≤ (slOf ph M1 - slOf ph M) + slOf ph M
        dsimp only at this
        omega) ?_ (fun _ _ _ _ _ _ _ _ h => by cases h) n 0 _ _ _ _ _ _ _ _ h I
    · rw [hk12] at hrun
      exact hrun
    · intro i op o ls st M' H locs lsr' cells slots ax hrow hop hact I'
      obtain ⟨ins, n', hd, ho⟩ := okRow_dec hrow
      have hS := I'.2.2.2.2.1
      have hc1 := I'.2.2.2.2.2.2.2.2.1
      have hc2 := I'.2.2.2.2.2.2.2.2.2
      rcases hop with rfl | rfl | rfl
      · rw [act_42] at hact
        split at hact
        rotate_left
        · cases hact
        rename_i hz
        cases hact
        simp only [okI, Bool.and_eq_true, decide_eq_true_eq] at ho
        obtain ⟨rfl, rfl⟩ := ho
        rw [hz.1, if_pos rfl] at hk10
        rw [hz.2]
        have ec : cells = naOf ph M1 - naOf ph M := by omega
        have es : slots = slOf ph M1 - slOf ph M := by omega
        subst ec; subst es
        exact W.vret B.exec B.bytes (B.returns.trans hk10) (fun t ht hW => ⟨rfl, by rw [ht]; exact ⟨I'.1, I'.2.2.2.1⟩, hS.F ht, I'.2.1, I'.2.2.1, fun w hw => by cases hw⟩) hS.2.2 hd
      · rw [act_43] at hact
        split at hact
        rotate_left
        · cases hact
        rename_i x
        split at hact
        rotate_left
        · cases hact
        rename_i hz
        cases hact
        simp only [okI, Bool.and_eq_true, decide_eq_true_eq] at ho
        obtain ⟨rfl, rfl⟩ := ho
        have ec : cells = naOf ph M1 - naOf ph M := by omega
        have es : slots = slOf ph M1 - slOf ph M := by omega
        subst ec; subst es
        have hxv := I'.stk (0, x) List.mem_cons_self
        have hq9 : ∀ t : State, t.heap = H → s.WarmedH t.vm → am_Qc D c4 ad ph h0 (some (0, x)) M1 (as.map (rv ad)).toArray s (.returned (some (.int (Int32.ofInt x)))) t := fun t ht hW => ⟨rfl, by rw [ht]; exact ⟨I'.1, I'.2.2.2.1⟩, hS.F ht, I'.2.1, I'.2.2.1, fun w hw => by cases hw; exact hxv⟩
        rcases hz with hz | hz
        · rw [hz, if_neg (by decide), if_pos rfl] at hk10
          exact W.iret B.exec B.bytes (B.returns.trans hk10) hq9 hS.2.2 hd
        · rw [hz.1, if_neg (by decide), if_neg (by decide), if_neg (by decide)] at hk10
          refine W.zret B.exec B.bytes (B.returns.trans hk10) ?_ hq9 hS.2.2 hd
          rcases hz.2 with rfl | rfl <;> decide
      · rw [act_44] at hact
        split at hact
        rotate_left
        · cases hact
        rename_i x
        split at hact
        rotate_left
        · cases hact
        rename_i hz
        cases hact
        simp only [okI, Bool.and_eq_true, decide_eq_true_eq] at ho
        obtain ⟨rfl, rfl⟩ := ho
        have ec : cells = naOf ph M1 - naOf ph M := by omega
        have es : slots = slOf ph M1 - slOf ph M := by omega
        subst ec; subst es
        have hxv := I'.stk (1, x) List.mem_cons_self
        rw [hz, if_neg (by decide), if_neg (by decide), if_pos rfl] at hk10
        exact W.lret B.exec B.bytes (B.returns.trans hk10) (fun t ht hW => ⟨rfl, by rw [ht]; exact ⟨I'.1, I'.2.2.2.1⟩, hS.F ht, I'.2.1, I'.2.2.1, fun w hw => by cases hw; exact hxv⟩) hS.2.2 hd
