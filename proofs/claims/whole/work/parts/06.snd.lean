/-! SOUNDNESS of the abstract machine: what its state says of the machine's -/
def rv (ad : Nat → Nat) : AV → Value
  | (0, x) => .int (Int32.ofInt x)
  | (1, x) => .long (Int64.ofInt x)
  | (2, x) => .ref (ad x.toNat)
  | _ => .null
def cv : AV → Prop
  | (0, x) => c32 x
  | (1, x) => c64 x
  | (2, x) => 0 ≤ x
  | _ => True
abbrev C4 : Type := ClassId × ClassId × ClassId × ClassId
def orf (ad : Nat → Nat) (x : Int) : Option Nat := if 0 ≤ x then some (ad x.toNat) else none
def vfk (ad : Nat → Nat) (ph : Bool) (M : Mem) (ci a k : Nat) : Value := if fk ci k = 2 then va_rf (orf ad (gr ph M a k)) else .int (Int32.ofInt (M a k))
def cE (c4 : C4) (ad : Nat → Nat) (ph : Bool) (M : Mem) (a : Nat) : va_E := match shp a with
  | (0, n) => .inl (c4.1, n, .inl (fun i => Int32.ofInt (M a i)))
  | (1, n) => .inl (c4.2.1, n, .inr (.inl (fun i => Int64.ofInt (M a i))))
  | (2, n) => .inl (c4.2.2.1, n, .inr (.inr (.inr (.inr (fun i => orf ad (gr ph M a i))))))
  | (3, n) => .inl (c4.2.2.2, n, .inr (.inr (.inr (.inr (fun i => orf ad (gr ph M a i))))))
  | (_, ci) => .inr (ci, (List.range (nfl ci)).map (fun k => vfk ad ph M ci a k))
def cM (M : Mem) : Prop := ∀ (a : Nat) (i : Int), a < 89 → if (shp a).1 = 1 then c64 (M a i) else c32 (M a i)
def wH (D : va_G) (c4 : C4) (ad : Nat → Nat) (ph : Bool) (M : Mem) (H : Heap) : Prop := ∀ a, a < naOf ph M → va_at D am_cl (ad a, cE c4 ad ph M a) H
def slOf (ph : Bool) (M : Mem) : Nat := if ph then (M 9999 1).toNat else 1000000
def nestW : Cond → Bool
  | .methodLinkNest .. => true
  | _ => false
def sC (j : Nat) : String := if j = 0 then "TenInDrawers" else "TenInDrawers$Prints"
def sN (j : Nat) : String := if j = 0 then "MAY_BE" else if j = 1 then "ABOVE" else "OWN"
def Kx (D : va_G) (c4 : C4) (ad : Nat → Nat) (h0 : Nat) (U : State) (H : Heap) : Prop :=
  va_K D am_cl [(c4.1, .int), (c4.2.1, .long), (c4.2.2.1, .array .int), (c4.2.2.2, .array .long)] U ∧
  (∀ w ∈ lw_tbl, nestW w = true → va_Nw w U) ∧
  ((Cond.arrayOver (.array .int)).before #[] U = true ∧ (Cond.arrayOver (.array .long)).before #[] U = true) ∧
  (∀ a, a < 89 → ad a = h0 + a) ∧
  (∀ j, j < 3 → va_Z (sC j) (sN j) "[I" (.ref (ad (90 + j))) (fun q => h0 ≤ q) U H ∧ va_T .int (ad (90 + j)) (shp (90 + j)).2 (fun i => .int (Int32.ofInt (stc (90 + j) i))) (fun q => h0 ≤ q) U H)
def lsrel (ad : Nat → Nat) (nL : Nat) (ls : List AV) (lsr : Array Slot) : Prop := ls.length = nL ∧ lsr.size = nL ∧ lv_wf lsr ∧ ∀ (i : Nat) (v : AV), ls[i]? = some v → v.1 < 3 → lsr[i]? = some (.val (rv ad v))
def lvOf (ad : Nat → Nat) (ls : List AV) : List (Nat × Value) := ls.zipIdx.filterMap (fun q => if q.1.1 < 3 then some (q.2, rv ad q.1) else none)
theorem lvOf_mem {ad : Nat → Nat} {ls : List AV} {i : Nat} {v : AV} (h : ls[i]? = some v) (ht : v.1 < 3) : (i, rv ad v) ∈ lvOf ad ls := by
  refine List.mem_filterMap.mpr ⟨(v, i), ?_, ?_⟩
  · rw [List.mem_zipIdx_iff_getElem?]; exact h
  · simp only; rw [if_pos ht]
theorem lsrel.has {ad : Nat → Nat} {nL : Nat} {ls : List AV} {lsr : Array Slot} (h : lsrel ad nL ls lsr) : lv_has lsr nL (lvOf ad ls) := by
  refine ⟨h.2.1, h.2.2.1, fun q hq => ?_⟩
  obtain ⟨x, hx, hf⟩ := List.mem_filterMap.mp hq
  rw [List.mem_zipIdx_iff_getElem?] at hx
  split at hf
  · rename_i ht
    cases hf
    exact h.2.2.2 _ _ hx ht
  · cases hf
theorem setL_len (ls : List AV) (i : Nat) (v : AV) : (setL ls i v).length = ls.length := by
  unfold setL
  split
  · simp
  · dsimp only
    split <;> simp
theorem setL_get {ls : List AV} {i j : Nat} {v w : AV} (h : (setL ls i v)[j]? = some w) (ht : w.1 < 3) : (j = i ∧ w = v) ∨ (j ≠ i ∧ ls[j]? = some w ∧ ¬ (j + 1 = i ∧ w.1 = 1)) := by
  unfold setL at h
  split at h
  · by_cases e : j = 0
    · subst e
      rw [List.getElem?_set_self'] at h
      left
      cases hg : ls[0]? with
      | none => rw [hg] at h; cases h
      | some z => rw [hg] at h; cases h; exact ⟨rfl, rfl⟩
    · rw [List.getElem?_set_ne (by omega)] at h
      exact Or.inr ⟨e, h, by omega⟩
  · rename_i i'
    dsimp only at h
    split at h
    · rename_i x hx
      by_cases e2 : j = i'
      · subst e2
        exfalso
        rw [List.getElem?_set_self'] at h
        cases hg : (ls.set (j + 1) v)[j]? with
        | none => rw [hg] at h; cases h
        | some z => rw [hg] at h; cases h; exact absurd (show (3 : Nat) < 3 from ht) (by decide)
      · rw [List.getElem?_set_ne (by omega)] at h
        by_cases e : j = i' + 1
        · subst e
          rw [List.getElem?_set_self'] at h
          left
          cases hg : ls[i' + 1]? with
          | none => rw [hg] at h; cases h
          | some z => rw [hg] at h; cases h; exact ⟨rfl, rfl⟩
        · rw [List.getElem?_set_ne (by omega)] at h
          exact Or.inr ⟨e, h, by omega⟩
    · rename_i hno
      by_cases e : j = i' + 1
      · subst e
        rw [List.getElem?_set_self'] at h
        left
        cases hg : ls[i' + 1]? with
        | none => rw [hg] at h; cases h
        | some z => rw [hg] at h; cases h; exact ⟨rfl, rfl⟩
      · rw [List.getElem?_set_ne (by omega)] at h
        refine Or.inr ⟨e, h, ?_⟩
        rintro ⟨e2, e3⟩
        have : j = i' := by omega
        subst this
        obtain ⟨t, x⟩ := w
        dsimp only at e3
        subst e3
        exact hno x h
theorem setL_mem {ls : List AV} {i : Nat} {v w : AV} (h : w ∈ setL ls i v) : w ∈ ls ∨ w = v ∨ w = (3, 0) := by
  unfold setL at h
  split at h
  · rcases List.mem_or_eq_of_mem_set h with h | h
    · exact Or.inl h
    · exact Or.inr (Or.inl h)
  · dsimp only at h
    split at h
    · rcases List.mem_or_eq_of_mem_set h with h | h
      · rcases List.mem_or_eq_of_mem_set h with h | h
        · exact Or.inl h
        · exact Or.inr (Or.inl h)
      · exact Or.inr (Or.inr h)
    · rcases List.mem_or_eq_of_mem_set h with h | h
      · exact Or.inl h
      · exact Or.inr (Or.inl h)
theorem rv_cat {ad : Nat → Nat} (w : AV) : (rv ad w).category = 2 ↔ w.1 = 1 := by
  obtain ⟨t, x⟩ := w
  match t with
  | 0 => simp [rv, Value.category]
  | 1 => simp [rv, Value.category]
  | 2 => simp [rv, Value.category]
  | t + 3 => simp [rv, Value.category]
theorem lsrel.set1 {ad : Nat → Nat} {nL : Nat} {ls : List AV} {lsr ls' : Array Slot} (h : lsrel ad nL ls lsr) {i : Nat} {v : AV} (h' : lv_has ls' nL ((i, rv ad v) :: (lvOf ad ls).filter (fun q => !(q.1 == i) && !(q.1 + 1 == i && q.2.category == 2)))) : lsrel ad nL (setL ls i v) ls' := by
  refine ⟨by rw [setL_len]; exact h.1, h'.1, h'.2.1, fun j w hj ht => ?_⟩
  rcases setL_get hj ht with ⟨rfl, rfl⟩ | ⟨e1, e2, e3⟩
  · exact h'.2.2 (_, _) List.mem_cons_self
  · refine h'.2.2 (j, rv ad w) (List.mem_cons_of_mem _ (List.mem_filter.mpr ⟨lvOf_mem e2 ht, ?_⟩))
    have hb : (j == i) = false := by simpa using e1
    simp only [hb, Bool.not_false, Bool.true_and, Bool.not_eq_true', Bool.and_eq_false_iff, beq_eq_false_iff_ne, ne_eq]
    by_cases q : j + 1 = i
    · right
      intro hc
      exact e3 ⟨q, (rv_cat w).mp hc⟩
    · exact Or.inl q
theorem lsrel.set2 {ad : Nat → Nat} {nL : Nat} {ls : List AV} {lsr ls' : Array Slot} (h : lsrel ad nL ls lsr) {i : Nat} {v : AV} (h' : lv_has ls' nL ((i, rv ad v) :: (lvOf ad ls).filter (fun q => !(q.1 == i) && (!(q.1 == i + 1) && !(q.1 + 1 == i && q.2.category == 2))))) : lsrel ad nL ((setL ls i v).set (i + 1) (3, 0)) ls' := by
  refine ⟨by rw [List.length_set, setL_len]; exact h.1, h'.1, h'.2.1, fun j w hj ht => ?_⟩
  by_cases e0 : j = i + 1
  · subst e0
    exfalso
    rw [List.getElem?_set_self'] at hj
    cases hg : (setL ls i v)[i + 1]? with
    | none => rw [hg] at hj; cases hj
    | some z => rw [hg] at hj; cases hj; exact absurd (show (3 : Nat) < 3 from ht) (by decide)
  · rw [List.getElem?_set_ne (by omega)] at hj
    rcases setL_get hj ht with ⟨rfl, rfl⟩ | ⟨e1, e2, e3⟩
    · exact h'.2.2 (_, _) List.mem_cons_self
    · refine h'.2.2 (j, rv ad w) (List.mem_cons_of_mem _ (List.mem_filter.mpr ⟨lvOf_mem e2 ht, ?_⟩))
      have hb : (j == i) = false := by simpa using e1
      have hb1 : (j == i + 1) = false := by simpa using e0
      simp only [hb, hb1, Bool.not_false, Bool.true_and, Bool.not_eq_true', Bool.and_eq_false_iff, beq_eq_false_iff_ne, ne_eq]
      by_cases q : j + 1 = i
      · right
        intro hc
        exact e3 ⟨q, (rv_cat w).mp hc⟩
      · exact Or.inl q
theorem lay_mem {as : List AV} {v : AV} (h : v ∈ lay as) : v ∈ as ∨ v = (3, 0) := by
  fun_induction lay as with
  | case1 => cases h
  | case2 x r ih =>
    rcases List.mem_cons.mp h with h | h
    · exact Or.inl (List.mem_cons.mpr (Or.inl h))
    · rcases List.mem_cons.mp h with h | h
      · exact Or.inr h
      · exact (ih h).imp (List.mem_cons_of_mem _) id
  | case3 v r hn ih =>
    rcases List.mem_cons.mp h with h | h
    · exact Or.inl (List.mem_cons.mpr (Or.inl h))
    · exact (ih h).imp (List.mem_cons_of_mem _) id
theorem lg_lay {ad : Nat → Nat} {as : List AV} : (lg_sl (as.map (rv ad))).length = (lay as).length := by
  fun_induction lay as with
  | case1 => rfl
  | case2 x r ih =>
    have : lg_sl ((rv ad (1, x)) :: r.map (rv ad)) = [.val (rv ad (1, x)), .second] ++ lg_sl (r.map (rv ad)) := rfl
    rw [List.map_cons, this, List.length_append, ih]
    simp only [List.length_cons, List.length_nil]
    omega
  | case3 v r hn ih =>
    have hc : ¬ (rv ad v).category = 2 := by
      rw [rv_cat]
      intro q
      exact hn v.2 (by rw [← q])
    have : lg_sl ((rv ad v) :: r.map (rv ad)) = [.val (rv ad v)] ++ lg_sl (r.map (rv ad)) := by
      unfold lg_sl
      rw [List.flatMap_cons, if_neg hc]
    rw [List.map_cons, this, List.length_append, ih]
    simp only [List.length_cons, List.length_nil]
    omega
theorem lg_get {ad : Nat → Nat} {as : List AV} : ∀ (j : Nat) (w : AV), (lay as)[j]? = some w → w.1 < 3 → (lg_sl (as.map (rv ad)))[j]? = some (.val (rv ad w)) := by
  fun_induction lay as with
  | case1 => intro j w h; simp at h
  | case2 x r ih =>
    have e : lg_sl ((rv ad (1, x)) :: r.map (rv ad)) = .val (rv ad (1, x)) :: .second :: lg_sl (r.map (rv ad)) := rfl
    intro j w h ht
    rw [List.map_cons, e]
    match j with
    | 0 => cases h; rfl
    | 1 => cases h; exact absurd ht (by decide)
    | j + 2 => exact ih j w h ht
  | case3 v r hn ih =>
    have hc : ¬ (rv ad v).category = 2 := by
      rw [rv_cat]
      intro q
      exact hn v.2 (by rw [← q])
    have e : lg_sl ((rv ad v) :: r.map (rv ad)) = .val (rv ad v) :: lg_sl (r.map (rv ad)) := by
      unfold lg_sl
      rw [List.flatMap_cons, if_neg hc]; rfl
    intro j w h ht
    rw [List.map_cons, e]
    match j with
    | 0 => cases h; rfl
    | j + 1 => exact ih j w h ht
/-- at a method's entry -/
theorem lsrel_entry {ad : Nat → Nat} {as : List AV} {n : Nat} (h : (lay as).length ≤ n) : lsrel ad n (entryL n as) ((lg_sl (as.map (rv ad)) ++ List.replicate (n - (lg_sl (as.map (rv ad))).length) Slot.unset).toArray) := by
  have h2 := lv_entry (as.map (rv ad)) (n := n) (by rw [lg_lay]; exact h)
  refine ⟨by simp only [entryL, List.length_append, List.length_replicate]; omega, h2.1, h2.2.1, fun i v hi ht => ?_⟩
  unfold entryL at hi
  by_cases q : i < (lay as).length
  · rw [List.getElem?_append_left q] at hi
    rw [List.getElem?_toArray, List.getElem?_append_left (by rw [lg_lay]; exact q)]
    exact lg_get i v hi ht
  · rw [List.getElem?_append_right (by omega)] at hi
    have := List.mem_replicate.mp (List.mem_of_getElem? hi)
    rw [this.2] at ht
    exact absurd ht (by decide)
