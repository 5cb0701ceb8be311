/-! frames: which cells a part of the invariant reads; the whole invariant -/
/-- only cells of T differ -/
def To (T : Nat → Int → Prop) (M M' : Mem) : Prop := ∀ (o : Nat) (i : Int), ¬ T o i → M' o i = M o i
/-- cells of K are as before -/
def Ag (K : Nat → Int → Prop) (M M' : Mem) : Prop := ∀ (o : Nat) (i : Int), K o i → M' o i = M o i
theorem To.refl (T : Nat → Int → Prop) (M : Mem) : To T M M := fun _ _ _ => rfl
theorem To.trans {T : Nat → Int → Prop} {M M1 M2 : Mem} (h : To T M M1) (g : To T M1 M2) : To T M M2 := fun o i q => (g o i q).trans (h o i q)
theorem To.upd {T : Nat → Int → Prop} {M M' : Mem} {o : Nat} {i v : Int} (h : To T M M') (s : T o i) : To T M (up M' o i v) := fun b j q => by
  have : ¬ (b = o ∧ j = i) := fun z => q (by rw [z.1, z.2]; exact s)
  unfold up
  rw [if_neg this]
  exact h b j q
theorem To.wk {T T' : Nat → Int → Prop} {M M' : Mem} (h : To T M M') (s : ∀ o i, T o i → T' o i) : To T' M M' := fun o i q => h o i (fun t => q (s o i t))
theorem To.cpy {T : Nat → Int → Prop} {M M' : Mem} {a b : Nat} {i j n : Int} (h : To T M M') (s : ∀ q, j ≤ q → q < j + n → T b q) : To T M (cpy M' a b i j n) := fun c q z => by
  have : ¬ (c = b ∧ j ≤ q ∧ q < j + n) := fun y => z (by rw [y.1]; exact s q y.2.1 y.2.2)
  show (if c = b ∧ j ≤ q ∧ q < j + n then M' a (i + (q - j)) else M' c q) = _
  rw [if_neg this]
  exact h c q z
theorem To.ag {T K : Nat → Int → Prop} {M M' : Mem} (h : To T M M') (t : ∀ o i, K o i → ¬ T o i) : Ag K M M' := fun o i k => h o i (t o i k)
def K1 (o : Nat) (i : Int) : Prop := (o = 1 ∧ (i = 5 ∨ i = 6)) ∨ (o = 64 ∧ (i = 0 ∨ i = 4))
def K2 (o : Nat) (i : Int) : Prop := (3 ≤ o ∧ o ≤ 27) ∨ o = 65 ∨ o = 66 ∨ (o = 64 ∧ i = 0)
def K3 (o : Nat) (i : Int) : Prop := o = 28 ∨ o = 29 ∨ o = 65 ∨ (o = 64 ∧ i = 0)
def K4 (o : Nat) (i : Int) : Prop := o = 30 ∨ o = 67 ∨ (o = 64 ∧ i = 0)
def K5 (o : Nat) (i : Int) : Prop := o = 28 ∨ o = 29 ∨ (o = 64 ∧ i = 0)
def K6 (o : Nat) (i : Int) : Prop := (o = 31 ∧ i = 5) ∨ (o = 64 ∧ i = 5) ∨ o = 32 ∨ o = 68
def K7 (o : Nat) (i : Int) : Prop := (o = 31 ∧ i = 6) ∨ (o = 64 ∧ (i = 7 ∨ i = 8)) ∨ o = 34 ∨ (69 ≤ o ∧ o ≤ 72)
def K8 (o : Nat) (i : Int) : Prop := (o = 37 ∧ (i = 4 ∨ i = 5)) ∨ (o = 64 ∧ (i = 27 ∨ i = 28 ∨ i = 0)) ∨ (38 ≤ o ∧ o ≤ 41) ∨ o = 81
def K9 (o : Nat) (_ : Int) : Prop := o = 43 ∨ o = 78
def K10 (o : Nat) (i : Int) : Prop := (o = 42 ∧ (i = 3 ∨ i = 4)) ∨ (o = 64 ∧ (i = 23 ∨ i = 25 ∨ i = 0)) ∨ o = 44 ∨ o = 45 ∨ o = 79 ∨ o = 80
def K11 (o : Nat) (i : Int) : Prop := (o = 46 ∧ i = 2) ∨ (o = 64 ∧ i = 30) ∨ o = 47 ∨ o = 82
def K12 (o : Nat) (i : Int) : Prop := (o = 46 ∧ i = 3) ∨ (o = 64 ∧ i = 32) ∨ o = 48 ∨ o = 83
def K13 (o : Nat) (i : Int) : Prop := (50 ≤ o ∧ o ≤ 53) ∨ (55 ≤ o ∧ o ≤ 60) ∨ (84 ≤ o ∧ o ≤ 86) ∨ (o = 64 ∧ i = 30)
/-! the law's codes -/
def At (g : Int → Int) : Int → List Int → Prop
  | _, [] => True
  | p, c :: cs => g p = c ∧ At g (p + 1) cs
theorem At_app {g : Int → Int} : ∀ {a b : List Int} {p : Int}, At g p (a ++ b) ↔ At g p a ∧ At g (p + a.length) b
  | [], b, p => by simp [At]
  | c :: a, b, p => by
    have ih := At_app (g := g) (a := a) (b := b) (p := p + 1)
    rw [List.cons_append]
    show g p = c ∧ At g (p + 1) (a ++ b) ↔ (g p = c ∧ At g (p + 1) a) ∧ _
    rw [ih, show p + 1 + (a.length : Int) = p + ((c :: a).length : Int) by simp; omega]
    exact ⟨fun h => ⟨⟨h.1, h.2.1⟩, h.2.2⟩, fun h => ⟨h.1.1, h.1.2, h.2⟩⟩
theorem At_congr {g g' : Int → Int} : ∀ {cs : List Int} {p : Int}, (∀ i, p ≤ i → i < p + cs.length → g' i = g i) → At g p cs → At g' p cs
  | [], _, _, _ => trivial
  | c :: cs, p, h, k => ⟨(h p (Int.le_refl _) (by simp; omega)).trans k.1, At_congr (fun i a b => h i (by omega) (by simp; omega)) k.2⟩
/-- the reference's number of the class's code -/
def phi (v : Int) : Int := if 0 ≤ v then v + 18 else if -6 ≤ v then -1 - v else if v = -124 then 6 else if v = -38 then 7 else if v = -60 then 8 else if v = -61 then 9 else if v = -62 then 10 else if v = -43 then 11 else if v = -45 then 12 else if v = -42 then 13 else if v = -47 then 14 else if v = -37 then 15 else if v = -33 then 16 else 17
abbrev bop (c : Int) : Prop := c = -124 ∨ c = -38 ∨ c = -60 ∨ c = -61 ∨ c = -62 ∨ c = -43 ∨ c = -45 ∨ c = -42 ∨ c = -47 ∨ c = -37
/-- the height of the stack behind codes -/
def hg : List Int → Nat → Option Nat
  | [], h => some h
  | c :: cs, h => if -6 ≤ c ∧ c ≤ 9999 then hg cs (h + 1) else if c = -33 ∨ c = -126 then (if 1 ≤ h then hg cs h else none) else if bop c then (if 2 ≤ h then hg cs (h - 1) else none) else none
theorem hg_app : ∀ (a b : List Int) (h : Nat), hg (a ++ b) h = (hg a h).bind (hg b)
  | [], b, h => rfl
  | c :: a, b, h => by
    rw [List.cons_append]
    unfold hg
    split
    · exact hg_app a b _
    · split
      · split
        · exact hg_app a b _
        · rfl
      · split
        · split
          · exact hg_app a b _
          · rfl
        · rfl
abbrev LN : Type := List Int × List Int
def lcode (p : Int) (l : LN) : List Int := match l.1 with
  | [] => l.2 ++ [-59]
  | _ => l.1 ++ (-63) :: (p + l.1.length + l.2.length + 3) :: (l.2 ++ [-59])
def CL (g : Int → Int) : Int → List LN → Int → Prop
  | p, [], q => p = q
  | p, l :: r, q => At g p (lcode p l) ∧ CL g (p + (lcode p l).length) r q
def ML (M : Mem) : Int → Int → List LN → Prop
  | _, _, [] => True
  | i, o, l :: r => M 69 i = o ∧ M 70 i = o + l.1.length ∧ M 71 i = o + l.1.length + l.2.length ∧ At (M 72) o ((l.1 ++ l.2).map phi) ∧ ML M (i + 1) (o + l.1.length + l.2.length) r
def GL : List LN → Prop
  | [] => True
  | l :: r => (l.1 = [] ∨ hg l.1 0 = some 1) ∧ hg l.2 0 = some 1 ∧ GL r
def tl : List LN → Nat
  | [] => 0
  | l :: r => l.1.length + l.2.length + tl r
def R5 (M : Mem) : Prop := ∀ c : Int, M 64 0 ≤ c → c < 12 → M 28 c = 0 ∧ M 29 c = 0
def R6 (M : Mem) : Prop := M 31 5 = M 64 5 ∧ 0 ≤ M 64 5 ∧ M 64 5 ≤ 120 ∧ ∀ i : Int, 0 ≤ i → i < M 64 5 → M 32 i = M 68 i ∧ 0 ≤ M 68 i ∧ M 68 i ≤ 255
def R7 (M : Mem) : Prop := (M 31 6 = 0 ∧ M 64 7 = 0) ∨ (M 64 7 = 1 ∧ 0 < M 31 6 ∧ M 31 6 ≤ 256 ∧ ∃ Ls : List LN, CL (M 34) 0 Ls (M 31 6) ∧ ML M 0 0 Ls ∧ M 64 8 = (Ls.length : Int) ∧ Ls.length ≤ 60 ∧ GL Ls ∧ tl Ls ≤ 120)
def VC (n number what v : Int) : Prop := (what = 2 ∧ number = 0 ∧ 0 ≤ v ∧ v ≤ 9) ∨ ((what = 0 ∨ what = 1) ∧ 0 ≤ number ∧ number / 100 < n ∧ number % 100 < 10 ∧ 0 ≤ v ∧ (what = 0 → v ≤ 5) ∧ (what = 1 → v ≤ 30))
def R8 (M : Mem) : Prop := M 37 4 = M 64 28 ∧ M 37 5 = M 64 27 ∧ 0 ≤ M 64 28 ∧ M 64 28 ≤ M 64 27 ∧ M 64 27 ≤ 40 ∧ ∀ i : Int, 0 ≤ i → i < M 64 27 → M 38 i = M 81 (4 * i) ∧ M 39 i = M 81 (4 * i + 1) ∧ M 40 i = M 81 (4 * i + 2) ∧ M 41 i = M 81 (4 * i + 3) ∧ VC (M 64 0) (M 81 (4 * i)) (M 81 (4 * i + 1)) (M 81 (4 * i + 2)) ∧ VC (M 64 0) (M 81 (4 * i)) (M 81 (4 * i + 1)) (M 81 (4 * i + 3))
def R9 (M : Mem) : Prop := ∀ i : Int, 0 ≤ i → i < 5 → M 43 i = M 78 i
def R10 (M : Mem) : Prop := M 42 4 = M 64 23 ∧ (M 64 23 = 0 ∨ (M 64 23 = 1 ∧ M 42 3 = M 64 25 ∧ 0 ≤ M 64 25 ∧ M 64 25 ≤ M 64 0 ∧ (∀ i : Int, 0 ≤ i → i < 5 → M 44 i = M 80 i) ∧ ∀ c : Int, 0 ≤ c → c < M 64 25 → M 45 c = M 79 c ∧ (M 79 c = -2000000000 ∨ (0 ≤ M 79 c ∧ M 79 c < 1024))))
def R12 (M : Mem) : Prop := M 46 3 = M 64 32 ∧ 0 ≤ M 64 32 ∧ ∀ i : Int, 0 ≤ i → i < 24 → i < M 64 32 → M 48 i = M 83 i
section AG
variable {M M' : Mem}
theorem R1.ag (r : R1 M) (h : Ag K1 M M') : R1 M' := by
  unfold R1 at r ⊢
  rw [h 1 5 (by unfold K1; omega), h 1 6 (by unfold K1; omega), h 64 0 (by unfold K1; omega), h 64 4 (by unfold K1; omega)]
  exact r
theorem R2.ag (r1 : R1 M) (r : R2 M) (h : Ag K2 M M') : R2 M' := fun c f c0 cn f0 f9 => by
  rw [h 64 0 (by unfold K2; omega)] at cn
  have e3 := r1.2.2.1
  rw [h 65 _ (by unfold K2; omega), h 66 _ (by unfold K2; omega), h ((3 + c).toNat) f (by unfold K2; omega), h ((16 + c).toNat) f (by unfold K2; omega)]
  exact r c f c0 cn f0 f9
theorem R3.ag (r : R3 M) (h : Ag K3 M M') : R3 M' := fun c c0 cn => by
  rw [h 64 0 (by unfold K3; omega)] at cn
  rw [h 28 _ (by unfold K3; omega), h 29 _ (by unfold K3; omega)]
  obtain ⟨x, y, z⟩ := r c c0 cn
  refine ⟨x, y, fun i hi => ?_⟩
  rw [h 65 _ (by unfold K3; omega)]
  exact z i hi
theorem R4.ag (r : R4 M) (h : Ag K4 M M') : R4 M' := fun c c0 cn => by
  rw [h 64 0 (by unfold K4; omega)] at cn
  rw [h 30 _ (by unfold K4; omega), h 67 _ (by unfold K4; omega)]
  exact r c c0 cn
theorem R5.ag (r : R5 M) (h : Ag K5 M M') : R5 M' := fun c c0 cn => by
  rw [h 64 0 (by unfold K5; omega)] at c0
  rw [h 28 _ (by unfold K5; omega), h 29 _ (by unfold K5; omega)]
  exact r c c0 cn
theorem R6.ag (r : R6 M) (h : Ag K6 M M') : R6 M' := by
  obtain ⟨a, b, c, e⟩ := r
  unfold R6
  rw [h 31 5 (by unfold K6; omega), h 64 5 (by unfold K6; omega)]
  refine ⟨a, b, c, fun i i0 i1 => ?_⟩
  rw [h 32 i (by unfold K6; omega), h 68 i (by unfold K6; omega)]
  exact e i i0 i1
theorem ML_ag (h69 : M' 69 = M 69) (h70 : M' 70 = M 70) (h71 : M' 71 = M 71) (h72 : M' 72 = M 72) : ∀ {r : List LN} {i o : Int}, ML M i o r → ML M' i o r
  | [], _, _, _ => trivial
  | l :: r, i, o, ⟨a, b, c, e, f⟩ => ⟨by rw [h69]; exact a, by rw [h70]; exact b, by rw [h71]; exact c, by rw [h72]; exact e, ML_ag h69 h70 h71 h72 f⟩
theorem R7.ag (r : R7 M) (h : Ag K7 M M') : R7 M' := by
  unfold R7 at r ⊢
  rw [h 31 6 (by unfold K7; omega), h 64 7 (by unfold K7; omega), h 64 8 (by unfold K7; omega), show M' 34 = M 34 from funext fun i => h 34 i (by unfold K7; omega)]
  rcases r with r | ⟨r1, r2, r3, Ls, l1, l2, l3⟩
  · exact Or.inl r
  · exact Or.inr ⟨r1, r2, r3, Ls, l1, ML_ag (funext fun i => h 69 i (by unfold K7; omega)) (funext fun i => h 70 i (by unfold K7; omega)) (funext fun i => h 71 i (by unfold K7; omega)) (funext fun i => h 72 i (by unfold K7; omega)) l2, l3⟩
theorem R8.ag (r : R8 M) (h : Ag K8 M M') : R8 M' := by
  obtain ⟨a, b, c, e, f, g⟩ := r
  unfold R8
  rw [h 37 4 (by unfold K8; omega), h 37 5 (by unfold K8; omega), h 64 28 (by unfold K8; omega), h 64 27 (by unfold K8; omega), h 64 0 (by unfold K8; omega)]
  refine ⟨a, b, c, e, f, fun i i0 i1 => ?_⟩
  rw [h 38 i (by unfold K8; omega), h 39 i (by unfold K8; omega), h 40 i (by unfold K8; omega), h 41 i (by unfold K8; omega), h 81 _ (by unfold K8; omega), h 81 (4 * i + 1) (by unfold K8; omega), h 81 (4 * i + 2) (by unfold K8; omega), h 81 (4 * i + 3) (by unfold K8; omega)]
  exact g i i0 i1
theorem R9.ag (r : R9 M) (h : Ag K9 M M') : R9 M' := fun i i0 i1 => by
  rw [h 43 i (by unfold K9; omega), h 78 i (by unfold K9; omega)]
  exact r i i0 i1
theorem R10.ag (r : R10 M) (h : Ag K10 M M') : R10 M' := by
  unfold R10 at r ⊢
  rw [h 42 4 (by unfold K10; omega), h 42 3 (by unfold K10; omega), h 64 23 (by unfold K10; omega), h 64 25 (by unfold K10; omega), h 64 0 (by unfold K10; omega), show M' 44 = M 44 from funext fun i => h 44 i (by unfold K10; omega), show M' 45 = M 45 from funext fun i => h 45 i (by unfold K10; omega), show M' 79 = M 79 from funext fun i => h 79 i (by unfold K10; omega), show M' 80 = M 80 from funext fun i => h 80 i (by unfold K10; omega)]
  exact r
theorem R11.ag (r : R11 M) (h : Ag K11 M M') : R11 M' := by
  unfold R11 at r ⊢
  rw [h 46 2 (by unfold K11; omega), h 64 30 (by unfold K11; omega), show M' 47 = M 47 from funext fun i => h 47 i (by unfold K11; omega), show M' 82 = M 82 from funext fun i => h 82 i (by unfold K11; omega)]
  exact r
theorem R12.ag (r : R12 M) (h : Ag K12 M M') : R12 M' := by
  unfold R12 at r ⊢
  rw [h 46 3 (by unfold K12; omega), h 64 32 (by unfold K12; omega), show M' 48 = M 48 from funext fun i => h 48 i (by unfold K12; omega), show M' 83 = M 83 from funext fun i => h 83 i (by unfold K12; omega)]
  exact r
theorem R13.ag (r : R13 M) (h : Ag K13 M M') : R13 M' := fun p p0 p6 => by
  have r := r p p0 p6
  rw [h 50 p (by unfold K13; omega), h 51 p (by unfold K13; omega), h 52 p (by unfold K13; omega), h 53 p (by unfold K13; omega), h 84 p (by unfold K13; omega), h 85 p (by unfold K13; omega), h 64 30 (by unfold K13; omega), show M' 86 = M 86 from funext fun i => h 86 i (by unfold K13; omega), show M' ((55 + p).toNat) = M ((55 + p).toNat) from funext fun i => h _ i (by unfold K13; omega)]
  exact r
end AG
def INV (M : Mem) : Prop := R1 M ∧ R2 M ∧ R3 M ∧ R4 M ∧ R6 M ∧ R7 M ∧ R8 M ∧ R9 M ∧ R10 M ∧ R11 M ∧ R12 M ∧ R13 M ∧ R5 M
theorem INV.fr {M M' : Mem} (h : INV M) (f : Fr M M') : INV M' := by
  obtain ⟨a1, a2, a3, a4, a6, a7, a8, a9, a10, a11, a12, a13, a5⟩ := h
  have f : To Scr M M' := f
  exact ⟨a1.ag (f.ag (by intro o i; unfold Scr K1; omega)), R2.ag a1 a2 (f.ag (by intro o i; unfold Scr K2; omega)), a3.ag (f.ag (by intro o i; unfold Scr K3; omega)), a4.ag (f.ag (by intro o i; unfold Scr K4; omega)), a6.ag (f.ag (by intro o i; unfold Scr K6; omega)), a7.ag (f.ag (by intro o i; unfold Scr K7; omega)), a8.ag (f.ag (by intro o i; unfold Scr K8; omega)), a9.ag (f.ag (by intro o i; unfold Scr K9; omega)), a10.ag (f.ag (by intro o i; unfold Scr K10; omega)), a11.ag (f.ag (by intro o i; unfold Scr K11; omega)), a12.ag (f.ag (by intro o i; unfold Scr K12; omega)), a13.ag (f.ag (by intro o i; unfold Scr K13; omega)), a5.ag (f.ag (by intro o i; unfold Scr K5; omega))⟩
/-- a call answers alike, and the invariant holds behind it -/
def Pk (x y : Nat) (as : List AV) (M : Mem) : Prop := ∃ (v : Int) (M1 M2 : Mem), Cl 80 x ((2, 0) :: as) M (rI v M1) ∧ Cl 80 y ((2, 64) :: as) M1 (rI v M2) ∧ INV M2
def PkL (x y : Nat) (as : List AV) (M : Mem) : Prop := ∃ (v : Int) (M1 M2 : Mem), Cl 80 x ((2, 0) :: as) M (rL v M1) ∧ Cl 80 y ((2, 64) :: as) M1 (rL v M2) ∧ INV M2
theorem Bo.pk {x y : Nat} {as : List AV} {M : Mem} (h : Bo x y as M) (i : INV M) : Pk x y as M := by
  obtain ⟨v, a, b⟩ := h
  exact ⟨v, M, M, a.mono (by decide), b.mono (by decide), i⟩
theorem Bw.pk {x y : Nat} {as : List AV} {M : Mem} (h : Bw x y as M) (i : INV M) : Pk x y as M := by
  obtain ⟨v, M1, M2, a, f1, b, f2⟩ := h
  exact ⟨v, M1, M2, a.mono (by decide), b.mono (by decide), (i.fr f1).fr f2⟩
theorem BoL.pk {x y : Nat} {as : List AV} {M : Mem} (h : BoL x y as M) (i : INV M) : PkL x y as M := by
  obtain ⟨v, a, b⟩ := h
  exact ⟨v, M, M, a.mono (by decide), b.mono (by decide), i⟩
/-- the answer of an int method that both give from M, with what is written -/
theorem Pk.of {x y : Nat} {as : List AV} {M M1 M2 : Mem} {v : Int} (a : Cl 40 x ((2, 0) :: as) M (rI v M1)) (b : Cl 40 y ((2, 64) :: as) M1 (rI v M2)) (i : INV M2) : Pk x y as M := ⟨v, M1, M2, a.mono (by decide), b.mono (by decide), i⟩
