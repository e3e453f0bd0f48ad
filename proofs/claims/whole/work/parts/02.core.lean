/-! the abstract heap: int fields (object, slot), int arrays, long arrays, by the number of a cell -/
abbrev HS : Type := (Nat → Nat → Int32) × (Nat → Nat → Int32) × (Nat → Nat → Int64)
def fI (h : HS) (o k : Nat) : Int32 := h.1 o k
def aI (h : HS) (o : Nat) : Nat → Int32 := h.2.1 o
def aL (h : HS) (o : Nat) : Nat → Int64 := h.2.2 o
def sF (h : HS) (o k : Nat) (v : Int32) : HS := (fun o1 k1 => if o1 = o ∧ k1 = k then v else h.1 o1 k1, h.2.1, h.2.2)
def sA (h : HS) (o : Nat) (f : Nat → Int32) : HS := (h.1, fun o1 => if o1 = o then f else h.2.1 o1, h.2.2)
def sL (h : HS) (o : Nat) (f : Nat → Int64) : HS := (h.1, h.2.1, fun o1 => if o1 = o then f else h.2.2 o1)
/-- an object: its class by its place in vwCl, its slots (an int, or a reference to a cell); an int array; a long array; an array of references -/
abbrev lE : Type := (Nat × List (Option Nat)) ⊕ (Nat ⊕ (Nat ⊕ (Nat × List Nat)))
def lay (i : Nat) : lE := match i with
  | 0 => .inl (11, [some 5, some 20, some 35, none, some 1, some 2, some 3, some 4])
  | 1 => .inr (.inr (.inr (1, [50, 52, 54, 56, 58, 60, 62, 64])))
  | 2 => .inr (.inl 9)
  | 3 => .inr (.inr (.inl 9))
  | 4 => .inr (.inr (.inl 9))
  | 5 => .inl (5, [some 6, some 9, some 18, some 19, none, none, none])
  | 6 => .inl (4, [none, some 7, some 8])
  | 7 => .inr (.inl 9)
  | 8 => .inr (.inl 512)
  | 9 => .inr (.inr (.inr (0, [10, 11, 12, 13, 14, 15, 16, 17])))
  | 10 => .inl (6, [])
  | 11 => .inl (8, [])
  | 12 => .inl (2, [])
  | 13 => .inl (3, [])
  | 14 => .inl (10, [])
  | 15 => .inl (9, [])
  | 16 => .inl (0, [])
  | 17 => .inl (1, [])
  | 18 => .inr (.inl 9)
  | 19 => .inr (.inl 9)
  | 20 => .inl (5, [some 21, some 24, some 33, some 34, none, none, none])
  | 21 => .inl (4, [none, some 22, some 23])
  | 22 => .inr (.inl 9)
  | 23 => .inr (.inl 512)
  | 24 => .inr (.inr (.inr (0, [25, 26, 27, 28, 29, 30, 31, 32])))
  | 25 => .inl (6, [])
  | 26 => .inl (8, [])
  | 27 => .inl (2, [])
  | 28 => .inl (3, [])
  | 29 => .inl (10, [])
  | 30 => .inl (9, [])
  | 31 => .inl (0, [])
  | 32 => .inl (1, [])
  | 33 => .inr (.inl 9)
  | 34 => .inr (.inl 9)
  | 35 => .inl (5, [some 36, some 39, some 48, some 49, none, none, none])
  | 36 => .inl (4, [none, some 37, some 38])
  | 37 => .inr (.inl 9)
  | 38 => .inr (.inl 512)
  | 39 => .inr (.inr (.inr (0, [40, 41, 42, 43, 44, 45, 46, 47])))
  | 40 => .inl (6, [])
  | 41 => .inl (8, [])
  | 42 => .inl (2, [])
  | 43 => .inl (3, [])
  | 44 => .inl (10, [])
  | 45 => .inl (9, [])
  | 46 => .inl (0, [])
  | 47 => .inl (1, [])
  | 48 => .inr (.inl 9)
  | 49 => .inr (.inl 9)
  | 50 => .inl (7, [none, none, none, none, none, some 51])
  | 51 => .inr (.inl 100)
  | 52 => .inl (7, [none, none, none, none, none, some 53])
  | 53 => .inr (.inl 100)
  | 54 => .inl (7, [none, none, none, none, none, some 55])
  | 55 => .inr (.inl 100)
  | 56 => .inl (7, [none, none, none, none, none, some 57])
  | 57 => .inr (.inl 100)
  | 58 => .inl (7, [none, none, none, none, none, some 59])
  | 59 => .inr (.inl 100)
  | 60 => .inl (7, [none, none, none, none, none, some 61])
  | 61 => .inr (.inl 100)
  | 62 => .inl (7, [none, none, none, none, none, some 63])
  | 63 => .inr (.inl 100)
  | 64 => .inl (7, [none, none, none, none, none, some 65])
  | 65 => .inr (.inl 100)
  | 66 => .inl (12, [some 67, some 68, some 69, some 70, none, none, none, none, some 71, some 72, some 73, some 74, some 75, none, some 76, some 77, some 78, some 79, some 80, some 81, none])
  | 67 => .inr (.inl 30)
  | 68 => .inr (.inl 30)
  | 69 => .inr (.inl 30)
  | 70 => .inr (.inl 30)
  | 71 => .inr (.inl 3)
  | 72 => .inr (.inr (.inl 9))
  | 73 => .inr (.inr (.inl 9))
  | 74 => .inr (.inl 512)
  | 75 => .inr (.inl 9)
  | 76 => .inr (.inl 8)
  | 77 => .inr (.inl 8)
  | 78 => .inr (.inl 8)
  | 79 => .inr (.inl 8)
  | 80 => .inr (.inl 8)
  | 81 => .inr (.inl 800)
  | _ => .inr (.inr (.inl 1))
def mkF (a : Nat → Nat) (f : Nat → Int32) : Nat → List (Option Nat) → List Value
  | _, [] => []
  | k, none :: t => .int (f k) :: mkF a f (k + 1) t
  | k, some r :: t => .ref (a r) :: mkF a f (k + 1) t
def gE (a : Nat → Nat) (C : Nat → ClassId) (h : HS) (i : Nat) : va_E := match lay i with
  | .inl o => .inr (o.1, mkF a (fI h i) 0 o.2)
  | .inr (.inl n) => .inl (C 0, n, .inl (aI h i))
  | .inr (.inr (.inl n)) => .inl (C 1, n, .inr (.inl (aL h i)))
  | .inr (.inr (.inr r)) => .inl (C (2 + r.1), r.2.length, .inr (.inr (.inr (.inr (fun j => (r.2[j]?).map a)))))
/-- the world: 83 cells, the number i at the address a i -/
def gw (a : Nat → Nat) (C : Nat → ClassId) (h : HS) : va_W := (List.range 83).map (fun i => (a i, gE a C h i))
def gO (i ci : Nat) (sl : List (Option Nat)) : Prop := i < 83 ∧ lay i = .inl (ci, sl)
def gAI (i n : Nat) : Prop := i < 83 ∧ lay i = .inr (.inl n)
def gAL (i n : Nat) : Prop := i < 83 ∧ lay i = .inr (.inr (.inl n))
def gAR (i t : Nat) (ids : List Nat) : Prop := i < 83 ∧ lay i = .inr (.inr (.inr (t, ids)))
def isPar (b : Nat) : Prop := b = 5 ∨ b = 20 ∨ b = 35
def isLin (b : Nat) : Prop := b = 6 ∨ b = 21 ∨ b = 36
def isShf (b : Nat) : Prop := b = 50 ∨ b = 52 ∨ b = 54 ∨ b = 56 ∨ b = 58 ∨ b = 60 ∨ b = 62 ∨ b = 64
def isShO (r : Option Nat) : Prop := ∀ t, r = some t → isShf t
def isRow (b : Nat) : Prop := b = 67 ∨ b = 68 ∨ b = 69 ∨ b = 70
def isPer (b : Nat) : Prop := ∃ ci, ci < 11 ∧ gO b ci []
def isKnd (b : Nat) : Prop := ∃ p k, isPar p ∧ k < 8 ∧ b = p + 5 + k
theorem X_O : gO 0 11 [some 5, some 20, some 35, none, some 1, some 2, some 3, some 4] := ⟨by decide, rfl⟩
theorem M_O : gO 66 12 [some 67, some 68, some 69, some 70, none, none, none, none, some 71, some 72, some 73, some 74, some 75, none, some 76, some 77, some 78, some 79, some 80, some 81, none] := ⟨by decide, rfl⟩
theorem X_sh : gAR 1 1 [50, 52, 54, 56, 58, 60, 62, 64] := ⟨by decide, rfl⟩
theorem par_O {b : Nat} (h : isPar b) : gO b 5 [some (b + 1), some (b + 4), some (b + 13), some (b + 14), none, none, none] := by rcases h with rfl | rfl | rfl <;> exact ⟨by decide, rfl⟩
theorem par_lin {b : Nat} (h : isPar b) : isLin (b + 1) := by rcases h with rfl | rfl | rfl <;> simp [isLin]
theorem par_ks {b : Nat} (h : isPar b) : gAR (b + 4) 0 [b + 5, b + 6, b + 7, b + 8, b + 9, b + 10, b + 11, b + 12] := by rcases h with rfl | rfl | rfl <;> exact ⟨by decide, rfl⟩
theorem par_kd {b : Nat} (h : isPar b) : gAI (b + 13) 9 := by rcases h with rfl | rfl | rfl <;> exact ⟨by decide, rfl⟩
theorem par_fg {b : Nat} (h : isPar b) : gAI (b + 14) 9 := by rcases h with rfl | rfl | rfl <;> exact ⟨by decide, rfl⟩
theorem lin_O {b : Nat} (h : isLin b) : gO b 4 [none, some (b + 1), some (b + 2)] := by rcases h with rfl | rfl | rfl <;> exact ⟨by decide, rfl⟩
theorem lin_kn {b : Nat} (h : isLin b) : gAI (b + 1) 9 := by rcases h with rfl | rfl | rfl <;> exact ⟨by decide, rfl⟩
theorem lin_be {b : Nat} (h : isLin b) : gAI (b + 2) 512 := by rcases h with rfl | rfl | rfl <;> exact ⟨by decide, rfl⟩
theorem shf_O {b : Nat} (h : isShf b) : gO b 7 [none, none, none, none, none, some (b + 1)] := by rcases h with rfl | rfl | rfl | rfl | rfl | rfl | rfl | rfl <;> exact ⟨by decide, rfl⟩
theorem shf_el {b : Nat} (h : isShf b) : gAI (b + 1) 100 := by rcases h with rfl | rfl | rfl | rfl | rfl | rfl | rfl | rfl <;> exact ⟨by decide, rfl⟩
theorem row_A {b : Nat} (h : isRow b) : gAI b 30 := by rcases h with rfl | rfl | rfl | rfl <;> exact ⟨by decide, rfl⟩
theorem isPar5 : isPar 5 := Or.inl rfl
theorem isPar20 : isPar 20 := Or.inr (Or.inl rfl)
theorem isPar35 : isPar 35 := Or.inr (Or.inr rfl)
theorem isShO_none : isShO none := fun _ h => by cases h
theorem isShO_some {t : Nat} (h : isShf t) : isShO (some t) := fun _ e => Option.some.inj e ▸ h
theorem lt8 {i : Int32} (h : vp_in i 8) : i.toNatClampNeg < 8 := Nat.not_le.mp fun q => h (Or.inr q)
theorem shf_of {i : Int32} (h : vp_in i 8) : isShf (50 + 2 * i.toNatClampNeg) := by have := lt8 h; unfold isShf; omega
theorem knd_of {b : Nat} {i : Int32} (hb : isPar b) (h : vp_in i 8) : isKnd (b + 5 + i.toNatClampNeg) := ⟨b, _, hb, lt8 h, rfl⟩
theorem knd_per {b : Nat} (h : isKnd b) : isPer b := by
  obtain ⟨p, k, hp, hk, rfl⟩ := h
  have key : ∀ k, k < 8 → ∃ ci, ci < 11 ∧ gO (5 + 5 + k) ci [] ∧ gO (20 + 5 + k) ci [] ∧ gO (35 + 5 + k) ci [] := by
    intro k hk
    match k, hk with
    | 0, _ => exact ⟨6, by decide, ⟨by decide, rfl⟩, ⟨by decide, rfl⟩, ⟨by decide, rfl⟩⟩
    | 1, _ => exact ⟨8, by decide, ⟨by decide, rfl⟩, ⟨by decide, rfl⟩, ⟨by decide, rfl⟩⟩
    | 2, _ => exact ⟨2, by decide, ⟨by decide, rfl⟩, ⟨by decide, rfl⟩, ⟨by decide, rfl⟩⟩
    | 3, _ => exact ⟨3, by decide, ⟨by decide, rfl⟩, ⟨by decide, rfl⟩, ⟨by decide, rfl⟩⟩
    | 4, _ => exact ⟨10, by decide, ⟨by decide, rfl⟩, ⟨by decide, rfl⟩, ⟨by decide, rfl⟩⟩
    | 5, _ => exact ⟨9, by decide, ⟨by decide, rfl⟩, ⟨by decide, rfl⟩, ⟨by decide, rfl⟩⟩
    | 6, _ => exact ⟨0, by decide, ⟨by decide, rfl⟩, ⟨by decide, rfl⟩, ⟨by decide, rfl⟩⟩
    | 7, _ => exact ⟨1, by decide, ⟨by decide, rfl⟩, ⟨by decide, rfl⟩, ⟨by decide, rfl⟩⟩
    | k + 8, h => exact absurd h (by omega)
  obtain ⟨ci, h0, h1, h2, h3⟩ := key k hk
  rcases hp with rfl | rfl | rfl
  · exact ⟨ci, h0, h1⟩
  · exact ⟨ci, h0, h2⟩
  · exact ⟨ci, h0, h3⟩
theorem gw_at {a : Nat → Nat} {C : Nat → ClassId} {h : HS} {i : Nat} (hi : i < 83) : (gw a C h)[i]? = some (a i, gE a C h i) := by simp [gw, hi]
theorem gw_O {a : Nat → Nat} {C : Nat → ClassId} {h : HS} {i ci : Nat} {sl : List (Option Nat)} (o : gO i ci sl) : (gw a C h)[i]? = some (a i, .inr (ci, mkF a (fI h i) 0 sl)) := by rw [gw_at o.1]; simp only [gE, o.2]
theorem gw_I {a : Nat → Nat} {C : Nat → ClassId} {h : HS} {i n : Nat} (o : gAI i n) : (gw a C h)[i]? = some (a i, .inl (C 0, n, .inl (aI h i))) := by rw [gw_at o.1]; simp only [gE, o.2]
theorem gw_L {a : Nat → Nat} {C : Nat → ClassId} {h : HS} {i n : Nat} (o : gAL i n) : (gw a C h)[i]? = some (a i, .inl (C 1, n, .inr (.inl (aL h i)))) := by rw [gw_at o.1]; simp only [gE, o.2]
theorem gw_R {a : Nat → Nat} {C : Nat → ClassId} {h : HS} {i t : Nat} {ids : List Nat} (o : gAR i t ids) : (gw a C h)[i]? = some (a i, .inl (C (2 + t), ids.length, .inr (.inr (.inr (.inr (fun j => (ids[j]?).map a)))))) := by rw [gw_at o.1]; simp only [gE, o.2]
theorem gw_set {a : Nat → Nat} {C : Nat → ClassId} {h h1 : HS} {i : Nat} {x : va_E} (hx : gE a C h1 i = x) (he : ∀ j, j ≠ i → gE a C h1 j = gE a C h j) : (gw a C h).set i (a i, x) = gw a C h1 := by
  apply List.ext_getElem?
  intro j
  rw [List.getElem?_set]
  subst hx
  by_cases hj : i = j
  · subst hj
    by_cases hi : i < 83
    · rw [if_pos rfl, if_pos (by simpa [gw] using hi), gw_at hi]
    · rw [if_pos rfl, if_neg (by simpa [gw] using hi)]
      simp [gw, hi]
  · rw [if_neg hj]
    by_cases hi : j < 83
    · rw [gw_at hi, gw_at hi, he j (fun q => hj q.symm)]
    · simp [gw, hi]
theorem mkF_congr {a : Nat → Nat} {f g : Nat → Int32} : ∀ (sl : List (Option Nat)) (k : Nat), (∀ j, k ≤ j → f j = g j) → mkF a f k sl = mkF a g k sl := by
  intro sl
  induction sl with
  | nil => intro k _; rfl
  | cons x t ih =>
    intro k hk
    cases x with
    | none => simp only [mkF]; rw [hk k (Nat.le_refl _), ih (k + 1) (fun j hj => hk j (by omega))]
    | some r => simp only [mkF]; rw [ih (k + 1) (fun j hj => hk j (by omega))]
theorem mkF_set {a : Nat → Nat} {v : Int32} : ∀ (sl : List (Option Nat)) (f : Nat → Int32) (j k : Nat), sl[k]? = some none → (mkF a f j sl).set k (.int v) = mkF a (fun k1 => if k1 = j + k then v else f k1) j sl := by
  intro sl
  induction sl with
  | nil => intro f j k h; simp at h
  | cons x t ih =>
    intro f j k h
    cases k with
    | zero =>
      have hx : x = none := by simpa using h
      subst hx
      simp only [mkF, List.set_cons_zero, Nat.add_zero, if_true]
      rw [mkF_congr t (j + 1) (f := f) (g := fun k1 => if k1 = j then v else f k1) (fun i hi => by rw [if_neg (by omega)])]
    | succ k =>
      have h1 : t[k]? = some none := by simpa using h
      cases x with
      | none => simp only [mkF, List.set_cons_succ]; rw [ih f (j + 1) k h1, if_neg (by omega)]; simp only [show j + 1 + k = j + (k + 1) from by omega]
      | some r => simp only [mkF, List.set_cons_succ]; rw [ih f (j + 1) k h1]; simp only [show j + 1 + k = j + (k + 1) from by omega]
theorem fI_sF_self (h : HS) (o k : Nat) (v : Int32) : fI (sF h o k v) o = fun k1 => if k1 = 0 + k then v else fI h o k1 := by funext k1; simp [fI, sF]
theorem gw_sF {a : Nat → Nat} {C : Nat → ClassId} {h : HS} {i ci k : Nat} {sl : List (Option Nat)} {v : Int32} (o : gO i ci sl) (hk : sl[k]? = some none) : (gw a C h).set i (a i, .inr (ci, (mkF a (fI h i) 0 sl).set k (.int v))) = gw a C (sF h i k v) := by
  refine gw_set ?_ ?_
  · simp only [gE, o.2]
    rw [mkF_set sl _ 0 k hk, fI_sF_self]
  · intro j hj
    have e : fI (sF h i k v) j = fI h j := by funext k1; simp [fI, sF, hj]
    simp only [gE, e]
    rfl
theorem gw_sA {a : Nat → Nat} {C : Nat → ClassId} {h : HS} {i n : Nat} {f : Nat → Int32} (o : gAI i n) : (gw a C h).set i (a i, .inl (C 0, n, .inl f)) = gw a C (sA h i f) := by
  refine gw_set ?_ ?_
  · simp only [gE, o.2]
    simp [aI, sA]
  · intro j hj
    have e : aI (sA h i f) j = aI h j := by simp [aI, sA, hj]
    simp only [gE, e]
    rfl
theorem gw_sL {a : Nat → Nat} {C : Nat → ClassId} {h : HS} {i n : Nat} {f : Nat → Int64} (o : gAL i n) : (gw a C h).set i (a i, .inl (C 1, n, .inr (.inl f))) = gw a C (sL h i f) := by
  refine gw_set ?_ ?_
  · simp only [gE, o.2]
    simp [aL, sL]
  · intro j hj
    have e : aL (sL h i f) j = aL h j := by simp [aL, sL, hj]
    simp only [gE, e]
    rfl
def ginj (a : Nat → Nat) : Prop := ∀ i j, i < 83 → j < 83 → a i = a j → i = j
def gA (a : Nat → Nat) : Nat → Prop := fun q => ∃ i, i < 83 ∧ q = a i
theorem gw_inv {a : Nat → Nat} {C : Nat → ClassId} {h : HS} {i : Nat} {q : Nat × va_E} (hq : (gw a C h)[i]? = some q) : i < 83 ∧ q.1 = a i := by
  by_cases hi : i < 83
  · rw [gw_at hi] at hq
    exact ⟨hi, by rw [← Option.some.inj hq]⟩
  · simp [gw, hi] at hq
theorem gD {a : Nat → Nat} (ha : ginj a) (C : Nat → ClassId) (h : HS) : va_D (gA a) (gw a C h) := by
  refine ⟨fun i j p q hp hq e => ?_, fun k q hq => ?_⟩
  · obtain ⟨h1, h2⟩ := gw_inv hp
    obtain ⟨h3, h4⟩ := gw_inv hq
    exact ha i j h1 h3 (by rw [← h2, ← h4]; exact e)
  · obtain ⟨h1, h2⟩ := gw_inv hq
    exact ⟨k, h1, h2⟩
def gty (C : Nat → ClassId) : List (ClassId × FieldType) := [(C 0, .int), (C 1, .long), (C 2, .object RX6), (C 3, .object RX7)]
/-- links between nest mates: they stand in the tables, but not among the words of a contract -/
def gNF : List (String × Nat × String × String × String × String) := [("MoreThanSheHas", 100, "MoreThanSheHas$Parish", "day", "I", "MoreThanSheHas"), ("MoreThanSheHas", 118, "MoreThanSheHas$Shelf", "kind", "I", "MoreThanSheHas"), ("MoreThanSheHas", 121, "MoreThanSheHas$Shelf", "figure", "I", "MoreThanSheHas"), ("MoreThanSheHas", 181, "MoreThanSheHas$Parish", "deaf", "I", "MoreThanSheHas"), ("MoreThanSheHas", 297, "MoreThanSheHas$Shelf", "sort", "I", "MoreThanSheHas"), ("MoreThanSheHas", 304, "MoreThanSheHas$Shelf", "elements", "[I", "MoreThanSheHas"), ("MoreThanSheHas", 80, "MoreThanSheHas$Parish", "lines", "LMoreThanSheHas$Lines;", "MoreThanSheHas"), ("MoreThanSheHas", 92, "MoreThanSheHas$Parish", "heard", "I", "MoreThanSheHas"), ("MoreThanSheHas$Parish", 73, "MoreThanSheHas$Lines", "people", "I", "MoreThanSheHas")]
def gNM : List (String × Nat × MethodName × String) := [("MoreThanSheHas", 11, ⟨"MoreThanSheHas$Parish", "<init>", "()V"⟩, "MoreThanSheHas"), ("MoreThanSheHas", 39, ⟨"MoreThanSheHas$Shelf", "<init>", "()V"⟩, "MoreThanSheHas"), ("MoreThanSheHas$Bell", 1, ⟨"MoreThanSheHas$Vicar", "<init>", "()V"⟩, "MoreThanSheHas"), ("MoreThanSheHas$Deaf", 1, ⟨"MoreThanSheHas$Hermit", "<init>", "()V"⟩, "MoreThanSheHas"), ("MoreThanSheHas$Gossip", 1, ⟨"MoreThanSheHas$Person", "<init>", "()V"⟩, "MoreThanSheHas"), ("MoreThanSheHas$Hermit", 1, ⟨"MoreThanSheHas$Shy", "<init>", "()V"⟩, "MoreThanSheHas"), ("MoreThanSheHas$Parish", 100, ⟨"MoreThanSheHas", "isKind", "(I)Z"⟩, "MoreThanSheHas"), ("MoreThanSheHas$Parish", 104, ⟨"MoreThanSheHas", "isFigure", "(I)Z"⟩, "MoreThanSheHas"), ("MoreThanSheHas$Parish", 11, ⟨"MoreThanSheHas$Lines", "<init>", "()V"⟩, "MoreThanSheHas"), ("MoreThanSheHas$Parish", 20, ⟨"MoreThanSheHas$Person", "<init>", "()V"⟩, "MoreThanSheHas"), ("MoreThanSheHas$Parish", 23, ⟨"MoreThanSheHas$Shy", "<init>", "()V"⟩, "MoreThanSheHas"), ("MoreThanSheHas$Parish", 26, ⟨"MoreThanSheHas$Gossip", "<init>", "()V"⟩, "MoreThanSheHas"), ("MoreThanSheHas$Parish", 29, ⟨"MoreThanSheHas$Hermit", "<init>", "()V"⟩, "MoreThanSheHas"), ("MoreThanSheHas$Parish", 32, ⟨"MoreThanSheHas$Vicar", "<init>", "()V"⟩, "MoreThanSheHas"), ("MoreThanSheHas$Parish", 35, ⟨"MoreThanSheHas$Snob", "<init>", "()V"⟩, "MoreThanSheHas"), ("MoreThanSheHas$Parish", 38, ⟨"MoreThanSheHas$Bell", "<init>", "()V"⟩, "MoreThanSheHas"), ("MoreThanSheHas$Parish", 41, ⟨"MoreThanSheHas$Deaf", "<init>", "()V"⟩, "MoreThanSheHas"), ("MoreThanSheHas$Shy", 1, ⟨"MoreThanSheHas$Person", "<init>", "()V"⟩, "MoreThanSheHas"), ("MoreThanSheHas$Snob", 1, ⟨"MoreThanSheHas$Shy", "<init>", "()V"⟩, "MoreThanSheHas"), ("MoreThanSheHas$Vicar", 1, ⟨"MoreThanSheHas$Gossip", "<init>", "()V"⟩, "MoreThanSheHas")]
def nestOK (s : State) : Prop := (∀ t ∈ gNF, va_Nw (.fieldLinkNest t.1 t.2.1 t.2.2.1 t.2.2.2.1 t.2.2.2.2.1 t.2.2.2.2.2) s) ∧ ∀ t ∈ gNM, va_Nw (.methodLinkNest t.1 t.2.1 t.2.2.1 t.2.2.2) s
theorem nest_warm {s U : State} (h : nestOK s) (hW : s.WarmedH U.vm) : nestOK U := ⟨fun t ht => va_Nw.warmF hW (h.1 t ht), fun t ht => va_Nw.warmM hW (h.2 t ht)⟩
theorem nest_same {s U : State} (h : nestOK s) (hv : s.vm = U.vm) : nestOK U := ⟨fun t ht => va_tabs rfl hv (h.1 t ht), fun t ht => va_tabs rfl hv (h.2 t ht)⟩
def gPre (a : Nat → Nat) (C : Nat → ClassId) (D : va_G) (h : HS) (U : State) : Prop := va_P D vwCl (gw a C h) U.heap ∧ va_K D vwCl (gty C) U ∧ nestOK U
def gQ (ret : Option Value) (D : va_G) (a : Nat → Nat) (C : Nat → ClassId) (h : HS) : Array Value → State → Outcome → State → Prop := fun _ st o t => o = .returned ret ∧ va_P D vwCl (gw a C h) t.heap ∧ va_F (gA a) st t
/-- a method that makes no cell: from the abstract heap h it returns ret, behind it the heap is h1 -/
def gM (l : Launch) (y : MethodName) (ws : List Cond) (rm : Room) (D : va_G) (a : Nat → Nat) (C : Nat → ClassId) (av : List Value) (h : HS) (ret : Option Value) (h1 : HS) : Prop :=
  Met l y ws rm (va_Pc av (gPre a C D h)) (gQ ret D a C h1) 0 0 (gA a)
theorem g_blind {av : List Value} {a : Nat → Nat} {C : Nat → ClassId} {D : va_G} {h : HS} : FrameBlind (va_Pc av (gPre a C D h)) := fun x U g mk q => ⟨q.1, q.2.1, va_K.moved (u := U) (U := U.calling g mk x) (Vm.Alike.refl U.vm) q.2.2.1, nest_same q.2.2.2 rfl⟩
theorem g_pre {av : List Value} {a : Nat → Nat} {C : Nat → ClassId} {D : va_G} {h : HS} {s : State} {H : Heap} (hP : va_P D vwCl (gw a C h) H) (hK : va_K D vwCl (gty C) s) (hN : nestOK s) : ∀ U : State, U.heap = H → s.WarmedH U.vm → va_Pc av (gPre a C D h) av.toArray U := fun U hU hW => ⟨rfl, by rw [hU]; exact hP, va_K.moved hW.alike hK, nest_warm hN hW⟩
section GROWS
variable {p : Program} {l : Launch} {e : Env} {R : Room} {s : State} {m : MethodId} {args : Array Value} {below : List Frame} {meth : Method} {c : Code} {H H0 : Heap} {locs : List Loc} {cells slots : Nat} {Q : State → Prop} {A0 : Nat → Prop}
variable {cc : ByteArray} {pc : Nat} {ls : Array Slot} {rest st0 : List Value} {D : va_G} {a : Nat → Nat} {C : Nat → ClassId} {h h1 : HS} {Ts : List Cond} {own : String}
theorem g_start {y : MethodName} {ws ws' : List Cond} {rm : Room} {av : List Value} {ret : Option Value} {maxL : Nat} {rt : Option FieldType} (hy : plainName y.cls = true) (hw : ws = Cond.code y cc maxL rt :: ws') (hlen : (lg_sl av).length ≤ maxL)
    (body : ∀ (p : Program) (e : Env) (s : State) (m : MethodId) (below : List Frame) (meth : Method) (c : Code), p.tables.exec = Jvm.exec → c.code = cc → meth.sig.returnType = rt → c.maxLocals = maxL → s.vm.findClass y.cls = some m.cls → meth.locks = false → (∀ w ∈ ws, w.before av.toArray s = true) → va_P D vwCl (gw a C h) s.heap → va_K D vwCl (gty C) s → nestOK s → ∀ ls : Array Slot, lv_has ls maxL (lv_args 0 av) →
      W p l e (headSpec ws rm).room s m av.toArray below meth c s.heap [] 0 0 (MQ below (gQ ret D a C h1) av.toArray s 0 0 (gA a)) (F0 m 0 ls [])) : gM l y ws rm D a C av h ret h1 := by
  refine Met.ofW (cc := cc) (maxL := maxL) (ret := rt) hy hw ?_
  intro p e s m args below meth c s₁ B hml hv
  obtain ⟨rfl, hP, hK, hN⟩ := hv
  have hl := lv_entry av (n := maxL) hlen
  rw [lg_entry_eq]
  exact body p e s m below meth c B.exec B.bytes B.returns hml (findClass_of_methodNamed B.named) B.notSynchronized (atoms_spec (ws := ws) B.pre) hP hK hN _ hl
theorem g_callR {ret : Option Value} {aa : Array Value} (hr : va_Run p l e R s m args below meth c H locs cells slots 0 0 (F0 m pc ls st0) rest (gQ ret D a C h1 aa) (gA a)) (hS : va_S A0 H0 H locs) (hA : ∀ q, gA a q → A0 q)
    (kk : ∀ (H1 : Heap) (locs1 : List Loc), va_P D vwCl (gw a C h1) H1 → va_S A0 H0 H1 locs1 → W p l e R s m args below meth c H1 locs1 cells slots Q (F0 m (pc + 3) ls (ret.toList ++ rest))) : W p l e R s m args below meth c H locs cells slots Q (F0 m pc ls st0) := by
  intro T hT X
  obtain ⟨v, st₀, t, T', L, h0, X', hL, e1, e2, ⟨hv, hP1, hz, hk⟩, st⟩ := hr T hT X
  have hv' : v = ret := by cases hv; rfl
  subst hv'
  rw [h0] at hz hk
  obtain ⟨t2, a1, b1⟩ := kk T'.heap (locs ++ L) (by rw [e1]; exact hP1)
    ⟨Nat.le_trans hS.1 (by rw [e1]; exact hz), fun q h1 h2 => by rw [e1, hk q (Nat.lt_of_lt_of_le h1 hS.1) (fun z => h2 (hA q z))]; exact hS.2.1 q h1 h2, fun q hq => by
      rcases List.mem_append.mp hq with h | h
      · exact hS.2.2 q h
      · exact hA _ (hL q h)⟩ T' rfl X'
  exact ⟨t2, st t2 a1, b1⟩
variable {y : MethodName} {bytes : ByteArray} {maxL nL n index : Nat} {rt : Option FieldType} {ws : List Cond} {rm : Room} {ret : Option Value} {As : List Value}
theorem g_callV {Cn : String} {b ci : Nat} {sl : List (Option Nat)} {q : vw_C} (hx : p.tables.exec = Jvm.exec) (hb : c.code = cc) (hml : c.maxLocals = nL) (hown : s.vm.findClass own = some m.cls) (hts : ∀ w ∈ Ts, w.before args s = true) (hK : va_K D vwCl (gty C) s) (hN : nestOK s)
    (hM : gM l y ws rm D a C (.ref (a b) :: As) h ret h1) (cw : CallW R s args own Cn index y bytes maxL rt ws rm 0 0 n) (ho : gO b ci sl) (hc : vwCl[ci]? = some q) (hq : q.1 = Cn) (hP : va_P D vwCl (gw a C h) H) (hS : va_S A0 H0 H locs) (hA : ∀ q, gA a q → A0 q)
    (hn : As.length = n) (hsz : ls.size = nL) (hst : st0 = As.reverse ++ .ref (a b) :: rest) (hroom : (rest.map fun v => v.category).sum ≤ 8) (hdg : decode cc pc = .ok (.invokevirtual index, 3)) (hf : cells + 0 ≤ R.cells ∧ slots + 0 ≤ R.slots)
    (kk : ∀ (H1 : Heap) (locs1 : List Loc), va_P D vwCl (gw a C h1) H1 → va_S A0 H0 H1 locs1 → W p l e R s m args below meth c H1 locs1 cells slots Q (F0 m (pc + 3) ls (ret.toList ++ rest))) : W p l e R s m args below meth c H locs cells slots Q (F0 m pc ls st0) :=
  g_callR (va_runV (As := As) (rest := rest) ⟨hx, hb, hml, hown, hts⟩ hM cw ⟨g_blind, hq ▸ va_recv hK hP hc (gw_O ho), g_pre hP hK hN⟩ rfl hn hsz hst (lv_room hroom) hdg hf) hS hA kk
theorem g_callS (hx : p.tables.exec = Jvm.exec) (hb : c.code = cc) (hml : c.maxLocals = nL) (hown : s.vm.findClass own = some m.cls) (hts : ∀ w ∈ Ts, w.before args s = true) (hK : va_K D vwCl (gty C) s) (hN : nestOK s)
    (hM : gM l y ws rm D a C As h ret h1) (cw : CallB R s args own index y bytes maxL rt ws rm 0 0 n ∧ (Cond.static y).before args s = true) (hP : va_P D vwCl (gw a C h) H) (hS : va_S A0 H0 H locs) (hA : ∀ q, gA a q → A0 q)
    (hn : As.length = n) (hsz : ls.size = nL) (hst : st0 = As.reverse ++ rest) (hroom : (rest.map fun v => v.category).sum ≤ 8) (hdg : decode cc pc = .ok (.invokestatic index, 3)) (hf : cells + 0 ≤ R.cells ∧ slots + 0 ≤ R.slots)
    (kk : ∀ (H1 : Heap) (locs1 : List Loc), va_P D vwCl (gw a C h1) H1 → va_S A0 H0 H1 locs1 → W p l e R s m args below meth c H1 locs1 cells slots Q (F0 m (pc + 3) ls (ret.toList ++ rest))) : W p l e R s m args below meth c H locs cells slots Q (F0 m pc ls st0) :=
  g_callR (va_runS (As := As) (rest := rest) ⟨hx, hb, hml, hown, hts⟩ hM cw ⟨g_blind, g_pre hP hK hN⟩ rfl hn hsz hst (lv_room hroom) hdg hf) hS hA kk
theorem g_callSN {host : String} (hx : p.tables.exec = Jvm.exec) (hb : c.code = cc) (hml : c.maxLocals = nL) (hown : s.vm.findClass own = some m.cls) (hts : ∀ w ∈ Ts, w.before args s = true) (hK : va_K D vwCl (gty C) s) (hN : nestOK s)
    (hM : gM l y ws rm D a C As h ret h1) (cw : va_CN R s args own index y host bytes maxL rt ws rm 0 0 n) (hstat : (Cond.static y).before args s = true) (hP : va_P D vwCl (gw a C h) H) (hS : va_S A0 H0 H locs) (hA : ∀ q, gA a q → A0 q)
    (hn : As.length = n) (hsz : ls.size = nL) (hst : st0 = As.reverse ++ rest) (hroom : (rest.map fun v => v.category).sum ≤ 8) (hdg : decode cc pc = .ok (.invokestatic index, 3)) (hf : cells + 0 ≤ R.cells ∧ slots + 0 ≤ R.slots)
    (kk : ∀ (H1 : Heap) (locs1 : List Loc), va_P D vwCl (gw a C h1) H1 → va_S A0 H0 H1 locs1 → W p l e R s m args below meth c H1 locs1 cells slots Q (F0 m (pc + 3) ls (ret.toList ++ rest))) : W p l e R s m args below meth c H locs cells slots Q (F0 m pc ls st0) :=
  g_callR (va_runSN (As := As) (rest := rest) ⟨hx, hb, hml, hown, hts⟩ hM ⟨cw, hstat, trivial⟩ ⟨g_blind, g_pre hP hK hN⟩ rfl hn hsz hst (lv_room hroom) hdg hf) hS hA kk
theorem g_callU {x : MethodName} {Cn owner : String} {b ci : Nat} {sl : List (Option Nat)} {q : vw_C} (hx : p.tables.exec = Jvm.exec) (hb : c.code = cc) (hml : c.maxLocals = nL) (hown : s.vm.findClass own = some m.cls) (hts : ∀ w ∈ Ts, w.before args s = true) (hK : va_K D vwCl (gty C) s) (hN : nestOK s)
    (hM : gM l y ws rm D a C (.ref (a b) :: As) h ret h1) (cw : va_CU R s args own Cn owner index x y bytes maxL rt ws rm 0 0 n) (ho : gO b ci sl) (hc : vwCl[ci]? = some q) (hq : q.1 = Cn) (hP : va_P D vwCl (gw a C h) H) (hS : va_S A0 H0 H locs) (hA : ∀ q, gA a q → A0 q)
    (hn : As.length = n) (hsz : ls.size = nL) (hst : st0 = As.reverse ++ .ref (a b) :: rest) (hroom : (rest.map fun v => v.category).sum ≤ 8) (hdg : decode cc pc = .ok (.invokevirtual index, 3)) (hf : cells + 0 ≤ R.cells ∧ slots + 0 ≤ R.slots)
    (kk : ∀ (H1 : Heap) (locs1 : List Loc), va_P D vwCl (gw a C h1) H1 → va_S A0 H0 H1 locs1 → W p l e R s m args below meth c H1 locs1 cells slots Q (F0 m (pc + 3) ls (ret.toList ++ rest))) : W p l e R s m args below meth c H locs cells slots Q (F0 m pc ls st0) :=
  g_callR (va_runU (As := As) (rest := rest) ⟨hx, hb, hml, hown, hts⟩ hM cw ⟨g_blind, hq ▸ va_recv hK hP hc (gw_O ho), g_pre hP hK hN⟩ rfl hn hsz hst (lv_room hroom) hdg hf) hS hA kk
theorem g_callSU {b ci : Nat} {sl : List (Option Nat)} {q : vw_C} (hx : p.tables.exec = Jvm.exec) (hb : c.code = cc) (hml : c.maxLocals = nL) (hown : s.vm.findClass own = some m.cls) (hts : ∀ w ∈ Ts, w.before args s = true) (hK : va_K D vwCl (gty C) s) (hN : nestOK s)
    (hM : gM l y ws rm D a C (.ref (a b) :: As) h ret h1) (cw : va_CS R s args own index y bytes maxL rt ws rm 0 0 n) (ho : gO b ci sl) (hc : vwCl[ci]? = some q) (hP : va_P D vwCl (gw a C h) H) (hS : va_S A0 H0 H locs) (hA : ∀ q, gA a q → A0 q)
    (hn : As.length = n) (hsz : ls.size = nL) (hst : st0 = As.reverse ++ .ref (a b) :: rest) (hroom : (rest.map fun v => v.category).sum ≤ 8) (hdg : decode cc pc = .ok (.invokespecial index, 3)) (hf : cells + 0 ≤ R.cells ∧ slots + 0 ≤ R.slots)
    (kk : ∀ (H1 : Heap) (locs1 : List Loc), va_P D vwCl (gw a C h1) H1 → va_S A0 H0 H1 locs1 → W p l e R s m args below meth c H1 locs1 cells slots Q (F0 m (pc + 3) ls (ret.toList ++ rest))) : W p l e R s m args below meth c H locs cells slots Q (F0 m pc ls st0) :=
  g_callR (va_runSU (As := As) (rest := rest) (hK.1 ci q hc).2 ⟨hx, hb, hml, hown, hts⟩ hM cw ⟨g_blind, va_recv hK hP hc (gw_O ho), g_pre hP hK hN⟩ rfl hn hsz hst (lv_room hroom) hdg hf) hS hA kk
theorem g_get {Cn ref : String} {T : u_T} {N : Nat} {i ci : Nat} {sl : List (Option Nat)} (hx : p.tables.exec = Jvm.exec) (hb : c.code = cc) (hown : s.vm.findClass own = some m.cls) (hts : ∀ w ∈ Ts, w.before args s = true) (hK : va_K D vwCl (gty C) s) (ho : gO i ci sl) (hc : vwCl[ci]? = some (Cn, T, N)) (hin : ∀ w ∈ u_ws Cn T N, w ∈ Ts)
    (k : Nat) (hk : k < N) (hlink : Cond.fieldLink own index ref (T k).2.1 (T k).2.2.1 ∈ Ts) (hsame : (T k).1 = ref) {v : Value} (hv : (mkF a (fI h i) 0 sl)[k]? = some v) (hP : va_P D vwCl (gw a C h) H) (hdg : decode cc pc = .ok (.getfield index, 3))
    (kk : W p l e R s m args below meth c H locs cells slots Q (F0 m (pc + 3) ls (v :: rest))) : W p l e R s m args below meth c H locs cells slots Q (F0 m pc ls (.ref (a i) :: rest)) :=
  va_get hx hb hts hin hown hK hP i (gw_O ho) hc k hk (hts _ hlink) (fun _ z => hsame ▸ z) hv hdg kk
theorem g_getN {Cn ref host : String} {T : u_T} {N : Nat} {i ci : Nat} {sl : List (Option Nat)} (hx : p.tables.exec = Jvm.exec) (hb : c.code = cc) (hown : s.vm.findClass own = some m.cls) (hts : ∀ w ∈ Ts, w.before args s = true) (hK : va_K D vwCl (gty C) s) (hN : nestOK s) (ho : gO i ci sl) (hc : vwCl[ci]? = some (Cn, T, N)) (hin : ∀ w ∈ u_ws Cn T N, w ∈ Ts)
    (k : Nat) (hk : k < N) (hlink : (own, index, ref, (T k).2.1, (T k).2.2.1, host) ∈ gNF) (hsame : (T k).1 = ref) {v : Value} (hv : (mkF a (fI h i) 0 sl)[k]? = some v) (hP : va_P D vwCl (gw a C h) H) (hdg : decode cc pc = .ok (.getfield index, 3))
    (kk : W p l e R s m args below meth c H locs cells slots Q (F0 m (pc + 3) ls (v :: rest))) : W p l e R s m args below meth c H locs cells slots Q (F0 m pc ls (.ref (a i) :: rest)) :=
  va_getN hx hb hts hin hown hK hP i (gw_O ho) hc k hk (va_Nw.use rfl (hN.1 _ hlink)) (fun _ z => hsame ▸ z) hv hdg kk
theorem mkF_len {a : Nat → Nat} {f : Nat → Int32} : ∀ (sl : List (Option Nat)) (k : Nat), (mkF a f k sl).length = sl.length := by
  intro sl
  induction sl with
  | nil => intro k; rfl
  | cons x t ih => intro k; cases x <;> simp [mkF, ih]
theorem some_lt {α : Type} {l : List α} {k : Nat} {x : α} (h : l[k]? = some x) : k < l.length := (List.getElem?_eq_some_iff.mp h).1
theorem g_put {Cn ref : String} {T : u_T} {N : Nat} {i ci : Nat} {sl : List (Option Nat)} {ty0 : Nat → FieldType} (hx : p.tables.exec = Jvm.exec) (hb : c.code = cc) (hown : s.vm.findClass own = some m.cls) (hts : ∀ w ∈ Ts, w.before args s = true) (hK : va_K D vwCl (gty C) s) (ha : ginj a) (hA : ∀ q, gA a q → A0 q) (ho : gO i ci sl) (hc : vwCl[ci]? = some (Cn, T, N)) (hin : ∀ w ∈ u_ws Cn T N, w ∈ Ts)
    (hty : ∀ k, k < N → parseFieldDescriptor (T k).2.2.1 = some (ty0 k)) (hnm : ∀ a, a < N → ∀ b, b < N → a ≠ b → (T a).2.1 ≠ (T b).2.1)
    (k : Nat) (hk : k < N) (hlink : Cond.fieldLink own index ref (T k).2.1 (T k).2.2.1 ∈ Ts) (hsame : (T k).1 = ref) (hfin : (T k).2.2.2 = false) (hs : sl[k]? = some none) {v : Int32} (hn : narrow (ty0 k) (.int v) = .int v) (hfit : fits (ty0 k) (.int v) = true) (hP : va_P D vwCl (gw a C h) H) (hS : va_S A0 H0 H locs) (hdg : decode cc pc = .ok (.putfield index, 3))
    (kk : ∀ (H1 : Heap) (locs1 : List Loc), va_P D vwCl (gw a C (sF h i k v)) H1 → va_S A0 H0 H1 locs1 → W p l e R s m args below meth c H1 locs1 cells slots Q (F0 m (pc + 3) ls rest)) : W p l e R s m args below meth c H locs cells slots Q (F0 m pc ls (.int v :: .ref (a i) :: rest)) :=
  va_put hx hb hts hin ty0 hty hnm hown hK hP ((gD ha C h).weaken (fun _ q _ z => hA q.1 z)) hS i (gw_O ho) hc k hk (hts _ hlink) (fun _ z => hsame ▸ z) hfin (hty k hk) hn hfit (by rw [mkF_len]; exact some_lt hs) hdg (fun H1 locs1 hP1 _ hS1 => kk H1 locs1 (by rw [← gw_sF ho hs]; exact hP1) hS1)
theorem g_putN {Cn ref host : String} {T : u_T} {N : Nat} {i ci : Nat} {sl : List (Option Nat)} {ty0 : Nat → FieldType} (hx : p.tables.exec = Jvm.exec) (hb : c.code = cc) (hown : s.vm.findClass own = some m.cls) (hts : ∀ w ∈ Ts, w.before args s = true) (hK : va_K D vwCl (gty C) s) (hN : nestOK s) (ha : ginj a) (hA : ∀ q, gA a q → A0 q) (ho : gO i ci sl) (hc : vwCl[ci]? = some (Cn, T, N)) (hin : ∀ w ∈ u_ws Cn T N, w ∈ Ts)
    (hty : ∀ k, k < N → parseFieldDescriptor (T k).2.2.1 = some (ty0 k)) (hnm : ∀ a, a < N → ∀ b, b < N → a ≠ b → (T a).2.1 ≠ (T b).2.1)
    (k : Nat) (hk : k < N) (hlink : (own, index, ref, (T k).2.1, (T k).2.2.1, host) ∈ gNF) (hsame : (T k).1 = ref) (hfin : (T k).2.2.2 = false) (hs : sl[k]? = some none) {v : Int32} (hn : narrow (ty0 k) (.int v) = .int v) (hfit : fits (ty0 k) (.int v) = true) (hP : va_P D vwCl (gw a C h) H) (hS : va_S A0 H0 H locs) (hdg : decode cc pc = .ok (.putfield index, 3))
    (kk : ∀ (H1 : Heap) (locs1 : List Loc), va_P D vwCl (gw a C (sF h i k v)) H1 → va_S A0 H0 H1 locs1 → W p l e R s m args below meth c H1 locs1 cells slots Q (F0 m (pc + 3) ls rest)) : W p l e R s m args below meth c H locs cells slots Q (F0 m pc ls (.int v :: .ref (a i) :: rest)) :=
  va_putN hx hb hts hin ty0 hty hnm hown hK hP ((gD ha C h).weaken (fun _ q _ z => hA q.1 z)) hS i (gw_O ho) hc k hk (va_Nw.use rfl (hN.1 _ hlink)) (fun _ z => hsame ▸ z) hfin (hty k hk) hn hfit (by rw [mkF_len]; exact some_lt hs) hdg (fun H1 locs1 hP1 _ hS1 => kk H1 locs1 (by rw [← gw_sF ho hs]; exact hP1) hS1)
theorem g_ial {i n : Nat} {j : Int32} (hx : p.tables.exec = Jvm.exec) (hb : c.code = cc) (hK : va_K D vwCl (gty C) s) (ho : gAI i n) (hin : vp_in j n) (hP : va_P D vwCl (gw a C h) H) (hdg : decode cc pc = .ok (.iaload, 1))
    (kk : W p l e R s m args below meth c H locs cells slots Q (F0 m (pc + 1) ls (.int (aI h i j.toNatClampNeg) :: rest))) : W p l e R s m args below meth c H locs cells slots Q (F0 m pc ls (.int j :: .ref (a i) :: rest)) :=
  va_iald hx hb hK hP i 0 (gw_I ho) rfl hin hdg kk
theorem g_lal {i n : Nat} {j : Int32} (hx : p.tables.exec = Jvm.exec) (hb : c.code = cc) (hK : va_K D vwCl (gty C) s) (ho : gAL i n) (hin : vp_in j n) (hP : va_P D vwCl (gw a C h) H) (hdg : decode cc pc = .ok (.laload, 1))
    (kk : W p l e R s m args below meth c H locs cells slots Q (F0 m (pc + 1) ls (.long (aL h i j.toNatClampNeg) :: rest))) : W p l e R s m args below meth c H locs cells slots Q (F0 m pc ls (.int j :: .ref (a i) :: rest)) :=
  va_lald hx hb hK hP i 1 (gw_L ho) rfl hin hdg kk
theorem g_aalK {i : Nat} {ids : List Nat} {j : Int32} {r : Nat} (hx : p.tables.exec = Jvm.exec) (hb : c.code = cc) (hK : va_K D vwCl (gty C) s) (ho : gAR i 0 ids) (hin : vp_in j ids.length) (hr : ids[j.toNatClampNeg]? = some r) (hP : va_P D vwCl (gw a C h) H) (hdg : decode cc pc = .ok (.aaload, 1))
    (kk : W p l e R s m args below meth c H locs cells slots Q (F0 m (pc + 1) ls (.ref (a r) :: rest))) : W p l e R s m args below meth c H locs cells slots Q (F0 m pc ls (.int j :: .ref (a i) :: rest)) :=
  va_aldq hx hb hK hP i 2 (gw_R ho) rfl hin hdg (by simp only [hr, Option.map_some, va_rf]; exact kk)
theorem g_aalS {i : Nat} {ids : List Nat} {j : Int32} {r : Nat} (hx : p.tables.exec = Jvm.exec) (hb : c.code = cc) (hK : va_K D vwCl (gty C) s) (ho : gAR i 1 ids) (hin : vp_in j ids.length) (hr : ids[j.toNatClampNeg]? = some r) (hP : va_P D vwCl (gw a C h) H) (hdg : decode cc pc = .ok (.aaload, 1))
    (kk : W p l e R s m args below meth c H locs cells slots Q (F0 m (pc + 1) ls (.ref (a r) :: rest))) : W p l e R s m args below meth c H locs cells slots Q (F0 m pc ls (.int j :: .ref (a i) :: rest)) :=
  va_aldq hx hb hK hP i 3 (gw_R ho) rfl hin hdg (by simp only [hr, Option.map_some, va_rf]; exact kk)
theorem g_alenI {i n : Nat} {v : Int32} (hx : p.tables.exec = Jvm.exec) (hb : c.code = cc) (hK : va_K D vwCl (gty C) s) (ho : gAI i n) (hv : Int32.ofNat n = v) (hP : va_P D vwCl (gw a C h) H) (hdg : decode cc pc = .ok (.arraylength, 1))
    (kk : W p l e R s m args below meth c H locs cells slots Q (F0 m (pc + 1) ls (.int v :: rest))) : W p l e R s m args below meth c H locs cells slots Q (F0 m pc ls (.ref (a i) :: rest)) :=
  va_alen hx hb hK hP i 0 (gw_I ho) rfl hv hdg kk
theorem g_alenL {i n : Nat} {v : Int32} (hx : p.tables.exec = Jvm.exec) (hb : c.code = cc) (hK : va_K D vwCl (gty C) s) (ho : gAL i n) (hv : Int32.ofNat n = v) (hP : va_P D vwCl (gw a C h) H) (hdg : decode cc pc = .ok (.arraylength, 1))
    (kk : W p l e R s m args below meth c H locs cells slots Q (F0 m (pc + 1) ls (.int v :: rest))) : W p l e R s m args below meth c H locs cells slots Q (F0 m pc ls (.ref (a i) :: rest)) :=
  va_alen hx hb hK hP i 1 (gw_L ho) rfl hv hdg kk
theorem g_alenK {i : Nat} {ids : List Nat} {v : Int32} (hx : p.tables.exec = Jvm.exec) (hb : c.code = cc) (hK : va_K D vwCl (gty C) s) (ho : gAR i 0 ids) (hv : Int32.ofNat ids.length = v) (hP : va_P D vwCl (gw a C h) H) (hdg : decode cc pc = .ok (.arraylength, 1))
    (kk : W p l e R s m args below meth c H locs cells slots Q (F0 m (pc + 1) ls (.int v :: rest))) : W p l e R s m args below meth c H locs cells slots Q (F0 m pc ls (.ref (a i) :: rest)) :=
  va_alen hx hb hK hP i 2 (gw_R ho) rfl hv hdg kk
theorem g_alenS {i : Nat} {ids : List Nat} {v : Int32} (hx : p.tables.exec = Jvm.exec) (hb : c.code = cc) (hK : va_K D vwCl (gty C) s) (ho : gAR i 1 ids) (hv : Int32.ofNat ids.length = v) (hP : va_P D vwCl (gw a C h) H) (hdg : decode cc pc = .ok (.arraylength, 1))
    (kk : W p l e R s m args below meth c H locs cells slots Q (F0 m (pc + 1) ls (.int v :: rest))) : W p l e R s m args below meth c H locs cells slots Q (F0 m pc ls (.ref (a i) :: rest)) :=
  va_alen hx hb hK hP i 3 (gw_R ho) rfl hv hdg kk
theorem g_ias {i n : Nat} {j v : Int32} (hx : p.tables.exec = Jvm.exec) (hb : c.code = cc) (hK : va_K D vwCl (gty C) s) (ha : ginj a) (hA : ∀ q, gA a q → A0 q) (ho : gAI i n) (hin : vp_in j n) (hP : va_P D vwCl (gw a C h) H) (hS : va_S A0 H0 H locs) (hdg : decode cc pc = .ok (.iastore, 1))
    (kk : ∀ (H1 : Heap) (locs1 : List Loc), va_P D vwCl (gw a C (sA h i (upd (aI h i) j.toNatClampNeg v))) H1 → va_S A0 H0 H1 locs1 → W p l e R s m args below meth c H1 locs1 cells slots Q (F0 m (pc + 1) ls rest)) : W p l e R s m args below meth c H locs cells slots Q (F0 m pc ls (.int v :: .int j :: .ref (a i) :: rest)) :=
  va_iast hx hb hK hP ((gD ha C h).weaken (fun _ q _ z => hA q.1 z)) hS i 0 (gw_I ho) rfl hin hdg (fun H1 locs1 hP1 _ hS1 => kk H1 locs1 (by rw [← gw_sA ho]; exact hP1) hS1)
theorem g_las {i n : Nat} {j : Int32} {v : Int64} (hx : p.tables.exec = Jvm.exec) (hb : c.code = cc) (hK : va_K D vwCl (gty C) s) (ha : ginj a) (hA : ∀ q, gA a q → A0 q) (ho : gAL i n) (hin : vp_in j n) (hP : va_P D vwCl (gw a C h) H) (hS : va_S A0 H0 H locs) (hdg : decode cc pc = .ok (.lastore, 1))
    (kk : ∀ (H1 : Heap) (locs1 : List Loc), va_P D vwCl (gw a C (sL h i (vp_updL (aL h i) j.toNatClampNeg v))) H1 → va_S A0 H0 H1 locs1 → W p l e R s m args below meth c H1 locs1 cells slots Q (F0 m (pc + 1) ls rest)) : W p l e R s m args below meth c H locs cells slots Q (F0 m pc ls (.long v :: .int j :: .ref (a i) :: rest)) :=
  va_last hx hb hK hP ((gD ha C h).weaken (fun _ q _ z => hA q.1 z)) hS i 1 (gw_L ho) rfl hin hdg (fun H1 locs1 hP1 _ hS1 => kk H1 locs1 (by rw [← gw_sL ho]; exact hP1) hS1)
end GROWS
