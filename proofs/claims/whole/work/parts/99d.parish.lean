/-! parish -/
/-- k statements from a on: where it fails, or what the parish becomes -/
def run (tk : Nat → Nat) : Nat → Nat → PS → Nat ⊕ PS
  | 0, _, s => .inr s
  | k + 1, a, s => match sty (tk a) (tk (a + 1) - 48) (tk (a + 2) - 48) (tk (a + 3) - 48) s with
    | none => .inl a
    | some s1 => run tk k (nx tk a) s1
theorem bind_id {β : Type} (o : Option (β × HS)) : (o.bind fun q => some (q.1, q.2)) = o := by cases o <;> rfl
theorem sb_lt {tk : Nat → Nat} {a i : Nat} (e : sb tk a = some i) : i ≤ a + 4 := by
  unfold sb at e
  have hd := dgb_le (tk a)
  by_cases z : dgb (tk a) = 0
  · rw [if_pos z] at e
    have : a = i := by simpa using e
    omega
  · rw [if_neg z] at e
    have hn : ∀ m k, nd tk k m = some i → i < k + m := by
      intro m
      induction m with
      | zero => intro k e; rw [nd] at e; exact absurd e (by simp)
      | succ m ih2 =>
        intro k e
        rw [nd] at e
        by_cases z : dig (tk k) = true
        · rw [if_pos z] at e
          have := ih2 (k + 1) e
          omega
        · rw [if_neg z] at e
          have : k = i := by simpa using e
          omega
    cases e2 : nd tk (a + 1) (dgb (tk a)) with
    | some j =>
      rw [e2] at e
      have : j = i := by simpa using e
      subst this
      have := hn _ _ e2
      omega
    | none =>
      rw [e2] at e
      by_cases y : tk (a + 1 + dgb (tk a)) = 59
      · simp [y] at e
      · simp [y] at e
        omega
theorem sb_xyz {tk : Nat → Nat} {a : Nat} (h : sb tk a = none) : isL (tk a) ∧ tk (a + 1) - 48 < 10 ∧ (tk (a + 2) - 48 < 10 ∨ tk a = 104) ∧ (tk (a + 3) - 48 < 10 ∨ tk a ≠ 107) := by
  obtain ⟨hd, h1⟩ := sb_dig h
  have hL := isL_of hd
  refine ⟨hL, ?_, ?_, ?_⟩
  · have := h1 0 (by omega)
    rw [Nat.add_zero] at this
    omega
  · rcases hL with z | z | z | z | z
    · have := h1 1 (by rw [z]; decide)
      exact Or.inl (by show tk (a + 1 + 1) - 48 < 10; omega)
    · exact Or.inr z
    · have := h1 1 (by rw [z]; decide)
      exact Or.inl (by show tk (a + 1 + 1) - 48 < 10; omega)
    · have := h1 1 (by rw [z]; decide)
      exact Or.inl (by show tk (a + 1 + 1) - 48 < 10; omega)
    · have := h1 1 (by rw [z]; decide)
      exact Or.inl (by show tk (a + 1 + 1) - 48 < 10; omega)
  · by_cases z : tk a = 107
    · have := h1 2 (by rw [z]; decide)
      exact Or.inl (by show tk (a + 1 + 2) - 48 < 10; omega)
    · exact Or.inr z
section CPAR
variable {h t : HS} {q ho so le : Nat} {el : Nat → Int32} {tk : Nat → Nat} {ch : Nat → Int32} {sh : Nat}
theorem c_CT (S : ShP h q ho so le el) : CT h (50 + 2 * q) le (chv le el) := by
  have hle := S.2.2.2.1.2.2
  refine ⟨c_size S, fun i hi => ?_⟩
  unfold chv
  by_cases z : i < le
  · rw [if_pos z]; exact c_at S z
  · rw [if_neg z]
    unfold X7_at X7_hasPlace
    rw [S.2.2.2.1.1, if_neg (nI_pos (by omega)), if_pos (nI_le (by omega) (by omega))]
    rfl
theorem c_happens (T : TKc tk ch) (C : CT t sh le ch) {a : Nat} (ha : a < 150) (h : sb tk a = none) {s : PS} (W : PSw s) (P : PSl t 20 s) :
    (∃ s1 r t1, sty (tk a) (tk (a + 1) - 48) (tk (a + 2) - 48) (tk (a + 3) - 48) s = some s1 ∧ X11_happens t sh (nI a) = some (r, t1) ∧ 0 ≤ r ∧ PSl t1 20 s1 ∧ FrB 20 t t1) ∨ (∃ r, sty (tk a) (tk (a + 1) - 48) (tk (a + 2) - 48) (tk (a + 3) - 48) s = none ∧ X11_happens t sh (nI a) = some (r, t) ∧ ¬ 0 ≤ r) := by
  obtain ⟨hL, hx, hy, hz⟩ := sb_xyz h
  obtain ⟨hd, h1⟩ := sb_dig h
  refine c_stmt hL W P hx hy hz ?_
  have dg : ∀ i, 48 ≤ tk i → ch i - 48 = nI (tk i - 48) := fun i hi => by
    rw [show ch i = nI (tk i) by rw [ch_eq T (by omega) (T i).1], L48, pk_sub hi]
  have hx1 : 48 ≤ tk (a + 1) := by
    have := h1 0 (by omega)
    rw [Nat.add_zero] at this
    omega
  have e0 : X11_happens t sh (nI a) = (if ch a = 100 then X5_goOn t 20 ((10 * nI (tk (a + 1) - 48)) + (ch (a + 2) - 48)) else if ch a = 104 then X5_inform t 20 (nI (tk (a + 1) - 48)) else if ch a = 107 then X5_change t 20 (nI (tk (a + 1) - 48)) (ch (a + 2) - 48) (ch (a + 3) - 48) else if ch a = 108 then X5_join t 20 (nI (tk (a + 1) - 48)) (ch (a + 2) - 48) else if ch a = 112 then X5_arrive t 20 (nI (tk (a + 1) - 48)) (ch (a + 2) - 48) else some ((-1), t)) := by
    unfold X11_happens
    rw [show nI a + 1 = nI (a + 1) from nI_add a 1, show nI a + 2 = nI (a + 2) from nI_add a 2, show nI a + 3 = nI (a + 3) from nI_add a 3, C.2 _ (by omega), C.2 _ (by omega), C.2 _ (by omega), C.2 _ (by omega)]
    simp only [nm, Option.bind_some, bind_id]
    rw [dg _ hx1]
  have ec : ∀ c, 0 < c → c < 128 → (ch a = nI c) = (tk a = c) := fun c h0 h2 => ch_eq T h0 h2
  rw [e0]
  rcases hL with z | z | z | z | z
  · have y := h1 1 (by rw [z]; decide)
    have y1 : 48 ≤ tk (a + 2) := y.1
    rw [if_pos (show ch a = 100 by rw [show (100 : Int32) = nI 100 from rfl, ec 100 (by decide) (by decide)]; exact z), if_pos z, dg _ y1, L10, pk_mul, nI_add]
  · have e : ch a = nI 104 := by rw [ec 104 (by decide) (by decide)]; exact z
    rw [e, z, if_neg (show ¬ nI 104 = 100 by decide), if_pos (show nI 104 = 104 from rfl), if_neg (by decide), if_pos rfl]
  · have e : ch a = nI 107 := by rw [ec 107 (by decide) (by decide)]; exact z
    have y := h1 1 (by rw [z]; decide)
    have y1 : 48 ≤ tk (a + 2) := y.1
    have y2 := h1 2 (by rw [z]; decide)
    have y3 : 48 ≤ tk (a + 3) := y2.1
    rw [e, z, if_neg (show ¬ nI 107 = 100 by decide), if_neg (show ¬ nI 107 = 104 by decide), if_pos (show nI 107 = 107 from rfl), if_neg (by decide), if_neg (by decide), if_pos rfl, dg _ y1, dg _ y3]
  · have e : ch a = nI 108 := by rw [ec 108 (by decide) (by decide)]; exact z
    have y := h1 1 (by rw [z]; decide)
    have y1 : 48 ≤ tk (a + 2) := y.1
    rw [e, z, if_neg (show ¬ nI 108 = 100 by decide), if_neg (show ¬ nI 108 = 104 by decide), if_neg (show ¬ nI 108 = 107 by decide), if_pos (show nI 108 = 108 from rfl), if_neg (by decide), if_neg (by decide), if_neg (by decide), if_pos rfl, dg _ y1]
  · have e : ch a = nI 112 := by rw [ec 112 (by decide) (by decide)]; exact z
    have y := h1 1 (by rw [z]; decide)
    have y1 : 48 ≤ tk (a + 2) := y.1
    rw [e, z, if_neg (show ¬ nI 112 = 100 by decide), if_neg (show ¬ nI 112 = 104 by decide), if_neg (show ¬ nI 112 = 107 by decide), if_neg (show ¬ nI 112 = 108 by decide), if_pos (show nI 112 = 112 from rfl), if_neg (by decide), if_neg (by decide), if_neg (by decide), if_neg (by decide), dg _ y1]
theorem c_second (hq : q < 8) (S : ShP h q ho so le el) (T : TKc tk (chv le el)) (h0 : ∀ i, le ≤ i → tk i = 0) {v1 : Int32} : ∀ k a s t c fu, wfT tk le k a → PSw s → PSl t 20 s → Keep h t → k < fu →
    (∃ s1 t1, run tk k a s = .inr s1 ∧ X11_parish_B52 v1 fu (50 + 2 * q) (nI c) (nI a) t = some (nI (c + k), t1) ∧ PSw s1 ∧ PSl t1 5 s1 ∧ KeepG nwA nwF h t1 ∧ aI t1 67 = aI h 67) ∨ (∃ i t1, run tk k a s = .inl i ∧ X11_parish_B52 v1 fu (50 + 2 * q) (nI c) (nI a) t = some (-2000 - nI i, t1) ∧ Keep h t1) := by
  have hle := S.2.2.2.1.2.2
  intro k
  induction k with
  | zero =>
    intro a s t c fu hw W P K hf
    obtain ⟨fu, rfl⟩ : ∃ f, fu = f + 1 := ⟨fu - 1, by omega⟩
    have ha : a = le := hw
    subst ha
    obtain ⟨t1, e1, P1, f1⟩ := c_become (b := 5) (s := 20) (Or.inl rfl) (Or.inr (Or.inl rfl)) (by decide) P
    refine Or.inl ⟨s, t1, rfl, ?_, W, P1, K.n.trans f1.n, by rw [f1.row, K.row]⟩
    rw [X11_parish_B52, c_size (K.shelf hq S), Option.bind_some, if_pos (nI_le (by omega) (by omega)), e1]
    rfl
  | succ k ih =>
    intro a s t c fu hw W P K hf
    obtain ⟨fu, rfl⟩ : ∃ f, fu = f + 1 := ⟨fu - 1, by omega⟩
    obtain ⟨w1, w2, w3⟩ := hw
    have St := K.shelf hq S
    obtain ⟨hL, hx, hy, hz⟩ := sb_xyz w2
    rw [run]
    rcases c_happens T (c_CT St) (show a < 150 by omega) w2 W P with ⟨s1, r, t1, e1, e2, e3, P1, f1⟩ | ⟨r, e1, e2, e3⟩
    · have K1 : Keep h t1 := K.trans f1.keep
      have S1 := K1.shelf hq S
      have W1 := sty_w hL W hx hy hz e1
      have en : nI a + (2 + nI (dgb (tk a))) = nI (nx tk a) := by
        rw [L2, nI_add, nI_add, show a + (2 + dgb (tk a)) = nx tk a by unfold nx; omega]
      have eB : X11_parish_B52 v1 (fu + 1) (50 + 2 * q) (nI c) (nI a) t = X11_parish_B52 v1 fu (50 + 2 * q) (nI (c + 1)) (nI (nx tk a)) t1 := by
        rw [X11_parish_B52, c_size St, Option.bind_some, if_neg (nI_ge w1 (by omega)), e2, Option.bind_some, if_pos e3]
        simp only [nm]
        rw [(c_CT S1).2 a (by omega), Option.bind_some, ch_digits T, Option.bind_some, en, L1, nI_add]
      rw [eB, e1, show c + (k + 1) = c + 1 + k by omega]
      exact ih (nx tk a) s1 t1 (c + 1) fu w3 W1 P1 K1 (by omega)
    · have eB : X11_parish_B52 v1 (fu + 1) (50 + 2 * q) (nI c) (nI a) t = some (-2000 - nI a, t) := by
        rw [X11_parish_B52, c_size St, Option.bind_some, if_neg (nI_ge w1 (by omega)), e2, Option.bind_some, if_neg e3]
      rw [eB, e1]
      exact Or.inr ⟨a, t, rfl, rfl, K⟩
end CPAR
section MPAR
variable {q le : Nat} {el : Nat → Int32} {tk : Nat → Nat} {v1 : Int32}
theorem m1000 : ∀ i, i < 200 → (-1000 - nI i) ≠ 0 := by decide +kernel
theorem m2000 : ∀ i, i < 200 → (-2000 - nI i) ≠ 0 := by decide +kernel
theorem nm_go {α β : Type} (x : α) (f : α → β) : nm x f = f x := rfl
theorem m_b41_bad {c : Int32} {fu i : Nat} {t t1 : HS} (e : X12_readsStatement t = some (nI false.toNat, t1)) (hi : i < 200) (hp : fI t1 66 5 = nI i) : X12_parish_B41 v1 (fu + 1) c 0 t = X12_parish_B77 v1 (c + 1) (-1000 - nI i) t1 := by
  rw [X12_parish_B41, e, Option.bind_some, if_pos (show nI false.toNat = 0 from rfl), nm_go, hp]
  have hne := m1000 i hi
  generalize -1000 - nI i = F at hne ⊢
  unfold X12_parish_B58
  rw [nm_go, if_neg hne]
theorem m_b41_ok {c : Int32} {fu p le : Nat} {t t1 : HS} (e : X12_readsStatement t = some (nI true.toNat, t1)) (hp : fI t1 66 5 = nI p) (hl : fI t1 66 7 = nI le) (h : p ≤ le) (hle : le ≤ 100) : X12_parish_B41 v1 (fu + 1) c 0 t = if p = le then X12_parish_B77 v1 (c + 1) 0 t1 else X12_parish_B41 v1 fu (c + 1) 0 t1 := by
  rw [X12_parish_B41, e, Option.bind_some, if_neg (show ¬ nI true.toNat = 0 by decide)]
  unfold X12_parish_B58
  rw [nm_go, if_pos rfl, hp, hl]
  by_cases z : p = le
  · rw [if_neg (nI_nlt (by omega) (by omega)), if_pos z]
  · rw [if_pos (nI_lt (by omega) (by omega)), if_neg z]
theorem m_first (hq : q < 8) (hle : le ≤ 100) (T : TKm tk (hrv le el)) (h0 : ∀ i, le ≤ i → tk i = 0) : ∀ f a c fu t, a ≤ le → le < a + 3 * f → f < fu → TX t q le el a →
    (∃ i b t1, pas tk le f a = .inl i ∧ i < 200 ∧ X12_parish_B41 v1 fu (nI c) 0 t = X12_parish_B77 v1 b (-1000 - nI i) t1 ∧ RS t t1) ∨ (∃ k t1, pas tk le f a = .inr k ∧ X12_parish_B41 v1 fu (nI c) 0 t = X12_parish_B77 v1 (nI (c + k)) 0 t1 ∧ RS t t1) := by
  intro f
  induction f with
  | zero => intro a c fu t h1 h2; exact absurd h2 (by omega)
  | succ f ih =>
    intro a c fu t ha hf hfu X
    obtain ⟨fu, rfl⟩ : ∃ f, fu = f + 1 := ⟨fu - 1, by omega⟩
    obtain ⟨t1, e1, R1, X1, _⟩ := m_reads hq hle T (show a < 120 by omega) X
    rw [pas]
    cases e : sb tk a with
    | some i =>
      rw [e] at X1 e1
      have hi := sb_lt e
      exact Or.inl ⟨i, nI c + 1, t1, rfl, by omega, m_b41_bad e1 (by omega) X1.2.2.1, R1⟩
    | none =>
      rw [e] at X1 e1
      obtain ⟨g1, g2, g3⟩ := sb_le h0 e
      have X1 : TX t1 q le el (nx tk a) := X1
      rw [m_b41_ok e1 X1.2.2.1 X1.2.1 g1 hle, show nI c + 1 = nI (c + 1) from nI_add c 1]
      by_cases z : nx tk a = le
      · simp only [if_pos z]
        exact Or.inr ⟨1, t1, rfl, rfl, R1⟩
      · simp only [if_neg z]
        rcases ih (nx tk a) (c + 1) fu t1 g1 (by omega) (by omega) X1 with ⟨i, b, t2, e2, e3, e4, R2⟩ | ⟨k, t2, e2, e3, R2⟩
        · rw [e2]
          exact Or.inl ⟨i, b, t2, rfl, e3, e4, R1.tr R2⟩
        · rw [e2]
          exact Or.inr ⟨k + 1, t2, rfl, by rw [e3, show c + 1 + k = c + (k + 1) by omega], R1.tr R2⟩
/-- only place, numbers and the parish have changed -/
def MS (t t1 : HS) : Prop := (∀ o k, ¬ (o = 66 ∧ k = 5) → fI t1 o k = fI t o k) ∧ ∀ o, o ≠ 71 → o ≠ 67 → aI t1 o = aI t o
theorem MS.tr {a b c : HS} (x : MS a b) (y : MS b c) : MS a c := ⟨fun o k q => (y.1 o k q).trans (x.1 o k q), fun o q r => (y.2 o q r).trans (x.2 o q r)⟩
theorem RS.ms {a b : HS} (x : RS a b) : MS a b := ⟨x.1, fun o q _ => x.2 o q⟩
theorem MS.s {a b : HS} (x : MS a b) {f : Nat → Int32} : MS a (sA b 67 f) := x.tr ⟨fun _ _ _ => rfl, fun _ _ q => aI_sA_ne q⟩
theorem MS.n {a b : HS} (x : MS a b) : KeepG nwA nwF a b := by
  refine ⟨fun o k q => x.1 o k (fun e => ?_), fun o q _ => x.2 o (fun e => ?_) (fun e => ?_), by rw [x.2 8 (by decide) (by decide)]⟩
  · rw [e.1, e.2] at q; exact absurd q (by decide)
  · rw [e] at q; exact absurd q (by decide)
  · rw [e] at q; exact absurd q (by decide)
theorem TX.ms {t t1 : HS} {p p1 : Nat} (X : TX t q le el p) (R : MS t t1) (h : fI t1 66 5 = nI p1) : TX t1 q le el p1 :=
  ⟨(R.1 _ _ (by decide)).trans X.1, (R.1 _ _ (by decide)).trans X.2.1, h, fun i hi => by rw [R.2 81 (by decide) (by decide)]; exact X.2.2.2 i hi⟩
theorem m_second (hq : q < 8) (hle : le ≤ 100) (T : TKm tk (hrv le el)) (h0 : ∀ i, le ≤ i → tk i = 0) {V : Int32} : ∀ k a s t fu, wfT tk le k a → PSw s → PSr (aI t 67) s → TX t q le el a → k < fu →
    (∃ s1 t1, run tk k a s = .inr s1 ∧ X12_parish_B93 v1 fu V 0 t = some (V, t1) ∧ PSr (aI t1 67) s1 ∧ MS t t1) ∨ (∃ i t1, run tk k a s = .inl i ∧ X12_parish_B93 v1 fu V 0 t = some (-2000 - nI i, t1) ∧ (∀ j, j < 30 → aI t1 67 j = aI t 70 j) ∧ MS t t1) := by
  intro k
  induction k with
  | zero =>
    intro a s t fu hw W R X hf
    obtain ⟨fu, rfl⟩ : ∃ f, fu = f + 1 := ⟨fu - 1, by omega⟩
    have ha : a = le := hw
    subst ha
    refine Or.inl ⟨s, t, rfl, ?_, R, RS.rf.ms⟩
    rw [X12_parish_B93, if_pos rfl, X.2.2.1, X.2.1, if_pos (nI_le (by omega) (by omega))]
    rfl
  | succ k ih =>
    intro a s t fu hw W R X hf
    obtain ⟨fu, rfl⟩ : ∃ f, fu = f + 1 := ⟨fu - 1, by omega⟩
    obtain ⟨w1, w2, w3⟩ := hw
    obtain ⟨hL, hx, hy, hz⟩ := sb_xyz w2
    obtain ⟨t1, e1, R1, X1, N1⟩ := m_reads hq hle T (show a < 120 by omega) X
    rw [w2] at e1 X1
    have N1 := N1 w2
    have X1 : TX t1 q le el (nx tk a) := X1
    have ehr : hrv le el a = nI (tk a) := by
      rw [hr_eq T (by rcases hL with z | z | z | z | z <;> rw [z] <;> decide) (T a).1]
    have Rt1 : PSr (aI t1 67) s := by rw [R1.2 67 (by decide)]; exact R
    rw [X12_parish_B93, if_pos rfl, X.2.2.1, X.2.1, if_neg (nI_ge w1 (by omega)), m_here hq hle (by omega) X, e1]
    simp only [nm, Option.bind_some]
    rw [ehr, run]
    rcases m_stmt hL W Rt1 hx hy hz N1.1 N1.2.1 N1.2.2.1 N1.2.2.2 with ⟨s1, g, e2, e3, R2⟩ | ⟨e2, e3⟩
    · rw [e3, Option.bind_some, if_neg (show ¬ (1 : Int32) = 0 by decide), e2]
      have W1 := sty_w hL W hx hy hz e2
      have M1 : MS t (sA t1 67 g) := R1.ms.s
      rcases ih (nx tk a) s1 (sA t1 67 g) fu w3 W1 (by rw [aI_sA_eq]; exact R2) (X1.ms (RS.rf.ms.s) X1.2.2.1) (by omega) with ⟨s2, t2, f1, f2, f3, f4⟩ | ⟨i, t2, f1, f2, f3, f4⟩
      · exact Or.inl ⟨s2, t2, f1, f2, f3, M1.tr f4⟩
      · refine Or.inr ⟨i, t2, f1, f2, fun j hj => ?_, M1.tr f4⟩
        rw [f3 j hj, M1.2 70 (by decide) (by decide)]
    · obtain ⟨f, e4, hff⟩ := m_copies (h := t1) (show (70 : Nat) ≠ 67 by decide)
      rw [e3, Option.bind_some, if_pos rfl, e4, Option.bind_some, e2]
      obtain ⟨fu, rfl⟩ : ∃ f, fu = f + 1 := ⟨fu - 1, by omega⟩
      refine Or.inr ⟨a, sA t1 67 f, rfl, ?_, fun j hj => ?_, R1.ms.s⟩
      · rw [X12_parish_B93, if_neg (m2000 a (by omega))]
        unfold X12_parish_B161
        rw [if_neg (m2000 a (by omega))]
      · rw [aI_sA_eq, hff j hj, R1.2 70 (by decide)]
end MPAR
theorem S_parish {h : HS} (I : Inv h) (u : Int32) : ∃ r h1 h2, X11_parish h u = some (r, h1) ∧ X12_parish h1 u = some (r, h2) ∧ Inv h2 := by
  obtain ⟨n, kn, kd, fg, hd, dm, dy, N⟩ := id I.1
  rcases arg_in u 8 with ⟨k, h1, h2, rfl⟩ | hu
  · obtain ⟨ho, so, le, el, S⟩ := I.2.2.1 k h1
    have hle := S.2.2.2.1.2.2
    have e0 : X11_parish h (nI k) = (if rtf ho so = 0 then (X11_brokenAt h (50 + 2 * k)).bind fun q7 => (if q7 < 0 then (X5_become h 20 5).bind fun q9 => X11_parish_B52 (nI k) FU (50 + 2 * k) 0 0 q9 else some (((-1000) - q7), h)) else some (rtf ho so, h)) := by
      unfold X11_parish
      rw [c_shelf_in h1]
      show (X11_textRefusal h (some (50 + 2 * k))).bind _ = _
      rw [c_textRef S]; rfl
    have em : ∀ {t ho so le el}, ShP t k ho so le el → X12_parish t (nI k) = (if rtf ho so = 0 then X12_parish_B41 (nI k) FU 0 0 (sF (sF (sF t 66 6 (nI (100 * k))) 66 7 (nI le)) 66 5 0) else some (rtf ho so, t)) := by
      intro t ho so le el S
      unfold X12_parish
      rw [m_textRef h1 S, Option.bind_some, L100, pk_mul]
      simp only [nm]
      rw [gdi_n h1 (by omega), i_cl (show k < 2147483648 by omega), aI_sF, S.2.2.2.1.2.1]
    by_cases hz : rtf ho so = 0
    · have hso : so = 0 := by
        unfold rtf at hz
        by_cases z1 : ho = 0
        · rw [if_pos z1] at hz; exact absurd hz (by decide)
        · rw [if_neg z1] at hz
          by_cases z2 : ho = 2
          · rw [if_pos z2] at hz
            by_cases z3 : so = 0
            · exact z3
            · rw [if_neg z3] at hz; exact absurd hz (by decide)
          · rw [if_neg z2] at hz; exact absurd hz (by decide)
      obtain ⟨Tc, Tm⟩ := tk_ok (le := le) (el := el) (fun i hi => S.2.2.2.2.2 hso i (by omega))
      have h0 : ∀ i, le ≤ i → tkv le el i = 0 := fun i hi => by unfold tkv; rw [if_neg (by omega)]
      have hTX : ∀ {t : HS}, ShP t k ho so le el → TX (sF (sF (sF t 66 6 (nI (100 * k))) 66 7 (nI le)) 66 5 0) k le el 0 := fun {t} St => by
        refine ⟨?_, ?_, fI_sF_eq, fun i hi => (St.2.2.2.2.1 i hi).2⟩
        · rw [fI_sF_ne (by decide), fI_sF_ne (by decide), fI_sF_eq]
        · rw [fI_sF_ne (by decide), fI_sF_eq]
      have hK0 : ∀ {t : HS}, Keep t (sF (sF (sF t 66 6 (nI (100 * k))) 66 7 (nI le)) 66 5 0) := fun {t} => (((Keep.refl t).f (by decide)).f (by decide)).f (by decide)
      -- behind the first way through the text the model copies the parish
      have e77 : ∀ (b v : Int32) (t : HS), ∃ f, X12_parish_B77 (nI k) b v t = X12_parish_B93 (nI k) FU b v (sF (sA t 70 f) 66 5 0) ∧ ∀ j, j < 30 → f j = aI t 67 j := by
        intro b v t
        obtain ⟨f, e4, hff⟩ := m_copies (h := t) (show (67 : Nat) ≠ 70 by decide)
        refine ⟨f, ?_, hff⟩
        unfold X12_parish_B77
        rw [e4, Option.bind_some]
        rfl
      rw [e0, if_pos hz, c_broken Tc (c_CT S) hle h0, Option.bind_some]
      cases ep : pas (tkv le el) le 40 0 with
      | inl i =>
        rcases m_first (v1 := nI k) h1 hle Tm h0 40 0 0 FU (sF (sF (sF h 66 6 (nI (100 * k))) 66 7 (nI le)) 66 5 0) (by omega) (by omega) (FU_lt (by omega)) (hTX S) with ⟨i2, b, t1, f1, f2, f3, f4⟩ | ⟨k2, t1, f1, f2, f3⟩
        · rw [ep] at f1
          have : i = i2 := by simpa using f1
          subst this
          obtain ⟨f, g1, g2⟩ := e77 b (-1000 - nI i) t1
          refine ⟨-1000 - nI i, h, sF (sA t1 70 f) 66 5 0, ?_, ?_, ((((hK0).trans f4.keep).a (by decide)).f (by decide)).inv I⟩
          · rw [if_neg (nI_pos (by omega))]
          · rw [em S, if_pos hz]
            refine Eq.trans f3 (Eq.trans g1 ?_)
            rw [show FU = 999 + 1 from rfl, X12_parish_B93, if_neg (m1000 i f2)]
            unfold X12_parish_B161
            rw [if_neg (m1000 i f2)]
        · rw [ep] at f1; exact absurd f1 (by simp)
      | inr m =>
        obtain ⟨hm0, hwf⟩ := pas_wf h0 40 0 m ep
        have hwm : ∀ m a, wfT (tkv le el) le m a → a + 3 * m ≤ le := by
          intro m
          induction m with
          | zero => intro a hw; have : a = le := hw; omega
          | succ m ih =>
            intro a hw
            obtain ⟨w1, w2, w3⟩ := hw
            have := ih _ w3
            have := (sb_le h0 w2).2.1
            omega
        have hm := hwm m 0 hwf
        have W : PSw ((n, kn, kd, fg, hd, dm, dy) : PS) := ⟨N.1, N.2.1⟩
        obtain ⟨t0, b1, P0, fr0⟩ := c_become (h := h) (b := 20) (s := 5) (Or.inr (Or.inl rfl)) (Or.inl rfl) (by decide) N.2.2.1
        have K0 : Keep h t0 := fr0.keep
        rw [if_pos (show (-4 : Int32) < 0 by decide), b1, Option.bind_some]
        -- the model on a heap that keeps shelf and row
        have model : ∀ (t : HS), ShP t k ho so le el → PSr (aI t 67) ((n, kn, kd, fg, hd, dm, dy) : PS) →
            (∃ s1 t2, run (tkv le el) m 0 (n, kn, kd, fg, hd, dm, dy) = .inr s1 ∧ X12_parish t (nI k) = some (nI m, t2) ∧ PSr (aI t2 67) s1 ∧ KeepG nwA nwF t t2 ∧ (∀ o, o ≠ 71 → o ≠ 67 → o ≠ 70 → aI t2 o = aI t o) ∧ ∀ o k, o ≠ 66 → fI t2 o k = fI t o k) ∨ (∃ i t2, run (tkv le el) m 0 (n, kn, kd, fg, hd, dm, dy) = .inl i ∧ X12_parish t (nI k) = some (-2000 - nI i, t2) ∧ PSr (aI t2 67) ((n, kn, kd, fg, hd, dm, dy) : PS) ∧ KeepG nwA nwF t t2 ∧ (∀ o, o ≠ 71 → o ≠ 67 → o ≠ 70 → aI t2 o = aI t o) ∧ ∀ o k, o ≠ 66 → fI t2 o k = fI t o k) := by
          intro t St Rt
          rcases m_first (v1 := nI k) h1 hle Tm h0 40 0 0 FU (sF (sF (sF t 66 6 (nI (100 * k))) 66 7 (nI le)) 66 5 0) (by omega) (by omega) (FU_lt (by omega)) (hTX St) with ⟨i2, b, t1, f1, f2, f3, f4⟩ | ⟨k2, t1, f1, f3, f4⟩
          · rw [ep] at f1; exact absurd f1 (by simp)
          · rw [ep] at f1
            have : m = k2 := by simpa using f1
            subst this
            obtain ⟨f, g1, g2⟩ := e77 (nI (0 + m)) 0 t1
            have Kt : Keep t (sF (sA t1 70 f) 66 5 0) := (((hK0).trans f4.keep).a (by decide)).f (by decide)
            have R67 : aI (sF (sA t1 70 f) 66 5 0) 67 = aI t 67 := Kt.row
            have R70 : ∀ j, j < 30 → aI (sF (sA t1 70 f) 66 5 0) 70 j = aI t 67 j := fun j hj => by
              rw [aI_sF, aI_sA_eq, g2 j hj, f4.2 67 (by decide)]; rfl
            have fr1 : ∀ o, o ≠ 71 → o ≠ 67 → o ≠ 70 → aI (sF (sA t1 70 f) 66 5 0) o = aI t o := fun o a1 a2 a3 => by
              rw [aI_sF, aI_sA_ne a3, f4.2 o a1]; rfl
            have fr2 : ∀ o j, o ≠ 66 → fI (sF (sA t1 70 f) 66 5 0) o j = fI t o j := fun o j a1 => by
              rw [fI_sF_ne (fun e => a1 e.1), fI_sA, f4.1 o j (fun e => a1 e.1), fI_sF_ne (fun e => a1 e.1), fI_sF_ne (fun e => a1 e.1), fI_sF_ne (fun e => a1 e.1)]
            have X1 : TX (sF (sA t1 70 f) 66 5 0) k le el 0 := by
              have X0 := hTX St
              refine ⟨?_, ?_, fI_sF_eq, fun i hi => ?_⟩
              · rw [fI_sF_ne (by decide), fI_sA, f4.1 66 6 (by decide)]; exact X0.1
              · rw [fI_sF_ne (by decide), fI_sA, f4.1 66 7 (by decide)]; exact X0.2.1
              · rw [aI_sF, aI_sA_ne (by decide), f4.2 81 (by decide)]; exact X0.2.2.2 i hi
            have ex : X12_parish t (nI k) = X12_parish_B93 (nI k) FU (nI (0 + m)) 0 (sF (sA t1 70 f) 66 5 0) := by
              rw [em St, if_pos hz]
              exact Eq.trans f3 g1
            rw [Nat.zero_add] at ex
            rcases m_second (v1 := nI k) h1 hle Tm h0 (V := nI m) m 0 (n, kn, kd, fg, hd, dm, dy) (sF (sA t1 70 f) 66 5 0) FU hwf W (by rw [R67]; exact Rt) X1 (FU_lt (by omega)) with ⟨s1, t2, c1, c2, c3, c4⟩ | ⟨i, t2, c1, c2, c3, c4⟩
            · exact Or.inl ⟨s1, t2, c1, ex.trans c2, c3, Kt.n.trans c4.n, fun o a1 a2 a3 => (c4.2 o a1 a2).trans (fr1 o a1 a2 a3), fun o j a1 => (c4.1 o j (fun e => a1 e.1)).trans (fr2 o j a1)⟩
            · exact Or.inr ⟨i, t2, c1, ex.trans c2, RowP_congr (f := aI t 67) Rt (fun j hj => (c3 j hj).trans (R70 j hj)), Kt.n.trans c4.n, fun o a1 a2 a3 => (c4.2 o a1 a2).trans (fr1 o a1 a2 a3), fun o j a1 => (c4.1 o j (fun e => a1 e.1)).trans (fr2 o j a1)⟩
        have par : ∀ {t t2 : HS} {s : PS}, PSl t 5 s → (∀ o, o ≠ 71 → o ≠ 67 → o ≠ 70 → aI t2 o = aI t o) → (∀ o k, o ≠ 66 → fI t2 o k = fI t o k) → PSl t2 5 s := fun {t t2 s} P a b => by
          refine ⟨⟨(b _ _ (by decide)).trans P.1.1, fun p hp => ?_⟩, fun p hp => ?_, fun p hp => ?_, (b _ _ (by decide)).trans P.2.2.2.1, (b _ _ (by decide)).trans P.2.2.2.2.1, (b _ _ (by decide)).trans P.2.2.2.2.2⟩
          · rw [a _ (by decide) (by decide) (by decide)]; exact P.1.2 p hp
          · rw [a _ (by decide) (by decide) (by decide)]; exact P.2.1 p hp
          · rw [a _ (by decide) (by decide) (by decide)]; exact P.2.2.1 p hp
        rcases c_second (v1 := nI k) h1 S Tc h0 m 0 (n, kn, kd, fg, hd, dm, dy) t0 0 FU hwf W P0 K0 (FU_lt (by omega)) with ⟨s1, t1, c1, c2, W1, P1, G1, G67⟩ | ⟨i, t1, c1, c2, K1⟩
        · have S1 : ShP t1 k ho so le el := G1.shelf sh_nw (by decide) (by decide) h1 S
          have Rt : PSr (aI t1 67) ((n, kn, kd, fg, hd, dm, dy) : PS) := by rw [G67]; exact N.2.2.2
          rcases model t1 S1 Rt with ⟨s2, t2, d1, d2, d3, d4, d5, d6⟩ | ⟨i, t2, d1, d2, d3, d4, d5, d6⟩
          · rw [c1] at d1
            have : s1 = s2 := by simpa using d1
            subst this
            refine ⟨nI m, t1, t2, ?_, d2, I.n (G1.trans d4) W1.1 W1.2 (par P1 d5 d6) d3⟩
            rw [Nat.zero_add] at c2
            exact c2
          · rw [c1] at d1; exact absurd d1 (by simp)
        · have S1 : ShP t1 k ho so le el := K1.shelf h1 S
          have Rt : PSr (aI t1 67) ((n, kn, kd, fg, hd, dm, dy) : PS) := by rw [K1.row]; exact N.2.2.2
          rcases model t1 S1 Rt with ⟨s2, t2, d1, d2, d3, d4, d5, d6⟩ | ⟨i2, t2, d1, d2, d3, d4, d5, d6⟩
          · rw [c1] at d1; exact absurd d1 (by simp)
          · rw [c1] at d1
            have : i = i2 := by simpa using d1
            subst this
            exact ⟨-2000 - nI i, t1, t2, c2, d2, I.n (K1.n.trans d4) W.1 W.2 (par (K1.now N).2.2.1 d5 d6) d3⟩
    · exact ⟨rtf ho so, h, h, by rw [e0, if_neg hz], by rw [em S, if_neg hz], I⟩
  · refine ⟨-1, h, h, ?_, ?_, I⟩
    · unfold X11_parish
      rw [c_shelf_out hu]; rfl
    · unfold X12_parish
      rw [m_row_out hu]; rfl
