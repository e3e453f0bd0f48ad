/-! what a statement does to a parish -/
abbrev PS : Type := Nat × (Nat → Nat) × (Nat → Nat) × (Nat → Nat) × Nat × Nat × Nat
def PSw (s : PS) : Prop := WFp s.1 s.2.1 s.2.2.1 s.2.2.2.1 s.2.2.2.2.1 s.2.2.2.2.2.1 s.2.2.2.2.2.2 ∧ s.2.2.2.2.2.2 ≤ 999
def PSl (t : HS) (b : Nat) (s : PS) : Prop := ParL t b s.1 s.2.1 s.2.2.1 s.2.2.2.1 s.2.2.2.2.1 s.2.2.2.2.2.1 s.2.2.2.2.2.2
def PSr (f : Nat → Int32) (s : PS) : Prop := RowP f s.1 s.2.1 s.2.2.1 s.2.2.2.1 s.2.2.2.2.1 s.2.2.2.2.2.2
/-- a statement of the letter L with the digits x, y, z -/
def sty (L x y z : Nat) : PS → Option PS
  | (n, kn, kd, fg, hd, dm, dy) =>
    if L = 100 then (if 1 ≤ 10 * x + y ∧ 10 * x + y ≤ 60 ∧ dy + (10 * x + y) ≤ 999 then some (n, kn, kd, fg, ndays n kn kd fg dy (fun q => (0 : Nat).testBit q) 1 (10 * x + y) hd, dm, dy + (10 * x + y)) else none)
    else if L = 104 then (if x < n ∧ kd x ≠ 7 then some (n, kn, kd, fg, hd ^^^ 2 ^ x, dm, dy) else none)
    else if L = 107 then (if x < n ∧ y < 8 then some (n, kn, updN kd x y, updN fg x z, hdc y x hd, dmc y x dm, dy) else none)
    else if L = 108 then (if x < n ∧ y < n ∧ x ≠ y then some (n, flip kn x y, kd, fg, hd, dm, dy) else none)
    else (if x < 8 ∧ n < 9 then some (n + 1, kn, updN kd n x, updN fg n y, hdc x n hd, dmc x n dm, dy) else none)
def isL (L : Nat) : Prop := L = 100 ∨ L = 104 ∨ L = 107 ∨ L = 108 ∨ L = 112
theorem isL_of {v : Nat} (h : dgb v ≠ 0) : isL v := by
  unfold dgb at h
  unfold isL
  by_cases z1 : v = 100
  · exact Or.inl z1
  · rw [if_neg z1] at h
    by_cases z2 : v = 104
    · exact Or.inr (Or.inl z2)
    · rw [if_neg z2] at h
      by_cases z3 : v = 107
      · exact Or.inr (Or.inr (Or.inl z3))
      · rw [if_neg z3] at h
        by_cases z4 : v = 108
        · exact Or.inr (Or.inr (Or.inr (Or.inl z4)))
        · rw [if_neg z4] at h
          by_cases z5 : v = 112
          · exact Or.inr (Or.inr (Or.inr (Or.inr z5)))
          · rw [if_neg z5] at h; exact absurd rfl h
theorem sty_w {L x y z : Nat} {s s1 : PS} (hL : isL L) (W : PSw s) (hx : x < 10) (hy : y < 10 ∨ L = 104) (hz : z < 10 ∨ L ≠ 107) (h : sty L x y z s = some s1) : PSw s1 := by
  obtain ⟨n, kn, kd, fg, hd, dm, dy⟩ := s
  obtain ⟨w, d⟩ := W
  have w : WFp n kn kd fg hd dm dy := w
  have d : dy ≤ 999 := d
  rcases hL with rfl | rfl | rfl | rfl | rfl
  · have h : (if 1 ≤ 10 * x + y ∧ 10 * x + y ≤ 60 ∧ dy + (10 * x + y) ≤ 999 then some ((n, kn, kd, fg, ndays n kn kd fg dy (fun q => (0 : Nat).testBit q) 1 (10 * x + y) hd, dm, dy + (10 * x + y)) : PS) else none) = some s1 := h
    split at h
    · rename_i c
      have : (n, kn, kd, fg, ndays n kn kd fg dy (fun q => (0 : Nat).testBit q) 1 (10 * x + y) hd, dm, dy + (10 * x + y)) = s1 := Option.some.inj h
      subst this
      exact ⟨WFp_dy (WFp_hd w (ndays_lt w.2.2.2.1)) (show dy + (10 * x + y) < 1000000 by omega), c.2.2⟩
    · exact absurd h (by simp)
  · have h : (if x < n ∧ kd x ≠ 7 then some ((n, kn, kd, fg, hd ^^^ 2 ^ x, dm, dy) : PS) else none) = some s1 := h
    split at h
    · rename_i c
      have : (n, kn, kd, fg, hd ^^^ 2 ^ x, dm, dy) = s1 := Option.some.inj h
      subst this
      exact ⟨WFp_hd w (Nat.xor_lt_two_pow w.2.2.2.1 (pow_lt c.1)), d⟩
    · exact absurd h (by simp)
  · have h : (if x < n ∧ y < 8 then some ((n, kn, updN kd x y, updN fg x z, hdc y x hd, dmc y x dm, dy) : PS) else none) = some s1 := h
    split at h
    · rename_i c
      have : (n, kn, updN kd x y, updN fg x z, hdc y x hd, dmc y x dm, dy) = s1 := Option.some.inj h
      subst this
      exact ⟨WFp_change w c.1 c.2 (by omega), d⟩
    · exact absurd h (by simp)
  · have h : (if x < n ∧ y < n ∧ x ≠ y then some ((n, flip kn x y, kd, fg, hd, dm, dy) : PS) else none) = some s1 := h
    split at h
    · rename_i c
      have : (n, flip kn x y, kd, fg, hd, dm, dy) = s1 := Option.some.inj h
      subst this
      exact ⟨WFp_flip w c.1 c.2.1 c.2.2, d⟩
    · exact absurd h (by simp)
  · have h : (if x < 8 ∧ n < 9 then some ((n + 1, kn, updN kd n x, updN fg n y, hdc x n hd, dmc x n dm, dy) : PS) else none) = some s1 := h
    split at h
    · rename_i c
      have : (n + 1, kn, updN kd n x, updN fg n y, hdc x n hd, dmc x n dm, dy) = s1 := Option.some.inj h
      subst this
      exact ⟨WFp_change (WFp_more w c.2) (Nat.lt_succ_self n) c.1 (by omega), d⟩
    · exact absurd h (by simp)
section STMT
variable {t : HS}
/-- what happens by a statement in the class -/
theorem c_stmt {L x y z : Nat} {s : PS} (hL : isL L) (W : PSw s) (P : PSl t 20 s) (hx : x < 10) (hy : y < 10 ∨ L = 104) (hz : z < 10 ∨ L ≠ 107) {R : Option (Int32 × HS)}
    (e : R = if L = 100 then X5_goOn t 20 (nI (10 * x + y)) else if L = 104 then X5_inform t 20 (nI x) else if L = 107 then X5_change t 20 (nI x) (nI y) (nI z) else if L = 108 then X5_join t 20 (nI x) (nI y) else X5_arrive t 20 (nI x) (nI y)) :
    (∃ s1 r t1, sty L x y z s = some s1 ∧ R = some (r, t1) ∧ 0 ≤ r ∧ PSl t1 20 s1 ∧ FrB 20 t t1) ∨ (∃ r, sty L x y z s = none ∧ R = some (r, t) ∧ ¬ 0 ≤ r) := by
  obtain ⟨n, kn, kd, fg, hd, dm, dy⟩ := s
  obtain ⟨w, d⟩ := W
  have w : WFp n kn kd fg hd dm dy := w
  have d : dy ≤ 999 := d
  have P : ParL t 20 n kn kd fg hd dm dy := P
  have w1 := w.1.1
  have h9 := pow_le9 w1
  have out : ∀ v, ¬ v < n → v < 100 → outside (nI v) n := fun v h1 h2 => Or.inr ⟨v, by omega, by omega, rfl⟩
  rcases hL with rfl | rfl | rfl | rfl | rfl
  · have e : R = X5_goOn t 20 (nI (10 * x + y)) := e
    have es : sty 100 x y z (n, kn, kd, fg, hd, dm, dy) = (if 1 ≤ 10 * x + y ∧ 10 * x + y ≤ 60 ∧ dy + (10 * x + y) ≤ 999 then some ((n, kn, kd, fg, ndays n kn kd fg dy (fun q => (0 : Nat).testBit q) 1 (10 * x + y) hd, dm, dy + (10 * x + y)) : PS) else none) := rfl
    have hy : y < 10 := by rcases hy with h | h; exact h; exact absurd h (by decide)
    rw [es]
    by_cases c : 1 ≤ 10 * x + y ∧ 10 * x + y ≤ 60 ∧ dy + (10 * x + y) ≤ 999
    · rw [if_pos c]
      obtain ⟨t1, e1, P1, f1⟩ := c_goOn (Or.inr (Or.inl rfl)) w P c.1 c.2.1 c.2.2
      exact Or.inl ⟨_, _, t1, rfl, e.trans e1, nI_pos' (Nat.lt_of_le_of_lt (bc_le _) (by decide)), P1, f1⟩
    · rw [if_neg c]
      unfold X5_goOn at e
      by_cases c1 : 10 * x + y < 1
      · rw [if_pos (show nI (10 * x + y) < 1 from nI_lt (b := 1) c1 (by decide))] at e
        exact Or.inr ⟨-1, rfl, e, by decide⟩
      · rw [if_neg (show ¬ nI (10 * x + y) < 1 from nI_nlt (b := 1) (by omega) (by omega))] at e
        by_cases c2 : 10 * x + y ≤ 60
        · rw [if_pos (show nI (10 * x + y) ≤ 60 from nI_le (b := 60) c2 (by decide)), P.2.2.2.2.2, nI_add, if_neg (show ¬ nI (dy + (10 * x + y)) ≤ 999 from nI_ge (a := 999) (by omega) (by omega))] at e
          exact Or.inr ⟨-3, rfl, e, by decide⟩
        · rw [if_neg (show ¬ nI (10 * x + y) ≤ 60 from nI_ge (a := 60) (by omega) (by omega))] at e
          exact Or.inr ⟨-1, rfl, e, by decide⟩
  · have e : R = X5_inform t 20 (nI x) := e
    have es : sty 104 x y z (n, kn, kd, fg, hd, dm, dy) = (if x < n ∧ kd x ≠ 7 then some ((n, kn, kd, fg, hd ^^^ 2 ^ x, dm, dy) : PS) else none) := rfl
    rw [es]
    by_cases c1 : x < n
    · by_cases c2 : kd x = 7
      · rw [if_neg (fun c => c.2 c2)]
        unfold X5_inform at e
        rw [c_has_in P c1 w1, Option.bind_some, if_neg (show ¬ nI 1 = 0 by decide), c_isDeaf w P (by omega), Option.bind_some, c2] at e
        exact Or.inr ⟨-3, rfl, e, by decide⟩
      · rw [if_pos ⟨c1, c2⟩]
        obtain ⟨t1, e1, P1, f1⟩ := c_inform w P c1 c2
        exact Or.inl ⟨_, _, t1, rfl, e.trans e1, nI_pos' (toNat_lt _), P1, f1⟩
    · rw [if_neg (fun c => c1 c.1)]
      unfold X5_inform at e
      rw [c_has_out P w1 (out x c1 (by omega)), Option.bind_some, if_pos (show nI 0 = 0 from rfl)] at e
      exact Or.inr ⟨-1, rfl, e, by decide⟩
  · have e : R = X5_change t 20 (nI x) (nI y) (nI z) := e
    have es : sty 107 x y z (n, kn, kd, fg, hd, dm, dy) = (if x < n ∧ y < 8 then some ((n, kn, updN kd x y, updN fg x z, hdc y x hd, dmc y x dm, dy) : PS) else none) := rfl
    have hy : y < 10 := by rcases hy with h | h; exact h; exact absurd h (by decide)
    have hz : z < 10 := by rcases hz with h | h; exact h; exact absurd rfl h
    rw [es]
    by_cases c1 : x < n
    · by_cases c2 : y < 8
      · rw [if_pos ⟨c1, c2⟩]
        obtain ⟨t1, e1, P1, f1⟩ := c_change (Or.inr (Or.inl rfl)) w P c1 c2 hz
        exact Or.inl ⟨_, _, t1, rfl, e.trans e1, by decide, P1, f1⟩
      · rw [if_neg (fun c => c2 c.2)]
        unfold X5_change at e
        rw [c_has_in P c1 w1, Option.bind_some, if_neg (show ¬ nI 1 = 0 by decide), c_kind_out (Or.inr ⟨y, by omega, by omega, rfl⟩), Option.bind_some, if_pos (show nI 0 = 0 from rfl)] at e
        exact Or.inr ⟨-1, rfl, e, by decide⟩
    · rw [if_neg (fun c => c1 c.1)]
      unfold X5_change at e
      rw [c_has_out P w1 (out x c1 (by omega)), Option.bind_some, if_pos (show nI 0 = 0 from rfl)] at e
      exact Or.inr ⟨-1, rfl, e, by decide⟩
  · have e : R = X5_join t 20 (nI x) (nI y) := e
    have es : sty 108 x y z (n, kn, kd, fg, hd, dm, dy) = (if x < n ∧ y < n ∧ x ≠ y then some ((n, flip kn x y, kd, fg, hd, dm, dy) : PS) else none) := rfl
    have hy : y < 10 := by rcases hy with h | h; exact h; exact absurd h (by decide)
    rw [es]
    by_cases c1 : x < n
    · by_cases c2 : y < n
      · by_cases c3 : x = y
        · rw [if_neg (fun c => c.2.2 c3)]
          subst c3
          unfold X5_join at e
          rw [c_has_in P c1 w1, Option.bind_some, if_neg (show ¬ nI 1 = 0 by decide), Option.bind_some, if_neg (show ¬ nI 1 = 0 by decide), if_pos rfl] at e
          exact Or.inr ⟨-1, rfl, e, by decide⟩
        · rw [if_pos ⟨c1, c2, c3⟩]
          obtain ⟨t1, e1, P1, f1⟩ := c_join w P c1 c2 c3
          exact Or.inl ⟨_, _, t1, rfl, e.trans e1, nI_pos' (toNat_lt _), P1, f1⟩
      · rw [if_neg (fun c => c2 c.2.1)]
        unfold X5_join at e
        rw [c_has_in P c1 w1, Option.bind_some, if_neg (show ¬ nI 1 = 0 by decide), c_has_out P w1 (out y c2 (by omega)), Option.bind_some, if_pos (show nI 0 = 0 from rfl)] at e
        exact Or.inr ⟨-1, rfl, e, by decide⟩
    · rw [if_neg (fun c => c1 c.1)]
      unfold X5_join at e
      rw [c_has_out P w1 (out x c1 (by omega)), Option.bind_some, if_pos (show nI 0 = 0 from rfl)] at e
      exact Or.inr ⟨-1, rfl, e, by decide⟩
  · have e : R = X5_arrive t 20 (nI x) (nI y) := e
    have es : sty 112 x y z (n, kn, kd, fg, hd, dm, dy) = (if x < 8 ∧ n < 9 then some ((n + 1, kn, updN kd n x, updN fg n y, hdc x n hd, dmc x n dm, dy) : PS) else none) := rfl
    have hy : y < 10 := by rcases hy with h | h; exact h; exact absurd h (by decide)
    rw [es]
    by_cases c1 : x < 8
    · by_cases c2 : n < 9
      · rw [if_pos ⟨c1, c2⟩]
        obtain ⟨t1, e1, P1, f1⟩ := c_arrive (Or.inr (Or.inl rfl)) w P c2 c1 hy
        exact Or.inl ⟨_, _, t1, rfl, e.trans e1, nI_pos' (by omega), P1, f1⟩
      · rw [if_neg (fun c => c2 c.2)]
        exact Or.inr ⟨-2, rfl, e.trans (c_arrive_full P (by omega) c1 hy), by decide⟩
    · rw [if_neg (fun c => c1 c.1)]
      unfold X5_arrive at e
      rw [c_kind_out (Or.inr ⟨x, by omega, by omega, rfl⟩), Option.bind_some, if_pos (show nI 0 = 0 from rfl)] at e
      exact Or.inr ⟨-1, rfl, e, by decide⟩
theorem m_stmt {L x y z : Nat} {s : PS} (hL : isL L) (W : PSw s) (R : PSr (aI t 67) s) (hx : x < 10) (hy : y < 10 ∨ L = 104) (hz : z < 10 ∨ L ≠ 107)
    (h0 : L = 100 → aI t 71 0 = nI (10 * x + y)) (h1 : L ≠ 100 → aI t 71 0 = nI x) (h2 : L = 107 ∨ L = 108 ∨ L = 112 → aI t 71 1 = nI y) (h3 : L = 107 → aI t 71 2 = nI z) :
    (∃ s1 g, sty L x y z s = some s1 ∧ X12_isDone t (nI L) = some (1, sA t 67 g) ∧ PSr g s1) ∨ (sty L x y z s = none ∧ X12_isDone t (nI L) = some (0, t)) := by
  obtain ⟨n, kn, kd, fg, hd, dm, dy⟩ := s
  obtain ⟨w, d⟩ := W
  have w : WFp n kn kd fg hd dm dy := w
  have d : dy ≤ 999 := d
  have R : RowP (aI t 67) n kn kd fg hd dy := R
  have w1 := w.1.1
  have h9 := pow_le9 w1
  have out : ∀ v, ¬ v < n → v < 100 → outside (nI v) n := fun v h1 h2 => Or.inr ⟨v, by omega, by omega, rfl⟩
  have g03 : ∀ k : Option (Int32 × HS), gdi 0 3 k = k := fun k => by unfold gdi; rw [if_neg (by decide)]
  have g13 : ∀ k : Option (Int32 × HS), gdi 1 3 k = k := fun k => by unfold gdi; rw [if_neg (by decide)]
  have g23 : ∀ k : Option (Int32 × HS), gdi 2 3 k = k := fun k => by unfold gdi; rw [if_neg (by decide)]
  have g130 : ∀ k : Option (Int32 × HS), gdi 1 30 k = k := fun k => by unfold gdi; rw [if_neg (by decide)]
  have c0 : (0 : Int32).toNatClampNeg = 0 := rfl
  have c1' : (1 : Int32).toNatClampNeg = 1 := rfl
  have c2' : (2 : Int32).toNatClampNeg = 2 := rfl
  unfold X12_isDone
  simp only [nm]
  rw [g03, g13, c0, c1', c2']
  rcases hL with rfl | rfl | rfl | rfl | rfl
  · have es : sty 100 x y z (n, kn, kd, fg, hd, dm, dy) = (if 1 ≤ 10 * x + y ∧ 10 * x + y ≤ 60 ∧ dy + (10 * x + y) ≤ 999 then some ((n, kn, kd, fg, ndays n kn kd fg dy (fun q => (0 : Nat).testBit q) 1 (10 * x + y) hd, dm, dy + (10 * x + y)) : PS) else none) := rfl
    have hy : y < 10 := by rcases hy with h | h; exact h; exact absurd h (by decide)
    rw [es, if_neg (show ¬ nI 100 = 104 by decide), if_neg (show ¬ nI 100 = 107 by decide), if_neg (show ¬ nI 100 = 108 by decide), if_neg (show ¬ nI 100 = 112 by decide), h0 rfl]
    unfold X12_isDone_B181
    rw [L1, L60, isIn_n (by omega) (by omega) (by omega), Option.bind_some]
    by_cases c : 1 ≤ 10 * x + y ∧ 10 * x + y ≤ 60
    · rw [decide_eq_true c, if_neg (show ¬ nI true.toNat = 0 by decide), ← L1, g130, c1', R.2.1, nI_add]
      by_cases c3 : dy + (10 * x + y) ≤ 999
      · rw [if_pos (show nI (dy + (10 * x + y)) ≤ 999 from nI_le (b := 999) c3 (by decide)), if_pos ⟨c.1, c.2, c3⟩, m_daysOn w R (by omega) (by omega), Option.bind_some]
        exact Or.inl ⟨_, _, rfl, rfl, RowP_hd (RowP_dy R _) _⟩
      · rw [if_neg (show ¬ nI (dy + (10 * x + y)) ≤ 999 from nI_ge (a := 999) (by omega) (by omega)), if_neg (fun q => c3 q.2.2)]
        exact Or.inr ⟨rfl, rfl⟩
    · rw [decide_eq_false c, if_pos (show nI false.toNat = 0 from rfl), if_neg (fun q => c ⟨q.1, q.2.1⟩)]
      exact Or.inr ⟨rfl, rfl⟩
  · have es : sty 104 x y z (n, kn, kd, fg, hd, dm, dy) = (if x < n ∧ kd x ≠ 7 then some ((n, kn, kd, fg, hd ^^^ 2 ^ x, dm, dy) : PS) else none) := rfl
    rw [es, if_pos (show nI 104 = 104 from rfl), h1 (by decide)]
    by_cases c1 : x < n
    · rw [m_isOne_in R c1 w1, Option.bind_some, if_neg (show ¬ nI 1 = 0 by decide), m_isDeaf w R (by omega), Option.bind_some]
      by_cases c2 : kd x = 7
      · rw [if_neg (fun c => c.2 c2), c2]
        exact Or.inr ⟨rfl, rfl⟩
      · rw [if_pos ⟨c1, c2⟩, show (kd x == 7) = false from by simpa using c2, if_pos (show nI false.toNat = 0 from rfl), gdi2, gdi2, R.2.2.1, i_pow (show x < 31 by omega), i_xor]
        exact Or.inl ⟨_, _, rfl, rfl, RowP_hd R _⟩
    · rw [m_isOne_out R w1 (out x c1 (by omega)), Option.bind_some, if_pos (show nI 0 = 0 from rfl), if_neg (fun c => c1 c.1)]
      exact Or.inr ⟨rfl, rfl⟩
  · have es : sty 107 x y z (n, kn, kd, fg, hd, dm, dy) = (if x < n ∧ y < 8 then some ((n, kn, updN kd x y, updN fg x z, hdc y x hd, dmc y x dm, dy) : PS) else none) := rfl
    have hy : y < 10 := by rcases hy with h | h; exact h; exact absurd h (by decide)
    have hz : z < 10 := by rcases hz with h | h; exact h; exact absurd rfl h
    rw [es, if_neg (show ¬ nI 107 = 104 by decide), if_pos (show nI 107 = 107 from rfl), h1 (by decide), h2 (Or.inl rfl), h3 rfl]
    by_cases c1 : x < n
    · rw [m_isOne_in R c1 w1, Option.bind_some, if_neg (show ¬ nI 1 = 0 by decide)]
      by_cases c2 : y < 8
      · obtain ⟨g, e2, R2⟩ := m_becomes (p := x) (k := y) (f := z) w R (by omega) c2 hz
        rw [if_pos (show nI y < 8 from nI_lt (b := 8) c2 (by decide)), g23, e2, Option.bind_some, if_pos ⟨c1, c2⟩]
        exact Or.inl ⟨_, g, rfl, rfl, R2⟩
      · rw [if_neg (show ¬ nI y < 8 from nI_nlt (b := 8) (by omega) (by omega)), if_neg (fun c => c2 c.2)]
        exact Or.inr ⟨rfl, rfl⟩
    · rw [m_isOne_out R w1 (out x c1 (by omega)), Option.bind_some, if_pos (show nI 0 = 0 from rfl), if_neg (fun c => c1 c.1)]
      exact Or.inr ⟨rfl, rfl⟩
  · have es : sty 108 x y z (n, kn, kd, fg, hd, dm, dy) = (if x < n ∧ y < n ∧ x ≠ y then some ((n, flip kn x y, kd, fg, hd, dm, dy) : PS) else none) := rfl
    have hy : y < 10 := by rcases hy with h | h; exact h; exact absurd h (by decide)
    rw [es, if_neg (show ¬ nI 108 = 104 by decide), if_neg (show ¬ nI 108 = 107 by decide), if_pos (show nI 108 = 108 from rfl), h1 (by decide), h2 (Or.inr (Or.inl rfl))]
    by_cases c1 : x < n
    · by_cases c2 : y < n
      · rw [m_areTwo_in R c1 c2 w1, Option.bind_some]
        by_cases c3 : x = y
        · rw [decide_eq_false (fun q => q c3), if_pos (show nI false.toNat = 0 from rfl), if_neg (fun c => c.2.2 c3)]
          exact Or.inr ⟨rfl, rfl⟩
        · obtain ⟨g, e2, R2⟩ := m_changesLine R (show x < 9 by omega) (show y < 9 by omega) c3
          rw [decide_eq_true c3, if_neg (show ¬ nI true.toNat = 0 by decide), e2, Option.bind_some, if_pos ⟨c1, c2, c3⟩]
          exact Or.inl ⟨_, g, rfl, rfl, R2⟩
      · rw [m_areTwo_out2 R w1 c1 (out y c2 (by omega)), Option.bind_some, if_pos (show nI 0 = 0 from rfl), if_neg (fun c => c2 c.2.1)]
        exact Or.inr ⟨rfl, rfl⟩
    · rw [m_areTwo_out1 R w1 (out x c1 (by omega)), Option.bind_some, if_pos (show nI 0 = 0 from rfl), if_neg (fun c => c1 c.1)]
      exact Or.inr ⟨rfl, rfl⟩
  · have es : sty 112 x y z (n, kn, kd, fg, hd, dm, dy) = (if x < 8 ∧ n < 9 then some ((n + 1, kn, updN kd n x, updN fg n y, hdc x n hd, dmc x n dm, dy) : PS) else none) := rfl
    have hy : y < 10 := by rcases hy with h | h; exact h; exact absurd h (by decide)
    rw [es, if_neg (show ¬ nI 112 = 104 by decide), if_neg (show ¬ nI 112 = 107 by decide), if_neg (show ¬ nI 112 = 108 by decide), if_pos (show nI 112 = 112 from rfl), h1 (by decide), h2 (Or.inr (Or.inr rfl))]
    by_cases c1 : x < 8
    · rw [if_neg (show ¬ 8 ≤ nI x from nI_ge (b := 8) c1 (by decide)), gdi0, R.1]
      by_cases c2 : n < 9
      · obtain ⟨g, e2, R2⟩ := m_adds w R (k := x) (f := y) c2
        rw [if_neg (show ¬ nI n = 9 by rw [L9, nI_eq (by omega) (by omega)]; omega), e2, Option.bind_some, if_pos ⟨c1, c2⟩]
        exact Or.inl ⟨_, g, rfl, rfl, R2⟩
      · rw [if_pos (show nI n = 9 by rw [L9, nI_eq (by omega) (by omega)]; omega), if_neg (fun c => c2 c.2)]
        exact Or.inr ⟨rfl, rfl⟩
    · rw [if_pos (show 8 ≤ nI x from nI_le (a := 8) (by omega) (by omega)), if_neg (fun c => c1 c.1)]
      exact Or.inr ⟨rfl, rfl⟩
end STMT
