/-! the text of a parish: what both sides read of it -/
theorem L48 : (48 : Int32) = nI 48 := rfl
theorem L57 : (57 : Int32) = nI 57 := rfl
theorem L59 : (59 : Int32) = nI 59 := rfl
/-- how many digits stand behind a letter -/
def dgb (v : Nat) : Nat := if v = 100 then 2 else if v = 104 then 1 else if v = 107 then 3 else if v = 108 then 2 else if v = 112 then 2 else 0
theorem dgb_le (v : Nat) : dgb v ≤ 3 := by unfold dgb; repeat' split
                                           all_goals omega
def dig (v : Nat) : Bool := decide (48 ≤ v ∧ v ≤ 57)
/-- the first of m places from k on without a digit -/
def nd (tk : Nat → Nat) : Nat → Nat → Option Nat
  | _, 0 => none
  | k, m + 1 => if dig (tk k) = true then nd tk (k + 1) m else some k
/-- the place at which the statement that begins at a breaks -/
def sb (tk : Nat → Nat) (a : Nat) : Option Nat := if dgb (tk a) = 0 then some a else match nd tk (a + 1) (dgb (tk a)) with
  | some i => some i
  | none => if tk (a + 1 + dgb (tk a)) = 59 then none else some (a + 1 + dgb (tk a))
def nx (tk : Nat → Nat) (a : Nat) : Nat := a + 1 + dgb (tk a) + 1
/-- the whole text from a on: where it breaks, or how many statements it has -/
def pas (tk : Nat → Nat) (le : Nat) : Nat → Nat → Nat ⊕ Nat
  | 0, _ => .inl 0
  | f + 1, a => match sb tk a with
    | some i => .inl i
    | none => if nx tk a = le then .inr 1 else match pas tk le f (nx tk a) with
      | .inl i => .inl i
      | .inr k => .inr (k + 1)
/-- k statements from a to the end -/
def wfT (tk : Nat → Nat) (le : Nat) : Nat → Nat → Prop
  | 0, a => a = le
  | k + 1, a => a < le ∧ sb tk a = none ∧ wfT tk le k (nx tk a)
def chv (le : Nat) (el : Nat → Int32) (i : Nat) : Int32 := if i < le then el i else 0
def hrv (le : Nat) (el : Nat → Int32) (i : Nat) : Int32 := if i < le then el i &&& 255 else -1
def tkv (le : Nat) (el : Nat → Int32) (i : Nat) : Nat := if i < le then (el i).toNatClampNeg else 0
def TKc (tk : Nat → Nat) (ch : Nat → Int32) : Prop := ∀ i, tk i < 128 ∧ (ch i = nI (tk i) ∨ (tk i = 0 ∧ ch i < 0))
def TKm (tk : Nat → Nat) (hr : Nat → Int32) : Prop := ∀ i, tk i < 128 ∧ (hr i = nI (tk i) ∨ (tk i = 0 ∧ (hr i < 0 ∨ ∃ v, 128 ≤ v ∧ v < 256 ∧ hr i = nI v)))
theorem byte_of {x : Int32} (h1 : -128 ≤ x.toInt) (h2 : x.toInt ≤ 127) : ∃ n, n < 256 ∧ x = nI n - nI 128 := by
  refine ⟨(x.toInt + 128).toNat, by omega, ?_⟩
  apply Int32.toInt_inj.mp
  have e : (nI (x.toInt + 128).toNat).toInt = x.toInt + 128 := by rw [nI_toInt (by omega)]; omega
  have e2 : (nI 128).toInt = 128 := rfl
  rw [fb_subI (by rw [e, e2]; omega) (by rw [e, e2]; omega), e, e2]
  omega
theorem byte_neg : ∀ n, n < 128 → (nI n - nI 128) < 0 ∧ (nI n - nI 128) &&& 255 = nI (n + 128) ∧ (nI n - nI 128).toNatClampNeg = 0 := by decide +kernel
theorem byte_pos : ∀ n, n < 128 → nI n &&& 255 = nI n := by decide +kernel
theorem tk_ok {le : Nat} {el : Nat → Int32} (hb : ∀ i, i < le → -128 ≤ (el i).toInt ∧ (el i).toInt ≤ 127) : TKc (tkv le el) (chv le el) ∧ TKm (tkv le el) (hrv le el) := by
  have key : ∀ i, tkv le el i < 128 ∧ (chv le el i = nI (tkv le el i) ∨ (tkv le el i = 0 ∧ chv le el i < 0)) ∧ (hrv le el i = nI (tkv le el i) ∨ (tkv le el i = 0 ∧ (hrv le el i < 0 ∨ ∃ v, 128 ≤ v ∧ v < 256 ∧ hrv le el i = nI v))) := by
    intro i
    unfold tkv chv hrv
    by_cases hi : i < le
    · simp only [if_pos hi]
      obtain ⟨n, hn, e⟩ := byte_of (hb i hi).1 (hb i hi).2
      by_cases z : n < 128
      · obtain ⟨b1, b2, b3⟩ := byte_neg n z
        rw [e, b3, b2]
        exact ⟨by decide, Or.inr ⟨rfl, b1⟩, Or.inr ⟨rfl, Or.inr ⟨n + 128, by omega, by omega, rfl⟩⟩⟩
      · rw [pk_sub (by omega)] at e
        rw [e, i_cl (by omega), byte_pos _ (by omega)]
        exact ⟨by omega, Or.inl rfl, Or.inl rfl⟩
    · simp only [if_neg hi]
      exact ⟨by decide, Or.inl rfl, Or.inr ⟨by decide, Or.inl (by decide)⟩⟩
  exact ⟨fun i => ⟨(key i).1, (key i).2.1⟩, fun i => ⟨(key i).1, (key i).2.2⟩⟩
section TOKENS
variable {tk : Nat → Nat} {ch hr : Nat → Int32}
theorem ch_eq (T : TKc tk ch) {i c : Nat} (h0 : 0 < c) (h1 : c < 128) : (ch i = nI c) = (tk i = c) := by
  obtain ⟨a, b⟩ := T i
  rcases b with b | ⟨b1, b2⟩
  · rw [b]; exact i_eq (by omega) (by omega)
  · refine propext ⟨fun e => ?_, fun e => absurd e (by omega)⟩
    rw [e] at b2
    exact absurd b2 (nI_pos (by omega))
theorem hr_eq (T : TKm tk hr) {i c : Nat} (h0 : 0 < c) (h1 : c < 128) : (hr i = nI c) = (tk i = c) := by
  obtain ⟨a, b⟩ := T i
  rcases b with b | ⟨b1, b2 | ⟨v, v1, v2, b2⟩⟩
  · rw [b]; exact i_eq (by omega) (by omega)
  · refine propext ⟨fun e => ?_, fun e => absurd e (by omega)⟩
    rw [e] at b2
    exact absurd b2 (nI_pos (by omega))
  · rw [b2, i_eq (by omega) (by omega)]
    exact propext ⟨fun e => by omega, fun e => by omega⟩
theorem ch_digits (T : TKc tk ch) (i : Nat) : X11_digitsBehind (ch i) = some (nI (dgb (tk i))) := by
  unfold X11_digitsBehind dgb
  rw [show (100 : Int32) = nI 100 from rfl, show (104 : Int32) = nI 104 from rfl, show (107 : Int32) = nI 107 from rfl, show (108 : Int32) = nI 108 from rfl, show (112 : Int32) = nI 112 from rfl]
  simp (disch := omega) only [ch_eq T]
  repeat' split
  all_goals rfl
theorem ch_dig (T : TKc tk ch) (i : Nat) (A B : Option Int32) : (if ch i < 48 then A else if ch i ≤ 57 then B else A) = if dig (tk i) = true then B else A := by
  obtain ⟨a, b⟩ := T i
  unfold dig
  rcases b with b | ⟨b1, b2⟩
  · rw [b, L48, L57]
    by_cases z : tk i < 48
    · rw [if_pos (nI_lt z (by omega)), decide_eq_false (by omega)]; rfl
    · rw [if_neg (nI_nlt (by omega) (by omega))]
      by_cases z2 : tk i ≤ 57
      · rw [if_pos (nI_le z2 (by omega)), decide_eq_true (by omega)]; rfl
      · rw [if_neg (nI_ge (by omega) (by omega)), decide_eq_false (by omega)]; rfl
  · rw [if_pos (show ch i < 48 from neg_lt (j := 48) b2 (by decide)), b1]; rfl
theorem hr_dig (T : TKm tk hr) (i : Nat) : X12_isIn (hr i) 48 57 = some (nI (dig (tk i)).toNat) := by
  obtain ⟨a, b⟩ := T i
  unfold dig
  rw [L48, L57]
  rcases b with b | ⟨b1, b2 | ⟨v, v1, v2, b2⟩⟩
  · rw [b, isIn_n (by omega) (by omega) (by omega)]
  · rw [isIn_neg b2 (by omega), b1]; rfl
  · rw [b2, isIn_n (by omega) (by omega) (by omega), b1, decide_eq_false (by omega)]; rfl
theorem sb_le {le : Nat} (h0 : ∀ i, le ≤ i → tk i = 0) {a : Nat} (h : sb tk a = none) : nx tk a ≤ le ∧ a + 3 ≤ nx tk a ∧ a < le := by
  have hd : dgb (tk a) ≠ 0 := fun e => by unfold sb at h; rw [if_pos e] at h; exact absurd h (by simp)
  unfold sb at h
  rw [if_neg hd] at h
  have h2 : tk (a + 1 + dgb (tk a)) = 59 := by
    cases e : nd tk (a + 1) (dgb (tk a)) with
    | some i => rw [e] at h; exact absurd h (by simp)
    | none =>
      rw [e] at h
      by_cases z : tk (a + 1 + dgb (tk a)) = 59
      · exact z
      · simp [z] at h
  have h3 : a + 1 + dgb (tk a) < le := by
    refine Classical.byContradiction fun z => ?_
    rw [h0 _ (by omega)] at h2
    exact absurd h2 (by decide)
  unfold nx
  omega
theorem nd_dig : ∀ m k, nd tk k m = none → ∀ j, j < m → dig (tk (k + j)) = true := by
  intro m
  induction m with
  | zero => intro k _ j hj; exact absurd hj (by omega)
  | succ m ih =>
    intro k h j hj
    rw [nd] at h
    by_cases z : dig (tk k) = true
    · rw [if_pos z] at h
      cases j with
      | zero => exact z
      | succ j => have := ih (k + 1) h j (by omega); rwa [show k + 1 + j = k + (j + 1) by omega] at this
    · rw [if_neg z] at h; exact absurd h (by simp)
theorem sb_dig {a : Nat} (h : sb tk a = none) : dgb (tk a) ≠ 0 ∧ ∀ j, j < dgb (tk a) → 48 ≤ tk (a + 1 + j) ∧ tk (a + 1 + j) ≤ 57 := by
  have hd : dgb (tk a) ≠ 0 := fun e => by unfold sb at h; rw [if_pos e] at h; exact absurd h (by simp)
  refine ⟨hd, fun j hj => ?_⟩
  unfold sb at h
  rw [if_neg hd] at h
  cases e : nd tk (a + 1) (dgb (tk a)) with
  | some i => rw [e] at h; exact absurd h (by simp)
  | none =>
    have := nd_dig _ _ e j hj
    unfold dig at this
    simpa using this
theorem pas_wf {le : Nat} (h0 : ∀ i, le ≤ i → tk i = 0) : ∀ f a k, pas tk le f a = .inr k → 0 < k ∧ wfT tk le k a := by
  intro f
  induction f with
  | zero => intro a k h; rw [pas] at h; exact absurd h (by simp)
  | succ f ih =>
    intro a k h
    rw [pas] at h
    cases e : sb tk a with
    | some i => rw [e] at h; exact absurd h (by simp)
    | none =>
      rw [e] at h
      obtain ⟨g1, g2, g3⟩ := sb_le h0 e
      by_cases z : nx tk a = le
      · simp only [if_pos z] at h
        have : k = 1 := by simpa using h.symm
        subst this
        exact ⟨by decide, g3, e, z⟩
      · simp only [if_neg z] at h
        cases e2 : pas tk le f (nx tk a) with
        | inl i => rw [e2] at h; exact absurd h (by simp)
        | inr k1 =>
          rw [e2] at h
          have : k = k1 + 1 := by simpa using h.symm
          subst this
          exact ⟨by omega, g3, e, (ih _ _ e2).2⟩
end TOKENS
section CTEXT
variable {h : HS} {sh le : Nat} {tk : Nat → Nat} {ch : Nat → Int32}
def CT (h : HS) (sh le : Nat) (ch : Nat → Int32) : Prop := X7_size h sh = some (nI le) ∧ ∀ i, i < 200 → X7_at h sh (nI i) = some (ch i)
def sbI (tk : Nat → Nat) (a : Nat) : Int32 := match sb tk a with
  | some i => nI i
  | none => -4
theorem c_sb (T : TKc tk ch) (C : CT h sh le ch) {a : Nat} (ha : a < 150) : X11_statementBrokenAt h sh (nI a) = some (sbI tk a) := by
  have hd := dgb_le (tk a)
  have key : ∀ m i fu, i + m = a + 1 + dgb (tk a) → m < fu → X11_statementBrokenAt_B19 h sh (nI a) fu (nI (dgb (tk a))) (nI i) = some (match nd tk i m with
      | some j => nI j
      | none => if tk (a + 1 + dgb (tk a)) = 59 then -4 else nI (a + 1 + dgb (tk a))) := by
    intro m
    induction m with
    | zero =>
      intro i fu hi hf
      obtain ⟨fu, rfl⟩ : ∃ f, fu = f + 1 := ⟨fu - 1, by omega⟩
      rw [X11_statementBrokenAt_B19, nI_add, if_pos (nI_lt (by omega) (by omega)), L1, nI_add, show a + dgb (tk a) + 1 = a + 1 + dgb (tk a) by omega]
      simp only [nm]
      rw [C.2 _ (by omega), Option.bind_some, L59, nd]
      have ec := ch_eq T (i := a + 1 + dgb (tk a)) (c := 59) (by decide) (by decide)
      by_cases z : tk (a + 1 + dgb (tk a)) = 59
      · rw [if_pos (by rw [ec]; exact z)]; simp [z]
      · rw [if_neg (by rw [ec]; exact z)]; simp [z]
    | succ m ih =>
      intro i fu hi hf
      obtain ⟨fu, rfl⟩ : ∃ f, fu = f + 1 := ⟨fu - 1, by omega⟩
      rw [X11_statementBrokenAt_B19, nI_add, if_neg (nI_nlt (by omega) (by omega)), C.2 _ (by omega), Option.bind_some, Option.bind_some, ch_dig T, nd]
      by_cases z : dig (tk i) = true
      · rw [if_pos z, if_pos z]
        simp only [nm, L1, nI_add]
        exact ih (i + 1) fu (by omega) (by omega)
      · rw [if_neg z, if_neg z]
  unfold X11_statementBrokenAt sbI sb
  rw [C.2 _ (by omega), Option.bind_some, ch_digits T, Option.bind_some]
  by_cases z : dgb (tk a) = 0
  · rw [if_pos (show nI (dgb (tk a)) = 0 by rw [z]; rfl), if_pos z]
  · rw [if_neg (nI_ne0 (by omega) (by omega)), if_neg z, L1, nI_add]
    simp only [nm]
    rw [key (dgb (tk a)) (a + 1) FU rfl (FU_lt (by omega))]
    cases nd tk (a + 1) (dgb (tk a)) with
    | some i => rfl
    | none =>
      by_cases y : tk (a + 1 + dgb (tk a)) = 59
      · simp [y]
      · simp [y]
theorem c_broken (T : TKc tk ch) (C : CT h sh le ch) (hle : le ≤ 100) (h0 : ∀ i, le ≤ i → tk i = 0) : X11_brokenAt h sh = some (match pas tk le 40 0 with
      | .inl i => nI i
      | .inr _ => -4) := by
  have key : ∀ f a k fu, a ≤ le → le < a + 3 * f → k ≤ a → f < fu → X11_brokenAt_B27 h sh (X11_brokenAt_B4 h sh fu) (nI a) (nI k) = some (match pas tk le f a with
      | .inl i => nI i
      | .inr _ => -4) := by
    intro f
    induction f with
    | zero => intro a k fu h1 h2; exact absurd h2 (by omega)
    | succ f ih =>
      intro a k fu ha hf hk hfu
      unfold X11_brokenAt_B27
      rw [c_sb T C (by omega), Option.bind_some]
      unfold sbI
      rw [pas]
      cases e : sb tk a with
      | some i =>
        have hi : i < 200 := by
          unfold sb at e
          have hd := dgb_le (tk a)
          by_cases z : dgb (tk a) = 0
          · rw [if_pos z] at e
            have : a = i := by simpa using e
            omega
          · rw [if_neg z] at e
            have hn : ∀ m k, nd tk k m = some i → i < k + m := by
              intro m
              induction m with
              | zero => intro k e; rw [nd] at e; exact absurd e (by simp)
              | succ m ih2 =>
                intro k e
                rw [nd] at e
                by_cases z : dig (tk k) = true
                · rw [if_pos z] at e
                  have := ih2 (k + 1) e
                  omega
                · rw [if_neg z] at e
                  have : k = i := by simpa using e
                  omega
            cases e2 : nd tk (a + 1) (dgb (tk a)) with
            | some j =>
              rw [e2] at e
              have : j = i := by simpa using e
              subst this
              have := hn _ _ e2
              omega
            | none =>
              rw [e2] at e
              by_cases y : tk (a + 1 + dgb (tk a)) = 59
              · simp [y] at e
              · simp [y] at e
                omega
        simp only
        rw [if_neg (nI_pos (by omega))]
      | none =>
        obtain ⟨g1, g2, g3⟩ := sb_le h0 e
        simp only
        rw [if_pos (show (-4 : Int32) < 0 by decide), C.2 _ (by omega), Option.bind_some, ch_digits T, Option.bind_some, L2, nI_add, nI_add, show a + (2 + dgb (tk a)) = nx tk a by unfold nx; omega]
        simp only [nm]
        obtain ⟨fu, rfl⟩ : ∃ f, fu = f + 1 := ⟨fu - 1, by omega⟩
        rw [L1, nI_add, X11_brokenAt_B4, C.1, Option.bind_some, Option.bind_some, if_neg (nI_nlt (by omega) (by omega)), if_neg (nI_nle (by omega) (by omega))]
        by_cases z : nx tk a = le
        · rw [if_pos (by rw [z]), if_pos z]
        · rw [if_neg (by rw [nI_eq (by omega) (by omega)]; exact z), if_neg z, ih (nx tk a) (k + 1) fu g1 (by omega) (by omega) (by omega)]
          cases pas tk le f (nx tk a) <;> rfl
  unfold X11_brokenAt
  show X11_brokenAt_B4 h sh (999 + 1) (nI 0) (nI 0) = _
  rw [X11_brokenAt_B4, C.1, Option.bind_some, if_neg (nI_nlt (by omega) (by omega)), if_pos (show nI 0 ≤ 0 by decide)]
  exact key 40 0 0 999 (by omega) (by omega) (by omega) (by omega)
end CTEXT
