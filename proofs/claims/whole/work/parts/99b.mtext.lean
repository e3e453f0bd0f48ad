/-! the text of a parish, read by the model -/
/-- only numbers and place have changed -/
def RS (t t1 : HS) : Prop := (∀ o k, ¬ (o = 66 ∧ k = 5) → fI t1 o k = fI t o k) ∧ ∀ o, o ≠ 71 → aI t1 o = aI t o
theorem RS.rf {t : HS} : RS t t := ⟨fun _ _ _ => rfl, fun _ _ => rfl⟩
theorem RS.tr {a b c : HS} (x : RS a b) (y : RS b c) : RS a c := ⟨fun o k q => (y.1 o k q).trans (x.1 o k q), fun o q => (y.2 o q).trans (x.2 o q)⟩
theorem RS.p {a b : HS} (x : RS a b) {v : Int32} : RS a (sF b 66 5 v) := x.tr ⟨fun _ _ q => fI_sF_ne q, fun _ _ => rfl⟩
theorem RS.n {a b : HS} (x : RS a b) {f : Nat → Int32} : RS a (sA b 71 f) := x.tr ⟨fun _ _ _ => rfl, fun _ q => aI_sA_ne q⟩
theorem RS.keep {a b : HS} (x : RS a b) : Keep a b := by
  refine ⟨fun o k q => x.1 o k (fun e => ?_), fun o q _ => x.2 o (fun e => ?_), by rw [x.2 8 (by decide)]⟩
  · rw [e.1, e.2] at q; exact absurd q (by decide)
  · rw [e] at q; exact absurd q (by decide)
/-- the model stands at the place p of the text -/
def TX (t : HS) (q le : Nat) (el : Nat → Int32) (p : Nat) : Prop := fI t 66 6 = nI (100 * q) ∧ fI t 66 7 = nI le ∧ fI t 66 5 = nI p ∧ ∀ i, i < 100 → aI t 81 (100 * q + i) = el i
section MTEXT
variable {q le : Nat} {el : Nat → Int32} {tk : Nat → Nat}
theorem TX.go {t t1 : HS} {p p1 : Nat} (X : TX t q le el p) (R : RS t t1) (h : fI t1 66 5 = nI p1) : TX t1 q le el p1 :=
  ⟨(R.1 _ _ (by decide)).trans X.1, (R.1 _ _ (by decide)).trans X.2.1, h, fun i hi => by rw [R.2 81 (by decide)]; exact X.2.2.2 i hi⟩
theorem TX.at {t : HS} {p p1 : Nat} (X : TX t q le el p) : TX (sF t 66 5 (nI p1)) q le el p1 := X.go RS.rf.p fI_sF_eq
theorem m_here (hq : q < 8) (hle : le ≤ 100) {t : HS} {p : Nat} (hp : p < 200) (X : TX t q le el p) : X12_here t = some (hrv le el p) := by
  unfold X12_here hrv
  rw [X.1, X.2.1, X.2.2.1, nI_add]
  by_cases z : p < le
  · rw [if_neg (nI_ge z (by omega)), if_pos z, gdi_n (show 100 * q + p < 800 by omega) (by omega), i_cl (show 100 * q + p < 2147483648 by omega), X.2.2.2 p (by omega)]
  · rw [if_pos (nI_le (by omega) (by omega)), if_neg z]
def dg1 (x v : Nat) : Nat := 10 * x + v - 48
def vl (tk : Nat → Nat) : Nat → Nat → Nat → Nat
  | x, _, 0 => x
  | x, k, m + 1 => vl tk (dg1 x (tk k)) (k + 1) m
theorem vl1 (tk : Nat → Nat) (p : Nat) : vl tk 0 p 1 = tk p - 48 := by
  show dg1 0 (tk p) = _
  unfold dg1
  rw [Nat.mul_zero, Nat.zero_add]
theorem vl2 (tk : Nat → Nat) (p : Nat) : vl tk 0 p 2 = dg1 (dg1 0 (tk p)) (tk (p + 1)) := rfl
theorem m_rn (hq : q < 8) (hle : le ≤ 100) (T : TKm tk (hrv le el)) {k M : Nat} (hk : k < 3) (hM : M ≤ 3) :
    ∀ m j fu t p x, j + m = M → m < fu → p + m < 190 → TX t q le el p → aI t 71 k = nI x →
      ∃ t1, X12_readsNumber_B9 (nI k) (nI M) fu (nI j) t = some (nI (nd tk p m).isNone.toNat, t1) ∧ RS t t1 ∧ TX t1 q le el ((nd tk p m).getD (p + m)) ∧ (nd tk p m = none → aI t1 71 k = nI (vl tk x p m)) ∧ ∀ i, i ≠ k → aI t1 71 i = aI t 71 i := by
  intro m
  induction m with
  | zero =>
    intro j fu t p x hj hf hp X hx
    obtain ⟨fu, rfl⟩ : ∃ f, fu = f + 1 := ⟨fu - 1, by omega⟩
    refine ⟨t, ?_, RS.rf, X, fun _ => hx, fun _ _ => rfl⟩
    rw [X12_readsNumber_B9, if_pos (nI_le (by omega) (by omega))]
    rfl
  | succ m ih =>
    intro j fu t p x hj hf hp X hx
    obtain ⟨fu, rfl⟩ : ∃ f, fu = f + 1 := ⟨fu - 1, by omega⟩
    rw [X12_readsNumber_B9, if_neg (nI_ge (by omega) (by omega)), m_here hq hle (by omega) X, Option.bind_some, hr_dig T, Option.bind_some, nd]
    obtain ⟨t128, _⟩ := T p
    by_cases z : dig (tk p) = true
    · have hd : 48 ≤ tk p ∧ tk p ≤ 57 := by unfold dig at z; simpa using z
      have hr : hrv le el p = nI (tk p) := by rw [hr_eq T (by omega) (by omega)]
      simp only [z, if_true, Option.bind_some]
      rw [if_neg (show ¬ nI true.toNat = 0 by decide), gdi_n hk (by omega), gdi_n hk (by omega), i_cl (show k < 2147483648 by omega), hr, hx]
      simp only [nm]
      have ev : 10 * nI x + nI (tk p) - 48 = nI (dg1 x (tk p)) := by
        unfold dg1
        rw [L10, pk_mul, nI_add, L48, pk_sub (by omega)]
      rw [ev]
      have ep : fI (sA t 71 (upd (aI t 71) k (nI (dg1 x (tk p))))) 66 5 + 1 = nI (p + 1) := by
        rw [fI_sA, X.2.2.1, L1, nI_add]
      rw [ep, L1, nI_add]
      have R0 : RS t (sF (sA t 71 (upd (aI t 71) k (nI (dg1 x (tk p))))) 66 5 (nI (p + 1))) := (RS.rf.n).p
      obtain ⟨t1, e1, R1, X1, v1, s1⟩ := ih (j + 1) fu (sF (sA t 71 (upd (aI t 71) k (nI (dg1 x (tk p))))) 66 5 (nI (p + 1))) (p + 1) (dg1 x (tk p)) (by omega) (by omega) (by omega) (X.go R0 fI_sF_eq) (by rw [aI_sF, aI_sA_eq, pk_us])
      refine ⟨t1, e1, R0.tr R1, by rw [show p + (m + 1) = p + 1 + m by omega]; exact X1, v1, fun i hi => ?_⟩
      rw [s1 i hi, aI_sF, aI_sA_eq, pk_un hi]
    · have zf : dig (tk p) = false := by simpa using z
      simp only [zf, Bool.false_eq_true, if_false, Option.bind_some]
      rw [if_pos (show nI false.toNat = 0 from rfl)]
      exact ⟨t, rfl, RS.rf, X, fun h => absurd h (by simp), fun _ _ => rfl⟩
theorem m_readsNumber (hq : q < 8) (hle : le ≤ 100) (T : TKm tk (hrv le el)) {k M : Nat} (hk : k < 3) (hM : M ≤ 3) {t : HS} {p : Nat} (hp : p < 150) (X : TX t q le el p) :
    ∃ t1, X12_readsNumber t (nI k) (nI M) = some (nI (nd tk p M).isNone.toNat, t1) ∧ RS t t1 ∧ TX t1 q le el ((nd tk p M).getD (p + M)) ∧ (nd tk p M = none → aI t1 71 k = nI (vl tk 0 p M)) ∧ ∀ i, i ≠ k → aI t1 71 i = aI t 71 i := by
  have R0 : RS t (sA t 71 (upd (aI t 71) k 0)) := RS.rf.n
  obtain ⟨t1, e1, R1, X1, v1, s1⟩ := m_rn hq hle T hk hM M 0 FU (sA t 71 (upd (aI t 71) k 0)) p 0 (by omega) (FU_lt (by omega)) (by omega) (X.go R0 X.2.2.1) (by rw [aI_sA_eq, pk_us]; rfl)
  refine ⟨t1, ?_, R0.tr R1, X1, v1, fun i hi => ?_⟩
  · unfold X12_readsNumber
    rw [gdi_n hk (by omega), i_cl (show k < 2147483648 by omega)]
    exact e1
  · rw [s1 i hi, aI_sA_eq, pk_un hi]
theorem m_end1 (hq : q < 8) (hle : le ≤ 100) (T : TKm tk (hrv le el)) {t : HS} {p : Nat} (hp : p < 150) (X : TX t q le el p) :
    ∃ t1, X12_readsStatement_B179 1 t = some (nI (decide (tk p = 59)).toNat, t1) ∧ RS t t1 ∧ TX t1 q le el (if tk p = 59 then p + 1 else p) ∧ aI t1 71 = aI t 71 := by
  unfold X12_readsStatement_B179
  rw [if_neg (show ¬ (1 : Int32) = 0 by decide), m_here hq hle (by omega) X, Option.bind_some, X.2.2.1, L1, nI_add, L59]
  have ec := hr_eq T (i := p) (c := 59) (by decide) (by decide)
  by_cases z : tk p = 59
  · rw [if_pos (by rw [ec]; exact z), decide_eq_true z, if_pos z]
    exact ⟨_, rfl, RS.rf.p, X.at, rfl⟩
  · rw [if_neg (by rw [ec]; exact z), decide_eq_false z, if_neg z]
    exact ⟨t, rfl, RS.rf, X, rfl⟩
theorem nd_2 (p : Nat) : nd tk p 2 = (match nd tk p 1 with
    | some i => some i
    | none => nd tk (p + 1) 1) := by
  simp only [nd]
  cases dig (tk p) <;> rfl
theorem nd_3 (p : Nat) : nd tk p 3 = (match nd tk p 1 with
    | some i => some i
    | none => match nd tk (p + 1) 1 with
      | some i => some i
      | none => nd tk (p + 2) 1) := by
  simp only [nd]
  cases dig (tk p) <;> cases dig (tk (p + 1)) <;> rfl
/-- what the numbers are behind a statement that is read -/
def NM (tk : Nat → Nat) (t : HS) (a : Nat) : Prop := (tk a = 100 → aI t 71 0 = nI (10 * (tk (a + 1) - 48) + (tk (a + 2) - 48))) ∧ (tk a ≠ 100 → aI t 71 0 = nI (tk (a + 1) - 48)) ∧ (tk a = 107 ∨ tk a = 108 ∨ tk a = 112 → aI t 71 1 = nI (tk (a + 2) - 48)) ∧ (tk a = 107 → aI t 71 2 = nI (tk (a + 3) - 48))
theorem m_reads (hq : q < 8) (hle : le ≤ 100) (T : TKm tk (hrv le el)) {t : HS} {a : Nat} (ha : a < 120) (X : TX t q le el a) :
    ∃ t1, X12_readsStatement t = some (nI (sb tk a).isNone.toNat, t1) ∧ RS t t1 ∧ TX t1 q le el ((sb tk a).getD (nx tk a)) ∧ (sb tk a = none → NM tk t1 a) := by
  have X0 : TX (sF t 66 5 (nI (a + 1))) q le el (a + 1) := X.at
  have R0 : RS t (sF t 66 5 (nI (a + 1))) := RS.rf.p
  have ec : ∀ c, 0 < c → c < 128 → (hrv le el a = nI c) = (tk a = c) := fun c h0 h1 => hr_eq T h0 h1
  have e0 : X12_readsStatement t = (if hrv le el a = 100 then (X12_readsNumber (sF t 66 5 (nI (a + 1))) 0 2).bind fun q4 => X12_readsStatement_B179 q4.1 q4.2 else (if hrv le el a = 104 then (X12_readsNumber (sF t 66 5 (nI (a + 1))) 0 1).bind fun q6 => X12_readsStatement_B179 q6.1 q6.2 else (if hrv le el a = 107 then (X12_readsNumber (sF t 66 5 (nI (a + 1))) 0 1).bind fun q8 => (if q8.1 = 0 then X12_readsStatement_B152 q8.2 else (X12_readsNumber q8.2 1 1).bind fun q10 => (if q10.1 = 0 then X12_readsStatement_B152 q10.2 else (X12_readsNumber q10.2 2 1).bind fun q12 => (if q12.1 = 0 then X12_readsStatement_B152 q12.2 else X12_readsStatement_B153 1 q12.2))) else (if hrv le el a = 108 then X12_readsStatement_B84 (sF t 66 5 (nI (a + 1))) else (if hrv le el a = 112 then X12_readsStatement_B84 (sF t 66 5 (nI (a + 1))) else X12_readsStatement_B167 (sF t 66 5 (nI (a + 1)))))))) := by
    unfold X12_readsStatement
    rw [m_here hq hle (by omega) X, Option.bind_some, X.2.2.1, L1, nI_add]
    rfl
  have fails : ∀ (M : Nat) (j : Nat) (u : HS), dgb (tk a) = M → M ≠ 0 → nd tk (a + 1) M = some j → RS t u → TX u q le el j → ∃ t1, some ((0 : Int32), u) = some (nI (sb tk a).isNone.toNat, t1) ∧ RS t t1 ∧ TX t1 q le el ((sb tk a).getD (nx tk a)) ∧ (sb tk a = none → NM tk t1 a) := by
    intro M j u hM h0 hn R Xu
    have es : sb tk a = some j := by
      unfold sb
      rw [hM, if_neg h0, hn]
    rw [es]
    exact ⟨u, rfl, R, Xu, fun h => absurd h (by simp)⟩
  have ends : ∀ (M : Nat) (u : HS), dgb (tk a) = M → M ≠ 0 → M ≤ 3 → nd tk (a + 1) M = none → RS t u → TX u q le el (a + 1 + M) → NM tk u a → ∃ t1, X12_readsStatement_B179 1 u = some (nI (sb tk a).isNone.toNat, t1) ∧ RS t t1 ∧ TX t1 q le el ((sb tk a).getD (nx tk a)) ∧ (sb tk a = none → NM tk t1 a) := by
    intro M u hM h0 h3 hn R Xu hN
    obtain ⟨t1, e1, R1, X1, s1⟩ := m_end1 hq hle T (show a + 1 + M < 150 by omega) Xu
    have hN1 : NM tk t1 a := by unfold NM; rw [s1]; exact hN
    have es : sb tk a = if tk (a + 1 + M) = 59 then none else some (a + 1 + M) := by
      unfold sb
      rw [hM, if_neg h0, hn]
    have en : nx tk a = a + 1 + M + 1 := by unfold nx; rw [hM]
    rw [es, en]
    by_cases z : tk (a + 1 + M) = 59
    · rw [if_pos z]
      rw [decide_eq_true z] at e1
      rw [if_pos z] at X1
      exact ⟨t1, e1, R.tr R1, X1, fun _ => hN1⟩
    · rw [if_neg z]
      rw [decide_eq_false z] at e1
      rw [if_neg z] at X1
      exact ⟨t1, e1, R.tr R1, X1, fun h => absurd h (by simp)⟩
  have one : ∀ (k : Nat) (u : HS) (p : Nat), k < 3 → p < 140 → TX u q le el p → (nd tk p 1 = some p ∧ ∃ u1, X12_readsNumber u (nI k) 1 = some (0, u1) ∧ RS u u1 ∧ TX u1 q le el p) ∨ (nd tk p 1 = none ∧ ∃ u1, X12_readsNumber u (nI k) 1 = some (1, u1) ∧ RS u u1 ∧ TX u1 q le el (p + 1) ∧ aI u1 71 k = nI (tk p - 48) ∧ ∀ i, i ≠ k → aI u1 71 i = aI u 71 i) := by
    intro k u p hk hp Xu
    obtain ⟨u1, e1, R1, X1, v1, s1⟩ := m_readsNumber hq hle T hk (show 1 ≤ 3 by decide) (show p < 150 by omega) Xu
    have en : nd tk p 1 = if dig (tk p) = true then none else some p := rfl
    by_cases z : dig (tk p) = true
    · rw [if_pos z] at en
      rw [en] at e1 X1 v1
      refine Or.inr ⟨en, u1, e1, R1, X1, ?_, s1⟩
      rw [v1 rfl, vl1]
    · rw [if_neg z] at en
      rw [en] at e1 X1
      exact Or.inl ⟨en, u1, e1, R1, X1⟩
  have two84 : dgb (tk a) = 2 → tk a ≠ 100 → tk a ≠ 107 → ∃ t1, X12_readsStatement_B84 (sF t 66 5 (nI (a + 1))) = some (nI (sb tk a).isNone.toNat, t1) ∧ RS t t1 ∧ TX t1 q le el ((sb tk a).getD (nx tk a)) ∧ (sb tk a = none → NM tk t1 a) := by
    intro hM hd hk
    unfold X12_readsStatement_B84
    have e106 : ∀ u, X12_readsStatement_B106 u = some (0, u) := fun u => rfl
    rcases one 0 _ (a + 1) (by decide) (by omega) X0 with ⟨n1, u1, e1, R1, X1⟩ | ⟨n1, u1, e1, R1, X1, v1, s1⟩
    · rw [show X12_readsNumber (sF t 66 5 (nI (a + 1))) 0 1 = some (0, u1) from e1, Option.bind_some, if_pos rfl, e106]
      exact fails 2 (a + 1) u1 hM (by decide) (by rw [nd_2, n1]) (R0.tr R1) X1
    · rw [show X12_readsNumber (sF t 66 5 (nI (a + 1))) 0 1 = some (1, u1) from e1, Option.bind_some, if_neg (show ¬ (1 : Int32) = 0 by decide)]
      rcases one 1 _ (a + 1 + 1) (by decide) (by omega) X1 with ⟨n2, u2, e2, R2, X2⟩ | ⟨n2, u2, e2, R2, X2, v2, s2⟩
      · rw [show X12_readsNumber u1 1 1 = some (0, u2) from e2, Option.bind_some, if_pos rfl, e106]
        exact fails 2 (a + 1 + 1) u2 hM (by decide) (by rw [nd_2, n1]; exact n2) ((R0.tr R1).tr R2) X2
      · rw [show X12_readsNumber u1 1 1 = some (1, u2) from e2, Option.bind_some, if_neg (show ¬ (1 : Int32) = 0 by decide)]
        exact ends 2 u2 hM (by decide) (by decide) (by rw [nd_2, n1]; exact n2) ((R0.tr R1).tr R2) X2 ⟨fun z => absurd z hd, fun _ => by rw [s2 0 (by decide)]; exact v1, fun _ => v2, fun z => absurd z hk⟩
  rw [e0]
  by_cases z1 : tk a = 100
  · have hM : dgb (tk a) = 2 := by rw [z1]; rfl
    rw [if_pos (show hrv le el a = 100 by rw [show (100 : Int32) = nI 100 from rfl, ec 100 (by decide) (by decide)]; exact z1)]
    obtain ⟨u1, e1, R1, X1, v1, s1⟩ := m_readsNumber hq hle T (k := 0) (M := 2) (by decide) (by decide) (show a + 1 < 150 by omega) X0
    rw [show X12_readsNumber (sF t 66 5 (nI (a + 1))) 0 2 = _ from e1, Option.bind_some]
    cases en : nd tk (a + 1) 2 with
    | some j =>
      rw [en] at X1
      exact fails 2 j u1 hM (by decide) en (R0.tr R1) X1
    | none =>
      rw [en] at X1 v1
      refine ends 2 u1 hM (by decide) (by decide) en (R0.tr R1) X1 ⟨fun _ => ?_, fun z => absurd z1 z, fun z => ?_, fun z => ?_⟩
      · rw [v1 rfl]
        have d0 := nd_dig 2 (a + 1) en 0 (by decide)
        have d1 := nd_dig 2 (a + 1) en 1 (by decide)
        unfold dig at d0 d1
        have d0 : 48 ≤ tk (a + 1) ∧ tk (a + 1) ≤ 57 := by simpa using d0
        have d1 : 48 ≤ tk (a + 1 + 1) ∧ tk (a + 1 + 1) ≤ 57 := by simpa using d1
        rw [vl2]
        unfold dg1
        show nI (10 * (10 * 0 + tk (a + 1) - 48) + tk (a + 1 + 1) - 48) = nI (10 * (tk (a + 1) - 48) + (tk (a + 1 + 1) - 48))
        congr 1
        omega
      · rw [z1] at z; exact absurd z (by decide)
      · rw [z1] at z; exact absurd z (by decide)
  · rw [if_neg (show ¬ hrv le el a = 100 by rw [show (100 : Int32) = nI 100 from rfl, ec 100 (by decide) (by decide)]; exact z1)]
    by_cases z2 : tk a = 104
    · have hM : dgb (tk a) = 1 := by rw [z2]; rfl
      rw [if_pos (show hrv le el a = 104 by rw [show (104 : Int32) = nI 104 from rfl, ec 104 (by decide) (by decide)]; exact z2)]
      rcases one 0 _ (a + 1) (by decide) (by omega) X0 with ⟨n1, u1, e1, R1, X1⟩ | ⟨n1, u1, e1, R1, X1, v1, s1⟩
      · rw [show X12_readsNumber (sF t 66 5 (nI (a + 1))) 0 1 = some (0, u1) from e1, Option.bind_some]
        exact fails 1 (a + 1) u1 hM (by decide) n1 (R0.tr R1) X1
      · rw [show X12_readsNumber (sF t 66 5 (nI (a + 1))) 0 1 = some (1, u1) from e1, Option.bind_some]
        exact ends 1 u1 hM (by decide) (by decide) n1 (R0.tr R1) X1 ⟨fun z => absurd z z1, fun _ => v1, fun z => by rw [z2] at z; exact absurd z (by decide), fun z => by rw [z2] at z; exact absurd z (by decide)⟩
    · rw [if_neg (show ¬ hrv le el a = 104 by rw [show (104 : Int32) = nI 104 from rfl, ec 104 (by decide) (by decide)]; exact z2)]
      by_cases z3 : tk a = 107
      · have hM : dgb (tk a) = 3 := by rw [z3]; rfl
        rw [if_pos (show hrv le el a = 107 by rw [show (107 : Int32) = nI 107 from rfl, ec 107 (by decide) (by decide)]; exact z3)]
        have e152 : ∀ u, X12_readsStatement_B152 u = some (0, u) := fun u => rfl
        have e153 : ∀ u, X12_readsStatement_B153 1 u = X12_readsStatement_B179 1 u := fun u => rfl
        rcases one 0 _ (a + 1) (by decide) (by omega) X0 with ⟨n1, u1, e1, R1, X1⟩ | ⟨n1, u1, e1, R1, X1, v1, s1⟩
        · rw [show X12_readsNumber (sF t 66 5 (nI (a + 1))) 0 1 = some (0, u1) from e1, Option.bind_some, if_pos rfl, e152]
          exact fails 3 (a + 1) u1 hM (by decide) (by rw [nd_3, n1]) (R0.tr R1) X1
        · rw [show X12_readsNumber (sF t 66 5 (nI (a + 1))) 0 1 = some (1, u1) from e1, Option.bind_some, if_neg (show ¬ (1 : Int32) = 0 by decide)]
          rcases one 1 _ (a + 1 + 1) (by decide) (by omega) X1 with ⟨n2, u2, e2, R2, X2⟩ | ⟨n2, u2, e2, R2, X2, v2, s2⟩
          · rw [show X12_readsNumber u1 1 1 = some (0, u2) from e2, Option.bind_some, if_pos rfl, e152]
            exact fails 3 (a + 1 + 1) u2 hM (by decide) (by rw [nd_3, n1]; simp only [n2]) ((R0.tr R1).tr R2) X2
          · rw [show X12_readsNumber u1 1 1 = some (1, u2) from e2, Option.bind_some, if_neg (show ¬ (1 : Int32) = 0 by decide)]
            rcases one 2 _ (a + 1 + 1 + 1) (by decide) (by omega) X2 with ⟨n3, u3, e3, R3, X3⟩ | ⟨n3, u3, e3, R3, X3, v3, s3⟩
            · rw [show X12_readsNumber u2 2 1 = some (0, u3) from e3, Option.bind_some, if_pos rfl, e152]
              exact fails 3 (a + 1 + 1 + 1) u3 hM (by decide) (by rw [nd_3, n1]; simp only [n2]; exact n3) (((R0.tr R1).tr R2).tr R3) X3
            · rw [show X12_readsNumber u2 2 1 = some (1, u3) from e3, Option.bind_some, if_neg (show ¬ (1 : Int32) = 0 by decide), e153]
              exact ends 3 u3 hM (by decide) (by decide) (by rw [nd_3, n1]; simp only [n2]; exact n3) (((R0.tr R1).tr R2).tr R3) X3 ⟨fun z => absurd z z1, fun _ => by rw [s3 0 (by decide), s2 0 (by decide)]; exact v1, fun _ => by rw [s3 1 (by decide)]; exact v2, fun _ => v3⟩
      · rw [if_neg (show ¬ hrv le el a = 107 by rw [show (107 : Int32) = nI 107 from rfl, ec 107 (by decide) (by decide)]; exact z3)]
        by_cases z4 : tk a = 108
        · rw [if_pos (show hrv le el a = 108 by rw [show (108 : Int32) = nI 108 from rfl, ec 108 (by decide) (by decide)]; exact z4)]
          exact two84 (by rw [z4]; rfl) z1 z3
        · rw [if_neg (show ¬ hrv le el a = 108 by rw [show (108 : Int32) = nI 108 from rfl, ec 108 (by decide) (by decide)]; exact z4)]
          by_cases z5 : tk a = 112
          · rw [if_pos (show hrv le el a = 112 by rw [show (112 : Int32) = nI 112 from rfl, ec 112 (by decide) (by decide)]; exact z5)]
            exact two84 (by rw [z5]; rfl) z1 z3
          · rw [if_neg (show ¬ hrv le el a = 112 by rw [show (112 : Int32) = nI 112 from rfl, ec 112 (by decide) (by decide)]; exact z5)]
            have hM : dgb (tk a) = 0 := by
              unfold dgb
              rw [if_neg z1, if_neg z2, if_neg z3, if_neg z4, if_neg z5]
            have es : sb tk a = some a := by unfold sb; rw [if_pos hM]
            rw [es]
            unfold X12_readsStatement_B167
            rw [fI_sF_eq, L1, pk_sub (by omega), Nat.add_sub_cancel]
            exact ⟨_, rfl, R0.p, X.go R0.p fI_sF_eq, fun h => absurd h (by simp)⟩
end MTEXT
