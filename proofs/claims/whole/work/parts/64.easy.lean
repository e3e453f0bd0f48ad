/-! the calls that only look: feels, mean, settles, count, one, cost -/
theorem l_mul (a b : Nat) : lN a * lN b = lN (a * b) := (Int64.ofNat_mul a b).symm
theorem l_add (a b : Nat) : lN a + lN b = lN (a + b) := (Int64.ofNat_add a b).symm
theorem K0 : (0 : Int64) = lN 0 := rfl
theorem K1 : (1 : Int64) = lN 1 := rfl
theorem K2 : (2 : Int64) = lN 2 := rfl
theorem K840 : (840 : Int64) = lN 840 := rfl
theorem isIn_in {j b : Nat} (hj : j < b + 1) (hb : b < 1000000) : X12_isIn (nI j) (nI 0) (nI b) = some (nI 1) := by
  rw [isIn_n (by omega) (by omega) (by omega), decide_eq_true (by omega)]; rfl
theorem isIn_out {v : Int32} {b : Nat} (hv : outside v (b + 1)) (hb : b < 1000000) : X12_isIn v (nI 0) (nI b) = some (nI 0) := by
  rcases hv with hv | ⟨j, h1, h2, rfl⟩
  · exact isIn_neg hv (by omega)
  · rw [isIn_n (by omega) (by omega) (by omega), decide_eq_false (by omega)]; rfl
theorem out_ne {v : Int32} {b j : Nat} (hv : outside v b) (hj : j < b) (hb : b < 1000000) : (v = nI j) = False := by
  refine eq_false fun e => ?_
  subst e
  rcases hv with hv | ⟨i, h1, h2, h3⟩
  · exact absurd hv (nI_nlt (Nat.zero_le j) (by omega))
  · rw [nI_eq (by omega) h2] at h3; omega
theorem fr_out {a b : Nat} {v : Int32} (hv : outside v 2) : fr a b v = 1000000001 := by
  unfold fr
  rw [L0, L1]
  simp only [out_ne hv (show 0 < 2 by decide) (by decide), out_ne hv (show 1 < 2 by decide) (by decide), ite_false]
theorem in2 {j : Nat} (h : j < 2) : nI j = 0 ∨ nI j = 1 := by
  match j, h with
  | 0, _ => exact Or.inl rfl
  | 1, _ => exact Or.inr rfl
  | j + 2, h => exact absurd h (by omega)
theorem sm_ge (f : Nat → Nat) {k : Nat} : ∀ n, k < n → f k ≤ fb_sm f n := by
  intro n
  induction n with
  | zero => intro h; exact absurd h (by omega)
  | succ n ih =>
    intro h
    rw [fb_sm_succ]
    by_cases q : k = n
    · subst q; omega
    · have := ih (by omega); omega
section EASY
variable {h : HS} {n : Nat} {kn kd fg : Nat → Nat} {hd dm dy : Nat}
theorem S_feels (N : NowP h n kn kd fg hd dm dy) : X11_feels h = some (nI (fe n kn)) ∧ X12_feels h = some (nI (fe n kn)) := by
  constructor
  · unfold X11_feels
    rw [c_feelers N.1.1 N.2.2.1.1]; rfl
  · unfold X12_feels
    rw [m_feelsIn N.1.1 N.2.2.2]; rfl
theorem S_mean (N : NowP h n kn kd fg hd dm dy) (v : Int32) : X11_mean h v = some (fr (sumn n kn) n v) ∧ X12_mean h v = some (fr (sumn n kn) n v) := by
  have w1 := N.1.1.1
  have hs := sumn_le (kn := kn) w1
  constructor
  · unfold X11_mean
    rw [c_numbers N.1.1 N.2.2.1.1, Option.bind_some, c_people N.2.2.1, Option.bind_some]
    show (X11_fraction (nI (sumn n kn)).toInt64 (nI n).toInt64 v).bind _ = _
    rw [i_l (by omega), i_l (by omega), c_frac (by omega) (by omega)]; rfl
  · unfold X12_mean
    rw [L0, L1]
    rcases arg_in v 2 with ⟨j, h1, h2, rfl⟩ | hv
    · rw [isIn_in h1 (by decide)]
      simp (disch := omega) only [Option.bind_some, eqF, ite_false, gdi_n]
      rw [m_linesIn N.1.1 N.2.2.2]
      simp (disch := omega) only [Option.bind_some, i_cl, N.2.2.2.1]
      show (X12_partOf (2 * (nI (sumn n kn / 2)).toInt64) (nI n).toInt64 (nI j)).bind _ = _
      rw [i_l (by omega), i_l (by omega), K2, l_mul, show 2 * (sumn n kn / 2) = sumn n kn from by have := sumn_even N.1.1; omega, m_part (by omega) (by omega) (fun e => by subst e; rfl) (in2 h1)]
      rfl
    · rw [isIn_out hv (by decide), fr_out hv]; rfl
theorem S_settles (N : NowP h n kn kd fg hd dm dy) (u v : Int32) : ∃ r, X11_settles h u v = some r ∧ X12_settles h u v = some r := by
  have w1 := N.1.1.1
  have hs := sumn_le (kn := kn) w1
  rcases arg_in u n with ⟨p, h1, h2, rfl⟩ | hu
  · have hb := bc_le (kn p)
    refine ⟨fr (bc (kn p)) (sumn n kn) v, ?_, ?_⟩
    · unfold X11_settles
      rw [c_has_in N.2.2.1 h1 w1, c_number N.1.1 N.2.2.1.1 (by omega), c_numbers N.1.1 N.2.2.1.1]
      simp (disch := omega) only [Option.bind_some, L0, eqF, ite_false]
      show (X11_fraction (nI (bc (kn p))).toInt64 (nI (sumn n kn)).toInt64 v).bind _ = _
      rw [i_l (by omega), i_l (by omega), c_frac (by omega) (by omega)]; rfl
    · unfold X12_settles
      rw [m_isOne_in N.2.2.2 h1 w1]
      simp (disch := omega) only [Option.bind_some, L0, L1, eqF, ite_false]
      rcases arg_in v 2 with ⟨j, h3, h4, rfl⟩ | hv
      · rw [isIn_in h3 (by decide), m_number N.1.1 N.2.2.2 (by omega), m_linesIn N.1.1 N.2.2.2]
        simp (disch := omega) only [Option.bind_some, eqF, ite_false]
        show (X12_partOf (nI (bc (kn p))).toInt64 (2 * (nI (sumn n kn / 2)).toInt64) (nI j)).bind _ = _
        rw [i_l (by omega), i_l (by omega), K2, l_mul, show 2 * (sumn n kn / 2) = sumn n kn from by have := sumn_even N.1.1; omega, m_part (by omega) (by omega) (fun e => ?_) (in2 h3)]
        · rfl
        · have := sm_ge (fun p => bc (kn p)) n h1
          have e2 : fb_sm (fun p => bc (kn p)) n = 0 := e
          simp only [e2] at this
          omega
      · rw [isIn_out hv (by decide), fr_out hv]; rfl
  · refine ⟨1000000001, ?_, ?_⟩
    · unfold X11_settles
      rw [c_has_out N.2.2.1 w1 hu]; rfl
    · unfold X12_settles
      rw [m_isOne_out N.2.2.2 w1 hu]; rfl
/-- the CARDS of one of a kind with a figure and a NUMBER -/
def cd (k f x : Nat) : Nat := if k = 1 then x / 2 else if k = 2 then x + f else if k = 3 then 0 else if k = 4 then 2 * (x + f) else if k = 5 then x / 2 + 1 else if k = 6 then 2 * (x + f) + 11 else if k = 7 then 0 else x
theorem cards_v {b x f : Nat} (hx : x < 100) (hb : isPar b) : ∀ k, k < 8 → V_cards (b + 5 + k) (nI f) (nI x) = some (nI (cd k f x)) := by
  have e8 : X8_cards (nI f) (nI x) = some (nI (x / 2)) := by
    show some (nI x / nI 2) = _
    rw [pk_div (by omega) (by omega) (by omega)]
  have e2 : X2_cards (nI f) (nI x) = some (nI (x + f)) := by
    show some (nI x + nI f) = _
    rw [nI_add]
  have e10 : X10_cards (nI f) (nI x) = some (nI (2 * (x + f))) := by
    unfold X10_cards
    rw [e2]
    simp only [Option.bind_some, L2, pk_mul]
  have e9 : X9_cards (nI f) (nI x) = some (nI (x / 2 + 1)) := by
    unfold X9_cards
    rw [e8]
    simp only [Option.bind_some, L1, nI_add]
  have e0 : X0_cards (nI f) (nI x) = some (nI (2 * (x + f) + 11)) := by
    unfold X0_cards
    rw [e10]
    simp only [Option.bind_some, L11, nI_add]
  intro k hk
  match k, hk with
  | 0, _ => rcases hb with rfl | rfl | rfl <;> exact rfl
  | 1, _ => rcases hb with rfl | rfl | rfl <;> exact e8
  | 2, _ => rcases hb with rfl | rfl | rfl <;> exact e2
  | 3, _ => rcases hb with rfl | rfl | rfl <;> exact rfl
  | 4, _ => rcases hb with rfl | rfl | rfl <;> exact e10
  | 5, _ => rcases hb with rfl | rfl | rfl <;> exact e9
  | 6, _ => rcases hb with rfl | rfl | rfl <;> exact e0
  | 7, _ => rcases hb with rfl | rfl | rfl <;> exact rfl
  | k + 8, hk => exact absurd hk (by omega)
theorem c_cardsOf (N : NowP h n kn kd fg hd dm dy) {p : Nat} (hp : p < 9) : X5_cardsOf h 5 (nI p) = some (nI (cd (kd p) (fg p) (bc (kn p)))) := by
  have hb := bc_le (kn p)
  unfold X5_cardsOf
  rw [c_kindOf N.2.2.1 hp, Option.bind_some, par2 (Or.inl rfl) _ (N.1.2.1 p), Option.bind_some, c_figureOf N.2.2.1 hp, Option.bind_some, c_number N.1.1 N.2.2.1.1 hp, Option.bind_some, cards_v (by omega) (Or.inl rfl) _ (N.1.2.1 p)]
  rfl
theorem m_cardsOf (N : NowP h n kn kd fg hd dm dy) {p : Nat} (hp : p < 9) : X12_cardsOf h 67 (nI p) = some (nI (cd (kd p) (fg p) (bc (kn p)))) := by
  have hb := bc_le (kn p)
  have hk := N.1.2.1 p
  unfold X12_cardsOf
  rw [m_number N.1.1 N.2.2.2 hp, L0, L1, m_of, m_of]
  simp (disch := omega) only [Option.bind_some, gdi_n, i_cl, nm, (N.2.2.2.2.2.2 p hp).1, (N.2.2.2.2.2.2 p hp).2.1]
  unfold cd
  match kd p, hk with
  | 0, _ => rfl
  | 1, _ => show some (nI _ / nI 2) = _; rw [pk_div (by omega) (by omega) (by omega)]; rfl
  | 2, _ => show some (nI _ + nI _) = _; rw [nI_add]; rfl
  | 3, _ => rfl
  | 4, _ => show some (nI 2 * (nI _ + nI _)) = _; rw [nI_add, pk_mul]; rfl
  | 5, _ => show some (nI _ / nI 2 + nI 1) = _; rw [pk_div (by omega) (by omega) (by omega), nI_add]; rfl
  | 6, _ => show some (nI 2 * (nI _ + nI _) + nI 11) = _; rw [nI_add, pk_mul, nI_add]; rfl
  | 7, _ => rfl
  | k + 8, hk => exact absurd hk (by omega)
theorem S_count (N : NowP h n kn kd fg hd dm dy) (v : Int32) : ∃ r, X11_count h v = some r ∧ X12_count h v = some r := by
  have w1 := N.1.1.1
  have hs := sumn_le (kn := kn) w1
  have e1 : X5_allCards h 5 = some (nI (fb_sm (fun p => cd (kd p) (fg p) (bc (kn p))) n)) := by
    unfold X5_allCards
    refine (loopF (fun fu k s => X5_allCards_B4 h 5 fu (nI s) (nI k)) (fun s => some (nI s)) n (fun k s => s + cd (kd k) (fg k) (bc (kn k))) (fun _ _ => True) (fun fu s _ => ?_) (fun fu k s hk _ => ⟨?_, trivial⟩) n FU 0 0 (by omega) (FU_lt (by omega)) trivial).1.trans (by rw [itf_sum, Nat.zero_add])
    · show X5_allCards_B4 h 5 (fu + 1) (nI s) (nI n) = _
      rw [X5_allCards_B4, c_people N.2.2.1]
      simp (disch := omega) only [Option.bind_some, leT, ite_true]
    · show X5_allCards_B4 h 5 (fu + 1) (nI s) (nI k) = _
      rw [X5_allCards_B4, c_people N.2.2.1]
      simp (disch := omega) only [Option.bind_some, leF, ite_false, c_cardsOf N, nm, nI_add, L1]
  have e2 : ∀ z, X12_count_B60 h z FU 0 0 = some (nI (fb_sm (fun p => cd (kd p) (fg p) (bc (kn p))) n)) := by
    intro z
    refine (loopF (fun fu k s => X12_count_B60 h z fu (nI s) (nI k)) (fun s => some (nI s)) n (fun k s => s + cd (kd k) (fg k) (bc (kn k))) (fun _ _ => True) (fun fu s _ => ?_) (fun fu k s hk _ => ⟨?_, trivial⟩) n FU 0 0 (by omega) (FU_lt (by omega)) trivial).1.trans (by rw [itf_sum, Nat.zero_add])
    · show X12_count_B60 h z (fu + 1) (nI s) (nI n) = _
      rw [X12_count_B60]
      simp (disch := omega) only [L0, gdi_n, i_cl, N.2.2.2.1, leT, ite_true]
    · show X12_count_B60 h z (fu + 1) (nI s) (nI k) = _
      rw [X12_count_B60]
      simp (disch := omega) only [L0, gdi_n, i_cl, N.2.2.2.1, Option.bind_some, leF, ite_false, m_cardsOf N, nm, nI_add, L1]
  have e3 : X4_total h 6 = some (nI (sumn n kn / 2)) := by
    unfold X4_total
    rw [c_numbers N.1.1 N.2.2.1.1]
    show some (nI (sumn n kn) / nI 2) = _
    rw [pk_div (by omega) (by omega) (by omega)]
  have e4 : X12_linesIn h 67 = some (nI (sumn n kn / 2)) := m_linesIn N.1.1 N.2.2.2
  rcases arg_in v 5 with ⟨j, h1, h2, rfl⟩ | hv
  · match j, h1 with
    | 0, _ =>
      refine ⟨nI n, ?_, ?_⟩
      · show (X5_people h 5).bind _ = _
        rw [c_people N.2.2.1]; rfl
      · show some (aI h 67 0) = _
        rw [N.2.2.2.1]
    | 1, _ => exact ⟨nI dy, congrArg some N.2.2.1.2.2.2.2.2, congrArg some N.2.2.2.2.1⟩
    | 2, _ =>
      refine ⟨nI (sumn n kn / 2), ?_, ?_⟩
      · show (X4_total h 6).bind _ = _
        rw [e3]; rfl
      · show (X12_linesIn h 67).bind _ = _
        rw [e4]; rfl
    | 3, _ => exact ⟨nI hd, congrArg some N.2.2.1.2.2.2.1, congrArg some N.2.2.2.2.2.1⟩
    | 4, _ =>
      refine ⟨_, ?_, e2 _⟩
      show (X5_allCards h 5).bind _ = _
      rw [e1]; rfl
    | j + 5, h => exact absurd h (by omega)
  · refine ⟨-1, ?_, ?_⟩
    · unfold X11_count
      rw [L0, L1, L2, L3, L4]
      simp (disch := omega) only [out_ne hv, ite_false]
    · unfold X12_count
      rw [L0, L1, L2, L3, L4]
      simp (disch := omega) only [out_ne hv, ite_false]
theorem fe_bit {p : Nat} (hp : p < n) : (fe n kn).testBit p = decide (bc (kn p) * bc (kn p) < ks n kn p) := by
  have key : ∀ m, m ≤ n → ∀ q, (itf (fstep n kn) 0 m 0).testBit q = (decide (q < m) && decide (bc (kn q) * bc (kn q) < ks n kn q)) := by
    intro m
    induction m with
    | zero => intro _ q; simp [itf]
    | succ m ih =>
      intro hm q
      rw [itf_last, Nat.zero_add]
      rw [show ∀ x, fstep n kn m x = if bc (kn m) * bc (kn m) < ks n kn m then x ||| 2 ^ m else x from fun _ => rfl]
      by_cases hc : bc (kn m) * bc (kn m) < ks n kn m
      · rw [if_pos hc, Nat.testBit_or, ih (by omega), tb_pow]
        by_cases hq : q = m
        · subst hq; simp [hc]
        · rw [show decide (q < m + 1) = decide (q < m) from by simp; omega, show decide (m = q) = false from by simp; omega, Bool.or_false]
      · rw [if_neg hc, ih (by omega)]
        by_cases hq : q = m
        · subst hq; simp [hc]
        · rw [show decide (q < m + 1) = decide (q < m) from by simp; omega]
  rw [show fe n kn = itf (fstep n kn) 0 n 0 from rfl, key n (Nat.le_refl n) p]
  simp [hp]
theorem S_one (N : NowP h n kn kd fg hd dm dy) (u v : Int32) : ∃ r, X11_one h u v = some r ∧ X12_one h u v = some r := by
  have w1 := N.1.1.1
  rcases arg_in u n with ⟨p, h1, h2, rfl⟩ | hu
  · have hp : p < 9 := by omega
    have hhd : hd < 512 := Nat.lt_of_lt_of_le N.1.2.2.2.1 (show 2 ^ n ≤ 2 ^ 9 from Nat.pow_le_pow_right (by decide) w1)
    have hfe : fe n kn < 512 := Nat.lt_of_lt_of_le (fe_lt (kn := kn)) (show 2 ^ n ≤ 2 ^ 9 from Nat.pow_le_pow_right (by decide) w1)
    have hdy := N.2.1
    have R := N.2.2.2.2.2.2 p hp
    rcases arg_in v 8 with ⟨j, h3, h4, rfl⟩ | hv
    · unfold X11_one X12_one
      rw [c_has_in N.2.2.1 h1 w1, m_isOne_in N.2.2.2 h1 w1, Option.bind_some, Option.bind_some, if_neg (show ¬ nI 1 = 0 by decide), if_neg (show ¬ nI 1 = 0 by decide), show X12_isIn (nI j) 0 7 = some (nI 1) from isIn_in h3 (by decide), Option.bind_some, if_neg (show ¬ nI 1 = 0 by decide)]
      match j, h3 with
      | 0, _ =>
        refine ⟨nI (kd p), ?_, ?_⟩
        · show (X5_kindOf h 5 (nI p)).bind _ = _
          rw [c_kindOf N.2.2.1 hp]; rfl
        · refine Eq.trans (if_neg (by decide)) ?_
          refine Eq.trans (if_neg (by decide)) ?_
          refine Eq.trans (if_neg (by decide)) ?_
          refine Eq.trans (if_neg (by decide)) ?_
          refine Eq.trans (if_neg (by decide)) ?_
          refine Eq.trans (if_neg (by decide)) ?_
          show (X12_of (nI p) (nI 0)).bind _ = _
          rw [m_of]
          simp (disch := omega) only [Option.bind_some, gdi_n, i_cl, R.1]
      | 1, _ =>
        refine ⟨nI (fg p), ?_, ?_⟩
        · show (X5_figureOf h 5 (nI p)).bind _ = _
          rw [c_figureOf N.2.2.1 hp]; rfl
        · refine Eq.trans (if_neg (by decide)) ?_
          refine Eq.trans (if_neg (by decide)) ?_
          refine Eq.trans (if_neg (by decide)) ?_
          refine Eq.trans (if_neg (by decide)) ?_
          refine Eq.trans (if_neg (by decide)) ?_
          refine Eq.trans (if_neg (by decide)) ?_
          show (X12_of (nI p) (nI 1)).bind _ = _
          rw [m_of]
          simp (disch := omega) only [Option.bind_some, gdi_n, i_cl, R.2.1]
      | 2, _ =>
        refine ⟨nI (bc (kn p)), ?_, ?_⟩
        · show (X4_number h 6 (nI p)).bind _ = _
          rw [c_number N.1.1 N.2.2.1.1 hp]; rfl
        · show (X12_number h 67 (nI p)).bind _ = _
          rw [m_number N.1.1 N.2.2.2 hp]; rfl
      | 3, _ =>
        refine ⟨nI (kn p), ?_, ?_⟩
        · show (X4_around h 6 (nI p)).bind _ = _
          rw [c_around N.2.2.1.1 hp]; rfl
        · refine Eq.trans (if_neg (by decide)) ?_
          refine Eq.trans (if_pos (by decide)) ?_
          show (X12_of (nI p) (nI 2)).bind _ = _
          rw [m_of]
          simp (disch := omega) only [Option.bind_some, gdi_n, i_cl, R.2.2]
      | 4, _ =>
        refine ⟨nI (hd.testBit p).toNat, ?_, ?_⟩
        · show some ((fI h 5 4 >>> (nI p &&& 31)) &&& nI 1) = _
          rw [N.2.2.1.2.2.2.1, i_bit (by omega) (by omega)]
        · show some ((aI h 67 2 >>> (nI p &&& 31)) &&& nI 1) = _
          rw [N.2.2.2.2.2.1, i_bit (by omega) (by omega)]
      | 5, _ =>
        refine ⟨nI (tl (kd p) (fg p) (dy + 1)), ?_, ?_⟩
        · show (X5_kindOf h 5 (nI p)).bind _ = _
          rw [c_kindOf N.2.2.1 hp, Option.bind_some, par2 (Or.inl rfl) _ (N.1.2.1 p), Option.bind_some, c_figureOf N.2.2.1 hp, Option.bind_some, N.2.2.1.2.2.2.2.2, L1, nI_add, tells_v (by omega) (N.1.2.2.1 p) (Or.inl rfl) _ (N.1.2.1 p)]
          rfl
        · refine Eq.trans (if_neg (by decide)) ?_
          refine Eq.trans (if_neg (by decide)) ?_
          refine Eq.trans (if_neg (by decide)) ?_
          refine Eq.trans (if_pos (by decide)) ?_
          show (X12_of (nI p) (nI 0)).bind _ = _
          rw [m_of, L1, m_of]
          simp (disch := omega) only [Option.bind_some, gdi_n, i_cl, R.1, R.2.1, N.2.2.2.2.1, nI_add, m_tellsBy (N.1.2.1 p) (N.1.2.2.1 p) (show dy + 1 < 1000000 by omega)]
      | 6, _ =>
        refine ⟨nI (cd (kd p) (fg p) (bc (kn p))), ?_, ?_⟩
        · show (X5_cardsOf h 5 (nI p)).bind _ = _
          rw [c_cardsOf N hp]; rfl
        · show (X12_cardsOf h 67 (nI p)).bind _ = _
          rw [m_cardsOf N hp]; rfl
      | 7, _ =>
        refine ⟨nI (decide (bc (kn p) * bc (kn p) < ks n kn p)).toNat, ?_, ?_⟩
        · show (X4_feelers h 6).bind _ = _
          rw [c_feelers N.1.1 N.2.2.1.1]
          show some ((nI (fe n kn) >>> (nI p &&& 31)) &&& nI 1) = _
          rw [i_bit (by omega) (by omega), fe_bit h1]
        · show (X12_feelsIt h 67 (nI p)).bind _ = _
          rw [m_feelsIt N.1.1 N.2.2.2 hp]
          by_cases hc : bc (kn p) * bc (kn p) < ks n kn p
          · rw [decide_eq_true hc]; rfl
          · rw [decide_eq_false hc]; rfl
      | j + 8, h => exact absurd h (by omega)
    · refine ⟨-1, ?_, ?_⟩
      · unfold X11_one
        have ne : ∀ j, j < 8 → ¬ v = nI j := fun j hj e => by rw [out_ne hv hj (by decide)] at e; exact e
        rw [c_has_in N.2.2.1 h1 w1, Option.bind_some, if_neg (show ¬ nI 1 = 0 by decide), if_neg (show ¬ v = 0 from ne 0 (by decide)), if_neg (show ¬ v = 1 from ne 1 (by decide)), if_neg (show ¬ v = 2 from ne 2 (by decide)), if_neg (show ¬ v = 3 from ne 3 (by decide)), if_neg (show ¬ v = 4 from ne 4 (by decide)), if_neg (show ¬ v = 5 from ne 5 (by decide)), if_neg (show ¬ v = 6 from ne 6 (by decide)), if_neg (show ¬ v = 7 from ne 7 (by decide))]
      · unfold X12_one
        rw [m_isOne_in N.2.2.2 h1 w1, Option.bind_some, if_neg (show ¬ nI 1 = 0 by decide), show X12_isIn v 0 7 = some (nI 0) from isIn_out hv (by decide)]
        rfl
  · refine ⟨-1, ?_, ?_⟩
    · unfold X11_one
      rw [c_has_out N.2.2.1 w1 hu]; rfl
    · unfold X12_one
      rw [m_isOne_out N.2.2.2 w1 hu]; rfl
end EASY
/-- the COST of one of a kind with a figure -/
def pr (k f : Nat) : Nat := if k = 1 then 2 else if k = 2 then 1 + f else if k = 3 then 5 else if k = 4 then 2 * (1 + f) else if k = 6 then 11 else if k = 7 then 5 else 1
theorem price_v {b f : Nat} (hb : isPar b) : ∀ k, k < 8 → V_price (b + 5 + k) (nI f) = some (nI (pr k f)) := by
  have e2 : X2_price (nI f) = some (nI (1 + f)) := by
    show some (nI 1 + nI f) = _
    rw [nI_add]
  have e10 : X10_price (nI f) = some (nI (2 * (1 + f))) := by
    unfold X10_price
    rw [e2]
    simp only [Option.bind_some, L2, pk_mul]
  intro k hk
  match k, hk with
  | 0, _ => rcases hb with rfl | rfl | rfl <;> exact rfl
  | 1, _ => rcases hb with rfl | rfl | rfl <;> exact rfl
  | 2, _ => rcases hb with rfl | rfl | rfl <;> exact e2
  | 3, _ => rcases hb with rfl | rfl | rfl <;> exact rfl
  | 4, _ => rcases hb with rfl | rfl | rfl <;> exact e10
  | 5, _ => rcases hb with rfl | rfl | rfl <;> exact rfl
  | 6, _ => rcases hb with rfl | rfl | rfl <;> exact rfl
  | 7, _ => rcases hb with rfl | rfl | rfl <;> exact rfl
  | k + 8, hk => exact absurd hk (by omega)
theorem costBy_v {f : Nat} : ∀ k, k < 8 → X12_costBy (nI k) (nI f) = some (nI (pr k f)) := by
  intro k hk
  match k, hk with
  | 0, _ => exact rfl
  | 1, _ => exact rfl
  | 2, _ => show some (nI 1 + nI f) = _; rw [nI_add]; rfl
  | 3, _ => exact rfl
  | 4, _ => show some (nI 2 * (nI 1 + nI f)) = _; rw [nI_add, pk_mul]; rfl
  | 5, _ => exact rfl
  | 6, _ => exact rfl
  | 7, _ => exact rfl
  | k + 8, hk => exact absurd hk (by omega)
theorem S_cost {h : HS} (hS : ∀ k, k < 8 → ∃ ho so le el, ShP h k ho so le el) (v : Int32) : ∃ r, X11_cost h v = some r ∧ X12_cost h v = some r := by
  rcases arg_in v 8 with ⟨k, h1, h2, rfl⟩ | hv
  · obtain ⟨ho, so, le, el, S⟩ := hS k h1
    unfold X11_cost X12_cost
    rw [c_shelf_in h1, m_oneRef h1 S]
    show ∃ r, (X11_oneRefusal h (some (50 + 2 * k))).bind _ = _ ∧ _
    rw [c_oneRef S]
    simp only [Option.bind_some]
    by_cases hc : ho = 1
    · obtain ⟨ki, fi, g1, g2, g3, g4, g5, g6⟩ := S.2.1 hc
      refine ⟨nI (pr ki fi), ?_, ?_⟩
      · rw [if_pos (by rw [hc]; rfl), g3, g4, par2 (Or.inl rfl) ki g1, Option.bind_some, price_v (Or.inl rfl) ki g1]; rfl
      · rw [if_pos (by rw [hc]; rfl)]
        simp (disch := omega) only [gdi_n, i_cl, g5, g6, costBy_v ki g1, Option.bind_some]
    · have h3 := S.1.2.2
      have hne : ¬ rof ho = 0 := by
        rcases (show ho = 0 ∨ ho = 2 by omega) with q | q <;> rw [q] <;> decide
      exact ⟨rof ho, by rw [if_neg hne], by rw [if_neg hne]⟩
  · refine ⟨-1, ?_, ?_⟩
    · unfold X11_cost
      rw [c_shelf_out hv]; rfl
    · unfold X12_cost
      rw [m_one_out hv]; rfl
