/-! the calls that change the parish, and those that look ahead in it -/
theorem ParL_sA {h : HS} {b n : Nat} {kn kd fg : Nat → Nat} {hd dm dy : Nat} {o : Nat} {f : Nat → Int32} (P : ParL h b n kn kd fg hd dm dy) (h1 : o ≠ b + 2) (h2 : o ≠ b + 13) (h3 : o ≠ b + 14) : ParL (sA h o f) b n kn kd fg hd dm dy := by
  refine ⟨⟨P.1.1, fun p hp => ?_⟩, fun p hp => ?_, fun p hp => ?_, P.2.2.2⟩
  · rw [aI_sA_ne (show b + 1 + 1 ≠ o by omega)]; exact P.1.2 p hp
  · rw [aI_sA_ne (show b + 13 ≠ o by omega)]; exact P.2.1 p hp
  · rw [aI_sA_ne (show b + 14 ≠ o by omega)]; exact P.2.2.1 p hp
theorem FrB.row {h h1 : HS} (x : FrB 5 h h1) : aI h1 67 = aI h 67 := x.2 67 (by decide) (by decide) (by decide)
section CALLS
variable {h : HS}
theorem S_line (I : Inv h) (u v : Int32) : ∃ r h1 h2, X11_line h u v = some (r, h1) ∧ X12_line h1 u v = some (r, h2) ∧ Inv h2 := by
  obtain ⟨n, kn, kd, fg, hd, dm, dy, w, d, P, R⟩ := id I.1
  have w1 := w.1.1
  have bad : X5_join h 5 u v = some (-1, h) → X12_areTwo h u v = some (nI 0) → ∃ r h1 h2, X11_line h u v = some (r, h1) ∧ X12_line h1 u v = some (r, h2) ∧ Inv h2 := by
    intro e1 e2
    refine ⟨-1, h, h, ?_, ?_, I⟩
    · unfold X11_line; rw [e1]; rfl
    · unfold X12_line; rw [e2]; rfl
  rcases arg_in u n with ⟨p, h1, h2, rfl⟩ | hu
  · rcases arg_in v n with ⟨q, h3, h4, rfl⟩ | hv
    · by_cases e : p = q
      · subst e
        refine bad ?_ (by rw [m_areTwo_in R h1 h1 w1, decide_eq_false (by omega)]; rfl)
        unfold X5_join
        rw [c_has_in P h1 w1]
        simp (disch := omega) only [Option.bind_some, L0, eqF, ite_false, ite_true]
      · obtain ⟨t, e1, P1, f1⟩ := c_join w P h1 h3 e
        have R1 : RowP (aI t 67) n kn kd fg hd dy := by rw [f1.row]; exact R
        obtain ⟨g, e2, R2⟩ := m_changesLine R1 (show p < 9 by omega) (show q < 9 by omega) e
        have hk := (WFk_flip w.1 h1 h3 e).lt p
        refine ⟨nI ((flip kn p q p).testBit q).toNat, t, sA t 67 g, ?_, ?_, ?_⟩
        · unfold X11_line; rw [e1]; rfl
        · unfold X12_line
          rw [m_areTwo_in R1 h1 h3 w1, decide_eq_true e]
          simp (disch := omega) only [Option.bind_some, Bool.toNat_true, L0, eqF, ite_false, e2, L2, m_of, gdi_n, i_cl, aI_sA_eq, (R2.2.2.2 p (show p < 9 by omega)).2.2, L1, i_bit]
        · exact I.n (f1.n.a (by decide) (by decide)) (WFp_flip w h1 h3 e) d (ParL_sA P1 (by decide) (by decide) (by decide)) (by rw [aI_sA_eq]; exact R2)
    · refine bad ?_ (m_areTwo_out2 R w1 h1 hv)
      unfold X5_join
      rw [c_has_in P h1 w1, c_has_out P w1 hv]; rfl
  · refine bad ?_ (m_areTwo_out1 R w1 hu)
    unfold X5_join
    rw [c_has_out P w1 hu]; rfl
theorem S_told (I : Inv h) (u : Int32) : ∃ r h1 h2, X11_told h u = some (r, h1) ∧ X12_told h1 u = some (r, h2) ∧ Inv h2 := by
  obtain ⟨n, kn, kd, fg, hd, dm, dy, w, d, P, R⟩ := id I.1
  have w1 := w.1.1
  rcases arg_in u n with ⟨p, h1, h2, rfl⟩ | hu
  · have hp : p < 9 := by omega
    by_cases h7 : kd p = 7
    · refine ⟨-3, h, h, ?_, ?_, I⟩
      · unfold X11_told X5_inform
        rw [c_has_in P h1 w1, c_isDeaf w P hp, h7]; rfl
      · unfold X12_told
        rw [m_isOne_in R h1 w1, m_isDeaf w R hp, h7]; rfl
    · obtain ⟨t, e1, P1, f1⟩ := c_inform w P h1 h7
      have R1 : RowP (aI t 67) n kn kd fg hd dy := by rw [f1.row]; exact R
      have R2 := RowP_hd R1 (hd ^^^ 2 ^ p)
      have hx : hd ^^^ 2 ^ p < 2 ^ n := Nat.xor_lt_two_pow w.2.2.2.1 (pow_lt h1)
      have h9 := pow_le9 w1
      refine ⟨nI ((hd ^^^ 2 ^ p).testBit p).toNat, t, sA t 67 (upd (aI t 67) 2 (nI (hd ^^^ 2 ^ p))), ?_, ?_, ?_⟩
      · unfold X11_told; rw [e1]; rfl
      · unfold X12_told
        rw [m_isOne_in R1 h1 w1, m_isDeaf w R1 hp, show (kd p == 7) = false from by simpa using h7]
        simp (disch := omega) only [Option.bind_some, Bool.toNat_false, L0, eqF, ite_false, ite_true, L2, L1, gdi_n, i_cl, nm, R1.2.2.1, i_one, i_xor, aI_sA_eq, R2.2.2.1, i_bit]
      · exact I.n (f1.n.a (by decide) (by decide)) (WFp_hd w hx) d (ParL_sA P1 (by decide) (by decide) (by decide)) (by rw [aI_sA_eq]; exact R2)
  · refine ⟨-1, h, h, ?_, ?_, I⟩
    · unfold X11_told X5_inform
      rw [c_has_out P w1 hu]; rfl
    · unfold X12_told
      rw [m_isOne_out R w1 hu]; rfl
theorem S_days (I : Inv h) (u : Int32) : ∃ r h1 h2, X11_days h u = some (r, h1) ∧ X12_days h1 u = some (r, h2) ∧ Inv h2 := by
  obtain ⟨n, kn, kd, fg, hd, dm, dy, w, d, P, R⟩ := id I.1
  have w1 := w.1.1
  have h9 := pow_le9 w1
  have bad : ∀ v, X5_goOn h 5 v = some (-1, h) → X12_isIn v 1 60 = some (nI 0) → ∃ r h1 h2, X11_days h v = some (r, h1) ∧ X12_days h1 v = some (r, h2) ∧ Inv h2 := by
    intro v e1 e2
    refine ⟨-1, h, h, ?_, ?_, I⟩
    · unfold X11_days; rw [e1]; rfl
    · unfold X12_days; rw [e2]; rfl
  rcases arg_in u 61 with ⟨m, h1, h2, rfl⟩ | hu
  · by_cases h0 : m = 0
    · subst h0
      refine bad _ ?_ (by decide)
      unfold X5_goOn
      simp (disch := omega) only [L1, ltT, ite_true]
    · have ei : X12_isIn (nI m) 1 60 = some (nI 1) := by
        rw [L1, L60, isIn_n (by omega) (by omega) (by omega), decide_eq_true (by omega)]; rfl
      by_cases h3 : dy + m ≤ 999
      · obtain ⟨t, e1, P1, f1⟩ := c_goOn (Or.inl rfl) w P (show 1 ≤ m by omega) (show m ≤ 60 by omega) h3
        have R1 : RowP (aI t 67) n kn kd fg hd dy := by rw [f1.row]; exact R
        have R2 := RowP_hd (RowP_dy R1 (dy + m)) (ndays n kn kd fg dy (fun q => (0 : Nat).testBit q) 1 m hd)
        have hx : ndays n kn kd fg dy (fun q => (0 : Nat).testBit q) 1 m hd < 2 ^ n := ndays_lt w.2.2.2.1
        refine ⟨nI (bc (ndays n kn kd fg dy (fun q => (0 : Nat).testBit q) 1 m hd)), t, sA t 67 (upd (upd (aI t 67) 1 (nI (dy + m))) 2 (nI (ndays n kn kd fg dy (fun q => (0 : Nat).testBit q) 1 m hd))), ?_, ?_, ?_⟩
        · unfold X11_days; rw [e1]; rfl
        · unfold X12_days
          rw [ei, L0, L1, L2, L999]
          simp (disch := omega) only [Option.bind_some, eqF, ite_false, gdi_n, i_cl, R1.2.1, nI_add, leT, ite_true, m_daysOn w R1 (show dy < 100000 by omega) (show m < 990 by omega), aI_sA_eq, R2.2.2.1, bits_n (show ndays n kn kd fg dy (fun q => (0 : Nat).testBit q) 1 m hd < 512 by omega)]
        · exact I.n (f1.n.a (by decide) (by decide)) (WFp_dy (WFp_hd w hx) (show dy + m < 1000000 by omega)) h3 (ParL_sA P1 (by decide) (by decide) (by decide)) (by rw [aI_sA_eq]; exact R2)
      · refine ⟨-3, h, h, ?_, ?_, I⟩
        · unfold X11_days X5_goOn
          simp (disch := omega) only [L1, L60, L999, ltF, leT, ite_true, ite_false, P.2.2.2.2.2, nI_add, leF]
          rfl
        · unfold X12_days
          rw [ei, L0, L1, L999]
          simp (disch := omega) only [Option.bind_some, eqF, ite_false, gdi_n, i_cl, R.2.1, nI_add, leF]
  · refine bad u ?_ ?_
    · unfold X5_goOn
      rcases hu with hu | ⟨j, h1, h2, rfl⟩
      · rw [if_pos (show u < 1 from neg_lt (j := 1) hu (by decide))]
      · simp (disch := omega) only [L1, L60, ltF, leF, ite_false]
    · rcases hu with hu | ⟨j, h1, h2, rfl⟩
      · exact isIn_neg hu (by decide)
      · rw [L1, L60, isIn_n (by omega) (by omega) (by omega), decide_eq_false (by omega)]; rfl
theorem S_comes (I : Inv h) (u : Int32) : ∃ r h1 h2, X11_comes h u = some (r, h1) ∧ X12_comes h1 u = some (r, h2) ∧ Inv h2 := by
  obtain ⟨n, kn, kd, fg, hd, dm, dy, w, d, P, R⟩ := id I.1
  have w1 := w.1.1
  rcases arg_in u 8 with ⟨k, h1, h2, rfl⟩ | hu
  · obtain ⟨ho, so, le, el, S⟩ := I.2.2.1 k h1
    have e0 : X11_comes h (nI k) = (if rof ho = 0 then (X5_arrive h 5 (fI h (50 + 2 * k) 1) (fI h (50 + 2 * k) 2)).bind fun q7 => some (q7.1, q7.2) else some (rof ho, h)) := by
      unfold X11_comes
      rw [c_shelf_in h1]
      show (X11_oneRefusal h (some (50 + 2 * k))).bind _ = _
      rw [c_oneRef S]; rfl
    by_cases hc : ho = 1
    · obtain ⟨ki, fi, g1, g2, g3, g4, g5, g6⟩ := S.2.1 hc
      rw [e0, if_pos (by rw [hc]; rfl), g3, g4]
      by_cases hn : n = 9
      · rw [c_arrive_full P hn g1 g2]
        refine ⟨-2, h, h, rfl, ?_, I⟩
        unfold X12_comes
        rw [m_oneRef h1 S, Option.bind_some, if_pos (by rw [hc]; rfl)]
        simp (disch := omega) only [L0, gdi_n, i_cl, R.1, hn, L9, ite_true]
      · obtain ⟨t, e1, P1, f1⟩ := c_arrive (Or.inl rfl) w P (show n < 9 by omega) g1 g2
        have R1 : RowP (aI t 67) n kn kd fg hd dy := by rw [f1.row]; exact R
        obtain ⟨g, e2, R2⟩ := m_adds w R1 (k := ki) (f := fi) (show n < 9 by omega)
        have St : ShP t k ho so le el := f1.n.shelf sh_nw (by decide) (by decide) h1 S
        rw [e1]
        refine ⟨nI n, t, sA t 67 g, rfl, ?_, ?_⟩
        · unfold X12_comes
          rw [m_oneRef h1 St, Option.bind_some, if_pos (by rw [hc]; rfl)]
          rw [← f1.n.2.1 77 (by decide) (by decide)] at g5
          rw [← f1.n.2.1 78 (by decide) (by decide)] at g6
          simp (disch := omega) only [L0, L1, L9, gdi_n, i_cl, R1.1, eqF, ite_false, g5, g6, e2, Option.bind_some, aI_sA_eq, R2.1]
          rw [pk_sub (by omega), Nat.add_sub_cancel]
        · exact I.n (f1.n.a (by decide) (by decide)) (WFp_change (WFp_more w (by omega)) (Nat.lt_succ_self n) g1 g2) d (ParL_sA P1 (by decide) (by decide) (by decide)) (by rw [aI_sA_eq]; exact R2)
    · have h3 := S.1.2.2
      have hne : ¬ rof ho = 0 := by
        rcases (show ho = 0 ∨ ho = 2 by omega) with q | q <;> rw [q] <;> decide
      refine ⟨rof ho, h, h, by rw [e0, if_neg hne], ?_, I⟩
      unfold X12_comes
      rw [m_oneRef h1 S, Option.bind_some, if_neg hne]
  · refine ⟨-1, h, h, ?_, ?_, I⟩
    · unfold X11_comes
      rw [c_shelf_out hu]; rfl
    · unfold X12_comes
      rw [m_one_out hu]; rfl
theorem S_then (I : Inv h) (u : Int32) : ∃ r h2, X11_then h u = some r ∧ X12_then h u = some (r, h2) ∧ Inv h2 := by
  obtain ⟨n, kn, kd, fg, hd, dm, dy, w, d, P, R⟩ := id I.1
  have w1 := w.1.1
  rcases arg_in u 61 with ⟨m, h1, h2, rfl⟩ | hu
  · obtain ⟨f, e1, hf⟩ := m_copies (h := h) (show (67 : Nat) ≠ 68 by decide)
    have R1 : RowP (aI (sA h 68 f) 68) n kn kd fg hd dy := by rw [aI_sA_eq]; exact RowP_congr R hf
    have R2 := RowP_hd (RowP_dy R1 (dy + m)) (ndays n kn kd fg dy (fun q => (0 : Nat).testBit q) 1 m hd)
    refine ⟨nI (ndays n kn kd fg dy (fun q => (0 : Nat).testBit q) 1 m hd), sA (sA h 68 f) 68 (upd (upd (aI (sA h 68 f) 68) 1 (nI (dy + m))) 2 (nI (ndays n kn kd fg dy (fun q => (0 : Nat).testBit q) 1 m hd))), ?_, ?_, ?_⟩
    · unfold X11_then
      rw [P.2.2.2.1]
      simp (disch := omega) only [L0, ltF, ite_false, L60, leT, ite_true, c_behind (Or.inl rfl) w P w.2.2.2.1 (show m < 900 by omega) (show dy < 100000 by omega) (sn := 0), Option.bind_some]
    · have late : X12_isLate (nI m) = some (nI 1) := by
        unfold X12_isLate
        rw [show X12_isIn (nI m) 0 60 = some (nI 1) from isIn_in h1 (by decide)]; rfl
      unfold X12_then
      rw [late, Option.bind_some, if_neg (show ¬ nI 1 = 0 by decide), e1]
      simp (disch := omega) only [Option.bind_some, L2, gdi_n, i_cl, m_daysOn w R1 (show dy < 100000 by omega) (show m < 990 by omega), aI_sA_eq]
      simp only [aI_sA_eq] at R2
      rw [R2.2.2.1]
    · exact (((Keep.refl h).a (by decide)).a (by decide)).inv I
  · refine ⟨-1, h, ?_, ?_, I⟩
    · unfold X11_then
      rcases hu with hu | ⟨j, h1, h2, rfl⟩
      · rw [if_pos hu]
      · simp (disch := omega) only [L0, L60, ltF, leF, ite_false]
    · unfold X12_then X12_isLate
      rw [show X12_isIn u 0 60 = some (nI 0) from isIn_out hu (by decide)]; rfl
/-- from which day on p has HEARD; k days are gone, of m more it is asked -/
def hr (n : Nat) (kn kd fg : Nat → Nat) (dy p : Nat) : Nat → Nat → Nat → Int32
  | _, 0, _ => -4
  | k, m + 1, s => if s.testBit p then nI k else hr n kn kd fg dy p (k + 1) m (nh n kn kd fg (dy + (k + 1)) s (fun q => (0 : Nat).testBit q))
theorem S_hears (I : Inv h) (u : Int32) : ∃ r h2, X11_hears h u = some r ∧ X12_hears h u = some (r, h2) ∧ Inv h2 := by
  obtain ⟨n, kn, kd, fg, hd, dm, dy, w, d, P, R⟩ := id I.1
  have w1 := w.1.1
  have h9 := pow_le9 w1
  rcases arg_in u n with ⟨p, h1, h2, rfl⟩ | hu
  · have kc : ∀ m fu k s, k + m = 61 → m < fu → s < 2 ^ n → X11_hears_B23 h (nI p) fu (nI s) (nI k) = some (hr n kn kd fg dy p k m s) := by
      intro m
      induction m with
      | zero =>
        intro fu k s hk hf hs
        obtain ⟨fu, rfl⟩ : ∃ f, fu = f + 1 := ⟨fu - 1, by omega⟩
        rw [X11_hears_B23]
        simp (disch := omega) only [L60, ltT, ite_true]
        rfl
      | succ m ih =>
        intro fu k s hk hf hs
        obtain ⟨fu, rfl⟩ : ∃ f, fu = f + 1 := ⟨fu - 1, by omega⟩
        rw [X11_hears_B23, hr]
        simp (disch := omega) only [L60, ltF, ite_false, L1, i_bit]
        cases s.testBit p
        · simp (disch := omega) only [Bool.toNat_false, L0, ite_true, P.2.2.2.2.2, nI_add, c_nextHeard (Or.inl rfl) w P hs (show dy + k + 1 < 1000000 by omega) (sn := 0), Option.bind_some, nm, Bool.false_eq_true, ite_false]
          exact ih fu (k + 1) _ (by omega) (by omega) (nh_lt hs)
        · simp (disch := omega) only [Bool.toNat_true, L0, eqF, ite_false, ite_true]
    have km : ∀ m fu k s t, k + m = 61 → m < fu → s < 2 ^ n → RowP (aI t 68) n kn kd fg s (dy + k) → Keep h t → ∃ t1, X12_hears_B23 (nI p) fu (nI k) t = some (hr n kn kd fg dy p k m s, t1) ∧ Keep h t1 := by
      intro m
      induction m with
      | zero =>
        intro fu k s t hk hf hs hR hK
        obtain ⟨fu, rfl⟩ : ∃ f, fu = f + 1 := ⟨fu - 1, by omega⟩
        refine ⟨t, ?_, hK⟩
        rw [X12_hears_B23]
        simp (disch := omega) only [L60, ltT, ite_true]
        rfl
      | succ m ih =>
        intro fu k s t hk hf hs hR hK
        obtain ⟨fu, rfl⟩ : ∃ f, fu = f + 1 := ⟨fu - 1, by omega⟩
        rw [X12_hears_B23, hr]
        simp (disch := omega) only [L60, ltF, ite_false, L2, gdi_n, i_cl, hR.2.2.1, has_n, Option.bind_some]
        cases s.testBit p
        · have wS := WFp_dy (WFp_hd w hs) (show dy + k < 1000000 by omega)
          simp (disch := omega) only [Bool.toNat_false, L0, ite_true, m_day wS hR (show dy + k < 900000 by omega) (sl := fun q => (0 : Nat).testBit q) (fun q hq => has_n (show 0 < 2147483648 by omega) (show q < 32 by omega)), Option.bind_some, nm, L1, nI_add, Bool.false_eq_true, ite_false]
          exact ih fu (k + 1) _ _ (by omega) (by omega) (nh_lt hs) (by rw [aI_sA_eq]; exact RowP_hd (RowP_dy hR (dy + k + 1)) _) (hK.a (by decide))
        · simp (disch := omega) only [Bool.toNat_true, L0, eqF, ite_false, ite_true]
          exact ⟨t, rfl, hK⟩
    obtain ⟨f, e1, hf⟩ := m_copies (h := h) (show (67 : Nat) ≠ 68 by decide)
    obtain ⟨t1, e2, hK⟩ := km 61 FU 0 hd (sA h 68 f) (by omega) (FU_lt (by omega)) w.2.2.2.1 (by rw [aI_sA_eq]; exact RowP_congr R hf) ((Keep.refl h).a (by decide))
    refine ⟨hr n kn kd fg dy p 0 61 hd, t1, ?_, ?_, hK.inv I⟩
    · unfold X11_hears
      rw [c_has_in P h1 w1, Option.bind_some, if_neg (show ¬ nI 1 = 0 by decide), P.2.2.2.1]
      exact kc 61 FU 0 hd (by omega) (FU_lt (by omega)) w.2.2.2.1
    · unfold X12_hears
      rw [m_isOne_in R h1 w1, Option.bind_some, if_neg (show ¬ nI 1 = 0 by decide), e1]
      exact e2
  · refine ⟨-1, h, ?_, ?_, I⟩
    · unfold X11_hears
      rw [c_has_out P w1 hu]; rfl
    · unfold X12_hears
      rw [m_isOne_out R w1 hu]; rfl
theorem S_image (I : Inv h) : ∃ r h1 h2, X11_image h = some (r, h1) ∧ X12_image h1 = some (r, h2) ∧ Inv h2 := by
  obtain ⟨n, kn, kd, fg, hd, dm, dy, w, d, P, R⟩ := id I.1
  obtain ⟨t, e1, P1, f1⟩ := c_become (b := 35) (s := 5) (Or.inr (Or.inr rfl)) (Or.inl rfl) (by decide) P
  have N1 : NowP t n kn kd fg hd dm dy := KeepI.now f1.i ⟨w, d, P, R⟩
  obtain ⟨f, e2, hf⟩ := m_copies (h := sF t 0 3 1) (show (67 : Nat) ≠ 69 by decide)
  refine ⟨nI dy, sF t 0 3 1, sF (sA (sF t 0 3 1) 69 f) 66 4 1, ?_, ?_, ?_⟩
  · unfold X11_image
    rw [e1]
    show some (fI (sF t 0 3 1) 5 6, sF t 0 3 1) = _
    rw [fI_sF_ne (by decide), N1.2.2.1.2.2.2.2.2]
  · unfold X12_image
    rw [e2]
    show some (aI (sF (sA (sF t 0 3 1) 69 f) 66 4 1) 67 1, _) = _
    rw [aI_sF, aI_sA_ne (by decide), aI_sF, N1.2.2.2.2.1]
  · refine I.i (((f1.i.f (by decide)).a (by decide) (by decide)).f (by decide)) (Or.inr ⟨?_, fI_sF_eq, n, kn, kd, fg, hd, dm, dy, w, d, ?_, ?_⟩)
    · rw [fI_sF_ne (by decide), fI_sA, fI_sF_eq]
    · have P2 := ParL_sA (o := 69) (f := f) P1 (by decide) (by decide) (by decide)
      refine ⟨⟨?_, P2.1.2⟩, P2.2.1, P2.2.2.1, ?_, ?_, ?_⟩
      · rw [fI_sF_ne (by decide), fI_sA, fI_sF_ne (by decide)]; exact P1.1.1
      · rw [fI_sF_ne (by decide), fI_sA, fI_sF_ne (by decide)]; exact P1.2.2.2.1
      · rw [fI_sF_ne (by decide), fI_sA, fI_sF_ne (by decide)]; exact P1.2.2.2.2.1
      · rw [fI_sF_ne (by decide), fI_sA, fI_sF_ne (by decide)]; exact P1.2.2.2.2.2
    · rw [aI_sF, aI_sA_eq]
      exact RowP_congr N1.2.2.2 hf
theorem S_restore (I : Inv h) : ∃ r h1 h2, X11_restore h = some (r, h1) ∧ X12_restore h1 = some (r, h2) ∧ Inv h2 := by
  rcases id I.2.1 with ⟨a, b⟩ | ⟨a, b, n, kn, kd, fg, hd, dm, dy, w, d, P, R⟩
  · refine ⟨-3, h, h, ?_, ?_, I⟩
    · unfold X11_restore; rw [a]; rfl
    · unfold X12_restore; rw [b]; rfl
  · obtain ⟨t, e1, P1, f1⟩ := c_become (b := 5) (s := 35) (Or.inl rfl) (Or.inr (Or.inr rfl)) (by decide) P
    have R1 : RowP (aI t 69) n kn kd fg hd dy := by rw [f1.2 69 (by decide) (by decide) (by decide)]; exact R
    obtain ⟨f, e2, hf⟩ := m_copies (h := t) (show (69 : Nat) ≠ 67 by decide)
    have R2 := RowP_congr R1 hf
    refine ⟨nI dy, t, sA t 67 f, ?_, ?_, ?_⟩
    · unfold X11_restore
      rw [a, if_neg (by decide), e1]
      show some (fI t 5 6, t) = _
      rw [P1.2.2.2.2.2]
    · unfold X12_restore
      rw [f1.1 66 4 (by decide) (by decide), b, if_neg (by decide), e2]
      show some (aI (sA t 67 f) 67 1, _) = _
      rw [aI_sA_eq, R2.2.1]
    · exact I.n (f1.n.a (by decide) (by decide)) w d (ParL_sA P1 (by decide) (by decide) (by decide)) (by rw [aI_sA_eq]; exact R2)
end CALLS
