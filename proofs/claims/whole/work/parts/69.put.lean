/-! put and copy -/
theorem b8_lo (v : Int32) : -128 ≤ (v.toInt8.toInt32).toInt := by
  rw [Int8.toInt_toInt32]; exact Int8.le_toInt _
theorem b8_hi (v : Int32) : (v.toInt8.toInt32).toInt ≤ 127 := by
  rw [Int8.toInt_toInt32]
  have := Int8.toInt_lt v.toInt8
  omega
def nrw (so : Nat) (v : Int32) : Int32 := if so = 0 then v.toInt8.toInt32 else if so = 1 then v.toInt16.toInt32 else v
section PUT
variable {h : HS}
theorem c_hasPlace {k ho so le : Nat} {el : Nat → Int32} (S : ShP h k ho so le el) {v : Int32} : (∃ j, j < le ∧ v = nI j ∧ X7_hasPlace h (50 + 2 * k) v = some (nI 1)) ∨ (outside v le ∧ X7_hasPlace h (50 + 2 * k) v = some (nI 0)) := by
  have hle := S.2.2.2.1.2.2
  unfold X7_hasPlace
  rw [S.2.2.2.1.1]
  rcases arg_in v le with ⟨j, g1, g2, rfl⟩ | hv
  · refine Or.inl ⟨j, g1, rfl, ?_⟩
    simp (disch := omega) only [L0, L1, ltF, leF, ite_false]
  · refine Or.inr ⟨hv, ?_⟩
    rcases hv with hv | ⟨j, g1, g2, rfl⟩
    · rw [if_pos hv]; rfl
    · simp (disch := omega) only [L0, ltF, leT, ite_false, ite_true]
theorem isIn_sz {n : Nat} (hn : n < 1000) {v : Int32} : (∀ j, j < n → v = nI j → X12_isIn v 0 (nI n - 1) = some (nI 1)) ∧ (outside v n → X12_isIn v 0 (nI n - 1) = some (nI 0)) := by
  constructor
  · intro j hj e
    subst e
    rw [L0, L1, pk_sub (by omega), isIn_n (by omega) (by omega) (by omega), decide_eq_true (by omega)]; rfl
  · intro hv
    rcases hv with hv | ⟨j, g1, g2, rfl⟩
    · exact isIn_neg (a := 0) hv (by decide)
    · rcases Nat.eq_zero_or_pos n with h0 | h0
      · subst h0
        unfold X12_isIn
        rw [if_neg (show ¬ nI j < 0 from nI_nlt (Nat.zero_le j) g2), if_pos (show nI 0 - 1 < nI j from neg_lt (by decide) g2)]
        rfl
      · rw [L0, L1, pk_sub (by omega), isIn_n (by omega) (by omega) (by omega), decide_eq_false (by omega)]; rfl
theorem S_put (I : Inv h) (u v a : Int32) : ∃ r h1 h2, X11_put h u v a = some (r, h1) ∧ X12_put h1 u v a = some (r, h2) ∧ Inv h2 := by
  rcases arg_in u 8 with ⟨k, h1, h2, rfl⟩ | hu
  · obtain ⟨ho, so, le, el, S⟩ := I.2.2.1 k h1
    obtain ⟨s1, s2, s3, s4, s5, s6⟩ := id S
    have e0 : X11_put h (nI k) v a = (if rrf ho = 0 then (X7_hasPlace h (50 + 2 * k) v).bind fun q7 => (if q7 = 0 then some ((-13), h) else (X7_set h (50 + 2 * k) v a).bind fun q9 => some (0, q9)) else some (rrf ho, h)) := by
      unfold X11_put
      rw [c_shelf_in h1]
      show (X11_rowRefusal h (some (50 + 2 * k))).bind _ = _
      rw [c_rowRef S]; rfl
    rw [e0]
    by_cases q : ho = 2
    · subst q
      rw [if_pos (show rrf 2 = 0 from rfl)]
      have e1 : ∀ t, ShP t k 2 so le el → X12_put t (nI k) v a = (X12_isIn v 0 (nI le - 1)).bind fun q4 => (if q4 = 0 then some ((-13), t) else X12_put_B75 (nI k) v a (nrw so a) ((100 * nI k) + v) t) := by
        intro t St
        have hso := s3.2.2
        unfold X12_put
        rw [m_rowRef h1 St (by decide), Option.bind_some, if_pos (show rrf 2 = 0 from rfl)]
        simp (disch := omega) only [gdi_n, i_cl, St.2.2.2.1.2.1, St.2.2.1.2.1]
        congr 1
        funext q4
        congr 1
        match so, hso with
        | 0, _ => rfl
        | 1, _ => rfl
        | 2, _ => rfl
        | j + 3, hh => exact absurd hh (by omega)
      have hle := s4.2.2
      rcases c_hasPlace (v := v) S with ⟨j, g1, rfl, g3⟩ | ⟨g1, g2⟩
      · have e2 : X7_set h (50 + 2 * k) (nI j) a = some (sA h (50 + 2 * k + 1) (upd (aI h (50 + 2 * k + 1)) j (nrw so a))) := by
          have hso := s3.2.2
          unfold X7_set
          rw [g3, Option.bind_some, if_neg (show ¬ nI 1 = 0 by decide), s3.1]
          match so, hso with
          | 0, _ =>
            show X7_set_B39 (50 + 2 * k) (nI j) a a.toInt8.toInt32 (nI j) h = _
            unfold X7_set_B39
            simp (disch := omega) only [gdi_n, i_cl, nm]; rfl
          | 1, _ =>
            show X7_set_B39 (50 + 2 * k) (nI j) a a.toInt16.toInt32 (nI j) h = _
            unfold X7_set_B39
            simp (disch := omega) only [gdi_n, i_cl, nm]; rfl
          | 2, _ =>
            show X7_set_B39 (50 + 2 * k) (nI j) a a (nI j) h = _
            unfold X7_set_B39
            simp (disch := omega) only [gdi_n, i_cl, nm]; rfl
          | j + 3, hh => exact absurd hh (by omega)
        have em : X12_put (sA h (50 + 2 * k + 1) (upd (aI h (50 + 2 * k + 1)) j (nrw so a))) (nI k) (nI j) a = X12_put_B75 (nI k) (nI j) a (nrw so a) ((100 * nI k) + nI j) (sA h (50 + 2 * k + 1) (upd (aI h (50 + 2 * k + 1)) j (nrw so a))) := by
          have hso := s3.2.2
          have w0 : X12_wrongRow (sA h (50 + 2 * k + 1) (upd (aI h (50 + 2 * k + 1)) j (nrw so a))) (nI k) (-1) = some 0 := by
            have := m_rowRef (v := -1) h1 S (by decide)
            unfold X12_wrongRow at this ⊢
            rw [aI_sA_ne (by omega), aI_sA_ne (by omega)]
            exact this
          unfold X12_put
          rw [w0, Option.bind_some, if_pos rfl]
          simp (disch := omega) only [gdi_n, i_cl, aI_sA_ne, s4.2.1, s3.2.1]
          rw [(isIn_sz (v := nI j) (show le < 1000 by omega)).1 j g1 rfl, Option.bind_some, if_neg (show ¬ nI 1 = 0 by decide)]
          match so, hso with
          | 0, _ => rfl
          | 1, _ => rfl
          | 2, _ => rfl
          | j + 3, hh => exact absurd hh (by omega)
        refine ⟨0, sA h (50 + 2 * k + 1) (upd (aI h (50 + 2 * k + 1)) j (nrw so a)), sA (sA h (50 + 2 * k + 1) (upd (aI h (50 + 2 * k + 1)) j (nrw so a))) 81 (upd (aI (sA h (50 + 2 * k + 1) (upd (aI h (50 + 2 * k + 1)) j (nrw so a))) 81) (100 * k + j) (nrw so a)), ?_, ?_, ?_⟩
        · rw [g3, Option.bind_some, if_neg (show ¬ nI 1 = 0 by decide), e2]; rfl
        · rw [em]
          unfold X12_put_B75
          simp (disch := omega) only [L100, pk_mul, nI_add, gdi_n, i_cl, nm]
        · refine I.s h1 ((FrS.refl.el h1).e h1 (fun i hi => pk_un (by omega))) ⟨2, so, le, fun i => if i = j then nrw so a else el i, ⟨?_, ?_, by decide⟩, fun q => absurd q (by decide), ⟨?_, ?_, s3.2.2⟩, ⟨?_, ?_, s4.2.2⟩, fun i hi => ⟨?_, ?_⟩, fun q i hi => ?_⟩
          · exact s1.1
          · simp (disch := omega) only [aI_sA_ne]; exact s1.2.1
          · exact s3.1
          · simp (disch := omega) only [aI_sA_ne]; exact s3.2.1
          · exact s4.1
          · simp (disch := omega) only [aI_sA_ne]; exact s4.2.1
          · simp (disch := omega) only [aI_sA_ne, aI_sA_eq]
            by_cases e : i = j
            · subst e; rw [pk_us, if_pos rfl]
            · rw [pk_un e, if_neg e]; exact (s5 i hi).1
          · simp (disch := omega) only [aI_sA_ne, aI_sA_eq]
            by_cases e : i = j
            · subst e; rw [pk_us, if_pos rfl]
            · rw [pk_un (by omega), if_neg e]; exact (s5 i hi).2
          · by_cases e : i = j
            · simp only [if_pos e]
              rw [show nrw so a = a.toInt8.toInt32 from if_pos q]
              exact ⟨b8_lo a, b8_hi a⟩
            · simp only [if_neg e]; exact s6 q i hi
      · refine ⟨-13, h, h, by rw [g2]; rfl, ?_, I⟩
        rw [e1 h S, (isIn_sz (by omega)).2 g1]; rfl
    · have hne := rrf_ne s1.2.2 q
      refine ⟨rrf ho, h, h, by rw [if_neg hne], ?_, I⟩
      unfold X12_put
      rw [m_rowRef h1 S (by decide), Option.bind_some, if_neg hne]
  · refine ⟨-1, h, h, ?_, ?_, I⟩
    · unfold X11_put
      rw [c_shelf_out hu]; rfl
    · unfold X12_put
      rw [m_row_out hu]; rfl
end PUT
