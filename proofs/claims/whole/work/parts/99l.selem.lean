/-! element: the class and the model -/
def scT (h : HS) (s0 : Int32) : HS := sF h 66 20 s0
theorem scT_f (h : HS) (s0 : Int32) : fI (scT h s0) 66 20 = s0 := by simp [scT, fI, sF]
theorem scT_inv {h : HS} (I : Inv h) (s0 : Int32) : Inv (scT h s0) := ((Keep.refl h).f (by decide)).inv I
theorem el_bad {h : HS} (u v : Int32) {s0 : Int32} (hs : ¬ s0 = 0) : X12_element_B43 u v s0 h = some (0, scT h s0) := by
  show (if fI (scT h s0) 66 20 = 0 then gdi ((100 * u) + v) 800 (some (((aI (scT h s0) 81 ((100 * u) + v).toNatClampNeg).toInt64), scT h s0)) else some (0, scT h s0)) = _
  rw [scT_f, if_neg hs]
theorem el_good {h : HS} {k j : Nat} (hk : k < 8) (hj : j < 100) : X12_element_B43 (nI k) (nI j) 0 h = some ((aI h 81 (100 * k + j)).toInt64, scT h 0) := by
  show (if fI (scT h 0) 66 20 = 0 then gdi ((100 * nI k) + nI j) 800 (some (((aI (scT h 0) 81 ((100 * nI k) + nI j).toNatClampNeg).toInt64), scT h 0)) else some (0, scT h 0)) = _
  rw [scT_f, if_pos rfl]
  simp (disch := omega) only [L100, pk_mul, nI_add, gdi_n, i_cl]
  rfl
theorem el_m {h : HS} (I : Inv h) (u v : Int32) : ∃ k r, X11_elemK h u v = some (k, r) ∧ ∃ r' h2, X12_element h u v = some (r', h2) ∧ fI h2 66 20 = k ∧ (k = 0 → r' = r) ∧ Inv h2 ∧ aL h2 = aL h := by
  rcases arg_in u 8 with ⟨k, h1, h2, rfl⟩ | hu
  · obtain ⟨ho, so, le, el, S⟩ := I.2.2.1 k h1
    have e1 : X11_elemK h (nI k) v = (X7_holdsRow h (50 + 2 * k)).bind fun q3 => (if q3 = 0 then some (2, 0) else (X7_hasPlace h (50 + 2 * k) v).bind fun q4 => (if q4 = 0 then some (2, 0) else (X7_at h (50 + 2 * k) v).bind fun q5 => some (0, q5.toInt64))) := by
      unfold X11_elemK
      rw [c_shelf_in h1]; rfl
    have e2 : X12_element h (nI k) v = (if aI h 76 k = 2 then (X12_isIn v 0 (aI h 80 k - 1)).bind fun q6 => (if q6 = 0 then X12_element_B38 (nI k) v h else X12_element_B43 (nI k) v 0 h) else X12_element_B38 (nI k) v h) := by
      unfold X12_element
      rw [m_shelf_in h1, Option.bind_some, if_neg (show ¬ nI 1 = 0 by decide)]
      simp (disch := omega) only [gdi_n, i_cl]
    have eb : X12_element_B38 (nI k) v h = some (0, scT h 2) := el_bad _ _ (by decide)
    rw [e1, e2, eb, c_holdsRow S, Option.bind_some, S.1.2.1, S.2.2.2.1.2.1]
    have hle := S.2.2.2.1.2.2
    have hho := S.1.2.2
    by_cases q : ho = 2
    · subst q
      rw [if_neg (by decide), if_pos (show nI 2 = (2 : Int32) from rfl)]
      rcases c_hasPlace (v := v) S with ⟨j, g1, rfl, g3⟩ | ⟨g1, g2⟩
      · have ea : X7_at h (50 + 2 * k) (nI j) = some (el j) := by
          unfold X7_at
          rw [g3, Option.bind_some, if_neg (show ¬ nI 1 = 0 by decide)]
          simp (disch := omega) only [gdi_n, i_cl]
          rw [(S.2.2.2.2.1 j (by omega)).1]
        rw [g3, Option.bind_some, if_neg (show ¬ nI 1 = 0 by decide), ea, Option.bind_some, (isIn_sz (v := nI j) (show le < 1000 by omega)).1 j g1 rfl, Option.bind_some, if_neg (show ¬ nI 1 = 0 by decide), el_good h1 (by omega)]
        exact ⟨0, (el j).toInt64, rfl, _, scT h 0, rfl, scT_f h 0, fun _ => by rw [(S.2.2.2.2.1 j (by omega)).2], scT_inv I 0, rfl⟩
      · rw [g2, Option.bind_some, if_pos (show nI 0 = 0 by decide), (isIn_sz (v := v) (show le < 1000 by omega)).2 g1, Option.bind_some, if_pos (show nI 0 = 0 by decide)]
        exact ⟨2, 0, rfl, 0, scT h 2, rfl, scT_f h 2, fun q => absurd q (by decide), scT_inv I 2, rfl⟩
    · rw [if_pos (by rw [decide_eq_false q]; rfl), if_neg (show ¬ nI ho = (2 : Int32) from fun z => q ((nI_eq (by omega) (by decide)).mp (show nI ho = nI 2 from z)))]
      exact ⟨2, 0, rfl, 0, scT h 2, rfl, scT_f h 2, fun q => absurd q (by decide), scT_inv I 2, rfl⟩
  · refine ⟨1, 0, ?_, 0, scT h 1, ?_, scT_f h 1, fun q => absurd q (by decide), scT_inv I 1, rfl⟩
    · unfold X11_elemK
      rw [c_shelf_out hu]; rfl
    · unfold X12_element
      rw [m_shelf_out hu, Option.bind_some, if_pos (show nI 0 = 0 by decide)]
      exact el_bad _ _ (by decide)
theorem elH_inv {h : HS} {k : Int32} {r : Int64} (I : Inv h) : Inv (elH h k r) := by
  unfold elH
  split
  · exact I
  · exact I
theorem elH_K {h : HS} {k : Int32} {r : Int64} (u v : Int32) : X11_elemK (elH h k r) u v = X11_elemK h u v := by
  unfold elH
  split <;> rfl
theorem S_element {h : HS} (I : Inv h) (u v : Int32) : ∃ k r, X11_elemK h u v = some (k, r) ∧ ∃ r' h2, X12_element (elH h k r) u v = some (r', h2) ∧ X12_thrown h2 = some k ∧ (k = 0 → aL h2 82 0 = r ∧ r = r') ∧ Inv h2 := by
  obtain ⟨k, r, e1, -⟩ := el_m I u v
  refine ⟨k, r, e1, ?_⟩
  obtain ⟨k2, r2, e2, r', h2, e3, e4, e5, e6, e7⟩ := el_m (elH_inv (k := k) (r := r) I) u v
  rw [elH_K, e1] at e2
  obtain ⟨rfl, rfl⟩ := pair_s e2
  refine ⟨r', h2, e3, by unfold X12_thrown; rw [e4], fun z => ⟨?_, (e5 z).symm⟩, e6⟩
  rw [e7]
  unfold elH
  rw [if_pos z]
  simp [aL, sL, vp_updL]
