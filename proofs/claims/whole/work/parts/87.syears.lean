/-! years -/
theorem S_years {h : HS} (I : Inv h) (a z c : Int32) : ∃ r h1 h2, X11_years h a z c = some (r, h1) ∧ X12_years h1 a z c = some (r, h2) ∧ Inv h2 := by
  obtain ⟨n, kn, kd, fg, hd, dm, dy, N⟩ := id I.1
  by_cases a1 : a < 1
  · refine ⟨-1, h, h, ?_, ?_, I⟩
    · unfold X11_years; rw [if_pos a1]
    · unfold X12_years X12_isIn; rw [if_pos a1]; rfl
  by_cases a20 : (20 : Int32) < a
  · refine ⟨-1, h, h, ?_, ?_, I⟩
    · unfold X11_years; rw [if_neg a1, if_pos a20]
    · unfold X12_years X12_isIn; rw [if_neg a1, if_pos a20]; rfl
  have ea : X12_isIn a 1 20 = some (nI 1) := by
    unfold X12_isIn; rw [if_neg a1, if_neg a20]; rfl
  obtain ⟨m, hm, rfl⟩ : ∃ m, m ≤ 20 ∧ a = nI m := nI_of2 (M := 20) (n := 20) (by decide) (fun q => a1 (Int32.lt_trans q (by decide))) (Int32.not_lt.mp a20)
  have hm1 : 1 ≤ m := Classical.byContradiction fun q => a1 (nI_lt (b := 1) (by omega) (by decide))
  rcases arg_in c 2 with ⟨w, hw, _, rfl⟩ | hc
  · obtain ⟨t1, e1, k1⟩ := c_years N hm hm1 hw z
    obtain ⟨t2, e2, k2⟩ := m_years (k1.now N) hm hm1 hw z
    exact ⟨_, t1, t2, e1, e2, (k1.trans k2).inv I⟩
  · refine ⟨-1, h, h, ?_, ?_, I⟩
    · unfold X11_years
      rw [if_neg a1, if_neg a20]
      rcases hc with hc | ⟨j, g1, g2, rfl⟩
      · rw [if_pos hc]
      · rw [if_neg (nI_pos g2), if_neg (show ¬ nI j ≤ 1 from nI_ge (a := 1) (by omega) g2)]
    · unfold X12_years
      rw [ea, Option.bind_some, if_neg (show ¬ nI 1 = 0 by decide), show X12_isIn c 0 1 = some (nI 0) from isIn_out hc (by decide)]; rfl
