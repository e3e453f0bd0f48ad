/-! years: both -/
section YRS
variable {h : HS} {n : Nat} {kn kd fg : Nat → Nat} {hd dm dy : Nat}
theorem m_year (N : NowP h n kn kd fg hd dm dy) {m k fu w v : Nat} {v2 : Int32} (hw : w < 2) (hm : m ≤ 20) (hk : k < m) {s : Int32 × Nat × Nat} {t : HS} (hv : v = if w = 0 then s.2.1 else s.2.2) (hz : fI t 66 13 = s.1) (hK : Keep h t) :
    ∃ t1, X12_years_B32 (nI m) v2 (nI w) (fu + 1) (nI v) (nI k) t = X12_years_B32 (nI m) v2 (nI w) fu (nI (if w = 0 then (yst n kd fg hd dy s).2.1 else (yst n kd fg hd dy s).2.2)) (nI (k + 1)) t1 ∧ fI t1 66 13 = (yst n kd fg hd dy s).1 ∧ Keep h t1 := by
  have w1 := N.1.1.1
  have h9 := pow_le9 w1
  have hdy := N.2.1
  have R67 := (hK.now N).2.2.2
  obtain ⟨f, e1, hf⟩ := m_copies (h := t) (show (67 : Nat) ≠ 68 by decide)
  have R1 : RowP (aI (sA t 68 f) 68) n kn kd fg hd dy := by rw [aI_sA_eq]; exact RowP_congr R67 hf
  have K1 : Keep h (sA t 68 f) := hK.a (by decide)
  obtain ⟨g, e2, R2⟩ := m_clear N (v1 := nI m) (v2 := v2) (v3 := nI w) (v4 := nI v) (v5 := nI k) (K := X12_years_B32 (nI m) v2 (nI w) fu) R1 K1
  have K2 : Keep h (sA (sA t 68 f) 68 g) := K1.a (by decide)
  obtain ⟨t3, e3, z3, R3, K3⟩ := m_draw N (v1 := nI m) (v2 := v2) (v3 := nI w) (v4 := nI v) (v5 := nI k) (K := X12_years_B32 (nI m) v2 (nI w) fu) (z := s.1) (kn1 := fun _ => 0) (t := sA (sA t 68 f) 68 g) hz (by rw [aI_sA_eq]; exact R2) K2
  have q2 := (draw_eq N.1.1 s.1).2
  have ey : yst n kd fg hd dy s = ((it2 dw n (s.1, fun _ => 0)).1, s.2.1 + bc (ndays n (it2 dw n (s.1, fun _ => 0)).2 kd fg dy (fun q => (0 : Nat).testBit q) 1 9 hd), s.2.2 + sumn n (it2 dw n (s.1, fun _ => 0)).2 / 2) := rfl
  rw [ey]
  generalize it2 dw n (s.1, fun _ => 0) = D at z3 R3 q2
  have wD : WFp n D.2 kd fg hd dm dy := ⟨q2, N.1.2⟩
  have hnd : ndays n D.2 kd fg dy (fun q => (0 : Nat).testBit q) 1 9 hd < 2 ^ n := ndays_lt N.1.2.2.2.1
  have hs := sumn_le (kn := D.2) w1
  have ed := m_daysOn (h := t3) (r := 68) wD R3 (show dy < 100000 by omega) (show 9 < 990 by decide)
  have R4 := RowP_hd (RowP_dy R3 (dy + 9)) (ndays n D.2 kd fg dy (fun q => (0 : Nat).testBit q) 1 9 hd)
  refine ⟨sA t3 68 (upd (upd (aI t3 68) 1 (nI (dy + 9))) 2 (nI (ndays n D.2 kd fg dy (fun q => (0 : Nat).testBit q) 1 9 hd))), ?_, z3, K3.a (by decide)⟩
  rw [X12_years_B32, if_neg (nI_ge (by omega) (by omega)), e1, Option.bind_some, e2, e3, X12_years_B84, gdi0, cl0, (K3.now N).2.2.2.1, if_pos (nI_le (by omega) (by omega)), show (9 : Int32) = nI 9 from rfl, ed, Option.bind_some]
  by_cases q : w = 0
  · rw [if_pos (show nI w = 0 by rw [q]; rfl), gdi2, cl2, aI_sA_eq, R4.2.2.1, bits_n (by omega), Option.bind_some]
    unfold X12_years_B177
    simp only [nm, L1, nI_add, hv, if_pos q]
  · have el := m_linesIn (h := sA t3 68 (upd (upd (aI t3 68) 1 (nI (dy + 9))) 2 (nI (ndays n D.2 kd fg dy (fun q => (0 : Nat).testBit q) 1 9 hd)))) (r := 68) q2 (by rw [aI_sA_eq]; exact R4)
    rw [if_neg (show ¬ nI w = 0 from nI_ne0 (by omega) (by omega)), el, Option.bind_some]
    unfold X12_years_B177
    simp only [nm, L1, nI_add, hv, if_neg q]
    rfl
theorem m_years (N : NowP h n kn kd fg hd dm dy) {m w : Nat} (hm : m ≤ 20) (h1 : 1 ≤ m) (hw : w < 2) (z : Int32) : ∃ t, X12_years h (nI m) z (nI w) = some (if w = 0 then nI (itf (fun _ s => yst n kd fg hd dy s) 0 m (z, 0, 0)).2.1 else nI (itf (fun _ s => yst n kd fg hd dy s) 0 m (z, 0, 0)).2.2, t) ∧ Keep h t := by
  have k0 : Keep h (sF h 66 13 z) := (Keep.refl h).f (by decide)
  obtain ⟨⟨v, t1⟩, e1, hv, _, K1⟩ := loopR (fun fu k (y : Nat × HS) => X12_years_B32 (nI m) z (nI w) fu (nI y.1) (nI k) y.2) (fun y => some (nI y.1, y.2)) m (fun _ s => yst n kd fg hd dy s) (fun _ s y => (y.1 = if w = 0 then s.2.1 else s.2.2) ∧ fI y.2 66 13 = s.1 ∧ Keep h y.2)
    (fun fu s y J => by
      show X12_years_B32 (nI m) z (nI w) (fu + 1) (nI y.1) (nI m) y.2 = _
      rw [X12_years_B32, if_pos (nI_le (by omega) (by omega))])
    (fun fu k s y hk J => by
      obtain ⟨t1, g1, g2, g3⟩ := m_year N (fu := fu) (v2 := z) hw hm hk J.1 J.2.1 J.2.2
      exact ⟨(if w = 0 then (yst n kd fg hd dy s).2.1 else (yst n kd fg hd dy s).2.2, t1), g1, rfl, g2, g3⟩)
    m FU 0 (z, 0, 0) (0, sF h 66 13 z) (by omega) (FU_lt (by omega)) ⟨by split <;> rfl, fI_sF_eq, k0⟩
  refine ⟨t1, ?_, K1⟩
  have ei : X12_isIn (nI m) 1 20 = some (nI 1) := by
    rw [L1, show (20 : Int32) = nI 20 from rfl, isIn_n (by omega) (by omega) (by omega), decide_eq_true (by omega)]; rfl
  unfold X12_years
  rw [ei, Option.bind_some, if_neg (show ¬ nI 1 = 0 by decide), show X12_isIn (nI w) 0 1 = some (nI 1) from isIn_in hw (by decide), Option.bind_some, if_neg (show ¬ nI 1 = 0 by decide)]
  refine Eq.trans e1 ?_
  have hv : v = if w = 0 then (itf (fun _ s => yst n kd fg hd dy s) 0 m (z, 0, 0)).2.1 else (itf (fun _ s => yst n kd fg hd dy s) 0 m (z, 0, 0)).2.2 := hv
  show some (nI v, t1) = _
  rw [hv]
  by_cases q : w = 0
  · rw [if_pos q, if_pos q]
  · rw [if_neg q, if_neg q]
end YRS
