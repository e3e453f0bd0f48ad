/-! years in the class -/
/-- a year: seed, HEARD and LINES added up -/
def yst (n : Nat) (kd fg : Nat → Nat) (hd dy : Nat) (s : Int32 × Nat × Nat) : Int32 × Nat × Nat := ((it2 dw n (s.1, fun _ => 0)).1, s.2.1 + bc (ndays n (it2 dw n (s.1, fun _ => 0)).2 kd fg dy (fun q => (0 : Nat).testBit q) 1 9 hd), s.2.2 + sumn n (it2 dw n (s.1, fun _ => 0)).2 / 2)
section CYEARS
variable {h : HS} {n : Nat} {kn kd fg : Nat → Nat} {hd dm dy : Nat}
theorem c_year (N : NowP h n kn kd fg hd dm dy) {m k fu : Nat} {v2 v3 : Int32} (hm : m ≤ 20) (hk : k < m) {s : Int32 × Nat × Nat} {t : HS} {kn1 : Nat → Nat} (w : WFk n kn1) (P : ParL t 20 n kn1 kd fg hd dm dy) (F : Keep h t) :
    ∃ t1 kn2, X11_years_B45 (nI m) v2 v3 (fu + 1) s.1 (nI s.2.1) (nI s.2.2) (nI k) t = X11_years_B45 (nI m) v2 v3 fu (yst n kd fg hd dy s).1 (nI (yst n kd fg hd dy s).2.1) (nI (yst n kd fg hd dy s).2.2) (nI (k + 1)) t1 ∧ WFk n kn2 ∧ ParL t1 20 n kn2 kd fg hd dm dy ∧ Keep h t1 := by
  have w1 := w.1
  have h9 := pow_le9 w1
  have hdy := N.2.1
  obtain ⟨t1, e1, P1, F1⟩ := c_draw w P s.1
  obtain ⟨q1, q2⟩ := draw_eq w s.1
  rw [q1] at e1 P1
  have ey : yst n kd fg hd dy s = ((it2 dw n (s.1, fun _ => 0)).1, s.2.1 + bc (ndays n (it2 dw n (s.1, fun _ => 0)).2 kd fg dy (fun q => (0 : Nat).testBit q) 1 9 hd), s.2.2 + sumn n (it2 dw n (s.1, fun _ => 0)).2 / 2) := rfl
  rw [ey]
  generalize it2 dw n (s.1, fun _ => 0) = D at e1 P1 q2
  have wD : WFp n D.2 kd fg hd dm dy := ⟨q2, N.1.2⟩
  have hnd : ndays n D.2 kd fg dy (fun q => (0 : Nat).testBit q) 1 9 hd < 2 ^ n := ndays_lt N.1.2.2.2.1
  have hs := sumn_le (kn := D.2) w1
  refine ⟨t1, D.2, ?_, q2, P1, F.trans F1.keep⟩
  rw [X11_years_B45, if_neg (nI_ge (by omega) (by omega)), e1, Option.bind_some]
  show ((X5_behind t1 20 (fI t1 20 4) 9 0).bind fun q9 => (J6_bitCount_0f7a4 q9).bind fun q10 => nm (nI s.2.1 + q10) fun x11 => (X4_total t1 21).bind fun q12 => nm (nI s.2.2 + q12) fun x13 => nm (nI k + 1) fun x14 => X11_years_B45 (nI m) v2 v3 fu D.1 x11 x13 x14 t1) = _
  have et : X4_total t1 21 = some (nI (sumn n D.2 / 2)) := by
    unfold X4_total
    rw [c_numbers q2 P1.1, Option.bind_some, L2]
    show some (nI (sumn n D.2) / nI 2) = _
    rw [pk_div (by omega) (by omega) (by omega)]
  rw [P1.2.2.2.1, show (9 : Int32) = nI 9 from rfl, show (0 : Int32) = nI 0 from rfl, c_behind (Or.inr (Or.inl rfl)) wD P1 N.1.2.2.2.1 (show 9 < 900 by decide) (show dy < 100000 by omega), Option.bind_some, bitCount_n (by omega), Option.bind_some, et]
  simp only [nm, Option.bind_some, nI_add, L1]
theorem c_years (N : NowP h n kn kd fg hd dm dy) {m w : Nat} (hm : m ≤ 20) (h1 : 1 ≤ m) (hw : w < 2) (z : Int32) : ∃ t, X11_years h (nI m) z (nI w) = some (if w = 0 then nI (itf (fun _ s => yst n kd fg hd dy s) 0 m (z, 0, 0)).2.1 else nI (itf (fun _ s => yst n kd fg hd dy s) 0 m (z, 0, 0)).2.2, t) ∧ Keep h t := by
  obtain ⟨t0, e0, P0, F0⟩ := c_become (b := 20) (s := 5) (Or.inr (Or.inl rfl)) (Or.inl rfl) (by decide) N.2.2.1
  obtain ⟨⟨⟨z1, a1, b1⟩, t1⟩, e1, hs, kn1, w1, P1, K1⟩ := loopR (fun fu k (y : (Int32 × Nat × Nat) × HS) => X11_years_B45 (nI m) z (nI w) fu y.1.1 (nI y.1.2.1) (nI y.1.2.2) (nI k) y.2) (fun y => some (if w = 0 then nI y.1.2.1 else nI y.1.2.2, y.2)) m (fun _ s => yst n kd fg hd dy s) (fun _ s y => y.1 = s ∧ ∃ kn1, WFk n kn1 ∧ ParL y.2 20 n kn1 kd fg hd dm dy ∧ Keep h y.2)
    (fun fu s y J => by
      show X11_years_B45 (nI m) z (nI w) (fu + 1) y.1.1 (nI y.1.2.1) (nI y.1.2.2) (nI m) y.2 = _
      rw [X11_years_B45, if_pos (nI_le (by omega) (by omega))]
      match w, hw with
      | 0, _ => rfl
      | 1, _ => rfl
      | w + 2, hw => exact absurd hw (by omega))
    (fun fu k s y hk J => by
      obtain ⟨j1, kn1, j2, j3, j4⟩ := J
      obtain ⟨t1, kn2, g1, g2, g3, g4⟩ := c_year N (fu := fu) (v2 := z) (v3 := nI w) (s := y.1) hm hk j2 j3 j4
      exact ⟨(yst n kd fg hd dy y.1, t1), g1, by rw [j1], kn2, g2, g3, g4⟩)
    m FU 0 (z, 0, 0) ((z, 0, 0), t0) (by omega) (FU_lt (by omega)) ⟨rfl, kn, N.1.1, P0, F0.keep⟩
  have hs : (z1, a1, b1) = itf (fun _ s => yst n kd fg hd dy s) 0 m (z, 0, 0) := hs
  refine ⟨t1, ?_, K1⟩
  unfold X11_years
  rw [if_neg (show ¬ nI m < 1 from nI_nlt (b := 1) (by omega) (by omega)), if_neg (show ¬ (20 : Int32) < nI m from nI_nlt (a := 20) (by omega) (by omega)), if_neg (nI_pos (by omega)), if_pos (show nI w ≤ 1 from nI_le (b := 1) (by omega) (by decide)), e0, Option.bind_some, ← hs]
  exact e1
end CYEARS
