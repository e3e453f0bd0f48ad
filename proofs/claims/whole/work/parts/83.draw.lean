/-! the class draws all lines -/
section DRAW
variable {h : HS} {n : Nat} {kn kd fg : Nat → Nat} {hd dm dy : Nat}
theorem c_draw_step {a b fu2 : Nat} {z : Int32} {K : Int32 → Int32 → HS → Option (Int32 × HS)} {s : Int32 × (Nat → Nat)} {t : HS} (ha : a < n) (hb : b < n) (hab : a < b) (w : WFk n s.2) (P : ParL t 20 n s.2 kd fg hd dm dy) (F : FrB 20 h t) :
    ∃ t1, X4_draw_B17 21 z K (fu2 + 1) s.1 (nI a) (nI b) t = X4_draw_B17 21 z K fu2 (dc a b s).1 (nI a) (nI (b + 1)) t1 ∧ WFk n (dc a b s).2 ∧ ParL t1 20 n (dc a b s).2 kd fg hd dm dy ∧ FrB 20 h t1 := by
  have w1 := w.1
  rw [c_draw17 (zn_eq s.1) P.1 w1 hb, c_draw52 (fu2 := fu2) w P.1 (by omega) (by omega)]
  have e1 : (dc a b s).1 = zn s.1 := rfl
  have e2 : (dc a b s).2 = if (s.2 a).testBit b = wnt (zn s.1) then s.2 else flip s.2 a b := rfl
  rw [e1, e2]
  generalize zn s.1 = z2
  by_cases q : (s.2 a).testBit b = wnt z2
  · rw [if_pos q, if_pos q]
    exact ⟨t, rfl, w, P, F⟩
  · rw [if_neg q, if_neg q]
    obtain ⟨f, g1, g2⟩ := c_turn P.1 (show a < 9 by omega) (show b < 9 by omega) (show a ≠ b by omega)
    rw [g1, Option.bind_some]
    exact ⟨_, rfl, WFk_flip w ha hb (by omega), ParL_kn P g2, F.a (Or.inl rfl)⟩
theorem c_draw (wp : WFk n kn) (P : ParL h 20 n kn kd fg hd dm dy) (z : Int32) : ∃ t, X4_draw h 21 z = some ((it2 dc n (z, kn)).1, t) ∧ ParL t 20 n (it2 dc n (z, kn)).2 kd fg hd dm dy ∧ FrB 20 h t := by
  have w1 := wp.1
  unfold X4_draw
  obtain ⟨⟨z1, t1⟩, e1, hz, hw, P1, F1⟩ := loopR (fun fu k (y : Int32 × HS) => X4_draw_B4 21 z fu y.1 (nI k) y.2) (fun y => some (y.1, y.2)) n (fun a s => itf (fun b s => dc a b s) (a + 1) (n - (a + 1)) s) (fun _ s y => y.1 = s.1 ∧ WFk n s.2 ∧ ParL y.2 20 n s.2 kd fg hd dm dy ∧ FrB 20 h y.2)
    (fun fu s y J => by
      show X4_draw_B4 21 z (fu + 1) y.1 (nI n) y.2 = _
      rw [X4_draw_B4, J.2.2.1.1.1, if_pos (nI_le (by omega) (by omega))])
    (fun fu a s y ha J => by
      obtain ⟨⟨z2, t2⟩, e2, J2⟩ := loopR (fun fu2 b (y : Int32 × HS) => X4_draw_B17 21 z (X4_draw_B4 21 z fu) fu2 y.1 (nI a) (nI b) y.2) (fun y => X4_draw_B4 21 z fu y.1 (nI (a + 1)) y.2) n (fun b s => dc a b s) (fun b s y => a < b ∧ y.1 = s.1 ∧ WFk n s.2 ∧ ParL y.2 20 n s.2 kd fg hd dm dy ∧ FrB 20 h y.2)
        (fun fu2 s y J => by
          show X4_draw_B17 21 z (X4_draw_B4 21 z fu) (fu2 + 1) y.1 (nI a) (nI n) y.2 = _
          rw [X4_draw_B17, J.2.2.2.1.1.1, if_pos (nI_le (by omega) (by omega))]
          generalize X4_draw_B4 21 z fu = K
          simp only [nm, L1, nI_add])
        (fun fu2 b s y hb J => by
          obtain ⟨j1, j2, j3, j4, j5⟩ := J
          obtain ⟨t3, g1, g2, g3, g4⟩ := c_draw_step (fu2 := fu2) (z := z) (K := X4_draw_B4 21 z fu) ha hb j1 j3 j4 j5
          exact ⟨((dc a b s).1, t3), by rw [j2]; exact g1, by omega, rfl, g2, g3, g4⟩)
        (n - (a + 1)) FU (a + 1) s y (by omega) (FU_lt (by omega)) ⟨by omega, J.1, J.2.1, J.2.2.1, J.2.2.2⟩
      refine ⟨(z2, t2), ?_, J2.2⟩
      show X4_draw_B4 21 z (fu + 1) y.1 (nI a) y.2 = _
      rw [X4_draw_B4, J.2.2.1.1.1, if_neg (nI_ge (by omega) (by omega))]
      simp only [nm, L1, nI_add]
      exact e2)
    n FU 0 (z, kn) (z, h) (by omega) (FU_lt (by omega)) ⟨rfl, wp, P, FrB.refl⟩
  have hz : z1 = (it2 dc n (z, kn)).1 := hz
  exact ⟨t1, by rw [← hz]; exact e1, P1, F1⟩
end DRAW
