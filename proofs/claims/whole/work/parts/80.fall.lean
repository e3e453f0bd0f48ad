/-! fall -/
section FALL2
variable {h : HS} {n : Nat} {kn kd fg : Nat → Nat} {hd dm dy : Nat}
theorem fls_lt {w a b : Nat} {s : Nat × Int32} (hs : s.1 < 100) : (fls n kn w a b s).1 < 100 := by
  unfold fls
  by_cases z1 : ((kn a).testBit b).toNat = (if w = 0 then 1 else 0)
  · rw [if_pos z1]
    by_cases z2 : s.1 ≤ bc (fe n (flip kn a b))
    · rw [if_pos z2]; exact hs
    · rw [if_neg z2]
      have := bc_le (fe n (flip kn a b))
      show bc _ < 100
      omega
  · rw [if_neg z1]; exact hs
theorem c_bestTurn (N : NowP h n kn kd fg hd dm dy) {w : Nat} (hw : w < 2) : ∃ t, X4_bestTurn h 6 (nI (if w = 0 then 1 else 0)) = some ((it2 (fls n kn w) n (bc (fe n kn), -4)).2, t) ∧ ParL t 5 n kn kd fg hd dm dy ∧ FrB 5 h t := by
  have w1 := N.1.1.1
  have wk := N.1.1
  have h9 := pow_le9 w1
  have hfe := fe_lt (n := n) (kn := kn)
  have hv : (if w = 0 then 1 else 0) < 2 := by split <;> decide
  generalize hve : (if w = 0 then 1 else 0) = v at hv
  unfold X4_bestTurn
  rw [c_feelers wk N.2.2.1.1, Option.bind_some, bitCount_n (by omega), Option.bind_some]
  have hb0 := bc_le (fe n kn)
  obtain ⟨⟨x1, a1, t1⟩, e1, hs1, hl1, P1, F1⟩ := loopR (fun fu k (y : Nat × Int32 × HS) => X4_bestTurn_B14 6 (nI v) fu (nI y.1) y.2.1 (nI k) y.2.2) (fun y => some (y.2.1, y.2.2)) n (fun a s => itf (fun b s => fls n kn w a b s) (a + 1) (n - (a + 1)) s) (fun _ s y => (y.1, y.2.1) = s ∧ y.1 < 100 ∧ ParL y.2.2 5 n kn kd fg hd dm dy ∧ FrB 5 h y.2.2)
    (fun fu s y J => by
      show X4_bestTurn_B14 6 (nI v) (fu + 1) (nI y.1) y.2.1 (nI n) y.2.2 = _
      rw [X4_bestTurn_B14, J.2.2.1.1.1, if_pos (nI_le (by omega) (by omega))])
    (fun fu a s y ha J => by
      obtain ⟨⟨x2, a2, t2⟩, e2, J2⟩ := loopR (fun fu2 b (y : Nat × Int32 × HS) => X4_bestTurn_B29 6 (nI v) (X4_bestTurn_B14 6 (nI v) fu) fu2 (nI y.1) y.2.1 (nI a) (nI b) y.2.2) (fun y => X4_bestTurn_B14 6 (nI v) fu (nI y.1) y.2.1 (nI (a + 1)) y.2.2) n (fun b s => fls n kn w a b s) (fun b s y => a < b ∧ (y.1, y.2.1) = s ∧ y.1 < 100 ∧ ParL y.2.2 5 n kn kd fg hd dm dy ∧ FrB 5 h y.2.2)
        (fun fu2 s y J => by
          show X4_bestTurn_B29 6 (nI v) (X4_bestTurn_B14 6 (nI v) fu) (fu2 + 1) (nI y.1) y.2.1 (nI a) (nI n) y.2.2 = _
          rw [X4_bestTurn_B29, J.2.2.2.1.1.1, if_pos (nI_le (by omega) (by omega))]
          simp only [nm, L1, nI_add])
        (fun fu2 b s y hb J => by
          obtain ⟨j1, j2, j3, j4, j5⟩ := J
          have e93 : ∀ x u z, X4_bestTurn_B93 6 (nI v) (X4_bestTurn_B14 6 (nI v) fu) (X4_bestTurn_B29 6 (nI v) (X4_bestTurn_B14 6 (nI v) fu) fu2) x u (nI a) (nI b) z = X4_bestTurn_B29 6 (nI v) (X4_bestTurn_B14 6 (nI v) fu) fu2 x u (nI a) (nI (b + 1)) z := by
            intro x u z
            simp only [X4_bestTurn_B93, nm, L1, nI_add]
          show ∃ t1 : Nat × Int32 × HS, X4_bestTurn_B29 6 (nI v) (X4_bestTurn_B14 6 (nI v) fu) (fu2 + 1) (nI y.1) y.2.1 (nI a) (nI b) y.2.2 = X4_bestTurn_B29 6 (nI v) (X4_bestTurn_B14 6 (nI v) fu) fu2 (nI t1.1) t1.2.1 (nI a) (nI (b + 1)) t1.2.2 ∧ a < b + 1 ∧ (t1.1, t1.2.1) = fls n kn w a b s ∧ t1.1 < 100 ∧ ParL t1.2.2 5 n kn kd fg hd dm dy ∧ FrB 5 h t1.2.2
          have htl := toNat_lt ((kn a).testBit b)
          rw [X4_bestTurn_B29, j4.1.1, if_neg (nI_ge (by omega) (by omega)), c_between wk j4.1 (by omega) (by omega), Option.bind_some]
          unfold fls
          rw [hve]
          by_cases z : ((kn a).testBit b).toNat = v
          · rw [if_pos (by rw [z]), if_pos z]
            obtain ⟨t1, t2, g1, g2, g3, g4, g5⟩ := c_turns j4 (show a < 9 by omega) (show b < 9 by omega) (show a ≠ b by omega)
            have hfl := fe_lt (n := n) (kn := flip kn a b)
            have hbf := bc_le (fe n (flip kn a b))
            rw [g1, Option.bind_some, c_feelers (WFk_flip wk ha hb (by omega)) g2, Option.bind_some, bitCount_n (by omega), Option.bind_some, g3, Option.bind_some]
            have es : s.1 = y.1 := by rw [← j2]
            by_cases z3 : s.1 ≤ bc (fe n (flip kn a b))
            · rw [if_pos (nI_le (by omega) (by omega)), if_pos z3, e93]
              exact ⟨(y.1, y.2.1, t2), rfl, by omega, j2, j3, g4, j5.trans g5⟩
            · rw [if_neg (nI_ge (by omega) (by omega)), if_neg z3]
              refine ⟨(bc (fe n (flip kn a b)), nI (10 * a + b), t2), ?_, by omega, rfl, by show bc _ < 100; omega, g4, j5.trans g5⟩
              simp only [nm]
              rw [e93, L10, pk_mul, nI_add]
          · rw [if_neg (by rw [nI_eq htl (by omega)]; exact z), if_neg z, e93]
            exact ⟨y, rfl, by omega, j2, j3, j4, j5⟩)
        (n - (a + 1)) FU (a + 1) s y (by omega) (FU_lt (by omega)) ⟨by omega, J.1, J.2.1, J.2.2.1, J.2.2.2⟩
      refine ⟨(x2, a2, t2), ?_, J2.2⟩
      show X4_bestTurn_B14 6 (nI v) (fu + 1) (nI y.1) y.2.1 (nI a) y.2.2 = _
      rw [X4_bestTurn_B14, J.2.2.1.1.1, if_neg (nI_ge (by omega) (by omega))]
      simp only [nm, L1, nI_add]
      exact e2)
    n FU 0 (bc (fe n kn), -4) (bc (fe n kn), -4, h) (by omega) (FU_lt (by omega)) ⟨rfl, by show bc _ < 100; omega, N.2.2.1, FrB.refl⟩
  have hs1 : (x1, a1) = it2 (fls n kn w) n (bc (fe n kn), -4) := hs1
  refine ⟨t1, ?_, P1, F1⟩
  rw [← hs1]; exact e1
theorem m_fall (N : NowP h n kn kd fg hd dm dy) {w : Nat} (hw : w < 2) : ∃ t, X12_fall h (nI w) = some ((it2 (fls n kn w) n (bc (fe n kn), -4)).2, t) ∧ Keep h t := by
  have w1 := N.1.1.1
  have wk := N.1.1
  have h9 := pow_le9 w1
  have hfe := fe_lt (n := n) (kn := kn)
  have hb0 := bc_le (fe n kn)
  unfold X12_fall
  rw [show X12_isIn (nI w) 0 1 = some (nI 1) from isIn_in hw (by decide), Option.bind_some, if_neg (show ¬ nI 1 = 0 by decide), m_feelsIn wk N.2.2.2, Option.bind_some, bits_n (by omega), Option.bind_some]
  obtain ⟨⟨x1, a1, t1⟩, e1, hs1, hl1, K1⟩ := loopR (fun fu k (y : Nat × Int32 × HS) => X12_fall_B28 (nI w) fu (nI y.1) y.2.1 (nI k) y.2.2) (fun y => some (y.2.1, y.2.2)) n (fun a s => itf (fun b s => fls n kn w a b s) (a + 1) (n - (a + 1)) s) (fun _ s y => (y.1, y.2.1) = s ∧ y.1 < 100 ∧ Keep h y.2.2)
    (fun fu s y J => by
      show X12_fall_B28 (nI w) (fu + 1) (nI y.1) y.2.1 (nI n) y.2.2 = _
      rw [X12_fall_B28, gdi0, cl0, (J.2.2.now N).2.2.2.1, if_pos (nI_le (by omega) (by omega))])
    (fun fu a s y ha J => by
      obtain ⟨⟨x2, a2, t2⟩, e2, J2⟩ := loopR (fun fu2 b (y : Nat × Int32 × HS) => X12_fall_B45 (nI w) (X12_fall_B28 (nI w) fu) fu2 (nI y.1) y.2.1 (nI a) (nI b) y.2.2) (fun y => X12_fall_B28 (nI w) fu (nI y.1) y.2.1 (nI (a + 1)) y.2.2) n (fun b s => fls n kn w a b s) (fun b s y => a < b ∧ (y.1, y.2.1) = s ∧ y.1 < 100 ∧ Keep h y.2.2)
        (fun fu2 s y J => by
          show X12_fall_B45 (nI w) (X12_fall_B28 (nI w) fu) (fu2 + 1) (nI y.1) y.2.1 (nI a) (nI n) y.2.2 = _
          rw [X12_fall_B45, gdi0, cl0, (J.2.2.2.now N).2.2.2.1, if_pos (nI_le (by omega) (by omega))]
          simp only [nm, L1, nI_add])
        (fun fu2 b s y hb J => by
          obtain ⟨j1, j2, j3, j4⟩ := J
          have R := (j4.now N).2.2.2
          have hka := wk.lt a
          have htl := toNat_lt ((kn a).testBit b)
          have e143 : ∀ x u z, X12_fall_B143 (nI w) (X12_fall_B28 (nI w) fu) (X12_fall_B45 (nI w) (X12_fall_B28 (nI w) fu) fu2) x u (nI a) (nI b) z = X12_fall_B45 (nI w) (X12_fall_B28 (nI w) fu) fu2 x u (nI a) (nI (b + 1)) z := by
            intro x u z
            simp only [X12_fall_B143, nm, L1, nI_add]
          have e82 : ∀ c, X12_fall_B82 (nI w) (X12_fall_B28 (nI w) fu) (X12_fall_B45 (nI w) (X12_fall_B28 (nI w) fu) fu2) (nI y.1) y.2.1 (nI a) (nI b) (nI c) (nI ((kn a).testBit b).toNat) y.2.2 = if nI ((kn a).testBit b).toNat = nI c then X12_fall_B45 (nI w) (X12_fall_B28 (nI w) fu) fu2 (nI y.1) y.2.1 (nI a) (nI (b + 1)) y.2.2 else (X12_copies y.2.2 67 68).bind fun q16 => (X12_changesLine q16 68 (nI a) (nI b)).bind fun q17 => (X12_feelsIn q17 68).bind fun q18 => (X12_bits q18).bind fun q19 => (if q19 < nI y.1 then X12_fall_B45 (nI w) (X12_fall_B28 (nI w) fu) fu2 q19 (nI (10 * a + b)) (nI a) (nI (b + 1)) q17 else X12_fall_B45 (nI w) (X12_fall_B28 (nI w) fu) fu2 (nI y.1) y.2.1 (nI a) (nI (b + 1)) q17) := by
            intro c
            unfold X12_fall_B82
            simp only [nm, e143]
            rw [show (10 : Int32) * nI a + nI b = nI (10 * a + b) from by rw [L10, pk_mul, nI_add]]
          have e45 : X12_fall_B45 (nI w) (X12_fall_B28 (nI w) fu) (fu2 + 1) (nI y.1) y.2.1 (nI a) (nI b) y.2.2 = X12_fall_B82 (nI w) (X12_fall_B28 (nI w) fu) (X12_fall_B45 (nI w) (X12_fall_B28 (nI w) fu) fu2) (nI y.1) y.2.1 (nI a) (nI b) (nI (if w = 0 then 0 else 1)) (nI ((kn a).testBit b).toNat) y.2.2 := by
            rw [X12_fall_B45, gdi0, cl0, R.1, if_neg (nI_ge (by omega) (by omega)), L2, m_of, Option.bind_some, gdi_n (show 3 + 3 * a + 2 < 30 by omega) (by omega), i_cl (show 3 + 3 * a + 2 < 2147483648 by omega), (R.2.2.2 a (show a < 9 by omega)).2.2, has_n (by omega) (by omega), Option.bind_some]
            match w, hw with
            | 0, _ => rfl
            | 1, _ => rfl
            | w + 2, hw => exact absurd hw (by omega)
          show ∃ t1 : Nat × Int32 × HS, X12_fall_B45 (nI w) (X12_fall_B28 (nI w) fu) (fu2 + 1) (nI y.1) y.2.1 (nI a) (nI b) y.2.2 = X12_fall_B45 (nI w) (X12_fall_B28 (nI w) fu) fu2 (nI t1.1) t1.2.1 (nI a) (nI (b + 1)) t1.2.2 ∧ a < b + 1 ∧ (t1.1, t1.2.1) = fls n kn w a b s ∧ t1.1 < 100 ∧ Keep h t1.2.2
          have hfl := fe_lt (n := n) (kn := flip kn a b)
          have hbf := bc_le (fe n (flip kn a b))
          have hif : (if w = 0 then 0 else 1) < 2147483648 := by split <;> decide
          have hz : (((kn a).testBit b).toNat = if w = 0 then 0 else 1) ↔ ¬ (((kn a).testBit b).toNat = if w = 0 then 1 else 0) := by
            match w, hw with
            | 0, _ => cases (kn a).testBit b <;> decide
            | 1, _ => cases (kn a).testBit b <;> decide
            | w + 2, hw => exact absurd hw (by omega)
          rw [e45, e82]
          unfold fls
          by_cases z : ((kn a).testBit b).toNat = if w = 0 then 1 else 0
          · rw [if_neg (by rw [nI_eq htl hif, hz]; exact fun q => q z), if_pos z]
            obtain ⟨f, g1, hf⟩ := m_copies (h := y.2.2) (show (67 : Nat) ≠ 68 by decide)
            have R1 : RowP (aI (sA y.2.2 68 f) 68) n kn kd fg hd dy := by rw [aI_sA_eq]; exact RowP_congr R hf
            obtain ⟨g, g2, R2⟩ := m_changesLine R1 (show a < 9 by omega) (show b < 9 by omega) (show a ≠ b by omega)
            have k2 : Keep h (sA (sA y.2.2 68 f) 68 g) := (j4.a (by decide)).a (by decide)
            have R3 : RowP (aI (sA (sA y.2.2 68 f) 68 g) 68) n (flip kn a b) kd fg hd dy := by rw [aI_sA_eq]; exact R2
            rw [g1, Option.bind_some, g2, Option.bind_some, m_feelsIn (WFk_flip wk ha hb (by omega)) R3, Option.bind_some, bits_n (by omega), Option.bind_some]
            have es : s.1 = y.1 := by rw [← j2]
            by_cases z3 : s.1 ≤ bc (fe n (flip kn a b))
            · rw [if_neg (nI_nlt (by omega) (by omega)), if_pos z3]
              exact ⟨(y.1, y.2.1, sA (sA y.2.2 68 f) 68 g), rfl, by omega, j2, j3, k2⟩
            · rw [if_pos (nI_lt (by omega) (by omega)), if_neg z3]
              exact ⟨(bc (fe n (flip kn a b)), nI (10 * a + b), sA (sA y.2.2 68 f) 68 g), rfl, by omega, rfl, by show bc _ < 100; omega, k2⟩
          · rw [if_pos (by rw [hz.mpr z]), if_neg z]
            exact ⟨y, rfl, by omega, j2, j3, j4⟩)
        (n - (a + 1)) FU (a + 1) s y (by omega) (FU_lt (by omega)) ⟨by omega, J.1, J.2.1, J.2.2⟩
      refine ⟨(x2, a2, t2), ?_, J2.2⟩
      show X12_fall_B28 (nI w) (fu + 1) (nI y.1) y.2.1 (nI a) y.2.2 = _
      rw [X12_fall_B28, gdi0, cl0, (J.2.2.now N).2.2.2.1, if_neg (nI_ge (by omega) (by omega))]
      simp only [nm, L1, nI_add]
      exact e2)
    n FU 0 (bc (fe n kn), -4) (bc (fe n kn), -4, h) (by omega) (FU_lt (by omega)) ⟨rfl, by show bc _ < 100; omega, Keep.refl h⟩
  have hs1 : (x1, a1) = it2 (fls n kn w) n (bc (fe n kn), -4) := hs1
  refine ⟨t1, ?_, K1⟩
  rw [← hs1]; exact e1
theorem fall_eb {w : Nat} (hw : w < 2) : X11_fall h (nI w) = (X4_bestTurn h 6 (nI (if w = 0 then 1 else 0))).bind fun q4 => some (q4.1, q4.2) := by
  match w, hw with
  | 0, _ =>
    rw [show nI (if 0 = 0 then 1 else 0) = 1 from rfl]
    unfold X11_fall
    rw [if_pos (show nI 0 = 0 from rfl)]
    unfold X11_fall_B9
    rw [if_pos (show nI 0 = 0 from rfl)]
    unfold X11_fall_B25
    rfl
  | 1, _ =>
    rw [show nI (if 1 = 0 then 1 else 0) = 0 from rfl]
    unfold X11_fall
    rw [if_neg (show ¬ nI 1 = 0 by decide), if_pos (show nI 1 = 1 from rfl)]
    unfold X11_fall_B9
    rw [if_neg (show ¬ nI 1 = 0 by decide)]
    unfold X11_fall_B25
    rfl
  | w + 2, hw => exact absurd hw (by omega)
theorem S_fall (I : Inv h) (u : Int32) : ∃ r h1 h2, X11_fall h u = some (r, h1) ∧ X12_fall h1 u = some (r, h2) ∧ Inv h2 := by
  obtain ⟨n, kn, kd, fg, hd, dm, dy, N⟩ := id I.1
  have w1 := N.1.1.1
  rcases arg_in u 2 with ⟨w, hw, _, rfl⟩ | hu
  · obtain ⟨t, e1, P1, F1⟩ := c_bestTurn N hw
    have R1 : RowP (aI t 67) n kn kd fg hd dy := by rw [F1.row]; exact N.2.2.2
    have I1 : Inv t := I.n F1.n N.1 N.2.1 P1 R1
    obtain ⟨t2, e2, K2⟩ := m_fall (h := t) ⟨N.1, N.2.1, P1, R1⟩ hw
    refine ⟨_, t, t2, ?_, e2, K2.inv I1⟩
    rw [fall_eb hw, e1]; rfl
  · have ne : ∀ j, j < 2 → ¬ u = nI j := fun j hj e => by rw [out_ne hu hj (by decide)] at e; exact e
    refine ⟨-1, h, h, ?_, ?_, I⟩
    · unfold X11_fall
      rw [if_neg (show ¬ u = 0 from ne 0 (by decide)), if_neg (show ¬ u = 1 from ne 1 (by decide))]
    · unfold X12_fall
      rw [show X12_isIn u 0 1 = some (nI 0) from isIn_out hu (by decide)]; rfl
end FALL2
