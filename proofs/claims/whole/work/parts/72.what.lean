/-! whatIs -/
def wst (n : Nat) (kn kd fg : Nat → Nat) (hd dy : Nat) (ls : Int32) (el : Nat → Int32) (le p w v s : Nat) : Nat := if fo n kn (updN kd p (if w = 0 then v else kd p)) (updN fg p (if w = 0 then fg p else v)) ls el dy 0 le (hdc (if w = 0 then v else kd p) p hd) = -4 then s ||| 2 ^ v else s
section WHAT
variable {h : HS} {q so le : Nat} {el : Nat → Int32} {n : Nat} {kn kd fg : Nat → Nat} {hd dm dy : Nat}
theorem c_what116 (hq : q < 8) (w : WFp n kn kd fg hd dm dy) (hdy : dy ≤ 999) (S : ShP h q 2 so le el) {p k f v s : Nat} (hp : p < n) (hk : k < 8) (hf : f < 10) (hv : v < 31) {K : Nat → Int32 → Int32 → HS → Option (Int32 × HS)} {x1 x3 : Int32} {t : HS} (P20 : ParL t 20 n kn kd fg hd dm dy) (hK : Keep h t) :
    ∃ t1, X11_whatIs_B116 x1 (nI p) x3 K (50 + 2 * q) (nI s) (nI v) (nI f) (nI k) (nI p) t = K (50 + 2 * q) (nI (if fo n kn (updN kd p k) (updN fg p f) (lst so) el dy 0 le (hdc k p hd) = -4 then s ||| 2 ^ v else s)) (nI (v + 1)) t1 ∧ Keep h t1 := by
  obtain ⟨t1, e1, P1, f1⟩ := c_change (Or.inr (Or.inl rfl)) w P20 hp hk hf
  have k1 := hK.trans f1.keep
  have wc := WFp_change w hp hk hf
  have S1 := k1.shelf hq S
  refine ⟨t1, ?_, k1⟩
  unfold X11_whatIs_B116
  rw [e1, Option.bind_some, P1.2.2.2.1, L0, c_firstOther (Or.inr (Or.inl rfl)) wc P1 S1 (by omega) wc.2.2.2.1 (show 0 < 100 by decide), Option.bind_some]
  show (if fo n kn (updN kd p k) (updN fg p f) (lst so) el dy 0 le (hdc k p hd) = -4 then _ else _) = _
  by_cases y : fo n kn (updN kd p k) (updN fg p f) (lst so) el dy 0 le (hdc k p hd) = -4
  · rw [if_pos y, if_pos y]
    simp (disch := omega) only [X11_whatIs_B151, nm, L1, nI_add, i_one, i_or]
  · rw [if_neg y, if_neg y]
    simp (disch := omega) only [X11_whatIs_B151, nm, L1, nI_add]
theorem m_what112 (hq : q < 8) (w : WFp n kn kd fg hd dm dy) (hdy : dy ≤ 999) (S : ShP h q 2 so le el) {p k f v s : Nat} (hp : p < n) (hk : k < 8) (hf : f < 10) (hv : v < 31) {K : Int32 → Int32 → HS → Option (Int32 × HS)} {x2 x3 : Int32} {t : HS} (R68 : RowP (aI t 68) n kn kd fg hd dy) (hK : Keep h t) :
    ∃ t1, X12_whatIs_B112 (nI q) x2 x3 K (nI s) (nI v) (nI f) (nI k) (nI p) t = K (nI (if fo n kn (updN kd p k) (updN fg p f) (lst so) el dy 0 le (hdc k p hd) = -4 then s ||| 2 ^ v else s)) (nI (v + 1)) t1 ∧ Keep h t1 := by
  have w1 := w.1.1
  obtain ⟨g, e1, R1⟩ := m_becomes w R68 (show p < 9 by omega) hk hf
  have wc := WFp_change w hp hk hf
  obtain ⟨t1, e2, k2⟩ := m_isHeardSo hq wc S (show dy < 100000 by omega) (t := sA t 68 g) wc.2.2.2.1 (by rw [aI_sA_eq]; exact R1) (hK.a (by decide))
  refine ⟨t1, ?_, k2⟩
  unfold X12_whatIs_B112
  rw [e1, Option.bind_some, e2, Option.bind_some]
  by_cases y : fo n kn (updN kd p k) (updN fg p f) (lst so) el dy 0 le (hdc k p hd) = -4
  · rw [if_pos y, if_pos y, if_neg (show ¬ nI 1 = 0 by decide)]
    simp (disch := omega) only [X12_whatIs_B133, nm, L1, nI_add, i_one, i_or]
  · rw [if_neg y, if_neg y, if_pos (show nI 0 = 0 from rfl)]
    simp (disch := omega) only [X12_whatIs_B133, nm, L0, L1, nI_add, i_or, Nat.or_zero]
theorem c_what_step (hq : q < 8) (N : NowP h n kn kd fg hd dm dy) (S : ShP h q 2 so le el) {p w v s fu : Nat} (hp : p < n) (hw : w < 2) (hv : v < if w = 0 then 8 else 10) {x1 : Int32} {t : HS} (hK : Keep h t) :
    ∃ t1, X11_whatIs_B50 x1 (nI p) (nI w) (fu + 1) (50 + 2 * q) (nI s) (nI v) t = X11_whatIs_B50 x1 (nI p) (nI w) fu (50 + 2 * q) (nI (wst n kn kd fg hd dy (lst so) el le p w v s)) (nI (v + 1)) t1 ∧ Keep h t1 := by
  have w1 := N.1.1.1
  obtain ⟨t2, e2, P2, f2⟩ := c_become (b := 20) (s := 5) (Or.inr (Or.inl rfl)) (Or.inl rfl) (by decide) (hK.now N).2.2.1
  have k2 := hK.trans f2.keep
  have N2 := k2.now N
  have hkp := N.1.2.1 p
  have hfp := N.1.2.2.1 p
  match w, hw with
  | 0, _ =>
    have hv8 : v < 8 := hv
    obtain ⟨t1, e1, k1⟩ := c_what116 hq N.1 N.2.1 S hp hv8 hfp (show v < 31 by omega) (K := X11_whatIs_B50 x1 (nI p) (nI 0) fu) (x1 := x1) (x3 := nI 0) (s := s) P2 k2
    refine ⟨t1, ?_, k1⟩
    rw [X11_whatIs_B50, if_pos (show nI 0 = 0 from rfl)]
    unfold X11_whatIs_B63
    rw [if_neg (show ¬ (8 : Int32) ≤ nI v from nI_ge (a := v) (b := 8) hv8 (by decide)), e2, Option.bind_some, if_pos (show nI 0 = 0 from rfl)]
    unfold X11_whatIs_B99
    rw [if_pos (show nI 0 = 0 from rfl), c_figureOf N2.2.2.1 (by omega), Option.bind_some, e1]
    rfl
  | 1, _ =>
    have hv10 : v < 10 := hv
    obtain ⟨t1, e1, k1⟩ := c_what116 hq N.1 N.2.1 S hp hkp hv10 (show v < 31 by omega) (K := X11_whatIs_B50 x1 (nI p) (nI 1) fu) (x1 := x1) (x3 := nI 1) (s := s) P2 k2
    refine ⟨t1, ?_, k1⟩
    rw [X11_whatIs_B50, if_neg (show ¬ nI 1 = 0 by decide)]
    unfold X11_whatIs_B63
    rw [if_neg (show ¬ (10 : Int32) ≤ nI v from nI_ge (a := v) (b := 10) hv10 (by decide)), e2, Option.bind_some, if_neg (show ¬ nI 1 = 0 by decide), c_kindOf N2.2.2.1 (by omega), Option.bind_some]
    unfold X11_whatIs_B99
    rw [if_neg (show ¬ nI 1 = 0 by decide), e1]
    rfl
  | w + 2, hw => exact absurd hw (by omega)
theorem m_what_step (hq : q < 8) (N : NowP h n kn kd fg hd dm dy) (S : ShP h q 2 so le el) {p w v s fu : Nat} (hp : p < n) (hw : w < 2) (hv : v < if w = 0 then 8 else 10) {t : HS} (hK : Keep h t) :
    ∃ t1, X12_whatIs_B41 (nI q) (nI p) (nI w) (fu + 1) (nI s) (nI v) t = X12_whatIs_B41 (nI q) (nI p) (nI w) fu (nI (wst n kn kd fg hd dy (lst so) el le p w v s)) (nI (v + 1)) t1 ∧ Keep h t1 := by
  have w1 := N.1.1.1
  have Nt := hK.now N
  obtain ⟨f, e2, hf⟩ := m_copies (h := t) (show (67 : Nat) ≠ 68 by decide)
  have R2 : RowP (aI (sA t 68 f) 68) n kn kd fg hd dy := by rw [aI_sA_eq]; exact RowP_congr Nt.2.2.2 hf
  have k2 : Keep h (sA t 68 f) := hK.a (by decide)
  have N2 := k2.now N
  have hkp := N.1.2.1 p
  have hfp := N.1.2.2.1 p
  have R0 := Nt.2.2.2.2.2.2 p (by omega)
  have R1 := N2.2.2.2.2.2.2 p (by omega)
  match w, hw with
  | 0, _ =>
    have hv8 : v < 8 := hv
    obtain ⟨t1, e1, k1⟩ := m_what112 hq N.1 N.2.1 S hp hv8 hfp (show v < 31 by omega) (K := X12_whatIs_B41 (nI q) (nI p) (nI 0) fu) (x2 := nI p) (x3 := nI 0) (s := s) R2 k2
    refine ⟨t1, ?_, k1⟩
    rw [X12_whatIs_B41, if_pos (show nI 0 = 0 from rfl)]
    unfold X12_whatIs_B54
    rw [if_neg (show ¬ (8 : Int32) ≤ nI v from nI_ge (a := v) (b := 8) hv8 (by decide)), e2, Option.bind_some, if_pos (show nI 0 = 0 from rfl)]
    unfold X12_whatIs_B92
    rw [if_neg (show ¬ nI 0 = 1 by decide), L1, m_of]
    simp (disch := omega) only [Option.bind_some, gdi_n, i_cl, R1.2.1]
    rw [e1]
    rfl
  | 1, _ =>
    have hv10 : v < 10 := hv
    obtain ⟨t1, e1, k1⟩ := m_what112 hq N.1 N.2.1 S hp hkp hv10 (show v < 31 by omega) (K := X12_whatIs_B41 (nI q) (nI p) (nI 1) fu) (x2 := nI p) (x3 := nI 1) (s := s) R2 k2
    refine ⟨t1, ?_, k1⟩
    rw [X12_whatIs_B41, if_neg (show ¬ nI 1 = 0 by decide)]
    unfold X12_whatIs_B54
    rw [if_neg (show ¬ (10 : Int32) ≤ nI v from nI_ge (a := v) (b := 10) hv10 (by decide)), e2, Option.bind_some, if_neg (show ¬ nI 1 = 0 by decide), L0, m_of]
    simp (disch := omega) only [Option.bind_some, gdi_n, i_cl, R1.1]
    unfold X12_whatIs_B92
    rw [if_pos (show nI 1 = 1 from rfl), e1]
    rfl
  | w + 2, hw => exact absurd hw (by omega)
theorem S_whatIs (I : Inv h) (u a b : Int32) : ∃ r h1 h2, X11_whatIs h u a b = some (r, h1) ∧ X12_whatIs h1 u a b = some (r, h2) ∧ Inv h2 := by
  obtain ⟨n, kn, kd, fg, hd, dm, dy, N⟩ := id I.1
  have w1 := N.1.1.1
  rcases arg_in a n with ⟨p, hp, _, rfl⟩ | ha
  · rcases arg_in b 2 with ⟨w, hw, _, rfl⟩ | hb
    · have ec : X11_whatIs h u (nI p) (nI w) = (X11_shelfOf h u).bind fun q5 => oM q5 ((X11_rowRefusal h none).bind fun q7 => (if q7 = 0 then none else some (q7, h))) fun t6 => (X11_rowRefusal h (some t6)).bind fun q9 => (if q9 = 0 then X11_whatIs_B50 u (nI p) (nI w) FU t6 0 0 h else some (q9, h)) := by
        unfold X11_whatIs
        rw [c_has_in N.2.2.1 hp w1, Option.bind_some, if_neg (show ¬ nI 1 = 0 by decide), if_neg (show ¬ nI w < 0 from nI_pos (by omega)), if_pos (show nI w ≤ 1 from nI_le (b := 1) (by omega) (by decide))]
      have em : ∀ t, NowP t n kn kd fg hd dm dy → X12_whatIs t u (nI p) (nI w) = (X12_wrongRow t u (-1)).bind fun q5 => (if q5 = 0 then X12_whatIs_B41 u (nI p) (nI w) FU 0 0 t else some (q5, t)) := by
        intro t Nt
        unfold X12_whatIs
        rw [m_isOne_in Nt.2.2.2 hp w1, Option.bind_some, if_neg (show ¬ nI 1 = 0 by decide), show X12_isIn (nI w) 0 1 = some (nI 1) from isIn_in hw (by decide), Option.bind_some, if_neg (show ¬ nI 1 = 0 by decide)]
      rcases arg_in u 8 with ⟨q, hq, _, rfl⟩ | hu
      · obtain ⟨ho, so, le, el, S⟩ := I.2.2.1 q hq
        have e0 : X11_whatIs h (nI q) (nI p) (nI w) = (if rrf ho = 0 then X11_whatIs_B50 (nI q) (nI p) (nI w) FU (50 + 2 * q) 0 0 h else some (rrf ho, h)) := by
          rw [ec, c_shelf_in hq]
          show (X11_rowRefusal h (some (50 + 2 * q))).bind _ = _
          rw [c_rowRef S]; rfl
        by_cases z : ho = 2
        · subst z
          have hM : (if w = 0 then 8 else 10) ≤ 10 := by split <;> decide
          have eM : ∀ {α : Type} (x y : α), (if nI w = 0 then x else y) = if w = 0 then x else y := by
            intro α x y
            by_cases z : w = 0
            · rw [if_pos z, if_pos (by rw [z]; rfl)]
            · rw [if_neg z, if_neg (nI_ne0 (by omega) (by omega))]
          obtain ⟨⟨s1, t1⟩, e1, hs1, k1⟩ := loopR (fun fu v (t : Nat × HS) => X11_whatIs_B50 (nI q) (nI p) (nI w) fu (50 + 2 * q) (nI t.1) (nI v) t.2) (fun t => some (nI t.1, t.2)) (if w = 0 then 8 else 10) (wst n kn kd fg hd dy (lst so) el le p w) (fun _ s t => t.1 = s ∧ Keep h t.2)
            (fun fu s t _ => by
              show X11_whatIs_B50 (nI q) (nI p) (nI w) (fu + 1) (50 + 2 * q) (nI t.1) (nI (if w = 0 then 8 else 10)) t.2 = _
              rw [X11_whatIs_B50, eM]
              by_cases z : w = 0
              · simp only [if_pos z]
                unfold X11_whatIs_B63
                rw [if_pos (show (8 : Int32) ≤ nI 8 by decide)]
              · simp only [if_neg z]
                unfold X11_whatIs_B63
                rw [if_pos (show (10 : Int32) ≤ nI 10 by decide)])
            (fun fu v s t hv J => by
              obtain ⟨t1, e1, k1⟩ := c_what_step hq N S hp hw hv (s := t.1) (fu := fu) (x1 := nI q) J.2
              exact ⟨(wst n kn kd fg hd dy (lst so) el le p w v t.1, t1), e1, by rw [J.1], k1⟩)
            (if w = 0 then 8 else 10) FU 0 0 (0, h) (by omega) (FU_lt (by omega)) ⟨rfl, Keep.refl h⟩
          obtain ⟨⟨s2, t2⟩, e2, hs2, k2⟩ := loopR (fun fu v (t : Nat × HS) => X12_whatIs_B41 (nI q) (nI p) (nI w) fu (nI t.1) (nI v) t.2) (fun t => some (nI t.1, t.2)) (if w = 0 then 8 else 10) (wst n kn kd fg hd dy (lst so) el le p w) (fun _ s t => t.1 = s ∧ Keep h t.2)
            (fun fu s t _ => by
              show X12_whatIs_B41 (nI q) (nI p) (nI w) (fu + 1) (nI t.1) (nI (if w = 0 then 8 else 10)) t.2 = _
              rw [X12_whatIs_B41, eM]
              by_cases z : w = 0
              · simp only [if_pos z]
                unfold X12_whatIs_B54
                rw [if_pos (show (8 : Int32) ≤ nI 8 by decide)]
              · simp only [if_neg z]
                unfold X12_whatIs_B54
                rw [if_pos (show (10 : Int32) ≤ nI 10 by decide)])
            (fun fu v s t hv J => by
              obtain ⟨t1, e1, k1⟩ := m_what_step hq N S hp hw hv (s := t.1) (fu := fu) J.2
              exact ⟨(wst n kn kd fg hd dy (lst so) el le p w v t.1, t1), e1, by rw [J.1], k1⟩)
            (if w = 0 then 8 else 10) FU 0 0 (0, t1) (by omega) (FU_lt (by omega)) ⟨rfl, k1⟩
          have S1 := Keep.shelf k1 hq S
          have es : s2 = s1 := Eq.trans (show s2 = _ from hs2) (show s1 = _ from hs1).symm
          refine ⟨nI s1, t1, t2, ?_, ?_, Keep.inv k2 I⟩
          · rw [e0, if_pos (show rrf 2 = 0 from rfl)]
            exact e1
          · rw [em t1 (Keep.now k1 N), m_rowRef hq S1 (by decide), Option.bind_some, if_pos (show rrf 2 = 0 from rfl), ← es]
            exact e2
        · have hne := rrf_ne S.1.2.2 z
          refine ⟨rrf ho, h, h, by rw [e0, if_neg hne], ?_, I⟩
          rw [em h N, m_rowRef hq S (by decide), Option.bind_some, if_neg hne]
      · refine ⟨-1, h, h, ?_, ?_, I⟩
        · rw [ec, c_shelf_out hu]; rfl
        · rw [em h N, m_row_out hu]; rfl
    · refine ⟨-1, h, h, ?_, ?_, I⟩
      · unfold X11_whatIs
        rw [c_has_in N.2.2.1 hp w1, Option.bind_some, if_neg (show ¬ nI 1 = 0 by decide)]
        rcases hb with hb | ⟨j, g1, g2, rfl⟩
        · rw [if_pos hb]
        · rw [if_neg (show ¬ nI j < 0 from nI_pos g2), if_neg (show ¬ nI j ≤ 1 from nI_ge (a := 1) (by omega) g2)]
      · unfold X12_whatIs
        rw [m_isOne_in N.2.2.2 hp w1, Option.bind_some, if_neg (show ¬ nI 1 = 0 by decide), show X12_isIn b 0 1 = some (nI 0) from isIn_out hb (by decide)]; rfl
  · refine ⟨-1, h, h, ?_, ?_, I⟩
    · unfold X11_whatIs
      rw [c_has_out N.2.2.1 w1 ha]; rfl
    · unfold X12_whatIs
      rw [m_isOne_out N.2.2.2 w1 ha]; rfl
end WHAT
