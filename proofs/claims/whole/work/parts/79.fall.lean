/-! bridges, fall: each line turned, looked at, turned back -/
theorem flip_flip {kn : Nat → Nat} {a c : Nat} (hac : a ≠ c) : flip (flip kn a c) a c = kn := by
  funext p
  refine ext_bits fun q => ?_
  rw [flip_bit hac, flip_bit hac]
  cases (kn p).testBit q <;> cases (decide (p = a) && decide (q = c) || decide (p = c) && decide (q = a)) <;> rfl
/-- over all twos a < b -/
def it2 {σ : Type} (step : Nat → Nat → σ → σ) (n : Nat) (s : σ) : σ := itf (fun a s => itf (fun b s => step a b s) (a + 1) (n - (a + 1)) s) 0 n s
def brs (n : Nat) (kn : Nat → Nat) (a b : Nat) (s : Nat) : Nat := if (kn a).testBit b then (if pt n (flip kn a b) ≤ pt n kn then s else s + 1) else s
def fls (n : Nat) (kn : Nat → Nat) (w a b : Nat) (s : Nat × Int32) : Nat × Int32 := if ((kn a).testBit b).toNat = (if w = 0 then 1 else 0) then (if s.1 ≤ bc (fe n (flip kn a b)) then s else (bc (fe n (flip kn a b)), nI (10 * a + b))) else s
section FALL
variable {h : HS} {n : Nat} {kn kd fg : Nat → Nat} {hd dm dy : Nat}
/-- a turn and the way back -/
theorem c_turns (P : ParL h 5 n kn kd fg hd dm dy) {a b : Nat} (ha : a < 9) (hb : b < 9) (hab : a ≠ b) : ∃ t1 t2, X4_turn h 6 (nI a) (nI b) = some t1 ∧ LinL t1 6 n (flip kn a b) ∧ X4_turn t1 6 (nI a) (nI b) = some t2 ∧ ParL t2 5 n kn kd fg hd dm dy ∧ FrB 5 h t2 := by
  obtain ⟨f, e1, L1⟩ := c_turn P.1 ha hb hab
  obtain ⟨g, e2, L2⟩ := c_turn L1 ha hb hab
  rw [flip_flip hab] at L2
  refine ⟨_, _, e1, L1, e2, ?_, (FrB.refl.a (Or.inl rfl)).a (Or.inl rfl)⟩
  have P1 : ParL (sA h 7 f) 5 n (flip kn a b) kd fg hd dm dy := ParL_kn P L1
  exact ParL_kn P1 L2
theorem c_bridges (N : NowP h n kn kd fg hd dm dy) : ∃ t, X4_bridges h 6 = some (nI (it2 (brs n kn) n 0), t) ∧ ParL t 5 n kn kd fg hd dm dy ∧ FrB 5 h t := by
  have w1 := N.1.1.1
  have w := N.1.1
  unfold X4_bridges
  rw [c_parts w N.2.2.1.1, Option.bind_some]
  have hpt : ∀ {kn : Nat → Nat}, pt n kn < 100 := by
    intro kn
    have : (itf (pts n kn) 0 n (0, 0)).2 ≤ n := itf_inv (fun k (s : Nat × Nat) => s.2 ≤ k) n (fun k s _ hs => by
      unfold pts
      split
      · omega
      · show s.2 + 1 ≤ k + 1; omega) n 0 (0, 0) (by omega) (Nat.le_refl 0)
    unfold pt; omega
  obtain ⟨⟨s1, t1⟩, e1, hs1, P1, F1⟩ := loopR (fun fu k (y : Nat × HS) => X4_bridges_B9 6 fu (nI (pt n kn)) (nI y.1) (nI k) y.2) (fun y => some (nI y.1, y.2)) n (fun a s => itf (fun b s => brs n kn a b s) (a + 1) (n - (a + 1)) s) (fun _ s y => y.1 = s ∧ ParL y.2 5 n kn kd fg hd dm dy ∧ FrB 5 h y.2)
    (fun fu s y J => by
      show X4_bridges_B9 6 (fu + 1) (nI (pt n kn)) (nI y.1) (nI n) y.2 = _
      rw [X4_bridges_B9, J.2.1.1.1, if_pos (nI_le (by omega) (by omega))])
    (fun fu a s y ha J => by
      obtain ⟨⟨s2, t2⟩, e2, J2⟩ := loopR (fun fu2 b (y : Nat × HS) => X4_bridges_B22 6 (X4_bridges_B9 6 fu) fu2 (nI (pt n kn)) (nI y.1) (nI a) (nI b) y.2) (fun y => X4_bridges_B9 6 fu (nI (pt n kn)) (nI y.1) (nI (a + 1)) y.2) n (fun b s => brs n kn a b s) (fun b s y => a < b ∧ y.1 = s ∧ ParL y.2 5 n kn kd fg hd dm dy ∧ FrB 5 h y.2)
        (fun fu2 s y J => by
          show X4_bridges_B22 6 (X4_bridges_B9 6 fu) (fu2 + 1) (nI (pt n kn)) (nI y.1) (nI a) (nI n) y.2 = _
          rw [X4_bridges_B22, J.2.2.1.1.1, if_pos (nI_le (by omega) (by omega))]
          simp only [nm, L1, nI_add])
        (fun fu2 b s y hb J => by
          obtain ⟨j1, j2, j3, j4⟩ := J
          have e66 : ∀ x z, X4_bridges_B66 6 (X4_bridges_B9 6 fu) (X4_bridges_B22 6 (X4_bridges_B9 6 fu) fu2) (nI (pt n kn)) x (nI a) (nI b) z = X4_bridges_B22 6 (X4_bridges_B9 6 fu) fu2 (nI (pt n kn)) x (nI a) (nI (b + 1)) z := by
            intro x z
            simp only [X4_bridges_B66, nm, L1, nI_add]
          show ∃ t1 : Nat × HS, X4_bridges_B22 6 (X4_bridges_B9 6 fu) (fu2 + 1) (nI (pt n kn)) (nI y.1) (nI a) (nI b) y.2 = X4_bridges_B22 6 (X4_bridges_B9 6 fu) fu2 (nI (pt n kn)) (nI t1.1) (nI a) (nI (b + 1)) t1.2 ∧ a < b + 1 ∧ t1.1 = brs n kn a b s ∧ ParL t1.2 5 n kn kd fg hd dm dy ∧ FrB 5 h t1.2
          rw [X4_bridges_B22, j3.1.1, if_neg (nI_ge (by omega) (by omega)), c_between w j3.1 (by omega) (by omega), Option.bind_some, e66]
          unfold brs
          cases (kn a).testBit b
          · rw [if_pos (show nI false.toNat = 0 from rfl)]
            exact ⟨y, rfl, by omega, j2, j3, j4⟩
          · rw [if_neg (show ¬ nI true.toNat = 0 by decide)]
            obtain ⟨t1, t2, g1, g2, g3, g4, g5⟩ := c_turns j3 (show a < 9 by omega) (show b < 9 by omega) (show a ≠ b by omega)
            rw [g1, Option.bind_some, c_parts (WFk_flip w ha hb (by omega)) g2, Option.bind_some]
            simp only [ite_true]
            have h1 := hpt (kn := kn)
            have h2 := hpt (kn := flip kn a b)
            by_cases z : pt n (flip kn a b) ≤ pt n kn
            · rw [if_pos (nI_le z (by omega)), if_pos z]
              refine ⟨(y.1, t2), ?_, by omega, j2, g4, j4.trans g5⟩
              unfold X4_bridges_B59
              rw [g3, Option.bind_some, e66]
            · rw [if_neg (nI_ge (by omega) (by omega)), if_neg z]
              refine ⟨(y.1 + 1, t2), ?_, by omega, by rw [j2], g4, j4.trans g5⟩
              simp only [nm]
              unfold X4_bridges_B59
              rw [g3, Option.bind_some, L1, nI_add, e66])
        (n - (a + 1)) FU (a + 1) s y (by omega) (FU_lt (by omega)) ⟨by omega, J.1, J.2.1, J.2.2⟩
      refine ⟨(s2, t2), ?_, J2.2⟩
      show X4_bridges_B9 6 (fu + 1) (nI (pt n kn)) (nI y.1) (nI a) y.2 = _
      rw [X4_bridges_B9, J.2.1.1.1, if_neg (nI_ge (by omega) (by omega))]
      simp only [nm, L1, nI_add]
      exact e2)
    n FU 0 0 (0, h) (by omega) (FU_lt (by omega)) ⟨rfl, N.2.2.1, FrB.refl⟩
  have hs1 : s1 = it2 (brs n kn) n 0 := hs1
  exact ⟨t1, by rw [← hs1]; exact e1, P1, F1⟩
theorem m_bridges (N : NowP h n kn kd fg hd dm dy) : ∃ t, X12_bridges h = some (nI (it2 (brs n kn) n 0), t) ∧ Keep h t := by
  have w1 := N.1.1.1
  have w := N.1.1
  have hpt : ∀ {kn : Nat → Nat}, pt n kn < 100 := by
    intro kn
    have : (itf (pts n kn) 0 n (0, 0)).2 ≤ n := itf_inv (fun k (s : Nat × Nat) => s.2 ≤ k) n (fun k s _ hs => by
      unfold pts
      split
      · omega
      · show s.2 + 1 ≤ k + 1; omega) n 0 (0, 0) (by omega) (Nat.le_refl 0)
    unfold pt; omega
  obtain ⟨⟨s1, t1⟩, e1, hs1, K1⟩ := loopR (fun fu k (y : Nat × HS) => X12_bridges_B4 fu (nI y.1) (nI k) y.2) (fun y => some (nI y.1, y.2)) n (fun a s => itf (fun b s => brs n kn a b s) (a + 1) (n - (a + 1)) s) (fun _ s y => y.1 = s ∧ Keep h y.2)
    (fun fu s y J => by
      show X12_bridges_B4 (fu + 1) (nI y.1) (nI n) y.2 = _
      rw [X12_bridges_B4, gdi0, cl0, (J.2.now N).2.2.2.1, if_pos (nI_le (by omega) (by omega))])
    (fun fu a s y ha J => by
      obtain ⟨⟨s2, t2⟩, e2, J2⟩ := loopR (fun fu2 b (y : Nat × HS) => X12_bridges_B18 (X12_bridges_B4 fu) fu2 (nI y.1) (nI a) (nI b) y.2) (fun y => X12_bridges_B4 fu (nI y.1) (nI (a + 1)) y.2) n (fun b s => brs n kn a b s) (fun b s y => a < b ∧ y.1 = s ∧ Keep h y.2)
        (fun fu2 s y J => by
          show X12_bridges_B18 (X12_bridges_B4 fu) (fu2 + 1) (nI y.1) (nI a) (nI n) y.2 = _
          rw [X12_bridges_B18, gdi0, cl0, (J.2.2.now N).2.2.2.1, if_pos (nI_le (by omega) (by omega))]
          simp only [nm, L1, nI_add])
        (fun fu2 b s y hb J => by
          obtain ⟨j1, j2, j3⟩ := J
          have R := (j3.now N).2.2.2
          have hka := w.lt a
          have e93 : ∀ x z, X12_bridges_B93 (X12_bridges_B4 fu) (X12_bridges_B18 (X12_bridges_B4 fu) fu2) x (nI a) (nI b) z = X12_bridges_B18 (X12_bridges_B4 fu) fu2 x (nI a) (nI (b + 1)) z := by
            intro x z
            simp only [X12_bridges_B93, nm, L1, nI_add]
          show ∃ t1 : Nat × HS, X12_bridges_B18 (X12_bridges_B4 fu) (fu2 + 1) (nI y.1) (nI a) (nI b) y.2 = X12_bridges_B18 (X12_bridges_B4 fu) fu2 (nI t1.1) (nI a) (nI (b + 1)) t1.2 ∧ a < b + 1 ∧ t1.1 = brs n kn a b s ∧ Keep h t1.2
          rw [X12_bridges_B18, gdi0, cl0, R.1, if_neg (nI_ge (by omega) (by omega)), L2, m_of, Option.bind_some, gdi_n (show 3 + 3 * a + 2 < 30 by omega) (by omega), i_cl (show 3 + 3 * a + 2 < 2147483648 by omega), (R.2.2.2 a (show a < 9 by omega)).2.2, has_n (by omega) (by omega), Option.bind_some, e93]
          unfold brs
          cases (kn a).testBit b
          · rw [if_pos (show nI false.toNat = 0 from rfl)]
            exact ⟨y, rfl, by omega, j2, j3⟩
          · rw [if_neg (show ¬ nI true.toNat = 0 by decide)]
            obtain ⟨f, g1, hf⟩ := m_copies (h := y.2) (show (67 : Nat) ≠ 68 by decide)
            have R1 : RowP (aI (sA y.2 68 f) 68) n kn kd fg hd dy := by rw [aI_sA_eq]; exact RowP_congr R hf
            obtain ⟨g, g2, R2⟩ := m_changesLine R1 (show a < 9 by omega) (show b < 9 by omega) (show a ≠ b by omega)
            have k2 : Keep h (sA (sA y.2 68 f) 68 g) := (j3.a (by decide)).a (by decide)
            have R3 : RowP (aI (sA (sA y.2 68 f) 68 g) 68) n (flip kn a b) kd fg hd dy := by rw [aI_sA_eq]; exact R2
            rw [g1, Option.bind_some, g2, Option.bind_some, m_partsIn (WFk_flip w ha hb (by omega)) R3, Option.bind_some, m_partsIn w (k2.now N).2.2.2, Option.bind_some]
            simp only [ite_true]
            have h1 := hpt (kn := kn)
            have h2 := hpt (kn := flip kn a b)
            by_cases z : pt n (flip kn a b) ≤ pt n kn
            · rw [if_pos (nI_le z (by omega)), if_pos z]
              refine ⟨(y.1, sA (sA y.2 68 f) 68 g), ?_, by omega, j2, k2⟩
              unfold X12_bridges_B91
              simp only [nm, L0, nI_add, Nat.add_zero, e93]
            · rw [if_neg (nI_ge (by omega) (by omega)), if_neg z]
              refine ⟨(y.1 + 1, sA (sA y.2 68 f) 68 g), ?_, by omega, by rw [j2], k2⟩
              unfold X12_bridges_B91
              simp only [nm, L1, nI_add, e93])
        (n - (a + 1)) FU (a + 1) s y (by omega) (FU_lt (by omega)) ⟨by omega, J.1, J.2⟩
      refine ⟨(s2, t2), ?_, J2.2⟩
      show X12_bridges_B4 (fu + 1) (nI y.1) (nI a) y.2 = _
      rw [X12_bridges_B4, gdi0, cl0, (J.2.now N).2.2.2.1, if_neg (nI_ge (by omega) (by omega))]
      simp only [nm, L1, nI_add]
      exact e2)
    n FU 0 0 (0, h) (by omega) (FU_lt (by omega)) ⟨rfl, Keep.refl h⟩
  have hs1 : s1 = it2 (brs n kn) n 0 := hs1
  exact ⟨t1, by rw [← hs1]; exact e1, K1⟩
theorem S_wide (I : Inv h) (u : Int32) : ∃ r h1 h2, X11_wide h u = some (r, h1) ∧ X12_wide h1 u = some (r, h2) ∧ Inv h2 := by
  obtain ⟨n, kn, kd, fg, hd, dm, dy, N⟩ := id I.1
  have w1 := N.1.1.1
  rcases arg_in u 3 with ⟨w, hw, _, rfl⟩ | hu
  · match w, hw with
    | 0, _ =>
      refine ⟨nI (wid1 n kn), h, h, ?_, ?_, I⟩
      · show (X4_widest h 6).bind _ = _
        rw [c_widest N]; rfl
      · show (X12_widest h).bind _ = _
        rw [m_widest N, wid_eq N.1.1]; rfl
    | 1, _ =>
      refine ⟨nI (pt n kn), h, h, ?_, ?_, I⟩
      · show (X4_parts h 6).bind _ = _
        rw [c_parts N.1.1 N.2.2.1.1]; rfl
      · show (X12_partsIn h 67).bind _ = _
        rw [m_partsIn N.1.1 N.2.2.2]; rfl
    | 2, _ =>
      obtain ⟨t, e1, P1, F1⟩ := c_bridges N
      have R1 : RowP (aI t 67) n kn kd fg hd dy := by rw [F1.row]; exact N.2.2.2
      have I1 : Inv t := I.n F1.n N.1 N.2.1 P1 R1
      obtain ⟨t2, e2, K2⟩ := m_bridges (h := t) ⟨N.1, N.2.1, P1, R1⟩
      refine ⟨nI (it2 (brs n kn) n 0), t, t2, ?_, ?_, K2.inv I1⟩
      · show (X4_bridges h 6).bind _ = _
        rw [e1]; rfl
      · show (X12_bridges t).bind _ = _
        rw [e2]; rfl
    | w + 3, h => exact absurd h (by omega)
  · have ne : ∀ j, j < 3 → ¬ u = nI j := fun j hj e => by rw [out_ne hu hj (by decide)] at e; exact e
    refine ⟨-1, h, h, ?_, ?_, I⟩
    · unfold X11_wide
      rw [if_neg (show ¬ u = 0 from ne 0 (by decide)), if_neg (show ¬ u = 1 from ne 1 (by decide)), if_neg (show ¬ u = 2 from ne 2 (by decide))]
    · unfold X12_wide
      rw [if_neg (show ¬ u = 0 from ne 0 (by decide)), if_neg (show ¬ u = 1 from ne 1 (by decide)), if_neg (show ¬ u = 2 from ne 2 (by decide))]
end FALL
