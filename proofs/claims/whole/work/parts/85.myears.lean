/-! years in the model -/
theorem m_drawn {t : HS} {x : Int32} (hx : (fI t 66 13 * 1103515245) + 12345 = x) : X12_drawn t 3 = some ((((x &&& 2147483647) / 65536) - ((x &&& 2147483647) / 65536) / 3 * 3), sF t 66 13 x) := by
  unfold X12_drawn
  rw [hx]
  simp only [nm, fI_sF_eq]
  unfold gdz
  rw [if_neg (by decide)]
section MYEARS
variable {h : HS} {n : Nat} {kn kd fg : Nat → Nat} {hd dm dy : Nat}
theorem m_draw_step (N : NowP h n kn kd fg hd dm dy) {a b fu : Nat} {v1 v2 v3 v4 v5 : Int32} {K : Int32 → Int32 → HS → Option (Int32 × HS)} {K2 : Int32 → Int32 → Int32 → HS → Option (Int32 × HS)} {s : Int32 × (Nat → Nat)} {t : HS} (ha : a < n) (hb : b < n) (hab : a < b) (hz : fI t 66 13 = s.1) (R : RowP (aI t 68) n s.2 kd fg hd dy) (hK : Keep h t) :
    ∃ t1, X12_years_B101 v1 v2 v3 K K2 (fu + 1) v4 v5 (nI a) (nI b) t = X12_years_B101 v1 v2 v3 K K2 fu v4 v5 (nI a) (nI (b + 1)) t1 ∧ fI t1 66 13 = (dw a b s).1 ∧ RowP (aI t1 68) n (dw a b s).2 kd fg hd dy ∧ Keep h t1 := by
  have w1 := N.1.1.1
  have R67 := (hK.now N).2.2.2
  have e131 : ∀ t, X12_years_B131 v1 v2 v3 K K2 (X12_years_B101 v1 v2 v3 K K2 fu) v4 v5 (nI a) (nI b) t = X12_years_B101 v1 v2 v3 K K2 fu v4 v5 (nI a) (nI (b + 1)) t := by
    intro t
    unfold X12_years_B131
    simp only [nm, L1, nI_add]
  have ed : X12_drawn t 3 = some ((((zn s.1 &&& 2147483647) / 65536) - ((zn s.1 &&& 2147483647) / 65536) / 3 * 3), sF t 66 13 (zn s.1)) := m_drawn (by rw [hz]; exact zn_eq s.1)
  have e1 : (dw a b s).1 = zn s.1 := rfl
  have e2 : (dw a b s).2 = if wnt (zn s.1) = true then flip s.2 a b else s.2 := rfl
  rw [e1, e2, X12_years_B101, gdi0, cl0, R67.1, if_neg (nI_ge (by omega) (by omega)), ed, Option.bind_some]
  generalize zn s.1 = z
  simp only
  rw [wnt_if, e131]
  have k1 : Keep h (sF t 66 13 z) := hK.f (by decide)
  cases wnt z
  · rw [if_neg (by decide), if_neg (by decide)]
    exact ⟨_, rfl, fI_sF_eq, R, k1⟩
  · rw [if_pos rfl, if_pos rfl]
    obtain ⟨g, g1, g2⟩ := m_changesLine (h := sF t 66 13 z) (r := 68) R (show a < 9 by omega) (show b < 9 by omega) (show a ≠ b by omega)
    rw [g1, Option.bind_some, e131]
    exact ⟨_, rfl, by rw [fI_sA, fI_sF_eq], by rw [aI_sA_eq]; exact g2, k1.a (by decide)⟩
theorem m_draw (N : NowP h n kn kd fg hd dm dy) {v1 v2 v3 v4 v5 : Int32} {K : Int32 → Int32 → HS → Option (Int32 × HS)} {z : Int32} {kn1 : Nat → Nat} {t : HS} (hz : fI t 66 13 = z) (R : RowP (aI t 68) n kn1 kd fg hd dy) (hK : Keep h t) :
    ∃ t1, X12_years_B84 v1 v2 v3 K FU v4 v5 0 t = X12_years_B84 v1 v2 v3 K 1 v4 v5 (nI n) t1 ∧ fI t1 66 13 = (it2 dw n (z, kn1)).1 ∧ RowP (aI t1 68) n (it2 dw n (z, kn1)).2 kd fg hd dy ∧ Keep h t1 := by
  have w1 := N.1.1.1
  obtain ⟨t1, e1, I1⟩ := loopR (fun fu k (y : HS) => X12_years_B84 v1 v2 v3 K fu v4 v5 (nI k) y) (fun y => X12_years_B84 v1 v2 v3 K 1 v4 v5 (nI n) y) n (fun a s => itf (fun b s => dw a b s) (a + 1) (n - (a + 1)) s) (fun _ s y => fI y 66 13 = s.1 ∧ RowP (aI y 68) n s.2 kd fg hd dy ∧ Keep h y)
    (fun fu s y J => by
      have R67 := (J.2.2.now N).2.2.2
      show X12_years_B84 v1 v2 v3 K (fu + 1) v4 v5 (nI n) y = X12_years_B84 v1 v2 v3 K 1 v4 v5 (nI n) y
      rw [X12_years_B84, X12_years_B84, gdi0, gdi0, cl0, R67.1, if_pos (nI_le (by omega) (by omega)), if_pos (nI_le (by omega) (by omega))])
    (fun fu a s y ha J => by
      have R67 := (J.2.2.now N).2.2.2
      obtain ⟨t2, e2, J2⟩ := loopR (fun fu2 b (y : HS) => X12_years_B101 v1 v2 v3 K (X12_years_B84 v1 v2 v3 K fu) fu2 v4 v5 (nI a) (nI b) y) (fun y => X12_years_B84 v1 v2 v3 K fu v4 v5 (nI (a + 1)) y) n (fun b s => dw a b s) (fun b s y => a < b ∧ fI y 66 13 = s.1 ∧ RowP (aI y 68) n s.2 kd fg hd dy ∧ Keep h y)
        (fun fu2 s y J => by
          have R67 := (J.2.2.2.now N).2.2.2
          show X12_years_B101 v1 v2 v3 K (X12_years_B84 v1 v2 v3 K fu) (fu2 + 1) v4 v5 (nI a) (nI n) y = _
          rw [X12_years_B101, gdi0, cl0, R67.1, if_pos (nI_le (by omega) (by omega))]
          simp only [nm, L1, nI_add])
        (fun fu2 b s y hb J => by
          obtain ⟨j1, j2, j3, j4⟩ := J
          obtain ⟨t3, g1, g2, g3, g4⟩ := m_draw_step N (fu := fu2) (v1 := v1) (v2 := v2) (v3 := v3) (v4 := v4) (v5 := v5) (K := K) (K2 := X12_years_B84 v1 v2 v3 K fu) ha hb j1 j2 j3 j4
          exact ⟨t3, g1, by omega, g2, g3, g4⟩)
        (n - (a + 1)) FU (a + 1) s y (by omega) (FU_lt (by omega)) ⟨by omega, J.1, J.2.1, J.2.2⟩
      refine ⟨t2, ?_, J2.2⟩
      show X12_years_B84 v1 v2 v3 K (fu + 1) v4 v5 (nI a) y = _
      rw [X12_years_B84, gdi0, cl0, R67.1, if_neg (nI_ge (by omega) (by omega))]
      simp only [nm, L1, nI_add]
      exact e2)
    n FU 0 (z, kn1) t (by omega) (FU_lt (by omega)) ⟨hz, R, hK⟩
  exact ⟨t1, e1, I1⟩
theorem m_clear (N : NowP h n kn kd fg hd dm dy) {v1 v2 v3 v4 v5 : Int32} {K : Int32 → Int32 → HS → Option (Int32 × HS)} {t : HS} (R : RowP (aI t 68) n kn kd fg hd dy) (hK : Keep h t) :
    ∃ g, X12_years_B52 v1 v2 v3 K FU v4 v5 0 t = X12_years_B84 v1 v2 v3 K FU v4 v5 0 (sA t 68 g) ∧ RowP g n (fun _ => 0) kd fg hd dy := by
  have w1 := N.1.1.1
  obtain ⟨g, e1, I1⟩ := loopR (fun fu k (f : Nat → Int32) => X12_years_B52 v1 v2 v3 K fu v4 v5 (nI k) (sA t 68 f)) (fun f => X12_years_B84 v1 v2 v3 K FU v4 v5 0 (sA t 68 f)) n (fun _ (s : Nat) => s) (fun k _ f => RowP f n (fun p => if p < k then 0 else kn p) kd fg hd dy)
    (fun fu s f J => by
      have R67 := ((hK.a (o := 68) (f := f) (by decide)).now N).2.2.2
      show X12_years_B52 v1 v2 v3 K (fu + 1) v4 v5 (nI n) (sA t 68 f) = _
      rw [X12_years_B52, gdi0, cl0, R67.1, if_pos (nI_le (by omega) (by omega))])
    (fun fu k s f hk J => by
      have R67 := ((hK.a (o := 68) (f := f) (by decide)).now N).2.2.2
      refine ⟨upd f (3 + 3 * k + 2) (nI 0), ?_, ?_⟩
      · show X12_years_B52 v1 v2 v3 K (fu + 1) v4 v5 (nI k) (sA t 68 f) = _
        rw [X12_years_B52, gdi0, cl0, R67.1, if_neg (nI_ge (by omega) (by omega)), L2, m_of, Option.bind_some, gdi_n (show 3 + 3 * k + 2 < 30 by omega) (by omega), i_cl (show 3 + 3 * k + 2 < 2147483648 by omega)]
        simp only [nm, aI_sA_eq, sA_sA, L1, nI_add]
        rfl
      · have := RowP_kn J (p := k) 0
        rw [show updN (fun p => if p < k then 0 else kn p) k 0 = fun p => if p < k + 1 then 0 else kn p from by
          funext p
          unfold updN
          by_cases e : p = k
          · rw [if_pos e, if_pos (by omega)]
          · rw [if_neg e]
            show (if p < k then 0 else kn p) = _
            by_cases e2 : p < k
            · rw [if_pos e2, if_pos (by omega)]
            · rw [if_neg e2, if_neg (by omega)]] at this
        exact this)
    n FU 0 0 (aI t 68) (by omega) (FU_lt (by omega)) (by simpa using R)
  refine ⟨g, ?_, ?_⟩
  · have e0 : sA t 68 (aI t 68) = t := sA_self rfl
    rw [e0] at e1
    exact e1
  · rw [show (fun p => if p < n then 0 else kn p) = fun _ => 0 from by
      funext p
      by_cases e : p < n
      · rw [if_pos e]
      · rw [if_neg e]; exact N.1.1.2.2.1 p (by omega)] at I1
    exact I1
end MYEARS
