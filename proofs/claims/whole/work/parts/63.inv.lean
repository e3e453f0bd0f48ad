/-! the invariant of the world; what scratch is -/
def NowP (h : HS) (n : Nat) (kn kd fg : Nat → Nat) (hd dm dy : Nat) : Prop := WFp n kn kd fg hd dm dy ∧ dy ≤ 999 ∧ ParL h 5 n kn kd fg hd dm dy ∧ RowP (aI h 67) n kn kd fg hd dy
def ImgP (h : HS) : Prop := (fI h 0 3 = 0 ∧ fI h 66 4 = 0) ∨ (fI h 0 3 = 1 ∧ fI h 66 4 = 1 ∧ ∃ n kn kd fg hd dm dy, WFp n kn kd fg hd dm dy ∧ dy ≤ 999 ∧ ParL h 35 n kn kd fg hd dm dy ∧ RowP (aI h 69) n kn kd fg hd dy)
def ShP (h : HS) (k ho so le : Nat) (el : Nat → Int32) : Prop := (fI h (50 + 2 * k) 0 = nI ho ∧ aI h 76 k = nI ho ∧ ho ≤ 2) ∧ (ho = 1 → ∃ ki fi, ki < 8 ∧ fi < 10 ∧ fI h (50 + 2 * k) 1 = nI ki ∧ fI h (50 + 2 * k) 2 = nI fi ∧ aI h 77 k = nI ki ∧ aI h 78 k = nI fi) ∧ (fI h (50 + 2 * k) 3 = nI so ∧ aI h 79 k = nI so ∧ so < 3) ∧ (fI h (50 + 2 * k) 4 = nI le ∧ aI h 80 k = nI le ∧ le ≤ 100) ∧ (∀ i, i < 100 → aI h (50 + 2 * k + 1) i = el i ∧ aI h 81 (100 * k + i) = el i) ∧ (so = 0 → ∀ i, i < 100 → -128 ≤ (el i).toInt ∧ (el i).toInt ≤ 127)
def Inv (h : HS) : Prop := (∃ n kn kd fg hd dm dy, NowP h n kn kd fg hd dm dy) ∧ ImgP h ∧ (∀ k, k < 8 → ∃ ho so le el, ShP h k ho so le el) ∧ aI h 8 0 = 0
def scA (o : Nat) : Bool := [2, 22, 23, 33, 34, 68, 70, 71, 74, 75].contains o
def scF (o k : Nat) : Bool := o == 20 || o == 21 || (o == 66 && [5, 6, 7, 13, 20].contains k)
/-- h1 is h but for scratch -/
def Keep (h h1 : HS) : Prop := (∀ o k, scF o k = false → fI h1 o k = fI h o k) ∧ (∀ o, scA o = false → o ≠ 8 → aI h1 o = aI h o) ∧ aI h1 8 0 = aI h 8 0
theorem Keep.refl (h : HS) : Keep h h := ⟨fun _ _ _ => rfl, fun _ _ _ => rfl, rfl⟩
theorem Keep.trans {a b c : HS} (x : Keep a b) (y : Keep b c) : Keep a c := ⟨fun o k q => (y.1 o k q).trans (x.1 o k q), fun o q r => (y.2.1 o q r).trans (x.2.1 o q r), y.2.2.trans x.2.2⟩
theorem Keep.a {a h : HS} (x : Keep a h) {o : Nat} {f : Nat → Int32} (ho : scA o = true) : Keep a (sA h o f) := by
  refine x.trans ⟨fun _ _ _ => rfl, fun o1 q _ => aI_sA_ne (fun e => ?_), ?_⟩
  · rw [e, ho] at q; exact absurd q (by decide)
  · rw [aI_sA_ne]
    intro e; rw [← e] at ho; exact absurd ho (by decide)
theorem Keep.f {a h : HS} (x : Keep a h) {o k : Nat} {v : Int32} (ho : scF o k = true) : Keep a (sF h o k v) := by
  refine x.trans ⟨fun o1 k1 q => fI_sF_ne (fun e => ?_), fun o1 _ _ => rfl, rfl⟩
  rw [e.1, e.2, ho] at q; exact absurd q (by decide)
theorem Keep.l {a h : HS} (x : Keep a h) {o : Nat} {f : Nat → Int64} : Keep a (sL h o f) := x.trans ⟨fun _ _ _ => rfl, fun _ _ _ => rfl, rfl⟩
theorem Keep.best {a h : HS} (x : Keep a h) {f : Nat → Int32} (hf : f 0 = aI h 8 0) : Keep a (sA h 8 f) := by
  refine x.trans ⟨fun _ _ _ => rfl, fun o1 _ q => aI_sA_ne q, ?_⟩
  rw [aI_sA_eq]; exact hf
theorem Keep.lin {h h1 : HS} (x : Keep h h1) {b n : Nat} {kn : Nat → Nat} (hb : b = 6 ∨ b = 36) (L : LinL h b n kn) : LinL h1 b n kn := by
  rcases hb with rfl | rfl
  · refine ⟨(x.1 _ _ (by decide)).trans L.1, fun p hp => ?_⟩
    rw [x.2.1 _ (by decide) (by decide)]; exact L.2 p hp
  · refine ⟨(x.1 _ _ (by decide)).trans L.1, fun p hp => ?_⟩
    rw [x.2.1 _ (by decide) (by decide)]; exact L.2 p hp
theorem Keep.par {h h1 : HS} (x : Keep h h1) {b n : Nat} {kn kd fg : Nat → Nat} {hd dm dy : Nat} (hb : b = 5 ∨ b = 35) (P : ParL h b n kn kd fg hd dm dy) : ParL h1 b n kn kd fg hd dm dy := by
  rcases hb with rfl | rfl
  · refine ⟨x.lin (Or.inl rfl) P.1, fun p hp => ?_, fun p hp => ?_, (x.1 _ _ (by decide)).trans P.2.2.2.1, (x.1 _ _ (by decide)).trans P.2.2.2.2.1, (x.1 _ _ (by decide)).trans P.2.2.2.2.2⟩
    · rw [x.2.1 _ (by decide) (by decide)]; exact P.2.1 p hp
    · rw [x.2.1 _ (by decide) (by decide)]; exact P.2.2.1 p hp
  · refine ⟨x.lin (Or.inr rfl) P.1, fun p hp => ?_, fun p hp => ?_, (x.1 _ _ (by decide)).trans P.2.2.2.1, (x.1 _ _ (by decide)).trans P.2.2.2.2.1, (x.1 _ _ (by decide)).trans P.2.2.2.2.2⟩
    · rw [x.2.1 _ (by decide) (by decide)]; exact P.2.1 p hp
    · rw [x.2.1 _ (by decide) (by decide)]; exact P.2.2.1 p hp
theorem Keep.row {h h1 : HS} (x : Keep h h1) : aI h1 67 = aI h 67 := x.2.1 _ (by decide) (by decide)
theorem Keep.now {h h1 : HS} (x : Keep h h1) {n : Nat} {kn kd fg : Nat → Nat} {hd dm dy : Nat} (N : NowP h n kn kd fg hd dm dy) : NowP h1 n kn kd fg hd dm dy :=
  ⟨N.1, N.2.1, x.par (Or.inl rfl) N.2.2.1, by rw [x.row]; exact N.2.2.2⟩
theorem Keep.img {h h1 : HS} (x : Keep h h1) (I : ImgP h) : ImgP h1 := by
  rcases I with ⟨a, b⟩ | ⟨a, b, n, kn, kd, fg, hd, dm, dy, c, d, e, f⟩
  · exact Or.inl ⟨(x.1 _ _ (by decide)).trans a, (x.1 _ _ (by decide)).trans b⟩
  · exact Or.inr ⟨(x.1 _ _ (by decide)).trans a, (x.1 _ _ (by decide)).trans b, n, kn, kd, fg, hd, dm, dy, c, d, x.par (Or.inr rfl) e, by rw [x.2.1 _ (by decide) (by decide)]; exact f⟩
theorem sc_shelf : ∀ k, k < 8 → (∀ j, j < 5 → scF (50 + 2 * k) j = false) ∧ scA (50 + 2 * k + 1) = false ∧ 50 + 2 * k + 1 ≠ 8 := by decide
theorem ShP.congr {h h1 : HS} {k ho so le : Nat} {el : Nat → Int32} (S : ShP h k ho so le el) (f : ∀ j, j < 5 → fI h1 (50 + 2 * k) j = fI h (50 + 2 * k) j) (a : aI h1 (50 + 2 * k + 1) = aI h (50 + 2 * k + 1)) (m : ∀ o, 76 ≤ o → o ≤ 80 → aI h1 o k = aI h o k) (e : ∀ i, i < 100 → aI h1 81 (100 * k + i) = aI h 81 (100 * k + i)) : ShP h1 k ho so le el := by
  obtain ⟨⟨a1, a2, a3⟩, b, ⟨c1, c2, c3⟩, ⟨d1, d2, d3⟩, e1, e2⟩ := S
  refine ⟨⟨(f 0 (by decide)).trans a1, (m 76 (by decide) (by decide)).trans a2, a3⟩, fun q => ?_, ⟨(f 3 (by decide)).trans c1, (m 79 (by decide) (by decide)).trans c2, c3⟩, ⟨(f 4 (by decide)).trans d1, (m 80 (by decide) (by decide)).trans d2, d3⟩, fun i hi => ⟨?_, (e i hi).trans (e1 i hi).2⟩, e2⟩
  · obtain ⟨ki, fi, g1, g2, g3, g4, g5, g6⟩ := b q
    exact ⟨ki, fi, g1, g2, (f 1 (by decide)).trans g3, (f 2 (by decide)).trans g4, (m 77 (by decide) (by decide)).trans g5, (m 78 (by decide) (by decide)).trans g6⟩
  · rw [a]; exact (e1 i hi).1
theorem Keep.shelf {h h1 : HS} (x : Keep h h1) {k ho so le : Nat} {el : Nat → Int32} (hk : k < 8) (S : ShP h k ho so le el) : ShP h1 k ho so le el := by
  obtain ⟨s1, s2, s3⟩ := sc_shelf k hk
  refine S.congr (fun j hj => x.1 _ _ (s1 j hj)) (x.2.1 _ s2 s3) (fun o h1 h2 => ?_) (fun i _ => ?_)
  · rw [x.2.1 o]
    · have : ∀ o, o ≤ 80 → 76 ≤ o → scA o = false := by decide
      exact this o h2 h1
    · omega
  · rw [x.2.1 81 (by decide) (by decide)]
theorem Keep.inv {h h1 : HS} (x : Keep h h1) (I : Inv h) : Inv h1 := by
  obtain ⟨⟨n, kn, kd, fg, hd, dm, dy, N⟩, b, c, d⟩ := I
  refine ⟨⟨n, kn, kd, fg, hd, dm, dy, x.now N⟩, x.img b, fun k hk => ?_, x.2.2.trans d⟩
  obtain ⟨ho, so, le, el, S⟩ := c k hk
  exact ⟨ho, so, le, el, x.shelf hk S⟩
/-! shelves -/
theorem Lm1 : (-1 : Int32) < 0 := by decide
theorem Lm1' : (-nI 1 : Int32) < nI 0 := by decide
theorem c_shelf_in {h : HS} {k : Nat} (hk : k < 8) : X11_shelfOf h (nI k) = some (some (50 + 2 * k)) := by
  unfold X11_shelfOf
  simp (disch := omega) only [L0, L8, ltF, leF, ite_false, gdi_n, i_cl]
theorem c_shelf_out {h : HS} {v : Int32} (hv : outside v 8) : X11_shelfOf h v = some none := by
  unfold X11_shelfOf
  rcases hv with hv | ⟨j, h1, h2, rfl⟩
  · rw [if_pos hv]
  · simp (disch := omega) only [L0, L8, ltF, leT, ite_false, ite_true]
theorem m_shelf_in {k : Nat} (hk : k < 8) : X12_isShelf (nI k) = some (nI 1) := by
  unfold X12_isShelf
  rw [L0, L7, isIn_n (by omega) (by omega) (by omega), decide_eq_true (by omega)]; rfl
theorem m_shelf_out {v : Int32} (hv : outside v 8) : X12_isShelf v = some (nI 0) := by
  unfold X12_isShelf
  rcases hv with hv | ⟨j, h1, h2, rfl⟩
  · rw [L0, isIn_neg hv (by omega)]; rfl
  · rw [L0, L7, isIn_n (by omega) (by omega) (by omega), decide_eq_false (by omega)]; rfl
def rrf (ho : Nat) : Int32 := if ho = 0 then -11 else if ho = 2 then 0 else -12
def rtf (ho so : Nat) : Int32 := if ho = 0 then -11 else if ho = 2 then (if so = 0 then 0 else -12) else -12
def rof (ho : Nat) : Int32 := if ho = 0 then -11 else if ho = 2 then -12 else 0
section SHELF
variable {h : HS} {k ho so le : Nat} {el : Nat → Int32}
theorem c_isEmpty (S : ShP h k ho so le el) : X7_isEmpty h (50 + 2 * k) = some (nI (decide (ho = 0)).toNat) := by
  have := S.1.2.2
  unfold X7_isEmpty
  simp (disch := omega) only [S.1.1, L0, i_eq]
  by_cases q : ho = 0
  · rw [if_pos q, decide_eq_true q]; rfl
  · rw [if_neg q, decide_eq_false q]; rfl
theorem c_holdsRow (S : ShP h k ho so le el) : X7_holdsRow h (50 + 2 * k) = some (nI (decide (ho = 2)).toNat) := by
  have := S.1.2.2
  unfold X7_holdsRow
  simp (disch := omega) only [S.1.1, L2, i_eq]
  by_cases q : ho = 2
  · rw [if_pos q, decide_eq_true q]; rfl
  · rw [if_neg q, decide_eq_false q]; rfl
theorem c_rowRef (S : ShP h k ho so le el) : X11_rowRefusal h (some (50 + 2 * k)) = some (rrf ho) := by
  unfold X11_rowRefusal
  show (X7_isEmpty h (50 + 2 * k)).bind _ = _
  rw [c_isEmpty S, Option.bind_some, c_holdsRow S, Option.bind_some]
  obtain ⟨_, _, h3⟩ := S.1
  match ho, h3 with
  | 0, _ => rfl
  | 1, _ => rfl
  | 2, _ => rfl
  | j + 3, h3 => exact absurd h3 (by omega)
theorem c_oneRef (S : ShP h k ho so le el) : X11_oneRefusal h (some (50 + 2 * k)) = some (rof ho) := by
  unfold X11_oneRefusal
  show (X7_isEmpty h (50 + 2 * k)).bind _ = _
  rw [c_isEmpty S, Option.bind_some, c_holdsRow S, Option.bind_some]
  obtain ⟨_, _, h3⟩ := S.1
  match ho, h3 with
  | 0, _ => rfl
  | 1, _ => rfl
  | 2, _ => rfl
  | j + 3, h3 => exact absurd h3 (by omega)
theorem c_textRef (S : ShP h k ho so le el) : X11_textRefusal h (some (50 + 2 * k)) = some (rtf ho so) := by
  unfold X11_textRefusal
  show (X11_rowRefusal h (some (50 + 2 * k))).bind _ = _
  have e : X7_holdsBytes h (50 + 2 * k) = some (if ho = 2 then (if so = 0 then 1 else 0) else 0) := by
    have := S.1.2.2
    have := S.2.2.1.2.2
    unfold X7_holdsBytes
    simp (disch := omega) only [S.1.1, S.2.2.1.1, L2, L0, L1, i_eq]
    repeat' split
    all_goals rfl
  rw [c_rowRef S, Option.bind_some, e, Option.bind_some]
  obtain ⟨_, _, h3⟩ := S.1
  match ho, h3 with
  | 0, _ => rfl
  | 1, _ => rfl
  | 2, _ => by_cases q : so = 0
            · subst q; rfl
            · simp [rrf, rtf, q]
  | j + 3, h3 => exact absurd h3 (by omega)
theorem m_rowRef (hk : k < 8) (S : ShP h k ho so le el) {v : Int32} (hv : v < 0) : X12_wrongRow h (nI k) v = some (rrf ho) := by
  unfold X12_wrongRow
  rw [m_shelf_in hk]
  have h3 := S.1.2.2
  simp (disch := omega) only [Option.bind_some, L0, L2, gdi_n, i_cl, S.1.2.1, eqF, ite_false, i_eq]
  rw [← L0, if_pos hv]
  unfold rrf
  repeat' split
  all_goals rfl
theorem m_textRef (hk : k < 8) (S : ShP h k ho so le el) : X12_wrongRow h (nI k) 0 = some (rtf ho so) := by
  unfold X12_wrongRow
  rw [m_shelf_in hk]
  have h3 := S.1.2.2
  have := S.2.2.1.2.2
  simp (disch := omega) only [Option.bind_some, L0, L2, gdi_n, i_cl, S.1.2.1, S.2.2.1.2.1, eqF, ltF, ite_false, i_eq]
  unfold rtf
  repeat' split
  all_goals rfl
theorem m_oneRef (hk : k < 8) (S : ShP h k ho so le el) : X12_wrongKept h (nI k) = some (rof ho) := by
  unfold X12_wrongKept
  rw [m_shelf_in hk]
  have h3 := S.1.2.2
  simp (disch := omega) only [Option.bind_some, L0, L2, gdi_n, i_cl, S.1.2.1, eqF, ite_false, i_eq]
  unfold rof
  repeat' split
  all_goals rfl
end SHELF
theorem m_row_out {h : HS} {v u : Int32} (hv : outside v 8) : X12_wrongRow h v u = some (-1) := by
  unfold X12_wrongRow
  rw [m_shelf_out hv]; rfl
theorem m_one_out {h : HS} {v : Int32} (hv : outside v 8) : X12_wrongKept h v = some (-1) := by
  unfold X12_wrongKept
  rw [m_shelf_out hv]; rfl
theorem c_row_none {h : HS} : X11_rowRefusal h none = some (-1) := rfl
theorem c_one_none {h : HS} : X11_oneRefusal h none = some (-1) := rfl
theorem c_text_none {h : HS} : X11_textRefusal h none = some (-1) := rfl
