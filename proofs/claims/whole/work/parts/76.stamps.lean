/-! stamps -/
theorem bc_pos {x j : Nat} (hj : j < 9) (h : x.testBit j = true) : 1 ≤ bc x := by
  have h0 : (x.testBit j).toNat = 1 := by rw [h]; rfl
  unfold bc
  match j, hj with
  | 0, _ => omega
  | 1, _ => omega
  | 2, _ => omega
  | 3, _ => omega
  | 4, _ => omega
  | 5, _ => omega
  | 6, _ => omega
  | 7, _ => omega
  | 8, _ => omega
  | p + 9, hp => exact absurd hp (by omega)
theorem bc_some {x : Nat} (h : 1 ≤ bc x) : ∃ j, j < 9 ∧ x.testBit j = true := by
  refine Classical.byContradiction fun q => ?_
  have z : ∀ j, j < 9 → (x.testBit j).toNat = 0 := fun j hj => by
    rcases Bool.eq_false_or_eq_true (x.testBit j) with e | e
    · exact absurd ⟨j, hj, e⟩ q
    · rw [e]; rfl
  have := z 0 (by omega); have := z 1 (by omega); have := z 2 (by omega); have := z 3 (by omega); have := z 4 (by omega)
  have := z 5 (by omega); have := z 6 (by omega); have := z 7 (by omega); have := z 8 (by omega)
  unfold bc at h
  omega
theorem nh_ge {n : Nat} {kn kd fg : Nat → Nat} {d x j : Nat} {sl : Nat → Bool} (h : x.testBit j = true) : (nh n kn kd fg d x sl).testBit j = true := by
  refine itf_inv (fun _ s => s.testBit j = true) n (fun k s _ hs => ?_) n 0 x (by omega) h
  unfold nstep
  split
  · rw [Nat.testBit_or, hs]; rfl
  · exact hs
theorem ndays_ge {n : Nat} {kn kd fg : Nat → Nat} {d k m x j : Nat} {sl : Nat → Bool} (h : x.testBit j = true) : (ndays n kn kd fg d sl k m x).testBit j = true :=
  itf_inv (fun _ s => s.testBit j = true) (k + m) (fun _ _ _ hs => nh_ge hs) m k x rfl h
def hea (n : Nat) (kd : Nat → Nat) : Nat := itf (fun p s => if kd p = 7 then s else s ||| 2 ^ p) 0 n 0
theorem hea_bit {n : Nat} {kd : Nat → Nat} (j : Nat) : (hea n kd).testBit j = (decide (j < n) && !(kd j == 7)) := by
  have key : ∀ m, (itf (fun p s => if kd p = 7 then s else s ||| 2 ^ p) 0 m 0).testBit j = (decide (j < m) && !(kd j == 7)) := by
    intro m
    induction m with
    | zero => simp [itf]
    | succ m ih =>
      rw [itf_last, Nat.zero_add]
      by_cases z : kd m = 7
      · rw [if_pos z, ih]
        by_cases e : j = m
        · subst e; rw [show (kd j == 7) = true from by simpa using z]; simp
        · rw [show decide (j < m + 1) = decide (j < m) from by simp; omega]
      · rw [if_neg z, Nat.testBit_or, ih, tb_pow]
        by_cases e : j = m
        · subst e; rw [show (kd j == 7) = false from by simpa using z]; simp
        · rw [show decide (j < m + 1) = decide (j < m) from by simp; omega, show decide (m = j) = false from by simp; omega, Bool.or_false]
  exact key n
def stp (n : Nat) (kn kd fg : Nat → Nat) (hd dm dy k M : Nat) (set : Nat) (s : Nat × Nat) : Nat × Nat := if bc set = k ∧ set &&& dm = 0 then (if bc (ndays n kn kd fg dy (fun q => (0 : Nat).testBit q) 1 M (hd ||| set)) ≤ s.2 then s else (set, bc (ndays n kn kd fg dy (fun q => (0 : Nat).testBit q) 1 M (hd ||| set)))) else s
section STAMPS
variable {h : HS} {n : Nat} {kn kd fg : Nat → Nat} {hd dm dy : Nat}
theorem hea_dm (w : WFp n kn kd fg hd dm dy) {set : Nat} (hs : set < 2 ^ n) : andn set (hea n kd) = set &&& dm := by
  have w1 := w.1.1
  have h9 := pow_le9 w1
  refine ext_bits fun j => ?_
  rw [andn_bit (by omega), hea_bit, Nat.testBit_and]
  by_cases hj : j < n
  · rw [decide_eq_true hj, w.2.2.2.2.2.1 j (by omega)]; simp
  · rw [bit_lt hs (by omega)]; rfl
theorem stp_lt {k M set : Nat} {s : Nat × Nat} (hs : set < 512) (h : s.1 < 512 ∧ s.2 < 100) : (stp n kn kd fg hd dm dy k M set s).1 < 512 ∧ (stp n kn kd fg hd dm dy k M set s).2 < 100 := by
  unfold stp
  split
  · split
    · exact h
    · exact ⟨hs, by have := bc_le (ndays n kn kd fg dy (fun q => (0 : Nat).testBit q) 1 M (hd ||| set)); show bc _ < 100; omega⟩
  · exact h
theorem c_stamps (N : NowP h n kn kd fg hd dm dy) {k M w : Nat} (hk : k < 100) (hM : M ≤ 30) (hw : w < 2) : X11_stamps_B40 h (nI k) (nI M) (nI w) FU 0 0 1 = some (if w = 0 then nI (itf (stp n kn kd fg hd dm dy k M) 1 (2 ^ n - 1) (0, 0)).1 else nI (itf (stp n kn kd fg hd dm dy k M) 1 (2 ^ n - 1) (0, 0)).2) := by
  have w1 := N.1.1.1
  have h9 := pow_le9 w1
  have hdy := N.2.1
  have hpos := Nat.two_pow_pos n
  have hdm := N.1.2.2.2.2.1
  refine (loopF (fun fu set (s : Nat × Nat) => X11_stamps_B40 h (nI k) (nI M) (nI w) fu (nI s.1) (nI s.2) (nI set)) (fun s => some (if w = 0 then nI s.1 else nI s.2)) (2 ^ n) (stp n kn kd fg hd dm dy k M) (fun _ s => s.1 < 512 ∧ s.2 < 100) (fun fu s _ => ?_) (fun fu set s hset hI => ⟨?_, stp_lt (by omega) hI⟩) (2 ^ n - 1) FU 1 (0, 0) (by omega) (FU_lt (by omega)) ⟨by decide, by decide⟩).1
  · show X11_stamps_B40 h (nI k) (nI M) (nI w) (fu + 1) (nI s.1) (nI s.2) (nI (2 ^ n)) = _
    rw [X11_stamps_B40, c_people N.2.2.1, Option.bind_some, i_pow (by omega), if_pos (nI_le (by omega) (by omega))]
    match w, hw with
    | 0, _ => rfl
    | 1, _ => rfl
    | w + 2, hw => exact absurd hw (by omega)
  · show X11_stamps_B40 h (nI k) (nI M) (nI w) (fu + 1) (nI s.1) (nI s.2) (nI set) = X11_stamps_B40 h (nI k) (nI M) (nI w) fu (nI (stp n kn kd fg hd dm dy k M set s).1) (nI (stp n kn kd fg hd dm dy k M set s).2) (nI (set + 1))
    have e115 : ∀ x y, X11_stamps_B115 h (nI k) (nI M) (nI w) (X11_stamps_B40 h (nI k) (nI M) (nI w) fu) x y (nI set) = X11_stamps_B40 h (nI k) (nI M) (nI w) fu x y (nI (set + 1)) := by
      intro x y
      simp only [X11_stamps_B115, nm, L1, nI_add]
    have hor : hd ||| set < 2 ^ n := or_lt N.1.2.2.2.1 hset
    have hnd : ndays n kn kd fg dy (fun q => (0 : Nat).testBit q) 1 M (hd ||| set) < 2 ^ n := ndays_lt hor
    have hb1 := bc_le set
    have hb2 := bc_le (ndays n kn kd fg dy (fun q => (0 : Nat).testBit q) 1 M (hd ||| set))
    have hand : set &&& dm < 2147483648 := Nat.lt_of_le_of_lt Nat.and_le_left (by omega)
    rw [X11_stamps_B40, c_people N.2.2.1, Option.bind_some, i_pow (by omega), if_neg (nI_ge (by omega) (by omega)), bitCount_n (by omega), Option.bind_some, e115]
    unfold stp
    by_cases z1 : bc set = k
    · rw [if_pos (by rw [z1]), N.2.2.1.2.2.2.2.1, i_and]
      by_cases z2 : set &&& dm = 0
      · rw [if_pos (show nI (set &&& dm) = 0 by rw [z2]; rfl), if_pos (show bc set = k ∧ set &&& dm = 0 from ⟨z1, z2⟩), N.2.2.1.2.2.2.1, i_or, L0, c_behind (Or.inl rfl) N.1 N.2.2.1 hor (show M < 900 by omega) (show dy < 100000 by omega), Option.bind_some, bitCount_n (by omega), Option.bind_some, e115]
        by_cases z3 : bc (ndays n kn kd fg dy (fun q => (0 : Nat).testBit q) 1 M (hd ||| set)) ≤ s.2
        · rw [if_pos (nI_le z3 (by omega)), if_pos z3]
        · rw [if_neg (nI_ge (by omega) (by omega)), if_neg z3]
      · rw [if_neg (show ¬ nI (set &&& dm) = 0 from nI_ne0 (by omega) hand), if_neg (show ¬ (bc set = k ∧ set &&& dm = 0) from fun y => z2 y.2)]
    · rw [if_neg (show ¬ nI (bc set) = nI k by rw [nI_eq (by omega) (by omega)]; exact z1), if_neg (show ¬ (bc set = k ∧ set &&& dm = 0) from fun y => z1 y.1)]
theorem m_hearing (N : NowP h n kn kd fg hd dm dy) : X12_hearing h = some (nI (hea n kd)) := by
  have w1 := N.1.1.1
  unfold X12_hearing
  refine (loopF (fun fu k s => X12_hearing_B4 h fu (nI s) (nI k)) (fun s => some (nI s)) n (fun p s => if kd p = 7 then s else s ||| 2 ^ p) (fun _ _ => True) (fun fu s _ => ?_) (fun fu k s hk _ => ⟨?_, trivial⟩) n FU 0 0 (by omega) (FU_lt (by omega)) trivial).1
  · show X12_hearing_B4 h (fu + 1) (nI s) (nI n) = _
    rw [X12_hearing_B4, gdi0, cl0, N.2.2.2.1, if_pos (nI_le (by omega) (by omega))]
  · show X12_hearing_B4 h (fu + 1) (nI s) (nI k) = X12_hearing_B4 h fu (nI (if kd k = 7 then s else s ||| 2 ^ k)) (nI (k + 1))
    rw [X12_hearing_B4, gdi0, cl0, N.2.2.2.1, if_neg (nI_ge (by omega) (by omega)), m_isDeaf N.1 N.2.2.2 (by omega), Option.bind_some]
    by_cases z : kd k = 7
    · rw [show (kd k == 7) = true from by simpa using z, if_neg (show ¬ nI true.toNat = 0 by decide), if_pos z]
      simp only [X12_hearing_B33, nm, L0, L1, nI_add, i_or, Nat.or_zero]
    · rw [show (kd k == 7) = false from by simpa using z, if_pos (show nI false.toNat = 0 from rfl), if_neg z]
      simp (disch := omega) only [X12_hearing_B33, nm, L1, i_one, nI_add, i_or]
/-- the model's two numbers beside the class's -/
def stR (s : Nat × Nat) (x y : Int32) : Prop := (s.1 = 0 ∧ s.2 = 0 ∧ x = nI 0 ∧ y = -1) ∨ (0 < s.2 ∧ s.2 < 100 ∧ x = nI s.1 ∧ y = nI s.2)
theorem m_stamp_step (N : NowP h n kn kd fg hd dm dy) {k M set fu : Nat} {w : Int32} (hk1 : 1 ≤ k) (hk : k < 100) (hM : M ≤ 30) (hset : set < 2 ^ n) {s : Nat × Nat} {x y : Int32} {g : HS} (hR : stR s x y) (hK : Keep h g) :
    ∃ x1 y1 g1, X12_stamps_B39 (nI k) (nI M) w (fu + 1) x y (nI set) g = X12_stamps_B39 (nI k) (nI M) w fu x1 y1 (nI (set + 1)) g1 ∧ stR (stp n kn kd fg hd dm dy k M set s) x1 y1 ∧ Keep h g1 := by
  have w1 := N.1.1.1
  have h9 := pow_le9 w1
  have hdy := N.2.1
  have Ng := hK.now N
  have e138 : ∀ x y g, X12_stamps_B138 (nI k) (nI M) w (X12_stamps_B39 (nI k) (nI M) w fu) x y (nI set) g = X12_stamps_B39 (nI k) (nI M) w fu x y (nI (set + 1)) g := by
    intro x y g
    simp only [X12_stamps_B138, nm, L1, nI_add]
  have hor : hd ||| set < 2 ^ n := or_lt N.1.2.2.2.1 hset
  have hnd : ndays n kn kd fg dy (fun q => (0 : Nat).testBit q) 1 M (hd ||| set) < 2 ^ n := ndays_lt hor
  have hb1 := bc_le set
  have hb2 := bc_le (ndays n kn kd fg dy (fun q => (0 : Nat).testBit q) 1 M (hd ||| set))
  have hand : set &&& dm < 2147483648 := Nat.lt_of_le_of_lt Nat.and_le_left (by omega)
  rw [X12_stamps_B39, gdi0, cl0, Ng.2.2.2.1, i_pow (by omega), if_neg (nI_ge (by omega) (by omega)), bits_n (by omega), Option.bind_some, m_hearing Ng, Option.bind_some]
  rw [show nI set &&& (nI (hea n kd) ^^^ -1) = nI (set &&& dm) from by rw [i_andn, hea_dm N.1 hset]]
  unfold stp
  by_cases z1 : bc set = k
  · rw [if_pos (show nI (bc set) = nI k by rw [z1])]
    by_cases z2 : set &&& dm = 0
    · rw [if_pos (show nI (set &&& dm) = 0 by rw [z2]; rfl), if_pos (show bc set = k ∧ set &&& dm = 0 from ⟨z1, z2⟩)]
      obtain ⟨f, e1, hf⟩ := m_copies (h := g) (show (67 : Nat) ≠ 68 by decide)
      have R1 := RowP_congr Ng.2.2.2 hf
      have R2 := RowP_hd R1 (hd ||| set)
      have ed := m_daysOn (h := sA (sA g 68 f) 68 (upd f 2 (nI (hd ||| set)))) (r := 68) (WFp_hd N.1 hor) (by rw [aI_sA_eq]; exact R2) (show dy < 100000 by omega) (show M < 990 by omega)
      simp only [aI_sA_eq, sA_sA] at ed
      have R3 := RowP_hd (RowP_dy R2 (dy + M)) (ndays n kn kd fg dy (fun q => (0 : Nat).testBit q) 1 M (hd ||| set))
      obtain ⟨j, hj, hjb⟩ := bc_some (x := set) (by omega)
      have hpos : 1 ≤ bc (ndays n kn kd fg dy (fun q => (0 : Nat).testBit q) 1 M (hd ||| set)) := bc_pos hj (ndays_ge (by rw [Nat.testBit_or, hjb, Bool.or_true]))
      have kf : Keep h (sA g 68 (upd (upd (upd f 2 (nI (hd ||| set))) 1 (nI (dy + M))) 2 (nI (ndays n kn kd fg dy (fun q => (0 : Nat).testBit q) 1 M (hd ||| set))))) := hK.a (by decide)
      rw [e1, Option.bind_some, gdi2, gdi2, cl2]
      simp only [nm, aI_sA_eq, sA_sA]
      rw [R1.2.2.1, i_or, ed, Option.bind_some, gdi2]
      simp only [aI_sA_eq]
      rw [R3.2.2.1, bits_n (by omega), Option.bind_some]
      by_cases z3 : bc (ndays n kn kd fg dy (fun q => (0 : Nat).testBit q) 1 M (hd ||| set)) ≤ s.2
      · rw [if_pos z3]
        rcases hR with ⟨r1, r2, r3, r4⟩ | ⟨r1, r2, r3, r4⟩
        · omega
        · rw [r4, if_neg (nI_nlt z3 (by omega)), e138, r3]
          exact ⟨_, _, _, rfl, Or.inr ⟨r1, r2, rfl, rfl⟩, kf⟩
      · rw [if_neg z3]
        have hy : y < nI (bc (ndays n kn kd fg dy (fun q => (0 : Nat).testBit q) 1 M (hd ||| set))) := by
          rcases hR with ⟨r1, r2, r3, r4⟩ | ⟨r1, r2, r3, r4⟩
          · rw [r4]; exact neg_lt (by decide) (by omega)
          · rw [r4]; exact nI_lt (by omega) (by omega)
        rw [if_pos hy, gdi2, Option.bind_some, e138]
        exact ⟨_, _, _, rfl, Or.inr ⟨hpos, by show bc _ < 100; omega, rfl, rfl⟩, kf⟩
    · rw [if_neg (show ¬ nI (set &&& dm) = 0 from nI_ne0 (by omega) hand), if_neg (show ¬ (bc set = k ∧ set &&& dm = 0) from fun y => z2 y.2), e138]
      exact ⟨_, _, _, rfl, hR, hK⟩
  · rw [if_neg (show ¬ nI (bc set) = nI k by rw [nI_eq (by omega) (by omega)]; exact z1), if_neg (show ¬ (bc set = k ∧ set &&& dm = 0) from fun y => z1 y.1), e138]
    exact ⟨_, _, _, rfl, hR, hK⟩
theorem m_stamps (N : NowP h n kn kd fg hd dm dy) {k M w : Nat} (hk1 : 1 ≤ k) (hk : k < 100) (hM : M ≤ 30) (hw : w < 2) : ∃ g1, X12_stamps_B39 (nI k) (nI M) (nI w) FU 0 (-1) 0 h = some (if w = 0 then nI (itf (stp n kn kd fg hd dm dy k M) 1 (2 ^ n - 1) (0, 0)).1 else nI (itf (stp n kn kd fg hd dm dy k M) 1 (2 ^ n - 1) (0, 0)).2, g1) ∧ Keep h g1 := by
  have w1 := N.1.1.1
  have h9 := pow_le9 w1
  have hpos := Nat.two_pow_pos n
  obtain ⟨⟨x, y, g⟩, e, hR, hK⟩ := loopR (fun fu set (z : Int32 × Int32 × HS) => X12_stamps_B39 (nI k) (nI M) (nI w) fu z.1 z.2.1 (nI set) z.2.2) (fun z => X12_stamps_B39 (nI k) (nI M) (nI w) 1 z.1 z.2.1 (nI (2 ^ n)) z.2.2) (2 ^ n) (stp n kn kd fg hd dm dy k M) (fun _ s z => stR s z.1 z.2.1 ∧ Keep h z.2.2)
    (fun fu s z J => by
      have Ng := J.2.now N
      show X12_stamps_B39 (nI k) (nI M) (nI w) (fu + 1) z.1 z.2.1 (nI (2 ^ n)) z.2.2 = X12_stamps_B39 (nI k) (nI M) (nI w) 1 z.1 z.2.1 (nI (2 ^ n)) z.2.2
      rw [X12_stamps_B39, X12_stamps_B39, gdi0, gdi0, cl0, Ng.2.2.2.1, i_pow (by omega), if_pos (nI_le (by omega) (by omega)), if_pos (nI_le (by omega) (by omega))])
    (fun fu set s z hset J => by
      obtain ⟨x1, y1, g1, a1, a2, a3⟩ := m_stamp_step N (fu := fu) (w := nI w) hk1 hk hM hset J.1 J.2
      exact ⟨(x1, y1, g1), a1, a2, a3⟩)
    (2 ^ n) FU 0 (0, 0) (nI 0, -1, h) (by omega) (FU_lt (by omega)) ⟨Or.inl ⟨rfl, rfl, rfl, rfl⟩, Keep.refl h⟩
  have hK : Keep h g := hK
  have Ng := hK.now N
  have es : itf (stp n kn kd fg hd dm dy k M) 0 (2 ^ n) (0, 0) = itf (stp n kn kd fg hd dm dy k M) 1 (2 ^ n - 1) (0, 0) := by
    obtain ⟨m, hm⟩ : ∃ m, 2 ^ n = m + 1 := ⟨2 ^ n - 1, by omega⟩
    rw [hm, itf, Nat.add_sub_cancel]
    congr 1
    unfold stp
    rw [if_neg]
    intro z
    have : bc 0 = 0 := by decide
    omega
  rw [es] at hR
  refine ⟨g, ?_, hK⟩
  refine Eq.trans e ?_
  show X12_stamps_B39 (nI k) (nI M) (nI w) 1 x y (nI (2 ^ n)) g = _
  rw [X12_stamps_B39, gdi0, cl0, Ng.2.2.2.1, i_pow (by omega), if_pos (nI_le (by omega) (by omega))]
  have hR : stR (itf (stp n kn kd fg hd dm dy k M) 1 (2 ^ n - 1) (0, 0)) x y := hR
  have eM : ∀ {α : Type} (x y : α), (if nI w = 0 then x else y) = if w = 0 then x else y := by
    intro α x y
    by_cases z : w = 0
    · rw [if_pos z, if_pos (by rw [z]; rfl)]
    · rw [if_neg z, if_neg (nI_ne0 (by omega) (by omega))]
  rw [eM]
  rcases hR with ⟨r1, r2, r3, r4⟩ | ⟨r1, r2, r3, r4⟩
  · rw [r1, r2, r4, if_neg (by decide), ite_self]; rfl
  · rw [r3, r4, if_pos (nI_pos' (by omega))]
    by_cases z : w = 0
    · rw [if_pos z, if_pos z]
    · rw [if_neg z, if_neg z]
theorem S_stamps (I : Inv h) (a b c : Int32) : ∃ r h2, X11_stamps h a b c = some r ∧ X12_stamps h a b c = some (r, h2) ∧ Inv h2 := by
  obtain ⟨n, kn, kd, fg, hd, dm, dy, N⟩ := id I.1
  have w1 := N.1.1.1
  by_cases a1 : a < 1
  · refine ⟨-1, h, ?_, ?_, I⟩
    · unfold X11_stamps; rw [if_pos a1]
    · unfold X12_stamps X12_isIn; rw [if_pos a1]; rfl
  by_cases a4 : (4 : Int32) < a
  · refine ⟨-1, h, ?_, ?_, I⟩
    · unfold X11_stamps; rw [if_neg a1, if_pos a4]
    · unfold X12_stamps X12_isIn; rw [if_neg a1, if_pos a4]; rfl
  have ea : X12_isIn a 1 4 = some (nI 1) := by
    unfold X12_isIn; rw [if_neg a1, if_neg a4]; rfl
  by_cases b0 : b < 0
  · refine ⟨-1, h, ?_, ?_, I⟩
    · unfold X11_stamps; rw [if_neg a1, if_neg a4, if_pos b0]
    · unfold X12_stamps
      rw [ea, Option.bind_some, if_neg (show ¬ nI 1 = 0 by decide), show X12_isIn b 0 30 = some (nI 0) from by unfold X12_isIn; rw [if_pos b0]; rfl]; rfl
  by_cases b30 : (30 : Int32) < b
  · refine ⟨-1, h, ?_, ?_, I⟩
    · unfold X11_stamps; rw [if_neg a1, if_neg a4, if_neg b0, if_pos b30]
    · unfold X12_stamps
      rw [ea, Option.bind_some, if_neg (show ¬ nI 1 = 0 by decide), show X12_isIn b 0 30 = some (nI 0) from by unfold X12_isIn; rw [if_neg b0, if_pos b30]; rfl]; rfl
  have eb : X12_isIn b 0 30 = some (nI 1) := by
    unfold X12_isIn; rw [if_neg b0, if_neg b30]; rfl
  obtain ⟨k, hk, rfl⟩ : ∃ k, k ≤ 4 ∧ a = nI k := nI_of2 (M := 4) (n := 4) (by decide) (fun z => a1 (Int32.lt_trans z (by decide))) (Int32.not_lt.mp a4)
  obtain ⟨M, hM, rfl⟩ : ∃ M, M ≤ 30 ∧ b = nI M := nI_of2 (M := 30) (n := 30) (by decide) b0 (Int32.not_lt.mp b30)
  have hk1 : 1 ≤ k := Classical.byContradiction fun z => a1 (nI_lt (b := 1) (by omega) (by decide))
  rcases arg_in c 2 with ⟨w, hw, _, rfl⟩ | hc
  · obtain ⟨g1, e1, k1⟩ := m_stamps N hk1 (show k < 100 by omega) hM hw
    refine ⟨?_, g1, ?_, ?_, k1.inv I⟩
    rotate_left 2
    · unfold X12_stamps
      rw [ea, Option.bind_some, if_neg (show ¬ nI 1 = 0 by decide), eb, Option.bind_some, if_neg (show ¬ nI 1 = 0 by decide), show X12_isIn (nI w) 0 1 = some (nI 1) from isIn_in hw (by decide), Option.bind_some, if_neg (show ¬ nI 1 = 0 by decide)]
      exact e1
    · unfold X11_stamps
      rw [if_neg a1, if_neg a4, if_neg b0, if_neg b30, if_neg (nI_pos (by omega)), if_pos (show nI w ≤ 1 from nI_le (b := 1) (by omega) (by decide))]
      exact c_stamps N (by omega) hM hw
  · refine ⟨-1, h, ?_, ?_, I⟩
    · unfold X11_stamps
      rw [if_neg a1, if_neg a4, if_neg b0, if_neg b30]
      rcases hc with hc | ⟨j, g1, g2, rfl⟩
      · rw [if_pos hc]
      · rw [if_neg (nI_pos g2), if_neg (show ¬ nI j ≤ 1 from nI_ge (a := 1) (by omega) g2)]
    · unfold X12_stamps
      rw [ea, Option.bind_some, if_neg (show ¬ nI 1 = 0 by decide), eb, Option.bind_some, if_neg (show ¬ nI 1 = 0 by decide), show X12_isIn c 0 1 = some (nI 0) from isIn_out hc (by decide)]; rfl
end STAMPS
