/-! far, widest: class and model -/
section WIDE
variable {h : HS} {b r n : Nat} {kn kd fg : Nat → Nat} {hd dm dy : Nat}
theorem c_widened (w : WFk n kn) (L : LinL h b n kn) {x : Nat} (hx : x < 2 ^ n) : X4_widened h b (nI x) = some (nI (wd n kn x)) := by
  have w1 := w.1
  have h9 := pow_le9 w1
  unfold X4_widened
  refine (loopF (fun fu k s => X4_widened_B4 h b (nI x) fu (nI s) (nI k)) (fun s => some (nI s)) n (wds kn x) (fun _ _ => True) (fun fu s _ => ?_) (fun fu k s hk _ => ⟨?_, trivial⟩) n FU 0 x (by omega) (FU_lt (by omega)) trivial).1
  · show X4_widened_B4 h b (nI x) (fu + 1) (nI s) (nI n) = _
    rw [X4_widened_B4, L.1, if_pos (nI_le (by omega) (by omega))]
  · show X4_widened_B4 h b (nI x) (fu + 1) (nI s) (nI k) = X4_widened_B4 h b (nI x) fu (nI (wds kn x k s)) (nI (k + 1))
    rw [X4_widened_B4, L.1, if_neg (nI_ge (by omega) (by omega)), show (nI x >>> (nI k &&& 31)) &&& 1 = nI (x.testBit k).toNat from i_bit (by omega) (by omega)]
    unfold wds
    cases x.testBit k
    · rw [if_pos (show nI false.toNat = 0 from rfl)]
      simp only [X4_widened_B28, nm, L1, nI_add, Bool.false_eq_true, ite_false]
    · rw [if_neg (show ¬ nI true.toNat = 0 by decide), c_around L (by omega), Option.bind_some]
      simp only [X4_widened_B28, nm, L1, nI_add, i_or, ite_true]
theorem m_around (w : WFk n kn) (R : RowP (aI h r) n kn kd fg hd dy) {x : Nat} (hx : x < 2 ^ n) : X12_around h r (nI x) = some (nI (wd n kn x)) := by
  have w1 := w.1
  have h9 := pow_le9 w1
  unfold X12_around
  refine (loopF (fun fu k s => X12_around_B4 h r (nI x) fu (nI s) (nI k)) (fun s => some (nI s)) n (wds kn x) (fun _ _ => True) (fun fu s _ => ?_) (fun fu k s hk _ => ⟨?_, trivial⟩) n FU 0 x (by omega) (FU_lt (by omega)) trivial).1
  · show X12_around_B4 h r (nI x) (fu + 1) (nI s) (nI n) = _
    rw [X12_around_B4, gdi0, cl0, R.1, if_pos (nI_le (by omega) (by omega))]
  · show X12_around_B4 h r (nI x) (fu + 1) (nI s) (nI k) = X12_around_B4 h r (nI x) fu (nI (wds kn x k s)) (nI (k + 1))
    rw [X12_around_B4, gdi0, cl0, R.1, if_neg (nI_ge (by omega) (by omega)), has_n (by omega) (by omega), Option.bind_some]
    unfold wds
    cases x.testBit k
    · rw [if_pos (show nI false.toNat = 0 from rfl)]
      simp only [X12_around_B29, nm, L1, nI_add, Bool.false_eq_true, ite_false]
    · rw [if_neg (show ¬ nI true.toNat = 0 by decide), L2, m_of, Option.bind_some]
      simp (disch := omega) only [gdi_n, i_cl, (R.2.2.2 k (show k < 9 by omega)).2.2, X12_around_B29, nm, L1, nI_add, i_or, ite_true]
theorem c_way (w : WFk n kn) (L : LinL h b n kn) {p q : Nat} (hp : p < n) (hq : q < n) : X4_way h b (nI p) (nI q) = some (wy n kn q 0 9 (2 ^ p)) := by
  have w1 := w.1
  have h9 := pow_le9 w1
  have key : ∀ m fu k s, k + m = 9 → m < fu → s < 2 ^ n → X4_way_B7 h b (nI p) (nI q) fu (nI s) (nI k) = some (wy n kn q k m s) := by
    intro m
    induction m with
    | zero =>
      intro fu k s hk hf hs
      obtain ⟨fu, rfl⟩ : ∃ f, fu = f + 1 := ⟨fu - 1, by omega⟩
      rw [X4_way_B7, if_pos (show (9 : Int32) ≤ nI k from nI_le (a := 9) (by omega) (by omega))]; rfl
    | succ m ih =>
      intro fu k s hk hf hs
      obtain ⟨fu, rfl⟩ : ∃ f, fu = f + 1 := ⟨fu - 1, by omega⟩
      rw [X4_way_B7, if_neg (show ¬ (9 : Int32) ≤ nI k from nI_ge (b := 9) (by omega) (by omega)), show (nI s >>> (nI q &&& 31)) &&& 1 = nI (s.testBit q).toNat from i_bit (by omega) (by omega), wy_s]
      cases s.testBit q
      · rw [if_pos (show nI false.toNat = 0 from rfl), c_widened w L hs, Option.bind_some, if_neg (by decide)]
        simp only [nm, L1, nI_add]
        exact ih fu (k + 1) _ (by omega) (by omega) (wd_lt w hs)
      · rw [if_neg (show ¬ nI true.toNat = 0 by decide), if_pos rfl]
  unfold X4_way
  simp only [nm]
  rw [i_pow (by omega)]
  exact key 9 FU 0 (2 ^ p) (by omega) (FU_lt (by omega)) (pow_lt hp)
theorem m_farOf (w : WFk n kn) (R : RowP (aI h 67) n kn kd fg hd dy) {p q : Nat} (hp : p < n) (hq : q < n) : X12_farOf h (nI p) (nI q) = some (wy n kn q 0 9 (2 ^ p)) := by
  have w1 := w.1
  have h9 := pow_le9 w1
  have key : ∀ m fu k s, k + m = 10 → m < fu → s < 2 ^ n → X12_farOf_B7 h (nI p) (nI q) fu (nI s) (nI k) = some (wy n kn q k m s) := by
    intro m
    induction m with
    | zero =>
      intro fu k s hk hf hs
      obtain ⟨fu, rfl⟩ : ∃ f, fu = f + 1 := ⟨fu - 1, by omega⟩
      rw [X12_farOf_B7, if_pos (show (9 : Int32) < nI k from nI_lt (a := 9) (by omega) (by omega))]; rfl
    | succ m ih =>
      intro fu k s hk hf hs
      obtain ⟨fu, rfl⟩ : ∃ f, fu = f + 1 := ⟨fu - 1, by omega⟩
      rw [X12_farOf_B7, if_neg (show ¬ (9 : Int32) < nI k from nI_nlt (a := 9) (by omega) (by omega)), has_n (by omega) (by omega), Option.bind_some, wy_s]
      cases s.testBit q
      · rw [if_pos (show nI false.toNat = 0 from rfl), m_around w R hs, Option.bind_some, if_neg (by decide)]
        simp only [nm, L1, nI_add]
        exact ih fu (k + 1) _ (by omega) (by omega) (wd_lt w hs)
      · rw [if_neg (show ¬ nI true.toNat = 0 by decide), if_pos rfl]
  unfold X12_farOf
  simp only [nm]
  rw [i_pow (by omega), ← wy_10 w hp]
  exact key 10 FU 0 (2 ^ p) (by omega) (FU_lt (by omega)) (pow_lt hp)
theorem S_far (N : NowP h n kn kd fg hd dm dy) (u v : Int32) : ∃ r, X11_far h u v = some r ∧ X12_far h u v = some r := by
  have w1 := N.1.1.1
  rcases arg_in u n with ⟨p, hp, _, rfl⟩ | hu
  · rcases arg_in v n with ⟨q, hq, _, rfl⟩ | hv
    · refine ⟨wy n kn q 0 9 (2 ^ p), ?_, ?_⟩
      · unfold X11_far
        rw [c_has_in N.2.2.1 hp w1, Option.bind_some, if_neg (show ¬ nI 1 = 0 by decide), c_has_in N.2.2.1 hq w1, Option.bind_some, if_neg (show ¬ nI 1 = 0 by decide), c_way N.1.1 N.2.2.1.1 hp hq]
        rfl
      · unfold X12_far
        rw [m_isOne_in N.2.2.2 hp w1, Option.bind_some, if_neg (show ¬ nI 1 = 0 by decide), m_isOne_in N.2.2.2 hq w1, Option.bind_some, if_neg (show ¬ nI 1 = 0 by decide), m_farOf N.1.1 N.2.2.2 hp hq]
        rfl
    · refine ⟨-1, ?_, ?_⟩
      · unfold X11_far
        rw [c_has_in N.2.2.1 hp w1, Option.bind_some, if_neg (show ¬ nI 1 = 0 by decide), c_has_out N.2.2.1 w1 hv]; rfl
      · unfold X12_far
        rw [m_isOne_in N.2.2.2 hp w1, Option.bind_some, if_neg (show ¬ nI 1 = 0 by decide), m_isOne_out N.2.2.2 w1 hv]; rfl
  · refine ⟨-1, ?_, ?_⟩
    · unfold X11_far
      rw [c_has_out N.2.2.1 w1 hu]; rfl
    · unfold X12_far
      rw [m_isOne_out N.2.2.2 w1 hu]; rfl
theorem fn_lt (a q : Nat) : fn n kn a q < 100 := (nI_of_wy (v := 0) (by decide)).2.2
theorem itf_max_lt {f : Nat → Nat} (hf : ∀ k, f k < 100) {m i s : Nat} (hs : s < 100) : itf (fun k s => max s (f k)) i m s < 100 :=
  itf_inv (fun _ s => s < 100) (i + m) (fun k s _ h => by have := hf k; show max s (f k) < 100; omega) m i s rfl hs
theorem c_widest (N : NowP h n kn kd fg hd dm dy) : X4_widest h 6 = some (nI (wid1 n kn)) := by
  have w1 := N.1.1.1
  have L := N.2.2.1.1
  unfold X4_widest
  refine (loopF (fun fu k s => X4_widest_B4 h 6 fu (nI s) (nI k)) (fun s => some (nI s)) n (fun a s => itf (fun b s => max s (fn n kn a b)) (a + 1) (n - (a + 1)) s) (fun _ s => s < 100) (fun fu s _ => ?_) (fun fu k s hk hs => ⟨?_, itf_max_lt (fun q => fn_lt k q) hs⟩) n FU 0 0 (by omega) (FU_lt (by omega)) (by decide)).1
  · show X4_widest_B4 h 6 (fu + 1) (nI s) (nI n) = _
    rw [X4_widest_B4, L.1, if_pos (nI_le (by omega) (by omega))]
  · show X4_widest_B4 h 6 (fu + 1) (nI s) (nI k) = X4_widest_B4 h 6 fu (nI (itf (fun b s => max s (fn n kn k b)) (k + 1) (n - (k + 1)) s)) (nI (k + 1))
    rw [X4_widest_B4, L.1, if_neg (nI_ge (by omega) (by omega))]
    simp only [nm, L1, nI_add]
    refine (loopF (fun fu2 q s => X4_widest_B16 h 6 (X4_widest_B4 h 6 fu) fu2 (nI s) (nI k) (nI q)) (fun s => X4_widest_B4 h 6 fu (nI s) (nI (k + 1))) n (fun b s => max s (fn n kn k b)) (fun _ s => s < 100) (fun fu2 s _ => ?_) (fun fu2 q s hq hs => ⟨?_, by have := fn_lt (n := n) (kn := kn) k q; have hs2 : s < 100 := hs; show max s (fn n kn k q) < 100; omega⟩) (n - (k + 1)) FU (k + 1) s (by omega) (FU_lt (by omega)) hs).1
    · show X4_widest_B16 h 6 (X4_widest_B4 h 6 fu) (fu2 + 1) (nI s) (nI k) (nI n) = _
      rw [X4_widest_B16, L.1, if_pos (nI_le (by omega) (by omega))]
      simp only [nm, L1, nI_add]
    · show X4_widest_B16 h 6 (X4_widest_B4 h 6 fu) (fu2 + 1) (nI s) (nI k) (nI q) = _
      rw [X4_widest_B16, L.1, if_neg (nI_ge (by omega) (by omega)), c_way N.1.1 L hk hq, Option.bind_some]
      simp only [nm, L1, nI_add]
      rw [(nI_of_wy hs).1]
theorem m_widest (N : NowP h n kn kd fg hd dm dy) : X12_widest h = some (nI (wid2 n kn)) := by
  have w1 := N.1.1.1
  have R := N.2.2.2
  unfold X12_widest
  refine (loopF (fun fu k s => X12_widest_B4 h fu (nI s) (nI k)) (fun s => some (nI s)) n (fun a s => itf (fun b s => max s (fn n kn a b)) 0 n s) (fun _ s => s < 100) (fun fu s _ => ?_) (fun fu k s hk hs => ⟨?_, itf_max_lt (fun q => fn_lt k q) hs⟩) n FU 0 0 (by omega) (FU_lt (by omega)) (by decide)).1
  · show X12_widest_B4 h (fu + 1) (nI s) (nI n) = _
    rw [X12_widest_B4, gdi0, cl0, R.1, if_pos (nI_le (by omega) (by omega))]
  · show X12_widest_B4 h (fu + 1) (nI s) (nI k) = X12_widest_B4 h fu (nI (itf (fun b s => max s (fn n kn k b)) 0 n s)) (nI (k + 1))
    rw [X12_widest_B4, gdi0, cl0, R.1, if_neg (nI_ge (by omega) (by omega))]
    refine (loopF (fun fu2 q s => X12_widest_B16 h (X12_widest_B4 h fu) fu2 (nI s) (nI k) (nI q)) (fun s => X12_widest_B4 h fu (nI s) (nI (k + 1))) n (fun b s => max s (fn n kn k b)) (fun _ s => s < 100) (fun fu2 s _ => ?_) (fun fu2 q s hq hs => ⟨?_, by have := fn_lt (n := n) (kn := kn) k q; have hs2 : s < 100 := hs; show max s (fn n kn k q) < 100; omega⟩) n FU 0 s (by omega) (FU_lt (by omega)) hs).1
    · show X12_widest_B16 h (X12_widest_B4 h fu) (fu2 + 1) (nI s) (nI k) (nI n) = _
      rw [X12_widest_B16, gdi0, cl0, R.1, if_pos (nI_le (by omega) (by omega))]
      simp only [nm, L1, nI_add]
    · show X12_widest_B16 h (X12_widest_B4 h fu) (fu2 + 1) (nI s) (nI k) (nI q) = X12_widest_B16 h (X12_widest_B4 h fu) fu2 (nI (max s (fn n kn k q))) (nI k) (nI (q + 1))
      rw [X12_widest_B16, gdi0, cl0, R.1, if_neg (nI_ge (by omega) (by omega)), m_farOf N.1.1 R hk hq, Option.bind_some, Option.bind_some, ← (nI_of_wy (n := n) (kn := kn) (a := k) (b := q) hs).2.1]
      by_cases z : wy n kn q 0 9 (2 ^ k) ≤ nI s
      · rw [if_pos z, if_pos z]
        simp only [X12_widest_B46, nm, L1, nI_add]
      · rw [if_neg z, if_neg z]
        simp only [X12_widest_B46, nm, L1, nI_add]
/-! PARTS -/
def w9 (n : Nat) (kn : Nat → Nat) (p : Nat) : Nat := itf (fun _ s => wd n kn s) 0 9 (2 ^ p)
def pts (n : Nat) (kn : Nat → Nat) (p : Nat) (s : Nat × Nat) : Nat × Nat := if s.1.testBit p then s else (s.1 ||| w9 n kn p, s.2 + 1)
/-- how many PARTS -/
def pt (n : Nat) (kn : Nat → Nat) : Nat := (itf (pts n kn) 0 n (0, 0)).2
theorem w9_lt (w : WFk n kn) {p : Nat} (hp : p < n) : w9 n kn p < 2 ^ n := itf_inv (fun _ s => s < 2 ^ n) 9 (fun _ _ _ h => wd_lt w h) 9 0 _ rfl (pow_lt hp)
theorem c_parts (w : WFk n kn) (L : LinL h b n kn) : X4_parts h b = some (nI (pt n kn)) := by
  have w1 := w.1
  have h9 := pow_le9 w1
  unfold X4_parts
  refine (loopF (fun fu k (s : Nat × Nat) => X4_parts_B6 h b fu (nI s.1) (nI s.2) (nI k)) (fun s => some (nI s.2)) n (pts n kn) (fun _ s => s.1 < 2 ^ n) (fun fu s _ => ?_) (fun fu k s hk hs => ⟨?_, ?_⟩) n FU 0 (0, 0) (by omega) (FU_lt (by omega)) (Nat.two_pow_pos n)).1
  · show X4_parts_B6 h b (fu + 1) (nI s.1) (nI s.2) (nI n) = _
    rw [X4_parts_B6, L.1, if_pos (nI_le (by omega) (by omega))]
  · have hs : s.1 < 2 ^ n := hs
    show X4_parts_B6 h b (fu + 1) (nI s.1) (nI s.2) (nI k) = X4_parts_B6 h b fu (nI (pts n kn k s).1) (nI (pts n kn k s).2) (nI (k + 1))
    rw [X4_parts_B6, L.1, if_neg (nI_ge (by omega) (by omega)), show (nI s.1 >>> (nI k &&& 31)) &&& 1 = nI (s.1.testBit k).toNat from i_bit (by omega) (by omega)]
    unfold pts
    cases s.1.testBit k
    · rw [if_pos (show nI false.toNat = 0 from rfl), i_pow (by omega)]
      simp only [nm, L1, nI_add, Bool.false_eq_true, ite_false]
      refine (loopF (fun fu2 j x => X4_parts_B33 h b (X4_parts_B6 h b fu) fu2 (nI s.1) (nI (s.2 + 1)) (nI k) (nI x) (nI j)) (fun x => X4_parts_B6 h b fu (nI (s.1 ||| x)) (nI (s.2 + 1)) (nI (k + 1))) 9 (fun _ s => wd n kn s) (fun _ x => x < 2 ^ n) (fun fu2 x _ => ?_) (fun fu2 j x hj hx => ⟨?_, wd_lt w hx⟩) 9 FU 0 (2 ^ k) (by omega) (FU_lt (by omega)) (pow_lt hk)).1
      · show X4_parts_B33 h b (X4_parts_B6 h b fu) (fu2 + 1) (nI s.1) (nI (s.2 + 1)) (nI k) (nI x) (nI 9) = _
        rw [X4_parts_B33, if_pos (show (9 : Int32) ≤ nI 9 by decide)]
        simp only [nm, X4_parts_B59, L1, nI_add, i_or]
      · show X4_parts_B33 h b (X4_parts_B6 h b fu) (fu2 + 1) (nI s.1) (nI (s.2 + 1)) (nI k) (nI x) (nI j) = _
        rw [X4_parts_B33, if_neg (show ¬ (9 : Int32) ≤ nI j from nI_ge (b := 9) (by omega) (by omega)), c_widened w L hx, Option.bind_some]
        simp only [nm, L1, nI_add]
    · rw [if_neg (show ¬ nI true.toNat = 0 by decide)]
      simp only [X4_parts_B59, nm, L1, nI_add, ite_true]
  · have hs : s.1 < 2 ^ n := hs
    show (pts n kn k s).1 < 2 ^ n
    unfold pts
    split
    · exact hs
    · exact or_lt hs (w9_lt w hk)
theorem m_partsIn (w : WFk n kn) (R : RowP (aI h r) n kn kd fg hd dy) : X12_partsIn h r = some (nI (pt n kn)) := by
  have w1 := w.1
  have h9 := pow_le9 w1
  have hpos := Nat.two_pow_pos n
  unfold X12_partsIn
  rw [gdi0, cl0, R.1, i_pow (by omega)]
  simp only [nm]
  rw [L1, pk_sub (by omega)]
  obtain ⟨z1, e1, _⟩ := loopR (fun fu k (y : Nat × Nat) => X12_partsIn_B12 h r fu (nI y.1) (nI y.2) (nI k)) (fun y => some (nI y.2)) n (pts n kn) (fun k s y => s.1 < 2 ^ n ∧ y.2 = s.2 ∧ y.1 < 2 ^ n ∧ ∀ j, j < n → y.1.testBit j = !s.1.testBit j)
    (fun fu s y _ => by
      show X12_partsIn_B12 h r (fu + 1) (nI y.1) (nI y.2) (nI n) = _
      rw [X12_partsIn_B12, gdi0, cl0, R.1, if_pos (nI_le (by omega) (by omega))])
    (fun fu k s y hk J => by
      obtain ⟨j1, j2, j3, j4⟩ := J
      have e12 : X12_partsIn_B12 h r (fu + 1) (nI y.1) (nI y.2) (nI k) = (if nI (y.1.testBit k).toNat = 0 then X12_partsIn_B69 h r (X12_partsIn_B12 h r fu) (nI y.1) (nI y.2) (nI k) else X12_partsIn_B38 h r (X12_partsIn_B12 h r fu) FU (nI y.1) (nI y.2) (nI k) (nI (2 ^ k)) 0) := by
        rw [X12_partsIn_B12, gdi0, cl0, R.1, if_neg (nI_ge (by omega) (by omega)), has_n (by omega) (by omega), Option.bind_some, i_pow (by omega)]
        rfl
      show ∃ t1 : Nat × Nat, X12_partsIn_B12 h r (fu + 1) (nI y.1) (nI y.2) (nI k) = X12_partsIn_B12 h r fu (nI t1.1) (nI t1.2) (nI (k + 1)) ∧ (pts n kn k s).1 < 2 ^ n ∧ t1.2 = (pts n kn k s).2 ∧ t1.1 < 2 ^ n ∧ ∀ j, j < n → t1.1.testBit j = !(pts n kn k s).1.testBit j
      rw [e12, j4 k hk]
      unfold pts
      cases hc : s.1.testBit k
      · rw [if_neg (show ¬ nI (!false).toNat = 0 by decide)]
        simp only [Bool.false_eq_true, ite_false]
        have hw := w9_lt w hk
        have el := (loopF (fun fu2 j x => X12_partsIn_B38 h r (X12_partsIn_B12 h r fu) fu2 (nI y.1) (nI y.2) (nI k) (nI x) (nI j)) (fun x => X12_partsIn_B12 h r fu (nI (andn y.1 x)) (nI (y.2 + 1)) (nI (k + 1))) 9 (fun _ s => wd n kn s) (fun _ x => x < 2 ^ n)
          (fun fu2 x _ => by
            show X12_partsIn_B38 h r (X12_partsIn_B12 h r fu) (fu2 + 1) (nI y.1) (nI y.2) (nI k) (nI x) (nI 9) = _
            rw [X12_partsIn_B38, if_pos (show (9 : Int32) ≤ nI 9 by decide), i_andn]
            simp only [nm, X12_partsIn_B69, L1, nI_add])
          (fun fu2 j x hj hx => ⟨by
            show X12_partsIn_B38 h r (X12_partsIn_B12 h r fu) (fu2 + 1) (nI y.1) (nI y.2) (nI k) (nI x) (nI j) = _
            rw [X12_partsIn_B38, if_neg (show ¬ (9 : Int32) ≤ nI j from nI_ge (b := 9) (by omega) (by omega)), m_around w R hx, Option.bind_some]
            simp only [nm, L1, nI_add], wd_lt w hx⟩) 9 FU 0 (2 ^ k) (by omega) (FU_lt (by omega)) (pow_lt hk)).1
        refine ⟨(andn y.1 (w9 n kn k), y.2 + 1), el, or_lt j1 hw, by rw [j2], Nat.lt_of_le_of_lt (andn_le _ _) j3, fun j hj => ?_⟩
        rw [andn_bit (by omega), j4 j hj, Nat.testBit_or]
        simp
      · rw [if_pos (show nI (!true).toNat = 0 from rfl)]
        simp only [ite_true]
        refine ⟨y, ?_, j1, j2, j3, j4⟩
        simp only [X12_partsIn_B69, nm, L1, nI_add])
    n FU 0 (0, 0) (2 ^ n - 1, 0) (by omega) (FU_lt (by omega)) ⟨hpos, rfl, by show 2 ^ n - 1 < 2 ^ n; omega, fun j hj => by
      show (2 ^ n - 1).testBit j = !(0 : Nat).testBit j
      rw [Nat.testBit_two_pow_sub_one, Nat.zero_testBit, decide_eq_true hj]; rfl⟩
  rename_i h2
  refine Eq.trans e1 ?_
  show some (nI z1.2) = _
  rw [h2.2.1]; rfl
end WIDE
