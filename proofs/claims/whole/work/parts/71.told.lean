/-! told rows: judge, whoBegan, whatIs, forged -/
def lst (so : Nat) : Int32 := if so = 0 then -128 else if so = 1 then -32768 else -2147483648
/-- the first place of the row that is not so; s have HEARD on the day d + k, m places are left -/
def fo (n : Nat) (kn kd fg : Nat → Nat) (ls : Int32) (el : Nat → Int32) (d : Nat) : Nat → Nat → Nat → Int32
  | _, 0, _ => -4
  | k, m + 1, s => if el k = ls ∨ el k = nI (bc s) then fo n kn kd fg ls el d (k + 1) m (nh n kn kd fg (d + k + 1) s (fun q => (0 : Nat).testBit q)) else nI k
theorem nI_m4 {k : Nat} (hk : k < 1000) : (nI k = -4) = False := by
  refine eq_false fun e => ?_
  have : ∀ k, k < 1000 → nI k ≠ -4 := by decide +kernel
  exact this k hk e
theorem m_leastOf {so : Nat} (h : so < 3) : X12_leastOf (nI so) = some (lst so) := by
  match so, h with
  | 0, _ => rfl
  | 1, _ => rfl
  | 2, _ => rfl
  | j + 3, h => exact absurd h (by omega)
section TOLD
variable {h : HS} {q ho so le : Nat} {el : Nat → Int32}
theorem c_at (S : ShP h q ho so le el) {k : Nat} (hk : k < le) : X7_at h (50 + 2 * q) (nI k) = some (el k) := by
  have hle := S.2.2.2.1.2.2
  unfold X7_at X7_hasPlace
  rw [S.2.2.2.1.1]
  simp (disch := omega) only [L0, ltF, leF, ite_false, Option.bind_some, L1, eqF, gdi_n, i_cl, (S.2.2.2.2.1 k (by omega)).1]
theorem c_size (S : ShP h q ho so le el) : X7_size h (50 + 2 * q) = some (nI le) := by
  unfold X7_size
  rw [S.2.2.2.1.1]
theorem c_isSkipped (S : ShP h q ho so le el) {k : Nat} (hk : k < le) : X7_isSkipped h (50 + 2 * q) (nI k) = some (if el k = lst so then nI 1 else nI 0) := by
  have hso := S.2.2.1.2.2
  have e33 : ∀ x y, X7_isSkipped_B33 h (50 + 2 * q) (nI k) x y = some (if y = x then nI 1 else nI 0) := by
    intro x y
    unfold X7_isSkipped_B33
    by_cases z : y = x
    · rw [if_pos z, if_pos z]; rfl
    · rw [if_neg z, if_neg z]; rfl
  unfold X7_isSkipped
  rw [c_at S hk, Option.bind_some, S.2.2.1.1, e33, e33, e33]
  match so, hso with
  | 0, _ => rfl
  | 1, _ => rfl
  | 2, _ => rfl
  | j + 3, h => exact absurd h (by omega)
theorem m_isTold (hq : q < 8) (S : ShP h q ho so le el) {k : Nat} (hk : k < 100) (x : Int32) : X12_isTold h (nI q) (nI k) x = some (if el k = lst so then nI 1 else if el k = x then nI 1 else nI 0) := by
  unfold X12_isTold
  simp (disch := omega) only [L100, pk_mul, nI_add, gdi_n, i_cl, S.2.2.1.2.1, m_leastOf S.2.2.1.2.2, Option.bind_some, (S.2.2.2.2.1 k hk).2]
  by_cases h1 : el k = lst so
  · rw [if_pos h1, if_pos h1]; rfl
  · rw [if_neg h1, if_neg h1]
    by_cases h2 : el k = x
    · rw [if_pos h2, if_pos h2]; rfl
    · rw [if_neg h2, if_neg h2]; rfl
section FO
variable {b n : Nat} {kn kd fg : Nat → Nat} {hd dm dy : Nat}
theorem fo_loop (hb : isPar b) (w : WFp n kn kd fg hd dm dy) (P : ParL h b n kn kd fg hd dm dy) (S : ShP h q ho so le el) (hdy : dy < 100000) {x B : Int32} {B1 : Nat} (hB : B = nI B1) (hB1 : B1 < 100) : ∀ m fu k s, k + m = le → m < fu → s < 2 ^ n → X11_firstOther_B12 h b x (50 + 2 * q) B fu (nI s) (nI k) = some (fo n kn kd fg (lst so) el (dy + B1) k m s) := by
  have hle := S.2.2.2.1.2.2
  have h9 := pow_le9 w.1.1
  subst hB
  intro m
  induction m with
  | zero =>
    intro fu k s hk hf hs
    obtain ⟨fu, rfl⟩ : ∃ f, fu = f + 1 := ⟨fu - 1, by omega⟩
    rw [X11_firstOther_B12, c_size S, Option.bind_some, if_pos (nI_le (by omega) (by omega))]
    rfl
  | succ m ih =>
    intro fu k s hk hf hs
    obtain ⟨fu, rfl⟩ : ∃ f, fu = f + 1 := ⟨fu - 1, by omega⟩
    have e47 : X11_firstOther_B47 h b x (50 + 2 * q) (nI B1) (X11_firstOther_B12 h b x (50 + 2 * q) (nI B1) fu) (nI s) (nI k) = some (fo n kn kd fg (lst so) el (dy + B1) (k + 1) m (nh n kn kd fg (dy + B1 + k + 1) s (fun q => (0 : Nat).testBit q))) := by
      unfold X11_firstOther_B47
      simp (disch := omega) only [P.2.2.2.2.2, L0, L1, nI_add, c_nextHeard hb w P hs (show dy + B1 + k + 1 < 1000000 by omega) (sn := 0), Option.bind_some, nm]
      exact ih fu (k + 1) _ (by omega) (by omega) (nh_lt hs)
    rw [X11_firstOther_B12, c_size S, Option.bind_some, if_neg (nI_ge (by omega) (by omega)), c_isSkipped S (by omega), Option.bind_some, e47, fo]
    by_cases h1 : el k = lst so
    · rw [if_pos h1, if_neg (show ¬ nI 1 = 0 by decide), if_pos (Or.inl h1)]
    · rw [if_neg h1, if_pos (show nI 0 = 0 from rfl), c_at S (by omega), Option.bind_some, bitCount_n (by omega), Option.bind_some]
      by_cases h2 : el k = nI (bc s)
      · rw [if_pos h2, if_pos (Or.inr h2)]
      · rw [if_neg h2, if_neg (by rintro (z | z); exact h1 z; exact h2 z)]
theorem c_firstOther (hb : isPar b) (w : WFp n kn kd fg hd dm dy) (P : ParL h b n kn kd fg hd dm dy) (S : ShP h q ho so le el) (hdy : dy < 100000) {x B : Nat} (hx : x < 2 ^ n) (hB : B < 100) : X11_firstOther h b (nI x) (50 + 2 * q) (nI B) = some (fo n kn kd fg (lst so) el (dy + B) 0 le (ndays n kn kd fg dy (fun q => (0 : Nat).testBit q) 1 B x)) := by
  have hle := S.2.2.2.1.2.2
  unfold X11_firstOther
  rw [L0, c_behind hb w P hx (by omega) hdy, Option.bind_some]
  exact fo_loop hb w P S hdy rfl hB le FU 0 _ (by omega) (FU_lt (by omega)) (ndays_lt hx)
end FO
/-! the model's row 68 -/
section MFO
variable {n : Nat} {kn kd fg : Nat → Nat} {hd dm dy : Nat}
theorem so_loop (hq : q < 8) (w : WFp n kn kd fg hd dm dy) (S : ShP h q ho so le el) {d : Nat} (hd9 : d < 100000) : ∀ m fu k s t, k + m = le → m < fu → s < 2 ^ n → RowP (aI t 68) n kn kd fg s (d + k) → Keep h t → ∃ t1, X12_isHeardSo_B2 (nI q) fu (nI k) t = some (if fo n kn kd fg (lst so) el d k m s = -4 then nI 1 else nI 0, t1) ∧ Keep h t1 := by
  have hle := S.2.2.2.1.2.2
  have h9 := pow_le9 w.1.1
  intro m
  induction m with
  | zero =>
    intro fu k s t hk hf hs hR hK
    obtain ⟨fu, rfl⟩ : ∃ f, fu = f + 1 := ⟨fu - 1, by omega⟩
    have St := hK.shelf hq S
    refine ⟨t, ?_, hK⟩
    rw [X12_isHeardSo_B2]
    simp (disch := omega) only [gdi_n, i_cl, St.2.2.2.1.2.1]
    rw [if_pos (nI_le (by omega) (by omega)), fo, if_pos rfl]; rfl
  | succ m ih =>
    intro fu k s t hk hf hs hR hK
    obtain ⟨fu, rfl⟩ : ∃ f, fu = f + 1 := ⟨fu - 1, by omega⟩
    have St := hK.shelf hq S
    have wS := WFp_dy (WFp_hd w hs) (show d + k < 1000000 by omega)
    have eday := m_day (r := 68) wS hR (show d + k < 900000 by omega) (sv := nI 0) (sl := fun q => (0 : Nat).testBit q) (fun q hq => has_n (show 0 < 2147483648 by omega) (show q < 32 by omega))
    obtain ⟨t1, e1, k1⟩ := ih fu (k + 1) (nh n kn kd fg (d + k + 1) s (fun q => (0 : Nat).testBit q)) (sA t 68 (upd (upd (aI t 68) 1 (nI (d + k + 1))) 2 (nI (nh n kn kd fg (d + k + 1) s (fun q => (0 : Nat).testBit q))))) (by omega) (by omega) (nh_lt hs) (by rw [aI_sA_eq]; exact RowP_hd (RowP_dy hR (d + k + 1)) _) (hK.a (by decide))
    rw [X12_isHeardSo_B2]
    simp (disch := omega) only [gdi_n, i_cl, St.2.2.2.1.2.1, L2, hR.2.2.1]
    rw [if_neg (nI_ge (by omega) (by omega)), bits_n (by omega), Option.bind_some, m_isTold hq St (by omega), Option.bind_some, fo]
    have tail : ((X12_day t 68 0).bind fun q7 => nm (nI k + 1) fun x8 => (X12_isHeardSo_B2 (nI q) fu) x8 q7) = some (if fo n kn kd fg (lst so) el d (k + 1) m (nh n kn kd fg (d + k + 1) s (fun q => (0 : Nat).testBit q)) = -4 then nI 1 else nI 0, t1) := by
      rw [show X12_day t 68 0 = X12_day t 68 (nI 0) from rfl, eday, Option.bind_some]
      simp only [nm, L1, nI_add]
      exact e1
    by_cases h1 : el k = lst so
    · rw [if_pos h1, if_neg (show ¬ nI 1 = 0 by decide), if_pos (Or.inl h1)]
      exact ⟨t1, tail, k1⟩
    · rw [if_neg h1]
      by_cases h2 : el k = nI (bc s)
      · rw [if_pos h2, if_neg (show ¬ nI 1 = 0 by decide), if_pos (Or.inr h2)]
        exact ⟨t1, tail, k1⟩
      · rw [if_neg h2, if_pos (show nI 0 = 0 from rfl), if_neg (show ¬ (el k = lst so ∨ el k = nI (bc s)) by rintro (z | z); exact h1 z; exact h2 z), if_neg (by rw [nI_m4 (by omega)]; exact id)]
        exact ⟨t, rfl, hK⟩
theorem m_isHeardSo (hq : q < 8) (w : WFp n kn kd fg hd dm dy) (S : ShP h q ho so le el) {d s : Nat} (hd9 : d < 100000) {t : HS} (hs : s < 2 ^ n) (hR : RowP (aI t 68) n kn kd fg s d) (hK : Keep h t) : ∃ t1, X12_isHeardSo t (nI q) = some (if fo n kn kd fg (lst so) el d 0 le s = -4 then nI 1 else nI 0, t1) ∧ Keep h t1 := by
  have hle := S.2.2.2.1.2.2
  exact so_loop hq w S hd9 le FU 0 s t (by omega) (FU_lt (by omega)) hs hR hK
theorem ju_loop (hq : q < 8) (w : WFp n kn kd fg hd dm dy) (S : ShP h q ho so le el) {d : Nat} (hd9 : d < 100000) : ∀ m fu k s t, k + m = le → m < fu → s < 2 ^ n → RowP (aI t 68) n kn kd fg s (d + k) → Keep h t → ∃ t1, X12_judge_B26 (nI q) fu (nI k) t = some (fo n kn kd fg (lst so) el d k m s, t1) ∧ Keep h t1 := by
  have hle := S.2.2.2.1.2.2
  have h9 := pow_le9 w.1.1
  intro m
  induction m with
  | zero =>
    intro fu k s t hk hf hs hR hK
    obtain ⟨fu, rfl⟩ : ∃ f, fu = f + 1 := ⟨fu - 1, by omega⟩
    have St := hK.shelf hq S
    refine ⟨t, ?_, hK⟩
    rw [X12_judge_B26]
    simp (disch := omega) only [gdi_n, i_cl, St.2.2.2.1.2.1]
    rw [if_pos (nI_le (by omega) (by omega)), fo]
  | succ m ih =>
    intro fu k s t hk hf hs hR hK
    obtain ⟨fu, rfl⟩ : ∃ f, fu = f + 1 := ⟨fu - 1, by omega⟩
    have St := hK.shelf hq S
    have wS := WFp_dy (WFp_hd w hs) (show d + k < 1000000 by omega)
    have eday := m_day (r := 68) wS hR (show d + k < 900000 by omega) (sv := nI 0) (sl := fun q => (0 : Nat).testBit q) (fun q hq => has_n (show 0 < 2147483648 by omega) (show q < 32 by omega))
    obtain ⟨t1, e1, k1⟩ := ih fu (k + 1) (nh n kn kd fg (d + k + 1) s (fun q => (0 : Nat).testBit q)) (sA t 68 (upd (upd (aI t 68) 1 (nI (d + k + 1))) 2 (nI (nh n kn kd fg (d + k + 1) s (fun q => (0 : Nat).testBit q))))) (by omega) (by omega) (nh_lt hs) (by rw [aI_sA_eq]; exact RowP_hd (RowP_dy hR (d + k + 1)) _) (hK.a (by decide))
    rw [X12_judge_B26]
    simp (disch := omega) only [gdi_n, i_cl, St.2.2.2.1.2.1, L2, hR.2.2.1]
    rw [if_neg (nI_ge (by omega) (by omega)), bits_n (by omega), Option.bind_some, m_isTold hq St (by omega), Option.bind_some, fo]
    have tail : ((X12_day t 68 0).bind fun q7 => nm (nI k + 1) fun x8 => (X12_judge_B26 (nI q) fu) x8 q7) = some (fo n kn kd fg (lst so) el d (k + 1) m (nh n kn kd fg (d + k + 1) s (fun q => (0 : Nat).testBit q)), t1) := by
      rw [show X12_day t 68 0 = X12_day t 68 (nI 0) from rfl, eday, Option.bind_some]
      simp only [nm, L1, nI_add]
      exact e1
    by_cases h1 : el k = lst so
    · rw [if_pos h1, if_neg (show ¬ nI 1 = 0 by decide), if_pos (Or.inl h1)]
      exact ⟨t1, tail, k1⟩
    · rw [if_neg h1]
      by_cases h2 : el k = nI (bc s)
      · rw [if_pos h2, if_neg (show ¬ nI 1 = 0 by decide), if_pos (Or.inr h2)]
        exact ⟨t1, tail, k1⟩
      · rw [if_neg h2, if_pos (show nI 0 = 0 from rfl), if_neg (show ¬ (el k = lst so ∨ el k = nI (bc s)) by rintro (z | z); exact h1 z; exact h2 z)]
        exact ⟨t, rfl, hK⟩
end MFO
end TOLD
section TCALLS
variable {h : HS}
theorem S_judge (I : Inv h) (u : Int32) : ∃ r h2, X11_judge h u = some r ∧ X12_judge h u = some (r, h2) ∧ Inv h2 := by
  obtain ⟨n, kn, kd, fg, hd, dm, dy, w, d, P, R⟩ := id I.1
  rcases arg_in u 8 with ⟨k, h1, h2, rfl⟩ | hu
  · obtain ⟨ho, so, le, el, S⟩ := I.2.2.1 k h1
    have hle := S.2.2.2.1.2.2
    have e0 : X11_judge h (nI k) = (if rrf ho = 0 then (X11_firstOther h 5 (fI h 5 4) (50 + 2 * k) 0).bind fun q7 => some q7 else some (rrf ho)) := by
      unfold X11_judge
      rw [c_shelf_in h1]
      show (X11_rowRefusal h (some (50 + 2 * k))).bind _ = _
      rw [c_rowRef S]; rfl
    rw [e0]
    by_cases q : ho = 2
    · subst q
      obtain ⟨f, e1, hf⟩ := m_copies (h := h) (show (67 : Nat) ≠ 68 by decide)
      obtain ⟨t1, e2, hK⟩ := ju_loop h1 w S (show dy < 100000 by omega) le FU 0 hd (sA h 68 f) (by omega) (FU_lt (by omega)) w.2.2.2.1 (by rw [aI_sA_eq]; exact RowP_congr R hf) ((Keep.refl h).a (by decide))
      refine ⟨fo n kn kd fg (lst so) el dy 0 le hd, t1, ?_, ?_, hK.inv I⟩
      · rw [if_pos (show rrf 2 = 0 from rfl), P.2.2.2.1, L0, c_firstOther (Or.inl rfl) w P S (by omega) w.2.2.2.1 (show 0 < 100 by decide)]
        rfl
      · unfold X12_judge
        rw [m_rowRef h1 S (by decide), Option.bind_some, if_pos (show rrf 2 = 0 from rfl), e1]
        exact e2
    · have hne := rrf_ne S.1.2.2 q
      refine ⟨rrf ho, h, by rw [if_neg hne], ?_, I⟩
      unfold X12_judge
      rw [m_rowRef h1 S (by decide), Option.bind_some, if_neg hne]
  · refine ⟨-1, h, ?_, ?_, I⟩
    · unfold X11_judge
      rw [c_shelf_out hu]; rfl
    · unfold X12_judge
      rw [m_row_out hu]; rfl
/-- the first place that is not p's NUMBER -/
def fg1 (n : Nat) (kn : Nat → Nat) (el : Nat → Int32) : Nat → Nat → Int32
  | _, 0 => -4
  | k, m + 1 => if k < n ∧ el k = nI (bc (kn k)) then fg1 n kn el (k + 1) m else nI k
theorem S_forged (I : Inv h) (u : Int32) : ∃ r, X11_forged h u = some r ∧ X12_forged h u = some r := by
  obtain ⟨n, kn, kd, fg, hd, dm, dy, w, d, P, R⟩ := id I.1
  have w1 := w.1.1
  rcases arg_in u 8 with ⟨k, h1, h2, rfl⟩ | hu
  · obtain ⟨ho, so, le, el, S⟩ := I.2.2.1 k h1
    have hle := S.2.2.2.1.2.2
    have e0 : X11_forged h (nI k) = (if rrf ho = 0 then X11_forged_B20 h (nI k) FU (50 + 2 * k) 0 else some (rrf ho)) := by
      unfold X11_forged
      rw [c_shelf_in h1]
      show (X11_rowRefusal h (some (50 + 2 * k))).bind _ = _
      rw [c_rowRef S]; rfl
    have kc : ∀ m fu i, i + m = le → m < fu → X11_forged_B20 h (nI k) fu (50 + 2 * k) (nI i) = some (fg1 n kn el i m) := by
      intro m
      induction m with
      | zero =>
        intro fu i hi hf
        obtain ⟨fu, rfl⟩ : ∃ f, fu = f + 1 := ⟨fu - 1, by omega⟩
        rw [X11_forged_B20, c_size S, Option.bind_some, if_pos (nI_le (by omega) (by omega)), fg1]
      | succ m ih =>
        intro fu i hi hf
        obtain ⟨fu, rfl⟩ : ∃ f, fu = f + 1 := ⟨fu - 1, by omega⟩
        rw [X11_forged_B20, c_size S, Option.bind_some, if_neg (nI_ge (by omega) (by omega)), fg1]
        by_cases hn : i < n
        · rw [c_has_in P hn w1, Option.bind_some, if_neg (show ¬ nI 1 = 0 by decide), c_at S (by omega), Option.bind_some, c_number w.1 P.1 (by omega), Option.bind_some]
          by_cases z : el i = nI (bc (kn i))
          · rw [if_pos z, if_pos ⟨hn, z⟩]
            simp only [nm, L1, nI_add]
            exact ih fu (i + 1) (by omega) (by omega)
          · rw [if_neg z, if_neg (fun y => z y.2)]
        · rw [c_has_out P w1 (Or.inr ⟨i, by omega, by omega, rfl⟩), Option.bind_some, if_pos (show nI 0 = 0 from rfl), if_neg (fun y => hn y.1)]
    have km : ∀ m fu i, i + m = le → m < fu → X12_forged_B15 h (nI k) fu (nI i) = some (fg1 n kn el i m) := by
      intro m
      induction m with
      | zero =>
        intro fu i hi hf
        obtain ⟨fu, rfl⟩ : ∃ f, fu = f + 1 := ⟨fu - 1, by omega⟩
        rw [X12_forged_B15]
        simp (disch := omega) only [gdi_n, i_cl, S.2.2.2.1.2.1]
        rw [if_pos (nI_le (by omega) (by omega)), fg1]
      | succ m ih =>
        intro fu i hi hf
        obtain ⟨fu, rfl⟩ : ∃ f, fu = f + 1 := ⟨fu - 1, by omega⟩
        rw [X12_forged_B15]
        simp (disch := omega) only [gdi_n, i_cl, S.2.2.2.1.2.1]
        rw [if_neg (nI_ge (by omega) (by omega)), fg1]
        by_cases hn : i < n
        · rw [m_isOne_in R hn w1, Option.bind_some, if_neg (show ¬ nI 1 = 0 by decide)]
          simp (disch := omega) only [L100, pk_mul, nI_add, gdi_n, i_cl, (S.2.2.2.2.1 i (by omega)).2]
          rw [m_number w.1 R (by omega), Option.bind_some]
          by_cases z : el i = nI (bc (kn i))
          · rw [if_pos z, if_pos ⟨hn, z⟩]
            simp only [nm, L1, nI_add]
            exact ih fu (i + 1) (by omega) (by omega)
          · rw [if_neg z, if_neg (fun y => z y.2)]
        · rw [m_isOne_out R w1 (Or.inr ⟨i, by omega, by omega, rfl⟩), Option.bind_some, if_pos (show nI 0 = 0 from rfl), if_neg (fun y => hn y.1)]
    by_cases q : ho = 2
    · subst q
      refine ⟨fg1 n kn el 0 le, ?_, ?_⟩
      · rw [e0, if_pos (show rrf 2 = 0 from rfl)]
        exact kc le FU 0 (by omega) (FU_lt (by omega))
      · unfold X12_forged
        rw [m_rowRef h1 S (by decide), Option.bind_some, if_pos (show rrf 2 = 0 from rfl)]
        exact km le FU 0 (by omega) (FU_lt (by omega))
    · have hne := rrf_ne S.1.2.2 q
      refine ⟨rrf ho, by rw [e0, if_neg hne], ?_⟩
      unfold X12_forged
      rw [m_rowRef h1 S (by decide), Option.bind_some, if_neg hne]
  · refine ⟨-1, ?_, ?_⟩
    · unfold X11_forged
      rw [c_shelf_out hu]; rfl
    · unfold X12_forged
      rw [m_row_out hu]; rfl
def wbs (n : Nat) (kn kd fg : Nat → Nat) (dy : Nat) (ls : Int32) (el : Nat → Int32) (le p s : Nat) : Nat := if kd p = 7 then s else if fo n kn kd fg ls el (dy + 1) 0 le (nh n kn kd fg (dy + 1) (2 ^ p) (fun q => (0 : Nat).testBit q)) = -4 then s ||| 2 ^ p else s
theorem S_whoBegan (I : Inv h) (u : Int32) : ∃ r h2, X11_whoBegan h u = some r ∧ X12_whoBegan h u = some (r, h2) ∧ Inv h2 := by
  obtain ⟨n, kn, kd, fg, hd, dm, dy, w, d, P, R⟩ := id I.1
  have w1 := w.1.1
  rcases arg_in u 8 with ⟨k, h1, h2, rfl⟩ | hu
  · obtain ⟨ho, so, le, el, S⟩ := I.2.2.1 k h1
    have hle := S.2.2.2.1.2.2
    have e0 : X11_whoBegan h (nI k) = (if rrf ho = 0 then X11_whoBegan_B23 h (nI k) FU (50 + 2 * k) 0 0 else some (rrf ho)) := by
      unfold X11_whoBegan
      rw [c_shelf_in h1]
      show (X11_rowRefusal h (some (50 + 2 * k))).bind _ = _
      rw [c_rowRef S]; rfl
    by_cases q : ho = 2
    · subst q
      have kc := loopF (fun fu p s => X11_whoBegan_B23 h (nI k) fu (50 + 2 * k) (nI s) (nI p)) (fun s => some (nI s)) n (wbs n kn kd fg dy (lst so) el le) (fun _ _ => True)
        (fun fu s _ => by
          show X11_whoBegan_B23 h (nI k) (fu + 1) (50 + 2 * k) (nI s) (nI n) = _
          rw [X11_whoBegan_B23, c_people P, Option.bind_some, if_pos (nI_le (by omega) (by omega))])
        (fun fu p s hp _ => ⟨by
          show X11_whoBegan_B23 h (nI k) (fu + 1) (50 + 2 * k) (nI s) (nI p) = X11_whoBegan_B23 h (nI k) fu (50 + 2 * k) (nI (wbs n kn kd fg dy (lst so) el le p s)) (nI (p + 1))
          rw [X11_whoBegan_B23, c_people P, Option.bind_some, if_neg (nI_ge (by omega) (by omega)), c_isDeaf w P (by omega), Option.bind_some]
          unfold wbs
          by_cases z : kd p = 7
          · rw [if_pos z, show (kd p == 7) = true from by simpa using z, if_neg (show ¬ nI true.toNat = 0 by decide)]
            simp only [X11_whoBegan_B74, nm, L1, nI_add]
          · rw [if_neg z, show (kd p == 7) = false from by simpa using z, if_pos (show nI false.toNat = 0 from rfl)]
            simp (disch := omega) only [L1, i_one]
            rw [c_firstOther (Or.inl rfl) w P S (show dy < 100000 by omega) (x := 2 ^ p) (B := 1) (pow_lt hp) (by decide), Option.bind_some]
            show (if fo n kn kd fg (lst so) el (dy + 1) 0 le (nh n kn kd fg (dy + 1) (2 ^ p) (fun q => (0 : Nat).testBit q)) = -4 then _ else _) = _
            by_cases y : fo n kn kd fg (lst so) el (dy + 1) 0 le (nh n kn kd fg (dy + 1) (2 ^ p) (fun q => (0 : Nat).testBit q)) = -4
            · rw [if_pos y, if_pos y]
              simp (disch := omega) only [X11_whoBegan_B74, nm, L1, nI_add, i_or]
            · rw [if_neg y, if_neg y]
              simp (disch := omega) only [X11_whoBegan_B74, nm, L1, nI_add], trivial⟩)
        n FU 0 0 (by omega) (FU_lt (by omega)) trivial
      obtain ⟨⟨s1, t1⟩, e2, hs, hK⟩ := loopR (fun fu p (t : Nat × HS) => X12_whoBegan_B18 (nI k) fu (nI t.1) (nI p) t.2) (fun t => some (nI t.1, t.2)) n (wbs n kn kd fg dy (lst so) el le) (fun _ s t => t.1 = s ∧ Keep h t.2)
        (fun fu s t J => by
          show X12_whoBegan_B18 (nI k) (fu + 1) (nI t.1) (nI n) t.2 = _
          have Rt := (J.2.now ⟨w, d, P, R⟩).2.2.2
          rw [X12_whoBegan_B18]
          simp (disch := omega) only [L0, gdi_n, i_cl, Rt.1]
          rw [if_pos (nI_le (by omega) (by omega))])
        (fun fu p s t hp J => by
          have Rt := (J.2.now ⟨w, d, P, R⟩).2.2.2
          have e18 : X12_whoBegan_B18 (nI k) (fu + 1) (nI t.1) (nI p) t.2 = (if nI (kd p == 7).toNat = 0 then (X12_copies t.2 67 68).bind fun q7 => gdi 2 30 <| nm (sA q7 68 (upd (aI q7 68) (2 : Int32).toNatClampNeg ((1 : Int32) <<< (nI p &&& 31)))) fun h8 => (X12_day h8 68 0).bind fun q10 => (X12_isHeardSo q10 (nI k)).bind fun q11 => (if q11.1 = 0 then X12_whoBegan_B90 (nI k) (X12_whoBegan_B18 (nI k) fu) (nI p) 0 (nI t.1) q11.2 else X12_whoBegan_B90 (nI k) (X12_whoBegan_B18 (nI k) fu) (nI p) ((1 : Int32) <<< (nI p &&& 31)) (nI t.1) q11.2) else X12_whoBegan_B92 (nI k) (X12_whoBegan_B18 (nI k) fu) (nI t.1) (nI p) t.2) := by
            rw [X12_whoBegan_B18]
            simp (disch := omega) only [L0, gdi_n, i_cl, Rt.1]
            rw [if_neg (nI_ge (by omega) (by omega)), m_isDeaf w Rt (by omega), Option.bind_some]
          show ∃ t1 : Nat × HS, X12_whoBegan_B18 (nI k) (fu + 1) (nI t.1) (nI p) t.2 = X12_whoBegan_B18 (nI k) fu (nI t1.1) (nI (p + 1)) t1.2 ∧ t1.1 = wbs n kn kd fg dy (lst so) el le p s ∧ Keep h t1.2
          rw [e18]
          unfold wbs
          by_cases z : kd p = 7
          · rw [if_pos z, show (kd p == 7) = true from by simpa using z, if_neg (show ¬ nI true.toNat = 0 by decide)]
            refine ⟨t, ?_, J.1, J.2⟩
            simp only [X12_whoBegan_B92, nm, L1, nI_add]
          · rw [if_neg z, show (kd p == 7) = false from by simpa using z, if_pos (show nI false.toNat = 0 from rfl)]
            obtain ⟨f, e1, hf⟩ := m_copies (h := t.2) (show (67 : Nat) ≠ 68 by decide)
            have Rf := RowP_hd (RowP_congr Rt hf) (2 ^ p)
            have Ry := RowP_hd (RowP_dy Rf (dy + 1)) (nh n kn kd fg (dy + 1) (2 ^ p) (fun q => (0 : Nat).testBit q))
            have eday := m_day (h := sA (sA t.2 68 f) 68 (upd f 2 (nI (2 ^ p)))) (r := 68) (WFp_hd w (pow_lt hp)) (by rw [aI_sA_eq]; exact Rf) (show dy < 900000 by omega) (sv := nI 0) (sl := fun q => (0 : Nat).testBit q) (fun q hq => has_n (show 0 < 2147483648 by omega) (show q < 32 by omega))
            simp only [aI_sA_eq, sA_sA] at eday
            obtain ⟨t2, e3, k3⟩ := m_isHeardSo h1 w S (show dy + 1 < 100000 by omega) (t := sA t.2 68 (upd (upd (upd f 2 (nI (2 ^ p))) 1 (nI (dy + 1))) 2 (nI (nh n kn kd fg (dy + 1) (2 ^ p) (fun q => (0 : Nat).testBit q))))) (nh_lt (pow_lt hp)) (by rw [aI_sA_eq]; exact Ry) (J.2.a (by decide))
            rw [e1, Option.bind_some]
            simp (disch := omega) only [L2, gdi_n, i_cl, nm, aI_sA_eq, sA_sA, L1, i_one]
            rw [show (0 : Int32) = nI 0 from rfl, eday, Option.bind_some, e3, Option.bind_some]
            by_cases y : fo n kn kd fg (lst so) el (dy + 1) 0 le (nh n kn kd fg (dy + 1) (2 ^ p) (fun q => (0 : Nat).testBit q)) = -4
            · rw [if_pos y, if_pos y, if_neg (show ¬ nI 1 = nI 0 by decide)]
              refine ⟨(s ||| 2 ^ p, t2), ?_, rfl, k3⟩
              simp only [X12_whoBegan_B90, X12_whoBegan_B92, nm, L1, nI_add, i_or, J.1]
            · rw [if_neg y, if_neg y, if_pos (show nI 0 = nI 0 from rfl)]
              refine ⟨(s, t2), ?_, rfl, k3⟩
              simp only [X12_whoBegan_B90, X12_whoBegan_B92, nm, L1, nI_add, i_or, J.1, Nat.or_zero])
        n FU 0 0 (0, h) (by omega) (FU_lt (by omega)) ⟨rfl, Keep.refl h⟩
      refine ⟨nI (itf (wbs n kn kd fg dy (lst so) el le) 0 n 0), t1, ?_, ?_, hK.inv I⟩
      · rw [e0, if_pos (show rrf 2 = 0 from rfl)]
        exact kc.1
      · unfold X12_whoBegan
        rw [m_rowRef h1 S (by decide), Option.bind_some, if_pos (show rrf 2 = 0 from rfl)]
        refine e2.trans ?_
        show some (nI s1, t1) = _
        rw [show s1 = _ from hs]
    · have hne := rrf_ne S.1.2.2 q
      refine ⟨rrf ho, h, by rw [e0, if_neg hne], ?_, I⟩
      unfold X12_whoBegan
      rw [m_rowRef h1 S (by decide), Option.bind_some, if_neg hne]
  · refine ⟨-1, h, ?_, ?_, I⟩
    · unfold X11_whoBegan
      rw [c_shelf_out hu]; rfl
    · unfold X12_whoBegan
      rw [m_row_out hu]; rfl
end TCALLS
