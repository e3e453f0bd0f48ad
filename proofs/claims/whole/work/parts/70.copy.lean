/-! copy: one move in the class, element by element in the model -/
theorem cpy_step_f {A : Nat → Int32} {s d m : Nat} (hread : ∀ t, t < m → s + m ≠ d + t) : upd (va_cpy A A s d m) (d + m) (va_cpy A A s d m (s + m)) = va_cpy A A s d (m + 1) := by
  have e : va_cpy A A s d m (s + m) = A (s + m) := pk_cpy_out (by
    refine Classical.byContradiction fun q => ?_
    have q1 : ¬ (s + m < d) := fun z => q (Or.inl z)
    have q2 : ¬ (d + m ≤ s + m) := fun z => q (Or.inr z)
    exact hread (s + m - d) (by omega) (by omega))
  rw [e]
  funext x
  by_cases hx : x = d + m
  · subst hx
    rw [pk_us, pk_cpy_in (by omega) (by omega)]
    congr 1; omega
  · rw [pk_un hx]
    by_cases h2 : d ≤ x ∧ x < d + m
    · rw [pk_cpy_in h2.1 h2.2, pk_cpy_in h2.1 (by omega)]
    · rw [pk_cpy_out (by omega), pk_cpy_out (by omega)]
theorem cpy_step_b {A : Nat → Int32} {s d n m : Nat} (hm : m < n) (hread : ∀ t, t < m → s + (n - 1 - m) ≠ d + (n - m) + t) : upd (va_cpy A A (s + (n - m)) (d + (n - m)) m) (d + (n - 1 - m)) (va_cpy A A (s + (n - m)) (d + (n - m)) m (s + (n - 1 - m))) = va_cpy A A (s + (n - (m + 1))) (d + (n - (m + 1))) (m + 1) := by
  have e : va_cpy A A (s + (n - m)) (d + (n - m)) m (s + (n - 1 - m)) = A (s + (n - 1 - m)) := pk_cpy_out (by
    refine Classical.byContradiction fun q => ?_
    have q1 : ¬ (s + (n - 1 - m) < d + (n - m)) := fun z => q (Or.inl z)
    have q2 : ¬ (d + (n - m) + m ≤ s + (n - 1 - m)) := fun z => q (Or.inr z)
    exact hread (s + (n - 1 - m) - (d + (n - m))) (by omega) (by omega))
  rw [e]
  funext x
  by_cases hx : x = d + (n - 1 - m)
  · subst hx
    rw [pk_us, pk_cpy_in (by omega) (by omega)]
    congr 1; omega
  · rw [pk_un hx]
    by_cases h2 : d + (n - m) ≤ x ∧ x < d + (n - m) + m
    · rw [pk_cpy_in h2.1 h2.2, pk_cpy_in (by omega) (by omega)]
      congr 1; omega
    · rw [pk_cpy_out (by omega), pk_cpy_out (by omega)]
section COPY
variable {h : HS}
set_option maxRecDepth 100000 in
theorem copy_done {k e i j n fu : Nat} (hn : n ≤ 100) {t : HS} : X12_copy_B122 (nI k) (nI i) (nI e) (nI j) (nI n) (fu + 1) (nI n) t = some (nI n, t) := by
  rw [X12_copy_B122, if_pos (nI_le (Nat.le_refl n) (by omega))]
set_option maxRecDepth 100000 in
theorem copy_b147 {k e i j n m x : Nat} (hk : k < 8) (he : e < 8) (hi : i + x < 100) (hj : j + x < 100) {K : Int32 → HS → Option (Int32 × HS)} {t : HS} : X12_copy_B147 (nI k) (nI i) (nI e) (nI j) (nI n) K (nI m) (nI x) t = K (nI (m + 1)) (sA t 81 (upd (aI t 81) (100 * e + j + x) (aI t 81 (100 * k + i + x)))) := by
  unfold X12_copy_B147
  simp (disch := omega) only [L100, L1, pk_mul, nI_add, gdi_n, i_cl, nm]
set_option maxRecDepth 100000 in
theorem copy_back {k e i j n m fu : Nat} (hk : k < 8) (he : e < 8) (hi : i + n ≤ 100) (hj : j + n ≤ 100) (hd : i ≤ j) (hm : m < n) {t : HS} : X12_copy_B122 (nI k) (nI i) (nI e) (nI j) (nI n) (fu + 1) (nI m) t = X12_copy_B122 (nI k) (nI i) (nI e) (nI j) (nI n) fu (nI (m + 1)) (sA t 81 (upd (aI t 81) (100 * e + j + (n - 1 - m)) (aI t 81 (100 * k + i + (n - 1 - m))))) := by
  rw [X12_copy_B122, if_neg (nI_ge hm (by omega)), if_pos (nI_le hd (by omega)), show nI n - 1 - nI m = nI (n - 1 - m) from by rw [L1, pk_sub (by omega), pk_sub (by omega)], copy_b147 hk he (by omega) (by omega)]
set_option maxRecDepth 100000 in
theorem copy_fore {k e i j n m fu : Nat} (hk : k < 8) (he : e < 8) (hi : i + n ≤ 100) (hj : j + n ≤ 100) (hd : ¬ i ≤ j) (hm : m < n) {t : HS} : X12_copy_B122 (nI k) (nI i) (nI e) (nI j) (nI n) (fu + 1) (nI m) t = X12_copy_B122 (nI k) (nI i) (nI e) (nI j) (nI n) fu (nI (m + 1)) (sA t 81 (upd (aI t 81) (100 * e + j + m) (aI t 81 (100 * k + i + m)))) := by
  rw [X12_copy_B122, if_neg (nI_ge hm (by omega)), if_neg (nI_ge (by omega) (by omega)), copy_b147 hk he (by omega) (by omega)]
theorem copy_keyb {k e i j n : Nat} {A : Nat → Int32} (hk : k < 8) (he : e < 8) (hi : i + n ≤ 100) (hj : j + n ≤ 100) (hd : i ≤ j) : ∀ r fu m, m + r = n → r < fu → X12_copy_B122 (nI k) (nI i) (nI e) (nI j) (nI n) fu (nI m) (sA h 81 (va_cpy A A (100 * k + i + (n - m)) (100 * e + j + (n - m)) m)) = some (nI n, sA h 81 (va_cpy A A (100 * k + i) (100 * e + j) n)) := by
  intro r
  induction r with
  | zero =>
    intro fu m hm hf
    obtain ⟨fu, rfl⟩ : ∃ f, fu = f + 1 := ⟨fu - 1, by omega⟩
    obtain rfl : m = n := by omega
    rw [copy_done (by omega), Nat.sub_self, Nat.add_zero, Nat.add_zero]
  | succ r ih =>
    intro fu m hm hf
    obtain ⟨fu, rfl⟩ : ∃ f, fu = f + 1 := ⟨fu - 1, by omega⟩
    rw [copy_back hk he hi hj hd (by omega), aI_sA_eq, sA_sA, cpy_step_b (A := A) (s := 100 * k + i) (d := 100 * e + j) (show m < n by omega) (fun t ht => by omega)]
    exact ih fu (m + 1) (by omega) (by omega)
theorem copy_keyf {k e i j n : Nat} {A : Nat → Int32} (hk : k < 8) (he : e < 8) (hi : i + n ≤ 100) (hj : j + n ≤ 100) (hd : ¬ i ≤ j) : ∀ r fu m, m + r = n → r < fu → X12_copy_B122 (nI k) (nI i) (nI e) (nI j) (nI n) fu (nI m) (sA h 81 (va_cpy A A (100 * k + i) (100 * e + j) m)) = some (nI n, sA h 81 (va_cpy A A (100 * k + i) (100 * e + j) n)) := by
  intro r
  induction r with
  | zero =>
    intro fu m hm hf
    obtain ⟨fu, rfl⟩ : ∃ f, fu = f + 1 := ⟨fu - 1, by omega⟩
    obtain rfl : m = n := by omega
    rw [copy_done (by omega)]
  | succ r ih =>
    intro fu m hm hf
    obtain ⟨fu, rfl⟩ : ∃ f, fu = f + 1 := ⟨fu - 1, by omega⟩
    rw [copy_fore hk he hi hj hd (by omega), aI_sA_eq, sA_sA, cpy_step_f (A := A) (s := 100 * k + i) (d := 100 * e + j) (fun t ht => by omega)]
    exact ih fu (m + 1) (by omega) (by omega)
theorem m_copy_loop {k e i j n : Nat} (hk : k < 8) (he : e < 8) (hi : i + n ≤ 100) (hj : j + n ≤ 100) : X12_copy_B122 (nI k) (nI i) (nI e) (nI j) (nI n) FU 0 h = some (nI n, sA h 81 (va_cpy (aI h 81) (aI h 81) (100 * k + i) (100 * e + j) n)) := by
  have z0 : va_cpy (aI h 81) (aI h 81) (100 * k + i + (n - 0)) (100 * e + j + (n - 0)) 0 = aI h 81 := by
    funext x; exact pk_cpy_out (by omega)
  have z1 : va_cpy (aI h 81) (aI h 81) (100 * k + i) (100 * e + j) 0 = aI h 81 := by
    funext x; exact pk_cpy_out (by omega)
  have e0 : sA h 81 (aI h 81) = h := sA_self rfl
  by_cases hd : i ≤ j
  · have := copy_keyb (h := h) (A := aI h 81) hk he hi hj hd n FU 0 (by omega) (FU_lt (by omega))
    rw [z0, e0] at this
    exact this
  · have := copy_keyf (h := h) (A := aI h 81) hk he hi hj hd n FU 0 (by omega) (FU_lt (by omega))
    rw [z1, e0] at this
    exact this
theorem c_hasPlaces {k ho so le : Nat} {el : Nat → Int32} (S : ShP h k ho so le el) {v w : Int32} : (∃ j n, j + n ≤ le ∧ v = nI j ∧ w = nI n ∧ X7_hasPlaces h (50 + 2 * k) v w = some (nI 1)) ∨ ((v < 0 ∨ w < 0 ∨ ∃ j n, le < j + n ∧ j < 2147483648 ∧ n < 2147483648 ∧ v = nI j ∧ w = nI n) ∧ X7_hasPlaces h (50 + 2 * k) v w = some (nI 0)) := by
  have hle := S.2.2.2.1.2.2
  unfold X7_hasPlaces
  rw [S.2.2.2.1.1]
  by_cases q1 : v < 0
  · exact Or.inr ⟨Or.inl q1, by rw [if_pos q1]; rfl⟩
  by_cases q2 : w < 0
  · exact Or.inr ⟨Or.inr (Or.inl q2), by rw [if_neg q1, if_pos q2]; rfl⟩
  obtain ⟨j, hj, rfl⟩ := nI_of q1
  obtain ⟨n, hn, rfl⟩ := nI_of q2
  rw [if_neg q1, if_neg q2]
  by_cases q3 : le < n
  · refine Or.inr ⟨Or.inr (Or.inr ⟨j, n, by omega, hj, hn, rfl, rfl⟩), ?_⟩
    simp (disch := omega) only [ltT, ite_true]; rfl
  · by_cases q4 : le - n < j
    · refine Or.inr ⟨Or.inr (Or.inr ⟨j, n, by omega, hj, hn, rfl, rfl⟩), ?_⟩
      simp (disch := omega) only [ltF, ltT, pk_sub, ite_true, ite_false]; rfl
    · refine Or.inl ⟨j, n, by omega, rfl, rfl, ?_⟩
      simp (disch := omega) only [ltF, pk_sub, ite_false]; rfl
/-- le - j < n as the model asks it -/
theorem m_room {le j n : Nat} (hle : le ≤ 100) (hj : j < 2147483648) (hn : n < 2147483648) : (nI le - nI j < nI n) = (le < j + n) := by
  rw [Int32.lt_iff_toInt_lt, Int32.toInt_sub, nI_toInt (show le < 2 ^ 31 by omega), nI_toInt hj, nI_toInt hn]
  have : ((le : Int) - (j : Int)).bmod (2 ^ 32) = (le : Int) - j := Int.bmod_eq_of_le (by omega) (by omega)
  rw [this]
  apply propext
  omega
theorem S_copy (I : Inv h) (u v a b c : Int32) : ∃ r h1 h2, X11_copy h u v a b c = some (r, h1) ∧ X12_copy h1 u v a b c = some (r, h2) ∧ Inv h2 := by
  rcases arg_in u 8 with ⟨k, h1, h2, rfl⟩ | hu
  · rcases arg_in a 8 with ⟨e, h3, h4, rfl⟩ | ha
    · obtain ⟨ho, so, le, el, S⟩ := I.2.2.1 k h1
      obtain ⟨ho', so', le', el', S'⟩ := I.2.2.1 e h3
      obtain ⟨s1, s2, s3, s4, s5, s6⟩ := id S
      obtain ⟨t1, t2, t3, t4, t5, t6⟩ := id S'
      have b1 := s1.2.2
      have b2 := t1.2.2
      have b3 := s3.2.2
      have b4 := t3.2.2
      have b5 := s4.2.2
      have b6 := t4.2.2
      have e0 : X11_copy h (nI k) v (nI e) b c = (if ho = 0 ∨ ho' = 0 then some (-11, h) else if ho ≠ 2 ∨ ho' ≠ 2 ∨ so ≠ so' then some (-12, h) else (X7_hasPlaces h (50 + 2 * k) v c).bind fun q16 => (if q16 = 0 then some ((-13), h) else (X7_hasPlaces h (50 + 2 * e) b c).bind fun q18 => (if q18 = 0 then some ((-13), h) else gdc v b c 100 100 <| nm (sA h (50 + 2 * e + 1) (va_cpy (aI h (50 + 2 * k + 1)) (aI h (50 + 2 * e + 1)) (v : Int32).toNatClampNeg (b : Int32).toNatClampNeg (c : Int32).toNatClampNeg)) fun h20 => some (c, h20)))) := by
        unfold X11_copy
        rw [c_shelf_in h1, c_shelf_in h3]
        show (X7_isEmpty h (50 + 2 * k)).bind _ = _
        rw [c_isEmpty S, Option.bind_some]
        by_cases q1 : ho = 0
        · rw [decide_eq_true q1, if_pos (Or.inl q1)]; rfl
        rw [decide_eq_false q1, if_pos (show nI false.toNat = 0 from rfl), c_isEmpty S', Option.bind_some]
        by_cases q2 : ho' = 0
        · rw [decide_eq_true q2, if_pos (Or.inr q2)]; rfl
        rw [decide_eq_false q2, if_pos (show nI false.toNat = 0 from rfl), c_holdsRow S, Option.bind_some, if_neg (show ¬ (ho = 0 ∨ ho' = 0) by omega)]
        by_cases q3 : ho = 2
        · rw [decide_eq_true q3, if_neg (show ¬ nI true.toNat = 0 by decide), c_holdsRow S', Option.bind_some]
          by_cases q4 : ho' = 2
          · rw [decide_eq_true q4, if_neg (show ¬ nI true.toNat = 0 by decide), s3.1, t3.1]
            by_cases q5 : so = so'
            · rw [if_neg (show ¬ (ho ≠ 2 ∨ ho' ≠ 2 ∨ so ≠ so') by omega), if_pos (by rw [q5])]
            · rw [if_pos (show (ho ≠ 2 ∨ ho' ≠ 2 ∨ so ≠ so') by omega), if_neg (by rw [nI_eq (by omega) (by omega)]; exact q5)]
          · rw [decide_eq_false q4, if_pos (show (ho ≠ 2 ∨ ho' ≠ 2 ∨ so ≠ so') by omega)]; rfl
        · rw [decide_eq_false q3, if_pos (show (ho ≠ 2 ∨ ho' ≠ 2 ∨ so ≠ so') by omega)]; rfl
      have em : ∀ t, aI t 76 = aI h 76 → aI t 79 = aI h 79 → aI t 80 = aI h 80 → X12_copy t (nI k) v (nI e) b c = (if ho = 0 ∨ ho' = 0 then some (-11, t) else if ho ≠ 2 ∨ ho' ≠ 2 ∨ so ≠ so' then some (-12, t) else (if c < 0 then some ((-13), t) else (if v < 0 then some ((-13), t) else (if b < 0 then some ((-13), t) else (if (nI le - v) < c then some ((-13), t) else (if c ≤ (nI le' - b) then X12_copy_B122 (nI k) v (nI e) b c FU 0 t else some ((-13), t))))))) := by
        intro t a1 a2 a3
        unfold X12_copy
        rw [m_shelf_in h1, Option.bind_some, if_neg (show ¬ nI 1 = 0 by decide), m_shelf_in h3, Option.bind_some, if_neg (show ¬ nI 1 = 0 by decide), a1, a2, a3]
        simp (disch := omega) only [gdi_n, i_cl, s1.2.1, t1.2.1, s3.2.1, t3.2.1, s4.2.1, t4.2.1]
        by_cases q1 : ho = 0
        · rw [if_pos (Or.inl q1), if_pos (by rw [q1]; rfl)]
        rw [if_neg (show ¬ nI ho = 0 from nI_ne0 (by omega) (by omega))]
        by_cases q2 : ho' = 0
        · rw [if_pos (Or.inr q2), if_pos (by rw [q2]; rfl)]
        rw [if_neg (show ¬ nI ho' = 0 from nI_ne0 (by omega) (by omega)), if_neg (show ¬ (ho = 0 ∨ ho' = 0) by omega)]
        by_cases q3 : ho = 2
        · rw [if_pos (show nI ho = 2 by rw [q3]; rfl)]
          by_cases q4 : ho' = 2
          · rw [if_pos (show nI ho' = 2 by rw [q4]; rfl)]
            by_cases q5 : so = so'
            · rw [if_neg (show ¬ (ho ≠ 2 ∨ ho' ≠ 2 ∨ so ≠ so') by omega), if_pos (by rw [q5])]
            · rw [if_pos (show (ho ≠ 2 ∨ ho' ≠ 2 ∨ so ≠ so') by omega), if_neg (by rw [nI_eq (by omega) (by omega)]; exact q5)]
          · rw [if_neg (show ¬ nI ho' = 2 by rw [L2, nI_eq (by omega) (by omega)]; exact q4), if_pos (show (ho ≠ 2 ∨ ho' ≠ 2 ∨ so ≠ so') by omega)]
        · rw [if_neg (show ¬ nI ho = 2 by rw [L2, nI_eq (by omega) (by omega)]; exact q3), if_pos (show (ho ≠ 2 ∨ ho' ≠ 2 ∨ so ≠ so') by omega)]
      by_cases p1 : ho = 0 ∨ ho' = 0
      · exact ⟨-11, h, h, by rw [e0, if_pos p1], by rw [em h rfl rfl rfl, if_pos p1], I⟩
      by_cases p2 : ho ≠ 2 ∨ ho' ≠ 2 ∨ so ≠ so'
      · exact ⟨-12, h, h, by rw [e0, if_neg p1, if_pos p2], by rw [em h rfl rfl rfl, if_neg p1, if_pos p2], I⟩
      have hso : so = so' := by omega
      rw [e0, if_neg p1, if_neg p2]
      rcases c_hasPlaces (v := v) (w := c) S with ⟨j, n, g1, rfl, rfl, g2⟩ | ⟨g1, g2⟩
      · rcases c_hasPlaces (v := b) (w := nI n) S' with ⟨i, n', g3, rfl, g4, g5⟩ | ⟨g3, g4⟩
        · -- the move
          have hn' : n' = n := by
            by_cases z : n' < 2147483648
            · exact ((nI_eq (by omega) z).mp g4).symm
            · omega
          subst hn'
          have emv := m_copy_loop (h := sA h (50 + 2 * e + 1) (va_cpy (aI h (50 + 2 * k + 1)) (aI h (50 + 2 * e + 1)) j i n')) (k := k) (e := e) (i := j) (j := i) (n := n') h1 h3 (by omega) (by omega)
          refine ⟨nI n', sA h (50 + 2 * e + 1) (va_cpy (aI h (50 + 2 * k + 1)) (aI h (50 + 2 * e + 1)) j i n'), ?_, ?_, ?_, ?_⟩
          rotate_left 2
          · rw [em _ (aI_sA_ne (by omega)) (aI_sA_ne (by omega)) (aI_sA_ne (by omega)), if_neg p1, if_neg p2, if_neg (nI_pos (by omega)), if_neg (nI_pos (by omega)), if_neg (nI_pos (by omega)), if_neg (by rw [m_room b5 (by omega) (by omega)]; omega)]
            rw [if_pos (by rw [pk_sub (by omega)]; exact nI_le (by omega) (by omega))]
            exact emv
          · refine I.s h3 ((FrS.refl.el h3).e h3 (fun x hx => pk_cpy_out (by omega))) ⟨ho', so', le', va_cpy el el' j i n', ⟨?_, ?_, t1.2.2⟩, fun q => absurd q (by omega), ⟨?_, ?_, t3.2.2⟩, ⟨?_, ?_, t4.2.2⟩, fun x hx => ⟨?_, ?_⟩, fun q x hx => ?_⟩
            · exact t1.1
            · simp (disch := omega) only [aI_sA_ne]; exact t1.2.1
            · exact t3.1
            · simp (disch := omega) only [aI_sA_ne]; exact t3.2.1
            · exact t4.1
            · simp (disch := omega) only [aI_sA_ne]; exact t4.2.1
            · simp (disch := omega) only [aI_sA_ne, aI_sA_eq]
              by_cases z : i ≤ x ∧ x < i + n'
              · rw [pk_cpy_in z.1 z.2, pk_cpy_in z.1 z.2]; exact (s5 _ (by omega)).1
              · rw [pk_cpy_out (by omega), pk_cpy_out (by omega)]; exact (t5 x hx).1
            · simp (disch := omega) only [aI_sA_ne, aI_sA_eq]
              by_cases z : i ≤ x ∧ x < i + n'
              · rw [pk_cpy_in (by omega) (by omega), pk_cpy_in z.1 z.2, show 100 * k + j + (100 * e + x - (100 * e + i)) = 100 * k + (j + (x - i)) by omega]; exact (s5 _ (by omega)).2
              · rw [pk_cpy_out (by omega), pk_cpy_out (by omega)]; exact (t5 x hx).2
            · by_cases z : i ≤ x ∧ x < i + n'
              · rw [pk_cpy_in z.1 z.2]; exact s6 (by omega) _ (by omega)
              · rw [pk_cpy_out (by omega)]; exact t6 q x hx
          · rw [g2, Option.bind_some, if_neg (show ¬ nI 1 = 0 by decide), g5, Option.bind_some, if_neg (show ¬ nI 1 = 0 by decide)]
            unfold gdc
            simp (disch := omega) only [i_cl]
            rw [if_neg]
            · rfl
            · intro z
              rcases z with z | z | z | z | z
              · exact absurd z (nI_pos (by omega))
              · exact absurd z (nI_pos (by omega))
              · exact absurd z (nI_pos (by omega))
              · omega
              · omega
        · refine ⟨-13, h, h, by rw [g2, Option.bind_some, if_neg (show ¬ nI 1 = 0 by decide), g4]; rfl, ?_, I⟩
          rw [em h rfl rfl rfl, if_neg p1, if_neg p2, if_neg (nI_pos (by omega)), if_neg (nI_pos (by omega))]
          rcases g3 with g3 | g3 | ⟨i, n', y1, y2, y3, rfl, y5⟩
          · rw [if_pos g3]
          · exact absurd g3 (nI_pos (by omega))
          · have hn' : n' = n := ((nI_eq (by omega) y3).mp y5).symm
            subst hn'
            rw [if_neg (nI_pos y2), if_neg (by rw [m_room b5 (by omega) (by omega)]; omega)]
            rw [if_neg]
            rw [Int32.not_le, m_room b6 y2 y3]; exact y1
      · refine ⟨-13, h, h, by rw [g2]; rfl, ?_, I⟩
        rw [em h rfl rfl rfl, if_neg p1, if_neg p2]
        rcases g1 with g1 | g1 | ⟨j, n, y1, y2, y3, rfl, rfl⟩
        · by_cases q : c < 0
          · rw [if_pos q]
          · rw [if_neg q, if_pos g1]
        · rw [if_pos g1]
        · rw [if_neg (nI_pos y3), if_neg (nI_pos y2)]
          by_cases q : b < 0
          · rw [if_pos q]
          · rw [if_neg q, if_pos (by rw [m_room b5 y2 y3]; exact y1)]
    · refine ⟨-1, h, h, ?_, ?_, I⟩
      · unfold X11_copy
        rw [c_shelf_in h1, c_shelf_out ha]; rfl
      · unfold X12_copy
        rw [m_shelf_in h1, m_shelf_out ha]; rfl
  · refine ⟨-1, h, h, ?_, ?_, I⟩
    · unfold X11_copy
      rw [c_shelf_out hu]
      rcases arg_in a 8 with ⟨e, h3, h4, rfl⟩ | ha
      · show (X11_shelfOf h (nI e)).bind _ = _
        rw [c_shelf_in h3]; rfl
      · show (X11_shelfOf h a).bind _ = _
        rw [c_shelf_out ha]; rfl
    · unfold X12_copy
      rw [m_shelf_out hu]; rfl
end COPY
