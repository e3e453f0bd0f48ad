/-! fire -/
/-- with whom q, the least of x, leaves as many twos as there can be; c: how many there can be -/
def fm (kn c : Nat → Nat) (q x : Nat) : Nat → Nat → Int32
  | _, 0 => -4
  | r, m + 1 => if x.testBit r = true ∧ (kn q).testBit r = true ∧ 1 + c (andn (andn x (2 ^ q)) (2 ^ r)) = c x then nI r else fm kn c q x (r + 1) m
theorem fm_cases {kn c : Nat → Nat} {q x : Nat} : ∀ m r, fm kn c q x r m = -4 ∨ ∃ s, r ≤ s ∧ s < r + m ∧ fm kn c q x r m = nI s := by
  intro m
  induction m with
  | zero => intro r; exact Or.inl rfl
  | succ m ih =>
    intro r
    rw [fm]
    by_cases z : x.testBit r = true ∧ (kn q).testBit r = true ∧ 1 + c (andn (andn x (2 ^ q)) (2 ^ r)) = c x
    · rw [if_pos z]; exact Or.inr ⟨r, Nat.le_refl r, by omega, rfl⟩
    · rw [if_neg z]
      rcases ih (r + 1) with h | ⟨s, h1, h2, h3⟩
      · exact Or.inl h
      · exact Or.inr ⟨s, by omega, by omega, h3⟩
theorem andn_or2 {x : Nat} (hx : x < 4294967296) (p q : Nat) : andn x (2 ^ p ||| 2 ^ q) = andn (andn x (2 ^ p)) (2 ^ q) := by
  refine ext_bits fun j => ?_
  rw [an_bit (an_lt hx p), an_bit hx, andn_bit hx, Nat.testBit_or, tb_pow, tb_pow]
  cases x.testBit j <;> cases decide (p = j) <;> cases decide (q = j) <;> rfl
section FIRE
variable {h : HS} {n : Nat} {kn kd fg : Nat → Nat} {hd dm dy : Nat}
theorem c_firstMate (w : WFk n kn) {t : HS} (L : LinL t 6 n kn) {c : Nat → Nat} (hc : ∀ y, y < 2 ^ n → aI t 8 y = nI (c y) ∧ c y ≤ 9) {q x : Nat} (hq : q < n) (hx : x < 2 ^ n) : X4_firstMate t 6 (nI q) (nI x) = some (fm kn c q x (q + 1) (n - (q + 1))) := by
  have w1 := w.1
  have h9 := pow_le9 w1
  have key : ∀ m r fu, r + m = n → m < fu → X4_firstMate_B4 t 6 (nI q) (nI x) fu (nI r) = some (fm kn c q x r m) := by
    intro m
    induction m with
    | zero =>
      intro r fu hr hf
      obtain ⟨fu, rfl⟩ : ∃ f, fu = f + 1 := ⟨fu - 1, by omega⟩
      rw [X4_firstMate_B4, L.1, if_pos (nI_le (by omega) (by omega))]; rfl
    | succ m ih =>
      intro r fu hr hf
      obtain ⟨fu, rfl⟩ : ∃ f, fu = f + 1 := ⟨fu - 1, by omega⟩
      have e57 : X4_firstMate_B57 t 6 (nI q) (nI x) (X4_firstMate_B4 t 6 (nI q) (nI x) fu) (nI r) = some (fm kn c q x (r + 1) m) := by
        unfold X4_firstMate_B57
        simp only [nm, L1, nI_add]
        exact ih (r + 1) fu (by omega) (by omega)
      have hle := andn_le x (2 ^ q ||| 2 ^ r)
      have hlt : (x &&& kn q) &&& 2 ^ r < 2147483648 := Nat.lt_of_le_of_lt Nat.and_le_left (Nat.lt_of_le_of_lt Nat.and_le_left (by omega))
      rw [X4_firstMate_B4, L.1, if_neg (nI_ge (by omega) (by omega)), i_pow (by omega), i_pow (by omega), i_or]
      simp only [nm]
      rw [c_around L (by omega), Option.bind_some, i_and, i_and, i_andn, e57, fm]
      by_cases z : x.testBit r = true ∧ (kn q).testBit r = true
      · have hz : ¬ (x &&& kn q) &&& 2 ^ r = 0 := by
          rw [fb_bit_nat, Nat.testBit_and, z.1, z.2]; decide
        obtain ⟨a1, a2⟩ := hc (andn x (2 ^ q ||| 2 ^ r)) (by omega)
        obtain ⟨b1, b2⟩ := hc x hx
        rw [if_neg (nI_ne0 (by omega) hlt), c_bestOf (by omega), Option.bind_some, c_bestOf (by omega), Option.bind_some, a1, b1, L1, nI_add, andn_or2 (by omega)]
        rw [andn_or2 (by omega)] at a2
        by_cases z2 : 1 + c (andn (andn x (2 ^ q)) (2 ^ r)) = c x
        · rw [if_pos (by rw [z2]), if_pos ⟨z.1, z.2, z2⟩]
        · rw [if_neg (by rw [nI_eq (by omega) (by omega)]; exact z2), if_neg (fun y => z2 y.2.2)]
      · have hz : (x &&& kn q) &&& 2 ^ r = 0 := by
          rw [fb_bit_nat, Nat.testBit_and]
          cases e1 : x.testBit r
          · rfl
          · cases e2 : (kn q).testBit r
            · rfl
            · exact absurd ⟨e1, e2⟩ z
        rw [if_pos (by rw [hz]; rfl), if_neg (fun y => z ⟨y.1, y.2.1⟩)]
  unfold X4_firstMate
  simp only [nm]
  rw [L1, nI_add]
  exact key _ (q + 1) FU (by omega) (FU_lt (by omega))
theorem m_beside (w : WFk n kn) {t : HS} (R : RowP (aI t 67) n kn kd fg hd dy) {c : Nat → Nat} (hc : ∀ y, y < 2 ^ n → aI t 74 y = nI (c y) ∧ c y ≤ 9) {q x : Nat} (hq : q < n) (hx : x < 2 ^ n) (hl : X12_leastIn (nI x) = some (nI q)) : X12_beside t (nI x) = some (fm kn c q x (q + 1) (n - (q + 1))) := by
  have w1 := w.1
  have h9 := pow_le9 w1
  have hkq := w.lt q
  have key : ∀ m r fu, r + m = n → m < fu → X12_beside_B9 t (nI x) fu (nI q) (nI r) = some (fm kn c q x r m) := by
    intro m
    induction m with
    | zero =>
      intro r fu hr hf
      obtain ⟨fu, rfl⟩ : ∃ f, fu = f + 1 := ⟨fu - 1, by omega⟩
      rw [X12_beside_B9, gdi0, cl0, R.1, if_pos (nI_le (by omega) (by omega))]; rfl
    | succ m ih =>
      intro r fu hr hf
      obtain ⟨fu, rfl⟩ : ∃ f, fu = f + 1 := ⟨fu - 1, by omega⟩
      have e75 : X12_beside_B75 t (nI x) (X12_beside_B9 t (nI x) fu) (nI q) (nI r) = some (fm kn c q x (r + 1) m) := by
        unfold X12_beside_B75
        simp only [nm, L1, nI_add]
        exact ih (r + 1) fu (by omega) (by omega)
      have hle := andn_le (andn x (2 ^ q)) (2 ^ r)
      have hle1 := andn_le x (2 ^ q)
      rw [X12_beside_B9, gdi0, cl0, R.1, if_neg (nI_ge (by omega) (by omega)), has_n (by omega) (by omega), Option.bind_some, L2, m_of, Option.bind_some, gdi_n (show 3 + 3 * q + 2 < 30 by omega) (by omega), i_cl (show 3 + 3 * q + 2 < 2147483648 by omega), (R.2.2.2 q (show q < 9 by omega)).2.2, has_n (by omega) (by omega), Option.bind_some, i_pow (by omega), i_pow (by omega), i_andn, i_andn, gdi_n (show andn (andn x (2 ^ q)) (2 ^ r) < 512 by omega) (by omega), gdi_n (show x < 512 by omega) (by omega), i_cl (show andn (andn x (2 ^ q)) (2 ^ r) < 2147483648 by omega), i_cl (show x < 2147483648 by omega), e75, fm]
      obtain ⟨a1, a2⟩ := hc (andn (andn x (2 ^ q)) (2 ^ r)) (by omega)
      obtain ⟨b1, b2⟩ := hc x hx
      rw [a1, b1]
      cases e1 : x.testBit r
      · rw [if_pos (show nI false.toNat = 0 from rfl), if_neg (fun y => absurd y.1 (by decide))]
      · rw [if_neg (show ¬ nI true.toNat = 0 by decide)]
        cases e2 : (kn q).testBit r
        · rw [if_pos (show nI false.toNat = 0 from rfl), if_neg (fun y => absurd y.2.1 (by decide))]
        · rw [if_neg (show ¬ nI true.toNat = 0 by decide), L1, nI_add]
          by_cases z2 : 1 + c (andn (andn x (2 ^ q)) (2 ^ r)) = c x
          · rw [if_pos (by rw [z2]), if_pos ⟨rfl, rfl, z2⟩]
          · rw [if_neg (by rw [nI_eq (by omega) (by omega)]; exact z2), if_neg (fun y => z2 y.2.2)]
  unfold X12_beside
  rw [hl, Option.bind_some]
  simp only [nm]
  rw [L1, nI_add]
  exact key _ (q + 1) FU (by omega) (FU_lt (by omega))
theorem fire_walk (w : WFk n kn) {t t2 : HS} (L : LinL t 6 n kn) (R : RowP (aI t2 67) n kn kd fg hd dy) {c : Nat → Nat} (hc : ∀ y, y < 2 ^ n → aI t 8 y = nI (c y) ∧ c y ≤ 9) (hc2 : ∀ y, y < 2 ^ n → aI t2 74 y = nI (c y) ∧ c y ≤ 9) {p : Nat} (hp : p < n) :
    ∀ m q f1 f2 x, q + m = n → m < f1 → m < f2 → x < 2 ^ n → (∀ j, j < q → x.testBit j = false) → ∃ r, X4_mateOf_B16 6 (nI p) f1 (nI x) (nI q) t = some (r, t) ∧ X12_fire_B41 (nI p) f2 (nI x) t2 = some (r, t2) := by
  have w1 := w.1
  have h9 := pow_le9 w1
  intro m
  induction m with
  | zero =>
    intro q f1 f2 x hq hf1 hf2 hx hlow
    obtain ⟨f1, rfl⟩ : ∃ f, f1 = f + 1 := ⟨f1 - 1, by omega⟩
    obtain ⟨f2, rfl⟩ : ∃ f, f2 = f + 1 := ⟨f2 - 1, by omega⟩
    have h0 : x = 0 := by
      refine ext_bits fun j => ?_
      rw [Nat.zero_testBit]
      by_cases e : j < q
      · exact hlow j e
      · exact bit_lt hx (by omega)
    refine ⟨-4, ?_, ?_⟩
    · rw [X4_mateOf_B16, L.1, if_pos (nI_le (by omega) (by omega))]
    · rw [X12_fire_B41, if_pos (by rw [h0]; rfl)]
  | succ m ih =>
    intro q f1 f2 x hq hf1 hf2 hx hlow
    obtain ⟨f1, rfl⟩ : ∃ f, f1 = f + 1 := ⟨f1 - 1, by omega⟩
    have e78 : ∀ u, X4_mateOf_B78 6 (nI p) (X4_mateOf_B16 6 (nI p) f1) u (nI q) t = X4_mateOf_B16 6 (nI p) f1 u (nI (q + 1)) t := by
      intro u
      simp only [X4_mateOf_B78, nm, L1, nI_add]
    rw [X4_mateOf_B16, L.1, if_neg (nI_ge (by omega) (by omega)), show (nI x >>> (nI q &&& 31)) &&& 1 = nI (x.testBit q).toNat from i_bit (by omega) (by omega)]
    simp only [e78]
    cases eq : x.testBit q
    · rw [if_pos (show nI false.toNat = 0 from rfl)]
      exact ih (q + 1) f1 f2 x (by omega) (by omega) (by omega) hx (fun j hj => by
        by_cases e : j = q
        · subst e; exact eq
        · exact hlow j (by omega))
    · rw [if_neg (show ¬ nI true.toNat = 0 by decide)]
      obtain ⟨f2, rfl⟩ : ∃ f, f2 = f + 1 := ⟨f2 - 1, by omega⟩
      have hx0 : x ≠ 0 := fun e => by rw [e, Nat.zero_testBit] at eq; exact absurd eq (by decide)
      obtain ⟨a, a1, a2, a3, a4⟩ := m_least w1 hx hx0
      have ea : a = q := by
        rcases Nat.lt_trichotomy a q with z | z | z
        · rw [hlow a z] at a2; exact absurd a2 (by decide)
        · exact z
        · rw [a3 q z] at eq; exact absurd eq (by decide)
      subst ea
      have hle := andn_le x (2 ^ a)
      rw [X12_fire_B41, if_neg (nI_ne0 (by omega) (by omega)), a4, Option.bind_some, m_beside w R hc2 a1 hx a4, Option.bind_some, c_firstMate w L hc a1 hx, Option.bind_some]
      by_cases e1 : a = p
      · subst e1
        exact ⟨_, by rw [if_pos rfl], by rw [if_pos rfl]⟩
      · have ne1 : ¬ nI a = nI p := by rw [nI_eq (by omega) (by omega)]; exact e1
        rw [if_neg ne1, if_neg ne1]
        have low1 : ∀ j, j < a + 1 → (andn x (2 ^ a)).testBit j = false := fun j hj => by
          rw [an_bit (show x < 4294967296 by omega)]
          by_cases e : j = a
          · subst e; simp
          · rw [hlow j (by omega)]; rfl
        rcases fm_cases (kn := kn) (c := c) (q := a) (x := x) (n - (a + 1)) (a + 1) with e2 | ⟨s, s1, s2, e2⟩
        · rw [e2]
          have ne2 : ¬ (-4 : Int32) = nI p := fun z => by
            have : nI p < 0 := by rw [← z]; decide
            exact absurd this (nI_pos (by omega))
          rw [if_neg ne2, if_neg ne2, if_neg (show ¬ (0 : Int32) ≤ -4 by decide)]
          unfold X12_fire_B97
          simp only [nm]
          rw [if_pos (show (-4 : Int32) < 0 by decide), i_pow (by omega), i_andn]
          exact ih (a + 1) f1 f2 _ (by omega) (by omega) (by omega) (by omega) low1
        · rw [e2]
          by_cases e3 : s = p
          · subst e3
            exact ⟨_, by rw [if_pos rfl], by rw [if_pos rfl]⟩
          · have ne3 : ¬ nI s = nI p := by rw [nI_eq (by omega) (by omega)]; exact e3
            rw [if_neg ne3, if_neg ne3, if_pos (show (0 : Int32) ≤ nI s from nI_pos' (by omega))]
            unfold X12_fire_B97
            simp only [nm]
            have hle2 := andn_le (andn x (2 ^ a)) (2 ^ s)
            rw [if_neg (nI_pos (by omega)), i_pow (by omega), i_pow (by omega), i_or, i_andn, i_andn, i_andn, andn_or2 (show x < 4294967296 by omega)]
            exact ih (a + 1) f1 f2 _ (by omega) (by omega) (by omega) (by omega) (fun j hj => by
              rw [an_bit (an_lt (show x < 4294967296 by omega) a), low1 j hj]; rfl)
theorem S_fire (I : Inv h) (u : Int32) : ∃ r h1 h2, X11_fire h u = some (r, h1) ∧ X12_fire h1 u = some (r, h2) ∧ Inv h2 := by
  obtain ⟨n, kn, kd, fg, hd, dm, dy, N⟩ := id I.1
  have w := N.1.1
  have w1 := w.1
  have h9 := pow_le9 w1
  have hpos := Nat.two_pow_pos n
  obtain ⟨t, e1, k1, B1⟩ := c_mostTwos N I.2.2.2
  have N1 := k1.now N
  obtain ⟨t2, e2, k2, B2⟩ := m_warms N1
  have N2 := k2.now N1
  have hc : ∀ y, y < 2 ^ n → aI t 8 y = nI (aI t 8 y).toNatClampNeg ∧ (aI t 8 y).toNatClampNeg ≤ 9 := fun y hy => ⟨(BI_c B1 hy).2.1, (BI_c B1 hy).1⟩
  have hc2 : ∀ y, y < 2 ^ n → aI t2 74 y = nI (aI t 8 y).toNatClampNeg ∧ (aI t 8 y).toNatClampNeg ≤ 9 := fun y hy => by
    obtain ⟨a1, a2, a3⟩ := BI_c B1 hy
    obtain ⟨b1, b2, b3⟩ := BI_c B2 hy
    rw [mxM_one a3 b3]
    exact ⟨b2, b1⟩
  have I2 : Inv t2 := (k1.trans k2).inv I
  have e15 : ∀ v, X12_fire_B15 v t = (if 0 ≤ v then X12_fire_B41 v FU (nI (2 ^ n - 1)) t2 else some (aI t2 74 (2 ^ n - 1), t2)) := by
    intro v
    unfold X12_fire_B15
    rw [e2, Option.bind_some, gdi0, cl0, N2.2.2.2.1, i_pow (by omega), L1, pk_sub hpos]
    simp only [nm]
    rw [gdi_n (show 2 ^ n - 1 < 512 by omega) (by omega), i_cl (show 2 ^ n - 1 < 2147483648 by omega)]
  by_cases hm : u = -1
  · subst hm
    refine ⟨aI t 8 (2 ^ n - 1), t, t2, ?_, ?_, I2⟩
    · unfold X11_fire
      rw [if_pos rfl, e1]; rfl
    · unfold X12_fire
      rw [if_pos rfl, e15, if_neg (by decide), (hc2 _ (by omega)).1, ← (hc _ (by omega)).1]
  · rcases arg_in u n with ⟨p, hp, hp2, rfl⟩ | hu
    · obtain ⟨r, f1, f2⟩ := fire_walk w N1.2.2.1.1 N2.2.2.2 hc hc2 hp n 0 FU FU (2 ^ n - 1) (by omega) (FU_lt (by omega)) (FU_lt (by omega)) (by omega) (fun j hj => absurd hj (by omega))
      refine ⟨r, t, t2, ?_, ?_, I2⟩
      · unfold X11_fire
        rw [if_neg hm, c_has_in N.2.2.1 hp w1, Option.bind_some, if_neg (show ¬ nI 1 = 0 by decide)]
        unfold X4_mateOf
        rw [e1, Option.bind_some, N1.2.2.1.1.1, i_pow (by omega), L1, pk_sub hpos]
        simp only [nm]
        rw [show X4_mateOf_B16 6 (nI p) FU (nI (2 ^ n - 1)) 0 t = some (r, t) from f1]
        rfl
      · unfold X12_fire
        rw [if_neg hm, m_isOne_in N1.2.2.2 hp w1, Option.bind_some, if_neg (show ¬ nI 1 = 0 by decide), e15, if_pos (show (0 : Int32) ≤ nI p from nI_pos' (by omega))]
        exact f2
    · refine ⟨-1, h, h, ?_, ?_, I⟩
      · unfold X11_fire
        rw [if_neg hm, c_has_out N.2.2.1 w1 hu]; rfl
      · unfold X12_fire
        rw [if_neg hm, m_isOne_out N.2.2.2 w1 hu]; rfl
end FIRE
