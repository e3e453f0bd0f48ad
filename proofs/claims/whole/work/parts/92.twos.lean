/-! twos by the fire: as many as there can be -/
def mat (kn : Nat → Nat) : Nat → Nat → Prop
  | 0, _ => True
  | k + 1, x => ∃ a b, x.testBit a = true ∧ x.testBit b = true ∧ (kn a).testBit b = true ∧ mat kn k (andn (andn x (2 ^ a)) (2 ^ b))
theorem an_bit {x : Nat} (hx : x < 4294967296) (p j : Nat) : (andn x (2 ^ p)).testBit j = (x.testBit j && !decide (p = j)) := by
  rw [andn_bit hx, tb_pow]
theorem an_lt {x : Nat} (hx : x < 4294967296) (p : Nat) : andn x (2 ^ p) < 4294967296 := Nat.lt_of_le_of_lt (andn_le x _) hx
theorem an_in {x p j : Nat} (hx : x < 4294967296) (h : x.testBit j = true) (e : p ≠ j) : (andn x (2 ^ p)).testBit j = true := by
  rw [an_bit hx, h]; simp [e]
theorem mat_mono {kn : Nat → Nat} : ∀ (k x y : Nat), x < 4294967296 → y < 4294967296 → sbt x y → mat kn k x → mat kn k y := by
  intro k
  induction k with
  | zero => intro x y _ _ _ _; exact True.intro
  | succ k ih =>
    intro x y hx hy s m
    obtain ⟨a, b, ha, hb, hab, m⟩ := m
    refine ⟨a, b, s a ha, s b hb, hab, ih _ _ (an_lt (an_lt hx a) b) (an_lt (an_lt hy a) b) (fun j hj => ?_) m⟩
    rw [an_bit (an_lt hx a), an_bit hx] at hj
    rw [an_bit (an_lt hy a), an_bit hy]
    cases e : x.testBit j
    · rw [e] at hj; exact absurd hj (by simp)
    · rw [e] at hj; rw [s j e]; exact hj
theorem mat_top {n : Nat} {kn : Nat → Nat} (w : WFk n kn) : ∀ (k x p : Nat), x < 4294967296 → x.testBit p = true → mat kn (k + 1) x → mat kn (k + 1) (andn x (2 ^ p)) ∨ ∃ q, x.testBit q = true ∧ (kn p).testBit q = true ∧ mat kn k (andn (andn x (2 ^ p)) (2 ^ q)) := by
  intro k
  induction k with
  | zero =>
    intro x p hx hp m
    obtain ⟨a, b, ha, hb, hab, _⟩ := m
    by_cases e1 : a = p
    · subst e1; exact Or.inr ⟨b, hb, hab, True.intro⟩
    · by_cases e2 : b = p
      · subst e2; exact Or.inr ⟨a, ha, by rw [w.2.2.2.1]; exact hab, True.intro⟩
      · exact Or.inl ⟨a, b, an_in hx ha (fun z => e1 z.symm), an_in hx hb (fun z => e2 z.symm), hab, True.intro⟩
  | succ k ih =>
    intro x p hx hp m
    obtain ⟨a, b, ha, hb, hab, m⟩ := m
    by_cases e1 : a = p
    · subst e1; exact Or.inr ⟨b, hb, hab, m⟩
    · by_cases e2 : b = p
      · subst e2
        refine Or.inr ⟨a, ha, by rw [w.2.2.2.1]; exact hab, ?_⟩
        rw [andn_comm hx]; exact m
      · rcases ih _ p (an_lt (an_lt hx a) b) (an_in (an_lt hx a) (an_in hx hp e1) e2) m with h | ⟨q, h1, h2, h3⟩
        · refine Or.inl ⟨a, b, an_in hx ha (fun z => e1 z.symm), an_in hx hb (fun z => e2 z.symm), hab, ?_⟩
          rw [andn_comm hx (2 ^ p), andn_comm (an_lt hx a)]
          exact h
        · rw [an_bit (an_lt hx a), an_bit hx, Bool.and_eq_true, Bool.and_eq_true] at h1
          have qa : a ≠ q := by simpa using h1.1.2
          have qb : b ≠ q := by simpa using h1.2
          refine Or.inr ⟨q, h1.1.1, h2, a, b, an_in (an_lt hx p) (an_in hx ha (fun z => e1 z.symm)) (fun z => qa z.symm), an_in (an_lt hx p) (an_in hx hb (fun z => e2 z.symm)) (fun z => qb z.symm), hab, ?_⟩
          rw [andn_comm (an_lt hx p) (2 ^ q), andn_comm hx (2 ^ p), andn_comm (an_lt (an_lt hx a) p) (2 ^ q), andn_comm (an_lt hx a) (2 ^ p)]
          exact h3
def mxM (kn : Nat → Nat) (x r : Nat) : Prop := mat kn r x ∧ ∀ k, mat kn k x → k ≤ r
theorem mxM_one {kn : Nat → Nat} {x r s : Nat} (a : mxM kn x r) (b : mxM kn x s) : r = s := Nat.le_antisymm (b.2 r a.1) (a.2 s b.1)
theorem mxM_0 {kn : Nat → Nat} : mxM kn 0 0 := by
  refine ⟨True.intro, fun k hk => ?_⟩
  cases k with
  | zero => exact Nat.le_refl 0
  | succ k =>
    obtain ⟨a, b, ha, _⟩ := hk
    rw [Nat.zero_testBit] at ha
    exact absurd ha (by decide)
theorem mat_le {n : Nat} {kn : Nat → Nat} (w : WFk n kn) : ∀ (p k x : Nat), p ≤ 9 → x < 2 ^ p → mat kn k x → k ≤ p := by
  intro p
  induction p with
  | zero =>
    intro k x _ hx hk
    have : x = 0 := by simpa using hx
    rw [this] at hk
    exact mxM_0.2 k hk
  | succ p ih =>
    intro k x hp hx hk
    have h9 : x < 4294967296 := Nat.lt_of_lt_of_le (Nat.lt_of_lt_of_le hx (Nat.pow_le_pow_right (by decide) hp)) (by decide)
    have hlt : ∀ y, y < 2 ^ (p + 1) → y.testBit p = false → y < 2 ^ p := fun y hy e => lt_bits fun j hj => by
      by_cases z : j = p
      · subst z; exact e
      · exact bit_lt hy (by omega)
    cases k with
    | zero => omega
    | succ k =>
      cases e : x.testBit p
      · have := ih (k + 1) x (by omega) (hlt x hx e) hk
        omega
      · have l1 : andn x (2 ^ p) < 2 ^ p := hlt _ (Nat.lt_of_le_of_lt (andn_le x _) hx) (by rw [an_bit h9]; simp)
        rcases mat_top w k x p h9 e hk with h | ⟨q, _, _, h3⟩
        · have := ih (k + 1) _ (by omega) l1 h
          omega
        · have := ih k _ (by omega) (Nat.lt_of_le_of_lt (andn_le _ (2 ^ q)) l1) h3
          omega
theorem mxM_step {n : Nat} {kn : Nat → Nat} (w : WFk n kn) {c : Nat → Nat} {x r p : Nat} (hx : x < 4294967296) (hp : x.testBit p = true) (hc : ∀ y, y < x → mxM kn y (c y)) (h0 : c (andn x (2 ^ p)) ≤ r)
    (h1 : ∀ q, x.testBit q = true → (kn p).testBit q = true → c (andn (andn x (2 ^ p)) (2 ^ q)) + 1 ≤ r) (h2 : r = c (andn x (2 ^ p)) ∨ ∃ q, x.testBit q = true ∧ (kn p).testBit q = true ∧ r = c (andn (andn x (2 ^ p)) (2 ^ q)) + 1) : mxM kn x r := by
  have s1 : sbt (2 ^ p) x := fun j hj => by
    rw [tb_pow] at hj
    have : p = j := by simpa using hj
    rw [← this]; exact hp
  have hpos := Nat.two_pow_pos p
  have l1 : andn x (2 ^ p) < x := andn_lt hx s1 (by omega)
  have l2 : ∀ q, andn (andn x (2 ^ p)) (2 ^ q) < x := fun q => Nat.lt_of_le_of_lt (andn_le _ _) l1
  constructor
  · rcases h2 with rfl | ⟨q, a, b, rfl⟩
    · refine mat_mono _ _ _ (an_lt hx p) hx (fun j hj => ?_) (hc _ l1).1
      rw [an_bit hx, Bool.and_eq_true] at hj
      exact hj.1
    · exact ⟨p, q, hp, a, b, (hc _ (l2 q)).1⟩
  · intro k hk
    cases k with
    | zero => exact Nat.zero_le r
    | succ k =>
      rcases mat_top w k x p hx hp hk with h | ⟨q, a, b, h3⟩
      · have := (hc _ l1).2 _ h
        omega
      · have := (hc _ (l2 q)).2 _ h3
        have := h1 q a b
        omega
section TWOS
variable {h : HS} {n : Nat} {kn kd fg : Nat → Nat} {hd dm dy : Nat}
theorem c_twosWith (w : WFk n kn) {t : HS} (L : LinL t 6 n kn) {p o : Nat} (hp : p < n) (ho : o < 2 ^ p) (B : BI (mxM kn) t 8 (2 ^ p + o)) : ∃ r, X4_twosWith t 6 (nI p) (nI o) = some (nI r) ∧ r ≤ 9 ∧ mxM kn (2 ^ p + o) r := by
  have w1 := w.1
  have h9 := pow_le9 w1
  have hpn := pow_lt hp
  have h256 : 2 ^ p ≤ 256 := show 2 ^ p ≤ 2 ^ 8 from Nat.pow_le_pow_right (by decide) (by omega)
  have hpos := Nat.two_pow_pos p
  have hor := or_top ho
  obtain ⟨b1, b2, b3⟩ := BI_c B (show o < 2 ^ p + o by omega)
  obtain ⟨r, e, j0, j1, j2, j3⟩ := loopR (fun fu k (r : Nat) => X4_twosWith_B9 t 6 (nI p) (nI o) fu (nI r) (nI k)) (fun r => some (nI r)) p (fun _ (s : Unit) => s)
    (fun k _ r => r ≤ 10 ∧ (aI t 8 o).toNatClampNeg ≤ r ∧ (∀ q, q < k → o.testBit q = true → (kn p).testBit q = true → (aI t 8 (andn o (2 ^ q))).toNatClampNeg + 1 ≤ r) ∧ (r = (aI t 8 o).toNatClampNeg ∨ ∃ q, o.testBit q = true ∧ (kn p).testBit q = true ∧ r = (aI t 8 (andn o (2 ^ q))).toNatClampNeg + 1))
    (fun fu _ r _ => by
      show X4_twosWith_B9 t 6 (nI p) (nI o) (fu + 1) (nI r) (nI p) = _
      rw [X4_twosWith_B9, if_pos (nI_le (by omega) (by omega))])
    (fun fu k _ r hk J => by
      obtain ⟨j0, j1, j2, j3⟩ := J
      have e49 : ∀ u, X4_twosWith_B49 t 6 (nI p) (nI o) (X4_twosWith_B9 t 6 (nI p) (nI o) fu) u (nI k) = X4_twosWith_B9 t 6 (nI p) (nI o) fu u (nI (k + 1)) := by
        intro u
        simp only [X4_twosWith_B49, nm, L1, nI_add]
      have e0 : X4_twosWith_B9 t 6 (nI p) (nI o) (fu + 1) (nI r) (nI k) = (if nI ((o &&& kn p) &&& 2 ^ k) = 0 then X4_twosWith_B9 t 6 (nI p) (nI o) fu (nI r) (nI (k + 1)) else (X4_bestOf t 6 (nI (andn o (2 ^ k)))).bind fun q5 => X4_twosWith_B9 t 6 (nI p) (nI o) fu (if nI r < (1 + q5) then (1 + q5) else nI r) (nI (k + 1))) := by
        rw [X4_twosWith_B9, if_neg (nI_ge (by omega) (by omega)), c_around L (by omega), Option.bind_some, i_pow (by omega), i_and, i_and, i_andn]
        simp only [e49, nm]
      have hlt : (o &&& kn p) &&& 2 ^ k < 2147483648 := Nat.lt_of_le_of_lt Nat.and_le_left (Nat.lt_of_le_of_lt Nat.and_le_left (by omega))
      show ∃ t1 : Nat, X4_twosWith_B9 t 6 (nI p) (nI o) (fu + 1) (nI r) (nI k) = X4_twosWith_B9 t 6 (nI p) (nI o) fu (nI t1) (nI (k + 1)) ∧ t1 ≤ 10 ∧ (aI t 8 o).toNatClampNeg ≤ t1 ∧ (∀ q, q < k + 1 → o.testBit q = true → (kn p).testBit q = true → (aI t 8 (andn o (2 ^ q))).toNatClampNeg + 1 ≤ t1) ∧ (t1 = (aI t 8 o).toNatClampNeg ∨ ∃ q, o.testBit q = true ∧ (kn p).testBit q = true ∧ t1 = (aI t 8 (andn o (2 ^ q))).toNatClampNeg + 1)
      rw [e0]
      by_cases z : o.testBit k = true ∧ (kn p).testBit k = true
      · have hz : ¬ (o &&& kn p) &&& 2 ^ k = 0 := by
          rw [fb_bit_nat, Nat.testBit_and, z.1, z.2]; decide
        have hle := andn_le o (2 ^ k)
        obtain ⟨d1, d2, d3⟩ := BI_c B (show andn o (2 ^ k) < 2 ^ p + o by omega)
        rw [if_neg (nI_ne0 (by omega) hlt), c_bestOf (by omega), Option.bind_some, d2, L1, nI_add]
        generalize hv : (aI t 8 (andn o (2 ^ k))).toNatClampNeg = v at d1 d2 d3
        by_cases z2 : r < 1 + v
        · rw [if_pos (nI_lt z2 (by omega))]
          refine ⟨1 + v, rfl, by omega, by omega, fun q hq s i => ?_, Or.inr ⟨k, z.1, z.2, by rw [hv]; omega⟩⟩
          by_cases e : q = k
          · subst e; rw [hv]; omega
          · have := j2 q (by omega) s i
            omega
        · rw [if_neg (nI_nlt (by omega) (by omega))]
          refine ⟨r, rfl, j0, j1, fun q hq s i => ?_, j3⟩
          by_cases e : q = k
          · subst e; rw [hv]; omega
          · exact j2 q (by omega) s i
      · have hz : (o &&& kn p) &&& 2 ^ k = 0 := by
          rw [fb_bit_nat, Nat.testBit_and]
          cases e1 : o.testBit k
          · rfl
          · cases e2 : (kn p).testBit k
            · rfl
            · exact absurd ⟨e1, e2⟩ z
        rw [if_pos (by rw [hz]; rfl)]
        refine ⟨r, rfl, j0, j1, fun q hq s i => ?_, j3⟩
        by_cases e : q = k
        · subst e; exact absurd ⟨s, i⟩ z
        · exact j2 q (by omega) s i)
    p FU 0 () (aI t 8 o).toNatClampNeg (by omega) (FU_lt (by omega)) ⟨by omega, Nat.le_refl _, fun q hq => absurd hq (by omega), Or.inl rfl⟩
  have h8 : o ||| 2 ^ p < 4294967296 := by rw [hor]; omega
  have hc : ∀ y, y < 2 ^ p + o → mxM kn y (aI t 8 y).toNatClampNeg := fun y hy => (BI_c B hy).2.2
  have eo : andn (o ||| 2 ^ p) (2 ^ p) = o := by
    refine ext_bits fun j => ?_
    rw [an_bit h8, or_bit]
    by_cases z : p = j
    · subst z; rw [bit_lt ho (Nat.le_refl p)]; simp
    · simp [z]
  have hq : ∀ q, (o ||| 2 ^ p).testBit q = true → (kn p).testBit q = true → o.testBit q = true := fun q h1 h2 => by
    rw [or_bit] at h1
    by_cases z : p = q
    · subst z; rw [w.2.2.2.2] at h2; exact absurd h2 (by decide)
    · simpa [z] using h1
  have hM : mxM kn (2 ^ p + o) r := by
    rw [← hor] at hc ⊢
    refine mxM_step w (c := fun y => (aI t 8 y).toNatClampNeg) h8 (p := p) (by rw [or_bit]; simp) hc (by rw [eo]; exact j1) (fun q h1 h2 => ?_) ?_
    · have h3 := hq q h1 h2
      rw [eo]
      refine j2 q ?_ h3 h2
      refine Classical.byContradiction fun z => ?_
      rw [bit_lt ho (by omega)] at h3
      exact absurd h3 (by decide)
    · rw [eo]
      rcases j3 with j3 | ⟨q, h1, h2, h3⟩
      · exact Or.inl j3
      · exact Or.inr ⟨q, by rw [or_bit, h1]; rfl, h2, h3⟩
  refine ⟨r, ?_, ?_, hM⟩
  · unfold X4_twosWith
    rw [c_bestOf (by omega), Option.bind_some, b2]
    exact e
  · have hx : 2 ^ p + o < 2 ^ (p + 1) := by rw [Nat.pow_succ]; omega
    have := mat_le w (p + 1) r _ (by omega) hx hM.1
    omega
theorem c_mostTwos (N : NowP h n kn kd fg hd dm dy) (h0 : aI h 8 0 = 0) : ∃ t, X4_mostTwos h 6 = some (aI t 8 (2 ^ n - 1), t) ∧ Keep h t ∧ BI (mxM kn) t 8 (2 ^ n) := by
  have w := N.1.1
  have w1 := w.1
  have h9 := pow_le9 w1
  have hpos := Nat.two_pow_pos n
  obtain ⟨t, e, k1, B⟩ := loopR (fun fu p (u : HS) => X4_mostTwos_B2 6 fu (nI p) u) (fun u => some (aI u 8 (2 ^ n - 1), u)) n (fun _ (s : Unit) => s) (fun p _ u => Keep h u ∧ BI (mxM kn) u 8 (2 ^ p))
    (fun fu _ u J => by
      show X4_mostTwos_B2 6 (fu + 1) (nI n) u = _
      have L := J.1.lin (Or.inl rfl) N.2.2.1.1
      rw [X4_mostTwos_B2, L.1, if_pos (nI_le (by omega) (by omega)), i_pow (by omega), L1, pk_sub hpos, c_bestOf (by omega)]
      rfl)
    (fun fu p _ u hp J => by
      have hpn := pow_lt hp
      have L := J.1.lin (Or.inl rfl) N.2.2.1.1
      obtain ⟨t2, e2, k2, B2⟩ := loopR (fun fu2 o (u : HS) => X4_mostTwos_B12 6 (X4_mostTwos_B2 6 fu) fu2 (nI p) (nI o) u) (fun u => X4_mostTwos_B2 6 fu (nI (p + 1)) u) (2 ^ p) (fun _ (s : Unit) => s) (fun o _ u => Keep h u ∧ BI (mxM kn) u 8 (2 ^ p + o))
        (fun fu2 _ u _ => by
          show X4_mostTwos_B12 6 (X4_mostTwos_B2 6 fu) (fu2 + 1) (nI p) (nI (2 ^ p)) u = _
          rw [X4_mostTwos_B12, i_pow (by omega), if_pos (nI_le (by omega) (by omega))]
          simp only [nm, L1, nI_add])
        (fun fu2 o _ u ho J => by
          obtain ⟨j1, j2⟩ := J
          obtain ⟨r, e3, hr, hM⟩ := c_twosWith w (j1.lin (Or.inl rfl) N.2.2.1.1) hp ho j2
          refine ⟨sA u 8 (upd (aI u 8) (2 ^ p + o) (nI r)), ?_, j1.best (pk_un (by have := Nat.two_pow_pos p; omega)), BI_up j2 hr hM⟩
          show X4_mostTwos_B12 6 (X4_mostTwos_B2 6 fu) (fu2 + 1) (nI p) (nI o) u = X4_mostTwos_B12 6 (X4_mostTwos_B2 6 fu) fu2 (nI p) (nI (o + 1)) _
          rw [X4_mostTwos_B12, i_pow (by omega), if_neg (nI_ge (by omega) (by omega)), e3, Option.bind_some, i_or, or_top ho, c_setBest (show 2 ^ p + o < 512 by have := Nat.pow_succ 2 p; have : 2 ^ (p + 1) ≤ 512 := pow_le9 (show p + 1 ≤ 9 by omega); omega), Option.bind_some]
          simp only [nm, L1, nI_add])
        (2 ^ p) FU 0 () u (by omega) (FU_lt (by omega)) ⟨J.1, J.2⟩
      refine ⟨t2, ?_, k2, ?_⟩
      · show X4_mostTwos_B2 6 (fu + 1) (nI p) u = _
        rw [X4_mostTwos_B2, L.1, if_neg (nI_ge (by omega) (by omega))]
        exact e2
      · rw [Nat.pow_succ, Nat.mul_two]; exact B2)
    n FU 0 () h (by omega) (FU_lt (by omega)) ⟨Keep.refl h, fun x hx => ⟨0, by decide, by
      have : x = 0 := by simpa using hx
      rw [this]; exact h0, by
      have : x = 0 := by simpa using hx
      rw [this]; exact mxM_0⟩⟩
  exact ⟨t, e, k1, B⟩
theorem m_least {x n : Nat} (hn : n ≤ 9) (hx : x < 2 ^ n) (h0 : x ≠ 0) : ∃ a, a < n ∧ x.testBit a = true ∧ (∀ j, j < a → x.testBit j = false) ∧ X12_leastIn (nI x) = some (nI a) := by
  have h9 := pow_le9 hn
  obtain ⟨p, hp⟩ := some_bit h0
  have hpn : p < n := by
    refine Classical.byContradiction fun q => ?_
    rw [bit_lt hx (by omega)] at hp
    exact absurd hp (by decide)
  obtain ⟨a, h1, h2, h3⟩ := fb_first (p := fun j => x.testBit j = true) ⟨p, hpn, hp⟩
  refine ⟨a, h1, h2, fun j hj => by simpa using h3 j hj, ?_⟩
  have key : ∀ m k fu, k + m = a → m < fu → X12_leastIn_B2 (nI x) fu (nI k) = some (nI a) := by
    intro m
    induction m with
    | zero =>
      intro k fu hk hf
      obtain ⟨fu, rfl⟩ : ∃ f, fu = f + 1 := ⟨fu - 1, by omega⟩
      have : k = a := by omega
      subst this
      rw [X12_leastIn_B2, has_n (by omega) (by omega), Option.bind_some, h2, if_neg (show ¬ nI true.toNat = 0 by decide)]
    | succ m ih =>
      intro k fu hk hf
      obtain ⟨fu, rfl⟩ : ∃ f, fu = f + 1 := ⟨fu - 1, by omega⟩
      rw [X12_leastIn_B2, has_n (by omega) (by omega), Option.bind_some, show x.testBit k = false from by simpa using h3 k (by omega), if_pos (show nI false.toNat = 0 from rfl)]
      simp only [nm, L1, nI_add]
      exact ih (k + 1) fu (by omega) (by omega)
  exact key a 0 FU (by omega) (FU_lt (by omega))
theorem m_warm1 (w : WFk n kn) {t : HS} (R : RowP (aI t 67) n kn kd fg hd dy) {x : Nat} (hx : x < 2 ^ n) (h0 : x ≠ 0) (B : BI (mxM kn) t 74 x) {K : Int32 → HS → Option HS} :
    ∃ a r, X12_leastIn (nI x) = some (nI a) ∧ a < n ∧ andn x (2 ^ a) < x ∧ r ≤ 9 ∧ mxM kn x r ∧ X12_warms_B44 K FU (nI x) (nI a) (aI t 74 (andn x (2 ^ a))) (nI (a + 1)) t = K (nI (x + 1)) (sA t 74 (upd (aI t 74) x (nI r))) := by
  have w1 := w.1
  have h9 := pow_le9 w1
  obtain ⟨a, ha, hb, hlow, el⟩ := m_least w1 hx h0
  have hx32 : x < 4294967296 := by omega
  have s1 : sbt (2 ^ a) x := fun j hj => by
    rw [tb_pow] at hj
    have : a = j := by simpa using hj
    rw [← this]; exact hb
  have l1 : andn x (2 ^ a) < x := andn_lt hx32 s1 (by have := Nat.two_pow_pos a; omega)
  obtain ⟨b1, b2, b3⟩ := BI_c B l1
  have hka := w.lt a
  obtain ⟨r, e, j0, j1, j2, j3⟩ := loopR (fun fu k (r : Nat) => X12_warms_B44 K fu (nI x) (nI a) (nI r) (nI k) t) (fun r => K (nI (x + 1)) (sA t 74 (upd (aI t 74) x (nI r)))) n (fun _ (s : Unit) => s)
    (fun k _ r => r ≤ 10 ∧ (aI t 74 (andn x (2 ^ a))).toNatClampNeg ≤ r ∧ (∀ q, a < q → q < k → x.testBit q = true → (kn a).testBit q = true → (aI t 74 (andn (andn x (2 ^ a)) (2 ^ q))).toNatClampNeg + 1 ≤ r) ∧ (r = (aI t 74 (andn x (2 ^ a))).toNatClampNeg ∨ ∃ q, x.testBit q = true ∧ (kn a).testBit q = true ∧ r = (aI t 74 (andn (andn x (2 ^ a)) (2 ^ q))).toNatClampNeg + 1))
    (fun fu _ r _ => by
      show X12_warms_B44 K (fu + 1) (nI x) (nI a) (nI r) (nI n) t = _
      rw [X12_warms_B44, gdi0, cl0, R.1, if_pos (nI_le (by omega) (by omega)), gdi_n (show x < 512 by omega) (by omega), i_cl (show x < 2147483648 by omega)]
      simp only [nm, L1, nI_add])
    (fun fu k _ r hk J => by
      obtain ⟨j0, j1, j2, j3⟩ := J
      have e120 : ∀ u, X12_warms_B120 K (X12_warms_B44 K fu) (nI x) (nI a) (nI k) u t = X12_warms_B44 K fu (nI x) (nI a) u (nI (k + 1)) t := by
        intro u
        simp only [X12_warms_B120, X12_warms_B121, nm, L1, nI_add]
      have e121 : ∀ u, X12_warms_B121 K (X12_warms_B44 K fu) (nI x) (nI a) u (nI k) t = X12_warms_B44 K fu (nI x) (nI a) u (nI (k + 1)) t := by
        intro u
        simp only [X12_warms_B121, nm, L1, nI_add]
      have hle := andn_le (andn x (2 ^ a)) (2 ^ k)
      have e0 : X12_warms_B44 K (fu + 1) (nI x) (nI a) (nI r) (nI k) t = (if nI (x.testBit k).toNat = 0 then X12_warms_B44 K fu (nI x) (nI a) (nI r) (nI (k + 1)) t else (if nI ((kn a).testBit k).toNat = 0 then X12_warms_B44 K fu (nI x) (nI a) (nI r) (nI (k + 1)) t else (if 1 + aI t 74 (andn (andn x (2 ^ a)) (2 ^ k)) ≤ nI r then X12_warms_B44 K fu (nI x) (nI a) (nI r) (nI (k + 1)) t else X12_warms_B44 K fu (nI x) (nI a) (1 + aI t 74 (andn (andn x (2 ^ a)) (2 ^ k))) (nI (k + 1)) t))) := by
        rw [X12_warms_B44, gdi0, cl0, R.1, if_neg (nI_ge (by omega) (by omega)), has_n (by omega) (by omega), Option.bind_some, L2, m_of, Option.bind_some, gdi_n (show 3 + 3 * a + 2 < 30 by omega) (by omega), i_cl (show 3 + 3 * a + 2 < 2147483648 by omega), (R.2.2.2 a (show a < 9 by omega)).2.2, has_n (by omega) (by omega), Option.bind_some, i_pow (by omega), i_pow (by omega), i_andn, i_andn, gdi_n (show andn (andn x (2 ^ a)) (2 ^ k) < 512 by omega) (by omega), i_cl (show andn (andn x (2 ^ a)) (2 ^ k) < 2147483648 by omega)]
        simp only [e120, e121, nm]
      show ∃ t1 : Nat, X12_warms_B44 K (fu + 1) (nI x) (nI a) (nI r) (nI k) t = X12_warms_B44 K fu (nI x) (nI a) (nI t1) (nI (k + 1)) t ∧ t1 ≤ 10 ∧ (aI t 74 (andn x (2 ^ a))).toNatClampNeg ≤ t1 ∧ (∀ q, a < q → q < k + 1 → x.testBit q = true → (kn a).testBit q = true → (aI t 74 (andn (andn x (2 ^ a)) (2 ^ q))).toNatClampNeg + 1 ≤ t1) ∧ (t1 = (aI t 74 (andn x (2 ^ a))).toNatClampNeg ∨ ∃ q, x.testBit q = true ∧ (kn a).testBit q = true ∧ t1 = (aI t 74 (andn (andn x (2 ^ a)) (2 ^ q))).toNatClampNeg + 1)
      rw [e0]
      have same : (x.testBit k = true ∧ (kn a).testBit k = true → False) → ∃ t1 : Nat, X12_warms_B44 K fu (nI x) (nI a) (nI r) (nI (k + 1)) t = X12_warms_B44 K fu (nI x) (nI a) (nI t1) (nI (k + 1)) t ∧ t1 ≤ 10 ∧ (aI t 74 (andn x (2 ^ a))).toNatClampNeg ≤ t1 ∧ (∀ q, a < q → q < k + 1 → x.testBit q = true → (kn a).testBit q = true → (aI t 74 (andn (andn x (2 ^ a)) (2 ^ q))).toNatClampNeg + 1 ≤ t1) ∧ (t1 = (aI t 74 (andn x (2 ^ a))).toNatClampNeg ∨ ∃ q, x.testBit q = true ∧ (kn a).testBit q = true ∧ t1 = (aI t 74 (andn (andn x (2 ^ a)) (2 ^ q))).toNatClampNeg + 1) := by
        intro no
        refine ⟨r, rfl, j0, j1, fun q h1 h2 s i => ?_, j3⟩
        by_cases e : q = k
        · subst e; exact absurd ⟨s, i⟩ no
        · exact j2 q h1 (by omega) s i
      cases e1 : x.testBit k
      · rw [if_pos (show nI false.toNat = 0 from rfl)]
        exact same (fun z => by rw [z.1] at e1; exact absurd e1 (by decide))
      · rw [if_neg (show ¬ nI true.toNat = 0 by decide)]
        cases e2 : (kn a).testBit k
        · rw [if_pos (show nI false.toNat = 0 from rfl)]
          exact same (fun z => by rw [z.2] at e2; exact absurd e2 (by decide))
        · rw [if_neg (show ¬ nI true.toNat = 0 by decide)]
          obtain ⟨d1, d2, d3⟩ := BI_c B (show andn (andn x (2 ^ a)) (2 ^ k) < x by omega)
          rw [d2, L1, nI_add]
          generalize hv : (aI t 74 (andn (andn x (2 ^ a)) (2 ^ k))).toNatClampNeg = v at d1 d2 d3
          by_cases z2 : 1 + v ≤ r
          · rw [if_pos (nI_le z2 (by omega))]
            refine ⟨r, rfl, j0, j1, fun q h1 h2 s i => ?_, j3⟩
            by_cases e : q = k
            · subst e; rw [hv]; omega
            · exact j2 q h1 (by omega) s i
          · rw [if_neg (nI_ge (by omega) (by omega))]
            refine ⟨1 + v, rfl, by omega, by omega, fun q h1 h2 s i => ?_, Or.inr ⟨k, e1, e2, by rw [hv]; omega⟩⟩
            by_cases e : q = k
            · subst e; rw [hv]; omega
            · have := j2 q h1 (by omega) s i
              omega)
    (n - (a + 1)) FU (a + 1) () (aI t 74 (andn x (2 ^ a))).toNatClampNeg (by omega) (FU_lt (by omega)) ⟨by omega, Nat.le_refl _, fun q h1 h2 => absurd h1 (by omega), Or.inl rfl⟩
  have hM : mxM kn x r := by
    refine mxM_step w (c := fun y => (aI t 74 y).toNatClampNeg) hx32 hb (fun y hy => (BI_c B hy).2.2) j1 (fun q h1 h2 => ?_) j3
    refine j2 q ?_ ?_ h1 h2
    · refine Classical.byContradiction fun z => ?_
      by_cases e : q = a
      · subst e; rw [w.2.2.2.2] at h2; exact absurd h2 (by decide)
      · rw [hlow q (by omega)] at h1; exact absurd h1 (by decide)
    · refine Classical.byContradiction fun z => ?_
      rw [bit_lt hx (by omega)] at h1
      exact absurd h1 (by decide)
  refine ⟨a, r, el, ha, l1, ?_, hM, ?_⟩
  · have := mat_le w n r x w1 hx hM.1
    omega
  · rw [b2]
    exact e
theorem m_warms (N : NowP h n kn kd fg hd dm dy) : ∃ t, X12_warms h = some t ∧ Keep h t ∧ BI (mxM kn) t 74 (2 ^ n) := by
  have w := N.1.1
  have w1 := w.1
  have h9 := pow_le9 w1
  have hpos := Nat.two_pow_pos n
  obtain ⟨t, e, k0, k1, B⟩ := loopR (fun fu x (u : HS) => X12_warms_B9 fu (nI x) u) (fun u => some u) (2 ^ n) (fun _ (s : Unit) => s) (fun x _ u => 0 < x ∧ Keep h u ∧ BI (mxM kn) u 74 x)
    (fun fu _ u J => by
      show X12_warms_B9 (fu + 1) (nI (2 ^ n)) u = _
      rw [X12_warms_B9, gdi0, cl0, J.2.1.row, N.2.2.2.1, i_pow (by omega), if_pos (nI_le (by omega) (by omega))])
    (fun fu x _ u hx J => by
      obtain ⟨j0, j1, j2⟩ := J
      obtain ⟨a, r, e1, ha, l1, hr, hM, e2⟩ := m_warm1 w (t := u) (by rw [j1.row]; exact N.2.2.2) hx (by omega) j2 (K := X12_warms_B9 fu)
      refine ⟨_, ?_, by omega, j1.a (by decide), BI_up j2 hr hM⟩
      show X12_warms_B9 (fu + 1) (nI x) u = _
      rw [X12_warms_B9, gdi0, cl0, j1.row, N.2.2.2.1, i_pow (by omega), if_neg (nI_ge (by omega) (by omega)), e1, Option.bind_some, i_pow (by omega), i_andn, gdi_n (show andn x (2 ^ a) < 512 by omega) (by omega), i_cl (show andn x (2 ^ a) < 2147483648 by omega)]
      simp only [nm]
      rw [L1, nI_add]
      exact e2)
    (2 ^ n - 1) FU 1 () (sA h 74 (upd (aI h 74) 0 0)) (by omega) (FU_lt (by omega)) ⟨by decide, (Keep.refl h).a (by decide), fun x hx => ⟨0, by decide, by
      have : x = 0 := by omega
      rw [this, aI_sA_eq, pk_us]; rfl, by
      have : x = 0 := by omega
      rw [this]; exact mxM_0⟩⟩
  have eg : ∀ k : Option HS, gdi 0 512 k = k := fun k => by unfold gdi; rw [if_neg (by decide)]
  refine ⟨t, ?_, k1, B⟩
  unfold X12_warms
  rw [eg]
  exact e
end TWOS
