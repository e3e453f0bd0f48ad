/-! circle -/
section PEWS
variable {h : HS} {n : Nat} {kn kd fg : Nat → Nat} {hd dm dy : Nat}
theorem c_bestOf {t : HS} {x : Nat} (hx : x < 512) : X4_bestOf t 6 (nI x) = some (aI t 8 x) := by
  unfold X4_bestOf
  rw [if_neg (nI_pos (by omega)), if_neg (show ¬ (512 : Int32) ≤ nI x from nI_ge (b := 512) hx (by omega)), gdi_n hx (by omega), i_cl (by omega)]
theorem c_setBest {t : HS} {x : Nat} {v : Int32} (hx : x < 512) : X4_setBest t 6 (nI x) v = some (sA t 8 (upd (aI t 8) x v)) := by
  unfold X4_setBest
  rw [if_neg (nI_pos (by omega)), if_neg (show ¬ (512 : Int32) ≤ nI x from nI_ge (b := 512) hx (by omega)), gdi_n hx (by omega), i_cl (by omega)]
  rfl
theorem or_top {o p : Nat} (ho : o < 2 ^ p) : o ||| 2 ^ p = 2 ^ p + o := by
  rw [Nat.or_comm, ← Nat.mul_one (2 ^ p), Nat.two_pow_add_eq_or_of_lt ho]
theorem or_bit (o p j : Nat) : (o ||| 2 ^ p).testBit j = (o.testBit j || decide (p = j)) := by
  rw [Nat.testBit_or, tb_pow]
theorem andn_or {o p b : Nat} (ho : o < 2 ^ p) (h9 : o < 4294967296) (h8 : o ||| 2 ^ p < 4294967296) : andn (o ||| 2 ^ p) (b ||| 2 ^ p) = andn o b := by
  refine ext_bits fun j => ?_
  rw [andn_bit h8, andn_bit h9, or_bit, or_bit]
  by_cases e : p = j
  · subst e
    rw [bit_lt ho (Nat.le_refl p)]
    simp
  · simp [e]
theorem c_pewsWith (w : WFk n kn) {t : HS} (L : LinL t 6 n kn) {p o : Nat} (hp : p < n) (ho : o < 2 ^ p) (B : BI (lsM n kn) t 8 (2 ^ p + o)) : ∃ r, X4_pewsWith t 6 (nI p) (nI o) = some (nI r) ∧ r ≤ 9 ∧ lsM n kn (2 ^ p + o) r := by
  have w1 := w.1
  have h9 := pow_le9 w1
  have hpn := pow_lt hp
  have h256 : 2 ^ p ≤ 256 := show 2 ^ p ≤ 2 ^ 8 from Nat.pow_le_pow_right (by decide) (by omega)
  have hpos := Nat.two_pow_pos p
  have hor := or_top ho
  obtain ⟨r, e, h1, h2, h3⟩ := loopR (fun fu k (r : Nat) => X4_pewsWith_B6 t 6 (nI p) (nI o) fu (nI r) (nI k)) (fun r => some (nI r)) (o + 1) (fun _ (s : Unit) => s)
    (fun k _ r => r ≤ 9 ∧ (∀ b, b < k → sbt b o → alk kn 0 (b ||| 2 ^ p) 0 n = true → r ≤ (aI t 8 (andn o b)).toNatClampNeg + 1) ∧ (r = 9 ∨ ∃ b, sbt b o ∧ alk kn 0 (b ||| 2 ^ p) 0 n = true ∧ r = (aI t 8 (andn o b)).toNatClampNeg + 1))
    (fun fu _ r _ => by
      show X4_pewsWith_B6 t 6 (nI p) (nI o) (fu + 1) (nI r) (nI (o + 1)) = _
      rw [X4_pewsWith_B6, if_pos (nI_lt (by omega) (by omega))])
    (fun fu k _ r hk J => by
      obtain ⟨j1, j2, j3⟩ := J
      have e52 : ∀ u, X4_pewsWith_B52 t 6 (nI p) (nI o) (X4_pewsWith_B6 t 6 (nI p) (nI o) fu) u (nI k) = X4_pewsWith_B6 t 6 (nI p) (nI o) fu u (nI (k + 1)) := by
        intro u
        simp only [X4_pewsWith_B52, nm, L1, nI_add]
      have e0 : X4_pewsWith_B6 t 6 (nI p) (nI o) (fu + 1) (nI r) (nI k) = (if nI (andn k o) = 0 then (X4_alike t 6 (nI (k ||| 2 ^ p)) (nI 0)).bind fun q3 => (if q3 = 0 then X4_pewsWith_B6 t 6 (nI p) (nI o) fu (nI r) (nI (k + 1)) else (X4_bestOf t 6 (nI (andn o k))).bind fun q5 => X4_pewsWith_B6 t 6 (nI p) (nI o) fu (if (1 + q5) < nI r then (1 + q5) else nI r) (nI (k + 1))) else X4_pewsWith_B6 t 6 (nI p) (nI o) fu (nI r) (nI (k + 1))) := by
        rw [X4_pewsWith_B6, if_neg (nI_nlt (by omega) (by omega)), i_andn, i_pow (by omega), i_or, i_andn]
        simp only [e52, nm]
        rfl
      have hle := andn_le k o
      have same : (sbt k o ∧ alk kn 0 (k ||| 2 ^ p) 0 n = true → False) → ∃ t1 : Nat, X4_pewsWith_B6 t 6 (nI p) (nI o) fu (nI r) (nI (k + 1)) = X4_pewsWith_B6 t 6 (nI p) (nI o) fu (nI t1) (nI (k + 1)) ∧ t1 ≤ 9 ∧ (∀ b, b < k + 1 → sbt b o → alk kn 0 (b ||| 2 ^ p) 0 n = true → t1 ≤ (aI t 8 (andn o b)).toNatClampNeg + 1) ∧ (t1 = 9 ∨ ∃ b, sbt b o ∧ alk kn 0 (b ||| 2 ^ p) 0 n = true ∧ t1 = (aI t 8 (andn o b)).toNatClampNeg + 1) := by
        intro no
        refine ⟨r, rfl, j1, fun b hb s i => ?_, j3⟩
        by_cases e : b = k
        · subst e; exact absurd ⟨s, i⟩ no
        · exact j2 b (by omega) s i
      show ∃ t1 : Nat, X4_pewsWith_B6 t 6 (nI p) (nI o) (fu + 1) (nI r) (nI k) = X4_pewsWith_B6 t 6 (nI p) (nI o) fu (nI t1) (nI (k + 1)) ∧ t1 ≤ 9 ∧ (∀ b, b < k + 1 → sbt b o → alk kn 0 (b ||| 2 ^ p) 0 n = true → t1 ≤ (aI t 8 (andn o b)).toNatClampNeg + 1) ∧ (t1 = 9 ∨ ∃ b, sbt b o ∧ alk kn 0 (b ||| 2 ^ p) 0 n = true ∧ t1 = (aI t 8 (andn o b)).toNatClampNeg + 1)
      rw [e0]
      by_cases z : andn k o = 0
      · have hs := (sbt_andn (show k < 4294967296 by omega)).mp z
        have hkn : k ||| 2 ^ p < 2 ^ n := or_lt (by omega) hpn
        rw [if_pos (show nI (andn k o) = 0 by rw [z]; rfl), c_alike w L hkn (by decide), Option.bind_some]
        cases hi : alk kn 0 (k ||| 2 ^ p) 0 n
        · rw [if_pos (show nI false.toNat = 0 from rfl)]
          exact same (fun x => by rw [x.2] at hi; exact absurd hi (by decide))
        · have hle2 := andn_le o k
          obtain ⟨b1, b2, b3⟩ := BI_c B (show andn o k < 2 ^ p + o by omega)
          rw [if_neg (show ¬ nI true.toNat = 0 by decide), c_bestOf (by omega), Option.bind_some, b2, L1, nI_add]
          generalize hv : (aI t 8 (andn o k)).toNatClampNeg = v at b1 b2 b3
          by_cases z2 : 1 + v < r
          · rw [if_pos (nI_lt z2 (by omega))]
            refine ⟨1 + v, rfl, by omega, fun b hb s i => ?_, Or.inr ⟨k, hs, hi, by rw [hv]; omega⟩⟩
            by_cases e : b = k
            · subst e; rw [hv]; omega
            · have := j2 b (by omega) s i
              omega
          · rw [if_neg (nI_nlt (by omega) (by omega))]
            refine ⟨r, rfl, j1, fun b hb s i => ?_, j3⟩
            by_cases e : b = k
            · subst e; rw [hv]; omega
            · exact j2 b (by omega) s i
      · rw [if_neg (nI_ne0 (by omega) (by omega))]
        exact same (fun x => z ((sbt_andn (show k < 4294967296 by omega)).mpr x.1)))
    (o + 1) FU 0 () 9 (by omega) (FU_lt (by omega)) ⟨Nat.le_refl 9, fun b hb => absurd hb (by omega), Or.inl rfl⟩
  have h0 : sbt 0 o := fun j hj => by rw [Nat.zero_testBit] at hj; exact absurd hj (by decide)
  have i0 : alk kn 0 (0 ||| 2 ^ p) 0 n = true := by rw [Nat.zero_or]; exact alk_one (by omega)
  have a0 : andn o 0 = o := by
    refine ext_bits fun j => ?_
    rw [andn_bit (by omega), Nat.zero_testBit]; simp
  have hr0 := h2 0 (by omega) h0 i0
  rw [a0] at hr0
  obtain ⟨b1, b2, b3⟩ := BI_c B (show o < 2 ^ p + o by omega)
  have hcp := lsM_le b3 (show p ≤ 9 by omega) ho
  have h3 : ∃ b, sbt b o ∧ alk kn 0 (b ||| 2 ^ p) 0 n = true ∧ r = (aI t 8 (andn o b)).toNatClampNeg + 1 := by
    rcases h3 with h3 | h3
    · refine ⟨0, h0, i0, ?_⟩
      rw [a0]
      omega
    · exact h3
  refine ⟨r, e, h1, ?_⟩
  have h8 : o ||| 2 ^ p < 4294967296 := by rw [hor]; omega
  have hc : ∀ y, y < 2 ^ p + o → lsM n kn y (aI t 8 y).toNatClampNeg := fun y hy => (BI_c B hy).2.2
  rw [← hor] at hc ⊢
  refine lsM_step (c := fun y => (aI t 8 y).toNatClampNeg) h8 (p := p) (by rw [or_bit]; simp) hc (fun P hP s i => ?_) ?_
  · have hP9 : P < 4294967296 := by
      have := sbt_lt (m := 32) s h8
      exact this
    have eP : andn P (2 ^ p) ||| 2 ^ p = P := by
      refine ext_bits fun j => ?_
      rw [or_bit, andn_bit hP9, tb_pow]
      by_cases e : p = j
      · subst e; rw [hP]; simp
      · simp [e]
    have sb : sbt (andn P (2 ^ p)) o := fun j hj => by
      rw [andn_bit hP9, tb_pow, Bool.and_eq_true] at hj
      have := s j hj.1
      rw [or_bit] at this
      have e : ¬ p = j := by simpa using hj.2
      simpa [e] using this
    have := h2 (andn P (2 ^ p)) (by
      have h4 := sbt_lt (m := p) sb ho
      refine Classical.byContradiction fun q => ?_
      have h5 := (sbt_andn (show andn P (2 ^ p) < 4294967296 by omega)).mpr sb
      have h6 : andn P (2 ^ p) ≤ o := by
        have : andn P (2 ^ p) &&& o = andn P (2 ^ p) := by
          refine ext_bits fun j => ?_
          rw [Nat.testBit_and]
          cases hj : (andn P (2 ^ p)).testBit j
          · rfl
          · rw [sb j hj]; rfl
        rw [← this]
        exact Nat.and_le_right
      omega) sb (by rw [eP]; exact i)
    rw [← andn_or ho (by omega) h8, eP] at this
    exact this
  · obtain ⟨b, s, i, hr⟩ := h3
    refine ⟨b ||| 2 ^ p, fun e => ?_, fun j hj => ?_, i, ?_⟩
    · have : (b ||| 2 ^ p).testBit p = true := by rw [or_bit]; simp
      rw [e, Nat.zero_testBit] at this
      exact absurd this (by decide)
    · rw [or_bit] at hj ⊢
      by_cases e : p = j
      · simp [e]
      · have : b.testBit j = true := by simpa [e] using hj
        rw [s j this]; rfl
    · rw [andn_or ho (by omega) h8]; exact hr
theorem c_fewest (N : NowP h n kn kd fg hd dm dy) (h0 : aI h 8 0 = 0) : ∃ r t, X4_fewestPews h 6 = some (nI r, t) ∧ Keep h t ∧ lsM n kn (2 ^ n - 1) r := by
  have w := N.1.1
  have w1 := w.1
  have h9 := pow_le9 w1
  have hpos := Nat.two_pow_pos n
  obtain ⟨t, e, k1, B⟩ := loopR (fun fu p (u : HS) => X4_fewestPews_B2 6 fu (nI p) u) (fun u => some (aI u 8 (2 ^ n - 1), u)) n (fun _ (s : Unit) => s) (fun p _ u => Keep h u ∧ BI (lsM n kn) u 8 (2 ^ p))
    (fun fu _ u J => by
      show X4_fewestPews_B2 6 (fu + 1) (nI n) u = _
      have L := J.1.lin (Or.inl rfl) N.2.2.1.1
      rw [X4_fewestPews_B2, L.1, if_pos (nI_le (by omega) (by omega)), i_pow (by omega), L1, pk_sub hpos, c_bestOf (by omega)]
      rfl)
    (fun fu p _ u hp J => by
      have hpn := pow_lt hp
      have L := J.1.lin (Or.inl rfl) N.2.2.1.1
      obtain ⟨t2, e2, k2, B2⟩ := loopR (fun fu2 o (u : HS) => X4_fewestPews_B12 6 (X4_fewestPews_B2 6 fu) fu2 (nI p) (nI o) u) (fun u => X4_fewestPews_B2 6 fu (nI (p + 1)) u) (2 ^ p) (fun _ (s : Unit) => s) (fun o _ u => Keep h u ∧ BI (lsM n kn) u 8 (2 ^ p + o))
        (fun fu2 _ u _ => by
          show X4_fewestPews_B12 6 (X4_fewestPews_B2 6 fu) (fu2 + 1) (nI p) (nI (2 ^ p)) u = _
          rw [X4_fewestPews_B12, i_pow (by omega), if_pos (nI_le (by omega) (by omega))]
          simp only [nm, L1, nI_add])
        (fun fu2 o _ u ho J => by
          obtain ⟨j1, j2⟩ := J
          obtain ⟨r, e3, hr, hM⟩ := c_pewsWith w (j1.lin (Or.inl rfl) N.2.2.1.1) hp ho j2
          refine ⟨sA u 8 (upd (aI u 8) (2 ^ p + o) (nI r)), ?_, j1.best (pk_un (by have := Nat.two_pow_pos p; omega)), BI_up j2 hr hM⟩
          show X4_fewestPews_B12 6 (X4_fewestPews_B2 6 fu) (fu2 + 1) (nI p) (nI o) u = X4_fewestPews_B12 6 (X4_fewestPews_B2 6 fu) fu2 (nI p) (nI (o + 1)) _
          rw [X4_fewestPews_B12, i_pow (by omega), if_neg (nI_ge (by omega) (by omega)), e3, Option.bind_some, i_or, or_top ho, c_setBest (show 2 ^ p + o < 512 by have := Nat.pow_succ 2 p; have : 2 ^ (p + 1) ≤ 512 := pow_le9 (show p + 1 ≤ 9 by omega); omega), Option.bind_some]
          simp only [nm, L1, nI_add])
        (2 ^ p) FU 0 () u (by omega) (FU_lt (by omega)) ⟨J.1, J.2⟩
      refine ⟨t2, ?_, k2, ?_⟩
      · show X4_fewestPews_B2 6 (fu + 1) (nI p) u = _
        rw [X4_fewestPews_B2, L.1, if_neg (nI_ge (by omega) (by omega))]
        exact e2
      · rw [Nat.pow_succ, Nat.mul_two]; exact B2)
    n FU 0 () h (by omega) (FU_lt (by omega)) ⟨Keep.refl h, fun x hx => ⟨0, by decide, by
      have : x = 0 := by simpa using hx
      rw [this]; exact h0, by
      have : x = 0 := by simpa using hx
      rw [this]; exact lsM_0⟩⟩
  obtain ⟨b1, b2, b3⟩ := BI_c B (show 2 ^ n - 1 < 2 ^ n by omega)
  refine ⟨_, t, ?_, k1, b3⟩
  unfold X4_fewestPews
  refine e.trans ?_
  rw [← b2]
/-- what the model knows of x when it has looked at each pew above q -/
def PwI (n : Nat) (kn : Nat → Nat) (t0 t : HS) (x q : Nat) : Prop := (∃ f, t = sA t0 74 f) ∧ (∀ y, y < x → aI t 74 y = aI t0 74 y) ∧ ∃ v, aI t 74 x = nI v ∧ (∀ P, q < P → sbt P x → alk kn 0 P 0 n = true → v ≤ (aI t0 74 (andn x P)).toNatClampNeg + 1) ∧ (v = 1000000000 ∨ ∃ P, P ≠ 0 ∧ sbt P x ∧ alk kn 0 P 0 n = true ∧ v = (aI t0 74 (andn x P)).toNatClampNeg + 1)
theorem m_pew (w : WFk n kn) {t0 : HS} (R : RowP (aI t0 67) n kn kd fg hd dy) {x : Nat} (hx : x < 2 ^ n) (B : BI (lsM n kn) t0 74 x) {K : Int32 → HS → Option (Int32 × HS)} :
    ∀ (fu q : Nat) (t : HS), q < fu → sbt q x → PwI n kn t0 t x q → ∃ t1, X12_pews_B31 K fu (nI x) (nI q) t = K (nI (x + 1)) t1 ∧ PwI n kn t0 t1 x 0 := by
  have w1 := w.1
  have h9 := pow_le9 w1
  intro fu
  induction fu with
  | zero => intro q t hq; exact absurd hq (by omega)
  | succ fu ih =>
    intro q t hq sq J
    obtain ⟨⟨f, j0⟩, j1, v, j2, j3, j4⟩ := id J
    have hqn := sbt_lt sq hx
    have e83 : ∀ u, X12_pews_B83 K (X12_pews_B31 K fu) (nI x) (nI q) u = (nm ((nI q - 1) &&& nI x) fun x19 => X12_pews_B31 K fu (nI x) x19 u) := fun u => rfl
    by_cases z : q = 0
    · subst z
      refine ⟨t, ?_, J⟩
      rw [X12_pews_B31, if_pos (show nI 0 ≤ 0 by decide)]
      simp only [nm, L1, nI_add]
    · have hal : andn x q < x := andn_lt (by omega) sq z
      have hv : v ≤ 1000000000 := by
        rcases j4 with j4 | ⟨P, p1, p2, p3, p4⟩
        · omega
        · have := (BI_c B (andn_lt (show x < 4294967296 by omega) p2 p1)).1
          omega
      obtain ⟨b1, b2, b3⟩ := BI_c B hal
      have go : ∀ t1, PwI n kn t0 t1 x (q - 1) → ∃ t2, X12_pews_B83 K (X12_pews_B31 K fu) (nI x) (nI q) t1 = K (nI (x + 1)) t2 ∧ PwI n kn t0 t2 x 0 := by
        intro t1 J1
        have hle : (q - 1) &&& x ≤ q - 1 := Nat.and_le_left
        obtain ⟨t2, e2, J2⟩ := ih ((q - 1) &&& x) t1 (by omega) (sbt_and q x) (by
          obtain ⟨c1, c2, v1, c3, c4, c5⟩ := J1
          refine ⟨c1, c2, v1, c3, fun P hP s i => ?_, c5⟩
          have hPq : q - 1 < P := by
            refine Classical.byContradiction fun y => ?_
            have := sub_next n x q P hqn sq s (by omega)
            omega
          exact c4 P hPq s i)
        refine ⟨t2, ?_, J2⟩
        rw [e83]
        simp only [nm]
        rw [L1, pk_sub (show 1 ≤ q by omega), i_and]
        exact e2
      rw [X12_pews_B31, if_neg (nI_nle (by omega) (by omega)), i_andn, gdi_n (show andn x q < 512 by omega) (by omega), gdi_n (show x < 512 by omega) (by omega), i_cl (show x < 2147483648 by omega), i_cl (show andn x q < 2147483648 by omega), j2, j1 _ hal, b2]
      generalize hc : (aI t0 74 (andn x q)).toNatClampNeg = c at b1 b2 b3
      rw [L1, nI_add]
      by_cases z2 : v ≤ c + 1
      · rw [if_pos (nI_le z2 (by omega))]
        refine go t ⟨⟨f, j0⟩, j1, v, j2, fun P hP s i => ?_, j4⟩
        by_cases e : P = q
        · subst e; rw [hc]; exact z2
        · exact j3 P (by omega) s i
      · have Rt : RowP (aI t 67) n kn kd fg hd dy := by rw [j0, aI_sA_ne (by decide)]; exact R
        rw [if_neg (nI_ge (by omega) (by omega)), L0, m_isCircle w Rt hqn (by decide), Option.bind_some]
        cases hi : alk kn 0 q 0 n
        · rw [if_pos (show nI false.toNat = nI 0 from rfl)]
          refine go t ⟨⟨f, j0⟩, j1, v, j2, fun P hP s i => ?_, j4⟩
          by_cases e : P = q
          · subst e; rw [hi] at i; exact absurd i (by decide)
          · exact j3 P (by omega) s i
        · rw [if_neg (show ¬ nI true.toNat = nI 0 by decide), gdi_n (show andn x q < 512 by omega) (by omega), gdi_n (show x < 512 by omega) (by omega)]
          simp only [nm]
          refine go _ ⟨⟨_, by rw [j0, sA_sA]⟩, fun y hy => ?_, c + 1, ?_, fun P hP s i => ?_, Or.inr ⟨q, z, sq, hi, by rw [hc]⟩⟩
          · rw [aI_sA_eq, pk_un (by omega)]; exact j1 y hy
          · rw [aI_sA_eq, pk_us]
          · by_cases e : P = q
            · subst e; rw [hc]; exact Nat.le_refl _
            · have := j3 P (by omega) s i
              omega
theorem m_pews (N : NowP h n kn kd fg hd dm dy) : ∃ r t, X12_pews h = some (nI r, t) ∧ Keep h t ∧ lsM n kn (2 ^ n - 1) r := by
  have w := N.1.1
  have w1 := w.1
  have h9 := pow_le9 w1
  have hpos := Nat.two_pow_pos n
  obtain ⟨t, e, _, k1, B⟩ := loopR (fun fu x (u : HS) => X12_pews_B9 fu (nI x) u) (fun u => some (aI u 74 (2 ^ n - 1), u)) (2 ^ n) (fun _ (s : Unit) => s) (fun x _ u => 0 < x ∧ Keep h u ∧ BI (lsM n kn) u 74 x)
    (fun fu _ u J => by
      show X12_pews_B9 (fu + 1) (nI (2 ^ n)) u = _
      rw [X12_pews_B9, gdi0, cl0, J.2.1.row, N.2.2.2.1, i_pow (by omega), if_pos (nI_le (by omega) (by omega)), gdi0, L1, pk_sub hpos, gdi_n (show 2 ^ n - 1 < 512 by omega) (by omega), i_cl (show 2 ^ n - 1 < 2147483648 by omega)])
    (fun fu x _ u hx J => by
      obtain ⟨j0, j1, j2⟩ := J
      have j1' : Keep h (sA u 74 (upd (aI u 74) x 1000000000)) := j1.a (by decide)
      have B1 : BI (lsM n kn) (sA u 74 (upd (aI u 74) x 1000000000)) 74 x := fun y hy => by
        rw [aI_sA_eq, pk_un (by omega)]; exact j2 y hy
      obtain ⟨t1, e1, ⟨f, g0⟩, g1, v, g2, g3, g4⟩ := m_pew w (t0 := sA u 74 (upd (aI u 74) x 1000000000)) (by rw [j1'.row]; exact N.2.2.2) hx B1 (K := X12_pews_B9 fu) FU x _ (FU_lt (by omega)) (fun _ q => q) ⟨⟨_, (sA_sA (g := upd (aI u 74) x 1000000000)).symm⟩, fun _ _ => rfl, 1000000000, by rw [aI_sA_eq, pk_us]; rfl, fun P hP s _ => by
        have : P ≤ x := by
          have e : P &&& x = P := by
            refine ext_bits fun j => ?_
            rw [Nat.testBit_and]
            cases hj : P.testBit j
            · rfl
            · rw [s j hj]; rfl
          rw [← e]; exact Nat.and_le_right
        omega, Or.inl rfl⟩
      obtain ⟨p, hp⟩ := some_bit (show x ≠ 0 by omega)
      have hp9 : p < n := by
        refine Classical.byContradiction fun q => ?_
        rw [bit_lt hx (by omega)] at hp
        exact absurd hp (by decide)
      have s1 : sbt (2 ^ p) x := fun j hj => by
        rw [tb_pow] at hj
        have : p = j := by simpa using hj
        rw [← this]; exact hp
      have hp1 := Nat.two_pow_pos p
      have b1 := (BI_c B1 (andn_lt (show x < 4294967296 by omega) s1 (by omega))).1
      have hv := g3 (2 ^ p) hp1 s1 (alk_one (by omega))
      have g4 : ∃ P, P ≠ 0 ∧ sbt P x ∧ alk kn 0 P 0 n = true ∧ v = (aI (sA u 74 (upd (aI u 74) x 1000000000)) 74 (andn x P)).toNatClampNeg + 1 := g4.resolve_left (by omega)
      have hM : lsM n kn x v := lsM_step (c := fun y => (aI (sA u 74 (upd (aI u 74) x 1000000000)) 74 y).toNatClampNeg) (show x < 4294967296 by omega) hp (fun y hy => (BI_c B1 hy).2.2) (fun P hP s i => g3 P (by
        refine Nat.pos_of_ne_zero fun e => ?_
        rw [e, Nat.zero_testBit] at hP; exact absurd hP (by decide)) s i) g4
      have hv9 := lsM_le hM w1 hx
      refine ⟨t1, ?_, by omega, ?_, fun y hy => ?_⟩
      · show X12_pews_B9 (fu + 1) (nI x) u = _
        rw [X12_pews_B9, gdi0, cl0, j1.row, N.2.2.2.1, i_pow (by omega), if_neg (nI_ge (by omega) (by omega)), gdi_n (show x < 512 by omega) (by omega), i_cl (show x < 2147483648 by omega)]
        exact e1
      · rw [g0]; exact j1'.a (by decide)
      · by_cases ey : y = x
        · subst ey; exact ⟨v, by omega, g2, hM⟩
        · rw [g1 y (by omega)]; exact B1 y (by omega))
    (2 ^ n - 1) FU 1 () (sA h 74 (upd (aI h 74) 0 0)) (by omega) (FU_lt (by omega)) ⟨by decide, (Keep.refl h).a (by decide), fun x hx => ⟨0, by decide, by
      have : x = 0 := by omega
      rw [this, aI_sA_eq, pk_us]; rfl, by
      have : x = 0 := by omega
      rw [this]; exact lsM_0⟩⟩
  obtain ⟨b1, b2, b3⟩ := BI_c B (show 2 ^ n - 1 < 2 ^ n by omega)
  refine ⟨_, t, ?_, k1, b3⟩
  have eg : ∀ k : Option (Int32 × HS), gdi 0 512 k = k := fun k => by unfold gdi; rw [if_neg (by decide)]
  unfold X12_pews
  rw [eg]
  refine e.trans ?_
  rw [← b2]
theorem S_circle (I : Inv h) (u : Int32) : ∃ r h1 h2, X11_circle h u = some (r, h1) ∧ X12_circle h1 u = some (r, h2) ∧ Inv h2 := by
  obtain ⟨n, kn, kd, fg, hd, dm, dy, N⟩ := id I.1
  have w := N.1.1
  unfold X11_circle X12_circle
  rcases arg_in u 3 with ⟨j, h1, h2, rfl⟩ | hu
  · match j, h1 with
    | 0, _ =>
      refine ⟨nI (itf (lgs n kn 1) 1 (2 ^ n - 1) 0), h, h, ?_, ?_, I⟩
      · rw [if_pos (show nI 0 = 0 from rfl), show X4_mostAlike h 6 1 = _ from c_mostAlike w N.2.2.1.1 (K := 1) (by decide)]; rfl
      · rw [if_pos (show nI 0 = 0 from rfl), show X12_largest h 1 = _ from m_largest w N.2.2.2 (K := 1) (by decide)]; rfl
    | 1, _ =>
      refine ⟨nI (itf (lgs n kn 0) 1 (2 ^ n - 1) 0), h, h, ?_, ?_, I⟩
      · rw [if_neg (show ¬ nI 1 = 0 by decide), if_pos (show nI 1 = 1 from rfl), show X4_mostAlike h 6 0 = _ from c_mostAlike w N.2.2.1.1 (K := 0) (by decide)]; rfl
      · rw [if_neg (show ¬ nI 1 = 0 by decide), if_pos (show nI 1 = 1 from rfl), show X12_largest h 0 = _ from m_largest w N.2.2.2 (K := 0) (by decide)]; rfl
    | 2, _ =>
      obtain ⟨r, t, e1, k1, M1⟩ := c_fewest N I.2.2.2
      obtain ⟨s, t2, e2, k2, M2⟩ := m_pews (k1.now N)
      have := lsM_one M1 M2
      subst this
      refine ⟨nI r, t, t2, ?_, ?_, (k1.trans k2).inv I⟩
      · rw [if_neg (show ¬ nI 2 = 0 by decide), if_neg (show ¬ nI 2 = 1 by decide), if_pos (show nI 2 = 2 from rfl), e1]; rfl
      · rw [if_neg (show ¬ nI 2 = 0 by decide), if_neg (show ¬ nI 2 = 1 by decide), if_pos (show nI 2 = 2 from rfl), e2]; rfl
    | j + 3, hj => exact absurd hj (by omega)
  · have ne : ∀ j, j < 3 → ¬ u = nI j := fun j hj e => by rw [out_ne hu hj (by decide)] at e; exact e
    refine ⟨-1, h, h, ?_, ?_, I⟩
    · rw [if_neg (show ¬ u = 0 from ne 0 (by decide)), if_neg (show ¬ u = 1 from ne 1 (by decide)), if_neg (show ¬ u = 2 from ne 2 (by decide))]
    · rw [if_neg (show ¬ u = 0 from ne 0 (by decide)), if_neg (show ¬ u = 1 from ne 1 (by decide)), if_neg (show ¬ u = 2 from ne 2 (by decide))]
end PEWS
