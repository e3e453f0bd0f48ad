/-! what changes a parish: in the class (b Parish) and in the model (a row) -/
def updN (f : Nat → Nat) (p v : Nat) : Nat → Nat := fun q => if q = p then v else f q
theorem pow_le9 {n : Nat} (h : n ≤ 9) : 2 ^ n ≤ 512 := show 2 ^ n ≤ 2 ^ 9 from Nat.pow_le_pow_right (by decide) h
/-- only the parish b is changed -/
def FrB (b : Nat) (h h1 : HS) : Prop := (∀ o k, o ≠ b → o ≠ b + 1 → fI h1 o k = fI h o k) ∧ (∀ o, o ≠ b + 2 → o ≠ b + 13 → o ≠ b + 14 → aI h1 o = aI h o)
theorem FrB.refl {b : Nat} {h : HS} : FrB b h h := ⟨fun _ _ _ _ => rfl, fun _ _ _ _ => rfl⟩
theorem FrB.trans {b : Nat} {x y z : HS} (p : FrB b x y) (q : FrB b y z) : FrB b x z := ⟨fun o k h1 h2 => (q.1 o k h1 h2).trans (p.1 o k h1 h2), fun o h1 h2 h3 => (q.2 o h1 h2 h3).trans (p.2 o h1 h2 h3)⟩
theorem FrB.a {b : Nat} {x y : HS} (p : FrB b x y) {o : Nat} {f : Nat → Int32} (ho : o = b + 2 ∨ o = b + 13 ∨ o = b + 14) : FrB b x (sA y o f) :=
  p.trans ⟨fun _ _ _ _ => rfl, fun o1 h1 h2 h3 => aI_sA_ne (by omega)⟩
theorem FrB.f {b : Nat} {x y : HS} (p : FrB b x y) {o k : Nat} {v : Int32} (ho : o = b ∨ o = b + 1) : FrB b x (sF y o k v) :=
  p.trans ⟨fun o1 k1 h1 h2 => fI_sF_ne (by omega), fun _ _ _ _ => rfl⟩
section POP
variable {h : HS} {b n : Nat} {kn kd fg : Nat → Nat} {hd dm dy : Nat}
theorem ParL_hd (P : ParL h b n kn kd fg hd dm dy) (x : Nat) : ParL (sF h b 4 (nI x)) b n kn kd fg x dm dy :=
  ⟨⟨(fI_sF_ne (by omega)).trans P.1.1, P.1.2⟩, P.2.1, P.2.2.1, fI_sF_eq, (fI_sF_ne (by omega)).trans P.2.2.2.2.1, (fI_sF_ne (by omega)).trans P.2.2.2.2.2⟩
theorem ParL_dm (P : ParL h b n kn kd fg hd dm dy) (x : Nat) : ParL (sF h b 5 (nI x)) b n kn kd fg hd x dy :=
  ⟨⟨(fI_sF_ne (by omega)).trans P.1.1, P.1.2⟩, P.2.1, P.2.2.1, (fI_sF_ne (by omega)).trans P.2.2.2.1, fI_sF_eq, (fI_sF_ne (by omega)).trans P.2.2.2.2.2⟩
theorem ParL_dy (P : ParL h b n kn kd fg hd dm dy) (x : Nat) : ParL (sF h b 6 (nI x)) b n kn kd fg hd dm x :=
  ⟨⟨(fI_sF_ne (by omega)).trans P.1.1, P.1.2⟩, P.2.1, P.2.2.1, (fI_sF_ne (by omega)).trans P.2.2.2.1, (fI_sF_ne (by omega)).trans P.2.2.2.2.1, fI_sF_eq⟩
theorem ParL_n (P : ParL h b n kn kd fg hd dm dy) (x : Nat) : ParL (sF h (b + 1) 0 (nI x)) b x kn kd fg hd dm dy :=
  ⟨⟨fI_sF_eq, P.1.2⟩, P.2.1, P.2.2.1, (fI_sF_ne (by omega)).trans P.2.2.2.1, (fI_sF_ne (by omega)).trans P.2.2.2.2.1, (fI_sF_ne (by omega)).trans P.2.2.2.2.2⟩
theorem ParL_kd (P : ParL h b n kn kd fg hd dm dy) (p x : Nat) : ParL (sA h (b + 13) (upd (aI h (b + 13)) p (nI x))) b n kn (updN kd p x) fg hd dm dy := by
  refine ⟨⟨P.1.1, fun q hq => ?_⟩, fun q hq => ?_, fun q hq => ?_, P.2.2.2.1, P.2.2.2.2.1, P.2.2.2.2.2⟩
  · rw [aI_sA_ne (by omega)]; exact P.1.2 q hq
  · rw [aI_sA_eq]
    unfold updN
    by_cases e : q = p
    · subst e; rw [pk_us, if_pos rfl]
    · rw [pk_un e, if_neg e]; exact P.2.1 q hq
  · rw [aI_sA_ne (by omega)]; exact P.2.2.1 q hq
theorem ParL_fg (P : ParL h b n kn kd fg hd dm dy) (p x : Nat) : ParL (sA h (b + 14) (upd (aI h (b + 14)) p (nI x))) b n kn kd (updN fg p x) hd dm dy := by
  refine ⟨⟨P.1.1, fun q hq => ?_⟩, fun q hq => ?_, fun q hq => ?_, P.2.2.2.1, P.2.2.2.2.1, P.2.2.2.2.2⟩
  · rw [aI_sA_ne (by omega)]; exact P.1.2 q hq
  · rw [aI_sA_ne (by omega)]; exact P.2.1 q hq
  · rw [aI_sA_eq]
    unfold updN
    by_cases e : q = p
    · subst e; rw [pk_us, if_pos rfl]
    · rw [pk_un e, if_neg e]; exact P.2.2.1 q hq
theorem ParL_kn {f : Nat → Int32} {kn1 : Nat → Nat} (P : ParL h b n kn kd fg hd dm dy) (L : LinL (sA h (b + 1 + 1) f) (b + 1) n kn1) : ParL (sA h (b + 1 + 1) f) b n kn1 kd fg hd dm dy := by
  refine ⟨L, fun q hq => ?_, fun q hq => ?_, P.2.2.2.1, P.2.2.2.2.1, P.2.2.2.2.2⟩
  · rw [aI_sA_ne (by omega)]; exact P.2.1 q hq
  · rw [aI_sA_ne (by omega)]; exact P.2.2.1 q hq
/-! the kinds of parish stay well formed -/
theorem WFp_hd (w : WFp n kn kd fg hd dm dy) {x : Nat} (hx : x < 2 ^ n) : WFp n kn kd fg x dm dy := ⟨w.1, w.2.1, w.2.2.1, hx, w.2.2.2.2⟩
theorem WFp_dy (w : WFp n kn kd fg hd dm dy) {x : Nat} (hx : x < 1000000) : WFp n kn kd fg hd dm x := ⟨w.1, w.2.1, w.2.2.1, w.2.2.2.1, w.2.2.2.2.1, w.2.2.2.2.2.1, hx⟩
theorem WFk_more (w : WFk n kn) (hn : n < 9) : WFk (n + 1) kn :=
  ⟨by omega, fun p => Nat.lt_of_lt_of_le (w.2.1 p) (Nat.pow_le_pow_right (by decide) (by omega)), fun p hp => w.2.2.1 p (by omega), w.2.2.2.1, w.2.2.2.2⟩
theorem WFp_more (w : WFp n kn kd fg hd dm dy) (hn : n < 9) : WFp (n + 1) kn kd fg hd dm dy :=
  ⟨WFk_more w.1 hn, w.2.1, w.2.2.1, Nat.lt_of_lt_of_le w.2.2.2.1 (Nat.pow_le_pow_right (by decide) (by omega)), w.2.2.2.2⟩
theorem flip_bit {kn : Nat → Nat} {a c : Nat} (hac : a ≠ c) (p q : Nat) : (flip kn a c p).testBit q = ((kn p).testBit q ^^ (decide (p = a) && decide (q = c) || decide (p = c) && decide (q = a))) := by
  unfold flip
  by_cases h1 : p = a
  · subst h1
    rw [if_pos rfl, Nat.testBit_xor, tb_pow]
    have : decide (p = c) = false := by simpa using hac
    rw [this, show decide (p = p) = true from by simp, Bool.true_and, Bool.false_and, Bool.or_false]
    by_cases h2 : q = c
    · subst h2; simp
    · rw [show decide (c = q) = false from by simp; omega, show decide (q = c) = false from by simp; omega]
  · rw [if_neg h1, show decide (p = a) = false from by simpa using h1, Bool.false_and, Bool.false_or]
    by_cases h2 : p = c
    · subst h2
      rw [if_pos rfl, Nat.testBit_xor, tb_pow]
      by_cases h3 : q = a
      · subst h3; simp
      · rw [show decide (a = q) = false from by simp; omega, show decide (q = a) = false from by simp; omega, Bool.and_false]
    · rw [if_neg h2, show decide (p = c) = false from by simpa using h2, Bool.false_and, Bool.xor_false]
theorem WFk_flip (w : WFk n kn) {a c : Nat} (ha : a < n) (hc : c < n) (hac : a ≠ c) : WFk n (flip kn a c) := by
  refine ⟨w.1, fun p => lt_bits fun j hj => ?_, fun p hp => ?_, fun p q => ?_, fun p => ?_⟩
  · rw [flip_bit hac, bit_lt (w.2.1 p) hj, show decide (j = c) = false from by simp; omega, show decide (j = a) = false from by simp; omega]
    simp
  · unfold flip
    rw [if_neg (by omega), if_neg (by omega)]; exact w.2.2.1 p hp
  · rw [flip_bit hac, flip_bit hac, w.2.2.2.1 p q]
    congr 1
    rw [Bool.or_comm, Bool.and_comm, Bool.and_comm (decide (p = a))]
  · rw [flip_bit hac, w.2.2.2.2 p]
    by_cases h1 : p = a
    · subst h1
      rw [show decide (p = c) = false from by simpa using hac]; simp
    · rw [show decide (p = a) = false from by simpa using h1]; simp
theorem WFp_flip (w : WFp n kn kd fg hd dm dy) {a c : Nat} (ha : a < n) (hc : c < n) (hac : a ≠ c) : WFp n (flip kn a c) kd fg hd dm dy := ⟨WFk_flip w.1 ha hc hac, w.2⟩
def hdc (k p hd : Nat) : Nat := if k = 7 then andn hd (2 ^ p) else hd
def dmc (k p dm : Nat) : Nat := if k = 7 then andn dm (2 ^ p) ||| 2 ^ p else andn dm (2 ^ p)
theorem WFp_change (w : WFp n kn kd fg hd dm dy) {p k f : Nat} (hp : p < n) (hk : k < 8) (hf : f < 10) : WFp n kn (updN kd p k) (updN fg p f) (hdc k p hd) (dmc k p dm) dy := by
  have w1 := w.1.1
  have h9 : p < 9 := by omega
  have hdm := w.2.2.2.2.1
  have hle := andn_le dm (2 ^ p)
  have hpw : 2 ^ p < 512 := pow_lt (n := 9) h9
  refine ⟨w.1, fun q => ?_, fun q => ?_, ?_, ?_, fun q hq => ?_, w.2.2.2.2.2.2⟩
  · unfold updN; split
    · exact hk
    · exact w.2.1 q
  · unfold updN; split
    · exact hf
    · exact w.2.2.1 q
  · unfold hdc; split
    · exact Nat.lt_of_le_of_lt (andn_le _ _) w.2.2.2.1
    · exact w.2.2.2.1
  · unfold dmc; split
    · exact or_lt (n := 9) (show andn dm (2 ^ p) < 512 by omega) hpw
    · omega
  · have hb := w.2.2.2.2.2.1 q hq
    unfold dmc updN
    by_cases e : q = p
    · subst e
      rw [if_pos rfl]
      by_cases h7 : k = 7
      · rw [if_pos h7, Nat.testBit_or, tb_pow, h7]; simp
      · rw [if_neg h7, andn_bit (by omega), tb_pow, show (k == 7) = false from by simpa using h7]; simp
    · rw [if_neg e]
      have : (andn dm (2 ^ p)).testBit q = (kd q == 7) := by
        rw [andn_bit (by omega), tb_pow, show decide (p = q) = false from by simp; omega, ← hb]; simp
      split
      · rw [Nat.testBit_or, this, tb_pow, show decide (p = q) = false from by simp; omega, Bool.or_false]
      · exact this
/-! the class -/
theorem c_kind {k : Nat} (hk : k < 8) : X11_isKind (nI k) = some (nI 1) := by
  unfold X11_isKind
  simp (disch := omega) only [L0, L8, ltF, leF, ite_false, L1]
theorem c_fig {k : Nat} (hk : k < 10) : X11_isFigure (nI k) = some (nI 1) := by
  unfold X11_isFigure
  simp (disch := omega) only [L0, L10, ltF, leF, ite_false, L1]
theorem c_kind_out {v : Int32} (hv : outside v 8) : X11_isKind v = some (nI 0) := by
  unfold X11_isKind
  rcases hv with hv | ⟨j, h1, h2, rfl⟩
  · rw [if_pos hv]; rfl
  · simp (disch := omega) only [L0, L8, ltF, leT, ite_false, ite_true]
theorem c_fig_out {v : Int32} (hv : outside v 10) : X11_isFigure v = some (nI 0) := by
  unfold X11_isFigure
  rcases hv with hv | ⟨j, h1, h2, rfl⟩
  · rw [if_pos hv]; rfl
  · simp (disch := omega) only [L0, L10, ltF, leT, ite_false, ite_true]
theorem hears_v (hb : isPar b) : ∀ k, k < 8 → V_hearsNothing (b + 5 + k) = some (nI (if k = 7 then 1 else 0)) := by
  intro k hk
  match k, hk with
  | 0, _ => rcases hb with rfl | rfl | rfl <;> exact rfl
  | 1, _ => rcases hb with rfl | rfl | rfl <;> exact rfl
  | 2, _ => rcases hb with rfl | rfl | rfl <;> exact rfl
  | 3, _ => rcases hb with rfl | rfl | rfl <;> exact rfl
  | 4, _ => rcases hb with rfl | rfl | rfl <;> exact rfl
  | 5, _ => rcases hb with rfl | rfl | rfl <;> exact rfl
  | 6, _ => rcases hb with rfl | rfl | rfl <;> exact rfl
  | 7, _ => rcases hb with rfl | rfl | rfl <;> exact rfl
  | k + 8, hk => exact absurd hk (by omega)
set_option maxHeartbeats 4000000 in
theorem c_change (hb : isPar b) (w : WFp n kn kd fg hd dm dy) (P : ParL h b n kn kd fg hd dm dy) {p k f : Nat} (hp : p < n) (hk : k < 8) (hf : f < 10) :
    ∃ h1, X5_change h b (nI p) (nI k) (nI f) = some (0, h1) ∧ ParL h1 b n kn (updN kd p k) (updN fg p f) (hdc k p hd) (dmc k p dm) dy ∧ FrB b h h1 := by
  have w1 := w.1.1
  have P1 := ParL_fg (ParL_kd P p k) p f
  have P2 := ParL_dm P1 (andn dm (2 ^ p))
  unfold X5_change
  simp (disch := omega) only [c_has_in P hp w1, Option.bind_some, L0, eqF, ite_false, c_kind hk, c_fig hf, gdi_n, i_cl, nm, L1, i_one, i_andn1, par2 hb k hk, hears_v hb k hk, P1.2.2.2.2.1]
  by_cases h7 : k = 7
  · have P3 := ParL_dm P2 (andn dm (2 ^ p) ||| 2 ^ p)
    have P4 := ParL_hd P3 (andn hd (2 ^ p))
    simp (disch := omega) only [if_pos h7, eqF, ite_false, P2.2.2.2.2.1, i_or, P3.2.2.2.1, i_andn1]
    refine ⟨_, rfl, ?_, ((((FrB.refl.a (by omega)).a (by omega)).f (by omega)).f (by omega)).f (by omega)⟩
    rw [show hdc k p hd = andn hd (2 ^ p) from if_pos h7, show dmc k p dm = andn dm (2 ^ p) ||| 2 ^ p from if_pos h7]
    exact P4
  · simp only [if_neg h7, ite_true]
    refine ⟨_, rfl, ?_, ((FrB.refl.a (by omega)).a (by omega)).f (by omega)⟩
    rw [show hdc k p hd = hd from if_neg h7, show dmc k p dm = andn dm (2 ^ p) from if_neg h7]
    exact P2
theorem c_arrive (hb : isPar b) (w : WFp n kn kd fg hd dm dy) (P : ParL h b n kn kd fg hd dm dy) {k f : Nat} (hn : n < 9) (hk : k < 8) (hf : f < 10) :
    ∃ h1, X5_arrive h b (nI k) (nI f) = some (nI n, h1) ∧ ParL h1 b (n + 1) kn (updN kd n k) (updN fg n f) (hdc k n hd) (dmc k n dm) dy ∧ FrB b h h1 := by
  obtain ⟨h1, e, p, fr⟩ := c_change hb (WFp_more w hn) (ParL_n P (n + 1)) (Nat.lt_succ_self n) hk hf
  refine ⟨h1, ?_, p, (FrB.refl.f (Or.inr rfl)).trans fr⟩
  unfold X5_arrive
  simp (disch := omega) only [c_kind hk, c_fig hf, Option.bind_some, L0, eqF, ite_false, P.1.1, L9, ltT, ite_true, nm, L1, nI_add, e]
theorem c_arrive_full (P : ParL h b n kn kd fg hd dm dy) {k f : Nat} (hn : n = 9) (hk : k < 8) (hf : f < 10) : X5_arrive h b (nI k) (nI f) = some (-2, h) := by
  unfold X5_arrive
  subst hn
  simp (disch := omega) only [c_kind hk, c_fig hf, Option.bind_some, L0, eqF, ite_false, P.1.1, L9, ltF]
theorem c_join (w : WFp n kn kd fg hd dm dy) (P : ParL h b n kn kd fg hd dm dy) {p q : Nat} (hp : p < n) (hq : q < n) (hpq : p ≠ q) :
    ∃ h1, X5_join h b (nI p) (nI q) = some (nI ((flip kn p q p).testBit q).toNat, h1) ∧ ParL h1 b n (flip kn p q) kd fg hd dm dy ∧ FrB b h h1 := by
  have w1 := w.1.1
  obtain ⟨f, e, L⟩ := c_turn P.1 (show p < 9 by omega) (show q < 9 by omega) hpq
  refine ⟨_, ?_, ParL_kn P L, FrB.refl.a (Or.inl rfl)⟩
  unfold X5_join
  simp (disch := omega) only [c_has_in P hp w1, c_has_in P hq w1, Option.bind_some, L0, eqF, ite_false, e, c_between (WFk_flip w.1 hp hq hpq) L]
  cases (flip kn p q p).testBit q
  · rfl
  · rfl
theorem c_isDeaf (w : WFp n kn kd fg hd dm dy) (P : ParL h b n kn kd fg hd dm dy) {p : Nat} (hp : p < 9) : X5_isDeaf h b (nI p) = some (nI (kd p == 7).toNat) := by
  have := w.2.2.2.2.1
  unfold X5_isDeaf
  rw [P.2.2.2.2.1]
  simp (disch := omega) only [L1, i_bit, w.2.2.2.2.2.1 p hp]
  cases kd p == 7 <;> rfl
theorem c_inform (w : WFp n kn kd fg hd dm dy) (P : ParL h b n kn kd fg hd dm dy) {p : Nat} (hp : p < n) (hd7 : kd p ≠ 7) :
    ∃ h1, X5_inform h b (nI p) = some (nI ((hd ^^^ 2 ^ p).testBit p).toNat, h1) ∧ ParL h1 b n kn kd fg (hd ^^^ 2 ^ p) dm dy ∧ FrB b h h1 := by
  have w1 := w.1.1
  have hx : hd ^^^ 2 ^ p < 512 := Nat.xor_lt_two_pow (n := 9) (Nat.lt_of_lt_of_le w.2.2.2.1 (pow_le9 w1)) (pow_lt (by omega))
  refine ⟨_, ?_, ParL_hd P (hd ^^^ 2 ^ p), FrB.refl.f (Or.inl rfl)⟩
  unfold X5_inform
  rw [c_isDeaf w P (by omega), show (kd p == 7) = false from by simpa using hd7]
  simp (disch := omega) only [c_has_in P hp w1, Option.bind_some, L0, eqF, ite_false, Bool.toNat_false, ite_true, nm, L1, i_one, P.2.2.2.1, i_xor, fI_sF_eq, i_bit]
theorem c_goOn (hb : isPar b) (w : WFp n kn kd fg hd dm dy) (P : ParL h b n kn kd fg hd dm dy) {M : Nat} (h1 : 1 ≤ M) (h2 : M ≤ 60) (h3 : dy + M ≤ 999) :
    ∃ h1, X5_goOn h b (nI M) = some (nI (bc (ndays n kn kd fg dy (fun q => (0 : Nat).testBit q) 1 M hd)), h1) ∧ ParL h1 b n kn kd fg (ndays n kn kd fg dy (fun q => (0 : Nat).testBit q) 1 M hd) dm (dy + M) ∧ FrB b h h1 := by
  have w1 := w.1.1
  have h9 := pow_le9 w1
  unfold X5_goOn
  simp (disch := omega) only [L1, ltF, ite_false, L60, leT, ite_true, P.2.2.2.2.2, nI_add, L999]
  unfold ndays
  rw [← itf_shift (f := fun i s => nh n kn kd fg (dy + (i + 1)) s (fun q => (0 : Nat).testBit q)) (fun _ _ => rfl)]
  obtain ⟨t1, e, I⟩ := loopR (fun fu k (t : HS) => X5_goOn_B30 b (nI M) fu (nI k) t) (fun t => (J6_bitCount_0f7a4 (fI t b 4)).bind fun q5 => some (q5, t)) M (fun i s => nh n kn kd fg (dy + (i + 1)) s (fun q => (0 : Nat).testBit q)) (fun k s t => s < 2 ^ n ∧ ParL t b n kn kd fg s dm (dy + k) ∧ FrB b h t)
    (fun fu s t _ => by
      show X5_goOn_B30 b (nI M) (fu + 1) (nI M) t = _
      rw [X5_goOn_B30]
      simp (disch := omega) only [leT, ite_true])
    (fun fu k s t hk I => by
      obtain ⟨i1, i2, i3⟩ := I
      have P1 := ParL_dy i2 (dy + k + 1)
      have hx := WFp_dy (WFp_hd w i1) (show dy + k + 1 < 1000000 by omega)
      have P2 := ParL_hd P1 (nh n kn kd fg (dy + k + 1) s (fun q => (0 : Nat).testBit q))
      refine ⟨_, ?_, nh_lt i1, P2, (i3.f (Or.inl rfl)).f (Or.inl rfl)⟩
      show X5_goOn_B30 b (nI M) (fu + 1) (nI k) t = _
      rw [X5_goOn_B30]
      simp (disch := omega) only [leF, ite_false, i2.2.2.2.2.2, nm, L0, L1, nI_add, P1.2.2.2.1, P1.2.2.2.2.2, c_nextHeard hb hx P1 i1 (show dy + k + 1 < 1000000 by omega) (sn := 0), Option.bind_some])
    M FU 0 hd h (by omega) (FU_lt (by omega)) ⟨w.2.2.2.1, P, FrB.refl⟩
  have hb9 : itf (fun i s => nh n kn kd fg (dy + (i + 1)) s (fun q => (0 : Nat).testBit q)) 0 M hd < 512 := Nat.lt_of_lt_of_le I.1 h9
  refine ⟨t1, ?_, I.2.1, I.2.2⟩
  refine e.trans ?_
  show (J6_bitCount_0f7a4 (fI t1 b 4)).bind _ = _
  rw [I.2.1.2.2.2.1, bitCount_n hb9]
  rfl
end POP
/-! one parish becomes another -/
theorem cpy9 (f g : Nat → Int32) {p : Nat} (hp : p < 9) : va_cpy f g (0 : Int32).toNatClampNeg (0 : Int32).toNatClampNeg (9 : Int32).toNatClampNeg p = f p :=
  (pk_cpy_in (Nat.zero_le p) (show p < 0 + 9 by omega)).trans (congrArg f (show 0 + (p - 0) = p by omega))
theorem gdc9 {β : Type} {k : Option β} : gdc 0 0 9 9 9 k = k := by
  unfold gdc
  rw [if_neg (by decide)]
theorem c_become {h : HS} {b s n : Nat} {kn kd fg : Nat → Nat} {hd dm dy : Nat} (hb : isPar b) (hs : isPar s) (hbs : b ≠ s) (P : ParL h s n kn kd fg hd dm dy) :
    ∃ h1, X5_become h b s = some h1 ∧ ParL h1 b n kn kd fg hd dm dy ∧ FrB b h h1 := by
  have hb' : b = 5 ∨ b = 20 ∨ b = 35 := hb
  have hs' : s = 5 ∨ s = 20 ∨ s = 35 := hs
  unfold X5_become X4_copyFrom
  simp (disch := omega) only [gdc9, nm, Option.bind_some]
  refine ⟨_, rfl, ⟨⟨?_, fun p hp => ?_⟩, fun p hp => ?_, fun p hp => ?_, ?_, ?_, ?_⟩, ((((((FrB.refl.f (by omega)).a (by omega)).a (by omega)).a (by omega)).f (by omega)).f (by omega)).f (by omega)⟩
  · simp (disch := omega) only [fI_sF_ne, fI_sA, fI_sF_eq, P.1.1]
  · simp (disch := omega) only [aI_sF, aI_sA_ne, aI_sA_eq, cpy9, hp, P.1.2 p hp]
  · simp (disch := omega) only [aI_sF, aI_sA_ne, aI_sA_eq, cpy9, hp, P.2.1 p hp]
  · simp (disch := omega) only [aI_sF, aI_sA_ne, aI_sA_eq, cpy9, hp, P.2.2.1 p hp]
  · simp (disch := omega) only [fI_sF_ne, fI_sA, fI_sF_eq, P.2.2.2.1]
  · simp (disch := omega) only [fI_sF_ne, fI_sA, fI_sF_eq, P.2.2.2.2.1]
  · simp (disch := omega) only [fI_sF_ne, fI_sA, fI_sF_eq, P.2.2.2.2.2]
