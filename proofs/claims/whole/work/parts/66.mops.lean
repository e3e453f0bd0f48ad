/-! what changes a row of the model; the invariant behind a change -/
section MOP
variable {h : HS} {r n : Nat} {kn kd fg : Nat → Nat} {hd dm dy : Nat}
theorem RowP_kd {f : Nat → Int32} (R : RowP f n kn kd fg hd dy) {p : Nat} (x : Nat) : RowP (upd f (3 + 3 * p + 0) (nI x)) n kn (updN kd p x) fg hd dy := by
  refine ⟨(pk_un (by omega)).trans R.1, (pk_un (by omega)).trans R.2.1, (pk_un (by omega)).trans R.2.2.1, fun q hq => ⟨?_, (pk_un (by omega)).trans (R.2.2.2 q hq).2.1, (pk_un (by omega)).trans (R.2.2.2 q hq).2.2⟩⟩
  unfold updN
  by_cases e : q = p
  · subst e; rw [pk_us, if_pos rfl]
  · rw [pk_un (by omega), if_neg e]; exact (R.2.2.2 q hq).1
theorem RowP_fg {f : Nat → Int32} (R : RowP f n kn kd fg hd dy) {p : Nat} (x : Nat) : RowP (upd f (3 + 3 * p + 1) (nI x)) n kn kd (updN fg p x) hd dy := by
  refine ⟨(pk_un (by omega)).trans R.1, (pk_un (by omega)).trans R.2.1, (pk_un (by omega)).trans R.2.2.1, fun q hq => ⟨(pk_un (by omega)).trans (R.2.2.2 q hq).1, ?_, (pk_un (by omega)).trans (R.2.2.2 q hq).2.2⟩⟩
  unfold updN
  by_cases e : q = p
  · subst e; rw [pk_us, if_pos rfl]
  · rw [pk_un (by omega), if_neg e]; exact (R.2.2.2 q hq).2.1
theorem RowP_kn {f : Nat → Int32} (R : RowP f n kn kd fg hd dy) {p : Nat} (x : Nat) : RowP (upd f (3 + 3 * p + 2) (nI x)) n (updN kn p x) kd fg hd dy := by
  refine ⟨(pk_un (by omega)).trans R.1, (pk_un (by omega)).trans R.2.1, (pk_un (by omega)).trans R.2.2.1, fun q hq => ⟨(pk_un (by omega)).trans (R.2.2.2 q hq).1, (pk_un (by omega)).trans (R.2.2.2 q hq).2.1, ?_⟩⟩
  unfold updN
  by_cases e : q = p
  · subst e; rw [pk_us, if_pos rfl]
  · rw [pk_un (by omega), if_neg e]; exact (R.2.2.2 q hq).2.2
theorem RowP_n {f : Nat → Int32} (R : RowP f n kn kd fg hd dy) (x : Nat) : RowP (upd f 0 (nI x)) x kn kd fg hd dy :=
  ⟨pk_us, (pk_un (by omega)).trans R.2.1, (pk_un (by omega)).trans R.2.2.1, fun q hq => ⟨(pk_un (by omega)).trans (R.2.2.2 q hq).1, (pk_un (by omega)).trans (R.2.2.2 q hq).2.1, (pk_un (by omega)).trans (R.2.2.2 q hq).2.2⟩⟩
theorem updN_self {f : Nat → Nat} {p : Nat} {x : Nat} (e : f p = x) : updN f p x = f := by
  funext q
  unfold updN
  by_cases h : q = p
  · subst h; rw [if_pos rfl, e]
  · rw [if_neg h]
theorem flip_eq {kn : Nat → Nat} {a c : Nat} (hac : a ≠ c) : updN (updN kn a (kn a ^^^ 2 ^ c)) c (kn c ^^^ 2 ^ a) = flip kn a c := by
  funext q
  unfold updN flip
  by_cases h1 : q = c
  · subst h1; rw [if_pos rfl, if_neg (fun e => hac e.symm), if_pos rfl]
  · rw [if_neg h1]
    by_cases h2 : q = a
    · subst h2; rw [if_pos rfl, if_pos rfl]
    · rw [if_neg h2, if_neg h2, if_neg h1]
theorem m_becomes (w : WFp n kn kd fg hd dm dy) (R : RowP (aI h r) n kn kd fg hd dy) {p k f : Nat} (hp : p < 9) (hk : k < 8) (hf : f < 10) :
    ∃ g, X12_becomes h r (nI p) (nI k) (nI f) = some (sA h r g) ∧ RowP g n kn (updN kd p k) (updN fg p f) (hdc k p hd) dy := by
  have R1 := RowP_kd R (p := p) k
  have R2 := RowP_fg R1 (p := p) f
  unfold X12_becomes
  simp (disch := omega) only [L0, L1, m_of, Option.bind_some, gdi_n, i_cl, nm, aI_sA_eq, sA_sA, L7, i_eq]
  by_cases h7 : k = 7
  · have R3 := RowP_hd R2 (andn hd (2 ^ p))
    rw [if_pos h7]
    simp (disch := omega) only [L2, gdi_n, i_cl, aI_sA_eq, sA_sA, i_one, R2.2.2.1, i_andn1]
    refine ⟨_, rfl, ?_⟩
    rw [show hdc k p hd = andn hd (2 ^ p) from if_pos h7]
    exact R3
  · rw [if_neg h7]
    refine ⟨_, rfl, ?_⟩
    rw [show hdc k p hd = hd from if_neg h7]
    exact R2
theorem andn_out {x p m : Nat} (h : x < 2 ^ m) (hp : m ≤ p) (hm : m ≤ 9) : andn x (2 ^ p) = x := by
  have h9 := pow_le9 hm
  refine ext_bits fun j => ?_
  rw [andn_bit (by omega), tb_pow]
  by_cases e : p = j
  · subst e; rw [bit_lt h hp]; rfl
  · rw [show decide (p = j) = false from by simpa using e]; simp
theorem hdc_out {k x p m : Nat} (h : x < 2 ^ m) (hp : m ≤ p) (hm : m ≤ 9) : hdc k p x = x := by
  unfold hdc
  rw [andn_out h hp hm, ite_self]
theorem m_adds (w : WFp n kn kd fg hd dm dy) (R : RowP (aI h 67) n kn kd fg hd dy) {k f : Nat} (hn : n < 9) :
    ∃ g, X12_adds h (nI k) (nI f) = some (sA h 67 g) ∧ RowP g (n + 1) kn (updN kd n k) (updN fg n f) (hdc k n hd) dy := by
  have R1 := RowP_kd R (p := n) k
  have R2 := RowP_fg R1 (p := n) f
  have R3 := RowP_kn R2 (p := n) 0
  have R4 := RowP_n R3 (n + 1)
  unfold X12_adds
  simp (disch := omega) only [L0, L1, L2, gdi_n, i_cl, R.1, nm, m_of, Option.bind_some, aI_sA_eq, sA_sA, R3.1, nI_add]
  refine ⟨_, rfl, ?_⟩
  rw [updN_self (w.1.2.2.1 n (Nat.le_refl n))] at R4
  rw [hdc_out w.2.2.2.1 (Nat.le_refl n) w.1.1]
  exact R4
theorem m_changesLine (R : RowP (aI h r) n kn kd fg hd dy) {p q : Nat} (hp : p < 9) (hq : q < 9) (hpq : p ≠ q) :
    ∃ g, X12_changesLine h r (nI p) (nI q) = some (sA h r g) ∧ RowP g n (flip kn p q) kd fg hd dy := by
  have R1 := RowP_kn R (p := p) (kn p ^^^ 2 ^ q)
  have R2 := RowP_kn R1 (p := q) (kn q ^^^ 2 ^ p)
  rw [flip_eq hpq] at R2
  have e1 := (R1.2.2.2 q hq).2.2
  unfold updN at e1
  rw [if_neg (fun e => hpq e.symm)] at e1
  unfold X12_changesLine
  simp (disch := omega) only [L1, L2, m_of, gdi_n, i_cl, nm, Option.bind_some, aI_sA_eq, sA_sA, (R.2.2.2 p hp).2.2, i_one, i_xor, e1]
  exact ⟨_, rfl, R2⟩
theorem m_areTwo_in (R : RowP (aI h 67) n kn kd fg hd dy) {p q : Nat} (hp : p < n) (hq : q < n) (hn : n ≤ 9) : X12_areTwo h (nI p) (nI q) = some (nI (decide (p ≠ q)).toNat) := by
  unfold X12_areTwo
  simp (disch := omega) only [m_isOne_in R hp hn, m_isOne_in R hq hn, Option.bind_some, L0, eqF, ite_false, i_eq]
  by_cases e : p = q
  · rw [if_pos e, decide_eq_false (by omega)]; rfl
  · rw [if_neg e, decide_eq_true e]; rfl
theorem m_areTwo_out1 (R : RowP (aI h 67) n kn kd fg hd dy) {u v : Int32} (hn : n ≤ 9) (hu : outside u n) : X12_areTwo h u v = some (nI 0) := by
  unfold X12_areTwo
  rw [m_isOne_out R hn hu]; rfl
theorem m_areTwo_out2 (R : RowP (aI h 67) n kn kd fg hd dy) {p : Nat} {v : Int32} (hn : n ≤ 9) (hp : p < n) (hv : outside v n) : X12_areTwo h (nI p) v = some (nI 0) := by
  unfold X12_areTwo
  rw [m_isOne_in R hp hn, m_isOne_out R hn hv]; rfl
end MOP
/-! the invariant behind a change of the parish, of the image -/
def nwA (o : Nat) : Bool := scA o || [7, 18, 19, 67].contains o
def nwF (o k : Nat) : Bool := scF o k || o == 5 || o == 6
def imA (o : Nat) : Bool := scA o || [37, 48, 49, 69].contains o
def imF (o k : Nat) : Bool := scF o k || o == 35 || o == 36 || (o == 0 && k == 3) || (o == 66 && k == 4)
def KeepG (A : Nat → Bool) (F : Nat → Nat → Bool) (h h1 : HS) : Prop := (∀ o k, F o k = false → fI h1 o k = fI h o k) ∧ (∀ o, A o = false → o ≠ 8 → aI h1 o = aI h o) ∧ aI h1 8 0 = aI h 8 0
section KG
variable {A : Nat → Bool} {F : Nat → Nat → Bool} {h0 h h1 : HS}
theorem KeepG.refl : KeepG A F h h := ⟨fun _ _ _ => rfl, fun _ _ _ => rfl, rfl⟩
theorem KeepG.trans (x : KeepG A F h0 h) (y : KeepG A F h h1) : KeepG A F h0 h1 := ⟨fun o k q => (y.1 o k q).trans (x.1 o k q), fun o q r => (y.2.1 o q r).trans (x.2.1 o q r), y.2.2.trans x.2.2⟩
theorem KeepG.a (x : KeepG A F h0 h) {o : Nat} {f : Nat → Int32} (ho : A o = true) (h8 : o ≠ 8) : KeepG A F h0 (sA h o f) := by
  refine x.trans ⟨fun _ _ _ => rfl, fun o1 q _ => aI_sA_ne (fun e => ?_), ?_⟩
  · rw [e, ho] at q; exact absurd q (by decide)
  · rw [aI_sA_ne (fun e => h8 e.symm)]
theorem KeepG.f (x : KeepG A F h0 h) {o k : Nat} {v : Int32} (ho : F o k = true) : KeepG A F h0 (sF h o k v) := by
  refine x.trans ⟨fun o1 k1 q => fI_sF_ne (fun e => ?_), fun o1 _ _ => rfl, rfl⟩
  rw [e.1, e.2, ho] at q; exact absurd q (by decide)
theorem Keep.g (hA : ∀ o, scA o = true → A o = true) (hF : ∀ o k, scF o k = true → F o k = true) (x : Keep h h1) : KeepG A F h h1 :=
  ⟨fun o k q => x.1 o k (by cases e : scF o k with | false => rfl | true => rw [hF o k e] at q; exact absurd q (by decide)), fun o q r => x.2.1 o (by cases e : scA o with | false => rfl | true => rw [hA o e] at q; exact absurd q (by decide)) r, x.2.2⟩
end KG
section KN
variable {h0 h h1 : HS}
theorem Keep.n (x : Keep h h1) : KeepG nwA nwF h h1 := x.g (fun o e => by unfold nwA; rw [e]; rfl) (fun o k e => by unfold nwF; rw [e]; rfl)
theorem Keep.i (x : Keep h h1) : KeepG imA imF h h1 := x.g (fun o e => by unfold imA; rw [e]; rfl) (fun o k e => by unfold imF; rw [e]; rfl)
theorem FrB.keep (x : FrB 20 h h1) : Keep h h1 :=
  ⟨fun o k q => x.1 o k (fun e => by subst e; simp [scF] at q) (fun e => by subst e; simp [scF] at q), fun o q _ => x.2 o (fun e => by subst e; exact absurd q (by decide)) (fun e => by subst e; exact absurd q (by decide)) (fun e => by subst e; exact absurd q (by decide)), by rw [x.2 8 (by decide) (by decide) (by decide)]⟩
theorem FrB.n (x : FrB 5 h h1) : KeepG nwA nwF h h1 :=
  ⟨fun o k q => x.1 o k (fun e => by subst e; simp [nwF] at q) (fun e => by subst e; simp [nwF] at q), fun o q _ => x.2 o (fun e => by subst e; exact absurd q (by decide)) (fun e => by subst e; exact absurd q (by decide)) (fun e => by subst e; exact absurd q (by decide)), by rw [x.2 8 (by decide) (by decide) (by decide)]⟩
theorem FrB.i (x : FrB 35 h h1) : KeepG imA imF h h1 :=
  ⟨fun o k q => x.1 o k (fun e => by subst e; simp [imF] at q) (fun e => by subst e; simp [imF] at q), fun o q _ => x.2 o (fun e => by subst e; exact absurd q (by decide)) (fun e => by subst e; exact absurd q (by decide)) (fun e => by subst e; exact absurd q (by decide)), by rw [x.2 8 (by decide) (by decide) (by decide)]⟩
theorem KeepN.img (x : KeepG nwA nwF h h1) (I : ImgP h) : ImgP h1 := by
  have key : ∀ {n : Nat} {kn kd fg : Nat → Nat} {hd dm dy : Nat}, ParL h 35 n kn kd fg hd dm dy → ParL h1 35 n kn kd fg hd dm dy := by
    intro n kn kd fg hd dm dy P
    refine ⟨⟨(x.1 _ _ (by decide)).trans P.1.1, fun p hp => ?_⟩, fun p hp => ?_, fun p hp => ?_, (x.1 _ _ (by decide)).trans P.2.2.2.1, (x.1 _ _ (by decide)).trans P.2.2.2.2.1, (x.1 _ _ (by decide)).trans P.2.2.2.2.2⟩
    · rw [x.2.1 _ (by decide) (by decide)]; exact P.1.2 p hp
    · rw [x.2.1 _ (by decide) (by decide)]; exact P.2.1 p hp
    · rw [x.2.1 _ (by decide) (by decide)]; exact P.2.2.1 p hp
  rcases I with ⟨a, b⟩ | ⟨a, b, n, kn, kd, fg, hd, dm, dy, c, d, e, f⟩
  · exact Or.inl ⟨(x.1 _ _ (by decide)).trans a, (x.1 _ _ (by decide)).trans b⟩
  · exact Or.inr ⟨(x.1 _ _ (by decide)).trans a, (x.1 _ _ (by decide)).trans b, n, kn, kd, fg, hd, dm, dy, c, d, key e, by rw [x.2.1 _ (by decide) (by decide)]; exact f⟩
theorem KeepI.now (x : KeepG imA imF h h1) {n : Nat} {kn kd fg : Nat → Nat} {hd dm dy : Nat} (N : NowP h n kn kd fg hd dm dy) : NowP h1 n kn kd fg hd dm dy := by
  obtain ⟨w, d, P, R⟩ := N
  refine ⟨w, d, ⟨⟨(x.1 _ _ (by decide)).trans P.1.1, fun p hp => ?_⟩, fun p hp => ?_, fun p hp => ?_, (x.1 _ _ (by decide)).trans P.2.2.2.1, (x.1 _ _ (by decide)).trans P.2.2.2.2.1, (x.1 _ _ (by decide)).trans P.2.2.2.2.2⟩, ?_⟩
  · rw [x.2.1 _ (by decide) (by decide)]; exact P.1.2 p hp
  · rw [x.2.1 _ (by decide) (by decide)]; exact P.2.1 p hp
  · rw [x.2.1 _ (by decide) (by decide)]; exact P.2.2.1 p hp
  · rw [x.2.1 _ (by decide) (by decide)]; exact R
theorem sh_nw : ∀ k, k < 8 → (∀ j, j < 5 → nwF (50 + 2 * k) j = false) ∧ nwA (50 + 2 * k + 1) = false ∧ 50 + 2 * k + 1 ≠ 8 := by decide
theorem sh_im : ∀ k, k < 8 → (∀ j, j < 5 → imF (50 + 2 * k) j = false) ∧ imA (50 + 2 * k + 1) = false ∧ 50 + 2 * k + 1 ≠ 8 := by decide
theorem KeepG.shelf {A : Nat → Bool} {F : Nat → Nat → Bool} (c : ∀ k, k < 8 → (∀ j, j < 5 → F (50 + 2 * k) j = false) ∧ A (50 + 2 * k + 1) = false ∧ 50 + 2 * k + 1 ≠ 8) (d : ∀ o, o ≤ 80 → 76 ≤ o → A o = false) (e : A 81 = false) (x : KeepG A F h h1) {k ho so le : Nat} {el : Nat → Int32} (hk : k < 8) (S : ShP h k ho so le el) : ShP h1 k ho so le el := by
  obtain ⟨s1, s2, s3⟩ := c k hk
  refine S.congr (fun j hj => x.1 _ _ (s1 j hj)) (x.2.1 _ s2 s3) (fun o h1 h2 => ?_) (fun i _ => ?_)
  · rw [x.2.1 o (d o h2 h1) (by omega)]
  · rw [x.2.1 81 e (by decide)]
theorem Inv.n (I : Inv h) (x : KeepG nwA nwF h h1) {n : Nat} {kn kd fg : Nat → Nat} {hd dm dy : Nat} (w : WFp n kn kd fg hd dm dy) (d : dy ≤ 999) (P : ParL h1 5 n kn kd fg hd dm dy) (R : RowP (aI h1 67) n kn kd fg hd dy) : Inv h1 := by
  obtain ⟨_, b, c, e⟩ := I
  refine ⟨⟨n, kn, kd, fg, hd, dm, dy, w, d, P, R⟩, KeepN.img x b, fun k hk => ?_, x.2.2.trans e⟩
  obtain ⟨ho, so, le, el, S⟩ := c k hk
  exact ⟨ho, so, le, el, x.shelf sh_nw (by decide) (by decide) hk S⟩
theorem Inv.i (I : Inv h) (x : KeepG imA imF h h1) (J : ImgP h1) : Inv h1 := by
  obtain ⟨⟨n, kn, kd, fg, hd, dm, dy, N⟩, b, c, e⟩ := I
  refine ⟨⟨n, kn, kd, fg, hd, dm, dy, KeepI.now x N⟩, J, fun k hk => ?_, x.2.2.trans e⟩
  obtain ⟨ho, so, le, el, S⟩ := c k hk
  exact ⟨ho, so, le, el, x.shelf sh_im (by decide) (by decide) hk S⟩
end KN
