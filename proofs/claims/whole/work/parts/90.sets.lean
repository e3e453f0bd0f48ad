/-! sets of people as bits; pews: the fewest sets without a line that make all up -/
def sbt (P x : Nat) : Prop := ∀ j, P.testBit j = true → x.testBit j = true
theorem sbt_lt {P x m : Nat} (s : sbt P x) (hx : x < 2 ^ m) : P < 2 ^ m := lt_bits (fun j hj => by
  cases e : P.testBit j
  · rfl
  · rw [← s j e]; exact bit_lt hx hj)
theorem sbt_andn {P x : Nat} (hP : P < 4294967296) : (andn P x = 0) ↔ sbt P x := by
  constructor
  · intro h j hj
    have : (andn P x).testBit j = false := by rw [h, Nat.zero_testBit]
    rw [andn_bit hP, hj] at this
    simpa using this
  · intro h
    refine ext_bits fun j => ?_
    rw [andn_bit hP, Nat.zero_testBit]
    cases e : P.testBit j
    · rfl
    · rw [h j e]; rfl
theorem andn_comm {x : Nat} (hx : x < 4294967296) (P Q : Nat) : andn (andn x P) Q = andn (andn x Q) P := by
  have h1 := andn_le x P
  have h2 := andn_le x Q
  refine ext_bits fun j => ?_
  rw [andn_bit (by omega), andn_bit hx, andn_bit (by omega), andn_bit hx, Bool.and_right_comm]
theorem andn_self {x : Nat} (hx : x < 4294967296) : andn x x = 0 := (sbt_andn hx).mpr (fun _ h => h)
theorem andn_lt {x P : Nat} (hx : x < 4294967296) (s : sbt P x) (h0 : P ≠ 0) : andn x P < x := by
  refine Nat.lt_of_le_of_ne (andn_le x P) (fun e => h0 (ext_bits fun j => ?_))
  rw [Nat.zero_testBit]
  cases hj : P.testBit j
  · rfl
  · have h1 := s j hj
    have h2 := andn_bit hx P j
    rw [e, h1, hj] at h2
    exact absurd h2 (by decide)
theorem some_bit {x : Nat} (h : x ≠ 0) : ∃ j, x.testBit j = true := by
  refine Classical.byContradiction fun z => h (ext_bits fun j => ?_)
  rw [Nat.zero_testBit]
  cases e : x.testBit j
  · rfl
  · exact absurd ⟨j, e⟩ z
/-- ahead of a set q in x the next greatest is (q - 1) and x -/
theorem sub_next : ∀ (m x q P : Nat), q < 2 ^ m → sbt q x → sbt P x → P < q → P ≤ (q - 1) &&& x := by
  intro m
  induction m with
  | zero => intro x q P h1 _ _ h4; exact absurd h1 (by simp; omega)
  | succ m ih =>
    intro x q P h1 h2 h3 h4
    rw [Nat.pow_succ] at h1
    have s2 : sbt (q / 2) (x / 2) := fun j hj => by
      rw [Nat.testBit_div_two] at hj ⊢
      exact h2 _ hj
    have s3 : sbt (P / 2) (x / 2) := fun j hj => by
      rw [Nat.testBit_div_two] at hj ⊢
      exact h3 _ hj
    rcases (show q % 2 = 1 ∨ q % 2 = 0 by omega) with o | o
    · have e : (q - 1) &&& x = q - 1 := by
        refine ext_bits fun j => ?_
        rw [Nat.testBit_and]
        cases hj : (q - 1).testBit j
        · rfl
        · cases j with
          | zero =>
            rw [Nat.testBit_zero] at hj
            have : (q - 1) % 2 = 1 := by simpa using hj
            omega
          | succ j =>
            rw [Nat.testBit_succ, show (q - 1) / 2 = q / 2 by omega] at hj
            rw [Nat.testBit_succ, s2 j hj]; rfl
      omega
    · have hlt : P / 2 < q / 2 := by omega
      have h5 := ih (x / 2) (q / 2) (P / 2) (by omega) s2 s3 hlt
      have e1 : ((q - 1) &&& x) / 2 = (q / 2 - 1) &&& (x / 2) := by
        rw [Nat.and_div_two, show (q - 1) / 2 = q / 2 - 1 by omega]
      have e2 : P % 2 = 1 → ((q - 1) &&& x) % 2 = 1 := by
        intro z
        have hx := h3 0 (by rw [Nat.testBit_zero]; simpa using z)
        rw [Nat.testBit_zero] at hx
        rw [Nat.and_mod_two_eq_one]
        exact ⟨by omega, by simpa using hx⟩
      omega
theorem sbt_and (q x : Nat) : sbt ((q - 1) &&& x) x := fun j hj => by
  rw [Nat.testBit_and, Bool.and_eq_true] at hj
  exact hj.2
/-- x made up of k sets without a line -/
def cov (n : Nat) (kn : Nat → Nat) : Nat → Nat → Prop
  | 0, x => x = 0
  | k + 1, x => ∃ P, sbt P x ∧ alk kn 0 P 0 n = true ∧ cov n kn k (andn x P)
theorem cov_top {n : Nat} {kn : Nat → Nat} : ∀ (k x p : Nat), x < 4294967296 → x.testBit p = true → cov n kn k x → ∃ k1 Q, k = k1 + 1 ∧ sbt Q x ∧ alk kn 0 Q 0 n = true ∧ Q.testBit p = true ∧ cov n kn k1 (andn x Q) := by
  intro k
  induction k with
  | zero =>
    intro x p _ hp c
    have c : x = 0 := c
    rw [c, Nat.zero_testBit] at hp
    exact absurd hp (by decide)
  | succ k ih =>
    intro x p hx hp c
    obtain ⟨P, s, i, c⟩ := c
    cases e : P.testBit p
    · have hle := andn_le x P
      obtain ⟨k1, Q, rfl, sQ, iQ, hQ, cQ⟩ := ih (andn x P) p (by omega) (by rw [andn_bit hx, hp, e]; rfl) c
      refine ⟨k1 + 1, Q, rfl, fun j hj => ?_, iQ, hQ, P, fun j hj => ?_, i, ?_⟩
      · have := sQ j hj
        rw [andn_bit hx, Bool.and_eq_true] at this
        exact this.1
      · rw [andn_bit hx, s j hj]
        cases z : Q.testBit j
        · rfl
        · have := sQ j z
          rw [andn_bit hx, hj] at this
          exact absurd this (by simp)
      · rw [andn_comm hx]; exact cQ
    · exact ⟨k, P, rfl, s, i, e, c⟩
theorem alk_one {n : Nat} {kn : Nat → Nat} {p : Nat} (hp : p < 9) : alk kn 0 (2 ^ p) 0 n = true := by
  have h9 : 2 ^ p < 4294967296 := Nat.lt_of_lt_of_le (pow_lt hp) (by decide)
  refine (alk_iff n 0).mpr (fun q _ _ hq => ?_)
  rw [tb_pow] at hq
  have e : p = q := by simpa using hq
  subst e
  unfold okp
  rw [if_pos rfl, andn_self h9, Nat.zero_and]
  rfl
theorem alk_none {n : Nat} {kn : Nat → Nat} : alk kn 0 0 0 n = true :=
  (alk_iff n 0).mpr (fun q _ _ hq => by rw [Nat.zero_testBit] at hq; exact absurd hq (by decide))
theorem cov_all {n : Nat} {kn : Nat → Nat} : ∀ (p x : Nat), p ≤ 9 → x < 2 ^ p → cov n kn p x := by
  intro p
  induction p with
  | zero => intro x _ hx; show x = 0; simpa using hx
  | succ p ih =>
    intro x hp hx
    have h9 : x < 4294967296 := Nat.lt_of_lt_of_le (Nat.lt_of_lt_of_le hx (Nat.pow_le_pow_right (by decide) hp)) (by decide)
    have key : ∀ P, (∀ j, P.testBit j = (x.testBit j && decide (j = p))) → alk kn 0 P 0 n = true → cov n kn (p + 1) x := by
      intro P hP hi
      refine ⟨P, fun j hj => ?_, hi, ih _ (by omega) (lt_bits fun j hj => ?_)⟩
      · rw [hP, Bool.and_eq_true] at hj; exact hj.1
      · rw [andn_bit h9, hP]
        by_cases e : j = p
        · subst e; cases x.testBit j <;> simp
        · rw [bit_lt hx (show p + 1 ≤ j by omega)]; rfl
    cases e : x.testBit p
    · refine key 0 (fun j => ?_) alk_none
      rw [Nat.zero_testBit]
      by_cases z : j = p
      · subst z; rw [e]; rfl
      · simp [z]
    · refine key (2 ^ p) (fun j => ?_) (alk_one (by omega))
      rw [tb_pow]
      by_cases z : j = p
      · subst z; rw [e]; simp
      · simp [z]; exact fun q => z q.symm
/-- r is the least k of them -/
def lsM (n : Nat) (kn : Nat → Nat) (x r : Nat) : Prop := cov n kn r x ∧ ∀ k, cov n kn k x → r ≤ k
theorem lsM_one {n : Nat} {kn : Nat → Nat} {x r s : Nat} (a : lsM n kn x r) (b : lsM n kn x s) : r = s := Nat.le_antisymm (a.2 s b.1) (b.2 r a.1)
theorem lsM_0 {n : Nat} {kn : Nat → Nat} : lsM n kn 0 0 := ⟨rfl, fun k _ => Nat.zero_le k⟩
theorem lsM_le {n : Nat} {kn : Nat → Nat} {x r p : Nat} (a : lsM n kn x r) (hp : p ≤ 9) (hx : x < 2 ^ p) : r ≤ p := a.2 p (cov_all p x hp hx)
theorem lsM_step {n : Nat} {kn : Nat → Nat} {c : Nat → Nat} {x r p : Nat} (hx : x < 4294967296) (hp : x.testBit p = true) (hc : ∀ y, y < x → lsM n kn y (c y))
    (h1 : ∀ P, P.testBit p = true → sbt P x → alk kn 0 P 0 n = true → r ≤ c (andn x P) + 1) (h2 : ∃ P, P ≠ 0 ∧ sbt P x ∧ alk kn 0 P 0 n = true ∧ r = c (andn x P) + 1) : lsM n kn x r := by
  constructor
  · obtain ⟨P, hP, s, i, rfl⟩ := h2
    exact ⟨P, s, i, (hc _ (andn_lt hx s hP)).1⟩
  · intro k hk
    obtain ⟨k1, Q, rfl, s, i, hQ, cQ⟩ := cov_top k x p hx hp hk
    have h0 : Q ≠ 0 := fun e => by rw [e, Nat.zero_testBit] at hQ; exact absurd hQ (by decide)
    have := (hc _ (andn_lt hx s h0)).2 k1 cQ
    have := h1 Q hQ s i
    omega
/-- what an array holds for each set ahead of y -/
def BI (M : Nat → Nat → Prop) (t : HS) (o y : Nat) : Prop := ∀ x, x < y → ∃ r, r ≤ 9 ∧ aI t o x = nI r ∧ M x r
theorem BI_c {M : Nat → Nat → Prop} {t : HS} {o y x : Nat} (B : BI M t o y) (hx : x < y) : (aI t o x).toNatClampNeg ≤ 9 ∧ aI t o x = nI (aI t o x).toNatClampNeg ∧ M x (aI t o x).toNatClampNeg := by
  obtain ⟨r, h1, h2, h3⟩ := B x hx
  have e : (aI t o x).toNatClampNeg = r := by rw [h2, i_cl (by omega)]
  rw [e]
  exact ⟨h1, h2, h3⟩
theorem BI_up {M : Nat → Nat → Prop} {t : HS} {o y r : Nat} (B : BI M t o y) (hr : r ≤ 9) (hM : M y r) : BI M (sA t o (upd (aI t o) y (nI r))) o (y + 1) := fun x hx => by
  rw [aI_sA_eq]
  by_cases e : x = y
  · subst e; exact ⟨r, hr, pk_us, hM⟩
  · rw [pk_un e]; exact B x (by omega)
