/-! fractions: both sides divide by the greatest common divisor, found in few steps -/
def fibo : Nat → Nat
  | 0 => 0
  | 1 => 1
  | n + 2 => fibo n + fibo (n + 1)
/-- n steps of Euclid's -/
def eu : Nat → Nat → Nat → Nat × Nat
  | 0, a, b => (a, b)
  | n + 1, a, b => if b = 0 then (a, 0) else eu n b (a % b)
theorem eu_fib : ∀ n a b, b < a → (eu n a b).2 ≠ 0 → fibo (n + 1) ≤ b ∧ fibo (n + 2) ≤ a := by
  intro n
  induction n with
  | zero =>
    intro a b hab h
    have h : b ≠ 0 := h
    show 1 ≤ b ∧ fibo 0 + fibo 1 ≤ a
    simp only [fibo]
    omega
  | succ n ih =>
    intro a b hab h
    rw [eu] at h
    by_cases hb : b = 0
    · rw [if_pos hb] at h
      exact absurd rfl h
    · rw [if_neg hb] at h
      obtain ⟨h1, h2⟩ := ih b (a % b) (Nat.mod_lt _ (by omega)) h
      have h3 : a % b + b ≤ a := by
        have := Nat.div_add_mod a b
        have h4 : 1 ≤ a / b := (Nat.one_le_div_iff (by omega)).mpr (by omega)
        have h5 : b * 1 ≤ b * (a / b) := Nat.mul_le_mul_left b h4
        omega
      refine ⟨h2, ?_⟩
      show fibo (n + 1) + fibo (n + 2) ≤ a
      omega
theorem eu_gcd : ∀ n a b, (eu n a b).2 = 0 → (eu n a b).1 = Nat.gcd a b := by
  intro n
  induction n with
  | zero =>
    intro a b h
    have h : b = 0 := h
    subst h
    show a = _
    simp
  | succ n ih =>
    intro a b h
    rw [eu] at h ⊢
    by_cases hb : b = 0
    · rw [if_pos hb]; subst hb; simp
    · rw [if_neg hb] at h ⊢
      rw [ih b (a % b) h, Nat.gcd_comm b, ← Nat.gcd_rec, Nat.gcd_comm]
theorem eu_more : ∀ n m a b, (eu n a b).2 = 0 → eu (n + m) a b = eu n a b := by
  intro n
  induction n with
  | zero =>
    intro m a b h
    have h : b = 0 := h
    subst h
    cases m with
    | zero => rfl
    | succ m => simp [eu]
  | succ n ih =>
    intro m a b h
    rw [show n + 1 + m = (n + m) + 1 from by omega, eu, eu]
    rw [eu] at h
    by_cases hb : b = 0
    · rw [if_pos hb, if_pos hb]
    · rw [if_neg hb] at h
      rw [if_neg hb, if_neg hb]
      exact ih m b (a % b) h
def fibs : Nat → Nat × Nat
  | 0 => (0, 1)
  | n + 1 => ((fibs n).2, (fibs n).1 + (fibs n).2)
theorem fibs_eq : ∀ n, fibs n = (fibo n, fibo (n + 1)) := by
  intro n
  induction n with
  | zero => rfl
  | succ n ih => rw [fibs, ih]; rfl
theorem fib91 : 4000000000000000000 ≤ fibo 91 := by
  have h : (fibs 91).1 = fibo 91 := by rw [fibs_eq]
  rw [← h]
  decide +kernel
/-- 91 steps do for what a fraction may hold -/
theorem eu_done {a b : Nat} (hb : b < 4000000000000000000) : (eu 91 a b).2 = 0 := by
  by_cases h0 : b = 0
  · subst h0; rw [eu, if_pos rfl]
  · have e : eu 91 a b = eu 90 b (a % b) := by rw [eu, if_neg h0]
    rw [e]
    refine Classical.byContradiction fun hn => ?_
    have h2 : fibo 91 ≤ a % b := (eu_fib 90 b (a % b) (Nat.mod_lt _ (by omega)) hn).1
    have h91 := fib91
    have h3 : fibo 92 ≤ b := (eu_fib 90 b (a % b) (Nat.mod_lt _ (by omega)) hn).2
    have h92 : fibo 91 ≤ fibo 92 := by show fibo 91 ≤ fibo 90 + fibo 91; omega
    omega
theorem l_rem {a b : Nat} (ha : a < 9223372036854775808) (h0 : 0 < b) (hb : b < 9223372036854775808) : lN a - lN a / lN b * lN b = lN (a % b) := pk_lRem ha h0 hb
theorem l_cmp0 {a : Nat} (ha : a < 9223372036854775808) : (lg_cmp (lN a) 0 = 0) = (a = 0) := by
  unfold lg_cmp
  rw [show (0 : Int64) = lN 0 from rfl]
  simp only [gt_iff_lt, pk_lLT (show 0 < 2 ^ 63 by decide) ha, pk_lEQ ha (show 0 < 2 ^ 63 by decide)]
  by_cases h : a = 0
  · subst h; simp
  · rw [if_pos (by omega)]; simp [h]
theorem i_l {n : Nat} (h : n < 2147483648) : (nI n).toInt64 = lN n := nI_l h
theorem c_gcd {a b : Nat} (ha : a < 4000000000000000000) (hb : b < 4000000000000000000) : X11_commonDivisor (lN a) (lN b) = some (lN (Nat.gcd a b)) := by
  have key : ∀ m fu k x y, k + m ≤ 100 → m < fu → x < 4000000000000000000 → y < 4000000000000000000 → (eu m x y).2 = 0 → X11_commonDivisor_B9 (lN a) (lN b) fu (lN x) (lN y) (nI k) = some (lN (eu m x y).1) := by
    intro m
    induction m with
    | zero =>
      intro fu k x y hk hf hx hy h
      have h : y = 0 := h
      subst h
      obtain ⟨fu, rfl⟩ : ∃ f, fu = f + 1 := ⟨fu - 1, by omega⟩
      rw [X11_commonDivisor_B9]
      simp (disch := omega) only [L100, i_le, l_cmp0, ite_true, ite_self]
      rfl
    | succ m ih =>
      intro fu k x y hk hf hx hy h
      obtain ⟨fu, rfl⟩ : ∃ f, fu = f + 1 := ⟨fu - 1, by omega⟩
      rw [X11_commonDivisor_B9]
      rw [eu] at h ⊢
      by_cases h0 : y = 0
      · simp (disch := omega) only [L100, leF, l_cmp0, if_pos h0, ite_false]
      · rw [if_neg h0] at h
        have hr := Nat.mod_lt x (show 0 < y by omega)
        have hne : ¬ (lN y = 0) := by
          rw [show (0 : Int64) = lN 0 from rfl, pk_lEQ (by omega) (by omega)]; exact h0
        simp (disch := omega) only [L100, leF, l_cmp0, if_neg h0, ite_false, gdzL, if_neg hne, nm, l_rem, L1, nI_add]
        exact ih fu (k + 1) y (x % y) (by omega) (by omega) hy (by omega) h
  unfold X11_commonDivisor
  rw [L0, key 91 FU 0 a b (by omega) (FU_lt (by omega)) ha hb (eu_done hb), eu_gcd 91 a b (eu_done hb)]
theorem m_gcd {a b : Nat} (ha : a < 4000000000000000000) (hb : b < 4000000000000000000) : X12_gcd (lN a) (lN b) = some (lN (Nat.gcd a b)) := by
  have key : ∀ m fu x y, m < fu → x < 4000000000000000000 → y < 4000000000000000000 → (eu m x y).2 = 0 → X12_gcd_B6 (lN a) (lN b) fu (lN x) (lN y) = some (lN (eu m x y).1) := by
    intro m
    induction m with
    | zero =>
      intro fu x y hf hx hy h
      have h : y = 0 := h
      subst h
      obtain ⟨fu, rfl⟩ : ∃ f, fu = f + 1 := ⟨fu - 1, by omega⟩
      rw [X12_gcd_B6]
      simp (disch := omega) only [l_cmp0, ite_true]
      rfl
    | succ m ih =>
      intro fu x y hf hx hy h
      obtain ⟨fu, rfl⟩ : ∃ f, fu = f + 1 := ⟨fu - 1, by omega⟩
      rw [X12_gcd_B6]
      rw [eu] at h ⊢
      by_cases h0 : y = 0
      · simp (disch := omega) only [l_cmp0, if_pos h0]
      · rw [if_neg h0] at h
        have hr := Nat.mod_lt x (show 0 < y by omega)
        have hne : ¬ (lN y = 0) := by
          rw [show (0 : Int64) = lN 0 from rfl, pk_lEQ (by omega) (by omega)]; exact h0
        simp (disch := omega) only [l_cmp0, if_neg h0, gdzL, if_neg hne, nm, l_rem]
        exact ih fu y (x % y) (by omega) hy (by omega) h
  unfold X12_gcd
  rw [key 91 FU a b (FU_lt (by omega)) ha hb (eu_done hb), eu_gcd 91 a b (eu_done hb)]
/-- the part above the line (0), below it (1), of a by b in least terms -/
def fr (a b : Nat) (v : Int32) : Int64 := if v = 0 then (if b = 0 then 0 else lN (a / Nat.gcd a b)) else if v = 1 then (if b = 0 then 1 else lN (b / Nat.gcd a b)) else 1000000001
theorem c_frac {a b : Nat} (ha : a < 4000000000000000000) (hb : b < 4000000000000000000) (v : Int32) : X11_fraction (lN a) (lN b) v = some (fr a b v) := by
  have e15 : ∀ u : Int32, u = 0 ∨ u = 1 → X11_fraction_B15 (lN a) (lN b) u = some (fr a b u) := by
    intro u hu
    have hg : Nat.gcd a b < 4000000000000000000 ∨ b = 0 := by
      rcases Nat.eq_zero_or_pos b with h | h
      · exact Or.inr h
      · exact Or.inl (Nat.lt_of_le_of_lt (Nat.gcd_le_right a h) hb)
    unfold X11_fraction_B15
    rw [c_gcd ha hb]
    simp (disch := omega) only [Option.bind_some, l_cmp0]
    unfold fr
    by_cases h0 : b = 0
    · rcases hu with rfl | rfl
      · rw [if_pos h0]; simp only [h0, ite_true]; rfl
      · rw [if_pos h0, if_neg (by decide)]; simp only [h0, ite_true]; rfl
    · have hp : 0 < Nat.gcd a b := Nat.gcd_pos_of_pos_right a (by omega)
      have hg1 : Nat.gcd a b < 4000000000000000000 := hg.resolve_right h0
      have hne : ¬ (lN (Nat.gcd a b) = 0) := by
        rw [show (0 : Int64) = lN 0 from rfl, pk_lEQ (by omega) (by omega)]; omega
      have hgz : ¬ Nat.gcd a b = 0 := by omega
      simp (disch := omega) only [l_cmp0, if_neg h0, if_neg hgz, gdzL, if_neg hne]
      rcases hu with rfl | rfl
      · rw [if_pos rfl, if_pos rfl, pk_lDiv (by omega) hp (by omega)]
      · rw [if_neg (by decide), if_neg (by decide), if_pos rfl, pk_lDiv (by omega) hp (by omega)]
  unfold X11_fraction
  by_cases h0 : v = 0
  · rw [if_pos h0]; exact e15 v (Or.inl h0)
  · rw [if_neg h0]
    by_cases h1 : v = 1
    · rw [if_pos h1]; exact e15 v (Or.inr h1)
    · rw [if_neg h1]
      unfold fr
      rw [if_neg h0, if_neg h1]
theorem m_part {a b : Nat} (ha : a < 4000000000000000000) (hb : b < 4000000000000000000) (hab : b = 0 → a = 0) {v : Int32} (hv : v = 0 ∨ v = 1) : X12_partOf (lN a) (lN b) v = some (fr a b v) := by
  unfold X12_partOf
  simp (disch := omega) only [l_cmp0]
  by_cases h0 : a = 0
  · rw [if_pos h0]
    unfold fr
    subst h0
    rcases hv with rfl | rfl
    · rw [if_pos rfl]
      by_cases hb0 : b = 0
      · rw [if_pos hb0]; rfl
      · rw [if_neg hb0, Nat.zero_div]; rfl
    · rw [if_neg (by decide), if_pos rfl]
      by_cases hb0 : b = 0
      · rw [if_pos hb0]; rfl
      · rw [if_neg hb0, Nat.gcd_zero_left, Nat.div_self (by omega)]; rfl
  · have hb0 : ¬ b = 0 := fun q => h0 (hab q)
    have hp : 0 < Nat.gcd a b := Nat.gcd_pos_of_pos_right a (by omega)
    have hg1 : Nat.gcd a b < 4000000000000000000 := Nat.lt_of_le_of_lt (Nat.gcd_le_right a (by omega)) hb
    have hne : ¬ (lN (Nat.gcd a b) = 0) := by
      rw [show (0 : Int64) = lN 0 from rfl, pk_lEQ (by omega) (by omega)]; omega
    rw [if_neg h0]
    unfold fr X12_partOf_B20
    rw [m_gcd ha hb]
    simp only [Option.bind_some, gdzL, if_neg hne, if_neg hb0]
    rcases hv with rfl | rfl
    · rw [if_pos rfl, if_pos rfl, pk_lDiv (by omega) hp (by omega)]
    · rw [if_neg (by decide), if_neg (by decide), if_pos rfl, pk_lDiv (by omega) hp (by omega)]
