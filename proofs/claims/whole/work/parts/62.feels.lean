/-! who FEELS it -/
theorem loopR {τ σ R : Type} (F : Nat → Nat → τ → R) (E : τ → R) (n : Nat) (step : Nat → σ → σ) (I : Nat → σ → τ → Prop)
    (hx : ∀ fu s t, I n s t → F (fu + 1) n t = E t)
    (hs : ∀ fu k s t, k < n → I k s t → ∃ t1, F (fu + 1) k t = F fu (k + 1) t1 ∧ I (k + 1) (step k s) t1) :
    ∀ m fu k s t, k + m = n → m < fu → I k s t → ∃ t1, F fu k t = E t1 ∧ I n (itf step k m s) t1 := by
  intro m
  induction m with
  | zero =>
    intro fu k s t hk hf hI
    obtain ⟨fu, rfl⟩ : ∃ f, fu = f + 1 := ⟨fu - 1, by omega⟩
    have : k = n := by omega
    subst this
    exact ⟨t, hx fu s t hI, hI⟩
  | succ m ih =>
    intro fu k s t hk hf hI
    obtain ⟨fu, rfl⟩ : ∃ f, fu = f + 1 := ⟨fu - 1, by omega⟩
    obtain ⟨t1, h1, h2⟩ := hs fu k s t (by omega) hI
    obtain ⟨t2, h3, h4⟩ := ih fu (k + 1) (step k s) t1 (by omega) (by omega) h2
    exact ⟨t2, h1.trans h3, h4⟩
def fstep (n : Nat) (kn : Nat → Nat) (p s : Nat) : Nat := if bc (kn p) * bc (kn p) < ks n kn p then s ||| 2 ^ p else s
def fe (n : Nat) (kn : Nat → Nat) : Nat := itf (fstep n kn) 0 n 0
theorem fe_lt {n : Nat} {kn : Nat → Nat} : fe n kn < 2 ^ n := by
  refine itf_inv (fun _ s => s < 2 ^ n) n (fun k s hk h => ?_) n 0 _ (by omega) (Nat.two_pow_pos n)
  unfold fstep
  split
  · exact or_lt h (pow_lt hk)
  · exact h
theorem ks_le {n : Nat} {kn : Nat → Nat} {p : Nat} (hn : n ≤ 9) : ks n kn p ≤ 81 := by
  refine Nat.le_trans (fb_sm_le (g := fun _ => 9) (fun k _ => ?_)) (by rw [fb_sm_const]; omega)
  split
  · exact bc_le _
  · exact Nat.zero_le _
theorem bc_zero {x : Nat} (h : bc x = 0) {j : Nat} (hj : j < 9) : x.testBit j = false := by
  have hb : ∀ b : Bool, b.toNat = 0 → b = false := by intro b hb; cases b <;> simp_all
  unfold bc at h
  match j, hj with
  | 0, _ => exact hb _ (by omega)
  | 1, _ => exact hb _ (by omega)
  | 2, _ => exact hb _ (by omega)
  | 3, _ => exact hb _ (by omega)
  | 4, _ => exact hb _ (by omega)
  | 5, _ => exact hb _ (by omega)
  | 6, _ => exact hb _ (by omega)
  | 7, _ => exact hb _ (by omega)
  | 8, _ => exact hb _ (by omega)
  | j + 9, h => exact absurd h (by omega)
theorem ks_zero {n : Nat} {kn : Nat → Nat} {p : Nat} (hn : n ≤ 9) (h : bc (kn p) = 0) : ks n kn p = 0 := by
  have : ks n kn p = fb_sm (fun _ => 0) n := fb_sm_cong (fun k hk => by rw [bc_zero h (by omega)]; rfl)
  rw [this, fb_sm_const, Nat.mul_zero]
section FEELS
variable {h : HS} {b r n : Nat} {kn kd fg : Nat → Nat} {hd dm dy : Nat}
theorem c_feelers (w : WFk n kn) (L : LinL h b n kn) : X4_feelers h b = some (nI (fe n kn)) := by
  have w1 := w.1
  unfold X4_feelers
  refine (loopF (fun fu k s => X4_feelers_B4 h b fu (nI s) (nI k)) (fun s => some (nI s)) n (fstep n kn) (fun _ _ => True) (fun fu s _ => ?_) (fun fu k s hk _ => ⟨?_, trivial⟩) n FU 0 0 (by omega) (FU_lt (by omega)) trivial).1
  · show X4_feelers_B4 h b (fu + 1) (nI s) (nI n) = _
    rw [X4_feelers_B4]
    simp (disch := omega) only [L.1, leT, ite_true]
  · show X4_feelers_B4 h b (fu + 1) (nI s) (nI k) = X4_feelers_B4 h b fu (nI (fstep n kn k s)) (nI (k + 1))
    have hb := bc_le (kn k)
    have hq : bc (kn k) * bc (kn k) ≤ 9 * 9 := Nat.mul_le_mul hb hb
    have hks := ks_le (kn := kn) (p := k) w1
    rw [X4_feelers_B4]
    simp (disch := omega) only [L.1, leF, ite_false, c_number w L, c_numbersAround w L, Option.bind_some, pk_mul, i_le]
    unfold fstep
    by_cases hc : ks n kn k ≤ bc (kn k) * bc (kn k)
    · rw [if_pos hc, if_neg (by omega)]
      simp only [X4_feelers_B37, nm, L1, nI_add]
    · rw [if_neg hc, if_pos (by omega)]
      simp (disch := omega) only [X4_feelers_B37, nm, L1, i_one, i_or, nI_add]
theorem m_feelsIt (w : WFk n kn) (R : RowP (aI h r) n kn kd fg hd dy) {p : Nat} (hp : p < 9) : X12_feelsIt h r (nI p) = some (nI (decide (bc (kn p) * bc (kn p) < ks n kn p)).toNat) := by
  have w1 := w.1
  have hb := bc_le (kn p)
  have hq : bc (kn p) * bc (kn p) ≤ 9 * 9 := Nat.mul_le_mul hb hb
  have hks := ks_le (kn := kn) (p := p) w1
  unfold X12_feelsIt
  simp (disch := omega) only [m_number w R hp, Option.bind_some, L0, i_le, m_knownSum w R hp, pk_mul]
  by_cases h0 : bc (kn p) ≤ 0
  · rw [if_pos h0, ks_zero w1 (by omega), decide_eq_false (by omega)]; rfl
  · rw [if_neg h0]
    by_cases hc : ks n kn p ≤ bc (kn p) * bc (kn p)
    · rw [if_pos hc, decide_eq_false (by omega)]; rfl
    · rw [if_neg hc, decide_eq_true (by omega)]; rfl
theorem m_feelsIn (w : WFk n kn) (R : RowP (aI h r) n kn kd fg hd dy) : X12_feelsIn h r = some (nI (fe n kn)) := by
  have w1 := w.1
  unfold X12_feelsIn
  refine (loopF (fun fu k s => X12_feelsIn_B4 h r fu (nI s) (nI k)) (fun s => some (nI s)) n (fstep n kn) (fun _ _ => True) (fun fu s _ => ?_) (fun fu k s hk _ => ⟨?_, trivial⟩) n FU 0 0 (by omega) (FU_lt (by omega)) trivial).1
  · show X12_feelsIn_B4 h r (fu + 1) (nI s) (nI n) = _
    rw [X12_feelsIn_B4]
    simp (disch := omega) only [L0, gdi_n, i_cl, R.1, leT, ite_true]
  · show X12_feelsIn_B4 h r (fu + 1) (nI s) (nI k) = X12_feelsIn_B4 h r fu (nI (fstep n kn k s)) (nI (k + 1))
    rw [X12_feelsIn_B4]
    simp (disch := omega) only [L0, gdi_n, i_cl, R.1, leF, ite_false, m_feelsIt w R, Option.bind_some]
    unfold fstep
    by_cases hc : bc (kn k) * bc (kn k) < ks n kn k
    · rw [if_pos hc, decide_eq_true hc]
      simp (disch := omega) only [Bool.toNat_true, eqF, ite_false, X12_feelsIn_B27, nm, L1, i_one, i_or, nI_add]
    · rw [if_neg hc, decide_eq_false hc]
      simp (disch := omega) only [Bool.toNat_false, ite_true, X12_feelsIn_B27, nm, L1, i_or, nI_add, Nat.or_zero]
end FEELS
