/-! the invariant of the world: what the class holds and what the model holds are one parish, one image, the same shelves -/
theorem even_sum (e : Nat → Nat → Bool) (hs : ∀ p q, e p q = e q p) (hd : ∀ p, e p p = false) : ∀ n, fb_sm (fun p => fb_sm (fun q => (e p q).toNat) n) n = 2 * (fb_sm (fun p => fb_sm (fun q => (e p q).toNat) p) n) := by
  intro n
  induction n with
  | zero => rfl
  | succ n ih =>
    rw [fb_sm_succ, fb_sm_succ (fun p => fb_sm (fun q => (e p q).toNat) p)]
    have h1 : fb_sm (fun p => fb_sm (fun q => (e p q).toNat) (n + 1)) n = fb_sm (fun p => fb_sm (fun q => (e p q).toNat) n) n + fb_sm (fun p => (e p n).toNat) n := by
      rw [← fb_sm_add]; rfl
    rw [h1, ih, fb_sm_succ, hd n]
    have h2 : fb_sm (fun p => (e p n).toNat) n = fb_sm (fun q => (e n q).toNat) n := fb_sm_cong (fun k _ => by rw [hs])
    rw [h2]
    simp only [Bool.toNat_false]
    omega
theorem bc_sum {x n : Nat} (hn : n ≤ 9) (hx : x < 2 ^ n) : bc x = fb_sm (fun q => (x.testBit q).toNat) n := by
  have h9 : bc x = fb_sm (fun q => (x.testBit q).toNat) 9 := by simp only [fb_sm, bc, Nat.zero_add]
  rw [h9]
  obtain ⟨k, hk⟩ : ∃ k, 9 = n + k := ⟨9 - n, by omega⟩
  rw [hk, fb_sm_split]
  have : fb_sm (fun k => (x.testBit (n + k)).toNat) k = 0 := by
    have : fb_sm (fun k => (x.testBit (n + k)).toNat) k = fb_sm (fun _ => 0) k := fb_sm_cong (fun j _ => by rw [bit_lt hx (by omega)]; rfl)
    rw [this, fb_sm_const, Nat.mul_zero]
  omega
/-- the NUMBERS of all -/
def sumn (n : Nat) (kn : Nat → Nat) : Nat := fb_sm (fun p => bc (kn p)) n
theorem sumn_even {n : Nat} {kn : Nat → Nat} (w : WFk n kn) : sumn n kn / 2 * 2 = sumn n kn := by
  have h : sumn n kn = fb_sm (fun p => fb_sm (fun q => ((kn p).testBit q).toNat) n) n := fb_sm_cong (fun k _ => bc_sum w.1 (w.2.1 k))
  rw [h, even_sum (fun p q => (kn p).testBit q) w.2.2.2.1 w.2.2.2.2]
  omega
theorem sumn_le {n : Nat} {kn : Nat → Nat} (hn : n ≤ 9) : sumn n kn ≤ 81 := Nat.le_trans (fb_sm_le (g := fun _ => 9) (fun k _ => bc_le _)) (by rw [fb_sm_const]; omega)
/-- an argument is a number below n, or it is none -/
theorem arg_in (v : Int32) (n : Nat) : (∃ j, j < n ∧ j < 2147483648 ∧ v = nI j) ∨ (v < 0 ∨ ∃ j, n ≤ j ∧ j < 2147483648 ∧ v = nI j) := by
  by_cases h : v < 0
  · exact Or.inr (Or.inl h)
  · obtain ⟨j, hj, rfl⟩ := nI_of h
    by_cases hn : j < n
    · exact Or.inl ⟨j, hn, hj, rfl⟩
    · exact Or.inr (Or.inr ⟨j, by omega, hj, rfl⟩)
def outside (v : Int32) (n : Nat) : Prop := v < 0 ∨ ∃ j, n ≤ j ∧ j < 2147483648 ∧ v = nI j
theorem neg_lt {v : Int32} {j : Nat} (h : v < 0) (hj : j < 2147483648) : v < nI j := by
  rw [Int32.lt_iff_toInt_lt] at h ⊢
  have : (0 : Int32).toInt = 0 := rfl
  rw [nI_toInt hj]
  omega
theorem isIn_n {j a b : Nat} (hj : j < 2147483648) (ha : a < 2147483648) (hb : b < 2147483648) : X12_isIn (nI j) (nI a) (nI b) = some (nI (decide (a ≤ j ∧ j ≤ b)).toNat) := by
  unfold X12_isIn
  simp (disch := omega) only [i_lt]
  by_cases h1 : j < a
  · rw [if_pos h1, decide_eq_false (by omega)]; rfl
  · rw [if_neg h1]
    by_cases h2 : b < j
    · rw [if_pos h2, decide_eq_false (by omega)]; rfl
    · rw [if_neg h2, decide_eq_true (by omega)]; rfl
theorem isIn_neg {v : Int32} {a : Nat} {z : Int32} (h : v < 0) (ha : a < 2147483648) : X12_isIn v (nI a) z = some (nI 0) := by
  unfold X12_isIn
  rw [if_pos (neg_lt h ha)]; rfl
section HASONE
variable {h : HS} {b n : Nat} {kn kd fg : Nat → Nat} {hd dm dy : Nat}
theorem c_has_in (P : ParL h b n kn kd fg hd dm dy) {j : Nat} (hj : j < n) (hn : n ≤ 9) : X5_has h b (nI j) = some (nI 1) := by
  unfold X5_has
  simp (disch := omega) only [L0, L9, ltF, leF, ite_false, P.1.1, L1]
theorem c_has_out (P : ParL h b n kn kd fg hd dm dy) {v : Int32} (hn : n ≤ 9) (ho : outside v n) : X5_has h b v = some (nI 0) := by
  unfold X5_has
  rcases ho with ho | ⟨j, h1, h2, rfl⟩
  · rw [if_pos ho]; rfl
  · simp (disch := omega) only [L0, L9, ltF, ite_false, P.1.1, i_le]
    by_cases h3 : 9 ≤ j
    · rw [if_pos h3]
    · rw [if_neg h3, if_pos h1]
theorem m_isOne_in (R : RowP (aI h 67) n kn kd fg hd dy) {j : Nat} (hj : j < n) (hn : n ≤ 9) : X12_isOne h (nI j) = some (nI 1) := by
  unfold X12_isOne
  simp (disch := omega) only [L0, L1, gdi_n, i_cl, R.1]
  rw [pk_sub (by omega), isIn_n (by omega) (by omega) (by omega), decide_eq_true (by omega)]
  rfl
theorem m_isOne_out (R : RowP (aI h 67) n kn kd fg hd dy) {v : Int32} (hn : n ≤ 9) (ho : outside v n) : X12_isOne h v = some (nI 0) := by
  unfold X12_isOne
  simp (disch := omega) only [L0, L1, gdi_n, i_cl, R.1]
  rcases ho with ho | ⟨j, h1, h2, rfl⟩
  · rw [isIn_neg ho (by omega)]; rfl
  · have e : X12_isIn (nI j) (nI 0) (nI n - nI 1) = some (nI 0) := by
      rcases Nat.eq_zero_or_pos n with h0 | h0
      · subst h0
        unfold X12_isIn
        rw [if_neg (nI_nlt (by omega) h2), if_pos (show nI 0 - nI 1 < nI j from neg_lt (by decide) h2)]
        rfl
      · rw [pk_sub (by omega), isIn_n (by omega) (by omega) (by omega), decide_eq_false (by omega)]; rfl
    rw [e]; rfl
end HASONE
