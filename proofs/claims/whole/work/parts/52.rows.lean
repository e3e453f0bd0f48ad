/-! the model's rows -/
def RowP (f : Nat → Int32) (n : Nat) (kn kd fg : Nat → Nat) (hd dy : Nat) : Prop := f 0 = nI n ∧ f 1 = nI dy ∧ f 2 = nI hd ∧ ∀ p, p < 9 → f (3 + 3 * p + 0) = nI (kd p) ∧ f (3 + 3 * p + 1) = nI (fg p) ∧ f (3 + 3 * p + 2) = nI (kn p)
theorem bits_n {x : Nat} (hx : x < 512) : X12_bits (nI x) = some (nI (bc x)) := by
  have key : ∀ n, n < 512 → X12_bits (nI n) = some (nI (bc n)) := by decide +kernel
  exact key x hx
theorem has_n {x k : Nat} (hx : x < 2147483648) (hk : k < 32) : X12_has (nI x) (nI k) = some (nI (x.testBit k).toNat) := by
  unfold X12_has
  simp (disch := omega) only [L1, i_bit]
  cases x.testBit k <;> rfl
theorem m_of {p w : Nat} : X12_of (nI p) (nI w) = some (nI (3 + 3 * p + w)) := by
  unfold X12_of
  simp only [L3, pk_mul, nI_add]
section MROW
variable {h : HS} {r n : Nat} {kn kd fg : Nat → Nat} {hd dy : Nat}
theorem m_number (w : WFk n kn) (R : RowP (aI h r) n kn kd fg hd dy) {p : Nat} (hp : p < 9) : X12_number h r (nI p) = some (nI (bc (kn p))) := by
  unfold X12_number
  simp (disch := omega) only [L2, m_of, Option.bind_some, gdi_n, i_cl, (R.2.2.2 p hp).2.2, bits_n (w.lt p)]
theorem m_linesIn (w : WFk n kn) (R : RowP (aI h r) n kn kd fg hd dy) : X12_linesIn h r = some (nI (fb_sm (fun p => bc (kn p)) n / 2)) := by
  have w1 := w.1
  unfold X12_linesIn
  have hsm : fb_sm (fun p => bc (kn p)) n ≤ 81 := Nat.le_trans (fb_sm_le (g := fun _ => 9) (fun k _ => bc_le _)) (by rw [fb_sm_const]; omega)
  refine (loopF (fun fu k s => X12_linesIn_B4 h r fu (nI s) (nI k)) (fun s => some (nI s / nI 2)) n (fun k s => s + bc (kn k)) (fun _ _ => True) (fun fu s _ => ?_) (fun fu k s hk _ => ⟨?_, trivial⟩) n FU 0 0 (by omega) (FU_lt (by omega)) trivial).1.trans (by rw [itf_sum, Nat.zero_add, pk_div (by omega) (by omega) (by omega)])
  · show X12_linesIn_B4 h r (fu + 1) (nI s) (nI n) = _
    rw [X12_linesIn_B4]
    simp (disch := omega) only [L0, L2, gdi_n, i_cl, R.1, leT, ite_true]
  · show X12_linesIn_B4 h r (fu + 1) (nI s) (nI k) = _
    rw [X12_linesIn_B4]
    simp (disch := omega) only [L0, gdi_n, i_cl, R.1, leF, ite_false, m_number w R, Option.bind_some, nm, nI_add, L1]
theorem m_knownSum (w : WFk n kn) (R : RowP (aI h r) n kn kd fg hd dy) {p : Nat} (hp : p < 9) : X12_knownSum h r (nI p) = some (nI (ks n kn p)) := by
  have w1 := w.1
  have := w.lt p
  unfold X12_knownSum
  refine (loopF (fun fu k s => X12_knownSum_B4 h r (nI p) fu (nI s) (nI k)) (fun s => some (nI s)) n (fun k s => s + if (kn p).testBit k then bc (kn k) else 0) (fun _ _ => True) (fun fu s _ => ?_) (fun fu k s hk _ => ⟨?_, trivial⟩) n FU 0 0 (by omega) (FU_lt (by omega)) trivial).1.trans (by rw [itf_sum, Nat.zero_add]; rfl)
  · show X12_knownSum_B4 h r (nI p) (fu + 1) (nI s) (nI n) = _
    rw [X12_knownSum_B4]
    simp (disch := omega) only [L0, gdi_n, i_cl, R.1, leT, ite_true]
  · show X12_knownSum_B4 h r (nI p) (fu + 1) (nI s) (nI k) = _
    rw [X12_knownSum_B4]
    simp (disch := omega) only [L0, L2, gdi_n, i_cl, R.1, leF, ite_false, m_of, m_number w R, (R.2.2.2 p hp).2.2, has_n, Option.bind_some]
    cases (kn p).testBit k
    · simp only [Bool.toNat_false, ite_true, X12_knownSum_B35, nm, L1, nI_add]; rfl
    · simp (disch := omega) only [Bool.toNat_true, eqF, ite_false, X12_knownSum_B35, nm, L1, nI_add]; rfl
end MROW
