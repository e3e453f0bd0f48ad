/-! reads and writes of the abstract heap -/
theorem fI_sF_eq {h : HS} {o k : Nat} {v : Int32} : fI (sF h o k v) o k = v := by simp [fI, sF]
theorem fI_sF_ne {h : HS} {o k o1 k1 : Nat} {v : Int32} (hn : ¬ (o1 = o ∧ k1 = k)) : fI (sF h o k v) o1 k1 = fI h o1 k1 := by simp [fI, sF, hn]
theorem fI_sA {h : HS} {o o1 k : Nat} {f : Nat → Int32} : fI (sA h o f) o1 k = fI h o1 k := rfl
theorem fI_sL {h : HS} {o o1 k : Nat} {f : Nat → Int64} : fI (sL h o f) o1 k = fI h o1 k := rfl
theorem aI_sF {h : HS} {o k o1 : Nat} {v : Int32} : aI (sF h o k v) o1 = aI h o1 := rfl
theorem aI_sL {h : HS} {o o1 : Nat} {f : Nat → Int64} : aI (sL h o f) o1 = aI h o1 := rfl
theorem aI_sA_eq {h : HS} {o : Nat} {f : Nat → Int32} : aI (sA h o f) o = f := by simp [aI, sA]
theorem aI_sA_ne {h : HS} {o o1 : Nat} {f : Nat → Int32} (hn : o1 ≠ o) : aI (sA h o f) o1 = aI h o1 := by simp [aI, sA, hn]
theorem aL_sF {h : HS} {o k o1 : Nat} {v : Int32} : aL (sF h o k v) o1 = aL h o1 := rfl
theorem aL_sA {h : HS} {o o1 : Nat} {f : Nat → Int32} : aL (sA h o f) o1 = aL h o1 := rfl
theorem aL_sL_eq {h : HS} {o : Nat} {f : Nat → Int64} : aL (sL h o f) o = f := by simp [aL, sL]
theorem aL_sL_ne {h : HS} {o o1 : Nat} {f : Nat → Int64} (hn : o1 ≠ o) : aL (sL h o f) o1 = aL h o1 := by simp [aL, sL, hn]
theorem sA_sA {h : HS} {o : Nat} {f g : Nat → Int32} : sA (sA h o f) o g = sA h o g := by
  simp only [sA, Prod.mk.injEq, true_and, and_true]
  funext o1
  by_cases ho : o1 = o <;> simp [ho]
theorem itf_sum (f : Nat → Nat) (s : Nat) : ∀ m, itf (fun k s => s + f k) 0 m s = s + fb_sm f m := by
  intro m
  induction m with
  | zero => rfl
  | succ m ih => rw [itf_last, ih, fb_sm_succ, Nat.zero_add, Nat.add_assoc]
/-! who KNOWS whom: n PEOPLE, kn p the bits of those whom p knows -/
def WFk (n : Nat) (kn : Nat → Nat) : Prop := n ≤ 9 ∧ (∀ p, kn p < 2 ^ n) ∧ (∀ p, n ≤ p → kn p = 0) ∧ (∀ p q, (kn p).testBit q = (kn q).testBit p) ∧ ∀ p, (kn p).testBit p = false
theorem WFk.lt {n : Nat} {kn : Nat → Nat} (w : WFk n kn) (p : Nat) : kn p < 512 := Nat.lt_of_lt_of_le (w.2.1 p) (show 2 ^ n ≤ 2 ^ 9 from Nat.pow_le_pow_right (by decide) w.1)
def LinL (h : HS) (b n : Nat) (kn : Nat → Nat) : Prop := fI h b 0 = nI n ∧ ∀ p, p < 9 → aI h (b + 1) p = nI (kn p)
def flip (kn : Nat → Nat) (a b : Nat) : Nat → Nat := fun r => if r = a then kn a ^^^ 2 ^ b else if r = b then kn b ^^^ 2 ^ a else kn r
section CLIN
variable {h : HS} {b n : Nat} {kn : Nat → Nat}
theorem c_around (L : LinL h b n kn) {p : Nat} (hp : p < 9) : X4_around h b (nI p) = some (nI (kn p)) := by
  unfold X4_around
  simp (disch := omega) only [L0, L9, ltF, leF, ite_false, gdi_n, i_cl, L.2 p hp]
theorem c_number (w : WFk n kn) (L : LinL h b n kn) {p : Nat} (hp : p < 9) : X4_number h b (nI p) = some (nI (bc (kn p))) := by
  unfold X4_number
  rw [c_around L hp]
  simp only [Option.bind_some, bitCount_n (w.lt p)]
theorem c_between (w : WFk n kn) (L : LinL h b n kn) {p q : Nat} (hp : p < 9) (hq : q < 9) : X4_between h b (nI p) (nI q) = some (nI ((kn p).testBit q).toNat) := by
  unfold X4_between
  have := w.lt p
  rw [c_around L hp]
  simp (disch := omega) only [Option.bind_some, L1, i_bit, L0]
  cases (kn p).testBit q <;> rfl
theorem c_turn (L : LinL h b n kn) {p q : Nat} (hp : p < 9) (hq : q < 9) (hpq : p ≠ q) : ∃ f, X4_turn h b (nI p) (nI q) = some (sA h (b + 1) f) ∧ LinL (sA h (b + 1) f) b n (flip kn p q) := by
  refine ⟨upd (upd (aI h (b + 1)) p (nI (kn p ^^^ 2 ^ q))) q (nI (kn q ^^^ 2 ^ p)), ?_, ?_⟩
  · unfold X4_turn
    simp (disch := omega) only [L0, L9, ltF, leF, ite_false, gdi_n, i_cl, nm, L1, i_one, L.2 p hp, i_xor, aI_sA_eq, sA_sA]
    rw [pk_un (fun e => hpq e.symm), L.2 q hq, i_xor]
  · refine ⟨L.1, fun r hr => ?_⟩
    rw [aI_sA_eq]
    unfold flip
    by_cases h1 : r = q
    · subst h1
      rw [pk_us, if_neg (fun e => hpq e.symm), if_pos rfl]
    · rw [pk_un h1]
      by_cases h2 : r = p
      · subst h2
        rw [pk_us, if_pos rfl]
      · rw [pk_un h2, if_neg h2, if_neg h1, L.2 r hr]
theorem c_numbers (w : WFk n kn) (L : LinL h b n kn) : X4_numbers h b = some (nI (fb_sm (fun p => bc (kn p)) n)) := by
  have w1 := w.1
  unfold X4_numbers
  refine (loopF (fun fu k s => X4_numbers_B4 h b fu (nI s) (nI k)) (fun s => some (nI s)) n (fun k s => s + bc (kn k)) (fun _ _ => True) (fun fu s _ => ?_) (fun fu k s hk _ => ⟨?_, trivial⟩) n FU 0 0 (by omega) (FU_lt (by omega)) trivial).1.trans (by rw [itf_sum, Nat.zero_add])
  · show X4_numbers_B4 h b (fu + 1) (nI s) (nI n) = _
    rw [X4_numbers_B4]
    simp (disch := omega) only [L.1, leT, ite_true]
  · show X4_numbers_B4 h b (fu + 1) (nI s) (nI k) = _
    rw [X4_numbers_B4]
    simp (disch := omega) only [L.1, leF, ite_false, c_number w L, Option.bind_some, nm, nI_add, L1]
/-- the NUMBERS of those whom p KNOWS, together -/
def ks (n : Nat) (kn : Nat → Nat) (p : Nat) : Nat := fb_sm (fun q => if (kn p).testBit q then bc (kn q) else 0) n
theorem c_numbersAround (w : WFk n kn) (L : LinL h b n kn) {p : Nat} (hp : p < 9) : X4_numbersAround h b (nI p) = some (nI (ks n kn p)) := by
  have w1 := w.1
  unfold X4_numbersAround
  refine (loopF (fun fu k s => X4_numbersAround_B4 h b (nI p) fu (nI s) (nI k)) (fun s => some (nI s)) n (fun k s => s + if (kn p).testBit k then bc (kn k) else 0) (fun _ _ => True) (fun fu s _ => ?_) (fun fu k s hk _ => ⟨?_, trivial⟩) n FU 0 0 (by omega) (FU_lt (by omega)) trivial).1.trans (by rw [itf_sum, Nat.zero_add]; rfl)
  · show X4_numbersAround_B4 h b (nI p) (fu + 1) (nI s) (nI n) = _
    rw [X4_numbersAround_B4]
    simp (disch := omega) only [L.1, leT, ite_true]
  · show X4_numbersAround_B4 h b (nI p) (fu + 1) (nI s) (nI k) = _
    rw [X4_numbersAround_B4]
    simp (disch := omega) only [L.1, leF, ite_false, c_number w L, c_between w L, Option.bind_some]
    cases (kn p).testBit k
    · simp only [L0, Bool.toNat_false, ite_true, X4_numbersAround_B29, nm, L1, nI_add]; rfl
    · simp (disch := omega) only [L0, Bool.toNat_true, eqF, ite_false, X4_numbersAround_B29, nm, L1, nI_add]; rfl
end CLIN
