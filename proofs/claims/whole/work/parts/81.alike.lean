/-! sets in which all KNOW each other, or no two do; the largest such -/
def okp (kn : Nat → Nat) (K x p : Nat) : Bool := if K = 0 then decide (andn x (2 ^ p) &&& kn p = 0) else decide (andn (andn x (2 ^ p)) (kn p) = 0)
def alk (kn : Nat → Nat) (K x : Nat) : Nat → Nat → Bool
  | _, 0 => true
  | k, m + 1 => if x.testBit k && !okp kn K x k then false else alk kn K x (k + 1) m
theorem alk_iff {kn : Nat → Nat} {K x : Nat} : ∀ m k, alk kn K x k m = true ↔ ∀ p, k ≤ p → p < k + m → x.testBit p = true → okp kn K x p = true := by
  intro m
  induction m with
  | zero => intro k; exact ⟨fun _ p h1 h2 => absurd h1 (by omega), fun _ => rfl⟩
  | succ m ih =>
    intro k
    rw [alk]
    by_cases z : (x.testBit k && !okp kn K x k) = true
    · rw [if_pos z]
      constructor
      · intro h; exact absurd h (by decide)
      · intro h
        rw [Bool.and_eq_true] at z
        have := h k (Nat.le_refl k) (by omega) z.1
        rw [this] at z; exact absurd z.2 (by decide)
    · rw [if_neg z, ih]
      constructor
      · intro h p h1 h2 h3
        by_cases e : p = k
        · subst e
          cases hok : okp kn K x p
          · exact absurd (by rw [h3, hok]; rfl) z
          · rfl
        · exact h p (by omega) (by omega) h3
      · intro h p h1 h2 h3
        exact h p (by omega) (by omega) h3
theorem and_self_iff {x y : Nat} (hx : x < 4294967296) : (x &&& y = x) ↔ (andn x y = 0) := by
  constructor
  · intro h
    refine ext_bits fun j => ?_
    rw [andn_bit hx, Nat.zero_testBit]
    have : (x &&& y).testBit j = x.testBit j := by rw [h]
    rw [Nat.testBit_and] at this
    cases hx : x.testBit j <;> cases hy : y.testBit j <;> simp_all
  · intro h
    refine ext_bits fun j => ?_
    have : (andn x y).testBit j = false := by rw [h, Nat.zero_testBit]
    rw [andn_bit hx] at this
    rw [Nat.testBit_and]
    cases hx : x.testBit j <;> cases hy : y.testBit j <;> simp_all
def lgs (n : Nat) (kn : Nat → Nat) (K : Nat) (x s : Nat) : Nat := if bc x ≤ bc s then s else if alk kn K x 0 n then x else s
section ALIKE
variable {h : HS} {b r n : Nat} {kn kd fg : Nat → Nat} {hd dm dy : Nat}
theorem c_alike (w : WFk n kn) (L : LinL h b n kn) {x K : Nat} (hx : x < 2 ^ n) (hK : K < 2) : X4_alike h b (nI x) (nI K) = some (nI (alk kn K x 0 n).toNat) := by
  have w1 := w.1
  have h9 := pow_le9 w1
  have key : ∀ m fu k, k + m = n → m < fu → X4_alike_B2 h b (nI x) (nI K) fu (nI k) = some (nI (alk kn K x k m).toNat) := by
    intro m
    induction m with
    | zero =>
      intro fu k hk hf
      obtain ⟨fu, rfl⟩ : ∃ f, fu = f + 1 := ⟨fu - 1, by omega⟩
      rw [X4_alike_B2, L.1, if_pos (nI_le (by omega) (by omega))]; rfl
    | succ m ih =>
      intro fu k hk hf
      obtain ⟨fu, rfl⟩ : ∃ f, fu = f + 1 := ⟨fu - 1, by omega⟩
      have e50 : X4_alike_B50 h b (nI x) (nI K) (X4_alike_B2 h b (nI x) (nI K) fu) (nI k) = some (nI (alk kn K x (k + 1) m).toNat) := by
        unfold X4_alike_B50
        simp only [nm, L1, nI_add]
        exact ih fu (k + 1) (by omega) (by omega)
      have hle := andn_le x (2 ^ k)
      have hlt : andn x (2 ^ k) &&& kn k < 2147483648 := Nat.lt_of_le_of_lt Nat.and_le_left (by omega)
      rw [X4_alike_B2, L.1, if_neg (nI_ge (by omega) (by omega)), show (nI x >>> (nI k &&& 31)) &&& 1 = nI (x.testBit k).toNat from i_bit (by omega) (by omega), e50, alk]
      cases x.testBit k
      · rw [if_pos (show nI false.toNat = 0 from rfl), Bool.false_and]; rfl
      · rw [if_neg (show ¬ nI true.toNat = 0 by decide), i_pow (by omega), i_andn, c_around L (by omega)]
        simp only [nm, Option.bind_some, i_and, Bool.true_and]
        match K, hK with
        | 0, _ =>
          rw [if_pos (show nI 0 = 0 from rfl)]
          unfold X4_alike_B45
          by_cases z : andn x (2 ^ k) &&& kn k = 0
          · rw [if_pos (by rw [z]; rfl), e50, show okp kn 0 x k = true from decide_eq_true z]; rfl
          · rw [if_neg (nI_ne0 (by omega) hlt), show okp kn 0 x k = false from decide_eq_false z]; rfl
        | 1, _ =>
          rw [if_neg (show ¬ nI 1 = 0 by decide)]
          unfold X4_alike_B45
          by_cases z : andn (andn x (2 ^ k)) (kn k) = 0
          · rw [if_pos (by rw [(and_self_iff (show andn x (2 ^ k) < 4294967296 by omega)).mpr z]), e50, show okp kn 1 x k = true from decide_eq_true z]; rfl
          · rw [if_neg (by rw [nI_eq hlt (by omega), and_self_iff (show andn x (2 ^ k) < 4294967296 by omega)]; exact z), show okp kn 1 x k = false from decide_eq_false z]; rfl
        | K + 2, hK => exact absurd hK (by omega)
  exact key n FU 0 (by omega) (FU_lt (by omega))
theorem m_isCircle (w : WFk n kn) (R : RowP (aI h 67) n kn kd fg hd dy) {x K : Nat} (hx : x < 2 ^ n) (hK : K < 2) : X12_isCircle h (nI x) (nI K) = some (nI (alk kn K x 0 n).toNat) := by
  have w1 := w.1
  have h9 := pow_le9 w1
  have key : ∀ m fu k, k + m = n → m < fu → X12_isCircle_B2 h (nI x) (nI K) fu (nI k) = some (nI (alk kn K x k m).toNat) := by
    intro m
    induction m with
    | zero =>
      intro fu k hk hf
      obtain ⟨fu, rfl⟩ : ∃ f, fu = f + 1 := ⟨fu - 1, by omega⟩
      rw [X12_isCircle_B2, gdi0, cl0, R.1, if_pos (nI_le (by omega) (by omega))]; rfl
    | succ m ih =>
      intro fu k hk hf
      obtain ⟨fu, rfl⟩ : ∃ f, fu = f + 1 := ⟨fu - 1, by omega⟩
      have e75 : X12_isCircle_B75 h (nI x) (nI K) (X12_isCircle_B2 h (nI x) (nI K) fu) (nI k) = some (nI (alk kn K x (k + 1) m).toNat) := by
        unfold X12_isCircle_B75
        simp only [nm, L1, nI_add]
        exact ih fu (k + 1) (by omega) (by omega)
      have hle := andn_le x (2 ^ k)
      have hle2 := andn_le (andn x (2 ^ k)) (kn k)
      have hlt : andn x (2 ^ k) &&& kn k < 2147483648 := Nat.lt_of_le_of_lt Nat.and_le_left (by omega)
      rw [X12_isCircle_B2, gdi0, cl0, R.1, if_neg (nI_ge (by omega) (by omega)), has_n (by omega) (by omega), Option.bind_some, e75, alk]
      cases x.testBit k
      · rw [if_pos (show nI false.toNat = 0 from rfl), Bool.false_and]; rfl
      · rw [if_neg (show ¬ nI true.toNat = 0 by decide), i_pow (by omega), i_andn, L2, m_of]
        simp only [nm, Option.bind_some]
        rw [gdi_n (show 3 + 3 * k + 2 < 30 by omega) (by omega), gdi_n (show 3 + 3 * k + 2 < 30 by omega) (by omega), i_cl (show 3 + 3 * k + 2 < 2147483648 by omega), (R.2.2.2 k (show k < 9 by omega)).2.2, i_and, i_andn]
        simp only [Bool.true_and]
        match K, hK with
        | 0, _ =>
          rw [if_pos (show nI 0 = 0 from rfl)]
          by_cases z : andn x (2 ^ k) &&& kn k = 0
          · rw [if_pos (by rw [z]; rfl), show okp kn 0 x k = true from decide_eq_true z]; rfl
          · rw [if_neg (nI_ne0 (by omega) hlt), show okp kn 0 x k = false from decide_eq_false z]; rfl
        | 1, _ =>
          rw [if_neg (show ¬ nI 1 = 0 by decide)]
          by_cases z : andn (andn x (2 ^ k)) (kn k) = 0
          · rw [if_pos (by rw [z]; rfl), show okp kn 1 x k = true from decide_eq_true z]; rfl
          · rw [if_neg (nI_ne0 (by omega) (by omega)), show okp kn 1 x k = false from decide_eq_false z]; rfl
        | K + 2, hK => exact absurd hK (by omega)
  exact key n FU 0 (by omega) (FU_lt (by omega))
theorem lgs_lt {K x s : Nat} (hx : x < 2 ^ n) (hs : s < 2 ^ n) : lgs n kn K x s < 2 ^ n := by
  unfold lgs
  split
  · exact hs
  · split
    · exact hx
    · exact hs
theorem c_mostAlike (w : WFk n kn) (L : LinL h b n kn) {K : Nat} (hK : K < 2) : X4_mostAlike h b (nI K) = some (nI (itf (lgs n kn K) 1 (2 ^ n - 1) 0)) := by
  have w1 := w.1
  have h9 := pow_le9 w1
  have hpos := Nat.two_pow_pos n
  unfold X4_mostAlike
  refine (loopF (fun fu x s => X4_mostAlike_B4 h b (nI K) fu (nI s) (nI x)) (fun s => some (nI s)) (2 ^ n) (lgs n kn K) (fun _ s => s < 2 ^ n) (fun fu s _ => ?_) (fun fu x s hx hs => ⟨?_, lgs_lt hx hs⟩) (2 ^ n - 1) FU 1 0 (by omega) (FU_lt (by omega)) hpos).1
  · show X4_mostAlike_B4 h b (nI K) (fu + 1) (nI s) (nI (2 ^ n)) = _
    rw [X4_mostAlike_B4, L.1, i_pow (by omega), if_pos (nI_le (by omega) (by omega))]
  · show X4_mostAlike_B4 h b (nI K) (fu + 1) (nI s) (nI x) = X4_mostAlike_B4 h b (nI K) fu (nI (lgs n kn K x s)) (nI (x + 1))
    have hs : s < 2 ^ n := hs
    have b1 := bc_le x
    have b2 := bc_le s
    have e36 : ∀ u, X4_mostAlike_B36 h b (nI K) (X4_mostAlike_B4 h b (nI K) fu) u (nI x) = X4_mostAlike_B4 h b (nI K) fu u (nI (x + 1)) := by
      intro u
      simp only [X4_mostAlike_B36, nm, L1, nI_add]
    rw [X4_mostAlike_B4, L.1, i_pow (by omega), if_neg (nI_ge (by omega) (by omega)), bitCount_n (by omega), Option.bind_some, bitCount_n (by omega), Option.bind_some, e36, e36, c_alike w L hx hK, Option.bind_some]
    unfold lgs
    by_cases z : bc x ≤ bc s
    · rw [if_pos (nI_le z (by omega)), if_pos z]
    · rw [if_neg (nI_ge (by omega) (by omega)), if_neg z]
      cases alk kn K x 0 n
      · rw [if_pos (show nI false.toNat = 0 from rfl)]; rfl
      · rw [if_neg (show ¬ nI true.toNat = 0 by decide)]; rfl
theorem m_largest (w : WFk n kn) (R : RowP (aI h 67) n kn kd fg hd dy) {K : Nat} (hK : K < 2) : X12_largest h (nI K) = some (nI (itf (lgs n kn K) 1 (2 ^ n - 1) 0)) := by
  have w1 := w.1
  have h9 := pow_le9 w1
  have hpos := Nat.two_pow_pos n
  have es : itf (lgs n kn K) 0 (2 ^ n) 0 = itf (lgs n kn K) 1 (2 ^ n - 1) 0 := by
    obtain ⟨m, hm⟩ : ∃ m, 2 ^ n = m + 1 := ⟨2 ^ n - 1, by omega⟩
    rw [hm, itf, Nat.add_sub_cancel]
    congr 1
  rw [← es]
  unfold X12_largest
  refine (loopF (fun fu x s => X12_largest_B4 h (nI K) fu (nI s) (nI x)) (fun s => some (nI s)) (2 ^ n) (lgs n kn K) (fun _ s => s < 2 ^ n) (fun fu s _ => ?_) (fun fu x s hx hs => ⟨?_, lgs_lt hx hs⟩) (2 ^ n) FU 0 0 (by omega) (FU_lt (by omega)) hpos).1
  · show X12_largest_B4 h (nI K) (fu + 1) (nI s) (nI (2 ^ n)) = _
    rw [X12_largest_B4, gdi0, cl0, R.1, i_pow (by omega), if_pos (nI_le (by omega) (by omega))]
  · show X12_largest_B4 h (nI K) (fu + 1) (nI s) (nI x) = X12_largest_B4 h (nI K) fu (nI (lgs n kn K x s)) (nI (x + 1))
    have hs : s < 2 ^ n := hs
    have b1 := bc_le x
    have b2 := bc_le s
    have e38 : ∀ u, X12_largest_B38 h (nI K) (X12_largest_B4 h (nI K) fu) u (nI x) = X12_largest_B4 h (nI K) fu u (nI (x + 1)) := by
      intro u
      simp only [X12_largest_B38, nm, L1, nI_add]
    rw [X12_largest_B4, gdi0, cl0, R.1, i_pow (by omega), if_neg (nI_ge (by omega) (by omega)), bits_n (by omega), Option.bind_some, bits_n (by omega), Option.bind_some, e38, e38, m_isCircle w R hx hK, Option.bind_some]
    unfold lgs
    by_cases z : bc x ≤ bc s
    · rw [if_pos (nI_le z (by omega)), if_pos z]
    · rw [if_neg (nI_ge (by omega) (by omega)), if_neg z]
      cases alk kn K x 0 n
      · rw [if_pos (show nI false.toNat = 0 from rfl)]; rfl
      · rw [if_neg (show ¬ nI true.toNat = 0 by decide)]; rfl
end ALIKE
