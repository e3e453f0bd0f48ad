/-! known: by lines, by people -/
theorem gdi0 {β : Type} {k : Option β} : gdi 0 30 k = k := by unfold gdi; rw [if_neg (by decide)]
theorem gdi1 {β : Type} {k : Option β} : gdi 1 30 k = k := by unfold gdi; rw [if_neg (by decide)]
theorem gdi2 {β : Type} {k : Option β} : gdi 2 30 k = k := by unfold gdi; rw [if_neg (by decide)]
theorem cl0 : (0 : Int32).toNatClampNeg = 0 := rfl
theorem cl1 : (1 : Int32).toNatClampNeg = 1 := rfl
theorem cl2 : (2 : Int32).toNatClampNeg = 2 := rfl
theorem itf_sum2 (f g : Nat → Nat) : ∀ m, itf (fun k (s : Nat × Nat) => (s.1 + f k, s.2 + g k)) 0 m (0, 0) = (fb_sm f m, fb_sm g m) := by
  intro m
  induction m with
  | zero => rfl
  | succ m ih => rw [itf_last, ih, fb_sm_succ, fb_sm_succ, Nat.zero_add]
theorem bc_le8 {x p : Nat} (hp : p < 9) (h : x.testBit p = false) : bc x ≤ 8 := by
  have hb : ∀ b : Bool, b.toNat ≤ 1 := by intro b; cases b <;> decide
  have h0 : (x.testBit p).toNat = 0 := by rw [h]; rfl
  unfold bc
  have := hb (x.testBit 0); have := hb (x.testBit 1); have := hb (x.testBit 2); have := hb (x.testBit 3); have := hb (x.testBit 4)
  have := hb (x.testBit 5); have := hb (x.testBit 6); have := hb (x.testBit 7); have := hb (x.testBit 8)
  match p, hp with
  | 0, _ => omega
  | 1, _ => omega
  | 2, _ => omega
  | 3, _ => omega
  | 4, _ => omega
  | 5, _ => omega
  | 6, _ => omega
  | 7, _ => omega
  | 8, _ => omega
  | p + 9, hp => exact absurd hp (by omega)
theorem div840 {n k : Nat} (h1 : 0 < n) (h8 : n ≤ 8) : 840 * k / n = k * (840 / n) := by
  match n, h1, h8 with
  | 1, _, _ => omega
  | 2, _, _ => omega
  | 3, _, _ => omega
  | 4, _, _ => omega
  | 5, _, _ => omega
  | 6, _, _ => omega
  | 7, _, _ => omega
  | 8, _, _ => omega
  | n + 9, _, h => exact absurd h (by omega)
def sq0 (kn : Nat → Nat) (p : Nat) : Nat := bc (kn p) * bc (kn p)
def sh1 (n : Nat) (kn : Nat → Nat) (p : Nat) : Nat := if bc (kn p) = 0 then 0 else ks n kn p * (840 / bc (kn p))
def so1 (kn : Nat → Nat) (p : Nat) : Nat := if bc (kn p) = 0 then 0 else 1
theorem sm_le (f : Nat → Nat) (c : Nat) : ∀ n, (∀ k, k < n → f k ≤ c) → fb_sm f n ≤ n * c := by
  intro n
  induction n with
  | zero => intro _; simp [fb_sm]
  | succ n ih =>
    intro h
    rw [fb_sm_succ, Nat.succ_mul]
    have := h n (by omega)
    have := ih (fun k hk => h k (by omega))
    omega
theorem sm_zero (f g : Nat → Nat) (h : ∀ k, g k = 0 → f k = 0) : ∀ n, fb_sm g n = 0 → fb_sm f n = 0 := by
  intro n
  induction n with
  | zero => intro _; rfl
  | succ n ih =>
    intro e
    rw [fb_sm_succ] at e ⊢
    have := ih (by omega)
    have := h n (by omega)
    omega
section KNOWN
variable {h : HS} {n : Nat} {kn kd fg : Nat → Nat} {hd dm dy : Nat}
theorem sh1_le (w : WFk n kn) (k : Nat) : sh1 n kn k ≤ 81 * 840 := by
  unfold sh1
  split
  · omega
  · have h1 := ks_le (kn := kn) (p := k) w.1
    have h2 : 840 / bc (kn k) ≤ 840 := Nat.div_le_self _ _
    exact Nat.mul_le_mul h1 h2
theorem sq0_le (k : Nat) : sq0 kn k ≤ 81 := by
  unfold sq0
  exact Nat.mul_le_mul (bc_le _) (bc_le _)
theorem so1_le (k : Nat) : so1 kn k ≤ 1 := by
  unfold so1; split <;> omega
theorem c_ends (N : NowP h n kn kd fg hd dm dy) : X4_numbersOfEnds h 6 = some (nI (fb_sm (sq0 kn) n)) := by
  have w1 := N.1.1.1
  have L := N.2.2.1.1
  unfold X4_numbersOfEnds
  refine (loopF (fun fu k s => X4_numbersOfEnds_B4 h 6 fu (nI s) (nI k)) (fun s => some (nI s)) n (fun k s => s + sq0 kn k) (fun _ _ => True) (fun fu s _ => ?_) (fun fu k s hk _ => ⟨?_, trivial⟩) n FU 0 0 (by omega) (FU_lt (by omega)) trivial).1.trans (by rw [itf_sum, Nat.zero_add])
  · show X4_numbersOfEnds_B4 h 6 (fu + 1) (nI s) (nI n) = _
    rw [X4_numbersOfEnds_B4, L.1, if_pos (nI_le (by omega) (by omega))]
  · show X4_numbersOfEnds_B4 h 6 (fu + 1) (nI s) (nI k) = _
    rw [X4_numbersOfEnds_B4, L.1, if_neg (nI_ge (by omega) (by omega)), c_number N.1.1 L (by omega), Option.bind_some, Option.bind_some]
    simp only [nm, pk_mul, L1, nI_add]; rfl
theorem c_soc (N : NowP h n kn kd fg hd dm dy) : X4_sociable h 6 = some (nI (fb_sm (so1 kn) n)) := by
  have w1 := N.1.1.1
  have L := N.2.2.1.1
  unfold X4_sociable
  refine (loopF (fun fu k s => X4_sociable_B4 h 6 fu (nI s) (nI k)) (fun s => some (nI s)) n (fun k s => s + so1 kn k) (fun _ _ => True) (fun fu s _ => ?_) (fun fu k s hk _ => ⟨?_, trivial⟩) n FU 0 0 (by omega) (FU_lt (by omega)) trivial).1.trans (by rw [itf_sum, Nat.zero_add])
  · show X4_sociable_B4 h 6 (fu + 1) (nI s) (nI n) = _
    rw [X4_sociable_B4, L.1, if_pos (nI_le (by omega) (by omega))]
  · show X4_sociable_B4 h 6 (fu + 1) (nI s) (nI k) = X4_sociable_B4 h 6 fu (nI (s + so1 kn k)) (nI (k + 1))
    have hb := bc_le (kn k)
    rw [X4_sociable_B4, L.1, if_neg (nI_ge (by omega) (by omega)), c_number N.1.1 L (by omega), Option.bind_some]
    unfold so1
    by_cases z : bc (kn k) = 0
    · rw [if_pos z, if_pos (by rw [z]; decide)]
      simp only [X4_sociable_B23, nm, L1, nI_add, Nat.add_zero]
    · rw [if_neg z, if_neg (nI_nle (by omega) (by omega))]
      simp only [X4_sociable_B23, nm, L1, nI_add]
theorem c_shares (N : NowP h n kn kd fg hd dm dy) : X11_sharesAround h = some (lN (fb_sm (sh1 n kn) n)) := by
  have w1 := N.1.1.1
  have L := N.2.2.1.1
  unfold X11_sharesAround
  refine (loopF (fun fu k s => X11_sharesAround_B4 h fu (lN s) (nI k)) (fun s => some (lN s)) n (fun k s => s + sh1 n kn k) (fun _ _ => True) (fun fu s _ => ?_) (fun fu k s hk _ => ⟨?_, trivial⟩) n FU 0 0 (by omega) (FU_lt (by omega)) trivial).1.trans (by rw [itf_sum, Nat.zero_add])
  · show X11_sharesAround_B4 h (fu + 1) (lN s) (nI n) = _
    rw [X11_sharesAround_B4, c_people N.2.2.1, Option.bind_some, if_pos (nI_le (by omega) (by omega))]
  · show X11_sharesAround_B4 h (fu + 1) (lN s) (nI k) = X11_sharesAround_B4 h fu (lN (s + sh1 n kn k)) (nI (k + 1))
    have hb := bc_le (kn k)
    have hks := ks_le (kn := kn) (p := k) w1
    rw [X11_sharesAround_B4, c_people N.2.2.1, Option.bind_some, if_neg (nI_ge (by omega) (by omega)), c_number N.1.1 L (by omega), Option.bind_some]
    unfold sh1
    by_cases z : bc (kn k) = 0
    · rw [if_pos z, if_pos (by rw [z]; decide)]
      simp only [X11_sharesAround_B56, nm, L1, nI_add, Nat.add_zero]
    · have hd2 : 840 / bc (kn k) ≤ 840 := Nat.div_le_self _ _
      rw [if_neg z, if_neg (nI_nle (by omega) (by omega)), c_numbersAround N.1.1 L (by omega), Option.bind_some]
      unfold gdz
      rw [if_neg (nI_ne0 (by omega) (by omega)), show (840 : Int32) / nI (bc (kn k)) = nI (840 / bc (kn k)) from pk_div (a := 840) (by decide) (by omega) (by omega)]
      rw [i_l (by omega), i_l (by omega), l_mul, l_add]
      simp only [X11_sharesAround_B56, nm, L1, nI_add]
theorem m_known (N : NowP h n kn kd fg hd dm dy) {w v : Nat} (hw : w < 2) (hv : v < 2) : X12_known h (nI w) (nI v) = some (if w = 0 then fr (fb_sm (sq0 kn) n) (sumn n kn) (nI v) else fr (fb_sm (sh1 n kn) n) (840 * fb_sm (so1 kn) n) (nI v)) := by
  have w1 := N.1.1.1
  have R := N.2.2.2
  have hs := sumn_le (kn := kn) w1
  have hq := sm_le (sq0 kn) 81 n (fun k _ => sq0_le k)
  have hh := sm_le (sh1 n kn) (81 * 840) n (fun k _ => sh1_le N.1.1 k)
  have ho := sm_le (so1 kn) 1 n (fun k _ => so1_le k)
  have hq9 : n * 81 ≤ 9 * 81 := Nat.mul_le_mul_right _ w1
  have hh9 : n * (81 * 840) ≤ 9 * (81 * 840) := Nat.mul_le_mul_right _ w1
  have ez : fb_sm (sq0 kn) n = fb_sm (fun k => if bc (kn k) = 0 then 0 else sq0 kn k) n := fb_sm_cong (fun k _ => by
    unfold sq0
    by_cases z : bc (kn k) = 0
    · rw [if_pos z, z]
    · rw [if_neg z])
  have key : X12_known_B30 h (nI w) (nI v) FU (lN 0) (lN 0) (nI 0) = some (if w = 0 then fr (fb_sm (sq0 kn) n) (sumn n kn) (nI v) else fr (fb_sm (sh1 n kn) n) (840 * fb_sm (so1 kn) n) (nI v)) := by
    refine (loopF (fun fu k (s : Nat × Nat) => X12_known_B30 h (nI w) (nI v) fu (lN s.1) (lN s.2) (nI k)) (fun s => X12_known_B30 h (nI w) (nI v) 1 (lN s.1) (lN s.2) (nI n)) n (fun k (s : Nat × Nat) => (s.1 + (if w = 0 then (if bc (kn k) = 0 then 0 else sq0 kn k) else sh1 n kn k), s.2 + so1 kn k)) (fun _ _ => True) (fun fu s _ => ?_) (fun fu k s hk _ => ⟨?_, trivial⟩) n FU 0 (0, 0) (by omega) (FU_lt (by omega)) trivial).1.trans ?_
    · show X12_known_B30 h (nI w) (nI v) (fu + 1) (lN s.1) (lN s.2) (nI n) = X12_known_B30 h (nI w) (nI v) 1 (lN s.1) (lN s.2) (nI n)
      rw [X12_known_B30, X12_known_B30]
      simp only [gdi0, cl0, R.1]
      rw [if_pos (nI_le (by omega) (by omega)), if_pos (nI_le (by omega) (by omega))]
    · show X12_known_B30 h (nI w) (nI v) (fu + 1) (lN s.1) (lN s.2) (nI k) = X12_known_B30 h (nI w) (nI v) fu (lN (s.1 + (if w = 0 then (if bc (kn k) = 0 then 0 else sq0 kn k) else sh1 n kn k))) (lN (s.2 + so1 kn k)) (nI (k + 1))
      have hb := bc_le (kn k)
      have hks := ks_le (kn := kn) (p := k) w1
      have hb8 := bc_le8 (show k < 9 by omega) (N.1.1.2.2.2.2 k)
      rw [X12_known_B30]
      simp only [gdi0, cl0, R.1]
      rw [if_neg (nI_ge (by omega) (by omega)), m_number N.1.1 R (by omega), Option.bind_some]
      unfold so1 sh1
      by_cases z : bc (kn k) = 0
      · rw [if_pos (show nI (bc (kn k)) = 0 by rw [z]; rfl), if_pos z, if_pos z, if_pos z, ite_self]
        simp only [X12_known_B101, nm, L1, nI_add, Nat.add_zero]
      · rw [if_neg (show ¬ nI (bc (kn k)) = 0 from nI_ne0 (by omega) (by omega)), if_neg z, if_neg z, if_neg z]
        match w, hw with
        | 0, _ =>
          rw [if_pos (show nI 0 = 0 from rfl), if_pos rfl, i_l (by omega), l_mul]
          simp only [X12_known_B93, X12_known_B101, nm, K1, l_add, L1, nI_add]
          rfl
        | 1, _ =>
          rw [if_neg (show ¬ nI 1 = 0 by decide), if_neg (show ¬ 1 = 0 by decide), m_knownSum N.1.1 R (by omega), Option.bind_some, i_l (by omega), i_l (by omega)]
          unfold gdzL
          rw [if_neg (show ¬ lN (bc (kn k)) = 0 by rw [K0, pk_lEQ (by omega) (by omega)]; exact z), K840, l_mul, pk_lDiv (by omega) (by omega) (by omega), div840 (by omega) hb8]
          simp only [X12_known_B93, X12_known_B101, nm, K1, l_add, L1, nI_add]
        | w + 2, hw => exact absurd hw (by omega)
    · rw [itf_sum2, X12_known_B30]
      simp only [gdi0, cl0, R.1]
      rw [if_pos (nI_le (by omega) (by omega))]
      match w, hw with
      | 0, _ =>
        rw [if_pos (show nI 0 = 0 from rfl), m_linesIn N.1.1 R, Option.bind_some, if_pos rfl]
        show X12_known_B133 h (nI 0) (nI v) (2 * (nI (sumn n kn / 2)).toInt64) (lN (fb_sm (fun k => if bc (kn k) = 0 then 0 else sq0 kn k) n)) = _
        rw [← ez]
        unfold X12_known_B133
        rw [i_l (by omega), K2, l_mul, show 2 * (sumn n kn / 2) = sumn n kn from by have := sumn_even N.1.1; omega, m_part (a := fb_sm (sq0 kn) n) (b := sumn n kn) (by omega) (by omega) (fun e => sm_zero (sq0 kn) (fun p => bc (kn p)) (fun k hk => by unfold sq0; rw [show bc (kn k) = 0 from hk]) n e) (in2 hv)]
        rfl
      | 1, _ =>
        rw [if_neg (show ¬ nI 1 = 0 by decide), if_neg (show ¬ 1 = 0 by decide)]
        show X12_known_B133 h (nI 1) (nI v) (840 * lN (fb_sm (so1 kn) n)) (lN (fb_sm (sh1 n kn) n)) = _
        unfold X12_known_B133
        rw [K840, l_mul, m_part (by omega) (by omega) (fun e => sm_zero (sh1 n kn) (so1 kn) (fun k hk => by
          unfold so1 at hk
          unfold sh1
          by_cases z : bc (kn k) = 0
          · rw [if_pos z]
          · rw [if_neg z] at hk; exact absurd hk (by decide)) n (by omega)) (in2 hv)]
        rfl
      | w + 2, hw => exact absurd hw (by omega)
  unfold X12_known
  rw [show X12_isIn (nI w) 0 1 = some (nI 1) from isIn_in hw (by decide), Option.bind_some, if_neg (show ¬ nI 1 = 0 by decide), show X12_isIn (nI v) 0 1 = some (nI 1) from isIn_in hv (by decide), Option.bind_some, if_neg (show ¬ nI 1 = 0 by decide)]
  exact key
theorem c_known (N : NowP h n kn kd fg hd dm dy) {w : Nat} (hw : w < 2) (v : Int32) : X11_known h (nI w) v = some (if w = 0 then fr (fb_sm (sq0 kn) n) (sumn n kn) v else fr (fb_sm (sh1 n kn) n) (840 * fb_sm (so1 kn) n) v) := by
  have w1 := N.1.1.1
  have hs := sumn_le (kn := kn) w1
  have hq := sm_le (sq0 kn) 81 n (fun k _ => sq0_le k)
  have hh := sm_le (sh1 n kn) (81 * 840) n (fun k _ => sh1_le N.1.1 k)
  have ho := sm_le (so1 kn) 1 n (fun k _ => so1_le k)
  have hq9 : n * 81 ≤ 9 * 81 := Nat.mul_le_mul_right _ w1
  have hh9 : n * (81 * 840) ≤ 9 * (81 * 840) := Nat.mul_le_mul_right _ w1
  match w, hw with
  | 0, _ =>
    unfold X11_known
    rw [if_pos (show nI 0 = 0 from rfl), c_ends N, Option.bind_some, c_numbers N.1.1 N.2.2.1.1, Option.bind_some]
    show (X11_fraction (nI (fb_sm (sq0 kn) n)).toInt64 (nI (sumn n kn)).toInt64 v).bind _ = _
    rw [i_l (by omega), i_l (by omega), c_frac (by omega) (by omega)]; rfl
  | 1, _ =>
    unfold X11_known
    rw [if_neg (show ¬ nI 1 = 0 by decide), if_pos (show nI 1 = 1 from rfl), c_shares N, Option.bind_some, c_soc N, Option.bind_some, i_l (by omega), K840, l_mul, c_frac (by omega) (by omega)]
    rfl
  | w + 2, hw => exact absurd hw (by omega)
theorem S_known (N : NowP h n kn kd fg hd dm dy) (u v : Int32) : ∃ r, X11_known h u v = some r ∧ X12_known h u v = some r := by
  rcases arg_in u 2 with ⟨w, hw, _, rfl⟩ | hu
  · refine ⟨_, c_known N hw v, ?_⟩
    rcases arg_in v 2 with ⟨j, hj, _, rfl⟩ | hv
    · exact m_known N hw hj
    · unfold X12_known
      rw [show X12_isIn (nI w) 0 1 = some (nI 1) from isIn_in hw (by decide), Option.bind_some, if_neg (show ¬ nI 1 = 0 by decide), show X12_isIn v 0 1 = some (nI 0) from isIn_out hv (by decide), Option.bind_some, if_pos (show nI 0 = 0 from rfl), fr_out hv, fr_out hv, ite_self]
  · refine ⟨1000000001, ?_, ?_⟩
    · unfold X11_known
      have ne : ∀ j, j < 2 → ¬ u = nI j := fun j hj e => by rw [out_ne hu hj (by decide)] at e; exact e
      rw [if_neg (show ¬ u = 0 from ne 0 (by decide)), if_neg (show ¬ u = 1 from ne 1 (by decide))]
    · unfold X12_known
      rw [show X12_isIn u 0 1 = some (nI 0) from isIn_out hu (by decide)]; rfl
end KNOWN
