/-! telling: what one tells on a DAY, whom, who has HEARD behind it -/
def tl (k f d : Nat) : Nat := if k = 1 then (if d % 2 = 0 then 1 else 0) else if k = 2 then 3 else if k = 3 then 0 else if k = 4 then 2 else if k = 5 then (if d % 2 = 0 then 1 else 0) + 1 else if k = 6 then 2 + f else if k = 7 then 0 else 1
def lk (k a b : Nat) : Bool := if k = 1 then decide (b ≤ a) else if k = 3 then decide (b ≤ a) else if k = 5 then decide (a < b) else if k = 7 then decide (b ≤ a) else true
theorem loopE {σ R : Type} (F : Nat → Nat → σ → R) (E : σ → R) (n : Nat) (step : Nat → σ → σ) (I : Nat → σ → Prop) (stop : σ → Prop) (hstop : ∀ k s, stop s → step k s = s)
    (hx : ∀ fu k s, I k s → (k = n ∨ (k < n ∧ stop s)) → F (fu + 1) k s = E s)
    (hs : ∀ fu k s, k < n → I k s → ¬ stop s → F (fu + 1) k s = F fu (k + 1) (step k s) ∧ I (k + 1) (step k s)) :
    ∀ m fu k s, k + m = n → m < fu → I k s → F fu k s = E (itf step k m s) := by
  have fix : ∀ m k s, stop s → itf step k m s = s := by
    intro m
    induction m with
    | zero => intro k s _; rfl
    | succ m ih => intro k s h; rw [itf, hstop k s h, ih (k + 1) s h]
  intro m
  induction m with
  | zero =>
    intro fu k s hk hf hI
    obtain ⟨fu, rfl⟩ : ∃ f, fu = f + 1 := ⟨fu - 1, by omega⟩
    exact hx fu k s hI (Or.inl (by omega))
  | succ m ih =>
    intro fu k s hk hf hI
    obtain ⟨fu, rfl⟩ : ∃ f, fu = f + 1 := ⟨fu - 1, by omega⟩
    by_cases hst : stop s
    · rw [hx fu k s hI (Or.inr ⟨by omega, hst⟩), fix _ _ _ hst]
    · obtain ⟨h1, h2⟩ := hs fu k s (by omega) hI hst
      rw [h1]
      exact ih fu (k + 1) (step k s) (by omega) (by omega) h2
/-- one looks at q: how many it still tells, whom it has told -/
def tstep (kn : Nat → Nat) (k p : Nat) (wt : Nat → Bool) (q : Nat) (s : Nat × Nat) : Nat × Nat := if s.1 = 0 then s else if wt q && lk k (bc (kn p)) (bc (kn q)) then (s.1 - 1, s.2 ||| 2 ^ q) else s
def told (n : Nat) (kn kd fg : Nat → Nat) (d p hd : Nat) : Nat := (itf (tstep kn (kd p) p (fun q => (kn p).testBit q && !hd.testBit q && !(kd q == 7))) 0 n (tl (kd p) (fg p) d, 0)).2
def nstep (n : Nat) (kn kd fg : Nat → Nat) (d ahead : Nat) (sl : Nat → Bool) (p all : Nat) : Nat := if ahead.testBit p && !sl p then all ||| told n kn kd fg d p all else all
/-- who has HEARD behind a DAY d on which the silent tell nobody -/
def nh (n : Nat) (kn kd fg : Nat → Nat) (d ahead : Nat) (sl : Nat → Bool) : Nat := itf (nstep n kn kd fg d ahead sl) 0 n ahead
theorem tstep_lt {kn : Nat → Nat} {k p n q : Nat} {wt : Nat → Bool} {s : Nat × Nat} (hq : q < n) (h : s.2 < 2 ^ n) : (tstep kn k p wt q s).2 < 2 ^ n := by
  unfold tstep
  by_cases h1 : s.1 = 0
  · rw [if_pos h1]; exact h
  · rw [if_neg h1]
    split
    · exact or_lt h (pow_lt hq)
    · exact h
theorem told_lt {n : Nat} {kn kd fg : Nat → Nat} {d p hd : Nat} : told n kn kd fg d p hd < 2 ^ n :=
  itf_inv (fun _ (s : Nat × Nat) => s.2 < 2 ^ n) n (fun k s hk h => tstep_lt hk h) n 0 _ (by omega) (Nat.two_pow_pos n)
theorem nh_lt {n : Nat} {kn kd fg : Nat → Nat} {d ahead : Nat} {sl : Nat → Bool} (h : ahead < 2 ^ n) : nh n kn kd fg d ahead sl < 2 ^ n := by
  refine itf_inv (fun _ s => s < 2 ^ n) n (fun k s hk h => ?_) n 0 _ (by omega) h
  unfold nstep
  split
  · exact or_lt h told_lt
  · exact h
theorem bc_sum_lt {x : Nat} : bc x < 2147483648 := Nat.lt_of_le_of_lt (bc_le x) (by decide)
theorem tl_lt {k f d : Nat} (hf : f < 10) : tl k f d < 100 := by
  unfold tl
  repeat' split
  all_goals omega
/-! the class -/
def ParL (h : HS) (b n : Nat) (kn kd fg : Nat → Nat) (hd dm dy : Nat) : Prop := LinL h (b + 1) n kn ∧ (∀ p, p < 9 → aI h (b + 13) p = nI (kd p)) ∧ (∀ p, p < 9 → aI h (b + 14) p = nI (fg p)) ∧ fI h b 4 = nI hd ∧ fI h b 5 = nI dm ∧ fI h b 6 = nI dy
/-- kinds and figures are in range, dm are the DEAF ones -/
def WFp (n : Nat) (kn kd fg : Nat → Nat) (hd dm dy : Nat) : Prop := WFk n kn ∧ (∀ p, kd p < 8) ∧ (∀ p, fg p < 10) ∧ hd < 2 ^ n ∧ dm < 512 ∧ (∀ q, q < 9 → dm.testBit q = (kd q == 7)) ∧ dy < 1000000
theorem i_dec {a : Nat} (h : 0 < a) : nI a + -nI 1 = nI (a - 1) := by
  obtain ⟨k, rfl⟩ : ∃ k, a = k + 1 := ⟨a - 1, by omega⟩
  exact pk_m1 k
theorem rem2 {d : Nat} (hd : d < 2147483648) : nI d - nI d / nI 2 * nI 2 = nI (d % 2) := pk_rem hd (by decide) (by decide)
section CTELL
variable {h : HS} {b n : Nat} {kn kd fg : Nat → Nat} {hd dm dy : Nat}
theorem par2 (hb : isPar b) : ∀ k, k < 8 → X5_kindNamed h b (nI k) = some (b + 5 + k) := by
  intro k hk
  unfold X5_kindNamed
  simp (disch := omega) only [L0, L8, ltF, leF, ite_false, gdi_n, i_cl]
theorem tells_v {f d : Nat} (hd : d < 1000000) (hf : f < 10) (hb : isPar b) : ∀ k, k < 8 → V_tellsAtMost (b + 5 + k) (nI f) (nI d) = some (nI (tl k f d)) := by
  have e8 : X8_tellsAtMost (nI f) (nI d) = some (nI (if d % 2 = 0 then 1 else 0)) := by
    unfold X8_tellsAtMost
    have : d % 2 < 2 := Nat.mod_lt _ (by decide)
    simp (disch := omega) only [L0, L1, L2, rem2, i_eq]
    by_cases hc : d % 2 = 0
    · rw [if_pos hc, if_pos hc]
    · rw [if_neg hc, if_neg hc]
  intro k hk
  match k, hk with
  | 0, _ => rcases hb with rfl | rfl | rfl <;> exact rfl
  | 1, _ => rcases hb with rfl | rfl | rfl <;> exact e8
  | 2, _ => rcases hb with rfl | rfl | rfl <;> exact rfl
  | 3, _ => rcases hb with rfl | rfl | rfl <;> exact rfl
  | 4, _ =>
    have e10 : X10_tellsAtMost (nI f) (nI d) = some (nI 2) := by
      show some ((3 : Int32) - 1) = some (nI 2)
      decide
    rcases hb with rfl | rfl | rfl <;> exact e10
  | 5, _ =>
    have e9 : X9_tellsAtMost (nI f) (nI d) = some (nI ((if d % 2 = 0 then 1 else 0) + 1)) := by
      unfold X9_tellsAtMost
      rw [e8]
      simp only [Option.bind_some, L1, nI_add]
    rcases hb with rfl | rfl | rfl <;> exact e9
  | 6, _ =>
    have e0 : X0_tellsAtMost (nI f) (nI d) = some (nI (2 + f)) := by
      show some (nI 2 + nI f) = _
      rw [nI_add]
    rcases hb with rfl | rfl | rfl <;> exact e0
  | 7, _ => rcases hb with rfl | rfl | rfl <;> exact rfl
  | k + 8, hk => exact absurd hk (by omega)
theorem likes_v {x y : Nat} (hx : x < 100) (hy : y < 100) (hb : isPar b) : ∀ k, k < 8 → V_likes (b + 5 + k) (nI x) (nI y) = some (nI (lk k x y).toNat) := by
  have e8 : X8_likes (nI x) (nI y) = some (nI (decide (y ≤ x)).toNat) := by
    unfold X8_likes
    simp (disch := omega) only [i_lt, i_le]
    by_cases hc : y ≤ x
    · rw [if_neg (by omega), decide_eq_true hc]; rfl
    · rw [if_pos (by omega), decide_eq_false hc]; rfl
  have e9 : X9_likes (nI x) (nI y) = some (nI (decide (x < y)).toNat) := by
    unfold X9_likes
    simp (disch := omega) only [i_lt, i_le]
    by_cases hc : x < y
    · rw [if_neg (by omega), decide_eq_true hc]; rfl
    · rw [if_pos (by omega), decide_eq_false hc]; rfl
  intro k hk
  match k, hk with
  | 0, _ => rcases hb with rfl | rfl | rfl <;> exact rfl
  | 1, _ => rcases hb with rfl | rfl | rfl <;> exact e8
  | 2, _ => rcases hb with rfl | rfl | rfl <;> exact rfl
  | 3, _ => rcases hb with rfl | rfl | rfl <;> exact e8
  | 4, _ => rcases hb with rfl | rfl | rfl <;> exact rfl
  | 5, _ => rcases hb with rfl | rfl | rfl <;> exact e9
  | 6, _ => rcases hb with rfl | rfl | rfl <;> exact rfl
  | 7, _ => rcases hb with rfl | rfl | rfl <;> exact e8
  | k + 8, hk => exact absurd hk (by omega)
theorem c_kindOf (P : ParL h b n kn kd fg hd dm dy) {p : Nat} (hp : p < 9) : X5_kindOf h b (nI p) = some (nI (kd p)) := by
  unfold X5_kindOf
  simp (disch := omega) only [L0, L9, ltF, leF, ite_false, gdi_n, i_cl, P.2.1 p hp]
theorem c_figureOf (P : ParL h b n kn kd fg hd dm dy) {p : Nat} (hp : p < 9) : X5_figureOf h b (nI p) = some (nI (fg p)) := by
  unfold X5_figureOf
  simp (disch := omega) only [L0, L9, ltF, leF, ite_false, gdi_n, i_cl, P.2.2.1 p hp]
theorem c_people (P : ParL h b n kn kd fg hd dm dy) : X5_people h b = some (nI n) := by
  unfold X5_people
  rw [P.1.1]
theorem toldBy_stop (P : ParL h b n kn kd fg hd dm dy) (hn9 : n ≤ 9) {p x d id : Nat} {fu k : Nat} {s : Nat × Nat} (hst : k = n ∨ (k < n ∧ s.1 = 0)) :
    X5_toldBy_B30 h b (nI p) (nI x) (nI d) (fu + 1) id (nI s.1) (nI s.2) (nI k) = some (nI s.2) := by
  rw [X5_toldBy_B30, c_people P]
  simp only [Option.bind_some]
  rcases hst with hst | ⟨h1, h2⟩
  · subst hst
    simp (disch := omega) only [leT, ite_true]
  · rw [h2]
    simp (disch := omega) only [L0, leF, leT, ite_true, ite_false]
theorem toldBy_step (hb : isPar b) (w : WFp n kn kd fg hd dm dy) (P : ParL h b n kn kd fg hd dm dy) {p x d : Nat} (hp : p < 9) (hx : x < 512) {wt : Nat → Bool} (hwt : ∀ q, q < n → x.testBit q = wt q) {fu k : Nat} {s : Nat × Nat} (hk2 : k < n) (hI1 : s.1 < 100) (hst1 : ¬ s.1 = 0) :
    X5_toldBy_B30 h b (nI p) (nI x) (nI d) (fu + 1) (b + 5 + kd p) (nI s.1) (nI s.2) (nI k) = X5_toldBy_B30 h b (nI p) (nI x) (nI d) fu (b + 5 + kd p) (nI (tstep kn (kd p) p wt k s).1) (nI (tstep kn (kd p) p wt k s).2) (nI (k + 1)) := by
  have w1 := w.1.1
  have hk := w.2.1 p
  have hb1 := bc_le (kn p)
  have hb2 := bc_le (kn k)
  rw [X5_toldBy_B30, c_people P]
  simp only [Option.bind_some]
  simp (disch := omega) only [L0, L1, leF, ite_false, i_bit, hwt k hk2]
  unfold tstep
  rw [if_neg hst1]
  cases hc : wt k
  · simp only [Bool.toNat_false, ite_true, X5_toldBy_B90, nm, L1, nI_add, Bool.false_and, Bool.false_eq_true, ite_false]
  · simp (disch := omega) only [Bool.toNat_true, eqF, ite_false, c_number w.1 P.1, Option.bind_some, Bool.true_and]
    rw [likes_v (by omega) (by omega) hb (kd p) hk]
    cases hl : lk (kd p) (bc (kn p)) (bc (kn k))
    · simp only [Option.bind_some, Bool.toNat_false, L0, ite_true, X5_toldBy_B90, nm, L1, nI_add, Bool.false_eq_true, ite_false]
    · simp (disch := omega) only [Option.bind_some, Bool.toNat_true, L0, L1, eqF, ite_false, ite_true, X5_toldBy_B90, nm, nI_add, i_one, i_or]
      rw [i_dec (by omega)]
theorem tstep_le {kn : Nat → Nat} {k p q : Nat} {wt : Nat → Bool} {s : Nat × Nat} {m : Nat} (h : s.1 < m) : (tstep kn k p wt q s).1 < m := by
  unfold tstep
  split
  · exact h
  · split
    · show s.1 - 1 < m; omega
    · exact h
theorem c_toldBy (hb : isPar b) (w : WFp n kn kd fg hd dm dy) (P : ParL h b n kn kd fg hd dm dy) {p x d : Nat} (hp : p < 9) (hx : x < 512) (hd9 : d < 1000000) {wt : Nat → Bool} (hwt : ∀ q, q < n → x.testBit q = wt q) :
    X5_toldBy h b (nI p) (nI x) (nI d) = some (nI (itf (tstep kn (kd p) p wt) 0 n (tl (kd p) (fg p) d, 0)).2) := by
  have w1 := w.1.1
  have hk := w.2.1 p
  have hf := w.2.2.1 p
  have key := loopE (fun fu k (s : Nat × Nat) => X5_toldBy_B30 h b (nI p) (nI x) (nI d) fu (b + 5 + kd p) (nI s.1) (nI s.2) (nI k)) (fun s => some (nI s.2)) n (tstep kn (kd p) p wt) (fun _ s => s.1 < 100) (fun s => s.1 = 0) (fun k s hs => by unfold tstep; rw [if_pos hs]) (fun fu k s _ hst => toldBy_stop P w1 hst) (fun fu k s hk2 hI hst => ⟨toldBy_step hb w P hp hx hwt hk2 hI hst, tstep_le hI⟩) n FU 0 (tl (kd p) (fg p) d, 0) (by omega) (FU_lt (by omega)) (tl_lt hf)
  unfold X5_toldBy
  rw [c_kindOf P hp, Option.bind_some, par2 hb (kd p) hk, Option.bind_some, c_figureOf P hp, Option.bind_some, tells_v hd9 hf hb (kd p) hk, Option.bind_some]
  exact key
end CTELL
