/-! news: the class goes on by days in its own words, the model in a row; both are nh -/
theorem tl_par {k f d e : Nat} (h : d % 2 = e % 2) : tl k f d = tl k f e := by unfold tl; rw [h]
theorem told_par {n : Nat} {kn kd fg : Nat → Nat} {d e p hd : Nat} (h : d % 2 = e % 2) : told n kn kd fg d p hd = told n kn kd fg e p hd := by unfold told; rw [tl_par h]
theorem nh_par {n : Nat} {kn kd fg : Nat → Nat} {d e ahead : Nat} {sl : Nat → Bool} (h : d % 2 = e % 2) : nh n kn kd fg d ahead sl = nh n kn kd fg e ahead sl := by
  unfold nh
  refine itf_congr (fun _ _ => True) n (fun k s _ _ => ⟨?_, trivial⟩) n 0 _ (by omega) trivial
  unfold nstep
  rw [told_par h]
theorem nh_congr {n : Nat} {kn kd fg : Nat → Nat} {d ahead : Nat} {s1 s2 : Nat → Bool} (h : ∀ q, q < n → s1 q = s2 q) : nh n kn kd fg d ahead s1 = nh n kn kd fg d ahead s2 := by
  unfold nh
  refine itf_congr (fun _ _ => True) n (fun k s hk _ => ⟨?_, trivial⟩) n 0 _ (by omega) trivial
  unfold nstep
  rw [h k hk]
/-- m days on, from the day d + k on -/
def ndays (n : Nat) (kn kd fg : Nat → Nat) (d : Nat) (sl : Nat → Bool) (k m x : Nat) : Nat := itf (fun i s => nh n kn kd fg (d + i) s sl) k m x
theorem ndays_lt {n : Nat} {kn kd fg : Nat → Nat} {d : Nat} {sl : Nat → Bool} {k m x : Nat} (h : x < 2 ^ n) : ndays n kn kd fg d sl k m x < 2 ^ n :=
  itf_inv (fun _ s => s < 2 ^ n) (k + m) (fun _ _ _ h => nh_lt h) m k x rfl h
theorem itf_id {σ : Type} {step : Nat → σ → σ} : ∀ m k (s : σ), (∀ j, k ≤ j → step j s = s) → itf step k m s = s := by
  intro m
  induction m with
  | zero => intro k s _; rfl
  | succ m ih => intro k s h; rw [itf, h k (Nat.le_refl _), ih (k + 1) s (fun j hj => h j (by omega))]
theorem i_andn1 (x y : Nat) : nI x &&& (nI y ^^^ -nI 1) = nI (andn x y) := i_andn x y
theorem tstep_no {kn : Nat → Nat} {k p q : Nat} {wt : Nat → Bool} {s : Nat × Nat} (h : (wt q && lk k (bc (kn p)) (bc (kn q))) = false) : tstep kn k p wt q s = s := by
  unfold tstep
  rw [h]
  split
  · rfl
  · simp
theorem tstep_yes {kn : Nat → Nat} {k p q : Nat} {wt : Nat → Bool} {s : Nat × Nat} (h0 : ¬ s.1 = 0) (h : (wt q && lk k (bc (kn p)) (bc (kn q))) = true) : tstep kn k p wt q s = (s.1 - 1, s.2 ||| 2 ^ q) := by
  unfold tstep
  rw [if_neg h0, if_pos h]
section CNEWS
variable {h : HS} {b n : Nat} {kn kd fg : Nat → Nat} {hd dm dy : Nat}
set_option maxRecDepth 100000 in
set_option maxHeartbeats 4000000 in
theorem c_nextHeard (hb : isPar b) (w : WFp n kn kd fg hd dm dy) (P : ParL h b n kn kd fg hd dm dy) {x d sn : Nat} (hx : x < 2 ^ n) (hd9 : d < 1000000) : X5_nextHeard h b (nI x) (nI d) (nI sn) = some (nI (nh n kn kd fg d x (fun q => sn.testBit q))) := by
  have w1 := w.1.1
  have h512 : 2 ^ n ≤ 512 := show 2 ^ n ≤ 2 ^ 9 from Nat.pow_le_pow_right (by decide) w1
  unfold X5_nextHeard
  refine (loopF (fun fu k s => X5_nextHeard_B6 h b (nI x) (nI d) (nI sn) fu (nI s) (nI k)) (fun s => some (nI s)) n (nstep n kn kd fg d x (fun q => sn.testBit q)) (fun _ s => s < 2 ^ n) (fun fu s _ => ?_) (fun fu k s hk hI => ?_) n FU 0 x (by omega) (FU_lt (by omega)) hx).1
  · show X5_nextHeard_B6 h b (nI x) (nI d) (nI sn) (fu + 1) (nI s) (nI n) = _
    rw [X5_nextHeard_B6, c_people P]
    simp (disch := omega) only [Option.bind_some, leT, ite_true]
  · show X5_nextHeard_B6 h b (nI x) (nI d) (nI sn) (fu + 1) (nI s) (nI k) = X5_nextHeard_B6 h b (nI x) (nI d) (nI sn) fu (nI (nstep n kn kd fg d x (fun q => sn.testBit q) k s)) (nI (k + 1)) ∧ nstep n kn kd fg d x (fun q => sn.testBit q) k s < 2 ^ n
    have hs : s < 2 ^ n := hI
    have hk9 : k < 9 := by omega
    have hpk : 2 ^ k < 512 := pow_lt (n := 9) hk9
    have hkn := w.1.lt k
    have hand : andn x sn &&& 2 ^ k < 2147483648 := Nat.lt_of_le_of_lt Nat.and_le_right (by omega)
    have hm1 : andn (kn k) s ≤ kn k := andn_le _ _
    have hm2 : andn (andn (kn k) s) dm ≤ andn (kn k) s := andn_le _ _
    rw [X5_nextHeard_B6, c_people P]
    simp (disch := omega) only [Option.bind_some, leF, ite_false, i_andn1, L1, i_one, i_and, L0, i_eq hand (show 0 < 2147483648 by decide), c_around P.1]
    have hbit : (andn x sn &&& 2 ^ k = 0) = (((x.testBit k) && !(sn.testBit k)) = false) := by rw [← andn_bit (by omega)]; exact propext (fb_bit_nat _ _)
    simp only [hbit]
    unfold nstep
    by_cases hc : (x.testBit k && !(sn.testBit k)) = false
    · rw [if_pos hc, if_neg (by rw [hc]; exact Bool.false_ne_true)]
      simp only [X5_nextHeard_B61, nm, L1, nI_add]
      exact ⟨trivial, hI⟩
    · have hc1 : (x.testBit k && !(sn.testBit k)) = true := by simpa using hc
      rw [if_neg hc, if_pos hc1]
      rw [show fI h b 5 = nI dm from P.2.2.2.2.1]
      simp only [i_andn1]
      rw [c_toldBy hb w P hk9 (show andn (andn (kn k) s) dm < 512 by omega) hd9 (wt := fun q => (kn k).testBit q && !s.testBit q && !(kd q == 7)) (fun q hq => by
        rw [andn_bit (by omega), andn_bit (by omega), w.2.2.2.2.2.1 q (by omega)])]
      simp only [Option.bind_some, i_or, nm, X5_nextHeard_B61, L1, nI_add]
      exact ⟨rfl, or_lt hs told_lt⟩
set_option maxRecDepth 100000 in
set_option maxHeartbeats 4000000 in
theorem c_behind (hb : isPar b) (w : WFp n kn kd fg hd dm dy) (P : ParL h b n kn kd fg hd dm dy) {x M sn : Nat} (hx : x < 2 ^ n) (hM : M < 900) (hdy : dy < 100000) : X5_behind h b (nI x) (nI M) (nI sn) = some (nI (ndays n kn kd fg dy (fun q => sn.testBit q) 1 M x)) := by
  unfold X5_behind
  have key : ∀ (m fu k : Nat) (s : Nat × Nat), 1 ≤ k → k + m = M + 1 → m < fu → s.1 < 2 ^ n ∧ s.2 ≤ 2 ∧ (1 ≤ s.2 → 2 ≤ k ∧ nh n kn kd fg (dy + (k - 1)) s.1 (fun q => sn.testBit q) = s.1) ∧ (2 ≤ s.2 → 3 ≤ k ∧ nh n kn kd fg (dy + (k - 2)) s.1 (fun q => sn.testBit q) = s.1) →
      X5_behind_B9 h b (nI x) (nI M) (nI sn) fu (nI s.1) (nI s.2) (nI k) = some (nI (ndays n kn kd fg dy (fun q => sn.testBit q) k m s.1)) := by
    intro m
    induction m with
    | zero =>
      intro fu k s hk1 hk hf hI
      obtain ⟨fu, rfl⟩ : ∃ f, fu = f + 1 := ⟨fu - 1, by omega⟩
      rw [X5_behind_B9]
      simp (disch := omega) only [ltT, ite_true]
      rfl
    | succ m ih =>
      intro fu k s hk1 hk hf hI
      obtain ⟨fu, rfl⟩ : ∃ f, fu = f + 1 := ⟨fu - 1, by omega⟩
      obtain ⟨h1, h2, h3, h4⟩ := hI
      rw [X5_behind_B9]
      simp (disch := omega) only [ltF, ite_false, L2]
      by_cases hs : 2 ≤ s.2
      · simp (disch := omega) only [leT, ite_true]
        obtain ⟨a1, a2⟩ := h3 (by omega)
        obtain ⟨b1, b2⟩ := h4 hs
        unfold ndays
        rw [itf_id]
        intro j hj
        rcases (show j % 2 = (k - 1) % 2 ∨ j % 2 = (k - 2) % 2 by omega) with q | q
        · rw [nh_par (e := dy + (k - 1)) (by omega)]; exact a2
        · rw [nh_par (e := dy + (k - 2)) (by omega)]; exact b2
      · simp (disch := omega) only [leF, ite_false]
        rw [show fI h b 6 = nI dy from P.2.2.2.2.2, nI_add, c_nextHeard hb w P h1 (by omega)]
        simp only [Option.bind_some]
        have hq : nh n kn kd fg (dy + k) s.1 (fun q => sn.testBit q) < 2 ^ n := nh_lt h1
        have h512 : 2 ^ n ≤ 512 := show 2 ^ n ≤ 2 ^ 9 from Nat.pow_le_pow_right (by decide) w.1.1
        simp (disch := omega) only [i_eq]
        by_cases hc : nh n kn kd fg (dy + k) s.1 (fun q => sn.testBit q) = s.1
        · rw [if_pos hc]
          simp only [X5_behind_B52, nm, L1, nI_add]
          rw [ih fu (k + 1) (nh n kn kd fg (dy + k) s.1 (fun q => sn.testBit q), s.2 + 1) (by omega) (by omega) (by omega) ⟨hq, by show s.2 + 1 ≤ 2; omega, fun _ => ⟨by omega, by show nh n kn kd fg (dy + (k + 1 - 1)) (nh n kn kd fg (dy + k) s.1 _) _ = _; rw [hc, show k + 1 - 1 = k from rfl, hc]⟩, fun q => by
            have q1 : 1 ≤ s.2 := by
              have : 2 ≤ s.2 + 1 := q
              omega
            obtain ⟨a1, a2⟩ := h3 q1
            refine ⟨by omega, ?_⟩
            show nh n kn kd fg (dy + (k + 1 - 2)) (nh n kn kd fg (dy + k) s.1 _) _ = _
            rw [hc, show k + 1 - 2 = k - 1 from by omega]; exact a2⟩]
          rfl
        · rw [if_neg hc]
          simp only [X5_behind_B52, nm, L1, L0, nI_add]
          rw [ih fu (k + 1) (nh n kn kd fg (dy + k) s.1 (fun q => sn.testBit q), 0) (by omega) (by omega) (by omega) ⟨hq, by show 0 ≤ 2; omega, fun q => absurd (show 1 ≤ 0 from q) (by omega), fun q => absurd (show 2 ≤ 0 from q) (by omega)⟩]
          rfl
  rw [L0, L1]
  exact key M FU 1 (x, 0) (by omega) (by omega) (FU_lt (by omega)) ⟨hx, by show 0 ≤ 2; omega, fun q => absurd (show 1 ≤ 0 from q) (by omega), fun q => absurd (show 2 ≤ 0 from q) (by omega)⟩
end CNEWS
theorem upd_self {f : Nat → Int32} {k : Nat} {v : Int32} (h : f k = v) : upd f k v = f := by
  funext j
  by_cases hj : j = k
  · subst hj; rw [pk_us, h]
  · rw [pk_un hj]
theorem upd_upd {f : Nat → Int32} {k : Nat} {v u : Int32} : upd (upd f k v) k u = upd f k u := by
  funext j
  by_cases hj : j = k
  · subst hj; rw [pk_us, pk_us]
  · rw [pk_un hj, pk_un hj, pk_un hj]
theorem upd_comm {f : Nat → Int32} {k i : Nat} {v u : Int32} (h : k ≠ i) : upd (upd f k v) i u = upd (upd f i u) k v := by
  funext j
  by_cases hj : j = i
  · subst hj; rw [pk_us, pk_un (fun e => h e.symm), pk_us]
  · rw [pk_un hj]
    by_cases hk : j = k
    · subst hk; rw [pk_us, pk_us]
    · rw [pk_un hk, pk_un hk, pk_un hj]
theorem sA_self {h : HS} {o : Nat} {f : Nat → Int32} (e : f = aI h o) : sA h o f = h := by
  subst e
  obtain ⟨a, b, c⟩ := h
  simp only [sA, aI, Prod.mk.injEq, true_and, and_true]
  funext o1
  by_cases ho : o1 = o
  · subst ho; simp
  · simp [ho]
section MNEWS
variable {h : HS} {r n : Nat} {kn kd fg : Nat → Nat} {hd dm dy : Nat}
theorem RowP_hd {f : Nat → Int32} (R : RowP f n kn kd fg hd dy) (x : Nat) : RowP (upd f 2 (nI x)) n kn kd fg x dy :=
  ⟨by rw [pk_un (by decide)]; exact R.1, by rw [pk_un (by decide)]; exact R.2.1, pk_us, fun p hp => ⟨by rw [pk_un (by omega)]; exact (R.2.2.2 p hp).1, by rw [pk_un (by omega)]; exact (R.2.2.2 p hp).2.1, by rw [pk_un (by omega)]; exact (R.2.2.2 p hp).2.2⟩⟩
theorem RowP_dy {f : Nat → Int32} (R : RowP f n kn kd fg hd dy) (x : Nat) : RowP (upd f 1 (nI x)) n kn kd fg hd x :=
  ⟨by rw [pk_un (by decide)]; exact R.1, pk_us, by rw [pk_un (by decide)]; exact R.2.2.1, fun p hp => ⟨by rw [pk_un (by omega)]; exact (R.2.2.2 p hp).1, by rw [pk_un (by omega)]; exact (R.2.2.2 p hp).2.1, by rw [pk_un (by omega)]; exact (R.2.2.2 p hp).2.2⟩⟩
theorem m_isDeaf (w : WFp n kn kd fg hd dm dy) (R : RowP (aI h r) n kn kd fg hd dy) {p : Nat} (hp : p < 9) : X12_isDeaf h r (nI p) = some (nI (kd p == 7).toNat) := by
  have hk := w.2.1 p
  unfold X12_isDeaf
  rw [L0, m_of]
  simp (disch := omega) only [Option.bind_some, gdi_n, i_cl, (R.2.2.2 p hp).1, L7, i_eq, L1]
  by_cases hc : kd p = 7
  · rw [if_pos hc, hc]; rfl
  · rw [if_neg hc, show (kd p == 7) = false from by simpa using hc]; rfl
theorem m_doesLike (w : WFk n kn) (hkd : ∀ p, kd p < 8) (R : RowP (aI h r) n kn kd fg hd dy) {p o : Nat} (hp : p < 9) (ho : o < 9) : X12_doesLike h r (nI p) (nI o) = some (nI (lk (kd p) (bc (kn p)) (bc (kn o))).toNat) := by
  have hk := hkd p
  have hb1 := bc_le (kn p)
  have hb2 := bc_le (kn o)
  have e48 : X12_doesLike_B48 h r (nI p) (nI o) = some (nI (decide (bc (kn o) ≤ bc (kn p))).toNat) := by
    unfold X12_doesLike_B48
    rw [m_number w R ho, m_number w R hp]
    simp (disch := omega) only [Option.bind_some, i_lt]
    by_cases hc : bc (kn o) ≤ bc (kn p)
    · rw [if_neg (by omega), decide_eq_true hc]; rfl
    · rw [if_pos (by omega), decide_eq_false hc]; rfl
  unfold X12_doesLike lk
  rw [L0, m_of]
  simp (disch := omega) only [Option.bind_some, gdi_n, i_cl, (R.2.2.2 p hp).1, L7, L1, L3, L5, i_eq, e48]
  by_cases h1 : kd p = 1
  · rw [if_pos h1, if_pos h1]
  rw [if_neg h1, if_neg h1]
  by_cases h3 : kd p = 3
  · rw [if_pos h3, if_pos h3]
  rw [if_neg h3, if_neg h3]
  by_cases h5 : kd p = 5
  · rw [if_pos h5, if_pos h5, m_number w R ho, m_number w R hp]
    simp (disch := omega) only [Option.bind_some, i_le]
    by_cases hc : bc (kn p) < bc (kn o)
    · rw [if_neg (by omega), decide_eq_true hc]; rfl
    · rw [if_pos (by omega), decide_eq_false hc]; rfl
  rw [if_neg h5, if_neg h5]
  by_cases h7 : kd p = 7
  · rw [if_pos h7, if_pos h7]
  rw [if_neg h7, if_neg h7]
  rfl
theorem m_tellsBy {k f d : Nat} (hk : k < 8) (hf : f < 10) (hd9 : d < 1000000) : X12_tellsBy (nI k) (nI f) (nI d) = some (nI (tl k f d)) := by
  have e : ∀ y, X12_tellsBy_B11 (nI k) (nI f) (nI d) (nI y) = some (nI (if k = 1 then y else if k = 2 then 3 else if k = 3 then 0 else if k = 4 then 2 else if k = 5 then y + 1 else if k = 6 then 2 + f else if k = 7 then 0 else 1)) := by
    intro y
    unfold X12_tellsBy_B11
    match k, hk with
    | 0, _ => rfl
    | 1, _ => rfl
    | 2, _ => rfl
    | 3, _ => rfl
    | 4, _ => rfl
    | 5, _ => show some (nI y + nI 1) = _; rw [nI_add]; rfl
    | 6, _ => show some (nI 2 + nI f) = _; rw [nI_add]; rfl
    | 7, _ => rfl
    | k + 8, hk => exact absurd hk (by omega)
  have : d % 2 < 2 := Nat.mod_lt _ (by decide)
  unfold X12_tellsBy
  simp (disch := omega) only [L0, L1, L2, rem2, i_eq, e]
  unfold tl
  by_cases hc : d % 2 = 0
  · rw [if_pos hc]; simp only [if_pos hc]
  · rw [if_neg hc]; simp only [if_neg hc]
set_option maxRecDepth 100000 in
set_option maxHeartbeats 4000000 in
theorem m_tells (w : WFp n kn kd fg hd dm dy) (R : RowP (aI h r) n kn kd fg hd dy) {p : Nat} (hp : p < 9) : X12_tells h r (nI p) = some (sA h r (upd (aI h r) 2 (nI (hd ||| told n kn kd fg dy p hd)))) := by
  have w1 := w.1.1
  have hk := w.2.1 p
  have hf := w.2.2.1 p
  have hkp := w.1.lt p
  have h512 : 2 ^ n ≤ 512 := show 2 ^ n ≤ 2 ^ 9 from Nat.pow_le_pow_right (by decide) w1
  have hhd := w.2.2.2.1
  unfold X12_tells
  rw [L0, L1, m_of, m_of]
  simp (disch := omega) only [Option.bind_some, gdi_n, i_cl, (R.2.2.2 p hp).1, (R.2.2.2 p hp).2.1, R.2.1]
  rw [m_tellsBy hk hf w.2.2.2.2.2.2]
  simp only [Option.bind_some]
  have e0 : h = sA h r (upd (aI h r) 2 (nI (hd ||| (tl (kd p) (fg p) dy, 0).2))) := by
    rw [sA_self]
    exact upd_self (by rw [R.2.2.1]; simp)
  rw [show X12_tells_B23 r (nI p) FU (nI (tl (kd p) (fg p) dy)) (nI 0) h = X12_tells_B23 r (nI p) FU (nI (tl (kd p) (fg p) dy, 0).1) (nI 0) (sA h r (upd (aI h r) 2 (nI (hd ||| (tl (kd p) (fg p) dy, 0).2)))) from by rw [← e0]]
  refine loopE (fun fu k (s : Nat × Nat) => X12_tells_B23 r (nI p) fu (nI s.1) (nI k) (sA h r (upd (aI h r) 2 (nI (hd ||| s.2))))) (fun s => some (sA h r (upd (aI h r) 2 (nI (hd ||| s.2))))) n (tstep kn (kd p) p (fun q => (kn p).testBit q && !hd.testBit q && !(kd q == 7))) (fun k s => s.1 < 100 ∧ s.2 < 2 ^ k ∧ s.2 < 2 ^ n) (fun s => s.1 = 0) (fun k s hs => by unfold tstep; rw [if_pos hs]) (fun fu k s hI hst => ?_) (fun fu k s hk2 hI hst => ?_) n FU 0 (tl (kd p) (fg p) dy, 0) (by omega) (FU_lt (by omega)) ⟨tl_lt hf, by show 0 < 2 ^ 0; decide, Nat.two_pow_pos n⟩
  · show X12_tells_B23 r (nI p) (fu + 1) (nI s.1) (nI k) (sA h r (upd (aI h r) 2 (nI (hd ||| s.2)))) = some (sA h r (upd (aI h r) 2 (nI (hd ||| s.2))))
    have hR := RowP_hd R (hd ||| s.2)
    rw [X12_tells_B23]
    simp (disch := omega) only [L0, gdi_n, i_cl, aI_sA_eq, hR.1]
    rcases hst with hst | ⟨h1, h2⟩
    · subst hst
      simp (disch := omega) only [leT, ite_true]
    · rw [h2]
      simp (disch := omega) only [leF, leT, ite_true, ite_false]
  · show X12_tells_B23 r (nI p) (fu + 1) (nI s.1) (nI k) (sA h r (upd (aI h r) 2 (nI (hd ||| s.2)))) = X12_tells_B23 r (nI p) fu (nI (tstep kn (kd p) p (fun q => (kn p).testBit q && !hd.testBit q && !(kd q == 7)) k s).1) (nI (k + 1)) (sA h r (upd (aI h r) 2 (nI (hd ||| (tstep kn (kd p) p (fun q => (kn p).testBit q && !hd.testBit q && !(kd q == 7)) k s).2)))) ∧ (tstep kn (kd p) p (fun q => (kn p).testBit q && !hd.testBit q && !(kd q == 7)) k s).1 < 100 ∧ (tstep kn (kd p) p (fun q => (kn p).testBit q && !hd.testBit q && !(kd q == 7)) k s).2 < 2 ^ (k + 1) ∧ (tstep kn (kd p) p (fun q => (kn p).testBit q && !hd.testBit q && !(kd q == 7)) k s).2 < 2 ^ n
    have hst1 : ¬ s.1 = 0 := hst
    obtain ⟨hI1, hI2, hI3⟩ := hI
    have hI2' : s.2 < 2 ^ (k + 1) := Nat.lt_of_lt_of_le hI2 (Nat.pow_le_pow_right (by decide) (by omega))
    have hR := RowP_hd R (hd ||| s.2)
    have hor : hd ||| s.2 < 2 ^ n := or_lt hhd hI3
    have hbit : (hd ||| s.2).testBit k = hd.testBit k := by rw [Nat.testBit_or, bit_lt hI2 (Nat.le_refl k), Bool.or_false]
    have wS : WFp n kn kd fg (hd ||| s.2) dm dy := ⟨w.1, w.2.1, w.2.2.1, hor, w.2.2.2.2⟩
    have hS : RowP (aI (sA h r (upd (aI h r) 2 (nI (hd ||| s.2)))) r) n kn kd fg (hd ||| s.2) dy := by rw [aI_sA_eq]; exact hR
    rw [X12_tells_B23]
    simp (disch := omega) only [L0, L2, gdi_n, i_cl, aI_sA_eq, hR.1, leF, ite_false, m_of, Option.bind_some, (hR.2.2.2 p hp).2.2, has_n, hR.2.2.1, hbit]
    rcases Bool.eq_false_or_eq_true ((kn p).testBit k) with hc | hc
    · rcases Bool.eq_false_or_eq_true (hd.testBit k) with hc2 | hc2
      · rw [tstep_no (by simp [hc2])]
        simp (disch := omega) only [hc, hc2, Bool.toNat_true, eqF, ite_false, X12_tells_B90, nm, L1, nI_add]
        exact ⟨trivial, hI1, hI2', hI3⟩
      · simp (disch := omega) only [hc, hc2, Bool.toNat_true, Bool.toNat_false, eqF, ite_false, ite_true]
        rw [m_isDeaf wS hS (by omega)]
        simp only [Option.bind_some]
        rcases Bool.eq_false_or_eq_true (kd k == 7) with hc3 | hc3
        · rw [tstep_no (by simp [hc3])]
          simp (disch := omega) only [hc3, Bool.toNat_true, eqF, ite_false, X12_tells_B90, nm, L1, nI_add]
          exact ⟨trivial, hI1, hI2', hI3⟩
        · simp (disch := omega) only [hc3, Bool.toNat_false, ite_true]
          rw [m_doesLike w.1 w.2.1 hS hp (by omega)]
          rcases Bool.eq_false_or_eq_true (lk (kd p) (bc (kn p)) (bc (kn k))) with hl | hl
          · rw [tstep_yes hst1 (by simp only [hc, hc2, hc3, hl, Bool.not_false, Bool.and_true])]
            simp (disch := omega) only [hl, Option.bind_some, Bool.toNat_true, L1, eqF, ite_false, X12_tells_B90, nm, nI_add, i_one, i_or, sA_sA, upd_upd]
            rw [i_dec (by omega), Nat.or_assoc]
            exact ⟨rfl, by show s.1 - 1 < 100; omega, or_lt hI2' (pow_lt (by omega)), or_lt hI3 (pow_lt hk2)⟩
          · rw [tstep_no (by simp [hl])]
            simp only [hl, Option.bind_some, Bool.toNat_false, ite_true, X12_tells_B90, nm, L1, nI_add]
            exact ⟨trivial, hI1, hI2', hI3⟩
    · rw [tstep_no (by simp [hc])]
      simp only [hc, Bool.toNat_false, ite_true, X12_tells_B90, nm, L1, nI_add]
      exact ⟨trivial, hI1, hI2', hI3⟩
end MNEWS
