/-! storms -/
theorem itf_pair {α β : Type} (f : Nat → α → α) (g : Nat → β → β) : ∀ m k a b, itf (fun i (s : α × β) => (f i s.1, g i s.2)) k m (a, b) = (itf f k m a, itf g k m b) := by
  intro m
  induction m with
  | zero => intro k a b; rfl
  | succ m ih => intro k a b; rw [itf, itf, itf]; exact ih (k + 1) _ _
theorem nh_all {n : Nat} {kn kd fg : Nat → Nat} {d x : Nat} : nh n kn kd fg d x (fun _ => true) = x := by
  unfold nh
  refine itf_id n 0 x (fun j _ => ?_)
  unfold nstep
  simp
/-- who has HEARD behind N days, storms on those of w -/
def hts (n : Nat) (kn kd fg : Nat → Nat) (dy w i s : Nat) : Nat := if w.testBit i then s else nh n kn kd fg (dy + i + 1) s (fun q => (0 : Nat).testBit q)
def wys (t w i s : Nat) : Nat := s * (if w.testBit i then 1 else t - 1)
def tot (n : Nat) (kn kd fg : Nat → Nat) (hd dy N t p w s : Nat) : Nat := if (itf (hts n kn kd fg dy w) 0 N hd).testBit p then s + itf (wys t w) 0 N 1 else s
theorem pow20 {N : Nat} (h : N ≤ 7) : 20 ^ N ≤ 1280000000 := show 20 ^ N ≤ 20 ^ 7 from Nat.pow_le_pow_right (by decide) h
theorem wys_le {t w N : Nat} (ht : t ≤ 20) (hN : N ≤ 7) : itf (wys t w) 0 N 1 ≤ 1280000000 := by
  have := itf_inv (f := wys t w) (fun k s => s ≤ 20 ^ k) N (fun k s _ h => by
    unfold wys
    rw [Nat.pow_succ]
    exact Nat.mul_le_mul h (by split <;> omega)) N 0 1 (by omega) (by decide)
  exact Nat.le_trans this (pow20 hN)
theorem all_le {t N : Nat} (h2 : 2 ≤ t) (ht : t ≤ 20) (hN : N ≤ 7) : 1 ≤ itf (fun _ s => s * t) 0 N 1 ∧ itf (fun _ s => s * t) 0 N 1 ≤ 1280000000 := by
  have := itf_inv (f := fun _ s => s * t) (fun k s => 1 ≤ s ∧ s ≤ 20 ^ k) N (fun k s _ h => by
    rw [Nat.pow_succ]
    refine ⟨?_, Nat.mul_le_mul h.2 ht⟩
    have : 1 * 1 ≤ s * t := Nat.mul_le_mul h.1 (by omega)
    omega) N 0 1 (by omega) ⟨by decide, by decide⟩
  exact ⟨this.1, Nat.le_trans this.2 (pow20 hN)⟩
theorem tot_leC {n : Nat} {kn kd fg : Nat → Nat} {hd dy N t p C : Nat} (hC : ∀ w, itf (wys t w) 0 N 1 ≤ C) (m : Nat) : itf (tot n kn kd fg hd dy N t p) 0 m 0 ≤ m * C :=
  itf_inv (f := tot n kn kd fg hd dy N t p) (fun k s => s ≤ k * C) m (fun k s _ h => by
    unfold tot
    rw [Nat.succ_mul]
    split
    · exact Nat.add_le_add h (hC k)
    · exact Nat.le_trans h (Nat.le_add_right _ _)) m 0 0 (Nat.zero_add m) (by rw [Nat.zero_mul]; exact Nat.le_refl 0)
theorem tot_le {n : Nat} {kn kd fg : Nat → Nat} {hd dy N t p : Nat} (ht : t ≤ 20) (hN : N ≤ 7) : itf (tot n kn kd fg hd dy N t p) 0 (2 ^ N) 0 ≤ 163840000000 :=
  Nat.le_trans (tot_leC (C := 1280000000) (fun w => wys_le ht hN) (2 ^ N)) (Nat.le_trans (Nat.mul_le_mul_right _ (show 2 ^ N ≤ 2 ^ 7 from Nat.pow_le_pow_right (by decide) hN)) (by decide))
section STORMS
variable {h : HS} {n : Nat} {kn kd fg : Nat → Nat} {hd dm dy : Nat}
theorem hts_lt {w i s : Nat} (hs : s < 2 ^ n) : hts n kn kd fg dy w i s < 2 ^ n := by
  unfold hts
  split
  · exact hs
  · exact nh_lt hs
theorem c_through (N : NowP h n kn kd fg hd dm dy) {w M : Nat} (hw : w < 128) (hM : M ≤ 7) : X11_heardThrough h (nI w) (nI M) = some (nI (itf (hts n kn kd fg dy w) 0 M hd)) := by
  have hdy := N.2.1
  unfold X11_heardThrough
  simp only [nm]
  rw [N.2.2.1.2.2.2.1]
  refine (loopF (fun fu k s => X11_heardThrough_B11 h (nI w) (nI M) fu (nI s) (nI k)) (fun s => some (nI s)) M (hts n kn kd fg dy w) (fun _ s => s < 2 ^ n) (fun fu s _ => ?_) (fun fu k s hk hs => ⟨?_, hts_lt hs⟩) M FU 0 hd (by omega) (FU_lt (by omega)) N.1.2.2.2.1).1
  · show X11_heardThrough_B11 h (nI w) (nI M) (fu + 1) (nI s) (nI M) = _
    rw [X11_heardThrough_B11, if_pos (nI_le (by omega) (by omega))]
  · show X11_heardThrough_B11 h (nI w) (nI M) (fu + 1) (nI s) (nI k) = X11_heardThrough_B11 h (nI w) (nI M) fu (nI (hts n kn kd fg dy w k s)) (nI (k + 1))
    have hs' : s < 2 ^ n := hs
    rw [X11_heardThrough_B11, if_neg (nI_ge (by omega) (by omega)), show (nI w >>> (nI k &&& 31)) &&& 1 = nI (w.testBit k).toNat from i_bit (by omega) (by omega)]
    unfold hts
    cases w.testBit k
    · rw [if_pos (show nI false.toNat = 0 from rfl), N.2.2.1.2.2.2.2.2, L1, nI_add, nI_add, L0, c_nextHeard (Or.inl rfl) N.1 N.2.2.1 hs' (show dy + k + 1 < 1000000 by omega), Option.bind_some]
      simp only [X11_heardThrough_B48, nm, L1, nI_add, Bool.false_eq_true, ite_false]
    · rw [if_neg (show ¬ nI true.toNat = 0 by decide)]
      simp only [X11_heardThrough_B48, nm, L1, nI_add, ite_true]
theorem c_ways {w M t : Nat} (hw : w < 128) (hM : M ≤ 7) (h2 : 2 ≤ t) (ht : t ≤ 20) : X11_waysOf (nI w) (nI M) (nI t) = some (lN (itf (wys t w) 0 M 1)) := by
  unfold X11_waysOf
  refine (loopF (fun fu k s => X11_waysOf_B5 (nI w) (nI M) (nI t) fu (lN s) (nI k)) (fun s => some (lN s)) M (wys t w) (fun _ _ => True) (fun fu s _ => ?_) (fun fu k s hk _ => ⟨?_, trivial⟩) M FU 0 1 (by omega) (FU_lt (by omega)) trivial).1
  · show X11_waysOf_B5 (nI w) (nI M) (nI t) (fu + 1) (lN s) (nI M) = _
    rw [X11_waysOf_B5, if_pos (nI_le (by omega) (by omega))]
  · show X11_waysOf_B5 (nI w) (nI M) (nI t) (fu + 1) (lN s) (nI k) = X11_waysOf_B5 (nI w) (nI M) (nI t) fu (lN (wys t w k s)) (nI (k + 1))
    rw [X11_waysOf_B5, if_neg (nI_ge (by omega) (by omega)), show (nI w >>> (nI k &&& 31)) &&& 1 = nI (w.testBit k).toNat from i_bit (by omega) (by omega)]
    unfold wys
    cases w.testBit k
    · rw [if_pos (show nI false.toNat = 0 from rfl), L1, pk_sub (by omega), i_l (by omega)]
      simp only [X11_waysOf_B29, nm, L1, nI_add, l_mul, Bool.false_eq_true, ite_false]
    · rw [if_neg (show ¬ nI true.toNat = 0 by decide)]
      simp only [X11_waysOf_B29, nm, L1, nI_add, K1, l_mul, ite_true]
theorem i_pow {N : Nat} (h : N < 31) : (1 : Int32) <<< (nI N &&& 31) = nI (2 ^ N) := i_one h
theorem c_storms (N : NowP h n kn kd fg hd dm dy) {p M t : Nat} (hp : p < n) (hM : M ≤ 7) (h2 : 2 ≤ t) (ht : t ≤ 20) (v : Int32) : X11_storms h (nI p) (nI M) (nI t) v = some (fr (itf (tot n kn kd fg hd dy M t p) 0 (2 ^ M) 0) (itf (fun _ s => s * t) 0 M 1) v) := by
  have w1 := N.1.1.1
  have h9 := pow_le9 w1
  have hM7 : 2 ^ M ≤ 128 := show 2 ^ M ≤ 2 ^ 7 from Nat.pow_le_pow_right (by decide) hM
  have hal := all_le h2 ht hM
  have hto := tot_le (n := n) (kn := kn) (kd := kd) (fg := fg) (hd := hd) (dy := dy) (p := p) ht hM
  unfold X11_storms
  rw [c_has_in N.2.2.1 hp w1, Option.bind_some, if_neg (show ¬ nI 1 = 0 by decide), if_neg (nI_pos (by omega)), if_neg (show ¬ (7 : Int32) < nI M from nI_nlt (a := 7) (by omega) (by omega)), if_neg (show ¬ nI t < 2 from nI_nlt (b := 2) (by omega) (by omega)), if_pos (show nI t ≤ 20 from nI_le (b := 20) (by omega) (by decide))]
  refine (loopF (fun fu k s => X11_storms_B42 h (nI p) (nI M) (nI t) v fu (lN s) (nI k)) (fun s => X11_storms_B67 h (nI p) (nI M) (nI t) v FU (lN s) 0 0) M (fun _ s => s * t) (fun _ _ => True) (fun fu s _ => ?_) (fun fu k s hk _ => ⟨?_, trivial⟩) M FU 0 1 (by omega) (FU_lt (by omega)) trivial).1.trans ?_
  · show X11_storms_B42 h (nI p) (nI M) (nI t) v (fu + 1) (lN s) (nI M) = _
    rw [X11_storms_B42, if_pos (nI_le (by omega) (by omega))]
  · show X11_storms_B42 h (nI p) (nI M) (nI t) v (fu + 1) (lN s) (nI k) = _
    rw [X11_storms_B42, if_neg (nI_ge (by omega) (by omega)), i_l (by omega)]
    simp only [nm, l_mul, L1, nI_add]
  · refine (loopF (fun fu k s => X11_storms_B67 h (nI p) (nI M) (nI t) v fu (lN (itf (fun _ s => s * t) 0 M 1)) (lN s) (nI k)) (fun s => (X11_fraction (lN s) (lN (itf (fun _ s => s * t) 0 M 1)) v).bind fun q11 => some q11) (2 ^ M) (tot n kn kd fg hd dy M t p) (fun _ _ => True) (fun fu s _ => ?_) (fun fu k s hk _ => ⟨?_, trivial⟩) (2 ^ M) FU 0 0 (by omega) (FU_lt (by omega)) trivial).1.trans ?_
    · show X11_storms_B67 h (nI p) (nI M) (nI t) v (fu + 1) (lN (itf (fun _ s => s * t) 0 M 1)) (lN s) (nI (2 ^ M)) = _
      rw [X11_storms_B67, i_pow (by omega), if_pos (nI_le (by omega) (by omega))]
    · show X11_storms_B67 h (nI p) (nI M) (nI t) v (fu + 1) (lN (itf (fun _ s => s * t) 0 M 1)) (lN s) (nI k) = X11_storms_B67 h (nI p) (nI M) (nI t) v fu (lN (itf (fun _ s => s * t) 0 M 1)) (lN (tot n kn kd fg hd dy M t p k s)) (nI (k + 1))
      have hlt : itf (hts n kn kd fg dy k) 0 M hd < 2 ^ n := itf_inv (fun _ s => s < 2 ^ n) M (fun _ _ _ hs => hts_lt hs) M 0 hd (by omega) N.1.2.2.2.1
      rw [X11_storms_B67, i_pow (by omega), if_neg (nI_ge (by omega) (by omega)), c_through N (by omega) hM, Option.bind_some, show (nI (itf (hts n kn kd fg dy k) 0 M hd) >>> (nI p &&& 31)) &&& 1 = nI ((itf (hts n kn kd fg dy k) 0 M hd).testBit p).toNat from i_bit (by omega) (by omega)]
      unfold tot
      cases (itf (hts n kn kd fg dy k) 0 M hd).testBit p
      · rw [if_pos (show nI false.toNat = 0 from rfl)]
        simp only [X11_storms_B101, nm, L1, nI_add, Bool.false_eq_true, ite_false]
      · rw [if_neg (show ¬ nI true.toNat = 0 by decide), c_ways (by omega) hM h2 ht, Option.bind_some]
        simp only [X11_storms_B101, nm, L1, nI_add, l_add, ite_true]
    · show (X11_fraction (lN (itf (tot n kn kd fg hd dy M t p) 0 (2 ^ M) 0)) (lN (itf (fun _ s => s * t) 0 M 1)) v).bind _ = _
      rw [c_frac (by omega) (by omega)]; rfl
theorem has_m1 {q : Nat} (hq : q < 9) : X12_has (-1) (nI q) = some (nI true.toNat) := by
  have : ∀ q, q < 9 → X12_has (-1) (nI q) = some (nI true.toNat) := by decide +kernel
  exact this q hq
theorem m_storm_day (N : NowP h n kn kd fg hd dm dy) {p M t w fu : Nat} {v : Int32} (hp : p < n) (hM : M ≤ 7) (hw : w < 128) (h2 : 2 ≤ t) (ht : t ≤ 20) {A B : Int64} {K : Int64 → Int64 → Int32 → HS → Option (Int64 × HS)} {k s x : Nat} {g : HS} (hk : k < M) (hs : s < 2 ^ n) (hR : RowP (aI g 68) n kn kd fg s (dy + k)) (hK : Keep h g) :
    ∃ g1, X12_storms_B98 (nI p) (nI M) (nI t) v K (fu + 1) A B (nI w) (lN x) (nI k) g = X12_storms_B98 (nI p) (nI M) (nI t) v K fu A B (nI w) (lN (wys t w k x)) (nI (k + 1)) g1 ∧ RowP (aI g1 68) n kn kd fg (hts n kn kd fg dy w k s) (dy + k + 1) ∧ Keep h g1 := by
  have hdy := N.2.1
  have wS := WFp_dy (WFp_hd N.1 hs) (show dy + k < 1000000 by omega)
  have e98 : ∀ z, X12_storms_B98 (nI p) (nI M) (nI t) v K (fu + 1) A B (nI w) z (nI k) g = (if nI (w.testBit k).toNat = 0 then X12_storms_B124 (nI p) (nI M) (nI t) v K (X12_storms_B98 (nI p) (nI M) (nI t) v K fu) A B (nI w) (nI k) ((nI t - 1).toInt64) z g else X12_storms_B124 (nI p) (nI M) (nI t) v K (X12_storms_B98 (nI p) (nI M) (nI t) v K fu) A B (nI w) (nI k) 1 z g) := by
    intro z
    rw [X12_storms_B98, if_neg (nI_ge (by omega) (by omega)), has_n (by omega) (by omega), Option.bind_some]
  rw [e98]
  unfold X12_storms_B124
  rw [has_n (by omega) (by omega)]
  simp only [nm, Option.bind_some]
  unfold wys hts
  cases w.testBit k
  · refine ⟨sA g 68 (upd (upd (aI g 68) 1 (nI (dy + k + 1))) 2 (nI (nh n kn kd fg (dy + k + 1) s (fun q => (0 : Nat).testBit q)))), ?_, ?_, hK.a (by decide)⟩
    · rw [if_pos (show nI false.toNat = 0 from rfl), if_pos (show nI false.toNat = 0 from rfl)]
      unfold X12_storms_B146
      rw [show X12_day g 68 0 = X12_day g 68 (nI 0) from rfl, m_day wS hR (show dy + k < 900000 by omega) (sl := fun q => (0 : Nat).testBit q) (fun q hq => has_n (by omega) (by omega)), Option.bind_some, L1, pk_sub (by omega), i_l (by omega)]
      simp only [nm, l_mul, nI_add, Bool.false_eq_true, ite_false]
    · rw [aI_sA_eq]
      simp only [Bool.false_eq_true, ite_false]
      exact RowP_hd (RowP_dy hR (dy + k + 1)) _
  · have ed := m_day wS hR (show dy + k < 900000 by omega) (sv := -1) (sl := fun _ => true) (fun q hq => has_m1 hq)
    rw [nh_all] at ed
    refine ⟨sA g 68 (upd (upd (aI g 68) 1 (nI (dy + k + 1))) 2 (nI s)), ?_, ?_, hK.a (by decide)⟩
    · rw [if_neg (show ¬ nI true.toNat = 0 by decide), if_neg (show ¬ nI true.toNat = 0 by decide)]
      unfold X12_storms_B146
      rw [ed, Option.bind_some]
      simp only [nm, K1, l_mul, L1, nI_add, ite_true]
    · rw [aI_sA_eq]
      simp only [ite_true]
      exact RowP_hd (RowP_dy hR (dy + k + 1)) _
theorem m_storm_set (N : NowP h n kn kd fg hd dm dy) {p M t w fu : Nat} {v : Int32} (hp : p < n) (hM : M ≤ 7) (hw : w < 2 ^ M) (h2 : 2 ≤ t) (ht : t ≤ 20) {B : Int64} {s : Nat} {g : HS} (hK : Keep h g) :
    ∃ g1, X12_storms_B73 (nI p) (nI M) (nI t) v (fu + 1) (lN s) B (nI w) g = X12_storms_B73 (nI p) (nI M) (nI t) v fu (lN (tot n kn kd fg hd dy M t p w s)) B (nI (w + 1)) g1 ∧ Keep h g1 := by
  have w1 := N.1.1.1
  have h9 := pow_le9 w1
  have hM7 : 2 ^ M ≤ 128 := show 2 ^ M ≤ 2 ^ 7 from Nat.pow_le_pow_right (by decide) hM
  have Ng := hK.now N
  obtain ⟨f, e1, hf⟩ := m_copies (h := g) (show (67 : Nat) ≠ 68 by decide)
  obtain ⟨⟨x1, g1⟩, e2, hx, hlt, hR, k1⟩ := loopR (fun fu2 k (y : Nat × HS) => X12_storms_B98 (nI p) (nI M) (nI t) v (X12_storms_B73 (nI p) (nI M) (nI t) v fu) fu2 (lN s) B (nI w) (lN y.1) (nI k) y.2) (fun y => X12_storms_B98 (nI p) (nI M) (nI t) v (X12_storms_B73 (nI p) (nI M) (nI t) v fu) 1 (lN s) B (nI w) (lN y.1) (nI M) y.2) M (fun i (y : Nat × Nat) => (hts n kn kd fg dy w i y.1, wys t w i y.2)) (fun k y z => z.1 = y.2 ∧ y.1 < 2 ^ n ∧ RowP (aI z.2 68) n kn kd fg y.1 (dy + k) ∧ Keep h z.2)
    (fun fu2 y z _ => by
      show X12_storms_B98 (nI p) (nI M) (nI t) v (X12_storms_B73 (nI p) (nI M) (nI t) v fu) (fu2 + 1) (lN s) B (nI w) (lN z.1) (nI M) z.2 = X12_storms_B98 (nI p) (nI M) (nI t) v (X12_storms_B73 (nI p) (nI M) (nI t) v fu) 1 (lN s) B (nI w) (lN z.1) (nI M) z.2
      rw [X12_storms_B98, X12_storms_B98, if_pos (nI_le (by omega) (by omega)), if_pos (nI_le (by omega) (by omega))])
    (fun fu2 k y z hk J => by
      obtain ⟨j1, j2, j3, j4⟩ := J
      obtain ⟨g1, a1, a2, a3⟩ := m_storm_day N (v := v) hp hM (show w < 128 by omega) h2 ht (A := lN s) (B := B) (K := X12_storms_B73 (nI p) (nI M) (nI t) v fu) (fu := fu2) (x := z.1) hk j2 j3 j4
      exact ⟨(wys t w k z.1, g1), a1, by rw [j1], hts_lt j2, a2, a3⟩)
    M FU 0 (hd, 1) (1, sA g 68 f) (by omega) (FU_lt (by omega)) ⟨rfl, N.1.2.2.2.1, by rw [aI_sA_eq]; exact RowP_congr Ng.2.2.2 hf, hK.a (by decide)⟩
  rw [itf_pair] at hx hlt hR
  have hx : x1 = itf (wys t w) 0 M 1 := hx
  refine ⟨g1, ?_, k1⟩
  rw [X12_storms_B73, i_pow (by omega), if_neg (nI_ge (by omega) (by omega)), e1, Option.bind_some]
  refine Eq.trans e2 ?_
  show X12_storms_B98 (nI p) (nI M) (nI t) v (X12_storms_B73 (nI p) (nI M) (nI t) v fu) 1 (lN s) B (nI w) (lN x1) (nI M) g1 = _
  have hlt : itf (hts n kn kd fg dy w) 0 M hd < 2 ^ n := hlt
  have hR2 : aI g1 68 2 = nI (itf (hts n kn kd fg dy w) 0 M hd) := hR.2.2.1
  rw [X12_storms_B98, if_pos (nI_le (by omega) (by omega)), gdi2, cl2, hR2, has_n (by omega) (by omega), Option.bind_some]
  unfold tot
  cases (itf (hts n kn kd fg dy w) 0 M hd).testBit p
  · rw [if_pos (show nI false.toNat = 0 from rfl)]
    simp only [X12_storms_B176, nm, L1, nI_add, K0, l_add, Nat.add_zero, Bool.false_eq_true, ite_false]
  · rw [if_neg (show ¬ nI true.toNat = 0 by decide), hx]
    simp only [X12_storms_B176, nm, L1, nI_add, l_add, ite_true]
theorem m_storms (N : NowP h n kn kd fg hd dm dy) {p M t v : Nat} (hp : p < n) (hM : M ≤ 7) (h2 : 2 ≤ t) (ht : t ≤ 20) (hv : v < 2) : ∃ g1, X12_storms h (nI p) (nI M) (nI t) (nI v) = some (fr (itf (tot n kn kd fg hd dy M t p) 0 (2 ^ M) 0) (itf (fun _ s => s * t) 0 M 1) (nI v), g1) ∧ Keep h g1 := by
  have w1 := N.1.1.1
  have hM7 : 2 ^ M ≤ 128 := show 2 ^ M ≤ 2 ^ 7 from Nat.pow_le_pow_right (by decide) hM
  have hal := all_le h2 ht hM
  have hto := tot_le (n := n) (kn := kn) (kd := kd) (fg := fg) (hd := hd) (dy := dy) (p := p) ht hM
  have e51 : X12_storms_B51 (nI p) (nI M) (nI t) (nI v) FU (lN 0) (lN 1) (nI 0) h = X12_storms_B73 (nI p) (nI M) (nI t) (nI v) FU (lN 0) (lN (itf (fun _ s => s * t) 0 M 1)) 0 h := by
    refine (loopF (fun fu k s => X12_storms_B51 (nI p) (nI M) (nI t) (nI v) fu (lN 0) (lN s) (nI k) h) (fun s => X12_storms_B73 (nI p) (nI M) (nI t) (nI v) FU (lN 0) (lN s) 0 h) M (fun _ s => s * t) (fun _ _ => True) (fun fu s _ => ?_) (fun fu k s hk _ => ⟨?_, trivial⟩) M FU 0 1 (by omega) (FU_lt (by omega)) trivial).1
    · show X12_storms_B51 (nI p) (nI M) (nI t) (nI v) (fu + 1) (lN 0) (lN s) (nI M) h = _
      rw [X12_storms_B51, if_pos (nI_le (by omega) (by omega))]
    · show X12_storms_B51 (nI p) (nI M) (nI t) (nI v) (fu + 1) (lN 0) (lN s) (nI k) h = _
      rw [X12_storms_B51, if_neg (nI_ge (by omega) (by omega)), i_l (by omega)]
      simp only [nm, l_mul, L1, nI_add]
  obtain ⟨⟨s1, g1⟩, e2, hs1, k1⟩ := loopR (fun fu k (y : Nat × HS) => X12_storms_B73 (nI p) (nI M) (nI t) (nI v) fu (lN y.1) (lN (itf (fun _ s => s * t) 0 M 1)) (nI k) y.2) (fun y => (X12_partOf (lN y.1) (lN (itf (fun _ s => s * t) 0 M 1)) (nI v)).bind fun q13 => some (q13, y.2)) (2 ^ M) (tot n kn kd fg hd dy M t p) (fun _ s y => y.1 = s ∧ Keep h y.2)
    (fun fu s y _ => by
      show X12_storms_B73 (nI p) (nI M) (nI t) (nI v) (fu + 1) (lN y.1) (lN (itf (fun _ s => s * t) 0 M 1)) (nI (2 ^ M)) y.2 = _
      rw [X12_storms_B73, i_pow (by omega), if_pos (nI_le (by omega) (by omega))])
    (fun fu k s y hk J => by
      obtain ⟨g1, a1, a2⟩ := m_storm_set N (v := nI v) hp hM hk h2 ht (B := lN (itf (fun _ s => s * t) 0 M 1)) (fu := fu) (s := y.1) J.2
      exact ⟨(tot n kn kd fg hd dy M t p k y.1, g1), a1, by rw [J.1], a2⟩)
    (2 ^ M) FU 0 0 (0, h) (by omega) (FU_lt (by omega)) ⟨rfl, Keep.refl h⟩
  have hs1 : s1 = itf (tot n kn kd fg hd dy M t p) 0 (2 ^ M) 0 := hs1
  refine ⟨g1, ?_, k1⟩
  have ei : X12_isIn (nI t) 2 20 = some (nI 1) := by
    rw [show (2 : Int32) = nI 2 from rfl, show (20 : Int32) = nI 20 from rfl, isIn_n (by omega) (by omega) (by omega), decide_eq_true (by omega)]; rfl
  unfold X12_storms
  rw [m_isOne_in N.2.2.2 hp w1, Option.bind_some, if_neg (show ¬ nI 1 = 0 by decide), show X12_isIn (nI M) 0 7 = some (nI 1) from isIn_in (b := 7) (by omega) (by decide), Option.bind_some, if_neg (show ¬ nI 1 = 0 by decide), ei, Option.bind_some, if_neg (show ¬ nI 1 = 0 by decide), show X12_isIn (nI v) 0 1 = some (nI 1) from isIn_in hv (by decide), Option.bind_some, if_neg (show ¬ nI 1 = 0 by decide)]
  refine Eq.trans e51 (Eq.trans e2 ?_)
  show (X12_partOf (lN s1) (lN (itf (fun _ s => s * t) 0 M 1)) (nI v)).bind _ = _
  rw [hs1, m_part (by omega) (by omega) (fun e => by omega) (in2 hv)]
  rfl
theorem S_storms (I : Inv h) (u a b v : Int32) : ∃ r h2, X11_storms h u a b v = some r ∧ X12_storms h u a b v = some (r, h2) ∧ Inv h2 := by
  obtain ⟨n, kn, kd, fg, hd, dm, dy, N⟩ := id I.1
  have w1 := N.1.1.1
  rcases arg_in u n with ⟨p, hp, _, rfl⟩ | hu
  · have ec : X11_storms h (nI p) a b v = (if a < 0 then some 1000000001 else (if 7 < a then some 1000000001 else (if b < 2 then some 1000000001 else (if b ≤ 20 then X11_storms_B42 h (nI p) a b v FU 1 0 else some 1000000001)))) := by
      unfold X11_storms
      rw [c_has_in N.2.2.1 hp w1, Option.bind_some, if_neg (show ¬ nI 1 = 0 by decide)]
    have em : X12_storms h (nI p) a b v = (X12_isIn a 0 7).bind fun q3 => (if q3 = 0 then some (1000000001, h) else (X12_isIn b 2 20).bind fun q5 => (if q5 = 0 then some (1000000001, h) else (X12_isIn v 0 1).bind fun q7 => (if q7 = 0 then some (1000000001, h) else X12_storms_B51 (nI p) a b v FU 0 1 0 h))) := by
      unfold X12_storms
      rw [m_isOne_in N.2.2.2 hp w1, Option.bind_some, if_neg (show ¬ nI 1 = 0 by decide)]
    rcases arg_in a 8 with ⟨M, hM, _, rfl⟩ | ha
    · by_cases hb2 : b < 2
      · refine ⟨1000000001, h, ?_, ?_, I⟩
        · rw [ec, if_neg (nI_pos (by omega)), if_neg (show ¬ (7 : Int32) < nI M from nI_nlt (a := 7) (by omega) (by omega)), if_pos hb2]
        · have ei : X12_isIn b 2 20 = some (nI 0) := by
            unfold X12_isIn
            rw [if_pos hb2]; rfl
          rw [em, show X12_isIn (nI M) 0 7 = some (nI 1) from isIn_in hM (by decide), Option.bind_some, if_neg (show ¬ nI 1 = 0 by decide), ei]; rfl
      · by_cases hb20 : b ≤ 20
        · obtain ⟨t, ht, rfl⟩ : ∃ t, t ≤ 20 ∧ b = nI t := nI_of2 (M := 20) (n := 20) (by decide) (fun z => hb2 (Int32.lt_trans z (by decide))) hb20
          have ht2 : 2 ≤ t := by
            refine Classical.byContradiction fun z => hb2 (nI_lt (b := 2) (by omega) (by decide))
          rcases arg_in v 2 with ⟨w, hw, _, rfl⟩ | hv
          · obtain ⟨g1, e1, k1⟩ := m_storms N hp (show M ≤ 7 by omega) ht2 ht hw
            exact ⟨_, g1, c_storms N hp (by omega) ht2 ht (nI w), e1, k1.inv I⟩
          · refine ⟨1000000001, h, ?_, ?_, I⟩
            · rw [c_storms N hp (by omega) ht2 ht v, fr_out hv]
            · have ei : X12_isIn (nI t) 2 20 = some (nI 1) := by
                rw [show (2 : Int32) = nI 2 from rfl, show (20 : Int32) = nI 20 from rfl, isIn_n (by omega) (by omega) (by omega), decide_eq_true (by omega)]; rfl
              rw [em, show X12_isIn (nI M) 0 7 = some (nI 1) from isIn_in hM (by decide), Option.bind_some, if_neg (show ¬ nI 1 = 0 by decide), ei, Option.bind_some, if_neg (show ¬ nI 1 = 0 by decide), show X12_isIn v 0 1 = some (nI 0) from isIn_out hv (by decide)]; rfl
        · refine ⟨1000000001, h, ?_, ?_, I⟩
          · rw [ec, if_neg (nI_pos (by omega)), if_neg (show ¬ (7 : Int32) < nI M from nI_nlt (a := 7) (by omega) (by omega)), if_neg hb2, if_neg hb20]
          · have ei : X12_isIn b 2 20 = some (nI 0) := by
              unfold X12_isIn
              rw [if_neg hb2, if_pos (Int32.not_le.mp hb20)]; rfl
            rw [em, show X12_isIn (nI M) 0 7 = some (nI 1) from isIn_in hM (by decide), Option.bind_some, if_neg (show ¬ nI 1 = 0 by decide), ei]; rfl
    · refine ⟨1000000001, h, ?_, ?_, I⟩
      · rw [ec]
        rcases ha with ha | ⟨j, g1, g2, rfl⟩
        · rw [if_pos ha]
        · rw [if_neg (nI_pos g2), if_pos (show (7 : Int32) < nI j from nI_lt (a := 7) (by omega) g2)]
      · rw [em, show X12_isIn a 0 7 = some (nI 0) from isIn_out ha (by decide)]; rfl
  · refine ⟨1000000001, h, ?_, ?_, I⟩
    · unfold X11_storms
      rw [c_has_out N.2.2.1 w1 hu]; rfl
    · unfold X12_storms
      rw [m_isOne_out N.2.2.2 w1 hu]; rfl
end STORMS
