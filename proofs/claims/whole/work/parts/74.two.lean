/-! two who tell or not -/
def sn (p c o c' : Nat) : Nat := (1 - c) * 2 ^ p ||| (1 - c') * 2 ^ o
theorem sn_comm (p c o c' : Nat) : sn p c o c' = sn o c' p c := Nat.or_comm _ _
theorem sn_lt {p c o c' : Nat} (hp : p < 9) (ho : o < 9) : sn p c o c' < 512 := by
  have h1 : ∀ {c p : Nat}, p < 9 → (1 - c) * 2 ^ p < 2 ^ 9 := by
    intro c p hp
    have := pow_lt (n := 9) hp
    have h : (1 - c) * 2 ^ p ≤ 1 * 2 ^ p := Nat.mul_le_mul_right _ (by omega)
    omega
  exact or_lt (n := 9) (h1 hp) (h1 ho)
theorem i_shl {x j : Nat} (hj : j < 9) (hx : x < 2) : nI x <<< (nI j &&& 31) = nI (x * 2 ^ j) := by
  have hp : 2 ^ j < 512 := pow_lt (n := 9) hj
  refine pk_shlN _ j (i_sh (by omega)) ?_
  have : x * 2 ^ j ≤ 1 * 2 ^ j := Nat.mul_le_mul_right _ (by omega)
  omega
theorem i_sn {p c o c' : Nat} (hp : p < 9) (ho : o < 9) (hc : c < 2) (hc' : c' < 2) : ((1 - nI c) <<< (nI p &&& 31)) ||| ((1 - nI c') <<< (nI o &&& 31)) = nI (sn p c o c') := by
  rw [L1, pk_sub (by omega), pk_sub (by omega), i_shl hp (by omega), i_shl ho (by omega), i_or]; rfl
/-- what p gains -/
def gv (n : Nat) (kn kd fg : Nat → Nat) (hd dy M p c o c' : Nat) : Int32 := nI (bc (ndays n kn kd fg dy (fun q => (sn p c o c').testBit q) 1 M hd &&& kn p)) - nI (2 * c)
section TWO
variable {h : HS} {n : Nat} {kn kd fg : Nat → Nat} {hd dm dy : Nat}
theorem c_gain (N : NowP h n kn kd fg hd dm dy) {M p c o c' : Nat} (hM : M ≤ 30) (hp : p < n) (ho : o < n) (hc : c < 2) (hc' : c' < 2) : X11_gain h (nI p) (nI c) (nI o) (nI c') (nI M) = some (gv n kn kd fg hd dy M p c o c') := by
  have w1 := N.1.1.1
  have hdy := N.2.1
  have h9 := pow_le9 w1
  have hlt : ndays n kn kd fg dy (fun q => (sn p c o c').testBit q) 1 M hd &&& kn p < 512 := Nat.lt_of_le_of_lt Nat.and_le_right (N.1.1.lt p)
  unfold X11_gain
  rw [i_sn (by omega) (by omega) hc hc']
  simp only [nm]
  rw [N.2.2.1.2.2.2.1, c_behind (Or.inl rfl) N.1 N.2.2.1 N.1.2.2.2.1 (show M < 900 by omega) (show dy < 100000 by omega), Option.bind_some, c_around N.2.2.1.1 (by omega), Option.bind_some, i_and, bitCount_n hlt, Option.bind_some, L2, pk_mul]
  rfl
theorem m_hasBy (N : NowP h n kn kd fg hd dm dy) {M a x b y : Nat} (hM : M ≤ 30) (ha : a < n) (hb : b < n) (hab : a ≠ b) (hx : x < 2) (hy : y < 2) {t : HS} (hK : Keep h t) (wb : Bool) :
    ∃ t1, X12_hasBy t (nI (if wb then b else a)) (nI a) (nI x) (nI b) (nI y) (nI M) = some (if wb then gv n kn kd fg hd dy M b y a x else gv n kn kd fg hd dy M a x b y, t1) ∧ Keep h t1 := by
  have w1 := N.1.1.1
  have hdy := N.2.1
  have h9 := pow_le9 w1
  have hsn := sn_lt (p := a) (c := x) (o := b) (c' := y) (by omega) (by omega)
  obtain ⟨f, e1, hf⟩ := m_copies (h := t) (show (67 : Nat) ≠ 68 by decide)
  have Nt := hK.now N
  obtain ⟨t1, e2, ⟨hs, hR, k1⟩⟩ := loopR (fun fu k (t : HS) => X12_hasBy_B14 (nI (if wb then b else a)) (nI a) (nI x) (nI b) (nI y) (nI M) fu (nI k) t) (fun t => X12_hasBy_B14 (nI (if wb then b else a)) (nI a) (nI x) (nI b) (nI y) (nI M) 1 (nI M) t) M (fun i s => nh n kn kd fg (dy + (i + 1)) s (fun q => (sn a x b y).testBit q)) (fun k s t => s < 2 ^ n ∧ RowP (aI t 68) n kn kd fg s (dy + k) ∧ Keep h t)
    (fun fu s t _ => by
      show X12_hasBy_B14 (nI (if wb then b else a)) (nI a) (nI x) (nI b) (nI y) (nI M) (fu + 1) (nI M) t = X12_hasBy_B14 (nI (if wb then b else a)) (nI a) (nI x) (nI b) (nI y) (nI M) 1 (nI M) t
      rw [X12_hasBy_B14, X12_hasBy_B14, if_pos (nI_le (by omega) (by omega)), if_pos (nI_le (by omega) (by omega))])
    (fun fu k s t hk J => by
      obtain ⟨j1, j2, j3⟩ := J
      have wS := WFp_dy (WFp_hd N.1 j1) (show dy + k < 1000000 by omega)
      refine ⟨_, ?_, nh_lt j1, ?_, j3.a (o := 68) (f := upd (upd (aI t 68) 1 (nI (dy + k + 1))) 2 (nI (nh n kn kd fg (dy + k + 1) s (fun q => (sn a x b y).testBit q)))) (by decide)⟩
      · show X12_hasBy_B14 (nI (if wb then b else a)) (nI a) (nI x) (nI b) (nI y) (nI M) (fu + 1) (nI k) t = _
        rw [X12_hasBy_B14, if_neg (nI_ge (by omega) (by omega)), i_sn (by omega) (by omega) hx hy, m_day wS j2 (show dy + k < 900000 by omega) (sl := fun q => (sn a x b y).testBit q) (fun q hq => has_n (by omega) (by omega)), Option.bind_some]
        simp only [nm, L1, nI_add]
      · rw [aI_sA_eq]; exact RowP_hd (RowP_dy j2 (dy + k + 1)) _)
    M FU 0 hd (sA t 68 f) (by omega) (FU_lt (by omega)) ⟨N.1.2.2.2.1, by rw [aI_sA_eq]; exact RowP_congr Nt.2.2.2 hf, hK.a (by decide)⟩
  have es : itf (fun i s => nh n kn kd fg (dy + (i + 1)) s (fun q => (sn a x b y).testBit q)) 0 M hd = ndays n kn kd fg dy (fun q => (sn a x b y).testBit q) 1 M hd := by
    unfold ndays
    rw [← itf_shift (f := fun i s => nh n kn kd fg (dy + (i + 1)) s (fun q => (sn a x b y).testBit q)) (fun _ _ => rfl)]
  rw [es] at hR
  have N1 := k1.now N
  refine ⟨t1, ?_, k1⟩
  unfold X12_hasBy
  rw [e1, Option.bind_some]
  refine Eq.trans e2 ?_
  show X12_hasBy_B14 (nI (if wb then b else a)) (nI a) (nI x) (nI b) (nI y) (nI M) 1 (nI M) t1 = _
  rw [X12_hasBy_B14, if_pos (nI_le (by omega) (by omega))]
  cases wb
  · have hlt : ndays n kn kd fg dy (fun q => (sn a x b y).testBit q) 1 M hd &&& kn a < 512 := Nat.lt_of_le_of_lt Nat.and_le_right (N.1.1.lt a)
    simp (disch := omega) only [gdi2, cl2, hR.2.2.1, Bool.false_eq_true, ite_false, L2, m_of, Option.bind_some, gdi_n, i_cl, (N1.2.2.2.2.2.2 a (show a < 9 by omega)).2.2, i_and, bits_n hlt, ite_true, pk_mul]
    rfl
  · have hlt : ndays n kn kd fg dy (fun q => (sn a x b y).testBit q) 1 M hd &&& kn b < 512 := Nat.lt_of_le_of_lt Nat.and_le_right (N.1.1.lt b)
    simp (disch := omega) only [gdi2, cl2, hR.2.2.1, ite_true, L2, m_of, Option.bind_some, gdi_n, i_cl, (N1.2.2.2.2.2.2 b (show b < 9 by omega)).2.2, i_and, bits_n hlt, pk_mul]
    rw [if_neg (show ¬ nI b = nI a by rw [nI_eq (by omega) (by omega)]; omega)]
    unfold gv
    rw [sn_comm b y a x]
def stay (n : Nat) (kn kd fg : Nat → Nat) (hd dy M a b i j : Nat) : Bool := !(decide (gv n kn kd fg hd dy M a i b j < gv n kn kd fg hd dy M a (1 - i) b j)) && !(decide (gv n kn kd fg hd dy M b j a i < gv n kn kd fg hd dy M b (1 - j) a i))
theorem stay_iff {M a b i j : Nat} : (stay n kn kd fg hd dy M a b i j = true) = (¬ gv n kn kd fg hd dy M a i b j < gv n kn kd fg hd dy M a (1 - i) b j ∧ ¬ gv n kn kd fg hd dy M b j a i < gv n kn kd fg hd dy M b (1 - j) a i) := by
  unfold stay
  simp
def twv (n : Nat) (kn kd fg : Nat → Nat) (hd dy M a b : Nat) : Int32 := if stay n kn kd fg hd dy M a b 0 0 then nI 0 else if stay n kn kd fg hd dy M a b 0 1 then nI 1 else if stay n kn kd fg hd dy M a b 1 0 then nI 10 else if stay n kn kd fg hd dy M a b 1 1 then nI 11 else -4
theorem c_two79 (N : NowP h n kn kd fg hd dm dy) {M a b i j fu : Nat} (hM : M ≤ 30) (ha : a < n) (hb : b < n) (hi : i < 2) (hj : j < 2) {K : Int32 → Option Int32} : X11_two_B79 h (nI a) (nI b) (nI M) K (fu + 1) (nI i) (nI j) = if stay n kn kd fg hd dy M a b i j then some (nI (10 * i + j)) else X11_two_B79 h (nI a) (nI b) (nI M) K fu (nI i) (nI (j + 1)) := by
  have e1 : (1 : Int32) - nI i = nI (1 - i) := by rw [L1, pk_sub (by omega)]
  have e2 : (1 : Int32) - nI j = nI (1 - j) := by rw [L1, pk_sub (by omega)]
  rw [X11_two_B79, if_neg (show ¬ (1 : Int32) < nI j from nI_nlt (a := 1) (b := j) (by omega) (by omega)), c_gain N hM ha hb hi hj, Option.bind_some, e1, c_gain N hM ha hb (by omega) hj, Option.bind_some]
  have e117 : ∀ s, X11_two_B117 h (nI a) (nI b) (nI M) K (X11_two_B79 h (nI a) (nI b) (nI M) K fu) (nI i) (nI j) s = if ¬ gv n kn kd fg hd dy M b j a i < gv n kn kd fg hd dy M b (1 - j) a i then (if s = 0 then X11_two_B79 h (nI a) (nI b) (nI M) K fu (nI i) (nI (j + 1)) else some (nI (10 * i + j))) else X11_two_B79 h (nI a) (nI b) (nI M) K fu (nI i) (nI (j + 1)) := by
    intro s
    have e172 : X11_two_B172 h (nI a) (nI b) (nI M) K (X11_two_B79 h (nI a) (nI b) (nI M) K fu) (nI i) (nI j) = X11_two_B79 h (nI a) (nI b) (nI M) K fu (nI i) (nI (j + 1)) := by
      unfold X11_two_B172
      simp only [nm, L1, nI_add]
    unfold X11_two_B117
    rw [c_gain N hM hb ha hj hi, Option.bind_some, e2, c_gain N hM hb ha (by omega) hi, Option.bind_some]
    by_cases z : gv n kn kd fg hd dy M b j a i < gv n kn kd fg hd dy M b (1 - j) a i
    · rw [if_pos z, if_neg (fun y => y z)]
      unfold X11_two_B151
      rw [if_pos rfl, e172, ite_self]
    · rw [if_neg z, if_pos z]
      unfold X11_two_B151
      rw [if_neg (show ¬ (1 : Int32) = 0 by decide), e172, show (10 : Int32) * nI i + nI j = nI (10 * i + j) from by rw [L10, pk_mul, nI_add]]
  rw [e117, e117]
  by_cases z : gv n kn kd fg hd dy M a i b j < gv n kn kd fg hd dy M a (1 - i) b j
  · rw [if_pos z, if_pos (show (0 : Int32) = 0 from rfl), ite_self, if_neg (by rw [stay_iff]; exact fun y => y.1 z)]
  · rw [if_neg z, if_neg (show ¬ (1 : Int32) = 0 by decide)]
    by_cases z2 : gv n kn kd fg hd dy M b j a i < gv n kn kd fg hd dy M b (1 - j) a i
    · rw [if_neg (fun y => y z2), if_neg (by rw [stay_iff]; exact fun y => y.2 z2)]
    · rw [if_pos z2, if_pos (by rw [stay_iff]; exact ⟨z, z2⟩)]
theorem c_two70 (N : NowP h n kn kd fg hd dm dy) {M a b : Nat} (hM : M ≤ 30) (ha : a < n) (hb : b < n) : X11_two_B70 h (nI a) (nI b) (nI M) FU 0 = some (twv n kn kd fg hd dy M a b) := by
  have e79 : ∀ (K : Int32 → Option Int32) i, i < 2 → X11_two_B79 h (nI a) (nI b) (nI M) K FU (nI i) 0 = if stay n kn kd fg hd dy M a b i 0 then some (nI (10 * i + 0)) else if stay n kn kd fg hd dy M a b i 1 then some (nI (10 * i + 1)) else K (nI (i + 1)) := by
    intro K i hi
    show X11_two_B79 h (nI a) (nI b) (nI M) K (997 + 1 + 1 + 1) (nI i) (nI 0) = _
    rw [c_two79 N hM ha hb hi (by decide), c_two79 N hM ha hb hi (by decide), X11_two_B79, if_pos (show (1 : Int32) < nI (0 + 1 + 1) by decide)]
    simp only [nm, L1, nI_add]
  show X11_two_B70 h (nI a) (nI b) (nI M) (997 + 1 + 1 + 1) (nI 0) = _
  rw [X11_two_B70, if_neg (show ¬ (1 : Int32) < nI 0 by decide), e79 _ 0 (by decide), X11_two_B70, if_neg (show ¬ (1 : Int32) < nI (0 + 1) by decide), e79 _ (0 + 1) (by decide), X11_two_B70, if_pos (show (1 : Int32) < nI (0 + 1 + 1) by decide)]
  unfold twv
  repeat' split
  all_goals rfl
theorem m_two53 (N : NowP h n kn kd fg hd dm dy) {M a b i j fu : Nat} (hM : M ≤ 30) (ha : a < n) (hb : b < n) (hab : a ≠ b) (hi : i < 2) (hj : j < 2) {t : HS} (hK : Keep h t) : ∃ t1, X12_two_B53 (nI a) (nI b) (nI M) (fu + 1) (nI (2 * i + j)) t = (if stay n kn kd fg hd dy M a b i j then some (nI (10 * i + j), t1) else X12_two_B53 (nI a) (nI b) (nI M) fu (nI (2 * i + j + 1)) t1) ∧ Keep h t1 := by
  have e1 : (1 : Int32) - nI i = nI (1 - i) := by rw [L1, pk_sub (by omega)]
  have e2 : (1 : Int32) - nI j = nI (1 - j) := by rw [L1, pk_sub (by omega)]
  have d1 : nI (2 * i + j) / 2 = nI i := by rw [L2, pk_div (by omega) (by omega) (by omega)]; congr 1; omega
  have d2 : nI (2 * i + j) - nI i * 2 = nI j := by rw [L2, pk_mul, pk_sub (by omega)]; congr 1; omega
  obtain ⟨t1, f1, k1⟩ := m_hasBy N hM ha hb hab (show 1 - i < 2 by omega) hj hK false
  obtain ⟨t2, f2, k2⟩ := m_hasBy N hM ha hb hab hi hj k1 false
  obtain ⟨t3, f3, k3⟩ := m_hasBy N hM ha hb hab hi (show 1 - j < 2 by omega) k2 true
  obtain ⟨t4, f4, k4⟩ := m_hasBy N hM ha hb hab hi hj k3 true
  simp only [Bool.false_eq_true, ite_false] at f1 f2
  simp only [ite_true] at f3 f4
  rw [X12_two_B53, if_neg (show ¬ (4 : Int32) ≤ nI (2 * i + j) from nI_ge (b := 4) (a := 2 * i + j) (by omega) (by omega))]
  simp only [nm, d1, d2, e1, e2]
  rw [f1, Option.bind_some, f2, Option.bind_some]
  by_cases z : gv n kn kd fg hd dy M a i b j < gv n kn kd fg hd dy M a (1 - i) b j
  · refine ⟨t2, ?_, k2⟩
    rw [if_pos z, if_neg (by rw [stay_iff]; exact fun y => y.1 z)]
    simp only [X12_two_B138, nm, L1, nI_add]
  · rw [if_neg z, f3, Option.bind_some, f4, Option.bind_some]
    refine ⟨t4, ?_, k4⟩
    by_cases z2 : gv n kn kd fg hd dy M b j a i < gv n kn kd fg hd dy M b (1 - j) a i
    · rw [if_pos z2, if_neg (by rw [stay_iff]; exact fun y => y.2 z2)]
      simp only [X12_two_B138, nm, L1, nI_add]
    · rw [if_neg z2, if_pos (by rw [stay_iff]; exact ⟨z, z2⟩), show (10 : Int32) * nI i + nI j = nI (10 * i + j) from by rw [L10, pk_mul, nI_add]]
theorem m_two (N : NowP h n kn kd fg hd dm dy) {M a b : Nat} (hM : M ≤ 30) (ha : a < n) (hb : b < n) (hab : a ≠ b) : ∃ t1, X12_two_B53 (nI a) (nI b) (nI M) FU 0 h = some (twv n kn kd fg hd dy M a b, t1) ∧ Keep h t1 := by
  obtain ⟨t1, f1, k1⟩ := m_two53 N (fu := 999) hM ha hb hab (show 0 < 2 by decide) (show 0 < 2 by decide) (Keep.refl h)
  obtain ⟨t2, f2, k2⟩ := m_two53 N (fu := 998) hM ha hb hab (show 0 < 2 by decide) (show 1 < 2 by decide) k1
  obtain ⟨t3, f3, k3⟩ := m_two53 N (fu := 997) hM ha hb hab (show 1 < 2 by decide) (show 0 < 2 by decide) k2
  obtain ⟨t4, f4, k4⟩ := m_two53 N (fu := 996) hM ha hb hab (show 1 < 2 by decide) (show 1 < 2 by decide) k3
  have e0 : X12_two_B53 (nI a) (nI b) (nI M) FU 0 h = X12_two_B53 (nI a) (nI b) (nI M) (999 + 1) (nI (2 * 0 + 0)) h := rfl
  rw [e0, f1]
  unfold twv
  by_cases z1 : stay n kn kd fg hd dy M a b 0 0
  · exact ⟨t1, by rw [if_pos z1, if_pos z1], k1⟩
  rw [if_neg z1, if_neg z1, show X12_two_B53 (nI a) (nI b) (nI M) 999 (nI (2 * 0 + 0 + 1)) t1 = X12_two_B53 (nI a) (nI b) (nI M) (998 + 1) (nI (2 * 0 + 1)) t1 from rfl, f2]
  by_cases z2 : stay n kn kd fg hd dy M a b 0 1
  · exact ⟨t2, by rw [if_pos z2, if_pos z2], k2⟩
  rw [if_neg z2, if_neg z2, show X12_two_B53 (nI a) (nI b) (nI M) 998 (nI (2 * 0 + 1 + 1)) t2 = X12_two_B53 (nI a) (nI b) (nI M) (997 + 1) (nI (2 * 1 + 0)) t2 from rfl, f3]
  by_cases z3 : stay n kn kd fg hd dy M a b 1 0
  · exact ⟨t3, by rw [if_pos z3, if_pos z3], k3⟩
  rw [if_neg z3, if_neg z3, show X12_two_B53 (nI a) (nI b) (nI M) 997 (nI (2 * 1 + 0 + 1)) t3 = X12_two_B53 (nI a) (nI b) (nI M) (996 + 1) (nI (2 * 1 + 1)) t3 from rfl, f4]
  by_cases z4 : stay n kn kd fg hd dy M a b 1 1
  · exact ⟨t4, by rw [if_pos z4, if_pos z4], k4⟩
  refine ⟨t4, ?_, k4⟩
  rw [if_neg z4, if_neg z4, show X12_two_B53 (nI a) (nI b) (nI M) 996 (nI (2 * 1 + 1 + 1)) t4 = X12_two_B53 (nI a) (nI b) (nI M) (995 + 1) (nI 4) t4 from rfl, X12_two_B53, if_pos (show (4 : Int32) ≤ nI 4 by decide)]
theorem S_two (I : Inv h) (u v c : Int32) : ∃ r h2, X11_two h u v c = some r ∧ X12_two h u v c = some (r, h2) ∧ Inv h2 := by
  obtain ⟨n, kn, kd, fg, hd, dm, dy, N⟩ := id I.1
  have w1 := N.1.1.1
  have h9 := pow_le9 w1
  have hhd := N.1.2.2.2.1
  rcases arg_in u n with ⟨a, ha, _, rfl⟩ | hu
  · rcases arg_in v n with ⟨b, hb, _, rfl⟩ | hv
    · by_cases hab : a = b
      · subst hab
        refine ⟨-1, h, ?_, ?_, I⟩
        · unfold X11_two
          rw [c_has_in N.2.2.1 ha w1, Option.bind_some, if_neg (show ¬ nI 1 = 0 by decide), Option.bind_some, if_neg (show ¬ nI 1 = 0 by decide), if_pos rfl]
        · unfold X12_two
          rw [m_areTwo_in N.2.2.2 ha ha w1, decide_eq_false (by omega)]; rfl
      · have ec : ∀ x, X11_two h (nI a) (nI b) x = (if x < 1 then some (-1) else (if x ≤ 30 then (if ((((fI h 5 4) >>> (nI a &&& 31)) &&& ((fI h 5 4) >>> (nI b &&& 31))) &&& 1) = 0 then some (-3) else X11_two_B70 h (nI a) (nI b) x FU 0) else some (-1))) := by
          intro x
          unfold X11_two
          rw [c_has_in N.2.2.1 ha w1, Option.bind_some, if_neg (show ¬ nI 1 = 0 by decide), c_has_in N.2.2.1 hb w1, Option.bind_some, if_neg (show ¬ nI 1 = 0 by decide), if_neg (show ¬ nI a = nI b by rw [nI_eq (by omega) (by omega)]; exact hab)]
        have em : ∀ x, X12_two h (nI a) (nI b) x = (X12_isIn x 1 30).bind fun q3 => (if q3 = 0 then some ((-1), h) else (if hd.testBit a = false then some ((-3), h) else (if hd.testBit b = false then some ((-3), h) else X12_two_B53 (nI a) (nI b) x FU 0 h))) := by
          intro x
          unfold X12_two
          rw [m_areTwo_in N.2.2.2 ha hb w1, decide_eq_true hab, Option.bind_some, if_neg (show ¬ nI true.toNat = 0 by decide)]
          simp only [gdi2, cl2, N.2.2.2.2.2.1]
          rw [has_n (by omega) (by omega), has_n (by omega) (by omega)]
          simp only [Option.bind_some]
          congr 1
          funext q3
          congr 1
          cases hd.testBit a <;> cases hd.testBit b <;> rfl
        have bits : (((fI h 5 4) >>> (nI a &&& 31)) &&& ((fI h 5 4) >>> (nI b &&& 31))) &&& 1 = nI (hd.testBit a && hd.testBit b).toNat := by
          rw [N.2.2.1.2.2.2.1]
          have hc := i_bit (x := hd) (j := b) (by omega) (by omega)
          have ha1 := i_bit (x := hd) (j := a) (by omega) (by omega)
          have e : ∀ x y : Int32, (x &&& y) &&& 1 = (x &&& nI 1) &&& (y &&& nI 1) := by
            intro x y
            apply Int32.toBitVec_inj.1
            show (x.toBitVec &&& y.toBitVec) &&& BitVec.ofNat 32 1 = (x.toBitVec &&& BitVec.ofNat 32 1) &&& (y.toBitVec &&& BitVec.ofNat 32 1)
            apply BitVec.eq_of_getLsbD_eq
            intro i hi
            simp only [BitVec.getLsbD_and]
            cases x.toBitVec.getLsbD i <;> cases y.toBitVec.getLsbD i <;> cases (BitVec.ofNat 32 1).getLsbD i <;> rfl
          rw [e, hc, ha1, i_and]
          cases hd.testBit a <;> cases hd.testBit b <;> rfl
        rcases arg_in c 31 with ⟨M, hM, _, rfl⟩ | hc
        · by_cases h0 : M = 0
          · subst h0
            refine ⟨-1, h, by rw [ec, if_pos (show nI 0 < 1 by decide)], ?_, I⟩
            rw [em, show X12_isIn (nI 0) 1 30 = some (nI 0) by decide]; rfl
          · have ei : X12_isIn (nI M) 1 30 = some (nI 1) := by
              rw [L1, L30, isIn_n (by omega) (by omega) (by omega), decide_eq_true (by omega)]; rfl
            rw [ec, em, ei, Option.bind_some, if_neg (show ¬ nI 1 = 0 by decide), if_neg (show ¬ nI M < 1 from nI_nlt (b := 1) (by omega) (by omega)), if_pos (show nI M ≤ 30 from nI_le (b := 30) (by omega) (by decide)), bits]
            by_cases b1 : hd.testBit a = false
            · exact ⟨-3, h, by rw [b1]; rfl, by rw [if_pos b1], I⟩
            · by_cases b2 : hd.testBit b = false
              · exact ⟨-3, h, by rw [b2, Bool.and_false]; rfl, by rw [if_neg b1, if_pos b2], I⟩
              · obtain ⟨t1, e1, k1⟩ := m_two N (show M ≤ 30 by omega) ha hb hab
                have b1' : hd.testBit a = true := by simpa using b1
                have b2' : hd.testBit b = true := by simpa using b2
                refine ⟨_, t1, ?_, by rw [if_neg b1, if_neg b2]; exact e1, k1.inv I⟩
                rw [b1', b2', if_neg (show ¬ nI (true && true).toNat = 0 by decide)]
                exact c_two70 N (by omega) ha hb
        · refine ⟨-1, h, ?_, ?_, I⟩
          · rw [ec]
            rcases hc with hc | ⟨j, g1, g2, rfl⟩
            · rw [if_pos (show c < 1 from neg_lt (j := 1) hc (by decide))]
            · rw [if_neg (show ¬ nI j < 1 from nI_nlt (b := 1) (by omega) g2), if_neg (show ¬ nI j ≤ 30 from nI_ge (a := 30) (by omega) g2)]
          · have ei : X12_isIn c 1 30 = some (nI 0) := by
              rcases hc with hc | ⟨j, g1, g2, rfl⟩
              · exact isIn_neg hc (by decide)
              · rw [L1, L30, isIn_n (by omega) (by omega) (by omega), decide_eq_false (by omega)]; rfl
            rw [em, ei]; rfl
    · refine ⟨-1, h, ?_, ?_, I⟩
      · unfold X11_two
        rw [c_has_in N.2.2.1 ha w1, Option.bind_some, if_neg (show ¬ nI 1 = 0 by decide), c_has_out N.2.2.1 w1 hv]; rfl
      · unfold X12_two
        rw [m_areTwo_out2 N.2.2.2 w1 ha hv]; rfl
  · refine ⟨-1, h, ?_, ?_, I⟩
    · unfold X11_two
      rw [c_has_out N.2.2.1 w1 hu]; rfl
    · unfold X12_two
      rw [m_areTwo_out1 N.2.2.2 w1 hu]; rfl
end TWO
