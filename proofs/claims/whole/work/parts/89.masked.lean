/-! asked, in the model -/
section MASKED
variable {h : HS} {n : Nat} {kn kd fg : Nat → Nat} {hd dm dy : Nat} {v1 v2 v3 v4 : Int32}
theorem m_ask1 (w : WFk n kn) {K80 : Int64 → Int32 → HS → Option (Int64 × HS)} {K : Int64 → Int32 → Int32 → HS → Option (Int64 × HS)} {A : Int64} {z : Int32} {p : Nat} (hp : p < n) {f g : Nat → Nat} {t : HS} (R : RowP (aI t 67) n kn kd fg hd dy) (hf : LR t 72 f) (hg : LR t 73 g) :
    ∃ t1, X12_asked_B172 v1 v2 v3 v4 K80 K FU A z (nI p) (nI (bc (kn p))) 0 t = K A z (nI (p + 1)) t1 ∧ LF t t1 ∧ LR t1 72 f ∧ LR t1 73 (fun r => g r + if (kn p).testBit r = true ∧ bc (kn p) ≠ 0 then f p * (840 / bc (kn p)) else 0) := by
  have w1 := w.1
  have hb := bc_le (kn p)
  have hk9 := w.lt p
  obtain ⟨t1, e1, j1, j2, j3⟩ := loopR (fun fu q (u : HS) => X12_asked_B172 v1 v2 v3 v4 K80 K fu A z (nI p) (nI (bc (kn p))) (nI q) u) (fun u => K A z (nI (p + 1)) u) n (fun _ (s : Unit) => s) (fun q _ u => LF t u ∧ LR u 72 f ∧ ∀ r, r < 9 → aL u 73 r = lN (g r + if r < q ∧ (kn p).testBit r = true ∧ bc (kn p) ≠ 0 then f p * (840 / bc (kn p)) else 0))
    (fun fu _ u J => by
      show X12_asked_B172 v1 v2 v3 v4 K80 K (fu + 1) A z (nI p) (nI (bc (kn p))) (nI n) u = K A z (nI (p + 1)) u
      rw [X12_asked_B172, gdi0, cl0, J.1.a, R.1, if_pos (nI_le (by omega) (by omega))]
      simp only [nm, L1, nI_add])
    (fun fu q _ u hq J => by
      obtain ⟨j1, j2, j3⟩ := J
      have e227 : ∀ u', X12_asked_B227 v1 v2 v3 v4 K80 K (X12_asked_B172 v1 v2 v3 v4 K80 K fu) A z (nI p) (nI (bc (kn p))) (nI q) u' = X12_asked_B172 v1 v2 v3 v4 K80 K fu A z (nI p) (nI (bc (kn p))) (nI (q + 1)) u' := by
        intro u'
        simp only [X12_asked_B227, nm, L1, nI_add]
      have e0 : X12_asked_B172 v1 v2 v3 v4 K80 K (fu + 1) A z (nI p) (nI (bc (kn p))) (nI q) u = (if nI ((kn p).testBit q).toNat = 0 then X12_asked_B172 v1 v2 v3 v4 K80 K fu A z (nI p) (nI (bc (kn p))) (nI (q + 1)) u else (gdi (nI q) 9 <| gdz (nI (bc (kn p))) <| gdi (nI p) 9 <| gdi (nI q) 9 <| nm (sL u 73 (vp_updL (aL u 73) (nI q).toNatClampNeg ((aL u 73 (nI q).toNatClampNeg) + (((840 / nI (bc (kn p))).toInt64) * (aL u 72 (nI p).toNatClampNeg))))) fun h40 => X12_asked_B172 v1 v2 v3 v4 K80 K fu A z (nI p) (nI (bc (kn p))) (nI (q + 1)) h40)) := by
        rw [X12_asked_B172, gdi0, cl0, j1.a, R.1, if_neg (nI_ge (by omega) (by omega)), L2, m_of, Option.bind_some, gdi_n (show 3 + 3 * p + 2 < 30 by omega) (by omega), i_cl (show 3 + 3 * p + 2 < 2147483648 by omega), (R.2.2.2 p (show p < 9 by omega)).2.2, has_n (by omega) (by omega), Option.bind_some]
        simp only [e227]
      by_cases zb : (kn p).testBit q = true
      · have zz : bc (kn p) ≠ 0 := fun e => by rw [bc_zero e (show q < 9 by omega)] at zb; exact absurd zb (by decide)
        refine ⟨sL u 73 (vp_updL (aL u 73) q (lN (g q + f p * (840 / bc (kn p))))), ?_, j1.s, j2.ne (by decide), fun r hr => ?_⟩
        · show X12_asked_B172 v1 v2 v3 v4 K80 K (fu + 1) A z (nI p) (nI (bc (kn p))) (nI q) u = X12_asked_B172 v1 v2 v3 v4 K80 K fu A z (nI p) (nI (bc (kn p))) (nI (q + 1)) _
          rw [e0, zb, if_neg (show ¬ nI true.toNat = 0 by decide), gdi_n (show q < 9 by omega) (by omega), gdi_n (show p < 9 by omega) (by omega), gdi_n (show q < 9 by omega) (by omega), i_cl (show q < 2147483648 by omega), i_cl (show p < 2147483648 by omega)]
          unfold gdz
          rw [if_neg (nI_ne0 (by omega) (by omega)), j3 q (by omega), j2 p (by omega), if_neg (fun x => absurd x.1 (by omega)), L840, pk_div (by omega) (by omega) (by omega), i_l (Nat.lt_of_le_of_lt (Nat.div_le_self _ _) (by omega)), l_mul, l_add, Nat.add_zero, Nat.mul_comm (840 / bc (kn p)) (f p)]
          rfl
        · rw [aL_sL_eq]
          by_cases e : r = q
          · subst e
            rw [pk_uLs, if_pos ⟨by omega, zb, zz⟩]
          · rw [pk_uLn e, j3 r hr]
            congr 3
            apply propext
            constructor
            · intro x; exact ⟨by omega, x.2⟩
            · intro x; exact ⟨by omega, x.2⟩
      · refine ⟨u, ?_, j1, j2, fun r hr => ?_⟩
        · show X12_asked_B172 v1 v2 v3 v4 K80 K (fu + 1) A z (nI p) (nI (bc (kn p))) (nI q) u = X12_asked_B172 v1 v2 v3 v4 K80 K fu A z (nI p) (nI (bc (kn p))) (nI (q + 1)) u
          rw [e0, show (kn p).testBit q = false from by simpa using zb, if_pos (show nI false.toNat = 0 from rfl)]
        · rw [j3 r hr]
          congr 3
          apply propext
          constructor
          · intro x; exact ⟨by omega, x.2⟩
          · intro x
            refine ⟨?_, x.2⟩
            by_cases e : r = q
            · rw [e] at x; exact absurd x.2.1 zb
            · omega)
    n FU 0 () t (by omega) (FU_lt (by omega)) ⟨LF.rf, hf, fun r hr => by rw [hg r hr, if_neg (fun x => absurd x.1 (by omega)), Nat.add_zero]⟩
  refine ⟨t1, e1, j1, j2, fun r hr => ?_⟩
  rw [j3 r hr]
  congr 3
  apply propext
  constructor
  · intro x; exact x.2
  · intro x
    refine ⟨?_, x⟩
    by_cases e : r < n
    · exact e
    · rw [bit_lt (w.2.1 p) (show n ≤ r by omega)] at x; exact absurd x.1 (by decide)
theorem m_askP (w : WFk n kn) {K80 : Int64 → Int32 → HS → Option (Int64 × HS)} {A : Int64} {z : Int32} {fu p : Nat} (hp : p < n) {f g : Nat → Nat} {t : HS} (R : RowP (aI t 67) n kn kd fg hd dy) (hf : LR t 72 f) (hg : LR t 73 g) :
    ∃ t1, X12_asked_B121 v1 v2 v3 v4 K80 (fu + 1) A z (nI p) t = X12_asked_B121 v1 v2 v3 v4 K80 fu A z (nI (p + 1)) t1 ∧ LF t t1 ∧ LR t1 72 f ∧ LR t1 73 (ask kn f p g) := by
  have w1 := w.1
  have hb := bc_le (kn p)
  rw [X12_asked_B121, gdi0, cl0, R.1, if_neg (nI_ge (by omega) (by omega)), m_number w R (by omega), Option.bind_some]
  unfold X12_asked_B169
  by_cases zz : bc (kn p) = 0
  · rw [if_pos (show nI (bc (kn p)) = 0 by rw [zz]; rfl), gdi_n (show p < 9 by omega) (by omega), gdi_n (show p < 9 by omega) (by omega), gdi_n (show p < 9 by omega) (by omega), i_cl (show p < 2147483648 by omega), hf p (by omega), hg p (by omega), K840, l_mul, l_add]
    simp only [nm]
    have hg2 : LR (sL t 73 (vp_updL (aL t 73) p (lN (g p + 840 * f p)))) 73 (fun r => if r = p then g p + 840 * f p else g r) := fun r hr => by
      show aL (sL t 73 (vp_updL (aL t 73) p (lN (g p + 840 * f p)))) 73 r = lN (if r = p then g p + 840 * f p else g r)
      rw [aL_sL_eq]
      by_cases e : r = p
      · subst e; rw [pk_uLs, if_pos rfl]
      · rw [pk_uLn e, if_neg e]; exact hg r hr
    obtain ⟨t1, e1, j1, j2, j3⟩ := m_ask1 (v1 := v1) (v2 := v2) (v3 := v3) (v4 := v4) w (K80 := K80) (K := X12_asked_B121 v1 v2 v3 v4 K80 fu) (A := A) (z := z) hp (t := sL t 73 (vp_updL (aL t 73) p (lN (g p + 840 * f p)))) R (hf.ne (by decide)) hg2
    refine ⟨t1, e1, (LF.rf.s).tr j1, j2, fun r hr => ?_⟩
    rw [j3 r hr]
    show lN ((if r = p then g p + 840 * f p else g r) + if (kn p).testBit r = true ∧ bc (kn p) ≠ 0 then f p * (840 / bc (kn p)) else 0) = _
    rw [if_neg (show ¬ ((kn p).testBit r = true ∧ bc (kn p) ≠ 0) from fun x => x.2 zz)]
    unfold ask
    rw [if_pos zz]
    by_cases e : r = p
    · subst e; rw [if_pos rfl, if_pos rfl, Nat.mul_comm, Nat.add_zero]
    · rw [if_neg e, if_neg e]
  · rw [if_neg (nI_ne0 (by omega) (by omega))]
    obtain ⟨t1, e1, j1, j2, j3⟩ := m_ask1 (v1 := v1) (v2 := v2) (v3 := v3) (v4 := v4) w (K80 := K80) (K := X12_asked_B121 v1 v2 v3 v4 K80 fu) (A := A) (z := z) hp (t := t) R hf hg
    refine ⟨t1, e1, j1, j2, fun r hr => ?_⟩
    rw [j3 r hr]
    show lN (g r + if (kn p).testBit r = true ∧ bc (kn p) ≠ 0 then f p * (840 / bc (kn p)) else 0) = _
    unfold ask
    rw [if_neg zz]
    congr 3
    apply propext
    exact ⟨fun x => x.1, fun x => ⟨x, zz⟩⟩
theorem m_askN (w : WFk n kn) {A : Int64} {fu k : Nat} {m : Nat} (hk : k < m) (hm : m ≤ 6) {f : Nat → Nat} {t : HS} (R : RowP (aI t 67) n kn kd fg hd dy) (hf : LR t 72 f) :
    ∃ t1, X12_asked_B80 v1 v2 (nI m) v4 (fu + 1) A (nI k) t = X12_asked_B80 v1 v2 (nI m) v4 fu (A * 840) (nI (k + 1)) t1 ∧ LF t t1 ∧ LR t1 72 (aska n kn f) := by
  have w1 := w.1
  rw [X12_asked_B80, if_neg (nI_ge (by omega) (by omega))]
  obtain ⟨t1, e1, a1, a2, a3⟩ := loopR (fun fu2 q (u : HS) => X12_asked_B97 v1 v2 (nI m) v4 (X12_asked_B80 v1 v2 (nI m) v4 fu) fu2 (A * 840) (nI k) (nI q) u) (fun u => X12_asked_B121 v1 v2 (nI m) v4 (X12_asked_B80 v1 v2 (nI m) v4 fu) FU (A * 840) (nI k) 0 u) 9 (fun _ (s : Unit) => s) (fun q _ u => LF t u ∧ LR u 72 f ∧ ∀ r, r < q → aL u 73 r = lN 0)
    (fun fu2 _ u _ => by
      show X12_asked_B97 v1 v2 (nI m) v4 (X12_asked_B80 v1 v2 (nI m) v4 fu) (fu2 + 1) (A * 840) (nI k) (nI 9) u = _
      rw [X12_asked_B97, if_pos le99])
    (fun fu2 q _ u hq J => by
      obtain ⟨j1, j2, j3⟩ := J
      refine ⟨sL u 73 (vp_updL (aL u 73) q 0), ?_, j1.s, j2.ne (by decide), fun r hr => ?_⟩
      · show X12_asked_B97 v1 v2 (nI m) v4 (X12_asked_B80 v1 v2 (nI m) v4 fu) (fu2 + 1) (A * 840) (nI k) (nI q) u = X12_asked_B97 v1 v2 (nI m) v4 (X12_asked_B80 v1 v2 (nI m) v4 fu) fu2 (A * 840) (nI k) (nI (q + 1)) _
        rw [X12_asked_B97, if_neg (show ¬ (9 : Int32) ≤ nI q from nI_ge (b := 9) hq (by omega)), gdi_n hq (by omega), i_cl (by omega)]
        simp only [nm, L1, nI_add]
      · rw [aL_sL_eq]
        by_cases e : r = q
        · subst e; rw [pk_uLs]; rfl
        · rw [pk_uLn e]; exact j3 r (by omega))
    9 FU 0 () t (by omega) (FU_lt (by omega)) ⟨LF.rf, hf, fun r hr => absurd hr (by omega)⟩
  obtain ⟨t2, e2, b1, b2, b3⟩ := loopR (fun fu2 p (u : HS) => X12_asked_B121 v1 v2 (nI m) v4 (X12_asked_B80 v1 v2 (nI m) v4 fu) fu2 (A * 840) (nI k) (nI p) u) (fun u => X12_asked_B242 v1 v2 (nI m) v4 (X12_asked_B80 v1 v2 (nI m) v4 fu) FU (A * 840) (nI k) 0 u) n (ask kn f) (fun _ g u => LF t u ∧ LR u 72 f ∧ LR u 73 g)
    (fun fu2 _ u J => by
      show X12_asked_B121 v1 v2 (nI m) v4 (X12_asked_B80 v1 v2 (nI m) v4 fu) (fu2 + 1) (A * 840) (nI k) (nI n) u = _
      rw [X12_asked_B121, gdi0, cl0, J.1.a, R.1, if_pos (nI_le (by omega) (by omega))])
    (fun fu2 p g u hp J => by
      obtain ⟨j1, j2, j3⟩ := J
      obtain ⟨u1, c1, c2, c3, c4⟩ := m_askP (v1 := v1) (v2 := v2) (v3 := nI m) (v4 := v4) w (K80 := X12_asked_B80 v1 v2 (nI m) v4 fu) (A := A * 840) (z := nI k) (fu := fu2) hp (by rw [j1.a]; exact R) j2 j3
      exact ⟨u1, c1, j1.tr c2, c3, c4⟩)
    n FU 0 (fun _ => 0) t1 (by omega) (FU_lt (by omega)) ⟨a1, a2, fun r hr => a3 r hr⟩
  have b3 : LR t2 73 (aska n kn f) := b3
  obtain ⟨t3, e3, c1, c2, c3⟩ := loopR (fun fu2 q (u : HS) => X12_asked_B242 v1 v2 (nI m) v4 (X12_asked_B80 v1 v2 (nI m) v4 fu) fu2 (A * 840) (nI k) (nI q) u) (fun u => X12_asked_B80 v1 v2 (nI m) v4 fu (A * 840) (nI (k + 1)) u) 9 (fun _ (s : Unit) => s) (fun q _ u => LF t u ∧ LR u 73 (aska n kn f) ∧ ∀ r, r < q → aL u 72 r = lN (aska n kn f r))
    (fun fu2 _ u _ => by
      show X12_asked_B242 v1 v2 (nI m) v4 (X12_asked_B80 v1 v2 (nI m) v4 fu) (fu2 + 1) (A * 840) (nI k) (nI 9) u = _
      rw [X12_asked_B242, if_pos le99]
      simp only [nm, L1, nI_add])
    (fun fu2 q _ u hq J => by
      obtain ⟨j1, j2, j3⟩ := J
      refine ⟨sL u 72 (vp_updL (aL u 72) q (aL u 73 q)), ?_, j1.s, j2.ne (by decide), fun r hr => ?_⟩
      · show X12_asked_B242 v1 v2 (nI m) v4 (X12_asked_B80 v1 v2 (nI m) v4 fu) (fu2 + 1) (A * 840) (nI k) (nI q) u = X12_asked_B242 v1 v2 (nI m) v4 (X12_asked_B80 v1 v2 (nI m) v4 fu) fu2 (A * 840) (nI k) (nI (q + 1)) _
        rw [X12_asked_B242, if_neg (show ¬ (9 : Int32) ≤ nI q from nI_ge (b := 9) hq (by omega)), gdi_n hq (by omega), gdi_n hq (by omega), i_cl (by omega)]
        simp only [nm, L1, nI_add]
      · rw [aL_sL_eq]
        by_cases e : r = q
        · subst e; rw [pk_uLs]; exact j2 r hq
        · rw [pk_uLn e]; exact j3 r (by omega))
    9 FU 0 () t2 (by omega) (FU_lt (by omega)) ⟨b1, b3, fun r hr => absurd hr (by omega)⟩
  refine ⟨t3, ?_, c1, fun r hr => c3 r hr⟩
  simp only [nm]
  exact e1.trans (e2.trans e3)
theorem m_asked (N : NowP h n kn kd fg hd dm dy) {a b M v : Nat} (ha : a < n) (hb : b < n) (hM : M ≤ 6) (hv : v < 2) : ∃ t, X12_asked h (nI a) (nI b) (nI M) (nI v) = some (fr (asks n kn a M b) (840 ^ M) (nI v), t) ∧ LF h t := by
  have w := N.1.1
  have w1 := w.1
  have hlt := asks_lt w (b := b) ha (by omega) hM
  have h840 : 840 ^ M < 4000000000000000000 := Nat.lt_of_le_of_lt (show 840 ^ M ≤ 840 ^ 6 from Nat.pow_le_pow_right (by decide) hM) (by decide)
  have hpos : 840 ^ M ≠ 0 := by have := Nat.pow_pos (n := M) (show 0 < 840 by decide); omega
  obtain ⟨t0, e0, a1, a2⟩ := loopR (fun fu q (u : HS) => X12_asked_B46 (nI a) (nI b) (nI M) (nI v) fu 1 (nI q) u) (fun u => X12_asked_B80 (nI a) (nI b) (nI M) (nI v) FU 1 0 u) 9 (fun _ (s : Unit) => s) (fun q _ u => LF h u ∧ ∀ r, r < q → aL u 72 r = lN (if r = a then 1 else 0))
    (fun fu _ u _ => by
      show X12_asked_B46 (nI a) (nI b) (nI M) (nI v) (fu + 1) 1 (nI 9) u = _
      rw [X12_asked_B46, if_pos le99])
    (fun fu q _ u hq J => by
      obtain ⟨j1, j2⟩ := J
      refine ⟨sL u 72 (vp_updL (aL u 72) q (lN (if q = a then 1 else 0))), ?_, j1.s, fun r hr => ?_⟩
      · show X12_asked_B46 (nI a) (nI b) (nI M) (nI v) (fu + 1) 1 (nI q) u = X12_asked_B46 (nI a) (nI b) (nI M) (nI v) fu 1 (nI (q + 1)) _
        rw [X12_asked_B46, if_neg (show ¬ (9 : Int32) ≤ nI q from nI_ge (b := 9) hq (by omega))]
        by_cases e : q = a
        · rw [if_pos (by rw [e]), if_pos e]
          unfold X12_asked_B70
          rw [gdi_n hq (by omega), i_cl (by omega)]
          simp only [nm, L1, nI_add]
          rfl
        · rw [if_neg (by rw [nI_eq (by omega) (by omega)]; exact e), if_neg e]
          unfold X12_asked_B70
          rw [gdi_n hq (by omega), i_cl (by omega)]
          simp only [nm, L1, nI_add]
          rfl
      · rw [aL_sL_eq]
        by_cases e : r = q
        · subst e; rw [pk_uLs]
        · rw [pk_uLn e]; exact j2 r (by omega))
    9 FU 0 () h (by omega) (FU_lt (by omega)) ⟨LF.rf, fun r hr => absurd hr (by omega)⟩
  obtain ⟨⟨x1, t1⟩, e1, b1, b2, b3⟩ := loopR (fun fu k (y : Nat × HS) => X12_asked_B80 (nI a) (nI b) (nI M) (nI v) fu (lN y.1) (nI k) y.2) (fun y => (X12_partOf (aL y.2 72 b) (lN y.1) (nI v)).bind fun q16 => some (q16, y.2)) M (fun _ f => aska n kn f) (fun k f y => y.1 = 840 ^ k ∧ LF h y.2 ∧ LR y.2 72 f)
    (fun fu _ y _ => by
      show X12_asked_B80 (nI a) (nI b) (nI M) (nI v) (fu + 1) (lN y.1) (nI M) y.2 = _
      rw [X12_asked_B80, if_pos (nI_le (by omega) (by omega)), gdi_n (show b < 9 by omega) (by omega), i_cl (show b < 2147483648 by omega)])
    (fun fu k f y hk J => by
      obtain ⟨j1, j2, j3⟩ := J
      obtain ⟨t2, c1, c2, c3⟩ := m_askN (v1 := nI a) (v2 := nI b) (v4 := nI v) w (A := lN y.1) (fu := fu) hk hM (show RowP (aI y.2 67) n kn kd fg hd dy by rw [j2.a]; exact N.2.2.2) j3
      refine ⟨(y.1 * 840, t2), ?_, by rw [j1, Nat.pow_succ], j2.tr c2, c3⟩
      show X12_asked_B80 (nI a) (nI b) (nI M) (nI v) (fu + 1) (lN y.1) (nI k) y.2 = X12_asked_B80 (nI a) (nI b) (nI M) (nI v) fu (lN (y.1 * 840)) (nI (k + 1)) t2
      rw [c1, K840, l_mul])
    M FU 0 (fun q => if q = a then 1 else 0) (1, t0) (by omega) (FU_lt (by omega)) ⟨rfl, a1, fun r hr => a2 r hr⟩
  have b1 : x1 = 840 ^ M := b1
  have b3 : LR t1 72 (asks n kn a M) := b3
  refine ⟨t1, ?_, b2⟩
  unfold X12_asked
  rw [m_isOne_in N.2.2.2 ha w1, Option.bind_some, if_neg (show ¬ nI 1 = 0 by decide), m_isOne_in N.2.2.2 hb w1, Option.bind_some, if_neg (show ¬ nI 1 = 0 by decide), show X12_isIn (nI M) 0 6 = some (nI 1) from isIn_in (b := 6) (by omega) (by decide), Option.bind_some, if_neg (show ¬ nI 1 = 0 by decide), show X12_isIn (nI v) 0 1 = some (nI 1) from isIn_in hv (by decide), Option.bind_some, if_neg (show ¬ nI 1 = 0 by decide)]
  refine Eq.trans e0 (Eq.trans e1 ?_)
  show (X12_partOf (aL t1 72 b) (lN x1) (nI v)).bind _ = _
  rw [b3 b (by omega), b1, m_part hlt h840 (fun e => absurd e hpos) (in2 hv)]
  rfl
theorem S_asked (I : Inv h) (u v a b : Int32) : ∃ r h1 h2, X11_asked h u v a b = some (r, h1) ∧ X12_asked h1 u v a b = some (r, h2) ∧ Inv h2 := by
  obtain ⟨n, kn, kd, fg, hd, dm, dy, N⟩ := id I.1
  have w1 := N.1.1.1
  rcases arg_in u n with ⟨p, hp, _, rfl⟩ | hu
  · rcases arg_in v n with ⟨q, hq, _, rfl⟩ | hv
    · rcases arg_in a 7 with ⟨M, hM, _, rfl⟩ | ha
      · obtain ⟨t, e1, f1⟩ := c_asked N hp hq (show M ≤ 6 by omega) b
        rcases arg_in b 2 with ⟨w, hw, _, rfl⟩ | hb
        · obtain ⟨t2, e2, f2⟩ := m_asked (f1.now N) hp hq (show M ≤ 6 by omega) hw
          exact ⟨_, t, t2, e1, e2, (f1.tr f2).keep.inv I⟩
        · refine ⟨_, t, t, e1, ?_, f1.keep.inv I⟩
          have N1 := f1.now N
          unfold X12_asked
          rw [m_isOne_in N1.2.2.2 hp w1, Option.bind_some, if_neg (show ¬ nI 1 = 0 by decide), m_isOne_in N1.2.2.2 hq w1, Option.bind_some, if_neg (show ¬ nI 1 = 0 by decide), show X12_isIn (nI M) 0 6 = some (nI 1) from isIn_in hM (by decide), Option.bind_some, if_neg (show ¬ nI 1 = 0 by decide), show X12_isIn b 0 1 = some (nI 0) from isIn_out hb (by decide), fr_out hb]
          rfl
      · refine ⟨1000000001, h, h, ?_, ?_, I⟩
        · unfold X11_asked
          rw [c_has_in N.2.2.1 hp w1, Option.bind_some, if_neg (show ¬ nI 1 = 0 by decide), c_has_in N.2.2.1 hq w1, Option.bind_some, if_neg (show ¬ nI 1 = 0 by decide)]
          rcases ha with ha | ⟨j, g1, g2, rfl⟩
          · rw [if_pos ha]
          · rw [if_neg (nI_pos g2), if_neg (show ¬ nI j ≤ 6 from nI_ge (a := 6) (by omega) g2)]
        · unfold X12_asked
          rw [m_isOne_in N.2.2.2 hp w1, Option.bind_some, if_neg (show ¬ nI 1 = 0 by decide), m_isOne_in N.2.2.2 hq w1, Option.bind_some, if_neg (show ¬ nI 1 = 0 by decide), show X12_isIn a 0 6 = some (nI 0) from isIn_out ha (by decide)]
          rfl
    · refine ⟨1000000001, h, h, ?_, ?_, I⟩
      · unfold X11_asked
        rw [c_has_in N.2.2.1 hp w1, Option.bind_some, if_neg (show ¬ nI 1 = 0 by decide), c_has_out N.2.2.1 w1 hv]; rfl
      · unfold X12_asked
        rw [m_isOne_in N.2.2.2 hp w1, Option.bind_some, if_neg (show ¬ nI 1 = 0 by decide), m_isOne_out N.2.2.2 w1 hv]; rfl
  · refine ⟨1000000001, h, h, ?_, ?_, I⟩
    · unfold X11_asked
      rw [c_has_out N.2.2.1 w1 hu]; rfl
    · unfold X12_asked
      rw [m_isOne_out N.2.2.2 w1 hu]; rfl
end MASKED
