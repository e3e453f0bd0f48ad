/-! asked: where one gets by asking on and on -/
theorem le99 : (9 : Int32) ≤ nI 9 := by decide
theorem L840 : (840 : Int32) = nI 840 := rfl
theorem itf_cat {σ : Type} (f : Nat → σ → σ) : ∀ a b k s, itf f k (a + b) s = itf f (k + a) b (itf f k a s) := by
  intro a
  induction a with
  | zero => intro b k s; rw [Nat.zero_add]; rfl
  | succ a ih =>
    intro b k s
    rw [show a + 1 + b = (a + b) + 1 from by omega, itf, ih, itf, show k + 1 + a = k + (a + 1) from by omega]
/-- one p of those who are asked on: what stands with p goes on in equal shares -/
def ask (kn f : Nat → Nat) (p : Nat) (g : Nat → Nat) : Nat → Nat := fun q => g q + (if bc (kn p) = 0 then (if q = p then f p * 840 else 0) else if (kn p).testBit q = true then f p * (840 / bc (kn p)) else 0)
def aska (n : Nat) (kn f : Nat → Nat) : Nat → Nat := itf (ask kn f) 0 n (fun _ => 0)
theorem sm_one (p v : Nat) {m : Nat} (hp : p < m) : fb_sm (fun q => if q = p then v else 0) m = v := by
  have := fb_sm_upd (fun _ => 0) v hp
  rw [fb_sm_const] at this
  omega
theorem sm_mul (b : Nat → Bool) (v : Nat) : ∀ m, fb_sm (fun q => if b q = true then v else 0) m = fb_sm (fun q => (b q).toNat) m * v := by
  intro m
  induction m with
  | zero => simp [fb_sm]
  | succ m ih =>
    rw [fb_sm_succ, fb_sm_succ, ih, Nat.add_mul]
    cases b m <;> simp
theorem ask_sum {kn f g : Nat → Nat} {p : Nat} (hp : p < 9) : fb_sm (ask kn f p g) 9 ≤ fb_sm g 9 + 840 * f p := by
  have e : fb_sm (ask kn f p g) 9 = fb_sm g 9 + fb_sm (fun q => if bc (kn p) = 0 then (if q = p then f p * 840 else 0) else if (kn p).testBit q = true then f p * (840 / bc (kn p)) else 0) 9 := by
    rw [← fb_sm_add]; rfl
  rw [e]
  refine Nat.add_le_add_left ?_ _
  by_cases z : bc (kn p) = 0
  · simp only [z, ite_true]
    rw [sm_one p _ hp, Nat.mul_comm]
    exact Nat.le_refl _
  · simp only [z, ite_false]
    rw [sm_mul (fun q => (kn p).testBit q), show fb_sm (fun q => ((kn p).testBit q).toNat) 9 = bc (kn p) from by simp only [fb_sm, bc, Nat.zero_add]]
    calc bc (kn p) * (f p * (840 / bc (kn p))) = f p * (bc (kn p) * (840 / bc (kn p))) := by
          rw [← Nat.mul_assoc, Nat.mul_comm (bc (kn p)) (f p), Nat.mul_assoc]
      _ ≤ f p * 840 := Nat.mul_le_mul_left _ (Nat.mul_div_le _ _)
      _ = 840 * f p := Nat.mul_comm _ _
theorem aska_sum {n : Nat} {kn f : Nat → Nat} (hn : n ≤ 9) : fb_sm (aska n kn f) 9 ≤ 840 * fb_sm f n :=
  itf_inv (f := ask kn f) (fun k g => fb_sm g 9 ≤ 840 * fb_sm f k) n (fun k s hk hs => by
    have := ask_sum (kn := kn) (f := f) (g := s) (show k < 9 by omega)
    show fb_sm (ask kn f k s) 9 ≤ 840 * fb_sm f (k + 1)
    rw [fb_sm_succ f k, Nat.mul_add]
    omega) n 0 (fun _ => 0) (by omega) (by rw [fb_sm_const]; omega)
theorem ask_out {n : Nat} {kn f g : Nat → Nat} (w : WFk n kn) {p q : Nat} (hp : p < n) (hq : n ≤ q) (hg : g q = 0) : ask kn f p g q = 0 := by
  unfold ask
  rw [hg, bit_lt (w.2.1 p) hq]
  simp only [Bool.false_eq_true, ite_false, ite_self, Nat.zero_add]
  rw [if_neg (show ¬ q = p by omega)]
  simp
theorem aska_out {n : Nat} {kn f : Nat → Nat} (w : WFk n kn) {q : Nat} (hq : n ≤ q) : aska n kn f q = 0 :=
  itf_inv (f := ask kn f) (fun _ g => g q = 0) n (fun k s hk hs => ask_out w hk hq hs) n 0 (fun _ => 0) (by omega) rfl
theorem ask_id {n : Nat} {kn f g : Nat → Nat} (w : WFk n kn) (hf : ∀ q, n ≤ q → f q = 0) {p : Nat} (hp : n ≤ p) : ask kn f p g = g := by
  funext q
  unfold ask
  rw [hf p hp, Nat.zero_mul, Nat.zero_mul]
  simp
theorem aska_9 {n : Nat} {kn f : Nat → Nat} (w : WFk n kn) (hf : ∀ q, n ≤ q → f q = 0) : itf (ask kn f) 0 9 (fun _ => 0) = aska n kn f := by
  obtain ⟨m, hm⟩ : ∃ m, 9 = n + m := ⟨9 - n, by have := w.1; omega⟩
  rw [hm, itf_cat]
  exact itf_id _ _ _ (fun j hj => ask_id w hf (by omega))
def asks (n : Nat) (kn : Nat → Nat) (a k : Nat) : Nat → Nat := itf (fun _ f => aska n kn f) 0 k (fun q => if q = a then 1 else 0)
theorem asks_inv {n : Nat} {kn : Nat → Nat} (w : WFk n kn) {a : Nat} (ha : a < n) (k : Nat) : fb_sm (asks n kn a k) 9 ≤ 840 ^ k ∧ ∀ q, n ≤ q → asks n kn a k q = 0 := by
  have w1 := w.1
  refine itf_inv (f := fun _ f => aska n kn f) (fun k f => fb_sm f 9 ≤ 840 ^ k ∧ ∀ q, n ≤ q → f q = 0) k (fun i s _ hs => ⟨?_, fun q hq => aska_out w hq⟩) k 0 _ (by omega) ⟨?_, fun q hq => if_neg (by omega)⟩
  · have h1 := aska_sum (kn := kn) (f := s) w1
    obtain ⟨c, hc⟩ : ∃ c, 9 = n + c := ⟨9 - n, by omega⟩
    have h2 : fb_sm s n ≤ fb_sm s 9 := by rw [hc]; exact fb_sm_mono s n c
    rw [Nat.pow_succ, Nat.mul_comm]
    exact Nat.le_trans h1 (Nat.mul_le_mul_left _ (Nat.le_trans h2 hs.1))
  · rw [sm_one a 1 (by omega)]; exact Nat.le_refl _
theorem asks_lt {n : Nat} {kn : Nat → Nat} (w : WFk n kn) {a b k : Nat} (ha : a < n) (hb : b < 9) (hk : k ≤ 6) : asks n kn a k b < 4000000000000000000 := by
  have h1 := (asks_inv w ha k).1
  have h2 := sm_ge (asks n kn a k) 9 hb
  have h3 : 840 ^ k ≤ 840 ^ 6 := Nat.pow_le_pow_right (by decide) hk
  have h4 : 840 ^ 6 < 4000000000000000000 := by decide
  exact Nat.lt_of_le_of_lt (Nat.le_trans (Nat.le_trans h2 h1) h3) h4
/-- only long arrays have changed -/
def LF (h t : HS) : Prop := t.1 = h.1 ∧ t.2.1 = h.2.1
def LR (h : HS) (o : Nat) (f : Nat → Nat) : Prop := ∀ q, q < 9 → aL h o q = lN (f q)
theorem LF.rf {h : HS} : LF h h := ⟨rfl, rfl⟩
theorem LF.tr {a b c : HS} (x : LF a b) (y : LF b c) : LF a c := ⟨y.1.trans x.1, y.2.trans x.2⟩
theorem LF.s {a b : HS} (x : LF a b) {o : Nat} {f : Nat → Int64} : LF a (sL b o f) := ⟨x.1, x.2⟩
theorem LF.f {h t : HS} (x : LF h t) (o k : Nat) : fI t o k = fI h o k := by unfold fI; rw [x.1]
theorem LF.a {h t : HS} (x : LF h t) (o : Nat) : aI t o = aI h o := by unfold aI; rw [x.2]
theorem LF.keep {h t : HS} (x : LF h t) : Keep h t := ⟨fun o k _ => x.f o k, fun o _ _ => x.a o, by rw [x.a]⟩
theorem LF.lin {h t : HS} (x : LF h t) {b n : Nat} {kn : Nat → Nat} (L : LinL h b n kn) : LinL t b n kn := ⟨(x.f _ _).trans L.1, fun p hp => by rw [x.a]; exact L.2 p hp⟩
theorem LF.now {h t : HS} (x : LF h t) {n : Nat} {kn kd fg : Nat → Nat} {hd dm dy : Nat} (N : NowP h n kn kd fg hd dm dy) : NowP t n kn kd fg hd dm dy := x.keep.now N
theorem LR.ne {h : HS} {o o1 : Nat} {f : Nat → Nat} {g : Nat → Int64} (x : LR h o f) (hn : o ≠ o1) : LR (sL h o1 g) o f := fun q hq => by rw [aL_sL_ne hn]; exact x q hq
theorem updL_s {f : Nat → Int64} {k : Nat} {x : Int64} : vp_updL f k x k = x := pk_uLs
theorem c_fillL {h : HS} {o : Nat} : ∃ t, J7_fill_d0a16 h o 9 0 = some t ∧ LF h t ∧ LR t o (fun _ => 0) ∧ ∀ o1, o1 ≠ o → aL t o1 = aL h o1 := by
  obtain ⟨t, e, j1, j2, j3⟩ := loopR (fun fu q (t : HS) => J7_fill_d0a16_B6 o 9 0 fu (nI q) (nI 9) t) (fun t => some t) 9 (fun _ (s : Unit) => s) (fun q _ u => LF h u ∧ (∀ r, r < q → aL u o r = lN 0) ∧ ∀ o1, o1 ≠ o → aL u o1 = aL h o1)
    (fun fu _ u _ => by
      show J7_fill_d0a16_B6 o 9 0 (fu + 1) (nI 9) (nI 9) u = _
      rw [J7_fill_d0a16_B6, if_pos (nI_le (by omega) (by omega))])
    (fun fu q _ u hq J => by
      obtain ⟨j1, j2, j3⟩ := J
      refine ⟨sL u o (vp_updL (aL u o) q 0), ?_, j1.s, fun r hr => ?_, fun o1 ho => ?_⟩
      · show J7_fill_d0a16_B6 o 9 0 (fu + 1) (nI q) (nI 9) u = J7_fill_d0a16_B6 o 9 0 fu (nI (q + 1)) (nI 9) _
        rw [J7_fill_d0a16_B6, if_neg (nI_ge (by omega) (by omega)), gdi_n hq (by omega), i_cl (by omega)]
        simp only [nm, L1, nI_add]
      · rw [aL_sL_eq]
        by_cases e : r = q
        · subst e; rw [pk_uLs]; rfl
        · rw [pk_uLn e]; exact j2 r (by omega)
      · rw [aL_sL_ne ho]; exact j3 o1 ho)
    9 FU 0 () h (by omega) (FU_lt (by omega)) ⟨LF.rf, fun r hr => absurd hr (by omega), fun _ _ => rfl⟩
  exact ⟨t, e, j1, j2, j3⟩
section ASKED
variable {h : HS} {n : Nat} {kn kd fg : Nat → Nat} {hd dm dy : Nat}
theorem c_ask1 (w : WFk n kn) {K : Int32 → HS → Option HS} {p : Nat} (hp : p < 9) {f g : Nat → Nat} {t : HS} (L : LinL t 6 n kn) (hf : LR t 3 f) (hg : LR t 4 g) :
    ∃ t1, X11_askOn_B30 K FU (nI p) (nI (bc (kn p))) 0 t = K (nI (p + 1)) t1 ∧ LF t t1 ∧ LR t1 3 f ∧ LR t1 4 (ask kn f p g) := by
  have hb := bc_le (kn p)
  obtain ⟨t1, e1, j1, j2, j3⟩ := loopR (fun fu q (u : HS) => X11_askOn_B30 K fu (nI p) (nI (bc (kn p))) (nI q) u) (fun u => X11_askOn_B30 K 1 (nI p) (nI (bc (kn p))) (nI 9) u) 9 (fun _ (s : Unit) => s) (fun q _ u => LF t u ∧ LR u 3 f ∧ ∀ r, r < 9 → aL u 4 r = lN (g r + if r < q ∧ (kn p).testBit r = true ∧ bc (kn p) ≠ 0 then f p * (840 / bc (kn p)) else 0))
    (fun fu _ u _ => by
      show X11_askOn_B30 K (fu + 1) (nI p) (nI (bc (kn p))) (nI 9) u = X11_askOn_B30 K 1 (nI p) (nI (bc (kn p))) (nI 9) u
      rw [X11_askOn_B30, X11_askOn_B30, if_pos le99, if_pos le99])
    (fun fu q _ u hq J => by
      obtain ⟨j1, j2, j3⟩ := J
      have e77 : ∀ u', X11_askOn_B77 K (X11_askOn_B30 K fu) (nI p) (nI (bc (kn p))) (nI q) u' = X11_askOn_B30 K fu (nI p) (nI (bc (kn p))) (nI (q + 1)) u' := by
        intro u'
        simp only [X11_askOn_B77, nm, L1, nI_add]
      have e0 : X11_askOn_B30 K (fu + 1) (nI p) (nI (bc (kn p))) (nI q) u = (if nI (bc (kn p)) ≤ 0 then X11_askOn_B30 K fu (nI p) (nI (bc (kn p))) (nI (q + 1)) u else (if nI ((kn p).testBit q).toNat = 0 then X11_askOn_B30 K fu (nI p) (nI (bc (kn p))) (nI (q + 1)) u else (gdi (nI q) 9 <| gdi (nI p) 9 <| gdz (nI (bc (kn p))) <| gdi (nI q) 9 <| nm (sL u 4 (vp_updL (aL u 4) (nI q).toNatClampNeg ((aL u 4 (nI q).toNatClampNeg) + ((aL u 3 (nI p).toNatClampNeg) * ((840 / nI (bc (kn p))).toInt64))))) fun h18 => X11_askOn_B30 K fu (nI p) (nI (bc (kn p))) (nI (q + 1)) h18))) := by
        rw [X11_askOn_B30, if_neg (show ¬ (9 : Int32) ≤ nI q from nI_ge (b := 9) hq (by omega)), c_between w (j1.lin L) hp hq, Option.bind_some]
        simp only [e77]
      by_cases z : bc (kn p) = 0
      · refine ⟨u, ?_, j1, j2, fun r hr => ?_⟩
        · show X11_askOn_B30 K (fu + 1) (nI p) (nI (bc (kn p))) (nI q) u = X11_askOn_B30 K fu (nI p) (nI (bc (kn p))) (nI (q + 1)) u
          rw [e0, if_pos (show nI (bc (kn p)) ≤ 0 from nI_le (b := 0) (by omega) (by omega))]
        · rw [j3 r hr, if_neg (fun x => x.2.2 z), if_neg (fun x => x.2.2 z)]
      · have z1 : ¬ nI (bc (kn p)) ≤ 0 := nI_nle (by omega) (by omega)
        have z2 : ¬ nI (bc (kn p)) = 0 := nI_ne0 (by omega) (by omega)
        by_cases zb : (kn p).testBit q = true
        · refine ⟨sL u 4 (vp_updL (aL u 4) q (lN (g q + f p * (840 / bc (kn p))))), ?_, j1.s, j2.ne (by decide), fun r hr => ?_⟩
          · show X11_askOn_B30 K (fu + 1) (nI p) (nI (bc (kn p))) (nI q) u = X11_askOn_B30 K fu (nI p) (nI (bc (kn p))) (nI (q + 1)) _
            rw [e0, if_neg z1, zb, if_neg (show ¬ nI true.toNat = 0 by decide), gdi_n hq (by omega), gdi_n hp (by omega), gdi_n hq (by omega), i_cl (show q < 2147483648 by omega), i_cl (show p < 2147483648 by omega)]
            unfold gdz
            rw [if_neg z2, j3 q hq, j2 p hp, if_neg (fun x => absurd x.1 (by omega)), L840, pk_div (by omega) (by omega) (by omega), i_l (Nat.lt_of_le_of_lt (Nat.div_le_self _ _) (by omega)), l_mul, l_add, Nat.add_zero]
            rfl
          · rw [aL_sL_eq]
            by_cases e : r = q
            · subst e
              rw [pk_uLs, if_pos ⟨by omega, zb, z⟩]
            · rw [pk_uLn e, j3 r hr]
              congr 3
              apply propext
              constructor
              · intro x; exact ⟨by omega, x.2⟩
              · intro x; exact ⟨by omega, x.2⟩
        · refine ⟨u, ?_, j1, j2, fun r hr => ?_⟩
          · show X11_askOn_B30 K (fu + 1) (nI p) (nI (bc (kn p))) (nI q) u = X11_askOn_B30 K fu (nI p) (nI (bc (kn p))) (nI (q + 1)) u
            rw [e0, if_neg z1, show (kn p).testBit q = false from by simpa using zb, if_pos (show nI false.toNat = 0 from rfl)]
          · rw [j3 r hr]
            congr 3
            apply propext
            constructor
            · intro x; exact ⟨by omega, x.2⟩
            · intro x
              refine ⟨?_, x.2⟩
              by_cases e : r = q
              · rw [e] at x; exact absurd x.2.1 zb
              · omega)
    9 FU 0 () t (by omega) (FU_lt (by omega)) ⟨LF.rf, hf, fun r hr => by rw [hg r hr, if_neg (fun x => absurd x.1 (by omega)), Nat.add_zero]⟩
  have e1 : X11_askOn_B30 K FU (nI p) (nI (bc (kn p))) 0 t = X11_askOn_B30 K 1 (nI p) (nI (bc (kn p))) (nI 9) t1 := e1
  rw [e1, X11_askOn_B30, if_pos le99]
  by_cases z : bc (kn p) = 0
  · refine ⟨sL t1 4 (vp_updL (aL t1 4) p (lN (g p + f p * 840))), ?_, j1.s, j2.ne (by decide), fun r hr => ?_⟩
    · rw [if_pos (show nI (bc (kn p)) = 0 by rw [z]; rfl), gdi_n hp (by omega), gdi_n hp (by omega), gdi_n hp (by omega), i_cl (show p < 2147483648 by omega), j3 p hp, j2 p hp, if_neg (fun x => x.2.2 z), K840, l_mul, l_add, Nat.add_zero]
      simp only [X11_askOn_B106, nm, L1, nI_add]
    · rw [aL_sL_eq]
      unfold ask
      rw [if_pos z]
      by_cases e : r = p
      · subst e; rw [pk_uLs, if_pos rfl]
      · rw [pk_uLn e, j3 r hr, if_neg (fun x => x.2.2 z), if_neg e]
  · refine ⟨t1, ?_, j1, j2, fun r hr => ?_⟩
    · rw [if_neg (nI_ne0 (by omega) (by omega))]
      simp only [X11_askOn_B106, nm, L1, nI_add]
    · rw [j3 r hr]
      unfold ask
      rw [if_neg z]
      congr 3
      apply propext
      constructor
      · intro x; exact x.2.1
      · intro x; exact ⟨hr, x, z⟩
theorem cpy9L (f g : Nat → Int64) {p : Nat} (hp : p < 9) : va_cpy f g (0 : Int32).toNatClampNeg (0 : Int32).toNatClampNeg (9 : Int32).toNatClampNeg p = f p :=
  (pk_cpy_in (Nat.zero_le p) (show p < 0 + 9 by omega)).trans (congrArg f (show 0 + (p - 0) = p by omega))
theorem c_askOn (w : WFk n kn) {f : Nat → Nat} {t : HS} (L : LinL t 6 n kn) (hf : LR t 3 f) (h0 : ∀ q, n ≤ q → f q = 0) : ∃ t1, X11_askOn t = some t1 ∧ LF t t1 ∧ LR t1 3 (aska n kn f) := by
  obtain ⟨t0, e0, a1, a2, a3⟩ := c_fillL (h := t) (o := 4)
  obtain ⟨t1, e1, j1, j2, j3⟩ := loopR (fun fu p (u : HS) => X11_askOn_B10 fu (nI p) u) (fun u => some (sL u 3 (va_cpy (aL u 4) (aL u 3) (0 : Int32).toNatClampNeg (0 : Int32).toNatClampNeg (9 : Int32).toNatClampNeg))) 9 (ask kn f) (fun _ g u => LF t u ∧ LR u 3 f ∧ LR u 4 g)
    (fun fu _ u _ => by
      show X11_askOn_B10 (fu + 1) (nI 9) u = _
      rw [X11_askOn_B10, if_pos le99, gdc9]
      rfl)
    (fun fu p g u hp J => by
      obtain ⟨j1, j2, j3⟩ := J
      obtain ⟨t2, e2, b1, b2, b3⟩ := c_ask1 w (K := X11_askOn_B10 fu) hp (j1.lin L) j2 j3
      refine ⟨t2, ?_, j1.tr b1, b2, b3⟩
      show X11_askOn_B10 (fu + 1) (nI p) u = _
      rw [X11_askOn_B10, if_neg (show ¬ (9 : Int32) ≤ nI p from nI_ge (b := 9) hp (by omega)), c_number w (j1.lin L) hp, Option.bind_some]
      exact e2)
    9 FU 0 (fun _ => 0) t0 (by omega) (FU_lt (by omega)) ⟨a1, fun q hq => by rw [a3 3 (by decide)]; exact hf q hq, a2⟩
  refine ⟨sL t1 3 (va_cpy (aL t1 4) (aL t1 3) (0 : Int32).toNatClampNeg (0 : Int32).toNatClampNeg (9 : Int32).toNatClampNeg), ?_, j1.s, fun q hq => ?_⟩
  · unfold X11_askOn
    rw [e0, Option.bind_some]
    exact e1
  · rw [aL_sL_eq, cpy9L _ _ hq, j3 q hq, aska_9 w h0]
theorem c_asked (N : NowP h n kn kd fg hd dm dy) {a b M : Nat} (ha : a < n) (hb : b < n) (hM : M ≤ 6) (v : Int32) : ∃ t, X11_asked h (nI a) (nI b) (nI M) v = some (fr (asks n kn a M b) (840 ^ M) v, t) ∧ LF h t := by
  have w := N.1.1
  have w1 := w.1
  obtain ⟨t0, e0, a1, a2, a3⟩ := c_fillL (h := h) (o := 3)
  have hlt := asks_lt w (b := b) ha (by omega) hM
  have h840 : 840 ^ M < 4000000000000000000 := Nat.lt_of_le_of_lt (show 840 ^ M ≤ 840 ^ 6 from Nat.pow_le_pow_right (by decide) hM) (by decide)
  obtain ⟨⟨x1, t1⟩, e1, j1, j2, j3, j4⟩ := loopR (fun fu k (y : Nat × HS) => X11_asked_B57 (nI a) (nI b) (nI M) v fu (lN y.1) (nI k) y.2) (fun y => (X11_fraction (aL y.2 3 b) (lN y.1) v).bind fun q12 => some (q12, y.2)) M (fun _ f => aska n kn f) (fun k f y => y.1 = 840 ^ k ∧ LF h y.2 ∧ LR y.2 3 f ∧ ∀ q, n ≤ q → f q = 0)
    (fun fu _ y _ => by
      show X11_asked_B57 (nI a) (nI b) (nI M) v (fu + 1) (lN y.1) (nI M) y.2 = _
      rw [X11_asked_B57, if_pos (nI_le (by omega) (by omega)), gdi_n (show b < 9 by omega) (by omega), i_cl (show b < 2147483648 by omega)])
    (fun fu k f y hk J => by
      obtain ⟨j1, j2, j3, j4⟩ := J
      obtain ⟨t2, e2, b1, b2⟩ := c_askOn w (j2.lin N.2.2.1.1) j3 j4
      refine ⟨(y.1 * 840, t2), ?_, by rw [j1, Nat.pow_succ], j2.tr b1, b2, fun q hq => aska_out w hq⟩
      show X11_asked_B57 (nI a) (nI b) (nI M) v (fu + 1) (lN y.1) (nI k) y.2 = X11_asked_B57 (nI a) (nI b) (nI M) v fu (lN (y.1 * 840)) (nI (k + 1)) t2
      rw [X11_asked_B57, if_neg (nI_ge (by omega) (by omega)), e2, Option.bind_some]
      simp only [nm, K840, l_mul, L1, nI_add])
    M FU 0 (fun q => if q = a then 1 else 0) (1, sL t0 3 (vp_updL (aL t0 3) a 1)) (by omega) (FU_lt (by omega)) ⟨rfl, a1.s, fun q hq => by
      rw [aL_sL_eq]
      by_cases e : q = a
      · subst e; rw [pk_uLs]; show (1 : Int64) = lN (if q = q then 1 else 0); rw [if_pos rfl]; rfl
      · rw [pk_uLn e]; show aL t0 3 q = lN (if q = a then 1 else 0); rw [if_neg e]; exact a2 q hq, fun q hq => if_neg (by omega)⟩
  have j1 : x1 = 840 ^ M := j1
  have j3 : LR t1 3 (asks n kn a M) := j3
  refine ⟨t1, ?_, j2⟩
  unfold X11_asked
  rw [c_has_in N.2.2.1 ha w1, Option.bind_some, if_neg (show ¬ nI 1 = 0 by decide), c_has_in N.2.2.1 hb w1, Option.bind_some, if_neg (show ¬ nI 1 = 0 by decide), if_neg (nI_pos (by omega)), if_pos (show nI M ≤ 6 from nI_le (b := 6) (by omega) (by omega)), e0, Option.bind_some, gdi_n (show a < 9 by omega) (by omega), i_cl (show a < 2147483648 by omega)]
  refine Eq.trans e1 ?_
  show (X11_fraction (aL t1 3 b) (lN x1) v).bind _ = _
  rw [j3 b (by omega), j1, c_frac hlt h840]
  rfl
end ASKED
