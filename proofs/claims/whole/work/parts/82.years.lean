/-! years: lines drawn anew -/
def zn (z : Int32) : Int32 := (z * 1103515245) + 12345
def wnt (z : Int32) : Bool := decide ((((z &&& 2147483647) / 65536) - ((z &&& 2147483647) / 65536) / 3 * 3) = 0)
theorem zn_eq (z : Int32) : (z * 1103515245) + 12345 = zn z := rfl
theorem wnt_if {α : Type} (z : Int32) (x y : α) : (if (((z &&& 2147483647) / 65536) - ((z &&& 2147483647) / 65536) / 3 * 3) = 0 then x else y) = if wnt z = true then x else y := by
  unfold wnt
  by_cases q : (((z &&& 2147483647) / 65536) - ((z &&& 2147483647) / 65536) / 3 * 3) = 0
  · rw [if_pos q, decide_eq_true q, if_pos rfl]
  · rw [if_neg q, decide_eq_false q, if_neg (by decide)]
/-- the class turns a line that isn't as it is drawn; the model begins with none -/
def dc (a b : Nat) (s : Int32 × (Nat → Nat)) : Int32 × (Nat → Nat) := (zn s.1, if (s.2 a).testBit b = wnt (zn s.1) then s.2 else flip s.2 a b)
def dw (a b : Nat) (s : Int32 × (Nat → Nat)) : Int32 × (Nat → Nat) := (zn s.1, if wnt (zn s.1) = true then flip s.2 a b else s.2)
theorem itf_rel {σ τ : Type} {f : Nat → σ → σ} {g : Nat → τ → τ} (R : Nat → σ → τ → Prop) (n : Nat) (h : ∀ k s t, k < n → R k s t → R (k + 1) (f k s) (g k t)) : ∀ m k s t, k + m = n → R k s t → R n (itf f k m s) (itf g k m t) := by
  intro m
  induction m with
  | zero => intro k s t hk hR; have : k = n := by omega
            subst this; exact hR
  | succ m ih => intro k s t hk hR; exact ih (k + 1) _ _ (by omega) (h k s t (by omega) hR)
/-- the twos up to (a, b) are drawn -/
def drR (n a b : Nat) (s t : Int32 × (Nat → Nat)) : Prop := s.1 = t.1 ∧ WFk n s.2 ∧ WFk n t.2 ∧ (∀ p q, p < q → q < n → (p < a ∨ (p = a ∧ q < b)) → (s.2 p).testBit q = (t.2 p).testBit q) ∧ ∀ p q, p < q → q < n → ¬ (p < a ∨ (p = a ∧ q < b)) → (t.2 p).testBit q = false
theorem flip_same {kn : Nat → Nat} {a b : Nat} (hab : a ≠ b) : (flip kn a b a).testBit b = !(kn a).testBit b := by
  rw [flip_bit hab]
  cases (kn a).testBit b <;> simp
theorem flip_other {kn : Nat → Nat} {a b p q : Nat} (hab : a < b) (hpq : p < q) (ne : ¬ (p = a ∧ q = b)) : (flip kn a b p).testBit q = (kn p).testBit q := by
  rw [flip_bit (by omega)]
  have : (decide (p = a) && decide (q = b) || decide (p = b) && decide (q = a)) = false := by
    simp only [Bool.or_eq_false_iff, Bool.and_eq_false_iff, decide_eq_false_iff_not]
    omega
  rw [this, Bool.xor_false]
theorem dr_step {n a b : Nat} {s t : Int32 × (Nat → Nat)} (hab : a < b) (hb : b < n) (h : drR n a b s t) : drR n a (b + 1) (dc a b s) (dw a b t) := by
  obtain ⟨h1, h2, h3, h4, h5⟩ := h
  have hn : ¬ (a < a ∨ (a = a ∧ b < b)) := by omega
  have h0 := h5 a b hab hb hn
  have fs := WFk_flip h2 (show a < n by omega) hb (show a ≠ b by omega)
  have ft := WFk_flip h3 (show a < n by omega) hb (show a ≠ b by omega)
  have sW : WFk n (dc a b s).2 := by
    show WFk n (if (s.2 a).testBit b = wnt (zn s.1) then s.2 else flip s.2 a b)
    split
    · exact h2
    · exact fs
  have tW : WFk n (dw a b t).2 := by
    show WFk n (if wnt (zn t.1) = true then flip t.2 a b else t.2)
    split
    · exact ft
    · exact h3
  have sb : ((dc a b s).2 a).testBit b = wnt (zn s.1) := by
    show ((if (s.2 a).testBit b = wnt (zn s.1) then s.2 else flip s.2 a b) a).testBit b = _
    by_cases z : (s.2 a).testBit b = wnt (zn s.1)
    · rw [if_pos z]; exact z
    · rw [if_neg z, flip_same (by omega)]
      cases hx : (s.2 a).testBit b <;> cases hy : wnt (zn s.1) <;> simp_all
  have tb : ((dw a b t).2 a).testBit b = wnt (zn t.1) := by
    show ((if wnt (zn t.1) = true then flip t.2 a b else t.2) a).testBit b = _
    cases hy : wnt (zn t.1)
    · rw [if_neg (by decide)]; exact h0
    · rw [if_pos rfl, flip_same (by omega), h0]; rfl
  have so : ∀ p q, p < q → ¬ (p = a ∧ q = b) → ((dc a b s).2 p).testBit q = (s.2 p).testBit q := by
    intro p q hpq ne
    show ((if (s.2 a).testBit b = wnt (zn s.1) then s.2 else flip s.2 a b) p).testBit q = _
    split
    · rfl
    · exact flip_other hab hpq ne
  have to : ∀ p q, p < q → ¬ (p = a ∧ q = b) → ((dw a b t).2 p).testBit q = (t.2 p).testBit q := by
    intro p q hpq ne
    show ((if wnt (zn t.1) = true then flip t.2 a b else t.2) p).testBit q = _
    split
    · exact flip_other hab hpq ne
    · rfl
  refine ⟨by show zn s.1 = zn t.1; rw [h1], sW, tW, fun p q hpq hq hd => ?_, fun p q hpq hq hd => ?_⟩
  · by_cases e : p = a ∧ q = b
    · obtain ⟨rfl, rfl⟩ := e
      rw [sb, tb, h1]
    · rw [so p q hpq e, to p q hpq e]
      exact h4 p q hpq hq (by omega)
  · rw [to p q hpq (by omega)]
    exact h5 p q hpq hq (by omega)
theorem WFk_zero {n : Nat} (hn : n ≤ 9) : WFk n (fun _ => 0) := ⟨hn, fun _ => Nat.two_pow_pos n, fun _ _ => rfl, fun p q => by simp, fun p => by simp⟩
theorem draw_eq {n : Nat} {kn : Nat → Nat} (w : WFk n kn) (z : Int32) : it2 dc n (z, kn) = it2 dw n (z, fun _ => 0) ∧ WFk n (it2 dw n (z, fun _ => 0)).2 := by
  have key : drR n n 0 (it2 dc n (z, kn)) (it2 dw n (z, fun _ => 0)) := by
    refine itf_rel (fun a s t => drR n a 0 s t) n (fun a s t ha h => ?_) n 0 _ _ (by omega) ⟨rfl, w, WFk_zero w.1, fun p q _ _ hd => absurd hd (by omega), fun p q _ _ _ => by simp⟩
    have h1 : drR n a (a + 1) s t := ⟨h.1, h.2.1, h.2.2.1, fun p q hpq hq hd => h.2.2.2.1 p q hpq hq (by omega), fun p q hpq hq hd => h.2.2.2.2 p q hpq hq (by omega)⟩
    have h2 := itf_rel (f := fun b s => dc a b s) (g := fun b s => dw a b s) (fun b s t => a < b ∧ drR n a b s t) n (fun b s t hb h => ⟨by omega, dr_step h.1 hb h.2⟩) (n - (a + 1)) (a + 1) s t (by omega) ⟨by omega, h1⟩
    obtain ⟨g1, g2, g3, g4, g5⟩ := h2.2
    exact ⟨g1, g2, g3, fun p q hpq hq hd => g4 p q hpq hq (by omega), fun p q hpq hq hd => g5 p q hpq hq (by omega)⟩
  obtain ⟨h1, h2, h3, h4, h5⟩ := key
  refine ⟨Prod.ext h1 (funext fun p => ext_bits fun q => ?_), h3⟩
  have lt : ∀ p q, p < q → ((it2 dc n (z, kn)).2 p).testBit q = ((it2 dw n (z, fun _ => 0)).2 p).testBit q := by
    intro p q hpq
    by_cases hq : q < n
    · exact h4 p q hpq hq (by omega)
    · rw [bit_lt (h2.2.1 p) (by omega), bit_lt (h3.2.1 p) (by omega)]
  by_cases e : p < q
  · exact lt p q e
  · by_cases e2 : p = q
    · subst e2; rw [h2.2.2.2.2, h3.2.2.2.2]
    · rw [h2.2.2.2.1, h3.2.2.2.1]; exact lt q p (by omega)
section YEARS
variable {h : HS} {n : Nat} {kn kd fg : Nat → Nat} {hd dm dy : Nat}
theorem FrB.x {b : Nat} {x y : HS} (p : FrB b x y) {f : Nat → Int32} : FrB b x (sA y (b + 1 + 1) f) := p.a (Or.inl rfl)
theorem c_draw52 {a b fu2 : Nat} {z v : Int32} {K : Int32 → Int32 → HS → Option (Int32 × HS)} {K2 : Int32 → Int32 → Int32 → HS → Option (Int32 × HS)} {t : HS} (w : WFk n kn) (L : LinL t 21 n kn) (ha : a < 9) (hb : b < 9) (c : Bool) :
    X4_draw_B52 21 z K K2 v (nI a) (nI b) (nI c.toNat) t = if (kn a).testBit b = c then K2 v (nI a) (nI (b + 1)) t else (X4_turn t 21 (nI a) (nI b)).bind fun q9 => K2 v (nI a) (nI (b + 1)) q9 := by
  have e73 : ∀ t, X4_draw_B73 21 z K K2 v (nI a) (nI b) t = K2 v (nI a) (nI (b + 1)) t := by
    intro t
    unfold X4_draw_B73
    simp only [nm, L1, nI_add]
  unfold X4_draw_B52
  rw [c_between w L ha hb, Option.bind_some]
  simp only [e73]
  cases hx : (kn a).testBit b <;> cases c
  · rw [if_pos (show nI false.toNat = nI false.toNat from rfl), if_pos rfl]
  · rw [if_neg (show ¬ nI false.toNat = nI true.toNat by decide), if_neg (by decide)]
  · rw [if_neg (show ¬ nI true.toNat = nI false.toNat by decide), if_neg (by decide)]
  · rw [if_pos (show nI true.toNat = nI true.toNat from rfl), if_pos rfl]
theorem c_draw17 {a b fu2 : Nat} {z v x5 : Int32} {K : Int32 → Int32 → HS → Option (Int32 × HS)} {t : HS} (hx : (v * 1103515245) + 12345 = x5) (L : LinL t 21 n kn) (hn : n ≤ 9) (hb : b < n) :
    X4_draw_B17 21 z K (fu2 + 1) v (nI a) (nI b) t = X4_draw_B52 21 z K (X4_draw_B17 21 z K fu2) x5 (nI a) (nI b) (nI (wnt x5).toNat) t := by
  rw [X4_draw_B17, hx, L.1, if_neg (nI_ge (by omega) (by omega))]
  generalize X4_draw_B52 21 z K (X4_draw_B17 21 z K fu2) = B
  simp only [nm]
  rw [wnt_if x5]
  cases wnt x5
  · rw [if_neg (by decide)]; rfl
  · rw [if_pos rfl]; rfl
end YEARS
