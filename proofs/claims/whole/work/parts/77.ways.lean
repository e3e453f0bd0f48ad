/-! ways: who is reached in how many steps -/
def wds (kn : Nat → Nat) (x p s : Nat) : Nat := if x.testBit p then s ||| kn p else s
/-- x and all whom one of x KNOWS -/
def wd (n : Nat) (kn : Nat → Nat) (x : Nat) : Nat := itf (wds kn x) 0 n x
def rc (n : Nat) (kn : Nat → Nat) (a k : Nat) : Nat := itf (fun _ s => wd n kn s) 0 k (2 ^ a)
/-- in how many steps b is reached; k are done, s are reached, m more are looked at -/
def wy (n : Nat) (kn : Nat → Nat) (b : Nat) : Nat → Nat → Nat → Int32
  | _, 0, _ => -4
  | k, m + 1, s => if s.testBit b then nI k else wy n kn b (k + 1) m (wd n kn s)
theorem wd_lt {n : Nat} {kn : Nat → Nat} (w : WFk n kn) {x : Nat} (hx : x < 2 ^ n) : wd n kn x < 2 ^ n := by
  refine itf_inv (fun _ s => s < 2 ^ n) n (fun k s _ h => ?_) n 0 x (by omega) hx
  unfold wds
  split
  · exact or_lt h (w.2.1 k)
  · exact h
theorem wd_bit {n : Nat} {kn : Nat → Nat} {x j : Nat} : (wd n kn x).testBit j = true ↔ x.testBit j = true ∨ ∃ p, p < n ∧ x.testBit p = true ∧ (kn p).testBit j = true := by
  have key : ∀ m, (itf (wds kn x) 0 m x).testBit j = true ↔ x.testBit j = true ∨ ∃ p, p < m ∧ x.testBit p = true ∧ (kn p).testBit j = true := by
    intro m
    induction m with
    | zero => simp [itf]
    | succ m ih =>
      rw [itf_last, Nat.zero_add]
      rw [show ∀ s, wds kn x m s = if x.testBit m then s ||| kn m else s from fun _ => rfl]
      by_cases z : x.testBit m = true
      · rw [if_pos z, Nat.testBit_or, Bool.or_eq_true, ih]
        constructor
        · rintro ((h | ⟨p, h1, h2, h3⟩) | h)
          · exact Or.inl h
          · exact Or.inr ⟨p, by omega, h2, h3⟩
          · exact Or.inr ⟨m, by omega, z, h⟩
        · rintro (h | ⟨p, h1, h2, h3⟩)
          · exact Or.inl (Or.inl h)
          · by_cases e : p = m
            · subst e; exact Or.inr h3
            · exact Or.inl (Or.inr ⟨p, by omega, h2, h3⟩)
      · rw [if_neg z, ih]
        constructor
        · rintro (h | ⟨p, h1, h2, h3⟩)
          · exact Or.inl h
          · exact Or.inr ⟨p, by omega, h2, h3⟩
        · rintro (h | ⟨p, h1, h2, h3⟩)
          · exact Or.inl h
          · by_cases e : p = m
            · subst e; exact absurd h2 z
            · exact Or.inr ⟨p, by omega, h2, h3⟩
  exact key n
theorem bc_mono {x y : Nat} (hy : y < 512) (hx : x < 512) (h : ∀ j, x.testBit j = true → y.testBit j = true) : bc x ≤ bc y ∧ (x ≠ y → bc x < bc y) := by
  have hb : ∀ j, (x.testBit j).toNat ≤ (y.testBit j).toNat := by
    intro j
    have := h j
    cases hx : x.testBit j
    · exact Nat.zero_le _
    · rw [this hx]; exact Nat.le_refl _
  have b0 := hb 0; have b1 := hb 1; have b2 := hb 2; have b3 := hb 3; have b4 := hb 4; have b5 := hb 5; have b6 := hb 6; have b7 := hb 7; have b8 := hb 8
  refine ⟨?_, fun ne => ?_⟩
  · unfold bc; omega
  · refine Classical.byContradiction fun q => ne (ext_bits fun j => ?_)
    have tn : ∀ a b : Bool, a.toNat = b.toNat → a = b := by decide
    by_cases hj : j < 9
    · unfold bc at q
      match j, hj with
      | 0, _ => exact tn _ _ (by omega)
      | 1, _ => exact tn _ _ (by omega)
      | 2, _ => exact tn _ _ (by omega)
      | 3, _ => exact tn _ _ (by omega)
      | 4, _ => exact tn _ _ (by omega)
      | 5, _ => exact tn _ _ (by omega)
      | 6, _ => exact tn _ _ (by omega)
      | 7, _ => exact tn _ _ (by omega)
      | 8, _ => exact tn _ _ (by omega)
      | j + 9, h => exact absurd h (by omega)
    · rw [bit_lt (n := 9) hx (by omega), bit_lt (n := 9) hy (by omega)]
theorem bc_one {a : Nat} (ha : a < 9) : 1 ≤ bc (2 ^ a) := bc_pos ha (by rw [tb_pow]; simp)
section WAYS
variable {n : Nat} {kn : Nat → Nat}
theorem rc_succ (a k : Nat) : rc n kn a (k + 1) = wd n kn (rc n kn a k) := itf_last _ _ _ _
theorem rc_lt (w : WFk n kn) {a : Nat} (ha : a < n) : ∀ k, rc n kn a k < 2 ^ n := by
  intro k
  induction k with
  | zero => exact pow_lt ha
  | succ k ih => rw [rc_succ]; exact wd_lt w ih
theorem rc_fix (w : WFk n kn) {a : Nat} (ha : a < n) : ∀ k, k + 1 ≤ bc (rc n kn a k) ∨ wd n kn (rc n kn a k) = rc n kn a k := by
  have h9 := pow_le9 w.1
  have w1 := w.1
  intro k
  induction k with
  | zero => exact Or.inl (bc_one (by omega))
  | succ k ih =>
    rw [rc_succ]
    have hl := rc_lt w ha k
    have hl2 := wd_lt w hl
    by_cases z : wd n kn (rc n kn a k) = rc n kn a k
    · exact Or.inr (by rw [z, z])
    · rcases ih with ih | ih
      · have := (bc_mono (x := rc n kn a k) (y := wd n kn (rc n kn a k)) (by omega) (by omega) (fun j hj => wd_bit.mpr (Or.inl hj))).2 (fun e => z e.symm)
        exact Or.inl (by omega)
      · exact absurd ih z
theorem rc_8 (w : WFk n kn) {a : Nat} (ha : a < n) : rc n kn a 9 = rc n kn a 8 := by
  have h9 := pow_le9 w.1
  rw [rc_succ]
  rcases rc_fix w ha 8 with h | h
  · have hl := rc_lt w ha 8
    have hl2 := wd_lt w hl
    refine Classical.byContradiction fun z => ?_
    have := (bc_mono (x := rc n kn a 8) (y := wd n kn (rc n kn a 8)) (by omega) (by omega) (fun j hj => wd_bit.mpr (Or.inl hj))).2 (fun e => z e.symm)
    have := bc_le (wd n kn (rc n kn a 8))
    omega
  · exact h
theorem wy_s {b k m s : Nat} : wy n kn b k (m + 1) s = if s.testBit b = true then nI k else wy n kn b (k + 1) m (wd n kn s) := rfl
/-- it is enough to look at nine -/
theorem wy_10 (w : WFk n kn) {a : Nat} (ha : a < n) (b : Nat) : wy n kn b 0 10 (2 ^ a) = wy n kn b 0 9 (2 ^ a) := by
  have key : ∀ m k, k + (m + 1) = 9 → wy n kn b k (m + 2) (rc n kn a k) = wy n kn b k (m + 1) (rc n kn a k) := by
    intro m
    induction m with
    | zero =>
      intro k hk
      obtain rfl : k = 8 := by omega
      show (if (rc n kn a 8).testBit b = true then nI 8 else (if (wd n kn (rc n kn a 8)).testBit b = true then nI 9 else -4)) = (if (rc n kn a 8).testBit b = true then nI 8 else -4)
      by_cases z : (rc n kn a 8).testBit b = true
      · rw [if_pos z, if_pos z]
      · rw [if_neg z, if_neg z, ← rc_succ, rc_8 w ha, if_neg z]
    | succ m ih =>
      intro k hk
      show (if (rc n kn a k).testBit b = true then nI k else wy n kn b (k + 1) (m + 2) (wd n kn (rc n kn a k))) = (if (rc n kn a k).testBit b = true then nI k else wy n kn b (k + 1) (m + 1) (wd n kn (rc n kn a k)))
      by_cases z : (rc n kn a k).testBit b = true
      · rw [if_pos z, if_pos z]
      · rw [if_neg z, if_neg z]
        have := ih (k + 1) (by omega)
        rw [rc_succ] at this
        exact this
  exact key 8 0 rfl
/-! it is as far there as back -/
def Ed (kn : Nat → Nat) (p q : Nat) : Prop := p = q ∨ (kn p).testBit q = true
theorem rc_r (w : WFk n kn) {a b : Nat} (ha : a < n) (hb : b < n) (k : Nat) : (rc n kn a (k + 1)).testBit b = true ↔ ∃ p, p < n ∧ (rc n kn a k).testBit p = true ∧ Ed kn p b := by
  rw [rc_succ, wd_bit]
  constructor
  · rintro (h | ⟨p, h1, h2, h3⟩)
    · exact ⟨b, hb, h, Or.inl rfl⟩
    · exact ⟨p, h1, h2, Or.inr h3⟩
  · rintro ⟨p, h1, h2, h3 | h3⟩
    · subst h3; exact Or.inl h2
    · exact Or.inr ⟨p, h1, h2, h3⟩
theorem rc_l (w : WFk n kn) : ∀ k a b, a < n → b < n → ((rc n kn a (k + 1)).testBit b = true ↔ ∃ p, p < n ∧ Ed kn a p ∧ (rc n kn p k).testBit b = true) := by
  have r0 : ∀ a b, (rc n kn a 0).testBit b = true ↔ a = b := by
    intro a b
    show (2 ^ a).testBit b = true ↔ _
    rw [tb_pow]; simp
  intro k
  induction k with
  | zero =>
    intro a b ha hb
    rw [rc_r w ha hb]
    constructor
    · rintro ⟨p, h1, h2, h3⟩
      rw [r0] at h2
      subst h2
      exact ⟨b, hb, h3, (r0 b b).mpr rfl⟩
    · rintro ⟨p, h1, h2, h3⟩
      rw [r0] at h3
      subst h3
      exact ⟨a, ha, (r0 a a).mpr rfl, h2⟩
  | succ k ih =>
    intro a b ha hb
    rw [rc_r w ha hb]
    constructor
    · rintro ⟨q, h1, h2, h3⟩
      obtain ⟨p, g1, g2, g3⟩ := (ih a q ha h1).mp h2
      exact ⟨p, g1, g2, (rc_r w g1 hb k).mpr ⟨q, h1, g3, h3⟩⟩
    · rintro ⟨p, h1, h2, h3⟩
      obtain ⟨q, g1, g2, g3⟩ := (rc_r w h1 hb k).mp h3
      exact ⟨q, g1, (ih a q ha g1).mpr ⟨p, h1, h2, g2⟩, g3⟩
theorem Ed_symm (w : WFk n kn) {p q : Nat} (h : Ed kn p q) : Ed kn q p := by
  rcases h with h | h
  · exact Or.inl h.symm
  · exact Or.inr (by rw [w.2.2.2.1]; exact h)
theorem rc_symm (w : WFk n kn) : ∀ k a b, a < n → b < n → (rc n kn a k).testBit b = true → (rc n kn b k).testBit a = true := by
  intro k
  induction k with
  | zero =>
    intro a b _ _ h
    have h : (2 ^ a).testBit b = true := h
    show (2 ^ b).testBit a = true
    rw [tb_pow] at h ⊢
    simp only [decide_eq_true_eq] at h ⊢
    exact h.symm
  | succ k ih =>
    intro a b ha hb h
    obtain ⟨p, h1, h2, h3⟩ := (rc_r w ha hb k).mp h
    exact (rc_l w k b a hb ha).mpr ⟨p, h1, Ed_symm w h3, ih a p ha h1 h2⟩
theorem wy_symm (w : WFk n kn) {a b : Nat} (ha : a < n) (hb : b < n) : wy n kn b 0 9 (2 ^ a) = wy n kn a 0 9 (2 ^ b) := by
  have e : ∀ k, (rc n kn a k).testBit b = (rc n kn b k).testBit a := fun k => by
    rcases Bool.eq_false_or_eq_true ((rc n kn a k).testBit b) with h | h
    · rw [h, rc_symm w k a b ha hb h]
    · rcases Bool.eq_false_or_eq_true ((rc n kn b k).testBit a) with g | g
      · rw [rc_symm w k b a hb ha g] at h; exact absurd h (by decide)
      · rw [h, g]
  have key : ∀ m k, wy n kn b k m (rc n kn a k) = wy n kn a k m (rc n kn b k) := by
    intro m
    induction m with
    | zero => intro k; rfl
    | succ m ih =>
      intro k
      rw [wy_s (m := m), wy_s (m := m), e, ← rc_succ, ← rc_succ, ih]
  exact key 9 0
/-! as a Nat: nobody who isn't reached counts -/
def wn (n : Nat) (kn : Nat → Nat) (b : Nat) : Nat → Nat → Nat → Nat
  | _, 0, _ => 0
  | k, m + 1, s => if s.testBit b then k else wn n kn b (k + 1) m (wd n kn s)
theorem wy_wn (b : Nat) : ∀ m k s, (wy n kn b k m s = -4 ∧ wn n kn b k m s = 0) ∨ (wy n kn b k m s = nI (wn n kn b k m s) ∧ wn n kn b k m s < k + m) := by
  intro m
  induction m with
  | zero => intro k s; exact Or.inl ⟨rfl, rfl⟩
  | succ m ih =>
    intro k s
    rw [wy, wn]
    by_cases z : s.testBit b = true
    · rw [if_pos z, if_pos z]; exact Or.inr ⟨rfl, by omega⟩
    · rw [if_neg z, if_neg z]
      rcases ih (k + 1) (wd n kn s) with h | ⟨h1, h2⟩
      · exact Or.inl h
      · exact Or.inr ⟨h1, by omega⟩
def fn (n : Nat) (kn : Nat → Nat) (a b : Nat) : Nat := wn n kn b 0 9 (2 ^ a)
theorem nI_of_wy {a b : Nat} {v : Nat} (hv : v < 100) : (if nI v < wy n kn b 0 9 (2 ^ a) then wy n kn b 0 9 (2 ^ a) else nI v) = nI (max v (fn n kn a b)) ∧ (if wy n kn b 0 9 (2 ^ a) ≤ nI v then nI v else wy n kn b 0 9 (2 ^ a)) = nI (max v (fn n kn a b)) ∧ fn n kn a b < 100 := by
  have hm4 : (-4 : Int32) < nI v := neg_lt (by decide) (by omega)
  unfold fn
  rcases wy_wn (n := n) (kn := kn) b 9 0 (2 ^ a) with ⟨h1, h2⟩ | ⟨h1, h2⟩
  · rw [h1, h2, if_neg (fun z => Int32.lt_irrefl (Int32.lt_trans z hm4)), if_pos (Int32.le_of_lt hm4), Nat.max_eq_left (Nat.zero_le v)]
    exact ⟨rfl, rfl, by decide⟩
  · rw [h1]
    by_cases z : v < wn n kn b 0 9 (2 ^ a)
    · rw [if_pos (nI_lt z (by omega)), if_neg (nI_ge z (by omega)), Nat.max_eq_right (by omega)]
      exact ⟨rfl, rfl, by omega⟩
    · rw [if_neg (nI_nlt (by omega) (by omega)), if_pos (nI_le (by omega) (by omega)), Nat.max_eq_left (by omega)]
      exact ⟨rfl, rfl, by omega⟩
theorem itf_max (f : Nat → Nat) (c : Nat) : ∀ m i s, itf (fun k s => max s (f k)) i m s ≤ c ↔ s ≤ c ∧ ∀ k, i ≤ k → k < i + m → f k ≤ c := by
  intro m
  induction m with
  | zero => intro i s; exact ⟨fun h => ⟨h, fun k h1 h2 => absurd h1 (by omega)⟩, fun h => h.1⟩
  | succ m ih =>
    intro i s
    rw [itf, ih]
    constructor
    · rintro ⟨h1, h2⟩
      refine ⟨by omega, fun k g1 g2 => ?_⟩
      by_cases e : k = i
      · subst e; omega
      · exact h2 k (by omega) (by omega)
    · rintro ⟨h1, h2⟩
      refine ⟨?_, fun k g1 g2 => h2 k (by omega) (by omega)⟩
      have := h2 i (by omega) (by omega)
      omega
def wid1 (n : Nat) (kn : Nat → Nat) : Nat := itf (fun a s => itf (fun b s => max s (fn n kn a b)) (a + 1) (n - (a + 1)) s) 0 n 0
def wid2 (n : Nat) (kn : Nat → Nat) : Nat := itf (fun a s => itf (fun b s => max s (fn n kn a b)) 0 n s) 0 n 0
theorem itf_max2 (F : Nat → Nat → Nat) (lo : Nat → Nat) (c n : Nat) (hlo : ∀ a, lo a ≤ a + 1) : ∀ m i s, i + m ≤ n → (itf (fun a s => itf (fun b s => max s (F a b)) (lo a) (n - lo a) s) i m s ≤ c ↔ s ≤ c ∧ ∀ a b, i ≤ a → a < i + m → lo a ≤ b → b < n → F a b ≤ c) := by
  intro m
  induction m with
  | zero => intro i s _; exact ⟨fun h => ⟨h, fun a b h1 h2 => absurd h1 (by omega)⟩, fun h => h.1⟩
  | succ m ih =>
    intro i s hi
    have hl := hlo i
    rw [itf, ih _ _ (by omega), itf_max]
    constructor
    · rintro ⟨⟨h1, h2⟩, h3⟩
      refine ⟨h1, fun a b g1 g2 g3 g4 => ?_⟩
      by_cases e : a = i
      · subst e; exact h2 b g3 (by omega)
      · exact h3 a b (by omega) (by omega) g3 g4
    · rintro ⟨h1, h2⟩
      exact ⟨⟨h1, fun k g1 g2 => h2 i k (by omega) (by omega) g1 (by omega)⟩, fun a b g1 g2 g3 g4 => h2 a b (by omega) (by omega) g3 g4⟩
theorem fn_symm (w : WFk n kn) {a b : Nat} (ha : a < n) (hb : b < n) : fn n kn a b = fn n kn b a := by
  have h := wy_symm w ha hb
  unfold fn
  rcases wy_wn (n := n) (kn := kn) b 9 0 (2 ^ a) with ⟨h1, h2⟩ | ⟨h1, h2⟩
  · rcases wy_wn (n := n) (kn := kn) a 9 0 (2 ^ b) with ⟨g1, g2⟩ | ⟨g1, g2⟩
    · rw [h2, g2]
    · rw [h1, g1] at h
      exact absurd h.symm (by rw [nI_m4 (by omega)]; exact id)
  · rcases wy_wn (n := n) (kn := kn) a 9 0 (2 ^ b) with ⟨g1, g2⟩ | ⟨g1, g2⟩
    · rw [h1, g1] at h
      exact absurd h (by rw [nI_m4 (by omega)]; exact id)
    · rw [h1, g1, nI_eq (by omega) (by omega)] at h
      exact h
theorem fn_self (a : Nat) : fn n kn a a = 0 := by
  unfold fn
  rw [wn, if_pos (by rw [tb_pow]; simp)]
theorem wid_eq (w : WFk n kn) : wid1 n kn = wid2 n kn := by
  have k1 : ∀ c, wid1 n kn ≤ c ↔ _ := fun c => itf_max2 (fn n kn) (fun a => a + 1) c n (fun a => Nat.le_refl _) n 0 0 (by omega)
  have k2 : ∀ c, wid2 n kn ≤ c ↔ _ := fun c => itf_max2 (fn n kn) (fun _ => 0) c n (fun a => Nat.zero_le _) n 0 0 (by omega)
  refine Nat.le_antisymm ((k1 _).mpr ⟨Nat.zero_le _, fun a b h1 h2 h3 h4 => ?_⟩) ((k2 _).mpr ⟨Nat.zero_le _, fun a b h1 h2 h3 h4 => ?_⟩)
  · exact ((k2 _).mp (Nat.le_refl _)).2 a b h1 h2 (Nat.zero_le _) h4
  · have g := ((k1 _).mp (Nat.le_refl _)).2
    by_cases e : a < b
    · exact g a b h1 h2 e h4
    · by_cases e2 : a = b
      · subst e2; rw [fn_self]; exact Nat.zero_le _
      · rw [fn_symm w (by omega) h4]
        exact g b a (Nat.zero_le _) (by omega) (show b + 1 ≤ a by omega) (by omega)
end WAYS
