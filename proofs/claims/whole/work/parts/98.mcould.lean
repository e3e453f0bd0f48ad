/-! could, in the model -/
theorem log_top {c M : Nat} (h1 : 16 ^ M ≤ c) (h2 : c < 16 ^ (M + 1)) : Nat.log2 c / 4 = M := by
  have e1 : (16 : Nat) ^ M = 2 ^ (4 * M) := by rw [show (16 : Nat) = 2 ^ 4 from rfl, ← Nat.pow_mul]
  have e2 : (16 : Nat) ^ (M + 1) = 2 ^ (4 * (M + 1)) := by rw [show (16 : Nat) = 2 ^ 4 from rfl, ← Nat.pow_mul]
  have h0 : c ≠ 0 := by
    have := Nat.pow_pos (n := M) (show 0 < 16 by decide)
    omega
  rw [e1] at h1
  rw [e2] at h2
  have a := (Nat.le_log2 h0).mpr h1
  have b := (Nat.log2_lt h0).mpr h2
  omega
/-- told numbers in the array 75 -/
def TA (t : HS) (F : Nat → Nat) (n : Nat) : Prop := ∀ j, j < n → aI t 75 j = nI (F j) ∧ F j ≤ 8
def su (F : Nat → Nat) (M : Nat) : Nat → Nat := fun j => if M.testBit j then 0 else 16 ^ F j
def sd (F : Nat → Nat) (M : Nat) : Nat → Nat := fun j => if M.testBit j then 16 ^ F j else 0
theorem su_sd (F : Nat → Nat) (M n : Nat) : fb_sm (su F M) n + fb_sm (sd F M) n = fb_sm (fun j => 16 ^ F j) n := by
  rw [← fb_sm_add]
  refine fb_sm_cong (fun k _ => ?_)
  unfold su sd
  cases M.testBit k <;> simp
theorem pow16 {a b : Nat} (h : a ≤ b) : (16 : Nat) ^ a ≤ 16 ^ b := Nat.pow_le_pow_right (by decide) h
theorem sm_top {f : Nat → Nat} {n a M : Nat} (hn : n ≤ 9) (ha : a < n) (hf : f a = 16 ^ M) (hb : ∀ j, j < n → f j ≤ 16 ^ M) : Nat.log2 (fb_sm f n) / 4 = M := by
  refine log_top ?_ ?_
  · rw [← hf]; exact sm_ge f n ha
  · have h1 := fb_sm_bound hb
    have h2 : n * 16 ^ M ≤ 9 * 16 ^ M := Nat.mul_le_mul_right _ hn
    have h3 := Nat.pow_pos (n := M) (show 0 < 16 by decide)
    rw [Nat.pow_succ]
    omega
section MCOULD
variable {h : HS} {v1 : Int32}
theorem m_greatest {t : HS} {F : Nat → Nat} {n : Nat} (hn : n ≤ 9) (h0 : 0 < n) (T : TA t F n) : ∃ a, a < n ∧ X12_greatestTold t (nI n) = some (nI a) ∧ ∀ j, j < n → F j ≤ F a := by
  obtain ⟨a, e, h1, h2⟩ := loopR (fun fu k (a : Nat) => X12_greatestTold_B4 t (nI n) fu (nI a) (nI k)) (fun a => some (nI a)) n (fun _ (s : Unit) => s) (fun k _ a => a < n ∧ ∀ j, j < k → F j ≤ F a)
    (fun fu _ a _ => by
      show X12_greatestTold_B4 t (nI n) (fu + 1) (nI a) (nI n) = _
      rw [X12_greatestTold_B4, if_pos (nI_le (by omega) (by omega))])
    (fun fu k _ a hk J => by
      obtain ⟨j1, j2⟩ := J
      have e26 : ∀ u, X12_greatestTold_B26 t (nI n) (X12_greatestTold_B4 t (nI n) fu) u (nI k) = X12_greatestTold_B4 t (nI n) fu u (nI (k + 1)) := by
        intro u
        simp only [X12_greatestTold_B26, nm, L1, nI_add]
      have hk8 := (T k hk).2
      have ha8 := (T a j1).2
      show ∃ t1 : Nat, X12_greatestTold_B4 t (nI n) (fu + 1) (nI a) (nI k) = X12_greatestTold_B4 t (nI n) fu (nI t1) (nI (k + 1)) ∧ t1 < n ∧ ∀ j, j < k + 1 → F j ≤ F t1
      rw [X12_greatestTold_B4, if_neg (nI_ge (by omega) (by omega)), gdi_n (show k < 9 by omega) (by omega), gdi_n (show a < 9 by omega) (by omega), i_cl (show k < 2147483648 by omega), i_cl (show a < 2147483648 by omega), (T k hk).1, (T a j1).1, e26, e26]
      by_cases z : F k ≤ F a
      · rw [if_pos (nI_le z (by omega))]
        refine ⟨a, rfl, j1, fun j hj => ?_⟩
        by_cases y : j = k
        · rw [y]; exact z
        · exact j2 j (by omega)
      · rw [if_neg (nI_ge (by omega) (by omega))]
        refine ⟨k, rfl, hk, fun j hj => ?_⟩
        by_cases y : j = k
        · rw [y]; exact Nat.le_refl _
        · have := j2 j (by omega)
          omega)
    n FU 0 () 0 (by omega) (FU_lt (by omega)) ⟨h0, fun j hj => absurd hj (by omega)⟩
  exact ⟨a, h1, e, h2⟩
/-- whom the search has found -/
def fnd (F : Nat → Nat) (M n k : Nat) (v : Int32) : Prop := (v = -1 ∧ ∀ j, j < k → M.testBit j = false → F j = 0) ∨ ∃ b, v = nI b ∧ b < n ∧ M.testBit b = false ∧ 0 < F b ∧ ∀ j, j < k → M.testBit j = false → F j ≤ F b
theorem m_search {K83 : Int32 → Int32 → HS → Option (Int32 × HS)} {K : Int32 → Int32 → Int32 → Int32 → HS → Option (Int32 × HS)} {t : HS} {F : Nat → Nat} {n M : Nat} {k l : Int32} (hn : n ≤ 9) (hM : M < 512) (T : TA t F n) :
    ∃ v, X12_could_B130 v1 K83 K FU (nI n) k l (nI M) (-1) 0 t = X12_could_B130 v1 K83 K 1 (nI n) k l (nI M) v (nI n) t ∧ fnd F M n n v := by
  refine loopR (fun fu o (v : Int32) => X12_could_B130 v1 K83 K fu (nI n) k l (nI M) v (nI o) t) (fun v => X12_could_B130 v1 K83 K 1 (nI n) k l (nI M) v (nI n) t) n (fun _ (s : Unit) => s) (fun o _ v => fnd F M n o v)
    (fun fu _ v _ => by
      show X12_could_B130 v1 K83 K (fu + 1) (nI n) k l (nI M) v (nI n) t = X12_could_B130 v1 K83 K 1 (nI n) k l (nI M) v (nI n) t
      rw [X12_could_B130, X12_could_B130, if_pos (nI_le (by omega) (by omega)), if_pos (nI_le (by omega) (by omega))])
    (fun fu o _ v ho J => ?_)
    n FU 0 () (-1) (by omega) (FU_lt (by omega)) (Or.inl ⟨rfl, fun j hj => absurd hj (by omega)⟩)
  have e182 : ∀ u, X12_could_B182 v1 K83 K (X12_could_B130 v1 K83 K fu) (nI n) k l (nI M) u (nI o) t = X12_could_B130 v1 K83 K fu (nI n) k l (nI M) u (nI (o + 1)) t := by
    intro u
    simp only [X12_could_B182, nm, L1, nI_add]
  have e178 : X12_could_B178 v1 K83 K (X12_could_B130 v1 K83 K fu) (nI n) k l (nI M) (nI o) t = X12_could_B130 v1 K83 K fu (nI n) k l (nI M) (nI o) (nI (o + 1)) t := by
    unfold X12_could_B178
    rw [e182]
  obtain ⟨hT, h8⟩ := T o ho
  show ∃ v2 : Int32, X12_could_B130 v1 K83 K (fu + 1) (nI n) k l (nI M) v (nI o) t = X12_could_B130 v1 K83 K fu (nI n) k l (nI M) v2 (nI (o + 1)) t ∧ fnd F M n (o + 1) v2
  rw [X12_could_B130, if_neg (nI_ge (by omega) (by omega)), has_n (by omega) (by omega), Option.bind_some, gdi_n (show o < 9 by omega) (by omega), gdi_n (show o < 9 by omega) (by omega), i_cl (show o < 2147483648 by omega), hT, e182, e178]
  have ext : (M.testBit o = false → F o = 0) → fnd F M n (o + 1) v := by
    intro z
    rcases J with ⟨a, b⟩ | ⟨b, b1, b2, b3, b4, b5⟩
    · refine Or.inl ⟨a, fun j hj y => ?_⟩
      by_cases e : j = o
      · subst e; exact z y
      · exact b j (by omega) y
    · refine Or.inr ⟨b, b1, b2, b3, b4, fun j hj y => ?_⟩
      by_cases e : j = o
      · subst e; rw [z y]; omega
      · exact b5 j (by omega) y
  cases hb : M.testBit o
  · rw [if_pos (show nI false.toNat = 0 from rfl)]
    by_cases z0 : F o = 0
    · rw [if_pos (show nI (F o) ≤ 0 by rw [z0]; decide)]
      exact ⟨v, rfl, ext (fun _ => z0)⟩
    · rw [if_neg (nI_nle (by omega) (by omega))]
      rcases J with ⟨a, b⟩ | ⟨b, b1, b2, b3, b4, b5⟩
      · rw [a, if_pos (show (-1 : Int32) < 0 by decide)]
        refine ⟨nI o, rfl, Or.inr ⟨o, rfl, ho, hb, by omega, fun j hj y => ?_⟩⟩
        by_cases e : j = o
        · rw [e]; exact Nat.le_refl _
        · rw [b j (by omega) y]; omega
      · have hb8 := (T b b2).2
        rw [b1, if_neg (nI_pos (by omega)), gdi_n (show b < 9 by omega) (by omega), i_cl (show b < 2147483648 by omega), (T b b2).1]
        by_cases z : F o ≤ F b
        · rw [if_pos (nI_le z (by omega))]
          refine ⟨nI b, rfl, Or.inr ⟨b, rfl, b2, b3, b4, fun j hj y => ?_⟩⟩
          by_cases e : j = o
          · rw [e]; exact z
          · exact b5 j (by omega) y
        · rw [if_neg (nI_ge (by omega) (by omega))]
          refine ⟨nI o, rfl, Or.inr ⟨o, rfl, ho, hb, by omega, fun j hj y => ?_⟩⟩
          by_cases e : j = o
          · rw [e]; exact Nat.le_refl _
          · have := b5 j (by omega) y
            omega
  · rw [if_neg (show ¬ nI true.toNat = 0 by decide)]
    exact ⟨v, rfl, ext (fun y => by rw [hb] at y; exact absurd y (by decide))⟩
theorem m_left {K83 : Int32 → Int32 → HS → Option (Int32 × HS)} {n : Nat} {k : Nat} (hn : n ≤ 9) : ∀ l fu t F M, l < fu → l ≤ 8 → M < 2 ^ n → Keep h t → TA t F n →
    (pks l (fb_sm (su F M) n) (fb_sm (sd F M) n) = none ∧ ∃ t1, X12_could_B119 v1 K83 fu (nI n) (nI k) (nI l) (nI M) t = some (0, t1) ∧ Keep h t1) ∨ (∃ c1 t1 F1, pks l (fb_sm (su F M) n) (fb_sm (sd F M) n) = some c1 ∧ X12_could_B119 v1 K83 fu (nI n) (nI k) (nI l) (nI M) t = K83 (nI n) (nI (k + 1)) t1 ∧ Keep h t1 ∧ TA t1 F1 n ∧ fb_sm (fun j => 16 ^ F1 j) n = c1) := by
  have h9 := pow_le9 hn
  intro l
  induction l with
  | zero =>
    intro fu t F M hf _ hM hk T
    obtain ⟨fu, rfl⟩ : ∃ f, fu = f + 1 := ⟨fu - 1, by omega⟩
    refine Or.inr ⟨_, t, F, rfl, ?_, hk, T, (su_sd F M n).symm⟩
    rw [X12_could_B119, if_pos (show nI 0 ≤ 0 by decide)]
    simp only [nm, L1, nI_add]
  | succ l ih =>
    intro fu t F M hf hl hM hk T
    obtain ⟨fu, rfl⟩ : ∃ f, fu = f + 1 := ⟨fu - 1, by omega⟩
    obtain ⟨v, e1, hv⟩ := m_search (v1 := v1) (K83 := K83) (K := X12_could_B119 v1 K83 fu) (k := nI k) (l := nI (l + 1)) hn (show M < 512 by omega) T
    have e0 : X12_could_B119 v1 K83 (fu + 1) (nI n) (nI k) (nI (l + 1)) (nI M) t = X12_could_B130 v1 K83 (X12_could_B119 v1 K83 fu) 1 (nI n) (nI k) (nI (l + 1)) (nI M) v (nI n) t := by
      rw [X12_could_B119, if_neg (nI_nle (by omega) (by omega))]
      exact e1
    rw [e0, X12_could_B130, if_pos (nI_le (a := n) (b := n) (by omega) (by omega)), pks]
    rcases hv with ⟨a, b⟩ | ⟨b, b1, b2, b3, b4, b5⟩
    · have hu : fb_sm (su F M) n < 16 := by
        have : fb_sm (su F M) n ≤ n * 1 := fb_sm_bound (fun j hj => by
          unfold su
          cases e : M.testBit j
          · rw [b j hj e]; simp
          · simp)
        omega
      refine Or.inl ⟨?_, t, ?_, hk⟩
      · rw [if_pos (by rw [Nat.blt_eq]; exact hu)]
      · rw [a, if_neg (by decide)]
    · have hb8 := (T b b2).2
      have hfb : su F M b = 16 ^ F b := by unfold su; rw [b3]; rfl
      have htop : Nat.log2 (fb_sm (su F M) n) / 4 = F b := sm_top hn b2 hfb (fun j hj => by
        unfold su
        cases e : M.testBit j
        · exact pow16 (b5 j hj e)
        · exact Nat.zero_le _)
      have hge := sm_ge (su F M) n b2
      rw [hfb] at hge
      have h16 : (16 : Nat) ^ 1 ≤ 16 ^ F b := pow16 b4
      have hu : ¬ fb_sm (su F M) n < 16 := by omega
      have hM2 : M ||| 2 ^ b < 2 ^ n := or_lt hM (pow_lt b2)
      have t1T : TA (sA t 75 (upd (aI t 75) b (nI (F b - 1)))) (fun j => if j = b then F b - 1 else F j) n := fun j hj => by
        show _ = nI (if j = b then F b - 1 else F j) ∧ (if j = b then F b - 1 else F j) ≤ 8
        rw [aI_sA_eq]
        by_cases e : j = b
        · rw [e, pk_us, if_pos rfl]; exact ⟨rfl, by omega⟩
        · rw [pk_un e, if_neg e]; exact T j hj
      have su1 : fb_sm (su (fun j => if j = b then F b - 1 else F j) (M ||| 2 ^ b)) n = fb_sm (su F M) n - 16 ^ F b := by
        have e : fb_sm (su (fun j => if j = b then F b - 1 else F j) (M ||| 2 ^ b)) n = fb_sm (fun j => if j = b then 0 else su F M j) n := fb_sm_cong (fun j _ => by
          unfold su
          rw [or_bit]
          by_cases e : j = b
          · rw [e]; simp
          · have : ¬ b = j := fun z => e z.symm
            simp [e, this])
        have := fb_sm_upd (su F M) 0 b2
        rw [hfb] at this
        rw [e]
        omega
      have sd1 : fb_sm (sd (fun j => if j = b then F b - 1 else F j) (M ||| 2 ^ b)) n = fb_sm (sd F M) n + 16 ^ (F b - 1) := by
        have e : fb_sm (sd (fun j => if j = b then F b - 1 else F j) (M ||| 2 ^ b)) n = fb_sm (fun j => if j = b then 16 ^ (F b - 1) else sd F M j) n := fb_sm_cong (fun j _ => by
          unfold sd
          rw [or_bit]
          by_cases e : j = b
          · rw [e]; simp
          · have : ¬ b = j := fun z => e z.symm
            simp [e, this])
        have := fb_sm_upd (sd F M) (16 ^ (F b - 1)) b2
        have e2 : sd F M b = 0 := by unfold sd; rw [b3]; rfl
        rw [e2] at this
        rw [e]
        omega
      have := ih fu (sA t 75 (upd (aI t 75) b (nI (F b - 1)))) (fun j => if j = b then F b - 1 else F j) (M ||| 2 ^ b) (by omega) (by omega) hM2 (hk.a (by decide)) t1T
      rw [su1, sd1] at this
      rw [if_neg (by rw [Nat.blt_eq]; exact hu), htop, b1, if_pos (show (0 : Int32) ≤ nI b from nI_pos' (by omega)), gdi_n (show b < 9 by omega) (by omega), gdi_n (show b < 9 by omega) (by omega), i_cl (show b < 2147483648 by omega), (T b b2).1, L1, pk_sub (show 1 ≤ F b by omega), ← L1, i_pow (show b < 31 by omega), i_or, pk_m1]
      simp only [nm]
      exact this
theorem m_rounds {n : Nat} (hn : n ≤ 9) : ∀ m k fu t F, k + m = n → m < fu → Keep h t → TA t F n → ∃ t1, X12_could_B83 v1 fu (nI n) (nI k) t = some (nI (hh m (fb_sm (fun j => 16 ^ F j) n)).toNat, t1) ∧ Keep h t1 := by
  intro m
  induction m with
  | zero =>
    intro k fu t F hk hf K T
    obtain ⟨fu, rfl⟩ : ∃ f, fu = f + 1 := ⟨fu - 1, by omega⟩
    refine ⟨t, ?_, K⟩
    rw [X12_could_B83, if_pos (nI_le (by omega) (by omega)), hh]; rfl
  | succ m ih =>
    intro k fu t F hk hf K T
    obtain ⟨fu, rfl⟩ : ∃ f, fu = f + 1 := ⟨fu - 1, by omega⟩
    obtain ⟨a, a1, a2, a3⟩ := m_greatest hn (by omega) T
    have ha8 := (T a a1).2
    have htop : Nat.log2 (fb_sm (fun j => 16 ^ F j) n) / 4 = F a := sm_top hn a1 rfl (fun j hj => pow16 (a3 j hj))
    have T1 : TA (sA t 75 (upd (aI t 75) a 0)) (fun j => if j = a then 0 else F j) n := fun j hj => by
      show _ = nI (if j = a then 0 else F j) ∧ (if j = a then 0 else F j) ≤ 8
      rw [aI_sA_eq]
      by_cases e : j = a
      · rw [e, pk_us, if_pos rfl]; exact ⟨rfl, by omega⟩
      · rw [pk_un e, if_neg e]; exact T j hj
    have su1 : fb_sm (su (fun j => if j = a then 0 else F j) (2 ^ a)) n = fb_sm (fun j => 16 ^ F j) n - 16 ^ F a := by
      have e : fb_sm (su (fun j => if j = a then 0 else F j) (2 ^ a)) n = fb_sm (fun j => if j = a then 0 else 16 ^ F j) n := fb_sm_cong (fun j _ => by
        unfold su
        rw [tb_pow]
        by_cases e : j = a
        · rw [e]; simp
        · have : ¬ a = j := fun z => e z.symm
          simp [e, this])
      have := fb_sm_upd (fun j => 16 ^ F j) 0 a1
      rw [e]
      omega
    have sd1 : fb_sm (sd (fun j => if j = a then 0 else F j) (2 ^ a)) n = 1 := by
      have e : fb_sm (sd (fun j => if j = a then 0 else F j) (2 ^ a)) n = fb_sm (fun j => if j = a then 1 else 0) n := fb_sm_cong (fun j _ => by
        unfold sd
        rw [tb_pow]
        by_cases e : j = a
        · rw [e]; simp
        · have : ¬ a = j := fun z => e z.symm
          simp [e, this])
      rw [e, sm_one a 1 a1]
    have hl := m_left (h := h) (v1 := v1) (K83 := X12_could_B83 v1 fu) (k := k) hn (F a) FU (sA t 75 (upd (aI t 75) a 0)) (fun j => if j = a then 0 else F j) (2 ^ a) (FU_lt (by omega)) ha8 (pow_lt a1) (K.a (by decide)) T1
    rw [su1, sd1] at hl
    have e0 : X12_could_B83 v1 (fu + 1) (nI n) (nI k) t = X12_could_B119 v1 (X12_could_B83 v1 fu) FU (nI n) (nI k) (nI (F a)) (nI (2 ^ a)) (sA t 75 (upd (aI t 75) a 0)) := by
      rw [X12_could_B83, if_neg (nI_ge (by omega) (by omega)), a2, Option.bind_some, gdi_n (show a < 9 by omega) (by omega)]
      simp only [nm]
      rw [gdi_n (show a < 9 by omega) (by omega), i_cl (show a < 2147483648 by omega), (T a a1).1, i_pow (show a < 31 by omega)]
    rw [e0, hh, htop]
    rcases hl with ⟨p1, t1, e1, k1⟩ | ⟨c1, t1, F1, p1, e1, k1, T2, hc⟩
    · rw [p1]
      exact ⟨t1, e1, k1⟩
    · rw [p1, e1, ← hc]
      exact ih (k + 1) fu t1 F1 (by omega) (by omega) k1 T2
variable {q ho so le : Nat} {el : Nat → Int32}
theorem m_could (hq : q < 8) (S : ShP h q ho so le el) (hle : le ≤ 9) : ∀ m i fu t, i + m = le → m < fu → Keep h t → (∀ j, j < i → aI t 75 j = el j ∧ ∃ v, v ≤ 8 ∧ el j = nI v) →
    ((∀ j, j < le → ∃ v, v ≤ 8 ∧ el j = nI v) → ∃ t1, X12_could_B31 (nI q) fu (nI le) (nI i) t = some (nI (hh le (fb_sm (fun j => 16 ^ (el j).toNatClampNeg) le)).toNat, t1) ∧ Keep h t1) ∧ ((∃ j, j < le ∧ ∀ v, v ≤ 8 → el j ≠ nI v) → ∃ t1, X12_could_B31 (nI q) fu (nI le) (nI i) t = some (0, t1) ∧ Keep h t1) := by
  intro m
  induction m with
  | zero =>
    intro i fu t hi hf K T
    obtain ⟨fu, rfl⟩ : ∃ f, fu = f + 1 := ⟨fu - 1, by omega⟩
    have e : i = le := by omega
    subst e
    refine ⟨fun _ => ?_, fun ⟨j, h1, h2⟩ => ?_⟩
    · rw [X12_could_B31, if_pos (nI_le (by omega) (by omega))]
      refine m_rounds hle i 0 FU t (fun j => (el j).toNatClampNeg) (by omega) (FU_lt (by omega)) K (fun j hj => ?_)
      obtain ⟨g1, v, g2, g3⟩ := T j hj
      have e : (el j).toNatClampNeg = v := by rw [g3, i_cl (by omega)]
      rw [g1]
      show el j = nI (el j).toNatClampNeg ∧ (el j).toNatClampNeg ≤ 8
      rw [e]
      exact ⟨g3, g2⟩
    · obtain ⟨_, v, g2, g3⟩ := T j h1
      exact absurd g3 (h2 v g2)
  | succ m ih =>
    intro i fu t hi hf K T
    obtain ⟨fu, rfl⟩ : ∃ f, fu = f + 1 := ⟨fu - 1, by omega⟩
    have St := K.shelf hq S
    have hel := (St.2.2.2.2.1 i (by omega)).2
    have e0 : X12_could_B31 (nI q) (fu + 1) (nI le) (nI i) t = ((X12_isIn (el i) 0 8).bind fun q11 => (if q11 = 0 then some (0, sA t 75 (upd (aI t 75) i (el i))) else X12_could_B31 (nI q) fu (nI le) (nI (i + 1)) (sA t 75 (upd (aI t 75) i (el i))))) := by
      rw [X12_could_B31, if_neg (nI_ge (by omega) (by omega)), L100, pk_mul, nI_add, gdi_n (show 100 * q + i < 800 by omega) (by omega), gdi_n (show i < 9 by omega) (by omega), i_cl (show i < 2147483648 by omega), i_cl (show 100 * q + i < 2147483648 by omega), hel]
      simp only [nm]
      rw [gdi_n (show i < 9 by omega) (by omega), aI_sA_eq, pk_us, L1, nI_add]
    have K1 : Keep h (sA t 75 (upd (aI t 75) i (el i))) := K.a (by decide)
    rw [e0]
    rcases arg_in (el i) 9 with ⟨v, hv, hv2, e⟩ | hout
    · rw [show X12_isIn (el i) 0 8 = some (nI 1) from by rw [e]; exact isIn_in hv (by decide), Option.bind_some, if_neg (show ¬ nI 1 = 0 by decide)]
      exact ih (i + 1) fu _ (by omega) (by omega) K1 (fun j hj => by
        rw [aI_sA_eq]
        by_cases z : j = i
        · rw [z, pk_us]; exact ⟨rfl, v, by omega, e⟩
        · rw [pk_un z]; exact T j (by omega))
    · rw [show X12_isIn (el i) 0 8 = some (nI 0) from isIn_out hout (by decide), Option.bind_some, if_pos (show nI 0 = 0 from rfl)]
      refine ⟨fun G => ?_, fun _ => ⟨_, rfl, K1⟩⟩
      obtain ⟨v, g1, g2⟩ := G i (by omega)
      have := out_ne hout (show v < 9 by omega) (by decide)
      rw [g2] at this
      exact absurd rfl (fun z : nI v = nI v => by rw [this] at z; exact z)
theorem S_could (I : Inv h) (u : Int32) : ∃ r h1 h2, X11_could h u = some (r, h1) ∧ X12_could h1 u = some (r, h2) ∧ Inv h2 := by
  rcases arg_in u 8 with ⟨k, h1, h2, rfl⟩ | hu
  · obtain ⟨ho, so, le, el, S⟩ := I.2.2.1 k h1
    have hle := S.2.2.2.1.2.2
    have e0 : X11_could h (nI k) = (if rrf ho = 0 then (X11_sortNumbers h (50 + 2 * k)).bind fun q7 => (if q7.1 = 0 then some (0, q7.2) else (X7_size q7.2 (50 + 2 * k)).bind fun q9 => (X11_numbersFit q7.2 q9).bind fun q10 => (if q10 = 0 then some (0, q7.2) else some (1, q7.2))) else some (rrf ho, h)) := by
      unfold X11_could
      rw [c_shelf_in h1]
      show (X11_rowRefusal h (some (50 + 2 * k))).bind _ = _
      rw [c_rowRef S]; rfl
    have em : ∀ {t ho so le el}, ShP t k ho so le el → X12_could t (nI k) = (if rrf ho = 0 then (if nI le ≤ 9 then X12_could_B31 (nI k) FU (nI le) 0 t else some (0, t)) else some (rrf ho, t)) := by
      intro t ho so le el S
      unfold X12_could
      rw [m_rowRef h1 S (by decide), Option.bind_some, gdi_n h1 (by omega), i_cl (show k < 2147483648 by omega), S.2.2.2.1.2.1]
      simp only [nm]
    by_cases q : ho = 2
    · subst q
      rw [e0, if_pos (show rrf 2 = 0 from rfl)]
      by_cases z : le ≤ 9
      · rcases c_sort h1 S z with ⟨t, s, e1, ⟨K, J1, J2, J3⟩, G⟩ | ⟨t, e1, K, B⟩
        · have St := K.shelf h1 S
          obtain ⟨t2, e2, k2⟩ := (m_could h1 St z le 0 FU t (by omega) (FU_lt (by omega)) (Keep.refl t) (fun j hj => absurd hj (by omega))).1 G
          refine ⟨nI (hh le (fb_sm (fun j => 16 ^ (el j).toNatClampNeg) le)).toNat, t, t2, ?_, ?_, (K.trans k2).inv I⟩
          · rw [e1, Option.bind_some, if_neg (show ¬ (1 : Int32) = 0 by decide), c_size St, Option.bind_some, c_fit z J1, Option.bind_some, seq_eq z (fun i hi => (J1 i hi).2) J2, hsq_0, J3]
            cases hh le (fb_sm (fun j => 16 ^ (el j).toNatClampNeg) le) <;> rfl
          · rw [em St, if_pos (show rrf 2 = 0 from rfl), if_pos (show nI le ≤ 9 from nI_le (b := 9) z (by decide))]
            exact e2
        · have St := K.shelf h1 S
          obtain ⟨t2, e2, k2⟩ := (m_could h1 St z le 0 FU t (by omega) (FU_lt (by omega)) (Keep.refl t) (fun j hj => absurd hj (by omega))).2 B
          refine ⟨0, t, t2, ?_, ?_, (K.trans k2).inv I⟩
          · rw [e1, Option.bind_some]; rfl
          · rw [em St, if_pos (show rrf 2 = 0 from rfl), if_pos (show nI le ≤ 9 from nI_le (b := 9) z (by decide))]
            exact e2
      · refine ⟨0, h, h, ?_, ?_, I⟩
        · unfold X11_sortNumbers
          rw [c_size S, Option.bind_some, if_neg (show ¬ nI le ≤ 9 from nI_ge (a := 9) (by omega) (by omega))]; rfl
        · rw [em S, if_pos (show rrf 2 = 0 from rfl), if_neg (show ¬ nI le ≤ 9 from nI_ge (a := 9) (by omega) (by omega))]
    · have hne := rrf_ne S.1.2.2 q
      exact ⟨rrf ho, h, h, by rw [e0, if_neg hne], by rw [em S, if_neg hne], I⟩
  · refine ⟨-1, h, h, ?_, ?_, I⟩
    · unfold X11_could
      rw [c_shelf_out hu]; rfl
    · unfold X12_could
      rw [m_row_out hu]; rfl
end MCOULD
