/-! could: both ways say the same of every falling row -/
theorem upto_all {p : Nat → Bool} : ∀ m v, upto m v p = true → ∀ x, v ≤ x → x < v + m → p x = true := by
  intro m
  induction m with
  | zero => intro v _ x h1 h2; exact absurd h1 (by omega)
  | succ m ih =>
    intro v h x h1 h2
    rw [upto, Bool.and_eq_true] at h
    by_cases e : x = v
    · rw [e]; exact h.1
    · exact ih (v + 1) h.2 x (by omega) (by omega)
theorem upto_of {p : Nat → Bool} : ∀ m v, (∀ x, v ≤ x → x < v + m → p x = true) → upto m v p = true := by
  intro m
  induction m with
  | zero => intro v _; rfl
  | succ m ih =>
    intro v h
    rw [upto, h v (Nat.le_refl v) (by omega), ih (v + 1) (fun x h1 h2 => h x (by omega) (by omega))]
    rfl
theorem en8 : enum 8 8 0 [] 0 = true := by
  have key : ∀ x, x < 9 → enum 8 7 x [x] (16 ^ x + 0) = true := by
    intro x hx
    match x, hx with
    | 0, _ => exact en8_0
    | 1, _ => exact en8_1
    | 2, _ => exact en8_2
    | 3, _ => exact en8_3
    | 4, _ => exact en8_4
    | 5, _ => exact en8_5
    | 6, _ => exact en8_6
    | 7, _ => exact en8_7
    | 8, _ => exact en8_8
    | x + 9, h => exact absurd h (by omega)
  rw [enum]
  exact upto_of _ 0 (fun x _ h => key x (by omega))
theorem en9_0 : enum 9 8 0 [0] 1 = true := by
  have key : ∀ x, x < 9 → enum 9 7 x [x, 0] (16 ^ x + 1) = true := by
    intro x hx
    match x, hx with
    | 0, _ => exact en9_00
    | 1, _ => exact en9_01
    | 2, _ => exact en9_02
    | 3, _ => exact en9_03
    | 4, _ => exact en9_04
    | 5, _ => exact en9_05
    | 6, _ => exact en9_06
    | 7, _ => exact en9_07
    | 8, _ => exact en9_08
    | x + 9, h => exact absurd h (by omega)
  rw [enum]
  exact upto_of _ 0 (fun x _ h => key x (by omega))
theorem en9 : enum 9 9 0 [] 0 = true := by
  have key : ∀ x, x < 9 → enum 9 8 x [x] (16 ^ x + 0) = true := by
    intro x hx
    match x, hx with
    | 0, _ => exact en9_0
    | 1, _ => exact en9_1
    | 2, _ => exact en9_2
    | 3, _ => exact en9_3
    | 4, _ => exact en9_4
    | 5, _ => exact en9_5
    | 6, _ => exact en9_6
    | 7, _ => exact en9_7
    | 8, _ => exact en9_8
    | x + 9, h => exact absurd h (by omega)
  rw [enum]
  exact upto_of _ 0 (fun x _ h => key x (by omega))
theorem en_all : ∀ n, n ≤ 9 → enum n n 0 [] 0 = true := by
  intro n hn
  match n, hn with
  | 0, _ => exact en0
  | 1, _ => exact en1
  | 2, _ => exact en2
  | 3, _ => exact en3
  | 4, _ => exact en4
  | 5, _ => exact en5
  | 6, _ => exact en6
  | 7, _ => exact en7
  | 8, _ => exact en8
  | 9, _ => exact en9
  | n + 10, h => exact absurd h (by omega)
def lsq (s : Nat → Nat) : Nat → Nat → List Nat
  | _, 0 => []
  | k, m + 1 => s k :: lsq s (k + 1) m
def hsq (s : Nat → Nat) : Nat → Nat → Nat
  | _, 0 => 0
  | k, m + 1 => 16 ^ s k + hsq s (k + 1) m
theorem fall_le {n : Nat} {s : Nat → Nat} (hd : ∀ i, i + 1 < n → s (i + 1) ≤ s i) : ∀ m i, i + m < n → s (i + m) ≤ s i := by
  intro m
  induction m with
  | zero => intro i _; exact Nat.le_refl _
  | succ m ih => intro i h; exact Nat.le_trans (hd (i + m) (by omega)) (ih i (by omega))
theorem enum_ok {n : Nat} {s : Nat → Nat} (hs : ∀ i, i < n → s i ≤ 8) (hd : ∀ i, i + 1 < n → s (i + 1) ≤ s i) : ∀ k lo, k ≤ n → (∀ i, i < k → lo ≤ s i) → enum n k lo (lsq s k (n - k)) (hsq s k (n - k)) = true → egl (lsq s 0 n) 1 0 = hh n (hsq s 0 n) := by
  intro k
  induction k with
  | zero =>
    intro lo _ _ h
    rw [enum, Nat.sub_zero] at h
    cases e1 : egl (lsq s 0 n) 1 0 <;> cases e2 : hh n (hsq s 0 n) <;> rw [e1, e2] at h <;> simp_all
  | succ k ih =>
    intro lo hk hlo h
    rw [enum] at h
    have h1 := hlo k (by omega)
    have h2 := hs k (by omega)
    have h3 := upto_all _ _ h (s k) h1 (by omega)
    refine ih (s k) (by omega) (fun i hi => ?_) ?_
    · obtain ⟨m, hm⟩ : ∃ m, k = i + m := ⟨k - i, by omega⟩
      rw [hm]; exact fall_le hd m i (by omega)
    · obtain ⟨m, hm⟩ : ∃ m, n - k = m + 1 := ⟨n - k - 1, by omega⟩
      have hm2 : n - (k + 1) = m := by omega
      rw [hm2] at h3
      rw [hm]
      exact h3
theorem seq_eq {n : Nat} {s : Nat → Nat} (hn : n ≤ 9) (hs : ∀ i, i < n → s i ≤ 8) (hd : ∀ i, i + 1 < n → s (i + 1) ≤ s i) : egl (lsq s 0 n) 1 0 = hh n (hsq s 0 n) :=
  enum_ok hs hd n 0 (Nat.le_refl n) (fun i _ => Nat.zero_le _) (by rw [Nat.sub_self]; exact en_all n hn)
theorem hsq_sm (s : Nat → Nat) : ∀ m k, hsq s k m + fb_sm (fun i => 16 ^ s i) k = fb_sm (fun i => 16 ^ s i) (k + m) := by
  intro m
  induction m with
  | zero => intro k; rw [hsq, Nat.zero_add]; rfl
  | succ m ih =>
    intro k
    have := ih (k + 1)
    rw [fb_sm_succ] at this
    rw [hsq, show k + (m + 1) = k + 1 + m by omega, ← this]
    omega
theorem hsq_0 (s : Nat → Nat) (n : Nat) : hsq s 0 n = fb_sm (fun i => 16 ^ s i) n := by
  have := hsq_sm s n 0
  rw [Nat.zero_add] at this
  exact this
/-- v put in at p -/
def ins (s : Nat → Nat) (p v : Nat) : Nat → Nat := fun j => if j < p then s j else if j = p then v else s (j - 1)
theorem ins_sum (s : Nat → Nat) (p v : Nat) : ∀ m, fb_sm (fun j => 16 ^ ins s p v j) (p + m + 1) = fb_sm (fun j => 16 ^ s j) (p + m) + 16 ^ v := by
  intro m
  induction m with
  | zero =>
    rw [fb_sm_succ, Nat.add_zero]
    have e : fb_sm (fun j => 16 ^ ins s p v j) p = fb_sm (fun j => 16 ^ s j) p := fb_sm_cong (fun k hk => by unfold ins; rw [if_pos hk])
    rw [e]
    unfold ins
    rw [if_neg (Nat.lt_irrefl p), if_pos rfl]
  | succ m ih =>
    rw [show p + (m + 1) + 1 = (p + m + 1) + 1 by omega, fb_sm_succ, ih, show p + (m + 1) = (p + m) + 1 by omega, fb_sm_succ]
    have e : ins s p v (p + m + 1) = s (p + m) := by
      unfold ins
      rw [if_neg (by omega), if_neg (by omega)]; rfl
    rw [e]
    omega
theorem ins_fall {s : Nat → Nat} {p v i : Nat} (hp : p ≤ i) (hd : ∀ j, j + 1 < i → s (j + 1) ≤ s j) (h1 : ∀ j, p ≤ j → j < i → s j ≤ v) (h2 : 0 < p → v ≤ s (p - 1)) : ∀ j, j + 1 < i + 1 → ins s p v (j + 1) ≤ ins s p v j := by
  intro j hj
  unfold ins
  rcases Nat.lt_trichotomy (j + 1) p with z | z | z
  · rw [if_pos z, if_pos (by omega)]; exact hd j (by omega)
  · rw [if_neg (by omega), if_pos z, if_pos (by omega)]
    have := h2 (by omega)
    rw [show j = p - 1 by omega]; exact this
  · rw [if_neg (by omega), if_neg (by omega), Nat.add_sub_cancel]
    by_cases e : j = p
    · rw [if_neg (by omega), if_pos e]; exact h1 j (by omega) (by omega)
    · rw [if_neg (by omega), if_neg e]
      obtain ⟨i1, rfl⟩ : ∃ i1, j = i1 + 1 := ⟨j - 1, by omega⟩
      exact hd i1 (by omega)
section COULDC
variable {h : HS} {q ho so le : Nat} {el : Nat → Int32}
theorem c_fit {n : Nat} {s : Nat → Nat} (hn : n ≤ 9) (hs : ∀ i, i < n → aI h 2 i = nI (s i) ∧ s i ≤ 8) : X11_numbersFit h (nI n) = some (nI (egl (lsq s 0 n) 1 0).toNat) := by
  have in30 : ∀ (K : Int32 → Int32 → Option Int32) (a f : Nat), a < 100 → f < 10 → ∀ m i g fu, i + m = n → m < fu → g ≤ 72 + 9 * i → X11_numbersFit_B30 h (nI n) K fu (nI a) (nI f) (nI g) (nI i) = (if a ≤ g + smin f (lsq s i m) then K (nI a) (nI (f + 1)) else some 0) := by
    intro K a f ha hf10 m
    induction m with
    | zero =>
      intro i g fu hi hf hg
      obtain ⟨fu, rfl⟩ : ∃ f, fu = f + 1 := ⟨fu - 1, by omega⟩
      rw [X11_numbersFit_B30, if_pos (nI_le (by omega) (by omega)), lsq, smin, Nat.add_zero]
      by_cases z : a ≤ g
      · rw [if_pos (nI_le z (by omega)), if_pos z]
        simp only [nm, L1, nI_add]
      · rw [if_neg (nI_ge (by omega) (by omega)), if_neg z]
    | succ m ih =>
      intro i g fu hi hf hg
      obtain ⟨fu, rfl⟩ : ∃ f, fu = f + 1 := ⟨fu - 1, by omega⟩
      obtain ⟨h1, h2⟩ := hs i (by omega)
      rw [X11_numbersFit_B30, if_neg (nI_ge (by omega) (by omega)), gdi_n (show i < 9 by omega) (by omega), i_cl (show i < 2147483648 by omega), h1]
      simp only [nm]
      have e : (if nI f < nI (s i) then nI f else nI (s i)) = nI (if Nat.ble f (s i) then f else s i) := by
        by_cases z : f < s i
        · rw [if_pos (nI_lt z (by omega)), if_pos (by rw [Nat.ble_eq]; omega)]
        · rw [if_neg (nI_nlt (by omega) (by omega))]
          by_cases z2 : f = s i
          · rw [if_pos (by rw [Nat.ble_eq]; omega), z2]
          · rw [if_neg (by rw [Nat.ble_eq]; omega)]
      have hb : (if Nat.ble f (s i) then f else s i) ≤ 9 := by split <;> omega
      rw [e, nI_add, L1, nI_add, ih (i + 1) _ fu (by omega) (by omega) (by omega), lsq, smin, Nat.add_assoc]
  have key : ∀ m k nd fu, k + m = n → m < fu → nd ≤ 9 * k → X11_numbersFit_B4 h (nI n) fu (nI nd) (nI (k + 1)) = some (nI (egl (lsq s k m) (k + 1) nd).toNat) := by
    intro m
    induction m with
    | zero =>
      intro k nd fu hk hf hnd
      obtain ⟨fu, rfl⟩ : ∃ f, fu = f + 1 := ⟨fu - 1, by omega⟩
      rw [X11_numbersFit_B4, if_pos (nI_lt (by omega) (by omega)), L2, pk_rem (by omega) (by omega) (by omega), lsq, egl]
      rcases (show nd % 2 = 0 ∨ nd % 2 = 1 by omega) with z | z
      · rw [z]; rfl
      · rw [z]; rfl
    | succ m ih =>
      intro k nd fu hk hf hnd
      obtain ⟨fu, rfl⟩ : ∃ f, fu = f + 1 := ⟨fu - 1, by omega⟩
      obtain ⟨h1, h2⟩ := hs k (by omega)
      have hkk : (k + 1) * k ≤ 72 + 9 * (k + 1) := by
        have : (k + 1) * k ≤ 9 * 8 := Nat.mul_le_mul (by omega) (by omega)
        omega
      rw [X11_numbersFit_B4, if_neg (nI_nlt (by omega) (by omega)), nI_pred, gdi_n (show k < 9 by omega) (by omega), i_cl (show k < 2147483648 by omega), h1]
      simp only [nm]
      rw [nI_add, pk_mul, in30 _ (nd + s k) (k + 1) (by omega) (by omega) m (k + 1) _ FU (by omega) (FU_lt (by omega)) hkk, ih (k + 1) (nd + s k) fu (by omega) (by omega) (by omega), lsq, egl, Nat.add_sub_cancel]
      by_cases z : nd + s k ≤ (k + 1) * k + smin (k + 1) (lsq s (k + 1) m)
      · rw [if_pos z, (Nat.ble_eq).mpr z, Bool.true_and]
      · rw [if_neg z]
        have : Nat.ble (nd + s k) ((k + 1) * k + smin (k + 1) (lsq s (k + 1) m)) = false := by
          cases e : Nat.ble (nd + s k) ((k + 1) * k + smin (k + 1) (lsq s (k + 1) m))
          · rfl
          · exact absurd ((Nat.ble_eq).mp e) z
        rw [this, Bool.false_and]; rfl
  exact key n 0 0 FU (by omega) (FU_lt (by omega)) (by omega)
/-- the first i are sorted in the array 2 -/
def SrI (h t : HS) (d s : Nat → Nat) (i : Nat) : Prop := Keep h t ∧ (∀ j, j < i → aI t 2 j = nI (s j) ∧ s j ≤ 8) ∧ (∀ j, j + 1 < i → s (j + 1) ≤ s j) ∧ fb_sm (fun j => 16 ^ s j) i = fb_sm (fun j => 16 ^ d j) i
theorem c_ins {K : Int32 → HS → Option (Int32 × HS)} {v1 : Nat} {d s : Nat → Nat} {i v : Nat} (hi : i < 9) (hv : v ≤ 8) (hd : ∀ j, j + 1 < i → s (j + 1) ≤ s j) (h8 : ∀ j, j < i → s j ≤ 8) :
    ∀ p fu t, p ≤ i → p < fu → Keep h t → (∀ j, j < p → aI t 2 j = nI (s j)) → (∀ j, p < j → j ≤ i → aI t 2 j = nI (s (j - 1))) → (∀ j, p ≤ j → j < i → s j ≤ v) →
      ∃ t1 p1, X11_sortNumbers_B42 v1 K fu (nI i) (nI v) (nI p) t = K (nI (i + 1)) t1 ∧ p1 ≤ i ∧ Keep h t1 ∧ (∀ j, j < i + 1 → aI t1 2 j = nI (ins s p1 v j) ∧ ins s p1 v j ≤ 8) ∧ (∀ j, j + 1 < i + 1 → ins s p1 v (j + 1) ≤ ins s p1 v j) := by
  intro p
  have fin : ∀ p t, p ≤ i → Keep h t → (∀ j, j < p → aI t 2 j = nI (s j)) → (∀ j, p < j → j ≤ i → aI t 2 j = nI (s (j - 1))) → (∀ j, p ≤ j → j < i → s j ≤ v) → (0 < p → v ≤ s (p - 1)) →
      ∃ t1 p1, X11_sortNumbers_B82 v1 K (nI i) (nI v) (nI p) t = K (nI (i + 1)) t1 ∧ p1 ≤ i ∧ Keep h t1 ∧ (∀ j, j < i + 1 → aI t1 2 j = nI (ins s p1 v j) ∧ ins s p1 v j ≤ 8) ∧ (∀ j, j + 1 < i + 1 → ins s p1 v (j + 1) ≤ ins s p1 v j) := by
    intro p t hp hk a1 a2 a3 a4
    refine ⟨sA t 2 (upd (aI t 2) p (nI v)), p, ?_, hp, hk.a (by decide), fun j hj => ?_, ins_fall hp hd a3 a4⟩
    · unfold X11_sortNumbers_B82
      rw [gdi_n (show p < 9 by omega) (by omega), i_cl (show p < 2147483648 by omega)]
      simp only [nm, L1, nI_add]
    · rw [aI_sA_eq]
      unfold ins
      rcases Nat.lt_trichotomy j p with z | z | z
      · rw [pk_un (by omega), if_pos z]; exact ⟨a1 j z, h8 j (by omega)⟩
      · rw [z, pk_us, if_neg (by omega), if_pos rfl]; exact ⟨rfl, hv⟩
      · rw [pk_un (by omega), if_neg (by omega), if_neg (by omega)]; exact ⟨a2 j z (by omega), h8 _ (by omega)⟩
  induction p with
  | zero =>
    intro fu t hp hf hk a1 a2 a3
    obtain ⟨fu, rfl⟩ : ∃ f, fu = f + 1 := ⟨fu - 1, by omega⟩
    rw [X11_sortNumbers_B42, if_pos (show nI 0 ≤ 0 by decide)]
    exact fin 0 t hp hk a1 a2 a3 (fun z => absurd z (by omega))
  | succ p ih =>
    intro fu t hp hf hk a1 a2 a3
    obtain ⟨fu, rfl⟩ : ∃ f, fu = f + 1 := ⟨fu - 1, by omega⟩
    have hs8 := h8 p (by omega)
    rw [X11_sortNumbers_B42, if_neg (nI_nle (by omega) (by omega)), nI_pred, gdi_n (show p < 9 by omega) (by omega), i_cl (show p < 2147483648 by omega), a1 p (by omega)]
    by_cases z : v ≤ s p
    · rw [if_pos (nI_le z (by omega))]
      exact fin (p + 1) t hp hk a1 a2 a3 (fun _ => z)
    · rw [if_neg (nI_ge (by omega) (by omega)), gdi_n (show p < 9 by omega) (by omega), gdi_n (show p + 1 < 9 by omega) (by omega), i_cl (show p + 1 < 2147483648 by omega), pk_m1]
      simp only [nm]
      refine ih fu _ (by omega) (by omega) (hk.a (by decide)) (fun j hj => ?_) (fun j h1 h2 => ?_) (fun j h1 h2 => ?_)
      · rw [aI_sA_eq, pk_un (by omega)]; exact a1 j (by omega)
      · rw [aI_sA_eq]
        by_cases e : j = p + 1
        · rw [e, pk_us]; rfl
        · rw [pk_un e]; exact a2 j (by omega) h2
      · by_cases e : j = p
        · rw [e]; omega
        · exact a3 j (by omega) h2
theorem c_sort (hq : q < 8) (S : ShP h q ho so le el) (hle : le ≤ 9) : (∃ t s, X11_sortNumbers h (50 + 2 * q) = some (1, t) ∧ SrI h t (fun j => (el j).toNatClampNeg) s le ∧ ∀ j, j < le → ∃ v, v ≤ 8 ∧ el j = nI v) ∨ (∃ t, X11_sortNumbers h (50 + 2 * q) = some (0, t) ∧ Keep h t ∧ ∃ j, j < le ∧ ∀ v, v ≤ 8 → el j ≠ nI v) := by
  have key : ∀ m i fu t s, i + m = le → m < fu → SrI h t (fun j => (el j).toNatClampNeg) s i → (∀ j, j < i → ∃ v, v ≤ 8 ∧ el j = nI v) → (∃ t1 s1, X11_sortNumbers_B13 (50 + 2 * q) fu (nI i) t = some (1, t1) ∧ SrI h t1 (fun j => (el j).toNatClampNeg) s1 le ∧ ∀ j, j < le → ∃ v, v ≤ 8 ∧ el j = nI v) ∨ (∃ t1, X11_sortNumbers_B13 (50 + 2 * q) fu (nI i) t = some (0, t1) ∧ Keep h t1 ∧ ∃ j, j < le ∧ ∀ v, v ≤ 8 → el j ≠ nI v) := by
    intro m
    induction m with
    | zero =>
      intro i fu t s hi hf J G
      obtain ⟨fu, rfl⟩ : ∃ f, fu = f + 1 := ⟨fu - 1, by omega⟩
      have e : i = le := by omega
      subst e
      refine Or.inl ⟨t, s, ?_, J, G⟩
      rw [X11_sortNumbers_B13, c_size (J.1.shelf hq S), Option.bind_some, if_pos (nI_le (by omega) (by omega))]
    | succ m ih =>
      intro i fu t s hi hf J G
      obtain ⟨fu, rfl⟩ : ∃ f, fu = f + 1 := ⟨fu - 1, by omega⟩
      have St := J.1.shelf hq S
      rw [X11_sortNumbers_B13, c_size St, Option.bind_some, if_neg (nI_ge (by omega) (by omega)), c_at St (show i < le by omega), Option.bind_some]
      rcases arg_in (el i) 9 with ⟨v, hv, hv2, e⟩ | ho
      · rw [e, if_neg (nI_pos (by omega)), if_pos (show nI v < 9 from nI_lt (b := 9) hv (by decide))]
        obtain ⟨t1, p1, e1, hp1, k1, b1, b2⟩ := c_ins (h := h) (K := X11_sortNumbers_B13 (50 + 2 * q) fu) (v1 := 50 + 2 * q) (d := fun j => (el j).toNatClampNeg) (s := s) (i := i) (v := v) (by omega) (by omega) J.2.2.1 (fun j hj => (J.2.1 j hj).2) i FU t (Nat.le_refl i) (FU_lt (by omega)) J.1 (fun j hj => (J.2.1 j hj).1) (fun j h1 h2 => absurd h1 (by omega)) (fun j h1 h2 => absurd h1 (by omega))
        rw [e1]
        refine ih (i + 1) fu t1 (ins s p1 v) (by omega) (by omega) ⟨k1, b1, b2, ?_⟩ (fun j hj => ?_)
        · obtain ⟨m1, hm1⟩ : ∃ m1, i = p1 + m1 := ⟨i - p1, by omega⟩
          have hs := ins_sum s p1 v m1
          rw [← hm1] at hs
          rw [hs, J.2.2.2, fb_sm_succ]
          show _ = _ + 16 ^ (el i).toNatClampNeg
          rw [e, i_cl hv2]
        · by_cases z : j = i
          · rw [z]; exact ⟨v, by omega, e⟩
          · exact G j (by omega)
      · refine Or.inr ⟨t, ?_, J.1, i, by omega, fun v hv e => ?_⟩
        · rcases ho with ho | ⟨j, h1, h2, e⟩
          · rw [if_pos ho]
          · rw [e, if_neg (nI_pos (by omega)), if_neg (show ¬ nI j < 9 from nI_nlt (b := 9) h1 (by omega))]
        · rw [e] at ho
          rcases ho with ho | ⟨j, h1, h2, e2⟩
          · exact absurd ho (nI_pos (by omega))
          · rw [nI_eq (by omega) h2] at e2; omega
  unfold X11_sortNumbers
  rw [c_size S, Option.bind_some, if_pos (show nI le ≤ 9 from nI_le (b := 9) hle (by decide))]
  exact key le 0 FU h (fun _ => 0) (by omega) (FU_lt (by omega)) ⟨Keep.refl h, fun j hj => absurd hj (by omega), fun j hj => absurd hj (by omega), rfl⟩ (fun j hj => absurd hj (by omega))
end COULDC
