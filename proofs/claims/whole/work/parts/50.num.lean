/-! numbers: ints as nI of small Nats; bits; loops -/
theorem i_and (a b : Nat) : nI a &&& nI b = nI (a &&& b) := by
  apply Int32.toBitVec_inj.1
  show BitVec.ofNat 32 a &&& BitVec.ofNat 32 b = BitVec.ofNat 32 (a &&& b)
  apply BitVec.eq_of_getLsbD_eq
  intro i hi
  simp [hi]
theorem i_or (a b : Nat) : nI a ||| nI b = nI (a ||| b) := by
  apply Int32.toBitVec_inj.1
  show BitVec.ofNat 32 a ||| BitVec.ofNat 32 b = BitVec.ofNat 32 (a ||| b)
  apply BitVec.eq_of_getLsbD_eq
  intro i hi
  simp [hi]
theorem i_xor (a b : Nat) : nI a ^^^ nI b = nI (a ^^^ b) := by
  apply Int32.toBitVec_inj.1
  show BitVec.ofNat 32 a ^^^ BitVec.ofNat 32 b = BitVec.ofNat 32 (a ^^^ b)
  apply BitVec.eq_of_getLsbD_eq
  intro i hi
  simp [hi]
theorem leT {a b : Nat} (h : a ≤ b) (hb : b < 2147483648) : (nI a ≤ nI b) = True := eq_true (nI_le h hb)
theorem leF {a b : Nat} (h : b < a) (hb : a < 2147483648) : (nI a ≤ nI b) = False := eq_false (nI_ge h hb)
theorem ltT {a b : Nat} (h : a < b) (hb : b < 2147483648) : (nI a < nI b) = True := eq_true (nI_lt h hb)
theorem ltF {a b : Nat} (h : b ≤ a) (hb : a < 2147483648) : (nI a < nI b) = False := eq_false (nI_nlt h hb)
theorem eqF {a b : Nat} (h : a ≠ b) (ha : a < 2147483648) (hb : b < 2147483648) : (nI a = nI b) = False := eq_false (fun q => h ((nI_eq ha hb).mp q))
theorem i_eq {a b : Nat} (ha : a < 2147483648) (hb : b < 2147483648) : (nI a = nI b) = (a = b) := propext (nI_eq ha hb)
theorem i_le {a b : Nat} (ha : a < 2147483648) (hb : b < 2147483648) : (nI a ≤ nI b) = (a ≤ b) := propext (nI_leI ha hb)
theorem i_lt {a b : Nat} (ha : a < 2147483648) (hb : b < 2147483648) : (nI a < nI b) = (a < b) := propext (nI_ltI ha hb)
theorem i_cl {a : Nat} (ha : a < 2147483648) : (nI a).toNatClampNeg = a := nI_clamp ha
theorem gdi_n {β : Type} {p n : Nat} {k : Option β} (h : p < n) (hn : n < 2147483648) : gdi (nI p) n k = k := by
  unfold gdi
  rw [if_neg (nI_in h hn)]
theorem L0 : (0 : Int32) = nI 0 := rfl
theorem L1 : (1 : Int32) = nI 1 := rfl
theorem L2 : (2 : Int32) = nI 2 := rfl
theorem L3 : (3 : Int32) = nI 3 := rfl
theorem L4 : (4 : Int32) = nI 4 := rfl
theorem L5 : (5 : Int32) = nI 5 := rfl
theorem L6 : (6 : Int32) = nI 6 := rfl
theorem L7 : (7 : Int32) = nI 7 := rfl
theorem L8 : (8 : Int32) = nI 8 := rfl
theorem L9 : (9 : Int32) = nI 9 := rfl
theorem L10 : (10 : Int32) = nI 10 := rfl
theorem L11 : (11 : Int32) = nI 11 := rfl
theorem L30 : (30 : Int32) = nI 30 := rfl
theorem L60 : (60 : Int32) = nI 60 := rfl
theorem L100 : (100 : Int32) = nI 100 := rfl
theorem L999 : (999 : Int32) = nI 999 := rfl
theorem i_sh {j : Nat} (hj : j < 32) : ((nI j &&& 31).toBitVec.smod 32).toNat = j := by
  have key : ∀ n, n < 32 → ((nI n &&& 31).toBitVec.smod 32).toNat = n := by decide +kernel
  exact key j hj
theorem i_one {j : Nat} (hj : j < 31) : (nI 1) <<< (nI j &&& 31) = nI (2 ^ j) := by
  have key : ∀ n, n < 31 → (nI 1) <<< (nI n &&& 31) = nI (2 ^ n) := by decide +kernel
  exact key j hj
theorem i_bit {x j : Nat} (hx : x < 2147483648) (hj : j < 32) : (nI x >>> (nI j &&& 31)) &&& nI 1 = nI (x.testBit j).toNat := by
  rw [pk_shrN hx _ j (i_sh hj), i_and]
  have : x / 2 ^ j &&& 1 = (x.testBit j).toNat := by
    rw [show (1 : Nat) = 2 ^ 1 - 1 from rfl, Nat.and_two_pow_sub_one_eq_mod, Nat.testBit_eq_decide_div_mod_eq]
    have : x / 2 ^ j % 2 < 2 := Nat.mod_lt _ (by decide)
    rcases (show x / 2 ^ j % 2 = 0 ∨ x / 2 ^ j % 2 = 1 by omega) with h | h <;> simp [h]
  rw [this]
/-- x without the bits of y -/
def andn (x y : Nat) : Nat := x &&& (y ^^^ 4294967295)
theorem i_andn (x y : Nat) : nI x &&& (nI y ^^^ (-1)) = nI (andn x y) := by
  rw [show (-1 : Int32) = nI 4294967295 from rfl, i_xor, i_and]; rfl
theorem andn_bit {x : Nat} (hx : x < 4294967296) (y j : Nat) : (andn x y).testBit j = (x.testBit j && !y.testBit j) := by
  unfold andn
  rw [Nat.testBit_and, Nat.testBit_xor]
  by_cases hj : j < 32
  · have : (4294967295 : Nat).testBit j = true := by
      rw [show (4294967295 : Nat) = 2 ^ 32 - 1 from rfl, Nat.testBit_two_pow_sub_one]; simpa using hj
    rw [this]; simp
  · have : x.testBit j = false := Nat.testBit_lt_two_pow (Nat.lt_of_lt_of_le hx (by rw [show (4294967296 : Nat) = 2 ^ 32 from rfl]; exact Nat.pow_le_pow_right (by decide) (by omega)))
    rw [this]; simp
theorem andn_le (x y : Nat) : andn x y ≤ x := Nat.and_le_left
theorem toNat_eq0 (b : Bool) : (b.toNat = 0) = (b = false) := by cases b <;> simp
theorem toNat_eq1 (b : Bool) : (b.toNat = 1) = (b = true) := by cases b <;> simp
theorem toNat_lt (b : Bool) : b.toNat < 2147483648 := by cases b <;> decide
theorem bit_lt {x n : Nat} (h : x < 2 ^ n) {j : Nat} (hj : n ≤ j) : x.testBit j = false := Nat.testBit_lt_two_pow (Nat.lt_of_lt_of_le h (Nat.pow_le_pow_right (by decide) hj))
theorem lt_bits {x n : Nat} (h : ∀ j, n ≤ j → x.testBit j = false) : x < 2 ^ n := Nat.lt_pow_two_of_testBit x (fun i hi => h i hi)
theorem or_lt {x y n : Nat} (hx : x < 2 ^ n) (hy : y < 2 ^ n) : x ||| y < 2 ^ n := Nat.or_lt_two_pow hx hy
theorem pow_lt {j n : Nat} (h : j < n) : 2 ^ j < 2 ^ n := Nat.pow_lt_pow_right (by decide) h
theorem tb_pow (i j : Nat) : (2 ^ i).testBit j = decide (i = j) := Nat.testBit_two_pow
theorem ext_bits {x y : Nat} (h : ∀ j, x.testBit j = y.testBit j) : x = y := Nat.eq_of_testBit_eq h
/-! loops that count up -/
def itf {σ : Type} (step : Nat → σ → σ) : Nat → Nat → σ → σ
  | _, 0, s => s
  | k, m + 1, s => itf step (k + 1) m (step k s)
theorem loopF {σ R : Type} (F : Nat → Nat → σ → R) (E : σ → R) (n : Nat) (step : Nat → σ → σ) (I : Nat → σ → Prop)
    (hx : ∀ fu s, I n s → F (fu + 1) n s = E s)
    (hs : ∀ fu k s, k < n → I k s → F (fu + 1) k s = F fu (k + 1) (step k s) ∧ I (k + 1) (step k s)) :
    ∀ m fu k s, k + m = n → m < fu → I k s → F fu k s = E (itf step k m s) ∧ I n (itf step k m s) := by
  intro m
  induction m with
  | zero =>
    intro fu k s hk hf hI
    obtain ⟨fu, rfl⟩ : ∃ f, fu = f + 1 := ⟨fu - 1, by omega⟩
    have : k = n := by omega
    subst this
    exact ⟨hx fu s hI, hI⟩
  | succ m ih =>
    intro fu k s hk hf hI
    obtain ⟨fu, rfl⟩ : ∃ f, fu = f + 1 := ⟨fu - 1, by omega⟩
    obtain ⟨h1, h2⟩ := hs fu k s (by omega) hI
    rw [h1]
    exact ih fu (k + 1) (step k s) (by omega) (by omega) h2
def itx {σ R : Type} (body : Nat → σ → R ⊕ σ) (E : σ → R) : Nat → Nat → σ → R
  | _, 0, s => E s
  | k, m + 1, s => match body k s with
    | .inl r => r
    | .inr s1 => itx body E (k + 1) m s1
theorem loopX {σ R : Type} (F : Nat → Nat → σ → R) (E : σ → R) (n : Nat) (body : Nat → σ → R ⊕ σ) (I : Nat → σ → Prop)
    (hx : ∀ fu s, I n s → F (fu + 1) n s = E s)
    (hs : ∀ fu k s, k < n → I k s → (∃ r, body k s = .inl r ∧ F (fu + 1) k s = r) ∨ ∃ s1, body k s = .inr s1 ∧ F (fu + 1) k s = F fu (k + 1) s1 ∧ I (k + 1) s1) :
    ∀ m fu k s, k + m = n → m < fu → I k s → F fu k s = itx body E k m s := by
  intro m
  induction m with
  | zero =>
    intro fu k s hk hf hI
    obtain ⟨fu, rfl⟩ : ∃ f, fu = f + 1 := ⟨fu - 1, by omega⟩
    have : k = n := by omega
    subst this
    exact hx fu s hI
  | succ m ih =>
    intro fu k s hk hf hI
    obtain ⟨fu, rfl⟩ : ∃ f, fu = f + 1 := ⟨fu - 1, by omega⟩
    rcases hs fu k s (by omega) hI with ⟨r, h1, h2⟩ | ⟨s1, h1, h2, h3⟩
    · rw [h2, itx, h1]
    · rw [h2, itx, h1]
      exact ih fu (k + 1) s1 (by omega) (by omega) h3
theorem itf_congr {σ : Type} {f g : Nat → σ → σ} (I : Nat → σ → Prop) (n : Nat) (h : ∀ k s, k < n → I k s → f k s = g k s ∧ I (k + 1) (f k s)) : ∀ m k s, k + m = n → I k s → itf f k m s = itf g k m s := by
  intro m
  induction m with
  | zero => intro k s _ _; rfl
  | succ m ih =>
    intro k s hk hI
    obtain ⟨h1, h2⟩ := h k s (by omega) hI
    rw [itf, itf, ih (k + 1) (f k s) (by omega) h2, h1]
theorem itf_inv {σ : Type} {f : Nat → σ → σ} (I : Nat → σ → Prop) (n : Nat) (h : ∀ k s, k < n → I k s → I (k + 1) (f k s)) : ∀ m k s, k + m = n → I k s → I n (itf f k m s) := by
  intro m
  induction m with
  | zero => intro k s hk hI; have : k = n := by omega
            subst this; exact hI
  | succ m ih => intro k s hk hI; exact ih (k + 1) _ (by omega) (h k s (by omega) hI)
theorem itf_last {σ : Type} (f : Nat → σ → σ) : ∀ m k s, itf f k (m + 1) s = f (k + m) (itf f k m s) := by
  intro m
  induction m with
  | zero => intro k s; rfl
  | succ m ih =>
    intro k s
    rw [itf, ih (k + 1) (f k s), itf]
    simp only [show k + 1 + m = k + (m + 1) from by omega]
theorem FU_lt {m : Nat} (h : m < 1000) : m < FU := h
/-! how many bits of the first nine -/
def bc (x : Nat) : Nat := (x.testBit 0).toNat + (x.testBit 1).toNat + (x.testBit 2).toNat + (x.testBit 3).toNat + (x.testBit 4).toNat + (x.testBit 5).toNat + (x.testBit 6).toNat + (x.testBit 7).toNat + (x.testBit 8).toNat
theorem bc_le (x : Nat) : bc x ≤ 9 := by
  have h : ∀ b : Bool, b.toNat ≤ 1 := by intro b; cases b <;> decide
  unfold bc
  have := h (x.testBit 0); have := h (x.testBit 1); have := h (x.testBit 2); have := h (x.testBit 3); have := h (x.testBit 4)
  have := h (x.testBit 5); have := h (x.testBit 6); have := h (x.testBit 7); have := h (x.testBit 8)
  omega
theorem bitCount_n {x : Nat} (hx : x < 512) : J6_bitCount_0f7a4 (nI x) = some (nI (bc x)) := by
  have key : ∀ n, n < 512 → J6_bitCount_0f7a4 (nI n) = some (nI (bc n)) := by decide +kernel
  exact key x hx
