/-! told numbers: by Erdos and Gallai over a falling row, and by having the greatest meet the greatest; both by trying all rows -/
def smin (k : Nat) : List Nat → Nat
  | [] => 0
  | d :: t => (if Nat.ble k d then k else d) + smin k t
/-- few: how many stand ahead, and one -/
def egl : List Nat → Nat → Nat → Bool
  | [], _, nd => Nat.beq (nd % 2) 0
  | d :: t, few, nd => Nat.ble (nd + d) (few * (few - 1) + smin few t) && egl t (few + 1) (nd + d)
/-- how often each number is told, as digits of 16; one has its lines with those with most left -/
def pks : Nat → Nat → Nat → Option Nat
  | 0, u, d => some (u + d)
  | k + 1, u, d => if Nat.blt u 16 then none else pks k (u - 16 ^ (Nat.log2 u / 4)) (d + 16 ^ (Nat.log2 u / 4 - 1))
def hh : Nat → Nat → Bool
  | 0, _ => true
  | k + 1, c => match pks (Nat.log2 c / 4) (c - 16 ^ (Nat.log2 c / 4)) 1 with
    | none => false
    | some c1 => hh k c1
def upto : Nat → Nat → (Nat → Bool) → Bool
  | 0, _, _ => true
  | m + 1, v, p => p v && upto m (v + 1) p
/-- all rows with k more in front, none of them less than lo -/
def enum (n : Nat) : Nat → Nat → List Nat → Nat → Bool
  | 0, _, l, c => (egl l 1 0).xor (!(hh n c))
  | k + 1, lo, l, c => upto (9 - lo) lo (fun v => enum n k v (v :: l) (16 ^ v + c))
theorem en0 : enum 0 0 0 [] 0 = true := by decide +kernel
theorem en1 : enum 1 1 0 [] 0 = true := by decide +kernel
theorem en2 : enum 2 2 0 [] 0 = true := by decide +kernel
theorem en3 : enum 3 3 0 [] 0 = true := by decide +kernel
theorem en4 : enum 4 4 0 [] 0 = true := by decide +kernel
theorem en5 : enum 5 5 0 [] 0 = true := by decide +kernel
theorem en6 : enum 6 6 0 [] 0 = true := by decide +kernel
