/-! the codes of the reference in their order: which are arrangements -/
def cset : Nat → Nat → Nat → Nat
  | 0, _, s => s
  | k + 1, v, s => cset k (v / 6) (s ||| 2 ^ (v % 6))
def cdig (n A c : Nat) : Nat → Bool
  | 0 => true
  | k + 1 => (c / 6 ^ (n - 1 - k) % 6 == dg n A k) && cdig n A c k
/-- from code c on, with A arrangements found: how many are found behind k codes -/
def scan (n : Nat) : Nat → Nat → Nat → Option Nat
  | 0, _, A => some A
  | k + 1, c, A => if cset n c 0 = 2 ^ n - 1 then (if cd_ n A = c ∧ A < NN n ∧ cdig n A c n = true then scan n k (c + 1) (A + 1) else none) else scan n k (c + 1) A
theorem scan2 : scan 2 36 0 0 = some 2 := by decide +kernel
theorem scan3 : scan 3 216 0 0 = some 6 := by decide +kernel
theorem scan4 : scan 4 1296 0 0 = some 24 := by decide +kernel
theorem scan5 : scan 5 7776 0 0 = some 120 := by decide +kernel
theorem scan6_0 : scan 6 7776 0 0 = some 120 := by decide +kernel
theorem scan6_1 : scan 6 7776 7776 120 = some 240 := by decide +kernel
theorem scan6_2 : scan 6 7776 15552 240 = some 360 := by decide +kernel
theorem scan6_3 : scan 6 7776 23328 360 = some 480 := by decide +kernel
theorem scan6_4 : scan 6 7776 31104 480 = some 600 := by decide +kernel
theorem scan6_5 : scan 6 7776 38880 600 = some 720 := by decide +kernel
