/-! ALL SETS: what is tried out over the 4096 -/
/-- the lowest point of a set -/
def loF (v : Nat) : Nat → Nat → Nat
  | 0, i => i
  | k + 1, i => if v.testBit i then i else loF v k (i + 1)
def lo (v : Nat) : Nat := loF v 12 0
theorem lo_all : ∀ v, v < 4096 → v ≠ 0 → lo v < 12 ∧ v.testBit (lo v) = true ∧ ∀ i, i < lo v → v.testBit i = false := all12 (by decide +kernel)
theorem pc_all : ∀ v, v < 4096 → v ≠ 0 → pc (v &&& (v - 1)) 12 + 1 = pc v 12 ∧ v &&& (v - 1) < v ∧ v &&& (v - 1) = dif v (2 ^ lo v) := all12 (by decide +kernel)
theorem low_all : ∀ v, v < 4096 → v ≠ 0 → bcf ((nI v &&& -(nI v)) - 1) = nI (lo v) := all12 (by decide +kernel)
