/-! ALL SETS: the lowest point by remainder -/
theorem mod_all : ∀ r, r < 4096 → r ≠ 0 → r % 2 ^ (lo r + 1) = 2 ^ lo r := all12 (by decide +kernel)
