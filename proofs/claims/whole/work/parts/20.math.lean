theorem law_true (xs : Nat → Int32) (L : Nat) (hL : L ≤ 3072) : ∃ σr, f_L_law_L23 xs L 5000 (fun j i => if j = 0 ∧ (i = 11 ∨ i = 12 ∨ i = 13) then 1 else 0, fun _ _ => 0) 0 = some (σr, 1) := sorry
