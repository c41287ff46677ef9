/-! COMMON DIVISORS -/
theorem l0 : (0 : Int64) = lN 0 := rfl
theorem nzl_n {β : Type} {b : Nat} {k : Option β} (h0 : 0 < b) (hb : b < 2 ^ 63) : nzl (lN b) k = k := by
  unfold nzl
  rw [if_neg]
  intro h
  rw [l0, pk_lEQ hb (by omega)] at h
  omega
theorem lcz_y {α : Type} {x y : α} : (if lg_cmp (lN 0) (0 : Int64) = (0 : Int32) then x else y) = x := if_pos ((lg_cmp_eq _ _).mpr rfl)
theorem lcz_n {α : Type} {b : Nat} {x y : α} (h0 : b ≠ 0) (hb : b < 2 ^ 63) : (if lg_cmp (lN b) (0 : Int64) = (0 : Int32) then x else y) = y := if_neg (fun h => by
  have := (lg_cmp_eq _ _).mp h
  rw [l0, pk_lEQ hb (by omega)] at this
  exact h0 this)
theorem lcp_y {α : Type} {a : Nat} {x y : α} (ha : a < 2 ^ 63) : (if (0 : Int32) ≤ lg_cmp (lN a) (0 : Int64) then x else y) = x := if_pos ((lg_cmp_ge _ _).mpr (by rw [l0, pk_lLE (by omega) ha]; omega))
theorem half_mod {b r : Nat} (h : r < b) (h0 : 0 < r) : 2 * (b % r) ≤ b := by
  rcases Nat.lt_or_ge (2 * r) (b + 1) with c | c
  · have := Nat.mod_lt b h0
    omega
  · have h1 : b % r = b - r := by
      rw [Nat.mod_eq_sub_mod (by omega), Nat.mod_eq_of_lt (by omega)]
    omega
theorem gcd_step (a b : Nat) : Nat.gcd a b = Nat.gcd b (a % b) := by
  rw [Nat.gcd_comm a b, Nat.gcd_rec b a, Nat.gcd_comm]
theorem divisor_at {σ : GM} : ∀ (k d a b : Nat), k ≤ 62 → a < 2 ^ 63 → b < 2 ^ k → 2 * k + 1 ≤ d → f_X12_divisor d σ (lN a) (lN b) = some (lN (Nat.gcd a b)) := by
  intro k
  induction k with
  | zero =>
    intro d a b _ ha hb hd
    obtain ⟨d', rfl⟩ : ∃ d', d = d' + 1 := ⟨d - 1, by omega⟩
    have : b = 0 := by omega
    subst this
    unfold f_X12_divisor
    rw [lcz_y, lcp_y ha, Nat.gcd_zero_right]
  | succ k ih =>
    intro d a b hk ha hb hd
    have h62 : 2 ^ (k + 1) ≤ 2 ^ 62 := Nat.pow_le_pow_right (by decide) hk
    obtain ⟨d', rfl⟩ : ∃ d', d = d' + 1 := ⟨d - 1, by omega⟩
    unfold f_X12_divisor
    by_cases b0 : b = 0
    · subst b0
      rw [lcz_y, lcp_y ha, Nat.gcd_zero_right]
    · have hb63 : b < 2 ^ 63 := by omega
      rw [lcz_n b0 hb63, nzl_n (by omega) hb63, pk_lRem ha (by omega) hb63]
      have hr := Nat.mod_lt a (show 0 < b by omega)
      obtain ⟨d2, rfl⟩ : ∃ d2, d' = d2 + 1 := ⟨d' - 1, by omega⟩
      have step : f_X12_divisor (d2 + 1) σ (lN b) (lN (a % b)) = some (lN (Nat.gcd a b)) := by
        rw [gcd_step a b]
        by_cases r0 : a % b = 0
        · rw [r0]
          unfold f_X12_divisor
          rw [lcz_y, lcp_y hb63, Nat.gcd_zero_right]
        · have h1 := half_mod hr (by omega)
          have h2 := ih d2 (a % b) (b % (a % b)) (by omega) (by omega) (by rw [Nat.pow_succ] at hb; omega) (by omega)
          unfold f_X12_divisor
          rw [lcz_n r0 (by omega), nzl_n (by omega) (by omega), pk_lRem hb63 (by omega) (by omega), h2, ob_s, gcd_step b (a % b)]
      rw [step, ob_s]
theorem div200 {σ : GM} {a b : Nat} (ha : a < 2 ^ 63) (hb : b < 2 ^ 62) : f_X12_divisor 200 σ (lN a) (lN b) = some (lN (Nat.gcd a b)) := divisor_at 62 200 a b (by omega) ha hb (by omega)
