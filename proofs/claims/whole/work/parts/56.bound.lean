/-! THE BOUND IN LOWEST TERMS, as the class tells it -/
theorem common_L {σ : GM} : ∀ (k f q a b : Nat), k ≤ 62 → a < 2 ^ 63 → b < 2 ^ k → 2 * k + 1 ≤ f → q + 2 * k < 200 → f_X0_commonDivisor_L13 σ f (lN a) (lN b) (nI q) = some (lN (Nat.gcd a b)) := by
  intro k
  induction k with
  | zero =>
    intro f q a b _ ha hb hf hq
    obtain ⟨f', rfl⟩ : ∃ f', f = f' + 1 := ⟨f - 1, by omega⟩
    have : b = 0 := by omega
    subst this
    unfold f_X0_commonDivisor_L13
    rw [show (200 : Int32) = nI 200 from rfl, le_n (by omega) (by omega), lcz_y, Nat.gcd_zero_right]
  | succ k ih =>
    intro f q a b hk ha hb hf hq
    have h62 : 2 ^ (k + 1) ≤ 2 ^ 62 := Nat.pow_le_pow_right (by decide) hk
    obtain ⟨f2, rfl⟩ : ∃ f2, f = f2 + 2 := ⟨f - 2, by omega⟩
    unfold f_X0_commonDivisor_L13
    rw [show (200 : Int32) = nI 200 from rfl, le_n (by omega) (by omega)]
    by_cases b0 : b = 0
    · subst b0
      rw [lcz_y, Nat.gcd_zero_right]
    · have hb63 : b < 2 ^ 63 := by omega
      have hr := Nat.mod_lt a (show 0 < b by omega)
      rw [lcz_n b0 hb63, nzl_n (by omega) hb63, nm_v, pk_lRem ha (by omega) hb63, nm_v, i1, nI_add, gcd_step a b]
      by_cases r0 : a % b = 0
      · rw [r0]
        unfold f_X0_commonDivisor_L13
        rw [show (200 : Int32) = nI 200 from rfl, le_n (by omega) (by omega), lcz_y, Nat.gcd_zero_right]
      · have h1 := half_mod hr (by omega)
        have h2 := ih f2 (q + 1 + 1) (a % b) (b % (a % b)) (by omega) (by omega) (by rw [Nat.pow_succ] at hb; omega) (by omega) (by omega)
        unfold f_X0_commonDivisor_L13
        rw [show (200 : Int32) = nI 200 from rfl, le_n (by omega) (by omega), lcz_n r0 (by omega), nzl_n (by omega) (by omega), nm_v, pk_lRem hb63 (by omega) (by omega), nm_v, i1, nI_add, h2, gcd_step b (a % b)]
theorem common_at {σ : GM} {D a : Nat} (h6 : σ.2 57 6 = lN D) (h5 : σ.2 57 5 = lN a) (hD : D < 2 ^ 63) (ha : a < 2 ^ 62) : f_X0_commonDivisor σ = some (lN (Nat.gcd D a)) := by
  unfold f_X0_commonDivisor
  rw [nm_v, nm_v, h6, h5]
  exact common_L 62 5000 0 D a (by omega) hD ha (by omega) (by omega)
theorem boundAbove_at {σ : GM} {D a : Nat} (h6 : σ.2 57 6 = lN D) (h5 : σ.2 57 5 = lN a) (hD0 : 0 < D) (hD : D < 2 ^ 63) (ha : a < 2 ^ 62) : f_X0_boundAbove σ = some (lN (a / Nat.gcd D a)) := by
  have hg := Nat.gcd_pos_of_pos_left a hD0
  have hgl := Nat.gcd_le_left a hD0
  unfold f_X0_boundAbove
  rw [common_at h6 h5 hD ha, ob_s, lcz_n (by omega) (by omega), nzl_n hg (by omega), h5, pk_lDiv (by omega) hg (by omega)]
theorem boundBelow_at {σ : GM} {D a : Nat} (h6 : σ.2 57 6 = lN D) (h5 : σ.2 57 5 = lN a) (hD0 : 0 < D) (hD : D < 2 ^ 63) (ha : a < 2 ^ 62) : f_X0_boundBelow σ = some (lN (D / Nat.gcd D a)) := by
  have hg := Nat.gcd_pos_of_pos_left a hD0
  have hgl := Nat.gcd_le_left a hD0
  unfold f_X0_boundBelow
  rw [common_at h6 h5 hD ha, ob_s, lcz_n (by omega) (by omega), nzl_n hg (by omega), h6, pk_lDiv (by omega) hg (by omega)]
/-- fractions in lowest terms are the same when they are equal -/
theorem low_uni {a b c d g : Nat} (hb : 0 < b) (hd : 0 < d) (h : a * d = c * b) (hg : g = Nat.gcd a b) (h1 : Nat.gcd c d = 1) : a / g = c ∧ b / g = d := by
  subst hg
  have hgp : 0 < Nat.gcd a b := Nat.gcd_pos_of_pos_right a hb
  have hcd : Nat.Coprime c d := h1
  obtain ⟨k, hk⟩ : d ∣ b := by
    have : d ∣ b * c := ⟨a, by rw [Nat.mul_comm b c, ← h, Nat.mul_comm]⟩
    exact (Nat.Coprime.dvd_of_dvd_mul_right hcd.symm this)
  subst hk
  have ha : a = c * k := by
    have : a * d = (c * k) * d := by rw [h, Nat.mul_comm d k, Nat.mul_assoc]
    exact Nat.eq_of_mul_eq_mul_right hd this
  subst ha
  have hk0 : 0 < k := by
    rcases Nat.eq_zero_or_pos k with z | z
    · subst z; rw [Nat.mul_zero] at hb; omega
    · exact z
  have hgc : Nat.gcd (c * k) (d * k) = k := by rw [Nat.gcd_mul_right, h1, Nat.one_mul]
  rw [hgc, Nat.mul_div_cancel _ hk0, Nat.mul_div_cancel _ hk0]
  exact ⟨rfl, rfl⟩
