/-! THE REFERENCE'S FRACTIONS -/
theorem takes_at {σ : GM} {i n d x y m : Nat} (hi : i < 12) (hn : σ.2 72 i = lN n) (hd : σ.2 73 i = lN d) (d0 : 0 < d) (y0 : 0 < y) (hm : m < 2 ^ 31) (hle : x * m * d ≤ n * y) (b1 : n * y < 2 ^ 62) (b2 : d * y < 2 ^ 62) :
    ∃ σ', f_X12_takes σ (nI i) (lN x) (lN y) (nI m) = some σ' ∧ σ'.2 72 i = lN ((n * y - x * m * d) / Nat.gcd (n * y - x * m * d) (d * y)) ∧ σ'.2 73 i = lN (d * y / Nat.gcd (n * y - x * m * d) (d * y)) ∧ σ'.1 = σ.1 ∧ (∀ c j, ¬ ((c = 72 ∨ c = 73) ∧ j = i) → σ'.2 c j = σ.2 c j) := by
  have hy := Nat.mul_pos d0 y0
  have hg := Nat.gcd_pos_of_pos_right (n * y - x * m * d) hy
  have hgl := Nat.gcd_le_right (n * y - x * m * d) hy
  refine ⟨wL (wL σ 72 i (lN ((n * y - x * m * d) / Nat.gcd (n * y - x * m * d) (d * y)))) 73 i (lN (d * y / Nat.gcd (n * y - x * m * d) (d * y))), ?_, ?_, ?_, rfl, ?_⟩
  · unfold f_X12_takes
    rw [bnd_n hi (by omega), bnd_n hi (by omega), nI_clamp (by omega), hn, hd, nI_l hm, lN_mul, lN_mul, lN_mul, lN_sub hle, nm_v, bnd_n hi (by omega), lN_mul, nm_v, div200 (by omega) b2, ob_s, nzl_n hg (by omega), bnd_n hi (by omega), pk_lDiv (by omega) hg (by omega), nm_v, nzl_n hg (by omega), bnd_n hi (by omega), pk_lDiv (by omega) hg (by omega), nm_v]
  · rw [wL_2, if_neg (by omega), wL_2, if_pos ⟨rfl, rfl⟩]
  · rw [wL_2, if_pos ⟨rfl, rfl⟩]
  · intro c j h
    rw [wL_2, if_neg (by omega), wL_2, if_neg (by omega)]
theorem bounds_at {σ : GM} {n d x y m : Nat} (hn : σ.2 60 26 = lN n) (hd : σ.2 60 27 = lN d) (d0 : 0 < d) (y0 : 0 < y) (hm : m < 2 ^ 31) (b1 : n * y + x * m * d < 2 ^ 62) (b2 : d * y < 2 ^ 62) :
    ∃ σ', f_X12_bounds σ (lN x) (lN y) (nI m) = some σ' ∧ σ'.2 60 26 = lN ((n * y + x * m * d) / Nat.gcd (n * y + x * m * d) (d * y)) ∧ σ'.2 60 27 = lN (d * y / Nat.gcd (n * y + x * m * d) (d * y)) ∧ σ'.1 = σ.1 ∧ (∀ c j, ¬ (c = 60 ∧ (j = 26 ∨ j = 27)) → σ'.2 c j = σ.2 c j) := by
  have hy := Nat.mul_pos d0 y0
  have hg := Nat.gcd_pos_of_pos_right (n * y + x * m * d) hy
  have hgl := Nat.gcd_le_right (n * y + x * m * d) hy
  refine ⟨wL (wL σ 60 26 (lN ((n * y + x * m * d) / Nat.gcd (n * y + x * m * d) (d * y)))) 60 27 (lN (d * y / Nat.gcd (n * y + x * m * d) (d * y))), ?_, ?_, ?_, rfl, ?_⟩
  · unfold f_X12_bounds
    rw [hn, hd, nI_l hm, lN_mul, lN_mul, lN_mul, lN_add, nm_v, lN_mul, nm_v, div200 (by omega) b2, ob_s, nzl_n hg (by omega), pk_lDiv (by omega) hg (by omega), nm_v, nzl_n hg (by omega), pk_lDiv (by omega) hg (by omega), nm_v]
  · rw [wL_2, if_neg (by omega), wL_2, if_pos ⟨rfl, rfl⟩]
  · rw [wL_2, if_pos ⟨rfl, rfl⟩]
  · intro c j h
    rw [wL_2, if_neg (by omega), wL_2, if_neg (by omega)]
/-- a fraction in lowest terms of the value w / D -/
def frc (n d w D : Nat) : Prop := 0 < d ∧ n * D = w * d ∧ Nat.gcd n d = 1
theorem frc_red {a b w D : Nat} (hb : 0 < b) (h : a * D = w * b) : frc (a / Nat.gcd a b) (b / Nat.gcd a b) w D := by
  have hg := Nat.gcd_pos_of_pos_right a hb
  obtain ⟨a', ha⟩ := Nat.gcd_dvd_left a b
  obtain ⟨b', hb'⟩ := Nat.gcd_dvd_right a b
  have e1 : a / Nat.gcd a b = a' := by
    conv => lhs; rw [ha]
    rw [← ha]
    exact Nat.div_eq_of_eq_mul_right hg ha
  have e2 : b / Nat.gcd a b = b' := Nat.div_eq_of_eq_mul_right hg hb'
  rw [e1, e2]
  refine ⟨?_, ?_, ?_⟩
  · rcases Nat.eq_zero_or_pos b' with z | z
    · rw [z, Nat.mul_zero] at hb'; omega
    · exact z
  · have h2 : Nat.gcd a b * (a' * D) = Nat.gcd a b * (w * b') := by
      calc Nat.gcd a b * (a' * D) = (Nat.gcd a b * a') * D := (Nat.mul_assoc ..).symm
        _ = a * D := by rw [← ha]
        _ = w * b := h
        _ = w * (Nat.gcd a b * b') := by rw [← hb']
        _ = Nat.gcd a b * (w * b') := Nat.mul_left_comm ..
    exact Nat.eq_of_mul_eq_mul_left hg h2
  · rw [← e1, ← e2]
    exact Nat.gcd_div_gcd_div_gcd_of_pos_right hb
