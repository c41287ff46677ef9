/-! GIVING BACK, in the class -/
theorem giveLatest_0 {σ : GM} {lt : Nat} {P : Nat → NT} (h : pastAt σ 0 P lt) : f_X5_giveLatest σ = some (σ, 0) := by
  obtain ⟨h1, h2, h3, h4, h5⟩ := h
  unfold f_X5_giveLatest
  rw [h4, placeAt_at h2, ob_s, qm_y, chkS_y (sh_place _ h2), h3, i0, le_y (by omega) (by omega)]
  rfl
theorem giveLatest_s {σ : GM} {L lt : Nat} {P : Nat → NT} (h : pastAt σ (L + 1) P lt) (ht : (P 0).told ≤ 12) : ∃ σ', f_X5_giveLatest σ = some (σ', 1) ∧ netAt σ' 8 (P 0) ∧ pastAt σ' L (fun k => P (k + 1)) ((lt + 8) % 9) ∧ fr σ σ' 8 12 := by
  obtain ⟨h1, h2, h3, h4, h5⟩ := h
  have e0 : plc lt 0 = 13 + 3 * lt := by unfold plc; omega
  have hP0 := h5 0 (by omega)
  rw [e0] at hP0
  obtain ⟨σ1, r1, r2, r3⟩ := copyFrom_at (n := 8) hP0 ht (by omega)
  have hf : fr σ1 (wI (wI σ1 11 2 (nI ((lt + 8) % 9))) 11 1 (nI L)) 11 12 := (fr_wI (by omega) (by omega)).trans (fr_wI (by omega) (by omega))
  have a1 : σ1.1 11 1 = nI (L + 1) := by rw [(r3 11 (by omega)).1]; exact h3
  have a2 : σ1.1 11 2 = nI lt := by rw [(r3 11 (by omega)).1]; exact h4
  refine ⟨wI (wI σ1 11 2 (nI ((lt + 8) % 9))) 11 1 (nI L), ?_, r2.keep hf (by omega), ⟨by omega, Nat.mod_lt _ (by omega), by rw [wI_1, if_pos ⟨rfl, rfl⟩], by rw [wI_1, if_neg (by omega), wI_1, if_pos ⟨rfl, rfl⟩], fun k hk => ?_⟩, (r3.wide (by omega) (by omega)).trans (hf.wide (by omega) (by omega))⟩
  · have hc : (wI σ1 11 2 (nI ((lt + 8) % 9))).1 11 1 = σ1.1 11 1 := by rw [wI_1, if_neg (by omega)]
    unfold f_X5_giveLatest
    rw [h4, placeAt_at h2, ob_s, qm_y, chkS_y (sh_place _ h2), h3, i0, le_n (by omega) (by omega), r1, ob_s, nz9, a2, i9, nI_add, i1, nI_sub (by omega), pk_rem (by omega) (by omega) (by omega), nm_v, show lt + 9 - 1 = lt + 8 by omega, hc, a1, nI_sub (by omega), nm_v, Nat.add_sub_cancel]
    rfl
  · have e : plc ((lt + 8) % 9) k = plc lt (k + 1) := by unfold plc; omega
    rw [e]
    exact ((h5 (k + 1) (by omega)).keep r3 (by unfold plc; omega)).keep hf (by unfold plc; omega)
theorem forget_at {σ : GM} {L lt : Nat} {P : Nat → NT} (h : pastAt σ L P lt) : ∃ σ', f_X5_forget σ = some σ' ∧ pastAt σ' 0 P lt ∧ fr σ σ' 11 12 := by
  obtain ⟨h1, h2, h3, h4, h5⟩ := h
  refine ⟨wI σ 11 1 0, ?_, ⟨by omega, h2, by rw [wI_1, if_pos ⟨rfl, rfl⟩]; rfl, by rw [wI_1, if_neg (by omega)]; exact h4, fun k hk => absurd hk (by omega)⟩, fr_wI (by omega) (by omega)⟩
  unfold f_X5_forget
  rw [nm_v]
