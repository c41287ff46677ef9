/-! WHAT CAN BE UNDONE, in the class -/
theorem sh_place : ∀ j, j < 9 → sh (13 + 3 * j) = (3, 0) := by decide
def plc (lt k : Nat) : Nat := 13 + 3 * ((lt + 9 - k) % 9)
def pastAt (σ : GM) (L : Nat) (P : Nat → NT) (lt : Nat) : Prop := L ≤ 8 ∧ lt < 9 ∧ σ.1 11 1 = nI L ∧ σ.1 11 2 = nI lt ∧ ∀ k, k < L → netAt σ (plc lt k) (P k)
theorem pastAt.keep {σ σ' : GM} {L lt a b : Nat} {P : Nat → NT} (h : pastAt σ L P lt) (hf : fr σ σ' a b) (hn : 40 ≤ a ∨ b ≤ 11) : pastAt σ' L P lt := by
  obtain ⟨h1, h2, h3, h4, h5⟩ := h
  have e := (hf 11 (by omega)).1
  exact ⟨h1, h2, by rw [e]; exact h3, by rw [e]; exact h4, fun k hk => (h5 k hk).keep hf (by unfold plc; omega)⟩
theorem placeAt_at {σ : GM} {j : Nat} (hj : j < 9) : f_X5_placeAt σ (nI j) = some (some (13 + 3 * j)) := by
  unfold f_X5_placeAt
  rw [i0, lt_n (by omega) (by omega), i9, le_n hj (by omega), bnd_n hj (by omega), nI_clamp (by omega)]
theorem qm_y {β : Type} {v : Nat} {a : β} {k : Nat → β} : qm (some v) a k = k v := rfl
theorem chkS_y {β : Type} {v : Nat} {q : Nat × Nat} {k : Option β} (h : sh v = q) : chkS v q k = k := if_pos h
theorem nz9 {β : Type} (k : Option β) : nz (9 : Int32) k = k := by unfold nz; rw [if_neg (by decide)]
theorem note_at {σ : GM} {L lt : Nat} {P : Nat → NT} {N : NT} (h : pastAt σ L P lt) (hn : netAt σ 8 N) (ht : N.told ≤ 12) : ∃ σ', f_X5_note σ = some σ' ∧ pastAt σ' L P lt ∧ netAt σ' (13 + 3 * ((lt + 1) % 9)) N ∧ fr σ σ' 13 40 := by
  obtain ⟨h1, h2, h3, h4, h5⟩ := h
  have hm : (lt + 1) % 9 < 9 := Nat.mod_lt _ (by omega)
  obtain ⟨σ1, r1, r2, r3⟩ := copyFrom_at (n := 13 + 3 * ((lt + 1) % 9)) hn ht (by omega)
  refine ⟨σ1, ?_, ?_, r2, r3.wide (by omega) (by omega)⟩
  · unfold f_X5_note
    rw [nz9, h4, i1, nI_add, i9, pk_rem (by omega) (by omega) (by omega), placeAt_at hm, ob_s, qm_y, chkS_y (sh_place _ hm), r1, ob_s]
  · have e := (r3 11 (by omega)).1
    refine ⟨h1, h2, by rw [e]; exact h3, by rw [e]; exact h4, fun k hk => (h5 k hk).keep r3 ?_⟩
    unfold plc
    omega
theorem keepNoted_at {σ : GM} {L lt : Nat} {P : Nat → NT} {N : NT} (h : pastAt σ L P lt) (hn : netAt σ (13 + 3 * ((lt + 1) % 9)) N) : ∃ σ', f_X5_keepNoted σ = some σ' ∧ pastAt σ' (min (L + 1) 8) (fun k => if k = 0 then N else P (k - 1)) ((lt + 1) % 9) ∧ fr σ σ' 11 12 := by
  obtain ⟨h1, h2, h3, h4, h5⟩ := h
  have hm : (lt + 1) % 9 < 9 := Nat.mod_lt _ (by omega)
  have hmin : (if nI (L + 1) < nI 8 then nI (L + 1) else nI 8) = nI (min (L + 1) 8) := by
    by_cases c : L + 1 < 8
    · rw [lt_y c (by omega), Nat.min_eq_left (by omega)]
    · rw [lt_n (by omega) (by omega), Nat.min_eq_right (by omega)]
  have hf : fr σ (wI (wI σ 11 2 (nI ((lt + 1) % 9))) 11 1 (nI (min (L + 1) 8))) 11 12 := (fr_wI (by omega) (by omega)).trans (fr_wI (by omega) (by omega))
  refine ⟨wI (wI σ 11 2 (nI ((lt + 1) % 9))) 11 1 (nI (min (L + 1) 8)), ?_, ⟨by omega, hm, by rw [wI_1, if_pos ⟨rfl, rfl⟩], by rw [wI_1, if_neg (by omega), wI_1, if_pos ⟨rfl, rfl⟩], fun k hk => ?_⟩, hf⟩
  · have hc : (wI σ 11 2 (nI ((lt + 1) % 9))).1 11 1 = σ.1 11 1 := by rw [wI_1, if_neg (by omega)]
    unfold f_X5_keepNoted
    rw [nz9, h4, i1, nI_add, i9, pk_rem (by omega) (by omega) (by omega), nm_v, nm_v, hc, h3, nI_add, show (8 : Int32) = nI 8 from rfl, hmin]
  · by_cases c : k = 0
    · subst c
      have e : plc ((lt + 1) % 9) 0 = 13 + 3 * ((lt + 1) % 9) := by unfold plc; omega
      rw [e]
      exact hn.keep hf (by omega)
    · have e : plc ((lt + 1) % 9) k = plc lt (k - 1) := by unfold plc; omega
      show netAt _ _ (if k = 0 then N else P (k - 1))
      rw [if_neg c, e]
      exact (h5 (k - 1) (by omega)).keep hf (by unfold plc; omega)
