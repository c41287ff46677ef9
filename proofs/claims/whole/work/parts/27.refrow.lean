/-! THE REFERENCE'S ROWS -/
theorem rfAt.keep {σ σ' : GM} {c o a b : Nat} {N : NT} (h : rfAt σ c o N) (hf : fr σ σ' a b) (hn : c < a ∨ b ≤ c) : rfAt σ' c o N := by
  obtain ⟨h1, h2, h3, h4, h5⟩ := h
  have e := (hf c hn).1
  exact ⟨by rw [e]; exact h1, by rw [e]; exact h2, by rw [e]; exact h3, fun i hi => by rw [e]; exact h4 i hi, fun i hi j hj => by rw [e]; exact h5 i hi j hj⟩
theorem rfAt.row {σ σ' : GM} {c o o' c' : Nat} {N : NT} (h : rfAt σ c o N) (hw : N.told ≤ 12) (hf : ∀ x, x < 159 → σ'.1 c' (o' + x) = σ.1 c (o + x)) : rfAt σ' c' o' N := by
  obtain ⟨h1, h2, h3, h4, h5⟩ := h
  refine ⟨?_, ?_, ?_, ?_, ?_⟩
  · have := hf 0 (by omega)
    rw [Nat.add_zero, Nat.add_zero] at this
    rw [this]; exact h1
  · rw [hf 1 (by omega)]; exact h2
  · rw [hf 2 (by omega)]; exact h3
  · intro i hi
    rw [Nat.add_assoc, hf (3 + i) (by omega), ← Nat.add_assoc]; exact h4 i hi
  · intro i hi j hj
    rw [show o' + 15 + 12 * i + j = o' + (15 + 12 * i + j) by omega, hf _ (by omega), show o + (15 + 12 * i + j) = o + 15 + 12 * i + j by omega]; exact h5 i hi j hj
theorem copy_at {σ : GM} {qa qb o o' za zb : Nat} (hq : qa ≠ qb) (ha : (sh qa).2 = za) (hb : (sh qb).2 = zb) (h1 : o + 159 ≤ za) (h2 : o' + 159 ≤ zb) (h3 : za < 2 ^ 30) (h4 : zb < 2 ^ 30) :
    ∃ σ', f_X12_copy σ qa qb (nI o) (nI o') = some σ' ∧ (∀ x, x < 159 → σ'.1 qb (o' + x) = σ.1 qa (o + x)) ∧ (∀ x, x < o' ∨ o' + 159 ≤ x → σ'.1 qb x = σ.1 qb x) ∧ fr σ σ' qb (qb + 1) := by
  unfold f_X12_copy
  refine lq5 159 (by omega) (fun k (a : GM) i => f_X12_copy_L3 qa qb (nI o) (nI o') k a i) (fun q a => (∀ x, x < q → a.1 qb (o' + x) = σ.1 qa (o + x)) ∧ (∀ x, x < o' ∨ o' + q ≤ x → a.1 qb x = σ.1 qb x) ∧ fr σ a qb (qb + 1)) (fun r => ∃ σ', r = some σ' ∧ (∀ x, x < 159 → σ'.1 qb (o' + x) = σ.1 qa (o + x)) ∧ (∀ x, x < o' ∨ o' + 159 ≤ x → σ'.1 qb x = σ.1 qb x) ∧ fr σ σ' qb (qb + 1)) σ ⟨fun x hx => absurd hx (by omega), fun x _ => rfl, fr.rf _ _ _⟩ ?_ ?_
  · intro k q a hq2 ⟨g1, g2, g3⟩
    refine Or.inl ⟨wI a qb (o' + q) (a.1 qa (o + q)), ⟨?_, ?_, g3.trans (fr_wI (by omega) (by omega))⟩, fun r hr => ?_⟩
    · intro x hx
      rw [wI_1]
      by_cases e : x = q
      · rw [if_pos ⟨rfl, by omega⟩, e, (g3 qa (by omega)).1]
      · rw [if_neg (by omega)]; exact g1 x (by omega)
    · intro x hx
      rw [wI_1, if_neg (by omega)]
      exact g2 x (by omega)
    · unfold f_X12_copy_L3
      rw [i159, le_n hq2 (by omega), nm_v, nI_add, nI_add, ha, hb, bnd_n (by omega) (by omega), bnd_n (by omega) (by omega), nm_v, nm_v, nI_clamp (by omega), nI_clamp (by omega), i1, nI_add]
      exact hr
  · intro k a ⟨g1, g2, g3⟩
    refine ⟨a, ?_, g1, g2, g3⟩
    unfold f_X12_copy_L3
    rw [i159, le_y (Nat.le_refl 159) (by omega)]
theorem adds_at {σ : GM} {c : Nat} {N : NT} (h : rfAt σ c 0 N) (hs : symB N.bt) {a b m : Nat} {v : Int32} (ha : a < 12) (hb : b < 12) (ht : N.told ≤ 12) (hv : nI (N.bt a b) + v = nI m) :
    ∃ σ', f_X12_adds σ c (nI a) (nI b) v = some σ' ∧ rfAt σ' c 0 (N.setL a b m) ∧ fr σ σ' c (c + 1) := by
  have hB := h.rb
  obtain ⟨h1, h2, h3, h4, h5⟩ := id h
  have hset : ∀ i j, (N.setL a b m).bt i j = if (i = a ∧ j = b) ∨ (i = b ∧ j = a) then m else N.bt i j := fun i j => rfl
  by_cases e : a = b
  · subst e
    refine ⟨wI σ c (15 + 12 * a + a) (nI m), ?_, ?_, fr_wI (by omega) (by omega)⟩
    · unfold f_X12_adds
      rw [nm_v, i15, i12, pk_mul, nI_add, nI_add, bnd_n (by omega) (by omega), bnd_n (by omega) (by omega), nm_v, if_pos rfl, nI_clamp (by omega), hB a ha a ha, hv]
    · refine ⟨?_, ?_, ?_, ?_, ?_⟩
      · rw [wI_1, if_neg (by omega)]; exact h1
      · rw [wI_1, if_neg (by omega)]; exact h2
      · rw [wI_1, if_neg (by omega)]; exact h3
      · intro i hi
        have hi : i < N.told := hi
        rw [wI_1, if_neg (by omega)]; exact h4 i hi
      · intro i hi j hj
        rw [wI_1, hset]
        by_cases f : i = a ∧ j = a
        · rw [if_pos (by omega), if_pos (by omega)]
        · rw [if_neg (by omega), if_neg (by omega)]; exact h5 i hi j hj
  · refine ⟨wI (wI σ c (15 + 12 * a + b) (nI m)) c (15 + 12 * b + a) (nI m), ?_, ?_, (fr_wI (by omega) (by omega)).trans (fr_wI (by omega) (by omega))⟩
    · unfold f_X12_adds
      rw [nm_v, i15, i12, pk_mul, nI_add, nI_add, bnd_n (by omega) (by omega), bnd_n (by omega) (by omega), nm_v, eq_n e (by omega) (by omega), nI_clamp (by omega), hB a ha b hb, hv, nm_v, pk_mul, nI_add, nI_add, bnd_n (by omega) (by omega), bnd_n (by omega) (by omega), nm_v, nI_clamp (by omega), wI_1, if_neg (by omega), hB b hb a ha, hs b a, hv]
    · refine ⟨?_, ?_, ?_, ?_, ?_⟩
      · rw [wI_1, if_neg (by omega), wI_1, if_neg (by omega)]; exact h1
      · rw [wI_1, if_neg (by omega), wI_1, if_neg (by omega)]; exact h2
      · rw [wI_1, if_neg (by omega), wI_1, if_neg (by omega)]; exact h3
      · intro i hi
        have hi : i < N.told := hi
        rw [wI_1, if_neg (by omega), wI_1, if_neg (by omega)]; exact h4 i hi
      · intro i hi j hj
        rw [wI_1, wI_1, hset]
        by_cases f : i = b ∧ j = a
        · rw [if_pos (by omega), if_pos (by omega)]
        · rw [if_neg (by omega)]
          by_cases g : i = a ∧ j = b
          · rw [if_pos (by omega), if_pos (by omega)]
          · rw [if_neg (by omega), if_neg (by omega)]; exact h5 i hi j hj
theorem dS_alt {B : Nat → Nat → Nat} {s p : Nat} (hp : p < 12) (ht : s.testBit p = true) : sm (fun j => bI (s.testBit j) * (B p j * if p = j then 2 else 1)) 12 = dS B s p := by
  have h1 := sm_upd (f := fun j => bI (s.testBit j) * (B p j * if p = j then 2 else 1)) (g := fun j => bI (s.testBit j) * B p j) hp (fun i hi hne => by rw [if_neg (Ne.symm hne), Nat.mul_one])
  simp only [ht, if_true, bI_t] at h1
  unfold dS
  omega
theorem ends_at {σ : GM} {c : Nat} {B : Nat → Nat → Nat} (hB : rbB σ c B) {s p : Nat} (hs : s < 4096) (hp : p < 12) (ht : s.testBit p = true) : f_X12_ends σ c (nI p) (nI s) = some (nI (dS B s p)) := by
  rw [← dS_alt hp ht]
  unfold f_X12_ends
  refine lq5 12 (by omega) (fun k a i => f_X12_ends_L5 σ c (nI p) (nI s) k a i) (fun q a => a = nI (sm (fun j => bI (s.testBit j) * (B p j * if p = j then 2 else 1)) q)) (fun r => r = some (nI (sm (fun j => bI (s.testBit j) * (B p j * if p = j then 2 else 1)) 12))) 0 rfl ?_ ?_
  · intro k q a hq ha
    subst ha
    refine Or.inl ⟨_, rfl, fun r hr => ?_⟩
    unfold f_X12_ends_L5
    rw [i12, le_n hq (by omega), has_at hs hq, ob_s]
    cases hq2 : s.testBit q with
    | false =>
      rw [sm_n (f := fun j => B p j * if p = j then 2 else 1) hq2] at hr
      rw [bz_y rfl, nm_v, i1, nI_add]
      exact hr
    | true =>
      rw [sm_y (f := fun j => B p j * if p = j then 2 else 1) hq2] at hr
      rw [bz_n rfl, between_at hB hp hq, ob_s]
      by_cases e : p = q
      · rw [if_pos e] at hr
        rw [eq_y e, i2, pk_mul, nm_v, nI_add, nm_v, i1, nI_add]
        exact hr
      · rw [if_neg e] at hr
        rw [eq_n e (by omega) (by omega), i1, pk_mul, nm_v, nI_add, nm_v, nI_add]
        exact hr
  · intro k a ha
    subst ha
    unfold f_X12_ends_L5
    rw [i12, le_y (Nat.le_refl 12) (by omega)]
theorem tb4095 : ∀ j, j < 12 → (4095).testBit j = true := by decide
theorem dS_all (B : Nat → Nat → Nat) (p : Nat) : dS B 4095 p = dgB B p := by
  unfold dS dgB
  congr 1
  exact sm_congr _ (fun j hj => by rw [tb4095 j hj, bI_t, Nat.one_mul])
theorem allEnds_at {σ : GM} {c : Nat} {B : Nat → Nat → Nat} (hB : rbB σ c B) {p : Nat} (hp : p < 12) : f_X12_allEnds σ c (nI p) = some (nI (dgB B p)) := by
  unfold f_X12_allEnds
  rw [show (4095 : Int32) = nI 4095 from rfl, ends_at hB (by omega) hp (tb4095 p hp), ob_s, dS_all]
theorem lineMany_at {σ : GM} {c : Nat} {B : Nat → Nat → Nat} (hB : rbB σ c B) (hb : ∀ i j, B i j ≤ 20) {s : Nat} (hs : s < 4096) : f_X12_lineMany σ c (nI s) = some (nI (eS B s / 2)) := by
  unfold f_X12_lineMany
  refine lq5 12 (by omega) (fun k a i => f_X12_lineMany_L4 σ c (nI s) k a i) (fun q a => a = nI (sm (fun i => bI (s.testBit i) * dS B s i) q)) (fun r => r = some (nI (eS B s / 2))) 0 rfl ?_ ?_
  · intro k q a hq ha
    subst ha
    refine Or.inl ⟨_, rfl, fun r hr => ?_⟩
    unfold f_X12_lineMany_L4
    rw [i12, le_n hq (by omega), has_at hs hq, ob_s]
    cases ht : s.testBit q with
    | false =>
      rw [sm_n ht] at hr
      rw [bz_y rfl, nm_v, i1, nI_add]
      exact hr
    | true =>
      rw [sm_y ht] at hr
      rw [bz_n rfl, ends_at hB hs hq ht, ob_s, nm_v, nm_v, i1, nI_add, nI_add]
      exact hr
  · intro k a ha
    subst ha
    unfold f_X12_lineMany_L4
    rw [i12, le_y (Nat.le_refl 12) (by omega), i2, nz_n (by omega) (by omega), ← i2, nI_half (by have := eS_le hb s; unfold eS at this; omega)]
    rfl
theorem tri {B : Nat → Nat → Nat} (hs : symB B) (n : Nat) : sm (fun i => B i i + sm (fun j => B i j) n) n = 2 * sm (fun i => sm (fun j => B i j) (i + 1)) n := by
  have h0 : ∀ m n, sm (fun i => B i i + sm (fun j => B i j) m) n = sm (fun i => B i i) n + sm (fun i => sm (fun j => B i j) m) n := fun m n => sm_add _ _ n
  induction n with
  | zero => rfl
  | succ n ih =>
    rw [h0] at ih ⊢
    have e1 : sm (fun i => B i i) (n + 1) = sm (fun i => B i i) n + B n n := rfl
    have e2 : sm (fun i => sm (fun j => B i j) (n + 1)) (n + 1) = sm (fun i => sm (fun j => B i j) (n + 1)) n + sm (fun j => B n j) (n + 1) := rfl
    have e3 : sm (fun i => sm (fun j => B i j) (i + 1)) (n + 1) = sm (fun i => sm (fun j => B i j) (i + 1)) n + sm (fun j => B n j) (n + 1) := rfl
    have h1 : sm (fun i => sm (fun j => B i j) (n + 1)) n = sm (fun i => sm (fun j => B i j) n) n + sm (fun j => B n j) n := by
      have := sm_add (fun i => sm (fun j => B i j) n) (fun i => B i n) n
      rw [sm_congr (f := fun i => sm (fun j => B i j) (n + 1)) (g := fun i => sm (fun j => B i j) n + B i n) n (fun i hi => rfl), this]
      congr 1
      exact sm_congr n (fun i hi => hs i n)
    have h2 : sm (fun j => B n j) (n + 1) = sm (fun j => B n j) n + B n n := rfl
    omega
theorem eS_all {B : Nat → Nat → Nat} (hs : symB B) : eS B 4095 / 2 = lcB B := by
  have h1 : eS B 4095 = sm (fun i => B i i + sm (fun j => B i j) 12) 12 := by
    unfold eS
    exact sm_congr _ (fun i hi => by rw [tb4095 i hi, bI_t, Nat.one_mul, dS_all]; rfl)
  rw [h1, tri hs]
  unfold lcB
  omega
theorem weightOf_rf {σ : GM} {N : NT} (h : rfAt σ 62 0 N) (hw : wf N) {s : Nat} (hs : s &&& N.here = s) : f_X12_weightOf σ (nI s) = some (nI (wS N.wt s)) := by
  have hs4 : s < 4096 := by rw [← hs]; exact Nat.lt_of_le_of_lt Nat.and_le_right hw.h4096
  have hsub := sub_and.mp hs
  unfold f_X12_weightOf
  refine lq5 12 (by omega) (fun k a i => f_X12_weightOf_L4 σ (nI s) k a i) (fun q a => a = nI (sm (fun i => bI (s.testBit i) * N.wt i) q)) (fun r => r = some (nI (wS N.wt s))) 0 rfl ?_ ?_
  · intro k q a hq ha
    subst ha
    refine Or.inl ⟨_, rfl, fun r hr => ?_⟩
    unfold f_X12_weightOf_L4
    rw [i12, le_n hq (by omega), has_at hs4 hq, ob_s]
    cases ht : s.testBit q with
    | false =>
      rw [sm_n ht] at hr
      rw [bz_y rfl, nm_v, i1, nI_add]
      exact hr
    | true =>
      rw [sm_y ht] at hr
      have h4 := h.2.2.2.1 q (here_told hw (hsub q ht))
      rw [Nat.zero_add] at h4
      rw [bz_n rfl, nm_v, i3, nI_add, bnd_n (by omega) (by omega), nI_clamp (by omega), h4, nm_v, nm_v, i1, nI_add, nI_add]
      exact hr
  · intro k a ha
    subst ha
    unfold f_X12_weightOf_L4
    rw [i12, le_y (Nat.le_refl 12) (by omega)]
    rfl
