/-! NETS: copying, emptying, a point more -/
theorem netAt.mk' {σ : GM} {n : Nat} {N : NT} (h1 : σ.1 n 2 = nI N.told) (h2 : σ.1 n 3 = nI N.here) (h3 : σ.1 n 4 = nI N.gone) (h4 : σ.1 n 5 = nI (lcB N.bt)) (h5 : ∀ i, i < N.told → σ.1 (n + 1) i = nI (N.wt i)) (h6 : ∀ i, i < 144 → σ.1 (n + 2) i = nI (N.bt (i / 12) (i % 12))) : netAt σ n N := by
  refine ⟨h1, h2, h3, h4, h5, ?_⟩
  intro i hi j hj
  rw [h6 (12 * i + j) (by omega), show (12 * i + j) / 12 = i by omega, show (12 * i + j) % 12 = j by omega]
theorem netAt.by {σ : GM} {n : Nat} {N : NT} (h : netAt σ n N) {i : Nat} (hi : i < 144) : σ.1 (n + 2) i = nI (N.bt (i / 12) (i % 12)) := by
  have := h.2.2.2.2.2 (i / 12) (by omega) (i % 12) (by omega)
  rwa [Nat.div_add_mod] at this
theorem copyFrom_at {σ : GM} {n o : Nat} {N : NT} (h : netAt σ o N) (hw : N.told ≤ 12) (hno : o + 3 ≤ n ∨ n + 3 ≤ o) : ∃ σ', f_X3_copyFrom σ n o = some σ' ∧ netAt σ' n N ∧ fr σ σ' n (n + 3) := by
  obtain ⟨h1, h2, h3, h4, h5, -⟩ := id h
  have hb := fun i hi => h.by (i := i) hi
  unfold f_X3_copyFrom
  rw [nm_v, nm_v, nm_v, nm_v]
  refine lq5 12 (by omega) (fun k (a : GM) i => f_X3_copyFrom_L34 n o k a i) (fun q a => fr σ a n (n + 3) ∧ a.1 n 2 = nI N.told ∧ a.1 n 3 = nI N.here ∧ a.1 n 4 = nI N.gone ∧ a.1 n 5 = nI (lcB N.bt) ∧ ∀ i, i < q → a.1 (n + 1) i = σ.1 (o + 1) i) (fun r => ∃ σ', r = some σ' ∧ netAt σ' n N ∧ fr σ σ' n (n + 3)) _ ?_ ?_ ?_
  rotate_left
  · intro k q a hq ⟨g0, g1, g2, g3, g4, g5⟩
    refine Or.inl ⟨wI a (n + 1) q (a.1 (o + 1) q), ?_, fun r hr => ?_⟩
    · refine ⟨g0.trans (fr_wI (by omega) (by omega)), ?_, ?_, ?_, ?_, ?_⟩
      · rw [wI_1, if_neg (by omega)]; exact g1
      · rw [wI_1, if_neg (by omega)]; exact g2
      · rw [wI_1, if_neg (by omega)]; exact g3
      · rw [wI_1, if_neg (by omega)]; exact g4
      · intro i hi
        rw [wI_1]
        by_cases e : i = q
        · rw [if_pos ⟨rfl, e⟩, e, (g0 (o + 1) (by omega)).1]
        · rw [if_neg (by omega)]; exact g5 i (by omega)
    · unfold f_X3_copyFrom_L34
      rw [i12, le_n hq (by omega), le_n hq (by omega), bnd_n hq (by omega), bnd_n hq (by omega), nm_v, nm_v, nI_clamp (by omega), i1, nI_add]
      exact hr
  · intro k a ⟨g0, g1, g2, g3, g4, g5⟩
    show ∃ σ', f_X3_copyFrom_L34 n o (k + 1) a (nI 12) = some σ' ∧ _
    unfold f_X3_copyFrom_L34
    rw [i12, le_y (Nat.le_refl 12) (by omega)]
    refine lq5 144 (by omega) (fun k (a : GM) i => f_X3_copyFrom_L72 n o k a i) (fun q a => fr σ a n (n + 3) ∧ a.1 n 2 = nI N.told ∧ a.1 n 3 = nI N.here ∧ a.1 n 4 = nI N.gone ∧ a.1 n 5 = nI (lcB N.bt) ∧ (∀ i, i < 12 → a.1 (n + 1) i = σ.1 (o + 1) i) ∧ ∀ i, i < q → a.1 (n + 2) i = σ.1 (o + 2) i) (fun r => ∃ σ', r = some σ' ∧ netAt σ' n N ∧ fr σ σ' n (n + 3)) a ⟨g0, g1, g2, g3, g4, g5, fun i hi => absurd hi (by omega)⟩ ?_ ?_
    · intro k q a hq ⟨g0, g1, g2, g3, g4, g5, g6⟩
      refine Or.inl ⟨wI a (n + 2) q (a.1 (o + 2) q), ?_, fun r hr => ?_⟩
      · refine ⟨g0.trans (fr_wI (by omega) (by omega)), ?_, ?_, ?_, ?_, ?_, ?_⟩
        · rw [wI_1, if_neg (by omega)]; exact g1
        · rw [wI_1, if_neg (by omega)]; exact g2
        · rw [wI_1, if_neg (by omega)]; exact g3
        · rw [wI_1, if_neg (by omega)]; exact g4
        · intro i hi; rw [wI_1, if_neg (by omega)]; exact g5 i hi
        · intro i hi
          rw [wI_1]
          by_cases e : i = q
          · rw [if_pos ⟨rfl, e⟩, e, (g0 (o + 2) (by omega)).1]
          · rw [if_neg (by omega)]; exact g6 i (by omega)
      · unfold f_X3_copyFrom_L72
        rw [i144, le_n hq (by omega), le_n hq (by omega), bnd_n hq (by omega), bnd_n hq (by omega), nm_v, nm_v, nI_clamp (by omega), i1, nI_add]
        exact hr
    · intro k a ⟨g0, g1, g2, g3, g4, g5, g6⟩
      refine ⟨a, ?_, netAt.mk' g1 g2 g3 g4 (fun i hi => by rw [g5 i (by omega)]; exact h5 i hi) (fun i hi => by rw [g6 i hi]; exact hb i hi), g0⟩
      unfold f_X3_copyFrom_L72
      rw [i144, le_y (Nat.le_refl 144) (by omega)]
  · refine ⟨(((fr_wI (by omega) (by omega)).trans (fr_wI (by omega) (by omega))).trans (fr_wI (by omega) (by omega))).trans (fr_wI (by omega) (by omega)), ?_, ?_, ?_, ?_, fun i hi => absurd hi (by omega)⟩
    · simp only [wI_1]
      rw [if_neg (by omega), if_neg (by omega), if_neg (by omega), if_pos ⟨trivial, trivial⟩]; exact h1
    · simp only [wI_1]
      rw [if_neg (by omega), if_neg (by omega), if_pos ⟨trivial, trivial⟩, if_neg (by omega)]; exact h2
    · simp only [wI_1]
      rw [if_neg (by omega), if_pos ⟨trivial, trivial⟩, if_neg (by omega), if_neg (by omega)]; exact h3
    · simp only [wI_1]
      rw [if_pos ⟨trivial, trivial⟩, if_neg (by omega), if_neg (by omega), if_neg (by omega)]; exact h4
def NT.emp : NT := ((0, 0, 0), fun _ => 1, fun _ _ => 0)
theorem lcB_0 : lcB (fun _ _ => 0) = 0 := sm_zero _ (fun i _ => sm_zero _ (fun j _ => rfl))
theorem emp_wf : wf NT.emp := by
  refine ⟨Nat.zero_le _, by decide, by decide, fun i hi => ⟨Nat.le_refl 1, (by decide : 1 ≤ 9)⟩, fun i j => rfl, fun i j h => absurd rfl h, ?_, ?_⟩
  · show lcB (fun _ _ => 0) ≤ 20
    rw [lcB_0]; omega
  · intro i hi
    show dgB (fun _ _ => 0) i ≤ 6
    unfold dgB
    rw [sm_zero _ (fun j _ => rfl)]; exact Nat.zero_le _
theorem empty_at (σ : GM) (n : Nat) : ∃ σ', f_X3_empty σ n = some σ' ∧ netAt σ' n NT.emp ∧ fr σ σ' n (n + 3) := by
  unfold f_X3_empty
  rw [nm_v, nm_v, nm_v, nm_v]
  refine lq5 144 (by omega) (fun k (a : GM) i => f_X3_empty_L22 n k a i) (fun q a => fr σ a n (n + 3) ∧ a.1 n 2 = nI 0 ∧ a.1 n 3 = nI 0 ∧ a.1 n 4 = nI 0 ∧ a.1 n 5 = nI 0 ∧ ∀ i, i < q → a.1 (n + 2) i = nI 0) (fun r => ∃ σ', r = some σ' ∧ netAt σ' n NT.emp ∧ fr σ σ' n (n + 3)) _ ?_ ?_ ?_
  rotate_left
  · intro k q a hq ⟨g0, g1, g2, g3, g4, g6⟩
    refine Or.inl ⟨wI a (n + 2) q 0, ?_, fun r hr => ?_⟩
    · refine ⟨g0.trans (fr_wI (by omega) (by omega)), ?_, ?_, ?_, ?_, ?_⟩
      · rw [wI_1, if_neg (by omega)]; exact g1
      · rw [wI_1, if_neg (by omega)]; exact g2
      · rw [wI_1, if_neg (by omega)]; exact g3
      · rw [wI_1, if_neg (by omega)]; exact g4
      · intro i hi
        rw [wI_1]
        by_cases e : i = q
        · rw [if_pos ⟨rfl, e⟩]; rfl
        · rw [if_neg (by omega)]; exact g6 i (by omega)
    · unfold f_X3_empty_L22
      rw [i144, le_n hq (by omega), bnd_n hq (by omega), nm_v, nm_v, nI_clamp (by omega), i1, nI_add]
      exact hr
  · intro k a ⟨g0, g1, g2, g3, g4, g6⟩
    refine ⟨a, ?_, netAt.mk' g1 g2 g3 ?_ (fun i hi => absurd hi (by show ¬ i < 0; omega)) (fun i hi => g6 i hi), g0⟩
    · unfold f_X3_empty_L22
      rw [i144, le_y (Nat.le_refl 144) (by omega)]
    · show a.1 n 5 = nI (lcB (fun _ _ => 0))
      rw [lcB_0]; exact g4
  · refine ⟨(((fr_wI (by omega) (by omega)).trans (fr_wI (by omega) (by omega))).trans (fr_wI (by omega) (by omega))).trans (fr_wI (by omega) (by omega)), ?_, ?_, ?_, ?_, fun i hi => absurd hi (by omega)⟩
    · simp only [wI_1]
      rw [if_neg (by omega), if_neg (by omega), if_neg (by omega), if_pos ⟨trivial, trivial⟩]; rfl
    · simp only [wI_1]
      rw [if_neg (by omega), if_neg (by omega), if_pos ⟨trivial, trivial⟩]; rfl
    · simp only [wI_1]
      rw [if_neg (by omega), if_pos ⟨trivial, trivial⟩]; rfl
    · simp only [wI_1]
      rw [if_pos ⟨trivial, trivial⟩]; rfl
def NT.addP (N : NT) : NT := ((N.told + 1, N.here ||| 2 ^ N.told, N.gone), (fun i => if i = N.told then 1 else N.wt i), N.bt)
theorem addP_wf {N : NT} (h : wf N) (h12 : N.told < 12) : wf N.addP := by
  obtain ⟨w1, w2, w3, w4, w5, w6, w7, w8⟩ := h
  refine ⟨h12, ?_, w3, ?_, w5, ?_, w7, w8⟩
  · show N.here ||| 2 ^ N.told < 2 ^ (N.told + 1)
    exact Nat.or_lt_two_pow (Nat.lt_of_lt_of_le w2 (Nat.pow_le_pow_right (by decide) (by omega))) (Nat.pow_lt_pow_right (by decide) (by omega))
  · intro i hi
    have hi : i < N.told + 1 := hi
    show 1 ≤ (if i = N.told then 1 else N.wt i) ∧ (if i = N.told then 1 else N.wt i) ≤ 9
    split
    · omega
    · exact w4 i (by omega)
  · intro i j hne
    obtain ⟨a, b⟩ := w6 i j hne
    constructor
    · show (N.here ||| 2 ^ N.told).testBit i = true
      rw [Nat.testBit_or, a]; rfl
    · show (N.here ||| 2 ^ N.told).testBit j = true
      rw [Nat.testBit_or, b]; rfl
theorem addPoint_at {σ : GM} {n : Nat} {N : NT} (h : netAt σ n N) (h12 : N.told < 12) : ∃ σ', f_X3_addPoint σ n = some σ' ∧ netAt σ' n N.addP ∧ fr σ σ' n (n + 3) := by
  obtain ⟨h1, h2, h3, h4, h5, h6⟩ := id h
  refine ⟨_, by
    unfold f_X3_addPoint
    rw [h1, i0, lt_n (by omega) (by omega), i12, le_n h12 (by omega), bnd_n h12 (by omega), nm_v, nm_v, nm_v], ?_, ?_⟩
  · refine ⟨?_, ?_, ?_, ?_, ?_, ?_⟩
    · simp only [wI_1]
      rw [if_pos ⟨trivial, trivial⟩, if_neg (by omega), if_neg (by omega), h1, i1, nI_add]; rfl
    · simp only [wI_1]
      rw [if_neg (by omega), if_pos ⟨trivial, trivial⟩, if_neg (by omega), if_neg (by omega), h1, h2, nI_set h12]; rfl
    · simp only [wI_1]
      rw [if_neg (by omega), if_neg (by omega), if_neg (by omega), h3]; rfl
    · simp only [wI_1]
      rw [if_neg (by omega), if_neg (by omega), if_neg (by omega), h4]; rfl
    · intro i hi
      have hi : i < N.told + 1 := hi
      simp only [wI_1]
      rw [if_neg (by omega), if_neg (by omega), nI_clamp (by omega)]
      show _ = nI (if i = N.told then 1 else N.wt i)
      by_cases e : i = N.told
      · rw [if_pos ⟨trivial, e⟩, if_pos e]; rfl
      · rw [if_neg (by omega), if_neg e]; exact h5 i (by omega)
    · intro i hi j hj
      simp only [wI_1]
      rw [if_neg (by omega), if_neg (by omega), if_neg (by omega)]
      exact h6 i hi j hj
  · exact ((fr_wI (by omega) (by omega)).trans (fr_wI (by omega) (by omega))).trans (fr_wI (by omega) (by omega))
