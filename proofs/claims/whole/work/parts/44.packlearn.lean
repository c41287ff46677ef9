/-! LEARNING THE PACKING -/
theorem ringsOK.keep {σ σ' : GM} {B : Nat → Nat → Nat} {h a b : Nat} (H : ringsOK σ B h) (hf : fr σ σ' a b) (hn : 55 ≤ a ∨ b ≤ 49) : ringsOK σ' B h := by
  obtain ⟨ht, L, f, s, h1, h2, h3, h4, h5, h6⟩ := H
  have e49 := (hf 49 (by omega)).1
  have e50 := (hf 50 (by omega)).1
  have e53 := (hf 53 (by omega)).1
  have e54 := (hf 54 (by omega)).1
  exact ⟨fun S hS => by rw [e50]; exact ht S hS, L, f, s, by rw [e49]; exact h1, h2, fun i hi => by rw [e53]; exact h3 i hi, h4, fun v hv => by unfold stA; rw [e54, e49]; exact h5 v hv, h6⟩
theorem packLearn_at {σ : GM} {N : NT} (hw : wf N) (hk : ringsOK σ N.bt N.here) : ∃ σ', f_X4_learn σ (nI N.here) = some σ' ∧ packOK σ' N.bt N.here ∧ fr σ σ' 56 57 := by
  have hh := hw.h4096
  have hP0 : ¬ isM N.bt N.here 0 := fun h => isM_0 h rfl
  unfold f_X4_learn
  refine lq5 (N.here + 1) (by omega) (fun k (a : GM) i => f_X4_learn_L2 (nI N.here) k a i) (fun q a => (∀ S, S < q → subS S N.here → ∃ m, a.1 56 S = nI m ∧ pkv (isM N.bt N.here) S m) ∧ fr σ a 56 57) (fun r => ∃ σ', r = some σ' ∧ packOK σ' N.bt N.here ∧ fr σ σ' 56 57) σ ⟨fun S hS => absurd hS (by omega), fr.rf _ _ _⟩ ?_ ?_
  · intro k q a hq ⟨g2, g3⟩
    have hq4 : q < 4096 := by omega
    have hdl := dif_lt (b := N.here) (n := 12) hq4
    by_cases c : subS q N.here
    · have hwr : ∀ m, pkv (isM N.bt N.here) q m → (∀ S, S < q + 1 → subS S N.here → ∃ m', (wI a 56 q (nI m)).1 56 S = nI m' ∧ pkv (isM N.bt N.here) S m') ∧ fr σ (wI a 56 q (nI m)) 56 57 := by
        intro m m2
        refine ⟨fun S hS hsub => ?_, g3.trans (fr_wI (by omega) (by omega))⟩
        rw [wI_1]
        by_cases e : S = q
        · rw [if_pos ⟨rfl, e⟩, e]; exact ⟨m, rfl, m2⟩
        · rw [if_neg (by omega)]; exact g2 S (by omega) hsub
      by_cases hq0 : q = 0
      · subst hq0
        refine Or.inl ⟨wI a 56 0 (nI 0), hwr 0 (pkv_0 hP0), fun r hr => ?_⟩
        unfold f_X4_learn_L2
        rw [lt_n (by omega) (by omega), show (4096 : Int32) = nI 4096 from rfl, le_n hq4 (by omega), nI_dif, (sub_dif (b32 hq4)).mpr c, if_pos (show nI 0 = 0 from rfl), if_pos (show nI 0 = 0 from rfl), bnd_n hq4 (by omega), nm_v, nm_v, nI_clamp (by omega), i1, nI_add]
        exact hr
      · obtain ⟨m, m1, m2⟩ := mostLow_at hw (hk.keep g3 (by omega)) c hq0 (fun S hS hlt => g2 S hlt (subS_tr hS c))
        refine Or.inl ⟨wI a 56 q (nI m), hwr m m2, fun r hr => ?_⟩
        unfold f_X4_learn_L2
        rw [lt_n (by omega) (by omega), show (4096 : Int32) = nI 4096 from rfl, le_n hq4 (by omega), nI_dif, (sub_dif (b32 hq4)).mpr c, if_pos (show nI 0 = 0 from rfl), i0, eq_n hq0 (by omega) (by omega), m1, ob_s, bnd_n hq4 (by omega), nm_v, nm_v, nI_clamp (by omega), i1, nI_add]
        exact hr
    · have h0 : dif q N.here ≠ 0 := fun z => c ((sub_dif (b32 hq4)).mp z)
      refine Or.inl ⟨a, ⟨fun S hS hsub => ?_, g3⟩, fun r hr => ?_⟩
      · by_cases e : S = q
        · subst e; exact absurd hsub c
        · exact g2 S (by omega) hsub
      · unfold f_X4_learn_L2
        rw [lt_n (by omega) (by omega), show (4096 : Int32) = nI 4096 from rfl, le_n hq4 (by omega), nI_dif, i0, eq_n h0 (by omega) (by omega), nm_v, i1, nI_add]
        exact hr
  · intro k a ⟨g2, g3⟩
    refine ⟨a, ?_, fun S hS => g2 S (by have := subS_le hS; omega) hS, g3⟩
    show f_X4_learn_L2 (nI N.here) (k + 1) a (nI (N.here + 1)) = _
    unfold f_X4_learn_L2
    rw [lt_y (by omega) (by omega)]
/-- the ring that is taken next -/
def nextR (P : Nat → Prop) (v r : Nat) : Prop := P r ∧ subS r v ∧ (∃ m, pkv P v (m + 1) ∧ pk P m (dif v r)) ∧ ∀ r', P r' → subS r' v → (∃ m, pkv P v (m + 1) ∧ pk P m (dif v r')) → r ≤ r'
theorem nextR_uni {P : Nat → Prop} {v r r' : Nat} (h : nextR P v r) (g : nextR P v r') : r = r' := by
  have h1 := h.2.2.2 r' g.1 g.2.1 g.2.2.1
  have h2 := g.2.2.2 r h.1 h.2.1 h.2.2.1
  omega
theorem nextR_MR {N : NT} (hw : wf N) {v r : Nat} (hv : v < 4096) (h : nextR (isM N.bt N.here) v r) : nextR (isR N.bt) v r := by
  obtain ⟨h1, h2, ⟨m, h3, h4⟩, h5⟩ := h
  refine ⟨isM_isR hw.2.2.2.2.1 hw.h4096 h1, h2, ⟨m, (pkv_MR hw hv).mp h3, (pk_MR hw m _ (dif_lt (n := 12) hv)).mp h4⟩, ?_⟩
  intro r' g1 g2 ⟨m', g3, g4⟩
  obtain ⟨-, -, M, hM, hs⟩ := isR_sub hw g1
  have h6 := h5 M hM (subS_tr hs g2) ⟨m', (pkv_MR hw hv).mpr g3, pk_mono _ _ _ (dif_lt (n := 12) hv) (dif_anti hv hs) ((pk_MR hw m' _ (dif_lt (n := 12) hv)).mpr g4)⟩
  have := subS_le hs
  omega
theorem leastOf_at {σ : GM} {N : NT} (hw : wf N) (hk : ringsOK σ N.bt N.here) (hp : packOK σ N.bt N.here) {v m : Nat} (hv : subS v N.here) (hm : pkv (isM N.bt N.here) v (m + 1)) :
    ∃ r, f_X4_leastOfMost σ (nI v) = some (nI r) ∧ nextR (isM N.bt N.here) v r ∧ pkv (isM N.bt N.here) (dif v r) m := by
  obtain ⟨ht, L, f, s, h1, h2, h3, h4, h5, h6⟩ := hk
  have hh := hw.h4096
  have hv4 := subS_lt hv hh
  have hP0 : ¬ isM N.bt N.here 0 := fun h => isM_0 h rfl
  obtain ⟨mv, w1, w2⟩ := hp v hv
  have hmv := pkv_uni hv4 w2 hm
  subst hmv
  have hmle := pk_pc hP0 _ _ hv4 hm.1
  have hpv := pc_le v 12
  have good : ∀ r, isM N.bt N.here r → subS r v → (pkv (isM N.bt N.here) (dif v r) m ↔ pk (isM N.bt N.here) m (dif v r)) := by
    intro r r1 r2
    constructor
    · exact fun z => z.1
    · intro z
      exact ⟨z, fun y => hm.2 ⟨r, r1, r2, y⟩⟩
  have cond : ∀ r, isM N.bt N.here r → subS r v → ((∃ m', pkv (isM N.bt N.here) v (m' + 1) ∧ pk (isM N.bt N.here) m' (dif v r)) ↔ pk (isM N.bt N.here) m (dif v r)) := by
    intro r r1 r2
    constructor
    · rintro ⟨m', a, b⟩
      have := pkv_uni hv4 a hm
      rwa [show m' = m by omega] at b
    · exact fun z => ⟨m, hm, z⟩
  have fin : ∀ b j, j < L → f j = b → subS b v → pk (isM N.bt N.here) m (dif v b) → (∀ i, i < L → subS (f i) v → pk (isM N.bt N.here) m (dif v (f i)) → b ≤ f i) → nextR (isM N.bt N.here) v b ∧ pkv (isM N.bt N.here) (dif v b) m := by
    intro b j a1 a2 a3 a4 a5
    have hMb := (h3 j a1).2
    rw [a2] at hMb
    refine ⟨⟨hMb, a3, ⟨m, hm, a4⟩, fun r' r1 r2 r3 => ?_⟩, (good b hMb a3).mpr a4⟩
    obtain ⟨i, i1, i2⟩ := h4 r' r1
    rw [← i2]
    exact a5 i i1 (by rw [i2]; exact r2) (by rw [i2]; exact (cond r' r1 r2).mp r3)
  unfold f_X4_leastOfMost
  refine lq5 L (by omega) (fun k (a : Int32) i => f_X4_leastOfMost_L5 σ (nI v) k a i) (fun q a => (a = nI 0 ∧ ∀ i, i < q → subS (f i) v → ¬ pk (isM N.bt N.here) m (dif v (f i))) ∨ ∃ b j, a = nI b ∧ j < q ∧ j < L ∧ f j = b ∧ subS b v ∧ pk (isM N.bt N.here) m (dif v b) ∧ ∀ i, i < q → subS (f i) v → pk (isM N.bt N.here) m (dif v (f i)) → b ≤ f i) (fun z => ∃ r, z = some (nI r) ∧ nextR (isM N.bt N.here) v r ∧ pkv (isM N.bt N.here) (dif v r) m) (nI 0) (Or.inl ⟨rfl, fun i hi => absurd hi (by omega)⟩) ?_ ?_
  · intro k q a hq hI
    obtain ⟨hc, hM⟩ := h3 q hq
    have hf4 := subS_lt hM.1 hh
    have hf0 := isM_0 hM
    have hra := ringAt_at h1 h2 hq hc
    have hd4 := dif_lt (b := f q) (n := 12) hv4
    obtain ⟨mr, y1, y2⟩ := hp (dif v (f q)) (subS_tr (dif_sub hv4) hv)
    have hmr := pk_pc hP0 mr _ hd4 y2.1
    have hpr := pc_le (dif v (f q)) 12
    have hskip : (subS (f q) v → ¬ pk (isM N.bt N.here) m (dif v (f q))) → f_X4_leastOfMost_L5 σ (nI v) (k + 1) a (nI q) = f_X4_leastOfMost_L5 σ (nI v) k a (nI (q + 1)) := by
      intro hn
      conv => lhs; unfold f_X4_leastOfMost_L5 f_X4_leastOfMost_L55 f_X4_leastOfMost_L56
      rw [h1, le_n hq (by omega), hra, ob_s, nI_dif]
      by_cases e : subS (f q) v
      · have h0 : dif (f q) v = 0 := (sub_dif (b32 hf4)).mpr e
        have hne : 1 + mr ≠ m + 1 := by
          intro z
          have : mr = m := by omega
          subst this
          exact hn e y2.1
        rw [h0, if_pos (show nI 0 = 0 from rfl), nI_dif, mostIn_at hd4 y1, ob_s, mostIn_at hv4 w1, ob_s, i1, nI_add, eq_n hne (by omega) (by omega), if_pos rfl, nm_v, nI_add]
      · have h0 : dif (f q) v ≠ 0 := fun z => e ((sub_dif (b32 hf4)).mp z)
        have hdl := dif_lt (b := v) (n := 12) hf4
        rw [i0, eq_n h0 (by omega) (by omega), if_pos rfl, nm_v, i1, nI_add]
    have htake : ∀ e : subS (f q) v, pk (isM N.bt N.here) m (dif v (f q)) → f_X4_leastOfMost_L5 σ (nI v) (k + 1) a (nI q) = if a = 0 then f_X4_leastOfMost_L5 σ (nI v) k (nI (f q)) (nI (q + 1)) else if a ≤ nI (f q) then f_X4_leastOfMost_L5 σ (nI v) k a (nI (q + 1)) else f_X4_leastOfMost_L5 σ (nI v) k (nI (f q)) (nI (q + 1)) := by
      intro e hn
      have h0 : dif (f q) v = 0 := (sub_dif (b32 hf4)).mpr e
      have hmm : mr = m := pkv_uni hd4 y2 ((good _ hM e).mpr hn)
      conv => lhs; unfold f_X4_leastOfMost_L5 f_X4_leastOfMost_L56
      rw [h1, le_n hq (by omega), hra, ob_s, nI_dif, h0, if_pos (show nI 0 = 0 from rfl), nI_dif, mostIn_at hd4 y1, ob_s, mostIn_at hv4 w1, ob_s, i1, nI_add, eq_y (by omega), if_neg (by decide), nI_add]
      rfl
    by_cases e : subS (f q) v ∧ pk (isM N.bt N.here) m (dif v (f q))
    · obtain ⟨e1, e2⟩ := e
      rcases hI with ⟨ha, hn⟩ | ⟨b, j, ha, hj, hjL, hfj, hb1, hb2, hb3⟩
      · subst ha
        refine Or.inl ⟨nI (f q), Or.inr ⟨f q, q, rfl, by omega, hq, rfl, e1, e2, fun i hi s1 s2 => ?_⟩, fun r hr => ?_⟩
        · by_cases g : i = q
          · subst g; exact Nat.le_refl _
          · exact absurd s2 (hn i (by omega) s1)
        · rw [htake e1 e2, if_pos (show nI 0 = 0 from rfl)]; exact hr
      · subst ha
        have hMb := (h3 j hjL).2
        rw [hfj] at hMb
        have hb4 := subS_lt hMb.1 hh
        have hb0 := isM_0 hMb
        by_cases c : b ≤ f q
        · refine Or.inl ⟨nI b, Or.inr ⟨b, j, rfl, by omega, hjL, hfj, hb1, hb2, fun i hi s1 s2 => ?_⟩, fun r hr => ?_⟩
          · by_cases g : i = q
            · subst g; exact c
            · exact hb3 i (by omega) s1 s2
          · rw [htake e1 e2, i0, eq_n hb0 (by omega) (by omega), le_y c (by omega)]; exact hr
        · refine Or.inl ⟨nI (f q), Or.inr ⟨f q, q, rfl, by omega, hq, rfl, e1, e2, fun i hi s1 s2 => ?_⟩, fun r hr => ?_⟩
          · by_cases g : i = q
            · subst g; exact Nat.le_refl _
            · have := hb3 i (by omega) s1 s2; omega
          · rw [htake e1 e2, i0, eq_n hb0 (by omega) (by omega), le_n (by omega) (by omega)]; exact hr
    · have hn : subS (f q) v → ¬ pk (isM N.bt N.here) m (dif v (f q)) := fun a b => e ⟨a, b⟩
      refine Or.inl ⟨a, ?_, fun r hr => by rw [hskip hn]; exact hr⟩
      rcases hI with ⟨ha, hn2⟩ | ⟨b, j, ha, hj, hjL, hfj, hb1, hb2, hb3⟩
      · refine Or.inl ⟨ha, fun i hi s1 s2 => ?_⟩
        by_cases g : i = q
        · subst g; exact hn s1 s2
        · exact hn2 i (by omega) s1 s2
      · refine Or.inr ⟨b, j, ha, by omega, hjL, hfj, hb1, hb2, fun i hi s1 s2 => ?_⟩
        by_cases g : i = q
        · subst g; exact absurd s2 (hn s1)
        · exact hb3 i (by omega) s1 s2
  · intro k a hI
    have hend : f_X4_leastOfMost_L5 σ (nI v) (k + 1) a (nI L) = some a := by
      unfold f_X4_leastOfMost_L5
      rw [h1, le_y (Nat.le_refl L) (by omega)]
    show ∃ r, f_X4_leastOfMost_L5 σ (nI v) (k + 1) a (nI L) = some (nI r) ∧ _
    rw [hend]
    rcases hI with ⟨ha, hn⟩ | ⟨b, j, ha, hj, hjL, hfj, hb1, hb2, hb3⟩
    · exfalso
      obtain ⟨r, r1, r2, r3⟩ := hm.1
      obtain ⟨i, i1, i2⟩ := h4 r r1
      exact hn i i1 (by rw [i2]; exact r2) (by rw [i2]; exact r3)
    · exact ⟨b, by rw [ha], fin b j hjL hfj hb1 hb2 hb3⟩
