/-! THE SHORTEST RING -/
def bestS (P : Nat → Prop) (r : Nat) : Prop := (r = 0 ∧ ∀ S, ¬ P S) ∨ (P r ∧ ∀ S, P S → pc r 12 < pc S 12 ∨ (pc r 12 = pc S 12 ∧ r ≤ S))
theorem bestS_uni {P : Nat → Prop} {r r' : Nat} (h : bestS P r) (h' : bestS P r') : r = r' := by
  rcases h with ⟨a, b⟩ | ⟨a, b⟩
  · rcases h' with ⟨c, d⟩ | ⟨c, d⟩
    · rw [a, c]
    · exact absurd c (b r')
  · rcases h' with ⟨c, d⟩ | ⟨c, d⟩
    · exact absurd a (d r)
    · have h1 := b r' c
      have h2 := d r a
      omega
theorem isR_sub {N : NT} (hw : wf N) {S : Nat} (h : isR N.bt S) : subS S N.here ∧ S < 4096 ∧ ∃ M, isM N.bt N.here M ∧ subS M S := by
  obtain ⟨h1, h2⟩ := isR_busy hw.2.2.2.2.1 h
  have h3 := busy_here hw h1
  exact ⟨h3, h2, isM_ex hw.h4096 (S + 1) S (by omega) h3 (busy_nf h1)⟩
theorem bestS_MR {N : NT} (hw : wf N) {r : Nat} (h : bestS (isM N.bt N.here) r) : bestS (isR N.bt) r := by
  rcases h with ⟨a, b⟩ | ⟨a, b⟩
  · left
    refine ⟨a, fun S hS => ?_⟩
    obtain ⟨-, -, M, hM, -⟩ := isR_sub hw hS
    exact b M hM
  · right
    refine ⟨isM_isR hw.2.2.2.2.1 hw.h4096 a, fun S hS => ?_⟩
    obtain ⟨-, -, M, hM, hs⟩ := isR_sub hw hS
    have h1 := b M hM
    have h2 := pc_sub hs
    have h3 := subS_le hs
    omega
theorem ringAt_at {σ : GM} {L i x : Nat} (h1 : σ.1 49 5 = nI L) (hL : L ≤ 924) (hi : i < L) (h2 : σ.1 53 i = nI x) : f_X8_ringAt σ (nI i) = some (nI x) := by
  unfold f_X8_ringAt
  rw [i0, lt_n (by omega) (by omega), show (924 : Int32) = nI 924 from rfl, le_n (by omega) (by omega), h1, le_n hi (by omega), bnd_n (by omega) (by omega), nI_clamp (by omega), h2]
theorem shortestRing_at {σ : GM} {N : NT} (hw : wf N) (hk : ringsOK σ N.bt N.here) : ∃ r, f_X8_shortestRing σ = some (nI r) ∧ bestS (isR N.bt) r := by
  obtain ⟨ht, L, f, s, h1, h2, h3, h4, h5, h6⟩ := hk
  have hh := hw.h4096
  unfold f_X8_shortestRing
  refine lq5 L (by omega) (fun k (a : Int32) i => f_X8_shortestRing_L4 σ k a i) (fun q a => (q = 0 ∧ a = nI 0) ∨ ∃ b j, a = nI b ∧ j < q ∧ f j = b ∧ ∀ i, i < q → pc b 12 < pc (f i) 12 ∨ (pc b 12 = pc (f i) 12 ∧ b ≤ f i)) (fun z => ∃ r, z = some (nI r) ∧ bestS (isR N.bt) r) (nI 0) (Or.inl ⟨rfl, rfl⟩) ?_ ?_
  · intro k q a hq hp
    obtain ⟨hc, hM⟩ := h3 q hq
    have hf4 := subS_lt hM.1 hh
    have hf0 := isM_0 hM
    have hpf := pc_le (f q) 12
    have hra := ringAt_at h1 h2 hq hc
    rcases hp with ⟨q0, ha⟩ | ⟨b, j, ha, hj, hfj, hb⟩
    · subst ha
      refine Or.inl ⟨nI (f q), Or.inr ⟨f q, q, rfl, by omega, rfl, fun i hi => ?_⟩, fun r hr => ?_⟩
      · have : i = q := by omega
        subst this; omega
      · unfold f_X8_shortestRing_L4
        rw [h1, le_n hq (by omega), hra, ob_s, bitCount_at hf4, ob_s, bitCount_at (by omega), ob_s, nm_v, if_pos (show nI 0 = 0 from rfl), nm_v, i1, nI_add]
        exact hr
    · subst ha
      have hMb := (h3 j (by omega)).2
      rw [hfj] at hMb
      have hb4 := subS_lt hMb.1 hh
      have hb0 := isM_0 hMb
      have hpb := pc_le b 12
      have hstart : ∀ X : Option Int32, (∀ r, X = r → f_X8_shortestRing_L4 σ (k + 1) (nI b) (nI q) = r) ↔ f_X8_shortestRing_L4 σ (k + 1) (nI b) (nI q) = X := fun X => ⟨fun z => z X rfl, fun z r hr => z.trans hr⟩
      have hcommon : f_X8_shortestRing_L4 σ (k + 1) (nI b) (nI q) = if nI (pc (f q) 12) - nI (pc b 12) < 0 then f_X8_shortestRing_L4 σ k (nI (f q)) (nI (q + 1)) else if nI (pc (f q) 12) - nI (pc b 12) = 0 then (if nI b ≤ nI (f q) then f_X8_shortestRing_L4 σ k (nI b) (nI (q + 1)) else f_X8_shortestRing_L4 σ k (nI (f q)) (nI (q + 1))) else f_X8_shortestRing_L4 σ k (nI b) (nI (q + 1)) := by
        conv => lhs; unfold f_X8_shortestRing_L4
        rw [h1, le_n hq (by omega), hra, ob_s, bitCount_at hf4, ob_s, bitCount_at hb4, ob_s, nm_v, i0, eq_n hb0 (by omega) (by omega), i1, nI_add]
        rfl
      rcases Nat.lt_trichotomy (pc (f q) 12) (pc b 12) with c | c | c
      · refine Or.inl ⟨nI (f q), Or.inr ⟨f q, q, rfl, by omega, rfl, fun i hi => ?_⟩, fun r hr => ?_⟩
        · by_cases e : i = q
          · subst e; omega
          · have := hb i (by omega); omega
        · rw [hcommon, if_pos (pk_sneg (by omega) c)]; exact hr
      · have hz : nI (pc (f q) 12) - nI (pc b 12) = 0 := by rw [c, nI_sub (by omega), Nat.sub_self]; rfl
        by_cases e : b ≤ f q
        · refine Or.inl ⟨nI b, Or.inr ⟨b, j, rfl, by omega, hfj, fun i hi => ?_⟩, fun r hr => ?_⟩
          · by_cases e2 : i = q
            · subst e2; omega
            · exact hb i (by omega)
          · rw [hcommon, hz, if_neg (by decide), if_pos rfl, le_y e (by omega)]; exact hr
        · refine Or.inl ⟨nI (f q), Or.inr ⟨f q, q, rfl, by omega, rfl, fun i hi => ?_⟩, fun r hr => ?_⟩
          · by_cases e2 : i = q
            · subst e2; omega
            · have := hb i (by omega); omega
          · rw [hcommon, hz, if_neg (by decide), if_pos rfl, le_n (by omega) (by omega)]; exact hr
      · refine Or.inl ⟨nI b, Or.inr ⟨b, j, rfl, by omega, hfj, fun i hi => ?_⟩, fun r hr => ?_⟩
        · by_cases e2 : i = q
          · subst e2; omega
          · exact hb i (by omega)
        · rw [hcommon, nI_sub (by omega), i0, lt_n (by omega) (by omega), eq_n (by omega) (by omega) (by omega)]; exact hr
  · intro k a hp
    have hend : f_X8_shortestRing_L4 σ (k + 1) a (nI L) = some a := by
      unfold f_X8_shortestRing_L4
      rw [h1, le_y (Nat.le_refl L) (by omega)]
    show ∃ r, f_X8_shortestRing_L4 σ (k + 1) a (nI L) = some (nI r) ∧ _
    rw [hend]
    rcases hp with ⟨q0, ha⟩ | ⟨b, j, ha, hj, hfj, hb⟩
    · refine ⟨0, by rw [ha], bestS_MR hw (Or.inl ⟨rfl, fun S hS => ?_⟩)⟩
      obtain ⟨i, hi, -⟩ := h4 S hS
      omega
    · refine ⟨b, by rw [ha], bestS_MR hw (Or.inr ⟨?_, fun S hS => ?_⟩)⟩
      · have := (h3 j hj).2; rwa [hfj] at this
      · obtain ⟨i, hi, e⟩ := h4 S hS
        have := hb i hi
        rwa [e] at this
theorem shortest_L {σ : GM} {B : Nat → Nat → Nat} (hR : isRt σ B) (hlt : ∀ S, isR B S → S < 4096) (h0 : ¬ isR B 0) : ∃ r, f_X12_shortest_L13 5000 σ (0 : Int32) (1 : Int32) = some (σ, nI r) ∧ bestS (isR B) r := by
  refine lq 4096 (fun k (a : Int32) i => f_X12_shortest_L13 k σ a i) (fun q a => 1 ≤ q ∧ ((a = nI 0 ∧ ∀ S, S < q → ¬ isR B S) ∨ ∃ b, a = nI b ∧ b < q ∧ b ≠ 0 ∧ isR B b ∧ ∀ S, S < q → isR B S → pc b 12 < pc S 12 ∨ (pc b 12 = pc S 12 ∧ b ≤ S))) (fun z => ∃ r, z = some (σ, nI r) ∧ bestS (isR B) r) ?_ ?_ 5000 1 (nI 0) (by omega) (by omega) ⟨Nat.le_refl 1, Or.inl ⟨rfl, fun S hS => by rw [show S = 0 by omega]; exact h0⟩⟩
  · intro k q a hq ⟨hq1, hp⟩
    have hpq := pc_le q 12
    by_cases c : isR B q
    · have hc := (hR q hq).1 c
      have hne : ¬ σ.1 70 q = 0 := by rw [hc]; decide
      rcases hp with ⟨ha, hn⟩ | ⟨b, ha, hb, hb0, hbR, hbm⟩
      · subst ha
        refine Or.inl ⟨nI q, ⟨by omega, Or.inr ⟨q, rfl, by omega, by omega, c, fun S hS hSR => ?_⟩⟩, fun r hr => ?_⟩
        · by_cases e : S = q
          · subst e; omega
          · exact absurd hSR (hn S (by omega))
        · unfold f_X12_shortest_L13
          rw [show (4096 : Int32) = nI 4096 from rfl, le_n hq (by omega), bnd_n hq (by omega), nI_clamp (by omega), if_neg hne, if_pos (show nI 0 = 0 from rfl), nm_v, i1, nI_add]
          exact hr
      · subst ha
        have hpb := pc_le b 12
        by_cases e : pc b 12 ≤ pc q 12
        · refine Or.inl ⟨nI b, ⟨by omega, Or.inr ⟨b, rfl, by omega, hb0, hbR, fun S hS hSR => ?_⟩⟩, fun r hr => ?_⟩
          · by_cases e2 : S = q
            · subst e2; omega
            · exact hbm S (by omega) hSR
          · unfold f_X12_shortest_L13
            rw [show (4096 : Int32) = nI 4096 from rfl, le_n hq (by omega), bnd_n hq (by omega), nI_clamp (by omega), if_neg hne, i0, eq_n hb0 (by omega) (by omega), bits_at hq, ob_s, bits_at (by omega), ob_s, le_y e (by omega), nm_v, i1, nI_add]
            exact hr
        · refine Or.inl ⟨nI q, ⟨by omega, Or.inr ⟨q, rfl, by omega, by omega, c, fun S hS hSR => ?_⟩⟩, fun r hr => ?_⟩
          · by_cases e2 : S = q
            · subst e2; omega
            · have := hbm S (by omega) hSR; omega
          · unfold f_X12_shortest_L13
            rw [show (4096 : Int32) = nI 4096 from rfl, le_n hq (by omega), bnd_n hq (by omega), nI_clamp (by omega), if_neg hne, i0, eq_n hb0 (by omega) (by omega), bits_at hq, ob_s, bits_at (by omega), ob_s, le_n (by omega) (by omega), nm_v, i1, nI_add]
            exact hr
    · have hc := (hR q hq).2 c
      refine Or.inl ⟨a, ⟨by omega, ?_⟩, fun r hr => ?_⟩
      · rcases hp with ⟨ha, hn⟩ | ⟨b, ha, hb, hb0, hbR, hbm⟩
        · refine Or.inl ⟨ha, fun S hS => ?_⟩
          by_cases e : S = q
          · subst e; exact c
          · exact hn S (by omega)
        · refine Or.inr ⟨b, ha, by omega, hb0, hbR, fun S hS hSR => ?_⟩
          by_cases e : S = q
          · subst e; exact absurd hSR c
          · exact hbm S (by omega) hSR
      · unfold f_X12_shortest_L13
        rw [show (4096 : Int32) = nI 4096 from rfl, le_n hq (by omega), bnd_n hq (by omega), nI_clamp (by omega), if_pos hc, nm_v, i1, nI_add]
        exact hr
  · intro k a ⟨_, hp⟩
    have hend : f_X12_shortest_L13 (k + 1) σ a (nI 4096) = some (σ, a) := by
      unfold f_X12_shortest_L13
      rw [show (4096 : Int32) = nI 4096 from rfl, le_y (Nat.le_refl 4096) (by omega)]
    show ∃ r, f_X12_shortest_L13 (k + 1) σ a (nI 4096) = some (σ, nI r) ∧ _
    rw [hend]
    rcases hp with ⟨ha, hn⟩ | ⟨b, ha, hb, hb0, hbR, hbm⟩
    · exact ⟨0, by rw [ha], Or.inl ⟨rfl, fun S hS => hn S (hlt S hS) hS⟩⟩
    · exact ⟨b, by rw [ha], Or.inr ⟨hbR, fun S hS => hbm S (hlt S hS) hS⟩⟩
