/-! LEARNING ALL ABOUT THE RINGS -/
theorem learn_66 {B : Nat → Nat → Nat} {h : Nat} (hh : h < 4096) {σ : GM} (h8 : σ.1 8 3 = nI h) (ht : tabs σ B) :
    ∃ σ', f_X8_learn_L71 5000 σ (0 : Int32) = some σ' ∧ ringsOK σ' B h ∧ fr σ σ' 49 55 := by
  refine lq5 (h + 1) (by omega) (fun k (a : GM) i => f_X8_learn_L71 k a i) (fun q a => tabs a B ∧ (∀ S, S < q → subS S h → a.1 50 S = nI (bI (fB B S))) ∧ fr σ a 49 55) (fun r => ∃ σ', r = some σ' ∧ ringsOK σ' B h ∧ fr σ σ' 49 55) σ ⟨ht, fun S hS => absurd hS (by omega), fr.rf _ _ _⟩ ?_ ?_
  · intro k q a hq ⟨g2, g3, g4⟩
    have hq4 : q < 4096 := by omega
    have ha8 : a.1 8 3 = nI h := by rw [(g4 8 (by omega)).1]; exact h8
    have hth := areThere_any (n := 8) ha8 (nI q)
    rw [inS_n hq4] at hth
    by_cases hs : q &&& h = q
    · have hsub := sub_and.mp hs
      rw [decide_eq_true hs] at hth
      have hwr : ∀ (a' : GM) (b : Bool), b = fB B q → a' = wI a 50 q (nI (bI b)) → tabs a' B ∧ (∀ S, S < q + 1 → subS S h → a'.1 50 S = nI (bI (fB B S))) ∧ fr σ a' 49 55 := by
        intro a' b hb ha'
        subst ha'
        refine ⟨fun p hp => ⟨by rw [wI_1, if_neg (by omega)]; exact (g2 p hp).1, by rw [wI_1, if_neg (by omega)]; exact (g2 p hp).2⟩, ?_, g4.trans (fr_wI (by omega) (by omega))⟩
        intro S hS hSh
        rw [wI_1]
        by_cases e : S = q
        · rw [if_pos ⟨rfl, e⟩, hb, e]
        · rw [if_neg (by omega)]; exact g3 S (by omega) hSh
      by_cases hq0 : q = 0
      · subst hq0
        refine Or.inl ⟨_, hwr _ true (fB_0 B).symm rfl, fun r hr => ?_⟩
        unfold f_X8_learn_L71
        rw [ha8, lt_n (by omega) (by omega), show (4096 : Int32) = nI 4096 from rfl, le_n hq4 (by omega), hth, ob_s, bz_n rfl, if_pos (show nI 0 = 0 from rfl), bnd_n hq4 (by omega), nm_v, nm_v, nI_clamp (by omega), i1, nI_add]
        exact hr
      · have hq1 : ¬ nI q = 0 := fun z => hq0 ((nI_eq (by omega) (by omega)).mp (show nI q = nI 0 from z))
        obtain ⟨m1, m2, m3⟩ := lo_all q hq4 hq0
        have hdl := dif_lt' hq4 m2
        have hdd := isFree_at (σ := a) (B := B) (dif_lt (b := 2 ^ lo q) (n := 12) hq4) (g3 _ hdl (subS_tr (dif_sub hq4) hsub))
        cases hf : fB B (dif q (2 ^ lo q)) with
        | false =>
          have hfq : fB B q = false := fB_f.mpr (fun z => fB_f.mp hf (Free_sub (dif_sub hq4) z))
          refine Or.inl ⟨_, hwr _ false hfq.symm rfl, fun r hr => ?_⟩
          unfold f_X8_learn_L71
          rw [ha8, lt_n (by omega) (by omega), show (4096 : Int32) = nI 4096 from rfl, le_n hq4 (by omega), hth, ob_s, bz_n rfl, if_neg hq1, nI_low hq4 hq0, hdd, ob_s, bz_y hf, bnd_n hq4 (by omega), nm_v, nm_v, nI_clamp (by omega), i1, nI_add]
          exact hr
        | true =>
          have htip := byTip_at g2 hq4 hq0 (fun p hp => g3 _ (dif_lt' hq4 hp) (subS_tr (dif_sub hq4) hsub))
          cases hfq : fB B q with
          | false =>
            refine Or.inl ⟨_, hwr _ false hfq.symm rfl, fun r hr => ?_⟩
            unfold f_X8_learn_L71
            rw [ha8, lt_n (by omega) (by omega), show (4096 : Int32) = nI 4096 from rfl, le_n hq4 (by omega), hth, ob_s, bz_n rfl, if_neg hq1, nI_low hq4 hq0, hdd, ob_s, bz_n hf, htip, ob_s, bz_y hfq, bnd_n hq4 (by omega), nm_v, nm_v, nI_clamp (by omega), i1, nI_add]
            exact hr
          | true =>
            refine Or.inl ⟨_, hwr _ true hfq.symm rfl, fun r hr => ?_⟩
            unfold f_X8_learn_L71
            rw [ha8, lt_n (by omega) (by omega), show (4096 : Int32) = nI 4096 from rfl, le_n hq4 (by omega), hth, ob_s, bz_n rfl, if_neg hq1, nI_low hq4 hq0, hdd, ob_s, bz_n hf, htip, ob_s, bz_n hfq, bnd_n hq4 (by omega), nm_v, nm_v, nI_clamp (by omega), i1, nI_add]
            exact hr
    · rw [decide_eq_false hs] at hth
      refine Or.inl ⟨a, ⟨g2, fun S hS hSh => ?_, g4⟩, fun r hr => ?_⟩
      · by_cases e : S = q
        · subst e; exact absurd (sub_and.mpr hSh) hs
        · exact g3 S (by omega) hSh
      · unfold f_X8_learn_L71
        rw [ha8, lt_n (by omega) (by omega), show (4096 : Int32) = nI 4096 from rfl, le_n hq4 (by omega), hth, ob_s, bz_y rfl, nm_v, i1, nI_add]
        exact hr
  · intro k a ⟨g2, g3, g4⟩
    have ha8 : a.1 8 3 = nI h := by rw [(g4 8 (by omega)).1]; exact h8
    obtain ⟨σ', r1, r2, r3⟩ := learnRings_at (σ := a) (B := B) hh (fun S hS => g3 S (by have := subS_le hS; omega) hS)
    refine ⟨σ', ?_, r2, g4.trans r3⟩
    show f_X8_learn_L71 (k + 1) a (nI (h + 1)) = _
    unfold f_X8_learn_L71 f_X8_learn_L137
    rw [ha8, lt_y (by omega) (by omega), r1, ob_s]
theorem learn_at {σ : GM} {N : NT} (hn : netAt σ 8 N) (hw : wf N) : ∃ σ', f_X8_learn σ = some σ' ∧ ringsOK σ' N.bt N.here ∧ fr σ σ' 49 55 := by
  unfold f_X8_learn
  refine lq5 12 (by omega) (fun k (a : GM) i => f_X8_learn_L2 k a i) (fun q a => (∀ p, p < q → a.1 51 p = nI (bsB N.bt p 1) ∧ a.1 52 p = nI (dbB N.bt p)) ∧ fr σ a 49 55) (fun r => ∃ σ', r = some σ' ∧ ringsOK σ' N.bt N.here ∧ fr σ σ' 49 55) σ ⟨fun p hp => absurd hp (by omega), fr.rf _ _ _⟩ ?_ ?_
  · intro k q a hq ⟨g1, g2⟩
    have hB : ptB a 8 N.bt := (hn.keep g2 (by omega)).2.2.2.2.2
    have hB2 : ptB (wI a 51 q (nI (bsB N.bt q 1))) 8 N.bt := fun i hi j hj => by rw [wI_1, if_neg (by omega)]; exact hB i hi j hj
    have hbq := hw.b20 q q
    have hstep : ∀ (k2 : GM → Int32 → Option GM) (x : Nat), x = (if N.bt q q = 0 then 0 else 2 ^ q) → f_X8_learn_L36 k2 a (nI q) (nI x) = k2 (wI (wI a 51 q (nI (bsB N.bt q 1))) 52 q (nI (dbB N.bt q))) (nI (q + 1)) := by
      intro k2 x hx
      unfold f_X8_learn_L36
      rw [i1, besides_at hB hw.b20 hq (by omega), ob_s, bnd_n hq (by omega), nm_v, nI_clamp (by omega), i2, besides_at hB2 hw.b20 hq (by omega), ob_s, bnd_n hq (by omega), nm_v, nm_v, nI_lor, nI_add, hx]
      rfl
    refine Or.inl ⟨wI (wI a 51 q (nI (bsB N.bt q 1))) 52 q (nI (dbB N.bt q)), ⟨?_, (g2.trans (fr_wI (by omega) (by omega))).trans (fr_wI (by omega) (by omega))⟩, fun r hr => ?_⟩
    · intro p hp
      rw [wI_1, if_neg (by omega), wI_1, wI_1]
      by_cases e : p = q
      · rw [if_pos ⟨rfl, e⟩, if_pos ⟨rfl, e⟩, e]; exact ⟨rfl, rfl⟩
      · rw [if_neg (by omega), if_neg (by omega), wI_1, if_neg (by omega)]
        exact g1 p (by omega)
    · unfold f_X8_learn_L2
      rw [i12, le_n hq (by omega), le_n hq (by omega), linesOf_at hB hq hq, ob_s, nI_bit hq, i0]
      by_cases e : N.bt q q = 0
      · rw [le_y (by omega) (by omega), hstep _ 0 (by rw [if_pos e])]
        exact hr
      · rw [le_n (by omega) (by omega), hstep _ (2 ^ q) (by rw [if_neg e])]
        exact hr
  · intro k a ⟨g1, g2⟩
    have ha8 : a.1 8 3 = nI N.here := (hn.keep g2 (by omega)).2.1
    obtain ⟨σ', r1, r2, r3⟩ := learn_66 (B := N.bt) hw.h4096 (σ := a) ha8 g1
    refine ⟨σ', ?_, r2, g2.trans r3⟩
    show f_X8_learn_L2 (k + 1) a (nI 12) = _
    unfold f_X8_learn_L2
    rw [i12, le_y (Nat.le_refl 12) (by omega)]
    exact r1
