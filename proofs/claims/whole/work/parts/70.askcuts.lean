/-! WHAT IS ASKED OF CUTS -/
theorem areThere_rf {σ : GM} {h : Nat} (h1 : σ.1 62 1 = nI h) (hh : h < 4096) (v : Int32) : f_X12_areThere σ v = some (nI (bI (inS h v))) := by
  unfold f_X12_areThere
  by_cases c : v < 0
  · rw [if_pos c, inS_neg hh c]; rfl
  · rw [if_neg c, there_at h1, ob_s]
    by_cases e : v &&& (nI h ^^^ (-1)) = 0
    · rw [if_pos e, show inS h v = true from decide_eq_true e]; rfl
    · rw [if_neg e, show inS h v = false from decide_eq_false e]; rfl
theorem cuts_ag {σ : GM} {A : AbS} (hC : CI σ A) (hM : MI σ A) (v : Int32) : agI σ A (fun σ => f_X11_cuts σ v) (fun σ => f_X12_cuts σ v) := by
  obtain ⟨⟨⟨hn, hw⟩, -⟩, -⟩ := id hC
  have hh := hw.h4096
  refine agI_q hM ?_
  cases e : inS A.N.here v with
  | false =>
    refine ⟨σ, -1, ?_, hC, fr.rf _ _ _, fun τ hτ => ⟨wI τ 60 0 0, ?_, hτ.th, fr_th⟩⟩
    · show f_X11_cuts σ v = _
      unfold f_X11_cuts
      rw [areThere_any hn.2.1, ob_s, bz_y e]
    · show f_X12_cuts τ v = _
      unfold f_X12_cuts
      rw [nm_v, areThere_rf (hτ.th (v := 0)).1.2.1 hh, ob_s, bz_y e]
  | true =>
    obtain ⟨s, hs, rfl, hsub⟩ := inS_sub hh e
    obtain ⟨σ1, r1, r2, r3, -, -, -, r4⟩ := ringsNow_at hC
    have hd4 := dif_lt (b := s) (n := 12) hh
    refine ⟨σ1, nI (bI (fB A.N.bt (dif A.N.here s))), ?_, r2, r4, fun τ hτ => ⟨wI τ 60 0 0, ?_, hτ.th, fr_th⟩⟩
    · show f_X11_cuts σ (nI s) = _
      unfold f_X11_cuts
      rw [areThere_any hn.2.1, ob_s, bz_n e, r1, ob_s, r2.1.1.1.2.1, nI_dif, isFree_at hd4 (r3.1 _ (dif_sub hh)), ob_s]
      cases fB A.N.bt (dif A.N.here s) <;> rfl
    · have m1 := (hτ.th (v := 0)).1
      show f_X12_cuts τ (nI s) = _
      unfold f_X12_cuts
      rw [nm_v, areThere_rf m1.2.1 hh, ob_s, bz_n e, there_at m1.2.1, ob_s, isCut_at m1.rb hw.b20 hw.2.2.2.2.1 hh fB_t, ob_s]
      cases fB A.N.bt (dif A.N.here s) <;> rfl
/-- a cut that is the best of all -/
theorem bst_here {B : Nat → Nat → Nat} {V x : Nat} {m : Nat → Nat} {r : Int32} (hV : V < 4096) (h : bst B V 0 m (V + 1) r x) : ∃ b, r = nI b ∧ subS b V ∧ b < 4096 := by
  rcases h with ⟨h1, h2⟩ | ⟨b, h1, h2, h3, h4, h5⟩
  · exact absurd (cut_all hV) (h2 V (by omega))
  · exact ⟨b, h1, h4.1, subS_lt h4.1 hV⟩
noncomputable def tlF (N : NT) (b : Nat) (v : Int32) : Int32 := if v = 0 then nI (pc b 12) else if v = 1 then nI b else if v = 2 then nI (wS N.wt b) else -1
theorem tell_C {σ : GM} {N : NT} (hn : netAt σ 8 N) (hw : wf N) {b : Nat} (hb : subS b N.here) {v : Int32} (hv : ¬ v < 0) (hv2 : v ≤ 2) : f_X11_tellSet σ (nI b) v = some (tlF N b v) := by
  have hb4 := subS_lt hb hw.h4096
  unfold f_X11_tellSet tlF
  by_cases c0 : v = 0
  · rw [if_pos c0, if_pos c0, bitCount_at hb4, ob_s]
  · by_cases c1 : v = 1
    · rw [if_neg c0, if_pos c1, if_neg c0, if_pos c1]
    · have c2 : v = 2 := by
        rcases pk_ix v (n := 3) (by omega) with h | h | ⟨j, hj, rfl⟩
        · exact absurd h hv
        · have := Int32.le_trans h hv2
          rw [i2, cle (by omega) (by omega)] at this
          omega
        · rcases (show j = 0 ∨ j = 1 ∨ j = 2 by omega) with rfl | rfl | rfl
          · exact absurd rfl c0
          · exact absurd rfl c1
          · rfl
      rw [if_neg c0, if_neg c1, if_neg c0, if_neg c1, if_pos c2, weightOfSet_at hn hw (sub_and.mpr hb), ob_s]
theorem tell_R {σ : GM} {N : NT} (hr : rfAt σ 62 0 N) (hw : wf N) {b : Nat} (hb : subS b N.here) (v : Int32) : f_X12_tellsCut σ (nI b) v = some (tlF N b v) := by
  have hb4 := subS_lt hb hw.h4096
  unfold f_X12_tellsCut tlF
  by_cases c0 : v = 0
  · rw [if_pos c0, if_pos c0, bits_at hb4, ob_s]
  · by_cases c1 : v = 1
    · rw [if_neg c0, if_pos c1, if_neg c0, if_pos c1]
    · by_cases c2 : v = 2
      · rw [if_neg c0, if_neg c1, if_pos c2, if_neg c0, if_neg c1, if_pos c2, weightOf_rf hr hw (sub_and.mpr hb), ob_s]
      · rw [if_neg c0, if_neg c1, if_neg c2, if_neg c0, if_neg c1, if_neg c2]
theorem tl_out {N : NT} {b : Nat} {v : Int32} (h : v < 0 ∨ ¬ v ≤ 2) : tlF N b v = -1 := by
  have ne : ∀ k : Nat, k < 3 → v ≠ nI k := by
    rintro k hk rfl
    rcases h with h | h
    · rw [i0, clt (by omega) (by omega)] at h
      omega
    · apply h
      rw [i2, cle (by omega) (by omega)]
      omega
  unfold tlF
  rw [if_neg (show ¬ v = 0 from ne 0 (by omega)), if_neg (show ¬ v = 1 from ne 1 (by omega)), if_neg (show ¬ v = 2 from ne 2 (by omega))]
theorem msr_0 {w : Nat → Nat} : msr w 0 = fun v => pc v 12 := by funext v; unfold msr; rw [if_pos rfl]
theorem msr_1 {w : Nat → Nat} : msr w 1 = wS w := by funext v; unfold msr; rw [if_neg (by omega)]
theorem subS_rf {a : Nat} : subS a a := fun _ h => h
theorem fewest_ag {σ : GM} {A : AbS} (hC : CI σ A) (hM : MI σ A) (v : Int32) : agI σ A (fun σ => f_X11_fewest σ v) (fun σ => f_X12_fewest σ v) := by
  obtain ⟨⟨⟨hn, hw⟩, -⟩, -⟩ := id hC
  have hh := hw.h4096
  obtain ⟨σ1, r1, r2, r3, -, -, -, r4⟩ := ringsNow_at hC
  obtain ⟨r, x, f1, f2⟩ := fewestOf_at (X := 0) r3.1 hh subS_rf (by omega)
  obtain ⟨b, hb, hs, hb4⟩ := bst_here hh f2
  subst hb
  refine agI_q hM ?_
  have ref : ∀ τ, MI τ A → ∃ τ', f_X12_fewest τ v = some (τ', tlF A.N b v) ∧ MI τ' A ∧ fr τ τ' 60 75 := by
    intro τ hτ
    have m1 := (hτ.th (v := 0)).1
    obtain ⟨r', x', g1, g2⟩ := bestCut_at (t := 0) (X := 0) m1 hw subS_rf (by omega) (by omega)
    rw [msr_0] at g2
    have e := bst_uni f2 g2
    refine ⟨wI τ 60 0 0, ?_, hτ.th, fr_th⟩
    unfold f_X12_fewest
    rw [nm_v, there_at m1.2.1, ob_s, show f_X12_bestCut (wI τ 60 0 0) (nI A.N.here) 0 0 = some r' from g1, ob_s, ← e, tell_R m1 hw hs, ob_s]
  by_cases c : v < 0 ∨ ¬ v ≤ 2
  · rw [tl_out c] at ref
    refine ⟨σ, -1, ?_, hC, fr.rf _ _ _, ref⟩
    show f_X11_fewest σ v = _
    unfold f_X11_fewest
    rcases c with c | c
    · rw [if_pos c]
    · by_cases d : v < 0
      · rw [if_pos d]
      · rw [if_neg d, if_neg c]
  · have c1 : ¬ v < 0 := fun z => c (Or.inl z)
    have c2 : v ≤ 2 := Classical.byContradiction (fun z => c (Or.inr z))
    refine ⟨σ1, tlF A.N b v, ?_, r2, r4, ref⟩
    show f_X11_fewest σ v = _
    unfold f_X11_fewest
    rw [if_neg c1, if_pos c2, r1, ob_s, r2.1.1.1.2.1, i0, f1, ob_s, tell_C r2.1.1.1 hw hs c1 c2, ob_s]
theorem lightest_ag {σ : GM} {A : AbS} (hC : CI σ A) (hM : MI σ A) (v : Int32) : agI σ A (fun σ => f_X11_lightest σ v) (fun σ => f_X12_lightest σ v) := by
  obtain ⟨⟨⟨hn, hw⟩, -⟩, -⟩ := id hC
  have hh := hw.h4096
  obtain ⟨σ1, r1, r2, r3, -, -, -, r4⟩ := ringsNow_at hC
  obtain ⟨r, x, f1, f2⟩ := lightest_L r2.1.1.1 hw r3.1
  obtain ⟨b, hb, hs, hb4⟩ := bst_here hh f2
  subst hb
  refine agI_q hM ?_
  have ref : ∀ τ, MI τ A → ∃ τ', f_X12_lightest τ v = some (τ', tlF A.N b v) ∧ MI τ' A ∧ fr τ τ' 60 75 := by
    intro τ hτ
    have m1 := (hτ.th (v := 0)).1
    obtain ⟨r', x', g1, g2⟩ := bestCut_at (t := 1) (X := 0) m1 hw subS_rf (by omega) (by omega)
    rw [msr_1] at g2
    have e := bst_uni f2 g2
    refine ⟨wI τ 60 0 0, ?_, hτ.th, fr_th⟩
    unfold f_X12_lightest
    rw [nm_v, there_at m1.2.1, ob_s, show f_X12_bestCut (wI τ 60 0 0) (nI A.N.here) 0 1 = some r' from g1, ob_s, ← e, tell_R m1 hw hs, ob_s]
  by_cases c : v < 0 ∨ ¬ v ≤ 2
  · rw [tl_out c] at ref
    refine ⟨σ, -1, ?_, hC, fr.rf _ _ _, ref⟩
    show f_X11_lightest σ v = _
    unfold f_X11_lightest
    rcases c with c | c
    · rw [if_pos c]
    · by_cases d : v < 0
      · rw [if_pos d]
      · rw [if_neg d, if_neg c]
  · have c1 : ¬ v < 0 := fun z => c (Or.inl z)
    have c2 : v ≤ 2 := Classical.byContradiction (fun z => c (Or.inr z))
    refine ⟨σ1, tlF A.N b v, ?_, r2, r4, ref⟩
    show f_X11_lightest σ v = _
    unfold f_X11_lightest f_X11_lightestCut
    rw [if_neg c1, if_pos c2, r1, ob_s, nm_v, r2.1.1.1.2.1, weightOfSet_at r2.1.1.1 hw (Nat.and_self _), ob_s, f1, ob2_s, tell_C r2.1.1.1 hw hs c1 c2, ob_s]
theorem those_ag {σ : GM} {A : AbS} (hC : CI σ A) (hM : MI σ A) (v : Int32) : agI σ A (fun σ => f_X11_those σ v) (fun σ => f_X12_those σ v) := by
  obtain ⟨⟨⟨hn, hw⟩, -⟩, -⟩ := id hC
  have hh := hw.h4096
  refine agI_q hM ?_
  by_cases c : v < 0 ∨ ¬ v ≤ 2
  · refine ⟨σ, -1, ?_, hC, fr.rf _ _ _, fun τ hτ => ⟨wI τ 60 0 0, ?_, hτ.th, fr_th⟩⟩
    · show f_X11_those σ v = _
      unfold f_X11_those
      rcases c with c | c
      · rw [if_pos c]
      · by_cases d : v < 0
        · rw [if_pos d]
        · rw [if_neg d, if_neg c]
    · show f_X12_those τ v = _
      unfold f_X12_those
      have : f_X12_isIn (wI τ 60 0 0) v 0 2 = some 0 := by
        rw [show (0 : Int32) = nI 0 from rfl, i2]
        refine isIn_at (by omega) (by omega) (fun a b => ?_)
        rcases c with c | c
        · exact Int32.not_le.mpr c a
        · exact c b
      rw [nm_v, this, ob_s, if_pos rfl]
  · have c1 : ¬ v < 0 := fun z => c (Or.inl z)
    have c2 : v ≤ 2 := Classical.byContradiction (fun z => c (Or.inr z))
    obtain ⟨σ1, r1, r2, r3, -, -, -, r4⟩ := ringsNow_at hC
    obtain ⟨r, x, f1, f2⟩ := fewestOf_at (X := 0) r3.1 hh subS_rf (by omega)
    obtain ⟨b, hb, hs, hb4⟩ := bst_here hh f2
    subst hb
    refine ⟨σ1, pick3 v (thF (thP A.N.bt A.N.here (pc b 12)) A.N.here (A.N.here + 1)), ?_, r2, r4, fun τ hτ => ⟨wI τ 60 0 0, ?_, hτ.th, fr_th⟩⟩
    · show f_X11_those σ v = _
      unfold f_X11_those
      rw [if_neg c1, if_pos c2, r1, ob_s, r2.1.1.1.2.1, show (0 : Int32) = nI 0 from rfl, f1, ob_s, bitCount_at hb4, ob_s, nm_v]
      exact thoseC_L v r2.1.1.1.2.1 hh (pc_le b 12) r3.1
    · have m1 := (hτ.th (v := 0)).1
      obtain ⟨r', x', g1, g2⟩ := bestCut_at (t := 0) (X := 0) m1 hw subS_rf (by omega) (by omega)
      rw [msr_0] at g2
      have e := bst_uni f2 g2
      have hin : f_X12_isIn (wI τ 60 0 0) v 0 2 = some 1 := by
        unfold f_X12_isIn
        rw [if_neg c1, if_neg (Int32.not_lt.mpr c2)]; rfl
      show f_X12_those τ v = _
      unfold f_X12_those
      rw [nm_v, hin, ob_s, if_neg (by decide), there_at m1.2.1, ob_s]
      rw [show f_X12_bestCut (wI τ 60 0 0) (nI A.N.here) 0 0 = some r' from g1, ob_s, ← e, bits_at hb4, ob_s, ob_s]
      exact thoseR_L v m1 hw (pc_le b 12)
theorem sparing_ag {σ : GM} {A : AbS} (hC : CI σ A) (hM : MI σ A) (v : Int32) : agI σ A (fun σ => f_X11_sparing σ v) (fun σ => f_X12_sparing σ v) := by
  obtain ⟨⟨⟨hn, hw⟩, -⟩, -⟩ := id hC
  have hh := hw.h4096
  refine agI_q hM ?_
  cases e : inS A.N.here v with
  | false =>
    refine ⟨σ, -1, ?_, hC, fr.rf _ _ _, fun τ hτ => ⟨wI τ 60 0 0, ?_, hτ.th, fr_th⟩⟩
    · show f_X11_sparing σ v = _
      unfold f_X11_sparing
      rw [areThere_any hn.2.1, ob_s, bz_y e]
    · show f_X12_sparing τ v = _
      unfold f_X12_sparing
      rw [nm_v, areThere_rf (hτ.th (v := 0)).1.2.1 hh, ob_s, bz_y e]
  | true =>
    obtain ⟨s, hs, rfl, hsub⟩ := inS_sub hh e
    obtain ⟨σ1, r1, r2, r3, -, -, -, r4⟩ := ringsNow_at hC
    obtain ⟨r, x, f1, f2⟩ := fewestOf_at (X := s) r3.1 hh subS_rf hs
    refine ⟨σ1, r, ?_, r2, r4, fun τ hτ => ⟨wI τ 60 0 0, ?_, hτ.th, fr_th⟩⟩
    · show f_X11_sparing σ (nI s) = _
      unfold f_X11_sparing
      rw [areThere_any hn.2.1, ob_s, bz_n e, r1, ob_s, r2.1.1.1.2.1, f1, ob_s]
    · have m1 := (hτ.th (v := 0)).1
      obtain ⟨r', x', g1, g2⟩ := bestCut_at (t := 0) (X := s) m1 hw subS_rf hs (by omega)
      rw [msr_0] at g2
      have e2 := bst_uni f2 g2
      show f_X12_sparing τ (nI s) = _
      unfold f_X12_sparing
      rw [nm_v, areThere_rf m1.2.1 hh, ob_s, bz_n e, there_at m1.2.1, ob_s]
      rw [show f_X12_bestCut (wI τ 60 0 0) (nI A.N.here) (nI s) 0 = some r' from g1, ob_s, e2]
theorem upTo_ag {σ : GM} {A : AbS} (hC : CI σ A) (hM : MI σ A) (v : Int32) : agI σ A (fun σ => f_X11_upTo σ v) (fun σ => f_X12_upTo σ v) := by
  obtain ⟨⟨⟨hn, hw⟩, -⟩, -⟩ := id hC
  have hh := hw.h4096
  have ht := hw.1
  refine agI_q hM ?_
  have no : (v < 0 ∨ nI A.N.told ≤ v) → ∃ σ1 r, f_X11_upTo σ v = some (σ1, r) ∧ CI σ1 A ∧ fr σ σ1 0 60 ∧ ∀ τ, MI τ A → ∃ τ', f_X12_upTo τ v = some (τ', r) ∧ MI τ' A ∧ fr τ τ' 60 75 := by
    intro c
    refine ⟨σ, -1, ?_, hC, fr.rf _ _ _, fun τ hτ => ⟨wI τ 60 0 0, ?_, hτ.th, fr_th⟩⟩
    · show f_X11_upTo σ v = _
      unfold f_X11_upTo
      by_cases d : v < 0
      · rw [if_pos d]
      · rw [if_neg d, hn.1, if_pos (c.resolve_left d)]
    · have m1 := (hτ.th (v := 0)).1
      have hin : f_X12_isIn (wI τ 60 0 0) v 0 (nI A.N.told - 1) = some 0 := by
        unfold f_X12_isIn
        by_cases d : v < 0
        · rw [if_pos d]; rfl
        · have c := c.resolve_left d
          have : nI A.N.told - 1 < v := by
            by_cases z : A.N.told = 0
            · rw [z]
              exact Int32.lt_of_lt_of_le (by decide) (Int32.not_lt.mp d)
            · rw [i1, nI_sub (by omega)]
              refine Int32.lt_of_lt_of_le ?_ c
              rw [clt (by omega) (by omega)]
              omega
          rw [if_neg d, if_pos this]; rfl
      show f_X12_upTo τ v = _
      unfold f_X12_upTo
      have h0 : (wI τ 60 0 0).1 62 (0 : Int32).toNatClampNeg = nI A.N.told := m1.1
      rw [nm_v, show (0 : Int32) = nI 0 from rfl, bnd_n (by omega) (by omega), show nI 0 = (0 : Int32) from rfl, h0, hin, ob_s, if_pos rfl]
  rcases pk_ix v (n := A.N.told) (by omega) with h | h | ⟨j, hj, rfl⟩
  · exact no (Or.inl h)
  · exact no (Or.inr h)
  · have hj12 : j < 12 := by omega
    have hp : 2 ^ j ≤ 2 ^ 11 := Nat.pow_le_pow_right (by decide) (by omega)
    have hp0 := Nat.two_pow_pos j
    have hmask : ((2 : Int32) <<< (nI j &&& 31)) - 1 = nI (2 * 2 ^ j - 1) := by
      rw [i2, nI_shl 2 hj12 (by omega), i1, nI_sub (by omega)]
    have hVs : subS (A.N.here &&& (2 * 2 ^ j - 1)) A.N.here := fun i hi => (tb_and.mp hi).1
    have hV4 := subS_lt hVs hh
    obtain ⟨σ1, r1, r2, r3, -, -, -, r4⟩ := ringsNow_at hC
    obtain ⟨r, x, f1, f2⟩ := fewestOf_at (X := 0) r3.1 hh hVs (by omega)
    obtain ⟨b, hb, hs, hb4⟩ := bst_here hV4 f2
    subst hb
    have j0 : ¬ nI j < 0 := nI_pos (by omega)
    refine ⟨σ1, nI (pc b 12), ?_, r2, r4, fun τ hτ => ⟨wI τ 60 0 0, ?_, hτ.th, fr_th⟩⟩
    · show f_X11_upTo σ (nI j) = _
      unfold f_X11_upTo
      rw [if_neg j0, hn.1, le_n hj (by omega), i12, lt_y hj12 (by omega), hn.2.1, hmask, nI_land, nm_v, r1, ob_s]
      rw [show f_X8_fewestOf σ1 (nI (A.N.here &&& (2 * 2 ^ j - 1))) 0 = some (nI b) from f1, ob_s, bitCount_at hb4, ob_s]
    · have m1 := (hτ.th (v := 0)).1
      obtain ⟨r', x', g1, g2⟩ := bestCut_at (t := 0) (X := 0) m1 hw hVs (by omega) (by omega)
      rw [msr_0] at g2
      have e2 := bst_uni f2 g2
      have h0 : (wI τ 60 0 0).1 62 (0 : Int32).toNatClampNeg = nI A.N.told := m1.1
      have hin : f_X12_isIn (wI τ 60 0 0) (nI j) 0 (nI A.N.told - 1) = some 1 := by
        rw [i1, nI_sub (by omega)]
        exact isIn_y (a := 0) (by omega) (by omega) (by omega)
      show f_X12_upTo τ (nI j) = _
      unfold f_X12_upTo
      rw [nm_v, show (0 : Int32) = nI 0 from rfl, bnd_n (by omega) (by omega), show nI 0 = (0 : Int32) from rfl, h0, hin, ob_s, if_neg (by decide), there_at m1.2.1, ob_s, hmask, nI_land]
      rw [show f_X12_bestCut (wI τ 60 0 0) (nI (A.N.here &&& (2 * 2 ^ j - 1))) 0 0 = some r' from g1, ob_s, ← e2, bits_at hb4, ob_s]
