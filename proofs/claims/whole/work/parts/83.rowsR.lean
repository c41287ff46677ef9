/-! ROWS OF POINTS, ROWS OF LINES, in the reference -/
theorem point_116 {σ : GM} {N N' : NT} {w0 : Nat} (h : rfAt σ 63 0 N) (ht : N.told < 12) (hw : σ.1 63 (3 + N.told) = nI w0) (h1 : N'.1 = (N.told + 1, N.here ||| 2 ^ N.told, N.gone)) (h2 : ∀ i, i < N.told → N'.wt i = N.wt i) (h3 : N'.wt N.told = w0) (h4 : N'.bt = N.bt) :
    ∃ σ', f_X12_readPoint_L116 σ (nI N.told) = some (σ', nI (bI true)) ∧ rfAt σ' 63 0 N' ∧ fr σ σ' 63 64 := by
  obtain ⟨g1, g2, g3, g4, g5⟩ := h
  have hb0 : ∀ y : Option (GM × Int32), bnd (0 : Int32) 159 y = y := fun y => by rw [i0, bnd_n (by omega) (by omega)]
  have hb1 : ∀ y : Option (GM × Int32), bnd (1 : Int32) 159 y = y := fun y => by rw [i1, bnd_n (by omega) (by omega)]
  have c0 : (0 : Int32).toNatClampNeg = 0 := rfl
  have c1 : (1 : Int32).toNatClampNeg = 1 := rfl
  have e1 : N'.told = N.told + 1 := by show N'.1.1 = _; rw [h1]
  have e2 : N'.here = N.here ||| 2 ^ N.told := by show N'.1.2.1 = _; rw [h1]
  have e3 : N'.gone = N.gone := by show N'.1.2.2 = _; rw [h1]
  refine ⟨wI (wI σ 63 0 (nI (N.told + 1))) 63 1 (nI (N.here ||| 2 ^ N.told)), ?_, ⟨?_, ?_, ?_, fun i hi => ?_, fun i hi j hj => ?_⟩, (fr_wI (by omega) (by omega)).trans (fr_wI (by omega) (by omega))⟩
  · have e : (wI σ 63 0 (nI (N.told + 1))).1 63 1 = nI N.here := by rw [wI_1, if_neg (by omega)]; exact g2
    have g1' : σ.1 63 0 = nI N.told := g1
    unfold f_X12_readPoint_L116
    rw [hb0, hb0, c0, g1', i1, nI_add, nm_v, ← i1, hb1, hb1, c1, e, nI_set ht, nm_v]
    rfl
  · rw [wI_1, if_neg (by omega), wI_1, if_pos ⟨rfl, rfl⟩, e1]
  · rw [wI_1, if_pos ⟨rfl, rfl⟩, e2]
  · rw [wI_1, if_neg (by omega), wI_1, if_neg (by omega), e3]; exact g3
  · rw [wI_1, if_neg (by omega), wI_1, if_neg (by omega)]
    by_cases e : i = N.told
    · rw [e, h3, Nat.zero_add]; exact hw
    · rw [h2 i (by omega)]; exact g4 i (by omega)
  · rw [wI_1, if_neg (by omega), wI_1, if_neg (by omega), h4]; exact g5 i hi j hj
theorem bnd3 {v : Nat} (h : v < 12) (y : Option (GM × Int32)) : bnd ((3 : Int32) + nI v) 159 y = y := by
  rw [i3, nI_add, bnd_n (by omega) (by omega)]
theorem cl3 {v : Nat} (h : v < 12) : ((3 : Int32) + nI v).toNatClampNeg = 3 + v := by
  rw [i3, nI_add, nI_clamp (by omega)]
theorem bnd3n {v : Nat} (h : v < 12) (y : Option (GM × Int32)) : bnd (nI 3 + nI v) 159 y = y := by
  rw [nI_add, bnd_n (by omega) (by omega)]
theorem cl3n {v : Nat} (h : v < 12) : (nI 3 + nI v).toNatClampNeg = 3 + v := by
  rw [nI_add, nI_clamp (by omega)]
theorem readPoint_R {x : TT} (hx : tpI x) {j p : Nat} {s : RS} {σ : GM} (hI : rsI s) (he : s.e = 0) (hm : mB s) (hr : rwR σ s) (ht : tokR σ x p) (hT : rtp σ x) (hp : p ≤ x.1) (hj : 641 ≤ p + j) (hK : tkK x p = 2) (hV : tkV x p = WP) :
    ∃ σ' b, f_X12_readPoint σ = some (σ', nI (bI b)) ∧ rowO x j p s σ σ' b := by
  have h640 := hx.1
  have h12 := hI.1.1
  have hb0 : ∀ y : Option (GM × Int32), bnd (0 : Int32) 159 y = y := fun y => by rw [i0, bnd_n (by omega) (by omega)]
  have hc0 : σ.1 63 (0 : Int32).toNatClampNeg = nI s.N.told := hr.1.1
  obtain ⟨j1, rfl⟩ : ∃ j', j = j' + 1 := ⟨j - 1, by omega⟩
  have hF : tkF s (tkK x p) (tkV x p) = if s.N.told = 12 then .inl 4 else .inr (some ((1, s.f, s.r), s.2)) := by
    unfold tkF tk0
    rw [if_pos he, if_pos ⟨hK, hV⟩]
  unfold f_X12_readPoint
  rw [hb0, hc0, nm_v, i12]
  by_cases c12 : s.N.told = 12
  · obtain ⟨σ', b1, b2⟩ := row_bad (j0 := j1 + 1) (p0 := p) (s0 := s) (c := 4) ht (keepJ.rf σ) rfl (by rw [hF, if_pos c12, if_neg (by omega)])
    rw [eq_y c12, show (4 : Int32) = nI 4 from rfl, b1, ob2_s, nI_bIm]
    exact ⟨σ', false, rfl, b2⟩
  · rw [if_neg c12] at hF
    have ht12 : s.N.told < 12 := by omega
    obtain ⟨q1, q2⟩ := tk_gt (x := x) (p := p) (by omega) (by omega)
    have run1 := run_s (x := x) (j := j1) hF
    obtain ⟨σ1, n1, n2, n3⟩ := next_at hx hT q2 ht.2.2.2.2
    obtain ⟨j2, rfl⟩ : ∃ j', j1 = j' + 1 := ⟨j1 - 1, by omega⟩
    rw [eq_n c12 (by omega) (by omega), n1, ob_s, isName_at n2, ob_s]
    have hF1 : tkF ((1, s.f, s.r), s.2) (tkK x (tkT x p)) (tkV x (tkT x p)) = tk1 ((1, s.f, s.r), s.2) (tkK x (tkT x p)) (tkV x (tkT x p)) := by
      unfold tkF; rw [if_neg (by show ¬ 1 = 0; omega), if_pos rfl]
    have hI1 : rsI ((1, s.f, s.r), s.2) := tkF_I hI hF
    cases c1 : isNm (tkK x (tkT x p)) (tkV x (tkT x p)) with
    | false =>
      obtain ⟨σ', b1, b2⟩ := row_bad (c := 1) n2 (keepJ.k n3) run1 (by
        rw [hF1]; unfold tk1; rw [if_neg (by rw [c1]; decide)]
        split <;> rfl)
      rw [bz_y rfl, i1, b1, ob2_s, ← i1, nI_bIm]
      exact ⟨σ', false, rfl, b2⟩
    | true =>
      have hk1 : tkK x (tkT x p) = 2 := (of_decide_eq_true c1).1
      have hv1 := tk_v2 hk1
      have hr1 := hr.k n3
      rw [bz_n rfl, named_at hr1 h12 hm hv1 (n2.2.2.1 hk1), ob_s]
      cases c2 : nmd s (tkV x (tkT x p)) with
      | some y =>
        have hy := (nmd_s c2).1
        obtain ⟨σ', b1, b2⟩ := row_bad (c := 3) n2 (keepJ.k n3) run1 (by
          rw [hF1]; unfold tk1; rw [if_pos c1]
          have : ¬ nmd ((1, s.f, s.r), s.2) (tkV x (tkT x p)) = none := by
            show ¬ nmd s (tkV x (tkT x p)) = none
            rw [c2]; exact fun z => by cases z
          rw [if_neg this, if_neg (by omega)])
        show ∃ σ' b, (if nI y = -1 then _ else _) = some (σ', nI (bI b)) ∧ _
        rw [if_neg (m1_ne (by omega)), i3, b1, ob2_s, nI_bIm]
        exact ⟨σ', false, rfl, b2⟩
      | none =>
        have hF2 : tkF ((1, s.f, s.r), s.2) (tkK x (tkT x p)) (tkV x (tkT x p)) = .inr (some ((2, s.f, s.r), s.N.addP, fun i => if i = s.N.told then tkV x (tkT x p) else s.m i)) := by
          rw [hF1]; unfold tk1; rw [if_pos c1, if_pos (show nmd ((1, s.f, s.r), s.2) (tkV x (tkT x p)) = none from c2)]
        have hI2 := tkF_I hI1 hF2
        have hm2 : mB ((2, s.f, s.r), s.N.addP, fun i => if i = s.N.told then tkV x (tkT x p) else s.m i) := by
          intro i hi
          have hi : i < s.N.told + 1 := hi
          show (if i = s.N.told then tkV x (tkT x p) else s.m i) < 2 ^ 40
          by_cases e : i = s.N.told
          · rw [if_pos e]; exact hv1
          · rw [if_neg e]; exact hm i (by omega)
        obtain ⟨q3, q4⟩ := tk_gt (x := x) (p := tkT x p) (by omega) (by omega)
        have run2 := run1.trans (run_s (x := x) (j := j2) hF2)
        -- the name is put down
        have ft : fr σ1 (wI (wL σ1 68 s.N.told (σ1.2 60 10)) 63 (3 + s.N.told) 1) 63 69 := (fr_wL (a := 63) (b := 69) (by omega) (by omega)).trans (fr_wI (by omega) (by omega))
        have hk2 : keepJ σ1 (wI (wL σ1 68 s.N.told (σ1.2 60 10)) 63 (3 + s.N.told) 1) := (keepJ.f (fr_wL (a := 68) (b := 69) (by omega) (by omega)) (Or.inr rfl)).tr (keepJ.f (fr_wI (a := 63) (b := 64) (by omega) (by omega)) (Or.inl rfl))
        have n2' := n2.f ft (by omega)
        obtain ⟨σ3, m1, m2, m3⟩ := next_at hx ((hT.k n3).j hk2) q4 n2'.2.2.2.2
        have hkJ : keepJ σ σ3 := ((keepJ.k n3).tr hk2).tr (keepJ.k m3)
        have hrf3 : rfAt σ3 63 0 s.N := by
          have h1 : rfAt (wI (wL σ1 68 s.N.told (σ1.2 60 10)) 63 (3 + s.N.told) 1) 63 0 s.N := by
            obtain ⟨g1, g2, g3, g4, g5⟩ := hr1.1
            refine ⟨by rw [wI_1, if_neg (by omega)]; exact g1, by rw [wI_1, if_neg (by omega)]; exact g2, by rw [wI_1, if_neg (by omega)]; exact g3, fun i hi => by rw [wI_1, if_neg (by omega)]; exact g4 i hi, fun i hi j hj => by rw [wI_1, if_neg (by omega)]; exact g5 i hi j hj⟩
          exact h1.co (m3.1 63 (by omega)).1
        have hw3 : σ3.1 63 (3 + s.N.told) = nI 1 := by
          rw [(m3.1 63 (by omega)).1, wI_1, if_pos ⟨rfl, rfl⟩]; rfl
        have hnm3 : ∀ i, i < s.N.told + 1 → σ3.2 68 i = lN (if i = s.N.told then tkV x (tkT x p) else s.m i) := by
          intro i hi
          rw [(m3.1 68 (by omega)).2]
          show (wL σ1 68 s.N.told (σ1.2 60 10)).2 68 i = _
          rw [wL_2]
          by_cases e : i = s.N.told
          · rw [if_pos ⟨rfl, e⟩, if_pos e]; exact n2.2.2.1 hk1
          · rw [if_neg (fun z => e z.2), if_neg e]; exact hr1.2.1 i (by omega)
        have h83 : σ3.1 60 8 = nI 0 := by
          rw [m3.2 8 (by omega), (ft 60 (by omega)).1]
          exact hr1.2.2
        obtain ⟨j3, rfl⟩ : ∃ j', j2 = j' + 1 := ⟨j2 - 1, by omega⟩
        have hp2 : tkT x (tkT x p) ≤ x.1 := q4
        have hF3 : tkF ((2, s.f, s.r), s.N.addP, fun i => if i = s.N.told then tkV x (tkT x p) else s.m i) (tkK x (tkT x (tkT x p))) (tkV x (tkT x (tkT x p))) = tk2 ((2, s.f, s.r), s.N.addP, fun i => if i = s.N.told then tkV x (tkT x p) else s.m i) (tkK x (tkT x (tkT x p))) (tkV x (tkT x (tkT x p))) := by
          unfold tkF; rw [if_neg (by show ¬ 2 = 0; omega), if_neg (by show ¬ 2 = 1; omega), if_pos rfl]
        have hkk := tk_le (x := x) (p := tkT x (tkT x p))
        show ∃ σ' b, (if (-1 : Int32) = -1 then _ else _) = some (σ', nI (bI b)) ∧ _
        rw [if_pos rfl, bnd_n ht12 (by omega), nI_clamp (by omega), nm_v, bnd3 ht12, cl3 ht12, nm_v, m1, ob_s, m2.1, i3]
        by_cases c3 : tkK x (tkT x (tkT x p)) = 3
        · have hv3 := tk_v3 c3
          rw [eq_y c3, m2.2.2.2.1 c3]
          by_cases c4 : 1 ≤ tkV x (tkT x (tkT x p)) ∧ tkV x (tkT x (tkT x p)) ≤ 9
          · have hin : f_X12_isIn σ3 (nI (tkV x (tkT x (tkT x p)))) 1 9 = some 1 := isIn_y (a := 1) (b := 9) (by omega) c4.1 c4.2
            have hF4 : tkF ((2, s.f, s.r), s.N.addP, fun i => if i = s.N.told then tkV x (tkT x p) else s.m i) (tkK x (tkT x (tkT x p))) (tkV x (tkT x (tkT x p))) = .inr (some ((3, s.f, s.r), s.N.addP.setW (s.N.told + 1 - 1) (tkV x (tkT x (tkT x p))), fun i => if i = s.N.told then tkV x (tkT x p) else s.m i)) := by
              rw [hF3]; unfold tk2; rw [if_pos c3, if_pos c4]
              rfl
            have hI4 := tkF_I hI2 hF4
            obtain ⟨q5, q6⟩ := tk_gt (x := x) (p := tkT x (tkT x p)) (by omega) (by omega)
            have fw : fr σ3 (wI σ3 63 (3 + s.N.told) (nI (tkV x (tkT x (tkT x p))))) 63 64 := fr_wI (by omega) (by omega)
            have m2' := m2.f fw (by omega)
            obtain ⟨σ5, u1, u2, u3⟩ := next_at hx ((hT.j hkJ).j (keepJ.f fw (Or.inl rfl))) q6 m2'.2.2.2.2
            have hrf5 : rfAt σ5 63 0 s.N := by
              obtain ⟨g1, g2, g3, g4, g5⟩ := hrf3
              have h1 : rfAt (wI σ3 63 (3 + s.N.told) (nI (tkV x (tkT x (tkT x p))))) 63 0 s.N := ⟨by rw [wI_1, if_neg (by omega)]; exact g1, by rw [wI_1, if_neg (by omega)]; exact g2, by rw [wI_1, if_neg (by omega)]; exact g3, fun i hi => by rw [wI_1, if_neg (by omega)]; exact g4 i hi, fun i hi j hj => by rw [wI_1, if_neg (by omega)]; exact g5 i hi j hj⟩
              exact h1.co (u3.1 63 (by omega)).1
            obtain ⟨σ6, v1, v2, v3⟩ := point_116 (N' := s.N.addP.setW (s.N.told + 1 - 1) (tkV x (tkT x (tkT x p)))) (w0 := tkV x (tkT x (tkT x p))) hrf5 ht12 (by rw [(u3.1 63 (by omega)).1, wI_1, if_pos ⟨rfl, rfl⟩]) rfl (fun i hi => by
              show (if i = s.N.told + 1 - 1 then _ else if i = s.N.told then 1 else s.N.wt i) = _
              rw [if_neg (by omega), if_neg (by omega)]) (by
              show (if s.N.told = s.N.told + 1 - 1 then _ else _) = _
              rw [if_pos (by omega)]) rfl
            rw [hin, ob_s, if_neg (by decide), bnd3n ht12, nm_v, u1, ob_s, v1]
            refine ⟨σ6, true, rfl, ((hkJ.tr (keepJ.f fw (Or.inl rfl))).tr (keepJ.k u3)).tr (keepJ.f v3 (Or.inl rfl)), Or.inr ⟨rfl, tkT x (tkT x (tkT x p)), _, j3, run2.trans (run_s hF4), q6, by omega, by omega, hI4, hm2, rfl, ?_, u2.f v3 (by omega), v2, fun i hi => ?_, ?_⟩⟩
            · unfold tkF
              rw [if_neg (by show ¬ 3 = 0; omega), if_neg (by show ¬ 3 = 1; omega), if_neg (by show ¬ 3 = 2; omega), if_pos rfl]
            · rw [(v3 68 (by omega)).2, (u3.1 68 (by omega)).2]
              exact hnm3 i hi
            · rw [(v3 60 (by omega)).1, u3.2 8 (by omega), (fw 60 (by omega)).1]
              exact h83
          · have hin : f_X12_isIn σ3 (nI (tkV x (tkT x (tkT x p)))) 1 9 = some 0 := by
              rw [i1, i9]
              refine isIn_at (by omega) (by omega) (fun a b => c4 ?_)
              rw [cle (by omega) (by omega)] at a b
              exact ⟨a, b⟩
            obtain ⟨σ', b1, b2⟩ := row_bad (c := 2) m2 hkJ run2 (by
              rw [hF3]; unfold tk2; rw [if_pos c3, if_neg c4, if_neg (by omega)])
            rw [hin, ob_s, if_pos rfl, i2, b1, ob2_s, nI_bIm]
            exact ⟨σ', false, rfl, b2⟩
        · obtain ⟨σ6, v1, v2, v3⟩ := point_116 (N' := s.N.addP) (w0 := 1) hrf3 ht12 hw3 rfl (fun i hi => by
            show (if i = s.N.told then 1 else s.N.wt i) = _
            rw [if_neg (by omega)]) (by
            show (if s.N.told = s.N.told then 1 else _) = _
            rw [if_pos rfl]) rfl
          rw [eq_n c3 (by omega) (by omega), v1]
          refine ⟨σ6, true, rfl, hkJ.tr (keepJ.f v3 (Or.inl rfl)), Or.inr ⟨rfl, tkT x (tkT x p), _, j3 + 1, run2, hp2, by omega, by omega, hI2, hm2, rfl, ?_, m2.f v3 (by omega), v2, fun i hi => ?_, ?_⟩⟩
          · rw [hF3]; unfold tk2; rw [if_neg c3]
          · rw [(v3 68 (by omega)).2]
            exact hnm3 i hi
          · rw [(v3 60 (by omega)).1]
            exact h83
theorem canJ_e {N : NT} {a b : Nat} (hl : lcB N.bt < 20) (ha : dgB N.bt a ≤ 5) (hb : dgB N.bt b ≤ 6) : canJ N a b = true ↔ ¬ (dgB N.bt b + (if b = a then 1 else 0) = 6) := by
  unfold canJ
  rw [decide_eq_true_iff]
  by_cases e : a = b
  · subst e
    rw [if_pos rfl, if_pos rfl]
    omega
  · rw [if_neg e, if_neg (Ne.symm e)]
    omega
theorem readLine_R {x : TT} (hx : tpI x) {j p : Nat} {s : RS} {σ : GM} (hI : rsI s) (he : s.e = 0) (hm : mB s) (hr : rwR σ s) (ht : tokR σ x p) (hT : rtp σ x) (hp : p ≤ x.1) (hj : 641 ≤ p + j) (hK : tkK x p = 2) (hV : tkV x p = WL) :
    ∃ σ' b, f_X12_readLine σ = some (σ', nI (bI b)) ∧ rowO x j p s σ σ' b := by
  have h640 := hx.1
  have h12 := hI.1.1
  have hw := hI.1
  have hlc := hw.2.2.2.2.2.2.1
  have hne : WL ≠ WP := by decide
  obtain ⟨j1, rfl⟩ : ∃ j', j = j' + 1 := ⟨j - 1, by omega⟩
  have hF : tkF s (tkK x p) (tkV x p) = if lcB s.N.bt = 20 then .inl 4 else .inr (some ((4, s.f, s.r), s.2)) := by
    unfold tkF tk0
    rw [if_pos he, if_neg (fun z => hne (by rw [← hV]; exact z.2)), if_pos ⟨hK, hV⟩]
  unfold f_X12_readLine
  rw [show (4095 : Int32) = nI 4095 from rfl, lineMany_at hr.1.rb hw.b20 (by omega), ob_s, eS_all hw.2.2.2.2.1, i20]
  by_cases c20 : lcB s.N.bt = 20
  · obtain ⟨σ', b1, b2⟩ := row_bad (j0 := j1 + 1) (p0 := p) (s0 := s) (c := 4) ht (keepJ.rf σ) rfl (by rw [hF, if_pos c20, if_neg (by omega)])
    rw [eq_y c20, show (4 : Int32) = nI 4 from rfl, b1, ob2_s, nI_bIm]
    exact ⟨σ', false, rfl, b2⟩
  rw [if_neg c20] at hF
  obtain ⟨q1, q2⟩ := tk_gt (x := x) (p := p) (by omega) (by omega)
  have run1 := run_s (x := x) (j := j1) hF
  obtain ⟨σ1, n1, n2, n3⟩ := next_at hx hT q2 ht.2.2.2.2
  obtain ⟨j2, rfl⟩ : ∃ j', j1 = j' + 1 := ⟨j1 - 1, by omega⟩
  have hr1 := hr.k n3
  have hI1 : rsI ((4, s.f, s.r), s.2) := tkF_I hI hF
  have hF1 : tkF ((4, s.f, s.r), s.2) (tkK x (tkT x p)) (tkV x (tkT x p)) = tk4 ((4, s.f, s.r), s.2) (tkK x (tkT x p)) (tkV x (tkT x p)) := by
    unfold tkF; rw [if_neg (by show ¬ 4 = 0; omega), if_neg (by show ¬ 4 = 1; omega), if_neg (by show ¬ 4 = 2; omega), if_neg (by show ¬ 4 = 3; omega), if_pos rfl]
  rw [eq_n c20 (by omega) (by omega), n1, ob_s, isName_at n2, ob_s]
  cases c1 : isNm (tkK x (tkT x p)) (tkV x (tkT x p)) with
  | false =>
    obtain ⟨σ', b1, b2⟩ := row_bad (c := 1) n2 (keepJ.k n3) run1 (by
      rw [hF1]; unfold tk4; rw [if_neg (by rw [c1]; decide)]
      split <;> rfl)
    rw [bz_y rfl, i1, b1, ob2_s, ← i1, nI_bIm]
    exact ⟨σ', false, rfl, b2⟩
  | true =>
  have hk1 : tkK x (tkT x p) = 2 := (of_decide_eq_true c1).1
  have hv1 := tk_v2 hk1
  rw [bz_n rfl, named_at hr1 h12 hm hv1 (n2.2.2.1 hk1), ob_s]
  cases c2 : nmd s (tkV x (tkT x p)) with
  | none =>
    obtain ⟨σ', b1, b2⟩ := row_bad (c := 3) n2 (keepJ.k n3) run1 (by
      rw [hF1]; unfold tk4; rw [if_pos c1, show nmd ((4, s.f, s.r), s.2) (tkV x (tkT x p)) = none from c2, if_neg (by omega)])
    show ∃ σ' b, (if (-1 : Int32) = -1 then _ else _) = some (σ', nI (bI b)) ∧ _
    rw [if_pos rfl, i3, b1, ob2_s, nI_bIm]
    exact ⟨σ', false, rfl, b2⟩
  | some a =>
  have ha := (nmd_s c2).1
  have hda := hw.2.2.2.2.2.2.2 a (by omega)
  show ∃ σ' b, (if nI a = -1 then _ else ob (f_X12_allEnds σ1 63 (nI a)) _) = some (σ', nI (bI b)) ∧ _
  rw [if_neg (m1_ne (by omega)), allEnds_at hr1.1.rb (by omega), ob_s, i6]
  by_cases c3 : dgB s.N.bt a = 6
  · obtain ⟨σ', b1, b2⟩ := row_bad (c := 5) n2 (keepJ.k n3) run1 (by
      rw [hF1]; unfold tk4; rw [if_pos c1, show nmd ((4, s.f, s.r), s.2) (tkV x (tkT x p)) = some a from c2]
      show (if dgB s.N.bt a = 6 then _ else _) = _
      rw [if_pos c3, if_neg (by omega)])
    rw [eq_y c3, show (5 : Int32) = nI 5 from rfl, b1, ob2_s, nI_bIm]
    exact ⟨σ', false, rfl, b2⟩
  have hF2 : tkF ((4, s.f, s.r), s.2) (tkK x (tkT x p)) (tkV x (tkT x p)) = .inr (some ((5, a, s.r), s.2)) := by
    rw [hF1]; unfold tk4; rw [if_pos c1, show nmd ((4, s.f, s.r), s.2) (tkV x (tkT x p)) = some a from c2]
    show (if dgB s.N.bt a = 6 then _ else _) = _
    rw [if_neg c3]
  have hI2 : rsI ((5, a, s.r), s.2) := tkF_I hI1 hF2
  obtain ⟨q3, q4⟩ := tk_gt (x := x) (p := tkT x p) (by omega) (by omega)
  have run2 := run1.trans (run_s (x := x) (j := j2) hF2)
  obtain ⟨σ3, m1, m2, m3⟩ := next_at hx (hT.k n3) q4 n2.2.2.2.2
  obtain ⟨j3, rfl⟩ : ∃ j', j2 = j' + 1 := ⟨j2 - 1, by omega⟩
  have hr3 := hr1.k m3
  have hkJ : keepJ σ σ3 := (keepJ.k n3).tr (keepJ.k m3)
  have hF3 : tkF ((5, a, s.r), s.2) (tkK x (tkT x (tkT x p))) (tkV x (tkT x (tkT x p))) = tk5 ((5, a, s.r), s.2) (tkK x (tkT x (tkT x p))) (tkV x (tkT x (tkT x p))) := by
    unfold tkF; rw [if_neg (by show ¬ 5 = 0; omega), if_neg (by show ¬ 5 = 1; omega), if_neg (by show ¬ 5 = 2; omega), if_neg (by show ¬ 5 = 3; omega), if_neg (by show ¬ 5 = 4; omega)]
  rw [eq_n c3 (by omega) (by omega), m1, ob_s, isName_at m2, ob_s]
  cases c4 : isNm (tkK x (tkT x (tkT x p))) (tkV x (tkT x (tkT x p))) with
  | false =>
    obtain ⟨σ', b1, b2⟩ := row_bad (c := 1) m2 hkJ run2 (by
      rw [hF3]; unfold tk5; rw [if_neg (by rw [c4]; decide)]
      split <;> rfl)
    rw [bz_y rfl, i1, b1, ob2_s, ← i1, nI_bIm]
    exact ⟨σ', false, rfl, b2⟩
  | true =>
  have hk2 : tkK x (tkT x (tkT x p)) = 2 := (of_decide_eq_true c4).1
  have hv2 := tk_v2 hk2
  rw [bz_n rfl, named_at hr3 h12 hm hv2 (m2.2.2.1 hk2), ob_s]
  cases c5 : nmd s (tkV x (tkT x (tkT x p))) with
  | none =>
    obtain ⟨σ', b1, b2⟩ := row_bad (c := 3) m2 hkJ run2 (by
      rw [hF3]; unfold tk5; rw [if_pos c4, show nmd ((5, a, s.r), s.2) (tkV x (tkT x (tkT x p))) = none from c5, if_neg (by omega)])
    show ∃ σ' b, (if (-1 : Int32) = -1 then _ else _) = some (σ', nI (bI b)) ∧ _
    rw [if_pos rfl, i3, b1, ob2_s, nI_bIm]
    exact ⟨σ', false, rfl, b2⟩
  | some b =>
  have hb := (nmd_s c5).1
  have hdb := hw.2.2.2.2.2.2.2 b (by omega)
  have hj2 := canJ_e (N := s.N) (a := a) (b := b) (by omega) (by omega) hdb
  have hB := hw.b20 a b
  show ∃ σ' b', (if nI b = -1 then _ else ob (f_X12_allEnds σ3 63 (nI b)) _) = some (σ', nI (bI b')) ∧ _
  rw [if_neg (m1_ne (by omega)), allEnds_at hr3.1.rb (by omega), ob_s]
  have fin : ∀ c : Nat, c = (if b = a then 1 else 0) → ∃ σ' b', f_X12_readLine_L124 σ3 (nI a) (nI b) (nI (dgB s.N.bt b)) (nI c) = some (σ', nI (bI b')) ∧ rowO x (j3 + 1 + 1 + 1) p s σ σ' b' := by
    intro c hc
    rw [← hc] at hj2
    unfold f_X12_readLine_L124
    rw [nI_add, i6]
    have hc1 : c ≤ 1 := by rw [hc]; split <;> omega
    by_cases c6 : dgB s.N.bt b + c = 6
    · obtain ⟨σ', b1, b2⟩ := row_bad (c := 5) m2 hkJ run2 (by
        rw [hF3]; unfold tk5; rw [if_pos c4, show nmd ((5, a, s.r), s.2) (tkV x (tkT x (tkT x p))) = some b from c5]
        show (if canJ s.N a b = true then _ else _) = _
        rw [if_neg (fun z => hj2.mp z c6), if_neg (by omega)])
      rw [eq_y c6, show (5 : Int32) = nI 5 from rfl, b1, ob2_s, nI_bIm]
      exact ⟨σ', false, rfl, b2⟩
    · have hF4 : tkF ((5, a, s.r), s.2) (tkK x (tkT x (tkT x p))) (tkV x (tkT x (tkT x p))) = .inr (some ((3, a, s.r), s.N.setL a b (s.N.bt a b + 1), s.m)) := by
        rw [hF3]; unfold tk5; rw [if_pos c4, show nmd ((5, a, s.r), s.2) (tkV x (tkT x (tkT x p))) = some b from c5]
        show (if canJ s.N a b = true then _ else _) = _
        rw [if_pos (hj2.mpr c6)]
      have hI4 := tkF_I hI2 hF4
      obtain ⟨q5, q6⟩ := tk_gt (x := x) (p := tkT x (tkT x p)) (by omega) (by omega)
      obtain ⟨σ4, t1, t2, t3⟩ := adds_at (m := s.N.bt a b + 1) (v := 1) hr3.1 hw.2.2.2.2.1 (a := a) (b := b) (by omega) (by omega) h12 (by rw [i1, nI_add])
      have m2' := m2.f t3 (by omega)
      obtain ⟨σ5, u1, u2, u3⟩ := next_at hx ((hT.j hkJ).j (keepJ.f t3 (Or.inl rfl))) q6 m2'.2.2.2.2
      rw [eq_n c6 (by omega) (by omega), t1, ob_s, u1, ob_s]
      refine ⟨σ5, true, rfl, (hkJ.tr (keepJ.f t3 (Or.inl rfl))).tr (keepJ.k u3), Or.inr ⟨rfl, tkT x (tkT x (tkT x p)), _, j3, run2.trans (run_s hF4), q6, by omega, by omega, hI4, hm, rfl, ?_, u2, t2.co (u3.1 63 (by omega)).1, fun i hi => ?_, ?_⟩⟩
      · unfold tkF
        rw [if_neg (by show ¬ 3 = 0; omega), if_neg (by show ¬ 3 = 1; omega), if_neg (by show ¬ 3 = 2; omega), if_pos rfl]
      · rw [(u3.1 68 (by omega)).2, (t3 68 (by omega)).2]
        exact hr3.2.1 i hi
      · rw [u3.2 8 (by omega), (t3 60 (by omega)).1]
        exact hr3.2.2
  show ∃ σ' b', (if nI b = nI a then f_X12_readLine_L124 σ3 (nI a) (nI b) (nI (dgB s.N.bt b)) 1 else f_X12_readLine_L124 σ3 (nI a) (nI b) (nI (dgB s.N.bt b)) 0) = some (σ', nI (bI b')) ∧ _
  by_cases c7 : b = a
  · rw [eq_y c7, i1]
    exact fin 1 (by rw [if_pos c7])
  · rw [eq_n c7 (by omega) (by omega), i0]
    exact fin 0 (by rw [if_neg c7])
