/-! WHAT IS ASKED OF RINGS -/
theorem keepW.f {σ σ' : GM} (h : keepW σ σ') : fr σ σ' 60 75 := fun m hm => ⟨h.1 m (by omega), by funext i; exact h.2 m i (by omega)⟩
theorem keepW.m {σ σ' : GM} (h : keepW σ σ') : keepM σ σ' := ⟨fun m hm => h.1 m (by omega), fun i _ => by rw [h.1 60 (by omega)], by rw [h.1 71 (by omega)]⟩
theorem keepX.f {σ σ' : GM} (h : keepX σ σ') : fr σ σ' 60 75 := fun m hm => ⟨by funext i; exact h.1 m i (by omega) (by omega) (by omega), by funext i; exact h.2 m i (by omega)⟩
theorem keepX.m {σ σ' : GM} (h : keepX σ σ') : keepM σ σ' := ⟨fun m hm => by funext i; exact h.1 m i (by omega) (by omega) (by omega), fun i hi => h.1 60 i (by omega) (by omega) (by omega), h.1 71 0 (by omega) (by omega) (by omega)⟩
theorem rings_ag {σ : GM} {A : AbS} (hC : CI σ A) (hM : MI σ A) : ∃ r σ', f_X11_rings σ = some r ∧ f_X12_rings σ = some (σ', r) ∧ CI σ' A ∧ MI σ' A := by
  obtain ⟨⟨⟨hn, hw⟩, -⟩, -⟩ := id hC
  have hM1 := hM.th (v := 0)
  obtain ⟨σ1, l1, l2, l3, l4⟩ := laysRings_at hw.b20 hM1.1.rb
  refine ⟨SW (TX A.N.bt) 12 + SW (YW A.N.bt) 12 / 2, σ1, ?_, ?_, (hC.keep fr_th (by omega)).keep l4.f (by omega), hM1.km l4.m⟩
  · unfold f_X11_rings
    rw [of_at hn hw, ob_s]
  · unfold f_X12_rings
    rw [nm_v, l1, ob_s, l2, Int64.add_comm]
theorem isR_lt {N : NT} (hw : wf N) {S : Nat} (h : isR N.bt S) : S < 4096 := (isR_sub hw h).2.1
theorem shortest_ag {σ : GM} {A : AbS} (hC : CI σ A) (hM : MI σ A) : agI σ A f_X11_shortest f_X12_shortest := by
  obtain ⟨⟨⟨hn, hw⟩, -⟩, -⟩ := id hC
  obtain ⟨σ1, r1, r2, r3, -, -, -, r4⟩ := ringsNow_at hC
  obtain ⟨r, s1, s2⟩ := shortestRing_at hw r3
  refine agI_q hM ⟨σ1, nI r, ?_, r2, r4, fun τ hτ => ?_⟩
  · unfold f_X11_shortest
    rw [r1, ob_s, s1, ob_s]
  · have hM1 := hτ.th (v := 0)
    obtain ⟨σ2, l1, l2, l3, l4⟩ := laysRings_at hw.b20 hM1.1.rb
    obtain ⟨r', t1, t2⟩ := shortest_L l3 (fun S h => isR_lt hw h) (isR0 hw)
    refine ⟨σ2, ?_, hM1.km l4.m, fr_th.trans l4.f⟩
    unfold f_X12_shortest
    rw [nm_v, l1, ob_s, t1, bestS_uni s2 t2]
theorem laysApart_at {σ : GM} {A : AbS} (hM : MI σ A) (hw : wf A.N) : ∃ σ', f_X12_laysApart σ = some σ' ∧ apOK σ' A.N.bt ∧ isRt σ' A.N.bt ∧ MI σ' A ∧ fr σ σ' 60 75 := by
  obtain ⟨σ1, l1, l2, l3, l4⟩ := laysRings_at hw.b20 hM.1.rb
  have hM1 := hM.km l4.m
  obtain ⟨σ2, p1, p2, p3⟩ := lays6_at (isR0 hw) l3 hM1.2.2.2.2.2
  have e70 := (p3 70 (by omega)).1
  refine ⟨σ2, ?_, p2, fun S hS => by rw [e70]; exact l3 S hS, ?_, l4.f.trans (p3.wide (by omega) (by omega))⟩
  · unfold f_X12_laysApart
    rw [l1, ob_s, p1]
  · refine hM1.km ⟨fun m hm => (p3 m (by omega)).1, fun i _ => by rw [(p3 60 (by omega)).1], ?_⟩
    obtain ⟨m, m1, m2⟩ := p2 0 (by omega)
    have := pkv_uni (by omega) m2 (pkv_0 (isR0 hw))
    rw [m1, this, hM1.2.2.2.2.2]
    rfl
theorem packed_ag {σ : GM} {A : AbS} (hC : CI σ A) (hM : MI σ A) : agI σ A f_X11_packed f_X12_packed := by
  obtain ⟨⟨⟨hn, hw⟩, -⟩, -⟩ := id hC
  have hh := hw.h4096
  obtain ⟨σ1, r1, r2, r3, r4, r5⟩ := packingNow_at hC
  obtain ⟨m, m1, m2⟩ := r4 A.N.here subS_rf
  refine agI_q hM ⟨σ1, nI m, ?_, r2, r5, fun τ hτ => ?_⟩
  · unfold f_X11_packed
    rw [r1, ob_s, r2.1.1.1.2.1, mostIn_at hh m1, ob_s]
  · have hM1 := hτ.th (v := 0)
    obtain ⟨σ2, p1, p2, p3, p4, p5⟩ := laysApart_at hM1 hw
    obtain ⟨m', n1, n2⟩ := p2 A.N.here hh
    refine ⟨σ2, ?_, p4, fr_th.trans p5⟩
    unfold f_X12_packed
    rw [nm_v, p1, ob_s, there_at p4.1.2.1, ob_s, bnd_n hh (by omega), nI_clamp (by omega), n1, pkv_uni hh ((pkv_MR hw hh).mp m2) n2]
theorem pack_ag {σ : GM} {A : AbS} (hC : CI σ A) (hM : MI σ A) (v : Int32) : agI σ A (fun σ => f_X11_pack σ v) (fun σ => f_X12_pack σ v) := by
  obtain ⟨⟨⟨hn, hw⟩, -⟩, -⟩ := id hC
  have hh := hw.h4096
  have ref : ∀ τ, MI τ A → ∃ τ' r, f_X12_pack τ v = some (τ', r) ∧ packA (isR A.N.bt) A.N.here v r ∧ MI τ' A ∧ fr τ τ' 60 75 := by
    intro τ hτ
    have hM1 := hτ.th (v := 0)
    obtain ⟨σ2, p1, p2, p3, p4, p5⟩ := laysApart_at hM1 hw
    obtain ⟨m, n1, n2⟩ := p2 A.N.here hh
    have hm := pk_pc (isR0 hw) m _ hh n2.1
    have hpc := pc_le A.N.here 12
    have out : (v < 0 ∨ nI m ≤ v) → f_X12_isIn σ2 v 0 (nI m - 1) = some 0 := by
      intro c
      unfold f_X12_isIn
      by_cases d : v < 0
      · rw [if_pos d]; rfl
      · have c := c.resolve_left d
        have : nI m - 1 < v := by
          by_cases z : m = 0
          · rw [z]
            exact Int32.lt_of_lt_of_le (by decide) (Int32.not_lt.mp d)
          · rw [i1, nI_sub (by omega)]
            refine Int32.lt_of_lt_of_le ?_ c
            rw [clt (by omega) (by omega)]
            omega
        rw [if_neg d, if_pos this]; rfl
    rcases pk_ix v (n := m) (by omega) with h | h | ⟨t, ht, rfl⟩
    · refine ⟨σ2, -1, ?_, ⟨m, n2, Or.inr ⟨fun t ht e => ?_, rfl⟩⟩, p4, fr_th.trans p5⟩
      · unfold f_X12_pack
        rw [nm_v, p1, ob_s, there_at p4.1.2.1, ob_s, bnd_n hh (by omega), nI_clamp (by omega), n1, out (Or.inl h), ob_s, if_pos rfl]
      · rw [e, i0, clt (by omega) (by omega)] at h; omega
    · refine ⟨σ2, -1, ?_, ⟨m, n2, Or.inr ⟨fun t ht e => ?_, rfl⟩⟩, p4, fr_th.trans p5⟩
      · unfold f_X12_pack
        rw [nm_v, p1, ob_s, there_at p4.1.2.1, ob_s, bnd_n hh (by omega), nI_clamp (by omega), n1, out (Or.inr h), ob_s, if_pos rfl]
      · rw [e, cle (by omega) (by omega)] at h; omega
    · obtain ⟨r, q1, q2⟩ := pack40 (isR0 hw) p3 p2 (fun S h => isR_lt hw h) (t := t) (by omega) t 0 A.N.here m 5000 0 (by omega) hh n2 ht (by omega)
      have hin : f_X12_isIn σ2 (nI t) 0 (nI m - 1) = some 1 := by
        rw [i1, nI_sub (by omega)]
        exact isIn_y (a := 0) (by omega) (by omega) (by omega)
      refine ⟨σ2, nI r, ?_, ⟨m, n2, Or.inl ⟨t, r, rfl, ht, rfl, q2⟩⟩, p4, fr_th.trans p5⟩
      unfold f_X12_pack
      rw [nm_v, p1, ob_s, there_at p4.1.2.1, ob_s, bnd_n hh (by omega), nI_clamp (by omega), n1, hin, ob_s, if_neg (by decide), ob_s]
      exact q1
  have uni : ∀ r r', packA (isR A.N.bt) A.N.here v r → packA (isR A.N.bt) A.N.here v r' → r = r' := fun r r' a b => packA_uni hh (fun m hm => by
    have h1 := pk_pc (isR0 hw) m _ hh hm.1
    have h2 := pc_le A.N.here 12
    omega) a b
  refine agI_q hM ?_
  by_cases c : 0 ≤ v
  · obtain ⟨σ1, r1, r2, r3, r4, r5⟩ := packingNow_at hC
    obtain ⟨r, s1, s2⟩ := ringAtC_at hw r3 r4 v
    refine ⟨σ1, r, ?_, r2, r5, fun τ hτ => ?_⟩
    · show f_X11_pack σ v = _
      unfold f_X11_pack
      rw [if_pos c, r1, ob_s, r2.1.1.1.2.1, s1, ob_s]
    · obtain ⟨τ', r', g1, g2, g3, g4⟩ := ref τ hτ
      rw [uni r' r g2 (packA_MR hw s2)] at g1
      exact ⟨τ', g1, g3, g4⟩
  · refine ⟨σ, -1, ?_, hC, fr.rf _ _ _, fun τ hτ => ?_⟩
    · show f_X11_pack σ v = _
      unfold f_X11_pack
      rw [if_neg c]
    · obtain ⟨τ', r', g1, g2, g3, g4⟩ := ref τ hτ
      have hr : r' = -1 := by
        obtain ⟨m, m1, m2⟩ := g2
        rcases m2 with ⟨t, x, e, ht, -, -⟩ | ⟨-, e⟩
        · exfalso
          apply c
          have h1 := pk_pc (isR0 hw) m _ hh m1.1
          have h2 := pc_le A.N.here 12
          rw [e, i0, cle (by omega) (by omega)]
          omega
        · exact e
      rw [hr] at g1
      exact ⟨τ', g1, g3, g4⟩
theorem near_ag {σ : GM} {A : AbS} (hC : CI σ A) (hM : MI σ A) : agI σ A f_X11_near f_X12_near := by
  obtain ⟨⟨⟨hn, hw⟩, -⟩, -⟩ := id hC
  obtain ⟨σ1, r1, r2, r3, r4⟩ := discountNow_at hC
  refine agI_q hM ⟨σ1, nI (nearD A.N), ?_, r2, r4, fun τ hτ => ?_⟩
  · unfold f_X11_near
    rw [r1, ob_s, r3.1]
  · have hM1 := hτ.th (v := 0)
    obtain ⟨σ2, l1, -, -, l4⟩ := laysNear_at hM1.1 hw
    refine ⟨σ2, ?_, hM1.km l4.m, fr_th.trans l4.f⟩
    unfold f_X12_near
    rw [nm_v, l1, ob2_s]
theorem bound_ag {σ : GM} {A : AbS} (hC : CI σ A) (hM : MI σ A) (v : Int32) : agX σ A (fun σ => f_L_bound σ v) (fun σ => f_X12_bound σ v) := by
  obtain ⟨⟨⟨hn, hw⟩, -⟩, -⟩ := id hC
  obtain ⟨σ1, r1, r2, r3, r4⟩ := discountNow_at hC
  obtain ⟨-, -, -, hI, -⟩ := laysNear_at (hM.th (v := 0)).1 hw
  have hD0 := hI.2.1
  have hD20 := dInv_lt hI
  have hU : (endD A.N).U ≤ 2160 * (endD A.N).D := by have := hI.2.2.2.2.1; omega
  have yes : ∀ x : Nat, (v = 0 ∨ v = 1) → f_X11_bound σ v = some (σ1, some (lN x)) → (∀ τ, rfU τ (endD A.N).U (endD A.N).D → (if v = 0 then τ.2 60 26 else τ.2 60 27) = lN x) → agX σ A (fun σ => f_L_bound σ v) (fun σ => f_X12_bound σ v) := by
    intro x hv h1 h2
    have hC1 : CI (wL σ1 75 0 (lN x)) A := r2.keep fr_75 (by omega)
    have hM1 : MI (wL σ1 75 0 (lN x)) A := (hM.keep r4 (by omega)).keep fr_75 (by omega)
    obtain ⟨σ2, l1, l2, -, l4⟩ := laysNear_at (hM1.th (v := 0)).1 hw
    have hin : f_X12_isIn (wI (wL σ1 75 0 (lN x)) 60 0 0) v 0 1 = some 1 := by
      rcases hv with rfl | rfl <;> rfl
    refine Or.inr ⟨wL σ1 75 0 (lN x), σ2, lN x, ?_, ?_, ?_, ?_, (hC1.keep fr_th (by omega)).keep l4.f (by omega), (hM1.th (v := 0)).km l4.m⟩
    · show f_L_bound σ v = _
      unfold f_L_bound
      rw [h1, ob2_s]; rfl
    · show f_X12_bound (wL σ1 75 0 (lN x)) v = _
      unfold f_X12_bound
      rw [nm_v, hin, ob_s, if_neg (by decide), l1, ob2_s]
      have h3 := h2 σ2 l2
      by_cases c : v = 0
      · rw [if_pos c] at h3
        rw [if_pos c, h3]
      · rw [if_neg c] at h3
        rw [if_neg c, h3]
    · rw [l4.1 60 0 (by omega) (by omega) (by omega), wI_1, if_pos ⟨rfl, rfl⟩]
    · rw [l4.2 75 0 (by omega)]
      show (wL σ1 75 0 (lN x)).2 75 0 = _
      rw [wL_2, if_pos ⟨rfl, rfl⟩]
  have low : ∀ τ, rfU τ (endD A.N).U (endD A.N).D → τ.2 60 26 = lN ((endD A.N).U / Nat.gcd (endD A.N).D (endD A.N).U) ∧ τ.2 60 27 = lN ((endD A.N).D / Nat.gcd (endD A.N).D (endD A.N).U) := by
    rintro τ ⟨n, d, a1, a2, a3, a4, a5⟩
    obtain ⟨e1, e2⟩ := low_uni hD0 a3 a4.symm (Nat.gcd_comm (endD A.N).D (endD A.N).U) a5
    exact ⟨by rw [a1, e1], by rw [a2, e2]⟩
  by_cases c0 : v = 0
  · refine yes _ (Or.inl c0) ?_ (fun τ hτ => by rw [if_pos c0]; exact (low τ hτ).1)
    unfold f_X11_bound f_X11_bound_L19
    rw [if_pos c0, r1, ob_s, if_pos c0, boundAbove_at r3.2.2 r3.2.1 hD0 (by omega) (by omega), ob_s]
  · by_cases c1 : v = 1
    · refine yes _ (Or.inr c1) ?_ (fun τ hτ => by rw [if_neg c0]; exact (low τ hτ).2)
      unfold f_X11_bound f_X11_bound_L19
      rw [if_neg c0, if_pos c1, r1, ob_s, if_neg c0, boundBelow_at r3.2.2 r3.2.1 hD0 (by omega) (by omega), ob_s]
    · have hin : f_X12_isIn (wI σ 60 0 0) v 0 1 = some 0 := by
        rw [show (0 : Int32) = nI 0 from rfl, i1]
        refine isIn_at (by omega) (by omega) (fun a b => ?_)
        rcases pk_ix v (n := 2) (by omega) with h | h | ⟨j, hj, rfl⟩
        · exact Int32.not_le.mpr h a
        · have := Int32.le_trans h b
          rw [cle (by omega) (by omega)] at this
          omega
        · rcases (show j = 0 ∨ j = 1 by omega) with rfl | rfl
          · exact c0 rfl
          · exact c1 rfl
      refine Or.inl ⟨σ, wI (wI σ 60 0 0) 60 0 1, (0 : Int32).toInt64, ?_, ?_, ?_, (hC.keep fr_th (by omega)).keep fr_th (by omega), hM.th.th⟩
      · show f_L_bound σ v = _
        unfold f_L_bound f_X11_bound
        rw [if_neg c0, if_neg c1, ob2_s]; rfl
      · show f_X12_bound σ v = _
        unfold f_X12_bound f_X12_refuse
        rw [nm_v, hin, ob_s, if_pos rfl, nm_v, ob2_s]
      · rw [wI_1, if_pos ⟨rfl, rfl⟩]
