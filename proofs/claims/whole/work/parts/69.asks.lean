/-! WHAT IS ASKED: both answer alike -/
def agI (σ : GM) (A' : AbS) (f g : GM → Option (GM × Int32)) : Prop := ∃ σ1 σ2 r, f σ = some (σ1, r) ∧ g σ1 = some (σ2, r) ∧ CI σ2 A' ∧ MI σ2 A'
theorem agI_q {σ : GM} {A A' : AbS} {f g : GM → Option (GM × Int32)} (hM : MI σ A) (h : ∃ σ1 r, f σ = some (σ1, r) ∧ CI σ1 A' ∧ fr σ σ1 0 60 ∧ ∀ τ, MI τ A → ∃ τ', g τ = some (τ', r) ∧ MI τ' A' ∧ fr τ τ' 60 75) : agI σ A' f g := by
  obtain ⟨σ1, r, h1, h2, h3, h4⟩ := h
  obtain ⟨σ2, g1, g2, g3⟩ := h4 σ1 (hM.keep h3 (by omega))
  exact ⟨σ1, σ2, r, h1, g1, h2.keep g3 (by omega), g2⟩
theorem MI.th {σ : GM} {A : AbS} {v : Int32} (h : MI σ A) : MI (wI σ 60 0 v) A := h.km (keepM.w60 (by omega))
theorem fr_th {σ : GM} {v : Int32} : fr σ (wI σ 60 0 v) 60 75 := fr_wI (by omega) (by omega)
theorem and_self_n (h : Nat) : h &&& h = h := Nat.and_self h
theorem now_ag {σ : GM} {A : AbS} (hC : CI σ A) (hM : MI σ A) (v : Int32) : ∃ r, f_X11_now σ v = some r ∧ f_X12_now σ v = some (wI σ 60 0 0, r) := by
  obtain ⟨⟨⟨hn, hw⟩, ⟨⟨lt, hp⟩, -⟩, -, ht, -⟩, -⟩ := hC
  have hM' := hM.th (v := 0)
  obtain ⟨m1, m2, m3, m4, -, -⟩ := hM'
  have hr := m1.rb
  have hs := hw.2.2.2.2.1
  unfold f_X11_now f_X12_now
  by_cases c0 : v = 0
  · refine ⟨nI A.N.told, by rw [if_pos c0, hn.1], ?_⟩
    rw [nm_v, if_pos c0, i0, bnd_n (by omega) (by omega), nI_clamp (by omega)]
    show some (_, (wI σ 60 0 0).1 62 0) = _
    rw [m1.1]
  rw [if_neg c0, nm_v, if_neg c0]
  by_cases c1 : v = 1
  · refine ⟨nI A.N.here, by rw [if_pos c1, hn.2.1], ?_⟩
    rw [if_pos c1, there_at m1.2.1, ob_s]
  rw [if_neg c1, if_neg c1]
  by_cases c2 : v = 2
  · refine ⟨nI (lcB A.N.bt), by rw [if_pos c2, hn.2.2.2.1], ?_⟩
    rw [if_pos c2, show (4095 : Int32) = nI 4095 from rfl, lineMany_at hr hw.b20 (by omega), ob_s, eS_all hs]
  rw [if_neg c2, if_neg c2]
  by_cases c3 : v = 3
  · refine ⟨nI A.N.gone, by rw [if_pos c3, hn.2.2.1], ?_⟩
    rw [if_pos c3, i2, bnd_n (by omega) (by omega), nI_clamp (by omega)]
    show some (_, (wI σ 60 0 0).1 62 2) = _
    rw [m1.2.2.1]
  rw [if_neg c3, if_neg c3]
  by_cases c4 : v = 4
  · refine ⟨nI (CC A.N.bt A.N.here), by rw [if_pos c4, hn.2.1, partsIn_at hn.2.2.2.2.2 hw.b20 hs hw.h4096, ob_s], ?_⟩
    rw [if_pos c4, there_at m1.2.1, ob_s, parts_at hr hw.b20 hs hw.h4096, ob_s]
  rw [if_neg c4, if_neg c4]
  by_cases c5 : v = 5
  · refine ⟨nI (wS A.N.wt A.N.here), by rw [if_pos c5, hn.2.1, weightOfSet_at hn hw (Nat.and_self _), ob_s], ?_⟩
    rw [if_pos c5, there_at m1.2.1, ob_s, weightOf_rf m1 hw (Nat.and_self _), ob_s]
  rw [if_neg c5, if_neg c5]
  by_cases c6 : v = 6
  · exact ⟨nI A.L, by rw [if_pos c6, hp.2.2.1], by rw [if_pos c6, m2.2.1]⟩
  rw [if_neg c6, if_neg c6]
  by_cases c7 : v = 7
  · exact ⟨nI A.t, by rw [if_pos c7, ht.1], by rw [if_pos c7, m4.1]⟩
  exact ⟨-1, by rw [if_neg c7], by rw [if_neg c7]⟩
theorem lines_ag {σ : GM} {A : AbS} (hC : CI σ A) (hM : MI σ A) (u v : Int32) : ∃ r, f_X11_lines σ u v = some r ∧ f_X12_lines σ u v = some (wI σ 60 0 0, r) := by
  obtain ⟨⟨⟨hn, hw⟩, -⟩, -⟩ := hC
  have m1 := (hM.th (v := 0)).1
  cases e : inT A.N.here u with
  | false =>
    refine ⟨-1, ?_, ?_⟩
    · unfold f_X11_lines
      rw [isThere_any hn.2.1 hw.h4096 u, ob_s, bz_y e]
    · unfold f_X12_lines
      rw [nm_v, isThere_rf m1.2.1 hw.h4096 u, ob_s, bz_y e]
  | true =>
    cases f : inT A.N.here v with
    | false =>
      refine ⟨-1, ?_, ?_⟩
      · unfold f_X11_lines
        rw [isThere_any hn.2.1 hw.h4096 u, ob_s, bz_n e, isThere_any hn.2.1 hw.h4096 v, ob_s, bz_y f]
      · unfold f_X12_lines
        rw [nm_v, isThere_rf m1.2.1 hw.h4096 u, ob_s, bz_n e, isThere_rf m1.2.1 hw.h4096 v, ob_s, bz_y f]
    | true =>
      obtain ⟨i, hi, rfl, -⟩ := inT_true e
      obtain ⟨j, hj, rfl, -⟩ := inT_true f
      refine ⟨nI (A.N.bt i j), ?_, ?_⟩
      · unfold f_X11_lines
        rw [isThere_any hn.2.1 hw.h4096 (nI i), ob_s, bz_n e, isThere_any hn.2.1 hw.h4096 (nI j), ob_s, bz_n f, linesOf_at hn.2.2.2.2.2 hi hj, ob_s]
      · unfold f_X12_lines
        rw [nm_v, isThere_rf m1.2.1 hw.h4096 (nI i), ob_s, bz_n e, isThere_rf m1.2.1 hw.h4096 (nI j), ob_s, bz_n f, between_at m1.rb hi hj, ob_s]
theorem fault_ag {σ : GM} {A : AbS} (hC : CI σ A) (hM : MI σ A) : ∃ r, f_X11_fault σ = some r ∧ f_X12_fault σ = some (wI σ 60 0 0, r) := by
  refine ⟨nI A.fl, ?_, ?_⟩
  · unfold f_X11_fault
    rw [hC.1.2.2.2.2]
  · unfold f_X12_fault
    rw [nm_v, (hM.th (v := 0)).2.2.2.2.1]
/-! a point -/
theorem point_81 {σ : GM} {B : Nat → Nat → Nat} (hB : rbB σ 62 B) (hb : ∀ i j, B i j ≤ 20) {p : Nat} (hp : p < 12) : f_X12_point_L81 (nI p) 5000 σ (0 : Int32) (0 : Int32) = some (σ, nI (bsB B p 1)) := by
  refine lq5 12 (by omega) (fun k (a : Int32) i => f_X12_point_L81 (nI p) k σ a i) (fun q a => a = nI (st (fun j => decide (j ≠ p ∧ 1 ≤ B p j)) q)) (fun z => z = some (σ, nI (bsB B p 1))) (nI 0) rfl ?_ ?_
  · intro k q a hq ha
    subst ha
    have hbq := hb p q
    refine Or.inl ⟨_, rfl, fun z hz => ?_⟩
    unfold f_X12_point_L81
    rw [i12, le_n hq (by omega)]
    by_cases e : q = p
    · rw [st_n (decide_eq_false (by omega))] at hz
      rw [eq_y e, nm_v, i1, nI_add]
      exact hz
    · rw [eq_n e (by omega) (by omega), between_at hB hp hq, ob_s, i0]
      by_cases c : B p q = 0
      · rw [st_n (decide_eq_false (by omega))] at hz
        rw [le_y (by omega) (by omega), nm_v, i1, nI_add]
        exact hz
      · rw [st_y (decide_eq_true (by omega))] at hz
        rw [le_n (by omega) (by omega), nI_set hq, nm_v, nm_v, i1, nI_add]
        exact hz
  · intro k a ha
    subst ha
    show f_X12_point_L81 (nI p) (k + 1) σ _ (nI 12) = _
    unfold f_X12_point_L81
    rw [i12, le_y (Nat.le_refl 12) (by omega)]
    rfl
/-- a call that may be refused: the class's answer lies in the cell 75 -/
def agX (σ : GM) (A' : AbS) (f : GM → Option (GM × Int32)) (g : GM → Option (GM × Int64)) : Prop :=
  (∃ σ1 σ2 r, f σ = some (σ1, 1) ∧ g σ1 = some (σ2, r) ∧ σ2.1 60 0 = 1 ∧ CI σ2 A' ∧ MI σ2 A') ∨ (∃ σ1 σ2 r, f σ = some (σ1, 0) ∧ g σ1 = some (σ2, r) ∧ σ2.1 60 0 = 0 ∧ σ2.2 75 0 = r ∧ CI σ2 A' ∧ MI σ2 A')
theorem fr_75 {σ : GM} {v : Int64} : fr σ (wL σ 75 0 v) 75 76 := fr_wL (by omega) (by omega)
def xl (x : Option (GM × Int32)) : Option (GM × Int64) := x.map (fun p => (p.1, p.2.toInt64))
theorem xl_s {σ : GM} {r : Int32} : xl (some (σ, r)) = some (σ, r.toInt64) := rfl
theorem point_ag {σ : GM} {A : AbS} (hC : CI σ A) (hM : MI σ A) (u v : Int32) : agX σ A (fun σ => f_L_point σ u v) (fun σ => xl (f_X12_point σ u v)) := by
  obtain ⟨⟨⟨hn, hw⟩, -⟩, -⟩ := id hC
  have hh := hw.h4096
  -- a refusal
  have no : f_X11_point σ u v = some none → f_X12_point σ u v = some (wI (wI σ 60 0 0) 60 0 1, 0) → agX σ A (fun σ => f_L_point σ u v) (fun σ => xl (f_X12_point σ u v)) := by
    intro h1 h2
    refine Or.inl ⟨σ, wI (wI σ 60 0 0) 60 0 1, (0 : Int32).toInt64, ?_, ?_, ?_, (hC.keep fr_th (by omega)).keep fr_th (by omega), hM.th.th⟩
    · show f_L_point σ u v = _
      unfold f_L_point
      rw [h1, ob_s]; rfl
    · show xl (f_X12_point σ u v) = _
      rw [h2, xl_s]
    · rw [wI_1, if_pos ⟨rfl, rfl⟩]
  have yes : ∀ r, f_X11_point σ u v = some (some r) → (∀ τ, MI τ A → f_X12_point τ u v = some (wI τ 60 0 0, r)) → agX σ A (fun σ => f_L_point σ u v) (fun σ => xl (f_X12_point σ u v)) := by
    intro r h1 h2
    have hC1 : CI (wL σ 75 0 r.toInt64) A := hC.keep fr_75 (by omega)
    have hM1 : MI (wL σ 75 0 r.toInt64) A := hM.keep fr_75 (by omega)
    refine Or.inr ⟨wL σ 75 0 r.toInt64, wI (wL σ 75 0 r.toInt64) 60 0 0, r.toInt64, ?_, ?_, ?_, ?_, hC1.keep fr_th (by omega), hM1.th⟩
    · show f_L_point σ u v = _
      unfold f_L_point
      rw [h1, ob_s]; rfl
    · show xl (f_X12_point (wL σ 75 0 r.toInt64) u v) = _
      rw [h2 _ hM1, xl_s]
    · rw [wI_1, if_pos ⟨rfl, rfl⟩]
    · show (wL σ 75 0 r.toInt64).2 75 0 = _
      rw [wL_2, if_pos ⟨rfl, rfl⟩]
  have m1 := (hM.th (v := 0)).1
  cases e : inT A.N.here u with
  | false =>
    refine no ?_ ?_
    · unfold f_X11_point
      rw [isThere_any hn.2.1 hh u, ob_s, e, bz_y rfl]
    · unfold f_X12_point f_X12_refuse
      rw [nm_v, isThere_rf m1.2.1 hh u, ob_s, e, bz_y rfl, nm_v, ob2_s]
  | true =>
    obtain ⟨p, hp, rfl, hpt⟩ := inT_true e
    have hpo := here_told hw hpt
    have hno : v ≠ 0 → v ≠ 1 → v ≠ 2 → v ≠ 3 → f_X12_point σ (nI p) v = some (wI (wI σ 60 0 0) 60 0 1, 0) := by
      intro n0 n1 n2 n3
      unfold f_X12_point f_X12_refuse
      rw [nm_v, isThere_rf m1.2.1 hh (nI p), ob_s, e, bz_n rfl, if_neg n0, if_neg n1, if_neg n2, if_neg n3, nm_v, ob2_s]
    rcases pk_ix v (n := 4) (by omega) with h | h | ⟨j, hj, rfl⟩
    · have ne : ∀ k : Nat, k < 4 → v ≠ nI k := by
        rintro k hk rfl
        rw [i0, clt (by omega) (by omega)] at h
        omega
      refine no ?_ (hno (ne 0 (by omega)) (ne 1 (by omega)) (ne 2 (by omega)) (ne 3 (by omega)))
      unfold f_X11_point
      rw [isThere_any hn.2.1 hh (nI p), ob_s, e, bz_n rfl, if_pos h]
    · have ne : ∀ k : Nat, k < 4 → v ≠ nI k := by
        rintro k hk rfl
        rw [cle (by omega) (by omega)] at h
        omega
      refine no ?_ (hno (ne 0 (by omega)) (ne 1 (by omega)) (ne 2 (by omega)) (ne 3 (by omega)))
      unfold f_X11_point
      have h3 : ¬ v ≤ 3 := fun z => by
        have := Int32.le_trans h z
        rw [i3, cle (by omega) (by omega)] at this
        omega
      have h0 : ¬ v < 0 := fun z => h3 (Int32.le_trans (Int32.le_of_lt z) (by decide))
      rw [isThere_any hn.2.1 hh (nI p), ob_s, e, bz_n rfl, if_neg h0, if_neg h3]
    · have j0 : ¬ nI j < 0 := nI_pos (by omega)
      have j3 : nI j ≤ 3 := by rw [i3, cle (by omega) (by omega)]; omega
      rcases (show j = 0 ∨ j = 1 ∨ j = 2 ∨ j = 3 by omega) with rfl | rfl | rfl | rfl
      · refine yes (nI (A.N.wt p)) ?_ (fun τ hτ => ?_)
        · unfold f_X11_point
          rw [isThere_any hn.2.1 hh (nI p), ob_s, e, bz_n rfl, if_neg j0, if_pos j3, if_pos (show nI 0 = 0 from rfl), weightOf_at hp, ob_s, hn.2.2.2.2.1 p hpo]
        · have m1 := (hτ.th (v := 0)).1
          have h4 := m1.2.2.2.1 p hpo
          rw [Nat.zero_add] at h4
          unfold f_X12_point
          rw [nm_v, isThere_rf m1.2.1 hh (nI p), ob_s, e, bz_n rfl, if_pos (show nI 0 = 0 from rfl), i3, nI_add, nm_v, bnd_n (by omega) (by omega), nI_clamp (by omega), h4]
      · refine yes (nI (dgB A.N.bt p)) ?_ (fun τ hτ => ?_)
        · unfold f_X11_point
          rw [isThere_any hn.2.1 hh (nI p), ob_s, e, bz_n rfl, if_neg j0, if_pos j3, if_neg (show ¬ nI 1 = 0 by decide), if_pos (show nI 1 = 1 from rfl), hn.2.1, endsIn_here hn hw hp, ob_s]
        · have m1 := (hτ.th (v := 0)).1
          unfold f_X12_point
          rw [nm_v, isThere_rf m1.2.1 hh (nI p), ob_s, e, bz_n rfl, if_neg (show ¬ nI 1 = 0 by decide), if_pos (show nI 1 = 1 from rfl), allEnds_at m1.rb hp, ob_s]
      · refine yes (nI (A.N.bt p p)) ?_ (fun τ hτ => ?_)
        · unfold f_X11_point
          rw [isThere_any hn.2.1 hh (nI p), ob_s, e, bz_n rfl, if_neg j0, if_pos j3, if_neg (show ¬ nI 2 = 0 by decide), if_neg (show ¬ nI 2 = 1 by decide), if_pos (show nI 2 = 2 from rfl), linesOf_at hn.2.2.2.2.2 hp hp, ob_s]
        · have m1 := (hτ.th (v := 0)).1
          unfold f_X12_point
          rw [nm_v, isThere_rf m1.2.1 hh (nI p), ob_s, e, bz_n rfl, if_neg (show ¬ nI 2 = 0 by decide), if_neg (show ¬ nI 2 = 1 by decide), if_pos (show nI 2 = 2 from rfl), between_at m1.rb hp hp, ob_s]
      · refine yes (nI (bsB A.N.bt p 1)) ?_ (fun τ hτ => ?_)
        · unfold f_X11_point
          rw [isThere_any hn.2.1 hh (nI p), ob_s, e, bz_n rfl, if_neg j0, if_pos j3, if_neg (show ¬ nI 3 = 0 by decide), if_neg (show ¬ nI 3 = 1 by decide), if_neg (show ¬ nI 3 = 2 by decide), i1, besides_at hn.2.2.2.2.2 hw.b20 hp (by omega), ob_s]
        · have m1 := (hτ.th (v := 0)).1
          unfold f_X12_point
          rw [nm_v, isThere_rf m1.2.1 hh (nI p), ob_s, e, bz_n rfl, if_neg (show ¬ nI 3 = 0 by decide), if_neg (show ¬ nI 3 = 1 by decide), if_neg (show ¬ nI 3 = 2 by decide), if_pos (show nI 3 = 3 from rfl), point_81 m1.rb hw.b20 hp]
