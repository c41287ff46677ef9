/-! SHRINKING: the reference's step -/
theorem thick_at {σ : GM} {N : NT} (hr : rfAt σ 62 0 N) (hw : wf N) {p : Nat} (hp : p < 12) : f_X12_thick σ (nI p) = some (match fi (c3 N p) 12 with | some q => nI q | none => -1) := by
  unfold f_X12_thick
  rw [nm_v, i1, nI_add]
  refine lq 12 (fun k (_ : Unit) i => f_X12_thick_L4 σ (nI p) k i) (fun q _ => p < q ∧ ∀ i, i < q → c3 N p i = false) (fun z => z = some (match fi (c3 N p) 12 with | some q => nI q | none => -1)) ?_ ?_ 5000 (p + 1) () (by omega) (by omega) ⟨by omega, fun i hi => by unfold c3; rw [decide_eq_false (by omega)]; rfl⟩
  · intro k q _ hq ⟨f, hI⟩
    have hbq := hw.b20 p q
    by_cases e : N.bt p q ≤ 2
    · refine Or.inl ⟨(), ⟨by omega, fun i hi => ?_⟩, fun r hr2 => ?_⟩
      · by_cases g : i = q
        · rw [g]; unfold c3; rw [show decide (2 < N.bt p q) = false from decide_eq_false (by omega), Bool.and_false]
        · exact hI i (by omega)
      · unfold f_X12_thick_L4
        rw [i12, le_n hq (by omega), between_at hr.rb hp hq, ob_s, i2, le_y e (by omega), nm_v, i1, nI_add]
        exact hr2
    · right
      have hfi : fi (c3 N p) 12 = some q := fi_s.mpr ⟨hq, by unfold c3; rw [decide_eq_true f, show decide (2 < N.bt p q) = true from decide_eq_true (by omega)]; rfl, hI⟩
      show f_X12_thick_L4 σ (nI p) (k + 1) (nI q) = _
      unfold f_X12_thick_L4
      rw [i12, le_n hq (by omega), between_at hr.rb hp hq, ob_s, i2, le_n (by omega) (by omega), hfi]
  · intro k _ ⟨_, hI⟩
    show f_X12_thick_L4 σ (nI p) (k + 1) (nI 12) = _
    unfold f_X12_thick_L4
    rw [i12, le_y (Nat.le_refl 12) (by omega), fi_n.mpr hI]
theorem one_at {σ : GM} {N : NT} (hr : rfAt σ 62 0 N) (hw : wf N) {p : Nat} (hp : p < 12) (hpp : N.bt p p = 0) (hd : dgB N.bt p = 2) : f_X12_one σ (nI p) = some (nI (nb1 N p)) := by
  obtain ⟨f0, f1, f2, f3, f4, f5, f6, f7, f8, f9, f10⟩ := nb_of hpp hd
  have key : ∀ (k q : Nat), q ≤ nb1 N p → nb1 N p < q + k → f_X12_one_L2 σ (nI p) k (nI q) = some (nI (nb1 N p)) := by
    intro k
    induction k with
    | zero => intro q a b; omega
    | succ k ih =>
      intro q a b
      have hbq := hw.b20 p q
      unfold f_X12_one_L2
      rw [between_at hr.rb hp (by omega), ob_s]
      by_cases e : q = nb1 N p
      · rw [e, i0, eq_n f5 (by have := hw.b20 p (nb1 N p); omega) (by omega)]
      · have hz : N.bt p q = 0 := Classical.byContradiction (fun hn => by
          have := f7 q (by omega) hn
          omega)
        rw [hz, if_pos (show nI 0 = 0 from rfl), nm_v, i1, nI_add]
        exact ih (q + 1) (by omega) (by omega)
  exact key 5000 0 (by omega) (by omega)
theorem other_at {σ : GM} {N : NT} (hr : rfAt σ 62 0 N) (hw : wf N) {p : Nat} (hp : p < 12) (hpp : N.bt p p = 0) (hd : dgB N.bt p = 2) : f_X12_other σ (nI p) = some (nI (nb2 N p)) := by
  obtain ⟨f0, f1, f2, f3, f4, f5, f6, f7, f8, f9, f10⟩ := nb_of hpp hd
  have key : ∀ (k q : Nat), nb2 N p ≤ q → q < 12 → q < nb2 N p + k → f_X12_other_L3 σ (nI p) k (nI q) = some (nI (nb2 N p)) := by
    intro k
    induction k with
    | zero => intro q a b; omega
    | succ k ih =>
      intro q a b c
      have hbq := hw.b20 p q
      unfold f_X12_other_L3
      rw [between_at hr.rb hp (by omega), ob_s]
      by_cases e : q = nb2 N p
      · rw [e, i0, eq_n f6 (by have := hw.b20 p (nb2 N p); omega) (by omega)]
      · have hz : N.bt p q = 0 := Classical.byContradiction (fun hn => by
          have := f7 q (by omega) hn
          omega)
        obtain ⟨q', rfl⟩ : ∃ q', q = q' + 1 := ⟨q - 1, by omega⟩
        rw [hz, if_pos (show nI 0 = 0 from rfl), nm_v, pk_m1]
        exact ih q' (by omega) (by omega) (by omega)
  exact key 5000 11 (by omega) (by omega) (by omega)
/-- the rule t at the point p -/
def cR (N : NT) (t p : Nat) : Bool := if t = 0 then c1 N p else if t = 1 then c2 N p else if t = 2 then c3s N p else c4 N p
theorem cR_0 {N : NT} {p : Nat} : cR N 0 p = c1 N p := rfl
theorem cR_1 {N : NT} {p : Nat} : cR N 1 p = c2 N p := rfl
theorem cR_2 {N : NT} {p : Nat} : cR N 2 p = c3s N p := rfl
theorem cR_3 {N : NT} {p : Nat} : cR N 3 p = c4 N p := rfl
theorem eq_n1 {α : Type} {a : Nat} {x y : α} (h : a ≠ 1) (ha : a < 2 ^ 31) : (if nI a = (1 : Int32) then x else y) = y := eq_n h ha (by decide)
theorem mayStep_at {σ : GM} {N : NT} (hr : rfAt σ 62 0 N) (hw : wf N) {t p : Nat} (ht : t < 4) (hp : p < 12) (hh : N.here.testBit p = true) (hl : t = 3 → N.bt p p = 0) : f_X12_mayStep σ (nI t) (nI p) = some (nI (bI (cR N t p))) := by
  have hdp := hw.2.2.2.2.2.2.2 p hp
  have hbp := hw.b20 p p
  unfold f_X12_mayStep
  by_cases t0 : t = 0
  · subst t0
    rw [if_pos (show nI 0 = 0 from rfl), between_at hr.rb hp hp, ob_s]
    rw [cR_0]
    unfold c1
    rw [hh]
    by_cases e : N.bt p p = 0
    · rw [e, show (0 : Int32) = nI 0 from rfl, le_y (Nat.le_refl 0) (by omega)]; rfl
    · rw [i0, le_n (by omega) (by omega), decide_eq_true e]; rfl
  · rw [i0, eq_n t0 (by omega) (by omega)]
    by_cases t1 : t = 1
    · subst t1
      rw [if_pos (show nI 1 = 1 from rfl), allEnds_at hr.rb hp, ob_s]
      rw [cR_1]
      unfold c2
      rw [hh, i2]
      by_cases e : dgB N.bt p ≤ 1
      · rw [le_n (by omega) (by omega), decide_eq_true e]; rfl
      · rw [le_y (by omega) (by omega), decide_eq_false e]; rfl
    · rw [eq_n1 t1 (by omega)]
      by_cases t2 : t = 2
      · subst t2
        rw [if_pos (show nI 2 = 2 from rfl), thick_at hr hw hp, ob_s]
        rw [cR_2]
        unfold c3s
        cases e : fi (c3 N p) 12 with
        | none => rw [if_pos rfl]; rfl
        | some q =>
          have := (fi_s.mp e).1
          rw [if_neg (m1_ne (by omega)), show (some q).isSome = true from rfl, bI_t]; rfl
      · have t3 : t = 3 := by omega
        subst t3
        have hpp := hl rfl
        rw [i2, eq_n (by omega) (by omega) (by omega), allEnds_at hr.rb hp, ob_s]
        rw [cR_3]
        unfold c4
        rw [hh]
        by_cases e : dgB N.bt p = 2
        · obtain ⟨f0, f1, f2, f3, f4, f5, f6, f7, f8, f9, f10⟩ := nb_of hpp e
          have hwt : ∀ x, N.here.testBit x = true → σ.1 62 (3 + x) = nI (N.wt x) ∧ N.wt x ≤ 9 := fun x hx => ⟨by have := hr.2.2.2.1 x (here_told hw hx); rwa [Nat.zero_add] at this, (hw.2.2.2.1 x (here_told hw hx)).2⟩
          have h1 := hwt _ (hw.2.2.2.2.2.1 p _ f5).2
          have h2 := hwt _ (hw.2.2.2.2.2.1 p _ f6).2
          have h3 := hwt p hh
          rw [eq_y e, nm_v, i3, nI_add, bnd_n (by omega) (by omega), one_at hr hw hp hpp e, ob_s, nm_v, nI_add, bnd_n (by omega) (by omega), nI_clamp (by omega), nI_clamp (by omega), h1.1, h3.1, decide_eq_true e]
          by_cases c : N.wt (nb1 N p) ≤ N.wt p
          · rw [le_y c (by omega), decide_eq_true (Or.inl c)]; rfl
          · rw [le_n (by omega) (by omega), nm_v, bnd_n (by omega) (by omega), other_at hr hw hp hpp e, ob_s, nm_v, nI_add, bnd_n (by omega) (by omega), nI_clamp (by omega), nI_clamp (by omega), h3.1, h2.1]
            by_cases d : N.wt (nb2 N p) ≤ N.wt p
            · rw [lt_n d (by omega), decide_eq_true (Or.inr d)]; rfl
            · rw [lt_y (by omega) (by omega), decide_eq_false (by omega)]; rfl
        · rw [eq_n e (by omega) (by omega), decide_eq_false e, Bool.false_and, Bool.and_false, bI_f]; rfl
theorem cR_here {N : NT} (hw : wf N) {t p : Nat} (h : N.here.testBit p = false) : cR N t p = false := by
  unfold cR c1 c2 c4
  rw [h]
  by_cases a : t = 0
  · rw [if_pos a]; rfl
  · rw [if_neg a]
    by_cases b : t = 1
    · rw [if_pos b]; rfl
    · rw [if_neg b]
      by_cases c : t = 2
      · rw [if_pos c]
        unfold c3s
        cases e : fi (c3 N p) 12 with
        | none => rfl
        | some q =>
          have h2 := (fi_s.mp e).2.1
          unfold c3 at h2
          rw [Bool.and_eq_true, decide_eq_true_iff, decide_eq_true_iff] at h2
          have := (hw.2.2.2.2.2.1 p q (by omega)).1
          rw [h] at this; cases this
      · rw [if_neg c]; rfl
theorem first_at {σ : GM} {N : NT} (hr : rfAt σ 62 0 N) (hw : wf N) {t : Nat} (ht : t < 4) (hl : t = 3 → ∀ i, i < 12 → N.bt i i = 0) : f_X12_first σ (nI t) = some (match fi (cR N t) 12 with | some q => nI q | none => -1) := by
  have h62 : σ.1 62 1 = nI N.here := hr.2.1
  unfold f_X12_first
  refine lq5 12 (by omega) (fun k (_ : Unit) i => f_X12_first_L2 σ (nI t) k i) (fun q _ => ∀ i, i < q → cR N t i = false) (fun z => z = some (match fi (cR N t) 12 with | some q => nI q | none => -1)) () (fun i hi => absurd hi (by omega)) ?_ ?_
  · intro k q _ hq hI
    have nxt : cR N t q = false → ∀ i, i < q + 1 → cR N t i = false := fun e i hi => by
      by_cases g : i = q
      · rw [g]; exact e
      · exact hI i (by omega)
    cases hh : N.here.testBit q with
    | false =>
      refine Or.inl ⟨(), nxt (cR_here hw hh), fun r hr2 => ?_⟩
      unfold f_X12_first_L2
      rw [i12, le_n hq (by omega), isThere_rf h62 hw.h4096, inT_n hq, ob_s, bz_y hh, nm_v, i1, nI_add]
      exact hr2
    | true =>
      have hm := mayStep_at hr hw ht hq hh (fun e => hl e q hq)
      cases hc : cR N t q with
      | false =>
        refine Or.inl ⟨(), nxt hc, fun r hr2 => ?_⟩
        unfold f_X12_first_L2
        rw [i12, le_n hq (by omega), isThere_rf h62 hw.h4096, inT_n hq, ob_s, bz_n hh, hm, ob_s, bz_y hc, nm_v, i1, nI_add]
        exact hr2
      | true =>
        right
        have hfi : fi (cR N t) 12 = some q := fi_s.mpr ⟨hq, hc, hI⟩
        show f_X12_first_L2 σ (nI t) (k + 1) (nI q) = _
        unfold f_X12_first_L2
        rw [i12, le_n hq (by omega), isThere_rf h62 hw.h4096, inT_n hq, ob_s, bz_n hh, hm, ob_s, bz_n hc, hfi]
  · intro k _ hI
    show f_X12_first_L2 σ (nI t) (k + 1) (nI 12) = _
    unfold f_X12_first_L2
    rw [i12, le_y (Nat.le_refl 12) (by omega), fi_n.mpr hI]
theorem fi_cR {N : NT} {t : Nat} : cR N t = if t = 0 then c1 N else if t = 1 then c2 N else if t = 2 then c3s N else c4 N := by
  funext p
  unfold cR
  split
  · rfl
  · split
    · rfl
    · split <;> rfl
theorem stepR_at {σ : GM} {N : NT} (hr : rfAt σ 62 0 N) (hw : wf N) : (stepF N = none → f_X12_steps σ = some (σ, -1)) ∧ (∀ N' c, stepF N = some (N', c) → ∃ σ', f_X12_steps σ = some (σ', nI c) ∧ rfAt σ' 62 0 N' ∧ fr σ σ' 62 63) := by
  have f0 := first_at hr hw (t := 0) (by omega) (fun h => by omega)
  have f1 := first_at hr hw (t := 1) (by omega) (fun h => by omega)
  have f2 := first_at hr hw (t := 2) (by omega) (fun h => by omega)
  have g0 : cR N 0 = c1 N := rfl
  have g1 : cR N 1 = c2 N := rfl
  have g2 : cR N 2 = c3s N := rfl
  have g3 : cR N 3 = c4 N := rfl
  rw [g0] at f0
  rw [g1] at f1
  rw [g2] at f2
  have skip : ∀ k t, t < 4 → f_X12_first σ (nI t) = some (-1) → f_X12_steps_L2 (k + 1) σ (nI t) = f_X12_steps_L2 k σ (nI (t + 1)) := by
    intro k t ht hf
    conv => lhs; unfold f_X12_steps_L2
    rw [show (4 : Int32) = nI 4 from rfl, le_n (by omega) (by omega), hf, ob_s, if_pos rfl, nm_v, i1, nI_add]
  have hit : ∀ k t p, t < 4 → p < 12 → f_X12_first σ (nI t) = some (nI p) → f_X12_steps_L2 (k + 1) σ (nI t) = f_X12_steps_L21 σ (nI t) (nI p) := by
    intro k t p ht hp hf
    unfold f_X12_steps_L2
    rw [show (4 : Int32) = nI 4 from rfl, le_n (by omega) (by omega), hf, ob_s, if_neg (m1_ne (by omega))]
  have hst : f_X12_steps σ = f_X12_steps_L2 (4999 + 1) σ (nI 0) := rfl
  have plain : ∀ (σ0 : GM) (M : NT) (t p : Nat), rfAt σ0 62 0 M → wf M → t < 2 → p < 12 → ∃ σ', f_X12_steps_L37 σ0 (nI t) (nI p) = some (σ', nI (16 * t + p)) ∧ rfAt σ' 62 0 (M.rem p) ∧ fr σ0 σ' 62 63 := by
    intro σ0 M t p hM hwM ht hp
    obtain ⟨σ1, r1, r2, r3⟩ := leaves_at hM hwM hp
    refine ⟨σ1, ?_, r2, r3⟩
    unfold f_X12_steps_L37 f_X12_steps_L87 f_X12_steps_L102 f_X12_steps_L128
    rw [i2, eq_n (by omega) (by omega) (by omega), i3, eq_n (by omega) (by omega) (by omega), eq_n (by omega) (by omega) (by omega), r1, ob_s, eq_n (by omega) (by omega) (by omega), show (16 : Int32) = nI 16 from rfl, pk_mul, nI_add]
  cases e1 : fi (c1 N) 12 with
  | some p =>
    have hp := (fi_s.mp e1).1
    rw [e1] at f0
    have hs : stepF N = some ((N.rem p).gon p, p) := by unfold stepF; rw [e1]
    refine ⟨fun h => (by rw [hs] at h; cases h), fun N' c h => ?_⟩
    rw [hs] at h
    obtain ⟨rfl, rfl⟩ := Prod.mk.inj (Option.some.inj h)
    have hg : rfAt (wI σ 62 2 (nI (N.gone ||| 2 ^ p))) 62 0 (N.gon p) := by
      obtain ⟨a1, a2, a3, a4, a5⟩ := hr
      refine ⟨by rw [wI_1, if_neg (by omega)]; exact a1, by rw [wI_1, if_neg (by omega)]; exact a2, by rw [wI_1, if_pos ⟨rfl, rfl⟩]; rfl, fun i hi => by rw [wI_1, if_neg (by omega)]; exact a4 i hi, fun i hi j hj => by rw [wI_1, if_neg (by omega)]; exact a5 i hi j hj⟩
    obtain ⟨σ', r1, r2, r3⟩ := plain _ _ 0 p hg (gon_wf hw hp) (by omega) hp
    refine ⟨σ', ?_, r2, (fr_wI (by omega) (by omega)).trans r3⟩
    have h62 : σ.1 62 2 = nI N.gone := hr.2.2.1
    rw [hst, hit _ 0 p (by omega) hp f0]
    unfold f_X12_steps_L21
    rw [if_pos (show nI 0 = 0 from rfl), i2, bnd_n (by omega) (by omega), bnd_n (by omega) (by omega), nm_v, nI_clamp (by omega), h62, nI_set hp, r1]
    congr 3; omega
  | none =>
    rw [e1] at f0
    cases e2 : fi (c2 N) 12 with
    | some p =>
      have hp := (fi_s.mp e2).1
      rw [e2] at f1
      have hs : stepF N = some (N.rem p, 16 + p) := by unfold stepF; rw [e1, e2]
      refine ⟨fun h => (by rw [hs] at h; cases h), fun N' c h => ?_⟩
      rw [hs] at h
      obtain ⟨rfl, rfl⟩ := Prod.mk.inj (Option.some.inj h)
      obtain ⟨σ', r1, r2, r3⟩ := plain σ N 1 p hr hw (by omega) hp
      refine ⟨σ', ?_, r2, r3⟩
      rw [hst, skip _ 0 (by omega) f0, hit 4998 1 p (by omega) hp f1]
      unfold f_X12_steps_L21
      rw [i0, eq_n (by omega) (by omega) (by omega), r1]
    | none =>
      rw [e2] at f1
      cases e3 : fi (c3s N) 12 with
      | some p =>
        obtain ⟨q, hq⟩ := c3s_q e3
        have hp := (fi_s.mp e3).1
        obtain ⟨q12, hq2, -⟩ := fi_s.mp hq
        unfold c3 at hq2
        rw [Bool.and_eq_true, decide_eq_true_iff, decide_eq_true_iff] at hq2
        rw [e3] at f2
        have hs : stepF N = some (N.setL p q 2, 32 + p) := by unfold stepF; rw [e1, e2, e3]; show (match fi (c3 N p) 12 with | some q => some (N.setL p q 2, 32 + p) | none => none) = _; rw [hq]
        refine ⟨fun h => (by rw [hs] at h; cases h), fun N' c h => ?_⟩
        rw [hs] at h
        obtain ⟨rfl, rfl⟩ := Prod.mk.inj (Option.some.inj h)
        have hv : nI (N.bt p q) + (nI 2 - nI (N.bt p q)) = nI 2 := by
          rw [nI_addsub (by omega) (by have := hw.b20 p q; omega), Nat.add_sub_cancel_left]
        obtain ⟨σ', r1, r2, r3⟩ := adds_at hr hw.2.2.2.2.1 hp q12 hw.1 hv
        refine ⟨σ', ?_, r2, r3⟩
        have hth := thick_at hr hw hp
        rw [hq] at hth
        rw [hst, skip _ 0 (by omega) f0, skip 4998 1 (by omega) f1, hit 4997 2 p (by omega) hp f2]
        unfold f_X12_steps_L21 f_X12_steps_L37
        rw [i0, eq_n (by omega) (by omega) (by omega), i2, eq_y rfl, hth, ob_s, between_at hr.rb hp q12, ob_s, r1, ob_s, show (32 : Int32) = nI 32 from rfl, nI_add]
      | none =>
        rw [e3] at f2
        have hl := c1_none hw e1
        have f3 := first_at hr hw (t := 3) (by omega) (fun _ => hl)
        rw [g3] at f3
        cases e4 : fi (c4 N) 12 with
        | some p =>
          obtain ⟨hp, h2, -⟩ := fi_s.mp e4
          unfold c4 at h2
          rw [Bool.and_eq_true, Bool.and_eq_true, decide_eq_true_iff] at h2
          rw [e4] at f3
          have hs : stepF N = some (N.pass p, 48 + p) := by unfold stepF; rw [e1, e2, e3, e4]
          refine ⟨fun h => (by rw [hs] at h; cases h), fun N' c h => ?_⟩
          rw [hs] at h
          obtain ⟨rfl, rfl⟩ := Prod.mk.inj (Option.some.inj h)
          obtain ⟨k0, k1, k2, -⟩ := nb_of (hl p hp) h2.2.1
          obtain ⟨σ1, r1, r2, r3⟩ := leaves_at hr hw hp
          obtain ⟨σ2, s1, s2, s3⟩ := adds_at r2 (rem_wf hw hp).2.2.2.2.1 k1 k2 hw.1 (v := 1) (m := (N.rem p).bt (nb1 N p) (nb2 N p) + 1) (by rw [i1, nI_add])
          refine ⟨σ2, ?_, s2, r3.trans s3⟩
          rw [hst, skip _ 0 (by omega) f0, skip 4998 1 (by omega) f1, skip 4997 2 (by omega) f2, hit 4996 3 p (by omega) hp f3]
          unfold f_X12_steps_L21 f_X12_steps_L37 f_X12_steps_L87 f_X12_steps_L102 f_X12_steps_L128
          rw [i0, eq_n (by omega) (by omega) (by omega), i2, eq_n (by omega) (by omega) (by omega), i3, eq_y rfl, one_at hr hw hp (hl p hp) h2.2.1, ob_s, eq_y rfl, other_at hr hw hp (hl p hp) h2.2.1, ob_s, r1, ob_s, eq_y rfl, s1, ob_s, show (16 : Int32) = nI 16 from rfl, pk_mul, nI_add]
        | none =>
          rw [e4] at f3
          have hs : stepF N = none := by unfold stepF; rw [e1, e2, e3, e4]
          refine ⟨fun _ => ?_, fun N' c h => (by rw [hs] at h; cases h)⟩
          rw [hst, skip _ 0 (by omega) f0, skip 4998 1 (by omega) f1, skip 4997 2 (by omega) f2, skip 4996 3 (by omega) f3]
          unfold f_X12_steps_L2
          rw [show (4 : Int32) = nI 4 from rfl, le_y (by omega) (by omega)]
