/-! SHRINKING: one step, on both sides -/
def c3s (N : NT) (p : Nat) : Bool := (fi (c3 N p) 12).isSome
def stepF (N : NT) : Option (NT × Nat) :=
  match fi (c1 N) 12 with
  | some p => some ((N.rem p).gon p, p)
  | none => match fi (c2 N) 12 with
    | some p => some (N.rem p, 16 + p)
    | none => match fi (c3s N) 12 with
      | some p => match fi (c3 N p) 12 with
        | some q => some (N.setL p q 2, 32 + p)
        | none => none
      | none => match fi (c4 N) 12 with
        | some p => some (N.pass p, 48 + p)
        | none => none
theorem c1_none {N : NT} (hw : wf N) (h : fi (c1 N) 12 = none) : ∀ i, i < 12 → N.bt i i = 0 := by
  intro i hi
  have h1 := fi_n.mp h i hi
  refine Classical.byContradiction (fun hn => ?_)
  unfold c1 at h1
  rw [(hw.2.2.2.2.2.1 i i hn).1, decide_eq_true hn] at h1
  cases h1
theorem c3s_q {N : NT} {p : Nat} (h : fi (c3s N) 12 = some p) : ∃ q, fi (c3 N p) 12 = some q := by
  have := (fi_s.mp h).2.1
  unfold c3s at this
  cases e : fi (c3 N p) 12 with
  | none => rw [e] at this; cases this
  | some q => exact ⟨q, rfl⟩
theorem stepC_at {σ : GM} {N : NT} (hn : netAt σ 8 N) (hw : wf N) : (stepF N = none → f_X9_step σ = some (σ, -1)) ∧ (∀ N' c, stepF N = some (N', c) → ∃ σ', f_X9_step σ = some (σ', nI c) ∧ netAt σ' 8 N' ∧ fr σ σ' 8 11) := by
  have h1 := takeLooped_at hn hw
  have h2 := removeTip_at hn hw
  have h3 := thinLines_at hn hw
  cases e1 : fi (c1 N) 12 with
  | some p =>
    obtain ⟨σ', r1, r2, r3⟩ := h1.2 p e1
    have hp := (fi_s.mp e1).1
    have hs : stepF N = some ((N.rem p).gon p, p) := by unfold stepF; rw [e1]
    refine ⟨fun h => (by rw [hs] at h; cases h), fun N' c h => ?_⟩
    rw [hs] at h
    obtain ⟨rfl, rfl⟩ := Prod.mk.inj (Option.some.inj h)
    refine ⟨σ', ?_, r2, r3⟩
    unfold f_X9_step
    rw [r1, ob2_s, if_neg (m1_ne (by omega))]
  | none =>
    have k1 := h1.1 e1
    cases e2 : fi (c2 N) 12 with
    | some p =>
      obtain ⟨σ', r1, r2, r3⟩ := h2.2 p e2
      have hp := (fi_s.mp e2).1
      have hs : stepF N = some (N.rem p, 16 + p) := by unfold stepF; rw [e1, e2]
      refine ⟨fun h => (by rw [hs] at h; cases h), fun N' c h => ?_⟩
      rw [hs] at h
      obtain ⟨rfl, rfl⟩ := Prod.mk.inj (Option.some.inj h)
      refine ⟨σ', ?_, r2, r3⟩
      unfold f_X9_step
      rw [k1, ob2_s, if_pos rfl, r1, ob2_s, if_neg (m1_ne (by omega)), show (16 : Int32) = nI 16 from rfl, nI_add]
    | none =>
      have k2 := h2.1 e2
      cases e3 : fi (c3s N) 12 with
      | some p =>
        obtain ⟨q, hq⟩ := c3s_q e3
        obtain ⟨σ', r1, r2, r3⟩ := h3.2 p q e3 hq
        have hp := (fi_s.mp e3).1
        have hs : stepF N = some (N.setL p q 2, 32 + p) := by unfold stepF; rw [e1, e2, e3]; show (match fi (c3 N p) 12 with | some q => some (N.setL p q 2, 32 + p) | none => none) = _; rw [hq]
        refine ⟨fun h => (by rw [hs] at h; cases h), fun N' c h => ?_⟩
        rw [hs] at h
        obtain ⟨rfl, rfl⟩ := Prod.mk.inj (Option.some.inj h)
        refine ⟨σ', ?_, r2, r3⟩
        unfold f_X9_step
        rw [k1, ob2_s, if_pos rfl, k2, ob2_s, if_pos rfl, r1, ob2_s, if_neg (m1_ne (by omega)), show (32 : Int32) = nI 32 from rfl, nI_add]
      | none =>
        have k3 := h3.1 e3
        have h4 := passBy_at hn hw (c1_none hw e1)
        cases e4 : fi (c4 N) 12 with
        | some p =>
          obtain ⟨σ', r1, r2, r3⟩ := h4.2 p e4
          have hp := (fi_s.mp e4).1
          have hs : stepF N = some (N.pass p, 48 + p) := by unfold stepF; rw [e1, e2, e3, e4]
          refine ⟨fun h => (by rw [hs] at h; cases h), fun N' c h => ?_⟩
          rw [hs] at h
          obtain ⟨rfl, rfl⟩ := Prod.mk.inj (Option.some.inj h)
          refine ⟨σ', ?_, r2, r3⟩
          unfold f_X9_step
          rw [k1, ob2_s, if_pos rfl, k2, ob2_s, if_pos rfl, k3, ob2_s, if_pos rfl, r1, ob2_s, if_neg (m1_ne (by omega)), show (48 : Int32) = nI 48 from rfl, nI_add]
        | none =>
          have k4 := h4.1 e4
          have hs : stepF N = none := by unfold stepF; rw [e1, e2, e3, e4]
          refine ⟨fun _ => ?_, fun N' c h => (by rw [hs] at h; cases h)⟩
          unfold f_X9_step
          rw [k1, ob2_s, if_pos rfl, k2, ob2_s, if_pos rfl, k3, ob2_s, if_pos rfl, k4, ob2_s, if_pos rfl]
theorem stepF_wf {N N' : NT} {c : Nat} (hw : wf N) (h : stepF N = some (N', c)) : wf N' ∧ c < 64 := by
  unfold stepF at h
  cases e1 : fi (c1 N) 12 with
  | some p =>
    rw [e1] at h
    obtain ⟨rfl, rfl⟩ := Prod.mk.inj (Option.some.inj h)
    have hp := (fi_s.mp e1).1
    exact ⟨gon_wf (rem_wf hw hp) hp, by omega⟩
  | none =>
    rw [e1] at h
    cases e2 : fi (c2 N) 12 with
    | some p =>
      rw [e2] at h
      obtain ⟨rfl, rfl⟩ := Prod.mk.inj (Option.some.inj h)
      have hp := (fi_s.mp e2).1
      exact ⟨rem_wf hw hp, by omega⟩
    | none =>
      rw [e2] at h
      cases e3 : fi (c3s N) 12 with
      | some p =>
        obtain ⟨q, hq⟩ := c3s_q e3
        rw [e3] at h
        have h : (match fi (c3 N p) 12 with | some q => some (N.setL p q 2, 32 + p) | none => none) = some (N', c) := h
        rw [hq] at h
        obtain ⟨rfl, rfl⟩ := Prod.mk.inj (Option.some.inj h)
        have hp := (fi_s.mp e3).1
        obtain ⟨q12, h2, -⟩ := fi_s.mp hq
        unfold c3 at h2
        rw [Bool.and_eq_true, decide_eq_true_iff, decide_eq_true_iff] at h2
        obtain ⟨t1, t2⟩ := hw.2.2.2.2.2.1 p q (by omega)
        have a1 := hw.2.2.2.2.2.2.1
        have a2 := hw.2.2.2.2.2.2.2 p hp
        have a3 := hw.2.2.2.2.2.2.2 q q12
        exact ⟨setL_wf hw hp q12 t1 t2 (by omega) (fun _ => by omega) (fun z => by omega), by omega⟩
      | none =>
        rw [e3] at h
        cases e4 : fi (c4 N) 12 with
        | some p =>
          rw [e4] at h
          obtain ⟨rfl, rfl⟩ := Prod.mk.inj (Option.some.inj h)
          obtain ⟨hp, h2, -⟩ := fi_s.mp e4
          unfold c4 at h2
          rw [Bool.and_eq_true, Bool.and_eq_true, decide_eq_true_iff] at h2
          exact ⟨pass_wf hw hp (c1_none hw e1 p hp) h2.2.1, by omega⟩
        | none => rw [e4] at h; cases h
/-! the reference's -/
theorem leaves_at {σ : GM} {c : Nat} {N : NT} (h : rfAt σ c 0 N) (hw : wf N) {p : Nat} (hp : p < 12) : ∃ σ', f_X12_leaves σ c (nI p) = some σ' ∧ rfAt σ' c 0 (N.rem p) ∧ fr σ σ' c (c + 1) := by
  have hy := hw.2.2.2.2.1
  have hh : σ.1 c 1 = nI N.here := h.2.1
  have h0 : rfAt (wI σ c 1 (nI (dif N.here (2 ^ p)))) c 0 ((N.told, dif N.here (2 ^ p), N.gone), N.2.1, remB N.bt p 0) := by
    obtain ⟨g1, g2, g3, g4, g5⟩ := h
    refine ⟨by rw [wI_1, if_neg (by omega)]; exact g1, by rw [wI_1, if_pos ⟨rfl, rfl⟩], by rw [wI_1, if_neg (by omega)]; exact g3, fun i hi => by rw [wI_1, if_neg (by omega)]; exact g4 i hi, fun i hi j hj => ?_⟩
    rw [wI_1, if_neg (by omega), g5 i hi j hj]
    show _ = nI (remB N.bt p 0 i j)
    unfold remB
    rw [if_neg (by omega)]
  unfold f_X12_leaves
  rw [i1, bnd_n (by omega) (by omega), bnd_n (by omega) (by omega), nm_v, nI_clamp (by omega), hh, ← i1, nI_bit hp, nI_dif]
  refine lq5 12 (by omega) (fun k (a : GM) i => f_X12_leaves_L13 c (nI p) k a i) (fun q a => rfAt a c 0 ((N.told, dif N.here (2 ^ p), N.gone), N.2.1, remB N.bt p q) ∧ fr σ a c (c + 1)) (fun r => ∃ σ', r = some σ' ∧ rfAt σ' c 0 (N.rem p) ∧ fr σ σ' c (c + 1)) _ ⟨h0, fr_wI (by omega) (by omega)⟩ ?_ ?_
  · intro k q a hq ⟨g1, g2⟩
    have hr : nI (remB N.bt p q p q) + -(nI (remB N.bt p q p q)) = nI 0 := by rw [show nI 0 = (0 : Int32) from rfl]; exact Int32.add_right_neg _
    obtain ⟨σ1, r1, r2, r3⟩ := adds_at g1 (remB_sym hy) hp hq hw.1 hr
    refine Or.inl ⟨σ1, ⟨?_, g2.trans r3⟩, fun r hr2 => ?_⟩
    · have e : NT.setL ((N.told, dif N.here (2 ^ p), N.gone), N.2.1, remB N.bt p q) p q 0 = ((N.told, dif N.here (2 ^ p), N.gone), N.2.1, remB N.bt p (q + 1)) := by
        show (_, _, setB (remB N.bt p q) p q 0) = _
        rw [remB_step]
      rw [e] at r2
      exact r2
    · unfold f_X12_leaves_L13
      rw [i12, le_n hq (by omega), between_at g1.rb hp hq, ob_s, r1, ob_s, nm_v, i1, nI_add]
      exact hr2
  · intro k a ⟨g1, g2⟩
    refine ⟨a, ?_, ?_, g2⟩
    · show f_X12_leaves_L13 c (nI p) (k + 1) a (nI 12) = _
      unfold f_X12_leaves_L13
      rw [i12, le_y (Nat.le_refl 12) (by omega)]
    · have : ((N.told, dif N.here (2 ^ p), N.gone), N.2.1, remB N.bt p 12) = N.rem p := by rw [rem_bt hw hp]; rfl
      rw [← this]; exact g1
