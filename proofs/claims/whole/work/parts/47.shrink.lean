/-! SHRINKING: the class's four rules -/
def fi (c : Nat → Bool) : Nat → Option Nat
  | 0 => none
  | n + 1 => match fi c n with
    | some p => some p
    | none => if c n then some n else none
theorem fi_n {c : Nat → Bool} {n : Nat} : fi c n = none ↔ ∀ i, i < n → c i = false := by
  induction n with
  | zero => exact ⟨fun _ i hi => absurd hi (by omega), fun _ => rfl⟩
  | succ n ih =>
    rw [fi]
    cases e : fi c n with
    | some p =>
      constructor
      · intro h; cases h
      · intro h
        have := ih.mpr (fun i hi => h i (by omega))
        rw [e] at this; cases this
    | none =>
      have h1 := ih.mp e
      cases f : c n with
      | true =>
        constructor
        · intro h; cases h
        · intro h; have := h n (by omega); rw [f] at this; cases this
      | false =>
        constructor
        · intro _ i hi
          by_cases g : i = n
          · rw [g]; exact f
          · exact h1 i (by omega)
        · intro _; rfl
theorem fi_s {c : Nat → Bool} {n p : Nat} : fi c n = some p ↔ (p < n ∧ c p = true ∧ ∀ i, i < p → c i = false) := by
  induction n with
  | zero => exact ⟨fun h => (by cases h), fun h => absurd h.1 (by omega)⟩
  | succ n ih =>
    rw [fi]
    cases e : fi c n with
    | some q =>
      have h1 : fi c n = some q ↔ _ := Iff.rfl
      constructor
      · intro h
        have h : q = p := Option.some.inj h
        subst h
        obtain ⟨a, b, d⟩ := ih.mp e
        exact ⟨by omega, b, d⟩
      · intro h
        show some q = some p
        by_cases g : p < n
        · rw [← e]; exact ih.mpr ⟨g, h.2⟩
        · have h2 : fi c n = none := fi_n.mpr (fun i hi => h.2.2 i (by omega))
          rw [e] at h2; cases h2
    | none =>
      have h1 := fi_n.mp e
      cases f : c n with
      | true =>
        constructor
        · intro h
          have h : n = p := Option.some.inj h
          subst h
          exact ⟨by omega, f, h1⟩
        · intro h
          show some n = some p
          by_cases g : p < n
          · have := h1 p g; rw [h.2.1] at this; cases this
          · rw [show p = n by omega]
      | false =>
        constructor
        · intro h; cases h
        · intro h
          by_cases g : p < n
          · have := h1 p g; rw [h.2.1] at this; cases this
          · rw [show p = n by omega, f] at h; cases h.2.1
def NT.gon (N : NT) (p : Nat) : NT := ((N.told, N.here, N.gone ||| 2 ^ p), N.2.1, N.bt)
def c1 (N : NT) (p : Nat) : Bool := N.here.testBit p && decide (N.bt p p ≠ 0)
def c2 (N : NT) (p : Nat) : Bool := N.here.testBit p && decide (dgB N.bt p ≤ 1)
def c3 (N : NT) (p q : Nat) : Bool := decide (p < q) && decide (2 < N.bt p q)
def nb1 (N : NT) (p : Nat) : Nat := lo (bsB N.bt p 1)
def nb2 (N : NT) (p : Nat) : Nat := if dif (bsB N.bt p 1) (2 ^ nb1 N p) = 0 then nb1 N p else lo (dif (bsB N.bt p 1) (2 ^ nb1 N p))
def c4 (N : NT) (p : Nat) : Bool := N.here.testBit p && (decide (dgB N.bt p = 2) && decide (N.wt (nb1 N p) ≤ N.wt p ∨ N.wt (nb2 N p) ≤ N.wt p))
theorem gon_wf {N : NT} (hw : wf N) {p : Nat} (hp : p < 12) : wf (N.gon p) := by
  obtain ⟨w1, w2, w3, w4⟩ := hw
  exact ⟨w1, w2, or_lt (n := 12) w3 (p2_lt hp), w4⟩
theorem takeLooped_at {σ : GM} {N : NT} (hn : netAt σ 8 N) (hw : wf N) : (fi (c1 N) 12 = none → f_X9_takeLooped σ = some (σ, -1)) ∧ (∀ p, fi (c1 N) 12 = some p → ∃ σ', f_X9_takeLooped σ = some (σ', nI p) ∧ netAt σ' 8 ((N.rem p).gon p) ∧ fr σ σ' 8 11) := by
  have hP := hn.2.2.2.2.2
  have key : (fi (c1 N) 12 = none ∧ f_X9_takeLooped σ = some (σ, -1)) ∨ ∃ p, fi (c1 N) 12 = some p ∧ f_X9_takeLooped σ = f_X9_takeLooped_L25 σ (nI p) := by
    unfold f_X9_takeLooped
    refine lq5 12 (by omega) (fun k (_ : Unit) i => f_X9_takeLooped_L2 k σ i) (fun q _ => ∀ i, i < q → c1 N i = false) (fun z => (fi (c1 N) 12 = none ∧ z = some (σ, -1)) ∨ ∃ p, fi (c1 N) 12 = some p ∧ z = f_X9_takeLooped_L25 σ (nI p)) () (fun i hi => absurd hi (by omega)) ?_ ?_
    · intro k q _ hq hp
      have hbq := hw.b20 q q
      have nxt : c1 N q = false → ∀ i, i < q + 1 → c1 N i = false := fun e i hi => by
        by_cases g : i = q
        · rw [g]; exact e
        · exact hp i (by omega)
      cases ht : N.here.testBit q with
      | false =>
        refine Or.inl ⟨(), nxt (by unfold c1; rw [ht]; rfl), fun r hr => ?_⟩
        unfold f_X9_takeLooped_L2
        rw [i12, le_n hq (by omega), isThere_at hn.2.1 hw.h4096 hq, ob_s, bz_y ht, nm_v, i1, nI_add]
        exact hr
      | true =>
        by_cases e : N.bt q q = 0
        · refine Or.inl ⟨(), nxt (by unfold c1; rw [ht, e]; rfl), fun r hr => ?_⟩
          unfold f_X9_takeLooped_L2
          rw [i12, le_n hq (by omega), isThere_at hn.2.1 hw.h4096 hq, ob_s, bz_n ht, linesOf_at hP hq hq, ob_s, e, show (0 : Int32) = nI 0 from rfl, le_y (Nat.le_refl 0) (by omega), nm_v, i1, nI_add]
          exact hr
        · refine Or.inr (Or.inr ⟨q, fi_s.mpr ⟨hq, by unfold c1; rw [ht, decide_eq_true e]; rfl, hp⟩, ?_⟩)
          show f_X9_takeLooped_L2 (k + 1) σ (nI q) = _
          unfold f_X9_takeLooped_L2
          rw [i12, le_n hq (by omega), isThere_at hn.2.1 hw.h4096 hq, ob_s, bz_n ht, linesOf_at hP hq hq, ob_s, i0, le_n (by omega) (by omega)]
    · intro k _ hp
      refine Or.inl ⟨fi_n.mpr hp, ?_⟩
      show f_X9_takeLooped_L2 (k + 1) σ (nI 12) = _
      unfold f_X9_takeLooped_L2
      rw [i12, le_y (Nat.le_refl 12) (by omega)]
  constructor
  · intro h
    rcases key with ⟨-, k⟩ | ⟨p, a, -⟩
    · exact k
    · rw [h] at a; cases a
  · intro p hp
    rcases key with ⟨a, -⟩ | ⟨p', a, b⟩
    · rw [hp] at a; cases a
    · rw [hp] at a
      have : p = p' := Option.some.inj a
      subst this
      obtain ⟨h1, h2, -⟩ := fi_s.mp hp
      have ht : N.here.testBit p = true := by unfold c1 at h2; rw [Bool.and_eq_true] at h2; exact h2.1
      obtain ⟨σ1, e1, e2, e3⟩ := remove_at hn hw h1 ht
      refine ⟨wI σ1 8 4 (nI (N.gone ||| 2 ^ p)), ?_, ?_, e3.trans (fr_wI (by omega) (by omega))⟩
      · rw [b]
        unfold f_X9_takeLooped_L25
        rw [e1, ob2_s, nm_v, e2.2.2.1, nI_set h1]
        rfl
      · obtain ⟨g1, g2, g3, g4, g5, g6⟩ := e2
        refine ⟨?_, ?_, ?_, ?_, ?_, ?_⟩
        · rw [wI_1, if_neg (by omega)]; exact g1
        · rw [wI_1, if_neg (by omega)]; exact g2
        · rw [wI_1, if_pos ⟨rfl, rfl⟩]; rfl
        · rw [wI_1, if_neg (by omega)]; exact g4
        · intro i hi; rw [wI_1, if_neg (by omega)]; exact g5 i hi
        · intro i hi j hj; rw [wI_1, if_neg (by omega)]; exact g6 i hi j hj
theorem removeTip_at {σ : GM} {N : NT} (hn : netAt σ 8 N) (hw : wf N) : (fi (c2 N) 12 = none → f_X9_removeTip σ = some (σ, -1)) ∧ (∀ p, fi (c2 N) 12 = some p → ∃ σ', f_X9_removeTip σ = some (σ', nI p) ∧ netAt σ' 8 (N.rem p) ∧ fr σ σ' 8 11) := by
  have key : (fi (c2 N) 12 = none ∧ f_X9_removeTip σ = some (σ, -1)) ∨ ∃ p, fi (c2 N) 12 = some p ∧ f_X9_removeTip σ = ob2 (f_X3_remove σ 8 (nI p)) fun σ_11 r_10 => some (σ_11, nI p) := by
    unfold f_X9_removeTip
    refine lq5 12 (by omega) (fun k (_ : Unit) i => f_X9_removeTip_L2 k σ i) (fun q _ => ∀ i, i < q → c2 N i = false) (fun z => (fi (c2 N) 12 = none ∧ z = some (σ, -1)) ∨ ∃ p, fi (c2 N) 12 = some p ∧ z = ob2 (f_X3_remove σ 8 (nI p)) fun σ_11 r_10 => some (σ_11, nI p)) () (fun i hi => absurd hi (by omega)) ?_ ?_
    · intro k q _ hq hp
      have hdq := hw.2.2.2.2.2.2.2 q hq
      have nxt : c2 N q = false → ∀ i, i < q + 1 → c2 N i = false := fun e i hi => by
        by_cases g : i = q
        · rw [g]; exact e
        · exact hp i (by omega)
      cases ht : N.here.testBit q with
      | false =>
        refine Or.inl ⟨(), nxt (by unfold c2; rw [ht]; rfl), fun r hr => ?_⟩
        unfold f_X9_removeTip_L2
        rw [i12, le_n hq (by omega), isThere_at hn.2.1 hw.h4096 hq, ob_s, bz_y ht, nm_v, i1, nI_add]
        exact hr
      | true =>
        by_cases e : dgB N.bt q ≤ 1
        · refine Or.inr (Or.inr ⟨q, fi_s.mpr ⟨hq, by unfold c2; rw [ht, decide_eq_true e]; rfl, hp⟩, ?_⟩)
          show f_X9_removeTip_L2 (k + 1) σ (nI q) = _
          unfold f_X9_removeTip_L2
          rw [i12, le_n hq (by omega), isThere_at hn.2.1 hw.h4096 hq, ob_s, bz_n ht, hn.2.1, endsIn_here hn hw hq, ob_s, i1, lt_n e (by omega)]
        · refine Or.inl ⟨(), nxt (by unfold c2; rw [ht, decide_eq_false e]; rfl), fun r hr => ?_⟩
          unfold f_X9_removeTip_L2
          rw [i12, le_n hq (by omega), isThere_at hn.2.1 hw.h4096 hq, ob_s, bz_n ht, hn.2.1, endsIn_here hn hw hq, ob_s, i1, lt_y (by omega) (by omega), nm_v, nI_add]
          exact hr
    · intro k _ hp
      refine Or.inl ⟨fi_n.mpr hp, ?_⟩
      show f_X9_removeTip_L2 (k + 1) σ (nI 12) = _
      unfold f_X9_removeTip_L2
      rw [i12, le_y (Nat.le_refl 12) (by omega)]
  constructor
  · intro h
    rcases key with ⟨-, k⟩ | ⟨p, a, -⟩
    · exact k
    · rw [h] at a; cases a
  · intro p hp
    rcases key with ⟨a, -⟩ | ⟨p', a, b⟩
    · rw [hp] at a; cases a
    · rw [hp] at a
      have : p = p' := Option.some.inj a
      subst this
      obtain ⟨h1, h2, -⟩ := fi_s.mp hp
      have ht : N.here.testBit p = true := by unfold c2 at h2; rw [Bool.and_eq_true] at h2; exact h2.1
      obtain ⟨σ1, e1, e2, e3⟩ := remove_at hn hw h1 ht
      exact ⟨σ1, by rw [b, e1, ob2_s], e2, e3⟩
theorem thinLines_at {σ : GM} {N : NT} (hn : netAt σ 8 N) (hw : wf N) : (fi (fun p => (fi (c3 N p) 12).isSome) 12 = none → f_X9_thinLines σ = some (σ, -1)) ∧ (∀ p q, fi (fun p => (fi (c3 N p) 12).isSome) 12 = some p → fi (c3 N p) 12 = some q → ∃ σ', f_X9_thinLines σ = some (σ', nI p) ∧ netAt σ' 8 (N.setL p q 2) ∧ fr σ σ' 8 11) := by
  have hP := hn.2.2.2.2.2
  have inner : ∀ (p : Nat) (k2 : GM → Int32 → Option (GM × Int32)), p < 12 → (fi (c3 N p) 12 = none ∧ f_X9_thinLines_L12 k2 (nI p) 5000 σ (nI (p + 1)) = k2 σ (nI (p + 1))) ∨ ∃ q, fi (c3 N p) 12 = some q ∧ f_X9_thinLines_L12 k2 (nI p) 5000 σ (nI (p + 1)) = ob (f_X3_setLines σ 8 (nI p) (nI q) (2 : Int32)) fun σ_10 => some (σ_10, nI p) := by
    intro p k2 hp
    refine lq 12 (fun k (_ : Unit) i => f_X9_thinLines_L12 k2 (nI p) k σ i) (fun q _ => p < q ∧ ∀ i, i < q → c3 N p i = false) (fun z => (fi (c3 N p) 12 = none ∧ z = k2 σ (nI (p + 1))) ∨ ∃ q, fi (c3 N p) 12 = some q ∧ z = ob (f_X3_setLines σ 8 (nI p) (nI q) (2 : Int32)) fun σ_10 => some (σ_10, nI p)) ?_ ?_ 5000 (p + 1) () (by omega) (by omega) ⟨by omega, fun i hi => by unfold c3; rw [decide_eq_false (by omega)]; rfl⟩
    · intro k q _ hq ⟨f, hI⟩
      have hbq := hw.b20 p q
      by_cases e : N.bt p q ≤ 2
      · refine Or.inl ⟨(), ⟨by omega, fun i hi => ?_⟩, fun r hr => ?_⟩
        · by_cases g : i = q
          · rw [g]; unfold c3; rw [show decide (2 < N.bt p q) = false from decide_eq_false (by omega), Bool.and_false]
          · exact hI i (by omega)
        · unfold f_X9_thinLines_L12
          rw [i12, le_n hq (by omega), linesOf_at hP hp hq, ob_s, i2, le_y e (by omega), nm_v, i1, nI_add]
          exact hr
      · refine Or.inr (Or.inr ⟨q, fi_s.mpr ⟨hq, by unfold c3; rw [decide_eq_true f, show decide (2 < N.bt p q) = true from decide_eq_true (by omega)]; rfl, hI⟩, ?_⟩)
        show f_X9_thinLines_L12 k2 (nI p) (k + 1) σ (nI q) = _
        unfold f_X9_thinLines_L12
        rw [i12, le_n hq (by omega), linesOf_at hP hp hq, ob_s, i2, le_n (by omega) (by omega)]
    · intro k _ ⟨_, hI⟩
      refine Or.inl ⟨fi_n.mpr hI, ?_⟩
      show f_X9_thinLines_L12 k2 (nI p) (k + 1) σ (nI 12) = _
      unfold f_X9_thinLines_L12
      rw [i12, le_y (Nat.le_refl 12) (by omega), nm_v, i1, nI_add]
  have key : (fi (fun p => (fi (c3 N p) 12).isSome) 12 = none ∧ f_X9_thinLines σ = some (σ, -1)) ∨ ∃ p q, fi (fun p => (fi (c3 N p) 12).isSome) 12 = some p ∧ fi (c3 N p) 12 = some q ∧ f_X9_thinLines σ = ob (f_X3_setLines σ 8 (nI p) (nI q) (2 : Int32)) fun σ_10 => some (σ_10, nI p) := by
    unfold f_X9_thinLines
    refine lq5 12 (by omega) (fun k (_ : Unit) i => f_X9_thinLines_L2 k σ i) (fun q _ => ∀ i, i < q → (fi (c3 N i) 12).isSome = false) (fun z => (fi (fun p => (fi (c3 N p) 12).isSome) 12 = none ∧ z = some (σ, -1)) ∨ ∃ p q, fi (fun p => (fi (c3 N p) 12).isSome) 12 = some p ∧ fi (c3 N p) 12 = some q ∧ z = ob (f_X3_setLines σ 8 (nI p) (nI q) (2 : Int32)) fun σ_10 => some (σ_10, nI p)) () (fun i hi => absurd hi (by omega)) ?_ ?_
    · intro k p _ hp hI
      rcases inner p (fun σ' v1' => f_X9_thinLines_L2 k σ' v1') hp with ⟨e1, e2⟩ | ⟨q, e1, e2⟩
      · refine Or.inl ⟨(), fun i hi => ?_, fun r hr => ?_⟩
        · by_cases g : i = p
          · rw [g, e1]; rfl
          · exact hI i (by omega)
        · unfold f_X9_thinLines_L2
          rw [i12, le_n hp (by omega), nm_v, i1, nI_add]
          exact e2.trans hr
      · refine Or.inr (Or.inr ⟨p, q, fi_s.mpr ⟨hp, by rw [e1]; rfl, hI⟩, e1, ?_⟩)
        show f_X9_thinLines_L2 (k + 1) σ (nI p) = _
        unfold f_X9_thinLines_L2
        rw [i12, le_n hp (by omega), nm_v, i1, nI_add]
        exact e2
    · intro k _ hI
      refine Or.inl ⟨fi_n.mpr hI, ?_⟩
      show f_X9_thinLines_L2 (k + 1) σ (nI 12) = _
      unfold f_X9_thinLines_L2
      rw [i12, le_y (Nat.le_refl 12) (by omega)]
  constructor
  · intro h
    rcases key with ⟨-, k⟩ | ⟨p, q, a, -⟩
    · exact k
    · rw [h] at a; cases a
  · intro p q hp hq
    rcases key with ⟨a, -⟩ | ⟨p', q', a, b, c⟩
    · rw [hp] at a; cases a
    · rw [hp] at a
      have : p = p' := Option.some.inj a
      subst this
      rw [hq] at b
      have : q = q' := Option.some.inj b
      subst this
      obtain ⟨p12, -, -⟩ := fi_s.mp hp
      obtain ⟨q12, h2, -⟩ := fi_s.mp hq
      unfold c3 at h2
      rw [Bool.and_eq_true, decide_eq_true_iff, decide_eq_true_iff] at h2
      obtain ⟨t1, t2⟩ := hw.2.2.2.2.2.1 p q (by omega)
      obtain ⟨σ1, e1, e2, e3⟩ := setLines_at hn hw.2.2.2.2.1 hw.h4096 (by have := hw.2.2.2.2.2.2.1; omega) p12 q12 (m := 2) (by omega) t1 t2
      exact ⟨σ1, by rw [c, i2, e1, ob_s], e2, e3⟩
