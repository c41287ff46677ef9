/-! SHRINKING: a point passed by -/
theorem nb_facts {B : Nat → Nat → Nat} {p a b : Nat} (hpp : B p p = 0) (hd : dgB B p = 2) (ha : a = lo (bsB B p 1)) (hb : b = if dif (bsB B p 1) (2 ^ a) = 0 then a else lo (dif (bsB B p 1) (2 ^ a))) :
    bsB B p 1 ≠ 0 ∧ a < 12 ∧ b < 12 ∧ a ≠ p ∧ b ≠ p ∧ B p a ≠ 0 ∧ B p b ≠ 0 ∧ (∀ q, q < 12 → B p q ≠ 0 → q = a ∨ q = b) ∧ a ≤ b ∧ (a = b → B p a = 2) ∧ (dif (bsB B p 1) (2 ^ a) = 0 ↔ a = b) := by
  have hX4 := bsB_lt (B := B) (p := p) (m := 1)
  have hsum : sm (fun j => B p j) 12 = 2 := by unfold dgB at hd; omega
  have hX0 : bsB B p 1 ≠ 0 := by
    intro e
    have : sm (fun j => B p j) 12 = 0 := sm_zero _ (fun i hi => by
      refine Classical.byContradiction (fun hn => ?_)
      have hip : i ≠ p := by rintro rfl; exact hn hpp
      have : (bsB B p 1).testBit i = true := bsB_t.mpr ⟨hi, hip, by omega⟩
      rw [e, Nat.zero_testBit] at this; cases this)
    omega
  obtain ⟨l1, l2, l3⟩ := lo_all _ hX4 hX0
  rw [← ha] at l1 l2 l3
  obtain ⟨-, a2, a3⟩ := bsB_t.mp l2
  have hY4 : dif (bsB B p 1) (2 ^ a) < 4096 := dif_lt (n := 12) hX4
  have hmem : ∀ q, q < 12 → B p q ≠ 0 → (bsB B p 1).testBit q = true := fun q hq hn => bsB_t.mpr ⟨hq, by rintro rfl; exact hn hpp, by omega⟩
  by_cases e : dif (bsB B p 1) (2 ^ a) = 0
  · rw [if_pos e] at hb
    subst hb
    have hall : ∀ q, q < 12 → B p q ≠ 0 → q = b := fun q hq hn => (tb_two.mp ((sub_dif (b32 hX4)).mp e q (hmem q hq hn))).symm
    have h2 : B p b = 2 := by
      rw [← hsum, sm_one (k := b) 12 l1 (fun i hi hne => Classical.byContradiction (fun hn => hne (hall i hi hn)))]
    exact ⟨hX0, l1, l1, a2, a2, by omega, by omega, fun q hq hn => Or.inl (hall q hq hn), Nat.le_refl _, fun _ => h2, ⟨fun _ => rfl, fun _ => e⟩⟩
  · rw [if_neg e] at hb
    obtain ⟨m1, m2, m3⟩ := lo_all _ hY4 e
    rw [← hb] at m1 m2 m3
    obtain ⟨m4, m5⟩ := (tb_dif1 hX4).mp m2
    obtain ⟨-, b2, b3⟩ := bsB_t.mp m4
    have hab : a < b := by
      rcases Nat.lt_trichotomy a b with c | c | c
      · exact c
      · exact absurd c.symm m5
      · have := l3 b c; rw [m4] at this; cases this
    have hge : ∀ q, q < 12 → q ≠ a → q ≠ b → B p q = 0 := by
      intro q hq h1 h2
      refine Classical.byContradiction (fun hn => ?_)
      have k1 := sm_upd (f := fun j => B p j) (g := fun j => if j = a then 0 else B p j) l1 (fun i _ hne => (if_neg hne).symm)
      have k2 := sm_upd (f := fun j => if j = a then 0 else B p j) (g := fun j => if j = a ∨ j = b then 0 else B p j) m1 (fun i _ hne => by
        by_cases z : i = a
        · rw [if_pos z, if_pos (Or.inl z)]
        · rw [if_neg z, if_neg (by omega)])
      have k3 := sm_ge (f := fun j => if j = a ∨ j = b then 0 else B p j) (k := q) 12 hq
      simp only [if_true, true_or, or_true] at k1 k2
      rw [if_neg m5] at k2
      have k3 : (if q = a ∨ q = b then 0 else B p q) ≤ _ := k3
      rw [if_neg (by omega)] at k3
      omega
    exact ⟨hX0, l1, m1, a2, b2, by omega, by omega, fun q hq hn => by
      by_cases z : q = a
      · exact Or.inl z
      · by_cases y : q = b
        · exact Or.inr y
        · exact absurd (hge q hq z y) hn, by omega, fun z => by omega, ⟨fun z => absurd z e, fun z => by omega⟩⟩
theorem nb_of {N : NT} {p : Nat} (hpp : N.bt p p = 0) (hd : dgB N.bt p = 2) : bsB N.bt p 1 ≠ 0 ∧ nb1 N p < 12 ∧ nb2 N p < 12 ∧ nb1 N p ≠ p ∧ nb2 N p ≠ p ∧ N.bt p (nb1 N p) ≠ 0 ∧ N.bt p (nb2 N p) ≠ 0 ∧ (∀ q, q < 12 → N.bt p q ≠ 0 → q = nb1 N p ∨ q = nb2 N p) ∧ nb1 N p ≤ nb2 N p ∧ (nb1 N p = nb2 N p → N.bt p (nb1 N p) = 2) ∧ (dif (bsB N.bt p 1) (2 ^ nb1 N p) = 0 ↔ nb1 N p = nb2 N p) := nb_facts hpp hd rfl rfl
/-- the net after p is passed by -/
def NT.pass (N : NT) (p : Nat) : NT := (N.rem p).setL (nb1 N p) (nb2 N p) ((N.rem p).bt (nb1 N p) (nb2 N p) + 1)
theorem pass_can {N : NT} (hw : wf N) {p : Nat} (hp : p < 12) (hpp : N.bt p p = 0) (hd : dgB N.bt p = 2) : canJ (N.rem p) (nb1 N p) (nb2 N p) = true ∧ (N.rem p).here.testBit (nb1 N p) = true ∧ (N.rem p).here.testBit (nb2 N p) = true := by
  obtain ⟨f0, f1, f2, f3, f4, f5, f6, f7, f8, f9, -⟩ := nb_of hpp hd
  have hy := hw.2.2.2.2.1
  have hle : ∀ x, x < 12 → ∀ i j, (N.rem p).bt i j ≤ setB N.bt p x 0 i j := by
    intro x hx i j
    show (if i = p ∨ j = p then 0 else N.bt i j) ≤ setB N.bt p x 0 i j
    by_cases c : i = p ∨ j = p
    · rw [if_pos c]; exact Nat.zero_le _
    · rw [if_neg c]; unfold setB; rw [if_neg (by omega)]; exact Nat.le_refl _
  have hl := lcB_set (B := N.bt) 0 hp f1 hy
  have hl2 := lcB_mono (hle _ f1)
  have hlc := hw.2.2.2.2.2.2.1
  have hdeg : ∀ x, x < 12 → x ≠ p → N.bt p x ≤ dgB N.bt x ∧ dgB (N.rem p).bt x + N.bt p x ≤ dgB N.bt x := by
    intro x hx hne
    have h1 := dgB_mono (hle x hx) x
    have h2 := dgB_set1 (B := N.bt) (a := x) (b := p) 0 hp hne
    rw [setB_swap, hy x p] at h2
    omega
  have ha := hdeg _ f1 f3
  have hb := hdeg _ f2 f4
  have h6a := hw.2.2.2.2.2.2.2 _ f1
  have h6b := hw.2.2.2.2.2.2.2 _ f2
  have hth : ∀ x, x ≠ p → N.bt p x ≠ 0 → (N.rem p).here.testBit x = true := fun x hx hn => (tb_dif1 hw.h4096).mpr ⟨(hw.2.2.2.2.2.1 p x hn).2, hx⟩
  refine ⟨decide_eq_true ⟨by omega, ?_, ?_⟩, hth _ f3 f5, hth _ f4 f6⟩
  · split
    · rename_i e; have := f9 e; omega
    · omega
  · split
    · rename_i e; have := f9 e; rw [e] at this; omega
    · omega
theorem pass_wf {N : NT} (hw : wf N) {p : Nat} (hp : p < 12) (hpp : N.bt p p = 0) (hd : dgB N.bt p = 2) : wf (N.pass p) := by
  obtain ⟨h1, h2, h3⟩ := pass_can hw hp hpp hd
  obtain ⟨f0, f1, f2, -⟩ := nb_of hpp hd
  exact canJ_wf (rem_wf hw hp) f1 f2 h2 h3 h1
theorem passBy_at {σ : GM} {N : NT} (hn : netAt σ 8 N) (hw : wf N) (hl : ∀ i, i < 12 → N.bt i i = 0) : (fi (c4 N) 12 = none → f_X9_passBy σ = some (σ, -1)) ∧ (∀ p, fi (c4 N) 12 = some p → ∃ σ', f_X9_passBy σ = some (σ', nI p) ∧ netAt σ' 8 (N.pass p) ∧ fr σ σ' 8 11) := by
  have hP := hn.2.2.2.2.2
  have key : (fi (c4 N) 12 = none ∧ f_X9_passBy σ = some (σ, -1)) ∨ ∃ p, fi (c4 N) 12 = some p ∧ f_X9_passBy σ = f_X9_passBy_L82 σ (nI p) (nI (nb1 N p)) (nI (nb2 N p)) := by
    unfold f_X9_passBy
    refine lq5 12 (by omega) (fun k (_ : Unit) i => f_X9_passBy_L2 k σ i) (fun q _ => ∀ i, i < q → c4 N i = false) (fun z => (fi (c4 N) 12 = none ∧ z = some (σ, -1)) ∨ ∃ p, fi (c4 N) 12 = some p ∧ z = f_X9_passBy_L82 σ (nI p) (nI (nb1 N p)) (nI (nb2 N p))) () (fun i hi => absurd hi (by omega)) ?_ ?_
    · intro k q _ hq hp
      have hdq := hw.2.2.2.2.2.2.2 q hq
      have nxt : c4 N q = false → ∀ i, i < q + 1 → c4 N i = false := fun e i hi => by
        by_cases g : i = q
        · rw [g]; exact e
        · exact hp i (by omega)
      cases ht : N.here.testBit q with
      | false =>
        refine Or.inl ⟨(), nxt (by unfold c4; rw [ht]; rfl), fun r hr => ?_⟩
        unfold f_X9_passBy_L2
        rw [i12, le_n hq (by omega), isThere_at hn.2.1 hw.h4096 hq, ob_s, bz_y ht, nm_v, i1, nI_add]
        exact hr
      | true =>
        by_cases e : dgB N.bt q = 2
        · obtain ⟨f0, f1, f2, f3, f4, f5, f6, f7, f8, f9, f10⟩ := nb_of (hl q hq) e
          have hX4 := bsB_lt (B := N.bt) (p := q) (m := 1)
          have hwt : ∀ x, N.here.testBit x = true → σ.1 9 x = nI (N.wt x) ∧ N.wt x ≤ 9 := fun x hx => ⟨hn.2.2.2.2.1 x (here_told hw hx), (hw.2.2.2.1 x (here_told hw hx)).2⟩
          have h1 := hwt _ (hw.2.2.2.2.2.1 q _ f5).2
          have h2 := hwt _ (hw.2.2.2.2.2.1 q _ f6).2
          have h3 := hwt q ht
          have hgo : ∀ r, (∀ k2 : GM → Int32 → Option (GM × Int32), (k2 = fun σ' v1' => f_X9_passBy_L2 k σ' v1') → f_X9_passBy_L60 k2 σ (nI q) (nI (nb1 N q)) (nI (nb2 N q)) = r) → f_X9_passBy_L2 (k + 1) σ (nI q) = r := by
            intro r h
            unfold f_X9_passBy_L2
            rw [i12, le_n hq (by omega), isThere_at hn.2.1 hw.h4096 hq, ob_s, bz_n ht, hn.2.1, endsIn_here hn hw hq, ob_s, i2, eq_y e, i1, besides_at hP hw.b20 hq (by omega), ob_s, lowest_at hX4 f0, ob_s, ← i1, nI_low hX4 f0]
            by_cases c : dif (bsB N.bt q 1) (2 ^ nb1 N q) = 0
            · have e2 : nb2 N q = nb1 N q := (f10.mp c).symm
              have hlow : f_X8_lowest σ (nI (dif (bsB N.bt q 1) (2 ^ lo (bsB N.bt q 1)))) = some (-1) := by
                rw [show dif (bsB N.bt q 1) (2 ^ lo (bsB N.bt q 1)) = 0 from c]; rfl
              rw [hlow, ob_s, if_pos rfl]
              have := h _ rfl
              rw [e2] at this
              exact this
            · have hb : nb2 N q = lo (dif (bsB N.bt q 1) (2 ^ nb1 N q)) := if_neg c
              have hlow : f_X8_lowest σ (nI (dif (bsB N.bt q 1) (2 ^ lo (bsB N.bt q 1)))) = some (nI (nb2 N q)) := by
                rw [hb]; exact lowest_at (dif_lt (n := 12) hX4) c
              rw [hlow, ob_s, if_neg (m1_ne (by omega))]
              exact h _ rfl
          have hmin : (if nI (N.wt (nb2 N q)) < nI (N.wt (nb1 N q)) then nI (N.wt (nb2 N q)) else nI (N.wt (nb1 N q))) = nI (min (N.wt (nb1 N q)) (N.wt (nb2 N q))) := by
            by_cases c : N.wt (nb2 N q) < N.wt (nb1 N q)
            · rw [lt_y c (by omega), Nat.min_eq_right (by omega)]
            · rw [lt_n (by omega) (by omega), Nat.min_eq_left (by omega)]
          by_cases c : N.wt (nb1 N q) ≤ N.wt q ∨ N.wt (nb2 N q) ≤ N.wt q
          · refine Or.inr (Or.inr ⟨q, fi_s.mpr ⟨hq, by unfold c4; rw [ht, decide_eq_true e, decide_eq_true c]; rfl, hp⟩, ?_⟩)
            refine hgo _ (fun k2 hk2 => ?_)
            unfold f_X9_passBy_L60
            rw [weightOf_at hq, ob_s, weightOf_at f1, ob_s, weightOf_at f2, ob_s, h1.1, h2.1, h3.1, hmin, lt_n (by omega) (by omega)]
          · refine Or.inl ⟨(), nxt (by unfold c4; rw [ht, decide_eq_false c, Bool.and_false]; rfl), fun r hr => hgo r (fun k2 hk2 => ?_)⟩
            subst hk2
            unfold f_X9_passBy_L60
            rw [weightOf_at hq, ob_s, weightOf_at f1, ob_s, weightOf_at f2, ob_s, h1.1, h2.1, h3.1, hmin, lt_y (by omega) (by omega), nm_v, i1, nI_add]
            exact hr
        · refine Or.inl ⟨(), nxt (by unfold c4; rw [ht, decide_eq_false e]; rfl), fun r hr => ?_⟩
          unfold f_X9_passBy_L2
          rw [i12, le_n hq (by omega), isThere_at hn.2.1 hw.h4096 hq, ob_s, bz_n ht, hn.2.1, endsIn_here hn hw hq, ob_s, i2, eq_n e (by omega) (by omega), nm_v, i1, nI_add]
          exact hr
    · intro k _ hp
      refine Or.inl ⟨fi_n.mpr hp, ?_⟩
      show f_X9_passBy_L2 (k + 1) σ (nI 12) = _
      unfold f_X9_passBy_L2
      rw [i12, le_y (Nat.le_refl 12) (by omega)]
  constructor
  · intro h
    rcases key with ⟨-, k⟩ | ⟨p, a, -⟩
    · exact k
    · rw [h] at a; cases a
  · intro p hp
    rcases key with ⟨a, -⟩ | ⟨p', a, b⟩
    · rw [hp] at a; cases a
    · rw [hp] at a
      have : p = p' := Option.some.inj a
      subst this
      obtain ⟨h1, h2, -⟩ := fi_s.mp hp
      unfold c4 at h2
      rw [Bool.and_eq_true, Bool.and_eq_true, decide_eq_true_iff] at h2
      obtain ⟨k1, k2, k3⟩ := pass_can hw h1 (hl p h1) h2.2.1
      obtain ⟨f0, f1, f2, -⟩ := nb_of (hl p h1) h2.2.1
      obtain ⟨σ1, e1, e2, e3⟩ := remove_at hn hw h1 h2.1
      obtain ⟨σ2, g1, g2, g3⟩ := (addLine_at e2 (rem_wf hw h1) f1 f2 k2 k3).1 k1
      refine ⟨σ2, ?_, g2, e3.trans g3⟩
      rw [b]
      unfold f_X9_passBy_L82
      rw [e1, ob2_s, g1, ob2_s]
