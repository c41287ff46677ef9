/-! SHRINKING: a step, all steps -/
theorem before_r {σ : GM} {A : AbS} (h : MI σ A) (hw : wf A.N) : ∃ σ1, f_X12_copy σ 62 66 (0 : Int32) (0 : Int32) = some σ1 ∧ MI σ1 A ∧ rfAt σ1 66 0 A.N ∧ fr σ σ1 66 67 := by
  obtain ⟨σ1, a1, a2, a3, a4⟩ := copy_at (σ := σ) (qa := 62) (qb := 66) (o := 0) (o' := 0) (za := 159) (zb := 159) (by decide) rfl rfl (by omega) (by omega) (by decide) (by decide)
  exact ⟨σ1, a1, h.km ⟨fun m hm => (a4 m (by omega)).1, fun i _ => by rw [(a4 60 (by omega)).1], by rw [(a4 71 (by omega)).1]⟩, h.1.row hw.1 a2, a4⟩
theorem stay_r {σ1 σ2 : GM} {A : AbS} {N' : NT} (h : MI σ1 A) (hp : pastR σ2 A.L A.P) (hw : wf A.N) (hw' : wf N') (hb : rfAt σ2 66 0 A.N) (hr : rfAt σ2 62 0 N') (hk : keepC σ1 σ2) :
    ∃ σ3, f_X12_stay σ2 = some σ3 ∧ MI σ3 (A.act N') ∧ fr σ2 σ3 60 75 := by
  obtain ⟨σ3, r1, r2, r3, r4⟩ := stay_at hp hr hb hw'.1 hw.1
  exact ⟨σ3, r1, h.act r2 r3 (hk.tr (keepC.y r4)), r4.fr⟩
theorem shrink_ag {σ : GM} {A : AbS} (hC : CI σ A) (hM : MI σ A) : ∃ A', agI σ A' f_X11_shrink f_X12_shrink := by
  obtain ⟨⟨⟨hn, hw⟩, -⟩, -⟩ := id hC
  obtain ⟨σ1, lt, n1, n2, n3, n4⟩ := note_c hC
  have hn1 := n2.1.1.1
  obtain ⟨c1, c2⟩ := stepC_at hn1 hw
  cases e : stepF A.N with
  | none =>
    refine ⟨A, agI_q hM ⟨σ1, -1, ?_, n2, n4.wide (by omega) (by omega), fun τ hτ => ?_⟩⟩
    · unfold f_X11_shrink
      rw [n1, ob_s, c1 e, ob2_s, if_pos rfl]
    · obtain ⟨τ1, b1, b2, b3, b4⟩ := before_r (hτ.th (v := 0)) hw
      obtain ⟨d1, d2⟩ := stepR_at b2.1 hw
      refine ⟨τ1, ?_, b2, fr_th.trans (b4.wide (by omega) (by omega))⟩
      unfold f_X12_shrink
      rw [nm_v, b1, ob_s, d1 e, ob2_s, if_pos rfl]
  | some x =>
    obtain ⟨N', c⟩ := x
    obtain ⟨hw', hc⟩ := stepF_wf hw e
    obtain ⟨σ2, r1, r2, r3⟩ := c2 N' c e
    obtain ⟨σ3, k1, k2, k3⟩ := act_c n2 n3 r2 hw' r3
    refine ⟨A.act N', agI_q hM ⟨σ3, nI c, ?_, k2, (n4.wide (by omega) (by omega)).trans k3, fun τ hτ => ?_⟩⟩
    · unfold f_X11_shrink
      rw [n1, ob_s, r1, ob2_s, if_neg (m1_ne (by omega)), k1, ob_s]
    · obtain ⟨τ1, b1, b2, b3, b4⟩ := before_r (hτ.th (v := 0)) hw
      obtain ⟨d1, d2⟩ := stepR_at b2.1 hw
      obtain ⟨τ2, t1, t2, t3⟩ := d2 N' c e
      obtain ⟨τ3, s1, s2, s3⟩ := stay_r b2 (b2.2.1.keep t3 (by omega)) hw hw' (b3.keep t3 (by omega)) t2 (keepC.f t3 (Or.inl rfl))
      refine ⟨τ3, ?_, s2, ((fr_th.trans (b4.wide (by omega) (by omega))).trans (t3.wide (by omega) (by omega))).trans s3⟩
      unfold f_X12_shrink
      rw [nm_v, b1, ob_s, t1, ob2_s, if_neg (m1_ne (by omega)), s1, ob_s]
/-! how many steps there can be -/
def mz (N : NT) : Nat := pc N.here 12 + lcB N.bt
theorem rem_le {N : NT} {p i j : Nat} : (N.rem p).bt i j ≤ N.bt i j := by
  show (if i = p ∨ j = p then 0 else N.bt i j) ≤ _
  split <;> omega
theorem rem_mz {N : NT} (hw : wf N) {p : Nat} (ht : N.here.testBit p = true) : pc (N.rem p).here 12 + 1 = pc N.here 12 ∧ lcB (N.rem p).bt ≤ lcB N.bt := ⟨(pc_tip hw.h4096 ht).symm, lcB_mono (fun i j => rem_le)⟩
theorem stepF_mz {N N' : NT} {c : Nat} (hw : wf N) (h : stepF N = some (N', c)) : mz N' < mz N := by
  unfold stepF at h
  cases e1 : fi (c1 N) 12 with
  | some p =>
    rw [e1] at h
    obtain ⟨rfl, rfl⟩ := Prod.mk.inj (Option.some.inj h)
    have h2 := (fi_s.mp e1).2.1
    unfold c1 at h2
    rw [Bool.and_eq_true] at h2
    have := rem_mz hw h2.1
    show pc (N.rem p).here 12 + lcB (N.rem p).bt < mz N
    unfold mz
    omega
  | none =>
    rw [e1] at h
    cases e2 : fi (c2 N) 12 with
    | some p =>
      rw [e2] at h
      obtain ⟨rfl, rfl⟩ := Prod.mk.inj (Option.some.inj h)
      have h2 := (fi_s.mp e2).2.1
      unfold c2 at h2
      rw [Bool.and_eq_true] at h2
      have := rem_mz hw h2.1
      unfold mz
      omega
    | none =>
      rw [e2] at h
      cases e3 : fi (c3s N) 12 with
      | some p =>
        obtain ⟨q, hq⟩ := c3s_q e3
        rw [e3] at h
        have h : (match fi (c3 N p) 12 with | some q => some (N.setL p q 2, 32 + p) | none => none) = some (N', c) := h
        rw [hq] at h
        obtain ⟨rfl, rfl⟩ := Prod.mk.inj (Option.some.inj h)
        have hp := (fi_s.mp e3).1
        obtain ⟨q12, h2, -⟩ := fi_s.mp hq
        unfold c3 at h2
        rw [Bool.and_eq_true, decide_eq_true_iff, decide_eq_true_iff] at h2
        have hl := lcB_set 2 hp q12 hw.2.2.2.2.1
        show pc N.here 12 + lcB (setB N.bt p q 2) < mz N
        unfold mz
        omega
      | none =>
        rw [e3] at h
        cases e4 : fi (c4 N) 12 with
        | some p =>
          rw [e4] at h
          obtain ⟨rfl, rfl⟩ := Prod.mk.inj (Option.some.inj h)
          obtain ⟨hp, h2, -⟩ := fi_s.mp e4
          unfold c4 at h2
          rw [Bool.and_eq_true, Bool.and_eq_true, decide_eq_true_iff] at h2
          have hpp := c1_none hw e1 p hp
          obtain ⟨-, n1, n2, -, -, n5, -⟩ := nb_of hpp h2.2.1
          have hr := rem_mz hw h2.1
          have hwr := rem_wf hw hp
          have hl := lcB_set ((N.rem p).bt (nb1 N p) (nb2 N p) + 1) n1 n2 hwr.2.2.2.2.1
          have hl2 := lcB_set 0 hp n1 hw.2.2.2.2.1
          have hm : lcB (N.rem p).bt ≤ lcB (setB N.bt p (nb1 N p) 0) := lcB_mono (fun i j => by
            show (if i = p ∨ j = p then 0 else N.bt i j) ≤ setB N.bt p (nb1 N p) 0 i j
            unfold setB
            split
            · exact Nat.zero_le _
            · rw [if_neg (by omega)]; exact Nat.le_refl _)
          show pc (N.rem p).here 12 + lcB (setB (N.rem p).bt (nb1 N p) (nb2 N p) ((N.rem p).bt (nb1 N p) (nb2 N p) + 1)) < mz N
          unfold mz
          omega
        | none => rw [e4] at h; cases h
/-- all steps -/
def stS (r : Option (NT × Nat)) (N : NT) (f : NT → NT × Nat) : NT × Nat := match r with
  | none => (N, 0)
  | some x => ((f x.1).1, (f x.1).2 + 1)
def stepsF : Nat → NT → NT × Nat
  | 0 => fun N => (N, 0)
  | k + 1 => fun N => stS (stepF N) N (stepsF k)
theorem stepsF_e (k : Nat) : stepsF (k + 1) = fun N => stS (stepF N) N (stepsF k) := by rw [stepsF]
theorem stepsF_n {k : Nat} {N : NT} (h : stepF N = none) : stepsF (k + 1) N = (N, 0) := by
  rw [stepsF_e]
  show stS (stepF N) N (stepsF k) = _
  rw [h]; rfl
theorem stepsF_s {k : Nat} {N : NT} {x : NT × Nat} (h : stepF N = some x) : stepsF (k + 1) N = ((stepsF k x.1).1, (stepsF k x.1).2 + 1) := by
  rw [stepsF_e]
  show stS (stepF N) N (stepsF k) = _
  rw [h]; rfl
theorem stepsC_L : ∀ (m k j : Nat) (σ : GM) (N : NT), mz N < m → m < k → j + m < 1000 → netAt σ 8 N → wf N →
    ∃ σ', f_X11_shrinkAll_L15 k σ (nI j) (nI j) = f_X11_shrinkAll_L42 σ' (nI (j + (stepsF m N).2)) ∧ netAt σ' 8 (stepsF m N).1 ∧ wf (stepsF m N).1 ∧ fr σ σ' 8 11 := by
  intro m
  induction m with
  | zero => intro k j σ N h; omega
  | succ m ih =>
    intro k j σ N hm hk hj hn hw
    obtain ⟨k, rfl⟩ : ∃ k', k = k' + 1 := ⟨k - 1, by omega⟩
    obtain ⟨c1, c2⟩ := stepC_at hn hw
    cases e : stepF N with
    | none =>
      rw [stepsF_n e]
      refine ⟨σ, ?_, hn, hw, fr.rf _ _ _⟩
      unfold f_X11_shrinkAll_L15
      rw [show (1000 : Int32) = nI 1000 from rfl, le_n (by omega) (by omega), c1 e, ob2_s, if_pos rfl]
      rfl
    | some x =>
      obtain ⟨N', c⟩ := x
      obtain ⟨hw', hc⟩ := stepF_wf hw e
      have hz := stepF_mz hw e
      obtain ⟨σ2, r1, r2, r3⟩ := c2 N' c e
      obtain ⟨σ3, s1, s2, s3, s4⟩ := ih k (j + 1) σ2 N' (by omega) (by omega) (by omega) r2 hw'
      rw [stepsF_s e]
      refine ⟨σ3, ?_, s2, s3, r3.trans s4⟩
      conv => lhs; unfold f_X11_shrinkAll_L15
      rw [show (1000 : Int32) = nI 1000 from rfl, le_n (by omega) (by omega), r1, ob2_s, if_neg (m1_ne (by omega)), i1, nI_add, nm_v, nm_v, s1]
      congr 2
      show j + 1 + (stepsF m N').2 = j + ((stepsF m N').2 + 1)
      omega
theorem stepsR_L : ∀ (m k j : Nat) (σ : GM) (N : NT), mz N < m → m < k → rfAt σ 62 0 N → wf N →
    ∃ σ', f_X12_shrinkAll_L20 k σ (nI j) = f_X12_shrinkAll_L34 σ' (nI (j + (stepsF m N).2)) ∧ rfAt σ' 62 0 (stepsF m N).1 ∧ fr σ σ' 62 63 := by
  intro m
  induction m with
  | zero => intro k j σ N h; omega
  | succ m ih =>
    intro k j σ N hm hk hn hw
    obtain ⟨k, rfl⟩ : ∃ k', k = k' + 1 := ⟨k - 1, by omega⟩
    obtain ⟨c1, c2⟩ := stepR_at hn hw
    cases e : stepF N with
    | none =>
      rw [stepsF_n e]
      refine ⟨σ, ?_, hn, fr.rf _ _ _⟩
      unfold f_X12_shrinkAll_L20
      rw [c1 e, ob2_s, if_pos rfl]
      rfl
    | some x =>
      obtain ⟨N', c⟩ := x
      obtain ⟨hw', hc⟩ := stepF_wf hw e
      have hz := stepF_mz hw e
      obtain ⟨σ2, r1, r2, r3⟩ := c2 N' c e
      obtain ⟨σ3, s1, s2, s4⟩ := ih k (j + 1) σ2 N' (by omega) (by omega) r2 hw'
      rw [stepsF_s e]
      refine ⟨σ3, ?_, s2, r3.trans s4⟩
      conv => lhs; unfold f_X12_shrinkAll_L20
      rw [r1, ob2_s, if_neg (m1_ne (by omega)), i1, nI_add, nm_v, s1]
      congr 2
      show j + 1 + (stepsF m N').2 = j + ((stepsF m N').2 + 1)
      omega
theorem mz_lt {N : NT} (hw : wf N) : mz N < 40 := by
  have h1 := pc_le N.here 12
  have h2 := hw.2.2.2.2.2.2.1
  unfold mz
  omega
theorem stepsF_le : ∀ (k : Nat) (N : NT), (stepsF k N).2 ≤ k := by
  intro k
  induction k with
  | zero => intro N; exact Nat.le_refl _
  | succ k ih =>
    intro N
    cases e : stepF N with
    | none => rw [stepsF_n e]; exact Nat.zero_le _
    | some x =>
      rw [stepsF_s e]
      have := ih x.1
      show (stepsF k x.1).2 + 1 ≤ k + 1
      omega
theorem shrinkAll_ag {σ : GM} {A : AbS} (hC : CI σ A) (hM : MI σ A) : ∃ A', agI σ A' f_X11_shrinkAll f_X12_shrinkAll := by
  obtain ⟨⟨⟨hn, hw⟩, -⟩, -⟩ := id hC
  obtain ⟨σ1, lt, n1, n2, n3, n4⟩ := note_c hC
  have hn1 := n2.1.1.1
  cases e : stepF A.N with
  | none =>
    refine ⟨A, agI_q hM ⟨σ1, 0, ?_, n2, n4.wide (by omega) (by omega), fun τ hτ => ?_⟩⟩
    · obtain ⟨c1, c2⟩ := stepC_at hn1 hw
      unfold f_X11_shrinkAll
      rw [n1, ob_s]
      show f_X11_shrinkAll_L15 (4999 + 1) σ1 0 0 = _
      unfold f_X11_shrinkAll_L15
      rw [if_neg (by decide), c1 e, ob2_s, if_pos rfl]
      rfl
    · obtain ⟨τ1, b1, b2, b3, b4⟩ := before_r (hτ.th (v := 0)) hw
      obtain ⟨d1, d2⟩ := stepR_at b2.1 hw
      refine ⟨τ1, ?_, b2, fr_th.trans (b4.wide (by omega) (by omega))⟩
      unfold f_X12_shrinkAll
      rw [nm_v, b1, ob_s]
      show f_X12_shrinkAll_L20 (4999 + 1) τ1 0 = _
      unfold f_X12_shrinkAll_L20
      rw [d1 e, ob2_s, if_pos rfl]
      rfl
  | some x =>
    have hpos : 0 < (stepsF 40 A.N).2 := by
      rw [stepsF_s (k := 39) e]
      exact Nat.succ_pos _
    have hle := stepsF_le 40 A.N
    obtain ⟨σ2, r1, r2, hw', r3⟩ := stepsC_L 40 5000 0 σ1 A.N (mz_lt hw) (by omega) (by omega) hn1 hw
    obtain ⟨σ3, k1, k2, k3⟩ := act_c n2 n3 r2 hw' r3
    rw [Nat.zero_add] at r1
    refine ⟨A.act (stepsF 40 A.N).1, agI_q hM ⟨σ3, nI (stepsF 40 A.N).2, ?_, k2, (n4.wide (by omega) (by omega)).trans k3, fun τ hτ => ?_⟩⟩
    · unfold f_X11_shrinkAll
      rw [n1, ob_s]
      show f_X11_shrinkAll_L15 5000 σ1 (nI 0) (nI 0) = _
      rw [r1]
      unfold f_X11_shrinkAll_L42
      rw [i0, le_n hpos (by omega), k1, ob_s]
    · obtain ⟨τ1, b1, b2, b3, b4⟩ := before_r (hτ.th (v := 0)) hw
      obtain ⟨τ2, t1, t2, t3⟩ := stepsR_L 40 5000 0 τ1 A.N (mz_lt hw) (by omega) b2.1 hw
      rw [Nat.zero_add] at t1
      obtain ⟨τ3, s1, s2, s3⟩ := stay_r b2 (b2.2.1.keep t3 (by omega)) hw hw' (b3.keep t3 (by omega)) t2 (keepC.f t3 (Or.inl rfl))
      refine ⟨τ3, ?_, s2, ((fr_th.trans (b4.wide (by omega) (by omega))).trans (t3.wide (by omega) (by omega))).trans s3⟩
      unfold f_X12_shrinkAll
      rw [nm_v, b1, ob_s]
      show f_X12_shrinkAll_L20 5000 τ1 (nI 0) = _
      rw [t1]
      unfold f_X12_shrinkAll_L34
      rw [i0, le_n hpos (by omega), s1, ob_s]
