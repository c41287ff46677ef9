/-! ACTS: what is done to the net, and can be undone -/
def AbS.act (A : AbS) (N' : NT) : AbS := (N', (min (A.L + 1) 8, fun k => if k = 0 then A.N else A.P (k - 1)), A.2.2)
/-- what the class has noted -/
def notedC (σ : GM) (A : AbS) (lt : Nat) : Prop := pastAt σ A.L A.P lt ∧ netAt σ (13 + 3 * ((lt + 1) % 9)) A.N
theorem notedC.keep {σ σ' : GM} {A : AbS} {lt a b : Nat} (h : notedC σ A lt) (hf : fr σ σ' a b) (hn : 40 ≤ a ∨ b ≤ 11) : notedC σ' A lt := ⟨h.1.keep hf hn, h.2.keep hf (by omega)⟩
theorem cCache.keep {σ σ' : GM} {N : NT} {a b : Nat} (h : cCache σ N) (hf : fr σ σ' a b) (h0 : 1 ≤ a) (h1 : b ≤ 49) : cCache σ' N := by
  obtain ⟨h2, h3, h4⟩ := h
  have e := (hf 0 (by omega)).1
  refine ⟨?_, ?_, ?_⟩
  · rw [e]; exact h2.imp id (fun x => ⟨x.1, x.2.keep hf (by omega)⟩)
  · rw [e]; exact h3.imp id (fun x => ⟨x.1, x.2.1, x.2.2.keep hf (by omega)⟩)
  · rw [e]; exact h4.imp id (fun x => ⟨x.1, x.2.keep hf (by omega)⟩)
theorem note_c {σ : GM} {A : AbS} (h : CI σ A) : ∃ σ1 lt, f_X5_note σ = some σ1 ∧ CI σ1 A ∧ notedC σ1 A lt ∧ fr σ σ1 13 40 := by
  obtain ⟨⟨⟨hn, hw⟩, ⟨⟨lt, hp⟩, hpw⟩, hk, ht, hf⟩, hc⟩ := h
  obtain ⟨σ1, r1, r2, r3, r4⟩ := note_at hp hn hw.1
  exact ⟨σ1, lt, r1, ⟨⟨⟨hn.keep r4 (by omega), hw⟩, ⟨⟨lt, r2⟩, hpw⟩, hk.keep r4 (by omega), ht.keep r4 (by omega), by rw [(r4 0 (by omega)).1]; exact hf⟩, hc.keep r4 (by omega) (by omega)⟩, ⟨r2, r3⟩, r4⟩
theorem marked_at (σ : GM) : ∃ σ', f_X11_markChanged σ = some σ' ∧ (∀ N, cCache σ' N) ∧ fr σ σ' 0 1 ∧ σ'.1 0 10 = σ.1 0 10 := by
  refine ⟨wI (wI (wI σ 0 11 1) 0 12 1) 0 13 1, ?_, fun N => ⟨Or.inl ?_, Or.inl ?_, Or.inl ?_⟩, (fr_w0.trans fr_w0).trans fr_w0, ?_⟩
  · unfold f_X11_markChanged
    rw [nm_v, nm_v, nm_v]
  · rw [wI_1, if_neg (by omega), wI_1, if_neg (by omega), wI_1, if_pos ⟨rfl, rfl⟩]
  · rw [wI_1, if_neg (by omega), wI_1, if_pos ⟨rfl, rfl⟩]
  · rw [wI_1, if_pos ⟨rfl, rfl⟩]
  · rw [wI_1, if_neg (by omega), wI_1, if_neg (by omega), wI_1, if_neg (by omega)]
/-- an act of the class's: noted, done, kept -/
theorem act_c {σ1 σ2 : GM} {A : AbS} {lt : Nat} {N' : NT} (h : CI σ1 A) (hd : notedC σ1 A lt) (hn : netAt σ2 8 N') (hw' : wf N') (hf : fr σ1 σ2 8 11) :
    ∃ σ3, f_X11_keepAct σ2 = some σ3 ∧ CI σ3 (A.act N') ∧ fr σ1 σ3 0 60 := by
  obtain ⟨⟨⟨-, hw⟩, ⟨-, hpw⟩, hk, ht, hfl⟩, -⟩ := h
  have hd2 := hd.keep hf (by omega)
  obtain ⟨σ3, r1, r2, r3⟩ := keepNoted_at hd2.1 hd2.2
  obtain ⟨σ4, m1, m2, m3, m4⟩ := marked_at σ3
  refine ⟨σ4, ?_, ⟨⟨⟨(hn.keep r3 (by omega)).keep m3 (by omega), hw'⟩, ⟨⟨_, r2.keep m3 (by omega)⟩, fun k hk2 => ?_⟩, ((hk.keep hf (by omega)).keep r3 (by omega)).keep m3 (by omega), ((ht.keep hf (by omega)).keep r3 (by omega)).keep m3 (by omega), ?_⟩, m2 _⟩, ((hf.wide (by omega) (by omega)).trans (r3.wide (by omega) (by omega))).trans (m3.wide (by omega) (by omega))⟩
  · unfold f_X11_keepAct
    rw [r1, ob_s, m1, ob_s]
  · show wf (if k = 0 then A.N else A.P (k - 1))
    have hk2 : k < min (A.L + 1) 8 := hk2
    split
    · exact hw
    · exact hpw (k - 1) (by omega)
  · rw [m4, (r3 0 (by omega)).1, (hf 0 (by omega)).1]
    exact hfl
/-- words of the reference's that no act changes -/
def keepC (σ σ' : GM) : Prop := (∀ m, m = 61 ∨ m = 64 ∨ m = 69 → σ'.1 m = σ.1 m) ∧ (∀ i, i = 2 ∨ i = 8 → σ'.1 60 i = σ.1 60 i) ∧ σ'.1 71 0 = σ.1 71 0
theorem keepC.tr {a b c : GM} (h : keepC a b) (g : keepC b c) : keepC a c := ⟨fun m hm => (g.1 m hm).trans (h.1 m hm), fun i hi => (g.2.1 i hi).trans (h.2.1 i hi), g.2.2.trans h.2.2⟩
theorem keepC.m {σ σ' : GM} (h : keepM σ σ') : keepC σ σ' := ⟨fun m hm => h.1 m (by omega), fun i hi => h.2.1 i (by omega), h.2.2⟩
theorem keepC.s {σ σ' : GM} (h : keepS σ σ') : keepC σ σ' := ⟨fun m hm => (h.1 m (by omega) (by omega)).1, fun i hi => h.2.1 i (by omega), by rw [(h.1 71 (by omega) (by omega)).1]⟩
theorem keepC.y {σ σ' : GM} (h : keepY σ σ') : keepC σ σ' := ⟨fun m hm => (h.1 m (by omega) (by omega) (by omega) (by omega)).1, fun i hi => h.2.1 i (by omega), by rw [(h.1 71 (by omega) (by omega) (by omega) (by omega)).1]⟩
theorem keepC.f {σ σ' : GM} {a : Nat} (h : fr σ σ' a (a + 1)) (ha : a = 62 ∨ a = 66) : keepC σ σ' := ⟨fun m hm => (h m (by omega)).1, fun i hi => by rw [(h 60 (by omega)).1], by rw [(h 71 (by omega)).1]⟩
theorem MI.act {σ σ2 : GM} {A : AbS} {N' : NT} (h : MI σ A) (hp : pastR σ2 (min (A.L + 1) 8) (fun k => if k = 0 then A.N else A.P (k - 1))) (hr : rfAt σ2 62 0 N') (hk : keepC σ σ2) : MI σ2 (A.act N') := by
  obtain ⟨h1, h2, h3, h4, h5, h6⟩ := h
  refine ⟨hr, hp, fun k hl => ?_, ⟨?_, fun i hi => ?_⟩, ?_, ?_⟩
  · rw [hk.1 69 (by omega)]
    exact ⟨(h3 k hl).1, fun e => ((h3 k hl).2 e).co (hk.1 64 (by omega))⟩
  · rw [hk.2.1 2 (by omega)]; exact h4.1
  · rw [hk.1 61 (by omega)]; exact h4.2 i hi
  · rw [hk.2.1 8 (by omega)]; exact h5
  · rw [hk.2.2]; exact h6
theorem keepS.fr {σ σ' : GM} (h : keepS σ σ') : fr σ σ' 60 75 := fun m hm => h.1 m (by omega) (by omega)
theorem keepY.fr {σ σ' : GM} (h : keepY σ σ') : fr σ σ' 60 75 := fun m hm => h.1 m (by omega) (by omega) (by omega) (by omega)
/-- snapped, then done -/
theorem snap_r {σ : GM} {A : AbS} (h : MI σ A) (hw : wf A.N) : ∃ σ1, f_X12_snap σ = some σ1 ∧ rfAt σ1 62 0 A.N ∧ fr σ σ1 60 75 ∧ ∀ σ2 N', fr σ1 σ2 62 63 → rfAt σ2 62 0 N' → MI σ2 (A.act N') := by
  obtain ⟨σ1, r1, r2, r3⟩ := snap_at h.2.1 h.1 hw.1
  refine ⟨σ1, r1, h.1.co (r3.1 62 (by omega) (by omega)).1, r3.fr, fun σ2 N' hf hr => h.act (r2.keep hf (by omega)) hr ((keepC.s r3).tr (keepC.f hf (Or.inl rfl)))⟩
theorem setL_ab {N : NT} {a b m : Nat} : (N.setL a b m).bt a b = m := by
  show setB N.bt a b m a b = m
  unfold setB
  rw [if_pos (Or.inl ⟨rfl, rfl⟩)]
theorem drop_ag {σ : GM} {A : AbS} (hC : CI σ A) (hM : MI σ A) (v : Int32) : ∃ A', agI σ A' (fun σ => f_X11_drop σ v) (fun σ => f_X12_drop σ v) := by
  obtain ⟨⟨⟨hn, hw⟩, -⟩, -⟩ := id hC
  have hh := hw.h4096
  obtain ⟨σ1, lt, n1, n2, n3, n4⟩ := note_c hC
  have hn1 := n2.1.1.1
  cases e : inT A.N.here v with
  | false =>
    refine ⟨A, agI_q hM ⟨σ1, -1, ?_, n2, n4.wide (by omega) (by omega), fun τ hτ => ⟨wI τ 60 0 0, ?_, hτ.th, fr_th⟩⟩⟩
    · show f_X11_drop σ v = _
      unfold f_X11_drop
      rw [n1, ob_s, remove_no hn1.2.1 hh e, ob2_s, if_pos rfl]
    · show f_X12_drop τ v = _
      unfold f_X12_drop
      rw [nm_v, isThere_rf (hτ.th (v := 0)).1.2.1 hh, ob_s, bz_y e]
  | true =>
    obtain ⟨p, hp, rfl, hpt⟩ := inT_true e
    obtain ⟨σ2, r1, r2, r3⟩ := remove_at hn1 hw hp hpt
    have hw' := rem_wf hw hp
    obtain ⟨σ3, k1, k2, k3⟩ := act_c n2 n3 r2 hw' r3
    refine ⟨A.act (A.N.rem p), agI_q hM ⟨σ3, nI (pc (A.N.rem p).here 12), ?_, k2, (n4.wide (by omega) (by omega)).trans k3, fun τ hτ => ?_⟩⟩
    · show f_X11_drop σ (nI p) = _
      unfold f_X11_drop
      rw [n1, ob_s, r1, ob2_s, if_neg (by decide), k1, ob_s, k2.1.1.1.2.1]
      show ob (f_J6_bitCount_0f7a4 σ3 (nI (A.N.rem p).here)) _ = _
      rw [bitCount_at hw'.h4096, ob_s]
    · have hM1 := hτ.th (v := 0)
      obtain ⟨τ1, s1, s2, s3, s4⟩ := snap_r hM1 hw
      obtain ⟨τ2, t1, t2, t3⟩ := leaves_at s2 hw hp
      refine ⟨τ2, ?_, s4 τ2 _ t3 t2, (fr_th.trans s3).trans (t3.wide (by omega) (by omega))⟩
      show f_X12_drop τ (nI p) = _
      unfold f_X12_drop
      rw [nm_v, isThere_rf hM1.1.2.1 hh, ob_s, bz_n e, s1, ob_s, t1, ob_s, there_at t2.2.1, ob_s, bits_at hw'.h4096, ob_s]
theorem mayJoin_at {σ : GM} {N : NT} (hr : rfAt σ 62 0 N) (hw : wf N) {a b : Nat} (ha : a < 12) (hb : b < 12) : f_X12_mayJoin σ (nI a) (nI b) = some (nI (bI (canJ N a b))) := by
  have h1 := hw.2.2.2.2.2.2.1
  have h2 := hw.2.2.2.2.2.2.2 a ha
  have h3 := hw.2.2.2.2.2.2.2 b hb
  have key : ∀ c : Nat, c ≤ 2 → c = (if a = b then 2 else 1) → lcB N.bt < 20 → f_X12_mayJoin_L33 σ (nI a) (nI b) (nI (dgB N.bt a)) (nI c) = some (nI (bI (canJ N a b))) := by
    intro c hc he hl
    have hcj : canJ N a b = decide (dgB N.bt a + c ≤ 6 ∧ dgB N.bt b + c ≤ 6) := by
      unfold canJ
      rw [← he]
      by_cases q : dgB N.bt a + c ≤ 6 ∧ dgB N.bt b + c ≤ 6
      · rw [decide_eq_true q, decide_eq_true ⟨hl, q⟩]
      · rw [decide_eq_false q, decide_eq_false (fun z => q z.2)]
    have k57 : f_X12_mayJoin_L57 σ (nI (dgB N.bt b)) (nI c) = some (nI (bI (decide (dgB N.bt b + c ≤ 6)))) := by
      unfold f_X12_mayJoin_L57
      rw [nI_add, i6]
      by_cases q : dgB N.bt b + c ≤ 6
      · rw [lt_n q (by omega), decide_eq_true q]; rfl
      · rw [lt_y (by omega) (by omega), decide_eq_false q]; rfl
    rw [hcj]
    unfold f_X12_mayJoin_L33
    rw [nI_add, i6]
    by_cases q : dgB N.bt a + c ≤ 6
    · rw [lt_n q (by omega), allEnds_at hr.rb hb, ob_s]
      by_cases e : a = b
      · rw [if_pos e] at he
        rw [eq_y e, i2, ← he, k57, bI_eq (a := decide (dgB N.bt b + c ≤ 6)) (b := decide (dgB N.bt a + c ≤ 6 ∧ dgB N.bt b + c ≤ 6))]
        rw [decide_eq_true_iff, decide_eq_true_iff]
        exact ⟨fun z => ⟨q, z⟩, fun z => z.2⟩
      · rw [if_neg e] at he
        rw [eq_n e (by omega) (by omega), i1, ← he, k57, bI_eq (a := decide (dgB N.bt b + c ≤ 6)) (b := decide (dgB N.bt a + c ≤ 6 ∧ dgB N.bt b + c ≤ 6))]
        rw [decide_eq_true_iff, decide_eq_true_iff]
        exact ⟨fun z => ⟨q, z⟩, fun z => z.2⟩
    · rw [lt_y (by omega) (by omega), decide_eq_false (fun z => q z.1)]; rfl
  unfold f_X12_mayJoin
  rw [show (4095 : Int32) = nI 4095 from rfl, lineMany_at hr.rb hw.b20 (by omega), ob_s, eS_all hw.2.2.2.2.1, i20]
  by_cases l : 20 ≤ lcB N.bt
  · have : canJ N a b = false := by
      unfold canJ
      rw [decide_eq_false (fun z => by omega)]
    rw [le_y l (by omega), this]; rfl
  · rw [le_n (by omega) (by omega), allEnds_at hr.rb ha, ob_s]
    by_cases e : a = b
    · rw [eq_y e]
      exact key 2 (by omega) (by rw [if_pos e]) (by omega)
    · rw [eq_n e (by omega) (by omega)]
      exact key 1 (by omega) (by rw [if_neg e]) (by omega)
theorem join_ag {σ : GM} {A : AbS} (hC : CI σ A) (hM : MI σ A) (u v : Int32) : ∃ A', agI σ A' (fun σ => f_X11_join σ u v) (fun σ => f_X12_join σ u v) := by
  obtain ⟨⟨⟨hn, hw⟩, -⟩, -⟩ := id hC
  have hh := hw.h4096
  cases e : inT A.N.here u with
  | false =>
    refine ⟨A, agI_q hM ⟨σ, -1, ?_, hC, fr.rf _ _ _, fun τ hτ => ⟨wI τ 60 0 0, ?_, hτ.th, fr_th⟩⟩⟩
    · show f_X11_join σ u v = _
      unfold f_X11_join
      rw [isThere_any hn.2.1 hh u, ob_s, bz_y e]
    · show f_X12_join τ u v = _
      unfold f_X12_join
      rw [nm_v, isThere_rf (hτ.th (v := 0)).1.2.1 hh u, ob_s, bz_y e]
  | true =>
    cases f : inT A.N.here v with
    | false =>
      refine ⟨A, agI_q hM ⟨σ, -1, ?_, hC, fr.rf _ _ _, fun τ hτ => ⟨wI τ 60 0 0, ?_, hτ.th, fr_th⟩⟩⟩
      · show f_X11_join σ u v = _
        unfold f_X11_join
        rw [isThere_any hn.2.1 hh u, ob_s, bz_n e, isThere_any hn.2.1 hh v, ob_s, bz_y f]
      · have m1 := (hτ.th (v := 0)).1
        show f_X12_join τ u v = _
        unfold f_X12_join
        rw [nm_v, isThere_rf m1.2.1 hh u, ob_s, bz_n e, isThere_rf m1.2.1 hh v, ob_s, bz_y f]
    | true =>
      obtain ⟨a, ha, rfl, hta⟩ := inT_true e
      obtain ⟨b, hb, rfl, htb⟩ := inT_true f
      obtain ⟨σ1, lt, n1, n2, n3, n4⟩ := note_c hC
      have hn1 := n2.1.1.1
      obtain ⟨j1, j2⟩ := addLine_at hn1 hw ha hb hta htb
      have hB := hw.b20 a b
      cases hc : canJ A.N a b with
      | false =>
        refine ⟨A, agI_q hM ⟨σ1, -2, ?_, n2, n4.wide (by omega) (by omega), fun τ hτ => ⟨wI τ 60 0 0, ?_, hτ.th, fr_th⟩⟩⟩
        · show f_X11_join σ (nI a) (nI b) = _
          unfold f_X11_join
          rw [isThere_any hn.2.1 hh (nI a), ob_s, bz_n e, isThere_any hn.2.1 hh (nI b), ob_s, bz_n f, n1, ob_s, j2 hc, ob2_s, if_pos rfl]
        · have m1 := (hτ.th (v := 0)).1
          show f_X12_join τ (nI a) (nI b) = _
          unfold f_X12_join
          rw [nm_v, isThere_rf m1.2.1 hh (nI a), ob_s, bz_n e, isThere_rf m1.2.1 hh (nI b), ob_s, bz_n f, mayJoin_at m1 hw ha hb, ob_s, bz_y hc]
      | true =>
        obtain ⟨σ2, r1, r2, r3⟩ := j1 hc
        have hw' := canJ_wf hw ha hb hta htb hc
        obtain ⟨σ3, k1, k2, k3⟩ := act_c n2 n3 r2 hw' r3
        refine ⟨A.act (A.N.setL a b (A.N.bt a b + 1)), agI_q hM ⟨σ3, nI (A.N.bt a b + 1), ?_, k2, (n4.wide (by omega) (by omega)).trans k3, fun τ hτ => ?_⟩⟩
        · show f_X11_join σ (nI a) (nI b) = _
          unfold f_X11_join
          rw [isThere_any hn.2.1 hh (nI a), ob_s, bz_n e, isThere_any hn.2.1 hh (nI b), ob_s, bz_n f, n1, ob_s, r1, ob2_s, if_neg (by decide), k1, ob_s, linesOf_at k2.1.1.1.2.2.2.2.2 ha hb, ob_s]
          show some (σ3, nI ((A.N.setL a b (A.N.bt a b + 1)).bt a b)) = _
          rw [setL_ab]
        · have hM1 := hτ.th (v := 0)
          obtain ⟨τ1, s1, s2, s3, s4⟩ := snap_r hM1 hw
          obtain ⟨τ2, t1, t2, t3⟩ := adds_at (m := A.N.bt a b + 1) (v := 1) s2 hw.2.2.2.2.1 ha hb hw.1 (by rw [i1, nI_add])
          refine ⟨τ2, ?_, s4 τ2 _ t3 t2, (fr_th.trans s3).trans (t3.wide (by omega) (by omega))⟩
          show f_X12_join τ (nI a) (nI b) = _
          unfold f_X12_join
          rw [nm_v, isThere_rf hM1.1.2.1 hh (nI a), ob_s, bz_n e, isThere_rf hM1.1.2.1 hh (nI b), ob_s, bz_n f, mayJoin_at hM1.1 hw ha hb, ob_s, bz_n hc, s1, ob_s, t1, ob_s, between_at t2.rb ha hb, ob_s, setL_ab]
theorem part_ag {σ : GM} {A : AbS} (hC : CI σ A) (hM : MI σ A) (u v : Int32) : ∃ A', agI σ A' (fun σ => f_X11_part σ u v) (fun σ => f_X12_part σ u v) := by
  obtain ⟨⟨⟨hn, hw⟩, -⟩, -⟩ := id hC
  have hh := hw.h4096
  obtain ⟨σ1, lt, n1, n2, n3, n4⟩ := note_c hC
  have hn1 := n2.1.1.1
  have no : f_X3_takeLine σ1 8 u v = some (σ1, 0) → (∀ τ, MI τ A → f_X12_part τ u v = some (wI τ 60 0 0, -1)) → ∃ A', agI σ A' (fun σ => f_X11_part σ u v) (fun σ => f_X12_part σ u v) := by
    intro h1 h2
    refine ⟨A, agI_q hM ⟨σ1, -1, ?_, n2, n4.wide (by omega) (by omega), fun τ hτ => ⟨wI τ 60 0 0, h2 τ hτ, hτ.th, fr_th⟩⟩⟩
    show f_X11_part σ u v = _
    unfold f_X11_part
    rw [n1, ob_s, h1, ob2_s, if_pos rfl]
  cases e : inT A.N.here u with
  | false =>
    refine no (takeLine_no hn1 hw (Or.inl e)) (fun τ hτ => ?_)
    unfold f_X12_part
    rw [nm_v, isThere_rf (hτ.th (v := 0)).1.2.1 hh u, ob_s, bz_y e]
  | true =>
    cases f : inT A.N.here v with
    | false =>
      refine no (takeLine_no hn1 hw (Or.inr f)) (fun τ hτ => ?_)
      have m1 := (hτ.th (v := 0)).1
      unfold f_X12_part
      rw [nm_v, isThere_rf m1.2.1 hh u, ob_s, bz_n e, isThere_rf m1.2.1 hh v, ob_s, bz_y f]
    | true =>
      obtain ⟨a, ha, rfl, hta⟩ := inT_true e
      obtain ⟨b, hb, rfl, htb⟩ := inT_true f
      have hB := hw.b20 a b
      by_cases h0 : A.N.bt a b = 0
      · refine no (takeLine_0 hn1 hw ha hb hta htb h0) (fun τ hτ => ?_)
        have m1 := (hτ.th (v := 0)).1
        unfold f_X12_part
        rw [nm_v, isThere_rf m1.2.1 hh (nI a), ob_s, bz_n e, isThere_rf m1.2.1 hh (nI b), ob_s, bz_n f, between_at m1.rb ha hb, ob_s, h0, if_pos (show nI 0 = 0 from rfl)]
      · obtain ⟨σ2, r1, r2, r3⟩ := takeLine_at hn1 hw ha hb hta htb h0
        have hw' := take_wf hw ha hb hta htb
        obtain ⟨σ3, k1, k2, k3⟩ := act_c n2 n3 r2 hw' r3
        refine ⟨A.act (A.N.setL a b (A.N.bt a b - 1)), agI_q hM ⟨σ3, nI (A.N.bt a b - 1), ?_, k2, (n4.wide (by omega) (by omega)).trans k3, fun τ hτ => ?_⟩⟩
        · show f_X11_part σ (nI a) (nI b) = _
          unfold f_X11_part
          rw [n1, ob_s, r1, ob2_s, if_neg (by decide), k1, ob_s, linesOf_at k2.1.1.1.2.2.2.2.2 ha hb, ob_s]
          show some (σ3, nI ((A.N.setL a b (A.N.bt a b - 1)).bt a b)) = _
          rw [setL_ab]
        · have hM1 := hτ.th (v := 0)
          obtain ⟨τ1, s1, s2, s3, s4⟩ := snap_r hM1 hw
          obtain ⟨τ2, t1, t2, t3⟩ := adds_at (m := A.N.bt a b - 1) (v := -1) s2 hw.2.2.2.2.1 ha hb hw.1 (by
            have h := pk_m1 (A.N.bt a b - 1)
            rw [show A.N.bt a b - 1 + 1 = A.N.bt a b by omega] at h
            exact h)
          refine ⟨τ2, ?_, s4 τ2 _ t3 t2, (fr_th.trans s3).trans (t3.wide (by omega) (by omega))⟩
          show f_X12_part τ (nI a) (nI b) = _
          unfold f_X12_part
          rw [nm_v, isThere_rf hM1.1.2.1 hh (nI a), ob_s, bz_n e, isThere_rf hM1.1.2.1 hh (nI b), ob_s, bz_n f, between_at hM1.1.rb ha hb, ob_s, if_neg (nI_ne0 (by omega) (by omega)), s1, ob_s, t1, ob_s, between_at t2.rb ha hb, ob_s, setL_ab]
theorem setW_rf {σ : GM} {N : NT} (h : rfAt σ 62 0 N) {p w : Nat} (hp : p < 12) (ht : N.told ≤ 12) : rfAt (wI σ 62 (3 + p) (nI w)) 62 0 (N.setW p w) := by
  obtain ⟨h1, h2, h3, h4, h5⟩ := h
  refine ⟨by rw [wI_1, if_neg (by omega)]; exact h1, by rw [wI_1, if_neg (by omega)]; exact h2, by rw [wI_1, if_neg (by omega)]; exact h3, fun i hi => ?_, fun i hi j hj => by rw [wI_1, if_neg (by omega)]; exact h5 i hi j hj⟩
  have hi : i < N.told := hi
  rw [wI_1]
  show _ = nI (if i = p then w else N.wt i)
  by_cases e : i = p
  · rw [if_pos (by omega), if_pos e]
  · rw [if_neg (by omega), if_neg e]; exact h4 i hi
theorem weigh_ag {σ : GM} {A : AbS} (hC : CI σ A) (hM : MI σ A) (u v : Int32) : ∃ A', agI σ A' (fun σ => f_X11_weigh σ u v) (fun σ => f_X12_weigh σ u v) := by
  obtain ⟨⟨⟨hn, hw⟩, -⟩, -⟩ := id hC
  have hh := hw.h4096
  cases e : inT A.N.here u with
  | false =>
    refine ⟨A, agI_q hM ⟨σ, -1, ?_, hC, fr.rf _ _ _, fun τ hτ => ⟨wI τ 60 0 0, ?_, hτ.th, fr_th⟩⟩⟩
    · show f_X11_weigh σ u v = _
      unfold f_X11_weigh
      rw [isThere_any hn.2.1 hh u, ob_s, bz_y e]
    · show f_X12_weigh τ u v = _
      unfold f_X12_weigh
      rw [nm_v, isThere_rf (hτ.th (v := 0)).1.2.1 hh u, ob_s, bz_y e]
  | true =>
    obtain ⟨p, hp, rfl, hpt⟩ := inT_true e
    have hpo := here_told hw hpt
    have hw9 := hw.2.2.2.1 p hpo
    have no : (v < 1 ∨ ¬ v ≤ 9) → ∃ A', agI σ A' (fun σ => f_X11_weigh σ (nI p) v) (fun σ => f_X12_weigh σ (nI p) v) := by
      intro c
      refine ⟨A, agI_q hM ⟨σ, -1, ?_, hC, fr.rf _ _ _, fun τ hτ => ⟨wI τ 60 0 0, ?_, hτ.th, fr_th⟩⟩⟩
      · show f_X11_weigh σ (nI p) v = _
        unfold f_X11_weigh
        rw [isThere_any hn.2.1 hh (nI p), ob_s, bz_n e]
        by_cases d : v < 1
        · rw [if_pos d]
        · rw [if_neg d, if_neg (c.resolve_left d)]
      · have hin : f_X12_isIn (wI τ 60 0 0) v 1 9 = some 0 := by
          rw [i1, i9]
          exact isIn_at (by omega) (by omega) (fun a b => by
            rcases c with c | c
            · exact Int32.not_le.mpr c a
            · exact c b)
        show f_X12_weigh τ (nI p) v = _
        unfold f_X12_weigh
        rw [nm_v, isThere_rf (hτ.th (v := 0)).1.2.1 hh (nI p), ob_s, bz_n e, hin, ob_s, if_pos rfl]
    by_cases c1 : v < 1
    · exact no (Or.inl c1)
    by_cases c2 : v ≤ 9
    · obtain ⟨w, hw10, rfl⟩ : ∃ w, w < 10 ∧ v = nI w := by
        rcases pk_ix v (n := 10) (by omega) with h | h | h
        · exact absurd (Int32.lt_of_lt_of_le h (by decide)) c1
        · have := Int32.le_trans h c2
          rw [i9, cle (by omega) (by omega)] at this
          omega
        · exact h
      have hw1 : 1 ≤ w := by
        rw [i1, clt (by omega) (by omega)] at c1
        omega
      have hin : ∀ τ, f_X12_isIn τ (nI w) 1 9 = some 1 := fun τ => isIn_y (a := 1) (b := 9) (by omega) hw1 (by omega)
      obtain ⟨σ1, lt, n1, n2, n3, n4⟩ := note_c hC
      have hn1 := n2.1.1.1
      by_cases d : A.N.wt p = w
      · subst d
        refine ⟨A, agI_q hM ⟨σ1, 1, ?_, n2, n4.wide (by omega) (by omega), fun τ hτ => ⟨wI τ 60 0 0, ?_, hτ.th, fr_th⟩⟩⟩
        · show f_X11_weigh σ (nI p) (nI (A.N.wt p)) = _
          unfold f_X11_weigh
          rw [isThere_any hn.2.1 hh (nI p), ob_s, bz_n e, if_neg c1, if_pos c2, n1, ob_s, changeWeight_same hn1 hw hp hpt, ob2_s, if_pos rfl]
        · have m1 := (hτ.th (v := 0)).1
          have h4 := m1.2.2.2.1 p hpo
          rw [Nat.zero_add] at h4
          show f_X12_weigh τ (nI p) (nI (A.N.wt p)) = _
          unfold f_X12_weigh
          rw [nm_v, isThere_rf m1.2.1 hh (nI p), ob_s, bz_n e, hin, ob_s, if_neg (by decide), i3, nI_add, nm_v, bnd_n (by omega) (by omega), nI_clamp (by omega), h4, if_pos rfl]
      · obtain ⟨σ2, r1, r2, r3⟩ := changeWeight_at hn1 hw hp (by omega) hpt d
        have hw' : wf (A.N.setW p w) := setW_wf hw hw1 (by omega)
        obtain ⟨σ3, k1, k2, k3⟩ := act_c n2 n3 r2 hw' r3
        refine ⟨A.act (A.N.setW p w), agI_q hM ⟨σ3, 0, ?_, k2, (n4.wide (by omega) (by omega)).trans k3, fun τ hτ => ?_⟩⟩
        · show f_X11_weigh σ (nI p) (nI w) = _
          unfold f_X11_weigh
          rw [isThere_any hn.2.1 hh (nI p), ob_s, bz_n e, if_neg c1, if_pos c2, n1, ob_s, r1, ob2_s, if_neg (by decide), k1, ob_s]
        · have hM1 := hτ.th (v := 0)
          have h4 := hM1.1.2.2.2.1 p hpo
          rw [Nat.zero_add] at h4
          obtain ⟨τ1, s1, s2, s3, s4⟩ := snap_r hM1 hw
          have hfw : fr τ1 (wI τ1 62 (3 + p) (nI w)) 62 63 := fr_wI (by omega) (by omega)
          refine ⟨wI τ1 62 (3 + p) (nI w), ?_, s4 _ _ hfw (setW_rf s2 hp hw.1), (fr_th.trans s3).trans (hfw.wide (by omega) (by omega))⟩
          show f_X12_weigh τ (nI p) (nI w) = _
          unfold f_X12_weigh
          rw [nm_v, isThere_rf hM1.1.2.1 hh (nI p), ob_s, bz_n e, hin, ob_s, if_neg (by decide), i3, nI_add, nm_v, bnd_n (by omega) (by omega), nI_clamp (by omega), h4, eq_n d (by omega) (by omega), s1, ob_s, bnd_n (by omega) (by omega), nm_v]
    · exact no (Or.inr c2)
