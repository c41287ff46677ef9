/-! ALL DEEDS THAT ARE DRAWN -/
def ddF (N : NT) (s : Int32) : Nat → (NT × Int32) × Nat
  | 0 => ((N, s), 0)
  | q + 1 => (fun x => (fun y => ((y.1.1, y.2), x.2 + bI y.1.2)) (deedF x.1.1 x.1.2)) (ddF N s q)
theorem ddF_s {N : NT} {s : Int32} {q : Nat} : ddF N s (q + 1) = (((deedF (ddF N s q).1.1 (ddF N s q).1.2).1.1, (deedF (ddF N s q).1.1 (ddF N s q).1.2).2), (ddF N s q).2 + bI (deedF (ddF N s q).1.1 (ddF N s q).1.2).1.2) := rfl
theorem ddF_le {N : NT} {s : Int32} : ∀ q, (ddF N s q).2 ≤ q := by
  intro q
  induction q with
  | zero => exact Nat.le_refl _
  | succ q ih =>
    rw [ddF_s]
    show (ddF N s q).2 + bI _ ≤ q + 1
    unfold bI
    split <;> omega
theorem ddF_no {N : NT} {s : Int32} : ∀ q, (ddF N s q).2 = 0 → (ddF N s q).1.1 = N := by
  intro q
  induction q with
  | zero => intro _; rfl
  | succ q ih =>
    intro h
    rw [ddF_s] at h ⊢
    have h : (ddF N s q).2 + bI (deedF (ddF N s q).1.1 (ddF N s q).1.2).1.2 = 0 := h
    have h1 := ih (by omega)
    cases e : (deedF (ddF N s q).1.1 (ddF N s q).1.2).1.2 with
    | true => rw [e] at h; simp [bI] at h
    | false =>
      have := deed_no e
      show (deedF (ddF N s q).1.1 (ddF N s q).1.2).1.1 = N
      rw [this, h1]
theorem frE.cut {σ σ' : GM} (h : frE σ σ') : ∃ τ, fr σ τ 48 49 ∧ fr τ σ' 8 11 := by
  refine ⟨(fun m i => if m = 48 then σ'.1 m i else σ.1 m i, fun m i => if m = 48 then σ'.2 m i else σ.2 m i), fun m hm => ⟨?_, ?_⟩, fun m hm => ⟨?_, ?_⟩⟩
  · funext i
    show (if m = 48 then σ'.1 m i else σ.1 m i) = _
    rw [if_neg (by omega)]
  · funext i
    show (if m = 48 then σ'.2 m i else σ.2 m i) = _
    rw [if_neg (by omega)]
  · funext i
    show _ = (if m = 48 then σ'.1 m i else σ.1 m i)
    by_cases e : m = 48
    · rw [if_pos e]
    · rw [if_neg e, (h m hm e).1]
  · funext i
    show _ = (if m = 48 then σ'.2 m i else σ.2 m i)
    by_cases e : m = 48
    · rw [if_pos e]
    · rw [if_neg e, (h m hm e).2]
theorem CI.k48 {σ τ : GM} {A : AbS} (h : CI σ A) (hf : fr σ τ 48 49) : CI τ A := ⟨h.1.keep hf (by omega), h.2.keep hf (by omega) (by omega)⟩
theorem CI.net {τ σ' : GM} {A : AbS} (h : CI τ A) (hf : fr τ σ' 8 11) (hn : netAt σ' 8 A.N) : CI σ' A := by
  obtain ⟨⟨⟨-, hw⟩, h3, h4, h5, h6⟩, hc⟩ := h
  exact ⟨⟨⟨hn, hw⟩, h3.keep hf (by omega), h4.keep hf (by omega), h5.keep hf (by omega), by rw [(hf 0 (by omega)).1]; exact h6⟩, hc.keep hf (by omega) (by omega)⟩
theorem pastR.ke {σ σ' : GM} {L : Nat} {P : Nat → NT} (h : pastR σ L P) (hk : keepE σ σ') : pastR σ' L P := by
  obtain ⟨h1, h2, h3⟩ := h
  exact ⟨h1, by rw [hk.2.1 19 (by omega)]; exact h2, fun k hl => ⟨(h3 k hl).1, (h3 k hl).2.co (hk.1 65 (by omega) (by omega)).1⟩⟩
theorem MI.ke {σ σ' : GM} {A : AbS} (h : MI σ A) (hk : keepE σ σ') (hr : rfAt σ' 62 0 A.N) : MI σ' A := by
  obtain ⟨h1, h2, h3, h4, h5, h6⟩ := h
  refine ⟨hr, h2.ke hk, fun k hl => ?_, ⟨?_, fun i hi => ?_⟩, ?_, ?_⟩
  · rw [(hk.1 69 (by omega) (by omega)).1]
    exact ⟨(h3 k hl).1, fun e => ((h3 k hl).2 e).co (hk.1 64 (by omega) (by omega)).1⟩
  · rw [hk.2.1 2 (by omega)]; exact h4.1
  · rw [(hk.1 61 (by omega) (by omega)).1]; exact h4.2 i hi
  · rw [hk.2.1 8 (by omega)]; exact h5
  · rw [(hk.1 71 (by omega) (by omega)).1]; exact h6
theorem drawnC_L {σ : GM} {N : NT} {s : Int32} (hn : netAt σ 8 N) (hw : wf N) (hs : σ.1 48 0 = s) {n : Nat} (hn60 : n ≤ 60) :
    ∃ σ', f_X11_drawn_L37 (nI n) 5000 σ (0 : Int32) (0 : Int32) = f_X11_drawn_L59 σ' (nI (ddF N s n).2) ∧ netAt σ' 8 (ddF N s n).1.1 ∧ wf (ddF N s n).1.1 ∧ frE σ σ' := by
  refine lq5 n (by omega) (fun k (a : GM × Int32) i => f_X11_drawn_L37 (nI n) k a.1 a.2 i) (fun q a => netAt a.1 8 (ddF N s q).1.1 ∧ wf (ddF N s q).1.1 ∧ a.1.1 48 0 = (ddF N s q).1.2 ∧ a.2 = nI (ddF N s q).2 ∧ frE σ a.1) (fun z => ∃ σ', z = f_X11_drawn_L59 σ' (nI (ddF N s n).2) ∧ netAt σ' 8 (ddF N s n).1.1 ∧ wf (ddF N s n).1.1 ∧ frE σ σ') (σ, 0) ⟨hn, hw, hs, rfl, frE.rf σ⟩ ?_ ?_
  · intro k q a hq ⟨g1, g2, g3, g4, g5⟩
    obtain ⟨σ', r1, r2, r3, r4, r5⟩ := deed_c g1 g2 g3
    refine Or.inl ⟨(σ', nI (ddF N s (q + 1)).2), ⟨r2, r3, r4, rfl, g5.tr r5⟩, fun z hz => ?_⟩
    have hle := ddF_le (N := N) (s := s) q
    show f_X11_drawn_L37 (nI n) (k + 1) a.1 a.2 (nI q) = z
    have hz : f_X11_drawn_L37 (nI n) k σ' (nI ((ddF N s q).2 + bI (deedF (ddF N s q).1.1 (ddF N s q).1.2).1.2)) (nI (q + 1)) = z := hz
    unfold f_X11_drawn_L37
    rw [le_n hq (by omega), r1, ob2_s, g4]
    cases e : (deedF (ddF N s q).1.1 (ddF N s q).1.2).1.2 with
    | false =>
      rw [e] at hz
      rw [bz_y rfl, nm_v, i1, nI_add]
      exact hz
    | true =>
      rw [e] at hz
      rw [bz_n rfl, i1, nI_add, nI_add, nm_v, nm_v]
      exact hz
  · intro k a ⟨g1, g2, g3, g4, g5⟩
    refine ⟨a.1, ?_, g1, g2, g5⟩
    show f_X11_drawn_L37 (nI n) (k + 1) a.1 a.2 (nI n) = _
    unfold f_X11_drawn_L37
    rw [le_y (Nat.le_refl n) (by omega), g4]
theorem drawnR_L {σ : GM} {N : NT} {s : Int32} (hn : rfAt σ 62 0 N) (hw : ∀ q, wf (ddF N s q).1.1) (hs : σ.1 60 29 = s) {n : Nat} (hn60 : n ≤ 60) :
    ∃ σ', f_X12_drawn_L40 (nI n) 5000 σ (0 : Int32) (0 : Int32) = f_X12_drawn_L62 σ' (nI (ddF N s n).2) ∧ rfAt σ' 62 0 (ddF N s n).1.1 ∧ keepE σ σ' := by
  refine lq5 n (by omega) (fun k (a : GM × Int32) i => f_X12_drawn_L40 (nI n) k a.1 a.2 i) (fun q a => rfAt a.1 62 0 (ddF N s q).1.1 ∧ a.1.1 60 29 = (ddF N s q).1.2 ∧ a.2 = nI (ddF N s q).2 ∧ keepE σ a.1) (fun z => ∃ σ', z = f_X12_drawn_L62 σ' (nI (ddF N s n).2) ∧ rfAt σ' 62 0 (ddF N s n).1.1 ∧ keepE σ σ') (σ, 0) ⟨hn, hs, rfl, keepE.rf σ⟩ ?_ ?_
  · intro k q a hq ⟨g1, g3, g4, g5⟩
    obtain ⟨σ', r1, r2, r4, r5⟩ := deed_r g1 (hw q) g3
    refine Or.inl ⟨(σ', nI (ddF N s (q + 1)).2), ⟨r2, r4, rfl, g5.tr r5⟩, fun z hz => ?_⟩
    have hle := ddF_le (N := N) (s := s) q
    show f_X12_drawn_L40 (nI n) (k + 1) a.1 a.2 (nI q) = z
    have hz : f_X12_drawn_L40 (nI n) k σ' (nI ((ddF N s q).2 + bI (deedF (ddF N s q).1.1 (ddF N s q).1.2).1.2)) (nI (q + 1)) = z := hz
    unfold f_X12_drawn_L40
    rw [le_n hq (by omega), r1, ob2_s, g4]
    cases e : (deedF (ddF N s q).1.1 (ddF N s q).1.2).1.2 with
    | false =>
      rw [e] at hz
      rw [bz_y rfl, nm_v, i1, nI_add]
      exact hz
    | true =>
      rw [e] at hz
      rw [bz_n rfl, i1, nI_add, nI_add, nm_v, nm_v]
      exact hz
  · intro k a ⟨g1, g3, g4, g5⟩
    refine ⟨a.1, ?_, g1, g5⟩
    show f_X12_drawn_L40 (nI n) (k + 1) a.1 a.2 (nI n) = _
    unfold f_X12_drawn_L40
    rw [le_y (Nat.le_refl n) (by omega), g4]
theorem deed_wf {N : NT} {s : Int32} (hw : wf N) : wf (deedF N s).1.1 := by
  have ht := hw.1
  unfold deedF
  by_cases c0 : N.told = 0
  · rw [if_pos c0]; exact hw
  · have hp := dv_lt (rnd (rnd s)) (n := N.told) (by omega)
    have hq := dv_lt (rnd (rnd (rnd s))) (n := N.told) (by omega)
    have h9 := dv_lt (rnd (rnd (rnd s))) (n := 9) (by omega)
    rw [if_neg c0]
    by_cases c1 : dv (rnd s) 8 = 0
    · rw [if_pos c1]
      show wf (dRem N _).1
      unfold dRem
      split
      · exact rem_wf hw (by omega)
      · exact hw
    · rw [if_neg c1]
      by_cases c2 : dv (rnd s) 8 = 1
      · rw [if_pos c2]
        show wf (dWt N _ _).1
        unfold dWt
        split
        · exact setW_wf hw (by omega) (by omega)
        · exact hw
      · rw [if_neg c2]
        by_cases c3 : dv (rnd s) 8 = 2
        · rw [if_pos c3]
          show wf (dTk N _ _).1
          unfold dTk
          split
          · rename_i c; exact take_wf hw (by omega) (by omega) c.1 c.2.1
          · exact hw
        · rw [if_neg c3]
          show wf (dAd N _ _).1
          unfold dAd
          split
          · rename_i c; exact canJ_wf hw (by omega) (by omega) c.1 c.2.1 c.2.2
          · exact hw
theorem ddF_wf {N : NT} {s : Int32} (hw : wf N) : ∀ q, wf (ddF N s q).1.1 := by
  intro q
  induction q with
  | zero => exact hw
  | succ q ih => exact deed_wf ih
theorem drawn_ag {σ : GM} {A : AbS} (hC : CI σ A) (hM : MI σ A) (u v : Int32) : ∃ A', agI σ A' (fun σ => f_X11_drawn σ u v) (fun σ => f_X12_drawn σ u v) := by
  obtain ⟨⟨⟨hn, hw⟩, -⟩, -⟩ := id hC
  have no : (u < 1 ∨ ¬ u ≤ 60) → ∃ A', agI σ A' (fun σ => f_X11_drawn σ u v) (fun σ => f_X12_drawn σ u v) := by
    intro c
    refine ⟨A, agI_q hM ⟨σ, -1, ?_, hC, fr.rf _ _ _, fun τ hτ => ⟨wI τ 60 0 0, ?_, hτ.th, fr_th⟩⟩⟩
    · show f_X11_drawn σ u v = _
      unfold f_X11_drawn
      by_cases d : u < 1
      · rw [if_pos d]
      · rw [if_neg d, if_neg (c.resolve_left d)]
    · have hin : f_X12_isIn (wI τ 60 0 0) u 1 60 = some 0 := by
        rw [i1, show (60 : Int32) = nI 60 from rfl]
        exact isIn_at (by omega) (by omega) (fun a b => by
          rcases c with c | c
          · exact Int32.not_le.mpr c a
          · exact c b)
      show f_X12_drawn τ u v = _
      unfold f_X12_drawn
      rw [nm_v, hin, ob_s, if_pos rfl]
  by_cases c1 : u < 1
  · exact no (Or.inl c1)
  by_cases c2 : u ≤ 60
  · obtain ⟨n, hn61, rfl⟩ : ∃ n, n < 61 ∧ u = nI n := by
      rcases pk_ix u (n := 61) (by omega) with h | h | h
      · exact absurd (Int32.lt_of_lt_of_le h (by decide)) c1
      · have := Int32.le_trans h c2
        rw [show (60 : Int32) = nI 60 from rfl, cle (by omega) (by omega)] at this
        omega
      · exact h
    have hn1' : 1 ≤ n := by
      rw [i1, clt (by omega) (by omega)] at c1
      omega
    obtain ⟨σ1, lt, n1, n2, n3, n4⟩ := note_c hC
    have hle := ddF_le (N := A.N) (s := v) n
    obtain ⟨σ2, r1, r2, r3, r4⟩ := drawnC_L (n2.1.1.1.w48 (v := v)) hw w48 (n := n) (by omega)
    obtain ⟨ρ, f1, f2⟩ := (frE.w (σ := σ1) (v := v)).tr r4 |>.cut
    have hCρ := n2.k48 f1
    have hin : ∀ τ, f_X12_isIn τ (nI n) 1 60 = some 1 := fun τ => isIn_y (a := 1) (b := 60) (by omega) hn1' (by omega)
    have ref : ∀ τ, MI τ A → ∃ τ1 τ2, f_X12_drawn τ (nI n) v = f_X12_drawn_L62 τ2 (nI (ddF A.N v n).2) ∧ MI τ1 A ∧ rfAt τ1 66 0 A.N ∧ rfAt τ2 62 0 (ddF A.N v n).1.1 ∧ keepE τ1 τ2 ∧ fr τ τ1 60 75 := by
      intro τ hτ
      obtain ⟨τ1, b1, b2, b3, b4⟩ := before_r (hτ.th (v := 0)) hw
      obtain ⟨τ2, t1, t2, t3⟩ := drawnR_L (b2.1.w29 (v := v)) (ddF_wf hw) w29 (n := n) (by omega)
      refine ⟨τ1, τ2, ?_, b2, b3, t2, keepE.w.tr t3, fr_th.trans (b4.wide (by omega) (by omega))⟩
      unfold f_X12_drawn
      rw [nm_v, hin, ob_s, if_neg (by decide), b1, ob_s, nm_v]
      exact t1
    by_cases z : (ddF A.N v n).2 = 0
    · have hN := ddF_no n z
      rw [hN] at r2
      refine ⟨A, agI_q hM ⟨σ2, 0, ?_, hCρ.net f2 r2, (n4.wide (by omega) (by omega)).trans ((f1.wide (by omega) (by omega)).trans (f2.wide (by omega) (by omega))), fun τ hτ => ?_⟩⟩
      · show f_X11_drawn σ (nI n) v = _
        unfold f_X11_drawn
        rw [if_neg c1, if_pos c2, n1, ob_s, nm_v, r1, z]
        rfl
      · obtain ⟨τ1, τ2, t1, t2, t3, t4, t5, t6⟩ := ref τ hτ
        rw [hN] at t4
        refine ⟨τ2, ?_, t2.ke t5 t4, t6.trans t5.fr⟩
        show f_X12_drawn τ (nI n) v = _
        rw [t1, z]
        rfl
    · obtain ⟨σ3, k1, k2, k3⟩ := act_c hCρ (n3.keep f1 (by omega)) r2 r3 f2
      refine ⟨A.act (ddF A.N v n).1.1, agI_q hM ⟨σ3, nI (ddF A.N v n).2, ?_, k2, (n4.wide (by omega) (by omega)).trans ((f1.wide (by omega) (by omega)).trans k3), fun τ hτ => ?_⟩⟩
      · show f_X11_drawn σ (nI n) v = _
        unfold f_X11_drawn
        rw [if_neg c1, if_pos c2, n1, ob_s, nm_v, r1]
        unfold f_X11_drawn_L59
        rw [i0, le_n (by omega) (by omega), k1, ob_s]
      · obtain ⟨τ1, τ2, t1, t2, t3, t4, t5, t6⟩ := ref τ hτ
        obtain ⟨τ3, s1, s2, s3⟩ := stay_r t2 (t2.2.1.ke t5) hw r3 (t3.co (t5.1 66 (by omega) (by omega)).1) t4 t5.c
        refine ⟨τ3, ?_, s2, (t6.trans t5.fr).trans s3⟩
        show f_X12_drawn τ (nI n) v = _
        rw [t1]
        unfold f_X12_drawn_L62
        rw [i0, le_n (by omega) (by omega), s1, ob_s]
  · exact no (Or.inr c2)
