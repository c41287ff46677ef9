/-! UNDO, IMAGES, THE TAPE -/
theorem cPast.tail {L : Nat} {P : Nat → NT} (h : ∀ k, k < L + 1 → wf (P k)) : ∀ k, k < L → wf (P (k + 1)) := fun k hk => h (k + 1) (by omega)
theorem undo_ag {σ : GM} {A : AbS} (hC : CI σ A) (hM : MI σ A) : ∃ A', agI σ A' f_X11_undo f_X12_undo := by
  obtain ⟨⟨⟨hn, hw⟩, ⟨⟨lt, hp⟩, hpw⟩, hk, ht, hfl⟩, hc⟩ := id hC
  obtain ⟨N, ⟨L, P⟩, A2⟩ := A
  by_cases z : L = 0
  · subst z
    refine ⟨_, agI_q hM ⟨σ, -1, ?_, hC, fr.rf _ _ _, fun τ hτ => ⟨wI τ 60 0 0, ?_, hτ.th, fr_th⟩⟩⟩
    · unfold f_X11_undo
      rw [giveLatest_0 hp, ob2_s, if_pos rfl]
    · have hM1 := hτ.th (v := 0)
      have h19 : (wI τ 60 0 0).1 60 19 = nI 0 := hM1.2.1.2.1
      unfold f_X12_undo
      rw [nm_v, h19, if_pos (show nI 0 = 0 from rfl)]
  · obtain ⟨L, rfl⟩ : ∃ L', L = L' + 1 := ⟨L - 1, by omega⟩
    have hp0 : wf (P 0) := hpw 0 (by show 0 < L + 1; omega)
    have hL8 : L + 1 ≤ 8 := hp.1
    obtain ⟨σ1, r1, r2, r3, r4⟩ := giveLatest_s hp hp0.1
    obtain ⟨σ2, m1, m2, m3, m4⟩ := marked_at σ1
    have hf : fr σ σ2 0 60 := (r4.wide (by omega) (by omega)).trans (m3.wide (by omega) (by omega))
    have r3' := r3.keep m3 (by omega)
    refine ⟨(P 0, (L, fun k => P (k + 1)), A2), agI_q hM ⟨σ2, nI L, ?_, ⟨⟨⟨r2.keep m3 (by omega), hp0⟩, ⟨⟨_, r3'⟩, cPast.tail hpw⟩, (hk.keep r4 (by omega)).keep m3 (by omega), (ht.keep r4 (by omega)).keep m3 (by omega), ?_⟩, m2 _⟩, hf, fun τ hτ => ?_⟩⟩
    · unfold f_X11_undo
      rw [r1, ob2_s, if_neg (by decide), m1, ob_s, r3'.2.2.1]
    · rw [m4, (r4 0 (by omega)).1]
      exact hfl
    · have hM1 := hτ.th (v := 0)
      obtain ⟨g1, ⟨g2, g3, g4⟩, g5, g6, g7, g8⟩ := hM1
      have h19 : (wI τ 60 0 0).1 60 19 = nI (L + 1) := g3
      have hfw : fr (wI τ 60 0 0) (wI (wI τ 60 0 0) 60 19 (nI L)) 60 61 := fr_wI (by omega) (by omega)
      have h19' : (wI (wI τ 60 0 0) 60 19 (nI L)).1 60 19 = nI L := by rw [wI_1, if_pos ⟨rfl, rfl⟩]
      obtain ⟨τ1, a1, a2, a3, a4⟩ := copy_at (σ := wI (wI τ 60 0 0) 60 19 (nI L)) (qa := 65) (qb := 62) (o := 159 * L) (o' := 0) (za := 1272) (zb := 159) (by decide) rfl rfl (by omega) (by omega) (by decide) (by decide)
      have e60 := (a4 60 (by omega)).1
      have hP0 : rfAt (wI τ 60 0 0) 65 (159 * L) (P 0) := by
        have h := (g4 0 (by show 0 < L + 1; omega)).2
        exact h
      refine ⟨τ1, ?_, ⟨(hP0.keep hfw (by omega)).row hp0.1 a2, ⟨by show L ≤ 8; omega, ?_, fun k hk2 => ?_⟩, fun k hl => ?_, ⟨?_, fun i hi => ?_⟩, ?_, ?_⟩, fr_th.trans ((hfw.wide (by omega) (by omega)).trans (a4.wide (by omega) (by omega)))⟩
      · unfold f_X12_undo
        rw [nm_v, h19, if_neg (nI_ne0 (by omega) (by omega)), i1, nI_sub (by omega), nm_v, Nat.add_sub_cancel, h19', i159, pk_mul]
        rw [show f_X12_copy (wI (wI τ 60 0 0) 60 19 (nI L)) 65 62 (nI (159 * L)) 0 = some τ1 from a1, ob_s, e60, h19']
      · rw [e60]; exact h19'
      · have hk2 : k < L := hk2
        obtain ⟨q1, q2⟩ := g4 (k + 1) (by show k + 1 < L + 1; omega)
        have q2 : rfAt (wI τ 60 0 0) 65 (159 * (L + 1 - 1 - (k + 1))) (P (k + 1)) := q2
        refine ⟨q1, ?_⟩
        show rfAt τ1 65 (159 * (L - 1 - k)) (P (k + 1))
        rw [show L - 1 - k = L + 1 - 1 - (k + 1) by omega]
        exact (q2.keep hfw (by omega)).keep a4 (by omega)
      · rw [(a4 69 (by omega)).1, (hfw 69 (by omega)).1]
        exact ⟨(g5 k hl).1, fun e => (((g5 k hl).2 e).keep hfw (by omega)).keep a4 (by omega)⟩
      · rw [e60, wI_1, if_neg (by omega)]; exact g6.1
      · rw [(a4 61 (by omega)).1, (hfw 61 (by omega)).1]; exact g6.2 i hi
      · rw [e60, wI_1, if_neg (by omega)]; exact g7
      · rw [(a4 71 (by omega)).1, (hfw 71 (by omega)).1]; exact g8
theorem isIn01 {σ : GM} {v : Int32} (h0 : v ≠ 0) (h1 : v ≠ 1) : f_X12_isIn σ v 0 1 = some 0 := by
  rw [show (0 : Int32) = nI 0 from rfl, i1]
  refine isIn_at (by omega) (by omega) (fun a b => ?_)
  rcases pk_ix v (n := 2) (by omega) with h | h | ⟨j, hj, rfl⟩
  · exact Int32.not_le.mpr h a
  · have := Int32.le_trans h b
    rw [cle (by omega) (by omega)] at this
    omega
  · rcases (show j = 0 ∨ j = 1 by omega) with rfl | rfl
    · exact h0 rfl
    · exact h1 rfl
theorem keptAt_n {σ : GM} {j : Nat} (hj : j < 2) : f_X11_keptAt σ (nI j) = some (some (40 + 4 * j)) := by
  rcases (show j = 0 ∨ j = 1 by omega) with rfl | rfl <;> rfl
theorem sh_kept {j : Nat} (hj : j < 2) : sh (40 + 4 * j) = (2, 0) := by
  rcases (show j = 0 ∨ j = 1 by omega) with rfl | rfl <;> rfl
theorem isIn_n2 {σ : GM} {j : Nat} (hj : j < 2) : f_X12_isIn σ (nI j) 0 1 = some 1 := isIn_y (a := 0) (b := 1) (by omega) (by omega) (by omega)
theorem kept_no {σ : GM} {v : Int32} (h0 : v ≠ 0) (h1 : v ≠ 1) : f_X11_keptAt σ v = some none := by
  unfold f_X11_keptAt
  rw [if_neg h0, if_neg h1]
theorem or01 (v : Int32) : (v ≠ 0 ∧ v ≠ 1) ∨ ∃ j, j < 2 ∧ v = nI j := by
  by_cases h0 : v = 0
  · exact Or.inr ⟨0, by omega, h0⟩
  · by_cases h1 : v = 1
    · exact Or.inr ⟨1, by omega, h1⟩
    · exact Or.inl ⟨h0, h1⟩
theorem image_ag {σ : GM} {A : AbS} (hC : CI σ A) (hM : MI σ A) (v : Int32) : ∃ A', agI σ A' (fun σ => f_X11_image σ v) (fun σ => f_X12_image σ v) := by
  obtain ⟨⟨⟨hn, hw⟩, hp, hk, ht, hfl⟩, hc⟩ := id hC
  rcases or01 v with ⟨h0, h1⟩ | ⟨j, hj, rfl⟩
  · refine ⟨A, agI_q hM ⟨σ, 0, ?_, hC, fr.rf _ _ _, fun τ hτ => ⟨wI τ 60 0 0, ?_, hτ.th, fr_th⟩⟩⟩
    · show f_X11_image σ v = _
      unfold f_X11_image
      rw [kept_no h0 h1, ob_s]; rfl
    · show f_X12_image τ v = _
      unfold f_X12_image
      rw [nm_v, isIn01 h0 h1, ob_s, if_pos rfl]; rfl
  · obtain ⟨σ1, r1, r2, r3⟩ := copyFrom_at (n := 41 + 4 * j) hn hw.1 (by omega)
    have hfw : fr σ1 (wI σ1 (40 + 4 * j) 1 1) (40 + 4 * j) (41 + 4 * j) := fr_wI (by omega) (by omega)
    have hf : fr σ (wI σ1 (40 + 4 * j) 1 1) (40 + 4 * j) (44 + 4 * j) := (r3.wide (by omega) (by omega)).trans (hfw.wide (by omega) (by omega))
    refine ⟨(A.N, (A.L, A.P), (fun k => if k = j then (true, A.N) else A.K k), (A.t, A.b), A.fl), agI_q hM ⟨wI σ1 (40 + 4 * j) 1 1, 1, ?_, ⟨⟨⟨hn.keep hf (by omega), hw⟩, hp.keep hf (by omega), fun k hk2 => ?_, ht.keep hf (by omega), by rw [(hf 0 (by omega)).1]; exact hfl⟩, hc.keep hf (by omega) (by omega)⟩, hf.wide (by omega) (by omega), fun τ hτ => ?_⟩⟩
    · show f_X11_image σ (nI j) = _
      unfold f_X11_image
      rw [keptAt_n hj, ob_s, qm_y, chkS_y (sh_kept hj), show 40 + 4 * j + 1 = 41 + 4 * j by omega, r1, ob_s, nm_v]; rfl
    · show _ = nI (bI (if k = j then (true, A.N) else A.K k).1) ∧ ((if k = j then (true, A.N) else A.K k).1 = true → netAt _ _ (if k = j then (true, A.N) else A.K k).2 ∧ wf (if k = j then (true, A.N) else A.K k).2)
      by_cases e : k = j
      · subst e
        rw [if_pos rfl, wI_1, if_pos ⟨rfl, rfl⟩]
        exact ⟨rfl, fun _ => ⟨r2.keep hfw (by omega), hw⟩⟩
      · rw [if_neg e, (hf (40 + 4 * k) (by omega)).1]
        exact ⟨(hk k hk2).1, fun q => ⟨((hk k hk2).2 q).1.keep hf (by omega), ((hk k hk2).2 q).2⟩⟩
    · have hM1 := hτ.th (v := 0)
      obtain ⟨τ1, a1, a2, a3, a4⟩ := copy_at (σ := wI τ 60 0 0) (qa := 62) (qb := 64) (o := 0) (o' := 159 * j) (za := 159) (zb := 318) (by decide) rfl rfl (by omega) (by omega) (by decide) (by decide)
      have hfw2 : fr τ1 (wI τ1 69 j 1) 69 70 := fr_wI (by omega) (by omega)
      obtain ⟨g1, g2, g5, g6, g7, g8⟩ := hM1
      refine ⟨wI τ1 69 j 1, ?_, ⟨(g1.keep a4 (by omega)).keep hfw2 (by omega), (g2.keep a4 (by omega)).keep hfw2 (by omega), fun k hl => ?_, ⟨?_, fun i hi => ?_⟩, ?_, ?_⟩, fr_th.trans ((a4.wide (by omega) (by omega)).trans (hfw2.wide (by omega) (by omega)))⟩
      · show f_X12_image τ (nI j) = _
        unfold f_X12_image
        rw [nm_v, isIn_n2 hj, ob_s, if_neg (by decide), i159, pk_mul]
        rw [show f_X12_copy (wI τ 60 0 0) 62 64 0 (nI (159 * j)) = some τ1 from a1, ob_s, bnd_n hj (by omega), nI_clamp (by omega), nm_v]; rfl
      · show _ = nI (bI (if k = j then (true, A.N) else A.K k).1) ∧ ((if k = j then (true, A.N) else A.K k).1 = true → rfAt _ _ _ (if k = j then (true, A.N) else A.K k).2)
        by_cases e : k = j
        · subst e
          rw [if_pos rfl, wI_1, if_pos ⟨rfl, rfl⟩]
          exact ⟨rfl, fun _ => (g1.row hw.1 a2).keep hfw2 (by omega)⟩
        · rw [if_neg e, wI_1, if_neg (fun z => e z.2), (a4 69 (by omega)).1]
          refine ⟨(g5 k hl).1, fun q => ?_⟩
          have hr := (g5 k hl).2 q
          have hK := ((hk k hl).2 q).2.1
          refine (hr.row hK (fun x hx => ?_)).keep hfw2 (by omega)
          exact a3 (159 * k + x) (by omega)
      · rw [(hfw2 60 (by omega)).1, (a4 60 (by omega)).1]; exact g6.1
      · rw [(hfw2 61 (by omega)).1, (a4 61 (by omega)).1]; exact g6.2 i hi
      · rw [(hfw2 60 (by omega)).1, (a4 60 (by omega)).1]; exact g7
      · rw [(hfw2 71 (by omega)).1, (a4 71 (by omega)).1]; exact g8
theorem restore_ag {σ : GM} {A : AbS} (hC : CI σ A) (hM : MI σ A) (v : Int32) : ∃ A', agI σ A' (fun σ => f_X11_restore σ v) (fun σ => f_X12_restore σ v) := by
  obtain ⟨⟨⟨hn, hw⟩, ⟨⟨lt, hp⟩, hpw⟩, hk, ht, hfl⟩, hc⟩ := id hC
  rcases or01 v with ⟨h0, h1⟩ | ⟨j, hj, rfl⟩
  · refine ⟨A, agI_q hM ⟨σ, 0, ?_, hC, fr.rf _ _ _, fun τ hτ => ⟨wI τ 60 0 0, ?_, hτ.th, fr_th⟩⟩⟩
    · show f_X11_restore σ v = _
      unfold f_X11_restore
      rw [kept_no h0 h1, ob_s]; rfl
    · show f_X12_restore τ v = _
      unfold f_X12_restore
      rw [nm_v, isIn01 h0 h1, ob_s, if_pos rfl]; rfl
  · obtain ⟨k1, k2⟩ := hk j hj
    cases e : (A.K j).1 with
    | false =>
      rw [e] at k1
      refine ⟨A, agI_q hM ⟨σ, 0, ?_, hC, fr.rf _ _ _, fun τ hτ => ⟨wI τ 60 0 0, ?_, hτ.th, fr_th⟩⟩⟩
      · show f_X11_restore σ (nI j) = _
        unfold f_X11_restore
        rw [keptAt_n hj, ob_s, qm_y, chkS_y (sh_kept hj), k1, bz_y rfl]; rfl
      · have hM1 := hτ.th (v := 0)
        have g := (hM1.2.2.1 j hj).1
        rw [e] at g
        show f_X12_restore τ (nI j) = _
        unfold f_X12_restore
        rw [nm_v, isIn_n2 hj, ob_s, if_neg (by decide), bnd_n hj (by omega), nI_clamp (by omega), g, bz_y rfl]; rfl
    | true =>
      rw [e] at k1
      obtain ⟨c1, c2⟩ := k2 e
      obtain ⟨σ1, r1, r2, r3⟩ := copyFrom_at (n := 8) c1 c2.1 (by omega)
      obtain ⟨σ2, f1, f2, f3⟩ := forget_at (hp.keep r3 (by omega))
      obtain ⟨σ3, m1, m2, m3, m4⟩ := marked_at σ2
      have hf : fr σ σ3 0 60 := ((r3.wide (by omega) (by omega)).trans (f3.wide (by omega) (by omega))).trans (m3.wide (by omega) (by omega))
      refine ⟨((A.K j).2, (0, A.P), A.2.2), agI_q hM ⟨σ3, 1, ?_, ⟨⟨⟨(r2.keep f3 (by omega)).keep m3 (by omega), c2⟩, ⟨⟨lt, f2.keep m3 (by omega)⟩, fun k hk2 => absurd hk2 (by show ¬ k < 0; omega)⟩, ((hk.keep r3 (by omega)).keep f3 (by omega)).keep m3 (by omega), ((ht.keep r3 (by omega)).keep f3 (by omega)).keep m3 (by omega), ?_⟩, m2 _⟩, hf, fun τ hτ => ?_⟩⟩
      · show f_X11_restore σ (nI j) = _
        unfold f_X11_restore
        rw [keptAt_n hj, ob_s, qm_y, chkS_y (sh_kept hj), k1, if_neg (by decide), show 40 + 4 * j + 1 = 41 + 4 * j by omega, r1, ob_s, f1, ob_s, m1, ob_s]; rfl
      · rw [m4, (f3 0 (by omega)).1, (r3 0 (by omega)).1]
        exact hfl
      · have hM1 := hτ.th (v := 0)
        obtain ⟨g1, g2, g5, g6, g7, g8⟩ := hM1
        obtain ⟨q1, q2⟩ := g5 j hj
        rw [e] at q1
        obtain ⟨τ1, a1, a2, a3, a4⟩ := copy_at (σ := wI τ 60 0 0) (qa := 64) (qb := 62) (o := 159 * j) (o' := 0) (za := 318) (zb := 159) (by decide) rfl rfl (by omega) (by omega) (by decide) (by decide)
        have hfw : fr τ1 (wI τ1 60 19 0) 60 61 := fr_wI (by omega) (by omega)
        refine ⟨wI τ1 60 19 0, ?_, ⟨((q2 e).row c2.1 a2).keep hfw (by omega), ⟨Nat.zero_le _, by rw [wI_1, if_pos ⟨rfl, rfl⟩]; rfl, fun k hk2 => absurd hk2 (by show ¬ k < 0; omega)⟩, fun k hl => ?_, ⟨?_, fun i hi => ?_⟩, ?_, ?_⟩, fr_th.trans ((a4.wide (by omega) (by omega)).trans (hfw.wide (by omega) (by omega)))⟩
        · show f_X12_restore τ (nI j) = _
          unfold f_X12_restore
          rw [nm_v, isIn_n2 hj, ob_s, if_neg (by decide), bnd_n hj (by omega), nI_clamp (by omega), q1, if_neg (by decide), i159, pk_mul]
          rw [show f_X12_copy (wI τ 60 0 0) 64 62 (nI (159 * j)) 0 = some τ1 from a1, ob_s, nm_v]; rfl
        · rw [(hfw 69 (by omega)).1, (a4 69 (by omega)).1]
          exact ⟨(g5 k hl).1, fun q => (((g5 k hl).2 q).keep a4 (by omega)).keep hfw (by omega)⟩
        · rw [wI_1, if_neg (by omega), (a4 60 (by omega)).1]; exact g6.1
        · rw [(hfw 61 (by omega)).1, (a4 61 (by omega)).1]; exact g6.2 i hi
        · rw [wI_1, if_neg (by omega), (a4 60 (by omega)).1]; exact g7
        · rw [(hfw 71 (by omega)).1, (a4 71 (by omega)).1]; exact g8
/-! the tape -/
def bs (v : Int32) : Nat := (v &&& 255).toBitVec.toNat
theorem bs_at (v : Int32) : v &&& 255 = nI (bs v) ∧ bs v < 256 := by
  refine ⟨v_nI _, ?_⟩
  obtain ⟨j, h1, h2⟩ := pk_andE v (m := 255) 8 (by decide)
  unfold bs
  rw [h2, pk_tn (by omega)]
  omega
def apF (w : Int32) : Nat → Nat × (Nat → Nat) → Nat × (Nat → Nat)
  | 0, x => x
  | q + 1, x => apF w q (x.1 + 1, fun i => if i = x.1 then bs (jushr w (nI (8 * q))) else x.2 i)
theorem apF_t (w : Int32) : ∀ q x, (apF w q x).1 = x.1 + q := by
  intro q
  induction q with
  | zero => intro x; rfl
  | succ q ih =>
    intro x
    rw [apF, ih]
    show x.1 + 1 + q = x.1 + (q + 1)
    omega
theorem n8_0 : (nI (8 * 0) + (-8) : Int32) < 0 := by decide
theorem n8 (q : Nat) : nI (8 * (q + 1)) + (-8) = nI (8 * q) := by
  rw [← Int32.sub_eq_add_neg, show (8 : Int32) = nI 8 from rfl, nI_sub (by omega)]
  congr 1
theorem append_L (w : Int32) : ∀ (q k : Nat) (x : Nat × (Nat → Nat)) (σ : GM), q < k → x.1 + q ≤ 640 → cTape σ x.1 x.2 →
    ∃ σ', f_X10_append_L3 w k σ (nI (8 * q) + (-8)) = some σ' ∧ cTape σ' (apF w q x).1 (apF w q x).2 ∧ fr σ σ' 1 3 := by
  intro q
  induction q with
  | zero =>
    intro k x σ hk _ hT
    obtain ⟨k, rfl⟩ : ∃ k', k = k' + 1 := ⟨k - 1, by omega⟩
    refine ⟨σ, ?_, hT, fr.rf _ _ _⟩
    unfold f_X10_append_L3
    rw [if_pos n8_0]
  | succ q ih =>
    intro k x σ hk ht hT
    obtain ⟨k, rfl⟩ : ∃ k', k = k' + 1 := ⟨k - 1, by omega⟩
    obtain ⟨h1, h2, h3⟩ := hT
    obtain ⟨b1, b2⟩ := bs_at (jushr w (nI (8 * q)))
    have hT2 : cTape (wI (wI σ 2 x.1 (nI (bs (jushr w (nI (8 * q)))))) 1 1 (nI (x.1 + 1))) (x.1 + 1) (fun i => if i = x.1 then bs (jushr w (nI (8 * q))) else x.2 i) := by
      refine ⟨by rw [wI_1, if_pos ⟨rfl, rfl⟩], by omega, fun i hi => ?_⟩
      rw [wI_1, if_neg (by omega), wI_1]
      show _ = nI (if i = x.1 then bs (jushr w (nI (8 * q))) else x.2 i) ∧ (if i = x.1 then bs (jushr w (nI (8 * q))) else x.2 i) < 256
      by_cases e : i = x.1
      · rw [if_pos ⟨rfl, e⟩, if_pos e]
        exact ⟨rfl, b2⟩
      · rw [if_neg (fun z => e z.2), if_neg e]
        exact h3 i (by omega)
    obtain ⟨σ', r1, r2, r3⟩ := ih k (x.1 + 1, fun i => if i = x.1 then bs (jushr w (nI (8 * q))) else x.2 i) _ (by omega) (by show x.1 + 1 + q ≤ 640; omega) hT2
    refine ⟨σ', ?_, r2, ((fr_wI (by omega) (by omega)).trans (fr_wI (by omega) (by omega))).trans r3⟩
    have h1' : (wI σ 2 x.1 (nI (bs (jushr w (nI (8 * q)))))).1 1 1 = nI x.1 := by rw [wI_1, if_neg (by omega)]; exact h1
    have hx : x.1 < 2 ^ 31 := by omega
    rw [n8]
    unfold f_X10_append_L3
    by_cases hq : nI (8 * q) < 0
    · rw [i0, clt (by omega) (by omega)] at hq; omega
    · rw [if_neg hq, h1, if_neg (nI_pos hx), show (640 : Int32) = nI 640 from rfl, le_n (by omega) (by omega), bnd_n (by omega) (by omega), b1, nI_clamp (by omega), nm_v, h1', i1, nI_add, nm_v, nm_v]
      exact r1
def keepT (σ σ' : GM) : Prop := (∀ m, m ≠ 60 → m ≠ 61 → σ'.1 m = σ.1 m ∧ σ'.2 m = σ.2 m) ∧ (∀ i, i ≠ 2 → σ'.1 60 i = σ.1 60 i)
theorem keepT.rf (σ : GM) : keepT σ σ := ⟨fun _ _ _ => ⟨rfl, rfl⟩, fun _ _ => rfl⟩
theorem keepT.tr {a b c : GM} (h : keepT a b) (g : keepT b c) : keepT a c := ⟨fun m h1 h2 => ⟨(g.1 m h1 h2).1.trans (h.1 m h1 h2).1, (g.1 m h1 h2).2.trans (h.1 m h1 h2).2⟩, fun i hi => (g.2 i hi).trans (h.2 i hi)⟩
theorem keepT.fr {σ σ' : GM} (h : keepT σ σ') : fr σ σ' 60 75 := fun m hm => h.1 m (by omega) (by omega)
theorem keepT.w61 {σ : GM} {i : Nat} {v : Int32} : keepT σ (wI σ 61 i v) := ⟨fun m _ h => wI_other m h, fun i _ => by rw [wI_1, if_neg (by omega)]⟩
theorem keepT.w60 {σ : GM} {v : Int32} : keepT σ (wI σ 60 2 v) := ⟨fun m h _ => wI_other m h, fun i hi => by rw [wI_1, if_neg (by omega)]⟩
theorem lay_L (w : Int32) : ∀ (q k : Nat) (x : Nat × (Nat → Nat)) (σ : GM), q < k → x.1 + q ≤ 640 → rTape σ x.1 x.2 →
    ∃ σ', f_X12_lay_L3 w k σ (nI (8 * q) + (-8)) = some σ' ∧ rTape σ' (apF w q x).1 (apF w q x).2 ∧ keepT σ σ' := by
  intro q
  induction q with
  | zero =>
    intro k x σ hk _ hT
    obtain ⟨k, rfl⟩ : ∃ k', k = k' + 1 := ⟨k - 1, by omega⟩
    refine ⟨σ, ?_, hT, keepT.rf σ⟩
    unfold f_X12_lay_L3
    rw [if_pos n8_0]
  | succ q ih =>
    intro k x σ hk ht hT
    obtain ⟨k, rfl⟩ : ∃ k', k = k' + 1 := ⟨k - 1, by omega⟩
    obtain ⟨h1, h3⟩ := hT
    obtain ⟨b1, b2⟩ := bs_at (jushr w (nI (8 * q)))
    have hT2 : rTape (wI (wI σ 61 x.1 (nI (bs (jushr w (nI (8 * q)))))) 60 2 (nI (x.1 + 1))) (x.1 + 1) (fun i => if i = x.1 then bs (jushr w (nI (8 * q))) else x.2 i) := by
      refine ⟨by rw [wI_1, if_pos ⟨rfl, rfl⟩], fun i hi => ?_⟩
      rw [wI_1, if_neg (by omega), wI_1]
      show _ = nI (if i = x.1 then bs (jushr w (nI (8 * q))) else x.2 i)
      by_cases e : i = x.1
      · rw [if_pos ⟨rfl, e⟩, if_pos e]
      · rw [if_neg (fun z => e z.2), if_neg e]
        exact h3 i (by omega)
    obtain ⟨σ', r1, r2, r3⟩ := ih k (x.1 + 1, fun i => if i = x.1 then bs (jushr w (nI (8 * q))) else x.2 i) _ (by omega) (by show x.1 + 1 + q ≤ 640; omega) hT2
    refine ⟨σ', ?_, r2, (keepT.w61.tr keepT.w60).tr r3⟩
    have h1' : (wI σ 61 x.1 (nI (bs (jushr w (nI (8 * q)))))).1 60 2 = nI x.1 := by rw [wI_1, if_neg (by omega)]; exact h1
    rw [n8]
    unfold f_X12_lay_L3
    by_cases hq : nI (8 * q) < 0
    · rw [i0, clt (by omega) (by omega)] at hq; omega
    · rw [if_neg hq, h1, bnd_n (by omega) (by omega), b1, nI_clamp (by omega), nm_v, h1', i1, nI_add, nm_v, nm_v]
      exact r1
theorem append_at {w : Int32} {x : Nat × (Nat → Nat)} {σ : GM} (h : x.1 + 4 ≤ 640) (hT : cTape σ x.1 x.2) : ∃ σ', f_X10_append σ w = some σ' ∧ cTape σ' (apF w 4 x).1 (apF w 4 x).2 ∧ fr σ σ' 1 3 := append_L w 4 5000 x σ (by omega) h hT
theorem lay_at {w : Int32} {x : Nat × (Nat → Nat)} {σ : GM} (h : x.1 + 4 ≤ 640) (hT : rTape σ x.1 x.2) : ∃ σ', f_X12_lay σ w = some σ' ∧ rTape σ' (apF w 4 x).1 (apF w 4 x).2 ∧ keepT σ σ' := lay_L w 4 5000 x σ (by omega) h hT
theorem CI.tape {σ σ' : GM} {A : AbS} {t : Nat} {b : Nat → Nat} (h : CI σ A) (hf : fr σ σ' 1 3) (hT : cTape σ' t b) : CI σ' (A.N, (A.L, A.P), A.K, (t, b), A.fl) := by
  obtain ⟨⟨⟨hn, hw⟩, hp, hk, -, hfl⟩, hc⟩ := h
  exact ⟨⟨⟨hn.keep hf (by omega), hw⟩, hp.keep hf (by omega), hk.keep hf (by omega), hT, by rw [(hf 0 (by omega)).1]; exact hfl⟩, hc.keep hf (by omega) (by omega)⟩
theorem MI.tape {σ σ' : GM} {A : AbS} {t : Nat} {b : Nat → Nat} (h : MI σ A) (hk : keepT σ σ') (hT : rTape σ' t b) : MI σ' (A.N, (A.L, A.P), A.K, (t, b), A.fl) := by
  obtain ⟨h1, ⟨p1, p2, p3⟩, h3, h4, h5, h6⟩ := h
  refine ⟨h1.co (hk.1 62 (by omega) (by omega)).1, ⟨p1, by rw [hk.2 19 (by omega)]; exact p2, fun k hl => ⟨(p3 k hl).1, (p3 k hl).2.co (hk.1 65 (by omega) (by omega)).1⟩⟩, fun k hl => ?_, hT, by rw [hk.2 8 (by omega)]; exact h5, by rw [(hk.1 71 (by omega) (by omega)).1]; exact h6⟩
  rw [(hk.1 69 (by omega) (by omega)).1]
  exact ⟨(h3 k hl).1, fun e => ((h3 k hl).2 e).co (hk.1 64 (by omega) (by omega)).1⟩
theorem feed_ag {σ : GM} {A : AbS} (hC : CI σ A) (hM : MI σ A) (a b c d e : Int32) : ∃ A', agI σ A' (fun σ => f_X11_feed σ a b c d e) (fun σ => f_X12_feed σ a b c d e) := by
  have hT := hC.1.2.2.2.1
  by_cases h : A.t + 20 ≤ 640
  · have t1 : (apF a 4 (A.t, A.b)).1 = A.t + 4 := apF_t a 4 _
    have t2 : (apF b 4 (apF a 4 (A.t, A.b))).1 = A.t + 8 := by rw [apF_t, t1]
    have t3 : (apF c 4 (apF b 4 (apF a 4 (A.t, A.b)))).1 = A.t + 12 := by rw [apF_t, t2]
    have t4 : (apF d 4 (apF c 4 (apF b 4 (apF a 4 (A.t, A.b))))).1 = A.t + 16 := by rw [apF_t, t3]
    have t5 : (apF e 4 (apF d 4 (apF c 4 (apF b 4 (apF a 4 (A.t, A.b)))))).1 = A.t + 20 := by rw [apF_t, t4]
    obtain ⟨σ1, a1, a2, a3⟩ := append_at (w := a) (x := (A.t, A.b)) (by show A.t + 4 ≤ 640; omega) hT
    obtain ⟨σ2, b1, b2, b3⟩ := append_at (w := b) (x := apF a 4 (A.t, A.b)) (by omega) a2
    obtain ⟨σ3, c1, c2, c3⟩ := append_at (w := c) (x := apF b 4 (apF a 4 (A.t, A.b))) (by omega) b2
    obtain ⟨σ4, d1, d2, d3⟩ := append_at (w := d) (x := apF c 4 (apF b 4 (apF a 4 (A.t, A.b)))) (by omega) c2
    obtain ⟨σ5, e1, e2, e3⟩ := append_at (w := e) (x := apF d 4 (apF c 4 (apF b 4 (apF a 4 (A.t, A.b))))) (by omega) d2
    have hf : fr σ σ5 1 3 := (((a3.trans b3).trans c3).trans d3).trans e3
    refine ⟨_, agI_q hM ⟨σ5, nI (A.t + 20), ?_, hC.tape hf e2, hf.wide (by omega) (by omega), fun τ hτ => ?_⟩⟩
    · show f_X11_feed σ a b c d e = _
      unfold f_X11_feed f_X10_hasRoom
      rw [hT.1, show (620 : Int32) = nI 620 from rfl, lt_n (by omega) (by omega), ob_s, if_neg (by decide), a1, ob_s, b1, ob_s, c1, ob_s, d1, ob_s, e1, ob_s, e2.1, t5]
    · have hM1 := hτ.th (v := 0)
      obtain ⟨τ1, p1, p2, p3⟩ := lay_at (w := a) (x := (A.t, A.b)) (by show A.t + 4 ≤ 640; omega) hM1.2.2.2.1
      obtain ⟨τ2, q1, q2, q3⟩ := lay_at (w := b) (x := apF a 4 (A.t, A.b)) (by omega) p2
      obtain ⟨τ3, r1, r2, r3⟩ := lay_at (w := c) (x := apF b 4 (apF a 4 (A.t, A.b))) (by omega) q2
      obtain ⟨τ4, s1, s2, s3⟩ := lay_at (w := d) (x := apF c 4 (apF b 4 (apF a 4 (A.t, A.b)))) (by omega) r2
      obtain ⟨τ5, u1, u2, u3⟩ := lay_at (w := e) (x := apF d 4 (apF c 4 (apF b 4 (apF a 4 (A.t, A.b))))) (by omega) s2
      have hk : keepT (wI τ 60 0 0) τ5 := (((p3.tr q3).tr r3).tr s3).tr u3
      refine ⟨τ5, ?_, hM1.tape hk u2, fr_th.trans hk.fr⟩
      have h2 : (wI τ 60 0 0).1 60 2 = nI A.t := hM1.2.2.2.1.1
      show f_X12_feed τ a b c d e = _
      unfold f_X12_feed
      rw [nm_v, h2, i20, nI_add, show (640 : Int32) = nI 640 from rfl, le_y h (by omega), p1, ob_s, q1, ob_s, r1, ob_s, s1, ob_s, u1, ob_s, u2.1, t5]
  · have ht : A.t ≤ 640 := hT.2.1
    refine ⟨A, agI_q hM ⟨σ, -1, ?_, hC, fr.rf _ _ _, fun τ hτ => ⟨wI τ 60 0 0, ?_, hτ.th, fr_th⟩⟩⟩
    · show f_X11_feed σ a b c d e = _
      unfold f_X11_feed f_X10_hasRoom
      rw [hT.1, show (620 : Int32) = nI 620 from rfl, lt_y (by omega) (by omega), ob_s, if_pos (by decide)]
    · have hM1 := hτ.th (v := 0)
      have h2 : (wI τ 60 0 0).1 60 2 = nI A.t := hM1.2.2.2.1.1
      show f_X12_feed τ a b c d e = _
      unfold f_X12_feed
      rw [nm_v, h2, i20, nI_add, show (640 : Int32) = nI 640 from rfl, le_n (by omega) (by omega)]
theorem end_ag {σ : GM} {A : AbS} (hC : CI σ A) (hM : MI σ A) (v : Int32) : ∃ A', agI σ A' (fun σ => f_X11_end σ v) (fun σ => f_X12_end σ v) := by
  obtain ⟨h1, h2, h3⟩ := hC.1.2.2.2.1
  have no : (v < 0 ∨ ¬ v ≤ nI A.t) → ∃ A', agI σ A' (fun σ => f_X11_end σ v) (fun σ => f_X12_end σ v) := by
    intro c
    refine ⟨A, agI_q hM ⟨σ, 0, ?_, hC, fr.rf _ _ _, fun τ hτ => ⟨wI τ 60 0 0, ?_, hτ.th, fr_th⟩⟩⟩
    · show f_X11_end σ v = _
      unfold f_X11_end
      by_cases d : v < 0
      · rw [if_pos d]; rfl
      · rw [if_neg d, h1, if_neg (c.resolve_left d)]; rfl
    · have hM1 := hτ.th (v := 0)
      have h2 : (wI τ 60 0 0).1 60 2 = nI A.t := hM1.2.2.2.1.1
      show f_X12_end τ v = _
      unfold f_X12_end
      by_cases d : v < 0
      · rw [nm_v, if_pos d]; rfl
      · rw [nm_v, if_neg d, h2, if_neg (c.resolve_left d)]; rfl
  by_cases c1 : v < 0
  · exact no (Or.inl c1)
  by_cases c2 : v ≤ nI A.t
  · obtain ⟨j, hj, rfl⟩ : ∃ j, j < A.t + 1 ∧ v = nI j := by
      rcases pk_ix v (n := A.t + 1) (by omega) with h | h | h
      · exact absurd h c1
      · have := Int32.le_trans h c2
        rw [cle (by omega) (by omega)] at this
        omega
      · exact h
    have hf : fr σ (wI σ 1 1 (nI j)) 1 3 := fr_wI (by omega) (by omega)
    refine ⟨_, agI_q hM ⟨wI σ 1 1 (nI j), 1, ?_, hC.tape (t := j) (b := A.b) hf ⟨by rw [wI_1, if_pos ⟨rfl, rfl⟩], by omega, fun i hi => by rw [wI_1, if_neg (by omega)]; exact h3 i (by omega)⟩, hf.wide (by omega) (by omega), fun τ hτ => ?_⟩⟩
    · show f_X11_end σ (nI j) = _
      unfold f_X11_end
      rw [if_neg c1, h1, if_pos c2, nm_v]; rfl
    · have hM1 := hτ.th (v := 0)
      have h2' : (wI τ 60 0 0).1 60 2 = nI A.t := hM1.2.2.2.1.1
      have hk : keepT (wI τ 60 0 0) (wI (wI τ 60 0 0) 60 2 (nI j)) := keepT.w60
      refine ⟨wI (wI τ 60 0 0) 60 2 (nI j), ?_, hM1.tape hk ⟨by rw [wI_1, if_pos ⟨rfl, rfl⟩], fun i hi => by rw [wI_1, if_neg (by omega)]; exact hM1.2.2.2.1.2 i (by show i < A.t; omega)⟩, fr_th.trans hk.fr⟩
      show f_X12_end τ (nI j) = _
      unfold f_X12_end
      rw [nm_v, if_neg c1, h2', if_pos c2, nm_v]; rfl
  · exact no (Or.inr c2)
