/-! WHAT CAN BE UNDONE, in the reference -/
def pastR (σ : GM) (L : Nat) (P : Nat → NT) : Prop := L ≤ 8 ∧ σ.1 60 19 = nI L ∧ ∀ k, k < L → (P k).told ≤ 12 ∧ rfAt σ 65 (159 * (L - 1 - k)) (P k)
def keepS (σ σ' : GM) : Prop := (∀ m, m ≠ 65 → m ≠ 60 → σ'.1 m = σ.1 m ∧ σ'.2 m = σ.2 m) ∧ (∀ i, i ≠ 19 → σ'.1 60 i = σ.1 60 i) ∧ σ'.2 60 = σ.2 60
theorem keepS.tr {a b c : GM} (h : keepS a b) (g : keepS b c) : keepS a c := ⟨fun m h1 h2 => ⟨(g.1 m h1 h2).1.trans (h.1 m h1 h2).1, (g.1 m h1 h2).2.trans (h.1 m h1 h2).2⟩, fun i hi => (g.2.1 i hi).trans (h.2.1 i hi), g.2.2.trans h.2.2⟩
theorem keepS.f65 {σ σ' : GM} (h : fr σ σ' 65 66) : keepS σ σ' := ⟨fun m h1 _ => h m (by omega), fun i _ => by rw [(h 60 (by omega)).1], (h 60 (by omega)).2⟩
theorem keepS.w {σ : GM} {v : Int32} : keepS σ (wI σ 60 19 v) := ⟨fun m _ h2 => wI_other m (by omega), fun i hi => by rw [wI_1, if_neg (by omega)], rfl⟩
theorem snap50_at {σ : GM} {L : Nat} {P : Nat → NT} {N : NT} (h1 : L ≤ 7) (h2 : σ.1 60 19 = nI L) (h3 : ∀ k, k < L → (P k).told ≤ 12 ∧ rfAt σ 65 (159 * (L - 1 - k)) (P k)) (hr : rfAt σ 62 0 N) (ht : N.told ≤ 12) :
    ∃ σ', f_X12_snap_L50 σ = some σ' ∧ pastR σ' (L + 1) (fun k => if k = 0 then N else P (k - 1)) ∧ keepS σ σ' := by
  obtain ⟨σ1, r1, r2, r3, r4⟩ := copy_at (σ := σ) (qa := 62) (qb := 65) (o := 0) (o' := 159 * L) (za := 159) (zb := 1272) (by decide) rfl rfl (by omega) (by omega) (by decide) (by decide)
  have e60 := (r4 60 (by omega)).1
  have hw : ∀ x, (wI σ1 60 19 (nI (L + 1))).1 65 x = σ1.1 65 x := fun x => by rw [wI_1, if_neg (by omega)]
  refine ⟨wI σ1 60 19 (nI (L + 1)), ?_, ⟨by omega, by rw [wI_1, if_pos ⟨rfl, rfl⟩], fun k hk => ?_⟩, (keepS.f65 r4).tr keepS.w⟩
  · unfold f_X12_snap_L50
    rw [h2, i159, pk_mul, i0, r1, ob_s, nm_v, e60, h2, i1, nI_add]
  · by_cases c : k = 0
    · subst c
      refine ⟨ht, hr.row ht (fun x hx => ?_)⟩
      rw [hw, show 159 * (L + 1 - 1 - 0) = 159 * L by omega, r2 x hx]
    · obtain ⟨g1, g2⟩ := h3 (k - 1) (by omega)
      show (if k = 0 then N else P (k - 1)).told ≤ 12 ∧ rfAt _ _ _ (if k = 0 then N else P (k - 1))
      rw [if_neg c]
      refine ⟨g1, g2.row g1 (fun x hx => ?_)⟩
      rw [hw, show L + 1 - 1 - k = L - 1 - (k - 1) by omega]
      exact r3 _ (Or.inl (by omega))
theorem snap_at {σ : GM} {L : Nat} {P : Nat → NT} {N : NT} (h : pastR σ L P) (hr : rfAt σ 62 0 N) (ht : N.told ≤ 12) :
    ∃ σ', f_X12_snap σ = some σ' ∧ pastR σ' (min (L + 1) 8) (fun k => if k = 0 then N else P (k - 1)) ∧ keepS σ σ' := by
  obtain ⟨h1, h2, h3⟩ := h
  unfold f_X12_snap
  by_cases c : L = 8
  · subst c
    rw [h2, if_pos (show nI 8 = 8 from rfl)]
    refine lq5 1113 (by omega) (fun k (a : GM) i => f_X12_snap_L11 k a i) (fun q a => (∀ x, x < q → a.1 65 x = σ.1 65 (x + 159)) ∧ (∀ x, q ≤ x → a.1 65 x = σ.1 65 x) ∧ fr σ a 65 66) (fun r => ∃ σ', r = some σ' ∧ pastR σ' (min (8 + 1) 8) (fun k => if k = 0 then N else P (k - 1)) ∧ keepS σ σ') σ ⟨fun x hx => absurd hx (by omega), fun x _ => rfl, fr.rf _ _ _⟩ ?_ ?_
    · intro k q a hq ⟨g1, g2, g3⟩
      refine Or.inl ⟨wI a 65 q (a.1 65 (q + 159)), ⟨fun x hx => ?_, fun x hx => ?_, g3.trans (fr_wI (by omega) (by omega))⟩, fun r hr2 => ?_⟩
      · rw [wI_1]
        by_cases e : x = q
        · rw [if_pos ⟨rfl, e⟩, e, g2 (q + 159) (by omega)]
        · rw [if_neg (by omega)]; exact g1 x (by omega)
      · rw [wI_1, if_neg (by omega)]; exact g2 x (by omega)
      · unfold f_X12_snap_L11
        rw [show (1113 : Int32) = nI 1113 from rfl, le_n hq (by omega), i159, nI_add, nm_v, bnd_n (by omega) (by omega), bnd_n (by omega) (by omega), nI_clamp (by omega), nI_clamp (by omega), nm_v, nm_v, i1, nI_add]
        exact hr2
    · intro k a ⟨g1, g2, g3⟩
      have ha : a.1 60 19 = nI 8 := by rw [(g3 60 (by omega)).1]; exact h2
      obtain ⟨σ', r1, r2, r3⟩ := snap50_at (σ := wI a 60 19 (nI 7)) (L := 7) (P := P) (N := N) (by omega) (by rw [wI_1, if_pos ⟨rfl, rfl⟩]) (fun k hk => by
        obtain ⟨f1, f2⟩ := h3 k (by omega)
        refine ⟨f1, f2.row f1 (fun x hx => ?_)⟩
        rw [wI_1, if_neg (by omega), g1 _ (by omega), show 159 * (7 - 1 - k) + x + 159 = 159 * (8 - 1 - k) + x by omega]) ((hr.keep g3 (by omega)).keep (fr_wI (a := 60) (b := 61) (by omega) (by omega)) (by omega)) ht
      refine ⟨σ', ?_, r2, ((keepS.f65 g3).tr keepS.w).tr r3⟩
      show f_X12_snap_L11 (k + 1) a (nI 1113) = _
      unfold f_X12_snap_L11 f_X12_snap_L40
      rw [show (1113 : Int32) = nI 1113 from rfl, le_y (Nat.le_refl 1113) (by omega), ha, i1, nI_sub (by omega), nm_v]
      exact r1
  · rw [h2, show (8 : Int32) = nI 8 from rfl, eq_n c (by omega) (by omega), Nat.min_eq_left (by omega)]
    exact snap50_at (by omega) h2 h3 hr ht
