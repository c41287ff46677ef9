/-! THE RING WITH ONE BUSY POINT AT MOST -/
def bm (B : Nat → Nat → Nat) (S : Nat) : Nat := st (fun i => S.testBit i && decide (2 < dS B S i)) 12
theorem bm_lt {B : Nat → Nat → Nat} {S : Nat} : bm B S < 4096 := st_lt _ 12
theorem bm_t {B : Nat → Nat → Nat} {S i : Nat} : (bm B S).testBit i = true ↔ (i < 12 ∧ S.testBit i = true ∧ 2 < dS B S i) := by
  unfold bm
  rw [tb_st, Bool.and_eq_true, Bool.and_eq_true, decide_eq_true_iff, decide_eq_true_iff]
def thin (B : Nat → Nat → Nat) (S r : Nat) : Prop := pc (r &&& bm B S) 12 ≤ 1
def thn (P : Nat → Prop) (B : Nat → Nat → Nat) (S r : Nat) : Prop := (r = 0 ∧ ∀ x, P x → subS x S → ¬ thin B S x) ∨ (P r ∧ subS r S ∧ thin B S r ∧ ∀ x, P x → subS x S → thin B S x → r ≤ x)
theorem thn_uni {P : Nat → Prop} {B : Nat → Nat → Nat} {S r r' : Nat} (h : thn P B S r) (g : thn P B S r') : r = r' := by
  rcases h with ⟨a, b⟩ | ⟨a, b, c, d⟩
  · rcases g with ⟨a', b'⟩ | ⟨a', b', c', d'⟩
    · rw [a, a']
    · exact absurd c' (b r' a' b')
  · rcases g with ⟨a', b'⟩ | ⟨a', b', c', d'⟩
    · exact absurd c (b' r a b)
    · have h1 := d r' a' b' c'
      have h2 := d' r a b c
      omega
theorem thin_sub {B : Nat → Nat → Nat} {S r r' : Nat} (h : subS r r') (g : thin B S r') : thin B S r := by
  have := pc_sub (a := r &&& bm B S) (b := r' &&& bm B S) (fun i hi => tb_and.mpr ⟨h i (tb_and.mp hi).1, (tb_and.mp hi).2⟩)
  unfold thin at g ⊢
  omega
theorem thn_MR {N : NT} (hw : wf N) {S r : Nat} (h : thn (isM N.bt N.here) N.bt S r) : thn (isR N.bt) N.bt S r := by
  rcases h with ⟨a, b⟩ | ⟨a, b, c, d⟩
  · refine Or.inl ⟨a, fun x hx hs ht => ?_⟩
    obtain ⟨-, -, M, hM, hm⟩ := isR_sub hw hx
    exact b M hM (subS_tr hm hs) (thin_sub hm ht)
  · refine Or.inr ⟨isM_isR hw.2.2.2.2.1 hw.h4096 a, b, c, fun x hx hs ht => ?_⟩
    obtain ⟨-, -, M, hM, hm⟩ := isR_sub hw hx
    have h1 := d M hM (subS_tr hm hs) (thin_sub hm ht)
    have h2 := subS_le hm
    omega
theorem openMask {σ : GM} {N : NT} (hn : netAt σ 8 N) (hw : wf N) {S : Nat} (hS : S < 4096) (h57 : σ.1 57 3 = nI S) : f_X0_leastOpenRing σ = f_X0_leastOpenRing_L51 σ (nI (bm N.bt S)) := by
  have hP := hn.2.2.2.2.2
  unfold f_X0_leastOpenRing
  refine lq5 12 (by omega) (fun k (a : Int32) i => f_X0_leastOpenRing_L5 σ k a i) (fun q a => a = nI (st (fun i => S.testBit i && decide (2 < dS N.bt S i)) q)) (fun z => z = f_X0_leastOpenRing_L51 σ (nI (bm N.bt S))) (nI 0) rfl ?_ ?_
  · intro k q a hq ha
    subst ha
    have hd := dS_le hw.b20 S q
    refine Or.inl ⟨_, rfl, fun r hr => ?_⟩
    unfold f_X0_leastOpenRing_L5
    rw [i12, le_n hq (by omega), h57, holds_at hS hq, ob_s]
    cases c : S.testBit q with
    | false =>
      rw [st_n (by rw [c]; rfl)] at hr
      rw [bz_y rfl, nm_v, i1, nI_add]
      exact hr
    | true =>
      rw [bz_n rfl, endsIn_at hP hw.b20 hq hS, ob_s, i2]
      by_cases e : dS N.bt S q ≤ 2
      · rw [st_n (by rw [c, show decide (2 < dS N.bt S q) = false from decide_eq_false (by omega)]; rfl)] at hr
        rw [le_y e (by omega), nm_v, i1, nI_add]
        exact hr
      · rw [st_y (by rw [c, show decide (2 < dS N.bt S q) = true from decide_eq_true (by omega)]; rfl)] at hr
        rw [le_n (by omega) (by omega), nI_set hq, nm_v, nm_v, i1, nI_add]
        exact hr
  · intro k a ha
    subst ha
    show f_X0_leastOpenRing_L5 σ (k + 1) _ (nI 12) = _
    unfold f_X0_leastOpenRing_L5
    rw [i12, le_y (Nat.le_refl 12) (by omega)]
    rfl
theorem openRing_at {σ : GM} {N : NT} (hn : netAt σ 8 N) (hw : wf N) (hk : ringsOK σ N.bt N.here) {S : Nat} (hS : S < 4096) (h57 : σ.1 57 3 = nI S) : ∃ r, f_X0_leastOpenRing σ = some (nI r) ∧ thn (isR N.bt) N.bt S r := by
  obtain ⟨ht, L, f, s, h1, h2, h3, h4, h5, h6⟩ := hk
  have hh := hw.h4096
  rw [openMask hn hw hS h57]
  unfold f_X0_leastOpenRing_L51
  refine lq5 L (by omega) (fun k (a : Int32) i => f_X0_leastOpenRing_L57 σ (nI (bm N.bt S)) k a i) (fun q a => (a = nI 0 ∧ ∀ i, i < q → subS (f i) S → ¬ thin N.bt S (f i)) ∨ ∃ b j, a = nI b ∧ j < L ∧ f j = b ∧ subS b S ∧ thin N.bt S b ∧ ∀ i, i < q → subS (f i) S → thin N.bt S (f i) → b ≤ f i) (fun z => ∃ r, z = some (nI r) ∧ thn (isR N.bt) N.bt S r) (nI 0) (Or.inl ⟨rfl, fun i hi => absurd hi (by omega)⟩) ?_ ?_
  · intro k q a hq hI
    obtain ⟨hc, hM⟩ := h3 q hq
    have hf4 := subS_lt hM.1 hh
    have hf0 := isM_0 hM
    have hra := ringAt_at h1 h2 hq hc
    have hal : f q &&& bm N.bt S < 4096 := Nat.lt_of_le_of_lt Nat.and_le_left hf4
    have hpc := pc_le (f q &&& bm N.bt S) 12
    have hskip : ¬ (subS (f q) S ∧ thin N.bt S (f q)) → f_X0_leastOpenRing_L57 σ (nI (bm N.bt S)) (k + 1) a (nI q) = f_X0_leastOpenRing_L57 σ (nI (bm N.bt S)) k a (nI (q + 1)) := by
      intro hn2
      conv => lhs; unfold f_X0_leastOpenRing_L57 f_X0_leastOpenRing_L101 f_X0_leastOpenRing_L102
      rw [h1, le_n hq (by omega), hra, ob_s, h57, nI_dif]
      by_cases e : subS (f q) S
      · have h0 : dif (f q) S = 0 := (sub_dif (b32 hf4)).mpr e
        have hnt : 1 < pc (f q &&& bm N.bt S) 12 := by
          rcases Nat.lt_or_ge 1 (pc (f q &&& bm N.bt S) 12) with z | z
          · exact z
          · exact absurd ⟨e, z⟩ hn2
        rw [h0, if_pos (show nI 0 = 0 from rfl), nI_land, bitCount_at hal, ob_s, i1, lt_y hnt (by omega), if_pos rfl, nm_v, nI_add]
      · have h0 : dif (f q) S ≠ 0 := fun z => e ((sub_dif (b32 hf4)).mp z)
        have hdl := dif_lt (b := S) (n := 12) hf4
        rw [i0, eq_n h0 (by omega) (by omega), if_pos rfl, nm_v, i1, nI_add]
    have htake : subS (f q) S → thin N.bt S (f q) → f_X0_leastOpenRing_L57 σ (nI (bm N.bt S)) (k + 1) a (nI q) = if a = 0 then f_X0_leastOpenRing_L57 σ (nI (bm N.bt S)) k (nI (f q)) (nI (q + 1)) else if a ≤ nI (f q) then f_X0_leastOpenRing_L57 σ (nI (bm N.bt S)) k a (nI (q + 1)) else f_X0_leastOpenRing_L57 σ (nI (bm N.bt S)) k (nI (f q)) (nI (q + 1)) := by
      intro e hn2
      have h0 : dif (f q) S = 0 := (sub_dif (b32 hf4)).mpr e
      have hnt : pc (f q &&& bm N.bt S) 12 ≤ 1 := hn2
      conv => lhs; unfold f_X0_leastOpenRing_L57 f_X0_leastOpenRing_L102
      rw [h1, le_n hq (by omega), hra, ob_s, h57, nI_dif, h0, if_pos (show nI 0 = 0 from rfl), nI_land, bitCount_at hal, ob_s, i1, lt_n hnt (by omega), if_neg (by decide), nI_add]
      rfl
    by_cases e : subS (f q) S ∧ thin N.bt S (f q)
    · obtain ⟨e1, e2⟩ := e
      rcases hI with ⟨ha, hn2⟩ | ⟨b, j, ha, hjL, hfj, hb1, hb2, hb3⟩
      · subst ha
        refine Or.inl ⟨nI (f q), Or.inr ⟨f q, q, rfl, hq, rfl, e1, e2, fun i hi s1 s2 => ?_⟩, fun r hr => ?_⟩
        · by_cases g : i = q
          · subst g; exact Nat.le_refl _
          · exact absurd s2 (hn2 i (by omega) s1)
        · rw [htake e1 e2, if_pos (show nI 0 = 0 from rfl)]; exact hr
      · subst ha
        have hMb := (h3 j hjL).2
        rw [hfj] at hMb
        have hb4 := subS_lt hMb.1 hh
        have hb0 := isM_0 hMb
        by_cases c : b ≤ f q
        · refine Or.inl ⟨nI b, Or.inr ⟨b, j, rfl, hjL, hfj, hb1, hb2, fun i hi s1 s2 => ?_⟩, fun r hr => ?_⟩
          · by_cases g : i = q
            · subst g; exact c
            · exact hb3 i (by omega) s1 s2
          · rw [htake e1 e2, i0, eq_n hb0 (by omega) (by omega), le_y c (by omega)]; exact hr
        · refine Or.inl ⟨nI (f q), Or.inr ⟨f q, q, rfl, hq, rfl, e1, e2, fun i hi s1 s2 => ?_⟩, fun r hr => ?_⟩
          · by_cases g : i = q
            · subst g; exact Nat.le_refl _
            · have := hb3 i (by omega) s1 s2; omega
          · rw [htake e1 e2, i0, eq_n hb0 (by omega) (by omega), le_n (by omega) (by omega)]; exact hr
    · refine Or.inl ⟨a, ?_, fun r hr => by rw [hskip e]; exact hr⟩
      rcases hI with ⟨ha, hn2⟩ | ⟨b, j, ha, hjL, hfj, hb1, hb2, hb3⟩
      · refine Or.inl ⟨ha, fun i hi s1 s2 => ?_⟩
        by_cases g : i = q
        · subst g; exact e ⟨s1, s2⟩
        · exact hn2 i (by omega) s1 s2
      · refine Or.inr ⟨b, j, ha, hjL, hfj, hb1, hb2, fun i hi s1 s2 => ?_⟩
        by_cases g : i = q
        · subst g; exact absurd ⟨s1, s2⟩ e
        · exact hb3 i (by omega) s1 s2
  · intro k a hI
    have hend : f_X0_leastOpenRing_L57 σ (nI (bm N.bt S)) (k + 1) a (nI L) = some a := by
      unfold f_X0_leastOpenRing_L57
      rw [h1, le_y (Nat.le_refl L) (by omega)]
    show ∃ r, f_X0_leastOpenRing_L57 σ (nI (bm N.bt S)) (k + 1) a (nI L) = some (nI r) ∧ _
    rw [hend]
    rcases hI with ⟨ha, hn2⟩ | ⟨b, j, ha, hjL, hfj, hb1, hb2, hb3⟩
    · refine ⟨0, by rw [ha], thn_MR hw (Or.inl ⟨rfl, fun x hx hs ht2 => ?_⟩)⟩
      obtain ⟨i, i1, i2⟩ := h4 x hx
      exact hn2 i i1 (by rw [i2]; exact hs) (by rw [i2]; exact ht2)
    · refine ⟨b, by rw [ha], thn_MR hw (Or.inr ⟨?_, hb1, hb2, fun x hx hs ht2 => ?_⟩)⟩
      · have := (h3 j hjL).2; rwa [hfj] at this
      · obtain ⟨i, i1, i2⟩ := h4 x hx
        rw [← i2]
        exact hb3 i i1 (by rw [i2]; exact hs) (by rw [i2]; exact ht2)
