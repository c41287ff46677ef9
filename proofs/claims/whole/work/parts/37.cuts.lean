/-! CUTS: the best of them -/
def cutV (B : Nat → Nat → Nat) (V X v : Nat) : Prop := subS v V ∧ v &&& X = 0 ∧ Free B (dif V v)
def bst (B : Nat → Nat → Nat) (V X : Nat) (m : Nat → Nat) (q : Nat) (r : Int32) (x : Nat) : Prop :=
  (r = -1 ∧ ∀ v, v < q → ¬ cutV B V X v) ∨ (∃ b, r = nI b ∧ x = m b ∧ b < q ∧ cutV B V X b ∧ ∀ v, v < q → cutV B V X v → m b ≤ m v ∧ (m v = m b → b ≤ v))
theorem bst_skip {B : Nat → Nat → Nat} {V X q x : Nat} {m : Nat → Nat} {r : Int32} (h : bst B V X m q r x) (hn : cutV B V X q → r ≠ -1 ∧ x ≤ m q) : bst B V X m (q + 1) r x := by
  rcases h with ⟨h1, h2⟩ | ⟨b, h1, h2, h3, h4, h5⟩
  · left
    refine ⟨h1, fun v hv => ?_⟩
    by_cases e : v = q
    · subst e; exact fun c => (hn c).1 h1
    · exact h2 v (by omega)
  · right
    refine ⟨b, h1, h2, by omega, h4, fun v hv hc => ?_⟩
    by_cases e : v = q
    · subst e
      have := (hn hc).2
      exact ⟨by omega, fun _ => by omega⟩
    · exact h5 v (by omega) hc
theorem m1_ne {b : Nat} (hb : b < 2 ^ 31) : (nI b : Int32) ≠ -1 := by
  rw [nI_m1]
  intro h
  have := congrArg (fun z : Int32 => z.toBitVec.toNat) h
  simp only [pk_tn (show b < 2 ^ 32 by omega), pk_tn (show 2 ^ 32 - 1 < 2 ^ 32 by decide)] at this
  omega
theorem bst_new {B : Nat → Nat → Nat} {V X q x : Nat} {m : Nat → Nat} {r : Int32} (hV : V < 4096) (h : bst B V X m q r x) (hc : cutV B V X q) (hn : r = -1 ∨ m q < x) : bst B V X m (q + 1) (nI q) (m q) := by
  right
  refine ⟨q, rfl, rfl, by omega, hc, fun v hv hcv => ?_⟩
  by_cases e : v = q
  · subst e; exact ⟨Nat.le_refl _, fun _ => Nat.le_refl _⟩
  · rcases h with ⟨h1, h2⟩ | ⟨b, h1, h2, h3, h4, h5⟩
    · exact absurd hcv (h2 v (by omega))
    · have h6 := h5 v (by omega) hcv
      rcases hn with hn | hn
      · rw [h1] at hn
        exact absurd hn (m1_ne (Nat.lt_trans (subS_lt h4.1 hV) (by decide)))
      · exact ⟨by omega, fun _ => by omega⟩
theorem bst_uni {B : Nat → Nat → Nat} {V X q x x' : Nat} {m : Nat → Nat} {r r' : Int32} (h : bst B V X m q r x) (h' : bst B V X m q r' x') : r = r' := by
  rcases h with ⟨h1, h2⟩ | ⟨b, h1, h2, h3, h4, h5⟩
  · rcases h' with ⟨g1, g2⟩ | ⟨c, g1, g2, g3, g4, g5⟩
    · rw [h1, g1]
    · exact absurd g4 (h2 c g3)
  · rcases h' with ⟨g1, g2⟩ | ⟨c, g1, g2, g3, g4, g5⟩
    · exact absurd h4 (g2 b h3)
    · have k1 := h5 c g3 g4
      have k2 := g5 b h3 h4
      have k3 := k1.2 (by omega)
      have k4 := k2.2 (by omega)
      rw [h1, g1, show b = c by omega]
theorem cut_dec {B : Nat → Nat → Nat} {V X v : Nat} (hv : v < 4096) : cutV B V X v ↔ (dif v V = 0 ∧ v &&& X = 0 ∧ fB B (dif V v) = true) := by
  unfold cutV
  rw [fB_t, sub_dif (b32 hv)]
  exact Iff.rfl
theorem fewestOf_at {σ : GM} {B : Nat → Nat → Nat} {h V X : Nat} (ht : frT σ B h) (hh : h < 4096) (hV : subS V h) (hX : X < 4096) : ∃ r x, f_X8_fewestOf σ (nI V) (nI X) = some r ∧ bst B V X (fun v => pc v 12) (V + 1) r x := by
  have hV4 := subS_lt hV hh
  unfold f_X8_fewestOf
  refine lq5 (V + 1) (by omega) (fun k (a : Int32 × Int32) i => f_X8_fewestOf_L9 σ (nI V) (nI X) k a.1 a.2 i) (fun q a => ∃ x, bst B V X (fun v => pc v 12) q a.1 x ∧ (a.1 = -1 → x = 13) ∧ a.2 = nI x ∧ x ≤ 13) (fun z => ∃ r x, z = some r ∧ bst B V X (fun v => pc v 12) (V + 1) r x) (-1, 13) ⟨13, Or.inl ⟨rfl, fun v hv => absurd hv (by omega)⟩, fun _ => rfl, rfl, Nat.le_refl _⟩ ?_ ?_
  · intro k q a hq ⟨x, g1, g2, g3, g4⟩
    have hq4 : q < 4096 := by omega
    have hpc := pc_le q 12
    have hdl := dif_lt (b := V) (n := 12) hq4
    have hal : q &&& X < 4096 := Nat.lt_of_le_of_lt Nat.and_le_left hq4
    have hfr := isFree_at (σ := σ) (B := B) (dif_lt (b := q) (n := 12) hV4) (ht _ (subS_tr (dif_sub hV4) hV))
    have skip : (cutV B V X q → a.1 ≠ -1 ∧ x ≤ pc q 12) → ∃ x, bst B V X (fun v => pc v 12) (q + 1) a.1 x ∧ (a.1 = -1 → x = 13) ∧ a.2 = nI x ∧ x ≤ 13 := fun hn => ⟨x, bst_skip g1 hn, g2, g3, g4⟩
    by_cases c1 : dif q V = 0
    · by_cases c2 : q &&& X = 0
      · by_cases c3 : x ≤ pc q 12
        · refine Or.inl ⟨a, skip (fun _ => ⟨fun e => by have := g2 e; omega, c3⟩), fun r hr => ?_⟩
          unfold f_X8_fewestOf_L9
          rw [lt_n (by omega) (by omega), nI_dif, c1, if_pos (show nI 0 = 0 from rfl), nI_land, c2, if_pos (show nI 0 = 0 from rfl), bitCount_at hq4, ob_s, g3, le_y c3 (by omega), nm_v, i1, nI_add, ← g3]
          exact hr
        · cases c4 : fB B (dif V q) with
          | false =>
            refine Or.inl ⟨a, skip (fun c => by have := ((cut_dec hq4).mp c).2.2; rw [c4] at this; cases this), fun r hr => ?_⟩
            unfold f_X8_fewestOf_L9
            rw [lt_n (by omega) (by omega), nI_dif, c1, if_pos (show nI 0 = 0 from rfl), nI_land, c2, if_pos (show nI 0 = 0 from rfl), bitCount_at hq4, ob_s, g3, le_n (by omega) (by omega), nI_dif, hfr, ob_s, bz_y c4, nm_v, i1, nI_add, ← g3]
            exact hr
          | true =>
            have hc : cutV B V X q := (cut_dec hq4).mpr ⟨c1, c2, c4⟩
            refine Or.inl ⟨(nI q, nI (pc q 12)), ⟨pc q 12, bst_new hV4 g1 hc (Or.inr (by omega)), fun e => absurd e (m1_ne (by omega)), rfl, by omega⟩, fun r hr => ?_⟩
            unfold f_X8_fewestOf_L9
            rw [lt_n (by omega) (by omega), nI_dif, c1, if_pos (show nI 0 = 0 from rfl), nI_land, c2, if_pos (show nI 0 = 0 from rfl), bitCount_at hq4, ob_s, g3, le_n (by omega) (by omega), nI_dif, hfr, ob_s, bz_n c4, ob_s, nm_v, i1, nI_add]
            exact hr
      · refine Or.inl ⟨a, skip (fun c => absurd c.2.1 c2), fun r hr => ?_⟩
        unfold f_X8_fewestOf_L9
        rw [lt_n (by omega) (by omega), nI_dif, c1, if_pos (show nI 0 = 0 from rfl), nI_land, i0, eq_n c2 (by omega) (by omega), nm_v, i1, nI_add]
        exact hr
    · refine Or.inl ⟨a, skip (fun c => absurd ((sub_dif (b32 hq4)).mpr c.1) c1), fun r hr => ?_⟩
      unfold f_X8_fewestOf_L9
      rw [lt_n (by omega) (by omega), nI_dif, i0, eq_n c1 (by omega) (by omega), nm_v, i1, nI_add]
      exact hr
  · intro k a ⟨x, g1, g2, g3, g4⟩
    refine ⟨a.1, x, ?_, g1⟩
    show f_X8_fewestOf_L9 σ (nI V) (nI X) (k + 1) a.1 a.2 (nI (V + 1)) = _
    unfold f_X8_fewestOf_L9
    rw [lt_y (by omega) (by omega)]
/-- the reference's measure -/
def msr (w : Nat → Nat) (t v : Nat) : Nat := if t = 0 then pc v 12 else wS w v
theorem wS_le {w : Nat → Nat} {s : Nat} (h : ∀ i, s.testBit i = true → w i ≤ 9) : wS w s ≤ 108 := sm_le (c := 9) 12 (fun i _ => by
  cases e : s.testBit i with
  | false => simp [bI]
  | true => rw [bI_t, Nat.one_mul]; exact h i e)
theorem bestCut_at {σ : GM} {N : NT} (hr : rfAt σ 62 0 N) (hw : wf N) {V X t : Nat} (hV : subS V N.here) (hX : X < 4096) (ht : t ≤ 1) : ∃ r x, f_X12_bestCut σ (nI V) (nI X) (nI t) = some r ∧ bst N.bt V X (msr N.wt t) (V + 1) r x := by
  have hV4 := subS_lt hV hw.h4096
  have hy := hw.2.2.2.2.1
  have hmle : ∀ v, subS v V → msr N.wt t v ≤ 108 := by
    intro v hv
    unfold msr
    split
    · have := pc_le v 12; omega
    · exact wS_le (fun i hi => (hw.2.2.2.1 i (here_told hw (hV i (hv i hi)))).2)
  unfold f_X12_bestCut
  refine lq5 (V + 1) (by omega) (fun k (a : Int32 × Int32) i => f_X12_bestCut_L9 σ (nI V) (nI X) (nI t) k a.1 a.2 i) (fun q a => ∃ x, bst N.bt V X (msr N.wt t) q a.1 x ∧ a.2 = nI x ∧ x ≤ 108) (fun z => ∃ r x, z = some r ∧ bst N.bt V X (msr N.wt t) (V + 1) r x) (-1, 0) ⟨0, Or.inl ⟨rfl, fun v hv => absurd hv (by omega)⟩, rfl, by omega⟩ ?_ ?_
  · intro k q a hq ⟨x, g1, g3, g4⟩
    have hq4 : q < 4096 := by omega
    have hdl := dif_lt (b := V) (n := 12) hq4
    have hal : q &&& X < 4096 := Nat.lt_of_le_of_lt Nat.and_le_left hq4
    have hcut := isCut_at hr.rb hw.b20 hy (u := q) hV4 (b := fB N.bt (dif V q)) fB_t
    have skip : (cutV N.bt V X q → a.1 ≠ -1 ∧ x ≤ msr N.wt t q) → ∃ x, bst N.bt V X (msr N.wt t) (q + 1) a.1 x ∧ a.2 = nI x ∧ x ≤ 108 := fun hn => ⟨x, bst_skip g1 hn, g3, g4⟩
    by_cases c1 : dif q V = 0
    · by_cases c2 : q &&& X = 0
      · have hqV := (sub_dif (b32 hq4)).mp c1
        have hms := hmle q hqV
        have hstep : ∀ k9 : Int32 → Int32 → Int32 → Option Int32, (k9 = fun v4' v5' v6' => f_X12_bestCut_L9 σ (nI V) (nI X) (nI t) k v4' v5' v6') → f_X12_bestCut_L9 σ (nI V) (nI X) (nI t) (k + 1) a.1 a.2 (nI q) = f_X12_bestCut_L52 σ k9 (nI V) (nI X) (nI t) a.1 a.2 (nI q) (nI (msr N.wt t q)) := by
          intro k9 hk9
          subst hk9
          conv => lhs; unfold f_X12_bestCut_L9
          rw [lt_n (by omega) (by omega), nI_dif, c1, if_pos (show nI 0 = 0 from rfl), nI_land, c2, if_pos (show nI 0 = 0 from rfl), i0]
          unfold msr
          by_cases e : t = 0
          · rw [eq_y e, if_pos e, bits_at hq4, ob_s]
          · rw [eq_n e (by omega) (by omega), if_neg e, weightOf_rf hr hw (sub_and.mpr (subS_tr hqV hV)), ob_s]
        by_cases c3 : a.1 ≠ -1 ∧ x ≤ msr N.wt t q
        · refine Or.inl ⟨a, skip (fun _ => c3), fun r hr => ?_⟩
          rw [hstep _ rfl]
          unfold f_X12_bestCut_L52
          rw [if_neg c3.1, g3, le_y c3.2 (by omega), nm_v, i1, nI_add, ← g3]
          exact hr
        · have hgo : ∀ k9 : Int32 → Int32 → Int32 → Option Int32, f_X12_bestCut_L52 σ k9 (nI V) (nI X) (nI t) a.1 a.2 (nI q) (nI (msr N.wt t q)) = f_X12_bestCut_L67 σ k9 (nI V) (nI X) (nI t) a.1 a.2 (nI q) (nI (msr N.wt t q)) := by
            intro k9
            unfold f_X12_bestCut_L52
            by_cases d : a.1 = -1
            · rw [if_pos d]
            · rw [if_neg d, g3, le_n (by rcases Nat.lt_or_ge (msr N.wt t q) x with z | z; exact z; exact absurd ⟨d, z⟩ c3) (by omega)]
          cases c4 : fB N.bt (dif V q) with
          | false =>
            refine Or.inl ⟨a, skip (fun c => by have := ((cut_dec hq4).mp c).2.2; rw [c4] at this; cases this), fun r hr => ?_⟩
            rw [hstep _ rfl, hgo]
            unfold f_X12_bestCut_L67
            rw [hcut, ob_s, bz_y c4, nm_v, i1, nI_add]
            exact hr
          | true =>
            have hc : cutV N.bt V X q := (cut_dec hq4).mpr ⟨c1, c2, c4⟩
            refine Or.inl ⟨(nI q, nI (msr N.wt t q)), ⟨msr N.wt t q, bst_new hV4 g1 hc ?_, rfl, hms⟩, fun r hr => ?_⟩
            · by_cases d : a.1 = -1
              · exact Or.inl d
              · right
                rcases Nat.lt_or_ge (msr N.wt t q) x with z | z
                · exact z
                · exact absurd ⟨d, z⟩ c3
            · rw [hstep _ rfl, hgo]
              unfold f_X12_bestCut_L67
              rw [hcut, ob_s, bz_n c4, nm_v, i1, nI_add]
              exact hr
      · refine Or.inl ⟨a, skip (fun c => absurd c.2.1 c2), fun r hr => ?_⟩
        unfold f_X12_bestCut_L9
        rw [lt_n (by omega) (by omega), nI_dif, c1, if_pos (show nI 0 = 0 from rfl), nI_land, i0, eq_n c2 (by omega) (by omega), nm_v, i1, nI_add]
        exact hr
    · refine Or.inl ⟨a, skip (fun c => absurd ((sub_dif (b32 hq4)).mpr c.1) c1), fun r hr => ?_⟩
      unfold f_X12_bestCut_L9
      rw [lt_n (by omega) (by omega), nI_dif, i0, eq_n c1 (by omega) (by omega), nm_v, i1, nI_add]
      exact hr
  · intro k a ⟨x, g1, g3, g4⟩
    refine ⟨a.1, x, ?_, g1⟩
    show f_X12_bestCut_L9 σ (nI V) (nI X) (nI t) (k + 1) a.1 a.2 (nI (V + 1)) = _
    unfold f_X12_bestCut_L9
    rw [lt_y (by omega) (by omega)]
